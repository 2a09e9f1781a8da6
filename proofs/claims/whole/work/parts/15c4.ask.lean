/-! ===== the night to ask about next ===== -/
def cf (P : Nat → Bool) (k : Nat) : Nat → Nat → Nat
  | 0 => fun _ => 0
  | x + 1 => if P x then upN (cf P k x) (itr k x / 4) (cf P k x (itr k x / 4) + 1) else cf P k x
def mw (P : Nat → Bool) (k : Nat) : Nat → Nat
  | 0 => 0
  | x + 1 => if P x then (if mw P k x < cf P k x (itr k x / 4) + 1 then cf P k x (itr k x / 4) + 1 else mw P k x) else mw P k x
theorem cf_le (P : Nat → Bool) (k : Nat) : ∀ x c, cf P k x c ≤ x
  | 0, _ => Nat.le_refl 0
  | x + 1, c => by
    have h1 := cf_le P k x c
    have h2 := cf_le P k x (itr k x / 4)
    rw [cf]; split
    · unfold upN; split <;> omega
    · omega
theorem mw_le (P : Nat → Bool) (k : Nat) : ∀ x, mw P k x ≤ x
  | 0 => Nat.le_refl 0
  | x + 1 => by
    have h1 := mw_le P k x
    have h2 := cf_le P k x (itr k x / 4)
    rw [mw]; split
    · split <;> omega
    · omega
theorem mw_pos (P : Nat → Bool) (k : Nat) : ∀ x, 0 < cnt P x → 0 < mw P k x
  | 0, h => absurd h (Nat.lt_irrefl 0)
  | x + 1, h => by
    rw [mw]
    by_cases q : P x = true
    · rw [if_pos q]; split <;> omega
    · rw [if_neg q]
      rw [cnt_s, if_neg q] at h
      exact mw_pos P k x (by omega)
theorem mw_zero (P : Nat → Bool) (k : Nat) : ∀ x, cnt P x = 0 → mw P k x = 0
  | 0, _ => rfl
  | x + 1, h => by
    rw [cnt_s] at h
    by_cases q : P x = true
    · rw [if_pos q] at h; omega
    · rw [mw, if_neg q]
      exact mw_zero P k x (by omega)
section ASK8
variable {nf : Nat} {P : Nat → Bool}
theorem mo_25 {k : Nat} {st : Nat → Int32} (hS : ∀ s, s < 100 → P s = true → st (cnt P s) = nI (itr k s)) : ∀ (m x n : Nat) (ic : Nat → Int32), x + m = 100 → m < n → (∀ c, c < 25 → ic c = nI (cf P k x c)) → ∃ ic', g_X7_mostInOneCell_l25 nf n (nI (mw P k x)) (nI (cnt P x)) st ic (nI (cnt P 100)) = some (nI (mw P k 100), ic') := by
  have hF := cnt_le P 100
  intro m
  induction m with
  | zero =>
    intro x n ic hx hn hI
    obtain ⟨n, rfl⟩ := pred_ex hn
    obtain rfl : x = 100 := by omega
    exact ⟨ic, by rw [g_X7_mostInOneCell_l25, if_pos (nI_le (Nat.le_refl _) (by omega))]⟩
  | succ m ih =>
    intro x n ic hx hn hI
    by_cases q : P x = true
    · obtain ⟨n, rfl⟩ := pred_ex hn
      have hlt := cnt_lt P (show x < 100 by omega) q
      have hi : itr k x < 100 := itr_lt _ _ (by omega)
      have h1 := cf_le P k x (itr k x / 4)
      have h2 := mw_le P k x
      have es : nI (itr k x) / 4 = nI (itr k x / 4) := pk_div (d := 4) (by omega) (by decide) (by decide)
      have hc : itr k x / 4 < 25 := by omega
      rw [g_X7_mostInOneCell_l25, if_neg (nI_ge hlt (by omega)), ck_nI (show cnt P x < 100 by omega) (by decide), nI_clamp (by omega), hS x (by omega) q, es, ck_nI hc (by decide), ck_nI hc (by decide), ck_nI hc (by decide), nI_clamp (by omega), upd_eq, hI _ hc, nI_1, nI_1]
      have em : (if nI (mw P k x) < nI (cf P k x (itr k x / 4) + 1) then nI (cf P k x (itr k x / 4) + 1) else nI (mw P k x)) = nI (mw P k (x + 1)) := by
        rw [mw, if_pos q]
        by_cases z : mw P k x < cf P k x (itr k x / 4) + 1
        · rw [if_pos (nI_lt z (by omega)), if_pos z]
        · rw [if_neg (nI_nlt (by omega) (by omega)), if_neg z]
      rw [em, show cnt P x + 1 = cnt P (x + 1) by rw [cnt_s, if_pos q]]
      refine ih (x + 1) n _ (by omega) (by omega) fun c hc' => ?_
      rw [cf, if_pos q]
      by_cases e : c = itr k x / 4
      · subst e; rw [upd_eq, upN_eq]
      · rw [upd_ne e, upN_ne e, hI c hc']
    · have := ih (x + 1) n ic (by omega) (by omega) (fun c hc => by rw [cf, if_neg q, hI c hc])
      rw [mw, if_neg q, cnt_s, if_neg q] at this
      exact this
theorem mo_2 {k : Nat} {st : Nat → Int32} (hS : ∀ s, s < 100 → P s = true → st (cnt P s) = nI (itr k s)) (hnf : 300 ≤ nf) : ∀ (m x n : Nat) (ic : Nat → Int32), x + m = 25 → m < n → (∀ c, c < x → ic c = 0) → ∃ ic', g_X7_mostInOneCell_l2 nf n (nI x) st ic (nI (cnt P 100)) = some (nI (mw P k 100), ic') := by
  intro m
  induction m with
  | zero =>
    intro x n ic hx hn hI
    obtain ⟨n, rfl⟩ := pred_ex hn
    obtain rfl : x = 25 := by omega
    rw [g_X7_mostInOneCell_l2, if_pos (by decide)]
    exact mo_25 hS 100 0 nf ic (by omega) (by omega) (fun c hc => hI c hc)
  | succ m ih =>
    intro x n ic hx hn hI
    obtain ⟨n, rfl⟩ := pred_ex hn
    rw [g_X7_mostInOneCell_l2, if_neg (L_nge 25 (by omega) (by decide)), ck_nI (by omega) (by decide), nI_clamp (by omega), nI_1]
    refine ih (x + 1) n _ (by omega) (by omega) fun c hc => ?_
    by_cases e : c = x
    · subst e; rw [upd_eq]
    · rw [upd_ne e, hI c (by omega)]
theorem cnt_inj {a b : Nat} (ha : P a = true) (hb : P b = true) (h : cnt P a = cnt P b) : a = b := by
  rcases Nat.lt_trichotomy a b with q | q | q
  · have := cnt_lt P q ha; omega
  · exact q
  · have := cnt_lt P q hb; omega
theorem ch_72 {k : Nat} {x1 : Int32} {nx sta : Nat → Int32} {K : Int32 → (Nat → Int32) → (Nat → Int32) → (Nat → Int32) → (Nat → Int32) → Int32 → Int32 → Int32 → Option ((Nat → Int32) × (Nat → Int32) × Int32 × Int32)} {ic : Nat → Int32} {b l : Int32} (hN : RT nx) : ∀ (m i n : Nat) (st : Nat → Int32), i + m = cnt P 100 → m < n → (∀ s, s < 100 → P s = true → st (cnt P s) = nI (itr (if cnt P s < i then k + 1 else k) s)) → ∃ st', g_X7_chooseNight_l72 nf K n x1 (nI i) nx sta st ic (nI (cnt P 100)) b l = K (x1 + 1) nx sta st' ic (nI (cnt P 100)) b l ∧ ∀ s, s < 100 → P s = true → st' (cnt P s) = nI (itr (k + 1) s) := by
  have hF := cnt_le P 100
  intro m
  induction m with
  | zero =>
    intro i n st hx hn hI
    obtain ⟨n, rfl⟩ := pred_ex hn
    obtain rfl : i = cnt P 100 := by omega
    refine ⟨st, by rw [g_X7_chooseNight_l72, if_pos (nI_le (Nat.le_refl _) (by omega))], fun s hs hp => ?_⟩
    rw [hI s hs hp, if_pos (cnt_lt P hs hp)]
  | succ m ih =>
    intro i n st hx hn hI
    obtain ⟨n, rfl⟩ := pred_ex hn
    obtain ⟨s, k1, k2, k3⟩ := cnt_ex P 100 i (by omega)
    have hi : itr k s < 100 := itr_lt _ _ k1
    have h0 := hI s k1 k2
    rw [k3, if_neg (Nat.lt_irrefl i)] at h0
    rw [g_X7_chooseNight_l72, if_neg (nI_ge (show i < cnt P 100 by omega) (by omega)), ck_nI (show i < 100 by omega) (by decide), ck_nI (show i < 100 by omega) (by decide), nI_clamp (by omega), h0, ck_nI hi (by decide), nI_clamp (by omega), hN _ hi, ← itr_s, nI_1]
    refine ih (i + 1) n _ (by omega) (by omega) fun s' hs' hp' => ?_
    by_cases e : s' = s
    · subst e; rw [k3, upd_eq, if_pos (Nat.lt_succ_self i)]
    · have hne : cnt P s' ≠ i := fun h => e (cnt_inj hp' k2 (by rw [h, k3]))
      rw [upd_ne hne, hI s' hs' hp']
      by_cases z : cnt P s' < i
      · rw [if_pos z, if_pos (by omega)]
      · rw [if_neg z, if_neg (by omega)]
def chs (P : Nat → Bool) : Nat → Nat → Nat → Nat → Nat × Nat
  | 0, _, b, l => (b, l)
  | m + 1, k, b, l => if mw P k 100 < l then chs P m (k + 1) k (mw P k 100) else chs P m (k + 1) b l
theorem ch_41 {nx sta : Nat → Int32} (hN : RT nx) (hnf : 300 ≤ nf) : ∀ (m k n b l : Nat) (st ic : Nat → Int32), k + m = 41 → m < n → l < 2 ^ 31 → (∀ s, s < 100 → P s = true → st (cnt P s) = nI (itr k s)) → ∃ st' ic', g_X7_chooseNight_l41 nf n (nI k) nx sta st ic (nI (cnt P 100)) (nI b) (nI l) = some (st', ic', nI (chs P m k b l).1, nI (chs P m k b l).2) := by
  have hF := cnt_le P 100
  intro m
  induction m with
  | zero =>
    intro k n b l st ic hx hn hl hI
    obtain ⟨n, rfl⟩ := pred_ex hn
    obtain rfl : k = 41 := by omega
    exact ⟨st, ic, by rw [g_X7_chooseNight_l41, if_pos (by decide)]; rfl⟩
  | succ m ih =>
    intro k n b l st ic hx hn hl hI
    obtain ⟨n, rfl⟩ := pred_ex hn
    have hm := mw_le P k 100
    obtain ⟨ic', h1⟩ := mo_2 (nf := nf) hI hnf 25 0 nf ic (by omega) (by omega) (fun c hc => absurd hc (Nat.not_lt_zero c))
    have h1' : g_X7_mostInOneCell nf st ic (nI (cnt P 100)) = some (nI (mw P k 100), ic') := h1
    rw [g_X7_chooseNight_l41, if_neg (L_nge 41 (by omega) (by decide)), h1', Option.bind_some]
    unfold g_X7_chooseNight_b70
    dsimp only
    have hst : ∀ s, s < 100 → P s = true → st (cnt P s) = nI (itr (if cnt P s < 0 then k + 1 else k) s) := fun s hs hp => by rw [if_neg (Nat.not_lt_zero _), hI s hs hp]
    by_cases z : mw P k 100 < l
    · rw [if_neg (nI_ge z (by omega)), chs, if_pos z]
      obtain ⟨st2, h2, h3⟩ := ch_72 (nf := nf) (k := k) (x1 := nI k) (sta := sta) (K := g_X7_chooseNight_l41 nf n) (ic := ic') (b := nI k) (l := nI (mw P k 100)) hN (cnt P 100) 0 nf st (by omega) (by omega) hst
      rw [show g_X7_chooseNight_l72 nf (g_X7_chooseNight_l41 nf n) nf (nI k) 0 nx sta st ic' (nI (cnt P 100)) (nI k) (nI (mw P k 100)) = _ from h2, nI_1]
      exact ih (k + 1) n k (mw P k 100) st2 ic' (by omega) (by omega) (by omega) h3
    · rw [if_pos (nI_le (show l ≤ mw P k 100 by omega) (by omega)), chs, if_neg z]
      obtain ⟨st2, h2, h3⟩ := ch_72 (nf := nf) (k := k) (x1 := nI k) (sta := sta) (K := g_X7_chooseNight_l41 nf n) (ic := ic') (b := nI b) (l := nI l) hN (cnt P 100) 0 nf st (by omega) (by omega) hst
      rw [show g_X7_chooseNight_l72 nf (g_X7_chooseNight_l41 nf n) nf (nI k) 0 nx sta st ic' (nI (cnt P 100)) (nI b) (nI l) = _ from h2, nI_1]
      exact ih (k + 1) n b l st2 ic' (by omega) (by omega) hl h3
theorem ch_2 {nx sta : Nat → Int32} {b0 l0 : Int32} (hN : RT nx) (hnf : 300 ≤ nf) (hS : SEL P 100 sta) : ∀ (m i n : Nat) (st ic : Nat → Int32), i + m = cnt P 100 → m < n → (∀ s, s < 100 → P s = true → cnt P s < i → st (cnt P s) = nI s) → ∃ st' ic', g_X7_chooseNight_l2 nf n (nI i) nx sta st ic (nI (cnt P 100)) b0 l0 = some (st', ic', nI (chs P 41 0 0 101).1, nI (chs P 41 0 0 101).2) := by
  have hF := cnt_le P 100
  intro m
  induction m with
  | zero =>
    intro i n st ic hx hn hI
    obtain ⟨n, rfl⟩ := pred_ex hn
    obtain rfl : i = cnt P 100 := by omega
    rw [g_X7_chooseNight_l2, if_pos (nI_le (Nat.le_refl _) (by omega))]
    exact ch_41 hN hnf 41 0 nf 0 101 st ic (by omega) (by omega) (by omega) (fun s hs hp => hI s hs hp (cnt_lt P hs hp))
  | succ m ih =>
    intro i n st ic hx hn hI
    obtain ⟨n, rfl⟩ := pred_ex hn
    obtain ⟨s, k1, k2, k3⟩ := cnt_ex P 100 i (by omega)
    rw [g_X7_chooseNight_l2, if_neg (nI_ge (show i < cnt P 100 by omega) (by omega)), ck_nI (show i < 100 by omega) (by decide), ck_nI (show i < 100 by omega) (by decide), nI_clamp (by omega), nI_1]
    refine ih (i + 1) n _ ic (by omega) (by omega) fun s' hs' hp' hlt => ?_
    by_cases e : s' = s
    · subst e; rw [k3, upd_eq, ← k3, hS s' hs' hp']
    · have hne : cnt P s' ≠ i := fun h => e (cnt_inj hp' k2 (by rw [h, k3]))
      rw [upd_ne hne, hI s' hs' hp' (by omega)]
end ASK8
section ASK9
variable {nf : Nat} {S : Nat → Nat} {SS : Nat} {sight : Nat → Int32} {sg : Int32}
theorem as_58 {k : Nat} {p1 x2 x3 : Int32} (hk : k < 41) (hW : WS S SS) (hM : MS sight sg S SS) (hnf : 300 ≤ nf) : ∀ (m code n : Nat) (co : Nat → Int32), code + m = 250 → m < n → (∀ c, c < 25 → co c = nI (cf (ft S SS) k (sto code) c)) → ∃ co', ∀ K, g_X9_ask_l58 nf K n p1 x2 x3 (nI k) (nI (mw (ft S SS) k (sto code))) (nI code) (nI SS) sight co = if 0 < mw (ft S SS) k 100 ∧ nI (mw (ft S SS) k 100) < x3 then K p1 (nI k) (nI (mw (ft S SS) k 100)) (nI (k + 1)) (nI SS) sight co' else K p1 x2 x3 (nI (k + 1)) (nI SS) sight co' := by
  intro m
  induction m with
  | zero =>
    intro code n co hx hn hI
    obtain ⟨n, rfl⟩ := pred_ex hn
    obtain rfl : code = 250 := by omega
    have hm := mw_le (ft S SS) k 100
    refine ⟨co, fun K => ?_⟩
    rw [g_X9_ask_l58, if_pos (by decide), show sto 250 = 100 by decide]
    unfold g_X9_ask_b142 g_X9_ask_b143 g_X9_ask_b156 g_X9_ask_b168
    rw [nI_1]
    simp only [i00, i10, if_true, if_false]
    by_cases z : mw (ft S SS) k 100 = 0
    · rw [if_pos (L_le 0 (by omega) (by decide)), if_neg (fun h => by omega)]
    · rw [if_neg (L_nle 0 (by omega) (by omega))]
      by_cases y : nI (mw (ft S SS) k 100) < x3
      · rw [if_neg (Int32.not_le.mpr y), if_pos ⟨by omega, y⟩]
      · rw [if_pos (Int32.not_lt.mp y), if_neg (fun h => y h.2)]
  | succ m ih =>
    intro code n co hx hn hI
    obtain ⟨n, rfl⟩ := pred_ex hn
    have tb := tb_sto code (by omega)
    by_cases c4 : code % 10 < 4
    · rw [if_pos c4] at tb
      obtain ⟨t1, t2, t3⟩ := tb
      have hf := s_isFit (nf := nf) (s := sto code) t1 hW hM (by omega)
      rw [t2] at hf
      by_cases q : ft S SS (sto code) = true
      · have hc := s_cellAfter (nf := nf) (k := k) (s := sto code) (by omega) t1 (by omega)
        rw [t2] at hc
        have hi : itr k (sto code) < 100 := itr_lt _ _ t1
        have hc25 : itr k (sto code) / 4 < 25 := by omega
        have h1 := cf_le (ft S SS) k (sto code) (itr k (sto code) / 4)
        have h2 := mw_le (ft S SS) k (sto code)
        obtain ⟨co', h⟩ := ih (code + 1) n (upd co (itr k (sto code) / 4) (nI (cf (ft S SS) k (sto code) (itr k (sto code) / 4) + 1))) (by omega) (by omega) (fun c hc' => by
          rw [t3, cf, if_pos q]
          by_cases e : c = itr k (sto code) / 4
          · subst e; rw [upd_eq, upN_eq]
          · rw [upd_ne e, upN_ne e, hI c hc'])
        refine ⟨co', fun K => ?_⟩
        rw [← h K]
        rw [g_X9_ask_l58, if_neg (L_nge 250 (by omega) (by decide)), hf, Option.bind_some, if_pos q, if_neg (by decide), hc, Option.bind_some, ck_nI hc25 (by decide), ck_nI hc25 (by decide), ck_nI hc25 (by decide), ck_nI hc25 (by decide), nI_clamp (by omega), upd_eq, hI _ hc25, nI_1]
        unfold g_X9_ask_b119 g_X9_ask_b121
        rw [nI_1, t3, mw, if_pos q]
        by_cases z : mw (ft S SS) k (sto code) < cf (ft S SS) k (sto code) (itr k (sto code) / 4) + 1
        · rw [if_pos z, if_neg (nI_ge z (by omega))]
        · rw [if_neg z, if_pos (nI_le (by omega) (by omega))]
      · obtain ⟨co', h⟩ := ih (code + 1) n co (by omega) (by omega) (fun c hc' => by rw [t3, cf, if_neg q, hI c hc'])
        refine ⟨co', fun K => ?_⟩
        rw [← h K, g_X9_ask_l58, if_neg (L_nge 250 (by omega) (by decide)), hf, Option.bind_some, if_neg q, if_pos rfl]
        unfold g_X9_ask_b121
        rw [nI_1, t3, mw, if_neg q]
    · rw [if_neg c4] at tb
      obtain ⟨co', h⟩ := ih (code + 1) n co (by omega) (by omega) (fun c hc' => by rw [tb, hI c hc'])
      refine ⟨co', fun K => ?_⟩
      rw [← h K, g_X9_ask_l58, if_neg (L_nge 250 (by omega) (by decide)), s_isFit0 (by omega) (by omega) (by omega), Option.bind_some, if_pos rfl]
      unfold g_X9_ask_b121
      rw [nI_1, tb]
theorem as_34 {k : Nat} {p1 x2 x3 : Int32} (hk : k < 41) (hW : WS S SS) (hM : MS sight sg S SS) (hnf : 300 ≤ nf) : ∀ (m x n : Nat) (co : Nat → Int32), x + m = 25 → m < n → (∀ c, c < x → co c = 0) → ∃ co', ∀ K, g_X9_ask_l34 nf K n p1 x2 x3 (nI k) 0 (nI x) (nI SS) sight co = if 0 < mw (ft S SS) k 100 ∧ nI (mw (ft S SS) k 100) < x3 then K p1 (nI k) (nI (mw (ft S SS) k 100)) (nI (k + 1)) (nI SS) sight co' else K p1 x2 x3 (nI (k + 1)) (nI SS) sight co' := by
  intro m
  induction m with
  | zero =>
    intro x n co hx hn hI
    obtain ⟨n, rfl⟩ := pred_ex hn
    obtain rfl : x = 25 := by omega
    obtain ⟨co', h⟩ := as_58 (nf := nf) (k := k) (p1 := p1) (x2 := x2) (x3 := x3) hk hW hM hnf 250 0 nf co (by omega) (by omega) (fun c hc => hI c hc)
    exact ⟨co', fun K => by rw [g_X9_ask_l34, if_pos (by decide)]; exact h K⟩
  | succ m ih =>
    intro x n co hx hn hI
    obtain ⟨n, rfl⟩ := pred_ex hn
    obtain ⟨co', h⟩ := ih (x + 1) n (upd co x 0) (by omega) (by omega) (fun c hc => by
      by_cases e : c = x
      · subst e; rw [upd_eq]
      · rw [upd_ne e, hI c (by omega)])
    refine ⟨co', fun K => ?_⟩
    rw [← h K, g_X9_ask_l34, if_neg (L_nge 25 (by omega) (by decide)), ck_nI (by omega) (by decide), nI_clamp (by omega), nI_1]
theorem as_21 {p1 : Int32} (hW : WS S SS) (hM : MS sight sg S SS) (hnf : 300 ≤ nf) (hp : 0 < cnt (ft S SS) 100) : ∀ (m k n b l : Nat) (co : Nat → Int32), k + m = 41 → m < n → b < 2 ^ 20 → l < 2 ^ 31 → ∃ co', g_X9_ask_l21 nf n p1 (nI b) (nI l) (nI k) (nI SS) sight co = some (if p1 = 0 then nI (chs (ft S SS) m k b l).1 else nI (chs (ft S SS) m k b l).2, co') := by
  intro m
  induction m with
  | zero =>
    intro k n b l co hx hn hb hl
    obtain ⟨n, rfl⟩ := pred_ex hn
    obtain rfl : k = 41 := by omega
    refine ⟨co, ?_⟩
    rw [g_X9_ask_l21, if_pos (by decide), if_neg (nI_pos (by omega))]
    unfold g_X9_ask_b183 chs
    split <;> rfl
  | succ m ih =>
    intro k n b l co hx hn hb hl
    obtain ⟨n, rfl⟩ := pred_ex hn
    have hm := mw_le (ft S SS) k 100
    have hm0 := mw_pos (ft S SS) k 100 hp
    obtain ⟨co', h⟩ := as_34 (nf := nf) (k := k) (p1 := p1) (x2 := nI b) (x3 := nI l) (by omega) hW hM hnf 25 0 nf co (by omega) (by omega) (fun c hc => absurd hc (Nat.not_lt_zero c))
    rw [g_X9_ask_l21, if_neg (L_nge 41 (by omega) (by decide)), show g_X9_ask_l34 nf (g_X9_ask_l21 nf n) nf p1 (nI b) (nI l) (nI k) 0 0 (nI SS) sight co = _ from h _, chs]
    by_cases z : mw (ft S SS) k 100 < l
    · rw [if_pos z, if_pos ⟨hm0, nI_lt z hl⟩]
      exact ih (k + 1) n k _ co' (by omega) (by omega) (by omega) (by omega)
    · rw [if_neg z, if_neg (fun h => nI_nlt (show l ≤ _ by omega) (by omega) h.2)]
      exact ih (k + 1) n b l co' (by omega) (by omega) hb hl
theorem as_0 {p1 x3 : Int32} (hW : WS S SS) (hM : MS sight sg S SS) (hnf : 300 ≤ nf) (hp : cnt (ft S SS) 100 = 0) : ∀ (m k n : Nat) (co : Nat → Int32), k + m = 41 → m < n → ∃ co', g_X9_ask_l21 nf n p1 (-6) x3 (nI k) (nI SS) sight co = some (-6, co') := by
  intro m
  induction m with
  | zero =>
    intro k n co hx hn
    obtain ⟨n, rfl⟩ := pred_ex hn
    obtain rfl : k = 41 := by omega
    exact ⟨co, by rw [g_X9_ask_l21, if_pos (by decide), if_pos (by decide)]; rfl⟩
  | succ m ih =>
    intro k n co hx hn
    obtain ⟨n, rfl⟩ := pred_ex hn
    have hm0 := mw_zero (ft S SS) k 100 hp
    obtain ⟨co', h⟩ := as_34 (nf := nf) (k := k) (p1 := p1) (x2 := -6) (x3 := x3) (by omega) hW hM hnf 25 0 nf co (by omega) (by omega) (fun c hc => absurd hc (Nat.not_lt_zero c))
    rw [g_X9_ask_l21, if_neg (L_nge 41 (by omega) (by decide)), show g_X9_ask_l34 nf (g_X9_ask_l21 nf n) nf p1 (-6) x3 (nI k) 0 0 (nI SS) sight co = _ from h _, if_neg (fun h => by omega)]
    exact ih (k + 1) n co' (by omega) (by omega)
end ASK9
theorem st_ask : St_ask := by
  intro n_lands n_camphors n_there n_mothCells n_mothHeads n_threads n_sightNights n_sightCells n_sights n_night u_lands u_camphors u_there u_mothCells u_mothHeads u_threads u_sightNights u_sightCells u_sights u_night v_lands v_camphors v_there v_mothCells v_mothHeads v_threads v_sightNights v_sightCells v_sights v_night kept p_signs p_size t_next_ book sights sight signs pad image isKept t_starts t_stands t_cellsSeen t_inCell t_fitting t_bestNight t_mostLeft counts p1 hR
  obtain ⟨⟨B, S, SS, hW, hDB, hMB, hWS, hDS, hMS⟩, hRP, hI0, hI1, hRT⟩ := hR
  suffices h : ∃ v q8 q9, g_X8_ask 300 p1 n_sightNights n_sightCells n_sights t_next_ t_starts t_stands t_cellsSeen t_inCell t_fitting t_bestNight t_mostLeft = some (v, q8) ∧ g_X9_ask 300 p1 sights sight counts = some (v, q9) by
    obtain ⟨v, q8, q9, h8, h9⟩ := h
    exact ⟨300, (v, q8), (v, q9), h8, h9, rfl, ⟨B, S, SS, hW, hDB, hMB, hWS, hDS, hMS⟩, hRP, hI0, hI1, hRT⟩
  unfold g_X8_ask g_X9_ask
  by_cases c1 : 0 ≤ p1 ∧ p1 ≤ 1
  · obtain ⟨st', cs', h1, h2⟩ := s_gather (nf := 300) (cs := t_cellsSeen) (st := t_starts) (f := t_fitting) hWS hDS hRT (by omega)
    have hF := cnt_le (ft S SS) 100
    rw [w_t c1, n_t c1, Option.bind_some, Option.bind_some, if_neg (by decide), if_neg (by decide), h1, Option.bind_some, hMS.2]
    dsimp only
    by_cases z : cnt (ft S SS) 100 = 0
    · obtain ⟨co', h⟩ := as_0 (nf := 300) (p1 := p1) (x3 := 1000000) hWS hMS (by omega) z 41 0 300 counts (by omega) (by omega)
      rw [z, if_pos (L_eq 0 rfl)]
      exact ⟨-6, _, _, rfl, h⟩
    · have hp : 0 < cnt (ft S SS) 100 := by omega
      have hm := mw_le (ft S SS) 0 100
      have hm0 := mw_pos (ft S SS) 0 100 hp
      obtain ⟨st2, ic2, h3⟩ := ch_2 (nf := 300) (b0 := t_bestNight) (l0 := t_mostLeft) hRT (by omega) h2 (cnt (ft S SS) 100) 0 300 t_stands t_inCell (by omega) (by omega) (fun s _ _ h => absurd h (Nat.not_lt_zero _))
      have h3' : g_X7_chooseNight 300 t_next_ st' t_stands t_inCell (nI (cnt (ft S SS) 100)) t_bestNight t_mostLeft = _ := h3
      rw [if_neg (L_ne 0 z (by omega) (by decide)), h3', Option.bind_some]
      have ec : chs (ft S SS) 41 0 0 101 = chs (ft S SS) 40 1 0 (mw (ft S SS) 0 100) := by rw [chs, if_pos (by omega)]
      obtain ⟨co1, k1⟩ := as_34 (nf := 300) (k := 0) (p1 := p1) (x2 := -6) (x3 := 1000000) (by omega) hWS hMS (by omega) 25 0 300 counts (by omega) (by omega) (fun c hc => absurd hc (Nat.not_lt_zero c))
      obtain ⟨co2, k2⟩ := as_21 (nf := 300) (p1 := p1) hWS hMS (by omega) hp 40 1 299 0 (mw (ft S SS) 0 100) co1 (by omega) (by omega) (by omega) (by omega)
      refine ⟨if p1 = 0 then nI (chs (ft S SS) 41 0 0 101).1 else nI (chs (ft S SS) 41 0 0 101).2, ?_⟩
      suffices h9 : ∃ q9, g_X9_ask_l21 300 300 p1 (-6) 1000000 0 (nI SS) sight counts = some (if p1 = 0 then nI (chs (ft S SS) 41 0 0 101).1 else nI (chs (ft S SS) 41 0 0 101).2, q9) by
        obtain ⟨q9, h9⟩ := h9
        rw [h9]
        split
        · exact ⟨_, _, rfl, rfl⟩
        · exact ⟨_, _, rfl, rfl⟩
      refine ⟨co2, ?_⟩
      rw [show (300 : Nat) = 299 + 1 from rfl, g_X9_ask_l21, if_neg (by decide)]
      rw [show g_X9_ask_l34 (299 + 1) (g_X9_ask_l21 (299 + 1) 299) (299 + 1) p1 (-6) 1000000 0 0 0 (nI SS) sight counts = _ from k1 _, if_pos ⟨hm0, nI_lt (b := 1000000) (by omega) (by decide)⟩, ec]
      exact k2
  · rw [w_f c1, n_f c1, Option.bind_some, Option.bind_some, if_pos rfl, if_pos rfl]
    exact ⟨-2, _, _, rfl, rfl⟩
