/-! ===== where a moth began ===== -/
def itr : Nat → Nat → Nat
  | 0, s => s
  | k + 1, s => itr k (nxt s)
theorem nxt_lt : ∀ s, s < 100 → nxt s < 100 := by decide +kernel
theorem itr_lt : ∀ (k s : Nat), s < 100 → itr k s < 100
  | 0, _, h => h
  | k + 1, s, h => itr_lt k (nxt s) (nxt_lt s h)
theorem itr_s : ∀ (k s : Nat), itr (k + 1) s = nxt (itr k s)
  | 0, _ => rfl
  | k + 1, s => itr_s k (nxt s)
theorem tb_open : ∀ c, c < 25 → ∀ d, d < 4 → bes c d < 25 ∨ bes c ((d + 1) % 4) < 25 ∨ bes c ((d + 2) % 4) < 25 ∨ bes c ((d + 3) % 4) < 25 := by decide +kernel
section CA
variable {nf : Nat}
theorem nI_m2 {k : Nat} (h : k < 2 ^ 31) : ¬ nI k = -2 := by
  intro e
  have := congrArg Int32.toInt e
  rw [nI_toInt h] at this
  exact absurd this (by rw [show (-2 : Int32).toInt = -2 from by decide]; omega)
theorem ca_1 {K : Int32 → Int32 → Int32 → Int32 → Option Int32} {n c d : Nat} {x1 x4 : Int32} (hc : c < 25) (hd : d < 4) (h : bes c d < 25) : g_X9_cellAfter_l19 nf K (n + 1) x1 (nI c) (nI d) x4 = K x1 (nI (bes c d)) (nI d) (x4 + 1) := by
  rw [g_X9_cellAfter_l19, s_bes9 hc hd, if_pos h, Option.bind_some, if_pos (nI_pos' (by omega)), Option.bind_some]
theorem ca_0 {K : Int32 → Int32 → Int32 → Int32 → Option Int32} {n c d : Nat} {x1 x4 : Int32} (hc : c < 25) (hd : d < 4) (h : ¬ bes c d < 25) : g_X9_cellAfter_l19 nf K (n + 1) x1 (nI c) (nI d) x4 = g_X9_cellAfter_l19 nf K n x1 (nI c) (nI ((d + 1) % 4)) x4 := by
  rw [g_X9_cellAfter_l19, s_bes9 hc hd, if_neg h, Option.bind_some, if_neg (by decide), nI_1]
  rw [show nI (d + 1) - nI (d + 1) / 4 * 4 = nI ((d + 1) % 4) from pk_rem (d := 4) (by omega) (by decide) (by decide)]
theorem ca_n {K : Int32 → Int32 → Int32 → Int32 → Option Int32} {n s : Nat} {x1 x4 : Int32} (hs : s < 100) : g_X9_cellAfter_l19 nf K (n + 4) x1 (nI (s / 4)) (nI (s % 4)) x4 = K x1 (nI (nxt s / 4)) (nI (nxt s % 4)) (x4 + 1) := by
  have hc : s / 4 < 25 := by omega
  have hd : s % 4 < 4 := by omega
  have ho := tb_open (s / 4) hc (s % 4) hd
  unfold nxt
  generalize s / 4 = c at *
  generalize s % 4 = d at *
  have m1 : (d + 1) % 4 < 4 := Nat.mod_lt _ (by decide)
  have m2 : (d + 2) % 4 < 4 := Nat.mod_lt _ (by decide)
  have m3 : (d + 3) % 4 < 4 := Nat.mod_lt _ (by decide)
  have e2 : ((d + 1) % 4 + 1) % 4 = (d + 2) % 4 := by omega
  have e3 : ((d + 2) % 4 + 1) % 4 = (d + 3) % 4 := by omega
  have q : ∀ a b : Nat, b < 4 → (4 * a + b) / 4 = a ∧ (4 * a + b) % 4 = b := fun a b hb => by omega
  by_cases c0 : bes c d < 25
  · rw [ca_1 hc hd c0, if_pos c0, (q _ _ hd).1, (q _ _ hd).2]
  · rw [ca_0 hc hd c0, if_neg c0]
    by_cases c1 : bes c ((d + 1) % 4) < 25
    · rw [ca_1 hc m1 c1, if_pos c1, (q _ _ m1).1, (q _ _ m1).2]
    · rw [ca_0 hc m1 c1, if_neg c1, e2]
      by_cases c2 : bes c ((d + 2) % 4) < 25
      · rw [ca_1 hc m2 c2, if_pos c2, (q _ _ m2).1, (q _ _ m2).2]
      · rw [ca_0 hc m2 c2, if_neg c2, e3]
        have c3 : bes c ((d + 3) % 4) < 25 := by omega
        rw [ca_1 hc m3 c3, (q _ _ m3).1, (q _ _ m3).2]
theorem ca_l {k : Nat} (hk : k < 2 ^ 20) (hnf : 100 ≤ nf) : ∀ (m i n s : Nat), i + m = k → m < n → s < 100 → g_X9_cellAfter_l13 nf n (nI k) (nI (s / 4)) (nI (s % 4)) (nI i) = some (nI (itr m s / 4)) := by
  intro m
  induction m with
  | zero =>
    intro i n s hi hn hs
    obtain ⟨n, rfl⟩ := pred_ex hn
    obtain rfl : i = k := by omega
    rw [g_X9_cellAfter_l13, if_pos (nI_le (Nat.le_refl i) (by omega))]; rfl
  | succ m ih =>
    intro i n s hi hn hs
    obtain ⟨n, rfl⟩ := pred_ex hn
    obtain ⟨nf', rfl⟩ : ∃ a, nf = a + 4 := ⟨nf - 4, by omega⟩
    rw [g_X9_cellAfter_l13, if_neg (nI_ge (show i < k by omega) (by omega)), ca_n hs, nI_1]
    exact ih (i + 1) n (nxt s) (by omega) (by omega) (nxt_lt s hs)
def cd (s : Nat) : Nat := 10 * (s / 4) + s % 4
theorem s_cellAfter {k s : Nat} (hk : k < 100) (hs : s < 100) (hnf : 100 ≤ nf) : g_X9_cellAfter nf (nI (cd s)) (nI k) = some (nI (itr k s / 4)) := by
  unfold g_X9_cellAfter cd
  rw [show nI (10 * (s / 4) + s % 4) / 10 = nI ((10 * (s / 4) + s % 4) / 10) from pk_div (d := 10) (by omega) (by decide) (by decide), show nI ((10 * (s / 4) + s % 4)) - nI ((10 * (s / 4) + s % 4) / 10) * 10 = nI ((10 * (s / 4) + s % 4) % 10) from ?_]
  · rw [show (10 * (s / 4) + s % 4) / 10 = s / 4 by omega, show (10 * (s / 4) + s % 4) % 10 = s % 4 by omega]
    exact ca_l (by omega) hnf k 0 nf s (by omega) (by omega) hs
  · rw [← show nI (10 * (s / 4) + s % 4) / 10 = nI ((10 * (s / 4) + s % 4) / 10) from pk_div (d := 10) (by omega) (by decide) (by decide)]
    exact pk_rem (d := 10) (by omega) (by decide) (by decide)
end CA
/-- all sights are so by a start -/
def ft (S : Nat → Nat) (SS s : Nat) : Bool := decide (∀ j, j < SS → itr (S (2 * j)) s / 4 = S (2 * j + 1))
section FIT
variable {nf : Nat} {S : Nat → Nat} {SS : Nat}
theorem if_l0 {code : Int32} {sight : Nat → Int32} {i : Nat} : g_X9_isFit_l16 nf (i + 1) code 0 (nI 0) (nI SS) sight = some 0 := by
  rw [g_X9_isFit_l16]
  split
  · rw [bz_in (Or.inl rfl)]
  · rw [if_pos rfl, bz_in (Or.inl rfl)]
theorem if_l {s : Nat} {sight : Nat → Int32} {sg : Int32} (hs : s < 100) (hW : WS S SS) (hM : MS sight sg S SS) (hnf : 100 ≤ nf) : ∀ (m i n : Nat), i + m = SS → m + 1 < n → g_X9_isFit_l16 nf n (nI (cd s)) 1 (nI i) (nI SS) sight = some (if ∀ j, j < SS → i ≤ j → itr (S (2 * j)) s / 4 = S (2 * j + 1) then 1 else 0) := by
  intro m
  have h8 := hW.1
  induction m with
  | zero =>
    intro i n hi hn
    obtain ⟨n, rfl⟩ := pred_ex hn
    obtain rfl : i = SS := by omega
    rw [g_X9_isFit_l16, if_pos (nI_le (Nat.le_refl i) (by omega)), bz_in (Or.inr rfl), if_pos (fun j h1 h2 => by omega)]
  | succ m ih =>
    intro i n hi hn
    obtain ⟨n, rfl⟩ := pred_ex hn
    obtain ⟨w1, w2⟩ := hW.2 i (by omega)
    have hlt : itr (S (2 * i)) s < 100 := itr_lt _ _ hs
    rw [g_X9_isFit_l16, if_neg (nI_ge (show i < SS by omega) (by omega)), if_neg (by decide), show (2 : Int32) * nI i = nI (2 * i) from pk_mul 2 i, ck_nI (show 2 * i < 16 by omega) (by decide), nI_clamp (by omega), hM.1 _ (by omega), s_cellAfter (by omega) hs hnf, Option.bind_some, nI_1 (2 * i), ck_nI (show 2 * i + 1 < 16 by omega) (by decide), nI_clamp (by omega), hM.1 _ (by omega)]
    unfold g_X9_isFit_b58
    rw [nI_1]
    by_cases q : itr (S (2 * i)) s / 4 = S (2 * i + 1)
    · rw [if_pos (by rw [q]), ih (i + 1) n (by omega) (by omega)]
      congr 1
      by_cases z : ∀ j, j < SS → i + 1 ≤ j → itr (S (2 * j)) s / 4 = S (2 * j + 1)
      · rw [if_pos z, if_pos]
        intro j h1 h2
        by_cases e : j = i
        · subst e; exact q
        · exact z j h1 (by omega)
      · rw [if_neg z, if_neg (fun h => z fun j h1 h2 => h j h1 (by omega))]
    · rw [if_neg (fun h => q ((nI_eq (by omega) (by omega)).mp h)), if_neg (fun h => q (h i (by omega) (Nat.le_refl i)))]
      obtain ⟨n, rfl⟩ := pred_ex (show 0 < n by omega)
      rw [g_X9_isFit_l16]
      split
      · rw [bz_in (Or.inl rfl)]
      · rw [if_pos rfl, bz_in (Or.inl rfl)]
theorem s_isFit {s : Nat} {sight : Nat → Int32} {sg : Int32} (hs : s < 100) (hW : WS S SS) (hM : MS sight sg S SS) (hnf : 100 ≤ nf) : g_X9_isFit nf (nI (cd s)) (nI SS) sight = some (if ft S SS s then 1 else 0) := by
  have h8 := hW.1
  unfold g_X9_isFit g_X9_isFit_b13
  rw [show nI (cd s) - nI (cd s) / 10 * 10 = nI (cd s % 10) from pk_rem (d := 10) (by unfold cd; omega) (by decide) (by decide), if_neg (L_nge 4 (by unfold cd; omega) (by decide))]
  rw [show (0 : Int32) = nI 0 from rfl, if_l hs hW hM hnf SS 0 nf (by omega) (by omega)]
  congr 1
  unfold ft
  by_cases z : ∀ j, j < SS → itr (S (2 * j)) s / 4 = S (2 * j + 1)
  · rw [if_pos (fun j h1 _ => z j h1), decide_eq_true z]; rfl
  · rw [if_neg (fun h => z fun j h1 => h j h1 (Nat.zero_le j)), decide_eq_false z]; rfl
theorem s_isFit0 {code : Nat} {sight : Nat → Int32} (hc : code < 250) (h4 : 4 ≤ code % 10) (hnf : 100 ≤ nf) : g_X9_isFit nf (nI code) (nI SS) sight = some 0 := by
  unfold g_X9_isFit g_X9_isFit_b13
  obtain ⟨nf', rfl⟩ := pred_ex hnf
  rw [show nI code - nI code / 10 * 10 = nI (code % 10) from pk_rem (d := 10) (by omega) (by decide) (by decide), if_pos (L_ge 4 h4 (by omega))]
  exact if_l0
/-- what the sights read so far say of a night -/
def INV (S : Nat → Nat) (i : Nat) (cs : Nat → Int32) : Prop := ∀ k, k < 41 → ∀ v, v < 25 → ((cs k = -1 ∨ cs k = nI v) ↔ ∀ j, j < i → S (2 * j) = k → S (2 * j + 1) = v)
theorem rs_23 {sn sc : Nat → Int32} {sg : Int32} (hW : WS S SS) (hD : DS sn sc sg S SS) : ∀ (m i n : Nat) (cs : Nat → Int32), i + m = SS → m < n → INV S i cs → ∃ cs', g_X7_readSights_l23 nf n (nI i) cs sn sc (nI SS) = some cs' ∧ INV S SS cs' := by
  intro m
  have h8 := hW.1
  induction m with
  | zero =>
    intro i n cs hi hn hI
    obtain ⟨n, rfl⟩ := pred_ex hn
    obtain rfl : i = SS := by omega
    refine ⟨cs, ?_, hI⟩
    rw [g_X7_readSights_l23, if_pos (show nI i ≤ nI i from nI_le (Nat.le_refl i) (by omega))]
    split <;> rfl
  | succ m ih =>
    intro i n cs hi hn hI
    obtain ⟨n, rfl⟩ := pred_ex hn
    obtain ⟨w1, w2⟩ := hW.2 i (by omega)
    have d1 := hD.1 i (by omega)
    have d2 := hD.2.1 i (by omega)
    rw [g_X7_readSights_l23, if_neg (L_nge 8 (by omega) (by decide)), if_neg (nI_ge (show i < SS by omega) (by omega)), ck_nI (by omega) (by decide), ck_nI (by omega) (by decide), nI_clamp (by omega), d1, d2, w_t (L_in 0 40 (Nat.zero_le _) w1 (by decide)), Option.bind_some, if_neg (by decide), ck_nI (show S (2 * i) < 41 by omega) (by decide), ck_nI (show S (2 * i) < 41 by omega) (by decide), nI_clamp (by omega)]
    unfold g_X7_readSights_b86 g_X7_readSights_b91 g_X7_readSights_b110 g_X7_readSights_b111
    simp only [ck_nI (show S (2 * i) < 41 by omega) (show 41 < 2 ^ 31 by decide), nI_clamp (show S (2 * i) < 2 ^ 31 by omega), nI_1, i10, i00, if_false, if_true]
    have hag := hI (S (2 * i)) (by omega) (S (2 * i + 1)) w2
    by_cases q : cs (S (2 * i)) = -1 ∨ cs (S (2 * i)) = nI (S (2 * i + 1))
    · have e : ∀ (a b : Option (Nat → Int32)), (if cs (S (2 * i)) = -1 then a else if cs (S (2 * i)) = nI (S (2 * i + 1)) then a else b) = a := by
        intro a b
        rcases q with q | q
        · rw [if_pos q]
        · rw [if_pos q]; split <;> rfl
      rw [e]
      refine ih (i + 1) n _ (by omega) (by omega) ?_
      intro k hk v hv
      by_cases ek : k = S (2 * i)
      · subst ek
        rw [upd_eq]
        constructor
        · intro h j hj hS
          have hv' : S (2 * i + 1) = v := by
            rcases h with h | h
            · exact absurd h.symm (nI_m1 (by omega))
            · exact (nI_eq (by omega) (by omega)).mp h
          by_cases ej : j = i
          · subst ej; exact hv'
          · rw [← hv']; exact hag.mp q j (by omega) hS
        · intro h
          exact Or.inr (by rw [h i (by omega) rfl])
      · rw [upd_ne ek, hI k hk v hv]
        constructor
        · intro h j hj hS
          by_cases ej : j = i
          · subst ej; exact absurd hS.symm ek
          · exact h j (by omega) hS
        · intro h j hj hS
          exact h j (by omega) hS
    · rw [if_neg (fun h => q (Or.inl h)), if_neg (fun h => q (Or.inr h))]
      refine ih (i + 1) n _ (by omega) (by omega) ?_
      intro k hk v hv
      by_cases ek : k = S (2 * i)
      · subst ek
        rw [upd_eq]
        constructor
        · intro h
          rcases h with h | h
          · exact absurd h (by decide)
          · exact absurd h.symm (nI_m2 (by omega))
        · intro h
          refine absurd (hag.mpr ?_) q
          intro j hj hS
          rw [h i (by omega) rfl]
          exact h j (by omega) hS
      · rw [upd_ne ek, hI k hk v hv]
        constructor
        · intro h j hj hS
          by_cases ej : j = i
          · subst ej; exact absurd hS.symm ek
          · exact h j (by omega) hS
        · intro h j hj hS
          exact h j (by omega) hS
theorem rs_2 {sn sc : Nat → Int32} {sg : Int32} (hW : WS S SS) (hD : DS sn sc sg S SS) (hnf : 100 ≤ nf) : ∀ (m i n : Nat) (cs : Nat → Int32), i + m = 41 → m < n → (∀ k, k < i → cs k = -1) → ∃ cs', g_X7_readSights_l2 nf n (nI i) cs sn sc (nI SS) = some cs' ∧ INV S SS cs' := by
  intro m
  have h8 := hW.1
  induction m with
  | zero =>
    intro i n cs hi hn hI
    obtain ⟨n, rfl⟩ := pred_ex hn
    obtain rfl : i = 41 := by omega
    rw [g_X7_readSights_l2, if_pos (by decide)]
    exact rs_23 hW hD SS 0 nf cs (by omega) (by omega) (fun k hk v hv => ⟨fun _ j hj => absurd hj (Nat.not_lt_zero j), fun _ => Or.inl (hI k hk)⟩)
  | succ m ih =>
    intro i n cs hi hn hI
    obtain ⟨n, rfl⟩ := pred_ex hn
    rw [g_X7_readSights_l2, if_neg (L_nge 41 (by omega) (by decide)), ck_nI (by omega) (by decide), nI_clamp (by omega), nI_1]
    refine ih (i + 1) n _ (by omega) (by omega) fun k hk => ?_
    by_cases e : k = i
    · subst e; rw [upd_eq]
    · rw [upd_ne e, hI k (by omega)]
theorem fi_4 {s : Nat} {cs nx : Nat → Int32} (hs : s < 100) (hW : WS S SS) (hI : INV S SS cs) (hN : RT nx) : ∀ (m k n : Nat), k + m = 41 → m < n → g_X7_fits_l4 nf n (nI (itr k s)) (nI k) nx cs = some (if ∀ j, j < SS → k ≤ S (2 * j) → itr (S (2 * j)) s / 4 = S (2 * j + 1) then 1 else 0) := by
  intro m
  have h8 := hW.1
  induction m with
  | zero =>
    intro k n hi hn
    obtain ⟨n, rfl⟩ := pred_ex hn
    obtain rfl : k = 41 := by omega
    rw [g_X7_fits_l4, if_pos (by decide), bz_in (Or.inr rfl), if_pos]
    intro j h1 h2
    have := (hW.2 j (by omega)).1
    omega
  | succ m ih =>
    intro k n hi hn
    obtain ⟨n, rfl⟩ := pred_ex hn
    have hlt : itr k s < 100 := itr_lt _ _ hs
    have hk := hI k (by omega) (itr k s / 4) (by omega)
    rw [g_X7_fits_l4, if_neg (L_nge 41 (by omega) (by decide)), ck_nI (by omega) (by decide), ck_nI (by omega) (by decide), nI_clamp (by omega), show nI (itr k s) / 4 = nI (itr k s / 4) from pk_div (d := 4) (by omega) (by decide) (by decide)]
    unfold g_X7_fits_b34
    rw [ck_nI hlt (by decide), nI_clamp (by omega), hN _ hlt, ← itr_s, nI_1, ih (k + 1) n (by omega) (by omega)]
    have e : ∀ (a b : Option Int32), (if cs k = -1 then a else if cs k = nI (itr k s / 4) then a else b) = if cs k = -1 ∨ cs k = nI (itr k s / 4) then a else b := by
      intro a b
      by_cases q1 : cs k = -1
      · rw [if_pos q1, if_pos (Or.inl q1)]
      · rw [if_neg q1]
        by_cases q2 : cs k = nI (itr k s / 4)
        · rw [if_pos q2, if_pos (Or.inr q2)]
        · rw [if_neg q2, if_neg (fun h => h.elim q1 q2)]
    rw [e]
    by_cases q : cs k = -1 ∨ cs k = nI (itr k s / 4)
    · rw [if_pos q]
      congr 1
      have hq := hk.mp q
      by_cases z : ∀ j, j < SS → k + 1 ≤ S (2 * j) → itr (S (2 * j)) s / 4 = S (2 * j + 1)
      · rw [if_pos z, if_pos]
        intro j h1 h2
        by_cases e : S (2 * j) = k
        · rw [hq j h1 e, e]
        · exact z j h1 (by omega)
      · rw [if_neg z, if_neg (fun h => z fun j h1 h2 => h j h1 (by omega))]
    · rw [if_neg q, bz_in (Or.inl rfl), if_neg]
      intro h
      refine q (hk.mpr fun j hj e => ?_)
      have := h j hj (by omega)
      rw [e] at this
      exact this.symm
theorem s_fits {s : Nat} {cs nx : Nat → Int32} (hs : s < 100) (hW : WS S SS) (hI : INV S SS cs) (hN : RT nx) (hnf : 100 ≤ nf) : g_X7_fits nf (nI s) nx cs = some (if ft S SS s then 1 else 0) := by
  unfold g_X7_fits
  have := fi_4 (nf := nf) hs hW hI hN 41 0 nf (by omega) (by omega)
  rw [show itr 0 s = s from rfl] at this
  rw [show (0 : Int32) = nI 0 from rfl, this]
  congr 1
  unfold ft
  by_cases z : ∀ j, j < SS → itr (S (2 * j)) s / 4 = S (2 * j + 1)
  · rw [if_pos (fun j h1 _ => z j h1), decide_eq_true z]; rfl
  · rw [if_neg (fun h => z fun j h1 => h j h1 (Nat.zero_le _)), decide_eq_false z]; rfl
/-- the fitting starts, one behind the other -/
def SEL (P : Nat → Bool) (x : Nat) (starts : Nat → Int32) : Prop := ∀ s, s < x → P s = true → starts (cnt P s) = nI s
theorem cnt_s (P : Nat → Bool) (n : Nat) : cnt P (n + 1) = cnt P n + if P n then 1 else 0 := rfl
theorem cnt_mono (P : Nat → Bool) {a b : Nat} (h : a ≤ b) : cnt P a ≤ cnt P b := by
  obtain ⟨d, rfl⟩ : ∃ d, b = a + d := ⟨b - a, by omega⟩
  rw [cnt_add]; omega
theorem cnt_lt (P : Nat → Bool) {a b : Nat} (h : a < b) (hp : P a = true) : cnt P a < cnt P b := by
  have h1 := cnt_mono P (show a + 1 ≤ b by omega)
  rw [cnt_s, if_pos hp] at h1; omega
theorem cnt_ex (P : Nat → Bool) : ∀ (n i : Nat), i < cnt P n → ∃ s, s < n ∧ P s = true ∧ cnt P s = i := by
  intro n
  induction n with
  | zero => intro i h; exact absurd h (Nat.not_lt_zero i)
  | succ n ih =>
    intro i h
    rw [cnt_s] at h
    by_cases c : i < cnt P n
    · obtain ⟨s, h1, h2, h3⟩ := ih i c
      exact ⟨s, by omega, h2, h3⟩
    · by_cases q : P n = true
      · rw [if_pos q] at h
        exact ⟨n, by omega, q, by omega⟩
      · rw [if_neg q] at h; omega
theorem ga_12 {cs nx sn sc : Nat → Int32} {sg : Int32} (hW : WS S SS) (hI : INV S SS cs) (hN : RT nx) (hnf : 100 ≤ nf) : ∀ (m x n : Nat) (st : Nat → Int32), x + m = 100 → m < n → SEL (ft S SS) x st → ∃ st', g_X7_gather_l12 nf n (nI x) nx st cs (nI (cnt (ft S SS) x)) sn sc sg = some (st', cs, nI (cnt (ft S SS) 100)) ∧ SEL (ft S SS) 100 st' := by
  intro m
  induction m with
  | zero =>
    intro x n st hx hn hS
    obtain ⟨n, rfl⟩ := pred_ex hn
    obtain rfl : x = 100 := by omega
    exact ⟨st, by rw [g_X7_gather_l12, if_pos (by decide)], hS⟩
  | succ m ih =>
    intro x n st hx hn hS
    obtain ⟨n, rfl⟩ := pred_ex hn
    have hc := cnt_le (ft S SS) x
    rw [g_X7_gather_l12, if_neg (L_nge 100 (by omega) (by decide)), s_fits (by omega) hW hI hN hnf, Option.bind_some]
    unfold g_X7_gather_b46
    rw [nI_1, nI_1, ck_nI (show cnt (ft S SS) x < 100 by omega) (by decide), nI_clamp (by omega)]
    by_cases q : ft S SS x = true
    · rw [if_pos q, if_neg (by decide), show cnt (ft S SS) x + 1 = cnt (ft S SS) (x + 1) by rw [cnt_s, if_pos q]]
      refine ih (x + 1) n _ (by omega) (by omega) fun s hs hp => ?_
      by_cases e : s = x
      · subst e; rw [upd_eq]
      · have := cnt_lt (ft S SS) (show s < x by omega) hp
        rw [upd_ne (by omega), hS s (by omega) hp]
    · rw [if_neg q, if_pos rfl]
      have e : cnt (ft S SS) (x + 1) = cnt (ft S SS) x := by rw [cnt_s, if_neg q]; rfl
      have := ih (x + 1) n st (by omega) (by omega) fun s hs hp => ?_
      · rw [e] at this; exact this
      · by_cases e : s = x
        · subst e; exact absurd hp q
        · exact hS s (by omega) hp
theorem s_gather {cs nx sn sc st : Nat → Int32} {sg f : Int32} (hW : WS S SS) (hD : DS sn sc sg S SS) (hN : RT nx) (hnf : 300 ≤ nf) : ∃ st' cs', g_X7_gather nf nx st cs f sn sc sg = some (st', cs', nI (cnt (ft S SS) 100)) ∧ SEL (ft S SS) 100 st' := by
  obtain ⟨cs', h1, h2⟩ := rs_2 (nf := nf) hW hD (by omega) 41 0 nf cs (by omega) (by omega) (fun k hk => absurd hk (Nat.not_lt_zero k))
  obtain ⟨st', h3, h4⟩ := ga_12 (nf := nf) (sn := sn) (sc := sc) (sg := nI SS) hW h2 hN (by omega) 100 0 nf st (by omega) (by omega) (fun s hs => absurd hs (Nat.not_lt_zero s))
  refine ⟨st', cs', ?_, h4⟩
  unfold g_X7_gather g_X7_readSights
  rw [hD.2.2, show g_X7_readSights_l2 nf nf 0 cs sn sc (nI SS) = some cs' from h1, Option.bind_some]
  exact h3
end FIT
