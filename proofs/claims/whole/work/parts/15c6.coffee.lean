/-! ===== coffee ===== -/
theorem lg_0 {x : Int64} : lg_cmp x 0 = 0 ↔ x = 0 := by
  unfold lg_cmp
  constructor
  · intro h
    split at h
    · exact absurd h (by decide)
    · split at h
      · assumption
      · exact absurd h (by decide)
  · intro h
    subst h
    rw [if_neg (by decide), if_pos rfl]
theorem lN_0 {k : Nat} (h : k < 2 ^ 63) : lN k = 0 ↔ k = 0 := pk_lEQ (b := 0) h (by decide)
theorem gcd_st (g l : Nat) : Nat.gcd l (g % l) = Nat.gcd g l := by
  rw [Nat.gcd_comm g l, Nat.gcd_rec l g, Nat.gcd_comm]
def ZL (f : Nat → Int64) (V : Nat → Nat) : Prop := ∀ j, j < 10 → f j = lN (V j)
def ad (V : Nat → Nat) (e v : Nat) : Nat → Nat := upN V e (V e + v)
theorem ZL_ad {f : Nat → Int64} {V : Nat → Nat} {e v : Nat} {x : Int64} (h : ZL f V) (he : e < 10) (hx : x = lN v) : ZL (vp_updL f e (f e + x)) (ad V e v) := by
  intro j hj
  unfold ad
  by_cases c : j = e
  · subst c; rw [pk_uLs, upN_eq, h j hj, hx, lN_add]
  · rw [pk_uLn c, upN_ne c, h j hj]
def eas (m k : Nat) : Nat := if k < m then k + 1 else k
def mv (m a b : Nat) (W : Nat → Nat) : Nat → Nat → Nat
  | 0 => fun _ => 0
  | k + 1 => ad (ad (ad (mv m a b W k) (eas m k) (a * W k)) (k - 1) (b * W k)) k ((10 - a - b) * W k)
def tot (V : Nat → Nat) : Nat → Nat
  | 0 => 0
  | n + 1 => tot V n + V n
theorem tot_ad (V : Nat → Nat) (e v : Nat) : ∀ n, tot (ad V e v) n = tot V n + if e < n then v else 0
  | 0 => rfl
  | n + 1 => by
    rw [tot, tot, tot_ad V e v n]
    unfold ad
    by_cases c : n = e
    · subst c; rw [upN_eq, if_neg (by omega), if_pos (by omega)]; omega
    · rw [upN_ne c]
      by_cases d : e < n
      · rw [if_pos d, if_pos (by omega)]; omega
      · rw [if_neg d, if_neg (by omega)]; omega
theorem tot_mono (V : Nat → Nat) : ∀ {a b : Nat}, a ≤ b → tot V a ≤ tot V b := by
  intro a b h
  induction h with
  | refl => exact Nat.le_refl _
  | step _ ih => rw [tot]; omega
theorem tot_ge (V : Nat → Nat) {j n : Nat} (h : j < n) : V j ≤ tot V n := by
  have := tot_mono V (show j + 1 ≤ n by omega)
  rw [tot] at this; omega
theorem tot_mv {m a b : Nat} {W : Nat → Nat} (hm : m ≤ 9) (hab : a + b ≤ 10) : ∀ k, k ≤ m + 1 → tot (mv m a b W k) 10 = 10 * tot W k
  | 0, _ => rfl
  | k + 1, h => by
    have he : eas m k < 10 := by unfold eas; split <;> omega
    rw [mv, tot_ad, tot_ad, tot_ad, if_pos he, if_pos (by omega), if_pos (by omega), tot_mv hm hab k (by omega), tot, Nat.add_assoc, Nat.add_assoc, ← Nat.add_assoc (a * W k), ← Nat.add_mul, ← Nat.add_mul, show a + b + (10 - a - b) = 10 by omega, Nat.mul_add]
def cpL (f g : Nat → Int64) (b : Nat) : Nat → Int64 := fun k => if k < b then f k else g k
theorem cpL_0 (f g : Nat → Int64) : cpL f g 0 = g := by funext k; exact if_neg (by omega)
theorem cpL_s (f g : Nat → Int64) (c : Nat) : vp_updL (cpL f g c) c (f c) = cpL f g (c + 1) := by
  funext k
  unfold cpL
  by_cases e : k = c
  · subst e; rw [pk_uLs, if_pos (by omega)]
  · rw [pk_uLn e]
    by_cases h : k < c
    · rw [if_pos h, if_pos (by omega)]
    · rw [if_neg h, if_neg (by omega)]
section COF
variable {nf : Nat}
theorem mo_126 {mo : Nat → Int64} {pa : Int64} : ∀ (d x n : Nat) (sh : Nat → Int64), x + d = 10 → d < n → g_X2_move_l126 nf n (nI x) (cpL mo sh x) mo pa = some (cpL mo sh 10, mo, pa * 10) := by
  intro d
  induction d with
  | zero =>
    intro x n sh hx hn
    obtain ⟨n, rfl⟩ := pred_ex hn
    obtain rfl : x = 10 := by omega
    rw [g_X2_move_l126, if_pos (by decide)]
  | succ d ih =>
    intro x n sh hx hn
    obtain ⟨n, rfl⟩ := pred_ex hn
    rw [g_X2_move_l126, if_neg (L_ngt 9 (by omega) (by decide)), ck_nI (by omega) (by decide), ck_nI (by omega) (by decide), nI_clamp (by omega), cpL_s, nI_1]
    exact ih (x + 1) n sh (by omega) (by omega)
variable {m a b : Nat} {W : Nat → Nat}
theorem eas_I {k : Nat} (hk : k ≤ m) (hm : m ≤ 9) : (if nI m < nI k + 1 then nI m else nI k + 1) = nI (eas m k) := by
  rw [nI_1]; unfold eas
  by_cases c : k < m
  · rw [if_neg (nI_nlt (by omega) (by omega)), if_pos c]
  · rw [if_pos (nI_lt (by omega) (by omega)), if_neg c, show m = k by omega]
theorem wes_I {k : Nat} (hk : k ≤ 9) : (if nI k - 1 < 0 then 0 else nI k - 1) = nI (k - 1) := by
  by_cases c : k = 0
  · subst c; rfl
  · rw [show nI k - 1 = nI (k - 1) from pk_sub (b := 1) (by omega), if_neg (nI_pos (by omega))]
theorem mo_27 {sh : Nat → Int64} {pa : Int64} (hm : m ≤ 9) (hab : a + b ≤ 10) (hS : ZL sh W) (hnf : 100 ≤ nf) : ∀ (d k n : Nat) (mo : Nat → Int64), k + d = m + 1 → d < n → ZL mo (mv m a b W k) → ∃ sh' mo', g_X2_move_l27 nf n (nI m) (nI a) (nI b) (nI k) sh mo pa = some (sh', mo', pa * 10) ∧ ZL sh' (mv m a b W (m + 1)) := by
  have h10 : (10 : Int32) - nI a - nI b = nI (10 - a - b) := by
    rw [show (10 : Int32) = nI 10 from rfl, pk_sub (by omega), pk_sub (by omega)]
  intro d
  induction d with
  | zero =>
    intro k n mo hk hn hM
    obtain ⟨n, rfl⟩ := pred_ex hn
    obtain rfl : k = m + 1 := by omega
    have := mo_126 (nf := nf) (mo := mo) (pa := pa) 10 0 nf sh (by omega) (by omega)
    rw [cpL_0] at this
    refine ⟨cpL mo sh 10, mo, ?_, fun j hj => ?_⟩
    · rw [g_X2_move_l27, if_pos (nI_lt (by omega) (by omega))]; exact this
    · rw [← hM j hj]; exact if_pos hj
  | succ d ih =>
    intro k n mo hk hn hM
    obtain ⟨n, rfl⟩ := pred_ex hn
    have he : eas m k < 10 := by unfold eas; split <;> omega
    rw [g_X2_move_l27, if_neg (nI_nlt (by omega) (by omega)), if_neg (L_ngt 9 (by omega) (by decide)), eas_I (by omega) hm, wes_I (by omega), h10, ck_nI he (by decide), ck_nI (show k < 10 by omega) (by decide), ck_nI he (by decide), ck_nI (show k - 1 < 10 by omega) (by decide), ck_nI (show k < 10 by omega) (by decide), ck_nI (show k - 1 < 10 by omega) (by decide), ck_nI (show k < 10 by omega) (by decide), ck_nI (show k < 10 by omega) (by decide), ck_nI (show k < 10 by omega) (by decide), nI_clamp (show eas m k < 2 ^ 31 by omega), nI_clamp (show k - 1 < 2 ^ 31 by omega), nI_clamp (show k < 2 ^ 31 by omega), hS k (by omega), nI_l (by omega), nI_l (by omega), nI_l (by omega), lN_mul, lN_mul, lN_mul, nI_1]
    exact ih (k + 1) n _ (by omega) (by omega) (ZL_ad (ZL_ad (ZL_ad hM he rfl) (by omega) rfl) (by omega) rfl)
theorem mo_3 {sh : Nat → Int64} {pa : Int64} (hm : m ≤ 9) (hab : a + b ≤ 10) (hS : ZL sh W) (hnf : 100 ≤ nf) : ∀ (d x n : Nat) (mo : Nat → Int64), x + d = 10 → d < n → (∀ j, j < x → mo j = 0) → ∃ sh' mo', g_X2_move_l3 nf n (nI m) (nI a) (nI b) (nI x) sh mo pa = some (sh', mo', pa * 10) ∧ ZL sh' (mv m a b W (m + 1)) := by
  intro d
  induction d with
  | zero =>
    intro x n mo hx hn hM
    obtain ⟨n, rfl⟩ := pred_ex hn
    obtain rfl : x = 10 := by omega
    rw [g_X2_move_l3, if_pos (by decide)]
    exact mo_27 hm hab hS hnf (m + 1) 0 nf mo (by omega) (by omega) (fun j hj => hM j hj)
  | succ d ih =>
    intro x n mo hx hn hM
    obtain ⟨n, rfl⟩ := pred_ex hn
    rw [g_X2_move_l3, if_neg (L_ngt 9 (by omega) (by decide)), ck_nI (by omega) (by decide), nI_clamp (by omega), nI_1]
    refine ih (x + 1) n _ (by omega) (by omega) fun j hj => ?_
    by_cases e : j = x
    · subst e; rw [pk_uLs]
    · rw [pk_uLn e, hM j (by omega)]
abbrev CK := Int32 → Int32 → Int32 → Int32 → Int32 → Int32 → Int64 → Int32 → (Nat → Int64) → (Nat → Int64) → Option (Int64 × (Nat → Int64) × (Nat → Int64))
variable {x1 x5 x6 x7 x10 : Int32} {x8 : Int64}
theorem co_273 {x3 x4 : Int32} {nw : Nat → Int64} {K : CK} : ∀ (d x n : Nat) (wa : Nat → Int64), x + d = 10 → d < n → g_X9_coffee_l273 nf K n x1 x3 x4 x5 x6 x7 x8 x10 (nI x) (cpL nw wa x) nw = K x1 x3 x4 x5 x6 x7 x8 (x10 + 1) (cpL nw wa 10) nw := by
  intro d
  induction d with
  | zero =>
    intro x n sh hx hn
    obtain ⟨n, rfl⟩ := pred_ex hn
    obtain rfl : x = 10 := by omega
    rw [g_X9_coffee_l273, if_pos (by decide)]
  | succ d ih =>
    intro x n sh hx hn
    obtain ⟨n, rfl⟩ := pred_ex hn
    rw [g_X9_coffee_l273, if_neg (L_nge 10 (by omega) (by decide)), ck_nI (by omega) (by decide), ck_nI (by omega) (by decide), nI_clamp (by omega), cpL_s, nI_1]
    exact ih (x + 1) n sh (by omega) (by omega)
theorem co_166 {wa : Nat → Int64} (hm : m ≤ 9) (hab : a + b ≤ 10) (hS : ZL wa W) (hnf : 100 ≤ nf) : ∀ (d k n : Nat) (nw : Nat → Int64), k + d = m + 1 → d < n → ZL nw (mv m a b W k) → ∃ wa' nw', ZL wa' (mv m a b W (m + 1)) ∧ ∀ K : CK, g_X9_coffee_l166 nf K n (nI m) (nI a) (nI b) x5 x6 x7 x8 x10 (nI k) wa nw = K (nI m) (nI a) (nI b) x5 x6 x7 x8 (x10 + 1) wa' nw' := by
  have h10 : (10 : Int32) - nI a - nI b = nI (10 - a - b) := by
    rw [show (10 : Int32) = nI 10 from rfl, pk_sub (by omega), pk_sub (by omega)]
  intro d
  induction d with
  | zero =>
    intro k n nw hk hn hM
    obtain ⟨n, rfl⟩ := pred_ex hn
    obtain rfl : k = m + 1 := by omega
    refine ⟨cpL nw wa 10, nw, fun j hj => ?_, fun K => ?_⟩
    · rw [← hM j hj]; exact if_pos hj
    · have := co_273 (nf := nf) (x1 := nI m) (x5 := x5) (x6 := x6) (x7 := x7) (x10 := x10) (x8 := x8) (x3 := nI a) (x4 := nI b) (nw := nw) (K := K) 10 0 nf wa (by omega) (by omega)
      rw [cpL_0] at this
      rw [g_X9_coffee_l166, if_pos (nI_lt (by omega) (by omega))]; exact this
  | succ d ih =>
    intro k n nw hk hn hM
    obtain ⟨n, rfl⟩ := pred_ex hn
    have he : eas m k < 10 := by unfold eas; split <;> omega
    have hk10 : k < 10 := by omega
    have hw10 : k - 1 < 10 := by omega
    obtain ⟨wa', nw', k1, k2⟩ := ih (k + 1) n _ (by omega) (by omega) (ZL_ad (ZL_ad (ZL_ad hM he rfl) (show k - 1 < 10 by omega) rfl) (show k < 10 by omega) rfl)
    refine ⟨wa', nw', k1, fun K => ?_⟩
    rw [← k2 K, g_X9_coffee_l166, if_neg (nI_nlt (by omega) (by omega))]
    have e1 : ∀ A : Int32 → Option (Int64 × (Nat → Int64) × (Nat → Int64)), (if nI m ≤ nI k then A (nI k) else A (nI k + 1)) = A (nI (eas m k)) := by
      intro A; unfold eas
      by_cases c : k < m
      · rw [if_neg (nI_ge c (by omega)), if_pos c, nI_1]
      · rw [if_pos (nI_le (by omega) (by omega)), if_neg c]
    rw [e1 (fun s => g_X9_coffee_b191 nf K (g_X9_coffee_l166 nf K n) (nI m) (nI a) (nI b) x5 x6 x7 x8 x10 (nI k) s wa nw)]
    unfold g_X9_coffee_b191
    rw [ck_nI he (by decide), ck_nI hk10 (by decide), ck_nI he (by decide)]
    have e2 : ∀ (f : Nat → Int64), (if nI k ≤ 0 then g_X9_coffee_b223 nf K (g_X9_coffee_l166 nf K n) (nI m) (nI a) (nI b) x5 x6 x7 x8 x10 (nI k) (nI k) wa f else g_X9_coffee_b223 nf K (g_X9_coffee_l166 nf K n) (nI m) (nI a) (nI b) x5 x6 x7 x8 x10 (nI k) (nI k - 1) wa f) = g_X9_coffee_b223 nf K (g_X9_coffee_l166 nf K n) (nI m) (nI a) (nI b) x5 x6 x7 x8 x10 (nI k) (nI (k - 1)) wa f := by
      intro f
      by_cases c : k = 0
      · subst c; rw [if_pos (by decide)]
      · rw [if_neg (L_nle 0 (by omega) (by omega)), show nI k - 1 = nI (k - 1) from pk_sub (b := 1) (by omega)]
    rw [e2]
    unfold g_X9_coffee_b223
    rw [ck_nI hw10 (by decide), ck_nI hk10 (by decide), ck_nI hw10 (by decide), ck_nI hk10 (by decide), ck_nI hk10 (by decide), ck_nI hk10 (by decide), h10, nI_clamp (show eas m k < 2 ^ 31 by omega), nI_clamp (show k - 1 < 2 ^ 31 by omega), nI_clamp (show k < 2 ^ 31 by omega), hS k (by omega), nI_l (by omega), nI_l (by omega), nI_l (by omega), lN_mul, lN_mul, lN_mul, nI_1, Nat.mul_comm (W k) a, Nat.mul_comm (W k) b, Nat.mul_comm (W k)]
theorem co_142 {wa : Nat → Int64} (hm : m ≤ 9) (hab : a + b ≤ 10) (hS : ZL wa W) (hnf : 100 ≤ nf) : ∀ (d x n : Nat) (nw : Nat → Int64), x + d = 10 → d < n → (∀ j, j < x → nw j = 0) → ∃ wa' nw', ZL wa' (mv m a b W (m + 1)) ∧ ∀ K : CK, g_X9_coffee_l142 nf K n (nI m) (nI a) (nI b) x5 x6 x7 x8 x10 (nI x) wa nw = K (nI m) (nI a) (nI b) x5 x6 x7 x8 (x10 + 1) wa' nw' := by
  intro d
  induction d with
  | zero =>
    intro x n nw hx hn hM
    obtain ⟨n, rfl⟩ := pred_ex hn
    obtain rfl : x = 10 := by omega
    obtain ⟨wa', nw', k1, k2⟩ := co_166 (nf := nf) (x5 := x5) (x6 := x6) (x7 := x7) (x10 := x10) (x8 := x8) hm hab hS hnf (m + 1) 0 nf nw (by omega) (by omega) (fun j hj => hM j hj)
    exact ⟨wa', nw', k1, fun K => by rw [g_X9_coffee_l142, if_pos (by decide)]; exact k2 K⟩
  | succ d ih =>
    intro x n nw hx hn hM
    obtain ⟨n, rfl⟩ := pred_ex hn
    obtain ⟨wa', nw', k1, k2⟩ := ih (x + 1) n (vp_updL nw x 0) (by omega) (by omega) (fun j hj => by
      by_cases e : j = x
      · subst e; rw [pk_uLs]
      · rw [pk_uLn e, hM j (by omega)])
    refine ⟨wa', nw', k1, fun K => ?_⟩
    rw [← k2 K, g_X9_coffee_l142, if_neg (L_nge 10 (by omega) (by decide)), ck_nI (by omega) (by decide), nI_clamp (by omega), nI_1]
/-! the greatest common divisor -/
theorem gc_9 : ∀ (k g l i n : Nat), l < 2 ^ k → g < 2 ^ 62 → l < 2 ^ 62 → i + 2 * k ≤ 128 → 2 * k < n → g_X8_greatestCommon_l9 nf n (lN g) (lN l) (nI i) = some (lN (Nat.gcd g l)) := by
  intro k
  induction k with
  | zero =>
    intro g l i n hl hg hl2 hi hn
    obtain ⟨n, rfl⟩ := pred_ex hn
    obtain rfl : l = 0 := by omega
    rw [g_X8_greatestCommon_l9, Nat.gcd_zero_right]
    split
    · rfl
    · rw [if_pos (lg_0.mpr (show lN 0 = 0 from rfl))]
  | succ k ih =>
    intro g l i n hl hg hl2 hi hn
    obtain ⟨n, rfl⟩ := pred_ex hn
    rw [g_X8_greatestCommon_l9, if_neg (L_nge 128 (by omega) (by decide))]
    by_cases c : l = 0
    · subst c; rw [if_pos (lg_0.mpr (show lN 0 = 0 from rfl)), Nat.gcd_zero_right]
    · have hlne : ¬ lN l = 0 := fun h => c ((lN_0 (by omega)).mp h)
      have hr : g % l < l := Nat.mod_lt _ (by omega)
      rw [if_neg (fun h => hlne (lg_0.mp h)), dz_in hlne, pk_lRem (by omega) (by omega) (by omega), nI_1, ← gcd_st g l]
      obtain ⟨n, rfl⟩ := pred_ex (show 0 < n by omega)
      generalize g % l = r at hr
      rw [g_X8_greatestCommon_l9, if_neg (L_nge 128 (by omega) (by decide))]
      by_cases c2 : r = 0
      · subst c2; rw [if_pos (lg_0.mpr (show lN 0 = 0 from rfl)), Nat.gcd_zero_right]
      · have hrne : ¬ lN r = 0 := fun h => c2 ((lN_0 (by omega)).mp h)
        rw [if_neg (fun h => hrne (lg_0.mp h)), dz_in hrne, pk_lRem (by omega) (by omega) (by omega), nI_1, ← gcd_st l r]
        have h1 : l % r < r := Nat.mod_lt _ (by omega)
        have h2 : l % r + r ≤ l := by
          have h3 := Nat.mod_add_div l r
          have h4 : 1 ≤ l / r := (Nat.one_le_div_iff (by omega)).mpr (by omega)
          have h5 : r * 1 ≤ r * (l / r) := Nat.mul_le_mul_left r h4
          omega
        refine ih r (l % r) (i + 1 + 1) n ?_ (by omega) (by omega) (by omega) (by omega)
        rw [Nat.pow_succ] at hl
        omega
theorem co_319 {wa nw : Nat → Int64} {q : Nat} (hq : q < 10) : ∀ (y x n : Nat), y < n → x < 2 ^ 62 → y < 2 ^ 62 → 0 < Nat.gcd x y → g_X9_coffee_l319 nf n (nI q) x7 x8 (lN x) (lN y) wa nw = some (if x7 = 0 then wa q / lN (Nat.gcd x y) else x8 / lN (Nat.gcd x y), wa, nw) := by
  intro y
  induction y using Nat.strongRecOn with
  | ind y ih =>
    intro x n hn hx hy hg
    obtain ⟨n, rfl⟩ := pred_ex hn
    rw [g_X9_coffee_l319]
    by_cases c : y = 0
    · subst c
      rw [Nat.gcd_zero_right] at hg ⊢
      have hne : ¬ lN x = 0 := fun h => by have := (lN_0 (by omega)).mp h; omega
      rw [if_pos (lg_0.mpr (show lN 0 = 0 from rfl)), ck_nI hq (by decide), dz_in hne, dz_in hne, nI_clamp (by omega)]
      split <;> rfl
    · have hne : ¬ lN y = 0 := fun h => c ((lN_0 (by omega)).mp h)
      have hr : x % y < y := Nat.mod_lt _ (by omega)
      rw [if_neg (fun h => hne (lg_0.mp h)), dz_in hne, pk_lRem (by omega) (by omega) (by omega), ← gcd_st x y]
      exact ih (x % y) hr y n (by omega) (by omega) (by omega) (by rw [gcd_st]; exact hg)
end COF
def unit (p : Nat) : Nat → Nat := fun j => if j = p then 1 else 0
theorem tb_tot : ∀ p, p < 10 → tot (unit p) 10 = 1 := by decide +kernel
def itm (m a b : Nat) : Nat → (Nat → Nat) → (Nat → Nat)
  | 0, W => W
  | d + 1, W => itm m a b d (mv m a b W (m + 1))
def fin7 (x7 : Int32) (u v : Nat) : Int64 := if x7 = 0 then lN u / lN (Nat.gcd u v) else lN v / lN (Nat.gcd u v)
theorem mv_tot {m a b k : Nat} {W : Nat → Nat} (hm : m ≤ 9) (hab : a + b ≤ 10) (h : tot W 10 ≤ 10 ^ k) : tot (mv m a b W (m + 1)) 10 ≤ 10 ^ (k + 1) := by
  rw [tot_mv hm hab (m + 1) (Nat.le_refl _), Nat.pow_succ]
  have := tot_mono W (show m + 1 ≤ 10 by omega)
  omega
section COF2
variable {nf m a b : Nat}
theorem po_2 {p : Nat} (hp : p < 10) {pa : Int64} : ∀ (d x n : Nat) (sh : Nat → Int64), x + d = 10 → d < n → (∀ j, j < x → sh j = lN (unit p j)) → ∃ sh', g_X2_pour_l2 nf n (nI p) (nI x) sh pa = some (sh', 1) ∧ ZL sh' (unit p) := by
  intro d
  induction d with
  | zero =>
    intro x n sh hx hn hM
    obtain ⟨n, rfl⟩ := pred_ex hn
    obtain rfl : x = 10 := by omega
    exact ⟨sh, by rw [g_X2_pour_l2, if_pos (by decide)], hM⟩
  | succ d ih =>
    intro x n sh hx hn hM
    obtain ⟨n, rfl⟩ := pred_ex hn
    have hx10 : x < 10 := by omega
    obtain ⟨sh', k1, k2⟩ := ih (x + 1) n (vp_updL sh x (lN (unit p x))) (by omega) (by omega) (fun j hj => by
      by_cases e : j = x
      · subst e; rw [pk_uLs]
      · rw [pk_uLn e, hM j (by omega)])
    refine ⟨sh', ?_, k2⟩
    rw [← k1, g_X2_pour_l2, if_neg (L_ngt 9 (by omega) (by decide))]
    unfold g_X2_pour_b23
    rw [ck_nI hx10 (by decide), ck_nI hx10 (by decide), nI_clamp (by omega), nI_1]
    by_cases e : x = p
    · rw [if_pos (show nI x = nI p by rw [e]), show unit p x = 1 from if_pos e]; rfl
    · rw [if_neg (fun z => e ((nI_eq (by omega) (by omega)).mp z)), show unit p x = 0 from if_neg e]; rfl
theorem c8_112 {N q : Nat} {x7 : Int32} (hm : m ≤ 9) (hab : a + b ≤ 10) (hq : q < 10) (hN : N ≤ 16) (hnf : 200 ≤ nf) : ∀ (d k n : Nat) (W : Nat → Nat) (sh mo : Nat → Int64), k + d = N → d < n → ZL sh W → tot W 10 ≤ 10 ^ k → ∃ q1, g_X8_coffee_l112 nf n (nI m) (nI a) (nI b) (nI N) (nI q) x7 (nI k) sh mo (lN (10 ^ k)) = some q1 ∧ q1.1 = fin7 x7 (itm m a b d W q) (10 ^ N) := by
  have hp16 : 10 ^ N ≤ 10 ^ 16 := Nat.pow_le_pow_right (by decide) hN
  have hp : 10 ^ 0 ≤ 10 ^ N := Nat.pow_le_pow_right (by decide) (Nat.zero_le N)
  intro d
  induction d with
  | zero =>
    intro k n W sh mo hk hn hS hT
    obtain ⟨n, rfl⟩ := pred_ex hn
    have ek : k = N := by omega
    rw [ek] at hT
    rw [ek]
    have hWq : W q ≤ 10 ^ N := Nat.le_trans (tot_ge W hq) hT
    have hp1 : 0 < 10 ^ N := by omega
    have hg : 0 < Nat.gcd (W q) (10 ^ N) := Nat.gcd_pos_of_pos_right _ hp1
    have hgl : Nat.gcd (W q) (10 ^ N) ≤ 10 ^ N := Nat.le_of_dvd hp1 (Nat.gcd_dvd_right _ _)
    have hgne : ¬ lN (Nat.gcd (W q) (10 ^ N)) = 0 := fun h => by
      have := (lN_0 (show Nat.gcd (W q) (10 ^ N) < 2 ^ 63 by omega)).mp h
      omega
    have e1 : g_X2_share nf (nI q) sh = some (lN (W q)) := by
      unfold g_X2_share
      rw [if_neg (nI_pos (by omega)), if_neg (L_ngt 9 (by omega) (by decide)), ck_nI hq (by decide), nI_clamp (by omega), hS q hq]
    have e2 : g_X8_greatestCommon nf (lN (10 ^ N)) (lN (W q)) = some (lN (Nat.gcd (W q) (10 ^ N))) := by
      rw [Nat.gcd_comm]
      exact gc_9 62 (10 ^ N) (W q) 0 nf (by omega) (by omega) (by omega) (by omega) (by omega)
    rw [g_X8_coffee_l112, if_pos (nI_le (Nat.le_refl _) (by omega)), e1, Option.bind_some, e2, Option.bind_some, if_neg (fun h => hgne (lg_0.mp h)), dz_in hgne, dz_in hgne]
    by_cases z : x7 = 0
    · exact ⟨_, by rw [if_pos z], by unfold fin7; rw [if_pos z]; rfl⟩
    · exact ⟨_, by rw [if_neg z], by unfold fin7; rw [if_neg z]; rfl⟩
  | succ d ih =>
    intro k n W sh mo hk hn hS hT
    obtain ⟨n, rfl⟩ := pred_ex hn
    obtain ⟨sh', mo', k1, k2⟩ := mo_3 (nf := nf) (pa := lN (10 ^ k)) hm hab hS (by omega) 10 0 nf mo (by omega) (by omega) (fun j hj => absurd hj (Nat.not_lt_zero j))
    rw [g_X8_coffee_l112, if_neg (nI_ge (show k < N by omega) (by omega)), show g_X2_move nf (nI m) (nI a) (nI b) sh mo (lN (10 ^ k)) = _ from k1, Option.bind_some, nI_1, show lN (10 ^ k) * 10 = lN (10 ^ (k + 1)) from lN_mul _ 10]
    exact ih (k + 1) n _ sh' mo' (by omega) (by omega) k2 (mv_tot hm hab hT)
theorem c9_124 {N q : Nat} {x7 : Int32} (hm : m ≤ 9) (hab : a + b ≤ 10) (hq : q < 10) (hN : N ≤ 16) (hnf : 10 ^ 16 < nf) : ∀ (d k n : Nat) (W : Nat → Nat) (wa nw : Nat → Int64), k + d = N → d < n → ZL wa W → tot W 10 ≤ 10 ^ k → ∃ q1, g_X9_coffee_l124 nf n (nI m) (nI a) (nI b) (nI N) (nI q) x7 (lN (10 ^ k)) (nI k) wa nw = some q1 ∧ q1.1 = fin7 x7 (itm m a b d W q) (10 ^ N) := by
  have hp16 : 10 ^ N ≤ 10 ^ 16 := Nat.pow_le_pow_right (by decide) hN
  have hp : 10 ^ 0 ≤ 10 ^ N := Nat.pow_le_pow_right (by decide) (Nat.zero_le N)
  intro d
  induction d with
  | zero =>
    intro k n W wa nw hk hn hS hT
    obtain ⟨n, rfl⟩ := pred_ex hn
    have ek : k = N := by omega
    rw [ek] at hT
    rw [ek]
    have hWq : W q ≤ 10 ^ N := Nat.le_trans (tot_ge W hq) hT
    have hp1 : 0 < 10 ^ N := by omega
    rw [g_X9_coffee_l124, if_pos (nI_le (Nat.le_refl _) (by omega)), ck_nI hq (by decide), nI_clamp (by omega), hS q hq, co_319 hq (10 ^ N) (W q) nf (by omega) (by omega) (by omega) (Nat.gcd_pos_of_pos_right _ hp1)]
    refine ⟨_, rfl, ?_⟩
    show (if x7 = 0 then wa q / lN (Nat.gcd (W q) (10 ^ N)) else lN (10 ^ N) / lN (Nat.gcd (W q) (10 ^ N))) = _
    rw [hS q hq]; rfl
  | succ d ih =>
    intro k n W wa nw hk hn hS hT
    obtain ⟨n, rfl⟩ := pred_ex hn
    obtain ⟨wa', nw', k1, k2⟩ := co_142 (nf := nf) (x5 := nI N) (x6 := nI q) (x7 := x7) (x10 := nI k) (x8 := lN (10 ^ k) * 10) hm hab hS (by omega) 10 0 nf nw (by omega) (by omega) (fun j hj => absurd hj (Nat.not_lt_zero j))
    rw [g_X9_coffee_l124, if_neg (nI_ge (show k < N by omega) (by omega)), show g_X9_coffee_l142 nf (g_X9_coffee_l124 nf n) nf (nI m) (nI a) (nI b) (nI N) (nI q) x7 (lN (10 ^ k) * 10) (nI k) 0 wa nw = _ from k2 _, nI_1, show lN (10 ^ k) * 10 = lN (10 ^ (k + 1)) from lN_mul _ 10]
    exact ih (k + 1) n _ wa' nw' (by omega) (by omega) k1 (mv_tot hm hab hT)
theorem c9_87 {p : Nat} {q7 q6 : Int32} (hp : p < 10) {na nb : Int32} {x5 : Int32} : ∀ (d x n : Nat) (wa nw : Nat → Int64), x + d = 10 → d < n → (∀ j, j < x → wa j = lN (unit p j)) → ∃ wa', ZL wa' (unit p) ∧ g_X9_coffee_l87 nf n (nI m) (nI p) na nb x5 q6 q7 (nI x) wa nw = g_X9_coffee_l124 nf nf (nI m) na nb x5 q6 q7 1 0 wa' nw := by
  intro d
  induction d with
  | zero =>
    intro x n wa nw hx hn hM
    obtain ⟨n, rfl⟩ := pred_ex hn
    obtain rfl : x = 10 := by omega
    exact ⟨wa, hM, by rw [g_X9_coffee_l87, if_pos (by decide)]⟩
  | succ d ih =>
    intro x n wa nw hx hn hM
    obtain ⟨n, rfl⟩ := pred_ex hn
    have hx10 : x < 10 := by omega
    obtain ⟨wa', k1, k2⟩ := ih (x + 1) n (vp_updL wa x (lN (unit p x))) nw (by omega) (by omega) (fun j hj => by
      by_cases e : j = x
      · subst e; rw [pk_uLs]
      · rw [pk_uLn e, hM j (by omega)])
    refine ⟨wa', k1, ?_⟩
    rw [← k2, g_X9_coffee_l87, if_neg (L_nge 10 (by omega) (by decide))]
    unfold g_X9_coffee_b111
    rw [ck_nI hx10 (by decide), ck_nI hx10 (by decide), nI_clamp (by omega), nI_1]
    by_cases e : x = p
    · rw [if_pos (show nI x = nI p by rw [e]), show unit p x = 1 from if_pos e]; rfl
    · rw [if_neg (fun z => e ((nI_eq (by omega) (by omega)).mp z)), show unit p x = 0 from if_neg e]; rfl
end COF2
theorem cf8_bad {nf : Nat} {p1 p2 p3 p4 p5 p6 p7 : Int32} {sh mo : Nat → Int64} {pa : Int64} (h : ¬ ((0 ≤ p1 ∧ p1 ≤ 9) ∧ (0 ≤ p2 ∧ p2 ≤ p1) ∧ (0 ≤ p6 ∧ p6 ≤ p1) ∧ (0 ≤ p3 ∧ p3 ≤ 10) ∧ (0 ≤ p4 ∧ p4 ≤ 10 - p3) ∧ (0 ≤ p5 ∧ p5 ≤ 16) ∧ (0 ≤ p7 ∧ p7 ≤ 1))) : g_X8_coffee nf p1 p2 p3 p4 p5 p6 p7 sh mo pa = some (-1000000000000000002, sh, mo, pa) := by
  simp only [g_X8_coffee, g_X8_coffee_b33, g_X8_coffee_b34, g_X8_coffee_b63, g_X8_coffee_b64, s_within, Option.bind_some, if10, i00, i10, if_true, if_false]
  by_cases c1 : 0 ≤ p1 ∧ p1 ≤ 9
  · rw [if_neg (fun z => z c1)]
    by_cases c2 : 0 ≤ p2 ∧ p2 ≤ p1
    · rw [if_neg (fun z => z c2)]
      by_cases c6 : 0 ≤ p6 ∧ p6 ≤ p1
      · rw [if_neg (fun z => z c6)]
        by_cases c3 : 0 ≤ p3 ∧ p3 ≤ 10
        · rw [if_neg (fun z => z c3)]
          by_cases c4 : 0 ≤ p4 ∧ p4 ≤ 10 - p3
          · rw [if_neg (fun z => z c4)]
            by_cases c5 : 0 ≤ p5 ∧ p5 ≤ 16
            · rw [if_neg (fun z => z c5)]
              rw [if_pos (fun c7 => h ⟨c1, c2, c6, c3, c4, c5, c7⟩)]
            · rw [if_pos c5]
          · rw [if_pos c4]
        · rw [if_pos c3]
      · rw [if_pos c6]; split <;> first | rfl | (split <;> rfl)
    · rw [if_pos c2]; split <;> first | rfl | (split <;> rfl)
  · rw [if_pos c1]; split <;> first | rfl | (split <;> rfl)
theorem cf8_ok {nf : Nat} {p1 p2 p3 p4 p5 p6 p7 : Int32} {sh mo : Nat → Int64} {pa : Int64} (c1 : 0 ≤ p1 ∧ p1 ≤ 9) (c2 : 0 ≤ p2 ∧ p2 ≤ p1) (c6 : 0 ≤ p6 ∧ p6 ≤ p1) (c3 : 0 ≤ p3 ∧ p3 ≤ 10) (c4 : 0 ≤ p4 ∧ p4 ≤ 10 - p3) (c5 : 0 ≤ p5 ∧ p5 ≤ 16) (c7 : 0 ≤ p7 ∧ p7 ≤ 1) : g_X8_coffee nf p1 p2 p3 p4 p5 p6 p7 sh mo pa = (g_X2_pour nf p2 sh pa).bind fun q5 => g_X8_coffee_l112 nf nf p1 p3 p4 p5 p6 p7 0 q5.1 mo q5.2 := by
  unfold g_X8_coffee g_X8_coffee_b34 g_X8_coffee_b64
  rw [w_t c1, Option.bind_some, if_neg (by decide), w_t c2, Option.bind_some, if_neg (by decide), w_t c6, Option.bind_some, if_neg (by decide), w_t c3, Option.bind_some, if_neg (by decide), w_t c4, Option.bind_some, if_neg (by decide), if_neg (by decide), if_neg (by decide), w_t c5, Option.bind_some, if_neg (by decide), w_t c7, Option.bind_some, if_neg (by decide)]
theorem cf9_bad {nf : Nat} {p1 p2 p3 p4 p5 p6 p7 : Int32} {wa nw : Nat → Int64} (h : ¬ ((0 ≤ p1 ∧ p1 ≤ 9) ∧ (0 ≤ p2 ∧ p2 ≤ p1) ∧ (0 ≤ p3 ∧ p3 ≤ 10) ∧ (0 ≤ p4 ∧ p4 ≤ 10) ∧ (¬ 10 < p3 + p4) ∧ (0 ≤ p5 ∧ p5 ≤ 16) ∧ (0 ≤ p6 ∧ p6 ≤ p1) ∧ (0 ≤ p7 ∧ p7 ≤ 1))) : g_X9_coffee nf p1 p2 p3 p4 p5 p6 p7 wa nw = some (-1000000000000000002, wa, nw) := by
  simp only [g_X9_coffee, s_in, Option.bind_some, if10]
  by_cases c1 : 0 ≤ p1 ∧ p1 ≤ 9
  · rw [if_neg (fun z => z c1)]
    by_cases c2 : 0 ≤ p2 ∧ p2 ≤ p1
    · rw [if_neg (fun z => z c2)]
      by_cases c3 : 0 ≤ p3 ∧ p3 ≤ 10
      · rw [if_neg (fun z => z c3)]
        by_cases c4 : 0 ≤ p4 ∧ p4 ≤ 10
        · rw [if_neg (fun z => z c4)]
          by_cases c8 : 10 < p3 + p4
          · rw [if_pos c8]
          · rw [if_neg c8]
            by_cases c5 : 0 ≤ p5 ∧ p5 ≤ 16
            · rw [if_neg (fun z => z c5)]
              by_cases c6 : 0 ≤ p6 ∧ p6 ≤ p1
              · rw [if_neg (fun z => z c6), if_pos (fun c7 => h ⟨c1, c2, c3, c4, c8, c5, c6, c7⟩)]
              · rw [if_pos c6]
            · rw [if_pos c5]
        · rw [if_pos c4]
      · rw [if_pos c3]
    · rw [if_pos c2]
  · rw [if_pos c1]
theorem cf9_ok {nf : Nat} {p1 p2 p3 p4 p5 p6 p7 : Int32} {wa nw : Nat → Int64} (c1 : 0 ≤ p1 ∧ p1 ≤ 9) (c2 : 0 ≤ p2 ∧ p2 ≤ p1) (c3 : 0 ≤ p3 ∧ p3 ≤ 10) (c4 : 0 ≤ p4 ∧ p4 ≤ 10) (c8 : ¬ 10 < p3 + p4) (c5 : 0 ≤ p5 ∧ p5 ≤ 16) (c6 : 0 ≤ p6 ∧ p6 ≤ p1) (c7 : 0 ≤ p7 ∧ p7 ≤ 1) : g_X9_coffee nf p1 p2 p3 p4 p5 p6 p7 wa nw = g_X9_coffee_l87 nf nf p1 p2 p3 p4 p5 p6 p7 0 wa nw := by
  unfold g_X9_coffee
  rw [n_t c1, Option.bind_some, if_neg (by decide), n_t c2, Option.bind_some, if_neg (by decide), n_t c3, Option.bind_some, if_neg (by decide), n_t c4, Option.bind_some, if_neg (by decide), if_neg c8, n_t c5, Option.bind_some, if_neg (by decide), n_t c6, Option.bind_some, if_neg (by decide), n_t c7, Option.bind_some, if_neg (by decide)]
/-- the two ways to say that a and b are tenths -/
theorem cf_ab {p3 p4 : Int32} (c3 : 0 ≤ p3 ∧ p3 ≤ 10) : (0 ≤ p4 ∧ p4 ≤ 10 - p3) ↔ ((0 ≤ p4 ∧ p4 ≤ 10) ∧ ¬ 10 < p3 + p4) := by
  obtain ⟨a, ha, rfl⟩ := rngN (k := 10) (by decide) c3
  rw [show (10 : Int32) - nI a = nI (10 - a) from pk_sub (a := 10) ha]
  constructor
  · intro h
    obtain ⟨b, hb, rfl⟩ := rngN (k := 10 - a) (by omega) h
    exact ⟨L_in 0 10 (Nat.zero_le _) (by omega) (by decide), by rw [nI_add]; exact L_ngt 10 (by omega) (by decide)⟩
  · intro h
    obtain ⟨b, hb, rfl⟩ := rngN (k := 10) (by decide) h.1
    have h2 := h.2
    rw [nI_add, show (10 : Int32) = nI 10 from rfl, nI_ltI (by decide) (by omega)] at h2
    exact ⟨h.1.1, nI_le (by omega) (by omega)⟩
theorem st_coffee : St_coffee := by
  intro n_lands n_camphors n_there n_mothCells n_mothHeads n_threads n_sightNights n_sightCells n_sights n_night u_lands u_camphors u_there u_mothCells u_mothHeads u_threads u_sightNights u_sightCells u_sights u_night v_lands v_camphors v_there v_mothCells v_mothHeads v_threads v_sightNights v_sightCells v_sights v_night kept p_signs p_size t_next_ book sights sight signs pad image isKept m_shares m_moved m_parts ways nextWays p1 p2 p3 p4 p5 p6 p7 hR
  obtain ⟨⟨B, S, SS, hW, hDB, hMB, hWS, hDS, hMS⟩, hRP, hI0, hI1, hRT⟩ := hR
  obtain ⟨nf, hnf⟩ : ∃ nf : Nat, 10 ^ 16 < nf := ⟨10 ^ 17, by decide⟩
  suffices hh : ∃ q1 q2, g_X8_coffee nf p1 p2 p3 p4 p5 p6 p7 m_shares m_moved m_parts = some q1 ∧ g_X9_coffee nf p1 p2 p3 p4 p5 p6 p7 ways nextWays = some q2 ∧ q1.1 = q2.1 by
    obtain ⟨q1, q2, h1, h2, h3⟩ := hh
    exact ⟨nf, q1, q2, h1, h2, h3, ⟨B, S, SS, hW, hDB, hMB, hWS, hDS, hMS⟩, hRP, hI0, hI1, hRT⟩
  by_cases c : (0 ≤ p1 ∧ p1 ≤ 9) ∧ (0 ≤ p2 ∧ p2 ≤ p1) ∧ (0 ≤ p6 ∧ p6 ≤ p1) ∧ (0 ≤ p3 ∧ p3 ≤ 10) ∧ (0 ≤ p4 ∧ p4 ≤ 10 - p3) ∧ (0 ≤ p5 ∧ p5 ≤ 16) ∧ (0 ≤ p7 ∧ p7 ≤ 1)
  · obtain ⟨c1, c2, c6, c3, c4, c5, c7⟩ := c
    have c4' := (cf_ab c3).mp c4
    have e8 := cf8_ok (nf := nf) (sh := m_shares) (mo := m_moved) (pa := m_parts) c1 c2 c6 c3 c4 c5 c7
    have e9 := cf9_ok (nf := nf) (wa := ways) (nw := nextWays) c1 c2 c3 c4'.1 c4'.2 c5 c6 c7
    obtain ⟨m, hm, rfl⟩ := rngN (k := 9) (by decide) c1
    obtain ⟨p, hp, rfl⟩ := rngN (k := m) (by omega) c2
    obtain ⟨q, hq, rfl⟩ := rngN (k := m) (by omega) c6
    obtain ⟨a, ha, rfl⟩ := rngN (k := 10) (by decide) c3
    obtain ⟨b, hb, rfl⟩ := rngN (k := 10 - a) (by omega) (by rw [show (10 : Int32) - nI a = nI (10 - a) from pk_sub (a := 10) ha] at c4; exact c4)
    obtain ⟨N, hN, rfl⟩ := rngN (k := 16) (by decide) c5
    obtain ⟨sh', k1, k2⟩ := po_2 (nf := nf) (p := p) (pa := m_parts) (by omega) 10 0 nf m_shares (by omega) (by omega) (fun j hj => absurd hj (Nat.not_lt_zero j))
    obtain ⟨q1, k3, k4⟩ := c8_112 (nf := nf) (m := m) (a := a) (b := b) (N := N) (q := q) (x7 := p7) hm (by omega) (by omega) hN (by omega) N 0 nf _ sh' m_moved (by omega) (by omega) k2 (by rw [tb_tot p (by omega)]; decide)
    obtain ⟨wa', k5, k6⟩ := c9_87 (nf := nf) (m := m) (p := p) (q7 := p7) (q6 := nI q) (na := nI a) (nb := nI b) (x5 := nI N) (by omega) 10 0 nf ways nextWays (by omega) (by omega) (fun j hj => absurd hj (Nat.not_lt_zero j))
    obtain ⟨q2, k7, k8⟩ := c9_124 (nf := nf) (m := m) (a := a) (b := b) (N := N) (q := q) (x7 := p7) hm (by omega) (by omega) hN (by omega) N 0 nf _ wa' nextWays (by omega) (by omega) k5 (by rw [tb_tot p (by omega)]; decide)
    refine ⟨q1, q2, ?_, ?_, by rw [k4, k8]⟩
    · rw [e8, show g_X2_pour nf (nI p) m_shares m_parts = _ from k1, Option.bind_some]
      exact k3
    · rw [e9, show g_X9_coffee_l87 nf nf (nI m) (nI p) (nI a) (nI b) (nI N) (nI q) p7 0 ways nextWays = _ from k6]
      exact k7
  · refine ⟨_, _, cf8_bad c, cf9_bad (fun h => c ?_), rfl⟩
    obtain ⟨c1, c2, c3, c4, c8, c5, c6, c7⟩ := h
    exact ⟨c1, c2, c6, c3, (cf_ab c3).mpr ⟨c4, c8⟩, c5, c7⟩
