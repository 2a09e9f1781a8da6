/-! ===== bits and counts ===== -/
theorem s_l : ∀ n, n < 32 → ((nI n &&& 31).toBitVec.smod 32).toNat = n := by decide +kernel
theorem an_I (a b : Nat) : nI a &&& nI b = nI (a &&& b) := by
  apply Int32.toBitVec_inj.mp
  rw [Int32.toBitVec_and]
  apply BitVec.eq_of_toNat_eq
  rw [BitVec.toNat_and]
  show (BitVec.ofNat 32 a).toNat &&& (BitVec.ofNat 32 b).toNat = (BitVec.ofNat 32 (a &&& b)).toNat
  rw [BitVec.toNat_ofNat, BitVec.toNat_ofNat, BitVec.toNat_ofNat, Nat.and_mod_two_pow]
theorem or_I (a b : Nat) : nI a ||| nI b = nI (a ||| b) := by
  apply Int32.toBitVec_inj.mp
  rw [Int32.toBitVec_or]
  apply BitVec.eq_of_toNat_eq
  rw [BitVec.toNat_or]
  show (BitVec.ofNat 32 a).toNat ||| (BitVec.ofNat 32 b).toNat = (BitVec.ofNat 32 (a ||| b)).toNat
  rw [BitVec.toNat_ofNat, BitVec.toNat_ofNat, BitVec.toNat_ofNat, Nat.or_mod_two_pow]
theorem two_lt {c k : Nat} (h : c < k) : 2 ^ c < 2 ^ k := Nat.pow_lt_pow_right (by decide) h
theorem shl1 {c : Nat} (h : c < 31) : (1 : Int32) <<< (nI c &&& 31) = nI (2 ^ c) := by
  have := pk_shlN (n := 1) (nI c &&& 31) c (s_l c (by omega)) (by rw [Nat.one_mul]; exact two_lt (by omega))
  rw [Nat.one_mul] at this
  exact this
theorem shrN {m k : Nat} (hm : m < 2 ^ 31) (hk : k < 32) : nI m >>> (nI k &&& 31) = nI (m / 2 ^ k) := pk_shrN hm _ k (s_l k hk)
theorem and1 {m : Nat} : nI m &&& (1 : Int32) = nI (m % 2) := by
  rw [show (1 : Int32) = nI 1 from rfl, an_I, Nat.and_one_is_mod]
theorem bitK {m k : Nat} (hm : m < 2 ^ 31) (hk : k < 32) : (nI m >>> (nI k &&& 31)) &&& (1 : Int32) = nI (m / 2 ^ k % 2) := by rw [shrN hm hk, and1]
/-- a mask by its bits -/
def mk (P : Nat → Bool) : Nat → Nat
  | 0 => 0
  | n + 1 => mk P n ||| (if P n then 2 ^ n else 0)
def cnt (P : Nat → Bool) : Nat → Nat
  | 0 => 0
  | n + 1 => cnt P n + (if P n then 1 else 0)
theorem mk_bit (P : Nat → Bool) : ∀ n i, (mk P n).testBit i = (decide (i < n) && P i)
  | 0, i => by simp [mk]
  | n + 1, i => by
    rw [mk, Nat.testBit_or, mk_bit P n i]
    by_cases h : P n = true
    · rw [if_pos h, Nat.testBit_two_pow]
      by_cases e : n = i
      · subst e; simp [h]
      · by_cases h2 : i < n
        · simp [h2, e, show i < n + 1 by omega]
        · simp [h2, e, show ¬ i < n + 1 by omega]
    · rw [if_neg h]
      by_cases e : n = i
      · subst e; simp [h]
      · by_cases h2 : i < n
        · simp [h2, show i < n + 1 by omega]
        · simp [h2, show ¬ i < n + 1 by omega]
theorem mk_lt (P : Nat → Bool) (n : Nat) : mk P n < 2 ^ n := by
  apply Nat.lt_pow_two_of_testBit
  intro i hi
  rw [mk_bit, decide_eq_false (by omega), Bool.false_and]
theorem cnt_le (P : Nat → Bool) : ∀ n, cnt P n ≤ n
  | 0 => Nat.le_refl _
  | n + 1 => by have := cnt_le P n; rw [cnt]; split <;> omega
theorem cnt_cong {P Q : Nat → Bool} : ∀ {n : Nat}, (∀ k, k < n → P k = Q k) → cnt P n = cnt Q n
  | 0, _ => rfl
  | n + 1, h => by rw [cnt, cnt, cnt_cong (fun k hk => h k (by omega)), h n (by omega)]
theorem cnt_add (P : Nat → Bool) (m : Nat) : ∀ n, cnt P (m + n) = cnt P m + cnt (fun k => P (m + k)) n
  | 0 => rfl
  | n + 1 => by rw [← Nat.add_assoc, cnt, cnt, cnt_add P m n, Nat.add_assoc]
/-! the count of bits as the JDK does it -/
theorem and_cat {a x m M : Nat} (ha : a < 256) (hm : m < 256) : (a + 256 * x) &&& (m + 256 * M) = (a &&& m) + 256 * (x &&& M) := by
  have h1 : ((a + 256 * x) &&& (m + 256 * M)) % 2 ^ 8 = a &&& m := by
    rw [Nat.and_mod_two_pow, show (a + 256 * x) % 2 ^ 8 = a by omega, show (m + 256 * M) % 2 ^ 8 = m by omega]
  have h2 : ((a + 256 * x) &&& (m + 256 * M)) / 2 ^ 8 = x &&& M := by
    rw [Nat.and_div_two_pow, show (a + 256 * x) / 2 ^ 8 = x by omega, show (m + 256 * M) / 2 ^ 8 = M by omega]
  have := Nat.div_add_mod ((a + 256 * x) &&& (m + 256 * M)) (2 ^ 8)
  rw [h1, h2] at this
  omega
theorem tb1 : ∀ a, a < 256 → ∀ e, e < 2 → (a / 2 + 128 * e) &&& 85 = (a / 2) &&& 85 := by decide +kernel
theorem tb2 : ∀ a, a < 256 → ∀ e, e < 4 → (a / 4 + 64 * e) &&& 51 = (a / 4) &&& 51 := by decide +kernel
def f1 (a : Nat) : Nat := a - (a / 2 &&& 85)
def f2 (a : Nat) : Nat := (a &&& 51) + (a / 4 &&& 51)
theorem tb3 : ∀ a, a < 256 → f2 (f1 a) / 16 ≤ 4 ∧ f2 (f1 a) % 16 ≤ 4 ∧ f2 (f1 a) / 16 + f2 (f1 a) % 16 = cnt (fun i => a.testBit i) 8 ∧ f1 a < 256 ∧ (a / 2 &&& 85) ≤ a ∧ f2 (f1 a) < 256 := by decide +kernel
theorem tb4 : ∀ a, a < 16 → ∀ b, b < 16 → (a + 16 * b) &&& 15 = a := by decide +kernel
theorem st1 {a x M : Nat} (ha : a < 256) : (a + 256 * x) - ((a + 256 * x) / 2 &&& (85 + 256 * M)) = f1 a + 256 * (x - (x / 2 &&& M)) := by
  rw [show (a + 256 * x) / 2 = (a / 2 + 128 * (x % 2)) + 256 * (x / 2) by omega, and_cat (by omega) (by decide), tb1 a ha _ (Nat.mod_lt _ (by decide))]
  have h1 := (tb3 a ha).2.2.2.2.1
  have h2 : x / 2 &&& M ≤ x := Nat.le_trans Nat.and_le_left (by omega)
  unfold f1
  omega
theorem st2 {a x M : Nat} (ha : a < 256) : ((a + 256 * x) &&& (51 + 256 * M)) + ((a + 256 * x) / 4 &&& (51 + 256 * M)) = f2 a + 256 * ((x &&& M) + (x / 4 &&& M)) := by
  rw [show (a + 256 * x) / 4 = (a / 4 + 64 * (x % 4)) + 256 * (x / 4) by omega, and_cat ha (by decide), and_cat (by omega) (by decide), tb2 a ha _ (Nat.mod_lt _ (by decide))]
  unfold f2
  omega
theorem st3 {e o r M : Nat} (he : e < 16) (ho : o < 16) : (e + 16 * o + 256 * r) &&& (15 + 256 * M) = e + 256 * (r &&& M) := by
  rw [and_cat (by omega) (by decide), tb4 e he o ho]
def pcN (b : Nat) : Nat :=
  let x := b - (b / 2 &&& 1431655765)
  let y := (x &&& 858993459) + (x / 4 &&& 858993459)
  let z := (y + y / 16) &&& 252645135
  let w := z + z / 256
  (w + w / 65536) &&& 63
theorem sum16 (A b c d : Nat) : A + 256 * (b + 256 * (c + 256 * d)) + (A + 256 * (b + 256 * (c + 256 * d))) / 16 = (A / 16 + A % 16) + 16 * (A / 16 + b % 16) + 256 * ((b / 16 + b % 16) + 16 * (b / 16 + c % 16) + 256 * ((c / 16 + c % 16) + 16 * (c / 16 + d % 16) + 256 * ((d / 16 + d % 16) + 16 * (d / 16)))) := by
  have h1 : (A + 256 * (b + 256 * (c + 256 * d))) / 16 = A / 16 + 16 * (b + 256 * (c + 256 * d)) := by omega
  rw [h1]
  have hA := Nat.div_add_mod A 16
  have hb := Nat.div_add_mod b 16
  have hc := Nat.div_add_mod c 16
  have hd := Nat.div_add_mod d 16
  generalize A / 16 = A1 at *
  generalize A % 16 = A0 at *
  generalize b / 16 = b1 at *
  generalize b % 16 = b0 at *
  generalize c / 16 = c1 at *
  generalize c % 16 = c0 at *
  generalize d / 16 = d1 at *
  generalize d % 16 = d0 at *
  subst hA hb hc hd
  omega
theorem pcN_eq {a b c d : Nat} (ha : a < 256) (hb : b < 256) (hc : c < 256) (hd : d < 256) : pcN (a + 256 * (b + 256 * (c + 256 * d))) = cnt (fun i => a.testBit i) 8 + cnt (fun i => b.testBit i) 8 + cnt (fun i => c.testBit i) 8 + cnt (fun i => d.testBit i) 8 := by
  obtain ⟨a1, a2, a3, a4, -, a5⟩ := tb3 a ha
  obtain ⟨b1, b2, b3, b4, -, b5⟩ := tb3 b hb
  obtain ⟨c1, c2, c3, c4, -, c5⟩ := tb3 c hc
  obtain ⟨d1, d2, d3, d4, -, d5⟩ := tb3 d hd
  have e1 : (a + 256 * (b + 256 * (c + 256 * d))) - ((a + 256 * (b + 256 * (c + 256 * d))) / 2 &&& 1431655765) = f1 a + 256 * (f1 b + 256 * (f1 c + 256 * f1 d)) := by
    rw [show (1431655765 : Nat) = 85 + 256 * (85 + 256 * (85 + 256 * 85)) by decide, st1 ha, st1 hb, st1 hc, show f1 d = d - (d / 2 &&& 85) from rfl]
  have e2 : ((f1 a + 256 * (f1 b + 256 * (f1 c + 256 * f1 d))) &&& 858993459) + ((f1 a + 256 * (f1 b + 256 * (f1 c + 256 * f1 d))) / 4 &&& 858993459) = f2 (f1 a) + 256 * (f2 (f1 b) + 256 * (f2 (f1 c) + 256 * f2 (f1 d))) := by
    rw [show (858993459 : Nat) = 51 + 256 * (51 + 256 * (51 + 256 * 51)) by decide, st2 a4, st2 b4, st2 c4, show f2 (f1 d) = (f1 d &&& 51) + (f1 d / 4 &&& 51) from rfl]
  unfold pcN
  dsimp only
  rw [e1, e2]
  clear e1 e2
  generalize f2 (f1 a) = A at *
  generalize f2 (f1 b) = Bb at *
  generalize f2 (f1 c) = Cc at *
  generalize f2 (f1 d) = Dd at *
  have e3 : (A + 256 * (Bb + 256 * (Cc + 256 * Dd)) + (A + 256 * (Bb + 256 * (Cc + 256 * Dd))) / 16) &&& 252645135 = (A / 16 + A % 16) + 256 * ((Bb / 16 + Bb % 16) + 256 * ((Cc / 16 + Cc % 16) + 256 * (Dd / 16 + Dd % 16))) := by
    rw [show (252645135 : Nat) = 15 + 256 * (15 + 256 * (15 + 256 * 15)) by decide,
      sum16 A Bb Cc Dd,
      st3 (by omega) (by omega), st3 (by omega) (by omega), st3 (by omega) (by omega), tb4 _ (by omega) _ (by omega)]
  rw [e3, a3, b3, c3, d3]
  clear e3 a1 a2 a3 a4 a5 b1 b2 b3 b4 b5 c1 c2 c3 c4 c5 d1 d2 d3 d4 d5
  have ca := cnt_le (fun i => a.testBit i) 8
  have cb := cnt_le (fun i => b.testBit i) 8
  have cc := cnt_le (fun i => c.testBit i) 8
  have cd := cnt_le (fun i => d.testBit i) 8
  generalize cnt (fun i => a.testBit i) 8 = na at *
  generalize cnt (fun i => b.testBit i) 8 = nb at *
  generalize cnt (fun i => c.testBit i) 8 = nc at *
  generalize cnt (fun i => d.testBit i) 8 = nd at *
  rw [show (63 : Nat) = 2 ^ 6 - 1 by decide, Nat.and_two_pow_sub_one_eq_mod]
  have f1' : (na + 256 * (nb + 256 * (nc + 256 * nd))) / 256 = nb + 256 * (nc + 256 * nd) := by omega
  rw [f1']
  have f2' : (na + 256 * (nb + 256 * (nc + 256 * nd)) + (nb + 256 * (nc + 256 * nd))) / 65536 = (nc + nd) + 256 * nd := by omega
  rw [f2']
  omega
theorem pcN_cnt {b : Nat} (h : b < 2 ^ 31) : pcN b = cnt (fun i => b.testBit i) 32 := by
  have e : b = b % 256 + 256 * (b / 256 % 256 + 256 * (b / 65536 % 256 + 256 * (b / 16777216))) := by omega
  have := pcN_eq (a := b % 256) (b := b / 256 % 256) (c := b / 65536 % 256) (d := b / 16777216) (by omega) (by omega) (by omega) (by omega)
  rw [← e] at this
  rw [this, show (32 : Nat) = 8 + (8 + (8 + 8)) by decide, cnt_add, cnt_add, cnt_add]
  have t1 : ∀ k, k < 8 → (b % 256).testBit k = b.testBit k := fun k hk => by rw [show (256 : Nat) = 2 ^ 8 by decide, Nat.testBit_mod_two_pow]; simp [hk]
  have t2 : ∀ k, k < 8 → (b / 256 % 256).testBit k = b.testBit (8 + k) := fun k hk => by rw [show (256 : Nat) = 2 ^ 8 by decide, Nat.testBit_mod_two_pow, Nat.testBit_div_two_pow]; simp [hk, Nat.add_comm]
  have t3 : ∀ k, k < 8 → (b / 65536 % 256).testBit k = b.testBit (8 + (8 + k)) := fun k hk => by rw [show (256 : Nat) = 2 ^ 8 by decide, show (65536 : Nat) = 2 ^ 16 by decide, Nat.testBit_mod_two_pow, Nat.testBit_div_two_pow, show 8 + (8 + k) = k + 16 by omega]; simp [hk]
  have t4 : ∀ k, k < 8 → (b / 16777216).testBit k = b.testBit (8 + (8 + (8 + k))) := fun k hk => by rw [show (16777216 : Nat) = 2 ^ 24 by decide, Nat.testBit_div_two_pow, show 8 + (8 + (8 + k)) = k + 24 by omega]
  rw [cnt_cong t1, cnt_cong t2, cnt_cong t3, cnt_cong t4, Nat.add_assoc, Nat.add_assoc]
theorem ushrK {n : Nat} (hn : n < 2 ^ 32) (k : Nat) (s : Int32) (hs : ((s.toUInt32 &&& Int32.toUInt32 31).toBitVec % 32).toNat = k) : ((nI n).toUInt32 >>> (s.toUInt32 &&& Int32.toUInt32 31)).toInt32 = nI (n / 2 ^ k) := pk_ushrN hn s k hs
theorem s_bitCount {nf b : Nat} (h : b < 2 ^ 31) : g_J6_bitCount_0f7a4 nf (nI b) = some (nI (cnt (fun i => b.testBit i) 32)) := by
  rw [← pcN_cnt h]
  unfold g_J6_bitCount_0f7a4 pcN
  dsimp only
  have h2 : b / 2 &&& 1431655765 ≤ b := Nat.le_trans Nat.and_le_left (by omega)
  have m1 : nI b - (((nI b).toUInt32 >>> ((1 : Int32).toUInt32 &&& Int32.toUInt32 31)).toInt32 &&& (1431655765 : Int32)) = nI (b - (b / 2 &&& 1431655765)) := by
    rw [ushrK (by omega) 1 1 (by decide), show (1431655765 : Int32) = nI 1431655765 from rfl, an_I, pk_sub (by rw [Nat.pow_one]; exact h2), Nat.pow_one]
  rw [m1]
  generalize hx : b - (b / 2 &&& 1431655765) = x
  have hx2 : x < 2 ^ 31 := by omega
  have m2 : (nI x &&& (858993459 : Int32)) + (((nI x).toUInt32 >>> ((2 : Int32).toUInt32 &&& Int32.toUInt32 31)).toInt32 &&& (858993459 : Int32)) = nI ((x &&& 858993459) + (x / 4 &&& 858993459)) := by
    rw [ushrK (by omega) 2 2 (by decide), show (858993459 : Int32) = nI 858993459 from rfl, an_I, an_I, nI_add]
  rw [m2]
  have hy0 : (x &&& 858993459) + (x / 4 &&& 858993459) ≤ 858993459 + 858993459 := Nat.add_le_add Nat.and_le_right Nat.and_le_right
  generalize (x &&& 858993459) + (x / 4 &&& 858993459) = y at hy0 ⊢
  have m3 : (nI y + ((nI y).toUInt32 >>> ((4 : Int32).toUInt32 &&& Int32.toUInt32 31)).toInt32) &&& (252645135 : Int32) = nI ((y + y / 16) &&& 252645135) := by
    rw [ushrK (by omega) 4 4 (by decide), nI_add, show (252645135 : Int32) = nI 252645135 from rfl, an_I]
  rw [m3]
  have hz0 : (y + y / 16) &&& 252645135 ≤ 252645135 := Nat.and_le_right
  generalize (y + y / 16) &&& 252645135 = z at hz0 ⊢
  have m4 : nI z + ((nI z).toUInt32 >>> ((8 : Int32).toUInt32 &&& Int32.toUInt32 31)).toInt32 = nI (z + z / 256) := by
    rw [ushrK (by omega) 8 8 (by decide), nI_add]
  rw [m4]
  have hw0 : z + z / 256 < 2 ^ 31 := by omega
  generalize z + z / 256 = w at hw0 ⊢
  rw [ushrK (by omega) 16 16 (by decide), nI_add, show (63 : Int32) = nI 63 from rfl, an_I]

/-! who is there, how many cells are of a land -/
theorem nI0 : (0 : Int32) = nI 0 := rfl
theorem mb_4 {nf : Nat} {there : Nat → Int32} {P : Nat → Bool} (h : ∀ k, k < 4 → there k = if P k then 1 else 0) : ∀ (m x n : Nat), x + m = 4 → m < n → g_X1_mothBits_l4 nf n (nI (mk P x)) (nI x) there = some (nI (mk P 4)) := by
  intro m
  induction m with
  | zero =>
    intro x n hx hn
    obtain ⟨n, rfl⟩ := pred_ex hn
    obtain rfl : x = 4 := by omega
    rw [g_X1_mothBits_l4, if_pos (by decide)]
  | succ m ih =>
    intro x n hx hn
    obtain ⟨n, rfl⟩ := pred_ex hn
    have hi := ih (x + 1) n (by omega) (by omega)
    rw [g_X1_mothBits_l4, if_neg (show ¬ (4 : Int32) ≤ nI x from nI_ge (b := 4) (by omega) (by decide))]
    simp only [ck_nI (show x < 4 by omega) (by decide), nI_clamp (show x < 2 ^ 31 by omega), h x (by omega), g_X1_mothBits_b26, shl1 (show x < 31 by omega), nI_1]
    rw [mk] at hi
    by_cases hp : P x = true
    · rw [if_pos hp] at hi ⊢
      rw [if_neg (show ¬ (1 : Int32) = 0 by decide), or_I]
      exact hi
    · rw [if_neg hp] at hi ⊢
      rw [if_pos rfl, nI0, or_I]
      exact hi
theorem s_mothBits {nf : Nat} {there : Nat → Int32} {P : Nat → Bool} (h : ∀ k, k < 4 → there k = if P k then 1 else 0) (hn : 100 ≤ nf) : g_X1_mothBits nf there = some (nI (mk P 4)) := mb_4 h 4 0 nf (by omega) (by omega)
theorem mk_of {w : Nat} (h : w < 16) : mk (fun k => w.testBit k) 4 = w := by
  apply Nat.eq_of_testBit_eq
  intro i
  rw [mk_bit]
  by_cases hi : i < 4
  · simp [hi]
  · rw [Nat.testBit_lt_two_pow (Nat.lt_of_lt_of_le h (Nat.pow_le_pow_right (n := 2) (by decide) (show 4 ≤ i by omega)))]
    simp
theorem tb_div {w k : Nat} : nI (w / 2 ^ k % 2) = if w.testBit k then 1 else 0 := by
  rw [Nat.testBit_eq_decide_div_mod_eq]
  rcases Nat.mod_two_eq_zero_or_one (w / 2 ^ k) with e | e <;> rw [e] <;> rfl
theorem DB_mothBits {nf : Nat} {l c t mc mh th : Nat → Int32} {n : Int32} {B : Nat → Nat} (h : DB l c t mc mh th n B) (hW : WF B) (hn : 100 ≤ nf) : g_X1_mothBits nf t = some (nI (B 61)) := by
  rw [s_mothBits (P := fun k => (B 61).testBit k) (fun k hk => by rw [h.2.2.1 k hk, tb_div]) hn, mk_of hW.2.2.2.2.2.1]
theorem bo_4 {nf v : Nat} {lands : Nat → Int32} {L : Nat → Nat} (h : ∀ c, c < 25 → lands c = nI (L c) ∧ L c < 2 ^ 31) (hv : v < 2 ^ 31) : ∀ (m x n : Nat), x + m = 25 → m < n → g_X1_bitsOf_l4 nf n (nI v) (nI (mk (fun c => decide (L c = v)) x)) (nI x) lands = some (nI (mk (fun c => decide (L c = v)) 25)) := by
  intro m
  induction m with
  | zero =>
    intro x n hx hn
    obtain ⟨n, rfl⟩ := pred_ex hn
    obtain rfl : x = 25 := by omega
    rw [g_X1_bitsOf_l4, if_pos (by decide)]
  | succ m ih =>
    intro x n hx hn
    obtain ⟨n, rfl⟩ := pred_ex hn
    have hi := ih (x + 1) n (by omega) (by omega)
    rw [g_X1_bitsOf_l4, if_neg (show ¬ (25 : Int32) ≤ nI x from nI_ge (b := 25) (by omega) (by decide))]
    simp only [ck_nI (show x < 25 by omega) (by decide), nI_clamp (show x < 2 ^ 31 by omega), (h x (by omega)).1, g_X1_bitsOf_b28, shl1 (show x < 31 by omega), nI_1]
    rw [mk] at hi
    by_cases hp : L x = v
    · rw [decide_eq_true hp] at hi
      rw [if_pos (show nI (L x) = nI v by rw [hp]), or_I]
      exact hi
    · rw [decide_eq_false hp] at hi
      rw [if_neg (fun e => hp ((nI_eq (h x (by omega)).2 hv).mp e)), nI0, or_I]
      exact hi
theorem s_bitsOf {nf v : Nat} {lands : Nat → Int32} {L : Nat → Nat} (h : ∀ c, c < 25 → lands c = nI (L c) ∧ L c < 2 ^ 31) (hv : v < 2 ^ 31) (hn : 100 ≤ nf) : g_X1_bitsOf nf (nI v) lands = some (nI (mk (fun c => decide (L c = v)) 25)) := bo_4 h hv 25 0 nf (by omega) (by omega)
theorem cnt_zero {P : Nat → Bool} : ∀ {n : Nat}, (∀ k, k < n → P k = false) → cnt P n = 0
  | 0, _ => rfl
  | n + 1, h => by rw [cnt, cnt_zero (fun k hk => h k (by omega)), h n (by omega)]; rfl
theorem cnt_mk (P : Nat → Bool) : cnt (fun i => (mk P 25).testBit i) 32 = cnt P 25 := by
  rw [show (32 : Nat) = 25 + 7 by decide, cnt_add, cnt_zero (n := 7), Nat.add_zero]
  · exact cnt_cong (fun k hk => by rw [mk_bit, decide_eq_true hk, Bool.true_and])
  · intro k hk
    rw [mk_bit, decide_eq_false (by omega), Bool.false_and]
theorem s_countOf {nf v : Nat} {lands : Nat → Int32} {L : Nat → Nat} (h : ∀ c, c < 25 → lands c = nI (L c) ∧ L c < 2 ^ 31) (hv : v < 2 ^ 31) (hn : 100 ≤ nf) : g_X1_countOf nf (nI v) lands = some (nI (cnt (fun c => decide (L c = v)) 25)) := by
  unfold g_X1_countOf
  rw [s_bitsOf h hv hn, Option.bind_some, s_bitCount (Nat.lt_trans (mk_lt _ _) (by decide)), Option.bind_some, cnt_mk]
theorem cof_4 {nf v : Nat} {now : Nat → Int32} {L : Nat → Nat} (h : ∀ c, c < 25 → now c = nI (L c) ∧ L c < 2 ^ 31) (hv : v < 2 ^ 31) : ∀ (m x n : Nat), x + m = 25 → m < n → g_X9_countOf_l4 nf n (nI v) (nI (cnt (fun c => decide (L c = v)) x)) (nI x) now = some (nI (cnt (fun c => decide (L c = v)) 25)) := by
  intro m
  induction m with
  | zero =>
    intro x n hx hn
    obtain ⟨n, rfl⟩ := pred_ex hn
    obtain rfl : x = 25 := by omega
    rw [g_X9_countOf_l4, if_pos (by decide)]
  | succ m ih =>
    intro x n hx hn
    obtain ⟨n, rfl⟩ := pred_ex hn
    have hi := ih (x + 1) n (by omega) (by omega)
    rw [g_X9_countOf_l4, if_neg (show ¬ (25 : Int32) ≤ nI x from nI_ge (b := 25) (by omega) (by decide))]
    simp only [ck_nI (show x < 63 by omega) (by decide), nI_clamp (show x < 2 ^ 31 by omega), (h x (by omega)).1, g_X9_countOf_b26, nI_1]
    rw [cnt] at hi
    by_cases hp : L x = v
    · rw [decide_eq_true hp] at hi
      rw [if_pos (show nI (L x) = nI v by rw [hp])]
      exact hi
    · rw [decide_eq_false hp] at hi
      rw [if_neg (fun e => hp ((nI_eq (h x (by omega)).2 hv).mp e)), nI0, nI_add]
      exact hi
theorem s_countOf9 {nf v : Nat} {now : Nat → Int32} {L : Nat → Nat} (h : ∀ c, c < 25 → now c = nI (L c) ∧ L c < 2 ^ 31) (hv : v < 2 ^ 31) (hn : 100 ≤ nf) : g_X9_countOf nf (nI v) now = some (nI (cnt (fun c => decide (L c = v)) 25)) := cof_4 h hv 25 0 nf (by omega) (by omega)
theorem DB_lands {l c t mc mh th : Nat → Int32} {n : Int32} {B : Nat → Nat} (h : DB l c t mc mh th n B) (hW : WF B) : ∀ c, c < 25 → l c = nI (B c) ∧ B c < 2 ^ 31 := fun c hc => ⟨h.1 c hc, by have := hW.1 c hc; omega⟩
theorem MB_lands {now : Nat → Int32} {B : Nat → Nat} (h : MB now B) (hW : WF B) : ∀ c, c < 25 → now c = nI (B c) ∧ B c < 2 ^ 31 := fun c hc => ⟨h c (by omega), by have := hW.1 c hc; omega⟩
