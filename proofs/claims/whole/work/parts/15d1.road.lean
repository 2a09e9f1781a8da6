/-! ===== roads ===== -/
def rwt (B : Nat → Nat) (c : Nat) : Nat := if B c = 3 then 1000000 else if B c = 0 then 100 else 0
theorem rwt_le (B : Nat → Nat) (c : Nat) : rwt B c ≤ 1000000 := by unfold rwt; split <;> (try split) <;> omega
/-- what no road undercuts -/
def RCL (B : Nat → Nat) (f : Nat) (D : Nat → Nat) : Prop := D f ≤ rwt B f ∧ (∀ c, c < 25 → D c ≤ 1000000) ∧ ∀ c w, c < 25 → w < 4 → bes c w < 25 → D (bes c w) ≤ D c + 1 + rwt B (bes c w)
def RSO (B : Nat → Nat) (f : Nat) (C : Nat → Nat) : Prop := (∀ c, c < 25 → C c ≤ 1000000) ∧ C f ≤ rwt B f ∧ ∀ D, RCL B f D → ∀ c, c < 25 → D c ≤ C c
def ZI (f : Nat → Int32) (V : Nat → Nat) : Prop := ∀ c, c < 25 → f c = nI (V c)
theorem ZI_up {f : Nat → Int32} {V : Nat → Nat} {j v : Nat} (h : ZI f V) : ZI (upd f j (nI v)) (upN V j v) := by
  intro i hi
  by_cases e : i = j
  · subst e; rw [upd_eq, upN_eq]
  · rw [upd_ne e, upN_ne e, h i hi]
theorem ZI_same {f : Nat → Int32} {V : Nat → Nat} {j : Nat} (h : ZI f V) : ZI (upd f j (f j)) V := by
  intro i hi
  by_cases e : i = j
  · subst e; rw [upd_eq, h i hi]
  · rw [upd_ne e, h i hi]
def rc0 (B : Nat → Nat) (f : Nat) : Nat → Nat := fun c => if c = f then rwt B f else 1000000
theorem RSO_0 {B : Nat → Nat} {f : Nat} : RSO B f (rc0 B f) := by
  refine ⟨fun c hc => ?_, ?_, fun D hD c hc => ?_⟩
  · unfold rc0; split
    · exact rwt_le B f
    · exact Nat.le_refl _
  · exact Nat.le_of_eq (if_pos rfl)
  · unfold rc0; split
    · rename_i e; rw [e]; exact hD.1
    · exact hD.2.1 c hc
theorem RSO_up {B C : Nat → Nat} {f c w : Nat} (h : RSO B f C) (hc : c < 25) (hw : w < 4) (hb : bes c w < 25) (hv : C c + 1 + rwt B (bes c w) ≤ C (bes c w)) : RSO B f (upN C (bes c w) (C c + 1 + rwt B (bes c w))) := by
  refine ⟨fun j hj => ?_, ?_, fun D hD j hj => ?_⟩
  · by_cases e : j = bes c w
    · subst e; rw [upN_eq]; exact Nat.le_trans hv (h.1 _ hj)
    · rw [upN_ne e]; exact h.1 j hj
  · by_cases e : f = bes c w
    · rw [e, upN_eq]; rw [← e] at hv ⊢; exact Nat.le_trans hv h.2.1
    · rw [upN_ne e]; exact h.2.1
  · by_cases e : j = bes c w
    · subst e; rw [upN_eq]
      have h1 := hD.2.2 c w hc hw hb
      have h2 := h.2.2 D hD c hc
      omega
    · rw [upN_ne e]; exact h.2.2 D hD j hj
theorem tot_up (V : Nat → Nat) (e v : Nat) : ∀ n, tot (upN V e v) n + (if e < n then V e else 0) = tot V n + (if e < n then v else 0)
  | 0 => rfl
  | n + 1 => by
    have := tot_up V e v n
    rw [tot, tot]
    by_cases c : n = e
    · subst c
      rw [if_neg (by omega), if_neg (by omega)] at this
      rw [upN_eq, if_pos (by omega), if_pos (by omega)]; omega
    · rw [upN_ne c]
      by_cases d : e < n
      · rw [if_pos d, if_pos d] at this
        rw [if_pos (by omega), if_pos (by omega)]; omega
      · rw [if_neg d, if_neg d] at this
        rw [if_neg (by omega), if_neg (by omega)]; omega
theorem tot_bd (V : Nat → Nat) (M : Nat) : ∀ n, (∀ c, c < n → V c ≤ M) → tot V n ≤ n * M
  | 0, _ => Nat.zero_le _
  | n + 1, h => by
    have h1 := tot_bd V M n (fun c hc => h c (by omega))
    have h2 := h n (by omega)
    rw [tot, Nat.succ_mul]; omega
theorem FAR_I : (1000000 : Int32) = nI 1000000 := rfl
/-! the reference: all edges, again and again -/
section LAY
variable {nf f : Nat} {B : Nat → Nat} {book : Nat → Int32}
theorem lr_2 (hM : MB book B) (hB : ∀ c, c < 25 → B c ≤ 5) : ∀ (d x n : Nat) (cost : Nat → Int32), x + d = 25 → d < n → f < 25 → (∀ j, j < x → cost j = nI (rc0 B f j)) → ∃ cost', ZI cost' (rc0 B f) ∧ g_X9_layRoads_l2 nf n (nI f) (nI x) book cost = g_X9_layRoads_l57 nf nf 1 book cost' := by
  intro d
  induction d with
  | zero =>
    intro x n cost hx hn hf hJ
    obtain ⟨n, rfl⟩ := pred_ex hn
    obtain rfl : x = 25 := by omega
    exact ⟨cost, hJ, by rw [g_X9_layRoads_l2, if_pos (by decide)]⟩
  | succ d ih =>
    intro x n cost hx hn hf hJ
    obtain ⟨n, rfl⟩ := pred_ex hn
    have hx25 : x < 25 := by omega
    obtain ⟨cost', k1, k2⟩ := ih (x + 1) n (upd cost x (nI (rc0 B f x))) (by omega) (by omega) hf (fun j hj => by
      by_cases e : j = x
      · subst e; rw [upd_eq]
      · rw [upd_ne e, hJ j (by omega)])
    refine ⟨cost', k1, ?_⟩
    rw [← k2, g_X9_layRoads_l2, if_neg (L_nge 25 (by omega) (by decide))]
    simp only [g_X9_layRoads_b46, g_X9_layRoads_b48, ck_nI hx25 (show 25 < 2 ^ 31 by decide), ck_nI (show x < 63 by omega) (show 63 < 2 ^ 31 by decide), nI_clamp (show x < 2 ^ 31 by omega), hM x (by omega), nI_1]
    have hBx := hB x hx25
    by_cases e : x = f
    · rw [if_pos (congrArg nI e), show rc0 B f x = rwt B x by rw [e]; exact if_pos rfl]
      unfold rwt
      by_cases e3 : B x = 3
      · rw [if_pos (L_eq 3 e3), if_pos e3]; rfl
      · rw [if_neg (L_ne 3 e3 (by omega) (by decide)), if_neg e3]
        by_cases e0 : B x = 0
        · rw [if_pos (L_eq 0 e0), if_pos e0]; rfl
        · rw [if_neg (L_ne 0 e0 (by omega) (by decide)), if_neg e0]; rfl
    · rw [if_neg (fun z => e ((nI_eq (by omega) (by omega)).mp z)), show rc0 B f x = 1000000 from if_neg e]; rfl
def RPS (B : Nat → Nat) (f : Nat) (C0 C : Nat → Nat) (more q : Nat) : Prop := RSO B f C ∧ ((more = 1 ∧ tot C 25 < tot C0 25) ∨ (more = 0 ∧ C = C0 ∧ ∀ c w, c < 25 → w < 4 → 4 * c + w < q → bes c w < 25 → C (bes c w) ≤ C c + 1 + rwt B (bes c w)))
theorem RPS_skip {C0 C : Nat → Nat} {more c w : Nat} (h : RPS B f C0 C more (4 * c + w)) (hw : w < 4) (hE : bes c w < 25 → C (bes c w) ≤ C c + 1 + rwt B (bes c w)) : RPS B f C0 C more (4 * c + (w + 1)) := by
  refine ⟨h.1, ?_⟩
  rcases h.2 with h2 | ⟨h2, h3, h4⟩
  · exact Or.inl h2
  · refine Or.inr ⟨h2, h3, fun c' w' hc' hw' hq hb => ?_⟩
    by_cases e : 4 * c' + w' < 4 * c + w
    · exact h4 c' w' hc' hw' e hb
    · obtain rfl : c' = c := by omega
      obtain rfl : w' = w := by omega
      exact hE hb
theorem RPS_le {C0 C : Nat → Nat} {more q : Nat} (h : RPS B f C0 C more q) : tot C 25 ≤ tot C0 25 := by
  rcases h.2 with h2 | ⟨_, h3, _⟩
  · omega
  · rw [h3]; exact Nat.le_refl _
theorem RPS_up {C0 C : Nat → Nat} {more c w q q' : Nat} (h : RPS B f C0 C more q) (hc : c < 25) (hw : w < 4) (hb : bes c w < 25) (hv : C c + 1 + rwt B (bes c w) < C (bes c w)) : RPS B f C0 (upN C (bes c w) (C c + 1 + rwt B (bes c w))) 1 q' := by
  refine ⟨RSO_up h.1 hc hw hb (by omega), Or.inl ⟨rfl, ?_⟩⟩
  have h1 := RPS_le h
  have h2 := tot_up C (bes c w) (C c + 1 + rwt B (bes c w)) 25
  rw [if_pos hb, if_pos hb] at h2
  omega
abbrev LK := Int32 → (Nat → Int32) → (Nat → Int32) → Option (Nat → Int32)
abbrev LK2 := Int32 → Int32 → (Nat → Int32) → (Nat → Int32) → Option (Nat → Int32)
abbrev LK3 := Int32 → Int32 → Int32 → (Nat → Int32) → (Nat → Int32) → Option (Nat → Int32)
theorem lr_134 {K57 : LK} {K65 : LK2} {K74 : LK3} {x2 x3 x4 : Int32} {t v : Nat} {C : Nat → Nat} {cost : Nat → Int32} (ht : t < 25) (hZ : ZI cost C) (hC : C t ≤ 1000000) (hv : v < 2 ^ 30) : g_X9_layRoads_b134 nf K57 K65 K74 x2 x3 x4 (nI t) (nI v) book cost = if v < C t then K74 1 x3 (x4 + 1) book (upd cost t (nI v)) else K74 x2 x3 (x4 + 1) book cost := by
  simp only [g_X9_layRoads_b134, g_X9_layRoads_b166, ck_nI ht (show 25 < 2 ^ 31 by decide), nI_clamp (show t < 2 ^ 31 by omega), hZ t ht]
  by_cases c : v < C t
  · rw [if_pos c, if_neg (L_nge 1000000 (by omega) (by decide)), if_neg (nI_ge c (by omega))]
  · rw [if_neg c, if_pos (nI_le (show C t ≤ v by omega) (by omega))]
    split <;> rfl
theorem lr_74 {C0 : Nat → Nat} {c : Nat} (hc : c < 25) (hM : MB book B) (hB : ∀ c, c < 25 → B c ≤ 5) : ∀ (d w n more : Nat) (C : Nat → Nat) (cost : Nat → Int32), w + d = 4 → d < n → ZI cost C → RPS B f C0 C more (4 * c + w) → ∃ more' C' cost', ZI cost' C' ∧ RPS B f C0 C' more' (4 * (c + 1)) ∧ ∀ (K57 : LK) (K65 : LK2), g_X9_layRoads_l74 nf K57 K65 n (nI more) (nI c) (nI w) book cost = K65 (nI more') (nI (c + 1)) book cost' := by
  intro d
  induction d with
  | zero =>
    intro w n more C cost hw hn hZ hP
    obtain ⟨n, rfl⟩ := pred_ex hn
    obtain rfl : w = 4 := by omega
    exact ⟨more, C, cost, hZ, hP, fun K57 K65 => by rw [g_X9_layRoads_l74, if_pos (by decide), nI_1]⟩
  | succ d ih =>
    intro w n more C cost hw hn hZ hP
    obtain ⟨n, rfl⟩ := pred_ex hn
    have hw4 : w < 4 := by omega
    have hCc := hP.1.1 c hc
    have skip : (bes c w < 25 → C (bes c w) ≤ C c + 1 + rwt B (bes c w)) → (∀ (K57 : LK) (K65 : LK2), g_X9_layRoads_l74 nf K57 K65 (n + 1) (nI more) (nI c) (nI w) book cost = g_X9_layRoads_l74 nf K57 K65 n (nI more) (nI c) (nI (w + 1)) book cost) → ∃ more' C' cost', ZI cost' C' ∧ RPS B f C0 C' more' (4 * (c + 1)) ∧ ∀ (K57 : LK) (K65 : LK2), g_X9_layRoads_l74 nf K57 K65 (n + 1) (nI more) (nI c) (nI w) book cost = K65 (nI more') (nI (c + 1)) book cost' := by
      intro h1 h2
      obtain ⟨m', C', co', k1, k2, k3⟩ := ih (w + 1) n more C cost (by omega) (by omega) hZ (RPS_skip hP hw4 h1)
      exact ⟨m', C', co', k1, k2, fun K57 K65 => by rw [h2, k3]⟩
    by_cases hb : bes c w < 25
    · have hBt := hB _ hb
      have hCt := hP.1.1 _ hb
      by_cases e3 : B (bes c w) = 3
      · refine skip (fun _ => ?_) (fun K57 K65 => ?_)
        · have : rwt B (bes c w) = 1000000 := if_pos e3
          omega
        · rw [g_X9_layRoads_l74, if_neg (L_nge 4 (by omega) (by decide)), s_bes9 hc hw4, Option.bind_some, if_pos hb, if_neg (nI_pos (by omega)), ck_nI (show bes c w < 63 by omega) (by decide), nI_clamp (by omega), hM _ (by omega), if_pos (L_eq 3 e3)]
          unfold g_X9_layRoads_b104
          rw [FAR_I, lr_134 hb hZ hCt (by decide), if_neg (by omega), nI_1]
      · have step : ∀ (K57 : LK) (K65 : LK2), g_X9_layRoads_l74 nf K57 K65 (n + 1) (nI more) (nI c) (nI w) book cost = if C c + 1 + rwt B (bes c w) < C (bes c w) then g_X9_layRoads_l74 nf K57 K65 n 1 (nI c) (nI (w + 1)) book (upd cost (bes c w) (nI (C c + 1 + rwt B (bes c w)))) else g_X9_layRoads_l74 nf K57 K65 n (nI more) (nI c) (nI (w + 1)) book cost := by
          intro K57 K65
          have hr := rwt_le B (bes c w)
          rw [g_X9_layRoads_l74, if_neg (L_nge 4 (by omega) (by decide)), s_bes9 hc hw4, Option.bind_some, if_pos hb, if_neg (nI_pos (by omega)), ck_nI (show bes c w < 63 by omega) (by decide), nI_clamp (by omega), hM _ (by omega), if_neg (L_ne 3 e3 (by omega) (by decide)), ck_nI hc (by decide), ck_nI (show bes c w < 63 by omega) (by decide), nI_clamp (by omega), hZ c hc, nI_1]
          unfold g_X9_layRoads_b133
          by_cases e0 : B (bes c w) = 0
          · rw [if_pos (L_eq 0 e0), show nI (C c + 1) + 100 = nI (C c + 1 + rwt B (bes c w)) by rw [show rwt B (bes c w) = 100 by unfold rwt; rw [if_neg e3, if_pos e0]]; exact nI_add _ 100, lr_134 hb hZ hCt (by omega), nI_1]
          · rw [if_neg (L_ne 0 e0 (by omega) (by decide)), show nI (C c + 1) + 0 = nI (C c + 1 + rwt B (bes c w)) by rw [show rwt B (bes c w) = 0 by unfold rwt; rw [if_neg e3, if_neg e0]]; exact nI_add _ 0, lr_134 hb hZ hCt (by omega), nI_1]
        by_cases hv : C c + 1 + rwt B (bes c w) < C (bes c w)
        · obtain ⟨m', C', co', k1, k2, k3⟩ := ih (w + 1) n 1 _ _ (by omega) (by omega) (ZI_up (j := bes c w) (v := C c + 1 + rwt B (bes c w)) hZ) (RPS_up hP hc hw4 hb hv)
          exact ⟨m', C', co', k1, k2, fun K57 K65 => by rw [step, if_pos hv]; exact k3 K57 K65⟩
        · exact skip (fun _ => by omega) (fun K57 K65 => by rw [step, if_neg hv])
    · refine skip (fun z => absurd z hb) (fun K57 K65 => ?_)
      rw [g_X9_layRoads_l74, if_neg (L_nge 4 (by omega) (by decide)), s_bes9 hc hw4, Option.bind_some, if_neg hb, if_pos (by decide)]
      unfold g_X9_layRoads_b104 g_X9_layRoads_b134
      rw [if_pos (by decide)]
      unfold g_X9_layRoads_b166
      rw [nI_1]
theorem lr_65 {C0 : Nat → Nat} (hM : MB book B) (hB : ∀ c, c < 25 → B c ≤ 5) (hnf : 100 ≤ nf) : ∀ (d c n more : Nat) (C : Nat → Nat) (cost : Nat → Int32), c + d = 25 → d < n → ZI cost C → RPS B f C0 C more (4 * c) → ∃ more' C' cost', ZI cost' C' ∧ RPS B f C0 C' more' 100 ∧ ∀ (K57 : LK), g_X9_layRoads_l65 nf K57 n (nI more) (nI c) book cost = K57 (nI more') book cost' := by
  intro d
  induction d with
  | zero =>
    intro c n more C cost hc hn hZ hP
    obtain ⟨n, rfl⟩ := pred_ex hn
    obtain rfl : c = 25 := by omega
    exact ⟨more, C, cost, hZ, hP, fun K57 => by rw [g_X9_layRoads_l65, if_pos (by decide)]⟩
  | succ d ih =>
    intro c n more C cost hc hn hZ hP
    obtain ⟨n, rfl⟩ := pred_ex hn
    obtain ⟨m1, C1, co1, k1, k2, k3⟩ := lr_74 (nf := nf) (show c < 25 by omega) hM hB 4 0 nf more C cost (by omega) (by omega) hZ hP
    obtain ⟨m2, C2, co2, k4, k5, k6⟩ := ih (c + 1) n m1 C1 co1 (by omega) (by omega) k1 k2
    refine ⟨m2, C2, co2, k4, k5, fun K57 => ?_⟩
    rw [← k6 K57, g_X9_layRoads_l65, if_neg (L_nge 25 (by omega) (by decide))]
    exact k3 K57 (g_X9_layRoads_l65 nf K57 n)
theorem lr_57 (hM : MB book B) (hB : ∀ c, c < 25 → B c ≤ 5) (hnf : 100 ≤ nf) : ∀ (T n : Nat) (C : Nat → Nat) (cost : Nat → Int32), tot C 25 ≤ T → T + 1 < n → ZI cost C → RSO B f C → ∃ C' cost', ZI cost' C' ∧ RSO B f C' ∧ RCL B f C' ∧ g_X9_layRoads_l57 nf n 1 book cost = some cost' := by
  intro T
  induction T with
  | zero =>
    intro n C cost hT hn hZ hS
    obtain ⟨n, rfl⟩ := pred_ex hn
    obtain ⟨n, rfl⟩ := pred_ex (show 0 < n by omega)
    obtain ⟨m1, C1, co1, k1, k2, k3⟩ := lr_65 (nf := nf) (f := f) (C0 := C) hM hB hnf 25 0 nf 0 C cost (by omega) (by omega) hZ ⟨hS, Or.inr ⟨rfl, rfl, fun c w _ _ h _ => absurd h (by omega)⟩⟩
    rcases k2.2 with k4 | ⟨k4, k5, k6⟩
    · omega
    · refine ⟨C1, co1, k1, k2.1, ⟨k2.1.2.1, k2.1.1, fun c w hc hw hb => k6 c w hc hw (by omega) hb⟩, ?_⟩
      rw [g_X9_layRoads_l57, if_neg (by decide), show g_X9_layRoads_l65 nf (g_X9_layRoads_l57 nf (n + 1)) nf 0 0 book cost = _ from k3 _, k4, g_X9_layRoads_l57, if_pos (by decide)]
  | succ T ih =>
    intro n C cost hT hn hZ hS
    obtain ⟨n, rfl⟩ := pred_ex hn
    obtain ⟨n, rfl⟩ := pred_ex (show 0 < n by omega)
    obtain ⟨m1, C1, co1, k1, k2, k3⟩ := lr_65 (nf := nf) (f := f) (C0 := C) hM hB hnf 25 0 nf 0 C cost (by omega) (by omega) hZ ⟨hS, Or.inr ⟨rfl, rfl, fun c w _ _ h _ => absurd h (by omega)⟩⟩
    rcases k2.2 with ⟨k4, k5⟩ | ⟨k4, k5, k6⟩
    · obtain ⟨C', co', j1, j2, j3, j4⟩ := ih (n + 1) C1 co1 (by omega) (by omega) k1 k2.1
      refine ⟨C', co', j1, j2, j3, ?_⟩
      rw [← j4, g_X9_layRoads_l57, if_neg (by decide), show g_X9_layRoads_l65 nf (g_X9_layRoads_l57 nf (n + 1)) nf 0 0 book cost = _ from k3 _, k4]
      rfl
    · refine ⟨C1, co1, k1, k2.1, ⟨k2.1.2.1, k2.1.1, fun c w hc hw hb => k6 c w hc hw (by omega) hb⟩, ?_⟩
      rw [g_X9_layRoads_l57, if_neg (by decide), show g_X9_layRoads_l65 nf (g_X9_layRoads_l57 nf (n + 1)) nf 0 0 book cost = _ from k3 _, k4, g_X9_layRoads_l57, if_pos (by decide)]
theorem s_layRoads {cost : Nat → Int32} (hM : MB book B) (hB : ∀ c, c < 25 → B c ≤ 5) (hf : f < 25) (hnf : 30000000 ≤ nf) : ∃ C cost', ZI cost' C ∧ RSO B f C ∧ RCL B f C ∧ g_X9_layRoads nf (nI f) book cost = some cost' := by
  obtain ⟨c1, k1, k2⟩ := lr_2 (nf := nf) (f := f) hM hB 25 0 nf cost (by omega) (by omega) hf (fun j hj => absurd hj (Nat.not_lt_zero j))
  have h1 := tot_bd (rc0 B f) 1000000 25 (fun c hc => RSO_0.1 c hc)
  obtain ⟨C, c2, k3, k4, k5, k6⟩ := lr_57 (nf := nf) (f := f) hM hB (by omega) 25000000 nf _ c1 (by omega) (by omega) k1 RSO_0
  exact ⟨C, c2, k3, k4, k5, by rw [← k6]; exact k2⟩
end LAY
/-! the class: the nearest first -/
theorem s_costOf {nf v : Nat} {B : Nat → Nat} {c : Nat} (hv : v = B c) (hB : v ≤ 5) : g_X6_costOfLand nf (nI v) = some (nI (rwt B c)) := by
  unfold g_X6_costOfLand rwt
  rw [← hv]
  by_cases e3 : v = 3
  · rw [if_pos (L_eq 3 e3), if_pos e3]; rfl
  · rw [if_neg (L_ne 3 e3 (by omega) (by decide)), if_neg e3]
    by_cases e0 : v = 0
    · rw [if_pos (L_eq 0 e0), if_pos e0]; rfl
    · rw [if_neg (L_ne 0 e0 (by omega) (by decide)), if_neg e0]; rfl
section NEAR
variable {nf f : Nat} {B : Nat → Nat} {lands : Nat → Int32}
def NB (C : Nat → Nat) (st : Nat → Int32) (b : Int32) (l : Nat) : Prop := (b = -1 ∧ l = 1000000) ∨ ∃ k, k < 25 ∧ b = nI k ∧ st k = 0 ∧ C k = l ∧ l < 1000000
theorem ne_7 {C : Nat → Nat} {costs st : Nat → Int32} (hZ : ZI costs C) (hC : ∀ c, c < 25 → C c ≤ 1000000) : ∀ (d x n : Nat) (b : Int32) (l : Nat), x + d = 25 → d < n → l ≤ 1000000 → (∀ j, j < x → st j = 0 → l ≤ C j) → NB C st b l → ∃ b' l', g_X6_nearest_l7 nf n b (nI l) (nI x) costs st = some b' ∧ (∀ j, j < 25 → st j = 0 → l' ≤ C j) ∧ NB C st b' l' := by
  intro d
  induction d with
  | zero =>
    intro x n b l hx hn hl hJ hN
    obtain ⟨n, rfl⟩ := pred_ex hn
    obtain rfl : x = 25 := by omega
    exact ⟨b, l, by rw [g_X6_nearest_l7, if_pos (by decide)], hJ, hN⟩
  | succ d ih =>
    intro x n b l hx hn hl hJ hN
    obtain ⟨n, rfl⟩ := pred_ex hn
    have hx25 : x < 25 := by omega
    have hCx := hC x hx25
    rw [g_X6_nearest_l7, if_neg (L_nge 25 (by omega) (by decide))]
    simp only [g_X6_nearest_b41, ck_nI hx25 (show 25 < 2 ^ 31 by decide), nI_clamp (show x < 2 ^ 31 by omega), hZ x hx25, nI_1]
    by_cases e : st x = 0
    · rw [if_pos e]
      by_cases g : l ≤ C x
      · rw [if_pos (nI_le g (by omega))]
        refine ih (x + 1) n b l (by omega) (by omega) hl (fun j hj hs => ?_) hN
        by_cases z : j = x
        · rw [z]; exact g
        · exact hJ j (by omega) hs
      · rw [if_neg (nI_ge (show C x < l by omega) (by omega))]
        refine ih (x + 1) n (nI x) (C x) (by omega) (by omega) hCx (fun j hj hs => ?_) (Or.inr ⟨x, hx25, rfl, e, rfl, by omega⟩)
        by_cases z : j = x
        · rw [z]; exact Nat.le_refl _
        · have := hJ j (by omega) hs
          omega
    · rw [if_neg e]
      refine ih (x + 1) n b l (by omega) (by omega) hl (fun j hj hs => ?_) hN
      by_cases z : j = x
      · rw [z] at hs; exact absurd hs e
      · exact hJ j (by omega) hs
theorem s_nearest {C : Nat → Nat} {costs st : Nat → Int32} (hZ : ZI costs C) (hC : ∀ c, c < 25 → C c ≤ 1000000) (hnf : 100 ≤ nf) : ∃ b l, g_X6_nearest nf costs st = some b ∧ (∀ j, j < 25 → st j = 0 → l ≤ C j) ∧ NB C st b l := by
  obtain ⟨b, l, k1, k2, k3⟩ := ne_7 (nf := nf) (st := st) hZ hC 25 0 nf (-1) 1000000 (by omega) (by omega) (by omega) (fun j hj => absurd hj (Nat.not_lt_zero j)) (Or.inl ⟨rfl, rfl⟩)
  exact ⟨b, l, k1, k2, k3⟩
def RSP (B : Nat → Nat) (f : Nat) (C0 : Nat → Nat) (x w : Nat) (C : Nat → Nat) : Prop := RSO B f C ∧ (∀ j, j < 25 → C j ≤ C0 j) ∧ (∀ j, j < 25 → C j = C0 j ∨ C0 x + 1 ≤ C j) ∧ ∀ w', w' < w → bes x w' < 25 → C (bes x w') ≤ C0 x + 1 + rwt B (bes x w')
theorem sp_2 {C0 : Nat → Nat} {x : Nat} (hx : x < 25) (hL : ∀ c, c < 25 → lands c = nI (B c)) (hB : ∀ c, c < 25 → B c ≤ 5) : ∀ (d w n : Nat) (C : Nat → Nat) (costs : Nat → Int32), w + d = 4 → d < n → ZI costs C → RSP B f C0 x w C → ∃ C' costs', ZI costs' C' ∧ RSP B f C0 x 4 C' ∧ g_X6_spreadFrom_l2 nf n (nI x) (nI w) costs lands = some costs' := by
  intro d
  induction d with
  | zero =>
    intro w n C costs hw hn hZ hP
    obtain ⟨n, rfl⟩ := pred_ex hn
    obtain rfl : w = 4 := by omega
    exact ⟨C, costs, hZ, hP, by rw [g_X6_spreadFrom_l2, if_pos (by decide)]⟩
  | succ d ih =>
    intro w n C costs hw hn hZ hP
    obtain ⟨n, rfl⟩ := pred_ex hn
    have hw4 : w < 4 := by omega
    obtain ⟨p1, p2, p3, p4⟩ := hP
    have hCx : C x = C0 x := by
      rcases p3 x hx with h | h
      · exact h
      · have := p2 x hx
        omega
    have hCx6 := p1.1 x hx
    rw [g_X6_spreadFrom_l2, if_neg (L_nge 4 (by omega) (by decide)), s_bes8 hx hw4, Option.bind_some]
    by_cases hb : bes x w < 25
    · have hBt := hB _ hb
      have hCt := p1.1 _ hb
      have hr := rwt_le B (bes x w)
      rw [if_pos hb, c8_t (L_in 0 24 (Nat.zero_le _) (by omega) (by decide)), Option.bind_some, if_neg (by decide)]
      simp only [g_X6_spreadFrom_b55, ck_nI hb (show 25 < 2 ^ 31 by decide), ck_nI hx (show 25 < 2 ^ 31 by decide), nI_clamp (show x < 2 ^ 31 by omega), nI_clamp (show bes x w < 2 ^ 31 by omega), hL _ hb, s_costOf (nf := nf) (B := B) (c := bes x w) rfl hBt, Option.bind_some, nI_1]
      by_cases hv : C x + 1 + rwt B (bes x w) < C (bes x w)
      · rw [hZ x hx, hZ _ hb, nI_1, nI_add, if_pos (nI_lt hv (by omega))]
        refine ih (w + 1) n _ _ (by omega) (by omega) (ZI_up (j := bes x w) (v := C x + 1 + rwt B (bes x w)) hZ) ⟨RSO_up p1 hx hw4 hb (by omega), fun j hj => ?_, fun j hj => ?_, fun w' hw' hb' => ?_⟩
        · by_cases e : j = bes x w
          · rw [e, upN_eq]; have := p2 _ hb; omega
          · rw [upN_ne e]; exact p2 j hj
        · by_cases e : j = bes x w
          · rw [e, upN_eq]; right; omega
          · rw [upN_ne e]; exact p3 j hj
        · by_cases e : bes x w' = bes x w
          · rw [e, upN_eq]; omega
          · rw [upN_ne e]
            refine p4 w' ?_ hb'
            have : w' ≠ w := fun z => e (by rw [z])
            omega
      · rw [show (if costs x + 1 + nI (rwt B (bes x w)) < costs (bes x w) then costs x + 1 + nI (rwt B (bes x w)) else costs (bes x w)) = costs (bes x w) by rw [if_neg]; rw [hZ x hx, hZ _ hb, nI_1, nI_add]; exact nI_nlt (by omega) (by omega)]
        refine ih (w + 1) n C _ (by omega) (by omega) (ZI_same hZ) ⟨p1, p2, p3, fun w' hw' hb' => ?_⟩
        by_cases e : w' = w
        · rw [e]; omega
        · exact p4 w' (by omega) hb'
    · rw [if_neg hb, c8_f (by decide), Option.bind_some, if_pos rfl]
      unfold g_X6_spreadFrom_b55
      rw [nI_1]
      refine ih (w + 1) n C costs (by omega) (by omega) hZ ⟨p1, p2, p3, fun w' hw' hb' => ?_⟩
      by_cases e : w' = w
      · rw [e] at hb'; exact absurd hb' hb
      · exact p4 w' (by omega) hb'
theorem cnt_up {st : Nat → Int32} {x : Nat} (hx : st x = 0) : ∀ n, cnt (fun j => decide (upd st x 1 j ≠ 0)) n = cnt (fun j => decide (st j ≠ 0)) n + if x < n then 1 else 0
  | 0 => rfl
  | n + 1 => by
    rw [cnt_s, cnt_s, cnt_up hx n]
    by_cases e : n = x
    · subst e
      rw [upd_eq, hx, if_neg (show ¬ n < n by omega), if_pos (show n < n + 1 by omega)]
      rfl
    · rw [upd_ne e]
      by_cases d : x < n
      · rw [if_pos d, if_pos (show x < n + 1 by omega)]; omega
      · rw [if_neg d, if_neg (show ¬ x < n + 1 by omega)]; omega
theorem cnt_all {P : Nat → Bool} : ∀ {n : Nat}, cnt P n = n → ∀ j, j < n → P j = true
  | 0, _, j, hj => absurd hj (Nat.not_lt_zero j)
  | n + 1, h, j, hj => by
    rw [cnt_s] at h
    have hl := cnt_le P n
    by_cases e : P n = true
    · rw [if_pos e] at h
      by_cases z : j = n
      · rw [z]; exact e
      · exact cnt_all (n := n) (by omega) j (by omega)
    · rw [if_neg e] at h; omega
/-- what the settled cells are -/
def RDI (B : Nat → Nat) (f : Nat) (C : Nat → Nat) (st : Nat → Int32) : Prop := RSO B f C ∧ (∀ c w, c < 25 → st c ≠ 0 → w < 4 → bes c w < 25 → C (bes c w) ≤ C c + 1 + rwt B (bes c w)) ∧ ∀ c d, c < 25 → d < 25 → st c ≠ 0 → st d = 0 → C c ≤ C d
theorem di_stop {C : Nat → Nat} {st : Nat → Int32} {m : Nat} (h : RDI B f C st) (hm : ∀ d, d < 25 → st d = 0 → m ≤ C d) : RCL B f (fun c => min (C c) m) := by
  obtain ⟨h1, h2, h3⟩ := h
  refine ⟨Nat.le_trans (Nat.min_le_left _ _) h1.2.1, fun c hc => Nat.le_trans (Nat.min_le_left _ _) (h1.1 c hc), fun c w hc hw hb => ?_⟩
  show min (C (bes c w)) m ≤ min (C c) m + 1 + rwt B (bes c w)
  by_cases e : st c = 0
  · have := hm c hc e
    omega
  · have := h2 c w hc e hw hb
    omega
theorem lc_48 {t : Nat} (ht : t < 25) (hL : ∀ c, c < 25 → lands c = nI (B c)) (hB : ∀ c, c < 25 → B c ≤ 5) (hnf : 100 ≤ nf) : ∀ (d k n : Nat) (C : Nat → Nat) (costs st : Nat → Int32), k + d = 25 → d < n → ZI costs C → RDI B f C st → cnt (fun j => decide (st j ≠ 0)) 25 = k → ∃ V cs ss, V ≤ 1000000 ∧ g_X6_leastCost_l48 nf n (nI t) (nI k) costs st lands = some (nI V, cs, ss) ∧ (∀ D, RCL B f D → D t ≤ V) ∧ ∃ D, RCL B f D ∧ D t = V := by
  have out : ∀ (C : Nat → Nat) (costs st : Nat → Int32) (m : Nat), ZI costs C → RDI B f C st → (∀ d, d < 25 → st d = 0 → m ≤ C d) → C t ≤ m → ∃ V cs ss, V ≤ 1000000 ∧ g_X6_leastCost_b99 nf (nI t) costs st lands = some (nI V, cs, ss) ∧ (∀ D, RCL B f D → D t ≤ V) ∧ ∃ D, RCL B f D ∧ D t = V := by
    intro C costs st m hZ hD hm ht2
    refine ⟨C t, costs, st, hD.1.1 t ht, ?_, fun D hC => hD.1.2.2 D hC t ht, _, di_stop hD hm, Nat.min_eq_left ht2⟩
    unfold g_X6_leastCost_b99
    rw [ck_nI ht (by decide), nI_clamp (by omega), hZ t ht]
  intro d
  induction d with
  | zero =>
    intro k n C costs st hk hn hZ hD hcn
    obtain ⟨n, rfl⟩ := pred_ex hn
    obtain rfl : k = 25 := by omega
    rw [g_X6_leastCost_l48, if_pos (by decide)]
    refine out C costs st 1000000 hZ hD (fun j hj hs => ?_) (hD.1.1 t ht)
    have := of_decide_eq_true (cnt_all hcn j hj)
    exact absurd hs this
  | succ d ih =>
    intro k n C costs st hk hn hZ hD hcn
    obtain ⟨n, rfl⟩ := pred_ex hn
    obtain ⟨b, l, k1, k2, k3⟩ := s_nearest (nf := nf) (st := st) hZ hD.1.1 hnf
    rw [g_X6_leastCost_l48, if_neg (L_nge 25 (by omega) (by decide)), k1, Option.bind_some]
    rcases k3 with ⟨rfl, rfl⟩ | ⟨x, hx, rfl, hs, hl, hl2⟩
    · rw [c8_f (by decide), Option.bind_some, if_pos rfl]
      exact out C costs st 1000000 hZ hD k2 (hD.1.1 t ht)
    · rw [c8_t (L_in 0 24 (Nat.zero_le _) (by omega) (by decide)), Option.bind_some, if_neg (by decide)]
      by_cases e : x = t
      · rw [if_pos (congrArg nI e)]
        refine out C costs st l hZ hD k2 (by rw [← e, hl]; exact Nat.le_refl _)
      · rw [if_neg (fun z => e ((nI_eq (by omega) (by omega)).mp z)), ck_nI hx (by decide), bz_in (Or.inr rfl), nI_clamp (by omega), nI_1]
        obtain ⟨C', co', j1, ⟨j2, j3, j4, j5⟩, j6⟩ := sp_2 (nf := nf) (f := f) (C0 := C) hx hL hB 4 0 nf C costs (by omega) (by omega) hZ ⟨hD.1, fun j _ => Nat.le_refl _, fun j _ => Or.inl rfl, fun w' hw' => absurd hw' (Nat.not_lt_zero _)⟩
        rw [show g_X6_spreadFrom nf (nI x) costs lands = _ from j6, Option.bind_some]
        have hxs : C' x = C x := by
          rcases j4 x hx with h | h
          · exact h
          · have := j3 x hx
            omega
        have hset : ∀ c, c < 25 → st c ≠ 0 → C' c = C c := by
          intro c hc hsc
          rcases j4 c hc with h | h
          · exact h
          · have h1 := hD.2.2 c x hc hx hsc hs
            have h2 := j3 c hc
            omega
        refine ih (k + 1) n C' co' (upd st x 1) (by omega) (by omega) j1 ⟨j2, fun c w hc hsc hw hb => ?_, fun c d' hc hd hsc hsd => ?_⟩ (by rw [cnt_up hs, hcn, if_pos hx])
        · by_cases z : c = x
          · subst z
            rw [hxs]; exact j5 w hw hb
          · rw [upd_ne z] at hsc
            rw [hset c hc hsc]
            exact Nat.le_trans (j3 _ hb) (hD.2.1 c w hc hsc hw hb)
        · have zd : d' ≠ x := fun z => by rw [z, upd_eq] at hsd; exact absurd hsd (by decide)
          rw [upd_ne zd] at hsd
          have hxd : C x ≤ C' d' := by
            rcases j4 d' hd with h | h
            · rw [h, hl]; exact k2 d' hd hsd
            · omega
          by_cases z : c = x
          · rw [z, hxs]; exact hxd
          · rw [upd_ne z] at hsc
            rw [hset c hc hsc]
            exact Nat.le_trans (hD.2.2 c x hc hx hsc hs) hxd
theorem lc_3 {t : Nat} (ht : t < 25) (hf : f < 25) (hL : ∀ c, c < 25 → lands c = nI (B c)) (hB : ∀ c, c < 25 → B c ≤ 5) (hnf : 100 ≤ nf) : ∀ (d x n : Nat) (costs st : Nat → Int32), x + d = 25 → d < n → (∀ j, j < x → costs j = 1000000) → (∀ j, j < x → st j = 0) → ∃ V cs ss, V ≤ 1000000 ∧ g_X6_leastCost_l3 nf n (nI f) (nI t) (nI x) costs st lands = some (nI V, cs, ss) ∧ (∀ D, RCL B f D → D t ≤ V) ∧ ∃ D, RCL B f D ∧ D t = V := by
  intro d
  induction d with
  | zero =>
    intro x n costs st hx hn hC hs
    obtain ⟨n, rfl⟩ := pred_ex hn
    obtain rfl : x = 25 := by omega
    rw [g_X6_leastCost_l3, if_pos (by decide), ck_nI hf (by decide), nI_clamp (by omega), hL f hf, s_costOf (B := B) (c := f) rfl (hB f hf), Option.bind_some, ck_nI hf (by decide)]
    refine lc_48 ht hL hB hnf 25 0 nf (rc0 B f) _ st (by omega) (by omega) (fun j hj => ?_) ⟨RSO_0, fun c w hc hsc => absurd (hs c hc) hsc, fun c d' hc hd hsc => absurd (hs c hc) hsc⟩ (cnt_zero (fun j hj => decide_eq_false (fun z => z (hs j hj))))
    unfold rc0
    by_cases e : j = f
    · subst e; rw [upd_eq, if_pos rfl]
    · rw [upd_ne e, if_neg e, hC j hj]; rfl
  | succ d ih =>
    intro x n costs st hx hn hC hs
    obtain ⟨n, rfl⟩ := pred_ex hn
    have hx25 : x < 25 := by omega
    rw [g_X6_leastCost_l3, if_neg (L_nge 25 (by omega) (by decide)), ck_nI hx25 (by decide), ck_nI hx25 (by decide), bz_in (Or.inl rfl), nI_clamp (by omega), nI_1]
    refine ih (x + 1) n _ _ (by omega) (by omega) (fun j hj => ?_) (fun j hj => ?_)
    · by_cases e : j = x
      · subst e; rw [upd_eq]
      · rw [upd_ne e]; exact hC j (by omega)
    · by_cases e : j = x
      · subst e; rw [upd_eq]
      · rw [upd_ne e]; exact hs j (by omega)
end NEAR
theorem road_eq {nf f t : Nat} {B : Nat → Nat} {book lands costs st cost : Nat → Int32} (hM : MB book B) (hL : ∀ c, c < 25 → lands c = nI (B c)) (hB : ∀ c, c < 25 → B c ≤ 5) (hf : f < 25) (ht : t < 25) (hnf : 30000000 ≤ nf) : ∃ V cs ss co, V ≤ 1000000 ∧ g_X6_leastCost nf (nI f) (nI t) costs st lands = some (nI V, cs, ss) ∧ g_X9_layRoads nf (nI f) book cost = some co ∧ co t = nI V := by
  obtain ⟨V, cs, ss, h0, h1, h2, D, h3, h4⟩ := lc_3 (nf := nf) ht hf hL hB (by omega) 25 0 nf costs st (by omega) (by omega) (fun j hj => absurd hj (Nat.not_lt_zero j)) (fun j hj => absurd hj (Nat.not_lt_zero j))
  obtain ⟨C, co, k1, k2, k3, k4⟩ := s_layRoads (nf := nf) (cost := cost) hM hB hf hnf
  refine ⟨V, cs, ss, co, h0, h1, k4, ?_⟩
  have a := h2 C k3
  have b := k2.2.2 D h3 t ht
  rw [k1 t ht]
  congr 1
  omega
theorem st_road : St_road := by
  intro n_lands n_camphors n_there n_mothCells n_mothHeads n_threads n_sightNights n_sightCells n_sights n_night u_lands u_camphors u_there u_mothCells u_mothHeads u_threads u_sightNights u_sightCells u_sights u_night v_lands v_camphors v_there v_mothCells v_mothHeads v_threads v_sightNights v_sightCells v_sights v_night kept p_signs p_size t_next_ book sights sight signs pad image isKept r_costs r_settled cost p1 p2 hR
  obtain ⟨⟨B, S, SS, hW, hDB, hMB, hWS, hDS, hMS⟩, hRP, hI0, hI1, hRT⟩ := hR
  obtain ⟨nf, hnf⟩ : ∃ nf : Nat, 30000000 ≤ nf := ⟨30000000, Nat.le_refl _⟩
  suffices hh : ∃ q1 q2, g_X8_road nf p1 p2 n_lands r_costs r_settled = some q1 ∧ g_X9_road nf p1 p2 book cost = some q2 ∧ q1.1 = q2.1 by
    obtain ⟨q1, q2, h1, h2, h3⟩ := hh
    exact ⟨nf, q1, q2, h1, h2, h3, ⟨B, S, SS, hW, hDB, hMB, hWS, hDS, hMS⟩, hRP, hI0, hI1, hRT⟩
  unfold g_X8_road g_X9_road
  by_cases c1 : 0 ≤ p1 ∧ p1 ≤ 24
  · rw [c8_t c1, c9_t c1, Option.bind_some, Option.bind_some, if_neg (by decide), if_neg (by decide)]
    by_cases c2 : 0 ≤ p2 ∧ p2 ≤ 24
    · rw [c8_t c2, c9_t c2, Option.bind_some, Option.bind_some, if_neg (by decide), if_neg (by decide)]
      obtain ⟨f, hf, rfl⟩ := rngN (k := 24) (by decide) c1
      obtain ⟨t, ht, rfl⟩ := rngN (k := 24) (by decide) c2
      obtain ⟨V, cs, ss, co, h0, h1, h2, h3⟩ := road_eq (nf := nf) (f := f) (t := t) (costs := r_costs) (st := r_settled) (cost := cost) hMB hDB.1 hW.1 (by omega) (by omega) hnf
      rw [h1, h2, Option.bind_some, Option.bind_some, ck_nI (show t < 25 by omega) (by decide), nI_clamp (by omega), h3]
      by_cases z : (100 : Int32) ≤ nI V
      · exact ⟨_, _, if_pos z, if_pos z, rfl⟩
      · exact ⟨_, _, if_neg z, by rw [if_neg z, ck_nI (show t < 25 by omega) (by decide)], rfl⟩
    · rw [c8_f c2, c9_f c2]
      exact ⟨_, _, rfl, rfl, rfl⟩
  · rw [c8_f c1, c9_f c1]
    exact ⟨_, _, rfl, rfl, rfl⟩
theorem st_whole : St_whole := by
  intro n_lands n_camphors n_there n_mothCells n_mothHeads n_threads n_sightNights n_sightCells n_sights n_night u_lands u_camphors u_there u_mothCells u_mothHeads u_threads u_sightNights u_sightCells u_sights u_night v_lands v_camphors v_there v_mothCells v_mothHeads v_threads v_sightNights v_sightCells v_sights v_night kept p_signs p_size t_next_ book sights sight signs pad image isKept r_costs r_settled cost p1 p2 p3 hR
  obtain ⟨⟨B, S, SS, hW, hDB, hMB, hWS, hDS, hMS⟩, hRP, hI0, hI1, hRT⟩ := hR
  obtain ⟨nf, hnf⟩ : ∃ nf : Nat, 30000000 ≤ nf := ⟨30000000, Nat.le_refl _⟩
  suffices hh : ∃ q1 q2, g_X8_whole nf p1 p2 p3 n_lands r_costs r_settled = some q1 ∧ g_X9_whole nf p1 p2 p3 book cost = some q2 ∧ q1.1 = q2.1 by
    obtain ⟨q1, q2, h1, h2, h3⟩ := hh
    exact ⟨nf, q1, q2, h1, h2, h3, ⟨B, S, SS, hW, hDB, hMB, hWS, hDS, hMS⟩, hRP, hI0, hI1, hRT⟩
  unfold g_X8_whole g_X9_whole
  by_cases c1 : 0 ≤ p1 ∧ p1 ≤ 24
  · rw [c8_t c1, c9_t c1, Option.bind_some, Option.bind_some, if_neg (by decide), if_neg (by decide)]
    by_cases c2 : 0 ≤ p2 ∧ p2 ≤ 24
    · rw [c8_t c2, c9_t c2, Option.bind_some, Option.bind_some, if_neg (by decide), if_neg (by decide)]
      by_cases c3 : 0 ≤ p3 ∧ p3 ≤ 1
      · rw [w_t c3, n_t c3, Option.bind_some, Option.bind_some, if_neg (by decide), if_neg (by decide)]
        obtain ⟨f, hf, rfl⟩ := rngN (k := 24) (by decide) c1
        obtain ⟨t, ht, rfl⟩ := rngN (k := 24) (by decide) c2
        obtain ⟨V, cs, ss, co, h0, h1, h2, h3⟩ := road_eq (nf := nf) (f := f) (t := t) (costs := r_costs) (st := r_settled) (cost := cost) hMB hDB.1 hW.1 (by omega) (by omega) hnf
        rw [h1, h2, Option.bind_some, Option.bind_some, ck_nI (show t < 25 by omega) (by decide), nI_clamp (by omega), h3]
        by_cases z : nI V < (1000000 : Int32)
        · by_cases y : p3 = 0
          · exact ⟨_, _, by rw [if_pos z, if_pos y], by rw [if_pos z, if_pos y, ck_nI (show t < 25 by omega) (by decide)], rfl⟩
          · exact ⟨_, _, by rw [if_pos z, if_neg y], by rw [if_pos z, if_neg y, ck_nI (show t < 25 by omega) (by decide)], rfl⟩
        · exact ⟨_, _, if_neg z, if_neg z, rfl⟩
      · rw [w_f c3, n_f c3]
        exact ⟨_, _, rfl, rfl, rfl⟩
    · rw [c8_f c2, c9_f c2]
      exact ⟨_, _, rfl, rfl, rfl⟩
  · rw [c8_f c1, c9_f c1]
    exact ⟨_, _, rfl, rfl, rfl⟩
