/-! ===== a new object ===== -/
theorem ne_87 {nf : Nat} {l th : Nat → Int32} {e : Int32} : ∀ (m x n : Nat), x + m = 4 → m < n → 1 ≤ x → g_X1_init_l87 nf n (nI x) l (cpy (fun _ => 9) th 1 x) e = some (l, cpy (fun _ => 9) th 1 4, -6) := by
  intro m
  induction m with
  | zero =>
    intro x n h hn h1
    obtain ⟨n, rfl⟩ := pred_ex hn
    obtain rfl : x = 4 := by omega
    rw [g_X1_init_l87, if_pos (by decide)]
  | succ m ih =>
    intro x n h hn h1
    obtain ⟨n, rfl⟩ := pred_ex hn
    rw [g_X1_init_l87, if_neg (L_ngt 3 (by omega) (by decide)), ck_nI (by omega) (by decide), nI_clamp (by omega), nI_1, cpy_s (fun _ => 9) th h1]
    exact ih (x + 1) n (by omega) (by omega) (by omega)
theorem ne_66 {nf : Nat} {l th : Nat → Int32} {e : Int32} (hnf : 100 ≤ nf) : ∀ (m x n : Nat), x + m = 25 → m < n → g_X1_init_l66 nf n (nI x) (cpy (fun _ => 1) l 0 x) th e = some (cpy (fun _ => 1) l 0 25, cpy (fun _ => 9) th 1 4, -6) := by
  intro m
  induction m with
  | zero =>
    intro x n h hn
    obtain ⟨n, rfl⟩ := pred_ex hn
    obtain rfl : x = 25 := by omega
    rw [g_X1_init_l66, if_pos (by decide)]
    have := ne_87 (nf := nf) (l := cpy (fun _ => 1) l 0 25) (th := th) (e := e) 3 1 nf (by omega) (by omega) (by omega)
    rw [cpy_0] at this
    exact this
  | succ m ih =>
    intro x n h hn
    obtain ⟨n, rfl⟩ := pred_ex hn
    rw [g_X1_init_l66, if_neg (L_nge 25 (by omega) (by decide)), ck_nI (by omega) (by decide), nI_clamp (by omega), nI_1, cpy_s (fun _ => 1) l (Nat.zero_le x)]
    exact ih (x + 1) n (by omega) (by omega)
theorem tb_stand : ∀ s, s < 100 → g_X7_standBehind 200 (nI s) = some (nI (nxt s)) := by decide +kernel
theorem ne_46 {f : Nat → Int32} : ∀ (m x n : Nat), x + m = 100 → m < n → g_X7_init_l46 200 n (nI x) (cpy (fun s => nI (nxt s)) f 0 x) = some (cpy (fun s => nI (nxt s)) f 0 100) := by
  intro m
  induction m with
  | zero =>
    intro x n h hn
    obtain ⟨n, rfl⟩ := pred_ex hn
    obtain rfl : x = 100 := by omega
    rw [g_X7_init_l46, if_pos (by decide)]
  | succ m ih =>
    intro x n h hn
    obtain ⟨n, rfl⟩ := pred_ex hn
    rw [g_X7_init_l46, if_neg (L_nge 100 (by omega) (by decide)), tb_stand x (by omega), Option.bind_some, ck_nI (by omega) (by decide), nI_clamp (by omega), nI_1, cpy_s (fun s => nI (nxt s)) f (Nat.zero_le x)]
    exact ih (x + 1) n (by omega) (by omega)
theorem ne_131 {nf : Nat} {f : Nat → Int32} : ∀ (m x n : Nat), x + m = 3 → m < n → g_X9_init_l131 nf n (nI x) (cpy (fun _ => 9) f 58 (58 + x)) = some (cpy (fun _ => 9) f 58 61) := by
  intro m
  induction m with
  | zero =>
    intro x n h hn
    obtain ⟨n, rfl⟩ := pred_ex hn
    obtain rfl : x = 3 := by omega
    rw [g_X9_init_l131, if_pos (by decide)]
  | succ m ih =>
    intro x n h hn
    obtain ⟨n, rfl⟩ := pred_ex hn
    rw [g_X9_init_l131, if_neg (L_nge 3 (by omega) (by decide)), show (58 : Int32) + nI x = nI (58 + x) from nI_add 58 x, ck_nI (by omega) (by decide), nI_clamp (by omega), nI_1, cpy_s (fun _ => 9) f (show 58 ≤ 58 + x by omega)]
    exact ih (x + 1) n (by omega) (by omega)
theorem ne_110 {nf : Nat} {f : Nat → Int32} (hnf : 100 ≤ nf) : ∀ (m x n : Nat), x + m = 25 → m < n → g_X9_init_l110 nf n (nI x) (cpy (fun _ => 1) f 0 x) = some (cpy (fun _ => 9) (cpy (fun _ => 1) f 0 25) 58 61) := by
  intro m
  induction m with
  | zero =>
    intro x n h hn
    obtain ⟨n, rfl⟩ := pred_ex hn
    obtain rfl : x = 25 := by omega
    rw [g_X9_init_l110, if_pos (by decide)]
    have := ne_131 (nf := nf) (f := cpy (fun _ => 1) f 0 25) 3 0 nf (by omega) (by omega)
    rw [Nat.add_zero, cpy_0] at this
    exact this
  | succ m ih =>
    intro x n h hn
    obtain ⟨n, rfl⟩ := pred_ex hn
    rw [g_X9_init_l110, if_neg (L_nge 25 (by omega) (by decide)), ck_nI (by omega) (by decide), nI_clamp (by omega), nI_1, cpy_s (fun _ => 1) f (Nat.zero_le x)]
    exact ih (x + 1) n (by omega) (by omega)
def B0 : Nat → Nat := fun i => if i < 25 then 1 else if 58 ≤ i ∧ i < 61 then 9 else 0
theorem st_new : St_new := by
  refine ⟨200, (cpy (fun _ => 1) (fun _ => 0) 0 25, cpy (fun _ => 9) (fun _ => 0) 1 4, -6), cpy (fun s => nI (nxt s)) (fun _ => 0) 0 100, cpy (fun _ => 9) (cpy (fun _ => 1) (fun _ => 0) 0 25) 58 61, ?_, ?_, ?_, ⟨B0, fun _ => 0, 0, ?_, ?_, ?_, ?_, ?_, ?_⟩, ⟨0, fun _ => 0, by omega, rfl, rfl, fun i hi => absurd hi (Nat.not_lt_zero i)⟩, ⟨rfl, Or.inl rfl, fun h => absurd h (by decide)⟩, ⟨rfl, Or.inl rfl, fun h => absurd h (by decide)⟩, ?_⟩
  · have := ne_66 (nf := 200) (l := fun _ => 0) (th := fun _ => 0) (e := 0) (by omega) 25 0 200 (by omega) (by omega)
    rw [cpy_0] at this
    exact this
  · have := ne_46 (f := fun _ => 0) 100 0 200 (by omega) (by omega)
    rw [cpy_0] at this
    exact this
  · have := ne_110 (nf := 200) (f := fun _ => 0) (by omega) 25 0 200 (by omega) (by omega)
    rw [cpy_0] at this
    exact this
  · refine ⟨?_, ?_, ?_, ?_, ?_, ?_, ?_⟩ <;> decide
  · refine ⟨fun c hc => ?_, fun c hc => ?_, fun k hk => ?_, fun k hk => ?_, fun k hk => ?_, fun t ht => ?_, rfl⟩
    · dsimp only; rw [cpy_in (Nat.zero_le c) hc, B0, if_pos hc]; rfl
    · rw [B0, if_neg (by omega), if_neg (by omega)]; rfl
    · rw [B0, if_neg (by omega), if_neg (by omega), Nat.zero_div]; rfl
    · rw [B0, if_neg (by omega), if_neg (by omega)]; rfl
    · rw [B0, if_neg (by omega), if_neg (by omega)]; rfl
    · dsimp only; rw [cpy_in (by omega) (by omega), B0, if_neg (by omega), if_pos (by omega)]; rfl
  · intro i hi
    by_cases h1 : 58 ≤ i ∧ i < 61
    · rw [cpy_in h1.1 h1.2, B0, if_neg (by omega), if_pos h1]; rfl
    · rw [cpy_out (by omega)]
      by_cases h2 : i < 25
      · rw [cpy_in (Nat.zero_le i) h2, B0, if_pos h2]; rfl
      · rw [cpy_out (by omega), B0, if_neg h2, if_neg h1]; rfl
  · exact ⟨by omega, fun i hi => ⟨Nat.zero_le _, Nat.zero_lt_succ _⟩⟩
  · exact ⟨fun i hi => rfl, fun i hi => rfl, rfl⟩
  · exact ⟨fun i hi => rfl, rfl⟩
  · intro s hs
    rw [cpy_in (Nat.zero_le s) hs]
