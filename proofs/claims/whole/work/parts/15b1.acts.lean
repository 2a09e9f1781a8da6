/-! ===== acts, the class's and the reference's side by side ===== -/
theorem s_flying {nf k : Nat} {now : Nat → Int32} {B : Nat → Nat} (h : MB now B) (hW : WF B) (hk : k < 4) : g_X9_flying nf (nI k) now = some (nI (B 61 / 2 ^ k % 2)) := s_there9 h hW hk
section ACT
variable {nf : Nat} {l c t mc mh th now : Nat → Int32} {n : Int32} {B : Nat → Nat}
theorem a_turn {k w : Nat} (hD : DB l c t mc mh th n B) (hM : MB now B) (hW : WF B) (hk : k < 4) (hw : w < 4) : ∃ (e : Nat) (mh' now' : Nat → Int32) (B' : Nat → Nat), e ≤ 6 ∧ g_X1_turn nf (nI k) (nI w) t mh = some (nI e, mh') ∧ g_X9_turn nf (nI k) (nI w) now = some (nI e, now') ∧ DB l c t mc mh' th n B' ∧ MB now' B' ∧ WF B' := by
  have hh := hW.2.2.2.1 k hk
  have e54 : (54 : Int32) + nI k = nI (54 + k) := nI_add 54 k
  rcases Nat.mod_two_eq_zero_or_one (B 61 / 2 ^ k) with e | e
  · refine ⟨1, mh, now, B, by omega, ?_, ?_, hD, hM, hW⟩
    · unfold g_X1_turn; rw [s_there8 hD hk, e, Option.bind_some, if_pos (L_eq 0 rfl)]; rfl
    · unfold g_X9_turn; rw [s_flying hM hW hk, e, Option.bind_some, if_pos (L_eq 0 rfl)]; rfl
  · by_cases q : B (54 + k) = w
    · refine ⟨2, mh, now, B, by omega, ?_, ?_, hD, hM, hW⟩
      · unfold g_X1_turn; rw [s_there8 hD hk, e, Option.bind_some, if_neg (by decide), ck_nI hk (by decide), nI_clamp (by omega), hD.2.2.2.2.1 k hk, q, if_pos rfl]; rfl
      · unfold g_X9_turn; rw [s_flying hM hW hk, e, Option.bind_some, if_neg (by decide), e54, ck63 (by omega), nI_clamp (by omega), hM _ (by omega), q, if_pos rfl]; rfl
    · have hne : ¬ nI (B (54 + k)) = nI w := fun z => q ((nI_eq (by omega) (by omega)).mp z)
      refine ⟨0, upd mh k (nI w), upd now (54 + k) (nI w), upN B (54 + k) w, by omega, ?_, ?_, DB_mh hD hk, MB_up hM _ _, WF_up hW (by omega) (by omega) (by omega) (by omega) (by omega) (by omega) (by omega)⟩
      · unfold g_X1_turn; rw [s_there8 hD hk, e, Option.bind_some, if_neg (by decide), ck_nI hk (by decide), nI_clamp (by omega), hD.2.2.2.2.1 k hk, if_neg hne, ck_nI hk (by decide)]; rfl
      · unfold g_X9_turn; rw [s_flying hM hW hk, e, Option.bind_some, if_neg (by decide), e54, ck63 (by omega), nI_clamp (by omega), hM _ (by omega), if_neg hne, ck63 (by omega)]; rfl
def clr (w k : Nat) : Nat := w - w / 2 ^ k % 2 * 2 ^ k
theorem tb_clr : ∀ w, w < 16 → ∀ k, k < 4 → (nI w &&& (((1 : Int32) <<< (nI k &&& 31)) ^^^ ((-1) : Int32))) = nI (clr w k) ∧ clr w k < 16 ∧ ∀ i, i < 4 → clr w k / 2 ^ i % 2 = if i = k then 0 else w / 2 ^ i % 2 := by decide +kernel
theorem a_catch {k : Nat} (hD : DB l c t mc mh th n B) (hM : MB now B) (hW : WF B) (hk : k < 4) : ∃ (e : Nat) (t' now' : Nat → Int32) (B' : Nat → Nat), e ≤ 6 ∧ g_X1_catchMoth nf (nI k) t = some (nI e, t') ∧ g_X9_catchIt nf (nI k) now = some (nI e, now') ∧ DB l c t' mc mh th n B' ∧ MB now' B' ∧ WF B' := by
  have h61 := hW.2.2.2.2.2.1
  obtain ⟨z1, z2, z3⟩ := tb_clr (B 61) h61 k hk
  rcases Nat.mod_two_eq_zero_or_one (B 61 / 2 ^ k) with e | e
  · refine ⟨1, t, now, B, by omega, ?_, ?_, hD, hM, hW⟩
    · unfold g_X1_catchMoth; rw [s_there8 hD hk, e, Option.bind_some, if_pos (L_eq 0 rfl)]; rfl
    · unfold g_X9_catchIt; rw [s_flying hM hW hk, e, Option.bind_some, if_pos (L_eq 0 rfl)]; rfl
  · refine ⟨0, upd t k (nI 0), upd now 61 (nI (clr (B 61) k)), upN B 61 (clr (B 61) k), by omega, ?_, ?_, DB_there hD z3, MB_up hM _ _, WF_up hW (by omega) (by omega) (by omega) (by omega) (by omega) (fun _ => z2) (by omega)⟩
    · unfold g_X1_catchMoth; rw [s_there8 hD hk, e, Option.bind_some, if_neg (by decide), ck_nI hk (by decide), bz_in (Or.inl rfl), nI_clamp (by omega)]; rfl
    · unfold g_X9_catchIt; rw [s_flying hM hW hk, e, Option.bind_some, if_neg (by decide), ck61, ck61, cl61, hM 61 (by omega), z1]; rfl
theorem a_strew {x : Nat} (hD : DB l c t mc mh th n B) (hM : MB now B) (hW : WF B) (hx : x < 25) : ∃ (e : Nat) (c' now' : Nat → Int32) (B' : Nat → Nat), e ≤ 6 ∧ g_X1_layCamphor nf (nI x) c = some (nI e, c') ∧ g_X9_strew nf (nI x) now = some (nI e, now') ∧ DB l c' t mc mh th n B' ∧ MB now' B' ∧ WF B' := by
  have hh := hW.2.1 x hx
  have e25 : (25 : Int32) + nI x = nI (25 + x) := nI_add 25 x
  by_cases q : B (25 + x) < 3
  · refine ⟨0, upd c x (nI 3), upd now (25 + x) (nI 3), upN B (25 + x) 3, by omega, ?_, ?_, DB_camph hD hx, MB_up hM _ _, WF_up hW (by omega) (by omega) (by omega) (by omega) (by omega) (by omega) (by omega)⟩
    · unfold g_X1_layCamphor; rw [c8_t (L_in 0 24 (Nat.zero_le _) (by omega) (by decide)), Option.bind_some, if_neg (by decide), ck_nI hx (by decide), nI_clamp (by omega), hD.2.1 x hx, if_pos (L_lt 3 q (by decide)), ck_nI hx (by decide)]; rfl
    · unfold g_X9_strew; rw [e25, ck63 (by omega), nI_clamp (by omega), hM _ (by omega), if_pos (L_le 2 (by omega) (by decide)), ck63 (by omega)]; rfl
  · refine ⟨3, c, now, B, by omega, ?_, ?_, hD, hM, hW⟩
    · unfold g_X1_layCamphor; rw [c8_t (L_in 0 24 (Nat.zero_le _) (by omega) (by decide)), Option.bind_some, if_neg (by decide), ck_nI hx (by decide), nI_clamp (by omega), hD.2.1 x hx, if_neg (L_nlt 3 (by omega) (by omega))]; rfl
    · unfold g_X9_strew; rw [e25, ck63 (by omega), nI_clamp (by omega), hM _ (by omega), if_neg (L_nle 2 (by omega) (by omega))]; rfl
def lby (d : Nat) : Nat := if d = 0 then 2 else if d = 1 then 3 else 5
theorem a_darn {x d : Nat} (hD : DB l c t mc mh th n B) (hM : MB now B) (hW : WF B) (hx : x < 25) (hd : d < 3) : ∃ (e : Nat) (l' th' now' : Nat → Int32) (B' : Nat → Nat), e ≤ 6 ∧ g_X1_darn nf (nI x) (nI (1 + d)) l th = some (nI e, l', th') ∧ g_X9_darn nf (nI x) (nI (1 + d)) now = some (nI e, now') ∧ DB l' c t mc mh th' n B' ∧ MB now' B' ∧ WF B' := by
  have hh := hW.1 x hx
  have ht := hW.2.2.2.2.1 d hd
  have e57 : (57 : Int32) + nI (1 + d) = nI (58 + d) := by rw [show (57 : Int32) = nI 57 from rfl, nI_add, show 57 + (1 + d) = 58 + d by omega]
  have ci : g_X8_isCell nf (nI x) = some 1 := c8_t (L_in 0 24 (Nat.zero_le _) (by omega) (by decide))
  have ti : g_X8_isThread nf (nI (1 + d)) = some 1 := h8_t (L_in 1 3 (by omega) (by omega) (by decide))
  by_cases q : B x = 0
  · by_cases q2 : B (58 + d) = 0
    · refine ⟨5, l, th, now, B, by omega, ?_, ?_, hD, hM, hW⟩
      · unfold g_X1_darn; rw [ci, Option.bind_some, if_neg (by decide), ck_nI hx (by decide), nI_clamp (by omega), hD.1 x hx, q, if_pos (L_eq 0 rfl), ti, Option.bind_some, if_neg (by decide), ck_nI (show 1 + d < 4 by omega) (by decide), nI_clamp (by omega), hD.2.2.2.2.2.1 d hd, q2, if_pos (L_eq 0 rfl)]; rfl
      · unfold g_X9_darn; rw [ck63 (by omega), nI_clamp (by omega), hM x (by omega), q, if_pos (L_eq 0 rfl), e57, ck63 (by omega), nI_clamp (by omega), hM _ (by omega), q2, if_pos (L_eq 0 rfl)]; rfl
    · have s1 : nI (B (58 + d)) - 1 = nI (B (58 + d) - 1) := pk_sub (b := 1) (by omega)
      have hl : g_X1_landBy nf (nI (1 + d)) = some (nI (lby d)) := by
        obtain rfl | rfl | rfl : d = 0 ∨ d = 1 ∨ d = 2 := by omega
        · rfl
        · rfl
        · rfl
      have h9 : ∀ f : Nat → Int32, (if nI (1 + d) = 1 then g_X9_darn_b62 nf (nI x) 2 f else if nI (1 + d) = 2 then g_X9_darn_b62 nf (nI x) 3 f else g_X9_darn_b62 nf (nI x) 5 f) = some (0, upd f x (nI (lby d))) := by
        intro f
        unfold g_X9_darn_b62
        rw [ck63 (by omega), ck63 (by omega), ck63 (by omega), nI_clamp (by omega)]
        obtain rfl | rfl | rfl : d = 0 ∨ d = 1 ∨ d = 2 := by omega
        · rfl
        · rfl
        · rfl
      refine ⟨0, upd l x (nI (lby d)), upd th (1 + d) (nI (B (58 + d) - 1)), upd (upd now (58 + d) (nI (B (58 + d) - 1))) x (nI (lby d)), upN (upN B (58 + d) (B (58 + d) - 1)) x (lby d), by omega, ?_, ?_, DB_land (DB_th hD hd) hx, MB_up (MB_up hM _ _) _ _, WF_up (WF_up hW (by omega) (by omega) (by omega) (by omega) (by omega) (by omega) (by omega)) (fun _ => by unfold lby; split; omega; split <;> omega) (by omega) (by omega) (by omega) (by omega) (by omega) (by omega)⟩
      · unfold g_X1_darn; rw [ci, Option.bind_some, if_neg (by decide), ck_nI hx (by decide), nI_clamp (by omega), hD.1 x hx, q, if_pos (L_eq 0 rfl), ti, Option.bind_some, if_neg (by decide), ck_nI (show 1 + d < 4 by omega) (by decide), nI_clamp (by omega), hD.2.2.2.2.2.1 d hd, if_neg (L_ne 0 q2 (by omega) (by decide)), ck_nI (show 1 + d < 4 by omega) (by decide), ck_nI (show 1 + d < 4 by omega) (by decide), hl, Option.bind_some, ck_nI hx (by decide), s1]; rfl
      · unfold g_X9_darn; rw [ck63 (by omega), nI_clamp (by omega), hM x (by omega), q, if_pos (L_eq 0 rfl), e57, ck63 (by omega), nI_clamp (by omega), hM _ (by omega), if_neg (L_ne 0 q2 (by omega) (by decide)), ck63 (by omega), ck63 (by omega), s1, h9]; rfl
  · refine ⟨4, l, th, now, B, by omega, ?_, ?_, hD, hM, hW⟩
    · unfold g_X1_darn; rw [ci, Option.bind_some, if_neg (by decide), ck_nI hx (by decide), nI_clamp (by omega), hD.1 x hx, if_neg (L_ne 0 q (by omega) (by decide))]; rfl
    · unfold g_X9_darn; rw [ck63 (by omega), nI_clamp (by omega), hM x (by omega), if_neg (L_ne 0 q (by omega) (by decide))]; rfl
end ACT
