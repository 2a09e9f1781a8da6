/-! ===== a night, the class's and the reference's side by side ===== -/
def EI (tA0 tC0 ns eaten tA tC : Int32) : Prop := (eaten = -6 ∨ ∃ c, c < 25 ∧ eaten = nI c) ∧ (0 ≤ tA0 → tA = tA0 ∧ tC = tC0) ∧ (¬ 0 ≤ tA0 → (eaten = -6 ∧ tA = tA0 ∧ tC = tC0) ∨ (¬ eaten = -6 ∧ tA = ns ∧ tC = eaten))
theorem bes_or (c w : Nat) (hc : c < 25) : bes c w < 25 ∨ bes c w = 25 := by
  unfold bes
  split
  · split <;> omega
  · split
    · split <;> omega
    · split
      · split <;> omega
      · split <;> omega
section NIGHT
variable {nf : Nat} {tA0 tC0 ns : Int32} {t th : Nat → Int32} {nt : Int32}
theorem a_eat {x : Nat} {l now : Nat → Int32} {eaten tA tC : Int32} {B : Nat → Nat} (hl : l x = nI (B x)) (hm : now x = nI (B x)) (hB : B x ≤ 5) (hx : x < 25) (hns : 0 ≤ ns) (hE : EI tA0 tC0 ns eaten tA tC) : ∃ eaten' tA' tC' : Int32, g_X1_eat nf (nI x) l eaten = some (upd l x 0, eaten') ∧ EI tA0 tC0 ns eaten' tA' tC' ∧ ∀ (x1 x3 : Int32) (nw : Nat → Int32), (if now (nI x).toNatClampNeg = 4 then (if 0 ≤ tA then g_X9_fly_b86 nf x1 x3 (nI x) nw ns tA tC else g_X9_fly_b86 nf x1 x3 (nI x) nw ns ns (nI x)) else g_X9_fly_b86 nf x1 x3 (nI x) nw ns tA tC) = g_X9_fly_b86 nf x1 x3 (nI x) nw ns tA' tC' := by
  obtain ⟨E1, E2, E3⟩ := id hE
  have n6 : ¬ nI x = -6 := nI_m6 (by omega)
  by_cases q : B x = 4
  · by_cases z : eaten = -6
    · by_cases u : 0 ≤ tA0
      · obtain ⟨u1, u2⟩ := E2 u
        refine ⟨nI x, tA, tC, ?_, ⟨Or.inr ⟨x, hx, rfl⟩, E2, fun h => absurd u h⟩, ?_⟩
        · unfold g_X1_eat g_X1_eat_b24
          rw [ck_nI hx (by decide), nI_clamp (by omega), hl, q, if_pos (L_eq 4 rfl), if_pos z, ck_nI hx (by decide)]
        · intro x1 x3 nw
          rw [nI_clamp (by omega), hm, q, if_pos (L_eq 4 rfl), if_pos (by rw [u1]; exact u)]
      · refine ⟨nI x, ns, nI x, ?_, ⟨Or.inr ⟨x, hx, rfl⟩, fun h => absurd h u, fun _ => Or.inr ⟨n6, rfl, rfl⟩⟩, ?_⟩
        · unfold g_X1_eat g_X1_eat_b24
          rw [ck_nI hx (by decide), nI_clamp (by omega), hl, q, if_pos (L_eq 4 rfl), if_pos z, ck_nI hx (by decide)]
        · intro x1 x3 nw
          rcases E3 u with ⟨-, g2, -⟩ | ⟨g1, -, -⟩
          · rw [nI_clamp (by omega), hm, q, if_pos (L_eq 4 rfl), if_neg (by rw [g2]; exact u)]
          · exact absurd z g1
    · refine ⟨eaten, tA, tC, ?_, hE, ?_⟩
      · unfold g_X1_eat g_X1_eat_b24
        rw [ck_nI hx (by decide), nI_clamp (by omega), hl, q, if_pos (L_eq 4 rfl), if_neg z, ck_nI hx (by decide)]
      · intro x1 x3 nw
        have hp : 0 ≤ tA := by
          by_cases u : 0 ≤ tA0
          · rw [(E2 u).1]; exact u
          · rcases E3 u with ⟨g1, -, -⟩ | ⟨-, g2, -⟩
            · exact absurd g1 z
            · rw [g2]; exact hns
        rw [nI_clamp (by omega), hm, q, if_pos (L_eq 4 rfl), if_pos hp]
  · refine ⟨eaten, tA, tC, ?_, hE, ?_⟩
    · unfold g_X1_eat g_X1_eat_b24
      rw [ck_nI hx (by decide), nI_clamp (by omega), hl, if_neg (L_ne 4 q (by omega) (by decide)), ck_nI hx (by decide)]
    · intro x1 x3 nw
      rw [nI_clamp (by omega), hm, if_neg (L_ne 4 q (by omega) (by decide))]
theorem a_fly_l {k : Nat} {l c mc mh now : Nat → Int32} {eaten tA tC : Int32} {B : Nat → Nat} (hD : DB l c t mc mh th nt B) (hM : MB now B) (hW : WF B) (hk : k < 4) (hns : 0 ≤ ns) (hE : EI tA0 tC0 ns eaten tA tC) : ∀ (m i n : Nat), i + m = 4 → m < n → ∃ (l' mc' mh' now' : Nat → Int32) (eaten' tA' tC' : Int32) (B' : Nat → Nat), g_X1_fly_l2 nf n (nI k) (nI i) l c mc mh eaten = some (l', mc', mh', eaten') ∧ g_X9_fly_l2 nf n (nI k) (nI i) now ns tA tC = some (now', tA', tC') ∧ DB l' c t mc' mh' th nt B' ∧ MB now' B' ∧ WF B' ∧ EI tA0 tC0 ns eaten' tA' tC' ∧ B' 62 = B 62 := by
  intro m
  induction m with
  | zero =>
    intro i n hi hn
    obtain ⟨n, rfl⟩ := pred_ex hn
    obtain rfl : i = 4 := by omega
    exact ⟨l, mc, mh, now, eaten, tA, tC, B, by rw [g_X1_fly_l2, if_pos (by decide)], by rw [g_X9_fly_l2, if_pos (by decide)], hD, hM, hW, hE, rfl⟩
  | succ m ih =>
    intro i n hi hn
    obtain ⟨n, rfl⟩ := pred_ex hn
    obtain ⟨l', mc', mh', now', eaten', tA', tC', B', r1, r2, r3⟩ := ih (i + 1) n (by omega) (by omega)
    have w1 := hW.2.2.1 k hk
    have w2 := hW.2.2.2.1 k hk
    have e54 : (54 : Int32) + nI k = nI (54 + k) := nI_add 54 k
    have e50 : (50 : Int32) + nI k = nI (50 + k) := nI_add 50 k
    have eh : nI (B (54 + k)) + nI i - (nI (B (54 + k)) + nI i) / 4 * 4 = nI ((B (54 + k) + i) % 4) := by
      rw [nI_add]
      exact pk_rem (d := 4) (by omega) (by decide) (by decide)
    have b8 := s_bes8 (nf := nf) (c := B (50 + k)) (w := (B (54 + k) + i) % 4) w1 (Nat.mod_lt _ (by decide))
    have b9 := s_bes9 (nf := nf) (c := B (50 + k)) (w := (B (54 + k) + i) % 4) w1 (Nat.mod_lt _ (by decide))
    have hh : (B (54 + k) + i) % 4 < 4 := Nat.mod_lt _ (by decide)
    generalize hgh : (B (54 + k) + i) % 4 = h at eh b8 b9 hh
    -- both begin alike
    have c8 : g_X1_fly_l2 nf (n + 1) (nI k) (nI i) l c mc mh eaten = ((some (if bes (B (50 + k)) h < 25 then nI (bes (B (50 + k)) h) else -1)).bind fun q1 => (g_X8_isCell nf q1).bind fun q2 => if q2 = 0 then g_X1_fly_b70 nf (g_X1_fly_l2 nf n) (nI k) (nI i) l c mc mh eaten else ck q1 25 (if c q1.toNatClampNeg = 0 then (g_X1_eat nf q1 l eaten).bind fun q3 => some (q3.1, upd mc k q1, upd mh k (nI h), q3.2) else g_X1_fly_b70 nf (g_X1_fly_l2 nf n) (nI k) (nI i) l c mc mh eaten)) := by
      rw [g_X1_fly_l2, if_neg (L_nge 4 (by omega) (by decide)), ck_nI hk (by decide), ck_nI hk (by decide), nI_clamp (by omega), hD.2.2.2.1 k hk, hD.2.2.2.2.1 k hk, eh, b8]
      simp only [ck_nI hk (show 4 < 2 ^ 31 by decide)]
    have c9 : g_X9_fly_l2 nf (n + 1) (nI k) (nI i) now ns tA tC = ((some (if bes (B (50 + k)) h < 25 then nI (bes (B (50 + k)) h) else -6)).bind fun q1 => if q1 < 0 then g_X9_fly_b116 nf (g_X9_fly_l2 nf n) (nI k) (nI i) now ns tA tC else ck (25 + q1) 63 (if now (25 + q1).toNatClampNeg = 0 then ck q1 63 (if now q1.toNatClampNeg = 4 then (if 0 ≤ tA then g_X9_fly_b86 nf (nI k) (nI h) q1 now ns tA tC else g_X9_fly_b86 nf (nI k) (nI h) q1 now ns ns q1) else g_X9_fly_b86 nf (nI k) (nI h) q1 now ns tA tC) else g_X9_fly_b116 nf (g_X9_fly_l2 nf n) (nI k) (nI i) now ns tA tC)) := by
      rw [g_X9_fly_l2, if_neg (L_nge 4 (by omega) (by decide)), e54, e50, ck63 (by omega), ck63 (by omega), nI_clamp (by omega), nI_clamp (by omega), hM _ (by omega), hM _ (by omega), eh, b9]
    rw [c8, c9, Option.bind_some, Option.bind_some]
    unfold g_X1_fly_b70 g_X9_fly_b116
    rw [nI_1]
    rcases bes_or (B (50 + k)) h w1 with q | q
    · generalize hgx : bes (B (50 + k)) h = x at q
      rw [if_pos q, if_pos q, c8_t (L_in 0 24 (Nat.zero_le _) (by omega) (by decide)), Option.bind_some, if_neg (by decide), if_neg (nI_pos (by omega)), ck_nI q (by decide), show (25 : Int32) + nI x = nI (25 + x) from nI_add 25 x, ck63 (by omega), nI_clamp (by omega), nI_clamp (show 25 + x < 2 ^ 31 by omega), hD.2.1 x q, hM (25 + x) (by omega)]
      by_cases z : B (25 + x) = 0
      · obtain ⟨ea, a2, a3, v1, v2, v3⟩ := a_eat (nf := nf) (x := x) (hD.1 x q) (hM x (by omega)) (hW.1 x q) q hns hE
        rw [z, if_pos (L_eq 0 rfl), if_pos (L_eq 0 rfl), v1, Option.bind_some, ck63 (by omega)]
        have v3' := v3 (nI k) (nI h) now
        rw [nI_clamp (by omega)] at v3'
        rw [v3']
        refine ⟨_, _, _, upd (upd (upd now (50 + k) (nI x)) (54 + k) (nI h)) x (nI 0), _, a2, a3, upN (upN (upN B (50 + k) x) (54 + k) h) x 0, rfl, ?_, DB_land (DB_mh (DB_mc hD hk) hk) q, MB_up (MB_up (MB_up hM _ _) _ _) _ _, WF_up (WF_up (WF_up hW (by omega) (by omega) (by omega) (by omega) (by omega) (by omega) (by omega)) (by omega) (by omega) (by omega) (by omega) (by omega) (by omega) (by omega)) (by omega) (by omega) (by omega) (by omega) (by omega) (by omega) (by omega), v2, by rw [upN_ne (by omega), upN_ne (by omega), upN_ne (by omega)]⟩
        unfold g_X9_fly_b86
        rw [e50, e54, ck63 (by omega), ck63 (by omega), ck63 (by omega), nI_clamp (by omega), nI_clamp (by omega), nI_clamp (by omega)]
        rfl
      · have hc9 := hW.2.1 x q
        rw [if_neg (L_ne 0 z (by omega) (by decide)), if_neg (L_ne 0 z (by omega) (by decide))]
        exact ⟨l', mc', mh', now', eaten', tA', tC', B', r1, r2, r3⟩
    · rw [q, if_neg (show ¬ (25 : Nat) < 25 by omega), if_neg (show ¬ (25 : Nat) < 25 by omega), c8_f (by decide), Option.bind_some, if_pos rfl, if_pos (by decide)]
      exact ⟨l', mc', mh', now', eaten', tA', tC', B', r1, r2, r3⟩
theorem a_moths {c : Nat → Int32} (hns : 0 ≤ ns) (hnf : 100 ≤ nf) {R : Int32 × (Nat → Int32) × (Nat → Int32) × (Nat → Int32) × (Nat → Int32) × Int32 × Int32 → Int32 × (Nat → Int32) × Int32 × Int32 × Int32 → Prop} {b : Nat}
    (hend : ∀ (l mc mh now : Nat → Int32) (eaten tA tC : Int32) (B : Nat → Nat), DB l c t mc mh th nt B → MB now B → WF B → EI tA0 tC0 ns eaten tA tC → B 62 = b → ∃ q8 q9, g_X1_passNight_l47 nf nf 0 l c t mc mh nt eaten = some q8 ∧ g_X9_endNight_l43 nf nf 0 now ns tA tC = some q9 ∧ R q8 q9) :
    ∀ (m k n : Nat) (l mc mh now : Nat → Int32) (eaten tA tC : Int32) (B : Nat → Nat), k + m = 4 → m < n → DB l c t mc mh th nt B → MB now B → WF B → EI tA0 tC0 ns eaten tA tC → B 62 = b → ∃ q8 q9, g_X1_passNight_l20 nf n (nI k) l c t mc mh nt eaten = some q8 ∧ g_X9_endNight_l17 nf n (nI k) now ns tA tC = some q9 ∧ R q8 q9 := by
  intro m
  induction m with
  | zero =>
    intro k n l mc mh now eaten tA tC B hk hn hD hM hW hE hb
    obtain ⟨n, rfl⟩ := pred_ex hn
    obtain rfl : k = 4 := by omega
    rw [g_X1_passNight_l20, if_pos (by decide), g_X9_endNight_l17, if_pos (by decide)]
    exact hend l mc mh now eaten tA tC B hD hM hW hE hb
  | succ m ih =>
    intro k n l mc mh now eaten tA tC B hk hn hD hM hW hE hb
    obtain ⟨n, rfl⟩ := pred_ex hn
    rw [g_X1_passNight_l20, if_neg (L_nge 4 (by omega) (by decide)), g_X9_endNight_l17, if_neg (L_nge 4 (by omega) (by decide)), ck_nI (by omega) (by decide), nI_clamp (by omega), hD.2.2.1 k (by omega), s_flying hM hW (by omega), Option.bind_some]
    unfold g_X1_passNight_b39 g_X9_endNight_b35
    rw [nI_1]
    rcases Nat.mod_two_eq_zero_or_one (B 61 / 2 ^ k) with e | e
    · rw [e, if_pos (L_eq 0 rfl), if_pos (L_eq 0 rfl)]
      exact ih (k + 1) n l mc mh now eaten tA tC B (by omega) (by omega) hD hM hW hE hb
    · rw [e, if_neg (by decide), if_neg (by decide)]
      obtain ⟨l', mc', mh', now', eaten', tA', tC', B', r1, r2, r3, r4, r5, r6, r7⟩ := a_fly_l (nf := nf) (k := k) hD hM hW (by omega) hns hE 4 0 nf (by omega) (by omega)
      have f8 : g_X1_fly nf (nI k) l c mc mh eaten = some (l', mc', mh', eaten') := r1
      have f9 : g_X9_fly nf (nI k) now ns tA tC = some (now', tA', tC') := r2
      rw [f8, f9, Option.bind_some, Option.bind_some]
      exact ih (k + 1) n l' mc' mh' now' eaten' tA' tC' B' (by omega) (by omega) r3 r4 r5 r6 (r7.trans hb)
theorem a_camph {mc mh : Nat → Int32} {eaten tA tC : Int32} {l : Nat → Int32} : ∀ (m x n : Nat) (c now : Nat → Int32) (B : Nat → Nat), x + m = 25 → m < n → DB l c t mc mh th nt B → MB now B → WF B → B 62 < 99 → ∃ (c' now' : Nat → Int32) (B' : Nat → Nat), g_X1_passNight_l47 nf n (nI x) l c t mc mh nt eaten = some (0, l, c', mc, mh, nI (B' 62), eaten) ∧ g_X9_endNight_l43 nf n (nI x) now ns tA tC = some (0, now', ns + 1, tA, tC) ∧ DB l c' t mc mh th (nI (B' 62)) B' ∧ MB now' B' ∧ WF B' := by
  intro m
  induction m with
  | zero =>
    intro x n c now B hx hn hD hM hW h62
    obtain ⟨n, rfl⟩ := pred_ex hn
    obtain rfl : x = 25 := by omega
    refine ⟨c, upd now 62 (nI (B 62 + 1)), upN B 62 (B 62 + 1), ?_, ?_, ?_, MB_up hM _ _, WF_up hW (by omega) (by omega) (by omega) (by omega) (by omega) (by omega) (by omega)⟩
    · rw [g_X1_passNight_l47, if_pos (by decide), hD.2.2.2.2.2.2, upN_eq, nI_1]
    · rw [g_X9_endNight_l43, if_pos (by decide), ck62, ck62, cl62, hM 62 (by omega), nI_1]
    · rw [upN_eq]; exact DB_night hD
  | succ m ih =>
    intro x n c now B hx hn hD hM hW h62
    obtain ⟨n, rfl⟩ := pred_ex hn
    have hc := hW.2.1 x (by omega)
    have e25 : (25 : Int32) + nI x = nI (25 + x) := nI_add 25 x
    have v8 : (if 0 < nI (B (25 + x)) - 1 then nI (B (25 + x)) - 1 else 0) = nI (B (25 + x) - 1) := by
      rcases Nat.eq_zero_or_pos (B (25 + x)) with z | z
      · rw [z]; rfl
      · rw [show nI (B (25 + x)) - 1 = nI (B (25 + x) - 1) from pk_sub (b := 1) z]
        rcases Nat.eq_zero_or_pos (B (25 + x) - 1) with z2 | z2
        · rw [z2]; rfl
        · rw [if_pos (L_gt 0 z2 (by omega))]
    obtain ⟨c', now', B', r⟩ := ih (x + 1) n (upd c x (nI (B (25 + x) - 1))) (upd now (25 + x) (nI (B (25 + x) - 1))) (upN B (25 + x) (B (25 + x) - 1)) (by omega) (by omega) (DB_camph hD (by omega)) (MB_up hM _ _) (WF_up hW (by omega) (by omega) (by omega) (by omega) (by omega) (by omega) (by omega)) (by rw [upN_ne (by omega)]; exact h62)
    refine ⟨c', now', B', ?_, ?_, r.2.2⟩
    · rw [g_X1_passNight_l47, if_neg (L_nge 25 (by omega) (by decide)), ck_nI (by omega) (by decide), ck_nI (by omega) (by decide), nI_clamp (by omega), hD.2.1 x (by omega), v8, nI_1]
      exact r.1
    · rw [g_X9_endNight_l43, if_neg (L_nge 25 (by omega) (by decide)), e25, ck63 (by omega), ck63 (by omega), nI_clamp (by omega), hM _ (by omega)]
      unfold g_X9_endNight_b76
      rw [ck63 (by omega), ck63 (by omega), nI_clamp (by omega), nI_1]
      rcases Nat.eq_zero_or_pos (B (25 + x)) with z | z
      · rw [if_pos (L_le 0 (by omega) (by decide))]
        have h2 := r.2.1
        rw [z] at h2 ⊢
        exact h2
      · rw [if_neg (L_nle 0 z (by omega)), show nI (B (25 + x)) - 1 = nI (B (25 + x) - 1) from pk_sub (b := 1) z]
        exact r.2.1
theorem a_night {l c mc mh now : Nat → Int32} {eaten : Int32} {N : Nat} {B : Nat → Nat} (hD : DB l c t mc mh th nt B) (hM : MB now B) (hW : WF B) (hN : N < 2 ^ 20) (hnf : 100 ≤ nf) : ∃ (e : Nat) (l' c' mc' mh' now' : Nat → Int32) (n' eaten' ns' tA' tC' : Int32) (B' : Nat → Nat), e ≤ 6 ∧ g_X1_passNight nf l c t mc mh nt eaten = some (nI e, l', c', mc', mh', n', eaten') ∧ g_X9_endNight nf now (nI N) tA0 tC0 = some (nI e, now', ns', tA', tC') ∧ DB l' c' t mc' mh' th n' B' ∧ MB now' B' ∧ WF B' ∧ (∃ N', N' ≤ N + 1 ∧ ns' = nI N') ∧ (e = 0 → ns' = nI (N + 1) ∧ EI tA0 tC0 (nI N) eaten' tA' tC') := by
  have h62 := hW.2.2.2.2.2.2
  by_cases q : B 62 = 99
  · refine ⟨6, l, c, mc, mh, now, nt, eaten, nI N, tA0, tC0, B, by omega, ?_, ?_, hD, hM, hW, ⟨N, by omega, rfl⟩, by omega⟩
    · unfold g_X1_passNight
      rw [if_neg (by rw [hD.2.2.2.2.2.2, q]; decide)]; rfl
    · unfold g_X9_endNight
      rw [ck62, cl62, hM 62 (by omega), q, if_pos (L_eq 99 rfl)]; rfl
  · obtain ⟨q8, q9, r1, r2, l', c', mc', mh', eaten', now', tA', tC', B', s1, s2, s3, s4, s5, s6⟩ := a_moths (nf := nf) (tA0 := tA0) (tC0 := tC0) (ns := nI N) (t := t) (th := th) (nt := nt) (c := c) (nI_pos' (by omega)) hnf (b := B 62)
      (R := fun q8 q9 => ∃ (l' c' mc' mh' : Nat → Int32) (eaten' : Int32) (now' : Nat → Int32) (tA' tC' : Int32) (B' : Nat → Nat), q8 = (0, l', c', mc', mh', nI (B' 62), eaten') ∧ q9 = (0, now', nI N + 1, tA', tC') ∧ DB l' c' t mc' mh' th (nI (B' 62)) B' ∧ MB now' B' ∧ WF B' ∧ EI tA0 tC0 (nI N) eaten' tA' tC')
      (fun l mc mh now eaten tA tC B hD hM hW hE hb => by
        obtain ⟨c', now', B', u1, u2, u3, u4, u5⟩ := a_camph (nf := nf) (ns := nI N) (t := t) (th := th) (nt := nt) (mc := mc) (mh := mh) (eaten := eaten) (tA := tA) (tC := tC) (l := l) 25 0 nf c now B (by omega) (by omega) hD hM hW (by omega)
        exact ⟨_, _, u1, u2, l, c', mc, mh, eaten, now', tA, tC, B', rfl, rfl, u3, u4, u5, hE⟩) 4 0 nf l mc mh now (-6) tA0 tC0 B (by omega) (by omega) hD hM hW ⟨Or.inl rfl, fun _ => ⟨rfl, rfl⟩, fun _ => Or.inl ⟨rfl, rfl, rfl⟩⟩ rfl
    subst s1 s2
    refine ⟨0, l', c', mc', mh', now', nI (B' 62), eaten', nI (N + 1), tA', tC', B', by omega, ?_, ?_, s3, s4, s5, ⟨N + 1, by omega, rfl⟩, fun _ => ⟨rfl, s6⟩⟩
    · unfold g_X1_passNight
      rw [if_pos (by rw [hD.2.2.2.2.2.2]; exact L_lt 99 (by omega) (by decide))]
      exact r1
    · unfold g_X9_endNight
      rw [ck62, cl62, hM 62 (by omega), if_neg (L_ne 99 q (by omega) (by decide)), ← nI_1]
      exact r2
end NIGHT
