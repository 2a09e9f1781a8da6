/-! ===== darned: the class ===== -/
theorem dsc_y {P : Nat → Bool} : ∀ (m a : Nat), (dsc P a m).2 = none → (dsc P a m).1 = 0 := by
  intro m
  induction m with
  | zero => intro a _; rfl
  | succ m ih =>
    intro a h
    rw [dsc_s] at h ⊢
    by_cases e : P a = true
    · rw [if_pos e] at h
      cases h
    · rw [if_neg e] at h ⊢
      exact ih (a + 1) h
theorem dblk_y {P : Nat → Bool} {r q : Nat} (h : (dblk P r q).2 = none) : (dblk P r q).1 = 0 := dsc_y _ _ h
def lon (B : Nat → Nat) (c : Nat) : Prop := ∀ w, w < 4 → bes c w < 25 → ¬ B (bes c w) = 0
def noT (B : Nat → Nat) (c : Nat) : Prop := ∀ w, w < 4 → bes c w < 25 → ¬ B (bes c w) = 4
noncomputable def dtk (B : Nat → Nat) (c : Nat) : Nat := cnt (fun x => decide (B x = 0) && !cdec (lon B x)) c
noncomputable def dlw (B : Nat → Nat) : Nat → Nat → Nat
  | 0, _ => 1
  | d + 1, c => (if (decide (B c = 0) && cdec (lon B c)) = true then (if cdec (noT B c) = true then 3 else 2) else 1) * dlw B d (c + 1)
section DTK
variable {B : Nat → Nat} {c x y p t q d : Nat}
theorem dtk_t (h : B c = 0) (hl : ¬ lon B c) : dtk B (c + 1) = dtk B c + 1 := by
  unfold dtk
  rw [cnt_s, if_pos (by rw [decide_eq_true h, cdec_no hl]; rfl)]
theorem dtk_n (h : ¬ (B c = 0 ∧ ¬ lon B c)) : dtk B (c + 1) = dtk B c := by
  unfold dtk
  rw [cnt_s, if_neg, Nat.add_zero]
  intro z
  rw [Bool.and_eq_true, decide_eq_true_eq, Bool.not_eq_true'] at z
  refine h ⟨z.1, fun y => ?_⟩
  rw [cdec_iff.mpr y] at z
  exact absurd z.2 (by decide)
theorem dtk_le : dtk B c ≤ drk B c := cnt_sub fun k _ h => by
  rw [Bool.and_eq_true] at h
  exact h.1
theorem dtk_up : dtk B c ≤ dtk B (c + 1) := by
  by_cases h : B c = 0 ∧ ¬ lon B c
  · rw [dtk_t h.1 h.2]; omega
  · rw [dtk_n h]; omega
theorem dtk_mono : ∀ (d a : Nat), dtk B a ≤ dtk B (a + d)
  | 0, a => Nat.le_refl _
  | d + 1, a => Nat.le_trans (dtk_mono d a) dtk_up
theorem dtk_lt (h : B x = 0) (hl : ¬ lon B x) (hx : x < c) : dtk B x + 1 ≤ dtk B c := by
  have := dtk_mono (B := B) (c - (x + 1)) (x + 1)
  rw [show x + 1 + (c - (x + 1)) = c by omega, dtk_t h hl] at this
  exact this
theorem dlw_n (h : ¬ (B c = 0 ∧ lon B c)) : dlw B (d + 1) c = dlw B d (c + 1) := by
  rw [dlw, if_neg, Nat.one_mul]
  intro z
  rw [Bool.and_eq_true, decide_eq_true_eq] at z
  exact h ⟨z.1, cdec_iff.mp z.2⟩
theorem dlw_3 (h : B c = 0) (hl : lon B c) (hn : noT B c) : dlw B (d + 1) c = 3 * dlw B d (c + 1) := by
  rw [dlw, if_pos (by rw [decide_eq_true h, cdec_iff.mpr hl]; rfl), if_pos (cdec_iff.mpr hn)]
theorem dlw_2 (h : B c = 0) (hl : lon B c) (hn : ¬ noT B c) : dlw B (d + 1) c = 2 * dlw B d (c + 1) := by
  rw [dlw, if_pos (by rw [decide_eq_true h, cdec_iff.mpr hl]; rfl), if_neg (by rw [cdec_no hn]; decide)]
theorem ok_lone (ht : t < 3) (hl : lon B c) : okC B c (3 * p + t) ↔ (t = 1 → noT B c) := by
  unfold okC
  rw [show (3 * p + t) % 3 = t by omega]
  constructor
  · intro k e w hw hb
    exact (k w hw hb).1 e
  · intro k w hw hb
    exact ⟨fun e => k e w hw hb, fun _ z => absurd z (hl w hw hb)⟩
/-! colours of cells: 0 none yet; lone holes green at once -/
def CG (B : Nat → Nat) (c : Nat) (col : Nat → Nat) : Prop := ∀ x, x < 25 → (¬ B x = 0 → col x = 0) ∧ (B x = 0 → lon B x → col x = 1) ∧ (B x = 0 → ¬ lon B x → (x < c → 1 ≤ col x ∧ col x ≤ 3) ∧ (c ≤ x → col x = 0))
def PM (B : Nat → Nat) (c p : Nat) (col : Nat → Nat) : Prop := ∀ x, x < c → B x = 0 → ¬ lon B x → col x = dgc B c p x + 1
def PG (B : Nat → Nat) (c p : Nat) : Prop := ∀ x, x < c → B x = 0 → lon B x → dgc B c p x = 0
def okT (B : Nat → Nat) (c t : Nat) (col : Nat → Nat) : Prop := (t = 2 → noT B c) ∧ ∀ w, w < 4 → bes c w < 25 → ¬ col (bes c w) = t
theorem ok_tied {col : Nat → Nat} (hc : c < 25) (hb : B c = 0) (ht : t < 3) (hC : CG B c col) (hP : PM B c p col) : okC B c (3 * p + t) ↔ okT B c (t + 1) col := by
  have nl : ∀ w, w < 4 → bes c w < 25 → ¬ lon B (bes c w) := fun w hw hw2 z => by
    obtain ⟨s1, s2⟩ := bes_sym c hc w hw hw2
    exact z _ s1 (by rw [s2]; exact hc) (by rw [s2]; exact hb)
  unfold okC okT
  rw [show (3 * p + t) % 3 = t by omega]
  constructor
  · intro k
    refine ⟨fun e w hw hb2 => (k w hw hb2).1 (by omega), fun w hw hb2 e => ?_⟩
    by_cases z : B (bes c w) = 0
    · by_cases y : bes c w < c
      · have h2 := (k w hw hb2).2 y z
        rw [dgc_h hb y ht] at h2
        have h3 := hP _ y z (nl w hw hb2)
        omega
      · have := ((hC _ hb2).2.2 z (nl w hw hb2)).2 (by omega)
        omega
    · have := (hC _ hb2).1 z
      omega
  · rintro ⟨k1, k2⟩ w hw hb2
    refine ⟨fun e => k1 (by omega) w hw hb2, fun y z e => ?_⟩
    rw [dgc_h hb y ht] at e
    exact k2 w hw hb2 (by rw [hP _ y z (nl w hw hb2), e])
theorem CG_n {col : Nat → Nat} (h : ¬ (B c = 0 ∧ ¬ lon B c)) (hC : CG B c col) : CG B (c + 1) col := by
  intro x hx
  obtain ⟨h1, h2, h3⟩ := hC x hx
  refine ⟨h1, h2, fun a b => ⟨fun z => (h3 a b).1 ?_, fun z => (h3 a b).2 (by omega)⟩⟩
  by_cases e : x = c
  · subst e; exact absurd ⟨a, b⟩ h
  · omega
theorem CG_t {col : Nat → Nat} (hb : B c = 0) (hl : ¬ lon B c) (h1 : 1 ≤ t) (h3 : t ≤ 3) (hC : CG B c col) : CG B (c + 1) (upN col c t) := by
  intro x hx
  by_cases e : x = c
  · subst e
    rw [upN_eq]
    exact ⟨fun z => absurd hb z, fun _ z => absurd z hl, fun _ _ => ⟨fun _ => ⟨h1, h3⟩, fun z => by omega⟩⟩
  · rw [upN_ne e]
    obtain ⟨k1, k2, k3⟩ := hC x hx
    exact ⟨k1, k2, fun a b => ⟨fun z => (k3 a b).1 (by omega), fun z => (k3 a b).2 (by omega)⟩⟩
theorem PM_t {col : Nat → Nat} (hb : B c = 0) (ht : t < 3) (hP : PM B c p col) : PM B (c + 1) (3 * p + t) (upN col c (t + 1)) := by
  intro x hx xb xl
  by_cases e : x = c
  · subst e
    rw [upN_eq, dgc_c ht]
  · rw [upN_ne e, dgc_h hb (by omega) ht]
    exact hP x (by omega) xb xl
theorem PM_l {col : Nat → Nat} (hb : B c = 0) (hl : lon B c) (ht : t < 3) (hP : PM B c p col) : PM B (c + 1) (3 * p + t) col := by
  intro x hx xb xl
  by_cases e : x = c
  · subst e
    exact absurd hl xl
  · rw [dgc_h hb (by omega) ht]
    exact hP x (by omega) xb xl
theorem PG_t (hb : B c = 0) (hl : ¬ lon B c) (ht : t < 3) (hG : PG B c p) : PG B (c + 1) (3 * p + t) := by
  intro x hx xb xl
  by_cases e : x = c
  · subst e
    exact absurd xl hl
  · rw [dgc_h hb (by omega) ht]
    exact hG x (by omega) xb xl
theorem PG_0 (hb : B c = 0) (hG : PG B c p) : PG B (c + 1) (3 * p + 0) := by
  intro x hx xb xl
  by_cases e : x = c
  · subst e
    exact dgc_c (by decide)
  · rw [dgc_h hb (by omega) (by decide)]
    exact hG x (by omega) xb xl
theorem PM_n {col : Nat → Nat} (hb : ¬ B c = 0) (hP : PM B c p col) : PM B (c + 1) p col := by
  intro x hx xb xl
  by_cases e : x = c
  · subst e
    exact absurd xb hb
  · rw [dgc_n hb]
    exact hP x (by omega) xb xl
theorem PG_n (hb : ¬ B c = 0) (hG : PG B c p) : PG B (c + 1) p := by
  intro x hx xb xl
  by_cases e : x = c
  · subst e
    exact absurd xb hb
  · rw [dgc_n hb]
    exact hG x (by omega) xb xl
end DTK
/-! what is woven -/
theorem zb_t {W c : Nat} {q : Prop} (hc : c < 25) (h : W.testBit c = true ↔ q) (y : q) : ¬ (nI W &&& nI (2 ^ c)) = 0 := fun z => by
  have := (z_bit (show c < 31 by omega)).mp z
  rw [h.mpr y] at this
  exact absurd this (by decide)
theorem zb_f {W c : Nat} {q : Prop} (hc : c < 25) (h : W.testBit c = true ↔ q) (n : ¬ q) : (nI W &&& nI (2 ^ c)) = 0 := by
  refine (z_bit (show c < 31 by omega)).mpr ?_
  cases e : W.testBit c
  · rfl
  · exact absurd (h.mp e) n
def WV (woven : Nat → Int32) (col : Nat → Nat) : Prop := ∀ t, 1 ≤ t → t ≤ 3 → ∃ W, woven t = nI W ∧ W < 2 ^ 25 ∧ ∀ c, c < 25 → (W.testBit c = true ↔ col c = t)
section WVS
variable {woven : Nat → Int32} {col col' : Nat → Nat} {c t : Nat}
theorem WV_ext (h : ∀ x, x < 25 → col x = col' x) (hW : WV woven col) : WV woven col' := by
  intro s s1 s3
  obtain ⟨W, a, b, d⟩ := hW s s1 s3
  exact ⟨W, a, b, fun x hx => by rw [← h x hx]; exact d x hx⟩
theorem WV_up (hW : WV woven col) (hc : c < 25) (h1 : 1 ≤ t) (h3 : t ≤ 3) (h0 : col c = 0) : WV (upd woven t (woven t ||| nI (2 ^ c))) (upN col c t) := by
  intro s s1 s3
  obtain ⟨W, a, b, d⟩ := hW s s1 s3
  by_cases e : s = t
  · subst e
    refine ⟨W ||| 2 ^ c, by rw [upd_eq, a, or_I], Nat.or_lt_two_pow b (two25 hc), fun x hx => ?_⟩
    rw [Nat.testBit_or, Nat.testBit_two_pow]
    by_cases z : x = c
    · subst z
      rw [upN_eq, decide_eq_true rfl, Bool.or_true]
      exact ⟨fun _ => rfl, fun _ => rfl⟩
    · rw [upN_ne z, decide_eq_false (fun y => z y.symm), Bool.or_false]
      exact d x hx
  · refine ⟨W, by rw [upd_ne e, a], b, fun x hx => ?_⟩
    by_cases z : x = c
    · subst z
      rw [upN_eq, d x hx, h0]
      exact ⟨fun y => by omega, fun y => absurd y.symm e⟩
    · rw [upN_ne z]
      exact d x hx
theorem WV_dn (hW : WV woven (upN col c t)) (hc : c < 25) (h1 : 1 ≤ t) (h3 : t ≤ 3) (h0 : col c = 0) : WV (upd woven t (woven t &&& (nI (2 ^ c) ^^^ ((-1) : Int32)))) col := by
  intro s s1 s3
  obtain ⟨W, a, b, d⟩ := hW s s1 s3
  by_cases e : s = t
  · subst e
    refine ⟨adn W (2 ^ c), by rw [upd_eq, a, an_not], adn_lt b, fun x hx => ?_⟩
    rw [adn_bit, Nat.testBit_two_pow]
    by_cases z : x = c
    · subst z
      rw [decide_eq_true rfl, Bool.not_true, Bool.and_false, h0]
      exact ⟨fun y => absurd y (by decide), fun y => by omega⟩
    · rw [decide_eq_false (fun y => z y.symm), Bool.not_false, Bool.and_true]
      have := d x hx
      rw [upN_ne z] at this
      exact this
  · refine ⟨W, by rw [upd_ne e, a], b, fun x hx => ?_⟩
    have := d x hx
    by_cases z : x = c
    · subst z
      rw [upN_eq] at this
      rw [this, h0]
      exact ⟨fun y => absurd y.symm e, fun y => by omega⟩
    · rw [upN_ne z] at this
      exact this
theorem near_iff (hW : WV woven col) (hc : c < 25) (h1 : 1 ≤ t) (h3 : t ≤ 3) : (woven t &&& nI (AB (2 ^ c))) = 0 ↔ ∀ w, w < 4 → bes c w < 25 → ¬ col (bes c w) = t := by
  obtain ⟨W, a, b, d⟩ := hW t h1 h3
  have hA := AB_lt (two25 hc)
  rw [a, z_and (by omega)]
  constructor
  · intro h w hw hb e
    have := h _ ((d _ hb).mpr e)
    rw [AB_of (two25 hc) hc hw hb Nat.testBit_two_pow_self] at this
    exact absurd this (by decide)
  · intro h i hi
    have hi25 := tlt b hi
    cases e : (AB (2 ^ c)).testBit i
    · rfl
    · obtain ⟨w, hw, hb⟩ := (AB_one hc hi25).mp e
      obtain ⟨s1, s2⟩ := bes_sym i hi25 w hw (by rw [hb]; exact hc)
      rw [hb] at s2
      have := h _ s1 (by rw [s2]; exact hi25)
      rw [s2] at this
      exact absurd ((d i hi25).mp hi) this
theorem ck14 {α : Type} (e : Option α) : ck (1 : Int32) 4 e = e := ck_nI (j := 1) (by decide) (by decide)
theorem ck24 {α : Type} (e : Option α) : ck (2 : Int32) 4 e = e := ck_nI (j := 2) (by decide) (by decide)
theorem s_th8 {nf : Nat} (hW : WV woven col) (hc : c < 25) (h1 : 1 ≤ col c) (h3 : col c ≤ 3) : g_X0_threadOf nf (nI (2 ^ c)) woven = some (nI (col c)) := by
  obtain ⟨W1, a1, b1, d1⟩ := hW 1 (by decide) (by decide)
  obtain ⟨W2, a2, b2, d2⟩ := hW 2 (by decide) (by decide)
  unfold g_X0_threadOf
  rw [show (1 : Int32).toNatClampNeg = 1 from rfl, show (2 : Int32).toNatClampNeg = 2 from rfl, ck14, ck24, a1, a2]
  by_cases e1 : col c = 1
  · rw [if_neg (zb_t hc (d1 c hc) e1), e1]
    rfl
  · rw [if_pos (zb_f hc (d1 c hc) e1)]
    by_cases e2 : col c = 2
    · rw [if_neg (zb_t hc (d2 c hc) e2), e2]
      rfl
    · rw [if_pos (zb_f hc (d2 c hc) e2), show col c = 3 by omega]
      rfl
end WVS
def dsel (b : Bool) (T : Nat) : Nat := if b = true then T else 0
def dself (b : Bool) (f : Option Nat) : Option Nat := if b = true then f else none
theorem fst_or {first : Int32} {a b : Option Nat} (ha : ∀ v, a = some v → v < 2 ^ 31) : (if (if first = -6 then oI a else first) = -6 then oI b else (if first = -6 then oI a else first)) = if first = -6 then oI (a.or b) else first := by
  by_cases h : first = -6
  · rw [if_pos h, if_pos h]
    cases a with
    | none => rw [if_pos (show oI none = -6 from rfl)]; rfl
    | some v => rw [if_neg (show ¬ oI (some v) = -6 from nI_m6 (ha v rfl))]; rfl
  · rw [if_neg h, if_neg h, if_neg h]
theorem or_bd {a b : Option Nat} (ha : ∀ v, a = some v → v < 2 ^ 31) (hb : ∀ v, b = some v → v < 2 ^ 31) : ∀ v, a.or b = some v → v < 2 ^ 31 := by
  cases a with
  | none => exact hb
  | some x => exact ha
theorem self_bd {o : Bool} {a : Option Nat} (ha : ∀ v, a = some v → v < 2 ^ 31) : ∀ v, dself o a = some v → v < 2 ^ 31 := by
  cases o with
  | true => exact ha
  | false => intro v h; cases h
theorem map_or2 {f : Nat → Nat} {a b : Option Nat} : (a.or b).map f = (a.map f).or (b.map f) := by cases a <;> rfl
theorem or_as {a b c : Option Nat} : a.or (b.or c) = (a.or b).or c := by cases a <;> rfl
section WFROM
variable {nf : Nat} {B : Nat → Nat}
theorem dg_4 {woven : Nat → Int32} {col : Nat → Nat} {H : Nat} (hW : WV woven col) (hcol : ∀ x, x < 25 → B x = 0 → 1 ≤ col x ∧ col x ≤ 3) (hH : ∀ c, c < 25 → (H.testBit c = true ↔ B c = 0)) : ∀ (d c n x : Nat), c + d = 25 → d < n → g_X0_digits_l4 nf n (nI x) (nI c) woven (nI H) = some (nI (dcc B col d c x)) := by
  intro d
  induction d with
  | zero =>
    intro c n x hc hn
    obtain ⟨n, rfl⟩ := pred_ex hn
    obtain rfl : c = 25 := by omega
    rw [g_X0_digits_l4, if_pos (by decide)]
    rfl
  | succ d ih =>
    intro c n x hc hn
    obtain ⟨n, rfl⟩ := pred_ex hn
    have hc25 : c < 25 := by omega
    rw [g_X0_digits_l4, if_neg (L_nge 25 hc25 (by decide)), shl1 (by omega), dcc_s]
    unfold g_X0_digits_b34
    by_cases e : B c = 0
    · rw [if_neg (zb_t hc25 (hH c hc25) e), s_th8 hW hc25 (hcol c hc25 e).1 (hcol c hc25 e).2, Option.bind_some, if_pos e, show (10 : Int32) * nI x = nI (10 * x) from pk_mul 10 x, nI_add, nI_1]
      exact ih (c + 1) n _ (by omega) (by omega)
    · rw [if_pos (zb_f hc25 (hH c hc25) e), if_neg e, nI_1]
      exact ih (c + 1) n _ (by omega) (by omega)
abbrev RCt := Int32 → (Nat → Int32) → (Nat → Int32) → Int32 → Int32 → Int32 → Int32 → Option (Int32 × (Nat → Int32) × Int32)
theorem wf_56 {rc : RCt} {c t k T : Nat} {fo : Option Nat} {col : Nat → Nat} {woven tied : Nat → Int32} {ti hi first : Int32} {BT : Nat} {b : Bool} (hc : c < 25) (h1 : 1 ≤ t) (h3 : t ≤ 3) (h0 : col c = 0) (hBT : BT.testBit c = true ↔ ¬ noT B c) (hW : WV woven col) (hb : b = true ↔ okT B c t col) (hrc : ∀ (wv : Nat → Int32) (f : Int32), WV wv (upN col c t) → ∃ wv', WV wv' (upN col c t) ∧ rc (nI (k + 1)) wv tied ti hi (nI BT) f = some (nI T, wv', if f = -6 then oI fo else f)) : ∃ wv', WV wv' col ∧ ∀ (n s : Nat), g_X0_waysFrom_l56 nf rc (n + 1) (nI k) (nI (2 ^ c)) (nI (AB (2 ^ c))) (nI s) (nI t) woven tied ti hi (nI BT) first = g_X0_waysFrom_l56 nf rc n (nI k) (nI (2 ^ c)) (nI (AB (2 ^ c))) (nI (s + dsel b T)) (nI (t + 1)) wv' tied ti hi (nI BT) (if first = -6 then oI (dself b fo) else first) := by
  have hnear := near_iff hW hc h1 h3
  have s0 : (t = 2 → noT B c) → ∀ n s : Nat, g_X0_waysFrom_l56 nf rc (n + 1) (nI k) (nI (2 ^ c)) (nI (AB (2 ^ c))) (nI s) (nI t) woven tied ti hi (nI BT) first = g_X0_waysFrom_b82 nf rc (g_X0_waysFrom_l56 nf rc n) (nI k) (nI (2 ^ c)) (nI (AB (2 ^ c))) (nI s) (nI t) 0 woven tied ti hi (nI BT) first := by
    intro h n s
    rw [g_X0_waysFrom_l56, if_neg (L_ngt 3 h3 (by decide))]
    by_cases z : t = 2
    · rw [if_pos (L_eq 2 z), if_pos (zb_f hc hBT (fun y => y (h z)))]
      rfl
    · rw [if_neg (L_ne 2 z (by omega) (by decide))]
      rfl
  cases b with
  | false =>
    refine ⟨woven, hW, fun n s => ?_⟩
    have nof : (if first = -6 then oI (dself false fo) else first) = first := by
      by_cases z : first = -6
      · rw [if_pos z, z]; rfl
      · rw [if_neg z]
    rw [nof, show s + dsel false T = s from rfl]
    by_cases h2 : t = 2 → noT B c
    · have hn : ¬ (woven t &&& nI (AB (2 ^ c))) = 0 := fun z => absurd (hb.mpr ⟨h2, hnear.mp z⟩) (by decide)
      rw [s0 h2]
      unfold g_X0_waysFrom_b82 g_X0_waysFrom_b137
      rw [if_pos rfl, ck_nI (show t < 4 by omega) (by decide), nI_clamp (show t < 2 ^ 31 by omega), if_neg hn, nI_1]
    · have z : t = 2 := Decidable.byContradiction fun y => h2 fun e => absurd e y
      have y : ¬ noT B c := fun y => h2 fun _ => y
      rw [g_X0_waysFrom_l56, if_neg (L_ngt 3 h3 (by decide)), if_pos (L_eq 2 z), if_neg (zb_t hc hBT y)]
      unfold g_X0_waysFrom_b82 g_X0_waysFrom_b137
      rw [if_neg i1n0, nI_1]
  | true =>
    obtain ⟨h2, h4⟩ := hb.mp rfl
    obtain ⟨wv', a1, a2⟩ := hrc (upd woven t (woven t ||| nI (2 ^ c))) first (WV_up hW hc h1 h3 h0)
    refine ⟨upd wv' t (wv' t &&& (nI (2 ^ c) ^^^ ((-1) : Int32))), WV_dn a1 hc h1 h3 h0, fun n s => ?_⟩
    rw [s0 h2]
    unfold g_X0_waysFrom_b82 g_X0_waysFrom_b137
    rw [if_pos rfl, ck_nI (show t < 4 by omega) (by decide), nI_clamp (show t < 2 ^ 31 by omega), if_pos (hnear.mpr h4), ck_nI (show t < 4 by omega) (by decide), ck_nI (show t < 4 by omega) (by decide), nI_1 k, a2, Option.bind_some, ck_nI (show t < 4 by omega) (by decide), ck_nI (show t < 4 by omega) (by decide), nI_1 t, ← nI_add s (dsel true T)]
    rfl
def dfin (B : Nat → Nat) (q : Nat) : Nat := dcr q (drk B 25) (drk B 25) 0 0
def WFA (nf : Nat) (B : Nat → Nat) (tied : Nat → Int32) (H BT d c : Nat) (col : Nat → Nat) : Prop := ∃ (T : Nat) (fo : Option Nat), (∀ v, fo = some v → v < 2 ^ 31) ∧ (∀ (e : Nat) (woven : Nat → Int32) (first : Int32), WV woven col → dtk B 25 < e + dtk B c → ∃ woven', WV woven' col ∧ g_X0_waysFrom nf e (nI (dtk B c)) woven tied (nI (dtk B 25)) (nI H) (nI BT) first = some (nI T, woven', if first = -6 then oI fo else first)) ∧ ∀ p, VV B c p → PM B c p col → (dblk (PV B) (drk B 25 - drk B c) p).1 = dlw B d c * T ∧ (PG B c p → (dblk (PV B) (drk B 25 - drk B c) p).2.map (dfin B) = fo)
theorem wf_base {tied : Nat → Int32} {H BT : Nat} {col : Nat → Nat} (hN : drk B 25 ≤ 9) (hH : ∀ c, c < 25 → (H.testBit c = true ↔ B c = 0)) (hnf : 100 ≤ nf) (hC : CG B 25 col) : WFA nf B tied H BT 0 25 col := by
  have hcol : ∀ x, x < 25 → B x = 0 → 1 ≤ col x ∧ col x ≤ 3 := fun x hx hb => by
    obtain ⟨k1, k2, k3⟩ := hC x hx
    by_cases hl : lon B x
    · rw [k2 hb hl]; exact ⟨by decide, by decide⟩
    · exact (k3 hb hl).1 hx
  have hK := dtk_le (B := B) (c := 25)
  refine ⟨1, some (dcc B col 25 0 0), fun v hv => ?_, fun e woven first hW he => ?_, fun p hV hP => ?_⟩
  · have h1 := dcc_bd (B := B) (col := col) (fun x hx hb => (hcol x hx hb).2) 25 0 0 0 (by omega) (by decide)
    rw [Option.some.inj hv] at h1
    have h2 : 10 ^ (0 + (drk B 25 - drk B 0)) ≤ 10 ^ 9 := Nat.pow_le_pow_right (by decide) (by omega)
    omega
  · obtain ⟨e, rfl⟩ := pred_ex (show 0 < e by omega)
    refine ⟨woven, hW, ?_⟩
    rw [g_X0_waysFrom, if_neg (nI_pos (by omega)), if_neg (nI_nlt (Nat.le_refl _) (by omega))]
    unfold g_X0_waysFrom_b12 g_X0_waysFrom_b33
    have hd : g_X0_digits nf woven (nI H) = some (nI (dcc B col 25 0 0)) := dg_4 hW hcol hH 25 0 nf 0 (by omega) (by omega)
    rw [hd, Option.bind_some]
    by_cases z : first = -6
    · rw [if_pos z, if_pos z]; rfl
    · rw [if_neg z, if_neg z]; rfl
  · rw [Nat.sub_self]
    have hb : dblk (PV B) 0 p = (1, some p) := by
      unfold dblk
      rw [Nat.pow_zero, Nat.mul_one]
      show dsc (PV B) p (0 + 1) = _
      rw [dsc_s, if_pos (show PV B p = true from cdec_iff.mpr hV)]
      rfl
    rw [hb]
    refine ⟨rfl, fun hG => ?_⟩
    have := dc_eq (B := B) (col := col) (code := p) (fun x hx xb => ?_) 25 0 0 (by omega)
    · show some (dfin B p) = _
      rw [this]
      rfl
    · have r := drk_lt xb hx
      have hd : p / 3 ^ (drk B 25 - 1 - drk B x) % 3 = dgc B 25 p x := by
        unfold dgc
        rw [drk_h xb, show drk B 25 - 1 - drk B x = drk B 25 - (drk B x + 1) by omega]
      rw [hd]
      by_cases hl : lon B x
      · rw [hG x hx xb hl, (hC x hx).2.1 xb hl]
      · exact hP x hx xb hl
theorem wf_tied {tied : Nat → Int32} {H BT d c : Nat} {col : Nat → Nat} (hN : drk B 25 ≤ 9) (hBT : ∀ c, c < 25 → (BT.testBit c = true ↔ ¬ noT B c)) (hT : ∀ y, y < 25 → B y = 0 → ¬ lon B y → tied (dtk B y) = nI (2 ^ y)) (hnf : 100 ≤ nf) (hc : c < 25) (hb : B c = 0) (hl : ¬ lon B c) (hC : CG B c col) (i1 : WFA nf B tied H BT d (c + 1) (upN col c 1)) (i2 : WFA nf B tied H BT d (c + 1) (upN col c 2)) (i3 : WFA nf B tied H BT d (c + 1) (upN col c 3)) : WFA nf B tied H BT (d + 1) c col := by
  obtain ⟨T1, f1, v1, w1, p1⟩ := i1
  obtain ⟨T2, f2, v2, w2, p2⟩ := i2
  obtain ⟨T3, f3, v3, w3, p3⟩ := i3
  obtain ⟨o1, k1⟩ : ∃ o : Bool, o = true ↔ okT B c 1 col := ⟨_, cdec_iff⟩
  obtain ⟨o2, k2⟩ : ∃ o : Bool, o = true ↔ okT B c 2 col := ⟨_, cdec_iff⟩
  obtain ⟨o3, k3⟩ : ∃ o : Bool, o = true ↔ okT B c 3 col := ⟨_, cdec_iff⟩
  have h0 : col c = 0 := ((hC c hc).2.2 hb hl).2 (Nat.le_refl _)
  have hk := dtk_lt hb hl hc
  have hK := dtk_le (B := B) (c := 25)
  have e1 := dtk_t hb hl
  refine ⟨dsel o1 T1 + dsel o2 T2 + dsel o3 T3, ((dself o1 f1).or (dself o2 f2)).or (dself o3 f3), or_bd (or_bd (self_bd v1) (self_bd v2)) (self_bd v3), fun e woven first hW he => ?_, fun p hV hP => ?_⟩
  · obtain ⟨e, rfl⟩ := pred_ex (show 0 < e by omega)
    rw [e1] at w1 w2 w3
    obtain ⟨wv1, a1, b1⟩ := wf_56 (nf := nf) (rc := g_X0_waysFrom nf e) (tied := tied) (ti := nI (dtk B 25)) (hi := nI H) (first := first) hc (t := 1) (by decide) (by decide) h0 (hBT c hc) hW k1 (fun wv f hw => w1 e wv f hw (by omega))
    obtain ⟨wv2, a2, b2⟩ := wf_56 (nf := nf) (rc := g_X0_waysFrom nf e) (tied := tied) (ti := nI (dtk B 25)) (hi := nI H) (first := if first = -6 then oI (dself o1 f1) else first) hc (t := 2) (by decide) (by decide) h0 (hBT c hc) a1 k2 (fun wv f hw => w2 e wv f hw (by omega))
    obtain ⟨wv3, a3, b3⟩ := wf_56 (nf := nf) (rc := g_X0_waysFrom nf e) (tied := tied) (ti := nI (dtk B 25)) (hi := nI H) (first := if first = -6 then oI ((dself o1 f1).or (dself o2 f2)) else first) hc (t := 3) (by decide) (by decide) h0 (hBT c hc) a2 k3 (fun wv f hw => w3 e wv f hw (by omega))
    refine ⟨wv3, a3, ?_⟩
    have c1 := b1 (nf - 1) 0
    have c2 := b2 (nf - 2) (0 + dsel o1 T1)
    have c3 := b3 (nf - 3) (0 + dsel o1 T1 + dsel o2 T2)
    rw [show nf - 1 + 1 = nf by omega] at c1
    rw [show nf - 2 + 1 = nf - 1 by omega, fst_or (self_bd v1)] at c2
    rw [show nf - 3 + 1 = nf - 2 by omega, fst_or (or_bd (self_bd v1) (self_bd v2))] at c3
    rw [g_X0_waysFrom, if_neg (nI_pos (by omega)), if_pos (nI_lt (by omega) (by omega)), ck_nI (show dtk B c < 9 by omega) (by decide), nI_clamp (show dtk B c < 2 ^ 31 by omega), hT c hc hb hl, s_AB (two25 hc), Option.bind_some]
    refine c1.trans (c2.trans (c3.trans ?_))
    obtain ⟨m, hm⟩ := pred_ex (show 0 < nf - 3 by omega)
    rw [hm, g_X0_waysFrom_l56, if_pos (by decide), Nat.zero_add]
  · have hr : drk B 25 - drk B c = (drk B 25 - drk B (c + 1)) + 1 := by
      have := drk_lt hb hc
      rw [drk_h hb]
      omega
    have each : ∀ (t : Nat) (o : Bool) (T : Nat) (f : Option Nat), t < 3 → (o = true ↔ okT B c (t + 1) col) → (∀ p, VV B (c + 1) p → PM B (c + 1) p (upN col c (t + 1)) → (dblk (PV B) (drk B 25 - drk B (c + 1)) p).1 = dlw B d (c + 1) * T ∧ (PG B (c + 1) p → (dblk (PV B) (drk B 25 - drk B (c + 1)) p).2.map (dfin B) = f)) → (dblk (PV B) (drk B 25 - drk B (c + 1)) (3 * p + t)).1 = dlw B d (c + 1) * dsel o T ∧ (PG B c p → (dblk (PV B) (drk B 25 - drk B (c + 1)) (3 * p + t)).2.map (dfin B) = dself o f) := by
      intro t o T f ht k pt
      cases o with
      | true =>
        obtain ⟨x1, x2⟩ := pt (3 * p + t) ((VV_h hb ht).mpr ⟨hV, (ok_tied hc hb ht hC hP).mpr (k.mp rfl)⟩) (PM_t hb ht hP)
        exact ⟨x1, fun g => x2 (PG_t hb hl ht g)⟩
      | false =>
        have hv : ¬ VV B (c + 1) (3 * p + t) := fun z => absurd (k.mpr ((ok_tied hc hb ht hC hP).mp ((VV_h hb ht).mp z).2)) (by decide)
        rw [dblk_no (by omega) hv]
        exact ⟨rfl, fun _ => rfl⟩
    obtain ⟨x0, y0⟩ := each 0 o1 T1 f1 (by decide) k1 p1
    obtain ⟨x1, y1⟩ := each 1 o2 T2 f2 (by decide) k2 p2
    obtain ⟨x2, y2⟩ := each 2 o3 T3 f3 (by decide) k3 p3
    rw [hr, dblk_s]
    refine ⟨?_, fun g => ?_⟩
    · show (dblk (PV B) (drk B 25 - drk B (c + 1)) (3 * p + 0)).1 + ((dblk (PV B) (drk B 25 - drk B (c + 1)) (3 * p + 1)).1 + (dblk (PV B) (drk B 25 - drk B (c + 1)) (3 * p + 2)).1) = _
      rw [x0, x1, x2, dlw_n (fun z => hl z.2), Nat.mul_add, Nat.mul_add, Nat.add_assoc]
    · show Option.map (dfin B) ((dblk (PV B) (drk B 25 - drk B (c + 1)) (3 * p + 0)).2.or ((dblk (PV B) (drk B 25 - drk B (c + 1)) (3 * p + 1)).2.or (dblk (PV B) (drk B 25 - drk B (c + 1)) (3 * p + 2)).2)) = _
      rw [map_or2, map_or2, y0 g, y1 g, y2 g, or_as]
theorem wf_lone {tied : Nat → Int32} {H BT d c : Nat} {col : Nat → Nat} (hc : c < 25) (hb : B c = 0) (hl : lon B c) (hi : WFA nf B tied H BT d (c + 1) col) : WFA nf B tied H BT (d + 1) c col := by
  obtain ⟨T, fo, hv, hw, hp⟩ := hi
  have ek : dtk B (c + 1) = dtk B c := dtk_n fun z => z.2 hl
  rw [ek] at hw
  refine ⟨T, fo, hv, hw, fun p hV hP => ?_⟩
  have hr : drk B 25 - drk B c = (drk B 25 - drk B (c + 1)) + 1 := by
    have := drk_lt hb hc
    rw [drk_h hb]
    omega
  have each : ∀ t, t < 3 → (t = 1 → noT B c) → (dblk (PV B) (drk B 25 - drk B (c + 1)) (3 * p + t)).1 = dlw B d (c + 1) * T ∧ (PG B (c + 1) (3 * p + t) → (dblk (PV B) (drk B 25 - drk B (c + 1)) (3 * p + t)).2.map (dfin B) = fo) := fun t ht k => hp (3 * p + t) ((VV_h hb ht).mpr ⟨hV, (ok_lone ht hl).mpr k⟩) (PM_l hb hl ht hP)
  obtain ⟨x0, y0⟩ := each 0 (by decide) (fun z => absurd z (by decide))
  obtain ⟨x2, -⟩ := each 2 (by decide) (fun z => absurd z (by decide))
  have x1 : (noT B c → (dblk (PV B) (drk B 25 - drk B (c + 1)) (3 * p + 1)).1 = dlw B d (c + 1) * T) ∧ (¬ noT B c → (dblk (PV B) (drk B 25 - drk B (c + 1)) (3 * p + 1)).1 = 0) := by
    refine ⟨fun z => (each 1 (by decide) (fun _ => z)).1, fun z => ?_⟩
    rw [dblk_no (by omega) (fun y => z ((ok_lone (by decide) hl).mp ((VV_h hb (by decide)).mp y).2 rfl))]
  rw [hr, dblk_s]
  refine ⟨?_, fun g => ?_⟩
  · show (dblk (PV B) (drk B 25 - drk B (c + 1)) (3 * p + 0)).1 + ((dblk (PV B) (drk B 25 - drk B (c + 1)) (3 * p + 1)).1 + (dblk (PV B) (drk B 25 - drk B (c + 1)) (3 * p + 2)).1) = _
    rw [x0, x2]
    by_cases hn : noT B c
    · rw [x1.1 hn, dlw_3 hb hl hn, Nat.mul_assoc]
      omega
    · rw [x1.2 hn, dlw_2 hb hl hn, Nat.mul_assoc]
      omega
  · show Option.map (dfin B) ((dblk (PV B) (drk B 25 - drk B (c + 1)) (3 * p + 0)).2.or ((dblk (PV B) (drk B 25 - drk B (c + 1)) (3 * p + 1)).2.or (dblk (PV B) (drk B 25 - drk B (c + 1)) (3 * p + 2)).2)) = _
    have yy := y0 (PG_0 hb g)
    cases e : (dblk (PV B) (drk B 25 - drk B (c + 1)) (3 * p + 0)).2 with
    | some q =>
      rw [e] at yy
      exact yy
    | none =>
      rw [e] at yy
      rw [dblk_y e] at x0
      have z1 : (dblk (PV B) (drk B 25 - drk B (c + 1)) (3 * p + 1)).1 = 0 := by
        by_cases hn : noT B c
        · rw [x1.1 hn, ← x0]
        · exact x1.2 hn
      rw [dblk_z z1, dblk_z (x2.trans x0.symm)]
      exact yy
theorem wf_none {tied : Nat → Int32} {H BT d c : Nat} {col : Nat → Nat} (hb : ¬ B c = 0) (hi : WFA nf B tied H BT d (c + 1) col) : WFA nf B tied H BT (d + 1) c col := by
  obtain ⟨T, fo, hv, hw, hp⟩ := hi
  have ek : dtk B (c + 1) = dtk B c := dtk_n fun z => hb z.1
  rw [ek] at hw
  refine ⟨T, fo, hv, hw, fun p hV hP => ?_⟩
  obtain ⟨x1, x2⟩ := hp p ((VV_n hb).mpr hV) (PM_n hb hP)
  rw [drk_n hb] at x1 x2
  exact ⟨by rw [x1, dlw_n fun z => hb z.1], fun g => x2 (PG_n hb g)⟩
theorem wf_all {tied : Nat → Int32} {H BT : Nat} (hN : drk B 25 ≤ 9) (hH : ∀ c, c < 25 → (H.testBit c = true ↔ B c = 0)) (hBT : ∀ c, c < 25 → (BT.testBit c = true ↔ ¬ noT B c)) (hT : ∀ y, y < 25 → B y = 0 → ¬ lon B y → tied (dtk B y) = nI (2 ^ y)) (hnf : 100 ≤ nf) : ∀ (d c : Nat) (col : Nat → Nat), c + d = 25 → CG B c col → WFA nf B tied H BT d c col := by
  intro d
  induction d with
  | zero =>
    intro c col hc hC
    obtain rfl : c = 25 := by omega
    exact wf_base hN hH hnf hC
  | succ d ih =>
    intro c col hc hC
    by_cases hb : B c = 0
    · by_cases hl : lon B c
      · exact wf_lone (by omega) hb hl (ih (c + 1) col (by omega) (CG_n (fun z => z.2 hl) hC))
      · have go : ∀ t, 1 ≤ t → t ≤ 3 → WFA nf B tied H BT d (c + 1) (upN col c t) := fun t h1 h3 => ih (c + 1) _ (by omega) (CG_t hb hl h1 h3 hC)
        exact wf_tied hN hBT hT hnf (by omega) hb hl hC (go 1 (by decide) (by decide)) (go 2 (by decide) (by decide)) (go 3 (by decide) (by decide))
    · exact wf_none hb (ih (c + 1) col (by omega) (CG_n (fun z => hb z.1) hC))
end WFROM
