/-! ===== copying ===== -/
def cpy (f g : Nat → Int32) (a b : Nat) : Nat → Int32 := fun k => if a ≤ k ∧ k < b then f k else g k
theorem cpy_0 (f g : Nat → Int32) (a : Nat) : cpy f g a a = g := by funext k; unfold cpy; rw [if_neg (by omega)]
theorem cpy_in {f g : Nat → Int32} {a b k : Nat} (h1 : a ≤ k) (h2 : k < b) : cpy f g a b k = f k := if_pos ⟨h1, h2⟩
theorem cpy_out {f g : Nat → Int32} {a b k : Nat} (h : k < a ∨ b ≤ k) : cpy f g a b k = g k := if_neg (by omega)
theorem cpy_s (f g : Nat → Int32) {a c : Nat} (h : a ≤ c) : upd (cpy f g a c) c (f c) = cpy f g a (c + 1) := by
  funext k
  by_cases e : k = c
  · subst e; rw [upd_eq, cpy_in h (by omega)]
  · rw [upd_ne e]
    by_cases h1 : a ≤ k ∧ k < c
    · rw [cpy_in h1.1 h1.2, cpy_in h1.1 (by omega)]
    · rw [cpy_out (by omega), cpy_out (by omega)]
/-- n of g laid from a on -/
def lay (f g : Nat → Int32) (a n : Nat) : Nat → Int32 := fun k => if a ≤ k ∧ k < a + n then g (k - a) else f k
theorem lay_0 (f g : Nat → Int32) (a : Nat) : lay f g a 0 = f := by funext k; unfold lay; rw [if_neg (by omega)]
theorem lay_in {f g : Nat → Int32} {a n k : Nat} (h : k < n) : lay f g a n (a + k) = g k := by unfold lay; rw [if_pos (by omega), Nat.add_sub_cancel_left]
theorem lay_out {f g : Nat → Int32} {a n k : Nat} (h : k < a ∨ a + n ≤ k) : lay f g a n k = f k := if_neg (by omega)
theorem lay_s (f g : Nat → Int32) (a n : Nat) : upd (lay f g a n) (a + n) (g n) = lay f g a (n + 1) := by
  funext k
  by_cases e : k = a + n
  · subst e; rw [upd_eq, lay_in (by omega)]
  · rw [upd_ne e]
    by_cases h1 : a ≤ k ∧ k < a + n
    · obtain ⟨j, rfl⟩ : ∃ j, k = a + j := ⟨k - a, by omega⟩
      rw [lay_in (by omega), lay_in (by omega)]
    · rw [lay_out (by omega), lay_out (by omega)]
theorem pred_ex {n m : Nat} (h : m < n) : ∃ k, n = k + 1 := ⟨n - 1, by omega⟩
section BE
variable {nf : Nat} {l c t mc mh th sn sc ol oc ot omc omh oth osn osc : Nat → Int32} {ss nt oss ont : Int32}
theorem be_114 : ∀ (m x n : Nat), x + m = 8 → m < n → g_X1_become_l114 nf n (nI x) l c t mc mh th (cpy osn sn 0 x) (cpy osc sc 0 x) ss nt ol oc ot omc omh oth osn osc oss ont = some (l, c, t, mc, mh, th, cpy osn sn 0 8, cpy osc sc 0 8, oss, ont) := by
  intro m
  induction m with
  | zero =>
    intro x n h hn
    obtain ⟨n, rfl⟩ := pred_ex hn
    obtain rfl : x = 8 := by omega
    rw [g_X1_become_l114, if_pos (by decide)]
  | succ m ih =>
    intro x n h hn
    obtain ⟨n, rfl⟩ := pred_ex hn
    rw [g_X1_become_l114, if_neg (show ¬ (8 : Int32) ≤ nI x from nI_ge (b := 8) (by omega) (by decide))]
    simp only [ck_nI (show x < 8 by omega) (by decide), nI_clamp (show x < 2 ^ 31 by omega), cpy_s _ _ (Nat.zero_le x), nI_1]
    exact ih (x + 1) n (by omega) (by omega)
theorem be_89 (hn : 100 ≤ nf) : ∀ (m x n : Nat), x + m = 4 → m < n → 1 ≤ x → g_X1_become_l89 nf n (nI x) l c t mc mh (cpy oth th 1 x) sn sc ss nt ol oc ot omc omh oth osn osc oss ont = some (l, c, t, mc, mh, cpy oth th 1 4, cpy osn sn 0 8, cpy osc sc 0 8, oss, ont) := by
  intro m
  induction m with
  | zero =>
    intro x n h hn' h1
    obtain ⟨n, rfl⟩ := pred_ex hn'
    obtain rfl : x = 4 := by omega
    rw [g_X1_become_l89, if_pos (by decide)]
    have := be_114 (nf := nf) (l := l) (c := c) (t := t) (mc := mc) (mh := mh) (th := cpy oth th 1 4) (sn := sn) (sc := sc) (ol := ol) (oc := oc) (ot := ot) (omc := omc) (omh := omh) (oth := oth) (osn := osn) (osc := osc) (ss := ss) (nt := nt) (oss := oss) (ont := ont) 8 0 nf (by omega) (by omega)
    rw [cpy_0, cpy_0] at this
    exact this
  | succ m ih =>
    intro x n h hn' h1
    obtain ⟨n, rfl⟩ := pred_ex hn'
    rw [g_X1_become_l89, if_neg (show ¬ (3 : Int32) < nI x from nI_nlt (a := 3) (by omega) (by decide))]
    simp only [ck_nI (show x < 4 by omega) (by decide), nI_clamp (show x < 2 ^ 31 by omega), cpy_s _ _ h1, nI_1]
    exact ih (x + 1) n (by omega) (by omega) (by omega)
theorem be_40 (hn : 100 ≤ nf) (hb : ∀ k, k < 4 → ot k = 0 ∨ ot k = 1) : ∀ (m x n : Nat), x + m = 4 → m < n → g_X1_become_l40 nf n (nI x) l c (cpy ot t 0 x) (cpy omc mc 0 x) (cpy omh mh 0 x) th sn sc ss nt ol oc ot omc omh oth osn osc oss ont = some (l, c, cpy ot t 0 4, cpy omc mc 0 4, cpy omh mh 0 4, cpy oth th 1 4, cpy osn sn 0 8, cpy osc sc 0 8, oss, ont) := by
  intro m
  induction m with
  | zero =>
    intro x n h hn'
    obtain ⟨n, rfl⟩ := pred_ex hn'
    obtain rfl : x = 4 := by omega
    rw [g_X1_become_l40, if_pos (by decide)]
    have := be_89 (l := l) (c := c) (t := cpy ot t 0 4) (mc := cpy omc mc 0 4) (mh := cpy omh mh 0 4) (th := th) (sn := sn) (sc := sc) (ol := ol) (oc := oc) (ot := ot) (omc := omc) (omh := omh) (oth := oth) (osn := osn) (osc := osc) (ss := ss) (nt := nt) (oss := oss) (ont := ont) hn 3 1 nf (by omega) (by omega) (by omega)
    rw [cpy_0] at this
    exact this
  | succ m ih =>
    intro x n h hn'
    obtain ⟨n, rfl⟩ := pred_ex hn'
    rw [g_X1_become_l40, if_neg (show ¬ (4 : Int32) ≤ nI x from nI_ge (b := 4) (by omega) (by decide))]
    simp only [ck_nI (show x < 4 by omega) (by decide), nI_clamp (show x < 2 ^ 31 by omega), bz_in (hb x (by omega)), cpy_s _ _ (Nat.zero_le x), nI_1]
    exact ih (x + 1) n (by omega) (by omega)
theorem be_2 (hn : 100 ≤ nf) (hb : ∀ k, k < 4 → ot k = 0 ∨ ot k = 1) : ∀ (m x n : Nat), x + m = 25 → m < n → g_X1_become_l2 nf n (nI x) (cpy ol l 0 x) (cpy oc c 0 x) t mc mh th sn sc ss nt ol oc ot omc omh oth osn osc oss ont = some (cpy ol l 0 25, cpy oc c 0 25, cpy ot t 0 4, cpy omc mc 0 4, cpy omh mh 0 4, cpy oth th 1 4, cpy osn sn 0 8, cpy osc sc 0 8, oss, ont) := by
  intro m
  induction m with
  | zero =>
    intro x n h hn'
    obtain ⟨n, rfl⟩ := pred_ex hn'
    obtain rfl : x = 25 := by omega
    rw [g_X1_become_l2, if_pos (by decide)]
    have := be_40 (l := cpy ol l 0 25) (c := cpy oc c 0 25) (t := t) (mc := mc) (mh := mh) (th := th) (sn := sn) (sc := sc) (ol := ol) (oc := oc) (ot := ot) (omc := omc) (omh := omh) (oth := oth) (osn := osn) (osc := osc) (ss := ss) (nt := nt) (oss := oss) (ont := ont) hn hb 4 0 nf (by omega) (by omega)
    rw [cpy_0, cpy_0, cpy_0] at this
    exact this
  | succ m ih =>
    intro x n h hn'
    obtain ⟨n, rfl⟩ := pred_ex hn'
    rw [g_X1_become_l2, if_neg (show ¬ (25 : Int32) ≤ nI x from nI_ge (b := 25) (by omega) (by decide))]
    simp only [ck_nI (show x < 25 by omega) (by decide), nI_clamp (show x < 2 ^ 31 by omega), cpy_s _ _ (Nat.zero_le x), nI_1]
    exact ih (x + 1) n (by omega) (by omega)
theorem s_become (hn : 100 ≤ nf) (hb : ∀ k, k < 4 → ot k = 0 ∨ ot k = 1) : g_X1_become nf l c t mc mh th sn sc ss nt ol oc ot omc omh oth osn osc oss ont = some (cpy ol l 0 25, cpy oc c 0 25, cpy ot t 0 4, cpy omc mc 0 4, cpy omh mh 0 4, cpy oth th 1 4, cpy osn sn 0 8, cpy osc sc 0 8, oss, ont) := by
  have := be_2 (l := l) (c := c) (t := t) (mc := mc) (mh := mh) (th := th) (sn := sn) (sc := sc) (ol := ol) (oc := oc) (ot := ot) (omc := omc) (omh := omh) (oth := oth) (osn := osn) (osc := osc) (ss := ss) (nt := nt) (oss := oss) (ont := ont) hn hb 25 0 nf (by omega) (by omega)
  rw [cpy_0, cpy_0] at this
  exact this
theorem DB_cpy {B : Nat → Nat} (h : DB ol oc ot omc omh oth ont B) : DB (cpy ol l 0 25) (cpy oc c 0 25) (cpy ot t 0 4) (cpy omc mc 0 4) (cpy omh mh 0 4) (cpy oth th 1 4) ont B := by
  obtain ⟨h1, h2, h3, h4, h5, h6, h7⟩ := h
  exact ⟨fun x hx => by rw [cpy_in (by omega) hx, h1 x hx], fun x hx => by rw [cpy_in (by omega) hx, h2 x hx], fun x hx => by rw [cpy_in (by omega) hx, h3 x hx], fun x hx => by rw [cpy_in (by omega) hx, h4 x hx], fun x hx => by rw [cpy_in (by omega) hx, h5 x hx], fun x hx => by rw [cpy_in (by omega) (by omega), h6 x hx], h7⟩
theorem DS_cpy {S : Nat → Nat} {SS : Nat} (h : DS osn osc oss S SS) : DS (cpy osn sn 0 8) (cpy osc sc 0 8) oss S SS := by
  obtain ⟨h1, h2, h3⟩ := h
  exact ⟨fun x hx => by rw [cpy_in (by omega) hx, h1 x hx], fun x hx => by rw [cpy_in (by omega) hx, h2 x hx], h3⟩
theorem DB_bits {B : Nat → Nat} (h : DB ol oc ot omc omh oth ont B) : ∀ k, k < 4 → ot k = 0 ∨ ot k = 1 := by
  intro k hk
  rw [h.2.2.1 k hk]
  rcases Nat.mod_two_eq_zero_or_one (B 61 / 2 ^ k) with e | e
  · rw [e]; exact Or.inl rfl
  · rw [e]; exact Or.inr rfl
end BE

section AN
variable {nf : Nat}
theorem an_2 {book now : Nat → Int32} {a b c : Int32} : ∀ (m x n : Nat), x + m = 63 → m < n → g_X9_asNow_l2 nf n (nI x) book (cpy book now 0 x) a b c = some (cpy book now 0 63, 0, -6, -6) := by
  intro m
  induction m with
  | zero =>
    intro x n h hn
    obtain ⟨n, rfl⟩ := pred_ex hn
    obtain rfl : x = 63 := by omega
    rw [g_X9_asNow_l2, if_pos (by decide)]
  | succ m ih =>
    intro x n h hn
    obtain ⟨n, rfl⟩ := pred_ex hn
    rw [g_X9_asNow_l2, if_neg (show ¬ (63 : Int32) ≤ nI x from nI_ge (b := 63) (by omega) (by decide))]
    simp only [ck_nI (show x < 63 by omega) (by decide), nI_clamp (show x < 2 ^ 31 by omega), cpy_s _ _ (Nat.zero_le x), nI_1]
    exact ih (x + 1) n (by omega) (by omega)
theorem s_asNow {book now : Nat → Int32} {a b c : Int32} (hn : 100 ≤ nf) : g_X9_asNow nf book now a b c = some (cpy book now 0 63, 0, -6, -6) := by
  have := an_2 (nf := nf) (book := book) (now := now) (a := a) (b := b) (c := c) 63 0 nf (by omega) (by omega)
  rw [cpy_0] at this
  exact this
theorem MB_cpy {book now : Nat → Int32} {B : Nat → Nat} (h : MB book B) : MB (cpy book now 0 63) B := fun i hi => by rw [cpy_in (by omega) hi, h i hi]
theorem im_47 {book sight image isKept : Nat → Int32} {ss x1 : Int32} {j : Nat} (hj : j < 2) (hx : x1 = nI j) : ∀ (m x n : Nat), x + m = 16 → m < n → g_X9_image_l47 nf n x1 (nI (90 * j)) (nI x) book ss sight (lay image sight (90 * j + 63) x) isKept = some (1, upd (lay image sight (90 * j + 63) 16) (90 * j + 80) ss, upd isKept j 1) := by
  intro m
  induction m with
  | zero =>
    intro x n h hn
    obtain ⟨n, rfl⟩ := pred_ex hn
    obtain rfl : x = 16 := by omega
    rw [g_X9_image_l47, if_pos (by decide), hx]
    simp only [show nI (90 * j) + 80 = nI (90 * j + 80) from nI_add _ 80, ck_nI (show 90 * j + 80 < 180 by omega) (by decide), ck_nI hj (by decide), bz_in (Or.inr rfl), nI_clamp (show 90 * j + 80 < 2 ^ 31 by omega), nI_clamp (show j < 2 ^ 31 by omega)]
  | succ m ih =>
    intro x n h hn
    obtain ⟨n, rfl⟩ := pred_ex hn
    rw [g_X9_image_l47, if_neg (show ¬ (16 : Int32) ≤ nI x from nI_ge (b := 16) (by omega) (by decide))]
    simp only [show nI (90 * j) + 63 = nI (90 * j + 63) from nI_add _ 63, nI_add (90 * j + 63) x, ck_nI (show x < 16 by omega) (by decide), ck_nI (show 90 * j + 63 + x < 180 by omega) (by decide), nI_clamp (show x < 2 ^ 31 by omega), nI_clamp (show 90 * j + 63 + x < 2 ^ 31 by omega), lay_s, nI_1]
    exact ih (x + 1) n (by omega) (by omega)
theorem im_19 {book sight image isKept : Nat → Int32} {ss x1 : Int32} {j : Nat} (hj : j < 2) (hx : x1 = nI j) (hnf : 100 ≤ nf) : ∀ (m x n : Nat), x + m = 63 → m < n → g_X9_image_l19 nf n x1 (nI (90 * j)) (nI x) book ss sight (lay image book (90 * j) x) isKept = some (1, upd (lay (lay image book (90 * j) 63) sight (90 * j + 63) 16) (90 * j + 80) ss, upd isKept j 1) := by
  intro m
  induction m with
  | zero =>
    intro x n h hn
    obtain ⟨n, rfl⟩ := pred_ex hn
    obtain rfl : x = 63 := by omega
    rw [g_X9_image_l19, if_pos (by decide)]
    have := im_47 (nf := nf) (book := book) (sight := sight) (image := lay image book (90 * j) 63) (isKept := isKept) (ss := ss) hj hx 16 0 nf (by omega) (by omega)
    rw [lay_0] at this
    exact this
  | succ m ih =>
    intro x n h hn
    obtain ⟨n, rfl⟩ := pred_ex hn
    rw [g_X9_image_l19, if_neg (show ¬ (63 : Int32) ≤ nI x from nI_ge (b := 63) (by omega) (by decide))]
    simp only [nI_add (90 * j) x, ck_nI (show x < 63 by omega) (by decide), ck_nI (show 90 * j + x < 180 by omega) (by decide), nI_clamp (show x < 2 ^ 31 by omega), nI_clamp (show 90 * j + x < 2 ^ 31 by omega), lay_s, nI_1]
    exact ih (x + 1) n (by omega) (by omega)
theorem s_image9 {book sight image isKept : Nat → Int32} {ss : Int32} {j : Nat} (hj : j < 2) (hnf : 100 ≤ nf) : g_X9_image nf (nI j) book ss sight image isKept = some (1, upd (lay (lay image book (90 * j) 63) sight (90 * j + 63) 16) (90 * j + 80) ss, upd isKept j 1) := by
  have c1 : (0 : Int32) ≤ nI j ∧ nI j ≤ 1 := in_nI (a := 0) (b := 1) (Nat.zero_le _) (by omega) (by decide)
  simp only [g_X9_image, n_t c1, Option.bind_some, i10, if_false, show (90 : Int32) * nI j = nI (90 * j) from pk_mul 90 j]
  have := im_19 (nf := nf) (book := book) (sight := sight) (image := image) (isKept := isKept) (ss := ss) hj rfl hnf 63 0 nf (by omega) (by omega)
  rw [lay_0] at this
  exact this
/-- places of an image -/
theorem img_own {image book sight : Nat → Int32} {ss : Int32} {j : Nat} : (∀ i, i < 63 → upd (lay (lay image book (90 * j) 63) sight (90 * j + 63) 16) (90 * j + 80) ss (90 * j + i) = book i) ∧ (∀ i, i < 16 → upd (lay (lay image book (90 * j) 63) sight (90 * j + 63) 16) (90 * j + 80) ss (90 * j + 63 + i) = sight i) ∧ upd (lay (lay image book (90 * j) 63) sight (90 * j + 63) 16) (90 * j + 80) ss (90 * j + 80) = ss := by
  refine ⟨fun i hi => ?_, fun i hi => ?_, upd_eq⟩
  · rw [upd_ne (by omega), lay_out (by omega), lay_in hi]
  · rw [upd_ne (by omega), lay_in hi]
theorem img_other {image book sight : Nat → Int32} {ss : Int32} {j k x : Nat} (h : j ≠ k) (hj : j < 2) (hk : k < 2) (hx : x ≤ 80) : upd (lay (lay image book (90 * j) 63) sight (90 * j + 63) 16) (90 * j + 80) ss (90 * k + x) = image (90 * k + x) := by
  rw [upd_ne (by omega), lay_out (by omega), lay_out (by omega)]
theorem RI1_other {l c t mc mh th sn sc : Nat → Int32} {ss nt : Int32} {image book sight : Nat → Int32} {s2 : Int32} {j k : Nat} (h : j ≠ k) (hj : j < 2) (hk : k < 2) (hr : RI1 k l c t mc mh th sn sc ss nt image) : RI1 k l c t mc mh th sn sc ss nt (upd (lay (lay image book (90 * j) 63) sight (90 * j + 63) 16) (90 * j + 80) s2) := by
  obtain ⟨B, S, SS, h1, h2, h3, h4, h5, h6, h7⟩ := hr
  exact ⟨B, S, SS, h1, h2, h3, h4, fun i hi => by rw [img_other h hj hk (by omega), h5 i hi], fun i hi => by rw [Nat.add_assoc, img_other h hj hk (by omega), ← Nat.add_assoc, h6 i hi], by rw [img_other h hj hk (by omega), h7]⟩
theorem rs_59 {book sight image isKept : Nat → Int32} {ss : Int32} {j : Nat} (hj : j < 2) : ∀ (m x n : Nat), x + m = 16 → m < n → g_X9_restore_l59 nf n (nI (90 * j)) (nI x) book ss (cpy (fun k => image (90 * j + 63 + k)) sight 0 x) image isKept = some (1, book, image (90 * j + 80), cpy (fun k => image (90 * j + 63 + k)) sight 0 16) := by
  intro m
  induction m with
  | zero =>
    intro x n h hn
    obtain ⟨n, rfl⟩ := pred_ex hn
    obtain rfl : x = 16 := by omega
    rw [g_X9_restore_l59, if_pos (by decide)]
    simp only [show nI (90 * j) + 80 = nI (90 * j + 80) from nI_add _ 80, ck_nI (show 90 * j + 80 < 180 by omega) (by decide), nI_clamp (show 90 * j + 80 < 2 ^ 31 by omega)]
  | succ m ih =>
    intro x n h hn
    obtain ⟨n, rfl⟩ := pred_ex hn
    rw [g_X9_restore_l59, if_neg (show ¬ (16 : Int32) ≤ nI x from nI_ge (b := 16) (by omega) (by decide))]
    simp only [show nI (90 * j) + 63 = nI (90 * j + 63) from nI_add _ 63, nI_add (90 * j + 63) x, ck_nI (show x < 16 by omega) (by decide), ck_nI (show 90 * j + 63 + x < 180 by omega) (by decide), nI_clamp (show x < 2 ^ 31 by omega), nI_clamp (show 90 * j + 63 + x < 2 ^ 31 by omega), nI_1]
    rw [cpy_s (fun k => image (90 * j + 63 + k)) sight (Nat.zero_le x)]
    exact ih (x + 1) n (by omega) (by omega)
theorem rs_31 {book sight image isKept : Nat → Int32} {ss : Int32} {j : Nat} (hj : j < 2) (hnf : 100 ≤ nf) : ∀ (m x n : Nat), x + m = 63 → m < n → g_X9_restore_l31 nf n (nI (90 * j)) (nI x) (cpy (fun k => image (90 * j + k)) book 0 x) ss sight image isKept = some (1, cpy (fun k => image (90 * j + k)) book 0 63, image (90 * j + 80), cpy (fun k => image (90 * j + 63 + k)) sight 0 16) := by
  intro m
  induction m with
  | zero =>
    intro x n h hn
    obtain ⟨n, rfl⟩ := pred_ex hn
    obtain rfl : x = 63 := by omega
    rw [g_X9_restore_l31, if_pos (by decide)]
    have := rs_59 (nf := nf) (book := cpy (fun k => image (90 * j + k)) book 0 63) (sight := sight) (image := image) (isKept := isKept) (ss := ss) hj 16 0 nf (by omega) (by omega)
    rw [cpy_0] at this
    exact this
  | succ m ih =>
    intro x n h hn
    obtain ⟨n, rfl⟩ := pred_ex hn
    rw [g_X9_restore_l31, if_neg (show ¬ (63 : Int32) ≤ nI x from nI_ge (b := 63) (by omega) (by decide))]
    simp only [nI_add (90 * j) x, ck_nI (show x < 63 by omega) (by decide), ck_nI (show 90 * j + x < 180 by omega) (by decide), nI_clamp (show x < 2 ^ 31 by omega), nI_clamp (show 90 * j + x < 2 ^ 31 by omega), nI_1]
    rw [cpy_s (fun k => image (90 * j + k)) book (Nat.zero_le x)]
    exact ih (x + 1) n (by omega) (by omega)
end AN
theorem st_image : St_image := by
  intro n_lands n_camphors n_there n_mothCells n_mothHeads n_threads n_sightNights n_sightCells n_sights n_night u_lands u_camphors u_there u_mothCells u_mothHeads u_threads u_sightNights u_sightCells u_sights u_night v_lands v_camphors v_there v_mothCells v_mothHeads v_threads v_sightNights v_sightCells v_sights v_night kept p_signs p_size t_next_ book sights sight signs pad image isKept p1 hR
  obtain ⟨⟨B, S, SS, hW, hDB, hMB, hWS, hDS, hMS⟩, hRP, hI0, hI1, hRT⟩ := hR
  by_cases c1 : 0 ≤ p1 ∧ p1 ≤ 1
  · obtain ⟨j, hj, rfl⟩ := rngN (k := 1) (by decide) c1
    obtain rfl | rfl : j = 0 ∨ j = 1 := by omega
    · refine ⟨100, (1, cpy n_lands u_lands 0 25, cpy n_camphors u_camphors 0 25, cpy n_there u_there 0 4, cpy n_mothCells u_mothCells 0 4, cpy n_mothHeads u_mothHeads 0 4, cpy n_threads u_threads 1 4, cpy n_sightNights u_sightNights 0 8, cpy n_sightCells u_sightCells 0 8, n_sights, n_night, v_lands, v_camphors, v_there, v_mothCells, v_mothHeads, v_threads, v_sightNights, v_sightCells, v_sights, v_night, upd kept 0 1), (1, upd (lay (lay image book (90 * 0) 63) sight (90 * 0 + 63) 16) (90 * 0 + 80) sights, upd isKept 0 1), ?_, s_image9 (by omega) (by omega), rfl, ⟨B, S, SS, hW, hDB, hMB, hWS, hDS, hMS⟩, hRP, ⟨rfl, Or.inr rfl, fun _ => ?_⟩, ⟨?_, ?_, fun h => ?_⟩, hRT⟩
      · simp only [g_X8_image, w_t c1, Option.bind_some, i10, if_false, ck_nI (show 0 < 2 by omega) (by decide), show nI 0 = 0 from rfl, if_true, s_become (show 100 ≤ 100 by omega) (DB_bits hDB), bz_in (Or.inr rfl)]
        rfl
      · exact ⟨B, S, SS, hW, DB_cpy hDB, hWS, DS_cpy hDS, fun i hi => (img_own.1 i hi).trans (hMB i hi), fun i hi => (img_own.2.1 i hi).trans (hMS.1 i hi), (img_own (image := image) (book := book) (sight := sight) (ss := sights) (j := 0)).2.2.trans hMS.2⟩
      · show upd kept 0 1 1 = upd isKept 0 1 1
        rw [upd_ne (by omega), upd_ne (by omega)]; exact hI1.1
      · show upd kept 0 1 1 = 0 ∨ upd kept 0 1 1 = 1
        rw [upd_ne (by omega)]; exact hI1.2.1
      · have h' : upd kept 0 1 1 = 1 := h
        rw [upd_ne (by omega)] at h'
        exact RI1_other (by omega) (by omega) (by omega) (hI1.2.2 h')
    · refine ⟨100, (1, u_lands, u_camphors, u_there, u_mothCells, u_mothHeads, u_threads, u_sightNights, u_sightCells, u_sights, u_night, cpy n_lands v_lands 0 25, cpy n_camphors v_camphors 0 25, cpy n_there v_there 0 4, cpy n_mothCells v_mothCells 0 4, cpy n_mothHeads v_mothHeads 0 4, cpy n_threads v_threads 1 4, cpy n_sightNights v_sightNights 0 8, cpy n_sightCells v_sightCells 0 8, n_sights, n_night, upd kept 1 1), (1, upd (lay (lay image book (90 * 1) 63) sight (90 * 1 + 63) 16) (90 * 1 + 80) sights, upd isKept 1 1), ?_, s_image9 (by omega) (by omega), rfl, ⟨B, S, SS, hW, hDB, hMB, hWS, hDS, hMS⟩, hRP, ⟨?_, ?_, fun h => ?_⟩, ⟨rfl, Or.inr rfl, fun _ => ?_⟩, hRT⟩
      · simp only [g_X8_image, w_t c1, Option.bind_some, i10, if_false, ck_nI (show 1 < 2 by omega) (by decide), show ¬ nI 1 = 0 from by decide, s_become (show 100 ≤ 100 by omega) (DB_bits hDB), bz_in (Or.inr rfl)]
        rfl
      · show upd kept 1 1 0 = upd isKept 1 1 0
        rw [upd_ne (by omega), upd_ne (by omega)]; exact hI0.1
      · show upd kept 1 1 0 = 0 ∨ upd kept 1 1 0 = 1
        rw [upd_ne (by omega)]; exact hI0.2.1
      · have h' : upd kept 1 1 0 = 1 := h
        rw [upd_ne (by omega)] at h'
        exact RI1_other (by omega) (by omega) (by omega) (hI0.2.2 h')
      · exact ⟨B, S, SS, hW, DB_cpy hDB, hWS, DS_cpy hDS, fun i hi => (img_own.1 i hi).trans (hMB i hi), fun i hi => (img_own.2.1 i hi).trans (hMS.1 i hi), (img_own (image := image) (book := book) (sight := sight) (ss := sights) (j := 1)).2.2.trans hMS.2⟩
  · refine ⟨100, (-2, u_lands, u_camphors, u_there, u_mothCells, u_mothHeads, u_threads, u_sightNights, u_sightCells, u_sights, u_night, v_lands, v_camphors, v_there, v_mothCells, v_mothHeads, v_threads, v_sightNights, v_sightCells, v_sights, v_night, kept), (-2, image, isKept), ?_, ?_, rfl, ⟨B, S, SS, hW, hDB, hMB, hWS, hDS, hMS⟩, hRP, hI0, hI1, hRT⟩
    · simp only [g_X8_image, w_f c1, Option.bind_some, i00, if_true]
    · simp only [g_X9_image, n_f c1, Option.bind_some, i00, if_true]

theorem s_restore9 {nf : Nat} {book sight image isKept : Nat → Int32} {ss : Int32} {j : Nat} (hj : j < 2) (hk : isKept j = 1) (hnf : 100 ≤ nf) : g_X9_restore nf (nI j) book ss sight image isKept = some (1, cpy (fun k => image (90 * j + k)) book 0 63, image (90 * j + 80), cpy (fun k => image (90 * j + 63 + k)) sight 0 16) := by
  have c1 : (0 : Int32) ≤ nI j ∧ nI j ≤ 1 := in_nI (a := 0) (b := 1) (Nat.zero_le _) (by omega) (by decide)
  simp only [g_X9_restore, n_t c1, Option.bind_some, i10, if_false, ck_nI hj (by decide), nI_clamp (show j < 2 ^ 31 by omega), hk, show (90 : Int32) * nI j = nI (90 * j) from pk_mul 90 j]
  have := rs_31 (nf := nf) (book := book) (sight := sight) (image := image) (isKept := isKept) (ss := ss) hj hnf 63 0 nf (by omega) (by omega)
  rw [cpy_0] at this
  exact this
theorem st_restore : St_restore := by
  intro n_lands n_camphors n_there n_mothCells n_mothHeads n_threads n_sightNights n_sightCells n_sights n_night u_lands u_camphors u_there u_mothCells u_mothHeads u_threads u_sightNights u_sightCells u_sights u_night v_lands v_camphors v_there v_mothCells v_mothHeads v_threads v_sightNights v_sightCells v_sights v_night kept p_signs p_size t_next_ book sights sight signs pad image isKept p1 hR
  obtain ⟨⟨B, S, SS, hW, hDB, hMB, hWS, hDS, hMS⟩, hRP, hI0, hI1, hRT⟩ := hR
  by_cases c1 : 0 ≤ p1 ∧ p1 ≤ 1
  · obtain ⟨j, hj, rfl⟩ := rngN (k := 1) (by decide) c1
    obtain rfl | rfl : j = 0 ∨ j = 1 := by omega
    · obtain ⟨k1, k2, k3⟩ := hI0
      rcases k2 with k2 | k2
      · refine ⟨100, (-3, n_lands, n_camphors, n_there, n_mothCells, n_mothHeads, n_threads, n_sightNights, n_sightCells, n_sights, n_night), (-3, book, sights, sight), ?_, ?_, rfl, ⟨B, S, SS, hW, hDB, hMB, hWS, hDS, hMS⟩, hRP, ⟨k1, Or.inl k2, k3⟩, hI1, hRT⟩
        · simp only [g_X8_restore, w_t c1, Option.bind_some, i10, if_false, ck_nI (show 0 < 2 by omega) (by decide), nI_clamp (show 0 < 2 ^ 31 by decide), k2, i00, if_true]
        · rw [k1] at k2
          simp only [g_X9_restore, n_t c1, Option.bind_some, i10, if_false, ck_nI (show 0 < 2 by omega) (by decide), nI_clamp (show 0 < 2 ^ 31 by decide), k2, i00, if_true]
      · obtain ⟨B2, S2, SS2, g1, g2, g3, g4, g5, g6, g7⟩ := k3 k2
        refine ⟨100, (1, cpy u_lands n_lands 0 25, cpy u_camphors n_camphors 0 25, cpy u_there n_there 0 4, cpy u_mothCells n_mothCells 0 4, cpy u_mothHeads n_mothHeads 0 4, cpy u_threads n_threads 1 4, cpy u_sightNights n_sightNights 0 8, cpy u_sightCells n_sightCells 0 8, u_sights, u_night), (1, cpy (fun k => image (90 * 0 + k)) book 0 63, image (90 * 0 + 80), cpy (fun k => image (90 * 0 + 63 + k)) sight 0 16), ?_, s_restore9 (by omega) (by rw [← k1]; exact k2) (by omega), rfl, ⟨B2, S2, SS2, g1, DB_cpy g2, fun i hi => ?_, g3, DS_cpy g4, fun i hi => ?_, g7⟩, hRP, ⟨k1, Or.inr k2, k3⟩, hI1, hRT⟩
        · simp only [g_X8_restore, w_t c1, Option.bind_some, i10, if_false, ck_nI (show 0 < 2 by omega) (by decide), nI_clamp (show 0 < 2 ^ 31 by decide), k2, i10, show (nI 0 = 0) = True from eq_true rfl, if_true, if_false, s_become (show 100 ≤ 100 by omega) (DB_bits g2)]
        · show cpy (fun k => image (90 * 0 + k)) book 0 63 i = nI (B2 i)
          rw [cpy_in (by omega) hi]; exact g5 i hi
        · show cpy (fun k => image (90 * 0 + 63 + k)) sight 0 16 i = nI (S2 i)
          rw [cpy_in (by omega) hi]; exact g6 i hi
    · obtain ⟨k1, k2, k3⟩ := hI1
      rcases k2 with k2 | k2
      · refine ⟨100, (-3, n_lands, n_camphors, n_there, n_mothCells, n_mothHeads, n_threads, n_sightNights, n_sightCells, n_sights, n_night), (-3, book, sights, sight), ?_, ?_, rfl, ⟨B, S, SS, hW, hDB, hMB, hWS, hDS, hMS⟩, hRP, hI0, ⟨k1, Or.inl k2, k3⟩, hRT⟩
        · simp only [g_X8_restore, w_t c1, Option.bind_some, i10, if_false, ck_nI (show 1 < 2 by omega) (by decide), nI_clamp (show 1 < 2 ^ 31 by decide), k2, i00, if_true]
        · rw [k1] at k2
          simp only [g_X9_restore, n_t c1, Option.bind_some, i10, if_false, ck_nI (show 1 < 2 by omega) (by decide), nI_clamp (show 1 < 2 ^ 31 by decide), k2, i00, if_true]
      · obtain ⟨B2, S2, SS2, g1, g2, g3, g4, g5, g6, g7⟩ := k3 k2
        refine ⟨100, (1, cpy v_lands n_lands 0 25, cpy v_camphors n_camphors 0 25, cpy v_there n_there 0 4, cpy v_mothCells n_mothCells 0 4, cpy v_mothHeads n_mothHeads 0 4, cpy v_threads n_threads 1 4, cpy v_sightNights n_sightNights 0 8, cpy v_sightCells n_sightCells 0 8, v_sights, v_night), (1, cpy (fun k => image (90 * 1 + k)) book 0 63, image (90 * 1 + 80), cpy (fun k => image (90 * 1 + 63 + k)) sight 0 16), ?_, s_restore9 (by omega) (by rw [← k1]; exact k2) (by omega), rfl, ⟨B2, S2, SS2, g1, DB_cpy g2, fun i hi => ?_, g3, DS_cpy g4, fun i hi => ?_, g7⟩, hRP, hI0, ⟨k1, Or.inr k2, k3⟩, hRT⟩
        · simp only [g_X8_restore, w_t c1, Option.bind_some, i10, if_false, ck_nI (show 1 < 2 by omega) (by decide), nI_clamp (show 1 < 2 ^ 31 by decide), k2, show ¬ nI 1 = 0 from by decide, s_become (show 100 ≤ 100 by omega) (DB_bits g2)]
        · show cpy (fun k => image (90 * 1 + k)) book 0 63 i = nI (B2 i)
          rw [cpy_in (by omega) hi]; exact g5 i hi
        · show cpy (fun k => image (90 * 1 + 63 + k)) sight 0 16 i = nI (S2 i)
          rw [cpy_in (by omega) hi]; exact g6 i hi
  · refine ⟨100, (-2, n_lands, n_camphors, n_there, n_mothCells, n_mothHeads, n_threads, n_sightNights, n_sightCells, n_sights, n_night), (-2, book, sights, sight), ?_, ?_, rfl, ⟨B, S, SS, hW, hDB, hMB, hWS, hDS, hMS⟩, hRP, hI0, hI1, hRT⟩
    · simp only [g_X8_restore, w_f c1, Option.bind_some, i00, if_true]
    · simp only [g_X9_restore, n_f c1, Option.bind_some, i00, if_true]
