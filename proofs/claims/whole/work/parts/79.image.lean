/-! image -/
def s34 (τ : St) (T : Nat → Int32) : St := (fun c => if c = 34 then T else τ.1 c, τ.2)
theorem s34_self (τ : St) : s34 τ (τ.1 34) = τ := by
  refine St_ext (fun c j => ?_) (fun _ _ => rfl)
  show (if c = 34 then τ.1 34 else τ.1 c) j = _
  by_cases h : c = 34
  · rw [if_pos h, h]
  · rw [if_neg h]
theorem s34_put (τ : St) (T : Nat → Int32) (k : Nat) (x : Int32) : sI (s34 τ T) 34 k x = s34 τ (wrt T k x) := by
  refine St_ext (fun c j => ?_) (fun _ _ => rfl)
  by_cases h : c = 34
  · subst h; rfl
  · rw [sI_ne h]
    show (if c = 34 then T else τ.1 c) j = (if c = 34 then wrt T k x else τ.1 c) j
    rw [if_neg h, if_neg h]
/-- what an image's loop over bakers writes from m on; base B -/
def im3 (τ : St) (B : Nat) (T : Nat → Int32) (m : Nat) : Nat → Int32 := fun j =>
  if B + 2 + m ≤ j ∧ j < B + 6 then τ.1 2 (j - (B + 2)) else if B + 6 + m ≤ j ∧ j < B + 10 then τ.1 15 (j - (B + 6)) else if B + 10 + m ≤ j ∧ j < B + 14 then τ.1 16 (j - (B + 10)) else T j
theorem im3_step (τ : St) (B : Nat) (T : Nat → Int32) (m : Nat) (h : m < 4) : im3 τ B (wrt (wrt (wrt T (B + 2 + m) (τ.1 2 m)) (B + 6 + m) (τ.1 15 m)) (B + 10 + m) (τ.1 16 m)) (m + 1) = im3 τ B T m := by
  funext j
  unfold im3 wrt
  by_cases a1 : B + 2 + m ≤ j ∧ j < B + 6
  · rw [if_pos a1]
    by_cases a2 : j = B + 2 + m
    · rw [if_neg (by omega), if_neg (by omega), if_neg (by omega), if_neg (by omega), if_neg (by omega), if_pos a2, show j - (B + 2) = m by omega]
    · rw [if_pos (by omega)]
  · rw [if_neg a1, if_neg (by omega)]
    by_cases b1 : B + 6 + m ≤ j ∧ j < B + 10
    · rw [if_pos b1]
      by_cases b2 : j = B + 6 + m
      · rw [if_neg (by omega), if_neg (by omega), if_neg (by omega), if_pos b2, show j - (B + 6) = m by omega]
      · rw [if_pos (by omega)]
    · rw [if_neg b1, if_neg (by omega)]
      by_cases c1 : B + 10 + m ≤ j ∧ j < B + 14
      · rw [if_pos c1]
        by_cases c2 : j = B + 10 + m
        · rw [if_neg (by omega), if_pos c2, show j - (B + 10) = m by omega]
        · rw [if_pos (by omega)]
      · rw [if_neg c1, if_neg (by omega), if_neg (by omega), if_neg (by omega), if_neg (by omega)]
theorem im3_end (τ : St) (B : Nat) (T : Nat → Int32) : im3 τ B T 4 = T := by
  funext j
  unfold im3
  rw [if_neg (by omega), if_neg (by omega), if_neg (by omega)]
theorem ixB : ∀ i : Nat, i < 4 → ∀ d : Nat, d < 15 → ∀ m : Nat, m < 32 → nI (57 * i) + nI d + nI m = nI (57 * i + d + m) := by decide +kernel
theorem nI_2 : (2 : Int32) = nI 2 := by decide
theorem nI_6 : (6 : Int32) = nI 6 := by decide
theorem nI_10 : (10 : Int32) = nI 10 := by decide
theorem nI_14 : (14 : Int32) = nI 14 := by decide
theorem img_L3 (τ : St) (i : Nat) (hi : i < 4) (kx : St → Int32 → Option (St × Int32)) : ∀ (n m : Nat) (T : Nat → Int32), m ≤ 4 → 4 < m + n → fX9_image_L49 (nI (57 * i)) kx n (s34 τ T) (nI m) = kx (s34 τ (im3 τ (57 * i) T m)) (nI 4) := by
  intro n
  induction n with
  | zero => intro m T h1 h2; exact absurd h2 (by omega)
  | succ n ih =>
    intro m T h1 h2
    rw [fX9_image_L49]
    by_cases h : m = 4
    · subst h
      rw [if_pos (by decide), im3_end]
    · have hc : ¬ (4 : Int32) ≤ nI m := by
        rw [le_i, z_4, nI_toInt (by omega)]
        omega
      have hin : inb (nI m) 4 = true := inb_nI (by omega) (by decide)
      rw [if_neg hc, chk_t hin, nI_2, nI_6, nI_10, ixB i hi 2 (by omega) m (by omega), ixB i hi 6 (by omega) m (by omega), ixB i hi 10 (by omega) m (by omega), chk_t (inb_nI (by omega) (by decide)), bnd_eq, chk_t hin, chk_t (inb_nI (by omega) (by decide)), bnd_eq, chk_t hin, chk_t (inb_nI (by omega) (by decide)), bnd_eq, bnd_eq, ix_nI (show m < 2 ^ 31 by omega), ix_nI (show 57 * i + 2 + m < 2 ^ 31 by omega), ix_nI (show 57 * i + 6 + m < 2 ^ 31 by omega), ix_nI (show 57 * i + 10 + m < 2 ^ 31 by omega), ← nI_succ]
      show fX9_image_L49 (nI (57 * i)) kx n (sI (sI (sI (s34 τ T) 34 (57 * i + 2 + m) (τ.1 2 m)) 34 (57 * i + 6 + m) (τ.1 15 m)) 34 (57 * i + 10 + m) (τ.1 16 m)) (nI (m + 1)) = _
      rw [s34_put, s34_put, s34_put, ih (m + 1) _ (by omega) (by omega), im3_step τ (57 * i) T m (by omega)]
def imL (τ : St) (B : Nat) (T : Nat → Int32) (m : Nat) : Nat → Int32 := fun j => if B + 14 + m ≤ j ∧ j < B + 46 then τ.1 17 (j - (B + 14)) else T j
theorem imL_step (τ : St) (B : Nat) (T : Nat → Int32) (m : Nat) (h : m < 32) : imL τ B (wrt T (B + 14 + m) (τ.1 17 m)) (m + 1) = imL τ B T m := by
  funext j
  unfold imL wrt
  by_cases a1 : B + 14 + m ≤ j ∧ j < B + 46
  · rw [if_pos a1]
    by_cases a2 : j = B + 14 + m
    · rw [if_neg (by omega), if_pos a2, show j - (B + 14) = m by omega]
    · rw [if_pos (by omega)]
  · rw [if_neg a1, if_neg (by omega), if_neg (by omega)]
theorem imL_end (τ : St) (B : Nat) (T : Nat → Int32) : imL τ B T 32 = T := by
  funext j
  unfold imL
  rw [if_neg (by omega)]
theorem img_LL (τ : St) (i : Nat) (hi : i < 4) (kx : St → Int32 → Option (St × Int32)) : ∀ (n m : Nat) (T : Nat → Int32), m ≤ 32 → 32 < m + n → fX9_image_L112 (nI (57 * i)) kx n (s34 τ T) (nI m) = kx (s34 τ (imL τ (57 * i) T m)) (nI 32) := by
  intro n
  induction n with
  | zero => intro m T h1 h2; exact absurd h2 (by omega)
  | succ n ih =>
    intro m T h1 h2
    rw [fX9_image_L112]
    by_cases h : m = 32
    · subst h
      rw [if_pos (by decide), imL_end]
    · have hc : ¬ (32 : Int32) ≤ nI m := by
        rw [le_i, nI_toInt (by omega)]
        have : (32 : Int32).toInt = 32 := by decide
        omega
      rw [if_neg hc, chk_t (inb_nI (by omega) (by decide)), nI_14, ixB i hi 14 (by omega) m (by omega), chk_t (inb_nI (by omega) (by decide)), bnd_eq, bnd_eq, ix_nI (show m < 2 ^ 31 by omega), ix_nI (show 57 * i + 14 + m < 2 ^ 31 by omega), ← nI_succ]
      show fX9_image_L112 (nI (57 * i)) kx n (sI (s34 τ T) 34 (57 * i + 14 + m) (τ.1 17 m)) (nI (m + 1)) = _
      rw [s34_put, ih (m + 1) _ (by omega) (by omega), imL_step τ (57 * i) T m (by omega)]
/-- the model's image row, with image i taken -/
def imT (τ : St) (i : Nat) : Nat → Int32 := imL τ (57 * i) (im3 τ (57 * i) (wrt (wrt (τ.1 34) (57 * i) (τ.1 0 39)) (57 * i + 1) (τ.1 0 37)) 0) 0
theorem ix57 : ∀ i : Nat, i < 4 → (57 : Int32) * nI i = nI (57 * i) ∧ nI (57 * i) + 1 = nI (57 * i + 1) := by decide +kernel
theorem imgM (τ : St) (i : Nat) (hi : i < 4) (h68 : τ.1 0 68 = nI i) (hb : ¬ τ.1 0 0 = 0) : fX9_image τ = some (sI (s34 τ (imT τ i)) 0 68 (nI i + 1), nI i + 1 - 1) := by
  unfold fX9_image
  have h4 : ¬ nI i = 4 := by
    rw [eq_i, nI_toInt (by omega), z_4]
    omega
  rw [h68, if_neg h4, if_neg hb, bnd_eq, (ix57 i hi).1, (ix57 i hi).2, chk_t (inb_nI (by omega) (by decide)), bnd_eq, chk_t (inb_nI (by omega) (by decide)), bnd_eq, bnd_eq, ix_nI (show 57 * i < 2 ^ 31 by omega), ix_nI (show 57 * i + 1 < 2 ^ 31 by omega)]
  have e1 : sI (sI τ 34 (57 * i) (τ.1 0 39)) 34 (57 * i + 1) ((sI τ 34 (57 * i) (τ.1 0 39)).1 0 37) = s34 τ (wrt (wrt (τ.1 34) (57 * i) (τ.1 0 39)) (57 * i + 1) (τ.1 0 37)) := by
    have e0 : (sI τ 34 (57 * i) (τ.1 0 39)).1 0 37 = τ.1 0 37 := rfl
    rw [e0]
    conv => lhs; rw [← s34_self τ]
    rw [s34_put, s34_put]
    rfl
  rw [e1]
  refine (img_L3 τ i hi _ FU 0 _ (by omega) (by decide)).trans ?_
  rw [bnd_eq]
  refine (img_LL τ i hi _ FU 0 _ (by omega) (by decide)).trans ?_
  rw [bnd_eq]
  have e3 : (s34 τ (imL τ (57 * i) (im3 τ (57 * i) (wrt (wrt (τ.1 34) (57 * i) (τ.1 0 39)) (57 * i + 1) (τ.1 0 37)) 0) 0)).1 0 68 = nI i := h68
  rw [e3]
  rfl
