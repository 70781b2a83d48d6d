/-! back -/
def bk (τ : St) (f2 f15 f16 f17 : Nat → Int32) (fo pr : Int32) : St := (fun c => if c = 2 then f2 else if c = 15 then f15 else if c = 16 then f16 else if c = 17 then f17 else if c = 0 then (fun j => if j = 37 then pr else if j = 39 then fo else τ.1 0 j) else τ.1 c, τ.2)
def fl (T : Nat → Int32) (f : Nat → Int32) (B m n : Nat) : Nat → Int32 := fun j => if m ≤ j ∧ j < n then T (B + j) else f j
theorem fl_step (T f : Nat → Int32) (B m n : Nat) (h : m < n) : fl T (wrt f m (T (B + m))) B (m + 1) n = fl T f B m n := by
  funext j
  unfold fl wrt
  by_cases a1 : m ≤ j ∧ j < n
  · rw [if_pos a1]
    by_cases a2 : j = m
    · rw [if_neg (by omega), if_pos a2, a2]
    · rw [if_pos (by omega)]
  · rw [if_neg a1, if_neg (by omega), if_neg (by omega)]
theorem fl_end (T f : Nat → Int32) (B n : Nat) : fl T f B n n = f := by
  funext j
  unfold fl
  rw [if_neg (by omega)]
theorem bk_2 (τ : St) (f2 f15 f16 f17 : Nat → Int32) (fo pr : Int32) (k : Nat) (x : Int32) : sI (bk τ f2 f15 f16 f17 fo pr) 2 k x = bk τ (wrt f2 k x) f15 f16 f17 fo pr := by
  refine St_ext (fun c j => ?_) (fun _ _ => rfl)
  by_cases h : c = 2
  · subst h; rfl
  · rw [sI_ne h]; unfold bk; dsimp only; rw [if_neg h, if_neg h]
theorem bk_15 (τ : St) (f2 f15 f16 f17 : Nat → Int32) (fo pr : Int32) (k : Nat) (x : Int32) : sI (bk τ f2 f15 f16 f17 fo pr) 15 k x = bk τ f2 (wrt f15 k x) f16 f17 fo pr := by
  refine St_ext (fun c j => ?_) (fun _ _ => rfl)
  by_cases h : c = 15
  · subst h; rfl
  · rw [sI_ne h]; unfold bk; dsimp only; rw [if_neg h, if_neg h]
theorem bk_16 (τ : St) (f2 f15 f16 f17 : Nat → Int32) (fo pr : Int32) (k : Nat) (x : Int32) : sI (bk τ f2 f15 f16 f17 fo pr) 16 k x = bk τ f2 f15 (wrt f16 k x) f17 fo pr := by
  refine St_ext (fun c j => ?_) (fun _ _ => rfl)
  by_cases h : c = 16
  · subst h; rfl
  · rw [sI_ne h]; unfold bk; dsimp only; rw [if_neg h, if_neg h]
theorem bk_17 (τ : St) (f2 f15 f16 f17 : Nat → Int32) (fo pr : Int32) (k : Nat) (x : Int32) : sI (bk τ f2 f15 f16 f17 fo pr) 17 k x = bk τ f2 f15 f16 (wrt f17 k x) fo pr := by
  refine St_ext (fun c j => ?_) (fun _ _ => rfl)
  by_cases h : c = 17
  · subst h; rfl
  · rw [sI_ne h]; unfold bk; dsimp only; rw [if_neg h, if_neg h]
theorem bk_L3 (τ : St) (i : Nat) (hi : i < 4) (f17 : Nat → Int32) (fo pr : Int32) (kx : St → Int32 → Option (St × Int32)) : ∀ (n m : Nat) (f2 f15 f16 : Nat → Int32), m ≤ 4 → 4 < m + n → fX9_back_L45 (nI (57 * i)) kx n (bk τ f2 f15 f16 f17 fo pr) (nI m) = kx (bk τ (fl (τ.1 34) f2 (57 * i + 2) m 4) (fl (τ.1 34) f15 (57 * i + 6) m 4) (fl (τ.1 34) f16 (57 * i + 10) m 4) f17 fo pr) (nI 4) := by
  intro n
  induction n with
  | zero => intro m f2 f15 f16 h1 h2; exact absurd h2 (by omega)
  | succ n ih =>
    intro m f2 f15 f16 h1 h2
    rw [fX9_back_L45]
    by_cases h : m = 4
    · subst h
      rw [if_pos (by decide), fl_end, fl_end, fl_end]
    · have hc : ¬ (4 : Int32) ≤ nI m := by
        rw [le_i, z_4, nI_toInt (by omega)]
        omega
      have hin : inb (nI m) 4 = true := inb_nI (by omega) (by decide)
      rw [if_neg hc, nI_2, nI_6, nI_10, ixB i hi 2 (by omega) m (by omega), ixB i hi 6 (by omega) m (by omega), ixB i hi 10 (by omega) m (by omega), chk_t (inb_nI (by omega) (by decide)), chk_t hin, bnd_eq, chk_t (inb_nI (by omega) (by decide)), chk_t hin, bnd_eq, chk_t (inb_nI (by omega) (by decide)), chk_t hin, bnd_eq, bnd_eq, ix_nI (show m < 2 ^ 31 by omega), ix_nI (show 57 * i + 2 + m < 2 ^ 31 by omega), ix_nI (show 57 * i + 6 + m < 2 ^ 31 by omega), ix_nI (show 57 * i + 10 + m < 2 ^ 31 by omega), ← nI_succ]
      show fX9_back_L45 (nI (57 * i)) kx n (sI (sI (sI (bk τ f2 f15 f16 f17 fo pr) 2 m (τ.1 34 (57 * i + 2 + m))) 15 m (τ.1 34 (57 * i + 6 + m))) 16 m (τ.1 34 (57 * i + 10 + m))) (nI (m + 1)) = _
      rw [bk_2, bk_15, bk_16, ih (m + 1) _ _ _ (by omega) (by omega), fl_step _ _ _ _ _ (by omega), fl_step _ _ _ _ _ (by omega), fl_step _ _ _ _ _ (by omega)]
theorem bk_LL (τ : St) (i : Nat) (hi : i < 4) (f2 f15 f16 : Nat → Int32) (fo pr : Int32) (kx : St → Int32 → Option (St × Int32)) : ∀ (n m : Nat) (f17 : Nat → Int32), m ≤ 32 → 32 < m + n → fX9_back_L108 (nI (57 * i)) kx n (bk τ f2 f15 f16 f17 fo pr) (nI m) = kx (bk τ f2 f15 f16 (fl (τ.1 34) f17 (57 * i + 14) m 32) fo pr) (nI 32) := by
  intro n
  induction n with
  | zero => intro m f17 h1 h2; exact absurd h2 (by omega)
  | succ n ih =>
    intro m f17 h1 h2
    rw [fX9_back_L108]
    by_cases h : m = 32
    · subst h
      rw [if_pos (by decide), fl_end]
    · have hc : ¬ (32 : Int32) ≤ nI m := by
        rw [le_i, nI_toInt (by omega)]
        have : (32 : Int32).toInt = 32 := by decide
        omega
      rw [if_neg hc, nI_14, ixB i hi 14 (by omega) m (by omega), chk_t (inb_nI (by omega) (by decide)), chk_t (inb_nI (by omega) (by decide)), bnd_eq, bnd_eq, ix_nI (show m < 2 ^ 31 by omega), ix_nI (show 57 * i + 14 + m < 2 ^ 31 by omega), ← nI_succ]
      show fX9_back_L108 (nI (57 * i)) kx n (sI (bk τ f2 f15 f16 f17 fo pr) 17 m (τ.1 34 (57 * i + 14 + m))) (nI (m + 1)) = _
      rw [bk_17, ih (m + 1) _ (by omega) (by omega), fl_step _ _ _ _ _ (by omega)]
theorem bk_start (τ : St) (fo pr : Int32) : sI (sI τ 0 39 fo) 0 37 pr = bk τ (τ.1 2) (τ.1 15) (τ.1 16) (τ.1 17) fo pr := by
  refine St_ext (fun c j => ?_) (fun _ _ => rfl)
  by_cases h0 : c = 0
  · subst h0
    rw [sI_at]
    show _ = if j = 37 then pr else if j = 39 then fo else τ.1 0 j
    by_cases h : j = 37
    · rw [if_pos h, if_pos h]
    · rw [if_neg h, if_neg h, sI_at]
  · rw [sI_ne h0, sI_ne h0]
    unfold bk
    dsimp only
    by_cases h2 : c = 2
    · rw [if_pos h2, h2]
    by_cases h15 : c = 15
    · rw [if_neg h2, if_pos h15, h15]
    by_cases h16 : c = 16
    · rw [if_neg h2, if_neg h15, if_pos h16, h16]
    by_cases h17 : c = 17
    · rw [if_neg h2, if_neg h15, if_neg h16, if_pos h17, h17]
    · rw [if_neg h2, if_neg h15, if_neg h16, if_neg h17, if_neg h0]
def bkM (τ : St) (i : Nat) : St := bk τ (fl (τ.1 34) (τ.1 2) (57 * i + 2) 0 4) (fl (τ.1 34) (τ.1 15) (57 * i + 6) 0 4) (fl (τ.1 34) (τ.1 16) (57 * i + 10) 0 4) (fl (τ.1 34) (τ.1 17) (57 * i + 14) 0 32) (τ.1 34 (57 * i)) (τ.1 34 (57 * i + 1))
theorem backM (τ : St) (i : Nat) (hi : i < 4) (h68 : rg (τ.1 0 68) 0 4) (hil : (i : Int) < (τ.1 0 68).toInt) : fX9_back τ (nI i) = some (bkM τ i, 1) := by
  unfold fX9_back
  have e1 : (τ.1 0 68 - 1).toInt = (τ.1 0 68).toInt - 1 := by
    rw [i32_sub (by rw [z_1]; have := h68.1; omega) (by rw [z_1]; have := h68.2; omega), z_1]
  have a : (0 : Int32).toInt ≤ (nI i).toInt ∧ (nI i).toInt ≤ (τ.1 0 68 - 1).toInt := by
    rw [z_0, e1, nI_toInt (by omega)]
    omega
  rw [isIn_eq, cl_some, if_pos a, if_neg one0, bnd_eq, (ix57 i hi).1, (ix57 i hi).2, chk_t (inb_nI (by omega) (by decide)), bnd_eq, chk_t (inb_nI (by omega) (by decide)), bnd_eq, bnd_eq, ix_nI (show 57 * i < 2 ^ 31 by omega), ix_nI (show 57 * i + 1 < 2 ^ 31 by omega)]
  have e3 : (sI τ 0 39 (τ.1 34 (57 * i))).1 34 (57 * i + 1) = τ.1 34 (57 * i + 1) := rfl
  rw [e3, bk_start]
  refine (bk_L3 τ i hi _ _ _ _ FU 0 _ _ _ (by omega) (by decide)).trans ?_
  rw [bnd_eq]
  exact bk_LL τ i hi _ _ _ _ _ _ FU 0 _ (by omega) (by decide)
def bkS (σ : St) (c : Nat) : St := sI (sI (sI (cpI (cpI (cpI σ (c + 1) 23 0 0 4) (c + 2) 24 0 0 32) (c + 3) 25 0 0 4) 22 3 (σ.1 c 3)) 22 4 (σ.1 c 4)) 53 9 0
theorem backC (σ : St) (i : Nat) (hi : i < 4) (hil : (i : Int) < (σ.1 0 14).toInt) : fX8_back σ (nI i) = some (bkS σ (imC i), 1) := by
  unfold fX8_back
  have a1 : ¬ nI i < 0 := nI_pos (by omega)
  have a2 : ¬ σ.1 0 14 ≤ nI i := by
    rw [le_i, nI_toInt (by omega)]
    omega
  have a3 : nI i < 4 := by
    rw [lt_i, nI_toInt (by omega), z_4]
    omega
  rw [if_neg a1, if_neg a2, if_pos a3, chk_t (inb_nI hi (by decide))]
  match i, hi with
  | 0, _ => rw [if_pos (by decide)]; rfl
  | 1, _ => rw [if_neg (by decide), if_pos (by decide)]; rfl
  | 2, _ => rw [if_neg (by decide), if_neg (by decide), if_pos (by decide)]; rfl
  | 3, _ => rw [if_neg (by decide), if_neg (by decide), if_neg (by decide)]; rfl
