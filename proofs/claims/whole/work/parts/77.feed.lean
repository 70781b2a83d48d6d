/-! feed -/
def bC (p s : Int32) : Int32 := vp_nar .byte (((((p).toUInt32 >>> ((s).toUInt32 &&& Int32.toUInt32 31)).toInt32)).toInt8.toInt32)
def bM (p s : Int32) : Int32 := vp_nar .byte (((p >>> (s &&& 31))).toInt8.toInt32)
theorem byte24 (p : Int32) : bC p 24 = bM p 24 := by
  have e : ((p.toUInt32 >>> ((24 : Int32).toUInt32 &&& Int32.toUInt32 31)).toInt32).toInt8 = (p >>> ((24 : Int32) &&& 31)).toInt8 := by
    apply Int8.toBitVec_inj.mp
    apply BitVec.eq_of_getLsbD_eq
    intro i hi
    have h1 : i < 32 := by omega
    have h2 : 24 + i < 32 := by omega
    simp [hi, h1, h2, BitVec.getElem_signExtend, BitVec.getElem_sshiftRight]
  unfold bC bM
  rw [e]
theorem byte16 (p : Int32) : bC p 16 = bM p 16 := by
  have e : ((p.toUInt32 >>> ((16 : Int32).toUInt32 &&& Int32.toUInt32 31)).toInt32).toInt8 = (p >>> ((16 : Int32) &&& 31)).toInt8 := by
    apply Int8.toBitVec_inj.mp
    apply BitVec.eq_of_getLsbD_eq
    intro i hi
    have h1 : i < 32 := by omega
    have h2 : 16 + i < 32 := by omega
    simp [hi, h1, h2, BitVec.getElem_signExtend, BitVec.getElem_sshiftRight]
  unfold bC bM
  rw [e]
theorem byte8 (p : Int32) : bC p 8 = bM p 8 := by
  have e : ((p.toUInt32 >>> ((8 : Int32).toUInt32 &&& Int32.toUInt32 31)).toInt32).toInt8 = (p >>> ((8 : Int32) &&& 31)).toInt8 := by
    apply Int8.toBitVec_inj.mp
    apply BitVec.eq_of_getLsbD_eq
    intro i hi
    have h1 : i < 32 := by omega
    have h2 : 8 + i < 32 := by omega
    simp [hi, h1, h2, BitVec.getElem_signExtend, BitVec.getElem_sshiftRight]
  unfold bC bM
  rw [e]
theorem byte0 (p : Int32) : bC p 0 = bM p 0 := by
  have e : ((p.toUInt32 >>> ((0 : Int32).toUInt32 &&& Int32.toUInt32 31)).toInt32).toInt8 = (p >>> ((0 : Int32) &&& 31)).toInt8 := by
    apply Int8.toBitVec_inj.mp
    apply BitVec.eq_of_getLsbD_eq
    intro i hi
    simp
  unfold bC bM
  rw [e]
def wrt (T : Nat → Int32) (m : Nat) (x : Int32) : Nat → Int32 := fun j => if j = m then x else T j
/-- the class with a tape T and v bytes on it; the model likewise -/
def fdC (σ : St) (T : Nat → Int32) (v : Int32) : St := (fun c => match c with
  | 1 => T
  | 0 => fun j => if j = 11 then v else σ.1 0 j
  | c => σ.1 c, σ.2)
def fdM (τ : St) (T : Nat → Int32) (v : Int32) : St := (fun c => match c with
  | 13 => T
  | 0 => fun j => if j = 29 then v else τ.1 0 j
  | c => τ.1 c, τ.2)
theorem fdC_self (σ : St) : fdC σ (σ.1 1) (σ.1 0 11) = σ := by
  refine St_ext (fun c j => ?_) (fun _ _ => rfl)
  match c with
  | 0 =>
    show (if j = 11 then σ.1 0 11 else σ.1 0 j) = _
    by_cases h : j = 11
    · rw [if_pos h, h]
    · rw [if_neg h]
  | 1 => rfl
  | c + 2 => rfl
theorem fdM_self (τ : St) : fdM τ (τ.1 13) (τ.1 0 29) = τ := by
  refine St_ext (fun c j => ?_) (fun _ _ => rfl)
  by_cases h13 : c = 13
  · subst h13; rfl
  by_cases h0 : c = 0
  · subst h0
    show (if j = 29 then τ.1 0 29 else τ.1 0 j) = _
    by_cases h : j = 29
    · rw [if_pos h, h]
    · rw [if_neg h]
  · have : (fdM τ (τ.1 13) (τ.1 0 29)).1 c = τ.1 c := by
      unfold fdM
      dsimp only
      split
      · exact absurd rfl h13
      · exact absurd rfl h0
      · rfl
    rw [this]
theorem fdC_put (σ : St) (T : Nat → Int32) (v x v' : Int32) (m : Nat) : sI (sI (fdC σ T v) 1 m x) 0 11 v' = fdC σ (wrt T m x) v' := by
  refine St_ext (fun c j => ?_) (fun _ _ => rfl)
  match c with
  | 0 =>
    rw [sI_at]
    show _ = if j = 11 then v' else σ.1 0 j
    by_cases h : j = 11
    · rw [if_pos h, if_pos h]
    · rw [if_neg h, if_neg h]
      show (if j = 11 then v else σ.1 0 j) = _
      rw [if_neg h]
  | 1 => rfl
  | c + 2 =>
    rw [sI_ne (by omega), sI_ne (by omega)]
    rfl
theorem fdM_ne (τ : St) (T : Nat → Int32) (v : Int32) {c : Nat} (h13 : c ≠ 13) (h0 : c ≠ 0) : (fdM τ T v).1 c = τ.1 c := by
  unfold fdM
  dsimp only
  split
  · exact absurd rfl h13
  · exact absurd rfl h0
  · rfl
theorem fdM_put (τ : St) (T : Nat → Int32) (v x v' : Int32) (m : Nat) : sI (sI (fdM τ T v) 13 m x) 0 29 v' = fdM τ (wrt T m x) v' := by
  refine St_ext (fun c j => ?_) (fun _ _ => rfl)
  by_cases h13 : c = 13
  · subst h13; rfl
  by_cases h0 : c = 0
  · subst h0
    rw [sI_at]
    show _ = if j = 29 then v' else τ.1 0 j
    by_cases h : j = 29
    · rw [if_pos h, if_pos h]
    · rw [if_neg h, if_neg h]
      show (if j = 29 then v else τ.1 0 j) = _
      rw [if_neg h]
  · rw [sI_ne h0, sI_ne h13, fdM_ne _ _ _ h13 h0, fdM_ne _ _ _ h13 h0]
