/-! PURE LAYER: what ties the class's memory to the model's -/
/-- between these bounds -/
def rg (x : Int32) (lo hi : Int) : Prop := lo ≤ x.toInt ∧ x.toInt ≤ hi
theorem ix_toInt {x : Int32} (h : 0 ≤ x.toInt) : ((ix x : Nat) : Int) = x.toInt := by
  unfold ix Int32.toNatClampNeg
  omega
theorem inb_iff {x : Int32} {n : Nat} : inb x n = true ↔ 0 ≤ x.toInt ∧ x.toInt < n := by
  have z : (0 : Int32).toInt = 0 := by decide
  simp only [inb, Bool.and_eq_true, decide_eq_true_eq]
  constructor
  · intro h
    have h1 : ¬ x.toInt < (0 : Int32).toInt := fun q => h.1 (Int32.lt_iff_toInt_lt.mpr q)
    have h2 := h.2
    unfold Int32.toNatClampNeg at h2
    omega
  · intro h
    refine ⟨fun q => ?_, ?_⟩
    · have := Int32.lt_iff_toInt_lt.mp q
      omega
    · unfold Int32.toNatClampNeg
      omega
theorem chk_t {β : Type} {b : Bool} (h : b = true) (k : Option β) : chk b k = k := by rw [h]; rfl
theorem cl_some {α β : Type} (σ : St) (x : α) (k : St → α → Option β) : cl (some (σ, x)) k = k σ x := rfl
theorem bnd_eq {α β : Type} (x : α) (k : α → β) : bnd x k = k x := rfl
theorem jp_eq {α β : Type} (k : α) (b : α → β) : jp k b = b k := rfl
theorem cl_of {α β : Type} {o : Option (St × α)} {σ : St} {x : α} (h : o = some (σ, x)) (k : St → α → Option β) : cl o k = k σ x := by rw [h]; rfl
theorem lt_i {x y : Int32} : (x < y) = (x.toInt < y.toInt) := propext Int32.lt_iff_toInt_lt
theorem le_i {x y : Int32} : (x ≤ y) = (x.toInt ≤ y.toInt) := propext Int32.le_iff_toInt_le
theorem eq_i {x y : Int32} : (x = y) = (x.toInt = y.toInt) := propext Int32.toInt_inj.symm
/-- the street as told: class's cells 2 to 9, model's object and arrays 3 to 6 -/
def iS (σ τ : St) : Prop :=
  (σ.1 2 0 = τ.1 0 0 ∧ σ.1 2 1 = τ.1 0 1 ∧ σ.1 2 2 = τ.1 0 2 ∧ σ.1 2 3 = τ.1 0 3 ∧ σ.1 2 4 = τ.1 0 4 ∧ σ.1 2 5 = τ.1 0 5 ∧ σ.1 2 6 = τ.1 0 6 ∧ σ.1 2 7 = τ.1 0 7) ∧
  (rg (τ.1 0 0) 0 4 ∧ rg (τ.1 0 1) 0 12 ∧ rg (τ.1 0 2) 1 8 ∧ rg (τ.1 0 3) 0 99 ∧ rg (τ.1 0 4) 1 20 ∧ rg (τ.1 0 5) 0 99 ∧ (0 ≤ (τ.1 0 6).toInt ∧ (τ.1 0 6).toInt < 2 ^ (τ.1 0 0).toInt.toNat)) ∧
  (∀ s : Nat, (s : Int) < (τ.1 0 1).toInt → σ.1 5 s = τ.1 3 s ∧ σ.1 6 s = τ.1 4 s ∧ σ.1 7 s = τ.1 5 s ∧ σ.1 8 s = τ.1 6 s ∧
    rg (τ.1 3 s) 0 2 ∧ rg (τ.1 4 s) 1 99 ∧ rg (τ.1 6 s) 0 999 ∧
    ((τ.1 3 s).toInt = 0 → 1 ≤ (τ.1 5 s).toInt ∧ (τ.1 5 s).toInt < 2 ^ (τ.1 0 0).toInt.toNat) ∧ ((τ.1 3 s).toInt = 1 → rg (τ.1 5 s) 1 4) ∧ ((τ.1 3 s).toInt = 2 → (τ.1 5 s).toInt = 0)) ∧
  (∀ s : Nat, s < 12 → σ.1 9 s = σ.1 7 s)
/-- a stand: asks, costs, promises, the law in force, of the class and of the model (the one now, and those of images); nb bakers, ns steps, nl laws -/
def iT (ck cp cc : Nat → Int32) (cpr cf : Int32) (mw ms ml mc : Nat → Int32) (mpr mf : Int32) (nb ns nl : Int) : Prop :=
  cpr = mpr ∧ cf = mf ∧ (0 ≤ mpr.toInt ∧ mpr.toInt < 2 ^ nb.toNat) ∧ (-1 ≤ mf.toInt ∧ mf.toInt < nl) ∧
  ∀ b : Nat, (b : Int) < nb → cc b = mc b ∧ rg (mc b) 0 99 ∧ ck b = mw b ∧ rg (mw b) 0 3 ∧
    ((mw b).toInt = 1 → 0 ≤ (ms b).toInt ∧ (ms b).toInt < ns) ∧
    ∀ k : Nat, k < 8 → cp (8 * b + k) = (if (mw b).toInt = 1 then (if (k : Int) = (ms b).toInt then 100 else 0) else if (mw b).toInt = 2 then ml (8 * b + k) else 0) ∧ ((mw b).toInt = 2 → rg (ml (8 * b + k)) 0 100)
def iP (σ τ : St) : Prop := iT (σ.1 23) (σ.1 24) (σ.1 25) (σ.1 22 3) (σ.1 22 4) (τ.1 15) (τ.1 16) (τ.1 17) (τ.1 2) (τ.1 0 37) (τ.1 0 39) (τ.1 0 0).toInt (τ.1 0 2).toInt (τ.1 0 38).toInt
/-- the class's cell of an image's stand -/
def imC (i : Nat) : Nat := 27 + 4 * i
def iM (σ τ : St) : Prop := σ.1 0 14 = τ.1 0 68 ∧ rg (τ.1 0 68) 0 4 ∧ ∀ i : Nat, (i : Int) < (τ.1 0 68).toInt →
  iT (σ.1 (imC i + 1)) (σ.1 (imC i + 2)) (σ.1 (imC i + 3)) (σ.1 (imC i) 3) (σ.1 (imC i) 4) (fun b => τ.1 34 (57 * i + 6 + b)) (fun b => τ.1 34 (57 * i + 10 + b)) (fun k => τ.1 34 (57 * i + 14 + k)) (fun b => τ.1 34 (57 * i + 2 + b)) (τ.1 34 (57 * i + 1)) (τ.1 34 (57 * i)) (τ.1 0 0).toInt (τ.1 0 2).toInt (τ.1 0 38).toInt
def iL (σ τ : St) : Prop := σ.1 19 0 = τ.1 0 38 ∧ rg (τ.1 0 38) 0 6 ∧ ∀ i : Nat, (i : Int) < (τ.1 0 38).toInt → σ.1 20 i = τ.1 19 i ∧ σ.1 21 i = τ.1 20 i ∧ rg (τ.1 19 i) 0 2 ∧ rg (τ.1 20 i) 0 7
/-- tape, fault, streets -/
def iO (σ τ : St) : Prop := σ.1 0 11 = τ.1 0 29 ∧ rg (τ.1 0 29) 0 800 ∧ σ.1 0 12 = τ.1 0 32 ∧ σ.1 0 13 = τ.1 0 8 ∧ ∀ k : Nat, (k : Int) < (τ.1 0 29).toInt → σ.1 1 k = τ.1 13 k ∧ vp_nar .byte (τ.1 13 k) = τ.1 13 k
section Simple
variable {σ τ : St}
theorem isIn_eq (τ : St) (v lo hi : Int32) : fX9_isIn τ v lo hi = some (τ, if lo.toInt ≤ v.toInt ∧ v.toInt ≤ hi.toInt then 1 else 0) := by
  unfold fX9_isIn
  simp only [lt_i]
  split
  · rw [if_neg (by omega)]
  · split
    · rw [if_neg (by omega)]
    · rw [if_pos (by omega)]
theorem isB01 (c : Prop) [Decidable c] : isB (if c then 1 else 0) = true := by
  by_cases h : c
  · rw [if_pos h]; decide
  · rw [if_neg h]; decide
theorem isBaker_eq (h : rg (τ.1 0 0) 0 4) (p : Int32) : fX9_isBaker τ p = some (τ, if 0 ≤ p.toInt ∧ p.toInt < (τ.1 0 0).toInt then 1 else 0) := by
  unfold fX9_isBaker
  have z1 : (1 : Int32).toInt = 1 := by decide
  have z0 : (0 : Int32).toInt = 0 := by decide
  have e := i32_sub (x := τ.1 0 0) (y := 1) (by rw [z1]; have := h.1; omega) (by rw [z1]; have := h.2; omega)
  rw [isIn_eq, cl_some, chk_t (isB01 _), e, z1, z0]
  congr 3
  exact propext ⟨fun q => by omega, fun q => by omega⟩
theorem isStep_eq (h : rg (τ.1 0 2) 1 8) (p : Int32) : fX9_isStep τ p = some (τ, if 0 ≤ p.toInt ∧ p.toInt < (τ.1 0 2).toInt then 1 else 0) := by
  unfold fX9_isStep
  have z1 : (1 : Int32).toInt = 1 := by decide
  have z0 : (0 : Int32).toInt = 0 := by decide
  have e := i32_sub (x := τ.1 0 2) (y := 1) (by rw [z1]; have := h.1; omega) (by rw [z1]; have := h.2; omega)
  rw [isIn_eq, cl_some, chk_t (isB01 _), e, z1, z0]
  congr 3
  exact propext ⟨fun q => by omega, fun q => by omega⟩
theorem isSort_eq (h : rg (τ.1 0 1) 0 12) (p : Int32) : fX9_isSort τ p = some (τ, if 0 ≤ p.toInt ∧ p.toInt < (τ.1 0 1).toInt then 1 else 0) := by
  unfold fX9_isSort
  have z1 : (1 : Int32).toInt = 1 := by decide
  have z0 : (0 : Int32).toInt = 0 := by decide
  have e := i32_sub (x := τ.1 0 1) (y := 1) (by rw [z1]; have := h.1; omega) (by rw [z1]; have := h.2; omega)
  rw [isIn_eq, cl_some, chk_t (isB01 _), e, z1, z0]
  congr 3
  exact propext ⟨fun q => by omega, fun q => by omega⟩
theorem hasBaker_eq (p : Int32) : fX6_hasBaker σ p = some (σ, if 0 ≤ p.toInt ∧ p.toInt < (σ.1 2 0).toInt then 1 else 0) := by
  unfold fX6_hasBaker
  have z0 : (0 : Int32).toInt = 0 := by decide
  simp only [lt_i, le_i, z0]
  split
  · rw [if_neg (by omega)]
  · split
    · rw [if_neg (by omega)]
    · rw [if_pos (by omega)]
theorem hasStep_eq (p : Int32) : fX6_hasStep σ p = some (σ, if 0 ≤ p.toInt ∧ p.toInt < (σ.1 2 2).toInt then 1 else 0) := by
  unfold fX6_hasStep
  have z0 : (0 : Int32).toInt = 0 := by decide
  simp only [lt_i, le_i, z0]
  split
  · rw [if_neg (by omega)]
  · split
    · rw [if_neg (by omega)]
    · rw [if_pos (by omega)]
theorem hasSort_eq (p : Int32) : fX6_hasSort σ p = some (σ, if 0 ≤ p.toInt ∧ p.toInt < (σ.1 2 1).toInt then 1 else 0) := by
  unfold fX6_hasSort
  have z0 : (0 : Int32).toInt = 0 := by decide
  simp only [lt_i, le_i, z0]
  split
  · rw [if_neg (by omega)]
  · split
    · rw [if_neg (by omega)]
    · rw [if_pos (by omega)]
theorem forget_eq : fX4_forget σ = some (sI σ 53 9 0, ()) := by
  unfold fX4_forget
  rw [chk_t (by decide)]
  rfl
end Simple
