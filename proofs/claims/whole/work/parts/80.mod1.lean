/-! the model's small methods -/
theorem bit_eq : ∀ s : Nat, s < 16 → ∀ b : Nat, b < 4 → (((nI s >>> (nI b &&& 31)) &&& (1 : Int32)) = 1 ↔ s.testBit b = true) := by decide +kernel
theorem hasM (τ : St) {s b : Nat} (hs : s < 16) (hb : b < 4) : fX9_has τ (nI s) (nI b) = some (τ, if s.testBit b then 1 else 0) := by
  unfold fX9_has
  by_cases h : s.testBit b = true
  · rw [if_pos ((bit_eq s hs b hb).mpr h), if_pos h]
  · rw [if_neg (fun w => h ((bit_eq s hs b hb).mp w)), if_neg h]
theorem bits_and : ∀ s : Nat, s < 32 → nI s &&& (1 : Int32) = nI (s % 2) ∧ nI s >>> ((1 : Int32) &&& 31) = nI (s / 2) := by decide +kernel
def popB : Nat → Nat → Nat
  | 0, _ => 0
  | m + 1, s => s % 2 + popB m (s / 2)
theorem popB_0 : ∀ m : Nat, popB m 0 = 0 := by
  intro m
  induction m with
  | zero => rfl
  | succ m ih => unfold popB; simp [ih]
theorem nI_plus {a b : Nat} (h : a + b < 2 ^ 31) : nI a + nI b = nI (a + b) := by
  apply Int32.toInt_inj.mp
  rw [i32_add (by rw [nI_toInt (by omega), nI_toInt (by omega)]; omega) (by rw [nI_toInt (by omega), nI_toInt (by omega)]; omega), nI_toInt (by omega), nI_toInt (by omega), nI_toInt h]
  omega
theorem bits_L (τ : St) (kx : St → Int32 → Int32 → Option (St × Int32)) : ∀ (m n s c : Nat), m ≤ 5 → s < 2 ^ m → m < n → c + m < 1000 → fX9_bits_L4 kx n τ (nI c) (nI s) = kx τ (nI (c + popB m s)) (nI 0) := by
  intro m
  induction m with
  | zero =>
    intro n s c h1 h2 h3 h4
    match n, h3 with
    | n + 1, _ =>
      have : s = 0 := by simpa using h2
      subst this
      rw [fX9_bits_L4, if_pos (by decide)]
      rfl
  | succ m ih =>
    intro n s c h1 h2 h3 h4
    match n, h3 with
    | n + 1, h3 =>
      rw [fX9_bits_L4]
      by_cases h0 : s = 0
      · subst h0
        rw [if_pos (by decide), popB_0]
        rfl
      · have hp : (2 : Nat) ^ (m + 1) ≤ 2 ^ 5 := Nat.pow_le_pow_right (by decide) h1
        have hs : s < 32 := by omega
        have hc : ¬ nI s ≤ 0 := by
          rw [le_i, nI_toInt (by omega), z_0]
          omega
        have h2' : s < 2 ^ m * 2 := by rw [← Nat.pow_succ]; exact h2
        rw [if_neg hc, (bits_and s hs).1, (bits_and s hs).2, bnd_eq, bnd_eq, nI_plus (by omega), ih n (s / 2) (c + s % 2) (by omega) (by omega) (by omega) (by omega)]
        have e : c + s % 2 + popB m (s / 2) = c + popB (m + 1) s := by
          show _ = c + (s % 2 + popB m (s / 2))
          omega
        rw [e]
theorem pop_eq : ∀ n : Nat, n < 5 → ∀ s : Nat, s < 2 ^ n → popB 4 s = popN n s := by decide +kernel
theorem pop4 : ∀ s : Nat, s < 16 → popB 4 s = popN 4 s := by decide +kernel
theorem bitsM (τ : St) {s : Nat} (hs : s < 16) : fX9_bits τ (nI s) = some (τ, nI (popN 4 s)) := by
  unfold fX9_bits
  rw [bnd_eq, bnd_eq]
  refine (bits_L τ _ 4 FU s 0 (by omega) (by omega) (by decide) (by omega)).trans ?_
  rw [Nat.zero_add, pop4 s hs]
theorem rgn {x : Int32} {lo hi : Int} (h : rg x lo hi) (h0 : 0 ≤ lo) : x = nI x.toInt.toNat ∧ ((x.toInt.toNat : Nat) : Int) = x.toInt := ⟨nI_mk (by have := h.1; omega), by have := h.1; omega⟩
theorem ev_sh : ∀ n : Nat, n < 5 → ((1 : Int32) <<< (nI n &&& 31)) - 1 = nI (2 ^ n - 1) := by decide +kernel
theorem everyoneM {τ : St} (h : rg (τ.1 0 0) 0 4) : fX9_everyone τ = some (τ, nI (fullN τ)) := by
  unfold fX9_everyone
  have e := (rgn h (by decide)).1
  have h2 := h.2
  conv => lhs; rw [e]
  rw [ev_sh _ (by omega)]
  rfl
theorem priceM {τ : St} (hf : rg (τ.1 0 3) 0 99) (hb : rg (τ.1 0 4) 1 20) {k : Nat} (hk : k ≤ 8) : fX9_price τ (nI k) = some (τ, (τ.1 0 3) + (nI k * (τ.1 0 4))) ∧ ((τ.1 0 3) + (nI k * (τ.1 0 4))).toInt = prc τ k := by
  refine ⟨rfl, ?_⟩
  have e0 : (nI k).toInt = (k : Int) := nI_toInt (by omega)
  have h1 := hf.1
  have h2 := hf.2
  have h3 := hb.1
  have h4 := hb.2
  have hm : 0 ≤ (k : Int) * (τ.1 0 4).toInt ∧ (k : Int) * (τ.1 0 4).toInt ≤ 160 := by
    refine ⟨Int.mul_nonneg (by omega) (by omega), ?_⟩
    have := Int.mul_le_mul (show (k : Int) ≤ 8 by omega) h4 (by omega) (by omega)
    omega
  have e1 : (nI k * τ.1 0 4).toInt = (k : Int) * (τ.1 0 4).toInt := by
    rw [i32_mul (by rw [e0]; omega) (by rw [e0]; omega), e0]
  rw [i32_add (by rw [e1]; omega) (by rw [e1]; omega), e1]
  rfl
/-- the law in force: as Inv has it -/
def lawOK (τ : St) : Prop := -1 ≤ frc τ ∧ frc τ < 6
theorem barredM {τ : St} (h : lawOK τ) {k : Nat} (hk : k ≤ 8) [Decidable (barF τ (frc τ) k)] : fX9_isBarred τ (nI k) = some (τ, if barF τ (frc τ) k then 1 else 0) := by
  unfold fX9_isBarred
  simp only [jp_eq]
  have h1 := h.1
  have h2 := h.2
  by_cases hm : τ.1 0 39 = -1
  · have hf : frc τ = -1 := by unfold frc; rw [hm]; decide
    have hb : ¬ barF τ (frc τ) k := fun w => by have := w.1; omega
    rw [if_pos hm, if_neg hb]
  · have hne : frc τ ≠ -1 := fun w => hm (Int32.toInt_inj.mp (w.trans z_m1.symm))
    have h0 : 0 ≤ (τ.1 0 39).toInt := by
      have : frc τ = (τ.1 0 39).toInt := rfl
      omega
    have hin : inb (τ.1 0 39) 6 = true := inb_iff.mpr ⟨h0, h2⟩
    have hix : ix (τ.1 0 39) = (frc τ).toNat := by
      have := ix_toInt h0
      have : frc τ = (τ.1 0 39).toInt := rfl
      omega
    have ek : (nI k).toInt = (k : Int) := nI_toInt (by omega)
    rw [if_neg hm, chk_t hin, hix]
    simp only [lt_i, le_i, eq_i, z_0, z_1, ek, chk_t hin]
    by_cases a0 : (τ.1 19 (frc τ).toNat).toInt = 0
    · rw [if_pos a0]
      by_cases a1 : (τ.1 20 (frc τ).toNat).toInt < k
      · have hb : barF τ (frc τ) k := ⟨by omega, Or.inl ⟨a0, a1⟩⟩
        rw [if_pos a1, if_pos hb]
      · have hb : ¬ barF τ (frc τ) k := fun w => by rcases w.2 with q | q <;> omega
        have a2 : ¬ (τ.1 19 (frc τ).toNat).toInt = 1 := by omega
        rw [if_neg a1, if_neg a2, if_neg hb]
    · rw [if_neg a0]
      by_cases b0 : (τ.1 19 (frc τ).toNat).toInt = 1
      · rw [if_pos b0]
        by_cases b1 : (τ.1 20 (frc τ).toNat).toInt ≤ k
        · have hb : ¬ barF τ (frc τ) k := fun w => by rcases w.2 with q | q <;> omega
          rw [if_pos b1, if_neg hb]
        · have hb : barF τ (frc τ) k := ⟨by omega, Or.inr ⟨b0, by omega⟩⟩
          rw [if_neg b1, if_pos hb]
      · have hb : ¬ barF τ (frc τ) k := fun w => by rcases w.2 with q | q <;> omega
        rw [if_neg b0, if_neg hb]
theorem shoutedM {τ : St} (h : lawOK τ) [Decidable (shtF τ (frc τ))] : fX9_isShouted τ = some (τ, if shtF τ (frc τ) then 1 else 0) := by
  unfold fX9_isShouted
  have h1 := h.1
  have h2 := h.2
  by_cases hm : τ.1 0 39 = -1
  · have hf : frc τ = -1 := by unfold frc; rw [hm]; decide
    have hb : ¬ shtF τ (frc τ) := fun w => by have := w.1; omega
    rw [if_pos hm, if_neg hb]
  · have hne : frc τ ≠ -1 := fun w => hm (Int32.toInt_inj.mp (w.trans z_m1.symm))
    have h0 : 0 ≤ (τ.1 0 39).toInt := by
      have : frc τ = (τ.1 0 39).toInt := rfl
      omega
    have hin : inb (τ.1 0 39) 6 = true := inb_iff.mpr ⟨h0, h2⟩
    have hix : ix (τ.1 0 39) = (frc τ).toNat := by
      have := ix_toInt h0
      have : frc τ = (τ.1 0 39).toInt := rfl
      omega
    rw [if_neg hm, chk_t hin, hix]
    by_cases a : τ.1 19 (frc τ).toNat = 2
    · have hb : shtF τ (frc τ) := ⟨by omega, eq2.mp a⟩
      rw [if_pos a, if_pos hb]
    · have hb : ¬ shtF τ (frc τ) := fun w => a (eq2.mpr w.2)
      rw [if_neg a, if_neg hb]
