/-! fault, ask, cost, promise, force -/
theorem nI_mk {p : Int32} (h : 0 ≤ p.toInt) : p = nI p.toInt.toNat := by
  apply Int32.toInt_inj.mp
  have h1 := Int32.toInt_lt p
  rw [nI_toInt (by omega)]
  omega
theorem z_m1 : (-1 : Int32).toInt = -1 := by decide
theorem z_0 : (0 : Int32).toInt = 0 := by decide
theorem z_1 : (1 : Int32).toInt = 1 := by decide
theorem z_2 : (2 : Int32).toInt = 2 := by decide
theorem z_6 : (6 : Int32).toInt = 6 := by decide
theorem z_7 : (7 : Int32).toInt = 7 := by decide
theorem z_8 : (8 : Int32).toInt = 8 := by decide
theorem z_99 : (99 : Int32).toInt = 99 := by decide
theorem z_100 : (100 : Int32).toInt = 100 := by decide
theorem one0 : ¬ (1 : Int32) = 0 := by decide
theorem sI_ne {σ : St} {q k c : Nat} {x : Int32} (h : c ≠ q) : (sI σ q k x).1 c = σ.1 c := by
  show (if c = q then _ else _) = _
  rw [if_neg h]
theorem iM_congr {σ σ' τ τ' : St} (hσ : ∀ c : Nat, 27 ≤ c → c ≤ 42 → σ'.1 c = σ.1 c) (h14 : σ'.1 0 14 = σ.1 0 14) (h34 : τ'.1 34 = τ.1 34) (h0 : τ'.1 0 0 = τ.1 0 0) (h2 : τ'.1 0 2 = τ.1 0 2) (h38 : τ'.1 0 38 = τ.1 0 38) (h68 : τ'.1 0 68 = τ.1 0 68) (h : iM σ τ) : iM σ' τ' := by
  unfold iM at h ⊢
  rw [h14, h34, h0, h2, h38, h68]
  refine ⟨h.1, h.2.1, fun i hi => ?_⟩
  have h4 := h.2.1.2
  have b1 : imC i + 3 ≤ 42 := by unfold imC; omega
  have b0 : 27 ≤ imC i := by unfold imC; omega
  rw [hσ (imC i) b0 (by omega), hσ (imC i + 1) (by omega) (by omega), hσ (imC i + 2) (by omega) (by omega), hσ (imC i + 3) (by omega) b1]
  exact h.2.2 i hi
theorem p_fault : op_fault Inv := fun σ τ hI => ⟨σ, τ, σ.1 0 12, rfl, by rw [hI.2.2.2.2.1.2.2.1]; rfl, hI⟩
theorem p_ask : op_ask Inv := by
  intro σ τ p hI
  have hb := hI.1.2.1.1
  have e0 : σ.1 2 0 = τ.1 0 0 := hI.1.1.1
  by_cases h : 0 ≤ p.toInt ∧ p.toInt < (τ.1 0 0).toInt
  · have hk := hI.2.1.2.2.2.2 (ix p) (by rw [ix_toInt h.1]; exact h.2)
    have hin : inb p 4 = true := inb_iff.mpr ⟨h.1, by have := hb.2; omega⟩
    refine ⟨σ, τ, σ.1 23 (ix p), ?_, ?_, hI⟩
    · unfold fX8_ask
      rw [hasBaker_eq, cl_some, e0, if_pos h, if_neg one0, chk_t hin]
    · unfold fX9_ask
      rw [isBaker_eq hb, cl_some, if_pos h, if_neg one0, chk_t hin, hk.2.2.1]
  · refine ⟨σ, τ, -1, ?_, ?_, hI⟩
    · unfold fX8_ask
      rw [hasBaker_eq, cl_some, e0, if_neg h, if_pos rfl]
    · unfold fX9_ask
      rw [isBaker_eq hb, cl_some, if_neg h, if_pos rfl]
/-- a stand's relation, with one baker's cost told anew -/
theorem iT_cost {ck cp cc : Nat → Int32} {cpr cf : Int32} {mw ms ml mc : Nat → Int32} {mpr mf : Int32} {nb ns nl : Int} (h : iT ck cp cc cpr cf mw ms ml mc mpr mf nb ns nl) (b : Nat) {v : Int32} (hv : rg v 0 99) : iT ck cp (fun j => if j = b then v else cc j) cpr cf mw ms ml (fun j => if j = b then v else mc j) mpr mf nb ns nl := by
  refine ⟨h.1, h.2.1, h.2.2.1, h.2.2.2.1, fun i hi => ?_⟩
  obtain ⟨q1, q2, q3⟩ := h.2.2.2.2 i hi
  by_cases e : i = b
  · subst e
    exact ⟨by dsimp only; rw [if_pos rfl, if_pos rfl], by dsimp only; rw [if_pos rfl]; exact hv, q3⟩
  · exact ⟨by dsimp only; rw [if_neg e, if_neg e]; exact q1, by dsimp only; rw [if_neg e]; exact q2, q3⟩
theorem p_cost : op_cost Inv := by
  intro σ τ p c hI
  have hb := hI.1.2.1.1
  have e0 : σ.1 2 0 = τ.1 0 0 := hI.1.1.1
  by_cases h : 0 ≤ p.toInt ∧ p.toInt < (τ.1 0 0).toInt
  · have hin : inb p 4 = true := inb_iff.mpr ⟨h.1, by have := hb.2; omega⟩
    by_cases hc : 0 ≤ c.toInt ∧ c.toInt ≤ 99
    · refine ⟨sI (sI σ 25 (ix p) c) 53 9 0, sI τ 2 (ix p) c, 1, ?_, ?_, ?_⟩
      · unfold fX8_cost
        simp only [lt_i, le_i, z_0, z_99]
        rw [hasBaker_eq, cl_some, e0, if_pos h, if_neg one0, if_neg (by omega), if_pos hc.2, chk_t hin, bnd_eq, forget_eq, cl_some]
      · unfold fX9_cost
        rw [isBaker_eq hb, cl_some, if_pos h, if_neg one0, isIn_eq, cl_some, z_0, z_99, if_pos hc, if_neg one0, chk_t hin, bnd_eq]
      · exact ⟨hI.1, iT_cost hI.2.1 (ix p) hc, iM_congr (σ := σ) (τ := τ) (fun c h1 h2 => by rw [sI_ne (by omega), sI_ne (by omega)]) rfl rfl rfl rfl rfl rfl hI.2.2.1, hI.2.2.2.1, hI.2.2.2.2.1, iR_forget (σ := sI σ 25 (ix p) c) (τ := τ) hI.2.2.2.2.2⟩
    · refine ⟨σ, τ, 0, ?_, ?_, hI⟩
      · unfold fX8_cost
        simp only [lt_i, le_i, z_0, z_99]
        rw [hasBaker_eq, cl_some, e0, if_pos h, if_neg one0]
        by_cases h1 : c.toInt < 0
        · rw [if_pos h1]
        · rw [if_neg h1, if_neg (by omega)]
      · unfold fX9_cost
        rw [isBaker_eq hb, cl_some, if_pos h, if_neg one0, isIn_eq, cl_some, z_0, z_99, if_neg hc, if_pos rfl]
  · refine ⟨σ, τ, 0, ?_, ?_, hI⟩
    · unfold fX8_cost
      rw [hasBaker_eq, cl_some, e0, if_neg h, if_pos rfl]
    · unfold fX9_cost
      rw [isBaker_eq hb, cl_some, if_neg h, if_pos rfl]
theorem bits_or : ∀ n : Nat, n < 5 → ∀ k : Nat, k < 2 ^ n → ∀ j : Nat, j < n → 0 ≤ (nI k ||| ((1 : Int32) <<< (nI j &&& 31))).toInt ∧ (nI k ||| ((1 : Int32) <<< (nI j &&& 31))).toInt < 2 ^ n := by decide +kernel
theorem bits_no : ∀ n : Nat, n < 5 → ∀ k : Nat, k < 2 ^ n → ∀ j : Nat, j < n → 0 ≤ (nI k &&& (((1 : Int32) <<< (nI j &&& 31)) ^^^ (-1 : Int32))).toInt ∧ (nI k &&& (((1 : Int32) <<< (nI j &&& 31)) ^^^ (-1 : Int32))).toInt < 2 ^ n := by decide +kernel
theorem pow_i (n : Nat) : ((2 ^ n : Nat) : Int) = (2 : Int) ^ n := by simp
theorem p_promise : op_promise Inv := by
  intro σ τ p q hq hI
  have hb := hI.1.2.1.1
  have e0 : σ.1 2 0 = τ.1 0 0 := hI.1.1.1
  have ep : σ.1 22 3 = τ.1 0 37 := hI.2.1.1
  have hr := hI.2.1.2.2.1
  by_cases h : 0 ≤ p.toInt ∧ p.toInt < (τ.1 0 0).toInt
  · have hp := nI_mk h.1
    have hm := nI_mk hr.1
    have hn : (τ.1 0 0).toInt.toNat < 5 := by have := hb.2; omega
    have hk : (τ.1 0 37).toInt.toNat < 2 ^ (τ.1 0 0).toInt.toNat := by
      have h2 := hr.2
      rw [← pow_i] at h2
      omega
    have hj : p.toInt.toNat < (τ.1 0 0).toInt.toNat := by omega
    rcases hq with rfl | rfl
    · have hB := bits_no _ hn _ hk _ hj
      rw [← hp, ← hm] at hB
      refine ⟨sI (sI σ 22 3 (σ.1 22 3 &&& (((1 : Int32) <<< (p &&& 31)) ^^^ (-1 : Int32)))) 53 9 0, sI τ 0 37 (τ.1 0 37 &&& (((1 : Int32) <<< (p &&& 31)) ^^^ (-1 : Int32))), 1, ?_, ?_, ?_⟩
      · unfold fX8_promise
        simp only [jp_eq, bnd_eq]
        rw [hasBaker_eq, cl_some, e0, if_pos h, if_neg one0, if_pos trivial, forget_eq, cl_some]
      · unfold fX9_promise
        simp only [jp_eq, bnd_eq]
        rw [isBaker_eq hb, cl_some, if_pos h, if_neg one0, if_pos trivial]
      · refine ⟨hI.1, ⟨?_, hI.2.1.2.1, hB, hI.2.1.2.2.2⟩, iM_congr (σ := σ) (τ := τ) (fun c h1 h2 => by rw [sI_ne (by omega), sI_ne (by omega)]) rfl rfl rfl rfl rfl rfl hI.2.2.1, hI.2.2.2.1, hI.2.2.2.2.1, iR_forget (σ := sI σ 22 3 _) (τ := τ) hI.2.2.2.2.2⟩
        show σ.1 22 3 &&& (((1 : Int32) <<< (p &&& 31)) ^^^ (-1 : Int32)) = τ.1 0 37 &&& (((1 : Int32) <<< (p &&& 31)) ^^^ (-1 : Int32))
        rw [ep]
    · have hB := bits_or _ hn _ hk _ hj
      rw [← hp, ← hm] at hB
      refine ⟨sI (sI σ 22 3 (σ.1 22 3 ||| ((1 : Int32) <<< (p &&& 31)))) 53 9 0, sI τ 0 37 (τ.1 0 37 ||| ((1 : Int32) <<< (p &&& 31))), 1, ?_, ?_, ?_⟩
      · unfold fX8_promise
        simp only [jp_eq, bnd_eq]
        rw [hasBaker_eq, cl_some, e0, if_pos h, if_neg one0, if_neg one0, forget_eq, cl_some]
      · unfold fX9_promise
        simp only [jp_eq, bnd_eq]
        rw [isBaker_eq hb, cl_some, if_pos h, if_neg one0, if_neg one0]
      · refine ⟨hI.1, ⟨?_, hI.2.1.2.1, hB, hI.2.1.2.2.2⟩, iM_congr (σ := σ) (τ := τ) (fun c h1 h2 => by rw [sI_ne (by omega), sI_ne (by omega)]) rfl rfl rfl rfl rfl rfl hI.2.2.1, hI.2.2.2.1, hI.2.2.2.2.1, iR_forget (σ := sI σ 22 3 _) (τ := τ) hI.2.2.2.2.2⟩
        show σ.1 22 3 ||| ((1 : Int32) <<< (p &&& 31)) = τ.1 0 37 ||| ((1 : Int32) <<< (p &&& 31))
        rw [ep]
  · refine ⟨σ, τ, 0, ?_, ?_, hI⟩
    · unfold fX8_promise
      rw [hasBaker_eq, cl_some, e0, if_neg h, if_pos rfl]
    · unfold fX9_promise
      rw [isBaker_eq hb, cl_some, if_neg h, if_pos rfl]
theorem has_eq (σ : St) (p : Int32) : fX2_has σ p = some (σ, if 0 ≤ p.toInt ∧ p.toInt < (σ.1 19 0).toInt then 1 else 0) := by
  unfold fX2_has
  simp only [lt_i, le_i, z_0]
  split
  · rw [if_neg (by omega)]
  · split
    · rw [if_neg (by omega)]
    · rw [if_pos (by omega)]
theorem p_force : op_force Inv := by
  intro σ τ p hI
  have hl := hI.2.2.2.1.2.1
  have el : σ.1 19 0 = τ.1 0 38 := hI.2.2.2.1.1
  have e1 : (τ.1 0 38 - 1).toInt = (τ.1 0 38).toInt - 1 := by
    rw [i32_sub (by rw [z_1]; have := hl.1; omega) (by rw [z_1]; have := hl.2; omega), z_1]
  by_cases h : -1 ≤ p.toInt ∧ p.toInt < (τ.1 0 38).toInt
  · have h3 : -1 ≤ p.toInt ∧ p.toInt ≤ (τ.1 0 38).toInt - 1 := ⟨h.1, by omega⟩
    refine ⟨sI (sI σ 22 4 p) 53 9 0, sI τ 0 39 p, 1, ?_, ?_, ?_⟩
    · unfold fX8_force
      simp only [jp_eq, bnd_eq]
      by_cases hm : p = -1
      · rw [if_pos hm, forget_eq, cl_some]
      · have h2 : p.toInt ≠ -1 := fun q => hm (Int32.toInt_inj.mp (by rw [q, z_m1]))
        have h4 : 0 ≤ p.toInt ∧ p.toInt < (τ.1 0 38).toInt := ⟨by omega, h.2⟩
        rw [if_neg hm, has_eq, cl_some, el, if_pos h4, if_neg one0, forget_eq, cl_some]
    · unfold fX9_force
      rw [isIn_eq, cl_some, e1, z_m1, if_pos h3, if_neg one0, bnd_eq]
    · exact ⟨hI.1, ⟨hI.2.1.1, rfl, hI.2.1.2.2.1, h, hI.2.1.2.2.2.2⟩, iM_congr (σ := σ) (τ := τ) (fun c h1 h2 => by rw [sI_ne (by omega), sI_ne (by omega)]) rfl rfl rfl rfl rfl rfl hI.2.2.1, hI.2.2.2.1, hI.2.2.2.2.1, iR_forget (σ := sI σ 22 4 p) (τ := τ) hI.2.2.2.2.2⟩
  · have h3 : ¬ (-1 ≤ p.toInt ∧ p.toInt ≤ (τ.1 0 38).toInt - 1) := fun q => h ⟨q.1, by omega⟩
    have hm : ¬ p = -1 := fun q => h (by rw [q, z_m1]; have := hl.1; omega)
    have h4 : ¬ (0 ≤ p.toInt ∧ p.toInt < (τ.1 0 38).toInt) := fun q => h ⟨by omega, q.2⟩
    refine ⟨σ, τ, 0, ?_, ?_, hI⟩
    · unfold fX8_force
      simp only [jp_eq, bnd_eq]
      rw [if_neg hm, has_eq, cl_some, el, if_neg h4, if_pos rfl]
    · unfold fX9_force
      rw [isIn_eq, cl_some, e1, z_m1, if_neg h3, if_pos rfl]
