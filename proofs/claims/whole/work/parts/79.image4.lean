theorem p_back : op_back Inv := by
  intro σ τ p hI
  have hm := hI.2.2.1
  have hb := hI.1.2.1.1
  have h68 := hm.2.1
  have e14 : σ.1 0 14 = τ.1 0 68 := hm.1
  by_cases h : 0 ≤ p.toInt ∧ p.toInt < (τ.1 0 68).toInt
  · obtain ⟨i, hi⟩ : ∃ i : Nat, i = ix p := ⟨_, rfl⟩
    have hp : p = nI i := by rw [hi]; exact ixp h.1
    have hix := ix_toInt h.1
    have hi4 : i < 4 := by have := h68.2; omega
    have hil : (i : Int) < (τ.1 0 68).toInt := by omega
    have hT := hm.2.2 i hil
    rw [hp]
    refine ⟨_, _, _, backC σ i hi4 (by rw [e14]; exact hil), backM τ i hi4 h68 hil, ?_⟩
    have hc27 : 27 ≤ imC i := by unfold imC; omega
    have cN : ∀ q : Nat, q ≠ 22 → q ≠ 23 → q ≠ 24 → q ≠ 25 → q ≠ 53 → (bkS σ (imC i)).1 q = σ.1 q := by
      intro q h1 h2 h3 h4 h5
      unfold bkS
      rw [sI_ne h5, sI_ne h1, sI_ne h1, cpI_ne h4, cpI_ne h3, cpI_ne h2]
    have k3 : (bkS σ (imC i)).1 22 3 = σ.1 (imC i) 3 := rfl
    have k4 : (bkS σ (imC i)).1 22 4 = σ.1 (imC i) 4 := rfl
    have ka : ∀ b : Nat, b < 4 → (bkS σ (imC i)).1 23 b = σ.1 (imC i + 1) b := by
      intro b hb4
      unfold bkS
      rw [sI_ne (by decide), sI_ne (by decide), sI_ne (by decide), cpI_ne (by decide), cpI_ne (by decide), cpI_at ix4 hb4]
    have kb : ∀ k : Nat, k < 32 → (bkS σ (imC i)).1 24 k = σ.1 (imC i + 2) k := by
      intro k hk
      unfold bkS
      rw [sI_ne (by decide), sI_ne (by decide), sI_ne (by decide), cpI_ne (by decide), cpI_at ix32 hk, cpI_ne (by omega)]
    have kc : ∀ b : Nat, b < 4 → (bkS σ (imC i)).1 25 b = σ.1 (imC i + 3) b := by
      intro b hb4
      unfold bkS
      rw [sI_ne (by decide), sI_ne (by decide), sI_ne (by decide), cpI_at ix4 hb4, cpI_ne (by omega), cpI_ne (by omega)]
    refine ⟨?_, ?_, iM_congr (σ := σ) (τ := τ) (fun c h1 h2 => cN c (by omega) (by omega) (by omega) (by omega) (by omega)) (by rw [cN 0 (by decide) (by decide) (by decide) (by decide) (by decide)]) rfl rfl rfl rfl rfl hm, ?_, ?_, ?_⟩
    · have : iS (bkS σ (imC i)) τ := by
        unfold iS
        rw [cN 2 (by decide) (by decide) (by decide) (by decide) (by decide), cN 5 (by decide) (by decide) (by decide) (by decide) (by decide), cN 6 (by decide) (by decide) (by decide) (by decide) (by decide), cN 7 (by decide) (by decide) (by decide) (by decide) (by decide), cN 8 (by decide) (by decide) (by decide) (by decide) (by decide), cN 9 (by decide) (by decide) (by decide) (by decide) (by decide)]
        exact hI.1
      exact this
    · unfold iP
      rw [k3, k4]
      show iT _ _ _ _ _ (fl (τ.1 34) (τ.1 15) (57 * i + 6) 0 4) (fl (τ.1 34) (τ.1 16) (57 * i + 10) 0 4) (fl (τ.1 34) (τ.1 17) (57 * i + 14) 0 32) (fl (τ.1 34) (τ.1 2) (57 * i + 2) 0 4) (τ.1 34 (57 * i + 1)) (τ.1 34 (57 * i)) (τ.1 0 0).toInt (τ.1 0 2).toInt (τ.1 0 38).toInt
      refine iT_congr hb.2 hT (fun b hb4 => ⟨ka b hb4, kc b hb4, ?_, ?_, ?_⟩) (fun k hk => ⟨kb k hk, ?_⟩)
      · unfold fl; rw [if_pos (by omega)]
      · unfold fl; rw [if_pos (by omega)]
      · unfold fl; rw [if_pos (by omega)]
      · unfold fl; rw [if_pos (by omega)]
    · have : iL (bkS σ (imC i)) τ := by
        unfold iL
        rw [cN 19 (by decide) (by decide) (by decide) (by decide) (by decide), cN 20 (by decide) (by decide) (by decide) (by decide) (by decide), cN 21 (by decide) (by decide) (by decide) (by decide) (by decide)]
        exact hI.2.2.2.1
      exact this
    · have : iO (bkS σ (imC i)) τ := by
        unfold iO
        rw [cN 0 (by decide) (by decide) (by decide) (by decide) (by decide), cN 1 (by decide) (by decide) (by decide) (by decide) (by decide)]
        exact hI.2.2.2.2.1
      exact this
    · refine ⟨?_, ?_, fun w => ?_⟩
      · rw [cN 54 (by decide) (by decide) (by decide) (by decide) (by decide)]
        exact hI.2.2.2.2.2.1
      · show rg (0 : Int32) 0 1
        constructor <;> decide
      · exact absurd (show (0 : Int32).toInt = 1 from w) (by decide)
  · have e1 : (τ.1 0 68 - 1).toInt = (τ.1 0 68).toInt - 1 := by
      rw [i32_sub (by rw [z_1]; have := h68.1; omega) (by rw [z_1]; have := h68.2; omega), z_1]
    have a : ¬ ((0 : Int32).toInt ≤ p.toInt ∧ p.toInt ≤ (τ.1 0 68 - 1).toInt) := by
      rw [z_0, e1]
      omega
    refine ⟨σ, τ, 0, ?_, ?_, hI⟩
    · unfold fX8_back
      by_cases h1 : p < 0
      · rw [if_pos h1]
      · have h2 : σ.1 0 14 ≤ p := by
          rw [lt_i, z_0] at h1
          rw [le_i, e14]
          omega
        rw [if_neg h1, if_pos h2]
    · unfold fX9_back
      rw [isIn_eq, cl_some, if_neg a, if_pos rfl]
