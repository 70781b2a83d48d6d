/-! law -/
theorem iT_nl {ck cp cc : Nat → Int32} {cpr cf : Int32} {mw ms ml mc : Nat → Int32} {mpr mf : Int32} {nb ns nl nl' : Int} (h : iT ck cp cc cpr cf mw ms ml mc mpr mf nb ns nl) (hl : nl ≤ nl') : iT ck cp cc cpr cf mw ms ml mc mpr mf nb ns nl' := ⟨h.1, h.2.1, h.2.2.1, ⟨h.2.2.2.1.1, by have := h.2.2.2.1.2; omega⟩, h.2.2.2.2⟩
theorem p_law : op_law Inv := by
  intro σ τ p q hI
  have hl := hI.2.2.2.1.2.1
  have el : σ.1 19 0 = τ.1 0 38 := hI.2.2.2.1.1
  have hf := hI.2.1.2.2.2.1
  by_cases h : 0 ≤ p.toInt ∧ p.toInt ≤ 2
  · have hp0 : ¬ p.toInt < 0 := by omega
    have hp2 : ¬ 2 < p.toInt := by omega
    by_cases hq : 0 ≤ q.toInt ∧ q.toInt ≤ 7
    · by_cases h6 : τ.1 0 38 = 6
      · refine ⟨σ, τ, -1, ?_, ?_, hI⟩
        · unfold fX8_law
          simp only [lt_i, z_0, z_2]
          rw [if_neg hp0, if_neg hp2, anyStep_eq, cl_some, if_pos hq, if_neg one0]
          unfold fX2_add
          rw [el, h6, if_neg (by decide), cl_some]
        · unfold fX9_law
          rw [isIn_eq, cl_some, z_0, z_2, if_pos h, if_neg one0, isIn_eq, cl_some, z_0, z_7, if_pos hq, if_neg one0, if_pos h6]
      · have h5 : (τ.1 0 38).toInt < 6 := by
          have : (τ.1 0 38).toInt ≠ 6 := fun w => h6 (Int32.toInt_inj.mp (by rw [w, z_6]))
          have := hl.2
          omega
        have hin : inb (τ.1 0 38) 6 = true := inb_iff.mpr ⟨hl.1, h5⟩
        have e1 : (τ.1 0 38 + 1).toInt = (τ.1 0 38).toInt + 1 := by
          rw [i32_add (by rw [z_1]; have := hl.1; omega) (by rw [z_1]; omega), z_1]
        have hlt : τ.1 0 38 < 6 := by rw [lt_i, z_6]; exact h5
        refine ⟨sI (sI (sI σ 20 (ix (τ.1 0 38)) p) 21 (ix (τ.1 0 38)) q) 19 0 (τ.1 0 38 + 1), sI (sI (sI τ 19 (ix (τ.1 0 38)) p) 20 (ix (τ.1 0 38)) q) 0 38 (τ.1 0 38 + 1), τ.1 0 38 + 1 - 1, ?_, ?_, ?_⟩
        · unfold fX8_law
          simp only [lt_i, z_0, z_2]
          rw [if_neg hp0, if_neg hp2, anyStep_eq, cl_some, if_pos hq, if_neg one0]
          unfold fX2_add
          rw [el, if_pos hlt, chk_t hin, bnd_eq]
          show cl (chk (inb (σ.1 19 0) 6) (bnd (sI (sI σ 20 (ix (τ.1 0 38)) p) 21 (ix (σ.1 19 0)) q) fun (σ_2 : St) => bnd (sI σ_2 19 0 ((σ_2.1 19 0) + (1 : Int32))) fun (σ_3 : St) => some (σ_3, ((σ_3.1 19 0) - (1 : Int32))))) _ = _
          rw [el, chk_t hin, bnd_eq, bnd_eq, cl_some]
          show some (sI (sI (sI σ 20 (ix (τ.1 0 38)) p) 21 (ix (τ.1 0 38)) q) 19 0 (σ.1 19 0 + 1), σ.1 19 0 + 1 - 1) = _
          rw [el]
        · unfold fX9_law
          rw [isIn_eq, cl_some, z_0, z_2, if_pos h, if_neg one0, isIn_eq, cl_some, z_0, z_7, if_pos hq, if_neg one0, if_neg h6, chk_t hin, bnd_eq]
          show chk (inb (τ.1 0 38) 6) _ = _
          rw [chk_t hin]
          rfl
        · have hix := ix_toInt hl.1
          refine ⟨hI.1, ?_, ?_, ⟨rfl, ⟨?_, ?_⟩, fun i hi => ?_⟩, hI.2.2.2.2.1, ?_⟩
          · have h9 := iT_nl (nl' := (τ.1 0 38 + 1).toInt) hI.2.1 (by omega)
            exact h9
          · refine ⟨hI.2.2.1.1, hI.2.2.1.2.1, fun i hi => ?_⟩
            have hi4 : (i : Int) < (τ.1 0 68).toInt := hi
            have h4 := hI.2.2.1.2.1.2
            have h9 := iT_nl (nl' := (τ.1 0 38 + 1).toInt) (hI.2.2.1.2.2 i hi4) (by omega)
            have b0 : 27 ≤ imC i := by unfold imC; omega
            rw [sI_ne (c := imC i) (by omega), sI_ne (c := imC i) (by omega), sI_ne (c := imC i) (by omega), sI_ne (c := imC i + 1) (by omega), sI_ne (c := imC i + 1) (by omega), sI_ne (c := imC i + 1) (by omega), sI_ne (c := imC i + 2) (by omega), sI_ne (c := imC i + 2) (by omega), sI_ne (c := imC i + 2) (by omega), sI_ne (c := imC i + 3) (by omega), sI_ne (c := imC i + 3) (by omega), sI_ne (c := imC i + 3) (by omega)]
            exact h9
          · show 0 ≤ (τ.1 0 38 + 1).toInt
            have := hl.1
            omega
          · show (τ.1 0 38 + 1).toInt ≤ 6
            omega
          · have hi' : (i : Int) < (τ.1 0 38).toInt + 1 := by rw [← e1]; exact hi
            show (sI σ 20 (ix (τ.1 0 38)) p).1 20 i = (sI τ 19 (ix (τ.1 0 38)) p).1 19 i ∧ (sI σ 21 (ix (τ.1 0 38)) q).1 21 i = (sI τ 20 (ix (τ.1 0 38)) q).1 20 i ∧ rg ((sI τ 19 (ix (τ.1 0 38)) p).1 19 i) 0 2 ∧ rg ((sI τ 20 (ix (τ.1 0 38)) q).1 20 i) 0 7
            rw [sI_at, sI_at, sI_at, sI_at]
            by_cases hi2 : i = ix (τ.1 0 38)
            · rw [if_pos hi2, if_pos hi2, if_pos hi2, if_pos hi2]
              exact ⟨rfl, rfl, h, hq⟩
            · rw [if_neg hi2, if_neg hi2, if_neg hi2, if_neg hi2]
              exact hI.2.2.2.1.2.2 i (by omega)
          · refine ⟨hI.2.2.2.2.2.1, hI.2.2.2.2.2.2.1, fun hk => ?_⟩
            obtain ⟨r1, r2, r3, r4⟩ := hI.2.2.2.2.2.2.2 hk
            refine ⟨r1, r2, r3, fun pl hpl => ?_⟩
            have hne : 0 ≤ frc τ → (frc τ).toNat ≠ ix (τ.1 0 38) := by
              intro w1 w2
              have w3 : frc τ < (τ.1 0 38).toInt := hf.2
              omega
            have a19 : 0 ≤ frc τ → (sI (sI (sI τ 19 (ix (τ.1 0 38)) p) 20 (ix (τ.1 0 38)) q) 0 38 (τ.1 0 38 + 1)).1 19 (frc τ).toNat = τ.1 19 (frc τ).toNat := by
              intro w
              rw [sI_ne (by decide), sI_ne (by decide), sI_at, if_neg (hne w)]
            have a20 : 0 ≤ frc τ → (sI (sI (sI τ 19 (ix (τ.1 0 38)) p) 20 (ix (τ.1 0 38)) q) 0 38 (τ.1 0 38 + 1)).1 20 (frc τ).toNat = τ.1 20 (frc τ).toNat := by
              intro w
              rw [sI_ne (by decide), sI_at, if_neg (hne w)]
              rfl
            have hbar : barF (sI (sI (sI τ 19 (ix (τ.1 0 38)) p) 20 (ix (τ.1 0 38)) q) 0 38 (τ.1 0 38 + 1)) (frc τ) = barF τ (frc τ) := by
              funext k
              unfold barF
              by_cases w : 0 ≤ frc τ
              · rw [a19 w, a20 w]
              · exact propext ⟨fun z => absurd z.1 w, fun z => absurd z.1 w⟩
            have hsh : shtF (sI (sI (sI τ 19 (ix (τ.1 0 38)) p) 20 (ix (τ.1 0 38)) q) 0 38 (τ.1 0 38 + 1)) (frc τ) = shtF τ (frc τ) := by
              unfold shtF
              by_cases w : 0 ≤ frc τ
              · rw [a19 w]
              · exact propext ⟨fun z => absurd z.1 w, fun z => absurd z.1 w⟩
            have key : restD (sI (sI (sI τ 19 (ix (τ.1 0 38)) p) 20 (ix (τ.1 0 38)) q) 0 38 (τ.1 0 38 + 1)) (frc τ) (rowAt (nK τ) pl) = restD τ (frc τ) (rowAt (nK τ) pl) := by
              unfold restD
              rw [hbar, hsh]
              rfl
            have := r4 pl hpl
            rw [← key] at this
            exact this
    · refine ⟨σ, τ, -1, ?_, ?_, hI⟩
      · unfold fX8_law
        simp only [lt_i, z_0, z_2]
        rw [if_neg hp0, if_neg hp2, anyStep_eq, cl_some, if_neg hq, if_pos rfl]
      · unfold fX9_law
        rw [isIn_eq, cl_some, z_0, z_2, if_pos h, if_neg one0, isIn_eq, cl_some, z_0, z_7, if_neg hq, if_pos rfl]
  · refine ⟨σ, τ, -1, ?_, ?_, hI⟩
    · unfold fX8_law
      simp only [lt_i, z_0, z_2]
      by_cases h1 : p.toInt < 0
      · rw [if_pos h1]
      · have h2 : 2 < p.toInt := by omega
        rw [if_neg h1, if_pos h2]
    · unfold fX9_law
      rw [isIn_eq, cl_some, z_0, z_2, if_neg h, if_pos rfl]
