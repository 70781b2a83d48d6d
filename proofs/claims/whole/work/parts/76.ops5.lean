/-! told -/
theorem i32_mul {x y : Int32} (h1 : -2147483648 ≤ x.toInt * y.toInt) (h2 : x.toInt * y.toInt < 2147483648) : (x * y).toInt = x.toInt * y.toInt := by
  rw [Int32.toInt_mul]
  exact Int.bmod_eq_of_le (by omega) (by omega)
theorem z_4 : (4 : Int32).toInt = 4 := by decide
theorem z_200 : (200 : Int32).toInt = 200 := by decide
theorem z_199 : (199 : Int32).toInt = 199 := by decide
theorem i32_div4 {x : Int32} (h : 0 ≤ x.toInt) : (x / 4).toInt = x.toInt / 4 := by
  have hl := Int32.toInt_lt x
  rw [Int32.toInt_div, z_4, Int.tdiv_eq_ediv_of_nonneg h]
  exact Int.bmod_eq_of_le (by omega) (by omega)
theorem i32_rem4 {x : Int32} (h : 0 ≤ x.toInt) : (x - x / 4 * 4).toInt = x.toInt % 4 := by
  have hl := Int32.toInt_lt x
  have e1 := i32_div4 h
  have e2 : (x / 4 * 4).toInt = x.toInt / 4 * 4 := by
    rw [i32_mul (by rw [e1, z_4]; omega) (by rw [e1, z_4]; omega), e1, z_4]
  rw [i32_sub (by rw [e2]; omega) (by rw [e2]; omega), e2]
  omega
theorem p_told : op_told Inv := by
  intro σ τ p hI
  have hb := hI.1.2.1.1
  have hs := hI.1.2.1.2.1
  obtain ⟨e0, e1, e2, e3, e4, e5, e6, e7⟩ := hI.1.1
  have eA : ((99 : Int32) + τ.1 0 0).toInt = 99 + (τ.1 0 0).toInt := by
    rw [i32_add (by rw [z_99]; have := hb.1; omega) (by rw [z_99]; have := hb.2; omega), z_99]
  have eM : ((4 : Int32) * τ.1 0 1).toInt = 4 * (τ.1 0 1).toInt := by
    rw [i32_mul (by rw [z_4]; have := hs.1; omega) (by rw [z_4]; have := hs.2; omega), z_4]
  have eB : ((199 : Int32) + (4 : Int32) * τ.1 0 1).toInt = 199 + 4 * (τ.1 0 1).toInt := by
    rw [i32_add (by rw [z_199, eM]; have := hs.1; omega) (by rw [z_199, eM]; have := hs.2; omega), z_199, eM]
  have hb1 := hb.1
  have hb2 := hb.2
  have hs1 := hs.1
  have hs2 := hs.2
  by_cases h200 : p.toInt < 200
  · by_cases h100 : p.toInt < 100
    · by_cases c0 : p = 0
      · exact ⟨σ, τ, σ.1 2 0, by unfold fX8_told; simp only [lt_i, z_200, z_100]; rw [if_pos h200, if_pos h100, if_pos c0], by unfold fX9_told; rw [if_pos c0, e0], hI⟩
      by_cases c1 : p = 1
      · exact ⟨σ, τ, σ.1 2 1, by unfold fX8_told; simp only [lt_i, z_200, z_100]; rw [if_pos h200, if_pos h100, if_neg c0, if_pos c1], by unfold fX9_told; rw [if_neg c0, if_pos c1, e1], hI⟩
      by_cases c2 : p = 2
      · exact ⟨σ, τ, σ.1 2 2, by unfold fX8_told; simp only [lt_i, z_200, z_100]; rw [if_pos h200, if_pos h100, if_neg c0, if_neg c1, if_pos c2], by unfold fX9_told; rw [if_neg c0, if_neg c1, if_pos c2, e2], hI⟩
      by_cases c3 : p = 3
      · exact ⟨σ, τ, σ.1 2 3, by unfold fX8_told; simp only [lt_i, z_200, z_100]; rw [if_pos h200, if_pos h100, if_neg c0, if_neg c1, if_neg c2, if_pos c3], by unfold fX9_told; rw [if_neg c0, if_neg c1, if_neg c2, if_pos c3, e3], hI⟩
      by_cases c4 : p = 4
      · exact ⟨σ, τ, σ.1 2 4, by unfold fX8_told; simp only [lt_i, z_200, z_100]; rw [if_pos h200, if_pos h100, if_neg c0, if_neg c1, if_neg c2, if_neg c3, if_pos c4], by unfold fX9_told; rw [if_neg c0, if_neg c1, if_neg c2, if_neg c3, if_pos c4, e4], hI⟩
      by_cases c5 : p = 5
      · exact ⟨σ, τ, σ.1 2 5, by unfold fX8_told; simp only [lt_i, z_200, z_100]; rw [if_pos h200, if_pos h100, if_neg c0, if_neg c1, if_neg c2, if_neg c3, if_neg c4, if_pos c5], by unfold fX9_told; rw [if_neg c0, if_neg c1, if_neg c2, if_neg c3, if_neg c4, if_pos c5, e5], hI⟩
      by_cases c6 : p = 6
      · exact ⟨σ, τ, σ.1 2 6, by unfold fX8_told; simp only [lt_i, z_200, z_100]; rw [if_pos h200, if_pos h100, if_neg c0, if_neg c1, if_neg c2, if_neg c3, if_neg c4, if_neg c5, if_pos c6], by unfold fX9_told; rw [if_neg c0, if_neg c1, if_neg c2, if_neg c3, if_neg c4, if_neg c5, if_pos c6, e6], hI⟩
      by_cases c7 : p = 7
      · exact ⟨σ, τ, σ.1 2 7, by unfold fX8_told; simp only [lt_i, z_200, z_100]; rw [if_pos h200, if_pos h100, if_neg c0, if_neg c1, if_neg c2, if_neg c3, if_neg c4, if_neg c5, if_neg c6, if_pos c7], by unfold fX9_told; rw [if_neg c0, if_neg c1, if_neg c2, if_neg c3, if_neg c4, if_neg c5, if_neg c6, if_pos c7, e7], hI⟩
      have n1 : ¬ ((100 : Int32).toInt ≤ p.toInt ∧ p.toInt ≤ ((99 : Int32) + τ.1 0 0).toInt) := by rw [z_100]; omega
      have n2 : ¬ ((200 : Int32).toInt ≤ p.toInt ∧ p.toInt ≤ ((199 : Int32) + (4 : Int32) * τ.1 0 1).toInt) := by rw [z_200]; omega
      exact ⟨σ, τ, -1, by unfold fX8_told; simp only [lt_i, z_200, z_100]; rw [if_pos h200, if_pos h100, if_neg c0, if_neg c1, if_neg c2, if_neg c3, if_neg c4, if_neg c5, if_neg c6, if_neg c7], by unfold fX9_told; rw [if_neg c0, if_neg c1, if_neg c2, if_neg c3, if_neg c4, if_neg c5, if_neg c6, if_neg c7, isIn_eq, cl_some, if_neg n1, if_pos rfl, isIn_eq, cl_some, if_neg n2, if_pos rfl], hI⟩
    · have e100 : (p - 100).toInt = p.toInt - 100 := by
        rw [i32_sub (by rw [z_100]; omega) (by rw [z_100]; omega), z_100]
      have cN : ∀ k : Int32, k.toInt < 100 → ¬ p = k := fun k hk w => by rw [w] at h100; omega
      have n2 : ¬ ((200 : Int32).toInt ≤ p.toInt ∧ p.toInt ≤ ((199 : Int32) + (4 : Int32) * τ.1 0 1).toInt) := by rw [z_200]; omega
      by_cases h : p.toInt - 100 < (τ.1 0 0).toInt
      · have hin : inb (p - 100) 4 = true := inb_iff.mpr ⟨by omega, by omega⟩
        have a1 : 0 ≤ (p - 100).toInt ∧ (p - 100).toInt < (τ.1 0 0).toInt := ⟨by omega, by omega⟩
        have a2 : (100 : Int32).toInt ≤ p.toInt ∧ p.toInt ≤ ((99 : Int32) + τ.1 0 0).toInt := by rw [z_100]; omega
        have hk := hI.2.1.2.2.2.2 (ix (p - 100)) (by rw [ix_toInt (by omega)]; omega)
        refine ⟨σ, τ, σ.1 25 (ix (p - 100)), ?_, ?_, hI⟩
        · unfold fX8_told
          simp only [lt_i, z_200, z_100]
          rw [if_pos h200, if_neg h100, hasBaker_eq, cl_some, e0, if_pos a1, if_neg one0, chk_t hin]
        · unfold fX9_told
          rw [if_neg (cN 0 (by decide)), if_neg (cN 1 (by decide)), if_neg (cN 2 (by decide)), if_neg (cN 3 (by decide)), if_neg (cN 4 (by decide)), if_neg (cN 5 (by decide)), if_neg (cN 6 (by decide)), if_neg (cN 7 (by decide)), isIn_eq, cl_some, if_pos a2, if_neg one0, chk_t hin, hk.1]
      · have a1 : ¬ (0 ≤ (p - 100).toInt ∧ (p - 100).toInt < (τ.1 0 0).toInt) := by omega
        have a2 : ¬ ((100 : Int32).toInt ≤ p.toInt ∧ p.toInt ≤ ((99 : Int32) + τ.1 0 0).toInt) := by rw [z_100]; omega
        refine ⟨σ, τ, -1, ?_, ?_, hI⟩
        · unfold fX8_told
          simp only [lt_i, z_200, z_100]
          rw [if_pos h200, if_neg h100, hasBaker_eq, cl_some, e0, if_neg a1, if_pos rfl]
        · unfold fX9_told
          rw [if_neg (cN 0 (by decide)), if_neg (cN 1 (by decide)), if_neg (cN 2 (by decide)), if_neg (cN 3 (by decide)), if_neg (cN 4 (by decide)), if_neg (cN 5 (by decide)), if_neg (cN 6 (by decide)), if_neg (cN 7 (by decide)), isIn_eq, cl_some, if_neg a2, if_pos rfl, isIn_eq, cl_some, if_neg n2, if_pos rfl]
  · have cN : ∀ k : Int32, k.toInt < 200 → ¬ p = k := fun k hk w => by rw [w] at h200; omega
    have hpl := Int32.toInt_lt p
    have e200 : (p - 200).toInt = p.toInt - 200 := by
      rw [i32_sub (by rw [z_200]; omega) (by rw [z_200]; omega), z_200]
    have d1 : ((p - 200) / 4).toInt = (p.toInt - 200) / 4 := by rw [i32_div4 (by omega), e200]
    have d2 : ((p - 200) - (p - 200) / 4 * 4).toInt = (p.toInt - 200) % 4 := by rw [i32_rem4 (by omega), e200]
    have d3 : (p - p / 4 * 4).toInt = p.toInt % 4 := i32_rem4 (by omega)
    have d4 : (p - 200) - (p - 200) / 4 * 4 = p - p / 4 * 4 := Int32.toInt_inj.mp (by rw [d2, d3]; omega)
    have n1 : ¬ ((100 : Int32).toInt ≤ p.toInt ∧ p.toInt ≤ ((99 : Int32) + τ.1 0 0).toInt) := by rw [z_100]; omega
    have hd : decide (¬ (4 : Int32) = 0) = true := by decide
    by_cases h : (p.toInt - 200) / 4 < (τ.1 0 1).toInt
    · have a1 : 0 ≤ ((p - 200) / 4).toInt ∧ ((p - 200) / 4).toInt < (τ.1 0 1).toInt := ⟨by omega, by omega⟩
      have a2 : (200 : Int32).toInt ≤ p.toInt ∧ p.toInt ≤ ((199 : Int32) + (4 : Int32) * τ.1 0 1).toInt := by rw [z_200]; omega
      have hin : inb ((p - 200) / 4) 12 = true := inb_iff.mpr ⟨by omega, by omega⟩
      obtain ⟨k1, k2, k3, k4, -⟩ := hI.1.2.2.1 (ix ((p - 200) / 4)) (by rw [ix_toInt (by omega)]; omega)
      by_cases r0 : p - p / 4 * 4 = 0
      · refine ⟨σ, τ, σ.1 5 (ix ((p - 200) / 4)), ?_, ?_, hI⟩
        · unfold fX8_told fX6_toldOfSort
          simp only [lt_i, z_200, z_100]
          rw [if_neg h200, chk_t hd, chk_t hd, hasSort_eq, cl_some, e1, if_pos a1, if_neg one0, d4, if_pos r0, chk_t hin, cl_some]
        · unfold fX9_told
          rw [if_neg (cN 0 (by decide)), if_neg (cN 1 (by decide)), if_neg (cN 2 (by decide)), if_neg (cN 3 (by decide)), if_neg (cN 4 (by decide)), if_neg (cN 5 (by decide)), if_neg (cN 6 (by decide)), if_neg (cN 7 (by decide)), isIn_eq, cl_some, if_neg n1, if_pos rfl, isIn_eq, cl_some, if_pos a2, if_neg one0, chk_t hd, bnd_eq, chk_t hd, bnd_eq, if_pos r0, chk_t hin, k1]
      by_cases r1 : p - p / 4 * 4 = 1
      · refine ⟨σ, τ, σ.1 6 (ix ((p - 200) / 4)), ?_, ?_, hI⟩
        · unfold fX8_told fX6_toldOfSort
          simp only [lt_i, z_200, z_100]
          rw [if_neg h200, chk_t hd, chk_t hd, hasSort_eq, cl_some, e1, if_pos a1, if_neg one0, d4, if_neg r0, if_pos r1, chk_t hin, cl_some]
        · unfold fX9_told
          rw [if_neg (cN 0 (by decide)), if_neg (cN 1 (by decide)), if_neg (cN 2 (by decide)), if_neg (cN 3 (by decide)), if_neg (cN 4 (by decide)), if_neg (cN 5 (by decide)), if_neg (cN 6 (by decide)), if_neg (cN 7 (by decide)), isIn_eq, cl_some, if_neg n1, if_pos rfl, isIn_eq, cl_some, if_pos a2, if_neg one0, chk_t hd, bnd_eq, chk_t hd, bnd_eq, if_neg r0, if_pos r1, chk_t hin, k2]
      by_cases r2 : p - p / 4 * 4 = 2
      · refine ⟨σ, τ, σ.1 7 (ix ((p - 200) / 4)), ?_, ?_, hI⟩
        · unfold fX8_told fX6_toldOfSort
          simp only [lt_i, z_200, z_100]
          rw [if_neg h200, chk_t hd, chk_t hd, hasSort_eq, cl_some, e1, if_pos a1, if_neg one0, d4, if_neg r0, if_neg r1, if_pos r2, chk_t hin, cl_some]
        · unfold fX9_told
          rw [if_neg (cN 0 (by decide)), if_neg (cN 1 (by decide)), if_neg (cN 2 (by decide)), if_neg (cN 3 (by decide)), if_neg (cN 4 (by decide)), if_neg (cN 5 (by decide)), if_neg (cN 6 (by decide)), if_neg (cN 7 (by decide)), isIn_eq, cl_some, if_neg n1, if_pos rfl, isIn_eq, cl_some, if_pos a2, if_neg one0, chk_t hd, bnd_eq, chk_t hd, bnd_eq, if_neg r0, if_neg r1, if_pos r2, chk_t hin, k3]
      refine ⟨σ, τ, σ.1 8 (ix ((p - 200) / 4)), ?_, ?_, hI⟩
      · unfold fX8_told fX6_toldOfSort
        simp only [lt_i, z_200, z_100]
        rw [if_neg h200, chk_t hd, chk_t hd, hasSort_eq, cl_some, e1, if_pos a1, if_neg one0, d4, if_neg r0, if_neg r1, if_neg r2, chk_t hin, cl_some]
      · unfold fX9_told
        rw [if_neg (cN 0 (by decide)), if_neg (cN 1 (by decide)), if_neg (cN 2 (by decide)), if_neg (cN 3 (by decide)), if_neg (cN 4 (by decide)), if_neg (cN 5 (by decide)), if_neg (cN 6 (by decide)), if_neg (cN 7 (by decide)), isIn_eq, cl_some, if_neg n1, if_pos rfl, isIn_eq, cl_some, if_pos a2, if_neg one0, chk_t hd, bnd_eq, chk_t hd, bnd_eq, if_neg r0, if_neg r1, if_neg r2, chk_t hin, k4]
    · have a1 : ¬ (0 ≤ ((p - 200) / 4).toInt ∧ ((p - 200) / 4).toInt < (τ.1 0 1).toInt) := by omega
      have a2 : ¬ ((200 : Int32).toInt ≤ p.toInt ∧ p.toInt ≤ ((199 : Int32) + (4 : Int32) * τ.1 0 1).toInt) := by rw [z_200]; omega
      refine ⟨σ, τ, -1, ?_, ?_, hI⟩
      · unfold fX8_told fX6_toldOfSort
        simp only [lt_i, z_200, z_100]
        rw [if_neg h200, chk_t hd, chk_t hd, hasSort_eq, cl_some, e1, if_neg a1, if_pos rfl, cl_some]
      · unfold fX9_told
        rw [if_neg (cN 0 (by decide)), if_neg (cN 1 (by decide)), if_neg (cN 2 (by decide)), if_neg (cN 3 (by decide)), if_neg (cN 4 (by decide)), if_neg (cN 5 (by decide)), if_neg (cN 6 (by decide)), if_neg (cN 7 (by decide)), isIn_eq, cl_some, if_neg n1, if_pos rfl, isIn_eq, cl_some, if_neg a2, if_pos rfl]
