def Ops (I : St → St → Prop) : Prop := op_feed I ∧ op_street I ∧ op_fault I ∧ op_told I ∧ op_cost I ∧ op_promise I ∧ op_sure I ∧ op_lot I ∧ op_answer I ∧ op_ask I ∧ op_part I ∧ op_sold I ∧ op_earns I ∧ op_at I ∧ op_best I ∧ op_judge I ∧ op_rests I ∧ op_pays I ∧ op_mean I ∧ op_gap I ∧ op_saves I ∧ op_would I ∧ op_look I ∧ op_lots I ∧ op_chase I ∧ op_law I ∧ op_force I ∧ op_bestLaw I ∧ op_edge I ∧ op_run I ∧ op_image I ∧ op_back I ∧ op_count I
theorem vpin_mk {i : Int32} {n : Nat} (h0 : 0 ≤ i.toInt) (h1 : i.toInt < n) : vp_in i n := by
  intro h
  rcases h with h | h
  · have := Int32.lt_iff_toInt_lt.mp h
    have z : (0 : Int32).toInt = 0 := by decide
    omega
  · unfold Int32.toNatClampNeg at h
    omega
theorem i32_add {x y : Int32} (h1 : -2147483648 ≤ x.toInt + y.toInt) (h2 : x.toInt + y.toInt < 2147483648) : (x + y).toInt = x.toInt + y.toInt := by
  rw [Int32.toInt_add]
  exact Int.bmod_eq_of_le (by omega) (by omega)
theorem i32_sub {x y : Int32} (h1 : -2147483648 ≤ x.toInt - y.toInt) (h2 : x.toInt - y.toInt < 2147483648) : (x - y).toInt = x.toInt - y.toInt := by
  rw [Int32.toInt_sub]
  exact Int.bmod_eq_of_le (by omega) (by omega)
section LawLoop
variable {X : CX} {D : va_G} {tI tJ tB tS : ClassId} {kK kV am : Nat → Nat} {b L : Nat} {xs : Nat → Int32} {I : St → St → Prop}
set_option maxHeartbeats 4000000 in
set_option maxRecDepth 20000 in
theorem law_loop (hX : OKL X D [(tI, .int), (tJ, .long), (tB, .byte), (tS, .object "LoafStreet$Stand")] (zJS kK kV) b L xs) (hL : L ≤ 3072) (hO : Ops I) (hend : ∀ (a : Nat → Nat) (σ τ : St) (n k : Nat) (c3 : Int32), n ≤ 600000 → k ≤ 7302250 → GL X D (vC a D tI tJ tB tS kK kV) (vM am D tI tJ tB (zJS kK kV)) σ τ n k 1159 [(3, .int c3), (2, .ref (am 0)), (1, .ref (a 0)), (0, .ref b)] []) :
    ∀ (N t : Nat), t + N = 513 → t ≤ 512 → ∀ (a : Nat → Nat) (σ τ : St) (n k : Nat) (c3 : Int32), I σ τ → c3.toInt = 6 * (t : Int) → n ≤ 200 + t → k ≤ 23000 + 4096 * t → GL X D (vC a D tI tJ tB tS kK kV) (vM am D tI tJ tB (zJS kK kV)) σ τ n k 18 [(3, .int c3), (2, .ref (am 0)), (1, .ref (a 0)), (0, .ref b)] [] := by
  intro N
  induction N with
  | zero => intro t h1 h2; exact absurd h1 (by omega)
  | succ N ih =>
    intro t h1 h2 a σ τ n k c3 hI hc hn hk
    refine l_iload_n hX 0 dL_law_18 rfl rfl ?_
    refine l_aload_n hX 3 dL_law_19 rfl rfl ?_
    refine l_slen hX dL_law_20 ?_
    refine l_bipush hX 6 dL_law_21 (by decide) ?_
    refine l_isub hX dL_law_23 ?_
    have eL : (Int32.ofNat L).toInt = (L : Int) := nI_toInt (by omega)
    have e6 : (6 : Int32).toInt = 6 := by decide
    have eS : (Int32.ofNat L - 6).toInt = (L : Int) - 6 := by
      rw [i32_sub (by rw [eL, e6]; omega) (by rw [eL, e6]; omega), eL, e6]
    refine l_gt hX 1159 dL_law_24 (by decide) (fun _ => ?_) (fun hq => ?_)
    · exact hend a σ τ n k c3 (by omega) (by omega)
    have hle : 6 * t + 6 ≤ L := by
      have h3 : ¬ (Int32.ofNat L - 6).toInt < c3.toInt := fun q => hq (Int32.lt_iff_toInt_lt.mpr q)
      rw [eS, hc] at h3
      omega
    have hin : ∀ j : Int32, (1 ≤ j ∧ j ≤ 5) → vp_in (c3 + j) L := by
      intro j hj
      have j1 := Int32.le_iff_toInt_le.mp hj.1
      have j2 := Int32.le_iff_toInt_le.mp hj.2
      have z1 : (1 : Int32).toInt = 1 := by decide
      have z5 : (5 : Int32).toInt = 5 := by decide
      rw [z1] at j1
      rw [z5] at j2
      have e := i32_add (x := c3) (y := j) (by omega) (by omega)
      exact vpin_mk (by omega) (by omega)
    have hin0 : vp_in c3 L := vpin_mk (by omega) (by omega)
    have kend : ∀ (a1 : Nat → Nat) (σ1 τ1 : St), I σ1 τ1 → GL X D (vC a1 D tI tJ tB tS kK kV) (vM am D tI tJ tB (zJS kK kV)) σ1 τ1 (n + 1) (k + 4096) 1153 [(3, .int c3), (2, .ref (am 0)), (1, .ref (a1 0)), (0, .ref b)] [] := by
      intro a1 σ1 τ1 hI1
      refine l_iinc (y := c3 + 6) (lq := [(3, .int (c3 + 6)), (2, .ref (am 0)), (1, .ref (a1 0)), (0, .ref b)]) hX 0 dL_law_1153 rfl (by rfl) (by decide) rfl ?_
      refine l_goto hX 18 dL_law_1156 (by decide) ?_
      exact ih (t + 1) (by omega) (by omega) a1 σ1 τ1 (n + 1) (k + 4096) (c3 + 6) hI1 (by rw [i32_add (by rw [e6]; omega) (by rw [e6]; omega), e6]; omega) (by omega) (by omega)
    refine l_aload_n hX 3 dL_law_27 rfl rfl ?_
    refine l_iload_n hX 0 dL_law_28 rfl rfl ?_
    refine l_sld hX hin0 dL_law_29 ?_
    refine l_bipush hX 63 dL_law_30 (by decide) ?_
    refine l_iand hX dL_law_32 ?_
    by_cases hs0 : xs c3.toNatClampNeg &&& 63 = 0
    · refine l_tabIn (off := 147) hX (0) 180 hs0 dL_law_33 (by decide) (by decide) (by decide) (by decide) ?_
      exact lc_feed hX hO.1 hI ⟨by omega, by omega⟩ hin kend
    by_cases hs1 : xs c3.toNatClampNeg &&& 63 = 1
    · refine l_tabIn (off := 210) hX (1) 243 hs1 dL_law_33 (by decide) (by decide) (by decide) (by decide) ?_
      exact lc_street hX hO.2.1 hI ⟨by omega, by omega⟩ hin kend
    by_cases hs2 : xs c3.toNatClampNeg &&& 63 = 2
    · refine l_tabIn (off := 233) hX (2) 266 hs2 dL_law_33 (by decide) (by decide) (by decide) (by decide) ?_
      exact lc_fault hX hO.2.2.1 hI ⟨by omega, by omega⟩ hin kend
    by_cases hs3 : xs c3.toNatClampNeg &&& 63 = 3
    · refine l_tabIn (off := 246) hX (3) 279 hs3 dL_law_33 (by decide) (by decide) (by decide) (by decide) ?_
      exact lc_told hX hO.2.2.2.1 hI ⟨by omega, by omega⟩ hin kend
    by_cases hs4 : xs c3.toNatClampNeg &&& 63 = 4
    · refine l_tabIn (off := 269) hX (4) 302 hs4 dL_law_33 (by decide) (by decide) (by decide) (by decide) ?_
      exact lc_cost hX hO.2.2.2.2.1 hI ⟨by omega, by omega⟩ hin kend
    by_cases hs5 : xs c3.toNatClampNeg &&& 63 = 5
    · refine l_tabIn (off := 302) hX (5) 335 hs5 dL_law_33 (by decide) (by decide) (by decide) (by decide) ?_
      exact lc_promise hX hO.2.2.2.2.2.1 hI ⟨by omega, by omega⟩ hin kend
    by_cases hs6 : xs c3.toNatClampNeg &&& 63 = 6
    · refine l_tabIn (off := 351) hX (6) 384 hs6 dL_law_33 (by decide) (by decide) (by decide) (by decide) ?_
      exact lc_sure hX hO.2.2.2.2.2.2.1 hI ⟨by omega, by omega⟩ hin kend
    by_cases hs7 : xs c3.toNatClampNeg &&& 63 = 7
    · refine l_tabIn (off := 384) hX (7) 417 hs7 dL_law_33 (by decide) (by decide) (by decide) (by decide) ?_
      exact lc_lot hX hO.2.2.2.2.2.2.2.1 hI ⟨by omega, by omega⟩ hin kend
    by_cases hs8 : xs c3.toNatClampNeg &&& 63 = 8
    · refine l_tabIn (off := 427) hX (8) 460 hs8 dL_law_33 (by decide) (by decide) (by decide) (by decide) ?_
      exact lc_answer hX hO.2.2.2.2.2.2.2.2.1 hI ⟨by omega, by omega⟩ hin kend
    by_cases hs9 : xs c3.toNatClampNeg &&& 63 = 9
    · refine l_tabIn (off := 450) hX (9) 483 hs9 dL_law_33 (by decide) (by decide) (by decide) (by decide) ?_
      exact lc_ask hX hO.2.2.2.2.2.2.2.2.2.1 hI ⟨by omega, by omega⟩ hin kend
    by_cases hs10 : xs c3.toNatClampNeg &&& 63 = 10
    · refine l_tabIn (off := 473) hX (10) 506 hs10 dL_law_33 (by decide) (by decide) (by decide) (by decide) ?_
      exact lc_part hX hO.2.2.2.2.2.2.2.2.2.2.1 hI ⟨by omega, by omega⟩ hin kend
    by_cases hs11 : xs c3.toNatClampNeg &&& 63 = 11
    · refine l_tabIn (off := 506) hX (11) 539 hs11 dL_law_33 (by decide) (by decide) (by decide) (by decide) ?_
      exact lc_sold hX hO.2.2.2.2.2.2.2.2.2.2.2.1 hI ⟨by omega, by omega⟩ hin kend
    by_cases hs12 : xs c3.toNatClampNeg &&& 63 = 12
    · refine l_tabIn (off := 530) hX (12) 563 hs12 dL_law_33 (by decide) (by decide) (by decide) (by decide) ?_
      exact lc_earns hX hO.2.2.2.2.2.2.2.2.2.2.2.2.1 hI ⟨by omega, by omega⟩ hin kend
    by_cases hs13 : xs c3.toNatClampNeg &&& 63 = 13
    · refine l_tabIn (off := 554) hX (13) 587 hs13 dL_law_33 (by decide) (by decide) (by decide) (by decide) ?_
      exact lc_at hX hO.2.2.2.2.2.2.2.2.2.2.2.2.2.1 hI ⟨by omega, by omega⟩ hin kend
    by_cases hs14 : xs c3.toNatClampNeg &&& 63 = 14
    · refine l_tabIn (off := 588) hX (14) 621 hs14 dL_law_33 (by decide) (by decide) (by decide) (by decide) ?_
      exact lc_best hX hO.2.2.2.2.2.2.2.2.2.2.2.2.2.2.1 hI ⟨by omega, by omega⟩ hin kend
    by_cases hs15 : xs c3.toNatClampNeg &&& 63 = 15
    · refine l_tabIn (off := 611) hX (15) 644 hs15 dL_law_33 (by decide) (by decide) (by decide) (by decide) ?_
      exact lc_judge hX hO.2.2.2.2.2.2.2.2.2.2.2.2.2.2.2.1 hI ⟨by omega, by omega⟩ hin kend
    by_cases hs16 : xs c3.toNatClampNeg &&& 63 = 16
    · refine l_tabIn (off := 624) hX (16) 657 hs16 dL_law_33 (by decide) (by decide) (by decide) (by decide) ?_
      exact lc_rests hX hO.2.2.2.2.2.2.2.2.2.2.2.2.2.2.2.2.1 hI ⟨by omega, by omega⟩ hin kend
    by_cases hs17 : xs c3.toNatClampNeg &&& 63 = 17
    · refine l_tabIn (off := 647) hX (17) 680 hs17 dL_law_33 (by decide) (by decide) (by decide) (by decide) ?_
      exact lc_pays hX hO.2.2.2.2.2.2.2.2.2.2.2.2.2.2.2.2.2.1 hI ⟨by omega, by omega⟩ hin kend
    by_cases hs18 : xs c3.toNatClampNeg &&& 63 = 18
    · refine l_tabIn (off := 681) hX (18) 714 hs18 dL_law_33 (by decide) (by decide) (by decide) (by decide) ?_
      exact lc_mean hX hO.2.2.2.2.2.2.2.2.2.2.2.2.2.2.2.2.2.2.1 hI ⟨by omega, by omega⟩ hin kend
    by_cases hs19 : xs c3.toNatClampNeg &&& 63 = 19
    · refine l_tabIn (off := 704) hX (19) 737 hs19 dL_law_33 (by decide) (by decide) (by decide) (by decide) ?_
      exact lc_gap hX hO.2.2.2.2.2.2.2.2.2.2.2.2.2.2.2.2.2.2.2.1 hI ⟨by omega, by omega⟩ hin kend
    by_cases hs20 : xs c3.toNatClampNeg &&& 63 = 20
    · refine l_tabIn (off := 718) hX (20) 751 hs20 dL_law_33 (by decide) (by decide) (by decide) (by decide) ?_
      exact lc_saves hX hO.2.2.2.2.2.2.2.2.2.2.2.2.2.2.2.2.2.2.2.2.1 hI ⟨by omega, by omega⟩ hin kend
    by_cases hs21 : xs c3.toNatClampNeg &&& 63 = 21
    · refine l_tabIn (off := 752) hX (21) 785 hs21 dL_law_33 (by decide) (by decide) (by decide) (by decide) ?_
      exact lc_would hX hO.2.2.2.2.2.2.2.2.2.2.2.2.2.2.2.2.2.2.2.2.2.1 hI ⟨by omega, by omega⟩ hin kend
    by_cases hs22 : xs c3.toNatClampNeg &&& 63 = 22
    · refine l_tabIn (off := 775) hX (22) 808 hs22 dL_law_33 (by decide) (by decide) (by decide) (by decide) ?_
      exact lc_look hX hO.2.2.2.2.2.2.2.2.2.2.2.2.2.2.2.2.2.2.2.2.2.2.1 hI ⟨by omega, by omega⟩ hin kend
    by_cases hs23 : xs c3.toNatClampNeg &&& 63 = 23
    · refine l_tabIn (off := 808) hX (23) 841 hs23 dL_law_33 (by decide) (by decide) (by decide) (by decide) ?_
      exact lc_lots hX hO.2.2.2.2.2.2.2.2.2.2.2.2.2.2.2.2.2.2.2.2.2.2.2.1 hI ⟨by omega, by omega⟩ hin kend
    by_cases hs24 : xs c3.toNatClampNeg &&& 63 = 24
    · refine l_tabIn (off := 872) hX (24) 905 hs24 dL_law_33 (by decide) (by decide) (by decide) (by decide) ?_
      exact lc_chase hX hO.2.2.2.2.2.2.2.2.2.2.2.2.2.2.2.2.2.2.2.2.2.2.2.2.1 hI ⟨by omega, by omega⟩ hin kend
    by_cases hs25 : xs c3.toNatClampNeg &&& 63 = 25
    · refine l_tabIn (off := 905) hX (25) 938 hs25 dL_law_33 (by decide) (by decide) (by decide) (by decide) ?_
      exact lc_law hX hO.2.2.2.2.2.2.2.2.2.2.2.2.2.2.2.2.2.2.2.2.2.2.2.2.2.1 hI ⟨by omega, by omega⟩ hin kend
    by_cases hs26 : xs c3.toNatClampNeg &&& 63 = 26
    · refine l_tabIn (off := 938) hX (26) 971 hs26 dL_law_33 (by decide) (by decide) (by decide) (by decide) ?_
      exact lc_force hX hO.2.2.2.2.2.2.2.2.2.2.2.2.2.2.2.2.2.2.2.2.2.2.2.2.2.2.1 hI ⟨by omega, by omega⟩ hin kend
    by_cases hs27 : xs c3.toNatClampNeg &&& 63 = 27
    · refine l_tabIn (off := 961) hX (27) 994 hs27 dL_law_33 (by decide) (by decide) (by decide) (by decide) ?_
      exact lc_bestLaw hX hO.2.2.2.2.2.2.2.2.2.2.2.2.2.2.2.2.2.2.2.2.2.2.2.2.2.2.2.1 hI ⟨by omega, by omega⟩ hin kend
    by_cases hs28 : xs c3.toNatClampNeg &&& 63 = 28
    · refine l_tabIn (off := 994) hX (28) 1027 hs28 dL_law_33 (by decide) (by decide) (by decide) (by decide) ?_
      exact lc_edge hX hO.2.2.2.2.2.2.2.2.2.2.2.2.2.2.2.2.2.2.2.2.2.2.2.2.2.2.2.2.1 hI ⟨by omega, by omega⟩ hin kend
    by_cases hs29 : xs c3.toNatClampNeg &&& 63 = 29
    · refine l_tabIn (off := 1017) hX (29) 1050 hs29 dL_law_33 (by decide) (by decide) (by decide) (by decide) ?_
      exact lc_run hX hO.2.2.2.2.2.2.2.2.2.2.2.2.2.2.2.2.2.2.2.2.2.2.2.2.2.2.2.2.2.1 hI ⟨by omega, by omega⟩ hin kend
    by_cases hs30 : xs c3.toNatClampNeg &&& 63 = 30
    · refine l_tabIn (off := 1061) hX (30) 1094 hs30 dL_law_33 (by decide) (by decide) (by decide) (by decide) ?_
      exact lc_image hX hO.2.2.2.2.2.2.2.2.2.2.2.2.2.2.2.2.2.2.2.2.2.2.2.2.2.2.2.2.2.2.1 hI ⟨by omega, by omega⟩ hin kend
    by_cases hs31 : xs c3.toNatClampNeg &&& 63 = 31
    · refine l_tabIn (off := 1074) hX (31) 1107 hs31 dL_law_33 (by decide) (by decide) (by decide) (by decide) ?_
      exact lc_back hX hO.2.2.2.2.2.2.2.2.2.2.2.2.2.2.2.2.2.2.2.2.2.2.2.2.2.2.2.2.2.2.2.1 hI ⟨by omega, by omega⟩ hin kend
    by_cases hs32 : xs c3.toNatClampNeg &&& 63 = 32
    · refine l_tabIn (off := 1097) hX (32) 1130 hs32 dL_law_33 (by decide) (by decide) (by decide) (by decide) ?_
      exact lc_count hX hO.2.2.2.2.2.2.2.2.2.2.2.2.2.2.2.2.2.2.2.2.2.2.2.2.2.2.2.2.2.2.2.2 hI ⟨by omega, by omega⟩ hin kend
    refine l_tabOut hX 1153 dL_law_33 (by have k0 := sw_ne hs0 (n := 0) (by decide); have k1 := sw_ne hs1 (n := 1) (by decide); have k2 := sw_ne hs2 (n := 2) (by decide); have k3 := sw_ne hs3 (n := 3) (by decide); have k4 := sw_ne hs4 (n := 4) (by decide); have k5 := sw_ne hs5 (n := 5) (by decide); have k6 := sw_ne hs6 (n := 6) (by decide); have k7 := sw_ne hs7 (n := 7) (by decide); have k8 := sw_ne hs8 (n := 8) (by decide); have k9 := sw_ne hs9 (n := 9) (by decide); have k10 := sw_ne hs10 (n := 10) (by decide); have k11 := sw_ne hs11 (n := 11) (by decide); have k12 := sw_ne hs12 (n := 12) (by decide); have k13 := sw_ne hs13 (n := 13) (by decide); have k14 := sw_ne hs14 (n := 14) (by decide); have k15 := sw_ne hs15 (n := 15) (by decide); have k16 := sw_ne hs16 (n := 16) (by decide); have k17 := sw_ne hs17 (n := 17) (by decide); have k18 := sw_ne hs18 (n := 18) (by decide); have k19 := sw_ne hs19 (n := 19) (by decide); have k20 := sw_ne hs20 (n := 20) (by decide); have k21 := sw_ne hs21 (n := 21) (by decide); have k22 := sw_ne hs22 (n := 22) (by decide); have k23 := sw_ne hs23 (n := 23) (by decide); have k24 := sw_ne hs24 (n := 24) (by decide); have k25 := sw_ne hs25 (n := 25) (by decide); have k26 := sw_ne hs26 (n := 26) (by decide); have k27 := sw_ne hs27 (n := 27) (by decide); have k28 := sw_ne hs28 (n := 28) (by decide); have k29 := sw_ne hs29 (n := 29) (by decide); have k30 := sw_ne hs30 (n := 30) (by decide); have k31 := sw_ne hs31 (n := 31) (by decide); have k32 := sw_ne hs32 (n := 32) (by decide); omega) (by decide) ?_
    exact l_widen (Nat.le_add_right _ _) (Nat.le_add_right _ _) (kend a σ τ hI)
end LawLoop
