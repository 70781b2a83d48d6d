def fX8_bestLaw (σ : St) (p1 : Int32) (p2 : Int32) : Option (St × Int32) :=
  cl (fX6_hasSort σ p1) fun (σ_1 : St) (t_2 : Int32) => (if t_2 = 0 then some (σ_1, (-1 : Int32)) else (if p2 < 0 then some (σ_1, (-1 : Int32)) else (if p2 ≤ (1 : Int32) then cl (fX4_tryQuietLaws σ_1 p1) fun (σ_3 : St) (t_4 : Unit) => cl (fX4_tryShouts σ_3 p1) fun (σ_5 : St) (t_6 : Unit) => cl (fX4_bestCase σ_5 ) fun (σ_7 : St) (t_8 : Int32) => bnd t_8 fun (x3_9 : Int32) => (if x3_9 = (-1 : Int32) then some (σ_7, (-1 : Int32)) else (if p2 = (1 : Int32) then chk (inb x3_9 7) (some (σ_7, (σ_7.1 57 (ix x3_9)))) else (if x3_9 = 0 then some (σ_7, (9 : Int32)) else some (σ_7, (x3_9 - (1 : Int32)))))) else some (σ_1, (-1 : Int32)))))
set_option maxRecDepth 20000 in
set_option maxHeartbeats 4000000 in
theorem sX8_bestLaw {X : CX} {a : Nat → Nat} {D : va_G} {tI tJ tB tS : ClassId} {kK kV : Nat → Nat} {σ : St}  {p1 : Int32} {p2 : Int32} {r : St × Int32} (hX : OKX X (vC a D tI tJ tB tS kK kV) cX8_bestLaw 4 RX8 7 163) (hR : ∀ (pc : Nat) (lv : List (Nat × Value)), decode cX8_bestLaw pc = .ok (.ireturn, 1) → G X (vC a D tI tJ tB tS kK kV) 4 r.1 pc lv [.int r.2])  (h : fX8_bestLaw σ p1 p2 = some r) : G X (vC a D tI tJ tB tS kK kV) 4 σ 0 [(0, .ref (a 0)), (1, .int p1), (2, .int p2)] [] := by
  unfold fX8_bestLaw at h
  refine g_aload_n hX 0 dX8_bestLaw_0 rfl rfl ?_
  refine gCX8_27_0 hX dX8_bestLaw_1 ?_
  refine g_iload_n hX 1 dX8_bestLaw_4 rfl rfl ?_
  refine g_callNI (As := [.int p1]) (rest := []) hX 2 (Nat.le_of_ble_eq_true rfl) rfl rfl miX6_hasSort mvX6_hasSort lkX8_214 (by decide) rfl (Nat.le_of_ble_eq_true rfl) rfl dX8_bestLaw_5 (fun τ x ho => kX6_hasSort _ ho) h (fun σ_1 t_2 h => ?_)
  refine g_if_eq hX 20 dX8_bestLaw_8 (by decide) h (fun h => ?_) (fun h => ?_)
  · refine g_iconst hX (-1) dX8_bestLaw_20 (by decide) ?_
    exact g_reti hR h dX8_bestLaw_21
  · refine g_iload_n hX 2 dX8_bestLaw_11 rfl rfl ?_
    refine g_if_lt hX 20 dX8_bestLaw_12 (by decide) h (fun h => ?_) (fun h => ?_)
    · refine g_iconst hX (-1) dX8_bestLaw_20 (by decide) ?_
      exact g_reti hR h dX8_bestLaw_21
    · refine g_iload_n hX 2 dX8_bestLaw_15 rfl rfl ?_
      refine g_iconst hX (1) dX8_bestLaw_16 (by decide) ?_
      refine g_icmp_le hX 22 dX8_bestLaw_17 (by decide) h (fun h => ?_) (fun h => ?_)
      · refine g_aload_n hX 0 dX8_bestLaw_22 rfl rfl ?_
        refine gCX8_64_0 hX dX8_bestLaw_23 ?_
        refine g_iload_n hX 1 dX8_bestLaw_26 rfl rfl ?_
        refine g_callNV (As := [.int p1]) (rest := []) hX 53 (Nat.le_of_ble_eq_true rfl) rfl rfl miX4_tryQuietLaws mvX4_tryQuietLaws lkX8_302 (by decide) rfl (Nat.le_of_ble_eq_true rfl) rfl dX8_bestLaw_27 (fun τ x ho => kX4_tryQuietLaws _ ho) h (fun σ_3 t_4 h => ?_)
        refine g_aload_n hX 0 dX8_bestLaw_30 rfl rfl ?_
        refine gCX8_64_0 hX dX8_bestLaw_31 ?_
        refine g_iload_n hX 1 dX8_bestLaw_34 rfl rfl ?_
        refine g_callNV (As := [.int p1]) (rest := []) hX 53 (Nat.le_of_ble_eq_true rfl) rfl rfl miX4_tryShouts mvX4_tryShouts lkX8_305 (by decide) rfl (Nat.le_of_ble_eq_true rfl) rfl dX8_bestLaw_35 (fun τ x ho => kX4_tryShouts _ ho) h (fun σ_5 t_6 h => ?_)
        refine g_aload_n hX 0 dX8_bestLaw_38 rfl rfl ?_
        refine gCX8_64_0 hX dX8_bestLaw_39 ?_
        refine g_callNI (As := []) (rest := []) hX 53 (Nat.le_of_ble_eq_true rfl) rfl rfl miX4_bestCase mvX4_bestCase lkX8_308 (by decide) rfl (Nat.le_of_ble_eq_true rfl) rfl dX8_bestLaw_42 (fun τ x ho => kX4_bestCase _ ho) h (fun σ_7 t_8 h => ?_)
        refine g_istore_n (lv' := fun x3_9 => [(3, .int x3_9), (0, .ref (a 0)), (1, .int p1), (2, .int p2)]) hX dX8_bestLaw_45 rfl (by decide) (fun _ => rfl) h (fun x3_9 h => ?_)
        refine g_iload_n hX 0 dX8_bestLaw_46 rfl rfl ?_
        refine g_iconst hX (-1) dX8_bestLaw_47 (by decide) ?_
        refine g_icmp_ne hX 53 dX8_bestLaw_48 (by decide) h (fun h => ?_) (fun h => ?_)
        · refine g_iload_n hX 3 dX8_bestLaw_53 rfl rfl ?_
          refine g_iconst hX (1) dX8_bestLaw_54 (by decide) ?_
          refine g_icmp_ne hX 68 dX8_bestLaw_55 (by decide) h (fun h => ?_) (fun h => ?_)
          · refine g_iload_n hX 0 dX8_bestLaw_68 rfl rfl ?_
            refine g_if_ne hX 77 dX8_bestLaw_69 (by decide) h (fun h => ?_) (fun h => ?_)
            · refine g_iload_n hX 0 dX8_bestLaw_77 rfl rfl ?_
              refine g_iconst hX (1) dX8_bestLaw_78 (by decide) ?_
              refine g_isub hX dX8_bestLaw_79 ?_
              exact g_reti hR h dX8_bestLaw_80
            · refine g_bipush hX (9) dX8_bestLaw_72 (by decide) ?_
              refine g_goto hX 80 dX8_bestLaw_74 (by decide) ?_
              exact g_reti hR h dX8_bestLaw_80
          · refine g_aload_n hX 1 dX8_bestLaw_58 rfl rfl ?_
            refine gCX8_64_0 hX dX8_bestLaw_59 ?_
            refine gCX8_312_53 hX dX8_bestLaw_62 ?_
            refine g_iload_n hX 0 dX8_bestLaw_65 rfl rfl ?_
            refine alC_57 hX dX8_bestLaw_66 h (fun h => ?_)
            exact g_reti hR h dX8_bestLaw_67
        · refine g_iconst hX (-1) dX8_bestLaw_51 (by decide) ?_
          exact g_reti hR h dX8_bestLaw_52
      · refine g_iconst hX (-1) dX8_bestLaw_20 (by decide) ?_
        exact g_reti hR h dX8_bestLaw_21
set_option maxRecDepth 20000 in
set_option maxHeartbeats 4000000 in
theorem kX8_bestLaw (l : Launch) {a : Nat → Nat} {D : va_G} {tI tJ tB tS : ClassId} {kK kV : Nat → Nat} {σ τ : St}  {p1 : Int32} {p2 : Int32} {x : Int32} (h : fX8_bestLaw σ p1 p2 = some (τ, x)) : CtI l yX8_bestLaw cX8_bestLaw 4 (some .int) 7 163 (vC a D tI tJ tB tS kK kV) σ [.ref (a 0), .int p1, .int p2] τ x := g_metI (by decide) (Nat.le_of_ble_eq_true rfl) rfl (fun X _ hX hR => sX8_bestLaw (r := (τ, x)) hX hR h)
def fJ7_fill_53178_i56_L5 (q1_5 : Int32) (q3_5 : Int32) (kx5 : St → Int32 → Option (St × Unit)) : Nat → St → Int32 → Option (St × Unit)
  | 0, _, _ => none
  | n5 + 1, σ, c2_5 =>
    (if q3_5 ≤ c2_5 then kx5 σ c2_5 else chk (inb c2_5 21) (bnd (sI σ 56 (ix c2_5) q1_5) fun (σ_3 : St) => bnd (c2_5 + (1 : Int32)) fun (x2_4 : Int32) => fJ7_fill_53178_i56_L5 q1_5 q3_5 kx5 n5 σ_3 x2_4))
def fJ7_fill_53178_i56 (σ : St) (p2 : Int32) : Option (St × Unit) :=
  bnd (0 : Int32) fun (x2_1 : Int32) => bnd (21 : Int32) fun (x3_2 : Int32) => fJ7_fill_53178_i56_L5 p2 x3_2 (fun (σ_5 : St) (x2_6 : Int32) => some (σ_5, ())) FU σ x2_1
set_option maxRecDepth 20000 in
set_option maxHeartbeats 4000000 in
theorem sJ7_fill_53178_i56_L5 {X : CX} {a : Nat → Nat} {D : va_G} {tI tJ tB tS : ClassId} {kK kV : Nat → Nat} {q1_5 : Int32} {q3_5 : Int32} {kx5 : St → Int32 → Option (St × Unit)} {r : St × Unit} (hX : OKX X (vC a D tI tJ tB tS kK kV) cJ7_fill_53178 4 RJ7 0 0) (hR : ∀ (pc : Nat) (lv : List (Nat × Value)), decode cJ7_fill_53178 pc = .ok (.return_, 1) → G X (vC a D tI tJ tB tS kK kV) 4 r.1 pc lv []) (hkx5 : ∀ (σ : St) (e2_5 : Int32), kx5 σ e2_5 = some r → G X (vC a D tI tJ tB tS kK kV) 4 σ 20 [] []) : ∀ (n : Nat) (σ : St) (c2_5 : Int32), fJ7_fill_53178_i56_L5 q1_5 q3_5 kx5 n σ c2_5 = some r → G X (vC a D tI tJ tB tS kK kV) 4 σ 5 [(0, .ref (a 56)), (1, .int q1_5), (3, .int q3_5), (2, .int c2_5)] [] := by
  intro n
  induction n with
  | zero => intro σ c2_5 h; rw [fJ7_fill_53178_i56_L5] at h; exact absurd h (by simp)
  | succ n5 ih5 =>
    intro σ c2_5 h
    rw [fJ7_fill_53178_i56_L5] at h
    refine g_iload_n hX 3 dJ7_fill_53178_5 rfl rfl ?_
    refine g_iload_n hX 2 dJ7_fill_53178_6 rfl rfl ?_
    refine g_icmp_ge hX 20 dJ7_fill_53178_7 (by decide) h (fun h => ?_) (fun h => ?_)
    · exact g_sub [] rfl (hkx5 _ _ h)
    · refine g_aload_n hX 0 dJ7_fill_53178_10 rfl rfl ?_
      refine g_iload_n hX 3 dJ7_fill_53178_11 rfl rfl ?_
      refine g_iload_n hX 1 dJ7_fill_53178_12 rfl rfl ?_
      refine asC_56 hX dJ7_fill_53178_13 h (fun σ_3 h => ?_)
      refine g_iinc (y := (1)) (lv' := fun x2_4 => [(2, .int x2_4), (0, .ref (a 56)), (1, .int q1_5), (3, .int q3_5)]) hX 3 dJ7_fill_53178_14 rfl (by decide) (by decide) (fun _ => rfl) h (fun x2_4 h => ?_)
      refine g_goto hX 5 dJ7_fill_53178_17 (by decide) ?_
      exact g_sub [1, 2, 3, 0] rfl (ih5 _ _ h)
set_option maxRecDepth 20000 in
set_option maxHeartbeats 4000000 in
theorem sJ7_fill_53178_i56 {X : CX} {a : Nat → Nat} {D : va_G} {tI tJ tB tS : ClassId} {kK kV : Nat → Nat} {σ : St}  {p2 : Int32} {r : St × Unit} (hX : OKX X (vC a D tI tJ tB tS kK kV) cJ7_fill_53178 4 RJ7 0 0) (hR : ∀ (pc : Nat) (lv : List (Nat × Value)), decode cJ7_fill_53178 pc = .ok (.return_, 1) → G X (vC a D tI tJ tB tS kK kV) 4 r.1 pc lv [])  (h : fJ7_fill_53178_i56 σ p2 = some r) : G X (vC a D tI tJ tB tS kK kV) 4 σ 0 [(0, .ref (a 56)), (1, .int p2)] [] := by
  unfold fJ7_fill_53178_i56 at h
  refine g_iconst hX (0) dJ7_fill_53178_0 (by decide) ?_
  refine g_istore_n (lv' := fun x2_1 => [(2, .int x2_1), (0, .ref (a 56)), (1, .int p2)]) hX dJ7_fill_53178_1 rfl (by decide) (fun _ => rfl) h (fun x2_1 h => ?_)
  refine g_aload_n hX 1 dJ7_fill_53178_2 rfl rfl ?_
  refine lenC_56 hX dJ7_fill_53178_3 ?_
  refine g_istore_n (lv' := fun x3_2 => [(3, .int x3_2), (2, .int x2_1), (0, .ref (a 56)), (1, .int p2)]) hX dJ7_fill_53178_4 rfl (by decide) (fun _ => rfl) h (fun x3_2 h => ?_)
  refine g_sub [2, 3, 0, 1] rfl (sJ7_fill_53178_i56_L5 hX hR (fun σ_5 x2_6 h => ?_) FU _ _ h)
  exact g_retv hR h dJ7_fill_53178_20
set_option maxRecDepth 20000 in
set_option maxHeartbeats 4000000 in
theorem kJ7_fill_53178_i56 (l : Launch) {a : Nat → Nat} {D : va_G} {tI tJ tB tS : ClassId} {kK kV : Nat → Nat} {σ τ : St}  {p2 : Int32} {x : Unit} (h : fJ7_fill_53178_i56 σ p2 = some (τ, x)) : CtV l yJ7_fill_53178 cJ7_fill_53178 4 none 0 0 (vC a D tI tJ tB tS kK kV) σ [.ref (a 56), .int p2] τ x := g_metV (by decide) (Nat.le_of_ble_eq_true rfl) rfl (fun X _ hX hR => sJ7_fill_53178_i56 (r := (τ, x)) hX hR h)
def fX4_changingCost_L76 (q1_76 : Int32) (q2_76 : Int32) (q3_76 : Int32) (q4_76 : Int32) (kx76 : St → Int32 → Option (St × Int32)) : Nat → St → Int32 → Option (St × Int32)
  | 0, _, _ => none
  | n76 + 1, σ, c5_76 =>
    (if q2_76 ≤ c5_76 then kx76 σ c5_76 else cl (fX4_howMany σ c5_76) fun (σ_17 : St) (t_18 : Int32) => (jp (fun (σ_19 : St)   => chk (inb q1_76 4) (some (σ_19, ((σ_19.1 25 (ix q1_76)) + c5_76)))) fun j104 => (if t_18 = q3_76 then cl (fX4_place σ_17 c5_76 (0 : Int32)) fun (σ_20 : St) (t_21 : Int32) => (if t_21 = q4_76 then bnd (c5_76 + (1 : Int32)) fun (x5_22 : Int32) => fX4_changingCost_L76 q1_76 q2_76 q3_76 q4_76 kx76 n76 σ_20 x5_22 else j104 σ_20) else j104 σ_17)))
def fX4_changingCost (σ : St) (p1 : Int32) : Option (St × Int32) :=
  chk (inb p1 4) (bnd (if ((99 : Int32) - (σ.1 25 (ix p1))) < (20 : Int32) then ((99 : Int32) - (σ.1 25 (ix p1))) else (20 : Int32)) fun (t_1 : Int32) => bnd ((1 : Int32) + t_1) fun (x2_2 : Int32) => cl (fX7_open σ (σ.1 22 4)) fun (σ_3 : St) (t_4 : Unit) => cl (fJ7_fill_53178_i56 σ_3 (σ_3.1 43 15)) fun (σ_5 : St) (t_6 : Unit) => cl (fX4_search σ_5 x2_2 p1) fun (σ_7 : St) (t_8 : Unit) => chk (isB (1 : Int32)) (bnd (sI σ_7 53 9 (1 : Int32)) fun (σ_9 : St) => cl (fX4_howMany σ_9 (0 : Int32)) fun (σ_10 : St) (t_11 : Int32) => bnd t_11 fun (x3_12 : Int32) => cl (fX4_place σ_10 (0 : Int32) (0 : Int32)) fun (σ_13 : St) (t_14 : Int32) => bnd t_14 fun (x4_15 : Int32) => bnd (1 : Int32) fun (x5_16 : Int32) => fX4_changingCost_L76 p1 x2_2 x3_12 x4_15 (fun (σ_23 : St) (x5_24 : Int32) => some (σ_23, (-1 : Int32))) FU σ_13 x5_16))
set_option maxRecDepth 20000 in
set_option maxHeartbeats 4000000 in
theorem sX4_changingCost_L76 {X : CX} {a : Nat → Nat} {D : va_G} {tI tJ tB tS : ClassId} {kK kV : Nat → Nat} {q1_76 : Int32} {q2_76 : Int32} {q3_76 : Int32} {q4_76 : Int32} {kx76 : St → Int32 → Option (St × Int32)} {r : St × Int32} (hX : OKX X (vC a D tI tJ tB tS kK kV) cX4_changingCost 6 RX4 5 111) (hR : ∀ (pc : Nat) (lv : List (Nat × Value)), decode cX4_changingCost pc = .ok (.ireturn, 1) → G X (vC a D tI tJ tB tS kK kV) 6 r.1 pc lv [.int r.2]) (hkx76 : ∀ (σ : St) (e5_76 : Int32), kx76 σ e5_76 = some r → G X (vC a D tI tJ tB tS kK kV) 6 σ 123 [] []) : ∀ (n : Nat) (σ : St) (c5_76 : Int32), fX4_changingCost_L76 q1_76 q2_76 q3_76 q4_76 kx76 n σ c5_76 = some r → G X (vC a D tI tJ tB tS kK kV) 6 σ 76 [(0, .ref (a 53)), (1, .int q1_76), (2, .int q2_76), (3, .int q3_76), (4, .int q4_76), (5, .int c5_76)] [] := by
  intro n
  induction n with
  | zero => intro σ c5_76 h; rw [fX4_changingCost_L76] at h; exact absurd h (by simp)
  | succ n76 ih76 =>
    intro σ c5_76 h
    rw [fX4_changingCost_L76] at h
    refine g_iload hX 5 dX4_changingCost_76 rfl ?_
    refine g_iload_n hX 2 dX4_changingCost_78 rfl rfl ?_
    refine g_icmp_ge hX 123 dX4_changingCost_79 (by decide) h (fun h => ?_) (fun h => ?_)
    · exact g_sub [] rfl (hkx76 _ _ h)
    · refine g_aload_n hX 0 dX4_changingCost_82 rfl rfl ?_
      refine g_iload hX 5 dX4_changingCost_83 rfl ?_
      refine g_callVI (As := [.int c5_76]) (rest := []) hX 53 (Nat.le_of_ble_eq_true rfl) rfl rfl miX4_howMany mvX4_howMany lkX4_80 (by decide) rfl (Nat.le_of_ble_eq_true rfl) rfl dX4_changingCost_85 (fun τ x ho => kX4_howMany _ ho) h (fun σ_17 t_18 h => ?_)
      refine g_iload_n hX 3 dX4_changingCost_88 rfl rfl ?_
      refine jp_inv (P := fun f => ∀ (σ_19 : St)  , f σ_19 = some r → G X (vC a D tI tJ tB tS kK kV) 6 σ_19 104 [(0, .ref (a 53)), (1, .int q1_76), (5, .int c5_76)] []) h (fun σ_19 h => ?_) (fun j104 hj104 h => ?_)
      · refine g_aload_n hX 0 dX4_changingCost_104 rfl rfl ?_
        refine gCX4_15_53 hX dX4_changingCost_105 ?_
        refine gCX4_65_22 hX dX4_changingCost_108 ?_
        refine g_iload_n hX 1 dX4_changingCost_111 rfl rfl ?_
        refine alC_25 hX dX4_changingCost_112 h (fun h => ?_)
        refine g_iload hX 2 dX4_changingCost_113 rfl ?_
        refine g_iadd hX dX4_changingCost_115 ?_
        exact g_reti hR h dX4_changingCost_116
      refine g_icmp_ne hX 104 dX4_changingCost_89 (by decide) h (fun h => ?_) (fun h => ?_)
      · exact g_sub [0, 1, 5] rfl (hj104 _ h)
      · refine g_aload_n hX 0 dX4_changingCost_92 rfl rfl ?_
        refine g_iload hX 5 dX4_changingCost_93 rfl ?_
        refine g_iconst hX (0) dX4_changingCost_95 (by decide) ?_
        refine g_callVI (As := [.int c5_76, .int (0 : Int32)]) (rest := []) hX 53 (Nat.le_of_ble_eq_true rfl) rfl rfl miX4_place mvX4_place lkX4_84 (by decide) rfl (Nat.le_of_ble_eq_true rfl) rfl dX4_changingCost_96 (fun τ x ho => kX4_place _ ho) h (fun σ_20 t_21 h => ?_)
        refine g_iload hX 4 dX4_changingCost_99 rfl ?_
        refine g_icmp_eq hX 117 dX4_changingCost_101 (by decide) h (fun h => ?_) (fun h => ?_)
        · refine g_iinc (y := (1)) (lv' := fun x5_22 => [(5, .int x5_22), (0, .ref (a 53)), (1, .int q1_76), (2, .int q2_76), (3, .int q3_76), (4, .int q4_76)]) hX 5 dX4_changingCost_117 rfl (by decide) (by decide) (fun _ => rfl) h (fun x5_22 h => ?_)
          refine g_goto hX 76 dX4_changingCost_120 (by decide) ?_
          exact g_sub [1, 2, 3, 4, 5, 0] rfl (ih76 _ _ h)
        · exact g_sub [0, 1, 5] rfl (hj104 _ h)
set_option maxRecDepth 20000 in
set_option maxHeartbeats 4000000 in
theorem sX4_changingCost {X : CX} {a : Nat → Nat} {D : va_G} {tI tJ tB tS : ClassId} {kK kV : Nat → Nat} {σ : St}  {p1 : Int32} {r : St × Int32} (hX : OKX X (vC a D tI tJ tB tS kK kV) cX4_changingCost 6 RX4 5 111) (hR : ∀ (pc : Nat) (lv : List (Nat × Value)), decode cX4_changingCost pc = .ok (.ireturn, 1) → G X (vC a D tI tJ tB tS kK kV) 6 r.1 pc lv [.int r.2])  (h : fX4_changingCost σ p1 = some r) : G X (vC a D tI tJ tB tS kK kV) 6 σ 0 [(0, .ref (a 53)), (1, .int p1)] [] := by
  unfold fX4_changingCost at h
  refine g_iconst hX (1) dX4_changingCost_0 (by decide) ?_
  refine g_bipush hX (20) dX4_changingCost_1 (by decide) ?_
  refine g_bipush hX (99) dX4_changingCost_3 (by decide) ?_
  refine g_aload_n hX 0 dX4_changingCost_5 rfl rfl ?_
  refine gCX4_15_53 hX dX4_changingCost_6 ?_
  refine gCX4_65_22 hX dX4_changingCost_9 ?_
  refine g_iload_n hX 1 dX4_changingCost_12 rfl rfl ?_
  refine alC_25 hX dX4_changingCost_13 h (fun h => ?_)
  refine g_isub hX dX4_changingCost_14 ?_
  refine g_mmin hX lkX4_68 mathS_minI mathI mathC_minI (by decide) (by decide) (Nat.le_of_ble_eq_true rfl) dX4_changingCost_15 h (fun t_1 h => ?_)
  refine g_iadd hX dX4_changingCost_18 ?_
  refine g_istore_n (lv' := fun x2_2 => [(2, .int x2_2), (0, .ref (a 53)), (1, .int p1)]) hX dX4_changingCost_19 rfl (by decide) (fun _ => rfl) h (fun x2_2 h => ?_)
  refine g_aload_n hX 1 dX4_changingCost_20 rfl rfl ?_
  refine gCX4_23_53 hX dX4_changingCost_21 ?_
  refine g_aload_n hX 1 dX4_changingCost_24 rfl rfl ?_
  refine gCX4_15_53 hX dX4_changingCost_25 ?_
  refine gCX4_48_22 hX dX4_changingCost_28 ?_
  refine g_callNV (As := [.int (σ.1 22 4)]) (rest := []) hX 43 (Nat.le_of_ble_eq_true rfl) rfl rfl miX7_open mvX7_open lkX4_53 (by decide) rfl (Nat.le_of_ble_eq_true rfl) rfl dX4_changingCost_31 (fun τ x ho => kX7_open _ ho) h (fun σ_3 t_4 h => ?_)
  refine g_aload_n hX 1 dX4_changingCost_34 rfl rfl ?_
  refine gCX4_34_53 hX dX4_changingCost_35 ?_
  refine g_aload_n hX 1 dX4_changingCost_38 rfl rfl ?_
  refine gCX4_23_53 hX dX4_changingCost_39 ?_
  refine gCX4_59_43 hX dX4_changingCost_42 ?_
  refine g_callSV (As := [.ref (a 56), .int (σ_3.1 43 15)]) (rest := []) hX miJ7_fill_53178 mvJ7_fill_53178 lkX4_74 (by decide) rfl (Nat.le_of_ble_eq_true rfl) rfl dX4_changingCost_45 (fun τ x ho => kJ7_fill_53178_i56 _ ho) h (fun σ_5 t_6 h => ?_)
  refine g_aload_n hX 1 dX4_changingCost_48 rfl rfl ?_
  refine g_iload_n hX 0 dX4_changingCost_49 rfl rfl ?_
  refine g_iload_n hX 2 dX4_changingCost_50 rfl rfl ?_
  refine g_callVV (As := [.int x2_2, .int p1]) (rest := []) hX 53 (Nat.le_of_ble_eq_true rfl) rfl rfl miX4_search mvX4_search lkX4_61 (by decide) rfl (Nat.le_of_ble_eq_true rfl) rfl dX4_changingCost_51 (fun τ x ho => kX4_search _ ho) h (fun σ_7 t_8 h => ?_)
  refine g_aload_n hX 1 dX4_changingCost_54 rfl rfl ?_
  refine g_iconst hX (1) dX4_changingCost_55 (by decide) ?_
  refine pCX4_44_53 hX dX4_changingCost_56 h (fun σ_9 h => ?_)
  refine g_aload_n hX 1 dX4_changingCost_59 rfl rfl ?_
  refine g_iconst hX (0) dX4_changingCost_60 (by decide) ?_
  refine g_callVI (As := [.int (0 : Int32)]) (rest := []) hX 53 (Nat.le_of_ble_eq_true rfl) rfl rfl miX4_howMany mvX4_howMany lkX4_80 (by decide) rfl (Nat.le_of_ble_eq_true rfl) rfl dX4_changingCost_61 (fun τ x ho => kX4_howMany _ ho) h (fun σ_10 t_11 h => ?_)
  refine g_istore_n (lv' := fun x3_12 => [(3, .int x3_12), (2, .int x2_2), (0, .ref (a 53)), (1, .int p1)]) hX dX4_changingCost_64 rfl (by decide) (fun _ => rfl) h (fun x3_12 h => ?_)
  refine g_aload_n hX 2 dX4_changingCost_65 rfl rfl ?_
  refine g_iconst hX (0) dX4_changingCost_66 (by decide) ?_
  refine g_iconst hX (0) dX4_changingCost_67 (by decide) ?_
  refine g_callVI (As := [.int (0 : Int32), .int (0 : Int32)]) (rest := []) hX 53 (Nat.le_of_ble_eq_true rfl) rfl rfl miX4_place mvX4_place lkX4_84 (by decide) rfl (Nat.le_of_ble_eq_true rfl) rfl dX4_changingCost_68 (fun τ x ho => kX4_place _ ho) h (fun σ_13 t_14 h => ?_)
  refine g_istore (lv' := fun x4_15 => [(4, .int x4_15), (3, .int x3_12), (2, .int x2_2), (0, .ref (a 53)), (1, .int p1)]) hX dX4_changingCost_71 (by decide) (fun _ => rfl) h (fun x4_15 h => ?_)
  refine g_iconst hX (1) dX4_changingCost_73 (by decide) ?_
  refine g_istore (lv' := fun x5_16 => [(5, .int x5_16), (4, .int x4_15), (3, .int x3_12), (2, .int x2_2), (0, .ref (a 53)), (1, .int p1)]) hX dX4_changingCost_74 (by decide) (fun _ => rfl) h (fun x5_16 h => ?_)
  refine g_sub [4, 5, 3, 2, 1, 0] rfl (sX4_changingCost_L76 hX hR (fun σ_23 x5_24 h => ?_) FU _ _ h)
  refine g_iconst hX (-1) dX4_changingCost_123 (by decide) ?_
  exact g_reti hR h dX4_changingCost_124
set_option maxRecDepth 20000 in
set_option maxHeartbeats 4000000 in
theorem kX4_changingCost (l : Launch) {a : Nat → Nat} {D : va_G} {tI tJ tB tS : ClassId} {kK kV : Nat → Nat} {σ τ : St}  {p1 : Int32} {x : Int32} (h : fX4_changingCost σ p1 = some (τ, x)) : CtI l yX4_changingCost cX4_changingCost 6 (some .int) 5 111 (vC a D tI tJ tB tS kK kV) σ [.ref (a 53), .int p1] τ x := g_metI (by decide) (Nat.le_of_ble_eq_true rfl) rfl (fun X _ hX hR => sX4_changingCost (r := (τ, x)) hX hR h)
def fX8_edge (σ : St) (p1 : Int32) : Option (St × Int32) :=
  cl (fX6_hasBaker σ p1) fun (σ_1 : St) (t_2 : Int32) => (if t_2 = 0 then some (σ_1, (-1 : Int32)) else cl (fX4_changingCost σ_1 p1) fun (σ_3 : St) (t_4 : Int32) => some (σ_3, t_4))
set_option maxRecDepth 20000 in
set_option maxHeartbeats 4000000 in
theorem sX8_edge {X : CX} {a : Nat → Nat} {D : va_G} {tI tJ tB tS : ClassId} {kK kV : Nat → Nat} {σ : St}  {p1 : Int32} {r : St × Int32} (hX : OKX X (vC a D tI tJ tB tS kK kV) cX8_edge 2 RX8 6 136) (hR : ∀ (pc : Nat) (lv : List (Nat × Value)), decode cX8_edge pc = .ok (.ireturn, 1) → G X (vC a D tI tJ tB tS kK kV) 2 r.1 pc lv [.int r.2])  (h : fX8_edge σ p1 = some r) : G X (vC a D tI tJ tB tS kK kV) 2 σ 0 [(0, .ref (a 0)), (1, .int p1)] [] := by
  unfold fX8_edge at h
  refine g_aload_n hX 0 dX8_edge_0 rfl rfl ?_
  refine gCX8_27_0 hX dX8_edge_1 ?_
  refine g_iload_n hX 1 dX8_edge_4 rfl rfl ?_
  refine g_callNI (As := [.int p1]) (rest := []) hX 2 (Nat.le_of_ble_eq_true rfl) rfl rfl miX6_hasBaker mvX6_hasBaker lkX8_125 (by decide) rfl (Nat.le_of_ble_eq_true rfl) rfl dX8_edge_5 (fun τ x ho => kX6_hasBaker _ ho) h (fun σ_1 t_2 h => ?_)
  refine g_if_eq hX 22 dX8_edge_8 (by decide) h (fun h => ?_) (fun h => ?_)
  · refine g_iconst hX (-1) dX8_edge_22 (by decide) ?_
    exact g_reti hR h dX8_edge_23
  · refine g_aload_n hX 0 dX8_edge_11 rfl rfl ?_
    refine gCX8_64_0 hX dX8_edge_12 ?_
    refine g_iload_n hX 1 dX8_edge_15 rfl rfl ?_
    refine g_callNI (As := [.int p1]) (rest := []) hX 53 (Nat.le_of_ble_eq_true rfl) rfl rfl miX4_changingCost mvX4_changingCost lkX8_315 (by decide) rfl (Nat.le_of_ble_eq_true rfl) rfl dX8_edge_16 (fun τ x ho => kX4_changingCost _ ho) h (fun σ_3 t_4 h => ?_)
    refine g_goto hX 23 dX8_edge_19 (by decide) ?_
    exact g_reti hR h dX8_edge_23
set_option maxRecDepth 20000 in
set_option maxHeartbeats 4000000 in
theorem kX8_edge (l : Launch) {a : Nat → Nat} {D : va_G} {tI tJ tB tS : ClassId} {kK kV : Nat → Nat} {σ τ : St}  {p1 : Int32} {x : Int32} (h : fX8_edge σ p1 = some (τ, x)) : CtI l yX8_edge cX8_edge 2 (some .int) 6 136 (vC a D tI tJ tB tS kK kV) σ [.ref (a 0), .int p1] τ x := g_metI (by decide) (Nat.le_of_ble_eq_true rfl) rfl (fun X _ hX hR => sX8_edge (r := (τ, x)) hX hR h)
def fX7_paidInRow_L5 (q1_5 : Int32) (kx5 : St → Int64 → Int32 → Option (St × Int64)) : Nat → St → Int64 → Int32 → Option (St × Int64)
  | 0, _, _, _ => none
  | n5 + 1, σ, c2_5, c4_5 =>
    cl (fX6_everyone σ ) fun (σ_3 : St) (t_4 : Int32) => (if t_4 < c4_5 then kx5 σ_3 c2_5 c4_5 else cl (fX6_setsLike σ_3 q1_5 c4_5 (σ_3.1 43 14)) fun (σ_5 : St) (t_6 : Int32) => bnd t_6 fun (x5_7 : Int32) => (jp (fun (σ_8 : St) (x2_9 : Int64)  => bnd (c4_5 + (1 : Int32)) fun (x4_10 : Int32) => fX7_paidInRow_L5 q1_5 kx5 n5 σ_8 x2_9 x4_10) fun j81 => (if x5_7 ≤ 0 then j81 σ_5 c2_5 else chk (inb c4_5 16) (cl (fX6_price σ_5 (σ_5.1 47 (ix c4_5))) fun (σ_11 : St) (t_12 : Int32) => bnd t_12 fun (x6_13 : Int32) => chk (inb q1_5 12) ((jp (fun (σ_14 : St)  (t_15 : Int64) => bnd (c2_5 + t_15) fun (x2_16 : Int64) => j81 σ_14 x2_16) fun j79 => (if (σ_11.1 8 (ix q1_5)) < x6_13 then j79 σ_11 (0 : Int64) else j79 σ_11 (((x5_7 * x6_13)).toInt64))))))))
def fX7_paidInRow (σ : St) (p1 : Int32) : Option (St × Int64) :=
  bnd (0 : Int64) fun (x2_1 : Int64) => bnd (1 : Int32) fun (x4_2 : Int32) => fX7_paidInRow_L5 p1 (fun (σ_17 : St) (x2_18 : Int64) (x4_19 : Int32) => chk (inb p1 12) (some (σ_17, ((x2_18 * (((σ_17.1 6 (ix p1))).toInt64)) * (12 : Int64))))) FU σ x2_1 x4_2
set_option maxRecDepth 20000 in
set_option maxHeartbeats 4000000 in
theorem sX7_paidInRow_L5 {X : CX} {a : Nat → Nat} {D : va_G} {tI tJ tB tS : ClassId} {kK kV : Nat → Nat} {q1_5 : Int32} {kx5 : St → Int64 → Int32 → Option (St × Int64)} {r : St × Int64} (hX : OKX X (vC a D tI tJ tB tS kK kV) cX7_paidInRow 7 RX7 3 67) (hR : ∀ (pc : Nat) (lv : List (Nat × Value)), decode cX7_paidInRow pc = .ok (.lreturn, 1) → G X (vC a D tI tJ tB tS kK kV) 7 r.1 pc lv [.long r.2]) (hkx5 : ∀ (σ : St) (e2_5 : Int64) (e4_5 : Int32), kx5 σ e2_5 e4_5 = some r → G X (vC a D tI tJ tB tS kK kV) 7 σ 87 [(0, .ref (a 43)), (1, .int q1_5), (2, .long e2_5)] []) : ∀ (n : Nat) (σ : St) (c2_5 : Int64) (c4_5 : Int32), fX7_paidInRow_L5 q1_5 kx5 n σ c2_5 c4_5 = some r → G X (vC a D tI tJ tB tS kK kV) 7 σ 5 [(0, .ref (a 43)), (1, .int q1_5), (2, .long c2_5), (4, .int c4_5)] [] := by
  intro n
  induction n with
  | zero => intro σ c2_5 c4_5 h; rw [fX7_paidInRow_L5] at h; exact absurd h (by simp)
  | succ n5 ih5 =>
    intro σ c2_5 c4_5 h
    rw [fX7_paidInRow_L5] at h
    refine g_iload hX 3 dX7_paidInRow_5 rfl ?_
    refine g_aload_n hX 0 dX7_paidInRow_7 rfl rfl ?_
    refine gCX7_9_43 hX dX7_paidInRow_8 ?_
    refine g_callNI (As := []) (rest := [.int c4_5]) hX 2 (Nat.le_of_ble_eq_true rfl) rfl rfl miX6_everyone mvX6_everyone lkX7_133 (by decide) rfl (Nat.le_of_ble_eq_true rfl) rfl dX7_paidInRow_11 (fun τ x ho => kX6_everyone _ ho) h (fun σ_3 t_4 h => ?_)
    refine g_icmp_gt hX 87 dX7_paidInRow_14 (by decide) h (fun h => ?_) (fun h => ?_)
    · exact g_sub [0, 1, 2] rfl (hkx5 _ _ _ h)
    · refine g_aload_n hX 0 dX7_paidInRow_17 rfl rfl ?_
      refine gCX7_9_43 hX dX7_paidInRow_18 ?_
      refine g_iload_n hX 1 dX7_paidInRow_21 rfl rfl ?_
      refine g_iload hX 3 dX7_paidInRow_22 rfl ?_
      refine g_aload_n hX 0 dX7_paidInRow_24 rfl rfl ?_
      refine gCX7_59_43 hX dX7_paidInRow_25 ?_
      refine g_callNI (As := [.int q1_5, .int c4_5, .int (σ_3.1 43 14)]) (rest := []) hX 2 (Nat.le_of_ble_eq_true rfl) rfl rfl miX6_setsLike mvX6_setsLike lkX7_137 (by decide) rfl (Nat.le_of_ble_eq_true rfl) rfl dX7_paidInRow_28 (fun τ x ho => kX6_setsLike _ ho) h (fun σ_5 t_6 h => ?_)
      refine g_istore (lv' := fun x5_7 => [(5, .int x5_7), (0, .ref (a 43)), (1, .int q1_5), (2, .long c2_5), (4, .int c4_5)]) hX dX7_paidInRow_31 (by decide) (fun _ => rfl) h (fun x5_7 h => ?_)
      refine g_iload hX 0 dX7_paidInRow_33 rfl ?_
      refine jp_inv (P := fun f => ∀ (σ_8 : St) (x2_9 : Int64) , f σ_8 x2_9 = some r → G X (vC a D tI tJ tB tS kK kV) 7 σ_8 81 [(0, .ref (a 43)), (1, .int q1_5), (4, .int c4_5), (2, .long x2_9)] []) h (fun σ_8 x2_9 h => ?_) (fun j81 hj81 h => ?_)
      · refine g_iinc (y := (1)) (lv' := fun x4_10 => [(4, .int x4_10), (0, .ref (a 43)), (1, .int q1_5), (2, .long x2_9)]) hX 2 dX7_paidInRow_81 rfl (by decide) (by decide) (fun _ => rfl) h (fun x4_10 h => ?_)
        refine g_goto hX 5 dX7_paidInRow_84 (by decide) ?_
        exact g_sub [1, 2, 3, 0] rfl (ih5 _ _ _ h)
      refine g_if_le hX 81 dX7_paidInRow_35 (by decide) h (fun h => ?_) (fun h => ?_)
      · exact g_sub [1, 2, 4, 3] rfl (hj81 _ _ h)
      · refine g_aload_n hX 1 dX7_paidInRow_38 rfl rfl ?_
        refine gCX7_9_43 hX dX7_paidInRow_39 ?_
        refine g_aload_n hX 1 dX7_paidInRow_42 rfl rfl ?_
        refine gCX7_33_43 hX dX7_paidInRow_43 ?_
        refine g_iload hX 4 dX7_paidInRow_46 rfl ?_
        refine alC_47 hX dX7_paidInRow_48 h (fun h => ?_)
        refine g_callNI (As := [.int (σ_5.1 47 (ix c4_5))]) (rest := []) hX 2 (Nat.le_of_ble_eq_true rfl) rfl rfl miX6_price mvX6_price lkX7_151 (by decide) rfl (Nat.le_of_ble_eq_true rfl) rfl dX7_paidInRow_49 (fun τ x ho => kX6_price _ ho) h (fun σ_11 t_12 h => ?_)
        refine g_istore (lv' := fun x6_13 => [(6, .int x6_13), (5, .int x5_7), (0, .ref (a 43)), (1, .int q1_5), (2, .long c2_5), (4, .int c4_5)]) hX dX7_paidInRow_52 (by decide) (fun _ => rfl) h (fun x6_13 h => ?_)
        refine g_lload_n hX 4 dX7_paidInRow_54 rfl rfl ?_
        refine g_iload hX 0 dX7_paidInRow_55 rfl ?_
        refine g_aload_n hX 2 dX7_paidInRow_57 rfl rfl ?_
        refine gCX7_9_43 hX dX7_paidInRow_58 ?_
        refine gCX7_144_2 hX dX7_paidInRow_61 ?_
        refine g_iload_n hX 3 dX7_paidInRow_64 rfl rfl ?_
        refine alC_8 hX dX7_paidInRow_65 h (fun h => ?_)
        refine jp_inv (P := fun f => ∀ (σ_14 : St)  (t_15 : Int64), f σ_14 t_15 = some r → G X (vC a D tI tJ tB tS kK kV) 7 σ_14 79 [(0, .ref (a 43)), (1, .int q1_5), (4, .int c4_5)] [.long t_15, .long c2_5]) h (fun σ_14 t_15 h => ?_) (fun j79 hj79 h => ?_)
        · refine g_ladd hX dX7_paidInRow_79 ?_
          refine g_lstore_n (lv' := fun x2_16 => [(2, .long x2_16), (0, .ref (a 43)), (1, .int q1_5), (4, .int c4_5)]) hX dX7_paidInRow_80 rfl (by decide) (fun _ => rfl) h (fun x2_16 h => ?_)
          exact g_sub [1, 2, 3, 0] rfl (hj81 _ _ h)
        refine g_icmp_gt hX 78 dX7_paidInRow_66 (by decide) h (fun h => ?_) (fun h => ?_)
        · refine g_lconst hX (0) dX7_paidInRow_78 (by decide) ?_
          exact g_sub [2, 3, 5] rfl (hj79 _ _ h)
        · refine g_iload hX 1 dX7_paidInRow_69 rfl ?_
          refine g_iload hX 0 dX7_paidInRow_71 rfl ?_
          refine g_imul hX dX7_paidInRow_73 ?_
          refine g_i2l hX dX7_paidInRow_74 ?_
          refine g_goto hX 79 dX7_paidInRow_75 (by decide) ?_
          exact g_sub [2, 3, 5] rfl (hj79 _ _ h)
set_option maxRecDepth 20000 in
set_option maxHeartbeats 4000000 in
theorem sX7_paidInRow {X : CX} {a : Nat → Nat} {D : va_G} {tI tJ tB tS : ClassId} {kK kV : Nat → Nat} {σ : St}  {p1 : Int32} {r : St × Int64} (hX : OKX X (vC a D tI tJ tB tS kK kV) cX7_paidInRow 7 RX7 3 67) (hR : ∀ (pc : Nat) (lv : List (Nat × Value)), decode cX7_paidInRow pc = .ok (.lreturn, 1) → G X (vC a D tI tJ tB tS kK kV) 7 r.1 pc lv [.long r.2])  (h : fX7_paidInRow σ p1 = some r) : G X (vC a D tI tJ tB tS kK kV) 7 σ 0 [(0, .ref (a 43)), (1, .int p1)] [] := by
  unfold fX7_paidInRow at h
  refine g_lconst hX (0) dX7_paidInRow_0 (by decide) ?_
  refine g_lstore_n (lv' := fun x2_1 => [(2, .long x2_1), (0, .ref (a 43)), (1, .int p1)]) hX dX7_paidInRow_1 rfl (by decide) (fun _ => rfl) h (fun x2_1 h => ?_)
  refine g_iconst hX (1) dX7_paidInRow_2 (by decide) ?_
  refine g_istore (lv' := fun x4_2 => [(4, .int x4_2), (2, .long x2_1), (0, .ref (a 43)), (1, .int p1)]) hX dX7_paidInRow_3 (by decide) (fun _ => rfl) h (fun x4_2 h => ?_)
  refine g_sub [2, 3, 1, 0] rfl (sX7_paidInRow_L5 hX hR (fun σ_17 x2_18 x4_19 h => ?_) FU _ _ _ h)
  refine g_lload_n hX 2 dX7_paidInRow_87 rfl rfl ?_
  refine g_aload_n hX 0 dX7_paidInRow_88 rfl rfl ?_
  refine gCX7_9_43 hX dX7_paidInRow_89 ?_
  refine gCX7_141_2 hX dX7_paidInRow_92 ?_
  refine g_iload_n hX 1 dX7_paidInRow_95 rfl rfl ?_
  refine alC_6 hX dX7_paidInRow_96 h (fun h => ?_)
  refine g_i2l hX dX7_paidInRow_97 ?_
  refine g_lmul hX dX7_paidInRow_98 ?_
  refine g_ldc2 hX lkX7_212 dX7_paidInRow_99 ?_
  refine g_lmul hX dX7_paidInRow_102 ?_
  exact g_retl hR h dX7_paidInRow_103
set_option maxRecDepth 20000 in
set_option maxHeartbeats 4000000 in
theorem kX7_paidInRow (l : Launch) {a : Nat → Nat} {D : va_G} {tI tJ tB tS : ClassId} {kK kV : Nat → Nat} {σ τ : St}  {p1 : Int32} {x : Int64} (h : fX7_paidInRow σ p1 = some (τ, x)) : CtL l yX7_paidInRow cX7_paidInRow 7 (some .long) 3 67 (vC a D tI tJ tB tS kK kV) σ [.ref (a 43), .int p1] τ x := g_metL (by decide) (Nat.le_of_ble_eq_true rfl) rfl (fun X _ hX hR => sX7_paidInRow (r := (τ, x)) hX hR h)
def fX7_morningOf (σ : St) (p1 : Int32) : Option (St × Int64) :=
  cl (fX6_hasBaker σ (p1 - (10 : Int32))) fun (σ_1 : St) (t_2 : Int32) => (if t_2 = 0 then cl (fX6_hasBaker σ_1 (p1 - (20 : Int32))) fun (σ_3 : St) (t_4 : Int32) => (if t_4 = 0 then cl (fX6_hasSort σ_3 (p1 - (30 : Int32))) fun (σ_5 : St) (t_6 : Int32) => (if t_6 = 0 then some (σ_5, (0 : Int64)) else cl (fX7_paidInRow σ_5 (p1 - (30 : Int32))) fun (σ_7 : St) (t_8 : Int64) => some (σ_7, t_8)) else chk (inb (p1 - (20 : Int32)) 4) (cl (fX6_price σ_3 (σ_3.1 46 (ix (p1 - (20 : Int32))))) fun (σ_9 : St) (t_10 : Int32) => some (σ_9, ((t_10).toInt64)))) else cl (fX6_everyone σ_1 ) fun (σ_11 : St) (t_12 : Int32) => chk (inb t_12 16) (some (σ_11, (((((σ_11.1 48 (ix t_12)) >>> ((p1 - (10 : Int32)) &&& 31)) &&& (1 : Int32))).toInt64))))
set_option maxRecDepth 20000 in
set_option maxHeartbeats 4000000 in
theorem sX7_morningOf {X : CX} {a : Nat → Nat} {D : va_G} {tI tJ tB tS : ClassId} {kK kV : Nat → Nat} {σ : St}  {p1 : Int32} {r : St × Int64} (hX : OKX X (vC a D tI tJ tB tS kK kV) cX7_morningOf 2 RX7 4 93) (hR : ∀ (pc : Nat) (lv : List (Nat × Value)), decode cX7_morningOf pc = .ok (.lreturn, 1) → G X (vC a D tI tJ tB tS kK kV) 2 r.1 pc lv [.long r.2])  (h : fX7_morningOf σ p1 = some r) : G X (vC a D tI tJ tB tS kK kV) 2 σ 0 [(0, .ref (a 43)), (1, .int p1)] [] := by
  unfold fX7_morningOf at h
  refine g_aload_n hX 0 dX7_morningOf_0 rfl rfl ?_
  refine gCX7_9_43 hX dX7_morningOf_1 ?_
  refine g_iload_n hX 1 dX7_morningOf_4 rfl rfl ?_
  refine g_bipush hX (10) dX7_morningOf_5 (by decide) ?_
  refine g_isub hX dX7_morningOf_7 ?_
  refine g_callNI (As := [.int (p1 - (10 : Int32))]) (rest := []) hX 2 (Nat.le_of_ble_eq_true rfl) rfl rfl miX6_hasBaker mvX6_hasBaker lkX7_264 (by decide) rfl (Nat.le_of_ble_eq_true rfl) rfl dX7_morningOf_8 (fun τ x ho => kX6_hasBaker _ ho) h (fun σ_1 t_2 h => ?_)
  refine g_if_eq hX 35 dX7_morningOf_11 (by decide) h (fun h => ?_) (fun h => ?_)
  · refine g_aload_n hX 0 dX7_morningOf_35 rfl rfl ?_
    refine gCX7_9_43 hX dX7_morningOf_36 ?_
    refine g_iload_n hX 1 dX7_morningOf_39 rfl rfl ?_
    refine g_bipush hX (20) dX7_morningOf_40 (by decide) ?_
    refine g_isub hX dX7_morningOf_42 ?_
    refine g_callNI (As := [.int (p1 - (20 : Int32))]) (rest := []) hX 2 (Nat.le_of_ble_eq_true rfl) rfl rfl miX6_hasBaker mvX6_hasBaker lkX7_264 (by decide) rfl (Nat.le_of_ble_eq_true rfl) rfl dX7_morningOf_43 (fun τ x ho => kX6_hasBaker _ ho) h (fun σ_3 t_4 h => ?_)
    refine g_if_eq hX 67 dX7_morningOf_46 (by decide) h (fun h => ?_) (fun h => ?_)
    · refine g_aload_n hX 0 dX7_morningOf_67 rfl rfl ?_
      refine gCX7_9_43 hX dX7_morningOf_68 ?_
      refine g_iload_n hX 1 dX7_morningOf_71 rfl rfl ?_
      refine g_bipush hX (30) dX7_morningOf_72 (by decide) ?_
      refine g_isub hX dX7_morningOf_74 ?_
      refine g_callNI (As := [.int (p1 - (30 : Int32))]) (rest := []) hX 2 (Nat.le_of_ble_eq_true rfl) rfl rfl miX6_hasSort mvX6_hasSort lkX7_267 (by decide) rfl (Nat.le_of_ble_eq_true rfl) rfl dX7_morningOf_75 (fun τ x ho => kX6_hasSort _ ho) h (fun σ_5 t_6 h => ?_)
      refine g_if_eq hX 92 dX7_morningOf_78 (by decide) h (fun h => ?_) (fun h => ?_)
      · refine g_lconst hX (0) dX7_morningOf_92 (by decide) ?_
        exact g_retl hR h dX7_morningOf_93
      · refine g_aload_n hX 0 dX7_morningOf_81 rfl rfl ?_
        refine g_iload_n hX 1 dX7_morningOf_82 rfl rfl ?_
        refine g_bipush hX (30) dX7_morningOf_83 (by decide) ?_
        refine g_isub hX dX7_morningOf_85 ?_
        refine g_callVL (As := [.int (p1 - (30 : Int32))]) (rest := []) hX 43 (Nat.le_of_ble_eq_true rfl) rfl rfl miX7_paidInRow mvX7_paidInRow lkX7_270 (by decide) rfl (Nat.le_of_ble_eq_true rfl) rfl dX7_morningOf_86 (fun τ x ho => kX7_paidInRow _ ho) h (fun σ_7 t_8 h => ?_)
        refine g_goto hX 93 dX7_morningOf_89 (by decide) ?_
        exact g_retl hR h dX7_morningOf_93
    · refine g_aload_n hX 0 dX7_morningOf_49 rfl rfl ?_
      refine gCX7_9_43 hX dX7_morningOf_50 ?_
      refine g_aload_n hX 0 dX7_morningOf_53 rfl rfl ?_
      refine gCX7_30_43 hX dX7_morningOf_54 ?_
      refine g_iload_n hX 1 dX7_morningOf_57 rfl rfl ?_
      refine g_bipush hX (20) dX7_morningOf_58 (by decide) ?_
      refine g_isub hX dX7_morningOf_60 ?_
      refine alC_46 hX dX7_morningOf_61 h (fun h => ?_)
      refine g_callNI (As := [.int (σ_3.1 46 (ix (p1 - (20 : Int32))))]) (rest := []) hX 2 (Nat.le_of_ble_eq_true rfl) rfl rfl miX6_price mvX6_price lkX7_151 (by decide) rfl (Nat.le_of_ble_eq_true rfl) rfl dX7_morningOf_62 (fun τ x ho => kX6_price _ ho) h (fun σ_9 t_10 h => ?_)
      refine g_i2l hX dX7_morningOf_65 ?_
      exact g_retl hR h dX7_morningOf_66
  · refine g_aload_n hX 0 dX7_morningOf_14 rfl rfl ?_
    refine gCX7_36_43 hX dX7_morningOf_15 ?_
    refine g_aload_n hX 0 dX7_morningOf_18 rfl rfl ?_
    refine gCX7_9_43 hX dX7_morningOf_19 ?_
    refine g_callNI (As := []) (rest := [.ref (a 48)]) hX 2 (Nat.le_of_ble_eq_true rfl) rfl rfl miX6_everyone mvX6_everyone lkX7_133 (by decide) rfl (Nat.le_of_ble_eq_true rfl) rfl dX7_morningOf_22 (fun τ x ho => kX6_everyone _ ho) h (fun σ_11 t_12 h => ?_)
    refine alC_48 hX dX7_morningOf_25 h (fun h => ?_)
    refine g_iload_n hX 1 dX7_morningOf_26 rfl rfl ?_
    refine g_bipush hX (10) dX7_morningOf_27 (by decide) ?_
    refine g_isub hX dX7_morningOf_29 ?_
    refine g_ishr hX dX7_morningOf_30 ?_
    refine g_iconst hX (1) dX7_morningOf_31 (by decide) ?_
    refine g_iand hX dX7_morningOf_32 ?_
    refine g_i2l hX dX7_morningOf_33 ?_
    exact g_retl hR h dX7_morningOf_34
set_option maxRecDepth 20000 in
set_option maxHeartbeats 4000000 in
theorem kX7_morningOf (l : Launch) {a : Nat → Nat} {D : va_G} {tI tJ tB tS : ClassId} {kK kV : Nat → Nat} {σ τ : St}  {p1 : Int32} {x : Int64} (h : fX7_morningOf σ p1 = some (τ, x)) : CtL l yX7_morningOf cX7_morningOf 2 (some .long) 4 93 (vC a D tI tJ tB tS kK kV) σ [.ref (a 43), .int p1] τ x := g_metL (by decide) (Nat.le_of_ble_eq_true rfl) rfl (fun X _ hX hR => sX7_morningOf (r := (τ, x)) hX hR h)
def fX7_mornings_L19 (q2_19 : Int32) (q3_19 : Int32) (q6_19 : Int64) (q8_19 : Int32) (kx19 : St → Int64 → Int32 → Option (St × Int64)) : Nat → St → Int64 → Int32 → Option (St × Int64)
  | 0, _, _, _ => none
  | n19 + 1, σ, c4_19, c9_19 =>
    (if (σ.1 2 0) ≤ c9_19 then kx19 σ c4_19 c9_19 else bnd ((c4_19 * (6364136223846793005 : Int64)) + (1442695040888963407 : Int64)) fun (x4_5 : Int64) => chk (decide (¬ (100 : Int64) = 0)) (cl (fX7_drawnStep σ c9_19 ((((((x4_5).toUInt64 >>> (((33 : Int32)).toInt64.toUInt64 &&& Int64.toUInt64 63)).toInt64) - (((x4_5).toUInt64 >>> (((33 : Int32)).toInt64.toUInt64 &&& Int64.toUInt64 63)).toInt64) / (100 : Int64) * (100 : Int64))).toInt32)) fun (σ_6 : St) (t_7 : Int32) => chk (inb c9_19 4) (bnd (sI σ_6 46 (ix c9_19) t_7) fun (σ_8 : St) => bnd (c9_19 + (1 : Int32)) fun (x9_9 : Int32) => fX7_mornings_L19 q2_19 q3_19 q6_19 q8_19 kx19 n19 σ_8 x4_5 x9_9)))
def fX7_mornings_L10 (q2_10 : Int32) (q3_10 : Int32) (kx10 : St → Int64 → Int64 → Int32 → Option (St × Int64)) : Nat → St → Int64 → Int64 → Int32 → Option (St × Int64)
  | 0, _, _, _, _ => none
  | n10 + 1, σ, c4_10, c6_10, c8_10 =>
    (if q2_10 ≤ c8_10 then kx10 σ c4_10 c6_10 c8_10 else bnd (0 : Int32) fun (x9_4 : Int32) => fX7_mornings_L19 q2_10 q3_10 c6_10 c8_10 (fun (σ_10 : St) (x4_11 : Int64) (x9_12 : Int32) => cl (fX7_readRow σ_10 ) fun (σ_13 : St) (t_14 : Unit) => cl (fX7_morningOf σ_13 q3_10) fun (σ_15 : St) (t_16 : Int64) => bnd (c6_10 + t_16) fun (x6_17 : Int64) => bnd (c8_10 + (1 : Int32)) fun (x8_18 : Int32) => fX7_mornings_L10 q2_10 q3_10 kx10 n10 σ_15 x4_11 x6_17 x8_18) FU σ c4_10 x9_4)
def fX7_mornings (σ : St) (p1 : Int32) (p2 : Int32) (p3 : Int32) : Option (St × Int64) :=
  bnd ((p1).toInt64) fun (x4_1 : Int64) => bnd (0 : Int64) fun (x6_2 : Int64) => bnd (0 : Int32) fun (x8_3 : Int32) => fX7_mornings_L10 p2 p3 (fun (σ_19 : St) (x4_20 : Int64) (x6_21 : Int64) (x8_22 : Int32) => some (σ_19, x6_21)) FU σ x4_1 x6_2 x8_3
set_option maxRecDepth 20000 in
set_option maxHeartbeats 4000000 in
theorem sX7_mornings_L19 {X : CX} {a : Nat → Nat} {D : va_G} {tI tJ tB tS : ClassId} {kK kV : Nat → Nat} {q2_19 : Int32} {q3_19 : Int32} {q6_19 : Int64} {q8_19 : Int32} {kx19 : St → Int64 → Int32 → Option (St × Int64)} {r : St × Int64} (hX : OKX X (vC a D tI tJ tB tS kK kV) cX7_mornings 10 RX7 5 114) (hR : ∀ (pc : Nat) (lv : List (Nat × Value)), decode cX7_mornings pc = .ok (.lreturn, 1) → G X (vC a D tI tJ tB tS kK kV) 10 r.1 pc lv [.long r.2]) (hkx19 : ∀ (σ : St) (e4_19 : Int64) (e9_19 : Int32), kx19 σ e4_19 e9_19 = some r → G X (vC a D tI tJ tB tS kK kV) 10 σ 72 [(0, .ref (a 43)), (2, .int q2_19), (3, .int q3_19), (6, .long q6_19), (8, .int q8_19), (4, .long e4_19)] []) : ∀ (n : Nat) (σ : St) (c4_19 : Int64) (c9_19 : Int32), fX7_mornings_L19 q2_19 q3_19 q6_19 q8_19 kx19 n σ c4_19 c9_19 = some r → G X (vC a D tI tJ tB tS kK kV) 10 σ 19 [(0, .ref (a 43)), (2, .int q2_19), (3, .int q3_19), (6, .long q6_19), (8, .int q8_19), (4, .long c4_19), (9, .int c9_19)] [] := by
  intro n
  induction n with
  | zero => intro σ c4_19 c9_19 h; rw [fX7_mornings_L19] at h; exact absurd h (by simp)
  | succ n19 ih19 =>
    intro σ c4_19 c9_19 h
    rw [fX7_mornings_L19] at h
    refine g_iload hX 6 dX7_mornings_19 rfl ?_
    refine g_aload_n hX 0 dX7_mornings_21 rfl rfl ?_
    refine gCX7_9_43 hX dX7_mornings_22 ?_
    refine gCX7_85_2 hX dX7_mornings_25 ?_
    refine g_icmp_ge hX 72 dX7_mornings_28 (by decide) h (fun h => ?_) (fun h => ?_)
    · exact g_sub [0, 1, 2, 3, 4, 5] rfl (hkx19 _ _ _ h)
    · refine g_lload hX 5 dX7_mornings_31 rfl ?_
      refine g_ldc2 hX lkX7_254 dX7_mornings_33 ?_
      refine g_lmul hX dX7_mornings_36 ?_
      refine g_ldc2 hX lkX7_256 dX7_mornings_37 ?_
      refine g_ladd hX dX7_mornings_40 ?_
      refine g_lstore (lv' := fun x4_5 => [(4, .long x4_5), (0, .ref (a 43)), (2, .int q2_19), (3, .int q3_19), (6, .long q6_19), (8, .int q8_19), (9, .int c9_19)]) hX dX7_mornings_41 (by decide) (fun _ => rfl) h (fun x4_5 h => ?_)
      refine g_aload_n hX 1 dX7_mornings_43 rfl rfl ?_
      refine gCX7_30_43 hX dX7_mornings_44 ?_
      refine g_iload hX 6 dX7_mornings_47 rfl ?_
      refine g_aload_n hX 1 dX7_mornings_49 rfl rfl ?_
      refine g_iload hX 6 dX7_mornings_50 rfl ?_
      refine g_lload hX 0 dX7_mornings_52 rfl ?_
      refine g_bipush hX (33) dX7_mornings_54 (by decide) ?_
      refine g_lushr hX dX7_mornings_56 ?_
      refine g_ldc2 hX lkX7_198 dX7_mornings_57 ?_
      refine g_lrem hX dX7_mornings_60 h (fun h => ?_)
      refine g_l2i hX dX7_mornings_61 ?_
      refine g_callVI (As := [.int c9_19, .int ((((((x4_5).toUInt64 >>> (((33 : Int32)).toInt64.toUInt64 &&& Int64.toUInt64 63)).toInt64) - (((x4_5).toUInt64 >>> (((33 : Int32)).toInt64.toUInt64 &&& Int64.toUInt64 63)).toInt64) / (100 : Int64) * (100 : Int64))).toInt32)]) (rest := [.int c9_19, .ref (a 46)]) hX 43 (Nat.le_of_ble_eq_true rfl) rfl rfl miX7_drawnStep mvX7_drawnStep lkX7_258 (by decide) rfl (Nat.le_of_ble_eq_true rfl) rfl dX7_mornings_62 (fun τ x ho => kX7_drawnStep _ ho) h (fun σ_6 t_7 h => ?_)
      refine asC_46 hX dX7_mornings_65 h (fun σ_8 h => ?_)
      refine g_iinc (y := (1)) (lv' := fun x9_9 => [(9, .int x9_9), (4, .long x4_5), (0, .ref (a 43)), (2, .int q2_19), (3, .int q3_19), (6, .long q6_19), (8, .int q8_19)]) hX 6 dX7_mornings_66 rfl (by decide) (by decide) (fun _ => rfl) h (fun x9_9 h => ?_)
      refine g_goto hX 19 dX7_mornings_69 (by decide) ?_
      exact g_sub [2, 3, 4, 5, 6, 1, 0] rfl (ih19 _ _ _ h)
set_option maxRecDepth 20000 in
set_option maxHeartbeats 4000000 in
theorem sX7_mornings_L10 {X : CX} {a : Nat → Nat} {D : va_G} {tI tJ tB tS : ClassId} {kK kV : Nat → Nat} {q2_10 : Int32} {q3_10 : Int32} {kx10 : St → Int64 → Int64 → Int32 → Option (St × Int64)} {r : St × Int64} (hX : OKX X (vC a D tI tJ tB tS kK kV) cX7_mornings 10 RX7 5 114) (hR : ∀ (pc : Nat) (lv : List (Nat × Value)), decode cX7_mornings pc = .ok (.lreturn, 1) → G X (vC a D tI tJ tB tS kK kV) 10 r.1 pc lv [.long r.2]) (hkx10 : ∀ (σ : St) (e4_10 : Int64) (e6_10 : Int64) (e8_10 : Int32), kx10 σ e4_10 e6_10 e8_10 = some r → G X (vC a D tI tJ tB tS kK kV) 10 σ 92 [(6, .long e6_10)] []) : ∀ (n : Nat) (σ : St) (c4_10 : Int64) (c6_10 : Int64) (c8_10 : Int32), fX7_mornings_L10 q2_10 q3_10 kx10 n σ c4_10 c6_10 c8_10 = some r → G X (vC a D tI tJ tB tS kK kV) 10 σ 10 [(0, .ref (a 43)), (2, .int q2_10), (3, .int q3_10), (4, .long c4_10), (6, .long c6_10), (8, .int c8_10)] [] := by
  intro n
  induction n with
  | zero => intro σ c4_10 c6_10 c8_10 h; rw [fX7_mornings_L10] at h; exact absurd h (by simp)
  | succ n10 ih10 =>
    intro σ c4_10 c6_10 c8_10 h
    rw [fX7_mornings_L10] at h
    refine g_iload hX 5 dX7_mornings_10 rfl ?_
    refine g_iload_n hX 1 dX7_mornings_12 rfl rfl ?_
    refine g_icmp_ge hX 92 dX7_mornings_13 (by decide) h (fun h => ?_) (fun h => ?_)
    · exact g_sub [4] rfl (hkx10 _ _ _ _ h)
    · refine g_iconst hX (0) dX7_mornings_16 (by decide) ?_
      refine g_istore (lv' := fun x9_4 => [(9, .int x9_4), (0, .ref (a 43)), (2, .int q2_10), (3, .int q3_10), (4, .long c4_10), (6, .long c6_10), (8, .int c8_10)]) hX dX7_mornings_17 (by decide) (fun _ => rfl) h (fun x9_4 h => ?_)
      refine g_sub [1, 2, 3, 5, 6, 4, 0] rfl (sX7_mornings_L19 hX hR (fun σ_10 x4_11 x9_12 h => ?_) FU _ _ _ h)
      refine g_aload_n hX 0 dX7_mornings_72 rfl rfl ?_
      refine g_callVV (As := []) (rest := []) hX 43 (Nat.le_of_ble_eq_true rfl) rfl rfl miX7_readRow mvX7_readRow lkX7_167 (by decide) rfl (Nat.le_of_ble_eq_true rfl) rfl dX7_mornings_73 (fun τ x ho => kX7_readRow _ ho) h (fun σ_13 t_14 h => ?_)
      refine g_lload hX 3 dX7_mornings_76 rfl ?_
      refine g_aload_n hX 0 dX7_mornings_78 rfl rfl ?_
      refine g_iload_n hX 2 dX7_mornings_79 rfl rfl ?_
      refine g_callVL (As := [.int q3_10]) (rest := [.long c6_10]) hX 43 (Nat.le_of_ble_eq_true rfl) rfl rfl miX7_morningOf mvX7_morningOf lkX7_261 (by decide) rfl (Nat.le_of_ble_eq_true rfl) rfl dX7_mornings_80 (fun τ x ho => kX7_morningOf _ ho) h (fun σ_15 t_16 h => ?_)
      refine g_ladd hX dX7_mornings_83 ?_
      refine g_lstore (lv' := fun x6_17 => [(6, .long x6_17), (0, .ref (a 43)), (2, .int q2_10), (3, .int q3_10), (8, .int c8_10), (4, .long x4_11)]) hX dX7_mornings_84 (by decide) (fun _ => rfl) h (fun x6_17 h => ?_)
      refine g_iinc (y := (1)) (lv' := fun x8_18 => [(8, .int x8_18), (6, .long x6_17), (0, .ref (a 43)), (2, .int q2_10), (3, .int q3_10), (4, .long x4_11)]) hX 4 dX7_mornings_86 rfl (by decide) (by decide) (fun _ => rfl) h (fun x8_18 h => ?_)
      refine g_goto hX 10 dX7_mornings_89 (by decide) ?_
      exact g_sub [2, 3, 4, 5, 1, 0] rfl (ih10 _ _ _ _ h)
set_option maxRecDepth 20000 in
set_option maxHeartbeats 4000000 in
theorem sX7_mornings {X : CX} {a : Nat → Nat} {D : va_G} {tI tJ tB tS : ClassId} {kK kV : Nat → Nat} {σ : St}  {p1 : Int32} {p2 : Int32} {p3 : Int32} {r : St × Int64} (hX : OKX X (vC a D tI tJ tB tS kK kV) cX7_mornings 10 RX7 5 114) (hR : ∀ (pc : Nat) (lv : List (Nat × Value)), decode cX7_mornings pc = .ok (.lreturn, 1) → G X (vC a D tI tJ tB tS kK kV) 10 r.1 pc lv [.long r.2])  (h : fX7_mornings σ p1 p2 p3 = some r) : G X (vC a D tI tJ tB tS kK kV) 10 σ 0 [(0, .ref (a 43)), (1, .int p1), (2, .int p2), (3, .int p3)] [] := by
  unfold fX7_mornings at h
  refine g_iload_n hX 1 dX7_mornings_0 rfl rfl ?_
  refine g_i2l hX dX7_mornings_1 ?_
  refine g_lstore (lv' := fun x4_1 => [(4, .long x4_1), (0, .ref (a 43)), (1, .int p1), (2, .int p2), (3, .int p3)]) hX dX7_mornings_2 (by decide) (fun _ => rfl) h (fun x4_1 h => ?_)
  refine g_lconst hX (0) dX7_mornings_4 (by decide) ?_
  refine g_lstore (lv' := fun x6_2 => [(6, .long x6_2), (4, .long x4_1), (0, .ref (a 43)), (1, .int p1), (2, .int p2), (3, .int p3)]) hX dX7_mornings_5 (by decide) (fun _ => rfl) h (fun x6_2 h => ?_)
  refine g_iconst hX (0) dX7_mornings_7 (by decide) ?_
  refine g_istore (lv' := fun x8_3 => [(8, .int x8_3), (6, .long x6_2), (4, .long x4_1), (0, .ref (a 43)), (1, .int p1), (2, .int p2), (3, .int p3)]) hX dX7_mornings_8 (by decide) (fun _ => rfl) h (fun x8_3 h => ?_)
  refine g_sub [3, 5, 6, 2, 1, 0] rfl (sX7_mornings_L10 hX hR (fun σ_19 x4_20 x6_21 x8_22 h => ?_) FU _ _ _ _ h)
  refine g_lload hX 0 dX7_mornings_92 rfl ?_
  exact g_retl hR h dX7_mornings_94
set_option maxRecDepth 20000 in
set_option maxHeartbeats 4000000 in
theorem kX7_mornings (l : Launch) {a : Nat → Nat} {D : va_G} {tI tJ tB tS : ClassId} {kK kV : Nat → Nat} {σ τ : St}  {p1 : Int32} {p2 : Int32} {p3 : Int32} {x : Int64} (h : fX7_mornings σ p1 p2 p3 = some (τ, x)) : CtL l yX7_mornings cX7_mornings 10 (some .long) 5 114 (vC a D tI tJ tB tS kK kV) σ [.ref (a 43), .int p1, .int p2, .int p3] τ x := g_metL (by decide) (Nat.le_of_ble_eq_true rfl) rfl (fun X _ hX hR => sX7_mornings (r := (τ, x)) hX hR h)
def fX8_run (σ : St) (p1 : Int32) (p2 : Int32) (p3 : Int32) : Option (St × Int64) :=
  (if p1 < 0 then some (σ, (-1 : Int64)) else (if (999999999 : Int32) < p1 then some (σ, (-1 : Int64)) else (if p2 < (1 : Int32) then some (σ, (-1 : Int64)) else (if p2 ≤ (400 : Int32) then cl (fX6_hasBaker σ (p3 - (10 : Int32))) fun (σ_1 : St) (t_2 : Int32) => (jp (fun (σ_3 : St)  (t_4 : Int32) => bnd t_4 fun (x4_5 : Int32) => (if x4_5 = 0 then some (σ_3, (-1 : Int64)) else cl (fX7_settle σ_3 ) fun (σ_6 : St) (t_7 : Int32) => (if t_7 = 0 then some (σ_6, (-1 : Int64)) else cl (fX7_mornings σ_6 p1 p2 p3) fun (σ_8 : St) (t_9 : Int64) => some (σ_8, t_9)))) fun j74 => jp (fun (σ_10 : St)   => j74 σ_10 (1 : Int32)) fun j69 => (if t_2 = 0 then cl (fX6_hasBaker σ_1 (p3 - (20 : Int32))) fun (σ_11 : St) (t_12 : Int32) => (if t_12 = 0 then cl (fX6_hasSort σ_11 (p3 - (30 : Int32))) fun (σ_13 : St) (t_14 : Int32) => (if t_14 = 0 then j74 σ_13 (0 : Int32) else j69 σ_13) else j69 σ_11) else j69 σ_1)) else some (σ, (-1 : Int64))))))
set_option maxRecDepth 20000 in
set_option maxHeartbeats 4000000 in
theorem sX8_run {X : CX} {a : Nat → Nat} {D : va_G} {tI tJ tB tS : ClassId} {kK kV : Nat → Nat} {σ : St}  {p1 : Int32} {p2 : Int32} {p3 : Int32} {r : St × Int64} (hX : OKX X (vC a D tI tJ tB tS kK kV) cX8_run 5 RX8 6 143) (hR : ∀ (pc : Nat) (lv : List (Nat × Value)), decode cX8_run pc = .ok (.lreturn, 1) → G X (vC a D tI tJ tB tS kK kV) 5 r.1 pc lv [.long r.2])  (h : fX8_run σ p1 p2 p3 = some r) : G X (vC a D tI tJ tB tS kK kV) 5 σ 0 [(0, .ref (a 0)), (1, .int p1), (2, .int p2), (3, .int p3)] [] := by
  unfold fX8_run at h
  refine g_iload_n hX 1 dX8_run_0 rfl rfl ?_
  refine g_if_lt hX 23 dX8_run_1 (by decide) h (fun h => ?_) (fun h => ?_)
  · refine g_ldc2 hX lkX8_178 dX8_run_23 ?_
    exact g_retl hR h dX8_run_26
  · refine g_iload_n hX 1 dX8_run_4 rfl rfl ?_
    refine g_ldc_w hX lkX8_318 dX8_run_5 ?_
    refine g_icmp_gt hX 23 dX8_run_8 (by decide) h (fun h => ?_) (fun h => ?_)
    · refine g_ldc2 hX lkX8_178 dX8_run_23 ?_
      exact g_retl hR h dX8_run_26
    · refine g_iload_n hX 2 dX8_run_11 rfl rfl ?_
      refine g_iconst hX (1) dX8_run_12 (by decide) ?_
      refine g_icmp_lt hX 23 dX8_run_13 (by decide) h (fun h => ?_) (fun h => ?_)
      · refine g_ldc2 hX lkX8_178 dX8_run_23 ?_
        exact g_retl hR h dX8_run_26
      · refine g_iload_n hX 2 dX8_run_16 rfl rfl ?_
        refine g_sipush hX (400) dX8_run_17 (by decide) ?_
        refine g_icmp_le hX 27 dX8_run_20 (by decide) h (fun h => ?_) (fun h => ?_)
        · refine g_aload_n hX 0 dX8_run_27 rfl rfl ?_
          refine gCX8_27_0 hX dX8_run_28 ?_
          refine g_iload_n hX 3 dX8_run_31 rfl rfl ?_
          refine g_bipush hX (10) dX8_run_32 (by decide) ?_
          refine g_isub hX dX8_run_34 ?_
          refine g_callNI (As := [.int (p3 - (10 : Int32))]) (rest := []) hX 2 (Nat.le_of_ble_eq_true rfl) rfl rfl miX6_hasBaker mvX6_hasBaker lkX8_125 (by decide) rfl (Nat.le_of_ble_eq_true rfl) rfl dX8_run_35 (fun τ x ho => kX6_hasBaker _ ho) h (fun σ_1 t_2 h => ?_)
          refine jp_inv (P := fun f => ∀ (σ_3 : St)  (t_4 : Int32), f σ_3 t_4 = some r → G X (vC a D tI tJ tB tS kK kV) 5 σ_3 74 [(0, .ref (a 0)), (1, .int p1), (2, .int p2), (3, .int p3)] [.int t_4]) h (fun σ_3 t_4 h => ?_) (fun j74 hj74 h => ?_)
          · refine g_istore (lv' := fun x4_5 => [(4, .int x4_5), (0, .ref (a 0)), (1, .int p1), (2, .int p2), (3, .int p3)]) hX dX8_run_74 (by decide) (fun _ => rfl) h (fun x4_5 h => ?_)
            refine g_iload hX 0 dX8_run_76 rfl ?_
            refine g_if_eq hX 104 dX8_run_78 (by decide) h (fun h => ?_) (fun h => ?_)
            · refine g_ldc2 hX lkX8_178 dX8_run_104 ?_
              exact g_retl hR h dX8_run_107
            · refine g_aload_n hX 1 dX8_run_81 rfl rfl ?_
              refine gCX8_55_0 hX dX8_run_82 ?_
              refine g_callNI (As := []) (rest := []) hX 43 (Nat.le_of_ble_eq_true rfl) rfl rfl miX7_settle mvX7_settle lkX8_173 (by decide) rfl (Nat.le_of_ble_eq_true rfl) rfl dX8_run_85 (fun τ x ho => kX7_settle _ ho) h (fun σ_6 t_7 h => ?_)
              refine g_if_eq hX 104 dX8_run_88 (by decide) h (fun h => ?_) (fun h => ?_)
              · refine g_ldc2 hX lkX8_178 dX8_run_104 ?_
                exact g_retl hR h dX8_run_107
              · refine g_aload_n hX 1 dX8_run_91 rfl rfl ?_
                refine gCX8_55_0 hX dX8_run_92 ?_
                refine g_iload_n hX 2 dX8_run_95 rfl rfl ?_
                refine g_iload_n hX 3 dX8_run_96 rfl rfl ?_
                refine g_iload_n hX 4 dX8_run_97 rfl rfl ?_
                refine g_callNL (As := [.int p1, .int p2, .int p3]) (rest := []) hX 43 (Nat.le_of_ble_eq_true rfl) rfl rfl miX7_mornings mvX7_mornings lkX8_319 (by decide) rfl (Nat.le_of_ble_eq_true rfl) rfl dX8_run_98 (fun τ x ho => kX7_mornings _ ho) h (fun σ_8 t_9 h => ?_)
                refine g_goto hX 107 dX8_run_101 (by decide) ?_
                exact g_retl hR h dX8_run_107
          refine jp_inv (P := fun f => ∀ (σ_10 : St)  , f σ_10 = some r → G X (vC a D tI tJ tB tS kK kV) 5 σ_10 69 [(0, .ref (a 0)), (1, .int p1), (2, .int p2), (3, .int p3)] []) h (fun σ_10 h => ?_) (fun j69 hj69 h => ?_)
          · refine g_iconst hX (1) dX8_run_69 (by decide) ?_
            refine g_goto hX 74 dX8_run_70 (by decide) ?_
            exact g_sub [0, 1, 2, 3] rfl (hj74 _ _ h)
          refine g_if_ne hX 69 dX8_run_38 (by decide) h (fun h => ?_) (fun h => ?_)
          · exact g_sub [0, 1, 2, 3] rfl (hj69 _ h)
          · refine g_aload_n hX 0 dX8_run_41 rfl rfl ?_
            refine gCX8_27_0 hX dX8_run_42 ?_
            refine g_iload_n hX 3 dX8_run_45 rfl rfl ?_
            refine g_bipush hX (20) dX8_run_46 (by decide) ?_
            refine g_isub hX dX8_run_48 ?_
            refine g_callNI (As := [.int (p3 - (20 : Int32))]) (rest := []) hX 2 (Nat.le_of_ble_eq_true rfl) rfl rfl miX6_hasBaker mvX6_hasBaker lkX8_125 (by decide) rfl (Nat.le_of_ble_eq_true rfl) rfl dX8_run_49 (fun τ x ho => kX6_hasBaker _ ho) h (fun σ_11 t_12 h => ?_)
            refine g_if_ne hX 69 dX8_run_52 (by decide) h (fun h => ?_) (fun h => ?_)
            · exact g_sub [0, 1, 2, 3] rfl (hj69 _ h)
            · refine g_aload_n hX 0 dX8_run_55 rfl rfl ?_
              refine gCX8_27_0 hX dX8_run_56 ?_
              refine g_iload_n hX 3 dX8_run_59 rfl rfl ?_
              refine g_bipush hX (30) dX8_run_60 (by decide) ?_
              refine g_isub hX dX8_run_62 ?_
              refine g_callNI (As := [.int (p3 - (30 : Int32))]) (rest := []) hX 2 (Nat.le_of_ble_eq_true rfl) rfl rfl miX6_hasSort mvX6_hasSort lkX8_214 (by decide) rfl (Nat.le_of_ble_eq_true rfl) rfl dX8_run_63 (fun τ x ho => kX6_hasSort _ ho) h (fun σ_13 t_14 h => ?_)
              refine g_if_eq hX 73 dX8_run_66 (by decide) h (fun h => ?_) (fun h => ?_)
              · refine g_iconst hX (0) dX8_run_73 (by decide) ?_
                exact g_sub [0, 1, 2, 3] rfl (hj74 _ _ h)
              · exact g_sub [0, 1, 2, 3] rfl (hj69 _ h)
        · refine g_ldc2 hX lkX8_178 dX8_run_23 ?_
          exact g_retl hR h dX8_run_26
set_option maxRecDepth 20000 in
set_option maxHeartbeats 4000000 in
theorem kX8_run (l : Launch) {a : Nat → Nat} {D : va_G} {tI tJ tB tS : ClassId} {kK kV : Nat → Nat} {σ τ : St}  {p1 : Int32} {p2 : Int32} {p3 : Int32} {x : Int64} (h : fX8_run σ p1 p2 p3 = some (τ, x)) : CtL l yX8_run cX8_run 5 (some .long) 6 143 (vC a D tI tJ tB tS kK kV) σ [.ref (a 0), .int p1, .int p2, .int p3] τ x := g_metL (by decide) (Nat.le_of_ble_eq_true rfl) rfl (fun X _ hX hR => sX8_run (r := (τ, x)) hX hR h)
def fX5_copyFrom_i27_22 (σ : St)  : Option (St × Unit) :=
  bnd (cpI σ 23 28 (0 : Int32) (0 : Int32) (4 : Int32)) fun (σ_1 : St) => bnd (cpI σ_1 24 29 (0 : Int32) (0 : Int32) (32 : Int32)) fun (σ_2 : St) => bnd (cpI σ_2 25 30 (0 : Int32) (0 : Int32) (4 : Int32)) fun (σ_3 : St) => bnd (sI σ_3 27 3 (σ_3.1 22 3)) fun (σ_4 : St) => bnd (sI σ_4 27 4 (σ_4.1 22 4)) fun (σ_5 : St) => some (σ_5, ())
set_option maxRecDepth 20000 in
set_option maxHeartbeats 4000000 in
theorem sX5_copyFrom_i27_22 {X : CX} {a : Nat → Nat} {D : va_G} {tI tJ tB tS : ClassId} {kK kV : Nat → Nat} {σ : St}   {r : St × Unit} (hX : OKX X (vC a D tI tJ tB tS kK kV) cX5_copyFrom 2 RX5 1 60) (hR : ∀ (pc : Nat) (lv : List (Nat × Value)), decode cX5_copyFrom pc = .ok (.return_, 1) → G X (vC a D tI tJ tB tS kK kV) 2 r.1 pc lv [])  (h : fX5_copyFrom_i27_22 σ  = some r) : G X (vC a D tI tJ tB tS kK kV) 2 σ 0 [(0, .ref (a 27)), (1, .ref (a 22))] [] := by
  unfold fX5_copyFrom_i27_22 at h
  refine g_aload_n hX 1 dX5_copyFrom_0 rfl rfl ?_
  refine gCX5_9_22 hX dX5_copyFrom_1 ?_
  refine g_iconst hX (0) dX5_copyFrom_4 (by decide) ?_
  refine g_aload_n hX 0 dX5_copyFrom_5 rfl rfl ?_
  refine gCX5_9_27 hX dX5_copyFrom_6 ?_
  refine g_iconst hX (0) dX5_copyFrom_9 (by decide) ?_
  refine g_aload_n hX 0 dX5_copyFrom_10 rfl rfl ?_
  refine gCX5_9_27 hX dX5_copyFrom_11 ?_
  refine lenC_28 hX dX5_copyFrom_14 ?_
  refine g_copyI (ty := .int) hX 23 28 0 lkX5_37 acN acS acI (Nat.le_of_ble_eq_true rfl) (Nat.le_of_ble_eq_true rfl) rfl rfl rfl rfl rfl (fun _ => rfl) (by decide) (by decide) (by decide) (by decide) (by decide) (by decide) (by decide) dX5_copyFrom_15 h (fun σ_1 h => ?_)
  refine g_aload_n hX 1 dX5_copyFrom_18 rfl rfl ?_
  refine gCX5_15_22 hX dX5_copyFrom_19 ?_
  refine g_iconst hX (0) dX5_copyFrom_22 (by decide) ?_
  refine g_aload_n hX 0 dX5_copyFrom_23 rfl rfl ?_
  refine gCX5_15_27 hX dX5_copyFrom_24 ?_
  refine g_iconst hX (0) dX5_copyFrom_27 (by decide) ?_
  refine g_aload_n hX 0 dX5_copyFrom_28 rfl rfl ?_
  refine gCX5_15_27 hX dX5_copyFrom_29 ?_
  refine lenC_29 hX dX5_copyFrom_32 ?_
  refine g_copyI (ty := .int) hX 24 29 0 lkX5_37 acN acS acI (Nat.le_of_ble_eq_true rfl) (Nat.le_of_ble_eq_true rfl) rfl rfl rfl rfl rfl (fun _ => rfl) (by decide) (by decide) (by decide) (by decide) (by decide) (by decide) (by decide) dX5_copyFrom_33 h (fun σ_2 h => ?_)
  refine g_aload_n hX 1 dX5_copyFrom_36 rfl rfl ?_
  refine gCX5_18_22 hX dX5_copyFrom_37 ?_
  refine g_iconst hX (0) dX5_copyFrom_40 (by decide) ?_
  refine g_aload_n hX 0 dX5_copyFrom_41 rfl rfl ?_
  refine gCX5_18_27 hX dX5_copyFrom_42 ?_
  refine g_iconst hX (0) dX5_copyFrom_45 (by decide) ?_
  refine g_aload_n hX 0 dX5_copyFrom_46 rfl rfl ?_
  refine gCX5_18_27 hX dX5_copyFrom_47 ?_
  refine lenC_30 hX dX5_copyFrom_50 ?_
  refine g_copyI (ty := .int) hX 25 30 0 lkX5_37 acN acS acI (Nat.le_of_ble_eq_true rfl) (Nat.le_of_ble_eq_true rfl) rfl rfl rfl rfl rfl (fun _ => rfl) (by decide) (by decide) (by decide) (by decide) (by decide) (by decide) (by decide) dX5_copyFrom_51 h (fun σ_3 h => ?_)
  refine g_aload_n hX 0 dX5_copyFrom_54 rfl rfl ?_
  refine g_aload_n hX 1 dX5_copyFrom_55 rfl rfl ?_
  refine gCX5_21_22 hX dX5_copyFrom_56 ?_
  refine pCX5_21_27 hX dX5_copyFrom_59 h (fun σ_4 h => ?_)
  refine g_aload_n hX 0 dX5_copyFrom_62 rfl rfl ?_
  refine g_aload_n hX 1 dX5_copyFrom_63 rfl rfl ?_
  refine gCX5_25_22 hX dX5_copyFrom_64 ?_
  refine pCX5_25_27 hX dX5_copyFrom_67 h (fun σ_5 h => ?_)
  exact g_retv hR h dX5_copyFrom_70
set_option maxRecDepth 20000 in
set_option maxHeartbeats 4000000 in
theorem kX5_copyFrom_i27_22 (l : Launch) {a : Nat → Nat} {D : va_G} {tI tJ tB tS : ClassId} {kK kV : Nat → Nat} {σ τ : St}   {x : Unit} (h : fX5_copyFrom_i27_22 σ  = some (τ, x)) : CtV l yX5_copyFrom cX5_copyFrom 2 none 1 60 (vC a D tI tJ tB tS kK kV) σ [.ref (a 27), .ref (a 22)] τ x := g_metV (by decide) (Nat.le_of_ble_eq_true rfl) rfl (fun X _ hX hR => sX5_copyFrom_i27_22 (r := (τ, x)) hX hR h)
def fX5_copyFrom_i31_22 (σ : St)  : Option (St × Unit) :=
  bnd (cpI σ 23 32 (0 : Int32) (0 : Int32) (4 : Int32)) fun (σ_1 : St) => bnd (cpI σ_1 24 33 (0 : Int32) (0 : Int32) (32 : Int32)) fun (σ_2 : St) => bnd (cpI σ_2 25 34 (0 : Int32) (0 : Int32) (4 : Int32)) fun (σ_3 : St) => bnd (sI σ_3 31 3 (σ_3.1 22 3)) fun (σ_4 : St) => bnd (sI σ_4 31 4 (σ_4.1 22 4)) fun (σ_5 : St) => some (σ_5, ())
set_option maxRecDepth 20000 in
set_option maxHeartbeats 4000000 in
theorem sX5_copyFrom_i31_22 {X : CX} {a : Nat → Nat} {D : va_G} {tI tJ tB tS : ClassId} {kK kV : Nat → Nat} {σ : St}   {r : St × Unit} (hX : OKX X (vC a D tI tJ tB tS kK kV) cX5_copyFrom 2 RX5 1 60) (hR : ∀ (pc : Nat) (lv : List (Nat × Value)), decode cX5_copyFrom pc = .ok (.return_, 1) → G X (vC a D tI tJ tB tS kK kV) 2 r.1 pc lv [])  (h : fX5_copyFrom_i31_22 σ  = some r) : G X (vC a D tI tJ tB tS kK kV) 2 σ 0 [(0, .ref (a 31)), (1, .ref (a 22))] [] := by
  unfold fX5_copyFrom_i31_22 at h
  refine g_aload_n hX 1 dX5_copyFrom_0 rfl rfl ?_
  refine gCX5_9_22 hX dX5_copyFrom_1 ?_
  refine g_iconst hX (0) dX5_copyFrom_4 (by decide) ?_
  refine g_aload_n hX 0 dX5_copyFrom_5 rfl rfl ?_
  refine gCX5_9_31 hX dX5_copyFrom_6 ?_
  refine g_iconst hX (0) dX5_copyFrom_9 (by decide) ?_
  refine g_aload_n hX 0 dX5_copyFrom_10 rfl rfl ?_
  refine gCX5_9_31 hX dX5_copyFrom_11 ?_
  refine lenC_32 hX dX5_copyFrom_14 ?_
  refine g_copyI (ty := .int) hX 23 32 0 lkX5_37 acN acS acI (Nat.le_of_ble_eq_true rfl) (Nat.le_of_ble_eq_true rfl) rfl rfl rfl rfl rfl (fun _ => rfl) (by decide) (by decide) (by decide) (by decide) (by decide) (by decide) (by decide) dX5_copyFrom_15 h (fun σ_1 h => ?_)
  refine g_aload_n hX 1 dX5_copyFrom_18 rfl rfl ?_
  refine gCX5_15_22 hX dX5_copyFrom_19 ?_
  refine g_iconst hX (0) dX5_copyFrom_22 (by decide) ?_
  refine g_aload_n hX 0 dX5_copyFrom_23 rfl rfl ?_
  refine gCX5_15_31 hX dX5_copyFrom_24 ?_
  refine g_iconst hX (0) dX5_copyFrom_27 (by decide) ?_
  refine g_aload_n hX 0 dX5_copyFrom_28 rfl rfl ?_
  refine gCX5_15_31 hX dX5_copyFrom_29 ?_
  refine lenC_33 hX dX5_copyFrom_32 ?_
  refine g_copyI (ty := .int) hX 24 33 0 lkX5_37 acN acS acI (Nat.le_of_ble_eq_true rfl) (Nat.le_of_ble_eq_true rfl) rfl rfl rfl rfl rfl (fun _ => rfl) (by decide) (by decide) (by decide) (by decide) (by decide) (by decide) (by decide) dX5_copyFrom_33 h (fun σ_2 h => ?_)
  refine g_aload_n hX 1 dX5_copyFrom_36 rfl rfl ?_
  refine gCX5_18_22 hX dX5_copyFrom_37 ?_
  refine g_iconst hX (0) dX5_copyFrom_40 (by decide) ?_
  refine g_aload_n hX 0 dX5_copyFrom_41 rfl rfl ?_
  refine gCX5_18_31 hX dX5_copyFrom_42 ?_
  refine g_iconst hX (0) dX5_copyFrom_45 (by decide) ?_
  refine g_aload_n hX 0 dX5_copyFrom_46 rfl rfl ?_
  refine gCX5_18_31 hX dX5_copyFrom_47 ?_
  refine lenC_34 hX dX5_copyFrom_50 ?_
  refine g_copyI (ty := .int) hX 25 34 0 lkX5_37 acN acS acI (Nat.le_of_ble_eq_true rfl) (Nat.le_of_ble_eq_true rfl) rfl rfl rfl rfl rfl (fun _ => rfl) (by decide) (by decide) (by decide) (by decide) (by decide) (by decide) (by decide) dX5_copyFrom_51 h (fun σ_3 h => ?_)
  refine g_aload_n hX 0 dX5_copyFrom_54 rfl rfl ?_
  refine g_aload_n hX 1 dX5_copyFrom_55 rfl rfl ?_
  refine gCX5_21_22 hX dX5_copyFrom_56 ?_
  refine pCX5_21_31 hX dX5_copyFrom_59 h (fun σ_4 h => ?_)
  refine g_aload_n hX 0 dX5_copyFrom_62 rfl rfl ?_
  refine g_aload_n hX 1 dX5_copyFrom_63 rfl rfl ?_
  refine gCX5_25_22 hX dX5_copyFrom_64 ?_
  refine pCX5_25_31 hX dX5_copyFrom_67 h (fun σ_5 h => ?_)
  exact g_retv hR h dX5_copyFrom_70
set_option maxRecDepth 20000 in
set_option maxHeartbeats 4000000 in
theorem kX5_copyFrom_i31_22 (l : Launch) {a : Nat → Nat} {D : va_G} {tI tJ tB tS : ClassId} {kK kV : Nat → Nat} {σ τ : St}   {x : Unit} (h : fX5_copyFrom_i31_22 σ  = some (τ, x)) : CtV l yX5_copyFrom cX5_copyFrom 2 none 1 60 (vC a D tI tJ tB tS kK kV) σ [.ref (a 31), .ref (a 22)] τ x := g_metV (by decide) (Nat.le_of_ble_eq_true rfl) rfl (fun X _ hX hR => sX5_copyFrom_i31_22 (r := (τ, x)) hX hR h)
def fX5_copyFrom_i35_22 (σ : St)  : Option (St × Unit) :=
  bnd (cpI σ 23 36 (0 : Int32) (0 : Int32) (4 : Int32)) fun (σ_1 : St) => bnd (cpI σ_1 24 37 (0 : Int32) (0 : Int32) (32 : Int32)) fun (σ_2 : St) => bnd (cpI σ_2 25 38 (0 : Int32) (0 : Int32) (4 : Int32)) fun (σ_3 : St) => bnd (sI σ_3 35 3 (σ_3.1 22 3)) fun (σ_4 : St) => bnd (sI σ_4 35 4 (σ_4.1 22 4)) fun (σ_5 : St) => some (σ_5, ())
set_option maxRecDepth 20000 in
set_option maxHeartbeats 4000000 in
theorem sX5_copyFrom_i35_22 {X : CX} {a : Nat → Nat} {D : va_G} {tI tJ tB tS : ClassId} {kK kV : Nat → Nat} {σ : St}   {r : St × Unit} (hX : OKX X (vC a D tI tJ tB tS kK kV) cX5_copyFrom 2 RX5 1 60) (hR : ∀ (pc : Nat) (lv : List (Nat × Value)), decode cX5_copyFrom pc = .ok (.return_, 1) → G X (vC a D tI tJ tB tS kK kV) 2 r.1 pc lv [])  (h : fX5_copyFrom_i35_22 σ  = some r) : G X (vC a D tI tJ tB tS kK kV) 2 σ 0 [(0, .ref (a 35)), (1, .ref (a 22))] [] := by
  unfold fX5_copyFrom_i35_22 at h
  refine g_aload_n hX 1 dX5_copyFrom_0 rfl rfl ?_
  refine gCX5_9_22 hX dX5_copyFrom_1 ?_
  refine g_iconst hX (0) dX5_copyFrom_4 (by decide) ?_
  refine g_aload_n hX 0 dX5_copyFrom_5 rfl rfl ?_
  refine gCX5_9_35 hX dX5_copyFrom_6 ?_
  refine g_iconst hX (0) dX5_copyFrom_9 (by decide) ?_
  refine g_aload_n hX 0 dX5_copyFrom_10 rfl rfl ?_
  refine gCX5_9_35 hX dX5_copyFrom_11 ?_
  refine lenC_36 hX dX5_copyFrom_14 ?_
  refine g_copyI (ty := .int) hX 23 36 0 lkX5_37 acN acS acI (Nat.le_of_ble_eq_true rfl) (Nat.le_of_ble_eq_true rfl) rfl rfl rfl rfl rfl (fun _ => rfl) (by decide) (by decide) (by decide) (by decide) (by decide) (by decide) (by decide) dX5_copyFrom_15 h (fun σ_1 h => ?_)
  refine g_aload_n hX 1 dX5_copyFrom_18 rfl rfl ?_
  refine gCX5_15_22 hX dX5_copyFrom_19 ?_
  refine g_iconst hX (0) dX5_copyFrom_22 (by decide) ?_
  refine g_aload_n hX 0 dX5_copyFrom_23 rfl rfl ?_
  refine gCX5_15_35 hX dX5_copyFrom_24 ?_
  refine g_iconst hX (0) dX5_copyFrom_27 (by decide) ?_
  refine g_aload_n hX 0 dX5_copyFrom_28 rfl rfl ?_
  refine gCX5_15_35 hX dX5_copyFrom_29 ?_
  refine lenC_37 hX dX5_copyFrom_32 ?_
  refine g_copyI (ty := .int) hX 24 37 0 lkX5_37 acN acS acI (Nat.le_of_ble_eq_true rfl) (Nat.le_of_ble_eq_true rfl) rfl rfl rfl rfl rfl (fun _ => rfl) (by decide) (by decide) (by decide) (by decide) (by decide) (by decide) (by decide) dX5_copyFrom_33 h (fun σ_2 h => ?_)
  refine g_aload_n hX 1 dX5_copyFrom_36 rfl rfl ?_
  refine gCX5_18_22 hX dX5_copyFrom_37 ?_
  refine g_iconst hX (0) dX5_copyFrom_40 (by decide) ?_
  refine g_aload_n hX 0 dX5_copyFrom_41 rfl rfl ?_
  refine gCX5_18_35 hX dX5_copyFrom_42 ?_
  refine g_iconst hX (0) dX5_copyFrom_45 (by decide) ?_
  refine g_aload_n hX 0 dX5_copyFrom_46 rfl rfl ?_
  refine gCX5_18_35 hX dX5_copyFrom_47 ?_
  refine lenC_38 hX dX5_copyFrom_50 ?_
  refine g_copyI (ty := .int) hX 25 38 0 lkX5_37 acN acS acI (Nat.le_of_ble_eq_true rfl) (Nat.le_of_ble_eq_true rfl) rfl rfl rfl rfl rfl (fun _ => rfl) (by decide) (by decide) (by decide) (by decide) (by decide) (by decide) (by decide) dX5_copyFrom_51 h (fun σ_3 h => ?_)
  refine g_aload_n hX 0 dX5_copyFrom_54 rfl rfl ?_
  refine g_aload_n hX 1 dX5_copyFrom_55 rfl rfl ?_
  refine gCX5_21_22 hX dX5_copyFrom_56 ?_
  refine pCX5_21_35 hX dX5_copyFrom_59 h (fun σ_4 h => ?_)
  refine g_aload_n hX 0 dX5_copyFrom_62 rfl rfl ?_
  refine g_aload_n hX 1 dX5_copyFrom_63 rfl rfl ?_
  refine gCX5_25_22 hX dX5_copyFrom_64 ?_
  refine pCX5_25_35 hX dX5_copyFrom_67 h (fun σ_5 h => ?_)
  exact g_retv hR h dX5_copyFrom_70
set_option maxRecDepth 20000 in
set_option maxHeartbeats 4000000 in
theorem kX5_copyFrom_i35_22 (l : Launch) {a : Nat → Nat} {D : va_G} {tI tJ tB tS : ClassId} {kK kV : Nat → Nat} {σ τ : St}   {x : Unit} (h : fX5_copyFrom_i35_22 σ  = some (τ, x)) : CtV l yX5_copyFrom cX5_copyFrom 2 none 1 60 (vC a D tI tJ tB tS kK kV) σ [.ref (a 35), .ref (a 22)] τ x := g_metV (by decide) (Nat.le_of_ble_eq_true rfl) rfl (fun X _ hX hR => sX5_copyFrom_i35_22 (r := (τ, x)) hX hR h)
def fX5_copyFrom_i39_22 (σ : St)  : Option (St × Unit) :=
  bnd (cpI σ 23 40 (0 : Int32) (0 : Int32) (4 : Int32)) fun (σ_1 : St) => bnd (cpI σ_1 24 41 (0 : Int32) (0 : Int32) (32 : Int32)) fun (σ_2 : St) => bnd (cpI σ_2 25 42 (0 : Int32) (0 : Int32) (4 : Int32)) fun (σ_3 : St) => bnd (sI σ_3 39 3 (σ_3.1 22 3)) fun (σ_4 : St) => bnd (sI σ_4 39 4 (σ_4.1 22 4)) fun (σ_5 : St) => some (σ_5, ())
set_option maxRecDepth 20000 in
set_option maxHeartbeats 4000000 in
theorem sX5_copyFrom_i39_22 {X : CX} {a : Nat → Nat} {D : va_G} {tI tJ tB tS : ClassId} {kK kV : Nat → Nat} {σ : St}   {r : St × Unit} (hX : OKX X (vC a D tI tJ tB tS kK kV) cX5_copyFrom 2 RX5 1 60) (hR : ∀ (pc : Nat) (lv : List (Nat × Value)), decode cX5_copyFrom pc = .ok (.return_, 1) → G X (vC a D tI tJ tB tS kK kV) 2 r.1 pc lv [])  (h : fX5_copyFrom_i39_22 σ  = some r) : G X (vC a D tI tJ tB tS kK kV) 2 σ 0 [(0, .ref (a 39)), (1, .ref (a 22))] [] := by
  unfold fX5_copyFrom_i39_22 at h
  refine g_aload_n hX 1 dX5_copyFrom_0 rfl rfl ?_
  refine gCX5_9_22 hX dX5_copyFrom_1 ?_
  refine g_iconst hX (0) dX5_copyFrom_4 (by decide) ?_
  refine g_aload_n hX 0 dX5_copyFrom_5 rfl rfl ?_
  refine gCX5_9_39 hX dX5_copyFrom_6 ?_
  refine g_iconst hX (0) dX5_copyFrom_9 (by decide) ?_
  refine g_aload_n hX 0 dX5_copyFrom_10 rfl rfl ?_
  refine gCX5_9_39 hX dX5_copyFrom_11 ?_
  refine lenC_40 hX dX5_copyFrom_14 ?_
  refine g_copyI (ty := .int) hX 23 40 0 lkX5_37 acN acS acI (Nat.le_of_ble_eq_true rfl) (Nat.le_of_ble_eq_true rfl) rfl rfl rfl rfl rfl (fun _ => rfl) (by decide) (by decide) (by decide) (by decide) (by decide) (by decide) (by decide) dX5_copyFrom_15 h (fun σ_1 h => ?_)
  refine g_aload_n hX 1 dX5_copyFrom_18 rfl rfl ?_
  refine gCX5_15_22 hX dX5_copyFrom_19 ?_
  refine g_iconst hX (0) dX5_copyFrom_22 (by decide) ?_
  refine g_aload_n hX 0 dX5_copyFrom_23 rfl rfl ?_
  refine gCX5_15_39 hX dX5_copyFrom_24 ?_
  refine g_iconst hX (0) dX5_copyFrom_27 (by decide) ?_
  refine g_aload_n hX 0 dX5_copyFrom_28 rfl rfl ?_
  refine gCX5_15_39 hX dX5_copyFrom_29 ?_
  refine lenC_41 hX dX5_copyFrom_32 ?_
  refine g_copyI (ty := .int) hX 24 41 0 lkX5_37 acN acS acI (Nat.le_of_ble_eq_true rfl) (Nat.le_of_ble_eq_true rfl) rfl rfl rfl rfl rfl (fun _ => rfl) (by decide) (by decide) (by decide) (by decide) (by decide) (by decide) (by decide) dX5_copyFrom_33 h (fun σ_2 h => ?_)
  refine g_aload_n hX 1 dX5_copyFrom_36 rfl rfl ?_
  refine gCX5_18_22 hX dX5_copyFrom_37 ?_
  refine g_iconst hX (0) dX5_copyFrom_40 (by decide) ?_
  refine g_aload_n hX 0 dX5_copyFrom_41 rfl rfl ?_
  refine gCX5_18_39 hX dX5_copyFrom_42 ?_
  refine g_iconst hX (0) dX5_copyFrom_45 (by decide) ?_
  refine g_aload_n hX 0 dX5_copyFrom_46 rfl rfl ?_
  refine gCX5_18_39 hX dX5_copyFrom_47 ?_
  refine lenC_42 hX dX5_copyFrom_50 ?_
  refine g_copyI (ty := .int) hX 25 42 0 lkX5_37 acN acS acI (Nat.le_of_ble_eq_true rfl) (Nat.le_of_ble_eq_true rfl) rfl rfl rfl rfl rfl (fun _ => rfl) (by decide) (by decide) (by decide) (by decide) (by decide) (by decide) (by decide) dX5_copyFrom_51 h (fun σ_3 h => ?_)
  refine g_aload_n hX 0 dX5_copyFrom_54 rfl rfl ?_
  refine g_aload_n hX 1 dX5_copyFrom_55 rfl rfl ?_
  refine gCX5_21_22 hX dX5_copyFrom_56 ?_
  refine pCX5_21_39 hX dX5_copyFrom_59 h (fun σ_4 h => ?_)
  refine g_aload_n hX 0 dX5_copyFrom_62 rfl rfl ?_
  refine g_aload_n hX 1 dX5_copyFrom_63 rfl rfl ?_
  refine gCX5_25_22 hX dX5_copyFrom_64 ?_
  refine pCX5_25_39 hX dX5_copyFrom_67 h (fun σ_5 h => ?_)
  exact g_retv hR h dX5_copyFrom_70
set_option maxRecDepth 20000 in
set_option maxHeartbeats 4000000 in
theorem kX5_copyFrom_i39_22 (l : Launch) {a : Nat → Nat} {D : va_G} {tI tJ tB tS : ClassId} {kK kV : Nat → Nat} {σ τ : St}   {x : Unit} (h : fX5_copyFrom_i39_22 σ  = some (τ, x)) : CtV l yX5_copyFrom cX5_copyFrom 2 none 1 60 (vC a D tI tJ tB tS kK kV) σ [.ref (a 39), .ref (a 22)] τ x := g_metV (by decide) (Nat.le_of_ble_eq_true rfl) rfl (fun X _ hX hR => sX5_copyFrom_i39_22 (r := (τ, x)) hX hR h)
def fX8_image (σ : St)  : Option (St × Int32) :=
  (if (σ.1 2 0) = 0 then some (σ, (-1 : Int32)) else (if (σ.1 0 14) < (4 : Int32) then chk (inb (σ.1 0 14) 4) ((if (σ.1 0 14) = 0 then cl (fX5_copyFrom_i27_22 σ ) fun (σ_1 : St) (t_2 : Unit) => bnd (sI σ_1 0 14 ((σ_1.1 0 14) + (1 : Int32))) fun (σ_3 : St) => some (σ_3, ((σ_3.1 0 14) - (1 : Int32))) else (if (σ.1 0 14) = 1 then cl (fX5_copyFrom_i31_22 σ ) fun (σ_4 : St) (t_5 : Unit) => bnd (sI σ_4 0 14 ((σ_4.1 0 14) + (1 : Int32))) fun (σ_6 : St) => some (σ_6, ((σ_6.1 0 14) - (1 : Int32))) else (if (σ.1 0 14) = 2 then cl (fX5_copyFrom_i35_22 σ ) fun (σ_7 : St) (t_8 : Unit) => bnd (sI σ_7 0 14 ((σ_7.1 0 14) + (1 : Int32))) fun (σ_9 : St) => some (σ_9, ((σ_9.1 0 14) - (1 : Int32))) else cl (fX5_copyFrom_i39_22 σ ) fun (σ_10 : St) (t_11 : Unit) => bnd (sI σ_10 0 14 ((σ_10.1 0 14) + (1 : Int32))) fun (σ_12 : St) => some (σ_12, ((σ_12.1 0 14) - (1 : Int32))))))) else some (σ, (-1 : Int32))))
set_option maxRecDepth 20000 in
set_option maxHeartbeats 4000000 in
theorem sX8_image {X : CX} {a : Nat → Nat} {D : va_G} {tI tJ tB tS : ClassId} {kK kV : Nat → Nat} {σ : St}   {r : St × Int32} (hX : OKX X (vC a D tI tJ tB tS kK kV) cX8_image 1 RX8 2 81) (hR : ∀ (pc : Nat) (lv : List (Nat × Value)), decode cX8_image pc = .ok (.ireturn, 1) → G X (vC a D tI tJ tB tS kK kV) 1 r.1 pc lv [.int r.2])  (h : fX8_image σ  = some r) : G X (vC a D tI tJ tB tS kK kV) 1 σ 0 [(0, .ref (a 0))] [] := by
  unfold fX8_image at h
  refine g_aload_n hX 0 dX8_image_0 rfl rfl ?_
  refine gCX8_27_0 hX dX8_image_1 ?_
  refine gCX8_118_2 hX dX8_image_4 ?_
  refine g_if_eq hX 22 dX8_image_7 (by decide) h (fun h => ?_) (fun h => ?_)
  · refine g_iconst hX (-1) dX8_image_22 (by decide) ?_
    exact g_reti hR h dX8_image_23
  · refine g_aload_n hX 0 dX8_image_10 rfl rfl ?_
    refine gCX8_96_0 hX dX8_image_11 ?_
    refine g_aload_n hX 0 dX8_image_14 rfl rfl ?_
    refine gCX8_51_0 hX dX8_image_15 ?_
    refine lenC_26 hX dX8_image_18 ?_
    refine g_icmp_lt hX 24 dX8_image_19 (by decide) h (fun h => ?_) (fun h => ?_)
    · refine g_aload_n hX 0 dX8_image_24 rfl rfl ?_
      refine gCX8_51_0 hX dX8_image_25 ?_
      refine g_aload_n hX 0 dX8_image_28 rfl rfl ?_
      refine gCX8_96_0 hX dX8_image_29 ?_
      obtain ⟨hib, h⟩ := chk_inv h
      refine ite_go h (fun hq h => ?_) (fun hn0 h => ?_)
      · refine g_aald (K := some ()) (r := ()) hX 26 3 27 (Nat.le_of_ble_eq_true rfl) rfl rfl dX8_image_32 (chk_true hib) (im_at0 hq) (fun _ => ?_)
        refine g_aload_n hX 0 dX8_image_33 rfl rfl ?_
        refine gCX8_47_0 hX dX8_image_34 ?_
        refine g_callNV (As := [.ref (a 22)]) (rest := []) hX 27 (Nat.le_of_ble_eq_true rfl) rfl rfl miX5_copyFrom mvX5_copyFrom lkX8_323 (by decide) rfl (Nat.le_of_ble_eq_true rfl) rfl dX8_image_37 (fun τ x ho => kX5_copyFrom_i27_22 _ ho) h (fun σ_1 t_2 h => ?_)
        refine g_aload_n hX 0 dX8_image_40 rfl rfl ?_
        refine g_dup hX dX8_image_41 rfl ?_
        refine gCX8_96_0 hX dX8_image_42 ?_
        refine g_iconst hX (1) dX8_image_45 (by decide) ?_
        refine g_iadd hX dX8_image_46 ?_
        refine pCX8_96_0 hX dX8_image_47 h (fun σ_3 h => ?_)
        refine g_aload_n hX 0 dX8_image_50 rfl rfl ?_
        refine gCX8_96_0 hX dX8_image_51 ?_
        refine g_iconst hX (1) dX8_image_54 (by decide) ?_
        refine g_isub hX dX8_image_55 ?_
        exact g_reti hR h dX8_image_56
      refine ite_go h (fun hq h => ?_) (fun hn1 h => ?_)
      · refine g_aald (K := some ()) (r := ()) hX 26 3 31 (Nat.le_of_ble_eq_true rfl) rfl rfl dX8_image_32 (chk_true hib) (im_at1 hq) (fun _ => ?_)
        refine g_aload_n hX 0 dX8_image_33 rfl rfl ?_
        refine gCX8_47_0 hX dX8_image_34 ?_
        refine g_callNV (As := [.ref (a 22)]) (rest := []) hX 31 (Nat.le_of_ble_eq_true rfl) rfl rfl miX5_copyFrom mvX5_copyFrom lkX8_323 (by decide) rfl (Nat.le_of_ble_eq_true rfl) rfl dX8_image_37 (fun τ x ho => kX5_copyFrom_i31_22 _ ho) h (fun σ_4 t_5 h => ?_)
        refine g_aload_n hX 0 dX8_image_40 rfl rfl ?_
        refine g_dup hX dX8_image_41 rfl ?_
        refine gCX8_96_0 hX dX8_image_42 ?_
        refine g_iconst hX (1) dX8_image_45 (by decide) ?_
        refine g_iadd hX dX8_image_46 ?_
        refine pCX8_96_0 hX dX8_image_47 h (fun σ_6 h => ?_)
        refine g_aload_n hX 0 dX8_image_50 rfl rfl ?_
        refine gCX8_96_0 hX dX8_image_51 ?_
        refine g_iconst hX (1) dX8_image_54 (by decide) ?_
        refine g_isub hX dX8_image_55 ?_
        exact g_reti hR h dX8_image_56
      refine ite_go h (fun hq h => ?_) (fun hn2 h => ?_)
      · refine g_aald (K := some ()) (r := ()) hX 26 3 35 (Nat.le_of_ble_eq_true rfl) rfl rfl dX8_image_32 (chk_true hib) (im_at2 hq) (fun _ => ?_)
        refine g_aload_n hX 0 dX8_image_33 rfl rfl ?_
        refine gCX8_47_0 hX dX8_image_34 ?_
        refine g_callNV (As := [.ref (a 22)]) (rest := []) hX 35 (Nat.le_of_ble_eq_true rfl) rfl rfl miX5_copyFrom mvX5_copyFrom lkX8_323 (by decide) rfl (Nat.le_of_ble_eq_true rfl) rfl dX8_image_37 (fun τ x ho => kX5_copyFrom_i35_22 _ ho) h (fun σ_7 t_8 h => ?_)
        refine g_aload_n hX 0 dX8_image_40 rfl rfl ?_
        refine g_dup hX dX8_image_41 rfl ?_
        refine gCX8_96_0 hX dX8_image_42 ?_
        refine g_iconst hX (1) dX8_image_45 (by decide) ?_
        refine g_iadd hX dX8_image_46 ?_
        refine pCX8_96_0 hX dX8_image_47 h (fun σ_9 h => ?_)
        refine g_aload_n hX 0 dX8_image_50 rfl rfl ?_
        refine gCX8_96_0 hX dX8_image_51 ?_
        refine g_iconst hX (1) dX8_image_54 (by decide) ?_
        refine g_isub hX dX8_image_55 ?_
        exact g_reti hR h dX8_image_56
      refine g_aald (K := some ()) (r := ()) hX 26 3 39 (Nat.le_of_ble_eq_true rfl) rfl rfl dX8_image_32 (chk_true hib) (im_at3 hib hn0 hn1 hn2) (fun _ => ?_)
      refine g_aload_n hX 0 dX8_image_33 rfl rfl ?_
      refine gCX8_47_0 hX dX8_image_34 ?_
      refine g_callNV (As := [.ref (a 22)]) (rest := []) hX 39 (Nat.le_of_ble_eq_true rfl) rfl rfl miX5_copyFrom mvX5_copyFrom lkX8_323 (by decide) rfl (Nat.le_of_ble_eq_true rfl) rfl dX8_image_37 (fun τ x ho => kX5_copyFrom_i39_22 _ ho) h (fun σ_10 t_11 h => ?_)
      refine g_aload_n hX 0 dX8_image_40 rfl rfl ?_
      refine g_dup hX dX8_image_41 rfl ?_
      refine gCX8_96_0 hX dX8_image_42 ?_
      refine g_iconst hX (1) dX8_image_45 (by decide) ?_
      refine g_iadd hX dX8_image_46 ?_
      refine pCX8_96_0 hX dX8_image_47 h (fun σ_12 h => ?_)
      refine g_aload_n hX 0 dX8_image_50 rfl rfl ?_
      refine gCX8_96_0 hX dX8_image_51 ?_
      refine g_iconst hX (1) dX8_image_54 (by decide) ?_
      refine g_isub hX dX8_image_55 ?_
      exact g_reti hR h dX8_image_56
    · refine g_iconst hX (-1) dX8_image_22 (by decide) ?_
      exact g_reti hR h dX8_image_23
set_option maxRecDepth 20000 in
set_option maxHeartbeats 4000000 in
theorem kX8_image (l : Launch) {a : Nat → Nat} {D : va_G} {tI tJ tB tS : ClassId} {kK kV : Nat → Nat} {σ τ : St}   {x : Int32} (h : fX8_image σ  = some (τ, x)) : CtI l yX8_image cX8_image 1 (some .int) 2 81 (vC a D tI tJ tB tS kK kV) σ [.ref (a 0)] τ x := g_metI (by decide) (Nat.le_of_ble_eq_true rfl) rfl (fun X _ hX hR => sX8_image (r := (τ, x)) hX hR h)
def fX5_copyFrom_i27 (σ : St)  : Option (St × Unit) :=
  bnd (cpI σ 28 23 (0 : Int32) (0 : Int32) (4 : Int32)) fun (σ_1 : St) => bnd (cpI σ_1 29 24 (0 : Int32) (0 : Int32) (32 : Int32)) fun (σ_2 : St) => bnd (cpI σ_2 30 25 (0 : Int32) (0 : Int32) (4 : Int32)) fun (σ_3 : St) => bnd (sI σ_3 22 3 (σ_3.1 27 3)) fun (σ_4 : St) => bnd (sI σ_4 22 4 (σ_4.1 27 4)) fun (σ_5 : St) => some (σ_5, ())
set_option maxRecDepth 20000 in
set_option maxHeartbeats 4000000 in
theorem sX5_copyFrom_i27 {X : CX} {a : Nat → Nat} {D : va_G} {tI tJ tB tS : ClassId} {kK kV : Nat → Nat} {σ : St}   {r : St × Unit} (hX : OKX X (vC a D tI tJ tB tS kK kV) cX5_copyFrom 2 RX5 1 60) (hR : ∀ (pc : Nat) (lv : List (Nat × Value)), decode cX5_copyFrom pc = .ok (.return_, 1) → G X (vC a D tI tJ tB tS kK kV) 2 r.1 pc lv [])  (h : fX5_copyFrom_i27 σ  = some r) : G X (vC a D tI tJ tB tS kK kV) 2 σ 0 [(0, .ref (a 22)), (1, .ref (a 27))] [] := by
  unfold fX5_copyFrom_i27 at h
  refine g_aload_n hX 1 dX5_copyFrom_0 rfl rfl ?_
  refine gCX5_9_27 hX dX5_copyFrom_1 ?_
  refine g_iconst hX (0) dX5_copyFrom_4 (by decide) ?_
  refine g_aload_n hX 0 dX5_copyFrom_5 rfl rfl ?_
  refine gCX5_9_22 hX dX5_copyFrom_6 ?_
  refine g_iconst hX (0) dX5_copyFrom_9 (by decide) ?_
  refine g_aload_n hX 0 dX5_copyFrom_10 rfl rfl ?_
  refine gCX5_9_22 hX dX5_copyFrom_11 ?_
  refine lenC_23 hX dX5_copyFrom_14 ?_
  refine g_copyI (ty := .int) hX 28 23 0 lkX5_37 acN acS acI (Nat.le_of_ble_eq_true rfl) (Nat.le_of_ble_eq_true rfl) rfl rfl rfl rfl rfl (fun _ => rfl) (by decide) (by decide) (by decide) (by decide) (by decide) (by decide) (by decide) dX5_copyFrom_15 h (fun σ_1 h => ?_)
  refine g_aload_n hX 1 dX5_copyFrom_18 rfl rfl ?_
  refine gCX5_15_27 hX dX5_copyFrom_19 ?_
  refine g_iconst hX (0) dX5_copyFrom_22 (by decide) ?_
  refine g_aload_n hX 0 dX5_copyFrom_23 rfl rfl ?_
  refine gCX5_15_22 hX dX5_copyFrom_24 ?_
  refine g_iconst hX (0) dX5_copyFrom_27 (by decide) ?_
  refine g_aload_n hX 0 dX5_copyFrom_28 rfl rfl ?_
  refine gCX5_15_22 hX dX5_copyFrom_29 ?_
  refine lenC_24 hX dX5_copyFrom_32 ?_
  refine g_copyI (ty := .int) hX 29 24 0 lkX5_37 acN acS acI (Nat.le_of_ble_eq_true rfl) (Nat.le_of_ble_eq_true rfl) rfl rfl rfl rfl rfl (fun _ => rfl) (by decide) (by decide) (by decide) (by decide) (by decide) (by decide) (by decide) dX5_copyFrom_33 h (fun σ_2 h => ?_)
  refine g_aload_n hX 1 dX5_copyFrom_36 rfl rfl ?_
  refine gCX5_18_27 hX dX5_copyFrom_37 ?_
  refine g_iconst hX (0) dX5_copyFrom_40 (by decide) ?_
  refine g_aload_n hX 0 dX5_copyFrom_41 rfl rfl ?_
  refine gCX5_18_22 hX dX5_copyFrom_42 ?_
  refine g_iconst hX (0) dX5_copyFrom_45 (by decide) ?_
  refine g_aload_n hX 0 dX5_copyFrom_46 rfl rfl ?_
  refine gCX5_18_22 hX dX5_copyFrom_47 ?_
  refine lenC_25 hX dX5_copyFrom_50 ?_
  refine g_copyI (ty := .int) hX 30 25 0 lkX5_37 acN acS acI (Nat.le_of_ble_eq_true rfl) (Nat.le_of_ble_eq_true rfl) rfl rfl rfl rfl rfl (fun _ => rfl) (by decide) (by decide) (by decide) (by decide) (by decide) (by decide) (by decide) dX5_copyFrom_51 h (fun σ_3 h => ?_)
  refine g_aload_n hX 0 dX5_copyFrom_54 rfl rfl ?_
  refine g_aload_n hX 1 dX5_copyFrom_55 rfl rfl ?_
  refine gCX5_21_27 hX dX5_copyFrom_56 ?_
  refine pCX5_21_22 hX dX5_copyFrom_59 h (fun σ_4 h => ?_)
  refine g_aload_n hX 0 dX5_copyFrom_62 rfl rfl ?_
  refine g_aload_n hX 1 dX5_copyFrom_63 rfl rfl ?_
  refine gCX5_25_27 hX dX5_copyFrom_64 ?_
  refine pCX5_25_22 hX dX5_copyFrom_67 h (fun σ_5 h => ?_)
  exact g_retv hR h dX5_copyFrom_70
set_option maxRecDepth 20000 in
set_option maxHeartbeats 4000000 in
theorem kX5_copyFrom_i27 (l : Launch) {a : Nat → Nat} {D : va_G} {tI tJ tB tS : ClassId} {kK kV : Nat → Nat} {σ τ : St}   {x : Unit} (h : fX5_copyFrom_i27 σ  = some (τ, x)) : CtV l yX5_copyFrom cX5_copyFrom 2 none 1 60 (vC a D tI tJ tB tS kK kV) σ [.ref (a 22), .ref (a 27)] τ x := g_metV (by decide) (Nat.le_of_ble_eq_true rfl) rfl (fun X _ hX hR => sX5_copyFrom_i27 (r := (τ, x)) hX hR h)
def fX5_copyFrom_i31 (σ : St)  : Option (St × Unit) :=
  bnd (cpI σ 32 23 (0 : Int32) (0 : Int32) (4 : Int32)) fun (σ_1 : St) => bnd (cpI σ_1 33 24 (0 : Int32) (0 : Int32) (32 : Int32)) fun (σ_2 : St) => bnd (cpI σ_2 34 25 (0 : Int32) (0 : Int32) (4 : Int32)) fun (σ_3 : St) => bnd (sI σ_3 22 3 (σ_3.1 31 3)) fun (σ_4 : St) => bnd (sI σ_4 22 4 (σ_4.1 31 4)) fun (σ_5 : St) => some (σ_5, ())
set_option maxRecDepth 20000 in
set_option maxHeartbeats 4000000 in
theorem sX5_copyFrom_i31 {X : CX} {a : Nat → Nat} {D : va_G} {tI tJ tB tS : ClassId} {kK kV : Nat → Nat} {σ : St}   {r : St × Unit} (hX : OKX X (vC a D tI tJ tB tS kK kV) cX5_copyFrom 2 RX5 1 60) (hR : ∀ (pc : Nat) (lv : List (Nat × Value)), decode cX5_copyFrom pc = .ok (.return_, 1) → G X (vC a D tI tJ tB tS kK kV) 2 r.1 pc lv [])  (h : fX5_copyFrom_i31 σ  = some r) : G X (vC a D tI tJ tB tS kK kV) 2 σ 0 [(0, .ref (a 22)), (1, .ref (a 31))] [] := by
  unfold fX5_copyFrom_i31 at h
  refine g_aload_n hX 1 dX5_copyFrom_0 rfl rfl ?_
  refine gCX5_9_31 hX dX5_copyFrom_1 ?_
  refine g_iconst hX (0) dX5_copyFrom_4 (by decide) ?_
  refine g_aload_n hX 0 dX5_copyFrom_5 rfl rfl ?_
  refine gCX5_9_22 hX dX5_copyFrom_6 ?_
  refine g_iconst hX (0) dX5_copyFrom_9 (by decide) ?_
  refine g_aload_n hX 0 dX5_copyFrom_10 rfl rfl ?_
  refine gCX5_9_22 hX dX5_copyFrom_11 ?_
  refine lenC_23 hX dX5_copyFrom_14 ?_
  refine g_copyI (ty := .int) hX 32 23 0 lkX5_37 acN acS acI (Nat.le_of_ble_eq_true rfl) (Nat.le_of_ble_eq_true rfl) rfl rfl rfl rfl rfl (fun _ => rfl) (by decide) (by decide) (by decide) (by decide) (by decide) (by decide) (by decide) dX5_copyFrom_15 h (fun σ_1 h => ?_)
  refine g_aload_n hX 1 dX5_copyFrom_18 rfl rfl ?_
  refine gCX5_15_31 hX dX5_copyFrom_19 ?_
  refine g_iconst hX (0) dX5_copyFrom_22 (by decide) ?_
  refine g_aload_n hX 0 dX5_copyFrom_23 rfl rfl ?_
  refine gCX5_15_22 hX dX5_copyFrom_24 ?_
  refine g_iconst hX (0) dX5_copyFrom_27 (by decide) ?_
  refine g_aload_n hX 0 dX5_copyFrom_28 rfl rfl ?_
  refine gCX5_15_22 hX dX5_copyFrom_29 ?_
  refine lenC_24 hX dX5_copyFrom_32 ?_
  refine g_copyI (ty := .int) hX 33 24 0 lkX5_37 acN acS acI (Nat.le_of_ble_eq_true rfl) (Nat.le_of_ble_eq_true rfl) rfl rfl rfl rfl rfl (fun _ => rfl) (by decide) (by decide) (by decide) (by decide) (by decide) (by decide) (by decide) dX5_copyFrom_33 h (fun σ_2 h => ?_)
  refine g_aload_n hX 1 dX5_copyFrom_36 rfl rfl ?_
  refine gCX5_18_31 hX dX5_copyFrom_37 ?_
  refine g_iconst hX (0) dX5_copyFrom_40 (by decide) ?_
  refine g_aload_n hX 0 dX5_copyFrom_41 rfl rfl ?_
  refine gCX5_18_22 hX dX5_copyFrom_42 ?_
  refine g_iconst hX (0) dX5_copyFrom_45 (by decide) ?_
  refine g_aload_n hX 0 dX5_copyFrom_46 rfl rfl ?_
  refine gCX5_18_22 hX dX5_copyFrom_47 ?_
  refine lenC_25 hX dX5_copyFrom_50 ?_
  refine g_copyI (ty := .int) hX 34 25 0 lkX5_37 acN acS acI (Nat.le_of_ble_eq_true rfl) (Nat.le_of_ble_eq_true rfl) rfl rfl rfl rfl rfl (fun _ => rfl) (by decide) (by decide) (by decide) (by decide) (by decide) (by decide) (by decide) dX5_copyFrom_51 h (fun σ_3 h => ?_)
  refine g_aload_n hX 0 dX5_copyFrom_54 rfl rfl ?_
  refine g_aload_n hX 1 dX5_copyFrom_55 rfl rfl ?_
  refine gCX5_21_31 hX dX5_copyFrom_56 ?_
  refine pCX5_21_22 hX dX5_copyFrom_59 h (fun σ_4 h => ?_)
  refine g_aload_n hX 0 dX5_copyFrom_62 rfl rfl ?_
  refine g_aload_n hX 1 dX5_copyFrom_63 rfl rfl ?_
  refine gCX5_25_31 hX dX5_copyFrom_64 ?_
  refine pCX5_25_22 hX dX5_copyFrom_67 h (fun σ_5 h => ?_)
  exact g_retv hR h dX5_copyFrom_70
set_option maxRecDepth 20000 in
set_option maxHeartbeats 4000000 in
theorem kX5_copyFrom_i31 (l : Launch) {a : Nat → Nat} {D : va_G} {tI tJ tB tS : ClassId} {kK kV : Nat → Nat} {σ τ : St}   {x : Unit} (h : fX5_copyFrom_i31 σ  = some (τ, x)) : CtV l yX5_copyFrom cX5_copyFrom 2 none 1 60 (vC a D tI tJ tB tS kK kV) σ [.ref (a 22), .ref (a 31)] τ x := g_metV (by decide) (Nat.le_of_ble_eq_true rfl) rfl (fun X _ hX hR => sX5_copyFrom_i31 (r := (τ, x)) hX hR h)
def fX5_copyFrom_i35 (σ : St)  : Option (St × Unit) :=
  bnd (cpI σ 36 23 (0 : Int32) (0 : Int32) (4 : Int32)) fun (σ_1 : St) => bnd (cpI σ_1 37 24 (0 : Int32) (0 : Int32) (32 : Int32)) fun (σ_2 : St) => bnd (cpI σ_2 38 25 (0 : Int32) (0 : Int32) (4 : Int32)) fun (σ_3 : St) => bnd (sI σ_3 22 3 (σ_3.1 35 3)) fun (σ_4 : St) => bnd (sI σ_4 22 4 (σ_4.1 35 4)) fun (σ_5 : St) => some (σ_5, ())
set_option maxRecDepth 20000 in
set_option maxHeartbeats 4000000 in
theorem sX5_copyFrom_i35 {X : CX} {a : Nat → Nat} {D : va_G} {tI tJ tB tS : ClassId} {kK kV : Nat → Nat} {σ : St}   {r : St × Unit} (hX : OKX X (vC a D tI tJ tB tS kK kV) cX5_copyFrom 2 RX5 1 60) (hR : ∀ (pc : Nat) (lv : List (Nat × Value)), decode cX5_copyFrom pc = .ok (.return_, 1) → G X (vC a D tI tJ tB tS kK kV) 2 r.1 pc lv [])  (h : fX5_copyFrom_i35 σ  = some r) : G X (vC a D tI tJ tB tS kK kV) 2 σ 0 [(0, .ref (a 22)), (1, .ref (a 35))] [] := by
  unfold fX5_copyFrom_i35 at h
  refine g_aload_n hX 1 dX5_copyFrom_0 rfl rfl ?_
  refine gCX5_9_35 hX dX5_copyFrom_1 ?_
  refine g_iconst hX (0) dX5_copyFrom_4 (by decide) ?_
  refine g_aload_n hX 0 dX5_copyFrom_5 rfl rfl ?_
  refine gCX5_9_22 hX dX5_copyFrom_6 ?_
  refine g_iconst hX (0) dX5_copyFrom_9 (by decide) ?_
  refine g_aload_n hX 0 dX5_copyFrom_10 rfl rfl ?_
  refine gCX5_9_22 hX dX5_copyFrom_11 ?_
  refine lenC_23 hX dX5_copyFrom_14 ?_
  refine g_copyI (ty := .int) hX 36 23 0 lkX5_37 acN acS acI (Nat.le_of_ble_eq_true rfl) (Nat.le_of_ble_eq_true rfl) rfl rfl rfl rfl rfl (fun _ => rfl) (by decide) (by decide) (by decide) (by decide) (by decide) (by decide) (by decide) dX5_copyFrom_15 h (fun σ_1 h => ?_)
  refine g_aload_n hX 1 dX5_copyFrom_18 rfl rfl ?_
  refine gCX5_15_35 hX dX5_copyFrom_19 ?_
  refine g_iconst hX (0) dX5_copyFrom_22 (by decide) ?_
  refine g_aload_n hX 0 dX5_copyFrom_23 rfl rfl ?_
  refine gCX5_15_22 hX dX5_copyFrom_24 ?_
  refine g_iconst hX (0) dX5_copyFrom_27 (by decide) ?_
  refine g_aload_n hX 0 dX5_copyFrom_28 rfl rfl ?_
  refine gCX5_15_22 hX dX5_copyFrom_29 ?_
  refine lenC_24 hX dX5_copyFrom_32 ?_
  refine g_copyI (ty := .int) hX 37 24 0 lkX5_37 acN acS acI (Nat.le_of_ble_eq_true rfl) (Nat.le_of_ble_eq_true rfl) rfl rfl rfl rfl rfl (fun _ => rfl) (by decide) (by decide) (by decide) (by decide) (by decide) (by decide) (by decide) dX5_copyFrom_33 h (fun σ_2 h => ?_)
  refine g_aload_n hX 1 dX5_copyFrom_36 rfl rfl ?_
  refine gCX5_18_35 hX dX5_copyFrom_37 ?_
  refine g_iconst hX (0) dX5_copyFrom_40 (by decide) ?_
  refine g_aload_n hX 0 dX5_copyFrom_41 rfl rfl ?_
  refine gCX5_18_22 hX dX5_copyFrom_42 ?_
  refine g_iconst hX (0) dX5_copyFrom_45 (by decide) ?_
  refine g_aload_n hX 0 dX5_copyFrom_46 rfl rfl ?_
  refine gCX5_18_22 hX dX5_copyFrom_47 ?_
  refine lenC_25 hX dX5_copyFrom_50 ?_
  refine g_copyI (ty := .int) hX 38 25 0 lkX5_37 acN acS acI (Nat.le_of_ble_eq_true rfl) (Nat.le_of_ble_eq_true rfl) rfl rfl rfl rfl rfl (fun _ => rfl) (by decide) (by decide) (by decide) (by decide) (by decide) (by decide) (by decide) dX5_copyFrom_51 h (fun σ_3 h => ?_)
  refine g_aload_n hX 0 dX5_copyFrom_54 rfl rfl ?_
  refine g_aload_n hX 1 dX5_copyFrom_55 rfl rfl ?_
  refine gCX5_21_35 hX dX5_copyFrom_56 ?_
  refine pCX5_21_22 hX dX5_copyFrom_59 h (fun σ_4 h => ?_)
  refine g_aload_n hX 0 dX5_copyFrom_62 rfl rfl ?_
  refine g_aload_n hX 1 dX5_copyFrom_63 rfl rfl ?_
  refine gCX5_25_35 hX dX5_copyFrom_64 ?_
  refine pCX5_25_22 hX dX5_copyFrom_67 h (fun σ_5 h => ?_)
  exact g_retv hR h dX5_copyFrom_70
set_option maxRecDepth 20000 in
set_option maxHeartbeats 4000000 in
theorem kX5_copyFrom_i35 (l : Launch) {a : Nat → Nat} {D : va_G} {tI tJ tB tS : ClassId} {kK kV : Nat → Nat} {σ τ : St}   {x : Unit} (h : fX5_copyFrom_i35 σ  = some (τ, x)) : CtV l yX5_copyFrom cX5_copyFrom 2 none 1 60 (vC a D tI tJ tB tS kK kV) σ [.ref (a 22), .ref (a 35)] τ x := g_metV (by decide) (Nat.le_of_ble_eq_true rfl) rfl (fun X _ hX hR => sX5_copyFrom_i35 (r := (τ, x)) hX hR h)
def fX5_copyFrom_i39 (σ : St)  : Option (St × Unit) :=
  bnd (cpI σ 40 23 (0 : Int32) (0 : Int32) (4 : Int32)) fun (σ_1 : St) => bnd (cpI σ_1 41 24 (0 : Int32) (0 : Int32) (32 : Int32)) fun (σ_2 : St) => bnd (cpI σ_2 42 25 (0 : Int32) (0 : Int32) (4 : Int32)) fun (σ_3 : St) => bnd (sI σ_3 22 3 (σ_3.1 39 3)) fun (σ_4 : St) => bnd (sI σ_4 22 4 (σ_4.1 39 4)) fun (σ_5 : St) => some (σ_5, ())
set_option maxRecDepth 20000 in
set_option maxHeartbeats 4000000 in
theorem sX5_copyFrom_i39 {X : CX} {a : Nat → Nat} {D : va_G} {tI tJ tB tS : ClassId} {kK kV : Nat → Nat} {σ : St}   {r : St × Unit} (hX : OKX X (vC a D tI tJ tB tS kK kV) cX5_copyFrom 2 RX5 1 60) (hR : ∀ (pc : Nat) (lv : List (Nat × Value)), decode cX5_copyFrom pc = .ok (.return_, 1) → G X (vC a D tI tJ tB tS kK kV) 2 r.1 pc lv [])  (h : fX5_copyFrom_i39 σ  = some r) : G X (vC a D tI tJ tB tS kK kV) 2 σ 0 [(0, .ref (a 22)), (1, .ref (a 39))] [] := by
  unfold fX5_copyFrom_i39 at h
  refine g_aload_n hX 1 dX5_copyFrom_0 rfl rfl ?_
  refine gCX5_9_39 hX dX5_copyFrom_1 ?_
  refine g_iconst hX (0) dX5_copyFrom_4 (by decide) ?_
  refine g_aload_n hX 0 dX5_copyFrom_5 rfl rfl ?_
  refine gCX5_9_22 hX dX5_copyFrom_6 ?_
  refine g_iconst hX (0) dX5_copyFrom_9 (by decide) ?_
  refine g_aload_n hX 0 dX5_copyFrom_10 rfl rfl ?_
  refine gCX5_9_22 hX dX5_copyFrom_11 ?_
  refine lenC_23 hX dX5_copyFrom_14 ?_
  refine g_copyI (ty := .int) hX 40 23 0 lkX5_37 acN acS acI (Nat.le_of_ble_eq_true rfl) (Nat.le_of_ble_eq_true rfl) rfl rfl rfl rfl rfl (fun _ => rfl) (by decide) (by decide) (by decide) (by decide) (by decide) (by decide) (by decide) dX5_copyFrom_15 h (fun σ_1 h => ?_)
  refine g_aload_n hX 1 dX5_copyFrom_18 rfl rfl ?_
  refine gCX5_15_39 hX dX5_copyFrom_19 ?_
  refine g_iconst hX (0) dX5_copyFrom_22 (by decide) ?_
  refine g_aload_n hX 0 dX5_copyFrom_23 rfl rfl ?_
  refine gCX5_15_22 hX dX5_copyFrom_24 ?_
  refine g_iconst hX (0) dX5_copyFrom_27 (by decide) ?_
  refine g_aload_n hX 0 dX5_copyFrom_28 rfl rfl ?_
  refine gCX5_15_22 hX dX5_copyFrom_29 ?_
  refine lenC_24 hX dX5_copyFrom_32 ?_
  refine g_copyI (ty := .int) hX 41 24 0 lkX5_37 acN acS acI (Nat.le_of_ble_eq_true rfl) (Nat.le_of_ble_eq_true rfl) rfl rfl rfl rfl rfl (fun _ => rfl) (by decide) (by decide) (by decide) (by decide) (by decide) (by decide) (by decide) dX5_copyFrom_33 h (fun σ_2 h => ?_)
  refine g_aload_n hX 1 dX5_copyFrom_36 rfl rfl ?_
  refine gCX5_18_39 hX dX5_copyFrom_37 ?_
  refine g_iconst hX (0) dX5_copyFrom_40 (by decide) ?_
  refine g_aload_n hX 0 dX5_copyFrom_41 rfl rfl ?_
  refine gCX5_18_22 hX dX5_copyFrom_42 ?_
  refine g_iconst hX (0) dX5_copyFrom_45 (by decide) ?_
  refine g_aload_n hX 0 dX5_copyFrom_46 rfl rfl ?_
  refine gCX5_18_22 hX dX5_copyFrom_47 ?_
  refine lenC_25 hX dX5_copyFrom_50 ?_
  refine g_copyI (ty := .int) hX 42 25 0 lkX5_37 acN acS acI (Nat.le_of_ble_eq_true rfl) (Nat.le_of_ble_eq_true rfl) rfl rfl rfl rfl rfl (fun _ => rfl) (by decide) (by decide) (by decide) (by decide) (by decide) (by decide) (by decide) dX5_copyFrom_51 h (fun σ_3 h => ?_)
  refine g_aload_n hX 0 dX5_copyFrom_54 rfl rfl ?_
  refine g_aload_n hX 1 dX5_copyFrom_55 rfl rfl ?_
  refine gCX5_21_39 hX dX5_copyFrom_56 ?_
  refine pCX5_21_22 hX dX5_copyFrom_59 h (fun σ_4 h => ?_)
  refine g_aload_n hX 0 dX5_copyFrom_62 rfl rfl ?_
  refine g_aload_n hX 1 dX5_copyFrom_63 rfl rfl ?_
  refine gCX5_25_39 hX dX5_copyFrom_64 ?_
  refine pCX5_25_22 hX dX5_copyFrom_67 h (fun σ_5 h => ?_)
  exact g_retv hR h dX5_copyFrom_70
set_option maxRecDepth 20000 in
set_option maxHeartbeats 4000000 in
theorem kX5_copyFrom_i39 (l : Launch) {a : Nat → Nat} {D : va_G} {tI tJ tB tS : ClassId} {kK kV : Nat → Nat} {σ τ : St}   {x : Unit} (h : fX5_copyFrom_i39 σ  = some (τ, x)) : CtV l yX5_copyFrom cX5_copyFrom 2 none 1 60 (vC a D tI tJ tB tS kK kV) σ [.ref (a 22), .ref (a 39)] τ x := g_metV (by decide) (Nat.le_of_ble_eq_true rfl) rfl (fun X _ hX hR => sX5_copyFrom_i39 (r := (τ, x)) hX hR h)
def fX8_back (σ : St) (p1 : Int32) : Option (St × Int32) :=
  (if p1 < 0 then some (σ, (0 : Int32)) else (if (σ.1 0 14) ≤ p1 then some (σ, (0 : Int32)) else (if p1 < (4 : Int32) then chk (inb p1 4) ((if p1 = 0 then cl (fX5_copyFrom_i27 σ ) fun (σ_1 : St) (t_2 : Unit) => cl (fX4_forget σ_1 ) fun (σ_3 : St) (t_4 : Unit) => some (σ_3, (1 : Int32)) else (if p1 = 1 then cl (fX5_copyFrom_i31 σ ) fun (σ_5 : St) (t_6 : Unit) => cl (fX4_forget σ_5 ) fun (σ_7 : St) (t_8 : Unit) => some (σ_7, (1 : Int32)) else (if p1 = 2 then cl (fX5_copyFrom_i35 σ ) fun (σ_9 : St) (t_10 : Unit) => cl (fX4_forget σ_9 ) fun (σ_11 : St) (t_12 : Unit) => some (σ_11, (1 : Int32)) else cl (fX5_copyFrom_i39 σ ) fun (σ_13 : St) (t_14 : Unit) => cl (fX4_forget σ_13 ) fun (σ_15 : St) (t_16 : Unit) => some (σ_15, (1 : Int32)))))) else some (σ, (0 : Int32)))))
set_option maxRecDepth 20000 in
set_option maxHeartbeats 4000000 in
theorem sX8_back {X : CX} {a : Nat → Nat} {D : va_G} {tI tJ tB tS : ClassId} {kK kV : Nat → Nat} {σ : St}  {p1 : Int32} {r : St × Int32} (hX : OKX X (vC a D tI tJ tB tS kK kV) cX8_back 2 RX8 2 81) (hR : (r.2 = 0 ∨ r.2 = 1) → ∀ (pc : Nat) (lv : List (Nat × Value)), decode cX8_back pc = .ok (.ireturn, 1) → G X (vC a D tI tJ tB tS kK kV) 2 r.1 pc lv [.int r.2])  (h : fX8_back σ p1 = some r) : G X (vC a D tI tJ tB tS kK kV) 2 σ 0 [(0, .ref (a 0)), (1, .int p1)] [] := by
  unfold fX8_back at h
  refine g_iload_n hX 1 dX8_back_0 rfl rfl ?_
  refine g_if_lt hX 21 dX8_back_1 (by decide) h (fun h => ?_) (fun h => ?_)
  · refine g_iconst hX (0) dX8_back_21 (by decide) ?_
    exact g_retz hR (by decide) h dX8_back_22
  · refine g_iload_n hX 1 dX8_back_4 rfl rfl ?_
    refine g_aload_n hX 0 dX8_back_5 rfl rfl ?_
    refine gCX8_96_0 hX dX8_back_6 ?_
    refine g_icmp_ge hX 21 dX8_back_9 (by decide) h (fun h => ?_) (fun h => ?_)
    · refine g_iconst hX (0) dX8_back_21 (by decide) ?_
      exact g_retz hR (by decide) h dX8_back_22
    · refine g_iload_n hX 1 dX8_back_12 rfl rfl ?_
      refine g_aload_n hX 0 dX8_back_13 rfl rfl ?_
      refine gCX8_51_0 hX dX8_back_14 ?_
      refine lenC_26 hX dX8_back_17 ?_
      refine g_icmp_lt hX 23 dX8_back_18 (by decide) h (fun h => ?_) (fun h => ?_)
      · refine g_aload_n hX 0 dX8_back_23 rfl rfl ?_
        refine gCX8_47_0 hX dX8_back_24 ?_
        refine g_aload_n hX 0 dX8_back_27 rfl rfl ?_
        refine gCX8_51_0 hX dX8_back_28 ?_
        refine g_iload_n hX 1 dX8_back_31 rfl rfl ?_
        obtain ⟨hib, h⟩ := chk_inv h
        refine ite_go h (fun hq h => ?_) (fun hn0 h => ?_)
        · refine g_aald (K := some ()) (r := ()) hX 26 3 27 (Nat.le_of_ble_eq_true rfl) rfl rfl dX8_back_32 (chk_true hib) (im_at0 hq) (fun _ => ?_)
          refine g_callNV (As := [.ref (a 27)]) (rest := []) hX 22 (Nat.le_of_ble_eq_true rfl) rfl rfl miX5_copyFrom mvX5_copyFrom lkX8_323 (by decide) rfl (Nat.le_of_ble_eq_true rfl) rfl dX8_back_33 (fun τ x ho => kX5_copyFrom_i27 _ ho) h (fun σ_1 t_2 h => ?_)
          refine g_aload_n hX 0 dX8_back_36 rfl rfl ?_
          refine gCX8_64_0 hX dX8_back_37 ?_
          refine g_callNV (As := []) (rest := []) hX 53 (Nat.le_of_ble_eq_true rfl) rfl rfl miX4_forget mvX4_forget lkX8_117 (by decide) rfl (Nat.le_of_ble_eq_true rfl) rfl dX8_back_40 (fun τ x ho => kX4_forget _ ho) h (fun σ_3 t_4 h => ?_)
          refine g_iconst hX (1) dX8_back_43 (by decide) ?_
          exact g_retz hR (by decide) h dX8_back_44
        refine ite_go h (fun hq h => ?_) (fun hn1 h => ?_)
        · refine g_aald (K := some ()) (r := ()) hX 26 3 31 (Nat.le_of_ble_eq_true rfl) rfl rfl dX8_back_32 (chk_true hib) (im_at1 hq) (fun _ => ?_)
          refine g_callNV (As := [.ref (a 31)]) (rest := []) hX 22 (Nat.le_of_ble_eq_true rfl) rfl rfl miX5_copyFrom mvX5_copyFrom lkX8_323 (by decide) rfl (Nat.le_of_ble_eq_true rfl) rfl dX8_back_33 (fun τ x ho => kX5_copyFrom_i31 _ ho) h (fun σ_5 t_6 h => ?_)
          refine g_aload_n hX 0 dX8_back_36 rfl rfl ?_
          refine gCX8_64_0 hX dX8_back_37 ?_
          refine g_callNV (As := []) (rest := []) hX 53 (Nat.le_of_ble_eq_true rfl) rfl rfl miX4_forget mvX4_forget lkX8_117 (by decide) rfl (Nat.le_of_ble_eq_true rfl) rfl dX8_back_40 (fun τ x ho => kX4_forget _ ho) h (fun σ_7 t_8 h => ?_)
          refine g_iconst hX (1) dX8_back_43 (by decide) ?_
          exact g_retz hR (by decide) h dX8_back_44
        refine ite_go h (fun hq h => ?_) (fun hn2 h => ?_)
        · refine g_aald (K := some ()) (r := ()) hX 26 3 35 (Nat.le_of_ble_eq_true rfl) rfl rfl dX8_back_32 (chk_true hib) (im_at2 hq) (fun _ => ?_)
          refine g_callNV (As := [.ref (a 35)]) (rest := []) hX 22 (Nat.le_of_ble_eq_true rfl) rfl rfl miX5_copyFrom mvX5_copyFrom lkX8_323 (by decide) rfl (Nat.le_of_ble_eq_true rfl) rfl dX8_back_33 (fun τ x ho => kX5_copyFrom_i35 _ ho) h (fun σ_9 t_10 h => ?_)
          refine g_aload_n hX 0 dX8_back_36 rfl rfl ?_
          refine gCX8_64_0 hX dX8_back_37 ?_
          refine g_callNV (As := []) (rest := []) hX 53 (Nat.le_of_ble_eq_true rfl) rfl rfl miX4_forget mvX4_forget lkX8_117 (by decide) rfl (Nat.le_of_ble_eq_true rfl) rfl dX8_back_40 (fun τ x ho => kX4_forget _ ho) h (fun σ_11 t_12 h => ?_)
          refine g_iconst hX (1) dX8_back_43 (by decide) ?_
          exact g_retz hR (by decide) h dX8_back_44
        refine g_aald (K := some ()) (r := ()) hX 26 3 39 (Nat.le_of_ble_eq_true rfl) rfl rfl dX8_back_32 (chk_true hib) (im_at3 hib hn0 hn1 hn2) (fun _ => ?_)
        refine g_callNV (As := [.ref (a 39)]) (rest := []) hX 22 (Nat.le_of_ble_eq_true rfl) rfl rfl miX5_copyFrom mvX5_copyFrom lkX8_323 (by decide) rfl (Nat.le_of_ble_eq_true rfl) rfl dX8_back_33 (fun τ x ho => kX5_copyFrom_i39 _ ho) h (fun σ_13 t_14 h => ?_)
        refine g_aload_n hX 0 dX8_back_36 rfl rfl ?_
        refine gCX8_64_0 hX dX8_back_37 ?_
        refine g_callNV (As := []) (rest := []) hX 53 (Nat.le_of_ble_eq_true rfl) rfl rfl miX4_forget mvX4_forget lkX8_117 (by decide) rfl (Nat.le_of_ble_eq_true rfl) rfl dX8_back_40 (fun τ x ho => kX4_forget _ ho) h (fun σ_15 t_16 h => ?_)
        refine g_iconst hX (1) dX8_back_43 (by decide) ?_
        exact g_retz hR (by decide) h dX8_back_44
      · refine g_iconst hX (0) dX8_back_21 (by decide) ?_
        exact g_retz hR (by decide) h dX8_back_22
set_option maxRecDepth 20000 in
set_option maxHeartbeats 4000000 in
theorem kX8_back (l : Launch) {a : Nat → Nat} {D : va_G} {tI tJ tB tS : ClassId} {kK kV : Nat → Nat} {σ τ : St}  {p1 : Int32} {x : Int32} (h : fX8_back σ p1 = some (τ, x)) : CtI l yX8_back cX8_back 2 (some .boolean) 2 81 (vC a D tI tJ tB tS kK kV) σ [.ref (a 0), .int p1] τ x := g_metZ (by decide) (Nat.le_of_ble_eq_true rfl) rfl (fun X _ hX hR => sX8_back (r := (τ, x)) hX hR h)
def fX7_likelyRows_L20 (q1_20 : Int32) (q2_20 : Int32) (kx20 : St → Int32 → Int32 → Option (St × Int32)) : Nat → St → Int32 → Int32 → Option (St × Int32)
  | 0, _, _, _ => none
  | n20 + 1, σ, c3_20, c4_20 =>
    (if (σ.1 2 2) ≤ c4_20 then kx20 σ c3_20 c4_20 else chk (inb ((q2_20 * (8 : Int32)) + c4_20) 32) ((jp (fun (σ_5 : St)  (t_6 : Int32) => bnd (c3_20 + t_6) fun (x3_7 : Int32) => bnd (c4_20 + (1 : Int32)) fun (x4_8 : Int32) => fX7_likelyRows_L20 q1_20 q2_20 kx20 n20 σ_5 x3_7 x4_8) fun j53 => (if (σ.1 45 (ix ((q2_20 * (8 : Int32)) + c4_20))) ≤ 0 then j53 σ (0 : Int32) else j53 σ (1 : Int32)))))
def fX7_likelyRows_L4  (kx4 : St → Int32 → Int32 → Option (St × Int32)) : Nat → St → Int32 → Int32 → Option (St × Int32)
  | 0, _, _, _ => none
  | n4 + 1, σ, c1_4, c2_4 =>
    (if (σ.1 2 0) ≤ c2_4 then kx4 σ c1_4 c2_4 else bnd (0 : Int32) fun (x3_3 : Int32) => bnd (0 : Int32) fun (x4_4 : Int32) => fX7_likelyRows_L20 c1_4 c2_4 (fun (σ_9 : St) (x3_10 : Int32) (x4_11 : Int32) => bnd (c1_4 * x3_10) fun (x1_12 : Int32) => bnd (c2_4 + (1 : Int32)) fun (x2_13 : Int32) => fX7_likelyRows_L4 kx4 n4 σ_9 x1_12 x2_13) FU σ x3_3 x4_4)
def fX7_likelyRows (σ : St)  : Option (St × Int32) :=
  bnd (1 : Int32) fun (x1_1 : Int32) => bnd (0 : Int32) fun (x2_2 : Int32) => fX7_likelyRows_L4  (fun (σ_14 : St) (x1_15 : Int32) (x2_16 : Int32) => some (σ_14, x1_15)) FU σ x1_1 x2_2
set_option maxRecDepth 20000 in
set_option maxHeartbeats 4000000 in
theorem sX7_likelyRows_L20 {X : CX} {a : Nat → Nat} {D : va_G} {tI tJ tB tS : ClassId} {kK kV : Nat → Nat} {q1_20 : Int32} {q2_20 : Int32} {kx20 : St → Int32 → Int32 → Option (St × Int32)} {r : St × Int32} (hX : OKX X (vC a D tI tJ tB tS kK kV) cX7_likelyRows 5 RX7 0 0) (hR : ∀ (pc : Nat) (lv : List (Nat × Value)), decode cX7_likelyRows pc = .ok (.ireturn, 1) → G X (vC a D tI tJ tB tS kK kV) 5 r.1 pc lv [.int r.2]) (hkx20 : ∀ (σ : St) (e3_20 : Int32) (e4_20 : Int32), kx20 σ e3_20 e4_20 = some r → G X (vC a D tI tJ tB tS kK kV) 5 σ 61 [(0, .ref (a 43)), (1, .int q1_20), (2, .int q2_20), (3, .int e3_20)] []) : ∀ (n : Nat) (σ : St) (c3_20 : Int32) (c4_20 : Int32), fX7_likelyRows_L20 q1_20 q2_20 kx20 n σ c3_20 c4_20 = some r → G X (vC a D tI tJ tB tS kK kV) 5 σ 20 [(0, .ref (a 43)), (1, .int q1_20), (2, .int q2_20), (3, .int c3_20), (4, .int c4_20)] [] := by
  intro n
  induction n with
  | zero => intro σ c3_20 c4_20 h; rw [fX7_likelyRows_L20] at h; exact absurd h (by simp)
  | succ n20 ih20 =>
    intro σ c3_20 c4_20 h
    rw [fX7_likelyRows_L20] at h
    refine g_iload hX 4 dX7_likelyRows_20 rfl ?_
    refine g_aload_n hX 0 dX7_likelyRows_22 rfl rfl ?_
    refine gCX7_9_43 hX dX7_likelyRows_23 ?_
    refine gCX7_106_2 hX dX7_likelyRows_26 ?_
    refine g_icmp_ge hX 61 dX7_likelyRows_29 (by decide) h (fun h => ?_) (fun h => ?_)
    · exact g_sub [0, 1, 2, 3] rfl (hkx20 _ _ _ h)
    · refine g_iload_n hX 3 dX7_likelyRows_32 rfl rfl ?_
      refine g_aload_n hX 0 dX7_likelyRows_33 rfl rfl ?_
      refine gCX7_27_43 hX dX7_likelyRows_34 ?_
      refine g_iload_n hX 2 dX7_likelyRows_37 rfl rfl ?_
      refine g_bipush hX (8) dX7_likelyRows_38 (by decide) ?_
      refine g_imul hX dX7_likelyRows_40 ?_
      refine g_iload hX 4 dX7_likelyRows_41 rfl ?_
      refine g_iadd hX dX7_likelyRows_43 ?_
      refine alC_45 hX dX7_likelyRows_44 h (fun h => ?_)
      refine jp_inv (P := fun f => ∀ (σ_5 : St)  (t_6 : Int32), f σ_5 t_6 = some r → G X (vC a D tI tJ tB tS kK kV) 5 σ_5 53 [(0, .ref (a 43)), (1, .int q1_20), (2, .int q2_20), (4, .int c4_20)] [.int t_6, .int c3_20]) h (fun σ_5 t_6 h => ?_) (fun j53 hj53 h => ?_)
      · refine g_iadd hX dX7_likelyRows_53 ?_
        refine g_istore_n (lv' := fun x3_7 => [(3, .int x3_7), (0, .ref (a 43)), (1, .int q1_20), (2, .int q2_20), (4, .int c4_20)]) hX dX7_likelyRows_54 rfl (by decide) (fun _ => rfl) h (fun x3_7 h => ?_)
        refine g_iinc (y := (1)) (lv' := fun x4_8 => [(4, .int x4_8), (3, .int x3_7), (0, .ref (a 43)), (1, .int q1_20), (2, .int q2_20)]) hX 4 dX7_likelyRows_55 rfl (by decide) (by decide) (fun _ => rfl) h (fun x4_8 h => ?_)
        refine g_goto hX 20 dX7_likelyRows_58 (by decide) ?_
        exact g_sub [2, 3, 4, 1, 0] rfl (ih20 _ _ _ h)
      refine g_if_le hX 52 dX7_likelyRows_45 (by decide) h (fun h => ?_) (fun h => ?_)
      · refine g_iconst hX (0) dX7_likelyRows_52 (by decide) ?_
        exact g_sub [0, 1, 2, 4] rfl (hj53 _ _ h)
      · refine g_iconst hX (1) dX7_likelyRows_48 (by decide) ?_
        refine g_goto hX 53 dX7_likelyRows_49 (by decide) ?_
        exact g_sub [0, 1, 2, 4] rfl (hj53 _ _ h)
set_option maxRecDepth 20000 in
set_option maxHeartbeats 4000000 in
theorem sX7_likelyRows_L4 {X : CX} {a : Nat → Nat} {D : va_G} {tI tJ tB tS : ClassId} {kK kV : Nat → Nat}  {kx4 : St → Int32 → Int32 → Option (St × Int32)} {r : St × Int32} (hX : OKX X (vC a D tI tJ tB tS kK kV) cX7_likelyRows 5 RX7 0 0) (hR : ∀ (pc : Nat) (lv : List (Nat × Value)), decode cX7_likelyRows pc = .ok (.ireturn, 1) → G X (vC a D tI tJ tB tS kK kV) 5 r.1 pc lv [.int r.2]) (hkx4 : ∀ (σ : St) (e1_4 : Int32) (e2_4 : Int32), kx4 σ e1_4 e2_4 = some r → G X (vC a D tI tJ tB tS kK kV) 5 σ 71 [(1, .int e1_4)] []) : ∀ (n : Nat) (σ : St) (c1_4 : Int32) (c2_4 : Int32), fX7_likelyRows_L4 kx4 n σ c1_4 c2_4 = some r → G X (vC a D tI tJ tB tS kK kV) 5 σ 4 [(0, .ref (a 43)), (1, .int c1_4), (2, .int c2_4)] [] := by
  intro n
  induction n with
  | zero => intro σ c1_4 c2_4 h; rw [fX7_likelyRows_L4] at h; exact absurd h (by simp)
  | succ n4 ih4 =>
    intro σ c1_4 c2_4 h
    rw [fX7_likelyRows_L4] at h
    refine g_iload_n hX 2 dX7_likelyRows_4 rfl rfl ?_
    refine g_aload_n hX 0 dX7_likelyRows_5 rfl rfl ?_
    refine gCX7_9_43 hX dX7_likelyRows_6 ?_
    refine gCX7_85_2 hX dX7_likelyRows_9 ?_
    refine g_icmp_ge hX 71 dX7_likelyRows_12 (by decide) h (fun h => ?_) (fun h => ?_)
    · exact g_sub [1] rfl (hkx4 _ _ _ h)
    · refine g_iconst hX (0) dX7_likelyRows_15 (by decide) ?_
      refine g_istore_n (lv' := fun x3_3 => [(3, .int x3_3), (0, .ref (a 43)), (1, .int c1_4), (2, .int c2_4)]) hX dX7_likelyRows_16 rfl (by decide) (fun _ => rfl) h (fun x3_3 h => ?_)
      refine g_iconst hX (0) dX7_likelyRows_17 (by decide) ?_
      refine g_istore (lv' := fun x4_4 => [(4, .int x4_4), (3, .int x3_3), (0, .ref (a 43)), (1, .int c1_4), (2, .int c2_4)]) hX dX7_likelyRows_18 (by decide) (fun _ => rfl) h (fun x4_4 h => ?_)
      refine g_sub [2, 3, 4, 1, 0] rfl (sX7_likelyRows_L20 hX hR (fun σ_9 x3_10 x4_11 h => ?_) FU _ _ _ h)
      refine g_iload_n hX 1 dX7_likelyRows_61 rfl rfl ?_
      refine g_iload_n hX 3 dX7_likelyRows_62 rfl rfl ?_
      refine g_imul hX dX7_likelyRows_63 ?_
      refine g_istore_n (lv' := fun x1_12 => [(1, .int x1_12), (0, .ref (a 43)), (2, .int c2_4), (3, .int x3_10)]) hX dX7_likelyRows_64 rfl (by decide) (fun _ => rfl) h (fun x1_12 h => ?_)
      refine g_iinc (y := (1)) (lv' := fun x2_13 => [(2, .int x2_13), (1, .int x1_12), (0, .ref (a 43)), (3, .int x3_10)]) hX 2 dX7_likelyRows_65 rfl (by decide) (by decide) (fun _ => rfl) h (fun x2_13 h => ?_)
      refine g_goto hX 4 dX7_likelyRows_68 (by decide) ?_
      exact g_sub [2, 1, 0] rfl (ih4 _ _ _ h)
set_option maxRecDepth 20000 in
set_option maxHeartbeats 4000000 in
theorem sX7_likelyRows {X : CX} {a : Nat → Nat} {D : va_G} {tI tJ tB tS : ClassId} {kK kV : Nat → Nat} {σ : St}   {r : St × Int32} (hX : OKX X (vC a D tI tJ tB tS kK kV) cX7_likelyRows 5 RX7 0 0) (hR : ∀ (pc : Nat) (lv : List (Nat × Value)), decode cX7_likelyRows pc = .ok (.ireturn, 1) → G X (vC a D tI tJ tB tS kK kV) 5 r.1 pc lv [.int r.2])  (h : fX7_likelyRows σ  = some r) : G X (vC a D tI tJ tB tS kK kV) 5 σ 0 [(0, .ref (a 43))] [] := by
  unfold fX7_likelyRows at h
  refine g_iconst hX (1) dX7_likelyRows_0 (by decide) ?_
  refine g_istore_n (lv' := fun x1_1 => [(1, .int x1_1), (0, .ref (a 43))]) hX dX7_likelyRows_1 rfl (by decide) (fun _ => rfl) h (fun x1_1 h => ?_)
  refine g_iconst hX (0) dX7_likelyRows_2 (by decide) ?_
  refine g_istore_n (lv' := fun x2_2 => [(2, .int x2_2), (1, .int x1_1), (0, .ref (a 43))]) hX dX7_likelyRows_3 rfl (by decide) (fun _ => rfl) h (fun x2_2 h => ?_)
  refine g_sub [2, 1, 0] rfl (sX7_likelyRows_L4 hX hR (fun σ_14 x1_15 x2_16 h => ?_) FU _ _ _ h)
  refine g_iload_n hX 0 dX7_likelyRows_71 rfl rfl ?_
  exact g_reti hR h dX7_likelyRows_72
set_option maxRecDepth 20000 in
set_option maxHeartbeats 4000000 in
theorem kX7_likelyRows (l : Launch) {a : Nat → Nat} {D : va_G} {tI tJ tB tS : ClassId} {kK kV : Nat → Nat} {σ τ : St}   {x : Int32} (h : fX7_likelyRows σ  = some (τ, x)) : CtI l yX7_likelyRows cX7_likelyRows 5 (some .int) 0 0 (vC a D tI tJ tB tS kK kV) σ [.ref (a 43)] τ x := g_metI (by decide) (Nat.le_of_ble_eq_true rfl) rfl (fun X _ hX hR => sX7_likelyRows (r := (τ, x)) hX hR h)
def fX6_womenInAll_L4  (kx4 : St → Int32 → Int32 → Option (St × Int32)) : Nat → St → Int32 → Int32 → Option (St × Int32)
  | 0, _, _, _ => none
  | n4 + 1, σ, c1_4, c2_4 =>
    (if (σ.1 2 1) ≤ c2_4 then kx4 σ c1_4 c2_4 else chk (inb c2_4 12) (cl (fX6_setsInAll σ c2_4) fun (σ_3 : St) (t_4 : Int32) => bnd (c1_4 + ((σ.1 6 (ix c2_4)) * t_4)) fun (x1_5 : Int32) => bnd (c2_4 + (1 : Int32)) fun (x2_6 : Int32) => fX6_womenInAll_L4 kx4 n4 σ_3 x1_5 x2_6))
def fX6_womenInAll (σ : St)  : Option (St × Int32) :=
  bnd (0 : Int32) fun (x1_1 : Int32) => bnd (0 : Int32) fun (x2_2 : Int32) => fX6_womenInAll_L4  (fun (σ_7 : St) (x1_8 : Int32) (x2_9 : Int32) => some (σ_7, x1_8)) FU σ x1_1 x2_2
set_option maxRecDepth 20000 in
set_option maxHeartbeats 4000000 in
theorem sX6_womenInAll_L4 {X : CX} {a : Nat → Nat} {D : va_G} {tI tJ tB tS : ClassId} {kK kV : Nat → Nat}  {kx4 : St → Int32 → Int32 → Option (St × Int32)} {r : St × Int32} (hX : OKX X (vC a D tI tJ tB tS kK kV) cX6_womenInAll 3 RX6 2 43) (hR : ∀ (pc : Nat) (lv : List (Nat × Value)), decode cX6_womenInAll pc = .ok (.ireturn, 1) → G X (vC a D tI tJ tB tS kK kV) 3 r.1 pc lv [.int r.2]) (hkx4 : ∀ (σ : St) (e1_4 : Int32) (e2_4 : Int32), kx4 σ e1_4 e2_4 = some r → G X (vC a D tI tJ tB tS kK kV) 3 σ 33 [(1, .int e1_4)] []) : ∀ (n : Nat) (σ : St) (c1_4 : Int32) (c2_4 : Int32), fX6_womenInAll_L4 kx4 n σ c1_4 c2_4 = some r → G X (vC a D tI tJ tB tS kK kV) 3 σ 4 [(0, .ref (a 2)), (1, .int c1_4), (2, .int c2_4)] [] := by
  intro n
  induction n with
  | zero => intro σ c1_4 c2_4 h; rw [fX6_womenInAll_L4] at h; exact absurd h (by simp)
  | succ n4 ih4 =>
    intro σ c1_4 c2_4 h
    rw [fX6_womenInAll_L4] at h
    refine g_iload_n hX 2 dX6_womenInAll_4 rfl rfl ?_
    refine g_aload_n hX 0 dX6_womenInAll_5 rfl rfl ?_
    refine gCX6_41_2 hX dX6_womenInAll_6 ?_
    refine g_icmp_ge hX 33 dX6_womenInAll_9 (by decide) h (fun h => ?_) (fun h => ?_)
    · exact g_sub [1] rfl (hkx4 _ _ _ h)
    · refine g_iload_n hX 1 dX6_womenInAll_12 rfl rfl ?_
      refine g_aload_n hX 0 dX6_womenInAll_13 rfl rfl ?_
      refine gCX6_22_2 hX dX6_womenInAll_14 ?_
      refine g_iload_n hX 2 dX6_womenInAll_17 rfl rfl ?_
      refine alC_6 hX dX6_womenInAll_18 h (fun h => ?_)
      refine g_aload_n hX 0 dX6_womenInAll_19 rfl rfl ?_
      refine g_iload_n hX 2 dX6_womenInAll_20 rfl rfl ?_
      refine g_callVI (As := [.int c2_4]) (rest := [.int (σ.1 6 (ix c2_4)), .int c1_4]) hX 2 (Nat.le_of_ble_eq_true rfl) rfl rfl miX6_setsInAll mvX6_setsInAll lkX6_85 (by decide) rfl (Nat.le_of_ble_eq_true rfl) rfl dX6_womenInAll_21 (fun τ x ho => kX6_setsInAll _ ho) h (fun σ_3 t_4 h => ?_)
      refine g_imul hX dX6_womenInAll_24 ?_
      refine g_iadd hX dX6_womenInAll_25 ?_
      refine g_istore_n (lv' := fun x1_5 => [(1, .int x1_5), (0, .ref (a 2)), (2, .int c2_4)]) hX dX6_womenInAll_26 rfl (by decide) (fun _ => rfl) h (fun x1_5 h => ?_)
      refine g_iinc (y := (1)) (lv' := fun x2_6 => [(2, .int x2_6), (1, .int x1_5), (0, .ref (a 2))]) hX 2 dX6_womenInAll_27 rfl (by decide) (by decide) (fun _ => rfl) h (fun x2_6 h => ?_)
      refine g_goto hX 4 dX6_womenInAll_30 (by decide) ?_
      exact g_sub [2, 1, 0] rfl (ih4 _ _ _ h)
set_option maxRecDepth 20000 in
set_option maxHeartbeats 4000000 in
theorem sX6_womenInAll {X : CX} {a : Nat → Nat} {D : va_G} {tI tJ tB tS : ClassId} {kK kV : Nat → Nat} {σ : St}   {r : St × Int32} (hX : OKX X (vC a D tI tJ tB tS kK kV) cX6_womenInAll 3 RX6 2 43) (hR : ∀ (pc : Nat) (lv : List (Nat × Value)), decode cX6_womenInAll pc = .ok (.ireturn, 1) → G X (vC a D tI tJ tB tS kK kV) 3 r.1 pc lv [.int r.2])  (h : fX6_womenInAll σ  = some r) : G X (vC a D tI tJ tB tS kK kV) 3 σ 0 [(0, .ref (a 2))] [] := by
  unfold fX6_womenInAll at h
  refine g_iconst hX (0) dX6_womenInAll_0 (by decide) ?_
  refine g_istore_n (lv' := fun x1_1 => [(1, .int x1_1), (0, .ref (a 2))]) hX dX6_womenInAll_1 rfl (by decide) (fun _ => rfl) h (fun x1_1 h => ?_)
  refine g_iconst hX (0) dX6_womenInAll_2 (by decide) ?_
  refine g_istore_n (lv' := fun x2_2 => [(2, .int x2_2), (1, .int x1_1), (0, .ref (a 2))]) hX dX6_womenInAll_3 rfl (by decide) (fun _ => rfl) h (fun x2_2 h => ?_)
  refine g_sub [2, 1, 0] rfl (sX6_womenInAll_L4 hX hR (fun σ_7 x1_8 x2_9 h => ?_) FU _ _ _ h)
  refine g_iload_n hX 0 dX6_womenInAll_33 rfl rfl ?_
  exact g_reti hR h dX6_womenInAll_34
set_option maxRecDepth 20000 in
set_option maxHeartbeats 4000000 in
theorem kX6_womenInAll (l : Launch) {a : Nat → Nat} {D : va_G} {tI tJ tB tS : ClassId} {kK kV : Nat → Nat} {σ τ : St}   {x : Int32} (h : fX6_womenInAll σ  = some (τ, x)) : CtI l yX6_womenInAll cX6_womenInAll 3 (some .int) 2 43 (vC a D tI tJ tB tS kK kV) σ [.ref (a 2)] τ x := g_metI (by decide) (Nat.le_of_ble_eq_true rfl) rfl (fun X _ hX hR => sX6_womenInAll (r := (τ, x)) hX hR h)
def fX8_count (σ : St) (p1 : Int32) : Option (St × Int32) :=
  (if p1 = 0 then some (σ, (σ.1 0 13)) else (if p1 = 1 then some (σ, (σ.1 0 11)) else (if p1 = 2 then some (σ, (σ.1 19 0)) else (if p1 = 3 then some (σ, (σ.1 22 4)) else (if p1 = 4 then some (σ, (σ.1 0 14)) else (if p1 = 5 then some (σ, (σ.1 22 3)) else (if p1 = 6 then cl (fX7_settle σ ) fun (σ_1 : St) (t_2 : Int32) => (if t_2 = 0 then some (σ_1, (0 : Int32)) else some (σ_1, (1 : Int32))) else (if p1 = 7 then cl (fX7_settle σ ) fun (σ_3 : St) (t_4 : Int32) => (if t_4 = 0 then some (σ_3, (0 : Int32)) else cl (fX7_likelyRows σ_3 ) fun (σ_5 : St) (t_6 : Int32) => some (σ_5, t_6)) else (if p1 = 8 then cl (fX6_womenInAll σ ) fun (σ_7 : St) (t_8 : Int32) => some (σ_7, t_8) else some (σ, (-1 : Int32)))))))))))
set_option maxRecDepth 20000 in
set_option maxHeartbeats 4000000 in
theorem sX8_count {X : CX} {a : Nat → Nat} {D : va_G} {tI tJ tB tS : ClassId} {kK kV : Nat → Nat} {σ : St}  {p1 : Int32} {r : St × Int32} (hX : OKX X (vC a D tI tJ tB tS kK kV) cX8_count 2 RX8 6 132) (hR : ∀ (pc : Nat) (lv : List (Nat × Value)), decode cX8_count pc = .ok (.ireturn, 1) → G X (vC a D tI tJ tB tS kK kV) 2 r.1 pc lv [.int r.2])  (h : fX8_count σ p1 = some r) : G X (vC a D tI tJ tB tS kK kV) 2 σ 0 [(0, .ref (a 0)), (1, .int p1)] [] := by
  unfold fX8_count at h
  refine g_iload_n hX 1 dX8_count_0 rfl rfl ?_
  refine ite_go h (fun hq h => ?_) (fun hs1_0 h => ?_)
  · refine g_tabIn (off := 51) (0) hX 52 hq dX8_count_1 (by decide) (by decide) (by decide) (by decide) ?_
    refine g_aload_n hX 0 dX8_count_52 rfl rfl ?_
    refine gCX8_93_0 hX dX8_count_53 ?_
    exact g_reti hR h dX8_count_56
  refine ite_go h (fun hq h => ?_) (fun hs1_1 h => ?_)
  · refine g_tabIn (off := 56) (1) hX 57 hq dX8_count_1 (by decide) (by decide) (by decide) (by decide) ?_
    refine g_aload_n hX 0 dX8_count_57 rfl rfl ?_
    refine gCX8_86_0 hX dX8_count_58 ?_
    exact g_reti hR h dX8_count_61
  refine ite_go h (fun hq h => ?_) (fun hs1_2 h => ?_)
  · refine g_tabIn (off := 61) (2) hX 62 hq dX8_count_1 (by decide) (by decide) (by decide) (by decide) ?_
    refine g_aload_n hX 0 dX8_count_62 rfl rfl ?_
    refine gCX8_43_0 hX dX8_count_63 ?_
    refine gCX8_326_19 hX dX8_count_66 ?_
    exact g_reti hR h dX8_count_69
  refine ite_go h (fun hq h => ?_) (fun hs1_3 h => ?_)
  · refine g_tabIn (off := 69) (3) hX 70 hq dX8_count_1 (by decide) (by decide) (by decide) (by decide) ?_
    refine g_aload_n hX 0 dX8_count_70 rfl rfl ?_
    refine gCX8_47_0 hX dX8_count_71 ?_
    refine gCX8_299_22 hX dX8_count_74 ?_
    exact g_reti hR h dX8_count_77
  refine ite_go h (fun hq h => ?_) (fun hs1_4 h => ?_)
  · refine g_tabIn (off := 77) (4) hX 78 hq dX8_count_1 (by decide) (by decide) (by decide) (by decide) ?_
    refine g_aload_n hX 0 dX8_count_78 rfl rfl ?_
    refine gCX8_96_0 hX dX8_count_79 ?_
    exact g_reti hR h dX8_count_82
  refine ite_go h (fun hq h => ?_) (fun hs1_5 h => ?_)
  · refine g_tabIn (off := 82) (5) hX 83 hq dX8_count_1 (by decide) (by decide) (by decide) (by decide) ?_
    refine g_aload_n hX 0 dX8_count_83 rfl rfl ?_
    refine gCX8_47_0 hX dX8_count_84 ?_
    refine gCX8_154_22 hX dX8_count_87 ?_
    exact g_reti hR h dX8_count_90
  refine ite_go h (fun hq h => ?_) (fun hs1_6 h => ?_)
  · refine g_tabIn (off := 90) (6) hX 91 hq dX8_count_1 (by decide) (by decide) (by decide) (by decide) ?_
    refine g_aload_n hX 0 dX8_count_91 rfl rfl ?_
    refine gCX8_55_0 hX dX8_count_92 ?_
    refine g_callNI (As := []) (rest := []) hX 43 (Nat.le_of_ble_eq_true rfl) rfl rfl miX7_settle mvX7_settle lkX8_173 (by decide) rfl (Nat.le_of_ble_eq_true rfl) rfl dX8_count_95 (fun τ x ho => kX7_settle _ ho) h (fun σ_1 t_2 h => ?_)
    refine g_if_eq hX 105 dX8_count_98 (by decide) h (fun h => ?_) (fun h => ?_)
    · refine g_iconst hX (0) dX8_count_105 (by decide) ?_
      exact g_reti hR h dX8_count_106
    · refine g_iconst hX (1) dX8_count_101 (by decide) ?_
      refine g_goto hX 106 dX8_count_102 (by decide) ?_
      exact g_reti hR h dX8_count_106
  refine ite_go h (fun hq h => ?_) (fun hs1_7 h => ?_)
  · refine g_tabIn (off := 106) (7) hX 107 hq dX8_count_1 (by decide) (by decide) (by decide) (by decide) ?_
    refine g_aload_n hX 0 dX8_count_107 rfl rfl ?_
    refine gCX8_55_0 hX dX8_count_108 ?_
    refine g_callNI (As := []) (rest := []) hX 43 (Nat.le_of_ble_eq_true rfl) rfl rfl miX7_settle mvX7_settle lkX8_173 (by decide) rfl (Nat.le_of_ble_eq_true rfl) rfl dX8_count_111 (fun τ x ho => kX7_settle _ ho) h (fun σ_3 t_4 h => ?_)
    refine g_if_eq hX 127 dX8_count_114 (by decide) h (fun h => ?_) (fun h => ?_)
    · refine g_iconst hX (0) dX8_count_127 (by decide) ?_
      exact g_reti hR h dX8_count_128
    · refine g_aload_n hX 0 dX8_count_117 rfl rfl ?_
      refine gCX8_55_0 hX dX8_count_118 ?_
      refine g_callNI (As := []) (rest := []) hX 43 (Nat.le_of_ble_eq_true rfl) rfl rfl miX7_likelyRows mvX7_likelyRows lkX8_329 (by decide) rfl (Nat.le_of_ble_eq_true rfl) rfl dX8_count_121 (fun τ x ho => kX7_likelyRows _ ho) h (fun σ_5 t_6 h => ?_)
      refine g_goto hX 128 dX8_count_124 (by decide) ?_
      exact g_reti hR h dX8_count_128
  refine ite_go h (fun hq h => ?_) (fun hs1_8 h => ?_)
  · refine g_tabIn (off := 128) (8) hX 129 hq dX8_count_1 (by decide) (by decide) (by decide) (by decide) ?_
    refine g_aload_n hX 0 dX8_count_129 rfl rfl ?_
    refine gCX8_27_0 hX dX8_count_130 ?_
    refine g_callNI (As := []) (rest := []) hX 2 (Nat.le_of_ble_eq_true rfl) rfl rfl miX6_womenInAll mvX6_womenInAll lkX8_332 (by decide) rfl (Nat.le_of_ble_eq_true rfl) rfl dX8_count_133 (fun τ x ho => kX6_womenInAll _ ho) h (fun σ_7 t_8 h => ?_)
    exact g_reti hR h dX8_count_136
  refine g_tabOut hX 137 dX8_count_1 (by have k0 := sw_ne hs1_0 (n := 0) (by decide); have k1 := sw_ne hs1_1 (n := 1) (by decide); have k2 := sw_ne hs1_2 (n := 2) (by decide); have k3 := sw_ne hs1_3 (n := 3) (by decide); have k4 := sw_ne hs1_4 (n := 4) (by decide); have k5 := sw_ne hs1_5 (n := 5) (by decide); have k6 := sw_ne hs1_6 (n := 6) (by decide); have k7 := sw_ne hs1_7 (n := 7) (by decide); have k8 := sw_ne hs1_8 (n := 8) (by decide); omega) (by decide) ?_
  refine g_iconst hX (-1) dX8_count_137 (by decide) ?_
  exact g_reti hR h dX8_count_138
set_option maxRecDepth 20000 in
set_option maxHeartbeats 4000000 in
theorem kX8_count (l : Launch) {a : Nat → Nat} {D : va_G} {tI tJ tB tS : ClassId} {kK kV : Nat → Nat} {σ τ : St}  {p1 : Int32} {x : Int32} (h : fX8_count σ p1 = some (τ, x)) : CtI l yX8_count cX8_count 2 (some .int) 6 132 (vC a D tI tJ tB tS kK kV) σ [.ref (a 0), .int p1] τ x := g_metI (by decide) (Nat.le_of_ble_eq_true rfl) rfl (fun X _ hX hR => sX8_count (r := (τ, x)) hX hR h)
