def fX8_would (σ : St) (p1 : Int32) : Option (St × Int32) :=
  cl (fX6_isWomen σ p1) fun (σ_1 : St) (t_2 : Int32) => (if t_2 = 0 then some (σ_1, (-1 : Int32)) else cl (fX7_settle σ_1 ) fun (σ_3 : St) (t_4 : Int32) => (if t_4 = 0 then some (σ_3, (-1 : Int32)) else (if (σ_3.1 43 14) = 0 then cl (fX7_wishedDoor σ_3 p1) fun (σ_5 : St) (t_6 : Int32) => some (σ_5, t_6) else some (σ_3, (-1 : Int32)))))
set_option maxRecDepth 20000 in
set_option maxHeartbeats 4000000 in
theorem sX8_would {X : CX} {a : Nat → Nat} {D : va_G} {tI tJ tB tS : ClassId} {kK kV : Nat → Nat} {σ : St}  {p1 : Int32} {r : St × Int32} (hX : OKX X (vC a D tI tJ tB tS kK kV) cX8_would 2 RX8 6 132) (hR : ∀ (pc : Nat) (lv : List (Nat × Value)), decode cX8_would pc = .ok (.ireturn, 1) → G X (vC a D tI tJ tB tS kK kV) 2 r.1 pc lv [.int r.2])  (h : fX8_would σ p1 = some r) : G X (vC a D tI tJ tB tS kK kV) 2 σ 0 [(0, .ref (a 0)), (1, .int p1)] [] := by
  unfold fX8_would at h
  refine g_aload_n hX 0 dX8_would_0 rfl rfl ?_
  refine gCX8_27_0 hX dX8_would_1 ?_
  refine g_iload_n hX 1 dX8_would_4 rfl rfl ?_
  refine g_callNI (As := [.int p1]) (rest := []) hX 2 (Nat.le_of_ble_eq_true rfl) rfl rfl miX6_isWomen mvX6_isWomen lkX8_237 (by decide) rfl (Nat.le_of_ble_eq_true rfl) rfl dX8_would_5 (fun τ x ho => kX6_isWomen _ ho) h (fun σ_1 t_2 h => ?_)
  refine g_if_eq hX 42 dX8_would_8 (by decide) h (fun h => ?_) (fun h => ?_)
  · refine g_iconst hX (-1) dX8_would_42 (by decide) ?_
    exact g_reti hR h dX8_would_43
  · refine g_aload_n hX 0 dX8_would_11 rfl rfl ?_
    refine gCX8_55_0 hX dX8_would_12 ?_
    refine g_callNI (As := []) (rest := []) hX 43 (Nat.le_of_ble_eq_true rfl) rfl rfl miX7_settle mvX7_settle lkX8_173 (by decide) rfl (Nat.le_of_ble_eq_true rfl) rfl dX8_would_15 (fun τ x ho => kX7_settle _ ho) h (fun σ_3 t_4 h => ?_)
    refine g_if_eq hX 42 dX8_would_18 (by decide) h (fun h => ?_) (fun h => ?_)
    · refine g_iconst hX (-1) dX8_would_42 (by decide) ?_
      exact g_reti hR h dX8_would_43
    · refine g_aload_n hX 0 dX8_would_21 rfl rfl ?_
      refine gCX8_55_0 hX dX8_would_22 ?_
      refine gCX8_244_43 hX dX8_would_25 ?_
      refine g_if_ne hX 42 dX8_would_28 (by decide) h (fun h => ?_) (fun h => ?_)
      · refine g_iconst hX (-1) dX8_would_42 (by decide) ?_
        exact g_reti hR h dX8_would_43
      · refine g_aload_n hX 0 dX8_would_31 rfl rfl ?_
        refine gCX8_55_0 hX dX8_would_32 ?_
        refine g_iload_n hX 1 dX8_would_35 rfl rfl ?_
        refine g_callNI (As := [.int p1]) (rest := []) hX 43 (Nat.le_of_ble_eq_true rfl) rfl rfl miX7_wishedDoor mvX7_wishedDoor lkX8_251 (by decide) rfl (Nat.le_of_ble_eq_true rfl) rfl dX8_would_36 (fun τ x ho => kX7_wishedDoor _ ho) h (fun σ_5 t_6 h => ?_)
        refine g_goto hX 43 dX8_would_39 (by decide) ?_
        exact g_reti hR h dX8_would_43
set_option maxRecDepth 20000 in
set_option maxHeartbeats 4000000 in
theorem kX8_would (l : Launch) {a : Nat → Nat} {D : va_G} {tI tJ tB tS : ClassId} {kK kV : Nat → Nat} {σ τ : St}  {p1 : Int32} {x : Int32} (h : fX8_would σ p1 = some (τ, x)) : CtI l yX8_would cX8_would 2 (some .int) 6 132 (vC a D tI tJ tB tS kK kV) σ [.ref (a 0), .int p1] τ x := g_metI (by decide) (Nat.le_of_ble_eq_true rfl) rfl (fun X _ hX hR => sX8_would (r := (τ, x)) hX hR h)
def fX7_lookAround_L12 (q1_12 : Int32) (q2_12 : Int32) (kx12 : St → Int32 → Int32 → Option (St × Int32)) : Nat → St → Int32 → Int32 → Option (St × Int32)
  | 0, _, _, _ => none
  | n12 + 1, σ, c3_12, c4_12 =>
    (if (σ.1 2 1) ≤ c4_12 then kx12 σ c3_12 c4_12 else cl (fX6_isWomen σ c4_12) fun (σ_4 : St) (t_5 : Int32) => (jp (fun (σ_6 : St)  (t_7 : Int32) => bnd t_7 fun (x5_8 : Int32) => (jp (fun (σ_9 : St) (x3_10 : Int32)  => bnd (c4_12 + (1 : Int32)) fun (x4_11 : Int32) => fX7_lookAround_L12 q1_12 q2_12 kx12 n12 σ_9 x3_10 x4_11) fun j90 => (if x5_8 = (-1 : Int32) then j90 σ_6 c3_12 else chk (inb c4_12 12) (chk (inb c4_12 12) (bnd (sI σ_6 9 (ix c4_12) ((σ_6.1 9 (ix c4_12)) ||| ((1 : Int32) <<< (x5_8 &&& 31)))) fun (σ_12 : St) => bnd (1 : Int32) fun (x3_13 : Int32) => (if (σ_12.1 43 16) = (-1 : Int32) then j90 σ_12 x3_13 else cl (fX7_gather σ_12 ) fun (σ_14 : St) (t_15 : Unit) => cl (fX7_answerAnew σ_14 ) fun (σ_16 : St) (t_17 : Int32) => j90 σ_16 x3_13)))))) fun j46 => (if t_5 = 0 then j46 σ_4 (-1 : Int32) else cl (fX7_wishedDoor σ_4 c4_12) fun (σ_18 : St) (t_19 : Int32) => j46 σ_18 t_19)))
def fX7_lookAround_L2 (q1_2 : Int32) (kx2 : St → Int32 → Option (St × Int32)) : Nat → St → Int32 → Option (St × Int32)
  | 0, _, _ => none
  | n2 + 1, σ, c2_2 =>
    (if q1_2 < c2_2 then kx2 σ c2_2 else bnd (0 : Int32) fun (x3_2 : Int32) => bnd (0 : Int32) fun (x4_3 : Int32) => fX7_lookAround_L12 q1_2 c2_2 (fun (σ_20 : St) (x3_21 : Int32) (x4_22 : Int32) => (if x3_21 = 0 then some (σ_20, c2_2) else bnd (c2_2 + (1 : Int32)) fun (x2_23 : Int32) => fX7_lookAround_L2 q1_2 kx2 n2 σ_20 x2_23)) FU σ x3_2 x4_3)
def fX7_lookAround (σ : St) (p1 : Int32) : Option (St × Int32) :=
  bnd (1 : Int32) fun (x2_1 : Int32) => fX7_lookAround_L2 p1 (fun (σ_24 : St) (x2_25 : Int32) => some (σ_24, p1)) FU σ x2_1
set_option maxRecDepth 20000 in
set_option maxHeartbeats 4000000 in
theorem sX7_lookAround_L12 {X : CX} {a : Nat → Nat} {D : va_G} {tI tJ tB tS : ClassId} {kK kV : Nat → Nat} {q1_12 : Int32} {q2_12 : Int32} {kx12 : St → Int32 → Int32 → Option (St × Int32)} {r : St × Int32} (hX : OKX X (vC a D tI tJ tB tS kK kV) cX7_lookAround 6 RX7 5 125) (hR : ∀ (pc : Nat) (lv : List (Nat × Value)), decode cX7_lookAround pc = .ok (.ireturn, 1) → G X (vC a D tI tJ tB tS kK kV) 6 r.1 pc lv [.int r.2]) (hkx12 : ∀ (σ : St) (e3_12 : Int32) (e4_12 : Int32), kx12 σ e3_12 e4_12 = some r → G X (vC a D tI tJ tB tS kK kV) 6 σ 96 [(0, .ref (a 43)), (1, .int q1_12), (2, .int q2_12), (3, .int e3_12)] []) : ∀ (n : Nat) (σ : St) (c3_12 : Int32) (c4_12 : Int32), fX7_lookAround_L12 q1_12 q2_12 kx12 n σ c3_12 c4_12 = some r → G X (vC a D tI tJ tB tS kK kV) 6 σ 12 [(0, .ref (a 43)), (1, .int q1_12), (2, .int q2_12), (3, .int c3_12), (4, .int c4_12)] [] := by
  intro n
  induction n with
  | zero => intro σ c3_12 c4_12 h; rw [fX7_lookAround_L12] at h; exact absurd h (by simp)
  | succ n12 ih12 =>
    intro σ c3_12 c4_12 h
    rw [fX7_lookAround_L12] at h
    refine g_iload hX 4 dX7_lookAround_12 rfl ?_
    refine g_aload_n hX 0 dX7_lookAround_14 rfl rfl ?_
    refine gCX7_9_43 hX dX7_lookAround_15 ?_
    refine gCX7_130_2 hX dX7_lookAround_18 ?_
    refine g_icmp_ge hX 96 dX7_lookAround_21 (by decide) h (fun h => ?_) (fun h => ?_)
    · exact g_sub [0, 1, 2, 3] rfl (hkx12 _ _ _ h)
    · refine g_aload_n hX 0 dX7_lookAround_24 rfl rfl ?_
      refine gCX7_9_43 hX dX7_lookAround_25 ?_
      refine g_iload hX 4 dX7_lookAround_28 rfl ?_
      refine g_callNI (As := [.int c4_12]) (rest := []) hX 2 (Nat.le_of_ble_eq_true rfl) rfl rfl miX6_isWomen mvX6_isWomen lkX7_248 (by decide) rfl (Nat.le_of_ble_eq_true rfl) rfl dX7_lookAround_30 (fun τ x ho => kX6_isWomen _ ho) h (fun σ_4 t_5 h => ?_)
      refine jp_inv (P := fun f => ∀ (σ_6 : St)  (t_7 : Int32), f σ_6 t_7 = some r → G X (vC a D tI tJ tB tS kK kV) 6 σ_6 46 [(0, .ref (a 43)), (1, .int q1_12), (2, .int q2_12), (3, .int c3_12), (4, .int c4_12)] [.int t_7]) h (fun σ_6 t_7 h => ?_) (fun j46 hj46 h => ?_)
      · refine g_istore (lv' := fun x5_8 => [(5, .int x5_8), (0, .ref (a 43)), (1, .int q1_12), (2, .int q2_12), (3, .int c3_12), (4, .int c4_12)]) hX dX7_lookAround_46 (by decide) (fun _ => rfl) h (fun x5_8 h => ?_)
        refine g_iload hX 0 dX7_lookAround_48 rfl ?_
        refine g_iconst hX (-1) dX7_lookAround_50 (by decide) ?_
        refine jp_inv (P := fun f => ∀ (σ_9 : St) (x3_10 : Int32) , f σ_9 x3_10 = some r → G X (vC a D tI tJ tB tS kK kV) 6 σ_9 90 [(0, .ref (a 43)), (1, .int q1_12), (2, .int q2_12), (4, .int c4_12), (3, .int x3_10)] []) h (fun σ_9 x3_10 h => ?_) (fun j90 hj90 h => ?_)
        · refine g_iinc (y := (1)) (lv' := fun x4_11 => [(4, .int x4_11), (0, .ref (a 43)), (1, .int q1_12), (2, .int q2_12), (3, .int x3_10)]) hX 3 dX7_lookAround_90 rfl (by decide) (by decide) (fun _ => rfl) h (fun x4_11 h => ?_)
          refine g_goto hX 12 dX7_lookAround_93 (by decide) ?_
          exact g_sub [1, 2, 3, 4, 0] rfl (ih12 _ _ _ h)
        refine g_icmp_eq hX 90 dX7_lookAround_51 (by decide) h (fun h => ?_) (fun h => ?_)
        · exact g_sub [1, 2, 3, 5, 4] rfl (hj90 _ _ h)
        · refine g_aload_n hX 1 dX7_lookAround_54 rfl rfl ?_
          refine gCX7_9_43 hX dX7_lookAround_55 ?_
          refine gCX7_232_2 hX dX7_lookAround_58 ?_
          refine g_iload hX 5 dX7_lookAround_61 rfl ?_
          refine g_dup2 hX dX7_lookAround_63 rfl rfl ?_
          refine alC_9 hX dX7_lookAround_64 h (fun h => ?_)
          refine g_iconst hX (1) dX7_lookAround_65 (by decide) ?_
          refine g_iload hX 0 dX7_lookAround_66 rfl ?_
          refine g_ishl hX dX7_lookAround_68 ?_
          refine g_ior hX dX7_lookAround_69 ?_
          refine asC_9 hX dX7_lookAround_70 h (fun σ_12 h => ?_)
          refine g_iconst hX (1) dX7_lookAround_71 (by decide) ?_
          refine g_istore_n (lv' := fun x3_13 => [(3, .int x3_13), (5, .int x5_8), (0, .ref (a 43)), (1, .int q1_12), (2, .int q2_12), (4, .int c4_12)]) hX dX7_lookAround_72 rfl (by decide) (fun _ => rfl) h (fun x3_13 h => ?_)
          refine g_aload_n hX 2 dX7_lookAround_73 rfl rfl ?_
          refine gCX7_67_43 hX dX7_lookAround_74 ?_
          refine g_iconst hX (-1) dX7_lookAround_77 (by decide) ?_
          refine g_icmp_eq hX 90 dX7_lookAround_78 (by decide) h (fun h => ?_) (fun h => ?_)
          · exact g_sub [2, 3, 4, 5, 0] rfl (hj90 _ _ h)
          · refine g_aload_n hX 2 dX7_lookAround_81 rfl rfl ?_
            refine g_callVV (As := []) (rest := []) hX 43 (Nat.le_of_ble_eq_true rfl) rfl rfl miX7_gather mvX7_gather lkX7_112 (by decide) rfl (Nat.le_of_ble_eq_true rfl) rfl dX7_lookAround_82 (fun τ x ho => kX7_gather _ ho) h (fun σ_14 t_15 h => ?_)
            refine g_aload_n hX 2 dX7_lookAround_85 rfl rfl ?_
            refine g_callVI (As := []) (rest := []) hX 43 (Nat.le_of_ble_eq_true rfl) rfl rfl miX7_answerAnew mvX7_answerAnew lkX7_97 (by decide) rfl (Nat.le_of_ble_eq_true rfl) rfl dX7_lookAround_86 (fun τ x ho => kX7_answerAnew _ ho) h (fun σ_16 t_17 h => ?_)
            refine g_pop hX dX7_lookAround_89 rfl ?_
            exact g_sub [2, 3, 4, 5, 0] rfl (hj90 _ _ h)
      refine g_if_eq hX 45 dX7_lookAround_33 (by decide) h (fun h => ?_) (fun h => ?_)
      · refine g_iconst hX (-1) dX7_lookAround_45 (by decide) ?_
        exact g_sub [0, 1, 2, 3, 4] rfl (hj46 _ _ h)
      · refine g_aload_n hX 0 dX7_lookAround_36 rfl rfl ?_
        refine g_iload hX 4 dX7_lookAround_37 rfl ?_
        refine g_callVI (As := [.int c4_12]) (rest := []) hX 43 (Nat.le_of_ble_eq_true rfl) rfl rfl miX7_wishedDoor mvX7_wishedDoor lkX7_251 (by decide) rfl (Nat.le_of_ble_eq_true rfl) rfl dX7_lookAround_39 (fun τ x ho => kX7_wishedDoor _ ho) h (fun σ_18 t_19 h => ?_)
        refine g_goto hX 46 dX7_lookAround_42 (by decide) ?_
        exact g_sub [0, 1, 2, 3, 4] rfl (hj46 _ _ h)
set_option maxRecDepth 20000 in
set_option maxHeartbeats 4000000 in
theorem sX7_lookAround_L2 {X : CX} {a : Nat → Nat} {D : va_G} {tI tJ tB tS : ClassId} {kK kV : Nat → Nat} {q1_2 : Int32} {kx2 : St → Int32 → Option (St × Int32)} {r : St × Int32} (hX : OKX X (vC a D tI tJ tB tS kK kV) cX7_lookAround 6 RX7 5 125) (hR : ∀ (pc : Nat) (lv : List (Nat × Value)), decode cX7_lookAround pc = .ok (.ireturn, 1) → G X (vC a D tI tJ tB tS kK kV) 6 r.1 pc lv [.int r.2]) (hkx2 : ∀ (σ : St) (e2_2 : Int32), kx2 σ e2_2 = some r → G X (vC a D tI tJ tB tS kK kV) 6 σ 108 [(1, .int q1_2)] []) : ∀ (n : Nat) (σ : St) (c2_2 : Int32), fX7_lookAround_L2 q1_2 kx2 n σ c2_2 = some r → G X (vC a D tI tJ tB tS kK kV) 6 σ 2 [(0, .ref (a 43)), (1, .int q1_2), (2, .int c2_2)] [] := by
  intro n
  induction n with
  | zero => intro σ c2_2 h; rw [fX7_lookAround_L2] at h; exact absurd h (by simp)
  | succ n2 ih2 =>
    intro σ c2_2 h
    rw [fX7_lookAround_L2] at h
    refine g_iload_n hX 2 dX7_lookAround_2 rfl rfl ?_
    refine g_iload_n hX 1 dX7_lookAround_3 rfl rfl ?_
    refine g_icmp_gt hX 108 dX7_lookAround_4 (by decide) h (fun h => ?_) (fun h => ?_)
    · exact g_sub [1] rfl (hkx2 _ _ h)
    · refine g_iconst hX (0) dX7_lookAround_7 (by decide) ?_
      refine g_istore_n (lv' := fun x3_2 => [(3, .int x3_2), (0, .ref (a 43)), (1, .int q1_2), (2, .int c2_2)]) hX dX7_lookAround_8 rfl (by decide) (fun _ => rfl) h (fun x3_2 h => ?_)
      refine g_iconst hX (0) dX7_lookAround_9 (by decide) ?_
      refine g_istore (lv' := fun x4_3 => [(4, .int x4_3), (3, .int x3_2), (0, .ref (a 43)), (1, .int q1_2), (2, .int c2_2)]) hX dX7_lookAround_10 (by decide) (fun _ => rfl) h (fun x4_3 h => ?_)
      refine g_sub [2, 3, 4, 1, 0] rfl (sX7_lookAround_L12 hX hR (fun σ_20 x3_21 x4_22 h => ?_) FU _ _ _ h)
      refine g_iload_n hX 3 dX7_lookAround_96 rfl rfl ?_
      refine g_if_ne hX 102 dX7_lookAround_97 (by decide) h (fun h => ?_) (fun h => ?_)
      · refine g_iinc (y := (1)) (lv' := fun x2_23 => [(2, .int x2_23), (0, .ref (a 43)), (1, .int q1_2), (3, .int x3_21)]) hX 2 dX7_lookAround_102 rfl (by decide) (by decide) (fun _ => rfl) h (fun x2_23 h => ?_)
        refine g_goto hX 2 dX7_lookAround_105 (by decide) ?_
        exact g_sub [1, 2, 0] rfl (ih2 _ _ h)
      · refine g_iload_n hX 2 dX7_lookAround_100 rfl rfl ?_
        exact g_reti hR h dX7_lookAround_101
set_option maxRecDepth 20000 in
set_option maxHeartbeats 4000000 in
theorem sX7_lookAround {X : CX} {a : Nat → Nat} {D : va_G} {tI tJ tB tS : ClassId} {kK kV : Nat → Nat} {σ : St}  {p1 : Int32} {r : St × Int32} (hX : OKX X (vC a D tI tJ tB tS kK kV) cX7_lookAround 6 RX7 5 125) (hR : ∀ (pc : Nat) (lv : List (Nat × Value)), decode cX7_lookAround pc = .ok (.ireturn, 1) → G X (vC a D tI tJ tB tS kK kV) 6 r.1 pc lv [.int r.2])  (h : fX7_lookAround σ p1 = some r) : G X (vC a D tI tJ tB tS kK kV) 6 σ 0 [(0, .ref (a 43)), (1, .int p1)] [] := by
  unfold fX7_lookAround at h
  refine g_iconst hX (1) dX7_lookAround_0 (by decide) ?_
  refine g_istore_n (lv' := fun x2_1 => [(2, .int x2_1), (0, .ref (a 43)), (1, .int p1)]) hX dX7_lookAround_1 rfl (by decide) (fun _ => rfl) h (fun x2_1 h => ?_)
  refine g_sub [1, 2, 0] rfl (sX7_lookAround_L2 hX hR (fun σ_24 x2_25 h => ?_) FU _ _ h)
  refine g_iload_n hX 0 dX7_lookAround_108 rfl rfl ?_
  exact g_reti hR h dX7_lookAround_109
set_option maxRecDepth 20000 in
set_option maxHeartbeats 4000000 in
theorem kX7_lookAround (l : Launch) {a : Nat → Nat} {D : va_G} {tI tJ tB tS : ClassId} {kK kV : Nat → Nat} {σ τ : St}  {p1 : Int32} {x : Int32} (h : fX7_lookAround σ p1 = some (τ, x)) : CtI l yX7_lookAround cX7_lookAround 6 (some .int) 5 125 (vC a D tI tJ tB tS kK kV) σ [.ref (a 43), .int p1] τ x := g_metI (by decide) (Nat.le_of_ble_eq_true rfl) rfl (fun X _ hX hR => sX7_lookAround (r := (τ, x)) hX hR h)
def fX8_look (σ : St) (p1 : Int32) (p2 : Int32) : Option (St × Int32) :=
  bnd (p2 - (10 : Int32)) fun (x3_1 : Int32) => (if p1 < (1 : Int32) then some (σ, (-1 : Int32)) else (if (9 : Int32) < p1 then some (σ, (-1 : Int32)) else (jp (fun (σ_2 : St)   => cl (fX7_settle σ_2 ) fun (σ_3 : St) (t_4 : Int32) => (if t_4 = 0 then some (σ_3, (-1 : Int32)) else (if (σ_3.1 43 14) = 0 then cl (fX7_lookAround σ_3 p1) fun (σ_5 : St) (t_6 : Int32) => bnd t_6 fun (x4_7 : Int32) => (jp (fun (σ_8 : St)  (t_9 : Int32) => bnd t_9 fun (x5_10 : Int32) => cl (fX6_shutDoors σ_8 ) fun (σ_11 : St) (t_12 : Unit) => some (σ_11, x5_10)) fun j83 => (if p2 = 0 then j83 σ_5 x4_7 else chk (inb x3_1 12) (j83 σ_5 (σ_5.1 9 (ix x3_1))))) else some (σ_3, (-1 : Int32))))) fun j33 => (if p2 = 0 then j33 σ else cl (fX6_isWomen σ x3_1) fun (σ_13 : St) (t_14 : Int32) => (if t_14 = 0 then some (σ_13, (-1 : Int32)) else j33 σ_13)))))
set_option maxRecDepth 20000 in
set_option maxHeartbeats 4000000 in
theorem sX8_look {X : CX} {a : Nat → Nat} {D : va_G} {tI tJ tB tS : ClassId} {kK kV : Nat → Nat} {σ : St}  {p1 : Int32} {p2 : Int32} {r : St × Int32} (hX : OKX X (vC a D tI tJ tB tS kK kV) cX8_look 6 RX8 6 150) (hR : ∀ (pc : Nat) (lv : List (Nat × Value)), decode cX8_look pc = .ok (.ireturn, 1) → G X (vC a D tI tJ tB tS kK kV) 6 r.1 pc lv [.int r.2])  (h : fX8_look σ p1 p2 = some r) : G X (vC a D tI tJ tB tS kK kV) 6 σ 0 [(0, .ref (a 0)), (1, .int p1), (2, .int p2)] [] := by
  unfold fX8_look at h
  refine g_iload_n hX 2 dX8_look_0 rfl rfl ?_
  refine g_bipush hX (10) dX8_look_1 (by decide) ?_
  refine g_isub hX dX8_look_3 ?_
  refine g_istore_n (lv' := fun x3_1 => [(3, .int x3_1), (0, .ref (a 0)), (1, .int p1), (2, .int p2)]) hX dX8_look_4 rfl (by decide) (fun _ => rfl) h (fun x3_1 h => ?_)
  refine g_iload_n hX 2 dX8_look_5 rfl rfl ?_
  refine g_iconst hX (1) dX8_look_6 (by decide) ?_
  refine g_icmp_lt hX 31 dX8_look_7 (by decide) h (fun h => ?_) (fun h => ?_)
  · refine g_iconst hX (-1) dX8_look_31 (by decide) ?_
    exact g_reti hR h dX8_look_32
  · refine g_iload_n hX 2 dX8_look_10 rfl rfl ?_
    refine g_bipush hX (9) dX8_look_11 (by decide) ?_
    refine g_icmp_gt hX 31 dX8_look_13 (by decide) h (fun h => ?_) (fun h => ?_)
    · refine g_iconst hX (-1) dX8_look_31 (by decide) ?_
      exact g_reti hR h dX8_look_32
    · refine g_iload_n hX 3 dX8_look_16 rfl rfl ?_
      refine jp_inv (P := fun f => ∀ (σ_2 : St)  , f σ_2 = some r → G X (vC a D tI tJ tB tS kK kV) 6 σ_2 33 [(3, .int x3_1), (0, .ref (a 0)), (1, .int p1), (2, .int p2)] []) h (fun σ_2 h => ?_) (fun j33 hj33 h => ?_)
      · refine g_aload_n hX 1 dX8_look_33 rfl rfl ?_
        refine gCX8_55_0 hX dX8_look_34 ?_
        refine g_callNI (As := []) (rest := []) hX 43 (Nat.le_of_ble_eq_true rfl) rfl rfl miX7_settle mvX7_settle lkX8_173 (by decide) rfl (Nat.le_of_ble_eq_true rfl) rfl dX8_look_37 (fun τ x ho => kX7_settle _ ho) h (fun σ_3 t_4 h => ?_)
        refine g_if_eq hX 53 dX8_look_40 (by decide) h (fun h => ?_) (fun h => ?_)
        · refine g_iconst hX (-1) dX8_look_53 (by decide) ?_
          exact g_reti hR h dX8_look_54
        · refine g_aload_n hX 1 dX8_look_43 rfl rfl ?_
          refine gCX8_55_0 hX dX8_look_44 ?_
          refine gCX8_244_43 hX dX8_look_47 ?_
          refine g_if_eq hX 55 dX8_look_50 (by decide) h (fun h => ?_) (fun h => ?_)
          · refine g_aload_n hX 1 dX8_look_55 rfl rfl ?_
            refine gCX8_55_0 hX dX8_look_56 ?_
            refine g_iload_n hX 2 dX8_look_59 rfl rfl ?_
            refine g_callNI (As := [.int p1]) (rest := []) hX 43 (Nat.le_of_ble_eq_true rfl) rfl rfl miX7_lookAround mvX7_lookAround lkX8_254 (by decide) rfl (Nat.le_of_ble_eq_true rfl) rfl dX8_look_60 (fun τ x ho => kX7_lookAround _ ho) h (fun σ_5 t_6 h => ?_)
            refine g_istore (lv' := fun x4_7 => [(4, .int x4_7), (3, .int x3_1), (0, .ref (a 0)), (1, .int p1), (2, .int p2)]) hX dX8_look_63 (by decide) (fun _ => rfl) h (fun x4_7 h => ?_)
            refine g_iload_n hX 4 dX8_look_65 rfl rfl ?_
            refine jp_inv (P := fun f => ∀ (σ_8 : St)  (t_9 : Int32), f σ_8 t_9 = some r → G X (vC a D tI tJ tB tS kK kV) 6 σ_8 83 [(0, .ref (a 0))] [.int t_9]) h (fun σ_8 t_9 h => ?_) (fun j83 hj83 h => ?_)
            · refine g_istore (lv' := fun x5_10 => [(5, .int x5_10), (0, .ref (a 0))]) hX dX8_look_83 (by decide) (fun _ => rfl) h (fun x5_10 h => ?_)
              refine g_aload_n hX 1 dX8_look_85 rfl rfl ?_
              refine gCX8_27_0 hX dX8_look_86 ?_
              refine g_callNV (As := []) (rest := []) hX 2 (Nat.le_of_ble_eq_true rfl) rfl rfl miX6_shutDoors mvX6_shutDoors lkX8_260 (by decide) rfl (Nat.le_of_ble_eq_true rfl) rfl dX8_look_89 (fun τ x ho => kX6_shutDoors _ ho) h (fun σ_11 t_12 h => ?_)
              refine g_iload hX 0 dX8_look_92 rfl ?_
              exact g_reti hR h dX8_look_94
            refine g_if_ne hX 74 dX8_look_66 (by decide) h (fun h => ?_) (fun h => ?_)
            · refine g_aload_n hX 2 dX8_look_74 rfl rfl ?_
              refine gCX8_27_0 hX dX8_look_75 ?_
              refine gCX8_257_2 hX dX8_look_78 ?_
              refine g_iload_n hX 1 dX8_look_81 rfl rfl ?_
              refine alC_9 hX dX8_look_82 h (fun h => ?_)
              exact g_sub [2] rfl (hj83 _ _ h)
            · refine g_iload hX 0 dX8_look_69 rfl ?_
              refine g_goto hX 83 dX8_look_71 (by decide) ?_
              exact g_sub [2] rfl (hj83 _ _ h)
          · refine g_iconst hX (-1) dX8_look_53 (by decide) ?_
            exact g_reti hR h dX8_look_54
      refine g_if_eq hX 33 dX8_look_17 (by decide) h (fun h => ?_) (fun h => ?_)
      · exact g_sub [0, 1, 2, 3] rfl (hj33 _ h)
      · refine g_aload_n hX 1 dX8_look_20 rfl rfl ?_
        refine gCX8_27_0 hX dX8_look_21 ?_
        refine g_iload_n hX 0 dX8_look_24 rfl rfl ?_
        refine g_callNI (As := [.int x3_1]) (rest := []) hX 2 (Nat.le_of_ble_eq_true rfl) rfl rfl miX6_isWomen mvX6_isWomen lkX8_237 (by decide) rfl (Nat.le_of_ble_eq_true rfl) rfl dX8_look_25 (fun τ x ho => kX6_isWomen _ ho) h (fun σ_13 t_14 h => ?_)
        refine g_if_ne hX 33 dX8_look_28 (by decide) h (fun h => ?_) (fun h => ?_)
        · exact g_sub [0, 1, 2, 3] rfl (hj33 _ h)
        · refine g_iconst hX (-1) dX8_look_31 (by decide) ?_
          exact g_reti hR h dX8_look_32
set_option maxRecDepth 20000 in
set_option maxHeartbeats 4000000 in
theorem kX8_look (l : Launch) {a : Nat → Nat} {D : va_G} {tI tJ tB tS : ClassId} {kK kV : Nat → Nat} {σ τ : St}  {p1 : Int32} {p2 : Int32} {x : Int32} (h : fX8_look σ p1 p2 = some (τ, x)) : CtI l yX8_look cX8_look 6 (some .int) 6 150 (vC a D tI tJ tB tS kK kV) σ [.ref (a 0), .int p1, .int p2] τ x := g_metI (by decide) (Nat.le_of_ble_eq_true rfl) rfl (fun X _ hX hR => sX8_look (r := (τ, x)) hX hR h)
def fX1_fill (σ : St) (p1 : Int32) (p2 : Int32) (p3 : Int32) (p4 : Int32) : Option (St × Unit) :=
  cl (fX7_makeSure σ p1 p3) fun (σ_1 : St) (t_2 : Unit) => cl (fX7_survey σ_1 p2) fun (σ_3 : St) (t_4 : Unit) => cl (fX7_gainAt σ_3 p2 p3) fun (σ_5 : St) (t_6 : Int64) => bnd (sL σ_5 61 5 t_6) fun (σ_7 : St) => cl (fX7_gainAt σ_7 p2 p4) fun (σ_8 : St) (t_9 : Int64) => bnd (sL σ_8 61 6 t_9) fun (σ_10 : St) => cl (fX7_makeSure σ_10 p1 p4) fun (σ_11 : St) (t_12 : Unit) => cl (fX7_survey σ_11 p2) fun (σ_13 : St) (t_14 : Unit) => cl (fX7_gainAt σ_13 p2 p3) fun (σ_15 : St) (t_16 : Int64) => bnd (sL σ_15 61 7 t_16) fun (σ_17 : St) => cl (fX7_gainAt σ_17 p2 p4) fun (σ_18 : St) (t_19 : Int64) => bnd (sL σ_18 61 8 t_19) fun (σ_20 : St) => cl (fX7_makeSure σ_20 p2 p3) fun (σ_21 : St) (t_22 : Unit) => cl (fX7_survey σ_21 p1) fun (σ_23 : St) (t_24 : Unit) => cl (fX7_gainAt σ_23 p1 p3) fun (σ_25 : St) (t_26 : Int64) => bnd (sL σ_25 61 1 t_26) fun (σ_27 : St) => cl (fX7_gainAt σ_27 p1 p4) fun (σ_28 : St) (t_29 : Int64) => bnd (sL σ_28 61 3 t_29) fun (σ_30 : St) => cl (fX7_makeSure σ_30 p2 p4) fun (σ_31 : St) (t_32 : Unit) => cl (fX7_survey σ_31 p1) fun (σ_33 : St) (t_34 : Unit) => cl (fX7_gainAt σ_33 p1 p3) fun (σ_35 : St) (t_36 : Int64) => bnd (sL σ_35 61 2 t_36) fun (σ_37 : St) => cl (fX7_gainAt σ_37 p1 p4) fun (σ_38 : St) (t_39 : Int64) => bnd (sL σ_38 61 4 t_39) fun (σ_40 : St) => some (σ_40, ())
set_option maxRecDepth 20000 in
set_option maxHeartbeats 4000000 in
theorem sX1_fill {X : CX} {a : Nat → Nat} {D : va_G} {tI tJ tB tS : ClassId} {kK kV : Nat → Nat} {σ : St}  {p1 : Int32} {p2 : Int32} {p3 : Int32} {p4 : Int32} {r : St × Unit} (hX : OKX X (vC a D tI tJ tB tS kK kV) cX1_fill 5 RX1 3 80) (hR : ∀ (pc : Nat) (lv : List (Nat × Value)), decode cX1_fill pc = .ok (.return_, 1) → G X (vC a D tI tJ tB tS kK kV) 5 r.1 pc lv [])  (h : fX1_fill σ p1 p2 p3 p4 = some r) : G X (vC a D tI tJ tB tS kK kV) 5 σ 0 [(0, .ref (a 61)), (1, .int p1), (2, .int p2), (3, .int p3), (4, .int p4)] [] := by
  unfold fX1_fill at h
  refine g_aload_n hX 0 dX1_fill_0 rfl rfl ?_
  refine gCX1_9_61 hX dX1_fill_1 ?_
  refine g_iload_n hX 1 dX1_fill_4 rfl rfl ?_
  refine g_iload_n hX 3 dX1_fill_5 rfl rfl ?_
  refine g_callNV (As := [.int p1, .int p3]) (rest := []) hX 43 (Nat.le_of_ble_eq_true rfl) rfl rfl miX7_makeSure mvX7_makeSure lkX1_15 (by decide) rfl (Nat.le_of_ble_eq_true rfl) rfl dX1_fill_6 (fun τ x ho => kX7_makeSure _ ho) h (fun σ_1 t_2 h => ?_)
  refine g_aload_n hX 0 dX1_fill_9 rfl rfl ?_
  refine gCX1_9_61 hX dX1_fill_10 ?_
  refine g_iload_n hX 2 dX1_fill_13 rfl rfl ?_
  refine g_callNV (As := [.int p2]) (rest := []) hX 43 (Nat.le_of_ble_eq_true rfl) rfl rfl miX7_survey mvX7_survey lkX1_21 (by decide) rfl (Nat.le_of_ble_eq_true rfl) rfl dX1_fill_14 (fun τ x ho => kX7_survey _ ho) h (fun σ_3 t_4 h => ?_)
  refine g_aload_n hX 0 dX1_fill_17 rfl rfl ?_
  refine g_aload_n hX 0 dX1_fill_18 rfl rfl ?_
  refine gCX1_9_61 hX dX1_fill_19 ?_
  refine g_iload_n hX 2 dX1_fill_22 rfl rfl ?_
  refine g_iload_n hX 3 dX1_fill_23 rfl rfl ?_
  refine g_callNL (As := [.int p2, .int p3]) (rest := [.ref (a 61)]) hX 43 (Nat.le_of_ble_eq_true rfl) rfl rfl miX7_gainAt mvX7_gainAt lkX1_25 (by decide) rfl (Nat.le_of_ble_eq_true rfl) rfl dX1_fill_24 (fun τ x ho => kX7_gainAt _ ho) h (fun σ_5 t_6 h => ?_)
  refine pCX1_29_61 hX dX1_fill_27 h (fun σ_7 h => ?_)
  refine g_aload_n hX 0 dX1_fill_30 rfl rfl ?_
  refine g_aload_n hX 0 dX1_fill_31 rfl rfl ?_
  refine gCX1_9_61 hX dX1_fill_32 ?_
  refine g_iload_n hX 2 dX1_fill_35 rfl rfl ?_
  refine g_iload hX 4 dX1_fill_36 rfl ?_
  refine g_callNL (As := [.int p2, .int p4]) (rest := [.ref (a 61)]) hX 43 (Nat.le_of_ble_eq_true rfl) rfl rfl miX7_gainAt mvX7_gainAt lkX1_25 (by decide) rfl (Nat.le_of_ble_eq_true rfl) rfl dX1_fill_38 (fun τ x ho => kX7_gainAt _ ho) h (fun σ_8 t_9 h => ?_)
  refine pCX1_33_61 hX dX1_fill_41 h (fun σ_10 h => ?_)
  refine g_aload_n hX 0 dX1_fill_44 rfl rfl ?_
  refine gCX1_9_61 hX dX1_fill_45 ?_
  refine g_iload_n hX 1 dX1_fill_48 rfl rfl ?_
  refine g_iload hX 4 dX1_fill_49 rfl ?_
  refine g_callNV (As := [.int p1, .int p4]) (rest := []) hX 43 (Nat.le_of_ble_eq_true rfl) rfl rfl miX7_makeSure mvX7_makeSure lkX1_15 (by decide) rfl (Nat.le_of_ble_eq_true rfl) rfl dX1_fill_51 (fun τ x ho => kX7_makeSure _ ho) h (fun σ_11 t_12 h => ?_)
  refine g_aload_n hX 0 dX1_fill_54 rfl rfl ?_
  refine gCX1_9_61 hX dX1_fill_55 ?_
  refine g_iload_n hX 2 dX1_fill_58 rfl rfl ?_
  refine g_callNV (As := [.int p2]) (rest := []) hX 43 (Nat.le_of_ble_eq_true rfl) rfl rfl miX7_survey mvX7_survey lkX1_21 (by decide) rfl (Nat.le_of_ble_eq_true rfl) rfl dX1_fill_59 (fun τ x ho => kX7_survey _ ho) h (fun σ_13 t_14 h => ?_)
  refine g_aload_n hX 0 dX1_fill_62 rfl rfl ?_
  refine g_aload_n hX 0 dX1_fill_63 rfl rfl ?_
  refine gCX1_9_61 hX dX1_fill_64 ?_
  refine g_iload_n hX 2 dX1_fill_67 rfl rfl ?_
  refine g_iload_n hX 3 dX1_fill_68 rfl rfl ?_
  refine g_callNL (As := [.int p2, .int p3]) (rest := [.ref (a 61)]) hX 43 (Nat.le_of_ble_eq_true rfl) rfl rfl miX7_gainAt mvX7_gainAt lkX1_25 (by decide) rfl (Nat.le_of_ble_eq_true rfl) rfl dX1_fill_69 (fun τ x ho => kX7_gainAt _ ho) h (fun σ_15 t_16 h => ?_)
  refine pCX1_36_61 hX dX1_fill_72 h (fun σ_17 h => ?_)
  refine g_aload_n hX 0 dX1_fill_75 rfl rfl ?_
  refine g_aload_n hX 0 dX1_fill_76 rfl rfl ?_
  refine gCX1_9_61 hX dX1_fill_77 ?_
  refine g_iload_n hX 2 dX1_fill_80 rfl rfl ?_
  refine g_iload hX 4 dX1_fill_81 rfl ?_
  refine g_callNL (As := [.int p2, .int p4]) (rest := [.ref (a 61)]) hX 43 (Nat.le_of_ble_eq_true rfl) rfl rfl miX7_gainAt mvX7_gainAt lkX1_25 (by decide) rfl (Nat.le_of_ble_eq_true rfl) rfl dX1_fill_83 (fun τ x ho => kX7_gainAt _ ho) h (fun σ_18 t_19 h => ?_)
  refine pCX1_39_61 hX dX1_fill_86 h (fun σ_20 h => ?_)
  refine g_aload_n hX 0 dX1_fill_89 rfl rfl ?_
  refine gCX1_9_61 hX dX1_fill_90 ?_
  refine g_iload_n hX 2 dX1_fill_93 rfl rfl ?_
  refine g_iload_n hX 3 dX1_fill_94 rfl rfl ?_
  refine g_callNV (As := [.int p2, .int p3]) (rest := []) hX 43 (Nat.le_of_ble_eq_true rfl) rfl rfl miX7_makeSure mvX7_makeSure lkX1_15 (by decide) rfl (Nat.le_of_ble_eq_true rfl) rfl dX1_fill_95 (fun τ x ho => kX7_makeSure _ ho) h (fun σ_21 t_22 h => ?_)
  refine g_aload_n hX 0 dX1_fill_98 rfl rfl ?_
  refine gCX1_9_61 hX dX1_fill_99 ?_
  refine g_iload_n hX 1 dX1_fill_102 rfl rfl ?_
  refine g_callNV (As := [.int p1]) (rest := []) hX 43 (Nat.le_of_ble_eq_true rfl) rfl rfl miX7_survey mvX7_survey lkX1_21 (by decide) rfl (Nat.le_of_ble_eq_true rfl) rfl dX1_fill_103 (fun τ x ho => kX7_survey _ ho) h (fun σ_23 t_24 h => ?_)
  refine g_aload_n hX 0 dX1_fill_106 rfl rfl ?_
  refine g_aload_n hX 0 dX1_fill_107 rfl rfl ?_
  refine gCX1_9_61 hX dX1_fill_108 ?_
  refine g_iload_n hX 1 dX1_fill_111 rfl rfl ?_
  refine g_iload_n hX 3 dX1_fill_112 rfl rfl ?_
  refine g_callNL (As := [.int p1, .int p3]) (rest := [.ref (a 61)]) hX 43 (Nat.le_of_ble_eq_true rfl) rfl rfl miX7_gainAt mvX7_gainAt lkX1_25 (by decide) rfl (Nat.le_of_ble_eq_true rfl) rfl dX1_fill_113 (fun τ x ho => kX7_gainAt _ ho) h (fun σ_25 t_26 h => ?_)
  refine pCX1_42_61 hX dX1_fill_116 h (fun σ_27 h => ?_)
  refine g_aload_n hX 0 dX1_fill_119 rfl rfl ?_
  refine g_aload_n hX 0 dX1_fill_120 rfl rfl ?_
  refine gCX1_9_61 hX dX1_fill_121 ?_
  refine g_iload_n hX 1 dX1_fill_124 rfl rfl ?_
  refine g_iload hX 4 dX1_fill_125 rfl ?_
  refine g_callNL (As := [.int p1, .int p4]) (rest := [.ref (a 61)]) hX 43 (Nat.le_of_ble_eq_true rfl) rfl rfl miX7_gainAt mvX7_gainAt lkX1_25 (by decide) rfl (Nat.le_of_ble_eq_true rfl) rfl dX1_fill_127 (fun τ x ho => kX7_gainAt _ ho) h (fun σ_28 t_29 h => ?_)
  refine pCX1_45_61 hX dX1_fill_130 h (fun σ_30 h => ?_)
  refine g_aload_n hX 0 dX1_fill_133 rfl rfl ?_
  refine gCX1_9_61 hX dX1_fill_134 ?_
  refine g_iload_n hX 2 dX1_fill_137 rfl rfl ?_
  refine g_iload hX 4 dX1_fill_138 rfl ?_
  refine g_callNV (As := [.int p2, .int p4]) (rest := []) hX 43 (Nat.le_of_ble_eq_true rfl) rfl rfl miX7_makeSure mvX7_makeSure lkX1_15 (by decide) rfl (Nat.le_of_ble_eq_true rfl) rfl dX1_fill_140 (fun τ x ho => kX7_makeSure _ ho) h (fun σ_31 t_32 h => ?_)
  refine g_aload_n hX 0 dX1_fill_143 rfl rfl ?_
  refine gCX1_9_61 hX dX1_fill_144 ?_
  refine g_iload_n hX 1 dX1_fill_147 rfl rfl ?_
  refine g_callNV (As := [.int p1]) (rest := []) hX 43 (Nat.le_of_ble_eq_true rfl) rfl rfl miX7_survey mvX7_survey lkX1_21 (by decide) rfl (Nat.le_of_ble_eq_true rfl) rfl dX1_fill_148 (fun τ x ho => kX7_survey _ ho) h (fun σ_33 t_34 h => ?_)
  refine g_aload_n hX 0 dX1_fill_151 rfl rfl ?_
  refine g_aload_n hX 0 dX1_fill_152 rfl rfl ?_
  refine gCX1_9_61 hX dX1_fill_153 ?_
  refine g_iload_n hX 1 dX1_fill_156 rfl rfl ?_
  refine g_iload_n hX 3 dX1_fill_157 rfl rfl ?_
  refine g_callNL (As := [.int p1, .int p3]) (rest := [.ref (a 61)]) hX 43 (Nat.le_of_ble_eq_true rfl) rfl rfl miX7_gainAt mvX7_gainAt lkX1_25 (by decide) rfl (Nat.le_of_ble_eq_true rfl) rfl dX1_fill_158 (fun τ x ho => kX7_gainAt _ ho) h (fun σ_35 t_36 h => ?_)
  refine pCX1_48_61 hX dX1_fill_161 h (fun σ_37 h => ?_)
  refine g_aload_n hX 0 dX1_fill_164 rfl rfl ?_
  refine g_aload_n hX 0 dX1_fill_165 rfl rfl ?_
  refine gCX1_9_61 hX dX1_fill_166 ?_
  refine g_iload_n hX 1 dX1_fill_169 rfl rfl ?_
  refine g_iload hX 4 dX1_fill_170 rfl ?_
  refine g_callNL (As := [.int p1, .int p4]) (rest := [.ref (a 61)]) hX 43 (Nat.le_of_ble_eq_true rfl) rfl rfl miX7_gainAt mvX7_gainAt lkX1_25 (by decide) rfl (Nat.le_of_ble_eq_true rfl) rfl dX1_fill_172 (fun τ x ho => kX7_gainAt _ ho) h (fun σ_38 t_39 h => ?_)
  refine pCX1_51_61 hX dX1_fill_175 h (fun σ_40 h => ?_)
  exact g_retv hR h dX1_fill_178
set_option maxRecDepth 20000 in
set_option maxHeartbeats 4000000 in
theorem kX1_fill (l : Launch) {a : Nat → Nat} {D : va_G} {tI tJ tB tS : ClassId} {kK kV : Nat → Nat} {σ τ : St}  {p1 : Int32} {p2 : Int32} {p3 : Int32} {p4 : Int32} {x : Unit} (h : fX1_fill σ p1 p2 p3 p4 = some (τ, x)) : CtV l yX1_fill cX1_fill 5 none 3 80 (vC a D tI tJ tB tS kK kV) σ [.ref (a 61), .int p1, .int p2, .int p3, .int p4] τ x := g_metV (by decide) (Nat.le_of_ble_eq_true rfl) rfl (fun X _ hX hR => sX1_fill (r := (τ, x)) hX hR h)
def fX1_hasRest (σ : St)  : Option (St × Int32) :=
  (jp (fun (σ_1 : St)   => some (σ_1, (1 : Int32))) fun j96 => jp (fun (σ_2 : St)   => (jp (fun (σ_3 : St)   => (jp (fun (σ_4 : St)   => (if (lg_cmp (σ_4.2 61 4) (σ_4.2 61 2)) < 0 then some (σ_4, (0 : Int32)) else (if (lg_cmp (σ_4.2 61 8) (σ_4.2 61 7)) < 0 then some (σ_4, (0 : Int32)) else j96 σ_4))) fun j72 => (if (lg_cmp (σ_3.2 61 3) (σ_3.2 61 1)) < 0 then j72 σ_3 else (if 0 ≤ (lg_cmp (σ_3.2 61 7) (σ_3.2 61 8)) then j96 σ_3 else j72 σ_3)))) fun j48 => (if (lg_cmp (σ_2.2 61 2) (σ_2.2 61 4)) < 0 then j48 σ_2 else (if 0 ≤ (lg_cmp (σ_2.2 61 6) (σ_2.2 61 5)) then j96 σ_2 else j48 σ_2)))) fun j24 => (if (lg_cmp (σ.2 61 1) (σ.2 61 3)) < 0 then j24 σ else (if 0 ≤ (lg_cmp (σ.2 61 5) (σ.2 61 6)) then j96 σ else j24 σ)))
set_option maxRecDepth 20000 in
set_option maxHeartbeats 4000000 in
theorem sX1_hasRest {X : CX} {a : Nat → Nat} {D : va_G} {tI tJ tB tS : ClassId} {kK kV : Nat → Nat} {σ : St}   {r : St × Int32} (hX : OKX X (vC a D tI tJ tB tS kK kV) cX1_hasRest 1 RX1 0 0) (hR : (r.2 = 0 ∨ r.2 = 1) → ∀ (pc : Nat) (lv : List (Nat × Value)), decode cX1_hasRest pc = .ok (.ireturn, 1) → G X (vC a D tI tJ tB tS kK kV) 1 r.1 pc lv [.int r.2])  (h : fX1_hasRest σ  = some r) : G X (vC a D tI tJ tB tS kK kV) 1 σ 0 [(0, .ref (a 61))] [] := by
  unfold fX1_hasRest at h
  refine g_aload_n hX 0 dX1_hasRest_0 rfl rfl ?_
  refine gCX1_42_61 hX dX1_hasRest_1 ?_
  refine g_aload_n hX 0 dX1_hasRest_4 rfl rfl ?_
  refine gCX1_45_61 hX dX1_hasRest_5 ?_
  refine g_lcmp hX dX1_hasRest_8 ?_
  refine jp_inv (P := fun f => ∀ (σ_1 : St)  , f σ_1 = some r → G X (vC a D tI tJ tB tS kK kV) 1 σ_1 96 [] []) h (fun σ_1 h => ?_) (fun j96 hj96 h => ?_)
  · refine g_iconst hX (1) dX1_hasRest_96 (by decide) ?_
    refine g_goto hX 101 dX1_hasRest_97 (by decide) ?_
    exact g_retz hR (by decide) h dX1_hasRest_101
  refine jp_inv (P := fun f => ∀ (σ_2 : St)  , f σ_2 = some r → G X (vC a D tI tJ tB tS kK kV) 1 σ_2 24 [(0, .ref (a 61))] []) h (fun σ_2 h => ?_) (fun j24 hj24 h => ?_)
  · refine g_aload_n hX 0 dX1_hasRest_24 rfl rfl ?_
    refine gCX1_48_61 hX dX1_hasRest_25 ?_
    refine g_aload_n hX 0 dX1_hasRest_28 rfl rfl ?_
    refine gCX1_51_61 hX dX1_hasRest_29 ?_
    refine g_lcmp hX dX1_hasRest_32 ?_
    refine jp_inv (P := fun f => ∀ (σ_3 : St)  , f σ_3 = some r → G X (vC a D tI tJ tB tS kK kV) 1 σ_3 48 [(0, .ref (a 61))] []) h (fun σ_3 h => ?_) (fun j48 hj48 h => ?_)
    · refine g_aload_n hX 0 dX1_hasRest_48 rfl rfl ?_
      refine gCX1_45_61 hX dX1_hasRest_49 ?_
      refine g_aload_n hX 0 dX1_hasRest_52 rfl rfl ?_
      refine gCX1_42_61 hX dX1_hasRest_53 ?_
      refine g_lcmp hX dX1_hasRest_56 ?_
      refine jp_inv (P := fun f => ∀ (σ_4 : St)  , f σ_4 = some r → G X (vC a D tI tJ tB tS kK kV) 1 σ_4 72 [(0, .ref (a 61))] []) h (fun σ_4 h => ?_) (fun j72 hj72 h => ?_)
      · refine g_aload_n hX 0 dX1_hasRest_72 rfl rfl ?_
        refine gCX1_51_61 hX dX1_hasRest_73 ?_
        refine g_aload_n hX 0 dX1_hasRest_76 rfl rfl ?_
        refine gCX1_48_61 hX dX1_hasRest_77 ?_
        refine g_lcmp hX dX1_hasRest_80 ?_
        refine g_if_lt hX 100 dX1_hasRest_81 (by decide) h (fun h => ?_) (fun h => ?_)
        · refine g_iconst hX (0) dX1_hasRest_100 (by decide) ?_
          exact g_retz hR (by decide) h dX1_hasRest_101
        · refine g_aload_n hX 0 dX1_hasRest_84 rfl rfl ?_
          refine gCX1_39_61 hX dX1_hasRest_85 ?_
          refine g_aload_n hX 0 dX1_hasRest_88 rfl rfl ?_
          refine gCX1_36_61 hX dX1_hasRest_89 ?_
          refine g_lcmp hX dX1_hasRest_92 ?_
          refine g_if_lt hX 100 dX1_hasRest_93 (by decide) h (fun h => ?_) (fun h => ?_)
          · refine g_iconst hX (0) dX1_hasRest_100 (by decide) ?_
            exact g_retz hR (by decide) h dX1_hasRest_101
          · exact g_sub [] rfl (hj96 _ h)
      refine g_if_lt hX 72 dX1_hasRest_57 (by decide) h (fun h => ?_) (fun h => ?_)
      · exact g_sub [0] rfl (hj72 _ h)
      · refine g_aload_n hX 0 dX1_hasRest_60 rfl rfl ?_
        refine gCX1_36_61 hX dX1_hasRest_61 ?_
        refine g_aload_n hX 0 dX1_hasRest_64 rfl rfl ?_
        refine gCX1_39_61 hX dX1_hasRest_65 ?_
        refine g_lcmp hX dX1_hasRest_68 ?_
        refine g_if_ge hX 96 dX1_hasRest_69 (by decide) h (fun h => ?_) (fun h => ?_)
        · exact g_sub [] rfl (hj96 _ h)
        · exact g_sub [0] rfl (hj72 _ h)
    refine g_if_lt hX 48 dX1_hasRest_33 (by decide) h (fun h => ?_) (fun h => ?_)
    · exact g_sub [0] rfl (hj48 _ h)
    · refine g_aload_n hX 0 dX1_hasRest_36 rfl rfl ?_
      refine gCX1_33_61 hX dX1_hasRest_37 ?_
      refine g_aload_n hX 0 dX1_hasRest_40 rfl rfl ?_
      refine gCX1_29_61 hX dX1_hasRest_41 ?_
      refine g_lcmp hX dX1_hasRest_44 ?_
      refine g_if_ge hX 96 dX1_hasRest_45 (by decide) h (fun h => ?_) (fun h => ?_)
      · exact g_sub [] rfl (hj96 _ h)
      · exact g_sub [0] rfl (hj48 _ h)
  refine g_if_lt hX 24 dX1_hasRest_9 (by decide) h (fun h => ?_) (fun h => ?_)
  · exact g_sub [0] rfl (hj24 _ h)
  · refine g_aload_n hX 0 dX1_hasRest_12 rfl rfl ?_
    refine gCX1_29_61 hX dX1_hasRest_13 ?_
    refine g_aload_n hX 0 dX1_hasRest_16 rfl rfl ?_
    refine gCX1_33_61 hX dX1_hasRest_17 ?_
    refine g_lcmp hX dX1_hasRest_20 ?_
    refine g_if_ge hX 96 dX1_hasRest_21 (by decide) h (fun h => ?_) (fun h => ?_)
    · exact g_sub [] rfl (hj96 _ h)
    · exact g_sub [0] rfl (hj24 _ h)
set_option maxRecDepth 20000 in
set_option maxHeartbeats 4000000 in
theorem kX1_hasRest (l : Launch) {a : Nat → Nat} {D : va_G} {tI tJ tB tS : ClassId} {kK kV : Nat → Nat} {σ τ : St}   {x : Int32} (h : fX1_hasRest σ  = some (τ, x)) : CtI l yX1_hasRest cX1_hasRest 1 (some .boolean) 0 0 (vC a D tI tJ tB tS kK kV) σ [.ref (a 61)] τ x := g_metZ (by decide) (Nat.le_of_ble_eq_true rfl) rfl (fun X _ hX hR => sX1_hasRest (r := (τ, x)) hX hR h)
def fX1_divisorOf_L9  (kx9 : St → Int64 → Int64 → Int32 → Option (St × Int64)) : Nat → St → Int64 → Int64 → Int32 → Option (St × Int64)
  | 0, _, _, _, _ => none
  | n9 + 1, σ, c4_9, c6_9, c8_9 =>
    (if (1000 : Int32) ≤ c8_9 then kx9 σ c4_9 c6_9 c8_9 else (if (lg_cmp c6_9 (0 : Int64)) = 0 then kx9 σ c4_9 c6_9 c8_9 else chk (decide (¬ c6_9 = 0)) (bnd (c4_9 - c4_9 / c6_9 * c6_9) fun (x9_4 : Int64) => bnd c6_9 fun (x4_5 : Int64) => bnd x9_4 fun (x6_6 : Int64) => bnd (c8_9 + (1 : Int32)) fun (x8_7 : Int32) => fX1_divisorOf_L9 kx9 n9 σ x4_5 x6_6 x8_7)))
def fX1_divisorOf (σ : St) (p1 : Int64) (p2 : Int64) : Option (St × Int64) :=
  bnd p1 fun (x4_1 : Int64) => bnd p2 fun (x6_2 : Int64) => bnd (0 : Int32) fun (x8_3 : Int32) => fX1_divisorOf_L9  (fun (σ_8 : St) (x4_9 : Int64) (x6_10 : Int64) (x8_11 : Int32) => some (σ_8, x4_9)) FU σ x4_1 x6_2 x8_3
set_option maxRecDepth 20000 in
set_option maxHeartbeats 4000000 in
theorem sX1_divisorOf_L9 {X : CX} {a : Nat → Nat} {D : va_G} {tI tJ tB tS : ClassId} {kK kV : Nat → Nat}  {kx9 : St → Int64 → Int64 → Int32 → Option (St × Int64)} {r : St × Int64} (hX : OKX X (vC a D tI tJ tB tS kK kV) cX1_divisorOf 11 RX1 0 0) (hR : ∀ (pc : Nat) (lv : List (Nat × Value)), decode cX1_divisorOf pc = .ok (.lreturn, 1) → G X (vC a D tI tJ tB tS kK kV) 11 r.1 pc lv [.long r.2]) (hkx9 : ∀ (σ : St) (e4_9 : Int64) (e6_9 : Int64) (e8_9 : Int32), kx9 σ e4_9 e6_9 e8_9 = some r → G X (vC a D tI tJ tB tS kK kV) 11 σ 45 [(4, .long e4_9)] []) : ∀ (n : Nat) (σ : St) (c4_9 : Int64) (c6_9 : Int64) (c8_9 : Int32), fX1_divisorOf_L9 kx9 n σ c4_9 c6_9 c8_9 = some r → G X (vC a D tI tJ tB tS kK kV) 11 σ 9 [(4, .long c4_9), (6, .long c6_9), (8, .int c8_9)] [] := by
  intro n
  induction n with
  | zero => intro σ c4_9 c6_9 c8_9 h; rw [fX1_divisorOf_L9] at h; exact absurd h (by simp)
  | succ n9 ih9 =>
    intro σ c4_9 c6_9 c8_9 h
    rw [fX1_divisorOf_L9] at h
    refine g_iload hX 2 dX1_divisorOf_9 rfl ?_
    refine g_sipush hX (1000) dX1_divisorOf_11 (by decide) ?_
    refine g_icmp_ge hX 45 dX1_divisorOf_14 (by decide) h (fun h => ?_) (fun h => ?_)
    · exact g_sub [0] rfl (hkx9 _ _ _ _ h)
    · refine g_lload hX 1 dX1_divisorOf_17 rfl ?_
      refine g_lconst hX (0) dX1_divisorOf_19 (by decide) ?_
      refine g_lcmp hX dX1_divisorOf_20 ?_
      refine g_if_eq hX 45 dX1_divisorOf_21 (by decide) h (fun h => ?_) (fun h => ?_)
      · exact g_sub [0] rfl (hkx9 _ _ _ _ h)
      · refine g_lload hX 0 dX1_divisorOf_24 rfl ?_
        refine g_lload hX 1 dX1_divisorOf_26 rfl ?_
        refine g_lrem hX dX1_divisorOf_28 h (fun h => ?_)
        refine g_lstore (lv' := fun x9_4 => [(9, .long x9_4), (4, .long c4_9), (6, .long c6_9), (8, .int c8_9)]) hX dX1_divisorOf_29 (by decide) (fun _ => rfl) h (fun x9_4 h => ?_)
        refine g_lload hX 2 dX1_divisorOf_31 rfl ?_
        refine g_lstore (lv' := fun x4_5 => [(4, .long x4_5), (9, .long x9_4), (6, .long c6_9), (8, .int c8_9)]) hX dX1_divisorOf_33 (by decide) (fun _ => rfl) h (fun x4_5 h => ?_)
        refine g_lload hX 1 dX1_divisorOf_35 rfl ?_
        refine g_lstore (lv' := fun x6_6 => [(6, .long x6_6), (4, .long x4_5), (9, .long x9_4), (8, .int c8_9)]) hX dX1_divisorOf_37 (by decide) (fun _ => rfl) h (fun x6_6 h => ?_)
        refine g_iinc (y := (1)) (lv' := fun x8_7 => [(8, .int x8_7), (6, .long x6_6), (4, .long x4_5), (9, .long x9_4)]) hX 3 dX1_divisorOf_39 rfl (by decide) (by decide) (fun _ => rfl) h (fun x8_7 h => ?_)
        refine g_goto hX 9 dX1_divisorOf_42 (by decide) ?_
        exact g_sub [2, 1, 0] rfl (ih9 _ _ _ _ h)
set_option maxRecDepth 20000 in
set_option maxHeartbeats 4000000 in
theorem sX1_divisorOf {X : CX} {a : Nat → Nat} {D : va_G} {tI tJ tB tS : ClassId} {kK kV : Nat → Nat} {σ : St}  {p1 : Int64} {p2 : Int64} {r : St × Int64} (hX : OKX X (vC a D tI tJ tB tS kK kV) cX1_divisorOf 11 RX1 0 0) (hR : ∀ (pc : Nat) (lv : List (Nat × Value)), decode cX1_divisorOf pc = .ok (.lreturn, 1) → G X (vC a D tI tJ tB tS kK kV) 11 r.1 pc lv [.long r.2])  (h : fX1_divisorOf σ p1 p2 = some r) : G X (vC a D tI tJ tB tS kK kV) 11 σ 0 [(0, .long p1), (2, .long p2)] [] := by
  unfold fX1_divisorOf at h
  refine g_lload_n hX 0 dX1_divisorOf_0 rfl rfl ?_
  refine g_lstore (lv' := fun x4_1 => [(4, .long x4_1), (0, .long p1), (2, .long p2)]) hX dX1_divisorOf_1 (by decide) (fun _ => rfl) h (fun x4_1 h => ?_)
  refine g_lload_n hX 2 dX1_divisorOf_3 rfl rfl ?_
  refine g_lstore (lv' := fun x6_2 => [(6, .long x6_2), (4, .long x4_1), (0, .long p1), (2, .long p2)]) hX dX1_divisorOf_4 (by decide) (fun _ => rfl) h (fun x6_2 h => ?_)
  refine g_iconst hX (0) dX1_divisorOf_6 (by decide) ?_
  refine g_istore (lv' := fun x8_3 => [(8, .int x8_3), (6, .long x6_2), (4, .long x4_1), (0, .long p1), (2, .long p2)]) hX dX1_divisorOf_7 (by decide) (fun _ => rfl) h (fun x8_3 h => ?_)
  refine g_sub [2, 1, 0] rfl (sX1_divisorOf_L9 hX hR (fun σ_8 x4_9 x6_10 x8_11 h => ?_) FU _ _ _ _ h)
  refine g_lload hX 0 dX1_divisorOf_45 rfl ?_
  exact g_retl hR h dX1_divisorOf_47
set_option maxRecDepth 20000 in
set_option maxHeartbeats 4000000 in
theorem kX1_divisorOf (l : Launch) {a : Nat → Nat} {D : va_G} {tI tJ tB tS : ClassId} {kK kV : Nat → Nat} {σ τ : St}  {p1 : Int64} {p2 : Int64} {x : Int64} (h : fX1_divisorOf σ p1 p2 = some (τ, x)) : CtL l yX1_divisorOf cX1_divisorOf 11 (some .long) 0 0 (vC a D tI tJ tB tS kK kV) σ [.long p1, .long p2] τ x := g_metL (by decide) (Nat.le_of_ble_eq_true rfl) rfl (fun X _ hX hR => sX1_divisorOf (r := (τ, x)) hX hR h)
def fX1_share (σ : St) (p1 : Int32) : Option (St × Int64) :=
  (jp (fun (σ_1 : St)  (t_2 : Int64) => bnd t_2 fun (x2_3 : Int64) => (jp (fun (σ_4 : St)  (t_5 : Int64) => bnd t_5 fun (x4_6 : Int64) => bnd (if 0 < x2_3 then x2_3 else -x2_3) fun (t_7 : Int64) => bnd (if 0 < x4_6 then x4_6 else -x4_6) fun (t_8 : Int64) => cl (fX1_divisorOf σ_4 t_7 t_8) fun (σ_9 : St) (t_10 : Int64) => bnd t_10 fun (x6_11 : Int64) => (if (lg_cmp x6_11 (0 : Int64)) = 0 then some (σ_9, (-1 : Int64)) else (jp (fun (σ_12 : St) (x6_13 : Int64)  => chk (decide (¬ (2 : Int32) = 0)) ((if (p1 - p1 / (2 : Int32) * (2 : Int32)) = 0 then chk (decide (¬ x6_13 = 0)) (some (σ_12, (x2_3 / x6_13))) else chk (decide (¬ x6_13 = 0)) (some (σ_12, (x4_6 / x6_13)))))) fun j112 => (if 0 ≤ (lg_cmp x4_6 (0 : Int64)) then j112 σ_9 x6_11 else bnd (-x6_11) fun (x6_14 : Int64) => j112 σ_9 x6_14)))) fun j73 => (if (2 : Int32) ≤ p1 then j73 σ_1 ((((σ_1.2 61 1) - (σ_1.2 61 2)) - (σ_1.2 61 3)) + (σ_1.2 61 4)) else j73 σ_1 ((((σ_1.2 61 5) - (σ_1.2 61 6)) - (σ_1.2 61 7)) + (σ_1.2 61 8))))) fun j26 => (if (2 : Int32) ≤ p1 then j26 σ ((σ.2 61 4) - (σ.2 61 2)) else j26 σ ((σ.2 61 8) - (σ.2 61 7))))
set_option maxRecDepth 20000 in
set_option maxHeartbeats 4000000 in
theorem sX1_share {X : CX} {a : Nat → Nat} {D : va_G} {tI tJ tB tS : ClassId} {kK kV : Nat → Nat} {σ : St}  {p1 : Int32} {r : St × Int64} (hX : OKX X (vC a D tI tJ tB tS kK kV) cX1_share 8 RX1 1 30) (hR : ∀ (pc : Nat) (lv : List (Nat × Value)), decode cX1_share pc = .ok (.lreturn, 1) → G X (vC a D tI tJ tB tS kK kV) 8 r.1 pc lv [.long r.2])  (h : fX1_share σ p1 = some r) : G X (vC a D tI tJ tB tS kK kV) 8 σ 0 [(0, .ref (a 61)), (1, .int p1)] [] := by
  unfold fX1_share at h
  refine g_iload_n hX 1 dX1_share_0 rfl rfl ?_
  refine g_iconst hX (2) dX1_share_1 (by decide) ?_
  refine jp_inv (P := fun f => ∀ (σ_1 : St)  (t_2 : Int64), f σ_1 t_2 = some r → G X (vC a D tI tJ tB tS kK kV) 8 σ_1 26 [(0, .ref (a 61)), (1, .int p1)] [.long t_2]) h (fun σ_1 t_2 h => ?_) (fun j26 hj26 h => ?_)
  · refine g_lstore_n (lv' := fun x2_3 => [(2, .long x2_3), (0, .ref (a 61)), (1, .int p1)]) hX dX1_share_26 rfl (by decide) (fun _ => rfl) h (fun x2_3 h => ?_)
    refine g_iload_n hX 2 dX1_share_27 rfl rfl ?_
    refine g_iconst hX (2) dX1_share_28 (by decide) ?_
    refine jp_inv (P := fun f => ∀ (σ_4 : St)  (t_5 : Int64), f σ_4 t_5 = some r → G X (vC a D tI tJ tB tS kK kV) 8 σ_4 73 [(2, .long x2_3), (1, .int p1)] [.long t_5]) h (fun σ_4 t_5 h => ?_) (fun j73 hj73 h => ?_)
    · refine g_lstore (lv' := fun x4_6 => [(4, .long x4_6), (2, .long x2_3), (1, .int p1)]) hX dX1_share_73 (by decide) (fun _ => rfl) h (fun x4_6 h => ?_)
      refine g_lload_n hX 1 dX1_share_75 rfl rfl ?_
      refine g_mabsL hX lkX1_54 mathS_absJ mathI mathC_absJ (by decide) (by decide) (Nat.le_of_ble_eq_true rfl) dX1_share_76 h (fun t_7 h => ?_)
      refine g_lload hX 0 dX1_share_79 rfl ?_
      refine g_mabsL hX lkX1_54 mathS_absJ mathI mathC_absJ (by decide) (by decide) (Nat.le_of_ble_eq_true rfl) dX1_share_81 h (fun t_8 h => ?_)
      refine g_callSL (As := [.long t_7, .long t_8]) (rest := []) hX miX1_divisorOf mvX1_divisorOf lkX1_60 (by decide) rfl (Nat.le_of_ble_eq_true rfl) rfl dX1_share_84 (fun τ x ho => kX1_divisorOf _ ho) h (fun σ_9 t_10 h => ?_)
      refine g_lstore (lv' := fun x6_11 => [(6, .long x6_11), (4, .long x4_6), (2, .long x2_3), (1, .int p1)]) hX dX1_share_87 (by decide) (fun _ => rfl) h (fun x6_11 h => ?_)
      refine g_lload hX 0 dX1_share_89 rfl ?_
      refine g_lconst hX (0) dX1_share_91 (by decide) ?_
      refine g_lcmp hX dX1_share_92 ?_
      refine g_if_ne hX 100 dX1_share_93 (by decide) h (fun h => ?_) (fun h => ?_)
      · refine g_lload hX 1 dX1_share_100 rfl ?_
        refine g_lconst hX (0) dX1_share_102 (by decide) ?_
        refine g_lcmp hX dX1_share_103 ?_
        refine jp_inv (P := fun f => ∀ (σ_12 : St) (x6_13 : Int64) , f σ_12 x6_13 = some r → G X (vC a D tI tJ tB tS kK kV) 8 σ_12 112 [(4, .long x4_6), (2, .long x2_3), (1, .int p1), (6, .long x6_13)] []) h (fun σ_12 x6_13 h => ?_) (fun j112 hj112 h => ?_)
        · refine g_iload_n hX 2 dX1_share_112 rfl rfl ?_
          refine g_iconst hX (2) dX1_share_113 (by decide) ?_
          refine g_irem hX dX1_share_114 h (fun h => ?_)
          refine g_if_ne hX 125 dX1_share_115 (by decide) h (fun h => ?_) (fun h => ?_)
          · refine g_lload hX 0 dX1_share_125 rfl ?_
            refine g_lload hX 3 dX1_share_127 rfl ?_
            refine g_ldiv hX dX1_share_129 h (fun h => ?_)
            exact g_retl hR h dX1_share_130
          · refine g_lload_n hX 1 dX1_share_118 rfl rfl ?_
            refine g_lload hX 3 dX1_share_119 rfl ?_
            refine g_ldiv hX dX1_share_121 h (fun h => ?_)
            refine g_goto hX 130 dX1_share_122 (by decide) ?_
            exact g_retl hR h dX1_share_130
        refine g_if_ge hX 112 dX1_share_104 (by decide) h (fun h => ?_) (fun h => ?_)
        · exact g_sub [1, 2, 3, 0] rfl (hj112 _ _ h)
        · refine g_lload hX 0 dX1_share_107 rfl ?_
          refine g_lneg hX dX1_share_109 ?_
          refine g_lstore (lv' := fun x6_14 => [(6, .long x6_14), (4, .long x4_6), (2, .long x2_3), (1, .int p1)]) hX dX1_share_110 (by decide) (fun _ => rfl) h (fun x6_14 h => ?_)
          exact g_sub [1, 2, 3, 0] rfl (hj112 _ _ h)
      · refine g_ldc2 hX lkX1_64 dX1_share_96 ?_
        exact g_retl hR h dX1_share_99
    refine g_icmp_ge hX 54 dX1_share_29 (by decide) h (fun h => ?_) (fun h => ?_)
    · refine g_aload_n hX 1 dX1_share_54 rfl rfl ?_
      refine gCX1_42_61 hX dX1_share_55 ?_
      refine g_aload_n hX 1 dX1_share_58 rfl rfl ?_
      refine gCX1_48_61 hX dX1_share_59 ?_
      refine g_lsub hX dX1_share_62 ?_
      refine g_aload_n hX 1 dX1_share_63 rfl rfl ?_
      refine gCX1_45_61 hX dX1_share_64 ?_
      refine g_lsub hX dX1_share_67 ?_
      refine g_aload_n hX 1 dX1_share_68 rfl rfl ?_
      refine gCX1_51_61 hX dX1_share_69 ?_
      refine g_ladd hX dX1_share_72 ?_
      exact g_sub [0, 2] rfl (hj73 _ _ h)
    · refine g_aload_n hX 1 dX1_share_32 rfl rfl ?_
      refine gCX1_29_61 hX dX1_share_33 ?_
      refine g_aload_n hX 1 dX1_share_36 rfl rfl ?_
      refine gCX1_33_61 hX dX1_share_37 ?_
      refine g_lsub hX dX1_share_40 ?_
      refine g_aload_n hX 1 dX1_share_41 rfl rfl ?_
      refine gCX1_36_61 hX dX1_share_42 ?_
      refine g_lsub hX dX1_share_45 ?_
      refine g_aload_n hX 1 dX1_share_46 rfl rfl ?_
      refine gCX1_39_61 hX dX1_share_47 ?_
      refine g_ladd hX dX1_share_50 ?_
      refine g_goto hX 73 dX1_share_51 (by decide) ?_
      exact g_sub [0, 2] rfl (hj73 _ _ h)
  refine g_icmp_ge hX 17 dX1_share_2 (by decide) h (fun h => ?_) (fun h => ?_)
  · refine g_aload_n hX 0 dX1_share_17 rfl rfl ?_
    refine gCX1_51_61 hX dX1_share_18 ?_
    refine g_aload_n hX 0 dX1_share_21 rfl rfl ?_
    refine gCX1_48_61 hX dX1_share_22 ?_
    refine g_lsub hX dX1_share_25 ?_
    exact g_sub [0, 1] rfl (hj26 _ _ h)
  · refine g_aload_n hX 0 dX1_share_5 rfl rfl ?_
    refine gCX1_39_61 hX dX1_share_6 ?_
    refine g_aload_n hX 0 dX1_share_9 rfl rfl ?_
    refine gCX1_36_61 hX dX1_share_10 ?_
    refine g_lsub hX dX1_share_13 ?_
    refine g_goto hX 26 dX1_share_14 (by decide) ?_
    exact g_sub [0, 1] rfl (hj26 _ _ h)
set_option maxRecDepth 20000 in
set_option maxHeartbeats 4000000 in
theorem kX1_share (l : Launch) {a : Nat → Nat} {D : va_G} {tI tJ tB tS : ClassId} {kK kV : Nat → Nat} {σ τ : St}  {p1 : Int32} {x : Int64} (h : fX1_share σ p1 = some (τ, x)) : CtL l yX1_share cX1_share 8 (some .long) 1 30 (vC a D tI tJ tB tS kK kV) σ [.ref (a 61), .int p1] τ x := g_metL (by decide) (Nat.le_of_ble_eq_true rfl) rfl (fun X _ hX hR => sX1_share (r := (τ, x)) hX hR h)
def fX8_lots (σ : St) (p1 : Int32) (p2 : Int32) (p3 : Int32) (p4 : Int32) (p5 : Int32) : Option (St × Int64) :=
  cl (fX6_hasBaker σ p1) fun (σ_1 : St) (t_2 : Int32) => (if t_2 = 0 then some (σ_1, (-1 : Int64)) else cl (fX6_hasBaker σ_1 p2) fun (σ_3 : St) (t_4 : Int32) => (if t_4 = 0 then some (σ_3, (-1 : Int64)) else (if p1 = p2 then some (σ_3, (-1 : Int64)) else (if p5 < 0 then some (σ_3, (-1 : Int64)) else (if p5 ≤ (3 : Int32) then cl (fX6_hasStep σ_3 p3) fun (σ_5 : St) (t_6 : Int32) => (if t_6 = 0 then some (σ_5, (-1 : Int64)) else cl (fX6_hasStep σ_5 p4) fun (σ_7 : St) (t_8 : Int32) => (if t_8 = 0 then some (σ_7, (-1 : Int64)) else (if p4 ≤ p3 then some (σ_7, (-1 : Int64)) else cl (fX7_settle σ_7 ) fun (σ_9 : St) (t_10 : Int32) => (if t_10 = 0 then some (σ_9, (-1 : Int64)) else cl (fX7_isFree σ_9 p3) fun (σ_11 : St) (t_12 : Int32) => (if t_12 = 0 then some (σ_11, (-1 : Int64)) else cl (fX7_isFree σ_11 p4) fun (σ_13 : St) (t_14 : Int32) => (if t_14 = 0 then some (σ_13, (-1 : Int64)) else cl (fX1_fill σ_13 p1 p2 p3 p4) fun (σ_15 : St) (t_16 : Unit) => cl (fX1_hasRest σ_15 ) fun (σ_17 : St) (t_18 : Int32) => (if t_18 = 0 then cl (fX1_share σ_17 p5) fun (σ_19 : St) (t_20 : Int64) => some (σ_19, t_20) else some (σ_17, (-1 : Int64))))))))) else some (σ_3, (-1 : Int64)))))))
set_option maxRecDepth 20000 in
set_option maxHeartbeats 4000000 in
theorem sX8_lots {X : CX} {a : Nat → Nat} {D : va_G} {tI tJ tB tS : ClassId} {kK kV : Nat → Nat} {σ : St}  {p1 : Int32} {p2 : Int32} {p3 : Int32} {p4 : Int32} {p5 : Int32} {r : St × Int64} (hX : OKX X (vC a D tI tJ tB tS kK kV) cX8_lots 6 RX8 6 132) (hR : ∀ (pc : Nat) (lv : List (Nat × Value)), decode cX8_lots pc = .ok (.lreturn, 1) → G X (vC a D tI tJ tB tS kK kV) 6 r.1 pc lv [.long r.2])  (h : fX8_lots σ p1 p2 p3 p4 p5 = some r) : G X (vC a D tI tJ tB tS kK kV) 6 σ 0 [(0, .ref (a 0)), (1, .int p1), (2, .int p2), (3, .int p3), (4, .int p4), (5, .int p5)] [] := by
  unfold fX8_lots at h
  refine g_aload_n hX 0 dX8_lots_0 rfl rfl ?_
  refine gCX8_27_0 hX dX8_lots_1 ?_
  refine g_iload_n hX 1 dX8_lots_4 rfl rfl ?_
  refine g_callNI (As := [.int p1]) (rest := []) hX 2 (Nat.le_of_ble_eq_true rfl) rfl rfl miX6_hasBaker mvX6_hasBaker lkX8_125 (by decide) rfl (Nat.le_of_ble_eq_true rfl) rfl dX8_lots_5 (fun τ x ho => kX6_hasBaker _ ho) h (fun σ_1 t_2 h => ?_)
  refine g_if_eq hX 38 dX8_lots_8 (by decide) h (fun h => ?_) (fun h => ?_)
  · refine g_ldc2 hX lkX8_178 dX8_lots_38 ?_
    exact g_retl hR h dX8_lots_41
  · refine g_aload_n hX 0 dX8_lots_11 rfl rfl ?_
    refine gCX8_27_0 hX dX8_lots_12 ?_
    refine g_iload_n hX 2 dX8_lots_15 rfl rfl ?_
    refine g_callNI (As := [.int p2]) (rest := []) hX 2 (Nat.le_of_ble_eq_true rfl) rfl rfl miX6_hasBaker mvX6_hasBaker lkX8_125 (by decide) rfl (Nat.le_of_ble_eq_true rfl) rfl dX8_lots_16 (fun τ x ho => kX6_hasBaker _ ho) h (fun σ_3 t_4 h => ?_)
    refine g_if_eq hX 38 dX8_lots_19 (by decide) h (fun h => ?_) (fun h => ?_)
    · refine g_ldc2 hX lkX8_178 dX8_lots_38 ?_
      exact g_retl hR h dX8_lots_41
    · refine g_iload_n hX 1 dX8_lots_22 rfl rfl ?_
      refine g_iload_n hX 2 dX8_lots_23 rfl rfl ?_
      refine g_icmp_eq hX 38 dX8_lots_24 (by decide) h (fun h => ?_) (fun h => ?_)
      · refine g_ldc2 hX lkX8_178 dX8_lots_38 ?_
        exact g_retl hR h dX8_lots_41
      · refine g_iload hX 5 dX8_lots_27 rfl ?_
        refine g_if_lt hX 38 dX8_lots_29 (by decide) h (fun h => ?_) (fun h => ?_)
        · refine g_ldc2 hX lkX8_178 dX8_lots_38 ?_
          exact g_retl hR h dX8_lots_41
        · refine g_iload hX 5 dX8_lots_32 rfl ?_
          refine g_iconst hX (3) dX8_lots_34 (by decide) ?_
          refine g_icmp_le hX 42 dX8_lots_35 (by decide) h (fun h => ?_) (fun h => ?_)
          · refine g_aload_n hX 0 dX8_lots_42 rfl rfl ?_
            refine gCX8_27_0 hX dX8_lots_43 ?_
            refine g_iload_n hX 3 dX8_lots_46 rfl rfl ?_
            refine g_callNI (As := [.int p3]) (rest := []) hX 2 (Nat.le_of_ble_eq_true rfl) rfl rfl miX6_hasStep mvX6_hasStep lkX8_157 (by decide) rfl (Nat.le_of_ble_eq_true rfl) rfl dX8_lots_47 (fun τ x ho => kX6_hasStep _ ho) h (fun σ_5 t_6 h => ?_)
            refine g_if_eq hX 81 dX8_lots_50 (by decide) h (fun h => ?_) (fun h => ?_)
            · refine g_ldc2 hX lkX8_178 dX8_lots_81 ?_
              exact g_retl hR h dX8_lots_84
            · refine g_aload_n hX 0 dX8_lots_53 rfl rfl ?_
              refine gCX8_27_0 hX dX8_lots_54 ?_
              refine g_iload hX 4 dX8_lots_57 rfl ?_
              refine g_callNI (As := [.int p4]) (rest := []) hX 2 (Nat.le_of_ble_eq_true rfl) rfl rfl miX6_hasStep mvX6_hasStep lkX8_157 (by decide) rfl (Nat.le_of_ble_eq_true rfl) rfl dX8_lots_59 (fun τ x ho => kX6_hasStep _ ho) h (fun σ_7 t_8 h => ?_)
              refine g_if_eq hX 81 dX8_lots_62 (by decide) h (fun h => ?_) (fun h => ?_)
              · refine g_ldc2 hX lkX8_178 dX8_lots_81 ?_
                exact g_retl hR h dX8_lots_84
              · refine g_iload_n hX 3 dX8_lots_65 rfl rfl ?_
                refine g_iload hX 4 dX8_lots_66 rfl ?_
                refine g_icmp_ge hX 81 dX8_lots_68 (by decide) h (fun h => ?_) (fun h => ?_)
                · refine g_ldc2 hX lkX8_178 dX8_lots_81 ?_
                  exact g_retl hR h dX8_lots_84
                · refine g_aload_n hX 0 dX8_lots_71 rfl rfl ?_
                  refine gCX8_55_0 hX dX8_lots_72 ?_
                  refine g_callNI (As := []) (rest := []) hX 43 (Nat.le_of_ble_eq_true rfl) rfl rfl miX7_settle mvX7_settle lkX8_173 (by decide) rfl (Nat.le_of_ble_eq_true rfl) rfl dX8_lots_75 (fun τ x ho => kX7_settle _ ho) h (fun σ_9 t_10 h => ?_)
                  refine g_if_ne hX 85 dX8_lots_78 (by decide) h (fun h => ?_) (fun h => ?_)
                  · refine g_aload_n hX 0 dX8_lots_85 rfl rfl ?_
                    refine gCX8_55_0 hX dX8_lots_86 ?_
                    refine g_iload_n hX 3 dX8_lots_89 rfl rfl ?_
                    refine g_callNI (As := [.int p3]) (rest := []) hX 43 (Nat.le_of_ble_eq_true rfl) rfl rfl miX7_isFree mvX7_isFree lkX8_263 (by decide) rfl (Nat.le_of_ble_eq_true rfl) rfl dX8_lots_90 (fun τ x ho => kX7_isFree _ ho) h (fun σ_11 t_12 h => ?_)
                    refine g_if_eq hX 108 dX8_lots_93 (by decide) h (fun h => ?_) (fun h => ?_)
                    · refine g_ldc2 hX lkX8_178 dX8_lots_108 ?_
                      exact g_retl hR h dX8_lots_111
                    · refine g_aload_n hX 0 dX8_lots_96 rfl rfl ?_
                      refine gCX8_55_0 hX dX8_lots_97 ?_
                      refine g_iload hX 4 dX8_lots_100 rfl ?_
                      refine g_callNI (As := [.int p4]) (rest := []) hX 43 (Nat.le_of_ble_eq_true rfl) rfl rfl miX7_isFree mvX7_isFree lkX8_263 (by decide) rfl (Nat.le_of_ble_eq_true rfl) rfl dX8_lots_102 (fun τ x ho => kX7_isFree _ ho) h (fun σ_13 t_14 h => ?_)
                      refine g_if_ne hX 112 dX8_lots_105 (by decide) h (fun h => ?_) (fun h => ?_)
                      · refine g_aload_n hX 0 dX8_lots_112 rfl rfl ?_
                        refine gCX8_82_0 hX dX8_lots_113 ?_
                        refine g_iload_n hX 1 dX8_lots_116 rfl rfl ?_
                        refine g_iload_n hX 2 dX8_lots_117 rfl rfl ?_
                        refine g_iload_n hX 3 dX8_lots_118 rfl rfl ?_
                        refine g_iload hX 4 dX8_lots_119 rfl ?_
                        refine g_callNV (As := [.int p1, .int p2, .int p3, .int p4]) (rest := []) hX 61 (Nat.le_of_ble_eq_true rfl) rfl rfl miX1_fill mvX1_fill lkX8_266 (by decide) rfl (Nat.le_of_ble_eq_true rfl) rfl dX8_lots_121 (fun τ x ho => kX1_fill _ ho) h (fun σ_15 t_16 h => ?_)
                        refine g_aload_n hX 0 dX8_lots_124 rfl rfl ?_
                        refine gCX8_82_0 hX dX8_lots_125 ?_
                        refine g_callNI (As := []) (rest := []) hX 61 (Nat.le_of_ble_eq_true rfl) rfl rfl miX1_hasRest mvX1_hasRest lkX8_270 (by decide) rfl (Nat.le_of_ble_eq_true rfl) rfl dX8_lots_128 (fun τ x ho => kX1_hasRest _ ho) h (fun σ_17 t_18 h => ?_)
                        refine g_if_eq hX 140 dX8_lots_131 (by decide) h (fun h => ?_) (fun h => ?_)
                        · refine g_aload_n hX 0 dX8_lots_140 rfl rfl ?_
                          refine gCX8_82_0 hX dX8_lots_141 ?_
                          refine g_iload hX 5 dX8_lots_144 rfl ?_
                          refine g_callNL (As := [.int p5]) (rest := []) hX 61 (Nat.le_of_ble_eq_true rfl) rfl rfl miX1_share mvX1_share lkX8_273 (by decide) rfl (Nat.le_of_ble_eq_true rfl) rfl dX8_lots_146 (fun τ x ho => kX1_share _ ho) h (fun σ_19 t_20 h => ?_)
                          exact g_retl hR h dX8_lots_149
                        · refine g_ldc2 hX lkX8_178 dX8_lots_134 ?_
                          refine g_goto hX 149 dX8_lots_137 (by decide) ?_
                          exact g_retl hR h dX8_lots_149
                      · refine g_ldc2 hX lkX8_178 dX8_lots_108 ?_
                        exact g_retl hR h dX8_lots_111
                  · refine g_ldc2 hX lkX8_178 dX8_lots_81 ?_
                    exact g_retl hR h dX8_lots_84
          · refine g_ldc2 hX lkX8_178 dX8_lots_38 ?_
            exact g_retl hR h dX8_lots_41
set_option maxRecDepth 20000 in
set_option maxHeartbeats 4000000 in
theorem kX8_lots (l : Launch) {a : Nat → Nat} {D : va_G} {tI tJ tB tS : ClassId} {kK kV : Nat → Nat} {σ τ : St}  {p1 : Int32} {p2 : Int32} {p3 : Int32} {p4 : Int32} {p5 : Int32} {x : Int64} (h : fX8_lots σ p1 p2 p3 p4 p5 = some (τ, x)) : CtL l yX8_lots cX8_lots 6 (some .long) 6 132 (vC a D tI tJ tB tS kK kV) σ [.ref (a 0), .int p1, .int p2, .int p3, .int p4, .int p5] τ x := g_metL (by decide) (Nat.le_of_ble_eq_true rfl) rfl (fun X _ hX hR => sX8_lots (r := (τ, x)) hX hR h)
def fX7_drawnStep_L5 (q1_5 : Int32) (q2_5 : Int32) (kx5 : St → Int32 → Int32 → Option (St × Int32)) : Nat → St → Int32 → Int32 → Option (St × Int32)
  | 0, _, _, _ => none
  | n5 + 1, σ, c3_5, c4_5 =>
    (if (σ.1 2 2) ≤ c4_5 then kx5 σ c3_5 c4_5 else chk (inb ((q1_5 * (8 : Int32)) + c4_5) 32) (bnd (c3_5 + (σ.1 45 (ix ((q1_5 * (8 : Int32)) + c4_5)))) fun (x3_3 : Int32) => (if x3_3 ≤ q2_5 then bnd (c4_5 + (1 : Int32)) fun (x4_4 : Int32) => fX7_drawnStep_L5 q1_5 q2_5 kx5 n5 σ x3_3 x4_4 else some (σ, c4_5))))
def fX7_drawnStep (σ : St) (p1 : Int32) (p2 : Int32) : Option (St × Int32) :=
  bnd (0 : Int32) fun (x3_1 : Int32) => bnd (0 : Int32) fun (x4_2 : Int32) => fX7_drawnStep_L5 p1 p2 (fun (σ_5 : St) (x3_6 : Int32) (x4_7 : Int32) => some (σ_5, (0 : Int32))) FU σ x3_1 x4_2
set_option maxRecDepth 20000 in
set_option maxHeartbeats 4000000 in
theorem sX7_drawnStep_L5 {X : CX} {a : Nat → Nat} {D : va_G} {tI tJ tB tS : ClassId} {kK kV : Nat → Nat} {q1_5 : Int32} {q2_5 : Int32} {kx5 : St → Int32 → Int32 → Option (St × Int32)} {r : St × Int32} (hX : OKX X (vC a D tI tJ tB tS kK kV) cX7_drawnStep 5 RX7 0 0) (hR : ∀ (pc : Nat) (lv : List (Nat × Value)), decode cX7_drawnStep pc = .ok (.ireturn, 1) → G X (vC a D tI tJ tB tS kK kV) 5 r.1 pc lv [.int r.2]) (hkx5 : ∀ (σ : St) (e3_5 : Int32) (e4_5 : Int32), kx5 σ e3_5 e4_5 = some r → G X (vC a D tI tJ tB tS kK kV) 5 σ 46 [] []) : ∀ (n : Nat) (σ : St) (c3_5 : Int32) (c4_5 : Int32), fX7_drawnStep_L5 q1_5 q2_5 kx5 n σ c3_5 c4_5 = some r → G X (vC a D tI tJ tB tS kK kV) 5 σ 5 [(0, .ref (a 43)), (1, .int q1_5), (2, .int q2_5), (3, .int c3_5), (4, .int c4_5)] [] := by
  intro n
  induction n with
  | zero => intro σ c3_5 c4_5 h; rw [fX7_drawnStep_L5] at h; exact absurd h (by simp)
  | succ n5 ih5 =>
    intro σ c3_5 c4_5 h
    rw [fX7_drawnStep_L5] at h
    refine g_iload hX 4 dX7_drawnStep_5 rfl ?_
    refine g_aload_n hX 0 dX7_drawnStep_7 rfl rfl ?_
    refine gCX7_9_43 hX dX7_drawnStep_8 ?_
    refine gCX7_106_2 hX dX7_drawnStep_11 ?_
    refine g_icmp_ge hX 46 dX7_drawnStep_14 (by decide) h (fun h => ?_) (fun h => ?_)
    · exact g_sub [] rfl (hkx5 _ _ _ h)
    · refine g_iload_n hX 3 dX7_drawnStep_17 rfl rfl ?_
      refine g_aload_n hX 0 dX7_drawnStep_18 rfl rfl ?_
      refine gCX7_27_43 hX dX7_drawnStep_19 ?_
      refine g_iload_n hX 1 dX7_drawnStep_22 rfl rfl ?_
      refine g_bipush hX (8) dX7_drawnStep_23 (by decide) ?_
      refine g_imul hX dX7_drawnStep_25 ?_
      refine g_iload hX 4 dX7_drawnStep_26 rfl ?_
      refine g_iadd hX dX7_drawnStep_28 ?_
      refine alC_45 hX dX7_drawnStep_29 h (fun h => ?_)
      refine g_iadd hX dX7_drawnStep_30 ?_
      refine g_istore_n (lv' := fun x3_3 => [(3, .int x3_3), (0, .ref (a 43)), (1, .int q1_5), (2, .int q2_5), (4, .int c4_5)]) hX dX7_drawnStep_31 rfl (by decide) (fun _ => rfl) h (fun x3_3 h => ?_)
      refine g_iload_n hX 0 dX7_drawnStep_32 rfl rfl ?_
      refine g_iload_n hX 3 dX7_drawnStep_33 rfl rfl ?_
      refine g_icmp_le hX 40 dX7_drawnStep_34 (by decide) h (fun h => ?_) (fun h => ?_)
      · refine g_iinc (y := (1)) (lv' := fun x4_4 => [(4, .int x4_4), (3, .int x3_3), (0, .ref (a 43)), (1, .int q1_5), (2, .int q2_5)]) hX 4 dX7_drawnStep_40 rfl (by decide) (by decide) (fun _ => rfl) h (fun x4_4 h => ?_)
        refine g_goto hX 5 dX7_drawnStep_43 (by decide) ?_
        exact g_sub [2, 3, 4, 1, 0] rfl (ih5 _ _ _ h)
      · refine g_iload hX 4 dX7_drawnStep_37 rfl ?_
        exact g_reti hR h dX7_drawnStep_39
set_option maxRecDepth 20000 in
set_option maxHeartbeats 4000000 in
theorem sX7_drawnStep {X : CX} {a : Nat → Nat} {D : va_G} {tI tJ tB tS : ClassId} {kK kV : Nat → Nat} {σ : St}  {p1 : Int32} {p2 : Int32} {r : St × Int32} (hX : OKX X (vC a D tI tJ tB tS kK kV) cX7_drawnStep 5 RX7 0 0) (hR : ∀ (pc : Nat) (lv : List (Nat × Value)), decode cX7_drawnStep pc = .ok (.ireturn, 1) → G X (vC a D tI tJ tB tS kK kV) 5 r.1 pc lv [.int r.2])  (h : fX7_drawnStep σ p1 p2 = some r) : G X (vC a D tI tJ tB tS kK kV) 5 σ 0 [(0, .ref (a 43)), (1, .int p1), (2, .int p2)] [] := by
  unfold fX7_drawnStep at h
  refine g_iconst hX (0) dX7_drawnStep_0 (by decide) ?_
  refine g_istore_n (lv' := fun x3_1 => [(3, .int x3_1), (0, .ref (a 43)), (1, .int p1), (2, .int p2)]) hX dX7_drawnStep_1 rfl (by decide) (fun _ => rfl) h (fun x3_1 h => ?_)
  refine g_iconst hX (0) dX7_drawnStep_2 (by decide) ?_
  refine g_istore (lv' := fun x4_2 => [(4, .int x4_2), (3, .int x3_1), (0, .ref (a 43)), (1, .int p1), (2, .int p2)]) hX dX7_drawnStep_3 (by decide) (fun _ => rfl) h (fun x4_2 h => ?_)
  refine g_sub [2, 3, 4, 1, 0] rfl (sX7_drawnStep_L5 hX hR (fun σ_5 x3_6 x4_7 h => ?_) FU _ _ _ h)
  refine g_iconst hX (0) dX7_drawnStep_46 (by decide) ?_
  exact g_reti hR h dX7_drawnStep_47
set_option maxRecDepth 20000 in
set_option maxHeartbeats 4000000 in
theorem kX7_drawnStep (l : Launch) {a : Nat → Nat} {D : va_G} {tI tJ tB tS : ClassId} {kK kV : Nat → Nat} {σ τ : St}  {p1 : Int32} {p2 : Int32} {x : Int32} (h : fX7_drawnStep σ p1 p2 = some (τ, x)) : CtI l yX7_drawnStep cX7_drawnStep 5 (some .int) 0 0 (vC a D tI tJ tB tS kK kV) σ [.ref (a 43), .int p1, .int p2] τ x := g_metI (by decide) (Nat.le_of_ble_eq_true rfl) rfl (fun X _ hX hR => sX7_drawnStep (r := (τ, x)) hX hR h)
def fX0_code_L4  (kx4 : St → Int32 → Int32 → Option (St × Int32)) : Nat → St → Int32 → Int32 → Option (St × Int32)
  | 0, _, _, _ => none
  | n4 + 1, σ, c1_4, c2_4 =>
    (if (σ.1 2 0) ≤ c2_4 then kx4 σ c1_4 c2_4 else chk (inb c2_4 4) (bnd (((c1_4 * (9 : Int32)) + (σ.1 59 (ix c2_4))) + (1 : Int32)) fun (x1_3 : Int32) => bnd (c2_4 + (1 : Int32)) fun (x2_4 : Int32) => fX0_code_L4 kx4 n4 σ x1_3 x2_4))
def fX0_code (σ : St)  : Option (St × Int32) :=
  bnd (0 : Int32) fun (x1_1 : Int32) => bnd (0 : Int32) fun (x2_2 : Int32) => fX0_code_L4  (fun (σ_5 : St) (x1_6 : Int32) (x2_7 : Int32) => some (σ_5, x1_6)) FU σ x1_1 x2_2
set_option maxRecDepth 20000 in
set_option maxHeartbeats 4000000 in
theorem sX0_code_L4 {X : CX} {a : Nat → Nat} {D : va_G} {tI tJ tB tS : ClassId} {kK kV : Nat → Nat}  {kx4 : St → Int32 → Int32 → Option (St × Int32)} {r : St × Int32} (hX : OKX X (vC a D tI tJ tB tS kK kV) cX0_code 3 RX0 0 0) (hR : ∀ (pc : Nat) (lv : List (Nat × Value)), decode cX0_code pc = .ok (.ireturn, 1) → G X (vC a D tI tJ tB tS kK kV) 3 r.1 pc lv [.int r.2]) (hkx4 : ∀ (σ : St) (e1_4 : Int32) (e2_4 : Int32), kx4 σ e1_4 e2_4 = some r → G X (vC a D tI tJ tB tS kK kV) 3 σ 35 [(1, .int e1_4)] []) : ∀ (n : Nat) (σ : St) (c1_4 : Int32) (c2_4 : Int32), fX0_code_L4 kx4 n σ c1_4 c2_4 = some r → G X (vC a D tI tJ tB tS kK kV) 3 σ 4 [(0, .ref (a 58)), (1, .int c1_4), (2, .int c2_4)] [] := by
  intro n
  induction n with
  | zero => intro σ c1_4 c2_4 h; rw [fX0_code_L4] at h; exact absurd h (by simp)
  | succ n4 ih4 =>
    intro σ c1_4 c2_4 h
    rw [fX0_code_L4] at h
    refine g_iload_n hX 2 dX0_code_4 rfl rfl ?_
    refine g_aload_n hX 0 dX0_code_5 rfl rfl ?_
    refine gCX0_9_58 hX dX0_code_6 ?_
    refine gCX0_55_2 hX dX0_code_9 ?_
    refine g_icmp_ge hX 35 dX0_code_12 (by decide) h (fun h => ?_) (fun h => ?_)
    · exact g_sub [1] rfl (hkx4 _ _ _ h)
    · refine g_iload_n hX 1 dX0_code_15 rfl rfl ?_
      refine g_bipush hX (9) dX0_code_16 (by decide) ?_
      refine g_imul hX dX0_code_18 ?_
      refine g_aload_n hX 0 dX0_code_19 rfl rfl ?_
      refine gCX0_23_58 hX dX0_code_20 ?_
      refine g_iload_n hX 2 dX0_code_23 rfl rfl ?_
      refine alC_59 hX dX0_code_24 h (fun h => ?_)
      refine g_iadd hX dX0_code_25 ?_
      refine g_iconst hX (1) dX0_code_26 (by decide) ?_
      refine g_iadd hX dX0_code_27 ?_
      refine g_istore_n (lv' := fun x1_3 => [(1, .int x1_3), (0, .ref (a 58)), (2, .int c2_4)]) hX dX0_code_28 rfl (by decide) (fun _ => rfl) h (fun x1_3 h => ?_)
      refine g_iinc (y := (1)) (lv' := fun x2_4 => [(2, .int x2_4), (1, .int x1_3), (0, .ref (a 58))]) hX 2 dX0_code_29 rfl (by decide) (by decide) (fun _ => rfl) h (fun x2_4 h => ?_)
      refine g_goto hX 4 dX0_code_32 (by decide) ?_
      exact g_sub [2, 1, 0] rfl (ih4 _ _ _ h)
set_option maxRecDepth 20000 in
set_option maxHeartbeats 4000000 in
theorem sX0_code {X : CX} {a : Nat → Nat} {D : va_G} {tI tJ tB tS : ClassId} {kK kV : Nat → Nat} {σ : St}   {r : St × Int32} (hX : OKX X (vC a D tI tJ tB tS kK kV) cX0_code 3 RX0 0 0) (hR : ∀ (pc : Nat) (lv : List (Nat × Value)), decode cX0_code pc = .ok (.ireturn, 1) → G X (vC a D tI tJ tB tS kK kV) 3 r.1 pc lv [.int r.2])  (h : fX0_code σ  = some r) : G X (vC a D tI tJ tB tS kK kV) 3 σ 0 [(0, .ref (a 58))] [] := by
  unfold fX0_code at h
  refine g_iconst hX (0) dX0_code_0 (by decide) ?_
  refine g_istore_n (lv' := fun x1_1 => [(1, .int x1_1), (0, .ref (a 58))]) hX dX0_code_1 rfl (by decide) (fun _ => rfl) h (fun x1_1 h => ?_)
  refine g_iconst hX (0) dX0_code_2 (by decide) ?_
  refine g_istore_n (lv' := fun x2_2 => [(2, .int x2_2), (1, .int x1_1), (0, .ref (a 58))]) hX dX0_code_3 rfl (by decide) (fun _ => rfl) h (fun x2_2 h => ?_)
  refine g_sub [2, 1, 0] rfl (sX0_code_L4 hX hR (fun σ_5 x1_6 x2_7 h => ?_) FU _ _ _ h)
  refine g_iload_n hX 0 dX0_code_35 rfl rfl ?_
  exact g_reti hR h dX0_code_36
set_option maxRecDepth 20000 in
set_option maxHeartbeats 4000000 in
theorem kX0_code (l : Launch) {a : Nat → Nat} {D : va_G} {tI tJ tB tS : ClassId} {kK kV : Nat → Nat} {σ τ : St}   {x : Int32} (h : fX0_code σ  = some (τ, x)) : CtI l yX0_code cX0_code 3 (some .int) 0 0 (vC a D tI tJ tB tS kK kV) σ [.ref (a 58)] τ x := g_metI (by decide) (Nat.le_of_ble_eq_true rfl) rfl (fun X _ hX hR => sX0_code (r := (τ, x)) hX hR h)
def fX0_begin_L2  (kx2 : St → Int32 → Option (St × Unit)) : Nat → St → Int32 → Option (St × Unit)
  | 0, _, _ => none
  | n2 + 1, σ, c1_2 =>
    (if (σ.1 2 0) ≤ c1_2 then kx2 σ c1_2 else chk (inb c1_2 4) ((jp (fun (σ_2 : St)  (t_3 : Int32) => chk (inb c1_2 4) (bnd (sI σ_2 59 (ix c1_2) t_3) fun (σ_4 : St) => bnd (c1_2 + (1 : Int32)) fun (x1_5 : Int32) => fX0_begin_L2 kx2 n2 σ_4 x1_5)) fun j44 => (if (σ.1 23 (ix c1_2)) = (1 : Int32) then cl (fX7_drawnStep σ c1_2 (0 : Int32)) fun (σ_6 : St) (t_7 : Int32) => j44 σ_6 t_7 else j44 σ (-1 : Int32)))))
def fX0_begin (σ : St)  : Option (St × Unit) :=
  bnd (0 : Int32) fun (x1_1 : Int32) => fX0_begin_L2  (fun (σ_8 : St) (x1_9 : Int32) => cl (fX0_code σ_8 ) fun (σ_10 : St) (t_11 : Int32) => chk (inb (0 : Int32) 61) (bnd (sI σ_10 60 (ix (0 : Int32)) t_11) fun (σ_12 : St) => bnd (sI σ_12 58 6 (0 : Int32)) fun (σ_13 : St) => bnd (sI σ_13 58 7 (0 : Int32)) fun (σ_14 : St) => some (σ_14, ()))) FU σ x1_1
set_option maxRecDepth 20000 in
set_option maxHeartbeats 4000000 in
theorem sX0_begin_L2 {X : CX} {a : Nat → Nat} {D : va_G} {tI tJ tB tS : ClassId} {kK kV : Nat → Nat}  {kx2 : St → Int32 → Option (St × Unit)} {r : St × Unit} (hX : OKX X (vC a D tI tJ tB tS kK kV) cX0_begin 2 RX0 1 24) (hR : ∀ (pc : Nat) (lv : List (Nat × Value)), decode cX0_begin pc = .ok (.return_, 1) → G X (vC a D tI tJ tB tS kK kV) 2 r.1 pc lv []) (hkx2 : ∀ (σ : St) (e1_2 : Int32), kx2 σ e1_2 = some r → G X (vC a D tI tJ tB tS kK kV) 2 σ 51 [(0, .ref (a 58))] []) : ∀ (n : Nat) (σ : St) (c1_2 : Int32), fX0_begin_L2 kx2 n σ c1_2 = some r → G X (vC a D tI tJ tB tS kK kV) 2 σ 2 [(0, .ref (a 58)), (1, .int c1_2)] [] := by
  intro n
  induction n with
  | zero => intro σ c1_2 h; rw [fX0_begin_L2] at h; exact absurd h (by simp)
  | succ n2 ih2 =>
    intro σ c1_2 h
    rw [fX0_begin_L2] at h
    refine g_iload_n hX 1 dX0_begin_2 rfl rfl ?_
    refine g_aload_n hX 0 dX0_begin_3 rfl rfl ?_
    refine gCX0_9_58 hX dX0_begin_4 ?_
    refine gCX0_55_2 hX dX0_begin_7 ?_
    refine g_icmp_ge hX 51 dX0_begin_10 (by decide) h (fun h => ?_) (fun h => ?_)
    · exact g_sub [0] rfl (hkx2 _ _ h)
    · refine g_aload_n hX 0 dX0_begin_13 rfl rfl ?_
      refine gCX0_23_58 hX dX0_begin_14 ?_
      refine g_iload_n hX 1 dX0_begin_17 rfl rfl ?_
      refine g_aload_n hX 0 dX0_begin_18 rfl rfl ?_
      refine gCX0_15_58 hX dX0_begin_19 ?_
      refine gCX0_60_22 hX dX0_begin_22 ?_
      refine g_iload_n hX 1 dX0_begin_25 rfl rfl ?_
      refine alC_23 hX dX0_begin_26 h (fun h => ?_)
      refine g_iconst hX (1) dX0_begin_27 (by decide) ?_
      refine jp_inv (P := fun f => ∀ (σ_2 : St)  (t_3 : Int32), f σ_2 t_3 = some r → G X (vC a D tI tJ tB tS kK kV) 2 σ_2 44 [(0, .ref (a 58)), (1, .int c1_2)] [.int t_3, .int c1_2, .ref (a 59)]) h (fun σ_2 t_3 h => ?_) (fun j44 hj44 h => ?_)
      · refine asC_59 hX dX0_begin_44 h (fun σ_4 h => ?_)
        refine g_iinc (y := (1)) (lv' := fun x1_5 => [(1, .int x1_5), (0, .ref (a 58))]) hX 1 dX0_begin_45 rfl (by decide) (by decide) (fun _ => rfl) h (fun x1_5 h => ?_)
        refine g_goto hX 2 dX0_begin_48 (by decide) ?_
        exact g_sub [1, 0] rfl (ih2 _ _ h)
      refine g_icmp_ne hX 43 dX0_begin_28 (by decide) h (fun h => ?_) (fun h => ?_)
      · refine g_iconst hX (-1) dX0_begin_43 (by decide) ?_
        exact g_sub [0, 1] rfl (hj44 _ _ h)
      · refine g_aload_n hX 0 dX0_begin_31 rfl rfl ?_
        refine gCX0_19_58 hX dX0_begin_32 ?_
        refine g_iload_n hX 1 dX0_begin_35 rfl rfl ?_
        refine g_iconst hX (0) dX0_begin_36 (by decide) ?_
        refine g_callNI (As := [.int c1_2, .int (0 : Int32)]) (rest := [.int c1_2, .ref (a 59)]) hX 43 (Nat.le_of_ble_eq_true rfl) rfl rfl miX7_drawnStep mvX7_drawnStep lkX0_65 (by decide) rfl (Nat.le_of_ble_eq_true rfl) rfl dX0_begin_37 (fun τ x ho => kX7_drawnStep _ ho) h (fun σ_6 t_7 h => ?_)
        refine g_goto hX 44 dX0_begin_40 (by decide) ?_
        exact g_sub [0, 1] rfl (hj44 _ _ h)
set_option maxRecDepth 20000 in
set_option maxHeartbeats 4000000 in
theorem sX0_begin {X : CX} {a : Nat → Nat} {D : va_G} {tI tJ tB tS : ClassId} {kK kV : Nat → Nat} {σ : St}   {r : St × Unit} (hX : OKX X (vC a D tI tJ tB tS kK kV) cX0_begin 2 RX0 1 24) (hR : ∀ (pc : Nat) (lv : List (Nat × Value)), decode cX0_begin pc = .ok (.return_, 1) → G X (vC a D tI tJ tB tS kK kV) 2 r.1 pc lv [])  (h : fX0_begin σ  = some r) : G X (vC a D tI tJ tB tS kK kV) 2 σ 0 [(0, .ref (a 58))] [] := by
  unfold fX0_begin at h
  refine g_iconst hX (0) dX0_begin_0 (by decide) ?_
  refine g_istore_n (lv' := fun x1_1 => [(1, .int x1_1), (0, .ref (a 58))]) hX dX0_begin_1 rfl (by decide) (fun _ => rfl) h (fun x1_1 h => ?_)
  refine g_sub [1, 0] rfl (sX0_begin_L2 hX hR (fun σ_8 x1_9 h => ?_) FU _ _ h)
  refine g_aload_n hX 0 dX0_begin_51 rfl rfl ?_
  refine gCX0_27_58 hX dX0_begin_52 ?_
  refine g_iconst hX (0) dX0_begin_55 (by decide) ?_
  refine g_aload_n hX 0 dX0_begin_56 rfl rfl ?_
  refine g_callVI (As := []) (rest := [.int (0 : Int32), .ref (a 60)]) hX 58 (Nat.le_of_ble_eq_true rfl) rfl rfl miX0_code mvX0_code lkX0_47 (by decide) rfl (Nat.le_of_ble_eq_true rfl) rfl dX0_begin_57 (fun τ x ho => kX0_code _ ho) h (fun σ_10 t_11 h => ?_)
  refine asC_60 hX dX0_begin_60 h (fun σ_12 h => ?_)
  refine g_aload_n hX 0 dX0_begin_61 rfl rfl ?_
  refine g_iconst hX (0) dX0_begin_62 (by decide) ?_
  refine pCX0_34_58 hX dX0_begin_63 h (fun σ_13 h => ?_)
  refine g_aload_n hX 0 dX0_begin_66 rfl rfl ?_
  refine g_iconst hX (0) dX0_begin_67 (by decide) ?_
  refine pCX0_37_58 hX dX0_begin_68 h (fun σ_14 h => ?_)
  exact g_retv hR h dX0_begin_71
set_option maxRecDepth 20000 in
set_option maxHeartbeats 4000000 in
theorem kX0_begin (l : Launch) {a : Nat → Nat} {D : va_G} {tI tJ tB tS : ClassId} {kK kV : Nat → Nat} {σ τ : St}   {x : Unit} (h : fX0_begin σ  = some (τ, x)) : CtV l yX0_begin cX0_begin 2 none 1 24 (vC a D tI tJ tB tS kK kV) σ [.ref (a 58)] τ x := g_metV (by decide) (Nat.le_of_ble_eq_true rfl) rfl (fun X _ hX hR => sX0_begin (r := (τ, x)) hX hR h)
def fX0_round_L4  (kx4 : St → Int32 → Int32 → Option (St × Int32)) : Nat → St → Int32 → Int32 → Option (St × Int32)
  | 0, _, _, _ => none
  | n4 + 1, σ, c1_4, c2_4 =>
    (if (σ.1 2 0) ≤ c2_4 then kx4 σ c1_4 c2_4 else cl (fX7_betterStep σ c2_4) fun (σ_3 : St) (t_4 : Int32) => bnd t_4 fun (x3_5 : Int32) => (jp (fun (σ_6 : St) (x1_7 : Int32)  => bnd (c2_4 + (1 : Int32)) fun (x2_8 : Int32) => fX0_round_L4 kx4 n4 σ_6 x1_7 x2_8) fun j47 => (if x3_5 = (-1 : Int32) then j47 σ_3 c1_4 else cl (fX7_makeSure σ_3 c2_4 x3_5) fun (σ_9 : St) (t_10 : Unit) => chk (inb c2_4 4) (bnd (sI σ_9 59 (ix c2_4) x3_5) fun (σ_11 : St) => bnd (1 : Int32) fun (x1_12 : Int32) => j47 σ_11 x1_12))))
def fX0_round (σ : St)  : Option (St × Int32) :=
  bnd (0 : Int32) fun (x1_1 : Int32) => bnd (0 : Int32) fun (x2_2 : Int32) => fX0_round_L4  (fun (σ_13 : St) (x1_14 : Int32) (x2_15 : Int32) => chk (isB x1_14) (some (σ_13, x1_14))) FU σ x1_1 x2_2
set_option maxRecDepth 20000 in
set_option maxHeartbeats 4000000 in
theorem sX0_round_L4 {X : CX} {a : Nat → Nat} {D : va_G} {tI tJ tB tS : ClassId} {kK kV : Nat → Nat}  {kx4 : St → Int32 → Int32 → Option (St × Int32)} {r : St × Int32} (hX : OKX X (vC a D tI tJ tB tS kK kV) cX0_round 4 RX0 4 102) (hR : (r.2 = 0 ∨ r.2 = 1) → ∀ (pc : Nat) (lv : List (Nat × Value)), decode cX0_round pc = .ok (.ireturn, 1) → G X (vC a D tI tJ tB tS kK kV) 4 r.1 pc lv [.int r.2]) (hkx4 : ∀ (σ : St) (e1_4 : Int32) (e2_4 : Int32), kx4 σ e1_4 e2_4 = some r → G X (vC a D tI tJ tB tS kK kV) 4 σ 53 [(1, .int e1_4)] []) : ∀ (n : Nat) (σ : St) (c1_4 : Int32) (c2_4 : Int32), fX0_round_L4 kx4 n σ c1_4 c2_4 = some r → G X (vC a D tI tJ tB tS kK kV) 4 σ 4 [(0, .ref (a 58)), (1, .int c1_4), (2, .int c2_4)] [] := by
  intro n
  induction n with
  | zero => intro σ c1_4 c2_4 h; rw [fX0_round_L4] at h; exact absurd h (by simp)
  | succ n4 ih4 =>
    intro σ c1_4 c2_4 h
    rw [fX0_round_L4] at h
    refine g_iload_n hX 2 dX0_round_4 rfl rfl ?_
    refine g_aload_n hX 0 dX0_round_5 rfl rfl ?_
    refine gCX0_9_58 hX dX0_round_6 ?_
    refine gCX0_55_2 hX dX0_round_9 ?_
    refine g_icmp_ge hX 53 dX0_round_12 (by decide) h (fun h => ?_) (fun h => ?_)
    · exact g_sub [1] rfl (hkx4 _ _ _ h)
    · refine g_aload_n hX 0 dX0_round_15 rfl rfl ?_
      refine gCX0_19_58 hX dX0_round_16 ?_
      refine g_iload_n hX 2 dX0_round_19 rfl rfl ?_
      refine g_callNI (As := [.int c2_4]) (rest := []) hX 43 (Nat.le_of_ble_eq_true rfl) rfl rfl miX7_betterStep mvX7_betterStep lkX0_71 (by decide) rfl (Nat.le_of_ble_eq_true rfl) rfl dX0_round_20 (fun τ x ho => kX7_betterStep _ ho) h (fun σ_3 t_4 h => ?_)
      refine g_istore_n (lv' := fun x3_5 => [(3, .int x3_5), (0, .ref (a 58)), (1, .int c1_4), (2, .int c2_4)]) hX dX0_round_23 rfl (by decide) (fun _ => rfl) h (fun x3_5 h => ?_)
      refine g_iload_n hX 0 dX0_round_24 rfl rfl ?_
      refine g_iconst hX (-1) dX0_round_25 (by decide) ?_
      refine jp_inv (P := fun f => ∀ (σ_6 : St) (x1_7 : Int32) , f σ_6 x1_7 = some r → G X (vC a D tI tJ tB tS kK kV) 4 σ_6 47 [(0, .ref (a 58)), (2, .int c2_4), (1, .int x1_7)] []) h (fun σ_6 x1_7 h => ?_) (fun j47 hj47 h => ?_)
      · refine g_iinc (y := (1)) (lv' := fun x2_8 => [(2, .int x2_8), (0, .ref (a 58)), (1, .int x1_7)]) hX 1 dX0_round_47 rfl (by decide) (by decide) (fun _ => rfl) h (fun x2_8 h => ?_)
        refine g_goto hX 4 dX0_round_50 (by decide) ?_
        exact g_sub [1, 2, 0] rfl (ih4 _ _ _ h)
      refine g_icmp_eq hX 47 dX0_round_26 (by decide) h (fun h => ?_) (fun h => ?_)
      · exact g_sub [1, 3, 2] rfl (hj47 _ _ h)
      · refine g_aload_n hX 1 dX0_round_29 rfl rfl ?_
        refine gCX0_19_58 hX dX0_round_30 ?_
        refine g_iload_n hX 3 dX0_round_33 rfl rfl ?_
        refine g_iload_n hX 0 dX0_round_34 rfl rfl ?_
        refine g_callNV (As := [.int c2_4, .int x3_5]) (rest := []) hX 43 (Nat.le_of_ble_eq_true rfl) rfl rfl miX7_makeSure mvX7_makeSure lkX0_74 (by decide) rfl (Nat.le_of_ble_eq_true rfl) rfl dX0_round_35 (fun τ x ho => kX7_makeSure _ ho) h (fun σ_9 t_10 h => ?_)
        refine g_aload_n hX 1 dX0_round_38 rfl rfl ?_
        refine gCX0_23_58 hX dX0_round_39 ?_
        refine g_iload_n hX 3 dX0_round_42 rfl rfl ?_
        refine g_iload_n hX 0 dX0_round_43 rfl rfl ?_
        refine asC_59 hX dX0_round_44 h (fun σ_11 h => ?_)
        refine g_iconst hX (1) dX0_round_45 (by decide) ?_
        refine g_istore_n (lv' := fun x1_12 => [(1, .int x1_12), (3, .int x3_5), (0, .ref (a 58)), (2, .int c2_4)]) hX dX0_round_46 rfl (by decide) (fun _ => rfl) h (fun x1_12 h => ?_)
        exact g_sub [2, 3, 0] rfl (hj47 _ _ h)
set_option maxRecDepth 20000 in
set_option maxHeartbeats 4000000 in
theorem sX0_round {X : CX} {a : Nat → Nat} {D : va_G} {tI tJ tB tS : ClassId} {kK kV : Nat → Nat} {σ : St}   {r : St × Int32} (hX : OKX X (vC a D tI tJ tB tS kK kV) cX0_round 4 RX0 4 102) (hR : (r.2 = 0 ∨ r.2 = 1) → ∀ (pc : Nat) (lv : List (Nat × Value)), decode cX0_round pc = .ok (.ireturn, 1) → G X (vC a D tI tJ tB tS kK kV) 4 r.1 pc lv [.int r.2])  (h : fX0_round σ  = some r) : G X (vC a D tI tJ tB tS kK kV) 4 σ 0 [(0, .ref (a 58))] [] := by
  unfold fX0_round at h
  refine g_iconst hX (0) dX0_round_0 (by decide) ?_
  refine g_istore_n (lv' := fun x1_1 => [(1, .int x1_1), (0, .ref (a 58))]) hX dX0_round_1 rfl (by decide) (fun _ => rfl) h (fun x1_1 h => ?_)
  refine g_iconst hX (0) dX0_round_2 (by decide) ?_
  refine g_istore_n (lv' := fun x2_2 => [(2, .int x2_2), (1, .int x1_1), (0, .ref (a 58))]) hX dX0_round_3 rfl (by decide) (fun _ => rfl) h (fun x2_2 h => ?_)
  refine g_sub [2, 1, 0] rfl (sX0_round_L4 hX hR (fun σ_13 x1_14 x2_15 h => ?_) FU _ _ _ h)
  refine g_iload_n hX 0 dX0_round_53 rfl rfl ?_
  exact g_retzc hR h dX0_round_54
set_option maxRecDepth 20000 in
set_option maxHeartbeats 4000000 in
theorem kX0_round (l : Launch) {a : Nat → Nat} {D : va_G} {tI tJ tB tS : ClassId} {kK kV : Nat → Nat} {σ τ : St}   {x : Int32} (h : fX0_round σ  = some (τ, x)) : CtI l yX0_round cX0_round 4 (some .boolean) 4 102 (vC a D tI tJ tB tS kK kV) σ [.ref (a 58)] τ x := g_metZ (by decide) (Nat.le_of_ble_eq_true rfl) rfl (fun X _ hX hR => sX0_round (r := (τ, x)) hX hR h)
def fX0_roundsSince_L2 (q1_2 : Int32) (kx2 : St → Int32 → Option (St × Int32)) : Nat → St → Int32 → Option (St × Int32)
  | 0, _, _ => none
  | n2 + 1, σ, c2_2 =>
    (if q1_2 ≤ c2_2 then kx2 σ c2_2 else chk (inb c2_2 61) (chk (inb q1_2 61) ((if (σ.1 60 (ix c2_2)) = (σ.1 60 (ix q1_2)) then some (σ, (q1_2 - c2_2)) else bnd (c2_2 + (1 : Int32)) fun (x2_2 : Int32) => fX0_roundsSince_L2 q1_2 kx2 n2 σ x2_2))))
def fX0_roundsSince (σ : St) (p1 : Int32) : Option (St × Int32) :=
  bnd (0 : Int32) fun (x2_1 : Int32) => fX0_roundsSince_L2 p1 (fun (σ_3 : St) (x2_4 : Int32) => some (σ_3, (0 : Int32))) FU σ x2_1
set_option maxRecDepth 20000 in
set_option maxHeartbeats 4000000 in
theorem sX0_roundsSince_L2 {X : CX} {a : Nat → Nat} {D : va_G} {tI tJ tB tS : ClassId} {kK kV : Nat → Nat} {q1_2 : Int32} {kx2 : St → Int32 → Option (St × Int32)} {r : St × Int32} (hX : OKX X (vC a D tI tJ tB tS kK kV) cX0_roundsSince 3 RX0 0 0) (hR : ∀ (pc : Nat) (lv : List (Nat × Value)), decode cX0_roundsSince pc = .ok (.ireturn, 1) → G X (vC a D tI tJ tB tS kK kV) 3 r.1 pc lv [.int r.2]) (hkx2 : ∀ (σ : St) (e2_2 : Int32), kx2 σ e2_2 = some r → G X (vC a D tI tJ tB tS kK kV) 3 σ 32 [] []) : ∀ (n : Nat) (σ : St) (c2_2 : Int32), fX0_roundsSince_L2 q1_2 kx2 n σ c2_2 = some r → G X (vC a D tI tJ tB tS kK kV) 3 σ 2 [(0, .ref (a 58)), (1, .int q1_2), (2, .int c2_2)] [] := by
  intro n
  induction n with
  | zero => intro σ c2_2 h; rw [fX0_roundsSince_L2] at h; exact absurd h (by simp)
  | succ n2 ih2 =>
    intro σ c2_2 h
    rw [fX0_roundsSince_L2] at h
    refine g_iload_n hX 2 dX0_roundsSince_2 rfl rfl ?_
    refine g_iload_n hX 1 dX0_roundsSince_3 rfl rfl ?_
    refine g_icmp_ge hX 32 dX0_roundsSince_4 (by decide) h (fun h => ?_) (fun h => ?_)
    · exact g_sub [] rfl (hkx2 _ _ h)
    · refine g_aload_n hX 0 dX0_roundsSince_7 rfl rfl ?_
      refine gCX0_27_58 hX dX0_roundsSince_8 ?_
      refine g_iload_n hX 2 dX0_roundsSince_11 rfl rfl ?_
      refine alC_60 hX dX0_roundsSince_12 h (fun h => ?_)
      refine g_aload_n hX 0 dX0_roundsSince_13 rfl rfl ?_
      refine gCX0_27_58 hX dX0_roundsSince_14 ?_
      refine g_iload_n hX 1 dX0_roundsSince_17 rfl rfl ?_
      refine alC_60 hX dX0_roundsSince_18 h (fun h => ?_)
      refine g_icmp_ne hX 26 dX0_roundsSince_19 (by decide) h (fun h => ?_) (fun h => ?_)
      · refine g_iinc (y := (1)) (lv' := fun x2_2 => [(2, .int x2_2), (0, .ref (a 58)), (1, .int q1_2)]) hX 2 dX0_roundsSince_26 rfl (by decide) (by decide) (fun _ => rfl) h (fun x2_2 h => ?_)
        refine g_goto hX 2 dX0_roundsSince_29 (by decide) ?_
        exact g_sub [1, 2, 0] rfl (ih2 _ _ h)
      · refine g_iload_n hX 1 dX0_roundsSince_22 rfl rfl ?_
        refine g_iload_n hX 2 dX0_roundsSince_23 rfl rfl ?_
        refine g_isub hX dX0_roundsSince_24 ?_
        exact g_reti hR h dX0_roundsSince_25
set_option maxRecDepth 20000 in
set_option maxHeartbeats 4000000 in
theorem sX0_roundsSince {X : CX} {a : Nat → Nat} {D : va_G} {tI tJ tB tS : ClassId} {kK kV : Nat → Nat} {σ : St}  {p1 : Int32} {r : St × Int32} (hX : OKX X (vC a D tI tJ tB tS kK kV) cX0_roundsSince 3 RX0 0 0) (hR : ∀ (pc : Nat) (lv : List (Nat × Value)), decode cX0_roundsSince pc = .ok (.ireturn, 1) → G X (vC a D tI tJ tB tS kK kV) 3 r.1 pc lv [.int r.2])  (h : fX0_roundsSince σ p1 = some r) : G X (vC a D tI tJ tB tS kK kV) 3 σ 0 [(0, .ref (a 58)), (1, .int p1)] [] := by
  unfold fX0_roundsSince at h
  refine g_iconst hX (0) dX0_roundsSince_0 (by decide) ?_
  refine g_istore_n (lv' := fun x2_1 => [(2, .int x2_1), (0, .ref (a 58)), (1, .int p1)]) hX dX0_roundsSince_1 rfl (by decide) (fun _ => rfl) h (fun x2_1 h => ?_)
  refine g_sub [1, 2, 0] rfl (sX0_roundsSince_L2 hX hR (fun σ_3 x2_4 h => ?_) FU _ _ h)
  refine g_iconst hX (0) dX0_roundsSince_32 (by decide) ?_
  exact g_reti hR h dX0_roundsSince_33
set_option maxRecDepth 20000 in
set_option maxHeartbeats 4000000 in
theorem kX0_roundsSince (l : Launch) {a : Nat → Nat} {D : va_G} {tI tJ tB tS : ClassId} {kK kV : Nat → Nat} {σ τ : St}  {p1 : Int32} {x : Int32} (h : fX0_roundsSince σ p1 = some (τ, x)) : CtI l yX0_roundsSince cX0_roundsSince 3 (some .int) 0 0 (vC a D tI tJ tB tS kK kV) σ [.ref (a 58), .int p1] τ x := g_metI (by decide) (Nat.le_of_ble_eq_true rfl) rfl (fun X _ hX hR => sX0_roundsSince (r := (τ, x)) hX hR h)
def fX0_go_L6 (q1_6 : Int32) (kx6 : St → Int32 → Option (St × Unit)) : Nat → St → Int32 → Option (St × Unit)
  | 0, _, _ => none
  | n6 + 1, σ, c2_6 =>
    (if q1_6 < c2_6 then kx6 σ c2_6 else (if (61 : Int32) ≤ c2_6 then kx6 σ c2_6 else bnd (sI σ 58 6 c2_6) fun (σ_4 : St) => cl (fX0_round σ_4 ) fun (σ_5 : St) (t_6 : Int32) => (if t_6 = 0 then bnd (sI σ_5 58 5 (0 : Int32)) fun (σ_15 : St) => some (σ_15, ()) else cl (fX0_code σ_5 ) fun (σ_7 : St) (t_8 : Int32) => chk (inb c2_6 61) (bnd (sI σ_7 60 (ix c2_6) t_8) fun (σ_9 : St) => cl (fX0_roundsSince σ_9 c2_6) fun (σ_10 : St) (t_11 : Int32) => bnd (sI σ_10 58 7 t_11) fun (σ_12 : St) => (if (σ_12.1 58 7) ≤ 0 then bnd (c2_6 + (1 : Int32)) fun (x2_13 : Int32) => fX0_go_L6 q1_6 kx6 n6 σ_12 x2_13 else bnd (sI σ_12 58 5 (1 : Int32)) fun (σ_14 : St) => some (σ_14, ()))))))
def fX0_go (σ : St) (p1 : Int32) : Option (St × Unit) :=
  cl (fX0_begin σ ) fun (σ_1 : St) (t_2 : Unit) => bnd (1 : Int32) fun (x2_3 : Int32) => fX0_go_L6 p1 (fun (σ_16 : St) (x2_17 : Int32) => bnd (sI σ_16 58 5 (2 : Int32)) fun (σ_18 : St) => some (σ_18, ())) FU σ_1 x2_3
set_option maxRecDepth 20000 in
set_option maxHeartbeats 4000000 in
theorem sX0_go_L6 {X : CX} {a : Nat → Nat} {D : va_G} {tI tJ tB tS : ClassId} {kK kV : Nat → Nat} {q1_6 : Int32} {kx6 : St → Int32 → Option (St × Unit)} {r : St × Unit} (hX : OKX X (vC a D tI tJ tB tS kK kV) cX0_go 3 RX0 5 125) (hR : ∀ (pc : Nat) (lv : List (Nat × Value)), decode cX0_go pc = .ok (.return_, 1) → G X (vC a D tI tJ tB tS kK kV) 3 r.1 pc lv []) (hkx6 : ∀ (σ : St) (e2_6 : Int32), kx6 σ e2_6 = some r → G X (vC a D tI tJ tB tS kK kV) 3 σ 76 [(0, .ref (a 58))] []) : ∀ (n : Nat) (σ : St) (c2_6 : Int32), fX0_go_L6 q1_6 kx6 n σ c2_6 = some r → G X (vC a D tI tJ tB tS kK kV) 3 σ 6 [(0, .ref (a 58)), (1, .int q1_6), (2, .int c2_6)] [] := by
  intro n
  induction n with
  | zero => intro σ c2_6 h; rw [fX0_go_L6] at h; exact absurd h (by simp)
  | succ n6 ih6 =>
    intro σ c2_6 h
    rw [fX0_go_L6] at h
    refine g_iload_n hX 2 dX0_go_6 rfl rfl ?_
    refine g_iload_n hX 1 dX0_go_7 rfl rfl ?_
    refine g_icmp_gt hX 76 dX0_go_8 (by decide) h (fun h => ?_) (fun h => ?_)
    · exact g_sub [0] rfl (hkx6 _ _ h)
    · refine g_iload_n hX 2 dX0_go_11 rfl rfl ?_
      refine g_aload_n hX 0 dX0_go_12 rfl rfl ?_
      refine gCX0_27_58 hX dX0_go_13 ?_
      refine lenC_60 hX dX0_go_16 ?_
      refine g_icmp_ge hX 76 dX0_go_17 (by decide) h (fun h => ?_) (fun h => ?_)
      · exact g_sub [0] rfl (hkx6 _ _ h)
      · refine g_aload_n hX 0 dX0_go_20 rfl rfl ?_
        refine g_iload_n hX 2 dX0_go_21 rfl rfl ?_
        refine pCX0_34_58 hX dX0_go_22 h (fun σ_4 h => ?_)
        refine g_aload_n hX 0 dX0_go_25 rfl rfl ?_
        refine g_callVI (As := []) (rest := []) hX 58 (Nat.le_of_ble_eq_true rfl) rfl rfl miX0_round mvX0_round lkX0_43 (by decide) rfl (Nat.le_of_ble_eq_true rfl) rfl dX0_go_26 (fun τ x ho => kX0_round _ ho) h (fun σ_5 t_6 h => ?_)
        refine g_if_ne hX 38 dX0_go_29 (by decide) h (fun h => ?_) (fun h => ?_)
        · refine g_aload_n hX 0 dX0_go_38 rfl rfl ?_
          refine gCX0_27_58 hX dX0_go_39 ?_
          refine g_iload_n hX 2 dX0_go_42 rfl rfl ?_
          refine g_aload_n hX 0 dX0_go_43 rfl rfl ?_
          refine g_callVI (As := []) (rest := [.int c2_6, .ref (a 60)]) hX 58 (Nat.le_of_ble_eq_true rfl) rfl rfl miX0_code mvX0_code lkX0_47 (by decide) rfl (Nat.le_of_ble_eq_true rfl) rfl dX0_go_44 (fun τ x ho => kX0_code _ ho) h (fun σ_7 t_8 h => ?_)
          refine asC_60 hX dX0_go_47 h (fun σ_9 h => ?_)
          refine g_aload_n hX 0 dX0_go_48 rfl rfl ?_
          refine g_aload_n hX 0 dX0_go_49 rfl rfl ?_
          refine g_iload_n hX 2 dX0_go_50 rfl rfl ?_
          refine g_callVI (As := [.int c2_6]) (rest := [.ref (a 58)]) hX 58 (Nat.le_of_ble_eq_true rfl) rfl rfl miX0_roundsSince mvX0_roundsSince lkX0_51 (by decide) rfl (Nat.le_of_ble_eq_true rfl) rfl dX0_go_51 (fun τ x ho => kX0_roundsSince _ ho) h (fun σ_10 t_11 h => ?_)
          refine pCX0_37_58 hX dX0_go_54 h (fun σ_12 h => ?_)
          refine g_aload_n hX 0 dX0_go_57 rfl rfl ?_
          refine gCX0_37_58 hX dX0_go_58 ?_
          refine g_if_le hX 70 dX0_go_61 (by decide) h (fun h => ?_) (fun h => ?_)
          · refine g_iinc (y := (1)) (lv' := fun x2_13 => [(2, .int x2_13), (0, .ref (a 58)), (1, .int q1_6)]) hX 2 dX0_go_70 rfl (by decide) (by decide) (fun _ => rfl) h (fun x2_13 h => ?_)
            refine g_goto hX 6 dX0_go_73 (by decide) ?_
            exact g_sub [1, 2, 0] rfl (ih6 _ _ h)
          · refine g_aload_n hX 0 dX0_go_64 rfl rfl ?_
            refine g_iconst hX (1) dX0_go_65 (by decide) ?_
            refine pCX0_30_58 hX dX0_go_66 h (fun σ_14 h => ?_)
            exact g_retv hR h dX0_go_69
        · refine g_aload_n hX 0 dX0_go_32 rfl rfl ?_
          refine g_iconst hX (0) dX0_go_33 (by decide) ?_
          refine pCX0_30_58 hX dX0_go_34 h (fun σ_15 h => ?_)
          exact g_retv hR h dX0_go_37
set_option maxRecDepth 20000 in
set_option maxHeartbeats 4000000 in
theorem sX0_go {X : CX} {a : Nat → Nat} {D : va_G} {tI tJ tB tS : ClassId} {kK kV : Nat → Nat} {σ : St}  {p1 : Int32} {r : St × Unit} (hX : OKX X (vC a D tI tJ tB tS kK kV) cX0_go 3 RX0 5 125) (hR : ∀ (pc : Nat) (lv : List (Nat × Value)), decode cX0_go pc = .ok (.return_, 1) → G X (vC a D tI tJ tB tS kK kV) 3 r.1 pc lv [])  (h : fX0_go σ p1 = some r) : G X (vC a D tI tJ tB tS kK kV) 3 σ 0 [(0, .ref (a 58)), (1, .int p1)] [] := by
  unfold fX0_go at h
  refine g_aload_n hX 0 dX0_go_0 rfl rfl ?_
  refine g_callVV (As := []) (rest := []) hX 58 (Nat.le_of_ble_eq_true rfl) rfl rfl miX0_begin mvX0_begin lkX0_40 (by decide) rfl (Nat.le_of_ble_eq_true rfl) rfl dX0_go_1 (fun τ x ho => kX0_begin _ ho) h (fun σ_1 t_2 h => ?_)
  refine g_iconst hX (1) dX0_go_4 (by decide) ?_
  refine g_istore_n (lv' := fun x2_3 => [(2, .int x2_3), (0, .ref (a 58)), (1, .int p1)]) hX dX0_go_5 rfl (by decide) (fun _ => rfl) h (fun x2_3 h => ?_)
  refine g_sub [1, 2, 0] rfl (sX0_go_L6 hX hR (fun σ_16 x2_17 h => ?_) FU _ _ h)
  refine g_aload_n hX 0 dX0_go_76 rfl rfl ?_
  refine g_iconst hX (2) dX0_go_77 (by decide) ?_
  refine pCX0_30_58 hX dX0_go_78 h (fun σ_18 h => ?_)
  exact g_retv hR h dX0_go_81
set_option maxRecDepth 20000 in
set_option maxHeartbeats 4000000 in
theorem kX0_go (l : Launch) {a : Nat → Nat} {D : va_G} {tI tJ tB tS : ClassId} {kK kV : Nat → Nat} {σ τ : St}  {p1 : Int32} {x : Unit} (h : fX0_go σ p1 = some (τ, x)) : CtV l yX0_go cX0_go 3 none 5 125 (vC a D tI tJ tB tS kK kV) σ [.ref (a 58), .int p1] τ x := g_metV (by decide) (Nat.le_of_ble_eq_true rfl) rfl (fun X _ hX hR => sX0_go (r := (τ, x)) hX hR h)
def fX8_chase (σ : St) (p1 : Int32) (p2 : Int32) : Option (St × Int32) :=
  cl (fX6_hasBaker σ (p2 - (10 : Int32))) fun (σ_1 : St) (t_2 : Int32) => bnd t_2 fun (x3_3 : Int32) => (if p1 < (1 : Int32) then some (σ_1, (-1 : Int32)) else (if (60 : Int32) < p1 then some (σ_1, (-1 : Int32)) else (jp (fun (σ_4 : St)   => cl (fX7_settle σ_4 ) fun (σ_5 : St) (t_6 : Int32) => (if t_6 = 0 then some (σ_5, (-1 : Int32)) else (if (σ_5.1 43 16) = (-1 : Int32) then cl (fX0_go σ_5 p1) fun (σ_7 : St) (t_8 : Unit) => (if x3_3 = 0 then (if p2 = 0 then some (σ_7, (σ_7.1 58 5)) else (if p2 = 1 then some (σ_7, (σ_7.1 58 6)) else some (σ_7, (σ_7.1 58 7)))) else chk (inb (p2 - (10 : Int32)) 4) (some (σ_7, (σ_7.1 59 (ix (p2 - (10 : Int32))))))) else some (σ_5, (-1 : Int32))))) fun j38 => (if x3_3 = 0 then (if p2 < 0 then some (σ_1, (-1 : Int32)) else (if p2 ≤ (2 : Int32) then j38 σ_1 else some (σ_1, (-1 : Int32)))) else j38 σ_1))))
set_option maxRecDepth 20000 in
set_option maxHeartbeats 4000000 in
theorem sX8_chase {X : CX} {a : Nat → Nat} {D : va_G} {tI tJ tB tS : ClassId} {kK kV : Nat → Nat} {σ : St}  {p1 : Int32} {p2 : Int32} {r : St × Int32} (hX : OKX X (vC a D tI tJ tB tS kK kV) cX8_chase 4 RX8 6 147) (hR : ∀ (pc : Nat) (lv : List (Nat × Value)), decode cX8_chase pc = .ok (.ireturn, 1) → G X (vC a D tI tJ tB tS kK kV) 4 r.1 pc lv [.int r.2])  (h : fX8_chase σ p1 p2 = some r) : G X (vC a D tI tJ tB tS kK kV) 4 σ 0 [(0, .ref (a 0)), (1, .int p1), (2, .int p2)] [] := by
  unfold fX8_chase at h
  refine g_aload_n hX 0 dX8_chase_0 rfl rfl ?_
  refine gCX8_27_0 hX dX8_chase_1 ?_
  refine g_iload_n hX 2 dX8_chase_4 rfl rfl ?_
  refine g_bipush hX (10) dX8_chase_5 (by decide) ?_
  refine g_isub hX dX8_chase_7 ?_
  refine g_callNI (As := [.int (p2 - (10 : Int32))]) (rest := []) hX 2 (Nat.le_of_ble_eq_true rfl) rfl rfl miX6_hasBaker mvX6_hasBaker lkX8_125 (by decide) rfl (Nat.le_of_ble_eq_true rfl) rfl dX8_chase_8 (fun τ x ho => kX6_hasBaker _ ho) h (fun σ_1 t_2 h => ?_)
  refine g_istore_n (lv' := fun x3_3 => [(3, .int x3_3), (0, .ref (a 0)), (1, .int p1), (2, .int p2)]) hX dX8_chase_11 rfl (by decide) (fun _ => rfl) h (fun x3_3 h => ?_)
  refine g_iload_n hX 2 dX8_chase_12 rfl rfl ?_
  refine g_iconst hX (1) dX8_chase_13 (by decide) ?_
  refine g_icmp_lt hX 36 dX8_chase_14 (by decide) h (fun h => ?_) (fun h => ?_)
  · refine g_iconst hX (-1) dX8_chase_36 (by decide) ?_
    exact g_reti hR h dX8_chase_37
  · refine g_iload_n hX 2 dX8_chase_17 rfl rfl ?_
    refine g_bipush hX (60) dX8_chase_18 (by decide) ?_
    refine g_icmp_gt hX 36 dX8_chase_20 (by decide) h (fun h => ?_) (fun h => ?_)
    · refine g_iconst hX (-1) dX8_chase_36 (by decide) ?_
      exact g_reti hR h dX8_chase_37
    · refine g_iload_n hX 0 dX8_chase_23 rfl rfl ?_
      refine jp_inv (P := fun f => ∀ (σ_4 : St)  , f σ_4 = some r → G X (vC a D tI tJ tB tS kK kV) 4 σ_4 38 [(3, .int x3_3), (0, .ref (a 0)), (1, .int p1), (2, .int p2)] []) h (fun σ_4 h => ?_) (fun j38 hj38 h => ?_)
      · refine g_aload_n hX 1 dX8_chase_38 rfl rfl ?_
        refine gCX8_55_0 hX dX8_chase_39 ?_
        refine g_callNI (As := []) (rest := []) hX 43 (Nat.le_of_ble_eq_true rfl) rfl rfl miX7_settle mvX7_settle lkX8_173 (by decide) rfl (Nat.le_of_ble_eq_true rfl) rfl dX8_chase_42 (fun τ x ho => kX7_settle _ ho) h (fun σ_5 t_6 h => ?_)
        refine g_if_eq hX 59 dX8_chase_45 (by decide) h (fun h => ?_) (fun h => ?_)
        · refine g_iconst hX (-1) dX8_chase_59 (by decide) ?_
          exact g_reti hR h dX8_chase_60
        · refine g_aload_n hX 1 dX8_chase_48 rfl rfl ?_
          refine gCX8_55_0 hX dX8_chase_49 ?_
          refine gCX8_276_43 hX dX8_chase_52 ?_
          refine g_iconst hX (-1) dX8_chase_55 (by decide) ?_
          refine g_icmp_eq hX 61 dX8_chase_56 (by decide) h (fun h => ?_) (fun h => ?_)
          · refine g_aload_n hX 1 dX8_chase_61 rfl rfl ?_
            refine gCX8_73_0 hX dX8_chase_62 ?_
            refine g_iload_n hX 2 dX8_chase_65 rfl rfl ?_
            refine g_callNV (As := [.int p1]) (rest := []) hX 58 (Nat.le_of_ble_eq_true rfl) rfl rfl miX0_go mvX0_go lkX8_279 (by decide) rfl (Nat.le_of_ble_eq_true rfl) rfl dX8_chase_66 (fun τ x ho => kX0_go _ ho) h (fun σ_7 t_8 h => ?_)
            refine g_iload_n hX 0 dX8_chase_69 rfl rfl ?_
            refine g_if_eq hX 86 dX8_chase_70 (by decide) h (fun h => ?_) (fun h => ?_)
            · refine g_iload_n hX 3 dX8_chase_86 rfl rfl ?_
              refine ite_go h (fun hq h => ?_) (fun hs87_0 h => ?_)
              · refine g_lookIn (off := 25) (0) hX 112 hq dX8_chase_87 (by decide) (by decide) (by decide) ?_
                refine g_aload_n hX 1 dX8_chase_112 rfl rfl ?_
                refine gCX8_73_0 hX dX8_chase_113 ?_
                refine gCX8_284_58 hX dX8_chase_116 ?_
                exact g_reti hR h dX8_chase_119
              refine ite_go h (fun hq h => ?_) (fun hs87_1 h => ?_)
              · refine g_lookIn (off := 33) (1) hX 120 hq dX8_chase_87 (by decide) (by decide) (by decide) ?_
                refine g_aload_n hX 1 dX8_chase_120 rfl rfl ?_
                refine gCX8_73_0 hX dX8_chase_121 ?_
                refine gCX8_287_58 hX dX8_chase_124 ?_
                exact g_reti hR h dX8_chase_127
              refine g_look (off := 41) hX 128 dX8_chase_87 (by decide) (by have k0 := sw_ne hs87_0 (n := 0) (by decide); have k1 := sw_ne hs87_1 (n := 1) (by decide); simp only [Op.lookupswitch.offset_cons, Op.lookupswitch.offset_nil]; rw [if_neg (Ne.symm k0), if_neg (Ne.symm k1)]) (by decide) ?_
              refine g_aload_n hX 1 dX8_chase_128 rfl rfl ?_
              refine gCX8_73_0 hX dX8_chase_129 ?_
              refine gCX8_290_58 hX dX8_chase_132 ?_
              exact g_reti hR h dX8_chase_135
            · refine g_aload_n hX 1 dX8_chase_73 rfl rfl ?_
              refine gCX8_73_0 hX dX8_chase_74 ?_
              refine gCX8_282_58 hX dX8_chase_77 ?_
              refine g_iload_n hX 3 dX8_chase_80 rfl rfl ?_
              refine g_bipush hX (10) dX8_chase_81 (by decide) ?_
              refine g_isub hX dX8_chase_83 ?_
              refine alC_59 hX dX8_chase_84 h (fun h => ?_)
              exact g_reti hR h dX8_chase_85
          · refine g_iconst hX (-1) dX8_chase_59 (by decide) ?_
            exact g_reti hR h dX8_chase_60
      refine g_if_ne hX 38 dX8_chase_24 (by decide) h (fun h => ?_) (fun h => ?_)
      · exact g_sub [0, 1, 2, 3] rfl (hj38 _ h)
      · refine g_iload_n hX 3 dX8_chase_27 rfl rfl ?_
        refine g_if_lt hX 36 dX8_chase_28 (by decide) h (fun h => ?_) (fun h => ?_)
        · refine g_iconst hX (-1) dX8_chase_36 (by decide) ?_
          exact g_reti hR h dX8_chase_37
        · refine g_iload_n hX 3 dX8_chase_31 rfl rfl ?_
          refine g_iconst hX (2) dX8_chase_32 (by decide) ?_
          refine g_icmp_le hX 38 dX8_chase_33 (by decide) h (fun h => ?_) (fun h => ?_)
          · exact g_sub [0, 1, 2, 3] rfl (hj38 _ h)
          · refine g_iconst hX (-1) dX8_chase_36 (by decide) ?_
            exact g_reti hR h dX8_chase_37
set_option maxRecDepth 20000 in
set_option maxHeartbeats 4000000 in
theorem kX8_chase (l : Launch) {a : Nat → Nat} {D : va_G} {tI tJ tB tS : ClassId} {kK kV : Nat → Nat} {σ τ : St}  {p1 : Int32} {p2 : Int32} {x : Int32} (h : fX8_chase σ p1 p2 = some (τ, x)) : CtI l yX8_chase cX8_chase 4 (some .int) 6 147 (vC a D tI tJ tB tS kK kV) σ [.ref (a 0), .int p1, .int p2] τ x := g_metI (by decide) (Nat.le_of_ble_eq_true rfl) rfl (fun X _ hX hR => sX8_chase (r := (τ, x)) hX hR h)
def fX2_add (σ : St) (p1 : Int32) (p2 : Int32) : Option (St × Int32) :=
  (if (σ.1 19 0) < (6 : Int32) then chk (inb (σ.1 19 0) 6) (bnd (sI σ 20 (ix (σ.1 19 0)) p1) fun (σ_1 : St) => chk (inb (σ_1.1 19 0) 6) (bnd (sI σ_1 21 (ix (σ_1.1 19 0)) p2) fun (σ_2 : St) => bnd (sI σ_2 19 0 ((σ_2.1 19 0) + (1 : Int32))) fun (σ_3 : St) => some (σ_3, ((σ_3.1 19 0) - (1 : Int32))))) else some (σ, (-1 : Int32)))
set_option maxRecDepth 20000 in
set_option maxHeartbeats 4000000 in
theorem sX2_add {X : CX} {a : Nat → Nat} {D : va_G} {tI tJ tB tS : ClassId} {kK kV : Nat → Nat} {σ : St}  {p1 : Int32} {p2 : Int32} {r : St × Int32} (hX : OKX X (vC a D tI tJ tB tS kK kV) cX2_add 3 RX2 0 0) (hR : ∀ (pc : Nat) (lv : List (Nat × Value)), decode cX2_add pc = .ok (.ireturn, 1) → G X (vC a D tI tJ tB tS kK kV) 3 r.1 pc lv [.int r.2])  (h : fX2_add σ p1 p2 = some r) : G X (vC a D tI tJ tB tS kK kV) 3 σ 0 [(0, .ref (a 19)), (1, .int p1), (2, .int p2)] [] := by
  unfold fX2_add at h
  refine g_aload_n hX 0 dX2_add_0 rfl rfl ?_
  refine gCX2_9_19 hX dX2_add_1 ?_
  refine g_bipush hX (6) dX2_add_4 (by decide) ?_
  refine g_icmp_lt hX 11 dX2_add_6 (by decide) h (fun h => ?_) (fun h => ?_)
  · refine g_aload_n hX 0 dX2_add_11 rfl rfl ?_
    refine gCX2_15_19 hX dX2_add_12 ?_
    refine g_aload_n hX 0 dX2_add_15 rfl rfl ?_
    refine gCX2_9_19 hX dX2_add_16 ?_
    refine g_iload_n hX 1 dX2_add_19 rfl rfl ?_
    refine asC_20 hX dX2_add_20 h (fun σ_1 h => ?_)
    refine g_aload_n hX 0 dX2_add_21 rfl rfl ?_
    refine gCX2_19_19 hX dX2_add_22 ?_
    refine g_aload_n hX 0 dX2_add_25 rfl rfl ?_
    refine gCX2_9_19 hX dX2_add_26 ?_
    refine g_iload_n hX 2 dX2_add_29 rfl rfl ?_
    refine asC_21 hX dX2_add_30 h (fun σ_2 h => ?_)
    refine g_aload_n hX 0 dX2_add_31 rfl rfl ?_
    refine g_dup hX dX2_add_32 rfl ?_
    refine gCX2_9_19 hX dX2_add_33 ?_
    refine g_iconst hX (1) dX2_add_36 (by decide) ?_
    refine g_iadd hX dX2_add_37 ?_
    refine pCX2_9_19 hX dX2_add_38 h (fun σ_3 h => ?_)
    refine g_aload_n hX 0 dX2_add_41 rfl rfl ?_
    refine gCX2_9_19 hX dX2_add_42 ?_
    refine g_iconst hX (1) dX2_add_45 (by decide) ?_
    refine g_isub hX dX2_add_46 ?_
    exact g_reti hR h dX2_add_47
  · refine g_iconst hX (-1) dX2_add_9 (by decide) ?_
    exact g_reti hR h dX2_add_10
set_option maxRecDepth 20000 in
set_option maxHeartbeats 4000000 in
theorem kX2_add (l : Launch) {a : Nat → Nat} {D : va_G} {tI tJ tB tS : ClassId} {kK kV : Nat → Nat} {σ τ : St}  {p1 : Int32} {p2 : Int32} {x : Int32} (h : fX2_add σ p1 p2 = some (τ, x)) : CtI l yX2_add cX2_add 3 (some .int) 0 0 (vC a D tI tJ tB tS kK kV) σ [.ref (a 19), .int p1, .int p2] τ x := g_metI (by decide) (Nat.le_of_ble_eq_true rfl) rfl (fun X _ hX hR => sX2_add (r := (τ, x)) hX hR h)
def fX8_law (σ : St) (p1 : Int32) (p2 : Int32) : Option (St × Int32) :=
  (if p1 < 0 then some (σ, (-1 : Int32)) else (if (2 : Int32) < p1 then some (σ, (-1 : Int32)) else cl (fX8_isAnyStep σ p2) fun (σ_1 : St) (t_2 : Int32) => (if t_2 = 0 then some (σ_1, (-1 : Int32)) else cl (fX2_add σ_1 p1 p2) fun (σ_3 : St) (t_4 : Int32) => some (σ_3, t_4))))
set_option maxRecDepth 20000 in
set_option maxHeartbeats 4000000 in
theorem sX8_law {X : CX} {a : Nat → Nat} {D : va_G} {tI tJ tB tS : ClassId} {kK kV : Nat → Nat} {σ : St}  {p1 : Int32} {p2 : Int32} {r : St × Int32} (hX : OKX X (vC a D tI tJ tB tS kK kV) cX8_law 3 RX8 1 22) (hR : ∀ (pc : Nat) (lv : List (Nat × Value)), decode cX8_law pc = .ok (.ireturn, 1) → G X (vC a D tI tJ tB tS kK kV) 3 r.1 pc lv [.int r.2])  (h : fX8_law σ p1 p2 = some r) : G X (vC a D tI tJ tB tS kK kV) 3 σ 0 [(0, .ref (a 0)), (1, .int p1), (2, .int p2)] [] := by
  unfold fX8_law at h
  refine g_iload_n hX 1 dX8_law_0 rfl rfl ?_
  refine g_if_lt hX 16 dX8_law_1 (by decide) h (fun h => ?_) (fun h => ?_)
  · refine g_iconst hX (-1) dX8_law_16 (by decide) ?_
    exact g_reti hR h dX8_law_17
  · refine g_iload_n hX 1 dX8_law_4 rfl rfl ?_
    refine g_iconst hX (2) dX8_law_5 (by decide) ?_
    refine g_icmp_gt hX 16 dX8_law_6 (by decide) h (fun h => ?_) (fun h => ?_)
    · refine g_iconst hX (-1) dX8_law_16 (by decide) ?_
      exact g_reti hR h dX8_law_17
    · refine g_iload_n hX 2 dX8_law_9 rfl rfl ?_
      refine g_callSI (As := [.int p2]) (rest := []) hX miX8_isAnyStep mvX8_isAnyStep lkX8_167 (by decide) rfl (Nat.le_of_ble_eq_true rfl) rfl dX8_law_10 (fun τ x ho => kX8_isAnyStep _ ho) h (fun σ_1 t_2 h => ?_)
      refine g_if_ne hX 18 dX8_law_13 (by decide) h (fun h => ?_) (fun h => ?_)
      · refine g_aload_n hX 0 dX8_law_18 rfl rfl ?_
        refine gCX8_43_0 hX dX8_law_19 ?_
        refine g_iload_n hX 1 dX8_law_22 rfl rfl ?_
        refine g_iload_n hX 2 dX8_law_23 rfl rfl ?_
        refine g_callNI (As := [.int p1, .int p2]) (rest := []) hX 19 (Nat.le_of_ble_eq_true rfl) rfl rfl miX2_add mvX2_add lkX8_293 (by decide) rfl (Nat.le_of_ble_eq_true rfl) rfl dX8_law_24 (fun τ x ho => kX2_add _ ho) h (fun σ_3 t_4 h => ?_)
        exact g_reti hR h dX8_law_27
      · refine g_iconst hX (-1) dX8_law_16 (by decide) ?_
        exact g_reti hR h dX8_law_17
set_option maxRecDepth 20000 in
set_option maxHeartbeats 4000000 in
theorem kX8_law (l : Launch) {a : Nat → Nat} {D : va_G} {tI tJ tB tS : ClassId} {kK kV : Nat → Nat} {σ τ : St}  {p1 : Int32} {p2 : Int32} {x : Int32} (h : fX8_law σ p1 p2 = some (τ, x)) : CtI l yX8_law cX8_law 3 (some .int) 1 22 (vC a D tI tJ tB tS kK kV) σ [.ref (a 0), .int p1, .int p2] τ x := g_metI (by decide) (Nat.le_of_ble_eq_true rfl) rfl (fun X _ hX hR => sX8_law (r := (τ, x)) hX hR h)
def fX8_force (σ : St) (p1 : Int32) : Option (St × Int32) :=
  (jp (fun (σ_1 : St)   => bnd (sI σ_1 22 4 p1) fun (σ_2 : St) => cl (fX4_forget σ_2 ) fun (σ_3 : St) (t_4 : Unit) => some (σ_3, (1 : Int32))) fun j18 => (if p1 = (-1 : Int32) then j18 σ else cl (fX2_has σ p1) fun (σ_5 : St) (t_6 : Int32) => (if t_6 = 0 then some (σ_5, (0 : Int32)) else j18 σ_5)))
set_option maxRecDepth 20000 in
set_option maxHeartbeats 4000000 in
theorem sX8_force {X : CX} {a : Nat → Nat} {D : va_G} {tI tJ tB tS : ClassId} {kK kV : Nat → Nat} {σ : St}  {p1 : Int32} {r : St × Int32} (hX : OKX X (vC a D tI tJ tB tS kK kV) cX8_force 2 RX8 1 21) (hR : (r.2 = 0 ∨ r.2 = 1) → ∀ (pc : Nat) (lv : List (Nat × Value)), decode cX8_force pc = .ok (.ireturn, 1) → G X (vC a D tI tJ tB tS kK kV) 2 r.1 pc lv [.int r.2])  (h : fX8_force σ p1 = some r) : G X (vC a D tI tJ tB tS kK kV) 2 σ 0 [(0, .ref (a 0)), (1, .int p1)] [] := by
  unfold fX8_force at h
  refine g_iload_n hX 1 dX8_force_0 rfl rfl ?_
  refine g_iconst hX (-1) dX8_force_1 (by decide) ?_
  refine jp_inv (P := fun f => ∀ (σ_1 : St)  , f σ_1 = some r → G X (vC a D tI tJ tB tS kK kV) 2 σ_1 18 [(0, .ref (a 0)), (1, .int p1)] []) h (fun σ_1 h => ?_) (fun j18 hj18 h => ?_)
  · refine g_aload_n hX 0 dX8_force_18 rfl rfl ?_
    refine gCX8_47_0 hX dX8_force_19 ?_
    refine g_iload_n hX 1 dX8_force_22 rfl rfl ?_
    refine pCX8_299_22 hX dX8_force_23 h (fun σ_2 h => ?_)
    refine g_aload_n hX 0 dX8_force_26 rfl rfl ?_
    refine gCX8_64_0 hX dX8_force_27 ?_
    refine g_callNV (As := []) (rest := []) hX 53 (Nat.le_of_ble_eq_true rfl) rfl rfl miX4_forget mvX4_forget lkX8_117 (by decide) rfl (Nat.le_of_ble_eq_true rfl) rfl dX8_force_30 (fun τ x ho => kX4_forget _ ho) h (fun σ_3 t_4 h => ?_)
    refine g_iconst hX (1) dX8_force_33 (by decide) ?_
    exact g_retz hR (by decide) h dX8_force_34
  refine g_icmp_eq hX 18 dX8_force_2 (by decide) h (fun h => ?_) (fun h => ?_)
  · exact g_sub [0, 1] rfl (hj18 _ h)
  · refine g_aload_n hX 0 dX8_force_5 rfl rfl ?_
    refine gCX8_43_0 hX dX8_force_6 ?_
    refine g_iload_n hX 1 dX8_force_9 rfl rfl ?_
    refine g_callNI (As := [.int p1]) (rest := []) hX 19 (Nat.le_of_ble_eq_true rfl) rfl rfl miX2_has mvX2_has lkX8_296 (by decide) rfl (Nat.le_of_ble_eq_true rfl) rfl dX8_force_10 (fun τ x ho => kX2_has _ ho) h (fun σ_5 t_6 h => ?_)
    refine g_if_ne hX 18 dX8_force_13 (by decide) h (fun h => ?_) (fun h => ?_)
    · exact g_sub [0, 1] rfl (hj18 _ h)
    · refine g_iconst hX (0) dX8_force_16 (by decide) ?_
      exact g_retz hR (by decide) h dX8_force_17
set_option maxRecDepth 20000 in
set_option maxHeartbeats 4000000 in
theorem kX8_force (l : Launch) {a : Nat → Nat} {D : va_G} {tI tJ tB tS : ClassId} {kK kV : Nat → Nat} {σ τ : St}  {p1 : Int32} {x : Int32} (h : fX8_force σ p1 = some (τ, x)) : CtI l yX8_force cX8_force 2 (some .boolean) 1 21 (vC a D tI tJ tB tS kK kV) σ [.ref (a 0), .int p1] τ x := g_metZ (by decide) (Nat.le_of_ble_eq_true rfl) rfl (fun X _ hX hR => sX8_force (r := (τ, x)) hX hR h)
def fX4_meanByFirst_L17 (q1_17 : Int32) (q3_17 : Int32) (kx17 : St → Int32 → Option (St × Int32)) : Nat → St → Int32 → Option (St × Int32)
  | 0, _, _ => none
  | n17 + 1, σ, c4_17 =>
    (if (σ.1 2 0) ≤ c4_17 then kx17 σ c4_17 else cl (fX4_stepIn σ q3_17 c4_17) fun (σ_5 : St) (t_6 : Int32) => cl (fX7_makeSure σ_5 c4_17 t_6) fun (σ_7 : St) (t_8 : Unit) => bnd (c4_17 + (1 : Int32)) fun (x4_9 : Int32) => fX4_meanByFirst_L17 q1_17 q3_17 kx17 n17 σ_7 x4_9)
def fX4_meanByFirst (σ : St) (p1 : Int32) (p2 : Int32) : Option (St × Int32) :=
  cl (fX4_place σ p2 (0 : Int32)) fun (σ_1 : St) (t_2 : Int32) => bnd t_2 fun (x3_3 : Int32) => (if x3_3 = (-1 : Int32) then some (σ_1, (-1 : Int32)) else bnd (0 : Int32) fun (x4_4 : Int32) => fX4_meanByFirst_L17 p1 x3_3 (fun (σ_10 : St) (x4_11 : Int32) => cl (fX7_meanOf σ_10 p1) fun (σ_12 : St) (t_13 : Int32) => some (σ_12, t_13)) FU σ_1 x4_4)
set_option maxRecDepth 20000 in
set_option maxHeartbeats 4000000 in
theorem sX4_meanByFirst_L17 {X : CX} {a : Nat → Nat} {D : va_G} {tI tJ tB tS : ClassId} {kK kV : Nat → Nat} {q1_17 : Int32} {q3_17 : Int32} {kx17 : St → Int32 → Option (St × Int32)} {r : St × Int32} (hX : OKX X (vC a D tI tJ tB tS kK kV) cX4_meanByFirst 5 RX4 5 115) (hR : ∀ (pc : Nat) (lv : List (Nat × Value)), decode cX4_meanByFirst pc = .ok (.ireturn, 1) → G X (vC a D tI tJ tB tS kK kV) 5 r.1 pc lv [.int r.2]) (hkx17 : ∀ (σ : St) (e4_17 : Int32), kx17 σ e4_17 = some r → G X (vC a D tI tJ tB tS kK kV) 5 σ 51 [(0, .ref (a 53)), (1, .int q1_17)] []) : ∀ (n : Nat) (σ : St) (c4_17 : Int32), fX4_meanByFirst_L17 q1_17 q3_17 kx17 n σ c4_17 = some r → G X (vC a D tI tJ tB tS kK kV) 5 σ 17 [(0, .ref (a 53)), (1, .int q1_17), (3, .int q3_17), (4, .int c4_17)] [] := by
  intro n
  induction n with
  | zero => intro σ c4_17 h; rw [fX4_meanByFirst_L17] at h; exact absurd h (by simp)
  | succ n17 ih17 =>
    intro σ c4_17 h
    rw [fX4_meanByFirst_L17] at h
    refine g_iload hX 3 dX4_meanByFirst_17 rfl ?_
    refine g_aload_n hX 0 dX4_meanByFirst_19 rfl rfl ?_
    refine gCX4_9_53 hX dX4_meanByFirst_20 ?_
    refine gCX4_106_2 hX dX4_meanByFirst_23 ?_
    refine g_icmp_ge hX 51 dX4_meanByFirst_26 (by decide) h (fun h => ?_) (fun h => ?_)
    · exact g_sub [0, 1] rfl (hkx17 _ _ h)
    · refine g_aload_n hX 0 dX4_meanByFirst_29 rfl rfl ?_
      refine gCX4_23_53 hX dX4_meanByFirst_30 ?_
      refine g_iload hX 3 dX4_meanByFirst_33 rfl ?_
      refine g_aload_n hX 0 dX4_meanByFirst_35 rfl rfl ?_
      refine g_iload_n hX 2 dX4_meanByFirst_36 rfl rfl ?_
      refine g_iload hX 3 dX4_meanByFirst_37 rfl ?_
      refine g_callVI (As := [.int q3_17, .int c4_17]) (rest := [.int c4_17, .ref (a 43)]) hX 53 (Nat.le_of_ble_eq_true rfl) rfl rfl miX4_stepIn mvX4_stepIn lkX4_109 (by decide) rfl (Nat.le_of_ble_eq_true rfl) rfl dX4_meanByFirst_39 (fun τ x ho => kX4_stepIn _ ho) h (fun σ_5 t_6 h => ?_)
      refine g_callNV (As := [.int c4_17, .int t_6]) (rest := []) hX 43 (Nat.le_of_ble_eq_true rfl) rfl rfl miX7_makeSure mvX7_makeSure lkX4_112 (by decide) rfl (Nat.le_of_ble_eq_true rfl) rfl dX4_meanByFirst_42 (fun τ x ho => kX7_makeSure _ ho) h (fun σ_7 t_8 h => ?_)
      refine g_iinc (y := (1)) (lv' := fun x4_9 => [(4, .int x4_9), (0, .ref (a 53)), (1, .int q1_17), (3, .int q3_17)]) hX 3 dX4_meanByFirst_45 rfl (by decide) (by decide) (fun _ => rfl) h (fun x4_9 h => ?_)
      refine g_goto hX 17 dX4_meanByFirst_48 (by decide) ?_
      exact g_sub [1, 2, 3, 0] rfl (ih17 _ _ h)
set_option maxRecDepth 20000 in
set_option maxHeartbeats 4000000 in
theorem sX4_meanByFirst {X : CX} {a : Nat → Nat} {D : va_G} {tI tJ tB tS : ClassId} {kK kV : Nat → Nat} {σ : St}  {p1 : Int32} {p2 : Int32} {r : St × Int32} (hX : OKX X (vC a D tI tJ tB tS kK kV) cX4_meanByFirst 5 RX4 5 115) (hR : ∀ (pc : Nat) (lv : List (Nat × Value)), decode cX4_meanByFirst pc = .ok (.ireturn, 1) → G X (vC a D tI tJ tB tS kK kV) 5 r.1 pc lv [.int r.2])  (h : fX4_meanByFirst σ p1 p2 = some r) : G X (vC a D tI tJ tB tS kK kV) 5 σ 0 [(0, .ref (a 53)), (1, .int p1), (2, .int p2)] [] := by
  unfold fX4_meanByFirst at h
  refine g_aload_n hX 0 dX4_meanByFirst_0 rfl rfl ?_
  refine g_iload_n hX 2 dX4_meanByFirst_1 rfl rfl ?_
  refine g_iconst hX (0) dX4_meanByFirst_2 (by decide) ?_
  refine g_callVI (As := [.int p2, .int (0 : Int32)]) (rest := []) hX 53 (Nat.le_of_ble_eq_true rfl) rfl rfl miX4_place mvX4_place lkX4_84 (by decide) rfl (Nat.le_of_ble_eq_true rfl) rfl dX4_meanByFirst_3 (fun τ x ho => kX4_place _ ho) h (fun σ_1 t_2 h => ?_)
  refine g_istore_n (lv' := fun x3_3 => [(3, .int x3_3), (0, .ref (a 53)), (1, .int p1), (2, .int p2)]) hX dX4_meanByFirst_6 rfl (by decide) (fun _ => rfl) h (fun x3_3 h => ?_)
  refine g_iload_n hX 0 dX4_meanByFirst_7 rfl rfl ?_
  refine g_iconst hX (-1) dX4_meanByFirst_8 (by decide) ?_
  refine g_icmp_ne hX 14 dX4_meanByFirst_9 (by decide) h (fun h => ?_) (fun h => ?_)
  · refine g_iconst hX (0) dX4_meanByFirst_14 (by decide) ?_
    refine g_istore (lv' := fun x4_4 => [(4, .int x4_4), (3, .int x3_3), (0, .ref (a 53)), (1, .int p1), (2, .int p2)]) hX dX4_meanByFirst_15 (by decide) (fun _ => rfl) h (fun x4_4 h => ?_)
    refine g_sub [2, 3, 1, 0] rfl (sX4_meanByFirst_L17 hX hR (fun σ_10 x4_11 h => ?_) FU _ _ h)
    refine g_aload_n hX 0 dX4_meanByFirst_51 rfl rfl ?_
    refine gCX4_23_53 hX dX4_meanByFirst_52 ?_
    refine g_iload_n hX 1 dX4_meanByFirst_55 rfl rfl ?_
    refine g_callNI (As := [.int p1]) (rest := []) hX 43 (Nat.le_of_ble_eq_true rfl) rfl rfl miX7_meanOf mvX7_meanOf lkX4_115 (by decide) rfl (Nat.le_of_ble_eq_true rfl) rfl dX4_meanByFirst_56 (fun τ x ho => kX7_meanOf _ ho) h (fun σ_12 t_13 h => ?_)
    exact g_reti hR h dX4_meanByFirst_59
  · refine g_iconst hX (-1) dX4_meanByFirst_12 (by decide) ?_
    exact g_reti hR h dX4_meanByFirst_13
set_option maxRecDepth 20000 in
set_option maxHeartbeats 4000000 in
theorem kX4_meanByFirst (l : Launch) {a : Nat → Nat} {D : va_G} {tI tJ tB tS : ClassId} {kK kV : Nat → Nat} {σ τ : St}  {p1 : Int32} {p2 : Int32} {x : Int32} (h : fX4_meanByFirst σ p1 p2 = some (τ, x)) : CtI l yX4_meanByFirst cX4_meanByFirst 5 (some .int) 5 115 (vC a D tI tJ tB tS kK kV) σ [.ref (a 53), .int p1, .int p2] τ x := g_metI (by decide) (Nat.le_of_ble_eq_true rfl) rfl (fun X _ hX hR => sX4_meanByFirst (r := (τ, x)) hX hR h)
def fX4_tryQuietLaws_L15 (q1_15 : Int32) (kx15 : St → Int32 → Option (St × Unit)) : Nat → St → Int32 → Option (St × Unit)
  | 0, _, _ => none
  | n15 + 1, σ, c2_15 =>
    (if (σ.1 19 0) < c2_15 then kx15 σ c2_15 else cl (fX2_free σ (c2_15 - (1 : Int32)) (σ.1 2 2)) fun (σ_5 : St) (t_6 : Int32) => chk (inb c2_15 21) (bnd (sI σ_5 56 (ix c2_15) t_6) fun (σ_7 : St) => bnd (c2_15 + (1 : Int32)) fun (x2_8 : Int32) => fX4_tryQuietLaws_L15 q1_15 kx15 n15 σ_7 x2_8))
def fX4_tryQuietLaws_L71 (q1_71 : Int32) (kx71 : St → Int32 → Option (St × Unit)) : Nat → St → Int32 → Option (St × Unit)
  | 0, _, _ => none
  | n71 + 1, σ, c2_71 =>
    (if (σ.1 19 0) < c2_71 then kx71 σ c2_71 else cl (fX4_meanByFirst σ q1_71 c2_71) fun (σ_14 : St) (t_15 : Int32) => chk (inb c2_71 7) (bnd (sI σ_14 57 (ix c2_71) t_15) fun (σ_16 : St) => bnd (c2_71 + (1 : Int32)) fun (x2_17 : Int32) => fX4_tryQuietLaws_L71 q1_71 kx71 n71 σ_16 x2_17))
def fX4_tryQuietLaws (σ : St) (p1 : Int32) : Option (St × Unit) :=
  chk (isB (0 : Int32)) (bnd (sI σ 53 9 (0 : Int32)) fun (σ_1 : St) => cl (fX7_open σ_1 (-1 : Int32)) fun (σ_2 : St) (t_3 : Unit) => bnd (0 : Int32) fun (x2_4 : Int32) => fX4_tryQuietLaws_L15 p1 (fun (σ_9 : St) (x2_10 : Int32) => cl (fX4_search σ_9 ((σ_9.1 19 0) + (1 : Int32)) (-1 : Int32)) fun (σ_11 : St) (t_12 : Unit) => bnd (0 : Int32) fun (x2_13 : Int32) => fX4_tryQuietLaws_L71 p1 (fun (σ_18 : St) (x2_19 : Int32) => some (σ_18, ())) FU σ_11 x2_13) FU σ_2 x2_4)
set_option maxRecDepth 20000 in
set_option maxHeartbeats 4000000 in
theorem sX4_tryQuietLaws_L15 {X : CX} {a : Nat → Nat} {D : va_G} {tI tJ tB tS : ClassId} {kK kV : Nat → Nat} {q1_15 : Int32} {kx15 : St → Int32 → Option (St × Unit)} {r : St × Unit} (hX : OKX X (vC a D tI tJ tB tS kK kV) cX4_tryQuietLaws 3 RX4 6 139) (hR : ∀ (pc : Nat) (lv : List (Nat × Value)), decode cX4_tryQuietLaws pc = .ok (.return_, 1) → G X (vC a D tI tJ tB tS kK kV) 3 r.1 pc lv []) (hkx15 : ∀ (σ : St) (e2_15 : Int32), kx15 σ e2_15 = some r → G X (vC a D tI tJ tB tS kK kV) 3 σ 55 [(0, .ref (a 53)), (1, .int q1_15)] []) : ∀ (n : Nat) (σ : St) (c2_15 : Int32), fX4_tryQuietLaws_L15 q1_15 kx15 n σ c2_15 = some r → G X (vC a D tI tJ tB tS kK kV) 3 σ 15 [(0, .ref (a 53)), (1, .int q1_15), (2, .int c2_15)] [] := by
  intro n
  induction n with
  | zero => intro σ c2_15 h; rw [fX4_tryQuietLaws_L15] at h; exact absurd h (by simp)
  | succ n15 ih15 =>
    intro σ c2_15 h
    rw [fX4_tryQuietLaws_L15] at h
    refine g_iload_n hX 2 dX4_tryQuietLaws_15 rfl rfl ?_
    refine g_aload_n hX 0 dX4_tryQuietLaws_16 rfl rfl ?_
    refine gCX4_19_53 hX dX4_tryQuietLaws_17 ?_
    refine gCX4_87_19 hX dX4_tryQuietLaws_20 ?_
    refine g_icmp_gt hX 55 dX4_tryQuietLaws_23 (by decide) h (fun h => ?_) (fun h => ?_)
    · exact g_sub [0, 1] rfl (hkx15 _ _ h)
    · refine g_aload_n hX 0 dX4_tryQuietLaws_26 rfl rfl ?_
      refine gCX4_34_53 hX dX4_tryQuietLaws_27 ?_
      refine g_iload_n hX 2 dX4_tryQuietLaws_30 rfl rfl ?_
      refine g_aload_n hX 0 dX4_tryQuietLaws_31 rfl rfl ?_
      refine gCX4_19_53 hX dX4_tryQuietLaws_32 ?_
      refine g_iload_n hX 2 dX4_tryQuietLaws_35 rfl rfl ?_
      refine g_iconst hX (1) dX4_tryQuietLaws_36 (by decide) ?_
      refine g_isub hX dX4_tryQuietLaws_37 ?_
      refine g_aload_n hX 0 dX4_tryQuietLaws_38 rfl rfl ?_
      refine gCX4_9_53 hX dX4_tryQuietLaws_39 ?_
      refine gCX4_92_2 hX dX4_tryQuietLaws_42 ?_
      refine g_callNI (As := [.int (c2_15 - (1 : Int32)), .int (σ.1 2 2)]) (rest := [.int c2_15, .ref (a 56)]) hX 19 (Nat.le_of_ble_eq_true rfl) rfl rfl miX2_free mvX2_free lkX4_97 (by decide) rfl (Nat.le_of_ble_eq_true rfl) rfl dX4_tryQuietLaws_45 (fun τ x ho => kX2_free _ ho) h (fun σ_5 t_6 h => ?_)
      refine asC_56 hX dX4_tryQuietLaws_48 h (fun σ_7 h => ?_)
      refine g_iinc (y := (1)) (lv' := fun x2_8 => [(2, .int x2_8), (0, .ref (a 53)), (1, .int q1_15)]) hX 2 dX4_tryQuietLaws_49 rfl (by decide) (by decide) (fun _ => rfl) h (fun x2_8 h => ?_)
      refine g_goto hX 15 dX4_tryQuietLaws_52 (by decide) ?_
      exact g_sub [1, 2, 0] rfl (ih15 _ _ h)
set_option maxRecDepth 20000 in
set_option maxHeartbeats 4000000 in
theorem sX4_tryQuietLaws_L71 {X : CX} {a : Nat → Nat} {D : va_G} {tI tJ tB tS : ClassId} {kK kV : Nat → Nat} {q1_71 : Int32} {kx71 : St → Int32 → Option (St × Unit)} {r : St × Unit} (hX : OKX X (vC a D tI tJ tB tS kK kV) cX4_tryQuietLaws 3 RX4 6 139) (hR : ∀ (pc : Nat) (lv : List (Nat × Value)), decode cX4_tryQuietLaws pc = .ok (.return_, 1) → G X (vC a D tI tJ tB tS kK kV) 3 r.1 pc lv []) (hkx71 : ∀ (σ : St) (e2_71 : Int32), kx71 σ e2_71 = some r → G X (vC a D tI tJ tB tS kK kV) 3 σ 100 [] []) : ∀ (n : Nat) (σ : St) (c2_71 : Int32), fX4_tryQuietLaws_L71 q1_71 kx71 n σ c2_71 = some r → G X (vC a D tI tJ tB tS kK kV) 3 σ 71 [(0, .ref (a 53)), (1, .int q1_71), (2, .int c2_71)] [] := by
  intro n
  induction n with
  | zero => intro σ c2_71 h; rw [fX4_tryQuietLaws_L71] at h; exact absurd h (by simp)
  | succ n71 ih71 =>
    intro σ c2_71 h
    rw [fX4_tryQuietLaws_L71] at h
    refine g_iload_n hX 2 dX4_tryQuietLaws_71 rfl rfl ?_
    refine g_aload_n hX 0 dX4_tryQuietLaws_72 rfl rfl ?_
    refine gCX4_19_53 hX dX4_tryQuietLaws_73 ?_
    refine gCX4_87_19 hX dX4_tryQuietLaws_76 ?_
    refine g_icmp_gt hX 100 dX4_tryQuietLaws_79 (by decide) h (fun h => ?_) (fun h => ?_)
    · exact g_sub [] rfl (hkx71 _ _ h)
    · refine g_aload_n hX 0 dX4_tryQuietLaws_82 rfl rfl ?_
      refine gCX4_37_53 hX dX4_tryQuietLaws_83 ?_
      refine g_iload_n hX 2 dX4_tryQuietLaws_86 rfl rfl ?_
      refine g_aload_n hX 0 dX4_tryQuietLaws_87 rfl rfl ?_
      refine g_iload_n hX 1 dX4_tryQuietLaws_88 rfl rfl ?_
      refine g_iload_n hX 2 dX4_tryQuietLaws_89 rfl rfl ?_
      refine g_callVI (As := [.int q1_71, .int c2_71]) (rest := [.int c2_71, .ref (a 57)]) hX 53 (Nat.le_of_ble_eq_true rfl) rfl rfl miX4_meanByFirst mvX4_meanByFirst lkX4_99 (by decide) rfl (Nat.le_of_ble_eq_true rfl) rfl dX4_tryQuietLaws_90 (fun τ x ho => kX4_meanByFirst _ ho) h (fun σ_14 t_15 h => ?_)
      refine asC_57 hX dX4_tryQuietLaws_93 h (fun σ_16 h => ?_)
      refine g_iinc (y := (1)) (lv' := fun x2_17 => [(2, .int x2_17), (0, .ref (a 53)), (1, .int q1_71)]) hX 2 dX4_tryQuietLaws_94 rfl (by decide) (by decide) (fun _ => rfl) h (fun x2_17 h => ?_)
      refine g_goto hX 71 dX4_tryQuietLaws_97 (by decide) ?_
      exact g_sub [1, 2, 0] rfl (ih71 _ _ h)
set_option maxRecDepth 20000 in
set_option maxHeartbeats 4000000 in
theorem sX4_tryQuietLaws {X : CX} {a : Nat → Nat} {D : va_G} {tI tJ tB tS : ClassId} {kK kV : Nat → Nat} {σ : St}  {p1 : Int32} {r : St × Unit} (hX : OKX X (vC a D tI tJ tB tS kK kV) cX4_tryQuietLaws 3 RX4 6 139) (hR : ∀ (pc : Nat) (lv : List (Nat × Value)), decode cX4_tryQuietLaws pc = .ok (.return_, 1) → G X (vC a D tI tJ tB tS kK kV) 3 r.1 pc lv [])  (h : fX4_tryQuietLaws σ p1 = some r) : G X (vC a D tI tJ tB tS kK kV) 3 σ 0 [(0, .ref (a 53)), (1, .int p1)] [] := by
  unfold fX4_tryQuietLaws at h
  refine g_aload_n hX 0 dX4_tryQuietLaws_0 rfl rfl ?_
  refine g_iconst hX (0) dX4_tryQuietLaws_1 (by decide) ?_
  refine pCX4_44_53 hX dX4_tryQuietLaws_2 h (fun σ_1 h => ?_)
  refine g_aload_n hX 0 dX4_tryQuietLaws_5 rfl rfl ?_
  refine gCX4_23_53 hX dX4_tryQuietLaws_6 ?_
  refine g_iconst hX (-1) dX4_tryQuietLaws_9 (by decide) ?_
  refine g_callNV (As := [.int (-1 : Int32)]) (rest := []) hX 43 (Nat.le_of_ble_eq_true rfl) rfl rfl miX7_open mvX7_open lkX4_53 (by decide) rfl (Nat.le_of_ble_eq_true rfl) rfl dX4_tryQuietLaws_10 (fun τ x ho => kX7_open _ ho) h (fun σ_2 t_3 h => ?_)
  refine g_iconst hX (0) dX4_tryQuietLaws_13 (by decide) ?_
  refine g_istore_n (lv' := fun x2_4 => [(2, .int x2_4), (0, .ref (a 53)), (1, .int p1)]) hX dX4_tryQuietLaws_14 rfl (by decide) (fun _ => rfl) h (fun x2_4 h => ?_)
  refine g_sub [1, 2, 0] rfl (sX4_tryQuietLaws_L15 hX hR (fun σ_9 x2_10 h => ?_) FU _ _ h)
  refine g_aload_n hX 0 dX4_tryQuietLaws_55 rfl rfl ?_
  refine g_aload_n hX 0 dX4_tryQuietLaws_56 rfl rfl ?_
  refine gCX4_19_53 hX dX4_tryQuietLaws_57 ?_
  refine gCX4_87_19 hX dX4_tryQuietLaws_60 ?_
  refine g_iconst hX (1) dX4_tryQuietLaws_63 (by decide) ?_
  refine g_iadd hX dX4_tryQuietLaws_64 ?_
  refine g_iconst hX (-1) dX4_tryQuietLaws_65 (by decide) ?_
  refine g_callVV (As := [.int ((σ_9.1 19 0) + (1 : Int32)), .int (-1 : Int32)]) (rest := []) hX 53 (Nat.le_of_ble_eq_true rfl) rfl rfl miX4_search mvX4_search lkX4_61 (by decide) rfl (Nat.le_of_ble_eq_true rfl) rfl dX4_tryQuietLaws_66 (fun τ x ho => kX4_search _ ho) h (fun σ_11 t_12 h => ?_)
  refine g_iconst hX (0) dX4_tryQuietLaws_69 (by decide) ?_
  refine g_istore_n (lv' := fun x2_13 => [(2, .int x2_13), (0, .ref (a 53)), (1, .int p1)]) hX dX4_tryQuietLaws_70 rfl (by decide) (fun _ => rfl) h (fun x2_13 h => ?_)
  refine g_sub [1, 2, 0] rfl (sX4_tryQuietLaws_L71 hX hR (fun σ_18 x2_19 h => ?_) FU _ _ h)
  exact g_retv hR h dX4_tryQuietLaws_100
set_option maxRecDepth 20000 in
set_option maxHeartbeats 4000000 in
theorem kX4_tryQuietLaws (l : Launch) {a : Nat → Nat} {D : va_G} {tI tJ tB tS : ClassId} {kK kV : Nat → Nat} {σ τ : St}  {p1 : Int32} {x : Unit} (h : fX4_tryQuietLaws σ p1 = some (τ, x)) : CtV l yX4_tryQuietLaws cX4_tryQuietLaws 3 none 6 139 (vC a D tI tJ tB tS kK kV) σ [.ref (a 53), .int p1] τ x := g_metV (by decide) (Nat.le_of_ble_eq_true rfl) rfl (fun X _ hX hR => sX4_tryQuietLaws (r := (τ, x)) hX hR h)
def fX4_tryShouts_L7 (q1_7 : Int32) (kx7 : St → Int32 → Int32 → Int32 → Option (St × Unit)) : Nat → St → Int32 → Int32 → Int32 → Option (St × Unit)
  | 0, _, _, _, _ => none
  | n7 + 1, σ, c2_7, c3_7, c4_7 =>
    (if (σ.1 19 0) ≤ c4_7 then kx7 σ c2_7 c3_7 c4_7 else cl (fX2_shouts σ c4_7) fun (σ_4 : St) (t_5 : Int32) => (jp (fun (σ_6 : St) (x2_7 : Int32) (x3_8 : Int32)  => bnd (c4_7 + (1 : Int32)) fun (x4_9 : Int32) => fX4_tryShouts_L7 q1_7 kx7 n7 σ_6 x2_7 x3_8 x4_9) fun j82 => (if t_5 = 0 then j82 σ_4 c2_7 c3_7 else (jp (fun (σ_10 : St) (x2_11 : Int32) (x3_12 : Int32)  => chk (inb (c4_7 + (1 : Int32)) 7) (bnd (sI σ_10 57 (ix (c4_7 + (1 : Int32))) x3_12) fun (σ_13 : St) => j82 σ_13 x2_11 x3_12)) fun j72 => (if c2_7 = 0 then cl (fX7_open σ_4 c4_7) fun (σ_14 : St) (t_15 : Unit) => chk (inb (0 : Int32) 21) (bnd (sI σ_14 56 (ix (0 : Int32)) (σ_14.1 43 15)) fun (σ_16 : St) => cl (fX4_search σ_16 (1 : Int32) (-1 : Int32)) fun (σ_17 : St) (t_18 : Unit) => cl (fX4_meanByFirst σ_17 q1_7 (0 : Int32)) fun (σ_19 : St) (t_20 : Int32) => bnd t_20 fun (x3_21 : Int32) => bnd (1 : Int32) fun (x2_22 : Int32) => j72 σ_19 x2_22 x3_21) else j72 σ_4 c2_7 c3_7)))))
def fX4_tryShouts (σ : St) (p1 : Int32) : Option (St × Unit) :=
  bnd (0 : Int32) fun (x2_1 : Int32) => bnd (-1 : Int32) fun (x3_2 : Int32) => bnd (0 : Int32) fun (x4_3 : Int32) => fX4_tryShouts_L7 p1 (fun (σ_23 : St) (x2_24 : Int32) (x3_25 : Int32) (x4_26 : Int32) => some (σ_23, ())) FU σ x2_1 x3_2 x4_3
set_option maxRecDepth 20000 in
set_option maxHeartbeats 4000000 in
theorem sX4_tryShouts_L7 {X : CX} {a : Nat → Nat} {D : va_G} {tI tJ tB tS : ClassId} {kK kV : Nat → Nat} {q1_7 : Int32} {kx7 : St → Int32 → Int32 → Int32 → Option (St × Unit)} {r : St × Unit} (hX : OKX X (vC a D tI tJ tB tS kK kV) cX4_tryShouts 5 RX4 6 139) (hR : ∀ (pc : Nat) (lv : List (Nat × Value)), decode cX4_tryShouts pc = .ok (.return_, 1) → G X (vC a D tI tJ tB tS kK kV) 5 r.1 pc lv []) (hkx7 : ∀ (σ : St) (e2_7 : Int32) (e3_7 : Int32) (e4_7 : Int32), kx7 σ e2_7 e3_7 e4_7 = some r → G X (vC a D tI tJ tB tS kK kV) 5 σ 88 [] []) : ∀ (n : Nat) (σ : St) (c2_7 : Int32) (c3_7 : Int32) (c4_7 : Int32), fX4_tryShouts_L7 q1_7 kx7 n σ c2_7 c3_7 c4_7 = some r → G X (vC a D tI tJ tB tS kK kV) 5 σ 7 [(0, .ref (a 53)), (1, .int q1_7), (2, .int c2_7), (3, .int c3_7), (4, .int c4_7)] [] := by
  intro n
  induction n with
  | zero => intro σ c2_7 c3_7 c4_7 h; rw [fX4_tryShouts_L7] at h; exact absurd h (by simp)
  | succ n7 ih7 =>
    intro σ c2_7 c3_7 c4_7 h
    rw [fX4_tryShouts_L7] at h
    refine g_iload hX 4 dX4_tryShouts_7 rfl ?_
    refine g_aload_n hX 0 dX4_tryShouts_9 rfl rfl ?_
    refine gCX4_19_53 hX dX4_tryShouts_10 ?_
    refine gCX4_87_19 hX dX4_tryShouts_13 ?_
    refine g_icmp_ge hX 88 dX4_tryShouts_16 (by decide) h (fun h => ?_) (fun h => ?_)
    · exact g_sub [] rfl (hkx7 _ _ _ _ h)
    · refine g_aload_n hX 0 dX4_tryShouts_19 rfl rfl ?_
      refine gCX4_19_53 hX dX4_tryShouts_20 ?_
      refine g_iload hX 4 dX4_tryShouts_23 rfl ?_
      refine g_callNI (As := [.int c4_7]) (rest := []) hX 19 (Nat.le_of_ble_eq_true rfl) rfl rfl miX2_shouts mvX2_shouts lkX4_102 (by decide) rfl (Nat.le_of_ble_eq_true rfl) rfl dX4_tryShouts_25 (fun τ x ho => kX2_shouts _ ho) h (fun σ_4 t_5 h => ?_)
      refine jp_inv (P := fun f => ∀ (σ_6 : St) (x2_7 : Int32) (x3_8 : Int32) , f σ_6 x2_7 x3_8 = some r → G X (vC a D tI tJ tB tS kK kV) 5 σ_6 82 [(0, .ref (a 53)), (1, .int q1_7), (4, .int c4_7), (2, .int x2_7), (3, .int x3_8)] []) h (fun σ_6 x2_7 x3_8 h => ?_) (fun j82 hj82 h => ?_)
      · refine g_iinc (y := (1)) (lv' := fun x4_9 => [(4, .int x4_9), (0, .ref (a 53)), (1, .int q1_7), (2, .int x2_7), (3, .int x3_8)]) hX 2 dX4_tryShouts_82 rfl (by decide) (by decide) (fun _ => rfl) h (fun x4_9 h => ?_)
        refine g_goto hX 7 dX4_tryShouts_85 (by decide) ?_
        exact g_sub [1, 2, 3, 4, 0] rfl (ih7 _ _ _ _ h)
      refine g_if_eq hX 82 dX4_tryShouts_28 (by decide) h (fun h => ?_) (fun h => ?_)
      · exact g_sub [0, 1, 4, 2, 3] rfl (hj82 _ _ _ h)
      · refine g_iload_n hX 2 dX4_tryShouts_31 rfl rfl ?_
        refine jp_inv (P := fun f => ∀ (σ_10 : St) (x2_11 : Int32) (x3_12 : Int32) , f σ_10 x2_11 x3_12 = some r → G X (vC a D tI tJ tB tS kK kV) 5 σ_10 72 [(0, .ref (a 53)), (1, .int q1_7), (4, .int c4_7), (2, .int x2_11), (3, .int x3_12)] []) h (fun σ_10 x2_11 x3_12 h => ?_) (fun j72 hj72 h => ?_)
        · refine g_aload_n hX 0 dX4_tryShouts_72 rfl rfl ?_
          refine gCX4_37_53 hX dX4_tryShouts_73 ?_
          refine g_iload hX 2 dX4_tryShouts_76 rfl ?_
          refine g_iconst hX (1) dX4_tryShouts_78 (by decide) ?_
          refine g_iadd hX dX4_tryShouts_79 ?_
          refine g_iload_n hX 4 dX4_tryShouts_80 rfl rfl ?_
          refine asC_57 hX dX4_tryShouts_81 h (fun σ_13 h => ?_)
          exact g_sub [0, 1, 2, 3, 4] rfl (hj82 _ _ _ h)
        refine g_if_ne hX 72 dX4_tryShouts_32 (by decide) h (fun h => ?_) (fun h => ?_)
        · exact g_sub [0, 1, 4, 2, 3] rfl (hj72 _ _ _ h)
        · refine g_aload_n hX 0 dX4_tryShouts_35 rfl rfl ?_
          refine gCX4_23_53 hX dX4_tryShouts_36 ?_
          refine g_iload hX 4 dX4_tryShouts_39 rfl ?_
          refine g_callNV (As := [.int c4_7]) (rest := []) hX 43 (Nat.le_of_ble_eq_true rfl) rfl rfl miX7_open mvX7_open lkX4_53 (by decide) rfl (Nat.le_of_ble_eq_true rfl) rfl dX4_tryShouts_41 (fun τ x ho => kX7_open _ ho) h (fun σ_14 t_15 h => ?_)
          refine g_aload_n hX 0 dX4_tryShouts_44 rfl rfl ?_
          refine gCX4_34_53 hX dX4_tryShouts_45 ?_
          refine g_iconst hX (0) dX4_tryShouts_48 (by decide) ?_
          refine g_aload_n hX 0 dX4_tryShouts_49 rfl rfl ?_
          refine gCX4_23_53 hX dX4_tryShouts_50 ?_
          refine gCX4_59_43 hX dX4_tryShouts_53 ?_
          refine asC_56 hX dX4_tryShouts_56 h (fun σ_16 h => ?_)
          refine g_aload_n hX 0 dX4_tryShouts_57 rfl rfl ?_
          refine g_iconst hX (1) dX4_tryShouts_58 (by decide) ?_
          refine g_iconst hX (-1) dX4_tryShouts_59 (by decide) ?_
          refine g_callVV (As := [.int (1 : Int32), .int (-1 : Int32)]) (rest := []) hX 53 (Nat.le_of_ble_eq_true rfl) rfl rfl miX4_search mvX4_search lkX4_61 (by decide) rfl (Nat.le_of_ble_eq_true rfl) rfl dX4_tryShouts_60 (fun τ x ho => kX4_search _ ho) h (fun σ_17 t_18 h => ?_)
          refine g_aload_n hX 0 dX4_tryShouts_63 rfl rfl ?_
          refine g_iload_n hX 1 dX4_tryShouts_64 rfl rfl ?_
          refine g_iconst hX (0) dX4_tryShouts_65 (by decide) ?_
          refine g_callVI (As := [.int q1_7, .int (0 : Int32)]) (rest := []) hX 53 (Nat.le_of_ble_eq_true rfl) rfl rfl miX4_meanByFirst mvX4_meanByFirst lkX4_99 (by decide) rfl (Nat.le_of_ble_eq_true rfl) rfl dX4_tryShouts_66 (fun τ x ho => kX4_meanByFirst _ ho) h (fun σ_19 t_20 h => ?_)
          refine g_istore_n (lv' := fun x3_21 => [(3, .int x3_21), (0, .ref (a 53)), (1, .int q1_7), (2, .int c2_7), (4, .int c4_7)]) hX dX4_tryShouts_69 rfl (by decide) (fun _ => rfl) h (fun x3_21 h => ?_)
          refine g_iconst hX (1) dX4_tryShouts_70 (by decide) ?_
          refine g_istore_n (lv' := fun x2_22 => [(2, .int x2_22), (3, .int x3_21), (0, .ref (a 53)), (1, .int q1_7), (4, .int c4_7)]) hX dX4_tryShouts_71 rfl (by decide) (fun _ => rfl) h (fun x2_22 h => ?_)
          exact g_sub [2, 3, 4, 0, 1] rfl (hj72 _ _ _ h)
set_option maxRecDepth 20000 in
set_option maxHeartbeats 4000000 in
theorem sX4_tryShouts {X : CX} {a : Nat → Nat} {D : va_G} {tI tJ tB tS : ClassId} {kK kV : Nat → Nat} {σ : St}  {p1 : Int32} {r : St × Unit} (hX : OKX X (vC a D tI tJ tB tS kK kV) cX4_tryShouts 5 RX4 6 139) (hR : ∀ (pc : Nat) (lv : List (Nat × Value)), decode cX4_tryShouts pc = .ok (.return_, 1) → G X (vC a D tI tJ tB tS kK kV) 5 r.1 pc lv [])  (h : fX4_tryShouts σ p1 = some r) : G X (vC a D tI tJ tB tS kK kV) 5 σ 0 [(0, .ref (a 53)), (1, .int p1)] [] := by
  unfold fX4_tryShouts at h
  refine g_iconst hX (0) dX4_tryShouts_0 (by decide) ?_
  refine g_istore_n (lv' := fun x2_1 => [(2, .int x2_1), (0, .ref (a 53)), (1, .int p1)]) hX dX4_tryShouts_1 rfl (by decide) (fun _ => rfl) h (fun x2_1 h => ?_)
  refine g_iconst hX (-1) dX4_tryShouts_2 (by decide) ?_
  refine g_istore_n (lv' := fun x3_2 => [(3, .int x3_2), (2, .int x2_1), (0, .ref (a 53)), (1, .int p1)]) hX dX4_tryShouts_3 rfl (by decide) (fun _ => rfl) h (fun x3_2 h => ?_)
  refine g_iconst hX (0) dX4_tryShouts_4 (by decide) ?_
  refine g_istore (lv' := fun x4_3 => [(4, .int x4_3), (3, .int x3_2), (2, .int x2_1), (0, .ref (a 53)), (1, .int p1)]) hX dX4_tryShouts_5 (by decide) (fun _ => rfl) h (fun x4_3 h => ?_)
  refine g_sub [3, 4, 2, 1, 0] rfl (sX4_tryShouts_L7 hX hR (fun σ_23 x2_24 x3_25 x4_26 h => ?_) FU _ _ _ _ h)
  exact g_retv hR h dX4_tryShouts_88
set_option maxRecDepth 20000 in
set_option maxHeartbeats 4000000 in
theorem kX4_tryShouts (l : Launch) {a : Nat → Nat} {D : va_G} {tI tJ tB tS : ClassId} {kK kV : Nat → Nat} {σ τ : St}  {p1 : Int32} {x : Unit} (h : fX4_tryShouts σ p1 = some (τ, x)) : CtV l yX4_tryShouts cX4_tryShouts 5 none 6 139 (vC a D tI tJ tB tS kK kV) σ [.ref (a 53), .int p1] τ x := g_metV (by decide) (Nat.le_of_ble_eq_true rfl) rfl (fun X _ hX hR => sX4_tryShouts (r := (τ, x)) hX hR h)
def fX4_bestCase_L4  (kx4 : St → Int32 → Int32 → Option (St × Int32)) : Nat → St → Int32 → Int32 → Option (St × Int32)
  | 0, _, _, _ => none
  | n4 + 1, σ, c1_4, c2_4 =>
    (if (σ.1 19 0) < c2_4 then kx4 σ c1_4 c2_4 else chk (inb c2_4 7) ((jp (fun (σ_3 : St) (x1_4 : Int32)  => bnd (c2_4 + (1 : Int32)) fun (x2_5 : Int32) => fX4_bestCase_L4 kx4 n4 σ_3 x1_4 x2_5) fun j47 => (if (σ.1 57 (ix c2_4)) = (-1 : Int32) then j47 σ c1_4 else (jp (fun (σ_6 : St)   => bnd c2_4 fun (x1_7 : Int32) => j47 σ_6 x1_7) fun j45 => (if c1_4 = (-1 : Int32) then j45 σ else chk (inb c2_4 7) (chk (inb c1_4 7) ((if (σ.1 57 (ix c1_4)) ≤ (σ.1 57 (ix c2_4)) then j47 σ c1_4 else j45 σ)))))))))
def fX4_bestCase (σ : St)  : Option (St × Int32) :=
  bnd (-1 : Int32) fun (x1_1 : Int32) => bnd (0 : Int32) fun (x2_2 : Int32) => fX4_bestCase_L4  (fun (σ_8 : St) (x1_9 : Int32) (x2_10 : Int32) => some (σ_8, x1_9)) FU σ x1_1 x2_2
set_option maxRecDepth 20000 in
set_option maxHeartbeats 4000000 in
theorem sX4_bestCase_L4 {X : CX} {a : Nat → Nat} {D : va_G} {tI tJ tB tS : ClassId} {kK kV : Nat → Nat}  {kx4 : St → Int32 → Int32 → Option (St × Int32)} {r : St × Int32} (hX : OKX X (vC a D tI tJ tB tS kK kV) cX4_bestCase 3 RX4 0 0) (hR : ∀ (pc : Nat) (lv : List (Nat × Value)), decode cX4_bestCase pc = .ok (.ireturn, 1) → G X (vC a D tI tJ tB tS kK kV) 3 r.1 pc lv [.int r.2]) (hkx4 : ∀ (σ : St) (e1_4 : Int32) (e2_4 : Int32), kx4 σ e1_4 e2_4 = some r → G X (vC a D tI tJ tB tS kK kV) 3 σ 53 [(1, .int e1_4)] []) : ∀ (n : Nat) (σ : St) (c1_4 : Int32) (c2_4 : Int32), fX4_bestCase_L4 kx4 n σ c1_4 c2_4 = some r → G X (vC a D tI tJ tB tS kK kV) 3 σ 4 [(0, .ref (a 53)), (1, .int c1_4), (2, .int c2_4)] [] := by
  intro n
  induction n with
  | zero => intro σ c1_4 c2_4 h; rw [fX4_bestCase_L4] at h; exact absurd h (by simp)
  | succ n4 ih4 =>
    intro σ c1_4 c2_4 h
    rw [fX4_bestCase_L4] at h
    refine g_iload_n hX 2 dX4_bestCase_4 rfl rfl ?_
    refine g_aload_n hX 0 dX4_bestCase_5 rfl rfl ?_
    refine gCX4_19_53 hX dX4_bestCase_6 ?_
    refine gCX4_87_19 hX dX4_bestCase_9 ?_
    refine g_icmp_gt hX 53 dX4_bestCase_12 (by decide) h (fun h => ?_) (fun h => ?_)
    · exact g_sub [1] rfl (hkx4 _ _ _ h)
    · refine g_aload_n hX 0 dX4_bestCase_15 rfl rfl ?_
      refine gCX4_37_53 hX dX4_bestCase_16 ?_
      refine g_iload_n hX 2 dX4_bestCase_19 rfl rfl ?_
      refine alC_57 hX dX4_bestCase_20 h (fun h => ?_)
      refine g_iconst hX (-1) dX4_bestCase_21 (by decide) ?_
      refine jp_inv (P := fun f => ∀ (σ_3 : St) (x1_4 : Int32) , f σ_3 x1_4 = some r → G X (vC a D tI tJ tB tS kK kV) 3 σ_3 47 [(0, .ref (a 53)), (2, .int c2_4), (1, .int x1_4)] []) h (fun σ_3 x1_4 h => ?_) (fun j47 hj47 h => ?_)
      · refine g_iinc (y := (1)) (lv' := fun x2_5 => [(2, .int x2_5), (0, .ref (a 53)), (1, .int x1_4)]) hX 1 dX4_bestCase_47 rfl (by decide) (by decide) (fun _ => rfl) h (fun x2_5 h => ?_)
        refine g_goto hX 4 dX4_bestCase_50 (by decide) ?_
        exact g_sub [1, 2, 0] rfl (ih4 _ _ _ h)
      refine g_icmp_eq hX 47 dX4_bestCase_22 (by decide) h (fun h => ?_) (fun h => ?_)
      · exact g_sub [0, 2, 1] rfl (hj47 _ _ h)
      · refine g_iload_n hX 1 dX4_bestCase_25 rfl rfl ?_
        refine g_iconst hX (-1) dX4_bestCase_26 (by decide) ?_
        refine jp_inv (P := fun f => ∀ (σ_6 : St)  , f σ_6 = some r → G X (vC a D tI tJ tB tS kK kV) 3 σ_6 45 [(0, .ref (a 53)), (2, .int c2_4)] []) h (fun σ_6 h => ?_) (fun j45 hj45 h => ?_)
        · refine g_iload_n hX 1 dX4_bestCase_45 rfl rfl ?_
          refine g_istore_n (lv' := fun x1_7 => [(1, .int x1_7), (0, .ref (a 53)), (2, .int c2_4)]) hX dX4_bestCase_46 rfl (by decide) (fun _ => rfl) h (fun x1_7 h => ?_)
          exact g_sub [1, 2, 0] rfl (hj47 _ _ h)
        refine g_icmp_eq hX 45 dX4_bestCase_27 (by decide) h (fun h => ?_) (fun h => ?_)
        · exact g_sub [0, 2] rfl (hj45 _ h)
        · refine g_aload_n hX 0 dX4_bestCase_30 rfl rfl ?_
          refine gCX4_37_53 hX dX4_bestCase_31 ?_
          refine g_iload_n hX 2 dX4_bestCase_34 rfl rfl ?_
          refine alC_57 hX dX4_bestCase_35 h (fun h => ?_)
          refine g_aload_n hX 0 dX4_bestCase_36 rfl rfl ?_
          refine gCX4_37_53 hX dX4_bestCase_37 ?_
          refine g_iload_n hX 1 dX4_bestCase_40 rfl rfl ?_
          refine alC_57 hX dX4_bestCase_41 h (fun h => ?_)
          refine g_icmp_ge hX 47 dX4_bestCase_42 (by decide) h (fun h => ?_) (fun h => ?_)
          · exact g_sub [0, 2, 1] rfl (hj47 _ _ h)
          · exact g_sub [0, 2] rfl (hj45 _ h)
set_option maxRecDepth 20000 in
set_option maxHeartbeats 4000000 in
theorem sX4_bestCase {X : CX} {a : Nat → Nat} {D : va_G} {tI tJ tB tS : ClassId} {kK kV : Nat → Nat} {σ : St}   {r : St × Int32} (hX : OKX X (vC a D tI tJ tB tS kK kV) cX4_bestCase 3 RX4 0 0) (hR : ∀ (pc : Nat) (lv : List (Nat × Value)), decode cX4_bestCase pc = .ok (.ireturn, 1) → G X (vC a D tI tJ tB tS kK kV) 3 r.1 pc lv [.int r.2])  (h : fX4_bestCase σ  = some r) : G X (vC a D tI tJ tB tS kK kV) 3 σ 0 [(0, .ref (a 53))] [] := by
  unfold fX4_bestCase at h
  refine g_iconst hX (-1) dX4_bestCase_0 (by decide) ?_
  refine g_istore_n (lv' := fun x1_1 => [(1, .int x1_1), (0, .ref (a 53))]) hX dX4_bestCase_1 rfl (by decide) (fun _ => rfl) h (fun x1_1 h => ?_)
  refine g_iconst hX (0) dX4_bestCase_2 (by decide) ?_
  refine g_istore_n (lv' := fun x2_2 => [(2, .int x2_2), (1, .int x1_1), (0, .ref (a 53))]) hX dX4_bestCase_3 rfl (by decide) (fun _ => rfl) h (fun x2_2 h => ?_)
  refine g_sub [2, 1, 0] rfl (sX4_bestCase_L4 hX hR (fun σ_8 x1_9 x2_10 h => ?_) FU _ _ _ h)
  refine g_iload_n hX 0 dX4_bestCase_53 rfl rfl ?_
  exact g_reti hR h dX4_bestCase_54
set_option maxRecDepth 20000 in
set_option maxHeartbeats 4000000 in
theorem kX4_bestCase (l : Launch) {a : Nat → Nat} {D : va_G} {tI tJ tB tS : ClassId} {kK kV : Nat → Nat} {σ τ : St}   {x : Int32} (h : fX4_bestCase σ  = some (τ, x)) : CtI l yX4_bestCase cX4_bestCase 3 (some .int) 0 0 (vC a D tI tJ tB tS kK kV) σ [.ref (a 53)] τ x := g_metI (by decide) (Nat.le_of_ble_eq_true rfl) rfl (fun X _ hX hR => sX4_bestCase (r := (τ, x)) hX hR h)
