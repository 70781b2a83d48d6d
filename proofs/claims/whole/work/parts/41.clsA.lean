theorem acl_int : Cond.arrayClass .int ∈ wsAll := wsAll_mem 273 (by decide +kernel) (by decide +kernel)
def fX4_countRowsA_L7  (kx7 : St → Int32 → Option (St × Unit)) : Nat → St → Int32 → Option (St × Unit)
  | 0, _, _ => none
  | n7 + 1, σ, c1_7 =>
    (if (σ.1 2 0) ≤ c1_7 then kx7 σ c1_7 else chk (inb c1_7 4) (bnd (sI σ 55 (ix c1_7) (σ.1 53 8)) fun (σ_3 : St) => bnd (sI σ_3 53 8 ((σ_3.1 53 8) * (σ_3.1 2 2))) fun (σ_4 : St) => bnd (c1_7 + (1 : Int32)) fun (x1_5 : Int32) => fX4_countRowsA_L7 kx7 n7 σ_4 x1_5))
def fX4_countRowsA (σ : St)  : Option (St × Unit) :=
  bnd (sI σ 53 8 (1 : Int32)) fun (σ_1 : St) => bnd (0 : Int32) fun (x1_2 : Int32) => fX4_countRowsA_L7  (fun (σ_6 : St) (x1_7 : Int32) => chk (decide (0 ≤ σ_6.1 54 2147483648)) ((if (σ_6.1 53 8) ≤ (σ_6.1 54 2147483648) then some (σ_6, ()) else chk (decide (0 ≤ (σ_6.1 53 8) ∧ (σ_6.1 53 8) ≤ 4096)) (bnd (nM σ_6 (σ_6.1 53 8)) fun (σ_8 : St) => some (σ_8, ()))))) FU σ_1 x1_2
set_option maxRecDepth 20000 in
set_option maxHeartbeats 4000000 in
theorem sX4_countRowsA_L7 {X : CX} {a : Nat → Nat} {D : va_G} {tI tJ tB tS : ClassId} {kK kV : Nat → Nat}  {kx7 : St → Int32 → Option (St × Unit)} {r : St × Unit} (hX : OKX X (vC a D tI tJ tB tS kK kV) cX4_countRows 2 RX4 0 0) (hR : ∀ (pc : Nat) (lv : List (Nat × Value)), decode cX4_countRows pc = .ok (.return_, 1) → G X (vC a D tI tJ tB tS kK kV) 2 r.1 pc lv []) (hkx7 : ∀ (σ : St) (e1_7 : Int32), kx7 σ e1_7 = some r → G X (vC a D tI tJ tB tS kK kV) 2 σ 50 [(0, .ref (a 53))] []) : ∀ (n : Nat) (σ : St) (c1_7 : Int32), fX4_countRowsA_L7 kx7 n σ c1_7 = some r → G X (vC a D tI tJ tB tS kK kV) 2 σ 7 [(0, .ref (a 53)), (1, .int c1_7)] [] := by
  intro n
  induction n with
  | zero => intro σ c1_7 h; rw [fX4_countRowsA_L7] at h; exact absurd h (by simp)
  | succ n7 ih7 =>
    intro σ c1_7 h
    rw [fX4_countRowsA_L7] at h
    refine g_iload_n hX 1 dX4_countRows_7 rfl rfl ?_
    refine g_aload_n hX 0 dX4_countRows_8 rfl rfl ?_
    refine gCX4_9_53 hX dX4_countRows_9 ?_
    refine gCX4_106_2 hX dX4_countRows_12 ?_
    refine g_icmp_ge hX 50 dX4_countRows_15 (by decide) h (fun h => ?_) (fun h => ?_)
    · exact g_sub [0] rfl (hkx7 _ _ h)
    · refine g_aload_n hX 0 dX4_countRows_18 rfl rfl ?_
      refine gCX4_31_53 hX dX4_countRows_19 ?_
      refine g_iload_n hX 1 dX4_countRows_22 rfl rfl ?_
      refine g_aload_n hX 0 dX4_countRows_23 rfl rfl ?_
      refine gCX4_40_53 hX dX4_countRows_24 ?_
      refine asC_55 hX dX4_countRows_27 h (fun σ_3 h => ?_)
      refine g_aload_n hX 0 dX4_countRows_28 rfl rfl ?_
      refine g_dup hX dX4_countRows_29 rfl ?_
      refine gCX4_40_53 hX dX4_countRows_30 ?_
      refine g_aload_n hX 0 dX4_countRows_33 rfl rfl ?_
      refine gCX4_9_53 hX dX4_countRows_34 ?_
      refine gCX4_92_2 hX dX4_countRows_37 ?_
      refine g_imul hX dX4_countRows_40 ?_
      refine pCX4_40_53 hX dX4_countRows_41 h (fun σ_4 h => ?_)
      refine g_iinc (y := (1)) (lv' := fun x1_5 => [(1, .int x1_5), (0, .ref (a 53))]) hX 1 dX4_countRows_44 rfl (by decide) (by decide) (fun _ => rfl) h (fun x1_5 h => ?_)
      refine g_goto hX 7 dX4_countRows_47 (by decide) ?_
      exact g_sub [1, 0] rfl (ih7 _ _ h)
set_option maxRecDepth 20000 in
set_option maxHeartbeats 4000000 in
theorem sX4_countRowsA {X : CX} {a : Nat → Nat} {D : va_G} {tI tJ tB tS : ClassId} {kK kV : Nat → Nat} {σ : St}   {r : St × Unit} (hX : OKX X (vC a D tI tJ tB tS kK kV) cX4_countRows 2 RX4 0 0) (hb : hB X) (hR : ∀ (pc : Nat) (lv : List (Nat × Value)), decode cX4_countRows pc = .ok (.return_, 1) → G X (vC a D tI tJ tB tS kK kV) 2 r.1 pc lv []) (hR1 : ∀ (M pc : Nat) (lv : List (Nat × Value)), decode cX4_countRows pc = .ok (.return_, 1) → G (bmp X) (vC (upA a M) D tI tJ tB tS kK kV) 2 r.1 pc lv []) (h : fX4_countRowsA σ  = some r) : G X (vC a D tI tJ tB tS kK kV) 2 σ 0 [(0, .ref (a 53))] [] := by
  unfold fX4_countRowsA at h
  refine g_aload_n hX 0 dX4_countRows_0 rfl rfl ?_
  refine g_iconst hX (1) dX4_countRows_1 (by decide) ?_
  refine pCX4_40_53 hX dX4_countRows_2 h (fun σ_1 h => ?_)
  refine g_iconst hX (0) dX4_countRows_5 (by decide) ?_
  refine g_istore_n (lv' := fun x1_2 => [(1, .int x1_2), (0, .ref (a 53))]) hX dX4_countRows_6 rfl (by decide) (fun _ => rfl) h (fun x1_2 h => ?_)
  refine g_sub [1, 0] rfl (sX4_countRowsA_L7 hX hR (fun σ_6 x1_7 h => ?_) FU _ _ h)
  refine g_aload_n hX 0 dX4_countRows_50 rfl rfl ?_
  refine gCX4_27_53 hX dX4_countRows_51 ?_
  refine lenC_54 hX dX4_countRows_54 h (fun h => ?_)
  refine g_aload_n hX 0 dX4_countRows_55 rfl rfl ?_
  refine gCX4_40_53 hX dX4_countRows_56 ?_
  refine g_icmp_ge hX 72 dX4_countRows_59 (by decide) h (fun h => ?_) (fun h => ?_)
  · exact g_retv hR h dX4_countRows_72
  · refine g_aload_n hX 0 dX4_countRows_62 rfl rfl ?_
    refine g_aload_n hX 0 dX4_countRows_63 rfl rfl ?_
    refine gCX4_40_53 hX dX4_countRows_64 ?_
    refine g_newMarks hX hb lkX4_27 acl_int dX4_countRows_67 dX4_countRows_69 h (fun m54 σ_8 h => ?_)
    have hX1 := okx_bmp hX hb m54
    have hR2 := hR1 m54
    show G (bmp X) (vC (upA a m54) D tI tJ tB tS kK kV) 2 σ_8 72 [(0, .ref (upA a m54 53))] []
    generalize upA a m54 = a1 at hX1 hR2 ⊢
    generalize bmp X = X1 at hX1 hR2 ⊢
    exact g_retv hR2 h dX4_countRows_72
set_option maxRecDepth 20000 in
set_option maxHeartbeats 4000000 in
theorem kX4_countRowsA (l : Launch) {a : Nat → Nat} {D : va_G} {tI tJ tB tS : ClassId} {kK kV : Nat → Nat} {σ τ : St}  {x : Unit} (h : fX4_countRowsA σ  = some (τ, x)) : CtVA l yX4_countRows cX4_countRows 2 none 0 0 a D tI tJ tB tS kK kV σ [.ref (a 53)] τ x := g_metVA (by decide) (Nat.le_of_ble_eq_true rfl) rfl (fun X _ hX hb hR hR1 => sX4_countRowsA (r := (τ, x)) hX hb hR hR1 h)
def fX4_searchA_L48 (q1_48 : Int32) (q2_48 : Int32) (q3_48 : Int32) (q4_48 : Int32) (kx48 : St → Int32 → Option (St × Unit)) : Nat → St → Int32 → Option (St × Unit)
  | 0, _, _ => none
  | n48 + 1, σ, c5_48 =>
    (if q4_48 ≤ c5_48 then kx48 σ c5_48 else cl (fX7_readRow σ ) fun (σ_12 : St) (t_13 : Unit) => cl (fX7_weigh σ_12 q3_48) fun (σ_14 : St) (t_15 : Unit) => cl (fX4_strikeCases σ_14 q3_48 q1_48 q2_48) fun (σ_16 : St) (t_17 : Unit) => cl (fX7_nextRow σ_16 q3_48) fun (σ_18 : St) (t_19 : Unit) => bnd (c5_48 + (1 : Int32)) fun (x5_20 : Int32) => fX4_searchA_L48 q1_48 q2_48 q3_48 q4_48 kx48 n48 σ_18 x5_20)
def fX4_searchA_L18 (q1_18 : Int32) (q2_18 : Int32) (kx18 : St → Int32 → Option (St × Unit)) : Nat → St → Int32 → Option (St × Unit)
  | 0, _, _ => none
  | n18 + 1, σ, c3_18 =>
    (if (σ.1 2 0) ≤ c3_18 then kx18 σ c3_18 else cl (fX7_rowsOfOthers σ ) fun (σ_6 : St) (t_7 : Int32) => bnd t_7 fun (x4_8 : Int32) => cl (fX7_firstRow σ_6 ) fun (σ_9 : St) (t_10 : Unit) => bnd (0 : Int32) fun (x5_11 : Int32) => fX4_searchA_L48 q1_18 q2_18 c3_18 x4_8 (fun (σ_21 : St) (x5_22 : Int32) => bnd (c3_18 + (1 : Int32)) fun (x3_23 : Int32) => fX4_searchA_L18 q1_18 q2_18 kx18 n18 σ_21 x3_23) FU σ_9 x5_11)
def fX4_searchA (σ : St) (p1 : Int32) (p2 : Int32) : Option (St × Unit) :=
  cl (fX4_countRowsA σ ) fun (σ_1 : St) (t_2 : Unit) => cl (fJ7_fill_53178_i54 σ_1 (((1 : Int32) <<< (p1 &&& 31)) - (1 : Int32))) fun (σ_3 : St) (t_4 : Unit) => bnd (0 : Int32) fun (x3_5 : Int32) => fX4_searchA_L18 p1 p2 (fun (σ_24 : St) (x3_25 : Int32) => some (σ_24, ())) FU σ_3 x3_5
set_option maxRecDepth 20000 in
set_option maxHeartbeats 4000000 in
theorem sX4_searchA_L48 {X : CX} {a : Nat → Nat} {D : va_G} {tI tJ tB tS : ClassId} {kK kV : Nat → Nat} {q1_48 : Int32} {q2_48 : Int32} {q3_48 : Int32} {q4_48 : Int32} {kx48 : St → Int32 → Option (St × Unit)} {r : St × Unit} (hX : OKX X (vC a D tI tJ tB tS kK kV) cX4_search 6 RX4 3 74) (hR : ∀ (pc : Nat) (lv : List (Nat × Value)), decode cX4_search pc = .ok (.return_, 1) → G X (vC a D tI tJ tB tS kK kV) 6 r.1 pc lv []) (hkx48 : ∀ (σ : St) (e5_48 : Int32), kx48 σ e5_48 = some r → G X (vC a D tI tJ tB tS kK kV) 6 σ 91 [(0, .ref (a 53)), (1, .int q1_48), (2, .int q2_48), (3, .int q3_48)] []) : ∀ (n : Nat) (σ : St) (c5_48 : Int32), fX4_searchA_L48 q1_48 q2_48 q3_48 q4_48 kx48 n σ c5_48 = some r → G X (vC a D tI tJ tB tS kK kV) 6 σ 48 [(0, .ref (a 53)), (1, .int q1_48), (2, .int q2_48), (3, .int q3_48), (4, .int q4_48), (5, .int c5_48)] [] := by
  intro n
  induction n with
  | zero => intro σ c5_48 h; rw [fX4_searchA_L48] at h; exact absurd h (by simp)
  | succ n48 ih48 =>
    intro σ c5_48 h
    rw [fX4_searchA_L48] at h
    refine g_iload hX 5 dX4_search_48 rfl ?_
    refine g_iload hX 4 dX4_search_50 rfl ?_
    refine g_icmp_ge hX 91 dX4_search_52 (by decide) h (fun h => ?_) (fun h => ?_)
    · exact g_sub [0, 1, 2, 3] rfl (hkx48 _ _ h)
    · refine g_aload_n hX 0 dX4_search_55 rfl rfl ?_
      refine gCX4_23_53 hX dX4_search_56 ?_
      refine g_callNV (As := []) (rest := []) hX 43 (Nat.le_of_ble_eq_true rfl) rfl rfl miX7_readRow mvX7_readRow lkX4_128 (by decide) rfl (Nat.le_of_ble_eq_true rfl) rfl dX4_search_59 (fun τ x ho => kX7_readRow _ ho) h (fun σ_12 t_13 h => ?_)
      refine g_aload_n hX 0 dX4_search_62 rfl rfl ?_
      refine gCX4_23_53 hX dX4_search_63 ?_
      refine g_iload_n hX 3 dX4_search_66 rfl rfl ?_
      refine g_callNV (As := [.int q3_48]) (rest := []) hX 43 (Nat.le_of_ble_eq_true rfl) rfl rfl miX7_weigh mvX7_weigh lkX4_131 (by decide) rfl (Nat.le_of_ble_eq_true rfl) rfl dX4_search_67 (fun τ x ho => kX7_weigh _ ho) h (fun σ_14 t_15 h => ?_)
      refine g_aload_n hX 0 dX4_search_70 rfl rfl ?_
      refine g_iload_n hX 3 dX4_search_71 rfl rfl ?_
      refine g_iload_n hX 1 dX4_search_72 rfl rfl ?_
      refine g_iload_n hX 2 dX4_search_73 rfl rfl ?_
      refine g_callVV (As := [.int q3_48, .int q1_48, .int q2_48]) (rest := []) hX 53 (Nat.le_of_ble_eq_true rfl) rfl rfl miX4_strikeCases mvX4_strikeCases lkX4_134 (by decide) rfl (Nat.le_of_ble_eq_true rfl) rfl dX4_search_74 (fun τ x ho => kX4_strikeCases _ ho) h (fun σ_16 t_17 h => ?_)
      refine g_aload_n hX 0 dX4_search_77 rfl rfl ?_
      refine gCX4_23_53 hX dX4_search_78 ?_
      refine g_iload_n hX 3 dX4_search_81 rfl rfl ?_
      refine g_callNV (As := [.int q3_48]) (rest := []) hX 43 (Nat.le_of_ble_eq_true rfl) rfl rfl miX7_nextRow mvX7_nextRow lkX4_138 (by decide) rfl (Nat.le_of_ble_eq_true rfl) rfl dX4_search_82 (fun τ x ho => kX7_nextRow _ ho) h (fun σ_18 t_19 h => ?_)
      refine g_iinc (y := (1)) (lv' := fun x5_20 => [(5, .int x5_20), (0, .ref (a 53)), (1, .int q1_48), (2, .int q2_48), (3, .int q3_48), (4, .int q4_48)]) hX 5 dX4_search_85 rfl (by decide) (by decide) (fun _ => rfl) h (fun x5_20 h => ?_)
      refine g_goto hX 48 dX4_search_88 (by decide) ?_
      exact g_sub [1, 2, 3, 4, 5, 0] rfl (ih48 _ _ h)
set_option maxRecDepth 20000 in
set_option maxHeartbeats 4000000 in
theorem sX4_searchA_L18 {X : CX} {a : Nat → Nat} {D : va_G} {tI tJ tB tS : ClassId} {kK kV : Nat → Nat} {q1_18 : Int32} {q2_18 : Int32} {kx18 : St → Int32 → Option (St × Unit)} {r : St × Unit} (hX : OKX X (vC a D tI tJ tB tS kK kV) cX4_search 6 RX4 3 74) (hR : ∀ (pc : Nat) (lv : List (Nat × Value)), decode cX4_search pc = .ok (.return_, 1) → G X (vC a D tI tJ tB tS kK kV) 6 r.1 pc lv []) (hkx18 : ∀ (σ : St) (e3_18 : Int32), kx18 σ e3_18 = some r → G X (vC a D tI tJ tB tS kK kV) 6 σ 97 [] []) : ∀ (n : Nat) (σ : St) (c3_18 : Int32), fX4_searchA_L18 q1_18 q2_18 kx18 n σ c3_18 = some r → G X (vC a D tI tJ tB tS kK kV) 6 σ 18 [(0, .ref (a 53)), (1, .int q1_18), (2, .int q2_18), (3, .int c3_18)] [] := by
  intro n
  induction n with
  | zero => intro σ c3_18 h; rw [fX4_searchA_L18] at h; exact absurd h (by simp)
  | succ n18 ih18 =>
    intro σ c3_18 h
    rw [fX4_searchA_L18] at h
    refine g_iload_n hX 3 dX4_search_18 rfl rfl ?_
    refine g_aload_n hX 0 dX4_search_19 rfl rfl ?_
    refine gCX4_9_53 hX dX4_search_20 ?_
    refine gCX4_106_2 hX dX4_search_23 ?_
    refine g_icmp_ge hX 97 dX4_search_26 (by decide) h (fun h => ?_) (fun h => ?_)
    · exact g_sub [] rfl (hkx18 _ _ h)
    · refine g_aload_n hX 0 dX4_search_29 rfl rfl ?_
      refine gCX4_23_53 hX dX4_search_30 ?_
      refine g_callNI (As := []) (rest := []) hX 43 (Nat.le_of_ble_eq_true rfl) rfl rfl miX7_rowsOfOthers mvX7_rowsOfOthers lkX4_121 (by decide) rfl (Nat.le_of_ble_eq_true rfl) rfl dX4_search_33 (fun τ x ho => kX7_rowsOfOthers _ ho) h (fun σ_6 t_7 h => ?_)
      refine g_istore (lv' := fun x4_8 => [(4, .int x4_8), (0, .ref (a 53)), (1, .int q1_18), (2, .int q2_18), (3, .int c3_18)]) hX dX4_search_36 (by decide) (fun _ => rfl) h (fun x4_8 h => ?_)
      refine g_aload_n hX 1 dX4_search_38 rfl rfl ?_
      refine gCX4_23_53 hX dX4_search_39 ?_
      refine g_callNV (As := []) (rest := []) hX 43 (Nat.le_of_ble_eq_true rfl) rfl rfl miX7_firstRow mvX7_firstRow lkX4_125 (by decide) rfl (Nat.le_of_ble_eq_true rfl) rfl dX4_search_42 (fun τ x ho => kX7_firstRow _ ho) h (fun σ_9 t_10 h => ?_)
      refine g_iconst hX (0) dX4_search_45 (by decide) ?_
      refine g_istore (lv' := fun x5_11 => [(5, .int x5_11), (4, .int x4_8), (0, .ref (a 53)), (1, .int q1_18), (2, .int q2_18), (3, .int c3_18)]) hX dX4_search_46 (by decide) (fun _ => rfl) h (fun x5_11 h => ?_)
      refine g_sub [2, 3, 4, 5, 1, 0] rfl (sX4_searchA_L48 hX hR (fun σ_21 x5_22 h => ?_) FU _ _ h)
      refine g_iinc (y := (1)) (lv' := fun x3_23 => [(3, .int x3_23), (0, .ref (a 53)), (1, .int q1_18), (2, .int q2_18)]) hX 3 dX4_search_91 rfl (by decide) (by decide) (fun _ => rfl) h (fun x3_23 h => ?_)
      refine g_goto hX 18 dX4_search_94 (by decide) ?_
      exact g_sub [1, 2, 3, 0] rfl (ih18 _ _ h)
set_option maxRecDepth 20000 in
set_option maxHeartbeats 4000000 in
theorem sX4_searchA {X : CX} {a : Nat → Nat} {D : va_G} {tI tJ tB tS : ClassId} {kK kV : Nat → Nat} {σ : St}  {p1 : Int32} {p2 : Int32} {r : St × Unit} (hX : OKX X (vC a D tI tJ tB tS kK kV) cX4_search 6 RX4 3 74) (hb : hB X) (hR : ∀ (pc : Nat) (lv : List (Nat × Value)), decode cX4_search pc = .ok (.return_, 1) → G X (vC a D tI tJ tB tS kK kV) 6 r.1 pc lv []) (hR1 : ∀ (M pc : Nat) (lv : List (Nat × Value)), decode cX4_search pc = .ok (.return_, 1) → G (bmp X) (vC (upA a M) D tI tJ tB tS kK kV) 6 r.1 pc lv []) (h : fX4_searchA σ p1 p2 = some r) : G X (vC a D tI tJ tB tS kK kV) 6 σ 0 [(0, .ref (a 53)), (1, .int p1), (2, .int p2)] [] := by
  unfold fX4_searchA at h
  refine g_aload_n hX 0 dX4_search_0 rfl rfl ?_
  refine g_callAVV (As := []) (rest := []) hX hb 53 (Nat.le_of_ble_eq_true rfl) rfl rfl miX4_countRows mvX4_countRows lkX4_118 (by decide) rfl (Nat.le_of_ble_eq_true rfl) rfl dX4_search_1 (fun τ x ho => kX4_countRowsA _ ho) h (fun m54 σ_1 t_2 h => ?_)
  have hX1 := okx_bmp hX hb m54
  have hR2 := hR1 m54
  show G (bmp X) (vC (upA a m54) D tI tJ tB tS kK kV) 6 σ_1 4 [(0, .ref (upA a m54 53)), (1, .int p1), (2, .int p2)] []
  generalize upA a m54 = a1 at hX1 hR2 ⊢
  generalize bmp X = X1 at hX1 hR2 ⊢
  refine g_aload_n hX1 0 dX4_search_4 rfl rfl ?_
  refine gCX4_27_53 hX1 dX4_search_5 ?_
  refine g_iconst hX1 (1) dX4_search_8 (by decide) ?_
  refine g_iload_n hX1 1 dX4_search_9 rfl rfl ?_
  refine g_ishl hX1 dX4_search_10 ?_
  refine g_iconst hX1 (1) dX4_search_11 (by decide) ?_
  refine g_isub hX1 dX4_search_12 ?_
  refine g_callSV (As := [.ref (a1 54), .int (((1 : Int32) <<< (p1 &&& 31)) - (1 : Int32))]) (rest := []) hX1 miJ7_fill_53178 mvJ7_fill_53178 lkX4_74 (by decide) rfl (Nat.le_of_ble_eq_true rfl) rfl dX4_search_13 (fun τ x ho => kJ7_fill_53178_i54 _ ho) h (fun σ_3 t_4 h => ?_)
  refine g_iconst hX1 (0) dX4_search_16 (by decide) ?_
  refine g_istore_n (lv' := fun x3_5 => [(3, .int x3_5), (0, .ref (a1 53)), (1, .int p1), (2, .int p2)]) hX1 dX4_search_17 rfl (by decide) (fun _ => rfl) h (fun x3_5 h => ?_)
  refine g_sub [1, 2, 3, 0] rfl (sX4_searchA_L18 hX1 hR2 (fun σ_24 x3_25 h => ?_) FU _ _ h)
  exact g_retv hR2 h dX4_search_97
set_option maxRecDepth 20000 in
set_option maxHeartbeats 4000000 in
theorem kX4_searchA (l : Launch) {a : Nat → Nat} {D : va_G} {tI tJ tB tS : ClassId} {kK kV : Nat → Nat} {σ τ : St} {p1 : Int32} {p2 : Int32} {x : Unit} (h : fX4_searchA σ p1 p2 = some (τ, x)) : CtVA l yX4_search cX4_search 6 none 3 74 a D tI tJ tB tS kK kV σ [.ref (a 53), .int p1, .int p2] τ x := g_metVA (by decide) (Nat.le_of_ble_eq_true rfl) rfl (fun X _ hX hb hR hR1 => sX4_searchA (r := (τ, x)) hX hb hR hR1 h)
def fX4_findA (σ : St)  : Option (St × Unit) :=
  (if (σ.1 53 9) = 0 then cl (fX7_open σ (σ.1 22 4)) fun (σ_1 : St) (t_2 : Unit) => chk (inb (0 : Int32) 21) (bnd (sI σ_1 56 (ix (0 : Int32)) (σ_1.1 43 15)) fun (σ_3 : St) => cl (fX4_searchA σ_3 (1 : Int32) (-1 : Int32)) fun (σ_4 : St) (t_5 : Unit) => chk (isB (1 : Int32)) (bnd (sI σ_4 53 9 (1 : Int32)) fun (σ_6 : St) => some (σ_6, ()))) else some (σ, ()))
set_option maxRecDepth 20000 in
set_option maxHeartbeats 4000000 in
theorem sX4_findA {X : CX} {a : Nat → Nat} {D : va_G} {tI tJ tB tS : ClassId} {kK kV : Nat → Nat} {σ : St}   {r : St × Unit} (hX : OKX X (vC a D tI tJ tB tS kK kV) cX4_find 1 RX4 5 111) (hb : hB X) (hR : ∀ (pc : Nat) (lv : List (Nat × Value)), decode cX4_find pc = .ok (.return_, 1) → G X (vC a D tI tJ tB tS kK kV) 1 r.1 pc lv []) (hR1 : ∀ (M pc : Nat) (lv : List (Nat × Value)), decode cX4_find pc = .ok (.return_, 1) → G (bmp X) (vC (upA a M) D tI tJ tB tS kK kV) 1 r.1 pc lv []) (h : fX4_findA σ  = some r) : G X (vC a D tI tJ tB tS kK kV) 1 σ 0 [(0, .ref (a 53))] [] := by
  unfold fX4_findA at h
  refine g_aload_n hX 0 dX4_find_0 rfl rfl ?_
  refine gCX4_44_53 hX dX4_find_1 ?_
  refine g_if_ne hX 45 dX4_find_4 (by decide) h (fun h => ?_) (fun h => ?_)
  · exact g_retv hR h dX4_find_45
  · refine g_aload_n hX 0 dX4_find_7 rfl rfl ?_
    refine gCX4_23_53 hX dX4_find_8 ?_
    refine g_aload_n hX 0 dX4_find_11 rfl rfl ?_
    refine gCX4_15_53 hX dX4_find_12 ?_
    refine gCX4_48_22 hX dX4_find_15 ?_
    refine g_callNV (As := [.int (σ.1 22 4)]) (rest := []) hX 43 (Nat.le_of_ble_eq_true rfl) rfl rfl miX7_open mvX7_open lkX4_53 (by decide) rfl (Nat.le_of_ble_eq_true rfl) rfl dX4_find_18 (fun τ x ho => kX7_open _ ho) h (fun σ_1 t_2 h => ?_)
    refine g_aload_n hX 0 dX4_find_21 rfl rfl ?_
    refine gCX4_34_53 hX dX4_find_22 ?_
    refine g_iconst hX (0) dX4_find_25 (by decide) ?_
    refine g_aload_n hX 0 dX4_find_26 rfl rfl ?_
    refine gCX4_23_53 hX dX4_find_27 ?_
    refine gCX4_59_43 hX dX4_find_30 ?_
    refine asC_56 hX dX4_find_33 h (fun σ_3 h => ?_)
    refine g_aload_n hX 0 dX4_find_34 rfl rfl ?_
    refine g_iconst hX (1) dX4_find_35 (by decide) ?_
    refine g_iconst hX (-1) dX4_find_36 (by decide) ?_
    refine g_callAVV (As := [.int (1 : Int32), .int (-1 : Int32)]) (rest := []) hX hb 53 (Nat.le_of_ble_eq_true rfl) rfl rfl miX4_search mvX4_search lkX4_61 (by decide) rfl (Nat.le_of_ble_eq_true rfl) rfl dX4_find_37 (fun τ x ho => kX4_searchA _ ho) h (fun m54 σ_4 t_5 h => ?_)
    have hX1 := okx_bmp hX hb m54
    have hR2 := hR1 m54
    show G (bmp X) (vC (upA a m54) D tI tJ tB tS kK kV) 1 σ_4 40 [(0, .ref (upA a m54 53))] []
    generalize upA a m54 = a1 at hX1 hR2 ⊢
    generalize bmp X = X1 at hX1 hR2 ⊢
    refine g_aload_n hX1 0 dX4_find_40 rfl rfl ?_
    refine g_iconst hX1 (1) dX4_find_41 (by decide) ?_
    refine pCX4_44_53 hX1 dX4_find_42 h (fun σ_6 h => ?_)
    exact g_retv hR2 h dX4_find_45
set_option maxRecDepth 20000 in
set_option maxHeartbeats 4000000 in
theorem kX4_findA (l : Launch) {a : Nat → Nat} {D : va_G} {tI tJ tB tS : ClassId} {kK kV : Nat → Nat} {σ τ : St}  {x : Unit} (h : fX4_findA σ  = some (τ, x)) : CtVA l yX4_find cX4_find 1 none 5 111 a D tI tJ tB tS kK kV σ [.ref (a 53)] τ x := g_metVA (by decide) (Nat.le_of_ble_eq_true rfl) rfl (fun X _ hX hb hR hR1 => sX4_findA (r := (τ, x)) hX hb hR hR1 h)
def fX8_restsA (σ : St) (p1 : Int32) : Option (St × Int32) :=
  (if (σ.1 2 0) = 0 then some (σ, (-1 : Int32)) else (if (-1 : Int32) ≤ p1 then cl (fX4_findA σ ) fun (σ_1 : St) (t_2 : Unit) => (if p1 = (-1 : Int32) then cl (fX4_howMany σ_1 (0 : Int32)) fun (σ_7 : St) (t_8 : Int32) => some (σ_7, t_8) else cl (fX4_place σ_1 (0 : Int32) p1) fun (σ_3 : St) (t_4 : Int32) => cl (fX4_codeOf σ_3 t_4) fun (σ_5 : St) (t_6 : Int32) => some (σ_5, t_6)) else some (σ, (-1 : Int32))))
set_option maxRecDepth 20000 in
set_option maxHeartbeats 4000000 in
theorem sX8_restsA {X : CX} {a : Nat → Nat} {D : va_G} {tI tJ tB tS : ClassId} {kK kV : Nat → Nat} {σ : St}  {p1 : Int32} {r : St × Int32} (hX : OKX X (vC a D tI tJ tB tS kK kV) cX8_rests 2 RX8 6 131) (hb : hB X) (hR : ∀ (pc : Nat) (lv : List (Nat × Value)), decode cX8_rests pc = .ok (.ireturn, 1) → G X (vC a D tI tJ tB tS kK kV) 2 r.1 pc lv [.int r.2]) (hR1 : ∀ (M pc : Nat) (lv : List (Nat × Value)), decode cX8_rests pc = .ok (.ireturn, 1) → G (bmp X) (vC (upA a M) D tI tJ tB tS kK kV) 2 r.1 pc lv [.int r.2]) (h : fX8_restsA σ p1 = some r) : G X (vC a D tI tJ tB tS kK kV) 2 σ 0 [(0, .ref (a 0)), (1, .int p1)] [] := by
  unfold fX8_restsA at h
  refine g_aload_n hX 0 dX8_rests_0 rfl rfl ?_
  refine gCX8_27_0 hX dX8_rests_1 ?_
  refine gCX8_118_2 hX dX8_rests_4 ?_
  refine g_if_eq hX 15 dX8_rests_7 (by decide) h (fun h => ?_) (fun h => ?_)
  · refine g_iconst hX (-1) dX8_rests_15 (by decide) ?_
    exact g_reti hR h dX8_rests_16
  · refine g_iload_n hX 1 dX8_rests_10 rfl rfl ?_
    refine g_iconst hX (-1) dX8_rests_11 (by decide) ?_
    refine g_icmp_ge hX 17 dX8_rests_12 (by decide) h (fun h => ?_) (fun h => ?_)
    · refine g_aload_n hX 0 dX8_rests_17 rfl rfl ?_
      refine gCX8_64_0 hX dX8_rests_18 ?_
      refine g_callANV (As := []) (rest := []) hX hb 53 (Nat.le_of_ble_eq_true rfl) rfl rfl miX4_find mvX4_find lkX8_202 (by decide) rfl (Nat.le_of_ble_eq_true rfl) rfl dX8_rests_21 (fun τ x ho => kX4_findA _ ho) h (fun m54 σ_1 t_2 h => ?_)
      have hX1 := okx_bmp hX hb m54
      have hR2 := hR1 m54
      show G (bmp X) (vC (upA a m54) D tI tJ tB tS kK kV) 2 σ_1 24 [(0, .ref (upA a m54 0)), (1, .int p1)] []
      generalize upA a m54 = a1 at hX1 hR2 ⊢
      generalize bmp X = X1 at hX1 hR2 ⊢
      refine g_iload_n hX1 1 dX8_rests_24 rfl rfl ?_
      refine g_iconst hX1 (-1) dX8_rests_25 (by decide) ?_
      refine g_icmp_ne hX1 40 dX8_rests_26 (by decide) h (fun h => ?_) (fun h => ?_)
      · refine g_aload_n hX1 0 dX8_rests_40 rfl rfl ?_
        refine gCX8_64_0 hX1 dX8_rests_41 ?_
        refine g_aload_n hX1 0 dX8_rests_44 rfl rfl ?_
        refine gCX8_64_0 hX1 dX8_rests_45 ?_
        refine g_iconst hX1 (0) dX8_rests_48 (by decide) ?_
        refine g_iload_n hX1 1 dX8_rests_49 rfl rfl ?_
        refine g_callNI (As := [.int (0 : Int32), .int p1]) (rest := [.ref (a1 53)]) hX1 53 (Nat.le_of_ble_eq_true rfl) rfl rfl miX4_place mvX4_place lkX8_208 (by decide) rfl (Nat.le_of_ble_eq_true rfl) rfl dX8_rests_50 (fun τ x ho => kX4_place _ ho) h (fun σ_3 t_4 h => ?_)
        refine g_callNI (As := [.int t_4]) (rest := []) hX1 53 (Nat.le_of_ble_eq_true rfl) rfl rfl miX4_codeOf mvX4_codeOf lkX8_211 (by decide) rfl (Nat.le_of_ble_eq_true rfl) rfl dX8_rests_53 (fun τ x ho => kX4_codeOf _ ho) h (fun σ_5 t_6 h => ?_)
        exact g_reti hR2 h dX8_rests_56
      · refine g_aload_n hX1 0 dX8_rests_29 rfl rfl ?_
        refine gCX8_64_0 hX1 dX8_rests_30 ?_
        refine g_iconst hX1 (0) dX8_rests_33 (by decide) ?_
        refine g_callNI (As := [.int (0 : Int32)]) (rest := []) hX1 53 (Nat.le_of_ble_eq_true rfl) rfl rfl miX4_howMany mvX4_howMany lkX8_205 (by decide) rfl (Nat.le_of_ble_eq_true rfl) rfl dX8_rests_34 (fun τ x ho => kX4_howMany _ ho) h (fun σ_7 t_8 h => ?_)
        refine g_goto hX1 56 dX8_rests_37 (by decide) ?_
        exact g_reti hR2 h dX8_rests_56
    · refine g_iconst hX (-1) dX8_rests_15 (by decide) ?_
      exact g_reti hR h dX8_rests_16
set_option maxRecDepth 20000 in
set_option maxHeartbeats 4000000 in
theorem kX8_restsA (l : Launch) {a : Nat → Nat} {D : va_G} {tI tJ tB tS : ClassId} {kK kV : Nat → Nat} {σ τ : St} {p1 : Int32} {x : Int32} (h : fX8_restsA σ p1 = some (τ, x)) : CtIA l yX8_rests cX8_rests 2 (some .int) 6 131 a D tI tJ tB tS kK kV σ [.ref (a 0), .int p1] τ x := g_metIA (by decide) (Nat.le_of_ble_eq_true rfl) rfl (fun X _ hX hb hR hR1 => sX8_restsA (r := (τ, x)) hX hb hR hR1 h)
def fX4_tryQuietLawsA_L15 (q1_15 : Int32) (kx15 : St → Int32 → Option (St × Unit)) : Nat → St → Int32 → Option (St × Unit)
  | 0, _, _ => none
  | n15 + 1, σ, c2_15 =>
    (if (σ.1 19 0) < c2_15 then kx15 σ c2_15 else cl (fX2_free σ (c2_15 - (1 : Int32)) (σ.1 2 2)) fun (σ_5 : St) (t_6 : Int32) => chk (inb c2_15 21) (bnd (sI σ_5 56 (ix c2_15) t_6) fun (σ_7 : St) => bnd (c2_15 + (1 : Int32)) fun (x2_8 : Int32) => fX4_tryQuietLawsA_L15 q1_15 kx15 n15 σ_7 x2_8))
def fX4_tryQuietLawsA_L71 (q1_71 : Int32) (kx71 : St → Int32 → Option (St × Unit)) : Nat → St → Int32 → Option (St × Unit)
  | 0, _, _ => none
  | n71 + 1, σ, c2_71 =>
    (if (σ.1 19 0) < c2_71 then kx71 σ c2_71 else cl (fX4_meanByFirst σ q1_71 c2_71) fun (σ_14 : St) (t_15 : Int32) => chk (inb c2_71 7) (bnd (sI σ_14 57 (ix c2_71) t_15) fun (σ_16 : St) => bnd (c2_71 + (1 : Int32)) fun (x2_17 : Int32) => fX4_tryQuietLawsA_L71 q1_71 kx71 n71 σ_16 x2_17))
def fX4_tryQuietLawsA (σ : St) (p1 : Int32) : Option (St × Unit) :=
  chk (isB (0 : Int32)) (bnd (sI σ 53 9 (0 : Int32)) fun (σ_1 : St) => cl (fX7_open σ_1 (-1 : Int32)) fun (σ_2 : St) (t_3 : Unit) => bnd (0 : Int32) fun (x2_4 : Int32) => fX4_tryQuietLawsA_L15 p1 (fun (σ_9 : St) (x2_10 : Int32) => cl (fX4_searchA σ_9 ((σ_9.1 19 0) + (1 : Int32)) (-1 : Int32)) fun (σ_11 : St) (t_12 : Unit) => bnd (0 : Int32) fun (x2_13 : Int32) => fX4_tryQuietLawsA_L71 p1 (fun (σ_18 : St) (x2_19 : Int32) => some (σ_18, ())) FU σ_11 x2_13) FU σ_2 x2_4)
set_option maxRecDepth 20000 in
set_option maxHeartbeats 4000000 in
theorem sX4_tryQuietLawsA_L15 {X : CX} {a : Nat → Nat} {D : va_G} {tI tJ tB tS : ClassId} {kK kV : Nat → Nat} {q1_15 : Int32} {kx15 : St → Int32 → Option (St × Unit)} {r : St × Unit} (hX : OKX X (vC a D tI tJ tB tS kK kV) cX4_tryQuietLaws 3 RX4 6 139) (hR : ∀ (pc : Nat) (lv : List (Nat × Value)), decode cX4_tryQuietLaws pc = .ok (.return_, 1) → G X (vC a D tI tJ tB tS kK kV) 3 r.1 pc lv []) (hkx15 : ∀ (σ : St) (e2_15 : Int32), kx15 σ e2_15 = some r → G X (vC a D tI tJ tB tS kK kV) 3 σ 55 [(0, .ref (a 53)), (1, .int q1_15)] []) : ∀ (n : Nat) (σ : St) (c2_15 : Int32), fX4_tryQuietLawsA_L15 q1_15 kx15 n σ c2_15 = some r → G X (vC a D tI tJ tB tS kK kV) 3 σ 15 [(0, .ref (a 53)), (1, .int q1_15), (2, .int c2_15)] [] := by
  intro n
  induction n with
  | zero => intro σ c2_15 h; rw [fX4_tryQuietLawsA_L15] at h; exact absurd h (by simp)
  | succ n15 ih15 =>
    intro σ c2_15 h
    rw [fX4_tryQuietLawsA_L15] at h
    refine g_iload_n hX 2 dX4_tryQuietLaws_15 rfl rfl ?_
    refine g_aload_n hX 0 dX4_tryQuietLaws_16 rfl rfl ?_
    refine gCX4_19_53 hX dX4_tryQuietLaws_17 ?_
    refine gCX4_87_19 hX dX4_tryQuietLaws_20 ?_
    refine g_icmp_gt hX 55 dX4_tryQuietLaws_23 (by decide) h (fun h => ?_) (fun h => ?_)
    · exact g_sub [0, 1] rfl (hkx15 _ _ h)
    · refine g_aload_n hX 0 dX4_tryQuietLaws_26 rfl rfl ?_
      refine gCX4_34_53 hX dX4_tryQuietLaws_27 ?_
      refine g_iload_n hX 2 dX4_tryQuietLaws_30 rfl rfl ?_
      refine g_aload_n hX 0 dX4_tryQuietLaws_31 rfl rfl ?_
      refine gCX4_19_53 hX dX4_tryQuietLaws_32 ?_
      refine g_iload_n hX 2 dX4_tryQuietLaws_35 rfl rfl ?_
      refine g_iconst hX (1) dX4_tryQuietLaws_36 (by decide) ?_
      refine g_isub hX dX4_tryQuietLaws_37 ?_
      refine g_aload_n hX 0 dX4_tryQuietLaws_38 rfl rfl ?_
      refine gCX4_9_53 hX dX4_tryQuietLaws_39 ?_
      refine gCX4_92_2 hX dX4_tryQuietLaws_42 ?_
      refine g_callNI (As := [.int (c2_15 - (1 : Int32)), .int (σ.1 2 2)]) (rest := [.int c2_15, .ref (a 56)]) hX 19 (Nat.le_of_ble_eq_true rfl) rfl rfl miX2_free mvX2_free lkX4_97 (by decide) rfl (Nat.le_of_ble_eq_true rfl) rfl dX4_tryQuietLaws_45 (fun τ x ho => kX2_free _ ho) h (fun σ_5 t_6 h => ?_)
      refine asC_56 hX dX4_tryQuietLaws_48 h (fun σ_7 h => ?_)
      refine g_iinc (y := (1)) (lv' := fun x2_8 => [(2, .int x2_8), (0, .ref (a 53)), (1, .int q1_15)]) hX 2 dX4_tryQuietLaws_49 rfl (by decide) (by decide) (fun _ => rfl) h (fun x2_8 h => ?_)
      refine g_goto hX 15 dX4_tryQuietLaws_52 (by decide) ?_
      exact g_sub [1, 2, 0] rfl (ih15 _ _ h)
set_option maxRecDepth 20000 in
set_option maxHeartbeats 4000000 in
theorem sX4_tryQuietLawsA_L71 {X : CX} {a : Nat → Nat} {D : va_G} {tI tJ tB tS : ClassId} {kK kV : Nat → Nat} {q1_71 : Int32} {kx71 : St → Int32 → Option (St × Unit)} {r : St × Unit} (hX : OKX X (vC a D tI tJ tB tS kK kV) cX4_tryQuietLaws 3 RX4 6 139) (hR : ∀ (pc : Nat) (lv : List (Nat × Value)), decode cX4_tryQuietLaws pc = .ok (.return_, 1) → G X (vC a D tI tJ tB tS kK kV) 3 r.1 pc lv []) (hkx71 : ∀ (σ : St) (e2_71 : Int32), kx71 σ e2_71 = some r → G X (vC a D tI tJ tB tS kK kV) 3 σ 100 [] []) : ∀ (n : Nat) (σ : St) (c2_71 : Int32), fX4_tryQuietLawsA_L71 q1_71 kx71 n σ c2_71 = some r → G X (vC a D tI tJ tB tS kK kV) 3 σ 71 [(0, .ref (a 53)), (1, .int q1_71), (2, .int c2_71)] [] := by
  intro n
  induction n with
  | zero => intro σ c2_71 h; rw [fX4_tryQuietLawsA_L71] at h; exact absurd h (by simp)
  | succ n71 ih71 =>
    intro σ c2_71 h
    rw [fX4_tryQuietLawsA_L71] at h
    refine g_iload_n hX 2 dX4_tryQuietLaws_71 rfl rfl ?_
    refine g_aload_n hX 0 dX4_tryQuietLaws_72 rfl rfl ?_
    refine gCX4_19_53 hX dX4_tryQuietLaws_73 ?_
    refine gCX4_87_19 hX dX4_tryQuietLaws_76 ?_
    refine g_icmp_gt hX 100 dX4_tryQuietLaws_79 (by decide) h (fun h => ?_) (fun h => ?_)
    · exact g_sub [] rfl (hkx71 _ _ h)
    · refine g_aload_n hX 0 dX4_tryQuietLaws_82 rfl rfl ?_
      refine gCX4_37_53 hX dX4_tryQuietLaws_83 ?_
      refine g_iload_n hX 2 dX4_tryQuietLaws_86 rfl rfl ?_
      refine g_aload_n hX 0 dX4_tryQuietLaws_87 rfl rfl ?_
      refine g_iload_n hX 1 dX4_tryQuietLaws_88 rfl rfl ?_
      refine g_iload_n hX 2 dX4_tryQuietLaws_89 rfl rfl ?_
      refine g_callVI (As := [.int q1_71, .int c2_71]) (rest := [.int c2_71, .ref (a 57)]) hX 53 (Nat.le_of_ble_eq_true rfl) rfl rfl miX4_meanByFirst mvX4_meanByFirst lkX4_99 (by decide) rfl (Nat.le_of_ble_eq_true rfl) rfl dX4_tryQuietLaws_90 (fun τ x ho => kX4_meanByFirst _ ho) h (fun σ_14 t_15 h => ?_)
      refine asC_57 hX dX4_tryQuietLaws_93 h (fun σ_16 h => ?_)
      refine g_iinc (y := (1)) (lv' := fun x2_17 => [(2, .int x2_17), (0, .ref (a 53)), (1, .int q1_71)]) hX 2 dX4_tryQuietLaws_94 rfl (by decide) (by decide) (fun _ => rfl) h (fun x2_17 h => ?_)
      refine g_goto hX 71 dX4_tryQuietLaws_97 (by decide) ?_
      exact g_sub [1, 2, 0] rfl (ih71 _ _ h)
set_option maxRecDepth 20000 in
set_option maxHeartbeats 4000000 in
theorem sX4_tryQuietLawsA {X : CX} {a : Nat → Nat} {D : va_G} {tI tJ tB tS : ClassId} {kK kV : Nat → Nat} {σ : St}  {p1 : Int32} {r : St × Unit} (hX : OKX X (vC a D tI tJ tB tS kK kV) cX4_tryQuietLaws 3 RX4 6 139) (hb : hB X) (hR : ∀ (pc : Nat) (lv : List (Nat × Value)), decode cX4_tryQuietLaws pc = .ok (.return_, 1) → G X (vC a D tI tJ tB tS kK kV) 3 r.1 pc lv []) (hR1 : ∀ (M pc : Nat) (lv : List (Nat × Value)), decode cX4_tryQuietLaws pc = .ok (.return_, 1) → G (bmp X) (vC (upA a M) D tI tJ tB tS kK kV) 3 r.1 pc lv []) (h : fX4_tryQuietLawsA σ p1 = some r) : G X (vC a D tI tJ tB tS kK kV) 3 σ 0 [(0, .ref (a 53)), (1, .int p1)] [] := by
  unfold fX4_tryQuietLawsA at h
  refine g_aload_n hX 0 dX4_tryQuietLaws_0 rfl rfl ?_
  refine g_iconst hX (0) dX4_tryQuietLaws_1 (by decide) ?_
  refine pCX4_44_53 hX dX4_tryQuietLaws_2 h (fun σ_1 h => ?_)
  refine g_aload_n hX 0 dX4_tryQuietLaws_5 rfl rfl ?_
  refine gCX4_23_53 hX dX4_tryQuietLaws_6 ?_
  refine g_iconst hX (-1) dX4_tryQuietLaws_9 (by decide) ?_
  refine g_callNV (As := [.int (-1 : Int32)]) (rest := []) hX 43 (Nat.le_of_ble_eq_true rfl) rfl rfl miX7_open mvX7_open lkX4_53 (by decide) rfl (Nat.le_of_ble_eq_true rfl) rfl dX4_tryQuietLaws_10 (fun τ x ho => kX7_open _ ho) h (fun σ_2 t_3 h => ?_)
  refine g_iconst hX (0) dX4_tryQuietLaws_13 (by decide) ?_
  refine g_istore_n (lv' := fun x2_4 => [(2, .int x2_4), (0, .ref (a 53)), (1, .int p1)]) hX dX4_tryQuietLaws_14 rfl (by decide) (fun _ => rfl) h (fun x2_4 h => ?_)
  refine g_sub [1, 2, 0] rfl (sX4_tryQuietLawsA_L15 hX hR (fun σ_9 x2_10 h => ?_) FU _ _ h)
  refine g_aload_n hX 0 dX4_tryQuietLaws_55 rfl rfl ?_
  refine g_aload_n hX 0 dX4_tryQuietLaws_56 rfl rfl ?_
  refine gCX4_19_53 hX dX4_tryQuietLaws_57 ?_
  refine gCX4_87_19 hX dX4_tryQuietLaws_60 ?_
  refine g_iconst hX (1) dX4_tryQuietLaws_63 (by decide) ?_
  refine g_iadd hX dX4_tryQuietLaws_64 ?_
  refine g_iconst hX (-1) dX4_tryQuietLaws_65 (by decide) ?_
  refine g_callAVV (As := [.int ((σ_9.1 19 0) + (1 : Int32)), .int (-1 : Int32)]) (rest := []) hX hb 53 (Nat.le_of_ble_eq_true rfl) rfl rfl miX4_search mvX4_search lkX4_61 (by decide) rfl (Nat.le_of_ble_eq_true rfl) rfl dX4_tryQuietLaws_66 (fun τ x ho => kX4_searchA _ ho) h (fun m54 σ_11 t_12 h => ?_)
  have hX1 := okx_bmp hX hb m54
  have hR2 := hR1 m54
  show G (bmp X) (vC (upA a m54) D tI tJ tB tS kK kV) 3 σ_11 69 [(0, .ref (upA a m54 53)), (1, .int p1)] []
  generalize upA a m54 = a1 at hX1 hR2 ⊢
  generalize bmp X = X1 at hX1 hR2 ⊢
  refine g_iconst hX1 (0) dX4_tryQuietLaws_69 (by decide) ?_
  refine g_istore_n (lv' := fun x2_13 => [(2, .int x2_13), (0, .ref (a1 53)), (1, .int p1)]) hX1 dX4_tryQuietLaws_70 rfl (by decide) (fun _ => rfl) h (fun x2_13 h => ?_)
  refine g_sub [1, 2, 0] rfl (sX4_tryQuietLawsA_L71 hX1 hR2 (fun σ_18 x2_19 h => ?_) FU _ _ h)
  exact g_retv hR2 h dX4_tryQuietLaws_100
set_option maxRecDepth 20000 in
set_option maxHeartbeats 4000000 in
theorem kX4_tryQuietLawsA (l : Launch) {a : Nat → Nat} {D : va_G} {tI tJ tB tS : ClassId} {kK kV : Nat → Nat} {σ τ : St} {p1 : Int32} {x : Unit} (h : fX4_tryQuietLawsA σ p1 = some (τ, x)) : CtVA l yX4_tryQuietLaws cX4_tryQuietLaws 3 none 6 139 a D tI tJ tB tS kK kV σ [.ref (a 53), .int p1] τ x := g_metVA (by decide) (Nat.le_of_ble_eq_true rfl) rfl (fun X _ hX hb hR hR1 => sX4_tryQuietLawsA (r := (τ, x)) hX hb hR hR1 h)
def fX8_bestLawA (σ : St) (p1 : Int32) (p2 : Int32) : Option (St × Int32) :=
  cl (fX6_hasSort σ p1) fun (σ_1 : St) (t_2 : Int32) => (if t_2 = 0 then some (σ_1, (-1 : Int32)) else (if p2 < 0 then some (σ_1, (-1 : Int32)) else (if p2 ≤ (1 : Int32) then cl (fX4_tryQuietLawsA σ_1 p1) fun (σ_3 : St) (t_4 : Unit) => cl (fX4_tryShouts σ_3 p1) fun (σ_5 : St) (t_6 : Unit) => cl (fX4_bestCase σ_5 ) fun (σ_7 : St) (t_8 : Int32) => bnd t_8 fun (x3_9 : Int32) => (if x3_9 = (-1 : Int32) then some (σ_7, (-1 : Int32)) else (if p2 = (1 : Int32) then chk (inb x3_9 7) (some (σ_7, (σ_7.1 57 (ix x3_9)))) else (if x3_9 = 0 then some (σ_7, (9 : Int32)) else some (σ_7, (x3_9 - (1 : Int32)))))) else some (σ_1, (-1 : Int32)))))
set_option maxRecDepth 20000 in
set_option maxHeartbeats 4000000 in
theorem sX8_bestLawA {X : CX} {a : Nat → Nat} {D : va_G} {tI tJ tB tS : ClassId} {kK kV : Nat → Nat} {σ : St}  {p1 : Int32} {p2 : Int32} {r : St × Int32} (hX : OKX X (vC a D tI tJ tB tS kK kV) cX8_bestLaw 4 RX8 7 163) (hb : hB X) (hR : ∀ (pc : Nat) (lv : List (Nat × Value)), decode cX8_bestLaw pc = .ok (.ireturn, 1) → G X (vC a D tI tJ tB tS kK kV) 4 r.1 pc lv [.int r.2]) (hR1 : ∀ (M pc : Nat) (lv : List (Nat × Value)), decode cX8_bestLaw pc = .ok (.ireturn, 1) → G (bmp X) (vC (upA a M) D tI tJ tB tS kK kV) 4 r.1 pc lv [.int r.2]) (h : fX8_bestLawA σ p1 p2 = some r) : G X (vC a D tI tJ tB tS kK kV) 4 σ 0 [(0, .ref (a 0)), (1, .int p1), (2, .int p2)] [] := by
  unfold fX8_bestLawA at h
  refine g_aload_n hX 0 dX8_bestLaw_0 rfl rfl ?_
  refine gCX8_27_0 hX dX8_bestLaw_1 ?_
  refine g_iload_n hX 1 dX8_bestLaw_4 rfl rfl ?_
  refine g_callNI (As := [.int p1]) (rest := []) hX 2 (Nat.le_of_ble_eq_true rfl) rfl rfl miX6_hasSort mvX6_hasSort lkX8_214 (by decide) rfl (Nat.le_of_ble_eq_true rfl) rfl dX8_bestLaw_5 (fun τ x ho => kX6_hasSort _ ho) h (fun σ_1 t_2 h => ?_)
  refine g_if_eq hX 20 dX8_bestLaw_8 (by decide) h (fun h => ?_) (fun h => ?_)
  · refine g_iconst hX (-1) dX8_bestLaw_20 (by decide) ?_
    exact g_reti hR h dX8_bestLaw_21
  · refine g_iload_n hX 2 dX8_bestLaw_11 rfl rfl ?_
    refine g_if_lt hX 20 dX8_bestLaw_12 (by decide) h (fun h => ?_) (fun h => ?_)
    · refine g_iconst hX (-1) dX8_bestLaw_20 (by decide) ?_
      exact g_reti hR h dX8_bestLaw_21
    · refine g_iload_n hX 2 dX8_bestLaw_15 rfl rfl ?_
      refine g_iconst hX (1) dX8_bestLaw_16 (by decide) ?_
      refine g_icmp_le hX 22 dX8_bestLaw_17 (by decide) h (fun h => ?_) (fun h => ?_)
      · refine g_aload_n hX 0 dX8_bestLaw_22 rfl rfl ?_
        refine gCX8_64_0 hX dX8_bestLaw_23 ?_
        refine g_iload_n hX 1 dX8_bestLaw_26 rfl rfl ?_
        refine g_callANV (As := [.int p1]) (rest := []) hX hb 53 (Nat.le_of_ble_eq_true rfl) rfl rfl miX4_tryQuietLaws mvX4_tryQuietLaws lkX8_302 (by decide) rfl (Nat.le_of_ble_eq_true rfl) rfl dX8_bestLaw_27 (fun τ x ho => kX4_tryQuietLawsA _ ho) h (fun m54 σ_3 t_4 h => ?_)
        have hX1 := okx_bmp hX hb m54
        have hR2 := hR1 m54
        show G (bmp X) (vC (upA a m54) D tI tJ tB tS kK kV) 4 σ_3 30 [(0, .ref (upA a m54 0)), (1, .int p1), (2, .int p2)] []
        generalize upA a m54 = a1 at hX1 hR2 ⊢
        generalize bmp X = X1 at hX1 hR2 ⊢
        refine g_aload_n hX1 0 dX8_bestLaw_30 rfl rfl ?_
        refine gCX8_64_0 hX1 dX8_bestLaw_31 ?_
        refine g_iload_n hX1 1 dX8_bestLaw_34 rfl rfl ?_
        refine g_callNV (As := [.int p1]) (rest := []) hX1 53 (Nat.le_of_ble_eq_true rfl) rfl rfl miX4_tryShouts mvX4_tryShouts lkX8_305 (by decide) rfl (Nat.le_of_ble_eq_true rfl) rfl dX8_bestLaw_35 (fun τ x ho => kX4_tryShouts _ ho) h (fun σ_5 t_6 h => ?_)
        refine g_aload_n hX1 0 dX8_bestLaw_38 rfl rfl ?_
        refine gCX8_64_0 hX1 dX8_bestLaw_39 ?_
        refine g_callNI (As := []) (rest := []) hX1 53 (Nat.le_of_ble_eq_true rfl) rfl rfl miX4_bestCase mvX4_bestCase lkX8_308 (by decide) rfl (Nat.le_of_ble_eq_true rfl) rfl dX8_bestLaw_42 (fun τ x ho => kX4_bestCase _ ho) h (fun σ_7 t_8 h => ?_)
        refine g_istore_n (lv' := fun x3_9 => [(3, .int x3_9), (0, .ref (a1 0)), (1, .int p1), (2, .int p2)]) hX1 dX8_bestLaw_45 rfl (by decide) (fun _ => rfl) h (fun x3_9 h => ?_)
        refine g_iload_n hX1 0 dX8_bestLaw_46 rfl rfl ?_
        refine g_iconst hX1 (-1) dX8_bestLaw_47 (by decide) ?_
        refine g_icmp_ne hX1 53 dX8_bestLaw_48 (by decide) h (fun h => ?_) (fun h => ?_)
        · refine g_iload_n hX1 3 dX8_bestLaw_53 rfl rfl ?_
          refine g_iconst hX1 (1) dX8_bestLaw_54 (by decide) ?_
          refine g_icmp_ne hX1 68 dX8_bestLaw_55 (by decide) h (fun h => ?_) (fun h => ?_)
          · refine g_iload_n hX1 0 dX8_bestLaw_68 rfl rfl ?_
            refine g_if_ne hX1 77 dX8_bestLaw_69 (by decide) h (fun h => ?_) (fun h => ?_)
            · refine g_iload_n hX1 0 dX8_bestLaw_77 rfl rfl ?_
              refine g_iconst hX1 (1) dX8_bestLaw_78 (by decide) ?_
              refine g_isub hX1 dX8_bestLaw_79 ?_
              exact g_reti hR2 h dX8_bestLaw_80
            · refine g_bipush hX1 (9) dX8_bestLaw_72 (by decide) ?_
              refine g_goto hX1 80 dX8_bestLaw_74 (by decide) ?_
              exact g_reti hR2 h dX8_bestLaw_80
          · refine g_aload_n hX1 1 dX8_bestLaw_58 rfl rfl ?_
            refine gCX8_64_0 hX1 dX8_bestLaw_59 ?_
            refine gCX8_312_53 hX1 dX8_bestLaw_62 ?_
            refine g_iload_n hX1 0 dX8_bestLaw_65 rfl rfl ?_
            refine alC_57 hX1 dX8_bestLaw_66 h (fun h => ?_)
            exact g_reti hR2 h dX8_bestLaw_67
        · refine g_iconst hX1 (-1) dX8_bestLaw_51 (by decide) ?_
          exact g_reti hR2 h dX8_bestLaw_52
      · refine g_iconst hX (-1) dX8_bestLaw_20 (by decide) ?_
        exact g_reti hR h dX8_bestLaw_21
set_option maxRecDepth 20000 in
set_option maxHeartbeats 4000000 in
theorem kX8_bestLawA (l : Launch) {a : Nat → Nat} {D : va_G} {tI tJ tB tS : ClassId} {kK kV : Nat → Nat} {σ τ : St} {p1 : Int32} {p2 : Int32} {x : Int32} (h : fX8_bestLawA σ p1 p2 = some (τ, x)) : CtIA l yX8_bestLaw cX8_bestLaw 4 (some .int) 7 163 a D tI tJ tB tS kK kV σ [.ref (a 0), .int p1, .int p2] τ x := g_metIA (by decide) (Nat.le_of_ble_eq_true rfl) rfl (fun X _ hX hb hR hR1 => sX8_bestLawA (r := (τ, x)) hX hb hR hR1 h)
def fX4_changingCostA_L76 (q1_76 : Int32) (q2_76 : Int32) (q3_76 : Int32) (q4_76 : Int32) (kx76 : St → Int32 → Option (St × Int32)) : Nat → St → Int32 → Option (St × Int32)
  | 0, _, _ => none
  | n76 + 1, σ, c5_76 =>
    (if q2_76 ≤ c5_76 then kx76 σ c5_76 else cl (fX4_howMany σ c5_76) fun (σ_17 : St) (t_18 : Int32) => (jp (fun (σ_19 : St)   => chk (inb q1_76 4) (some (σ_19, ((σ_19.1 25 (ix q1_76)) + c5_76)))) fun j104 => (if t_18 = q3_76 then cl (fX4_place σ_17 c5_76 (0 : Int32)) fun (σ_20 : St) (t_21 : Int32) => (if t_21 = q4_76 then bnd (c5_76 + (1 : Int32)) fun (x5_22 : Int32) => fX4_changingCostA_L76 q1_76 q2_76 q3_76 q4_76 kx76 n76 σ_20 x5_22 else j104 σ_20) else j104 σ_17)))
def fX4_changingCostA (σ : St) (p1 : Int32) : Option (St × Int32) :=
  chk (inb p1 4) (bnd (if ((99 : Int32) - (σ.1 25 (ix p1))) < (20 : Int32) then ((99 : Int32) - (σ.1 25 (ix p1))) else (20 : Int32)) fun (t_1 : Int32) => bnd ((1 : Int32) + t_1) fun (x2_2 : Int32) => cl (fX7_open σ (σ.1 22 4)) fun (σ_3 : St) (t_4 : Unit) => cl (fJ7_fill_53178_i56 σ_3 (σ_3.1 43 15)) fun (σ_5 : St) (t_6 : Unit) => cl (fX4_searchA σ_5 x2_2 p1) fun (σ_7 : St) (t_8 : Unit) => chk (isB (1 : Int32)) (bnd (sI σ_7 53 9 (1 : Int32)) fun (σ_9 : St) => cl (fX4_howMany σ_9 (0 : Int32)) fun (σ_10 : St) (t_11 : Int32) => bnd t_11 fun (x3_12 : Int32) => cl (fX4_place σ_10 (0 : Int32) (0 : Int32)) fun (σ_13 : St) (t_14 : Int32) => bnd t_14 fun (x4_15 : Int32) => bnd (1 : Int32) fun (x5_16 : Int32) => fX4_changingCostA_L76 p1 x2_2 x3_12 x4_15 (fun (σ_23 : St) (x5_24 : Int32) => some (σ_23, (-1 : Int32))) FU σ_13 x5_16))
set_option maxRecDepth 20000 in
set_option maxHeartbeats 4000000 in
theorem sX4_changingCostA_L76 {X : CX} {a : Nat → Nat} {D : va_G} {tI tJ tB tS : ClassId} {kK kV : Nat → Nat} {q1_76 : Int32} {q2_76 : Int32} {q3_76 : Int32} {q4_76 : Int32} {kx76 : St → Int32 → Option (St × Int32)} {r : St × Int32} (hX : OKX X (vC a D tI tJ tB tS kK kV) cX4_changingCost 6 RX4 5 111) (hR : ∀ (pc : Nat) (lv : List (Nat × Value)), decode cX4_changingCost pc = .ok (.ireturn, 1) → G X (vC a D tI tJ tB tS kK kV) 6 r.1 pc lv [.int r.2]) (hkx76 : ∀ (σ : St) (e5_76 : Int32), kx76 σ e5_76 = some r → G X (vC a D tI tJ tB tS kK kV) 6 σ 123 [] []) : ∀ (n : Nat) (σ : St) (c5_76 : Int32), fX4_changingCostA_L76 q1_76 q2_76 q3_76 q4_76 kx76 n σ c5_76 = some r → G X (vC a D tI tJ tB tS kK kV) 6 σ 76 [(0, .ref (a 53)), (1, .int q1_76), (2, .int q2_76), (3, .int q3_76), (4, .int q4_76), (5, .int c5_76)] [] := by
  intro n
  induction n with
  | zero => intro σ c5_76 h; rw [fX4_changingCostA_L76] at h; exact absurd h (by simp)
  | succ n76 ih76 =>
    intro σ c5_76 h
    rw [fX4_changingCostA_L76] at h
    refine g_iload hX 5 dX4_changingCost_76 rfl ?_
    refine g_iload_n hX 2 dX4_changingCost_78 rfl rfl ?_
    refine g_icmp_ge hX 123 dX4_changingCost_79 (by decide) h (fun h => ?_) (fun h => ?_)
    · exact g_sub [] rfl (hkx76 _ _ h)
    · refine g_aload_n hX 0 dX4_changingCost_82 rfl rfl ?_
      refine g_iload hX 5 dX4_changingCost_83 rfl ?_
      refine g_callVI (As := [.int c5_76]) (rest := []) hX 53 (Nat.le_of_ble_eq_true rfl) rfl rfl miX4_howMany mvX4_howMany lkX4_80 (by decide) rfl (Nat.le_of_ble_eq_true rfl) rfl dX4_changingCost_85 (fun τ x ho => kX4_howMany _ ho) h (fun σ_17 t_18 h => ?_)
      refine g_iload_n hX 3 dX4_changingCost_88 rfl rfl ?_
      refine jp_inv (P := fun f => ∀ (σ_19 : St)  , f σ_19 = some r → G X (vC a D tI tJ tB tS kK kV) 6 σ_19 104 [(0, .ref (a 53)), (1, .int q1_76), (5, .int c5_76)] []) h (fun σ_19 h => ?_) (fun j104 hj104 h => ?_)
      · refine g_aload_n hX 0 dX4_changingCost_104 rfl rfl ?_
        refine gCX4_15_53 hX dX4_changingCost_105 ?_
        refine gCX4_65_22 hX dX4_changingCost_108 ?_
        refine g_iload_n hX 1 dX4_changingCost_111 rfl rfl ?_
        refine alC_25 hX dX4_changingCost_112 h (fun h => ?_)
        refine g_iload hX 2 dX4_changingCost_113 rfl ?_
        refine g_iadd hX dX4_changingCost_115 ?_
        exact g_reti hR h dX4_changingCost_116
      refine g_icmp_ne hX 104 dX4_changingCost_89 (by decide) h (fun h => ?_) (fun h => ?_)
      · exact g_sub [0, 1, 5] rfl (hj104 _ h)
      · refine g_aload_n hX 0 dX4_changingCost_92 rfl rfl ?_
        refine g_iload hX 5 dX4_changingCost_93 rfl ?_
        refine g_iconst hX (0) dX4_changingCost_95 (by decide) ?_
        refine g_callVI (As := [.int c5_76, .int (0 : Int32)]) (rest := []) hX 53 (Nat.le_of_ble_eq_true rfl) rfl rfl miX4_place mvX4_place lkX4_84 (by decide) rfl (Nat.le_of_ble_eq_true rfl) rfl dX4_changingCost_96 (fun τ x ho => kX4_place _ ho) h (fun σ_20 t_21 h => ?_)
        refine g_iload hX 4 dX4_changingCost_99 rfl ?_
        refine g_icmp_eq hX 117 dX4_changingCost_101 (by decide) h (fun h => ?_) (fun h => ?_)
        · refine g_iinc (y := (1)) (lv' := fun x5_22 => [(5, .int x5_22), (0, .ref (a 53)), (1, .int q1_76), (2, .int q2_76), (3, .int q3_76), (4, .int q4_76)]) hX 5 dX4_changingCost_117 rfl (by decide) (by decide) (fun _ => rfl) h (fun x5_22 h => ?_)
          refine g_goto hX 76 dX4_changingCost_120 (by decide) ?_
          exact g_sub [1, 2, 3, 4, 5, 0] rfl (ih76 _ _ h)
        · exact g_sub [0, 1, 5] rfl (hj104 _ h)
set_option maxRecDepth 20000 in
set_option maxHeartbeats 4000000 in
theorem sX4_changingCostA {X : CX} {a : Nat → Nat} {D : va_G} {tI tJ tB tS : ClassId} {kK kV : Nat → Nat} {σ : St}  {p1 : Int32} {r : St × Int32} (hX : OKX X (vC a D tI tJ tB tS kK kV) cX4_changingCost 6 RX4 5 111) (hb : hB X) (hR : ∀ (pc : Nat) (lv : List (Nat × Value)), decode cX4_changingCost pc = .ok (.ireturn, 1) → G X (vC a D tI tJ tB tS kK kV) 6 r.1 pc lv [.int r.2]) (hR1 : ∀ (M pc : Nat) (lv : List (Nat × Value)), decode cX4_changingCost pc = .ok (.ireturn, 1) → G (bmp X) (vC (upA a M) D tI tJ tB tS kK kV) 6 r.1 pc lv [.int r.2]) (h : fX4_changingCostA σ p1 = some r) : G X (vC a D tI tJ tB tS kK kV) 6 σ 0 [(0, .ref (a 53)), (1, .int p1)] [] := by
  unfold fX4_changingCostA at h
  refine g_iconst hX (1) dX4_changingCost_0 (by decide) ?_
  refine g_bipush hX (20) dX4_changingCost_1 (by decide) ?_
  refine g_bipush hX (99) dX4_changingCost_3 (by decide) ?_
  refine g_aload_n hX 0 dX4_changingCost_5 rfl rfl ?_
  refine gCX4_15_53 hX dX4_changingCost_6 ?_
  refine gCX4_65_22 hX dX4_changingCost_9 ?_
  refine g_iload_n hX 1 dX4_changingCost_12 rfl rfl ?_
  refine alC_25 hX dX4_changingCost_13 h (fun h => ?_)
  refine g_isub hX dX4_changingCost_14 ?_
  refine g_mmin hX lkX4_68 mathS_minI mathI mathC_minI (by decide) (by decide) (Nat.le_of_ble_eq_true rfl) dX4_changingCost_15 h (fun t_1 h => ?_)
  refine g_iadd hX dX4_changingCost_18 ?_
  refine g_istore_n (lv' := fun x2_2 => [(2, .int x2_2), (0, .ref (a 53)), (1, .int p1)]) hX dX4_changingCost_19 rfl (by decide) (fun _ => rfl) h (fun x2_2 h => ?_)
  refine g_aload_n hX 1 dX4_changingCost_20 rfl rfl ?_
  refine gCX4_23_53 hX dX4_changingCost_21 ?_
  refine g_aload_n hX 1 dX4_changingCost_24 rfl rfl ?_
  refine gCX4_15_53 hX dX4_changingCost_25 ?_
  refine gCX4_48_22 hX dX4_changingCost_28 ?_
  refine g_callNV (As := [.int (σ.1 22 4)]) (rest := []) hX 43 (Nat.le_of_ble_eq_true rfl) rfl rfl miX7_open mvX7_open lkX4_53 (by decide) rfl (Nat.le_of_ble_eq_true rfl) rfl dX4_changingCost_31 (fun τ x ho => kX7_open _ ho) h (fun σ_3 t_4 h => ?_)
  refine g_aload_n hX 1 dX4_changingCost_34 rfl rfl ?_
  refine gCX4_34_53 hX dX4_changingCost_35 ?_
  refine g_aload_n hX 1 dX4_changingCost_38 rfl rfl ?_
  refine gCX4_23_53 hX dX4_changingCost_39 ?_
  refine gCX4_59_43 hX dX4_changingCost_42 ?_
  refine g_callSV (As := [.ref (a 56), .int (σ_3.1 43 15)]) (rest := []) hX miJ7_fill_53178 mvJ7_fill_53178 lkX4_74 (by decide) rfl (Nat.le_of_ble_eq_true rfl) rfl dX4_changingCost_45 (fun τ x ho => kJ7_fill_53178_i56 _ ho) h (fun σ_5 t_6 h => ?_)
  refine g_aload_n hX 1 dX4_changingCost_48 rfl rfl ?_
  refine g_iload_n hX 0 dX4_changingCost_49 rfl rfl ?_
  refine g_iload_n hX 2 dX4_changingCost_50 rfl rfl ?_
  refine g_callAVV (As := [.int x2_2, .int p1]) (rest := []) hX hb 53 (Nat.le_of_ble_eq_true rfl) rfl rfl miX4_search mvX4_search lkX4_61 (by decide) rfl (Nat.le_of_ble_eq_true rfl) rfl dX4_changingCost_51 (fun τ x ho => kX4_searchA _ ho) h (fun m54 σ_7 t_8 h => ?_)
  have hX1 := okx_bmp hX hb m54
  have hR2 := hR1 m54
  show G (bmp X) (vC (upA a m54) D tI tJ tB tS kK kV) 6 σ_7 54 [(2, .int x2_2), (0, .ref (upA a m54 53)), (1, .int p1)] []
  generalize upA a m54 = a1 at hX1 hR2 ⊢
  generalize bmp X = X1 at hX1 hR2 ⊢
  refine g_aload_n hX1 1 dX4_changingCost_54 rfl rfl ?_
  refine g_iconst hX1 (1) dX4_changingCost_55 (by decide) ?_
  refine pCX4_44_53 hX1 dX4_changingCost_56 h (fun σ_9 h => ?_)
  refine g_aload_n hX1 1 dX4_changingCost_59 rfl rfl ?_
  refine g_iconst hX1 (0) dX4_changingCost_60 (by decide) ?_
  refine g_callVI (As := [.int (0 : Int32)]) (rest := []) hX1 53 (Nat.le_of_ble_eq_true rfl) rfl rfl miX4_howMany mvX4_howMany lkX4_80 (by decide) rfl (Nat.le_of_ble_eq_true rfl) rfl dX4_changingCost_61 (fun τ x ho => kX4_howMany _ ho) h (fun σ_10 t_11 h => ?_)
  refine g_istore_n (lv' := fun x3_12 => [(3, .int x3_12), (2, .int x2_2), (0, .ref (a1 53)), (1, .int p1)]) hX1 dX4_changingCost_64 rfl (by decide) (fun _ => rfl) h (fun x3_12 h => ?_)
  refine g_aload_n hX1 2 dX4_changingCost_65 rfl rfl ?_
  refine g_iconst hX1 (0) dX4_changingCost_66 (by decide) ?_
  refine g_iconst hX1 (0) dX4_changingCost_67 (by decide) ?_
  refine g_callVI (As := [.int (0 : Int32), .int (0 : Int32)]) (rest := []) hX1 53 (Nat.le_of_ble_eq_true rfl) rfl rfl miX4_place mvX4_place lkX4_84 (by decide) rfl (Nat.le_of_ble_eq_true rfl) rfl dX4_changingCost_68 (fun τ x ho => kX4_place _ ho) h (fun σ_13 t_14 h => ?_)
  refine g_istore (lv' := fun x4_15 => [(4, .int x4_15), (3, .int x3_12), (2, .int x2_2), (0, .ref (a1 53)), (1, .int p1)]) hX1 dX4_changingCost_71 (by decide) (fun _ => rfl) h (fun x4_15 h => ?_)
  refine g_iconst hX1 (1) dX4_changingCost_73 (by decide) ?_
  refine g_istore (lv' := fun x5_16 => [(5, .int x5_16), (4, .int x4_15), (3, .int x3_12), (2, .int x2_2), (0, .ref (a1 53)), (1, .int p1)]) hX1 dX4_changingCost_74 (by decide) (fun _ => rfl) h (fun x5_16 h => ?_)
  refine g_sub [4, 5, 3, 2, 1, 0] rfl (sX4_changingCostA_L76 hX1 hR2 (fun σ_23 x5_24 h => ?_) FU _ _ h)
  refine g_iconst hX1 (-1) dX4_changingCost_123 (by decide) ?_
  exact g_reti hR2 h dX4_changingCost_124
set_option maxRecDepth 20000 in
set_option maxHeartbeats 4000000 in
theorem kX4_changingCostA (l : Launch) {a : Nat → Nat} {D : va_G} {tI tJ tB tS : ClassId} {kK kV : Nat → Nat} {σ τ : St} {p1 : Int32} {x : Int32} (h : fX4_changingCostA σ p1 = some (τ, x)) : CtIA l yX4_changingCost cX4_changingCost 6 (some .int) 5 111 a D tI tJ tB tS kK kV σ [.ref (a 53), .int p1] τ x := g_metIA (by decide) (Nat.le_of_ble_eq_true rfl) rfl (fun X _ hX hb hR hR1 => sX4_changingCostA (r := (τ, x)) hX hb hR hR1 h)
def fX8_edgeA (σ : St) (p1 : Int32) : Option (St × Int32) :=
  cl (fX6_hasBaker σ p1) fun (σ_1 : St) (t_2 : Int32) => (if t_2 = 0 then some (σ_1, (-1 : Int32)) else cl (fX4_changingCostA σ_1 p1) fun (σ_3 : St) (t_4 : Int32) => some (σ_3, t_4))
set_option maxRecDepth 20000 in
set_option maxHeartbeats 4000000 in
theorem sX8_edgeA {X : CX} {a : Nat → Nat} {D : va_G} {tI tJ tB tS : ClassId} {kK kV : Nat → Nat} {σ : St}  {p1 : Int32} {r : St × Int32} (hX : OKX X (vC a D tI tJ tB tS kK kV) cX8_edge 2 RX8 6 136) (hb : hB X) (hR : ∀ (pc : Nat) (lv : List (Nat × Value)), decode cX8_edge pc = .ok (.ireturn, 1) → G X (vC a D tI tJ tB tS kK kV) 2 r.1 pc lv [.int r.2]) (hR1 : ∀ (M pc : Nat) (lv : List (Nat × Value)), decode cX8_edge pc = .ok (.ireturn, 1) → G (bmp X) (vC (upA a M) D tI tJ tB tS kK kV) 2 r.1 pc lv [.int r.2]) (h : fX8_edgeA σ p1 = some r) : G X (vC a D tI tJ tB tS kK kV) 2 σ 0 [(0, .ref (a 0)), (1, .int p1)] [] := by
  unfold fX8_edgeA at h
  refine g_aload_n hX 0 dX8_edge_0 rfl rfl ?_
  refine gCX8_27_0 hX dX8_edge_1 ?_
  refine g_iload_n hX 1 dX8_edge_4 rfl rfl ?_
  refine g_callNI (As := [.int p1]) (rest := []) hX 2 (Nat.le_of_ble_eq_true rfl) rfl rfl miX6_hasBaker mvX6_hasBaker lkX8_125 (by decide) rfl (Nat.le_of_ble_eq_true rfl) rfl dX8_edge_5 (fun τ x ho => kX6_hasBaker _ ho) h (fun σ_1 t_2 h => ?_)
  refine g_if_eq hX 22 dX8_edge_8 (by decide) h (fun h => ?_) (fun h => ?_)
  · refine g_iconst hX (-1) dX8_edge_22 (by decide) ?_
    exact g_reti hR h dX8_edge_23
  · refine g_aload_n hX 0 dX8_edge_11 rfl rfl ?_
    refine gCX8_64_0 hX dX8_edge_12 ?_
    refine g_iload_n hX 1 dX8_edge_15 rfl rfl ?_
    refine g_callANI (As := [.int p1]) (rest := []) hX hb 53 (Nat.le_of_ble_eq_true rfl) rfl rfl miX4_changingCost mvX4_changingCost lkX8_315 (by decide) rfl (Nat.le_of_ble_eq_true rfl) rfl dX8_edge_16 (fun τ x ho => kX4_changingCostA _ ho) h (fun m54 σ_3 t_4 h => ?_)
    have hX1 := okx_bmp hX hb m54
    have hR2 := hR1 m54
    show G (bmp X) (vC (upA a m54) D tI tJ tB tS kK kV) 2 σ_3 19 [(0, .ref (upA a m54 0)), (1, .int p1)] [.int t_4]
    generalize upA a m54 = a1 at hX1 hR2 ⊢
    generalize bmp X = X1 at hX1 hR2 ⊢
    refine g_goto hX1 23 dX8_edge_19 (by decide) ?_
    exact g_reti hR2 h dX8_edge_23
set_option maxRecDepth 20000 in
set_option maxHeartbeats 4000000 in
theorem kX8_edgeA (l : Launch) {a : Nat → Nat} {D : va_G} {tI tJ tB tS : ClassId} {kK kV : Nat → Nat} {σ τ : St} {p1 : Int32} {x : Int32} (h : fX8_edgeA σ p1 = some (τ, x)) : CtIA l yX8_edge cX8_edge 2 (some .int) 6 136 a D tI tJ tB tS kK kV σ [.ref (a 0), .int p1] τ x := g_metIA (by decide) (Nat.le_of_ble_eq_true rfl) rfl (fun X _ hX hb hR hR1 => sX8_edgeA (r := (τ, x)) hX hb hR hR1 h)
