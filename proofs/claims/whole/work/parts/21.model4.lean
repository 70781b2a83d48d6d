def fX9_part (σ : St) (p1 : Int32) (p2 : Int32) : Option (St × Int32) :=
  cl (fX9_isBaker σ p1) fun (σ_1 : St) (t_2 : Int32) => (if t_2 = 0 then some (σ_1, (-1 : Int32)) else cl (fX9_isIn σ_1 p2 (0 : Int32) (7 : Int32)) fun (σ_3 : St) (t_4 : Int32) => (if t_4 = 0 then some (σ_3, (-1 : Int32)) else cl (fX9_areReady σ_3 ) fun (σ_5 : St) (t_6 : Int32) => (if t_6 = 0 then some (σ_5, (-1 : Int32)) else chk (inb (((8 : Int32) * p1) + p2) 32) (some (σ_5, (σ_5.1 18 (ix (((8 : Int32) * p1) + p2))))))))
set_option maxRecDepth 20000 in
set_option maxHeartbeats 4000000 in
theorem sX9_part {X : CX} {a : Nat → Nat} {D : va_G} {tI tJ tB : ClassId} {zz : SV} {σ : St}  {p1 : Int32} {p2 : Int32} {r : St × Int32} (hX : OKX X (vM a D tI tJ tB zz) cX9_part 3 RX9 10 228) (hR : ∀ (pc : Nat) (lv : List (Nat × Value)), decode cX9_part pc = .ok (.ireturn, 1) → G X (vM a D tI tJ tB zz) 3 r.1 pc lv [.int r.2]) (h : fX9_part σ p1 p2 = some r) : G X (vM a D tI tJ tB zz) 3 σ 0 [(0, .ref (a 0)), (1, .int p1), (2, .int p2)] [] := by
  unfold fX9_part at h
  refine g_aload_n hX 0 dX9_part_0 rfl rfl ?_
  refine g_iload_n hX 1 dX9_part_1 rfl rfl ?_
  refine g_callVI (As := [.int p1]) (rest := []) hX 0 (Nat.le_of_ble_eq_true rfl) rfl rfl miX9_isBaker mvX9_isBaker lkX9_287 (by decide) rfl (Nat.le_of_ble_eq_true rfl) rfl dX9_part_2 (fun τ x ho => kX9_isBaker _ ho) h (fun σ_1 t_2 h => ?_)
  refine g_if_eq hX 39 dX9_part_5 (by decide) h (fun h => ?_) (fun h => ?_)
  · refine g_iconst hX (-1) dX9_part_39 (by decide) ?_
    exact g_reti hR h dX9_part_40
  · refine g_iload_n hX 2 dX9_part_8 rfl rfl ?_
    refine g_iconst hX (0) dX9_part_9 (by decide) ?_
    refine g_bipush hX (7) dX9_part_10 (by decide) ?_
    refine g_callSI (As := [.int p2, .int (0 : Int32), .int (7 : Int32)]) (rest := []) hX miX9_isIn mvX9_isIn lkX9_156 (by decide) rfl (Nat.le_of_ble_eq_true rfl) rfl dX9_part_12 (fun τ x ho => kX9_isIn _ ho) h (fun σ_3 t_4 h => ?_)
    refine g_if_eq hX 39 dX9_part_15 (by decide) h (fun h => ?_) (fun h => ?_)
    · refine g_iconst hX (-1) dX9_part_39 (by decide) ?_
      exact g_reti hR h dX9_part_40
    · refine g_aload_n hX 0 dX9_part_18 rfl rfl ?_
      refine g_callVI (As := []) (rest := []) hX 0 (Nat.le_of_ble_eq_true rfl) rfl rfl miX9_areReady mvX9_areReady lkX9_367 (by decide) rfl (Nat.le_of_ble_eq_true rfl) rfl dX9_part_19 (fun τ x ho => kX9_areReady _ ho) h (fun σ_5 t_6 h => ?_)
      refine g_if_eq hX 39 dX9_part_22 (by decide) h (fun h => ?_) (fun h => ?_)
      · refine g_iconst hX (-1) dX9_part_39 (by decide) ?_
        exact g_reti hR h dX9_part_40
      · refine g_aload_n hX 0 dX9_part_25 rfl rfl ?_
        refine gM_79 hX dX9_part_26 ?_
        refine g_bipush hX (8) dX9_part_29 (by decide) ?_
        refine g_iload_n hX 1 dX9_part_31 rfl rfl ?_
        refine g_imul hX dX9_part_32 ?_
        refine g_iload_n hX 2 dX9_part_33 rfl rfl ?_
        refine g_iadd hX dX9_part_34 ?_
        refine alM_18 hX dX9_part_35 h (fun h => ?_)
        refine g_goto hX 40 dX9_part_36 (by decide) ?_
        exact g_reti hR h dX9_part_40
set_option maxRecDepth 20000 in
set_option maxHeartbeats 4000000 in
theorem kX9_part (l : Launch) {a : Nat → Nat} {D : va_G} {tI tJ tB : ClassId} {zz : SV} {σ τ : St}  {p1 : Int32} {p2 : Int32} {x : Int32} (h : fX9_part σ p1 p2 = some (τ, x)) : CtI l yX9_part cX9_part 3 (some .int) 10 228 (vM a D tI tJ tB zz) σ [.ref (a 0), .int p1, .int p2] τ x := g_metI (by decide) (Nat.le_of_ble_eq_true rfl) rfl (fun X _ hX hR => sX9_part (r := (τ, x)) hX hR h)
def fX9_sold (σ : St) (p1 : Int32) : Option (St × Int64) :=
  cl (fX9_isBaker σ p1) fun (σ_1 : St) (t_2 : Int32) => (if t_2 = 0 then some (σ_1, (-1 : Int64)) else cl (fX9_areReady σ_1 ) fun (σ_3 : St) (t_4 : Int32) => (if t_4 = 0 then some (σ_3, (-1 : Int64)) else cl (fX9_sells σ_3 ) fun (σ_5 : St) (t_6 : Unit) => chk (inb p1 4) (some (σ_5, (σ_5.2 22 (ix p1))))))
set_option maxRecDepth 20000 in
set_option maxHeartbeats 4000000 in
theorem sX9_sold {X : CX} {a : Nat → Nat} {D : va_G} {tI tJ tB : ClassId} {zz : SV} {σ : St}  {p1 : Int32} {r : St × Int64} (hX : OKX X (vM a D tI tJ tB zz) cX9_sold 2 RX9 10 228) (hR : ∀ (pc : Nat) (lv : List (Nat × Value)), decode cX9_sold pc = .ok (.lreturn, 1) → G X (vM a D tI tJ tB zz) 2 r.1 pc lv [.long r.2]) (h : fX9_sold σ p1 = some r) : G X (vM a D tI tJ tB zz) 2 σ 0 [(0, .ref (a 0)), (1, .int p1)] [] := by
  unfold fX9_sold at h
  refine g_aload_n hX 0 dX9_sold_0 rfl rfl ?_
  refine g_iload_n hX 1 dX9_sold_1 rfl rfl ?_
  refine g_callVI (As := [.int p1]) (rest := []) hX 0 (Nat.le_of_ble_eq_true rfl) rfl rfl miX9_isBaker mvX9_isBaker lkX9_287 (by decide) rfl (Nat.le_of_ble_eq_true rfl) rfl dX9_sold_2 (fun τ x ho => kX9_isBaker _ ho) h (fun σ_1 t_2 h => ?_)
  refine g_if_eq hX 15 dX9_sold_5 (by decide) h (fun h => ?_) (fun h => ?_)
  · refine g_ldc2 hX lkX9_370 dX9_sold_15 ?_
    exact g_retl hR h dX9_sold_18
  · refine g_aload_n hX 0 dX9_sold_8 rfl rfl ?_
    refine g_callVI (As := []) (rest := []) hX 0 (Nat.le_of_ble_eq_true rfl) rfl rfl miX9_areReady mvX9_areReady lkX9_367 (by decide) rfl (Nat.le_of_ble_eq_true rfl) rfl dX9_sold_9 (fun τ x ho => kX9_areReady _ ho) h (fun σ_3 t_4 h => ?_)
    refine g_if_ne hX 19 dX9_sold_12 (by decide) h (fun h => ?_) (fun h => ?_)
    · refine g_aload_n hX 0 dX9_sold_19 rfl rfl ?_
      refine g_callVV (As := []) (rest := []) hX 0 (Nat.le_of_ble_eq_true rfl) rfl rfl miX9_sells mvX9_sells lkX9_351 (by decide) rfl (Nat.le_of_ble_eq_true rfl) rfl dX9_sold_20 (fun τ x ho => kX9_sells _ ho) h (fun σ_5 t_6 h => ?_)
      refine g_aload_n hX 0 dX9_sold_23 rfl rfl ?_
      refine gM_91 hX dX9_sold_24 ?_
      refine g_iload_n hX 1 dX9_sold_27 rfl rfl ?_
      refine alM_22 hX dX9_sold_28 h (fun h => ?_)
      exact g_retl hR h dX9_sold_29
    · refine g_ldc2 hX lkX9_370 dX9_sold_15 ?_
      exact g_retl hR h dX9_sold_18
set_option maxRecDepth 20000 in
set_option maxHeartbeats 4000000 in
theorem kX9_sold (l : Launch) {a : Nat → Nat} {D : va_G} {tI tJ tB : ClassId} {zz : SV} {σ τ : St}  {p1 : Int32} {x : Int64} (h : fX9_sold σ p1 = some (τ, x)) : CtL l yX9_sold cX9_sold 2 (some .long) 10 228 (vM a D tI tJ tB zz) σ [.ref (a 0), .int p1] τ x := g_metL (by decide) (Nat.le_of_ble_eq_true rfl) rfl (fun X _ hX hR => sX9_sold (r := (τ, x)) hX hR h)
def fX9_earns (σ : St) (p1 : Int32) : Option (St × Int64) :=
  cl (fX9_isBaker σ p1) fun (σ_1 : St) (t_2 : Int32) => (if t_2 = 0 then some (σ_1, (-1000000000000000000 : Int64)) else cl (fX9_areReady σ_1 ) fun (σ_3 : St) (t_4 : Int32) => (if t_4 = 0 then some (σ_3, (-1000000000000000000 : Int64)) else cl (fX9_sells σ_3 ) fun (σ_5 : St) (t_6 : Unit) => chk (inb p1 4) (some (σ_5, (σ_5.2 23 (ix p1))))))
set_option maxRecDepth 20000 in
set_option maxHeartbeats 4000000 in
theorem sX9_earns {X : CX} {a : Nat → Nat} {D : va_G} {tI tJ tB : ClassId} {zz : SV} {σ : St}  {p1 : Int32} {r : St × Int64} (hX : OKX X (vM a D tI tJ tB zz) cX9_earns 2 RX9 10 228) (hR : ∀ (pc : Nat) (lv : List (Nat × Value)), decode cX9_earns pc = .ok (.lreturn, 1) → G X (vM a D tI tJ tB zz) 2 r.1 pc lv [.long r.2]) (h : fX9_earns σ p1 = some r) : G X (vM a D tI tJ tB zz) 2 σ 0 [(0, .ref (a 0)), (1, .int p1)] [] := by
  unfold fX9_earns at h
  refine g_aload_n hX 0 dX9_earns_0 rfl rfl ?_
  refine g_iload_n hX 1 dX9_earns_1 rfl rfl ?_
  refine g_callVI (As := [.int p1]) (rest := []) hX 0 (Nat.le_of_ble_eq_true rfl) rfl rfl miX9_isBaker mvX9_isBaker lkX9_287 (by decide) rfl (Nat.le_of_ble_eq_true rfl) rfl dX9_earns_2 (fun τ x ho => kX9_isBaker _ ho) h (fun σ_1 t_2 h => ?_)
  refine g_if_eq hX 15 dX9_earns_5 (by decide) h (fun h => ?_) (fun h => ?_)
  · refine g_ldc2 hX lkX9_372 dX9_earns_15 ?_
    exact g_retl hR h dX9_earns_18
  · refine g_aload_n hX 0 dX9_earns_8 rfl rfl ?_
    refine g_callVI (As := []) (rest := []) hX 0 (Nat.le_of_ble_eq_true rfl) rfl rfl miX9_areReady mvX9_areReady lkX9_367 (by decide) rfl (Nat.le_of_ble_eq_true rfl) rfl dX9_earns_9 (fun τ x ho => kX9_areReady _ ho) h (fun σ_3 t_4 h => ?_)
    refine g_if_ne hX 19 dX9_earns_12 (by decide) h (fun h => ?_) (fun h => ?_)
    · refine g_aload_n hX 0 dX9_earns_19 rfl rfl ?_
      refine g_callVV (As := []) (rest := []) hX 0 (Nat.le_of_ble_eq_true rfl) rfl rfl miX9_sells mvX9_sells lkX9_351 (by decide) rfl (Nat.le_of_ble_eq_true rfl) rfl dX9_earns_20 (fun τ x ho => kX9_sells _ ho) h (fun σ_5 t_6 h => ?_)
      refine g_aload_n hX 0 dX9_earns_23 rfl rfl ?_
      refine gM_94 hX dX9_earns_24 ?_
      refine g_iload_n hX 1 dX9_earns_27 rfl rfl ?_
      refine alM_23 hX dX9_earns_28 h (fun h => ?_)
      exact g_retl hR h dX9_earns_29
    · refine g_ldc2 hX lkX9_372 dX9_earns_15 ?_
      exact g_retl hR h dX9_earns_18
set_option maxRecDepth 20000 in
set_option maxHeartbeats 4000000 in
theorem kX9_earns (l : Launch) {a : Nat → Nat} {D : va_G} {tI tJ tB : ClassId} {zz : SV} {σ τ : St}  {p1 : Int32} {x : Int64} (h : fX9_earns σ p1 = some (τ, x)) : CtL l yX9_earns cX9_earns 2 (some .long) 10 228 (vM a D tI tJ tB zz) σ [.ref (a 0), .int p1] τ x := g_metL (by decide) (Nat.le_of_ble_eq_true rfl) rfl (fun X _ hX hR => sX9_earns (r := (τ, x)) hX hR h)
def fX9_at (σ : St) (p1 : Int32) (p2 : Int32) : Option (St × Int64) :=
  cl (fX9_isBaker σ p1) fun (σ_1 : St) (t_2 : Int32) => (if t_2 = 0 then some (σ_1, (-1000000000000000000 : Int64)) else cl (fX9_isStep σ_1 p2) fun (σ_3 : St) (t_4 : Int32) => (if t_4 = 0 then some (σ_3, (-1000000000000000000 : Int64)) else cl (fX9_areReady σ_3 ) fun (σ_5 : St) (t_6 : Int32) => (if t_6 = 0 then some (σ_5, (-1000000000000000000 : Int64)) else cl (fX9_earnsAt σ_5 p1 p2) fun (σ_7 : St) (t_8 : Int64) => some (σ_7, t_8))))
set_option maxRecDepth 20000 in
set_option maxHeartbeats 4000000 in
theorem sX9_at {X : CX} {a : Nat → Nat} {D : va_G} {tI tJ tB : ClassId} {zz : SV} {σ : St}  {p1 : Int32} {p2 : Int32} {r : St × Int64} (hX : OKX X (vM a D tI tJ tB zz) cX9_at 3 RX9 10 228) (hR : ∀ (pc : Nat) (lv : List (Nat × Value)), decode cX9_at pc = .ok (.lreturn, 1) → G X (vM a D tI tJ tB zz) 3 r.1 pc lv [.long r.2]) (h : fX9_at σ p1 p2 = some r) : G X (vM a D tI tJ tB zz) 3 σ 0 [(0, .ref (a 0)), (1, .int p1), (2, .int p2)] [] := by
  unfold fX9_at at h
  refine g_aload_n hX 0 dX9_at_0 rfl rfl ?_
  refine g_iload_n hX 1 dX9_at_1 rfl rfl ?_
  refine g_callVI (As := [.int p1]) (rest := []) hX 0 (Nat.le_of_ble_eq_true rfl) rfl rfl miX9_isBaker mvX9_isBaker lkX9_287 (by decide) rfl (Nat.le_of_ble_eq_true rfl) rfl dX9_at_2 (fun τ x ho => kX9_isBaker _ ho) h (fun σ_1 t_2 h => ?_)
  refine g_if_eq hX 32 dX9_at_5 (by decide) h (fun h => ?_) (fun h => ?_)
  · refine g_ldc2 hX lkX9_372 dX9_at_32 ?_
    exact g_retl hR h dX9_at_35
  · refine g_aload_n hX 0 dX9_at_8 rfl rfl ?_
    refine g_iload_n hX 2 dX9_at_9 rfl rfl ?_
    refine g_callVI (As := [.int p2]) (rest := []) hX 0 (Nat.le_of_ble_eq_true rfl) rfl rfl miX9_isStep mvX9_isStep lkX9_290 (by decide) rfl (Nat.le_of_ble_eq_true rfl) rfl dX9_at_10 (fun τ x ho => kX9_isStep _ ho) h (fun σ_3 t_4 h => ?_)
    refine g_if_eq hX 32 dX9_at_13 (by decide) h (fun h => ?_) (fun h => ?_)
    · refine g_ldc2 hX lkX9_372 dX9_at_32 ?_
      exact g_retl hR h dX9_at_35
    · refine g_aload_n hX 0 dX9_at_16 rfl rfl ?_
      refine g_callVI (As := []) (rest := []) hX 0 (Nat.le_of_ble_eq_true rfl) rfl rfl miX9_areReady mvX9_areReady lkX9_367 (by decide) rfl (Nat.le_of_ble_eq_true rfl) rfl dX9_at_17 (fun τ x ho => kX9_areReady _ ho) h (fun σ_5 t_6 h => ?_)
      refine g_if_eq hX 32 dX9_at_20 (by decide) h (fun h => ?_) (fun h => ?_)
      · refine g_ldc2 hX lkX9_372 dX9_at_32 ?_
        exact g_retl hR h dX9_at_35
      · refine g_aload_n hX 0 dX9_at_23 rfl rfl ?_
        refine g_iload_n hX 1 dX9_at_24 rfl rfl ?_
        refine g_iload_n hX 2 dX9_at_25 rfl rfl ?_
        refine g_callVL (As := [.int p1, .int p2]) (rest := []) hX 0 (Nat.le_of_ble_eq_true rfl) rfl rfl miX9_earnsAt mvX9_earnsAt lkX9_357 (by decide) rfl (Nat.le_of_ble_eq_true rfl) rfl dX9_at_26 (fun τ x ho => kX9_earnsAt _ ho) h (fun σ_7 t_8 h => ?_)
        refine g_goto hX 35 dX9_at_29 (by decide) ?_
        exact g_retl hR h dX9_at_35
set_option maxRecDepth 20000 in
set_option maxHeartbeats 4000000 in
theorem kX9_at (l : Launch) {a : Nat → Nat} {D : va_G} {tI tJ tB : ClassId} {zz : SV} {σ τ : St}  {p1 : Int32} {p2 : Int32} {x : Int64} (h : fX9_at σ p1 p2 = some (τ, x)) : CtL l yX9_at cX9_at 3 (some .long) 10 228 (vM a D tI tJ tB zz) σ [.ref (a 0), .int p1, .int p2] τ x := g_metL (by decide) (Nat.le_of_ble_eq_true rfl) rfl (fun X _ hX hR => sX9_at (r := (τ, x)) hX hR h)
def fX9_best (σ : St) (p1 : Int32) : Option (St × Int32) :=
  cl (fX9_isBaker σ p1) fun (σ_1 : St) (t_2 : Int32) => (if t_2 = 0 then some (σ_1, (-1 : Int32)) else cl (fX9_areReady σ_1 ) fun (σ_3 : St) (t_4 : Int32) => (if t_4 = 0 then some (σ_3, (-1 : Int32)) else cl (fX9_bestOf σ_3 p1) fun (σ_5 : St) (t_6 : Int32) => some (σ_5, t_6)))
set_option maxRecDepth 20000 in
set_option maxHeartbeats 4000000 in
theorem sX9_best {X : CX} {a : Nat → Nat} {D : va_G} {tI tJ tB : ClassId} {zz : SV} {σ : St}  {p1 : Int32} {r : St × Int32} (hX : OKX X (vM a D tI tJ tB zz) cX9_best 2 RX9 10 228) (hR : ∀ (pc : Nat) (lv : List (Nat × Value)), decode cX9_best pc = .ok (.ireturn, 1) → G X (vM a D tI tJ tB zz) 2 r.1 pc lv [.int r.2]) (h : fX9_best σ p1 = some r) : G X (vM a D tI tJ tB zz) 2 σ 0 [(0, .ref (a 0)), (1, .int p1)] [] := by
  unfold fX9_best at h
  refine g_aload_n hX 0 dX9_best_0 rfl rfl ?_
  refine g_iload_n hX 1 dX9_best_1 rfl rfl ?_
  refine g_callVI (As := [.int p1]) (rest := []) hX 0 (Nat.le_of_ble_eq_true rfl) rfl rfl miX9_isBaker mvX9_isBaker lkX9_287 (by decide) rfl (Nat.le_of_ble_eq_true rfl) rfl dX9_best_2 (fun τ x ho => kX9_isBaker _ ho) h (fun σ_1 t_2 h => ?_)
  refine g_if_eq hX 23 dX9_best_5 (by decide) h (fun h => ?_) (fun h => ?_)
  · refine g_iconst hX (-1) dX9_best_23 (by decide) ?_
    exact g_reti hR h dX9_best_24
  · refine g_aload_n hX 0 dX9_best_8 rfl rfl ?_
    refine g_callVI (As := []) (rest := []) hX 0 (Nat.le_of_ble_eq_true rfl) rfl rfl miX9_areReady mvX9_areReady lkX9_367 (by decide) rfl (Nat.le_of_ble_eq_true rfl) rfl dX9_best_9 (fun τ x ho => kX9_areReady _ ho) h (fun σ_3 t_4 h => ?_)
    refine g_if_eq hX 23 dX9_best_12 (by decide) h (fun h => ?_) (fun h => ?_)
    · refine g_iconst hX (-1) dX9_best_23 (by decide) ?_
      exact g_reti hR h dX9_best_24
    · refine g_aload_n hX 0 dX9_best_15 rfl rfl ?_
      refine g_iload_n hX 1 dX9_best_16 rfl rfl ?_
      refine g_callVI (As := [.int p1]) (rest := []) hX 0 (Nat.le_of_ble_eq_true rfl) rfl rfl miX9_bestOf mvX9_bestOf lkX9_302 (by decide) rfl (Nat.le_of_ble_eq_true rfl) rfl dX9_best_17 (fun τ x ho => kX9_bestOf _ ho) h (fun σ_5 t_6 h => ?_)
      refine g_goto hX 24 dX9_best_20 (by decide) ?_
      exact g_reti hR h dX9_best_24
set_option maxRecDepth 20000 in
set_option maxHeartbeats 4000000 in
theorem kX9_best (l : Launch) {a : Nat → Nat} {D : va_G} {tI tJ tB : ClassId} {zz : SV} {σ τ : St}  {p1 : Int32} {x : Int32} (h : fX9_best σ p1 = some (τ, x)) : CtI l yX9_best cX9_best 2 (some .int) 10 228 (vM a D tI tJ tB zz) σ [.ref (a 0), .int p1] τ x := g_metI (by decide) (Nat.le_of_ble_eq_true rfl) rfl (fun X _ hX hR => sX9_best (r := (τ, x)) hX hR h)
def fX9_wouldRather (σ : St) (p1 : Int32) : Option (St × Int32) :=
  cl (fX9_sells σ ) fun (σ_1 : St) (t_2 : Unit) => chk (inb p1 4) (bnd (σ_1.2 23 (ix p1)) fun (x2_3 : Int64) => cl (fX9_bestOf σ_1 p1) fun (σ_4 : St) (t_5 : Int32) => (if t_5 = (-1 : Int32) then some (σ_4, (0 : Int32)) else (if (lg_cmp (σ_4.2 0 55) x2_3) ≤ 0 then some (σ_4, (0 : Int32)) else some (σ_4, (1 : Int32)))))
set_option maxRecDepth 20000 in
set_option maxHeartbeats 4000000 in
theorem sX9_wouldRather {X : CX} {a : Nat → Nat} {D : va_G} {tI tJ tB : ClassId} {zz : SV} {σ : St}  {p1 : Int32} {r : St × Int32} (hX : OKX X (vM a D tI tJ tB zz) cX9_wouldRather 4 RX9 8 186) (hR : (r.2 = 0 ∨ r.2 = 1) → ∀ (pc : Nat) (lv : List (Nat × Value)), decode cX9_wouldRather pc = .ok (.ireturn, 1) → G X (vM a D tI tJ tB zz) 4 r.1 pc lv [.int r.2]) (h : fX9_wouldRather σ p1 = some r) : G X (vM a D tI tJ tB zz) 4 σ 0 [(0, .ref (a 0)), (1, .int p1)] [] := by
  unfold fX9_wouldRather at h
  refine g_aload_n hX 0 dX9_wouldRather_0 rfl rfl ?_
  refine g_callVV (As := []) (rest := []) hX 0 (Nat.le_of_ble_eq_true rfl) rfl rfl miX9_sells mvX9_sells lkX9_351 (by decide) rfl (Nat.le_of_ble_eq_true rfl) rfl dX9_wouldRather_1 (fun τ x ho => kX9_sells _ ho) h (fun σ_1 t_2 h => ?_)
  refine g_aload_n hX 0 dX9_wouldRather_4 rfl rfl ?_
  refine gM_94 hX dX9_wouldRather_5 ?_
  refine g_iload_n hX 1 dX9_wouldRather_8 rfl rfl ?_
  refine alM_23 hX dX9_wouldRather_9 h (fun h => ?_)
  refine g_lstore_n (lv' := fun x2_3 => [(2, .long x2_3), (0, .ref (a 0)), (1, .int p1)]) hX dX9_wouldRather_10 rfl (by decide) (fun _ => rfl) h (fun x2_3 h => ?_)
  refine g_aload_n hX 1 dX9_wouldRather_11 rfl rfl ?_
  refine g_iload_n hX 2 dX9_wouldRather_12 rfl rfl ?_
  refine g_callVI (As := [.int p1]) (rest := []) hX 0 (Nat.le_of_ble_eq_true rfl) rfl rfl miX9_bestOf mvX9_bestOf lkX9_302 (by decide) rfl (Nat.le_of_ble_eq_true rfl) rfl dX9_wouldRather_13 (fun τ x ho => kX9_bestOf _ ho) h (fun σ_4 t_5 h => ?_)
  refine g_iconst hX (-1) dX9_wouldRather_16 (by decide) ?_
  refine g_icmp_eq hX 33 dX9_wouldRather_17 (by decide) h (fun h => ?_) (fun h => ?_)
  · refine g_iconst hX (0) dX9_wouldRather_33 (by decide) ?_
    exact g_retz hR (by decide) h dX9_wouldRather_34
  · refine g_aload_n hX 1 dX9_wouldRather_20 rfl rfl ?_
    refine gM_354 hX dX9_wouldRather_21 ?_
    refine g_lload_n hX 0 dX9_wouldRather_24 rfl rfl ?_
    refine g_lcmp hX dX9_wouldRather_25 ?_
    refine g_if_le hX 33 dX9_wouldRather_26 (by decide) h (fun h => ?_) (fun h => ?_)
    · refine g_iconst hX (0) dX9_wouldRather_33 (by decide) ?_
      exact g_retz hR (by decide) h dX9_wouldRather_34
    · refine g_iconst hX (1) dX9_wouldRather_29 (by decide) ?_
      refine g_goto hX 34 dX9_wouldRather_30 (by decide) ?_
      exact g_retz hR (by decide) h dX9_wouldRather_34
set_option maxRecDepth 20000 in
set_option maxHeartbeats 4000000 in
theorem kX9_wouldRather (l : Launch) {a : Nat → Nat} {D : va_G} {tI tJ tB : ClassId} {zz : SV} {σ τ : St}  {p1 : Int32} {x : Int32} (h : fX9_wouldRather σ p1 = some (τ, x)) : CtI l yX9_wouldRather cX9_wouldRather 4 (some .boolean) 8 186 (vM a D tI tJ tB zz) σ [.ref (a 0), .int p1] τ x := g_metZ (by decide) (Nat.le_of_ble_eq_true rfl) rfl (fun X _ hX hR => sX9_wouldRather (r := (τ, x)) hX hR h)
def fX9_judge_L12  (kx12 : St → Int32 → Option (St × Int32)) : Nat → St → Int32 → Option (St × Int32)
  | 0, _, _ => none
  | n12 + 1, σ, c1_12 =>
    (if (σ.1 0 0) ≤ c1_12 then kx12 σ c1_12 else cl (fX9_wouldRather σ c1_12) fun (σ_4 : St) (t_5 : Int32) => (if t_5 = 0 then bnd (c1_12 + (1 : Int32)) fun (x1_6 : Int32) => fX9_judge_L12 kx12 n12 σ_4 x1_6 else cl (fX9_bestOf σ_4 c1_12) fun (σ_7 : St) (t_8 : Int32) => some (σ_7, (((10 : Int32) * c1_12) + t_8))))
def fX9_judge (σ : St)  : Option (St × Int32) :=
  cl (fX9_areReady σ ) fun (σ_1 : St) (t_2 : Int32) => (if t_2 = 0 then some (σ_1, (-2 : Int32)) else bnd (0 : Int32) fun (x1_3 : Int32) => fX9_judge_L12  (fun (σ_9 : St) (x1_10 : Int32) => some (σ_9, (-1 : Int32))) FU σ_1 x1_3)
set_option maxRecDepth 20000 in
set_option maxHeartbeats 4000000 in
theorem sX9_judge_L12 {X : CX} {a : Nat → Nat} {D : va_G} {tI tJ tB : ClassId} {zz : SV}  {kx12 : St → Int32 → Option (St × Int32)} {r : St × Int32} (hX : OKX X (vM a D tI tJ tB zz) cX9_judge 2 RX9 10 228) (hR : ∀ (pc : Nat) (lv : List (Nat × Value)), decode cX9_judge pc = .ok (.ireturn, 1) → G X (vM a D tI tJ tB zz) 2 r.1 pc lv [.int r.2]) (hkx12 : ∀ (σ : St) (e1_12 : Int32), kx12 σ e1_12 = some r → G X (vM a D tI tJ tB zz) 2 σ 45 [] []) : ∀ (n : Nat) (σ : St) (c1_12 : Int32), fX9_judge_L12 kx12 n σ c1_12 = some r → G X (vM a D tI tJ tB zz) 2 σ 12 [(0, .ref (a 0)), (1, .int c1_12)] [] := by
  intro n
  induction n with
  | zero => intro σ c1_12 h; rw [fX9_judge_L12] at h; exact absurd h (by simp)
  | succ n12 ih12 =>
    intro σ c1_12 h
    rw [fX9_judge_L12] at h
    refine g_iload_n hX 1 dX9_judge_12 rfl rfl ?_
    refine g_aload_n hX 0 dX9_judge_13 rfl rfl ?_
    refine gM_260 hX dX9_judge_14 ?_
    refine g_icmp_ge hX 45 dX9_judge_17 (by decide) h (fun h => ?_) (fun h => ?_)
    · exact g_sub [] rfl (hkx12 _ _ h)
    · refine g_aload_n hX 0 dX9_judge_20 rfl rfl ?_
      refine g_iload_n hX 1 dX9_judge_21 rfl rfl ?_
      refine g_callVI (As := [.int c1_12]) (rest := []) hX 0 (Nat.le_of_ble_eq_true rfl) rfl rfl miX9_wouldRather mvX9_wouldRather lkX9_374 (by decide) rfl (Nat.le_of_ble_eq_true rfl) rfl dX9_judge_22 (fun τ x ho => kX9_wouldRather _ ho) h (fun σ_4 t_5 h => ?_)
      refine g_if_eq hX 39 dX9_judge_25 (by decide) h (fun h => ?_) (fun h => ?_)
      · refine g_iinc (y := (1)) (lv' := fun x1_6 => [(1, .int x1_6), (0, .ref (a 0))]) hX 1 dX9_judge_39 rfl (by decide) (by decide) (fun _ => rfl) h (fun x1_6 h => ?_)
        refine g_goto hX 12 dX9_judge_42 (by decide) ?_
        exact g_sub [1, 0] rfl (ih12 _ _ h)
      · refine g_bipush hX (10) dX9_judge_28 (by decide) ?_
        refine g_iload_n hX 1 dX9_judge_30 rfl rfl ?_
        refine g_imul hX dX9_judge_31 ?_
        refine g_aload_n hX 0 dX9_judge_32 rfl rfl ?_
        refine g_iload_n hX 1 dX9_judge_33 rfl rfl ?_
        refine g_callVI (As := [.int c1_12]) (rest := [.int ((10 : Int32) * c1_12)]) hX 0 (Nat.le_of_ble_eq_true rfl) rfl rfl miX9_bestOf mvX9_bestOf lkX9_302 (by decide) rfl (Nat.le_of_ble_eq_true rfl) rfl dX9_judge_34 (fun τ x ho => kX9_bestOf _ ho) h (fun σ_7 t_8 h => ?_)
        refine g_iadd hX dX9_judge_37 ?_
        exact g_reti hR h dX9_judge_38
set_option maxRecDepth 20000 in
set_option maxHeartbeats 4000000 in
theorem sX9_judge {X : CX} {a : Nat → Nat} {D : va_G} {tI tJ tB : ClassId} {zz : SV} {σ : St}   {r : St × Int32} (hX : OKX X (vM a D tI tJ tB zz) cX9_judge 2 RX9 10 228) (hR : ∀ (pc : Nat) (lv : List (Nat × Value)), decode cX9_judge pc = .ok (.ireturn, 1) → G X (vM a D tI tJ tB zz) 2 r.1 pc lv [.int r.2]) (h : fX9_judge σ  = some r) : G X (vM a D tI tJ tB zz) 2 σ 0 [(0, .ref (a 0))] [] := by
  unfold fX9_judge at h
  refine g_aload_n hX 0 dX9_judge_0 rfl rfl ?_
  refine g_callVI (As := []) (rest := []) hX 0 (Nat.le_of_ble_eq_true rfl) rfl rfl miX9_areReady mvX9_areReady lkX9_367 (by decide) rfl (Nat.le_of_ble_eq_true rfl) rfl dX9_judge_1 (fun τ x ho => kX9_areReady _ ho) h (fun σ_1 t_2 h => ?_)
  refine g_if_ne hX 10 dX9_judge_4 (by decide) h (fun h => ?_) (fun h => ?_)
  · refine g_iconst hX (0) dX9_judge_10 (by decide) ?_
    refine g_istore_n (lv' := fun x1_3 => [(1, .int x1_3), (0, .ref (a 0))]) hX dX9_judge_11 rfl (by decide) (fun _ => rfl) h (fun x1_3 h => ?_)
    refine g_sub [1, 0] rfl (sX9_judge_L12 hX hR (fun σ_9 x1_10 h => ?_) FU _ _ h)
    refine g_iconst hX (-1) dX9_judge_45 (by decide) ?_
    exact g_reti hR h dX9_judge_46
  · refine g_bipush hX (-2) dX9_judge_7 (by decide) ?_
    exact g_reti hR h dX9_judge_9
set_option maxRecDepth 20000 in
set_option maxHeartbeats 4000000 in
theorem kX9_judge (l : Launch) {a : Nat → Nat} {D : va_G} {tI tJ tB : ClassId} {zz : SV} {σ τ : St}   {x : Int32} (h : fX9_judge σ  = some (τ, x)) : CtI l yX9_judge cX9_judge 2 (some .int) 10 228 (vM a D tI tJ tB zz) σ [.ref (a 0)] τ x := g_metI (by decide) (Nat.le_of_ble_eq_true rfl) rfl (fun X _ hX hR => sX9_judge (r := (τ, x)) hX hR h)
def fX9_isLet_L4 (q1_4 : Int32) (kx4 : St → Int32 → Int32 → Option (St × Int32)) : Nat → St → Int32 → Int32 → Option (St × Int32)
  | 0, _, _, _ => none
  | n4 + 1, σ, c2_4, c3_4 =>
    (if (σ.1 0 0) ≤ c3_4 then kx4 σ c2_4 c3_4 else (jp (fun (σ_3 : St)  (t_4 : Int32) => bnd t_4 fun (x2_5 : Int32) => bnd (c3_4 + (1 : Int32)) fun (x3_6 : Int32) => fX9_isLet_L4 q1_4 kx4 n4 σ_3 x2_5 x3_6) fun j51 => jp (fun (σ_7 : St)   => j51 σ_7 (0 : Int32)) fun j50 => (if c2_4 = 0 then j50 σ else cl (fX9_isStep σ ((q1_4 >>> (((3 : Int32) * c3_4) &&& 31)) &&& (7 : Int32))) fun (σ_8 : St) (t_9 : Int32) => (if t_9 = 0 then j50 σ_8 else cl (fX9_isBarred σ_8 ((q1_4 >>> (((3 : Int32) * c3_4) &&& 31)) &&& (7 : Int32))) fun (σ_10 : St) (t_11 : Int32) => (if t_11 = 0 then j51 σ_10 (1 : Int32) else j50 σ_10)))))
def fX9_isLet (σ : St) (p1 : Int32) : Option (St × Int32) :=
  bnd (1 : Int32) fun (x2_1 : Int32) => bnd (0 : Int32) fun (x3_2 : Int32) => fX9_isLet_L4 p1 (fun (σ_12 : St) (x2_13 : Int32) (x3_14 : Int32) => chk (isB x2_13) (some (σ_12, x2_13))) FU σ x2_1 x3_2
set_option maxRecDepth 20000 in
set_option maxHeartbeats 4000000 in
theorem sX9_isLet_L4 {X : CX} {a : Nat → Nat} {D : va_G} {tI tJ tB : ClassId} {zz : SV} {q1_4 : Int32} {kx4 : St → Int32 → Int32 → Option (St × Int32)} {r : St × Int32} (hX : OKX X (vM a D tI tJ tB zz) cX9_isLet 4 RX9 2 43) (hR : (r.2 = 0 ∨ r.2 = 1) → ∀ (pc : Nat) (lv : List (Nat × Value)), decode cX9_isLet pc = .ok (.ireturn, 1) → G X (vM a D tI tJ tB zz) 4 r.1 pc lv [.int r.2]) (hkx4 : ∀ (σ : St) (e2_4 : Int32) (e3_4 : Int32), kx4 σ e2_4 e3_4 = some r → G X (vM a D tI tJ tB zz) 4 σ 58 [(2, .int e2_4)] []) : ∀ (n : Nat) (σ : St) (c2_4 : Int32) (c3_4 : Int32), fX9_isLet_L4 q1_4 kx4 n σ c2_4 c3_4 = some r → G X (vM a D tI tJ tB zz) 4 σ 4 [(0, .ref (a 0)), (1, .int q1_4), (2, .int c2_4), (3, .int c3_4)] [] := by
  intro n
  induction n with
  | zero => intro σ c2_4 c3_4 h; rw [fX9_isLet_L4] at h; exact absurd h (by simp)
  | succ n4 ih4 =>
    intro σ c2_4 c3_4 h
    rw [fX9_isLet_L4] at h
    refine g_iload_n hX 3 dX9_isLet_4 rfl rfl ?_
    refine g_aload_n hX 0 dX9_isLet_5 rfl rfl ?_
    refine gM_260 hX dX9_isLet_6 ?_
    refine g_icmp_ge hX 58 dX9_isLet_9 (by decide) h (fun h => ?_) (fun h => ?_)
    · exact g_sub [2] rfl (hkx4 _ _ _ h)
    · refine g_iload_n hX 2 dX9_isLet_12 rfl rfl ?_
      refine jp_inv (P := fun f => ∀ (σ_3 : St)  (t_4 : Int32), f σ_3 t_4 = some r → G X (vM a D tI tJ tB zz) 4 σ_3 51 [(0, .ref (a 0)), (1, .int q1_4), (3, .int c3_4)] [.int t_4]) h (fun σ_3 t_4 h => ?_) (fun j51 hj51 h => ?_)
      · refine g_istore_n (lv' := fun x2_5 => [(2, .int x2_5), (0, .ref (a 0)), (1, .int q1_4), (3, .int c3_4)]) hX dX9_isLet_51 rfl (by decide) (fun _ => rfl) h (fun x2_5 h => ?_)
        refine g_iinc (y := (1)) (lv' := fun x3_6 => [(3, .int x3_6), (2, .int x2_5), (0, .ref (a 0)), (1, .int q1_4)]) hX 3 dX9_isLet_52 rfl (by decide) (by decide) (fun _ => rfl) h (fun x3_6 h => ?_)
        refine g_goto hX 4 dX9_isLet_55 (by decide) ?_
        exact g_sub [2, 3, 1, 0] rfl (ih4 _ _ _ h)
      refine jp_inv (P := fun f => ∀ (σ_7 : St)  , f σ_7 = some r → G X (vM a D tI tJ tB zz) 4 σ_7 50 [(0, .ref (a 0)), (1, .int q1_4), (3, .int c3_4)] []) h (fun σ_7 h => ?_) (fun j50 hj50 h => ?_)
      · refine g_iconst hX (0) dX9_isLet_50 (by decide) ?_
        exact g_sub [0, 1, 2] rfl (hj51 _ _ h)
      refine g_if_eq hX 50 dX9_isLet_13 (by decide) h (fun h => ?_) (fun h => ?_)
      · exact g_sub [0, 1, 3] rfl (hj50 _ h)
      · refine g_aload_n hX 0 dX9_isLet_16 rfl rfl ?_
        refine g_iload_n hX 1 dX9_isLet_17 rfl rfl ?_
        refine g_iconst hX (3) dX9_isLet_18 (by decide) ?_
        refine g_iload_n hX 3 dX9_isLet_19 rfl rfl ?_
        refine g_imul hX dX9_isLet_20 ?_
        refine g_ishr hX dX9_isLet_21 ?_
        refine g_bipush hX (7) dX9_isLet_22 (by decide) ?_
        refine g_iand hX dX9_isLet_24 ?_
        refine g_callVI (As := [.int ((q1_4 >>> (((3 : Int32) * c3_4) &&& 31)) &&& (7 : Int32))]) (rest := []) hX 0 (Nat.le_of_ble_eq_true rfl) rfl rfl miX9_isStep mvX9_isStep lkX9_290 (by decide) rfl (Nat.le_of_ble_eq_true rfl) rfl dX9_isLet_25 (fun τ x ho => kX9_isStep _ ho) h (fun σ_8 t_9 h => ?_)
        refine g_if_eq hX 50 dX9_isLet_28 (by decide) h (fun h => ?_) (fun h => ?_)
        · exact g_sub [0, 1, 3] rfl (hj50 _ h)
        · refine g_aload_n hX 0 dX9_isLet_31 rfl rfl ?_
          refine g_iload_n hX 1 dX9_isLet_32 rfl rfl ?_
          refine g_iconst hX (3) dX9_isLet_33 (by decide) ?_
          refine g_iload_n hX 3 dX9_isLet_34 rfl rfl ?_
          refine g_imul hX dX9_isLet_35 ?_
          refine g_ishr hX dX9_isLet_36 ?_
          refine g_bipush hX (7) dX9_isLet_37 (by decide) ?_
          refine g_iand hX dX9_isLet_39 ?_
          refine g_callVI (As := [.int ((q1_4 >>> (((3 : Int32) * c3_4) &&& 31)) &&& (7 : Int32))]) (rest := []) hX 0 (Nat.le_of_ble_eq_true rfl) rfl rfl miX9_isBarred mvX9_isBarred lkX9_293 (by decide) rfl (Nat.le_of_ble_eq_true rfl) rfl dX9_isLet_40 (fun τ x ho => kX9_isBarred _ ho) h (fun σ_10 t_11 h => ?_)
          refine g_if_ne hX 50 dX9_isLet_43 (by decide) h (fun h => ?_) (fun h => ?_)
          · exact g_sub [0, 1, 3] rfl (hj50 _ h)
          · refine g_iconst hX (1) dX9_isLet_46 (by decide) ?_
            refine g_goto hX 51 dX9_isLet_47 (by decide) ?_
            exact g_sub [0, 1, 3] rfl (hj51 _ _ h)
set_option maxRecDepth 20000 in
set_option maxHeartbeats 4000000 in
theorem sX9_isLet {X : CX} {a : Nat → Nat} {D : va_G} {tI tJ tB : ClassId} {zz : SV} {σ : St}  {p1 : Int32} {r : St × Int32} (hX : OKX X (vM a D tI tJ tB zz) cX9_isLet 4 RX9 2 43) (hR : (r.2 = 0 ∨ r.2 = 1) → ∀ (pc : Nat) (lv : List (Nat × Value)), decode cX9_isLet pc = .ok (.ireturn, 1) → G X (vM a D tI tJ tB zz) 4 r.1 pc lv [.int r.2]) (h : fX9_isLet σ p1 = some r) : G X (vM a D tI tJ tB zz) 4 σ 0 [(0, .ref (a 0)), (1, .int p1)] [] := by
  unfold fX9_isLet at h
  refine g_iconst hX (1) dX9_isLet_0 (by decide) ?_
  refine g_istore_n (lv' := fun x2_1 => [(2, .int x2_1), (0, .ref (a 0)), (1, .int p1)]) hX dX9_isLet_1 rfl (by decide) (fun _ => rfl) h (fun x2_1 h => ?_)
  refine g_iconst hX (0) dX9_isLet_2 (by decide) ?_
  refine g_istore_n (lv' := fun x3_2 => [(3, .int x3_2), (2, .int x2_1), (0, .ref (a 0)), (1, .int p1)]) hX dX9_isLet_3 rfl (by decide) (fun _ => rfl) h (fun x3_2 h => ?_)
  refine g_sub [2, 3, 1, 0] rfl (sX9_isLet_L4 hX hR (fun σ_12 x2_13 x3_14 h => ?_) FU _ _ _ h)
  refine g_iload_n hX 0 dX9_isLet_58 rfl rfl ?_
  exact g_retzc hR h dX9_isLet_59
set_option maxRecDepth 20000 in
set_option maxHeartbeats 4000000 in
theorem kX9_isLet (l : Launch) {a : Nat → Nat} {D : va_G} {tI tJ tB : ClassId} {zz : SV} {σ τ : St}  {p1 : Int32} {x : Int32} (h : fX9_isLet σ p1 = some (τ, x)) : CtI l yX9_isLet cX9_isLet 4 (some .boolean) 2 43 (vM a D tI tJ tB zz) σ [.ref (a 0), .int p1] τ x := g_metZ (by decide) (Nat.le_of_ble_eq_true rfl) rfl (fun X _ hX hR => sX9_isLet (r := (τ, x)) hX hR h)
def fX9_plays_L37 (q1_37 : Int32) (kx37 : St → Int32 → Option (St × Unit)) : Nat → St → Int32 → Option (St × Unit)
  | 0, _, _ => none
  | n37 + 1, σ, c2_37 =>
    (if (σ.1 0 0) ≤ c2_37 then kx37 σ c2_37 else chk (inb c2_37 4) (chk (inb (((4 : Int32) * q1_37) + c2_37) 16384) (bnd (sL σ 29 (ix (((4 : Int32) * q1_37) + c2_37)) (σ.2 23 (ix c2_37))) fun (σ_15 : St) => bnd (c2_37 + (1 : Int32)) fun (x2_16 : Int32) => fX9_plays_L37 q1_37 kx37 n37 σ_15 x2_16)))
def fX9_plays_L2  (kx2 : St → Int32 → Option (St × Unit)) : Nat → St → Int32 → Option (St × Unit)
  | 0, _, _ => none
  | n2 + 1, σ, c1_2 =>
    cl (fX9_rows σ ) fun (σ_2 : St) (t_3 : Int32) => (if t_3 ≤ c1_2 then kx2 σ_2 c1_2 else cl (fX9_isLet σ_2 c1_2) fun (σ_4 : St) (t_5 : Int32) => (jp (fun (σ_6 : St)   => bnd (c1_2 + (1 : Int32)) fun (x1_7 : Int32) => fX9_plays_L2 kx2 n2 σ_6 x1_7) fun j67 => (if t_5 = 0 then j67 σ_4 else cl (fX9_clears σ_4 ) fun (σ_8 : St) (t_9 : Unit) => cl (fX9_lays_ σ_8 c1_2 (1 : Int32)) fun (σ_10 : St) (t_11 : Unit) => cl (fX9_rowBuys σ_10 ) fun (σ_12 : St) (t_13 : Unit) => bnd (0 : Int32) fun (x2_14 : Int32) => fX9_plays_L37 c1_2 (fun (σ_17 : St) (x2_18 : Int32) => j67 σ_17) FU σ_12 x2_14)))
def fX9_plays (σ : St)  : Option (St × Unit) :=
  bnd (0 : Int32) fun (x1_1 : Int32) => fX9_plays_L2  (fun (σ_19 : St) (x1_20 : Int32) => some (σ_19, ())) FU σ x1_1
set_option maxRecDepth 20000 in
set_option maxHeartbeats 4000000 in
theorem sX9_plays_L37 {X : CX} {a : Nat → Nat} {D : va_G} {tI tJ tB : ClassId} {zz : SV} {q1_37 : Int32} {kx37 : St → Int32 → Option (St × Unit)} {r : St × Unit} (hX : OKX X (vM a D tI tJ tB zz) cX9_plays 3 RX9 5 117) (hR : ∀ (pc : Nat) (lv : List (Nat × Value)), decode cX9_plays pc = .ok (.return_, 1) → G X (vM a D tI tJ tB zz) 3 r.1 pc lv []) (hkx37 : ∀ (σ : St) (e2_37 : Int32), kx37 σ e2_37 = some r → G X (vM a D tI tJ tB zz) 3 σ 67 [(0, .ref (a 0)), (1, .int q1_37)] []) : ∀ (n : Nat) (σ : St) (c2_37 : Int32), fX9_plays_L37 q1_37 kx37 n σ c2_37 = some r → G X (vM a D tI tJ tB zz) 3 σ 37 [(0, .ref (a 0)), (1, .int q1_37), (2, .int c2_37)] [] := by
  intro n
  induction n with
  | zero => intro σ c2_37 h; rw [fX9_plays_L37] at h; exact absurd h (by simp)
  | succ n37 ih37 =>
    intro σ c2_37 h
    rw [fX9_plays_L37] at h
    refine g_iload_n hX 2 dX9_plays_37 rfl rfl ?_
    refine g_aload_n hX 0 dX9_plays_38 rfl rfl ?_
    refine gM_260 hX dX9_plays_39 ?_
    refine g_icmp_ge hX 67 dX9_plays_42 (by decide) h (fun h => ?_) (fun h => ?_)
    · exact g_sub [0, 1] rfl (hkx37 _ _ h)
    · refine g_aload_n hX 0 dX9_plays_45 rfl rfl ?_
      refine gM_112 hX dX9_plays_46 ?_
      refine g_iconst hX (4) dX9_plays_49 (by decide) ?_
      refine g_iload_n hX 1 dX9_plays_50 rfl rfl ?_
      refine g_imul hX dX9_plays_51 ?_
      refine g_iload_n hX 2 dX9_plays_52 rfl rfl ?_
      refine g_iadd hX dX9_plays_53 ?_
      refine g_aload_n hX 0 dX9_plays_54 rfl rfl ?_
      refine gM_94 hX dX9_plays_55 ?_
      refine g_iload_n hX 2 dX9_plays_58 rfl rfl ?_
      refine alM_23 hX dX9_plays_59 h (fun h => ?_)
      refine asM_29 hX dX9_plays_60 h (fun σ_15 h => ?_)
      refine g_iinc (y := (1)) (lv' := fun x2_16 => [(2, .int x2_16), (0, .ref (a 0)), (1, .int q1_37)]) hX 2 dX9_plays_61 rfl (by decide) (by decide) (fun _ => rfl) h (fun x2_16 h => ?_)
      refine g_goto hX 37 dX9_plays_64 (by decide) ?_
      exact g_sub [1, 2, 0] rfl (ih37 _ _ h)
set_option maxRecDepth 20000 in
set_option maxHeartbeats 4000000 in
theorem sX9_plays_L2 {X : CX} {a : Nat → Nat} {D : va_G} {tI tJ tB : ClassId} {zz : SV}  {kx2 : St → Int32 → Option (St × Unit)} {r : St × Unit} (hX : OKX X (vM a D tI tJ tB zz) cX9_plays 3 RX9 5 117) (hR : ∀ (pc : Nat) (lv : List (Nat × Value)), decode cX9_plays pc = .ok (.return_, 1) → G X (vM a D tI tJ tB zz) 3 r.1 pc lv []) (hkx2 : ∀ (σ : St) (e1_2 : Int32), kx2 σ e1_2 = some r → G X (vM a D tI tJ tB zz) 3 σ 73 [] []) : ∀ (n : Nat) (σ : St) (c1_2 : Int32), fX9_plays_L2 kx2 n σ c1_2 = some r → G X (vM a D tI tJ tB zz) 3 σ 2 [(0, .ref (a 0)), (1, .int c1_2)] [] := by
  intro n
  induction n with
  | zero => intro σ c1_2 h; rw [fX9_plays_L2] at h; exact absurd h (by simp)
  | succ n2 ih2 =>
    intro σ c1_2 h
    rw [fX9_plays_L2] at h
    refine g_iload_n hX 1 dX9_plays_2 rfl rfl ?_
    refine g_aload_n hX 0 dX9_plays_3 rfl rfl ?_
    refine g_callVI (As := []) (rest := [.int c1_2]) hX 0 (Nat.le_of_ble_eq_true rfl) rfl rfl miX9_rows mvX9_rows lkX9_342 (by decide) rfl (Nat.le_of_ble_eq_true rfl) rfl dX9_plays_4 (fun τ x ho => kX9_rows _ ho) h (fun σ_2 t_3 h => ?_)
    refine g_icmp_ge hX 73 dX9_plays_7 (by decide) h (fun h => ?_) (fun h => ?_)
    · exact g_sub [] rfl (hkx2 _ _ h)
    · refine g_aload_n hX 0 dX9_plays_10 rfl rfl ?_
      refine g_iload_n hX 1 dX9_plays_11 rfl rfl ?_
      refine g_callVI (As := [.int c1_2]) (rest := []) hX 0 (Nat.le_of_ble_eq_true rfl) rfl rfl miX9_isLet mvX9_isLet lkX9_377 (by decide) rfl (Nat.le_of_ble_eq_true rfl) rfl dX9_plays_12 (fun τ x ho => kX9_isLet _ ho) h (fun σ_4 t_5 h => ?_)
      refine jp_inv (P := fun f => ∀ (σ_6 : St)  , f σ_6 = some r → G X (vM a D tI tJ tB zz) 3 σ_6 67 [(0, .ref (a 0)), (1, .int c1_2)] []) h (fun σ_6 h => ?_) (fun j67 hj67 h => ?_)
      · refine g_iinc (y := (1)) (lv' := fun x1_7 => [(1, .int x1_7), (0, .ref (a 0))]) hX 1 dX9_plays_67 rfl (by decide) (by decide) (fun _ => rfl) h (fun x1_7 h => ?_)
        refine g_goto hX 2 dX9_plays_70 (by decide) ?_
        exact g_sub [1, 0] rfl (ih2 _ _ h)
      refine g_if_ne hX 21 dX9_plays_15 (by decide) h (fun h => ?_) (fun h => ?_)
      · refine g_aload_n hX 0 dX9_plays_21 rfl rfl ?_
        refine g_callVV (As := []) (rest := []) hX 0 (Nat.le_of_ble_eq_true rfl) rfl rfl miX9_clears mvX9_clears lkX9_339 (by decide) rfl (Nat.le_of_ble_eq_true rfl) rfl dX9_plays_22 (fun τ x ho => kX9_clears _ ho) h (fun σ_8 t_9 h => ?_)
        refine g_aload_n hX 0 dX9_plays_25 rfl rfl ?_
        refine g_iload_n hX 1 dX9_plays_26 rfl rfl ?_
        refine g_iconst hX (1) dX9_plays_27 (by decide) ?_
        refine g_callVV (As := [.int c1_2, .int (1 : Int32)]) (rest := []) hX 0 (Nat.le_of_ble_eq_true rfl) rfl rfl miX9_lays_ mvX9_lays_ lkX9_345 (by decide) rfl (Nat.le_of_ble_eq_true rfl) rfl dX9_plays_28 (fun τ x ho => kX9_lays_ _ ho) h (fun σ_10 t_11 h => ?_)
        refine g_aload_n hX 0 dX9_plays_31 rfl rfl ?_
        refine g_callVV (As := []) (rest := []) hX 0 (Nat.le_of_ble_eq_true rfl) rfl rfl miX9_rowBuys mvX9_rowBuys lkX9_348 (by decide) rfl (Nat.le_of_ble_eq_true rfl) rfl dX9_plays_32 (fun τ x ho => kX9_rowBuys _ ho) h (fun σ_12 t_13 h => ?_)
        refine g_iconst hX (0) dX9_plays_35 (by decide) ?_
        refine g_istore_n (lv' := fun x2_14 => [(2, .int x2_14), (0, .ref (a 0)), (1, .int c1_2)]) hX dX9_plays_36 rfl (by decide) (fun _ => rfl) h (fun x2_14 h => ?_)
        refine g_sub [1, 2, 0] rfl (sX9_plays_L37 hX hR (fun σ_17 x2_18 h => ?_) FU _ _ h)
        exact g_sub [0, 1] rfl (hj67 _ h)
      · refine g_goto hX 67 dX9_plays_18 (by decide) ?_
        exact g_sub [0, 1] rfl (hj67 _ h)
set_option maxRecDepth 20000 in
set_option maxHeartbeats 4000000 in
theorem sX9_plays {X : CX} {a : Nat → Nat} {D : va_G} {tI tJ tB : ClassId} {zz : SV} {σ : St}   {r : St × Unit} (hX : OKX X (vM a D tI tJ tB zz) cX9_plays 3 RX9 5 117) (hR : ∀ (pc : Nat) (lv : List (Nat × Value)), decode cX9_plays pc = .ok (.return_, 1) → G X (vM a D tI tJ tB zz) 3 r.1 pc lv []) (h : fX9_plays σ  = some r) : G X (vM a D tI tJ tB zz) 3 σ 0 [(0, .ref (a 0))] [] := by
  unfold fX9_plays at h
  refine g_iconst hX (0) dX9_plays_0 (by decide) ?_
  refine g_istore_n (lv' := fun x1_1 => [(1, .int x1_1), (0, .ref (a 0))]) hX dX9_plays_1 rfl (by decide) (fun _ => rfl) h (fun x1_1 h => ?_)
  refine g_sub [1, 0] rfl (sX9_plays_L2 hX hR (fun σ_19 x1_20 h => ?_) FU _ _ h)
  exact g_retv hR h dX9_plays_73
set_option maxRecDepth 20000 in
set_option maxHeartbeats 4000000 in
theorem kX9_plays (l : Launch) {a : Nat → Nat} {D : va_G} {tI tJ tB : ClassId} {zz : SV} {σ τ : St}   {x : Unit} (h : fX9_plays σ  = some (τ, x)) : CtV l yX9_plays cX9_plays 3 none 5 117 (vM a D tI tJ tB zz) σ [.ref (a 0)] τ x := g_metV (by decide) (Nat.le_of_ble_eq_true rfl) rfl (fun X _ hX hR => sX9_plays (r := (τ, x)) hX hR h)
def fX9_isRest_L22 (q1_22 : Int32) (q2_22 : Int32) (kx22 : St → Int32 → Option (St × Int32)) : Nat → St → Int32 → Option (St × Int32)
  | 0, _, _ => none
  | n22 + 1, σ, c3_22 =>
    (if (σ.1 0 2) ≤ c3_22 then kx22 σ c3_22 else bnd (q1_22 + ((c3_22 - ((q1_22 >>> (((3 : Int32) * q2_22) &&& 31)) &&& (7 : Int32))) <<< (((3 : Int32) * q2_22) &&& 31))) fun (x4_5 : Int32) => cl (fX9_isBarred σ c3_22) fun (σ_6 : St) (t_7 : Int32) => (jp (fun (σ_8 : St)   => bnd (c3_22 + (1 : Int32)) fun (x3_9 : Int32) => fX9_isRest_L22 q1_22 q2_22 kx22 n22 σ_8 x3_9) fun j83 => (if t_7 = 0 then chk (inb (((4 : Int32) * x4_5) + q2_22) 16384) (chk (inb (((4 : Int32) * q1_22) + q2_22) 16384) ((if (lg_cmp (σ_6.2 29 (ix (((4 : Int32) * x4_5) + q2_22))) (σ_6.2 29 (ix (((4 : Int32) * q1_22) + q2_22)))) ≤ 0 then j83 σ_6 else some (σ_6, (0 : Int32))))) else j83 σ_6)))
def fX9_isRest_L12 (q1_12 : Int32) (kx12 : St → Int32 → Option (St × Int32)) : Nat → St → Int32 → Option (St × Int32)
  | 0, _, _ => none
  | n12 + 1, σ, c2_12 =>
    (if (σ.1 0 0) ≤ c2_12 then kx12 σ c2_12 else bnd (0 : Int32) fun (x3_4 : Int32) => fX9_isRest_L22 q1_12 c2_12 (fun (σ_10 : St) (x3_11 : Int32) => bnd (c2_12 + (1 : Int32)) fun (x2_12 : Int32) => fX9_isRest_L12 q1_12 kx12 n12 σ_10 x2_12) FU σ x3_4)
def fX9_isRest (σ : St) (p1 : Int32) : Option (St × Int32) :=
  cl (fX9_isLet σ p1) fun (σ_1 : St) (t_2 : Int32) => (if t_2 = 0 then some (σ_1, (0 : Int32)) else bnd (0 : Int32) fun (x2_3 : Int32) => fX9_isRest_L12 p1 (fun (σ_13 : St) (x2_14 : Int32) => some (σ_13, (1 : Int32))) FU σ_1 x2_3)
set_option maxRecDepth 20000 in
set_option maxHeartbeats 4000000 in
theorem sX9_isRest_L22 {X : CX} {a : Nat → Nat} {D : va_G} {tI tJ tB : ClassId} {zz : SV} {q1_22 : Int32} {q2_22 : Int32} {kx22 : St → Int32 → Option (St × Int32)} {r : St × Int32} (hX : OKX X (vM a D tI tJ tB zz) cX9_isRest 5 RX9 3 66) (hR : (r.2 = 0 ∨ r.2 = 1) → ∀ (pc : Nat) (lv : List (Nat × Value)), decode cX9_isRest pc = .ok (.ireturn, 1) → G X (vM a D tI tJ tB zz) 5 r.1 pc lv [.int r.2]) (hkx22 : ∀ (σ : St) (e3_22 : Int32), kx22 σ e3_22 = some r → G X (vM a D tI tJ tB zz) 5 σ 89 [(0, .ref (a 0)), (1, .int q1_22), (2, .int q2_22)] []) : ∀ (n : Nat) (σ : St) (c3_22 : Int32), fX9_isRest_L22 q1_22 q2_22 kx22 n σ c3_22 = some r → G X (vM a D tI tJ tB zz) 5 σ 22 [(0, .ref (a 0)), (1, .int q1_22), (2, .int q2_22), (3, .int c3_22)] [] := by
  intro n
  induction n with
  | zero => intro σ c3_22 h; rw [fX9_isRest_L22] at h; exact absurd h (by simp)
  | succ n22 ih22 =>
    intro σ c3_22 h
    rw [fX9_isRest_L22] at h
    refine g_iload_n hX 3 dX9_isRest_22 rfl rfl ?_
    refine g_aload_n hX 0 dX9_isRest_23 rfl rfl ?_
    refine gM_7 hX dX9_isRest_24 ?_
    refine g_icmp_ge hX 89 dX9_isRest_27 (by decide) h (fun h => ?_) (fun h => ?_)
    · exact g_sub [0, 1, 2] rfl (hkx22 _ _ h)
    · refine g_iload_n hX 1 dX9_isRest_30 rfl rfl ?_
      refine g_iload_n hX 3 dX9_isRest_31 rfl rfl ?_
      refine g_iload_n hX 1 dX9_isRest_32 rfl rfl ?_
      refine g_iconst hX (3) dX9_isRest_33 (by decide) ?_
      refine g_iload_n hX 2 dX9_isRest_34 rfl rfl ?_
      refine g_imul hX dX9_isRest_35 ?_
      refine g_ishr hX dX9_isRest_36 ?_
      refine g_bipush hX (7) dX9_isRest_37 (by decide) ?_
      refine g_iand hX dX9_isRest_39 ?_
      refine g_isub hX dX9_isRest_40 ?_
      refine g_iconst hX (3) dX9_isRest_41 (by decide) ?_
      refine g_iload_n hX 2 dX9_isRest_42 rfl rfl ?_
      refine g_imul hX dX9_isRest_43 ?_
      refine g_ishl hX dX9_isRest_44 ?_
      refine g_iadd hX dX9_isRest_45 ?_
      refine g_istore (lv' := fun x4_5 => [(4, .int x4_5), (0, .ref (a 0)), (1, .int q1_22), (2, .int q2_22), (3, .int c3_22)]) hX dX9_isRest_46 (by decide) (fun _ => rfl) h (fun x4_5 h => ?_)
      refine g_aload_n hX 1 dX9_isRest_48 rfl rfl ?_
      refine g_iload_n hX 4 dX9_isRest_49 rfl rfl ?_
      refine g_callVI (As := [.int c3_22]) (rest := []) hX 0 (Nat.le_of_ble_eq_true rfl) rfl rfl miX9_isBarred mvX9_isBarred lkX9_293 (by decide) rfl (Nat.le_of_ble_eq_true rfl) rfl dX9_isRest_50 (fun τ x ho => kX9_isBarred _ ho) h (fun σ_6 t_7 h => ?_)
      refine jp_inv (P := fun f => ∀ (σ_8 : St)  , f σ_8 = some r → G X (vM a D tI tJ tB zz) 5 σ_8 83 [(0, .ref (a 0)), (1, .int q1_22), (2, .int q2_22), (3, .int c3_22)] []) h (fun σ_8 h => ?_) (fun j83 hj83 h => ?_)
      · refine g_iinc (y := (1)) (lv' := fun x3_9 => [(3, .int x3_9), (0, .ref (a 0)), (1, .int q1_22), (2, .int q2_22)]) hX 3 dX9_isRest_83 rfl (by decide) (by decide) (fun _ => rfl) h (fun x3_9 h => ?_)
        refine g_goto hX 22 dX9_isRest_86 (by decide) ?_
        exact g_sub [1, 2, 3, 0] rfl (ih22 _ _ h)
      refine g_if_ne hX 83 dX9_isRest_53 (by decide) h (fun h => ?_) (fun h => ?_)
      · exact g_sub [1, 2, 3, 4] rfl (hj83 _ h)
      · refine g_aload_n hX 1 dX9_isRest_56 rfl rfl ?_
        refine gM_112 hX dX9_isRest_57 ?_
        refine g_iconst hX (4) dX9_isRest_60 (by decide) ?_
        refine g_iload hX 0 dX9_isRest_61 rfl ?_
        refine g_imul hX dX9_isRest_63 ?_
        refine g_iload_n hX 3 dX9_isRest_64 rfl rfl ?_
        refine g_iadd hX dX9_isRest_65 ?_
        refine alM_29 hX dX9_isRest_66 h (fun h => ?_)
        refine g_aload_n hX 1 dX9_isRest_67 rfl rfl ?_
        refine gM_112 hX dX9_isRest_68 ?_
        refine g_iconst hX (4) dX9_isRest_71 (by decide) ?_
        refine g_iload_n hX 2 dX9_isRest_72 rfl rfl ?_
        refine g_imul hX dX9_isRest_73 ?_
        refine g_iload_n hX 3 dX9_isRest_74 rfl rfl ?_
        refine g_iadd hX dX9_isRest_75 ?_
        refine alM_29 hX dX9_isRest_76 h (fun h => ?_)
        refine g_lcmp hX dX9_isRest_77 ?_
        refine g_if_le hX 83 dX9_isRest_78 (by decide) h (fun h => ?_) (fun h => ?_)
        · exact g_sub [1, 2, 3, 4] rfl (hj83 _ h)
        · refine g_iconst hX (0) dX9_isRest_81 (by decide) ?_
          exact g_retz hR (by decide) h dX9_isRest_82
set_option maxRecDepth 20000 in
set_option maxHeartbeats 4000000 in
theorem sX9_isRest_L12 {X : CX} {a : Nat → Nat} {D : va_G} {tI tJ tB : ClassId} {zz : SV} {q1_12 : Int32} {kx12 : St → Int32 → Option (St × Int32)} {r : St × Int32} (hX : OKX X (vM a D tI tJ tB zz) cX9_isRest 5 RX9 3 66) (hR : (r.2 = 0 ∨ r.2 = 1) → ∀ (pc : Nat) (lv : List (Nat × Value)), decode cX9_isRest pc = .ok (.ireturn, 1) → G X (vM a D tI tJ tB zz) 5 r.1 pc lv [.int r.2]) (hkx12 : ∀ (σ : St) (e2_12 : Int32), kx12 σ e2_12 = some r → G X (vM a D tI tJ tB zz) 5 σ 95 [] []) : ∀ (n : Nat) (σ : St) (c2_12 : Int32), fX9_isRest_L12 q1_12 kx12 n σ c2_12 = some r → G X (vM a D tI tJ tB zz) 5 σ 12 [(0, .ref (a 0)), (1, .int q1_12), (2, .int c2_12)] [] := by
  intro n
  induction n with
  | zero => intro σ c2_12 h; rw [fX9_isRest_L12] at h; exact absurd h (by simp)
  | succ n12 ih12 =>
    intro σ c2_12 h
    rw [fX9_isRest_L12] at h
    refine g_iload_n hX 2 dX9_isRest_12 rfl rfl ?_
    refine g_aload_n hX 0 dX9_isRest_13 rfl rfl ?_
    refine gM_260 hX dX9_isRest_14 ?_
    refine g_icmp_ge hX 95 dX9_isRest_17 (by decide) h (fun h => ?_) (fun h => ?_)
    · exact g_sub [] rfl (hkx12 _ _ h)
    · refine g_iconst hX (0) dX9_isRest_20 (by decide) ?_
      refine g_istore_n (lv' := fun x3_4 => [(3, .int x3_4), (0, .ref (a 0)), (1, .int q1_12), (2, .int c2_12)]) hX dX9_isRest_21 rfl (by decide) (fun _ => rfl) h (fun x3_4 h => ?_)
      refine g_sub [1, 2, 3, 0] rfl (sX9_isRest_L22 hX hR (fun σ_10 x3_11 h => ?_) FU _ _ h)
      refine g_iinc (y := (1)) (lv' := fun x2_12 => [(2, .int x2_12), (0, .ref (a 0)), (1, .int q1_12)]) hX 2 dX9_isRest_89 rfl (by decide) (by decide) (fun _ => rfl) h (fun x2_12 h => ?_)
      refine g_goto hX 12 dX9_isRest_92 (by decide) ?_
      exact g_sub [1, 2, 0] rfl (ih12 _ _ h)
set_option maxRecDepth 20000 in
set_option maxHeartbeats 4000000 in
theorem sX9_isRest {X : CX} {a : Nat → Nat} {D : va_G} {tI tJ tB : ClassId} {zz : SV} {σ : St}  {p1 : Int32} {r : St × Int32} (hX : OKX X (vM a D tI tJ tB zz) cX9_isRest 5 RX9 3 66) (hR : (r.2 = 0 ∨ r.2 = 1) → ∀ (pc : Nat) (lv : List (Nat × Value)), decode cX9_isRest pc = .ok (.ireturn, 1) → G X (vM a D tI tJ tB zz) 5 r.1 pc lv [.int r.2]) (h : fX9_isRest σ p1 = some r) : G X (vM a D tI tJ tB zz) 5 σ 0 [(0, .ref (a 0)), (1, .int p1)] [] := by
  unfold fX9_isRest at h
  refine g_aload_n hX 0 dX9_isRest_0 rfl rfl ?_
  refine g_iload_n hX 1 dX9_isRest_1 rfl rfl ?_
  refine g_callVI (As := [.int p1]) (rest := []) hX 0 (Nat.le_of_ble_eq_true rfl) rfl rfl miX9_isLet mvX9_isLet lkX9_377 (by decide) rfl (Nat.le_of_ble_eq_true rfl) rfl dX9_isRest_2 (fun τ x ho => kX9_isLet _ ho) h (fun σ_1 t_2 h => ?_)
  refine g_if_ne hX 10 dX9_isRest_5 (by decide) h (fun h => ?_) (fun h => ?_)
  · refine g_iconst hX (0) dX9_isRest_10 (by decide) ?_
    refine g_istore_n (lv' := fun x2_3 => [(2, .int x2_3), (0, .ref (a 0)), (1, .int p1)]) hX dX9_isRest_11 rfl (by decide) (fun _ => rfl) h (fun x2_3 h => ?_)
    refine g_sub [1, 2, 0] rfl (sX9_isRest_L12 hX hR (fun σ_13 x2_14 h => ?_) FU _ _ h)
    refine g_iconst hX (1) dX9_isRest_95 (by decide) ?_
    exact g_retz hR (by decide) h dX9_isRest_96
  · refine g_iconst hX (0) dX9_isRest_8 (by decide) ?_
    exact g_retz hR (by decide) h dX9_isRest_9
set_option maxRecDepth 20000 in
set_option maxHeartbeats 4000000 in
theorem kX9_isRest (l : Launch) {a : Nat → Nat} {D : va_G} {tI tJ tB : ClassId} {zz : SV} {σ τ : St}  {p1 : Int32} {x : Int32} (h : fX9_isRest σ p1 = some (τ, x)) : CtI l yX9_isRest cX9_isRest 5 (some .boolean) 3 66 (vM a D tI tJ tB zz) σ [.ref (a 0), .int p1] τ x := g_metZ (by decide) (Nat.le_of_ble_eq_true rfl) rfl (fun X _ hX hR => sX9_isRest (r := (τ, x)) hX hR h)
def fX9_countRests_L13  (kx13 : St → Int32 → Int32 → Option (St × Int32)) : Nat → St → Int32 → Int32 → Option (St × Int32)
  | 0, _, _, _ => none
  | n13 + 1, σ, c1_13, c2_13 =>
    cl (fX9_rows σ ) fun (σ_6 : St) (t_7 : Int32) => (if t_7 ≤ c2_13 then kx13 σ_6 c1_13 c2_13 else cl (fX9_isRest σ_6 c2_13) fun (σ_8 : St) (t_9 : Int32) => (jp (fun (σ_10 : St) (x1_11 : Int32)  => bnd (c2_13 + (1 : Int32)) fun (x2_12 : Int32) => fX9_countRests_L13 kx13 n13 σ_10 x1_11 x2_12) fun j44 => (if t_9 = 0 then j44 σ_8 c1_13 else (jp (fun (σ_13 : St)   => bnd (c1_13 + (1 : Int32)) fun (x1_14 : Int32) => j44 σ_13 x1_14) fun j41 => (if c1_13 = 0 then bnd (sI σ_8 0 57 c2_13) fun (σ_15 : St) => j41 σ_15 else j41 σ_8)))))
def fX9_countRests (σ : St)  : Option (St × Int32) :=
  cl (fX9_plays σ ) fun (σ_1 : St) (t_2 : Unit) => bnd (sI σ_1 0 57 (-1 : Int32)) fun (σ_3 : St) => bnd (0 : Int32) fun (x1_4 : Int32) => bnd (0 : Int32) fun (x2_5 : Int32) => fX9_countRests_L13  (fun (σ_16 : St) (x1_17 : Int32) (x2_18 : Int32) => some (σ_16, x1_17)) FU σ_3 x1_4 x2_5
set_option maxRecDepth 20000 in
set_option maxHeartbeats 4000000 in
theorem sX9_countRests_L13 {X : CX} {a : Nat → Nat} {D : va_G} {tI tJ tB : ClassId} {zz : SV}  {kx13 : St → Int32 → Int32 → Option (St × Int32)} {r : St × Int32} (hX : OKX X (vM a D tI tJ tB zz) cX9_countRests 3 RX9 6 139) (hR : ∀ (pc : Nat) (lv : List (Nat × Value)), decode cX9_countRests pc = .ok (.ireturn, 1) → G X (vM a D tI tJ tB zz) 3 r.1 pc lv [.int r.2]) (hkx13 : ∀ (σ : St) (e1_13 : Int32) (e2_13 : Int32), kx13 σ e1_13 e2_13 = some r → G X (vM a D tI tJ tB zz) 3 σ 50 [(1, .int e1_13)] []) : ∀ (n : Nat) (σ : St) (c1_13 : Int32) (c2_13 : Int32), fX9_countRests_L13 kx13 n σ c1_13 c2_13 = some r → G X (vM a D tI tJ tB zz) 3 σ 13 [(0, .ref (a 0)), (1, .int c1_13), (2, .int c2_13)] [] := by
  intro n
  induction n with
  | zero => intro σ c1_13 c2_13 h; rw [fX9_countRests_L13] at h; exact absurd h (by simp)
  | succ n13 ih13 =>
    intro σ c1_13 c2_13 h
    rw [fX9_countRests_L13] at h
    refine g_iload_n hX 2 dX9_countRests_13 rfl rfl ?_
    refine g_aload_n hX 0 dX9_countRests_14 rfl rfl ?_
    refine g_callVI (As := []) (rest := [.int c2_13]) hX 0 (Nat.le_of_ble_eq_true rfl) rfl rfl miX9_rows mvX9_rows lkX9_342 (by decide) rfl (Nat.le_of_ble_eq_true rfl) rfl dX9_countRests_15 (fun τ x ho => kX9_rows _ ho) h (fun σ_6 t_7 h => ?_)
    refine g_icmp_ge hX 50 dX9_countRests_18 (by decide) h (fun h => ?_) (fun h => ?_)
    · exact g_sub [1] rfl (hkx13 _ _ _ h)
    · refine g_aload_n hX 0 dX9_countRests_21 rfl rfl ?_
      refine g_iload_n hX 2 dX9_countRests_22 rfl rfl ?_
      refine g_callVI (As := [.int c2_13]) (rest := []) hX 0 (Nat.le_of_ble_eq_true rfl) rfl rfl miX9_isRest mvX9_isRest lkX9_386 (by decide) rfl (Nat.le_of_ble_eq_true rfl) rfl dX9_countRests_23 (fun τ x ho => kX9_isRest _ ho) h (fun σ_8 t_9 h => ?_)
      refine jp_inv (P := fun f => ∀ (σ_10 : St) (x1_11 : Int32) , f σ_10 x1_11 = some r → G X (vM a D tI tJ tB zz) 3 σ_10 44 [(0, .ref (a 0)), (2, .int c2_13), (1, .int x1_11)] []) h (fun σ_10 x1_11 h => ?_) (fun j44 hj44 h => ?_)
      · refine g_iinc (y := (1)) (lv' := fun x2_12 => [(2, .int x2_12), (0, .ref (a 0)), (1, .int x1_11)]) hX 1 dX9_countRests_44 rfl (by decide) (by decide) (fun _ => rfl) h (fun x2_12 h => ?_)
        refine g_goto hX 13 dX9_countRests_47 (by decide) ?_
        exact g_sub [1, 2, 0] rfl (ih13 _ _ _ h)
      refine g_if_ne hX 32 dX9_countRests_26 (by decide) h (fun h => ?_) (fun h => ?_)
      · refine g_iload_n hX 1 dX9_countRests_32 rfl rfl ?_
        refine jp_inv (P := fun f => ∀ (σ_13 : St)  , f σ_13 = some r → G X (vM a D tI tJ tB zz) 3 σ_13 41 [(0, .ref (a 0)), (1, .int c1_13), (2, .int c2_13)] []) h (fun σ_13 h => ?_) (fun j41 hj41 h => ?_)
        · refine g_iinc (y := (1)) (lv' := fun x1_14 => [(1, .int x1_14), (0, .ref (a 0)), (2, .int c2_13)]) hX 1 dX9_countRests_41 rfl (by decide) (by decide) (fun _ => rfl) h (fun x1_14 h => ?_)
          exact g_sub [1, 2, 0] rfl (hj44 _ _ h)
        refine g_if_ne hX 41 dX9_countRests_33 (by decide) h (fun h => ?_) (fun h => ?_)
        · exact g_sub [0, 1, 2] rfl (hj41 _ h)
        · refine g_aload_n hX 0 dX9_countRests_36 rfl rfl ?_
          refine g_iload_n hX 2 dX9_countRests_37 rfl rfl ?_
          refine pM_383 hX dX9_countRests_38 h (fun σ_15 h => ?_)
          exact g_sub [0, 1, 2] rfl (hj41 _ h)
      · refine g_goto hX 44 dX9_countRests_29 (by decide) ?_
        exact g_sub [0, 2, 1] rfl (hj44 _ _ h)
set_option maxRecDepth 20000 in
set_option maxHeartbeats 4000000 in
theorem sX9_countRests {X : CX} {a : Nat → Nat} {D : va_G} {tI tJ tB : ClassId} {zz : SV} {σ : St}   {r : St × Int32} (hX : OKX X (vM a D tI tJ tB zz) cX9_countRests 3 RX9 6 139) (hR : ∀ (pc : Nat) (lv : List (Nat × Value)), decode cX9_countRests pc = .ok (.ireturn, 1) → G X (vM a D tI tJ tB zz) 3 r.1 pc lv [.int r.2]) (h : fX9_countRests σ  = some r) : G X (vM a D tI tJ tB zz) 3 σ 0 [(0, .ref (a 0))] [] := by
  unfold fX9_countRests at h
  refine g_aload_n hX 0 dX9_countRests_0 rfl rfl ?_
  refine g_callVV (As := []) (rest := []) hX 0 (Nat.le_of_ble_eq_true rfl) rfl rfl miX9_plays mvX9_plays lkX9_380 (by decide) rfl (Nat.le_of_ble_eq_true rfl) rfl dX9_countRests_1 (fun τ x ho => kX9_plays _ ho) h (fun σ_1 t_2 h => ?_)
  refine g_aload_n hX 0 dX9_countRests_4 rfl rfl ?_
  refine g_iconst hX (-1) dX9_countRests_5 (by decide) ?_
  refine pM_383 hX dX9_countRests_6 h (fun σ_3 h => ?_)
  refine g_iconst hX (0) dX9_countRests_9 (by decide) ?_
  refine g_istore_n (lv' := fun x1_4 => [(1, .int x1_4), (0, .ref (a 0))]) hX dX9_countRests_10 rfl (by decide) (fun _ => rfl) h (fun x1_4 h => ?_)
  refine g_iconst hX (0) dX9_countRests_11 (by decide) ?_
  refine g_istore_n (lv' := fun x2_5 => [(2, .int x2_5), (1, .int x1_4), (0, .ref (a 0))]) hX dX9_countRests_12 rfl (by decide) (fun _ => rfl) h (fun x2_5 h => ?_)
  refine g_sub [2, 1, 0] rfl (sX9_countRests_L13 hX hR (fun σ_16 x1_17 x2_18 h => ?_) FU _ _ _ h)
  refine g_iload_n hX 0 dX9_countRests_50 rfl rfl ?_
  exact g_reti hR h dX9_countRests_51
set_option maxRecDepth 20000 in
set_option maxHeartbeats 4000000 in
theorem kX9_countRests (l : Launch) {a : Nat → Nat} {D : va_G} {tI tJ tB : ClassId} {zz : SV} {σ τ : St}   {x : Int32} (h : fX9_countRests σ  = some (τ, x)) : CtI l yX9_countRests cX9_countRests 3 (some .int) 6 139 (vM a D tI tJ tB zz) σ [.ref (a 0)] τ x := g_metI (by decide) (Nat.le_of_ble_eq_true rfl) rfl (fun X _ hX hR => sX9_countRests (r := (τ, x)) hX hR h)
def fX9_rests_L35 (q1_35 : Int32) (q2_35 : Int32) (kx35 : St → Int32 → Int32 → Option (St × Int32)) : Nat → St → Int32 → Int32 → Option (St × Int32)
  | 0, _, _, _ => none
  | n35 + 1, σ, c3_35, c4_35 =>
    cl (fX9_rows σ ) fun (σ_8 : St) (t_9 : Int32) => (if t_9 ≤ c4_35 then kx35 σ_8 c3_35 c4_35 else (if q2_35 ≤ q1_35 then kx35 σ_8 c3_35 c4_35 else cl (fX9_isRest σ_8 c4_35) fun (σ_10 : St) (t_11 : Int32) => (jp (fun (σ_12 : St) (x3_13 : Int32)  => bnd (c4_35 + (1 : Int32)) fun (x4_14 : Int32) => fX9_rests_L35 q1_35 q2_35 kx35 n35 σ_12 x3_13 x4_14) fun j71 => (if t_11 = 0 then j71 σ_10 c3_35 else (if c3_35 = 0 then some (σ_10, c4_35) else bnd (c3_35 + (-1 : Int32)) fun (x3_15 : Int32) => j71 σ_10 x3_15)))))
def fX9_rests (σ : St) (p1 : Int32) : Option (St × Int32) :=
  (if (σ.1 0 0) = 0 then some (σ, (-1 : Int32)) else (if (-1 : Int32) ≤ p1 then cl (fX9_knocks σ ) fun (σ_1 : St) (t_2 : Unit) => cl (fX9_countRests σ_1 ) fun (σ_3 : St) (t_4 : Int32) => bnd t_4 fun (x2_5 : Int32) => (if p1 = (-1 : Int32) then some (σ_3, x2_5) else bnd p1 fun (x3_6 : Int32) => bnd (0 : Int32) fun (x4_7 : Int32) => fX9_rests_L35 p1 x2_5 (fun (σ_16 : St) (x3_17 : Int32) (x4_18 : Int32) => some (σ_16, (-1 : Int32))) FU σ_3 x3_6 x4_7) else some (σ, (-1 : Int32))))
set_option maxRecDepth 20000 in
set_option maxHeartbeats 4000000 in
theorem sX9_rests_L35 {X : CX} {a : Nat → Nat} {D : va_G} {tI tJ tB : ClassId} {zz : SV} {q1_35 : Int32} {q2_35 : Int32} {kx35 : St → Int32 → Int32 → Option (St × Int32)} {r : St × Int32} (hX : OKX X (vM a D tI tJ tB zz) cX9_rests 5 RX9 7 161) (hR : ∀ (pc : Nat) (lv : List (Nat × Value)), decode cX9_rests pc = .ok (.ireturn, 1) → G X (vM a D tI tJ tB zz) 5 r.1 pc lv [.int r.2]) (hkx35 : ∀ (σ : St) (e3_35 : Int32) (e4_35 : Int32), kx35 σ e3_35 e4_35 = some r → G X (vM a D tI tJ tB zz) 5 σ 77 [] []) : ∀ (n : Nat) (σ : St) (c3_35 : Int32) (c4_35 : Int32), fX9_rests_L35 q1_35 q2_35 kx35 n σ c3_35 c4_35 = some r → G X (vM a D tI tJ tB zz) 5 σ 35 [(0, .ref (a 0)), (1, .int q1_35), (2, .int q2_35), (3, .int c3_35), (4, .int c4_35)] [] := by
  intro n
  induction n with
  | zero => intro σ c3_35 c4_35 h; rw [fX9_rests_L35] at h; exact absurd h (by simp)
  | succ n35 ih35 =>
    intro σ c3_35 c4_35 h
    rw [fX9_rests_L35] at h
    refine g_iload hX 4 dX9_rests_35 rfl ?_
    refine g_aload_n hX 0 dX9_rests_37 rfl rfl ?_
    refine g_callVI (As := []) (rest := [.int c4_35]) hX 0 (Nat.le_of_ble_eq_true rfl) rfl rfl miX9_rows mvX9_rows lkX9_342 (by decide) rfl (Nat.le_of_ble_eq_true rfl) rfl dX9_rests_38 (fun τ x ho => kX9_rows _ ho) h (fun σ_8 t_9 h => ?_)
    refine g_icmp_ge hX 77 dX9_rests_41 (by decide) h (fun h => ?_) (fun h => ?_)
    · exact g_sub [] rfl (hkx35 _ _ _ h)
    · refine g_iload_n hX 1 dX9_rests_44 rfl rfl ?_
      refine g_iload_n hX 2 dX9_rests_45 rfl rfl ?_
      refine g_icmp_ge hX 77 dX9_rests_46 (by decide) h (fun h => ?_) (fun h => ?_)
      · exact g_sub [] rfl (hkx35 _ _ _ h)
      · refine g_aload_n hX 0 dX9_rests_49 rfl rfl ?_
        refine g_iload hX 4 dX9_rests_50 rfl ?_
        refine g_callVI (As := [.int c4_35]) (rest := []) hX 0 (Nat.le_of_ble_eq_true rfl) rfl rfl miX9_isRest mvX9_isRest lkX9_386 (by decide) rfl (Nat.le_of_ble_eq_true rfl) rfl dX9_rests_52 (fun τ x ho => kX9_isRest _ ho) h (fun σ_10 t_11 h => ?_)
        refine jp_inv (P := fun f => ∀ (σ_12 : St) (x3_13 : Int32) , f σ_12 x3_13 = some r → G X (vM a D tI tJ tB zz) 5 σ_12 71 [(0, .ref (a 0)), (1, .int q1_35), (2, .int q2_35), (4, .int c4_35), (3, .int x3_13)] []) h (fun σ_12 x3_13 h => ?_) (fun j71 hj71 h => ?_)
        · refine g_iinc (y := (1)) (lv' := fun x4_14 => [(4, .int x4_14), (0, .ref (a 0)), (1, .int q1_35), (2, .int q2_35), (3, .int x3_13)]) hX 3 dX9_rests_71 rfl (by decide) (by decide) (fun _ => rfl) h (fun x4_14 h => ?_)
          refine g_goto hX 35 dX9_rests_74 (by decide) ?_
          exact g_sub [1, 2, 3, 4, 0] rfl (ih35 _ _ _ h)
        refine g_if_ne hX 61 dX9_rests_55 (by decide) h (fun h => ?_) (fun h => ?_)
        · refine g_iload_n hX 3 dX9_rests_61 rfl rfl ?_
          refine g_if_ne hX 68 dX9_rests_62 (by decide) h (fun h => ?_) (fun h => ?_)
          · refine g_iinc (y := (-1)) (lv' := fun x3_15 => [(3, .int x3_15), (0, .ref (a 0)), (1, .int q1_35), (2, .int q2_35), (4, .int c4_35)]) hX 3 dX9_rests_68 rfl (by decide) (by decide) (fun _ => rfl) h (fun x3_15 h => ?_)
            exact g_sub [1, 2, 3, 4, 0] rfl (hj71 _ _ h)
          · refine g_iload hX 4 dX9_rests_65 rfl ?_
            exact g_reti hR h dX9_rests_67
        · refine g_goto hX 71 dX9_rests_58 (by decide) ?_
          exact g_sub [0, 1, 2, 4, 3] rfl (hj71 _ _ h)
set_option maxRecDepth 20000 in
set_option maxHeartbeats 4000000 in
theorem sX9_rests {X : CX} {a : Nat → Nat} {D : va_G} {tI tJ tB : ClassId} {zz : SV} {σ : St}  {p1 : Int32} {r : St × Int32} (hX : OKX X (vM a D tI tJ tB zz) cX9_rests 5 RX9 7 161) (hR : ∀ (pc : Nat) (lv : List (Nat × Value)), decode cX9_rests pc = .ok (.ireturn, 1) → G X (vM a D tI tJ tB zz) 5 r.1 pc lv [.int r.2]) (h : fX9_rests σ p1 = some r) : G X (vM a D tI tJ tB zz) 5 σ 0 [(0, .ref (a 0)), (1, .int p1)] [] := by
  unfold fX9_rests at h
  refine g_aload_n hX 0 dX9_rests_0 rfl rfl ?_
  refine gM_260 hX dX9_rests_1 ?_
  refine g_if_eq hX 12 dX9_rests_4 (by decide) h (fun h => ?_) (fun h => ?_)
  · refine g_iconst hX (-1) dX9_rests_12 (by decide) ?_
    exact g_reti hR h dX9_rests_13
  · refine g_iload_n hX 1 dX9_rests_7 rfl rfl ?_
    refine g_iconst hX (-1) dX9_rests_8 (by decide) ?_
    refine g_icmp_ge hX 14 dX9_rests_9 (by decide) h (fun h => ?_) (fun h => ?_)
    · refine g_aload_n hX 0 dX9_rests_14 rfl rfl ?_
      refine g_callVV (As := []) (rest := []) hX 0 (Nat.le_of_ble_eq_true rfl) rfl rfl miX9_knocks mvX9_knocks lkX9_361 (by decide) rfl (Nat.le_of_ble_eq_true rfl) rfl dX9_rests_15 (fun τ x ho => kX9_knocks _ ho) h (fun σ_1 t_2 h => ?_)
      refine g_aload_n hX 0 dX9_rests_18 rfl rfl ?_
      refine g_callVI (As := []) (rest := []) hX 0 (Nat.le_of_ble_eq_true rfl) rfl rfl miX9_countRests mvX9_countRests lkX9_389 (by decide) rfl (Nat.le_of_ble_eq_true rfl) rfl dX9_rests_19 (fun τ x ho => kX9_countRests _ ho) h (fun σ_3 t_4 h => ?_)
      refine g_istore_n (lv' := fun x2_5 => [(2, .int x2_5), (0, .ref (a 0)), (1, .int p1)]) hX dX9_rests_22 rfl (by decide) (fun _ => rfl) h (fun x2_5 h => ?_)
      refine g_iload_n hX 2 dX9_rests_23 rfl rfl ?_
      refine g_iconst hX (-1) dX9_rests_24 (by decide) ?_
      refine g_icmp_ne hX 30 dX9_rests_25 (by decide) h (fun h => ?_) (fun h => ?_)
      · refine g_iload_n hX 2 dX9_rests_30 rfl rfl ?_
        refine g_istore_n (lv' := fun x3_6 => [(3, .int x3_6), (2, .int x2_5), (0, .ref (a 0)), (1, .int p1)]) hX dX9_rests_31 rfl (by decide) (fun _ => rfl) h (fun x3_6 h => ?_)
        refine g_iconst hX (0) dX9_rests_32 (by decide) ?_
        refine g_istore (lv' := fun x4_7 => [(4, .int x4_7), (3, .int x3_6), (2, .int x2_5), (0, .ref (a 0)), (1, .int p1)]) hX dX9_rests_33 (by decide) (fun _ => rfl) h (fun x4_7 h => ?_)
        refine g_sub [3, 4, 2, 1, 0] rfl (sX9_rests_L35 hX hR (fun σ_16 x3_17 x4_18 h => ?_) FU _ _ _ h)
        refine g_iconst hX (-1) dX9_rests_77 (by decide) ?_
        exact g_reti hR h dX9_rests_78
      · refine g_iload_n hX 0 dX9_rests_28 rfl rfl ?_
        exact g_reti hR h dX9_rests_29
    · refine g_iconst hX (-1) dX9_rests_12 (by decide) ?_
      exact g_reti hR h dX9_rests_13
set_option maxRecDepth 20000 in
set_option maxHeartbeats 4000000 in
theorem kX9_rests (l : Launch) {a : Nat → Nat} {D : va_G} {tI tJ tB : ClassId} {zz : SV} {σ τ : St}  {p1 : Int32} {x : Int32} (h : fX9_rests σ p1 = some (τ, x)) : CtI l yX9_rests cX9_rests 5 (some .int) 7 161 (vM a D tI tJ tB zz) σ [.ref (a 0), .int p1] τ x := g_metI (by decide) (Nat.le_of_ble_eq_true rfl) rfl (fun X _ hX hR => sX9_rests (r := (τ, x)) hX hR h)
def fX9_pays (σ : St) (p1 : Int32) (p2 : Int32) : Option (St × Int64) :=
  cl (fX9_isSort σ p1) fun (σ_1 : St) (t_2 : Int32) => (if t_2 = 0 then some (σ_1, (-1 : Int64)) else cl (fX9_isIn σ_1 p2 (0 : Int32) (2 : Int32)) fun (σ_3 : St) (t_4 : Int32) => (if t_4 = 0 then some (σ_3, (-1 : Int64)) else cl (fX9_areReady σ_3 ) fun (σ_5 : St) (t_6 : Int32) => (if t_6 = 0 then some (σ_5, (-1 : Int64)) else cl (fX9_sells σ_5 ) fun (σ_7 : St) (t_8 : Unit) => (if p2 = 0 then chk (inb p1 12) (some (σ_7, (σ_7.2 24 (ix p1)))) else (if p2 = (1 : Int32) then chk (inb p1 12) (some (σ_7, (σ_7.2 25 (ix p1)))) else chk (inb p1 12) (some (σ_7, (σ_7.2 26 (ix p1)))))))))
set_option maxRecDepth 20000 in
set_option maxHeartbeats 4000000 in
theorem sX9_pays {X : CX} {a : Nat → Nat} {D : va_G} {tI tJ tB : ClassId} {zz : SV} {σ : St}  {p1 : Int32} {p2 : Int32} {r : St × Int64} (hX : OKX X (vM a D tI tJ tB zz) cX9_pays 3 RX9 10 228) (hR : ∀ (pc : Nat) (lv : List (Nat × Value)), decode cX9_pays pc = .ok (.lreturn, 1) → G X (vM a D tI tJ tB zz) 3 r.1 pc lv [.long r.2]) (h : fX9_pays σ p1 p2 = some r) : G X (vM a D tI tJ tB zz) 3 σ 0 [(0, .ref (a 0)), (1, .int p1), (2, .int p2)] [] := by
  unfold fX9_pays at h
  refine g_aload_n hX 0 dX9_pays_0 rfl rfl ?_
  refine g_iload_n hX 1 dX9_pays_1 rfl rfl ?_
  refine g_callVI (As := [.int p1]) (rest := []) hX 0 (Nat.le_of_ble_eq_true rfl) rfl rfl miX9_isSort mvX9_isSort lkX9_392 (by decide) rfl (Nat.le_of_ble_eq_true rfl) rfl dX9_pays_2 (fun τ x ho => kX9_isSort _ ho) h (fun σ_1 t_2 h => ?_)
  refine g_if_eq hX 24 dX9_pays_5 (by decide) h (fun h => ?_) (fun h => ?_)
  · refine g_ldc2 hX lkX9_370 dX9_pays_24 ?_
    exact g_retl hR h dX9_pays_27
  · refine g_iload_n hX 2 dX9_pays_8 rfl rfl ?_
    refine g_iconst hX (0) dX9_pays_9 (by decide) ?_
    refine g_iconst hX (2) dX9_pays_10 (by decide) ?_
    refine g_callSI (As := [.int p2, .int (0 : Int32), .int (2 : Int32)]) (rest := []) hX miX9_isIn mvX9_isIn lkX9_156 (by decide) rfl (Nat.le_of_ble_eq_true rfl) rfl dX9_pays_11 (fun τ x ho => kX9_isIn _ ho) h (fun σ_3 t_4 h => ?_)
    refine g_if_eq hX 24 dX9_pays_14 (by decide) h (fun h => ?_) (fun h => ?_)
    · refine g_ldc2 hX lkX9_370 dX9_pays_24 ?_
      exact g_retl hR h dX9_pays_27
    · refine g_aload_n hX 0 dX9_pays_17 rfl rfl ?_
      refine g_callVI (As := []) (rest := []) hX 0 (Nat.le_of_ble_eq_true rfl) rfl rfl miX9_areReady mvX9_areReady lkX9_367 (by decide) rfl (Nat.le_of_ble_eq_true rfl) rfl dX9_pays_18 (fun τ x ho => kX9_areReady _ ho) h (fun σ_5 t_6 h => ?_)
      refine g_if_ne hX 28 dX9_pays_21 (by decide) h (fun h => ?_) (fun h => ?_)
      · refine g_aload_n hX 0 dX9_pays_28 rfl rfl ?_
        refine g_callVV (As := []) (rest := []) hX 0 (Nat.le_of_ble_eq_true rfl) rfl rfl miX9_sells mvX9_sells lkX9_351 (by decide) rfl (Nat.le_of_ble_eq_true rfl) rfl dX9_pays_29 (fun τ x ho => kX9_sells _ ho) h (fun σ_7 t_8 h => ?_)
        refine g_iload_n hX 2 dX9_pays_32 rfl rfl ?_
        refine g_if_ne hX 45 dX9_pays_33 (by decide) h (fun h => ?_) (fun h => ?_)
        · refine g_iload_n hX 2 dX9_pays_45 rfl rfl ?_
          refine g_iconst hX (1) dX9_pays_46 (by decide) ?_
          refine g_icmp_ne hX 59 dX9_pays_47 (by decide) h (fun h => ?_) (fun h => ?_)
          · refine g_aload_n hX 0 dX9_pays_59 rfl rfl ?_
            refine gM_103 hX dX9_pays_60 ?_
            refine g_iload_n hX 1 dX9_pays_63 rfl rfl ?_
            refine alM_26 hX dX9_pays_64 h (fun h => ?_)
            exact g_retl hR h dX9_pays_65
          · refine g_aload_n hX 0 dX9_pays_50 rfl rfl ?_
            refine gM_100 hX dX9_pays_51 ?_
            refine g_iload_n hX 1 dX9_pays_54 rfl rfl ?_
            refine alM_25 hX dX9_pays_55 h (fun h => ?_)
            refine g_goto hX 65 dX9_pays_56 (by decide) ?_
            exact g_retl hR h dX9_pays_65
        · refine g_aload_n hX 0 dX9_pays_36 rfl rfl ?_
          refine gM_97 hX dX9_pays_37 ?_
          refine g_iload_n hX 1 dX9_pays_40 rfl rfl ?_
          refine alM_24 hX dX9_pays_41 h (fun h => ?_)
          refine g_goto hX 65 dX9_pays_42 (by decide) ?_
          exact g_retl hR h dX9_pays_65
      · refine g_ldc2 hX lkX9_370 dX9_pays_24 ?_
        exact g_retl hR h dX9_pays_27
set_option maxRecDepth 20000 in
set_option maxHeartbeats 4000000 in
theorem kX9_pays (l : Launch) {a : Nat → Nat} {D : va_G} {tI tJ tB : ClassId} {zz : SV} {σ τ : St}  {p1 : Int32} {p2 : Int32} {x : Int64} (h : fX9_pays σ p1 p2 = some (τ, x)) : CtL l yX9_pays cX9_pays 3 (some .long) 10 228 (vM a D tI tJ tB zz) σ [.ref (a 0), .int p1, .int p2] τ x := g_metL (by decide) (Nat.le_of_ble_eq_true rfl) rfl (fun X _ hX hR => sX9_pays (r := (τ, x)) hX hR h)
def fX9_meanNow (σ : St) (p1 : Int32) : Option (St × Int32) :=
  chk (inb p1 12) ((if (lg_cmp (σ.2 25 (ix p1)) (0 : Int64)) = 0 then some (σ, (-1 : Int32)) else chk (inb p1 12) (chk (inb p1 12) (chk (decide (¬ (σ.2 25 (ix p1)) = 0)) (some (σ, (((((σ.2 24 (ix p1)) * (1000 : Int64)) / (σ.2 25 (ix p1)))).toInt32)))))))
set_option maxRecDepth 20000 in
set_option maxHeartbeats 4000000 in
theorem sX9_meanNow {X : CX} {a : Nat → Nat} {D : va_G} {tI tJ tB : ClassId} {zz : SV} {σ : St}  {p1 : Int32} {r : St × Int32} (hX : OKX X (vM a D tI tJ tB zz) cX9_meanNow 2 RX9 0 0) (hR : ∀ (pc : Nat) (lv : List (Nat × Value)), decode cX9_meanNow pc = .ok (.ireturn, 1) → G X (vM a D tI tJ tB zz) 2 r.1 pc lv [.int r.2]) (h : fX9_meanNow σ p1 = some r) : G X (vM a D tI tJ tB zz) 2 σ 0 [(0, .ref (a 0)), (1, .int p1)] [] := by
  unfold fX9_meanNow at h
  refine g_aload_n hX 0 dX9_meanNow_0 rfl rfl ?_
  refine gM_100 hX dX9_meanNow_1 ?_
  refine g_iload_n hX 1 dX9_meanNow_4 rfl rfl ?_
  refine alM_25 hX dX9_meanNow_5 h (fun h => ?_)
  refine g_lconst hX (0) dX9_meanNow_6 (by decide) ?_
  refine g_lcmp hX dX9_meanNow_7 ?_
  refine g_if_ne hX 15 dX9_meanNow_8 (by decide) h (fun h => ?_) (fun h => ?_)
  · refine g_aload_n hX 0 dX9_meanNow_15 rfl rfl ?_
    refine gM_97 hX dX9_meanNow_16 ?_
    refine g_iload_n hX 1 dX9_meanNow_19 rfl rfl ?_
    refine alM_24 hX dX9_meanNow_20 h (fun h => ?_)
    refine g_ldc2 hX lkX9_395 dX9_meanNow_21 ?_
    refine g_lmul hX dX9_meanNow_24 ?_
    refine g_aload_n hX 0 dX9_meanNow_25 rfl rfl ?_
    refine gM_100 hX dX9_meanNow_26 ?_
    refine g_iload_n hX 1 dX9_meanNow_29 rfl rfl ?_
    refine alM_25 hX dX9_meanNow_30 h (fun h => ?_)
    refine g_ldiv hX dX9_meanNow_31 h (fun h => ?_)
    refine g_l2i hX dX9_meanNow_32 ?_
    exact g_reti hR h dX9_meanNow_33
  · refine g_iconst hX (-1) dX9_meanNow_11 (by decide) ?_
    refine g_goto hX 33 dX9_meanNow_12 (by decide) ?_
    exact g_reti hR h dX9_meanNow_33
set_option maxRecDepth 20000 in
set_option maxHeartbeats 4000000 in
theorem kX9_meanNow (l : Launch) {a : Nat → Nat} {D : va_G} {tI tJ tB : ClassId} {zz : SV} {σ τ : St}  {p1 : Int32} {x : Int32} (h : fX9_meanNow σ p1 = some (τ, x)) : CtI l yX9_meanNow cX9_meanNow 2 (some .int) 0 0 (vM a D tI tJ tB zz) σ [.ref (a 0), .int p1] τ x := g_metI (by decide) (Nat.le_of_ble_eq_true rfl) rfl (fun X _ hX hR => sX9_meanNow (r := (τ, x)) hX hR h)
def fX9_mean (σ : St) (p1 : Int32) : Option (St × Int32) :=
  cl (fX9_isSort σ p1) fun (σ_1 : St) (t_2 : Int32) => (if t_2 = 0 then some (σ_1, (-1 : Int32)) else cl (fX9_areReady σ_1 ) fun (σ_3 : St) (t_4 : Int32) => (if t_4 = 0 then some (σ_3, (-1 : Int32)) else cl (fX9_sells σ_3 ) fun (σ_5 : St) (t_6 : Unit) => cl (fX9_meanNow σ_5 p1) fun (σ_7 : St) (t_8 : Int32) => some (σ_7, t_8)))
set_option maxRecDepth 20000 in
set_option maxHeartbeats 4000000 in
theorem sX9_mean {X : CX} {a : Nat → Nat} {D : va_G} {tI tJ tB : ClassId} {zz : SV} {σ : St}  {p1 : Int32} {r : St × Int32} (hX : OKX X (vM a D tI tJ tB zz) cX9_mean 2 RX9 10 228) (hR : ∀ (pc : Nat) (lv : List (Nat × Value)), decode cX9_mean pc = .ok (.ireturn, 1) → G X (vM a D tI tJ tB zz) 2 r.1 pc lv [.int r.2]) (h : fX9_mean σ p1 = some r) : G X (vM a D tI tJ tB zz) 2 σ 0 [(0, .ref (a 0)), (1, .int p1)] [] := by
  unfold fX9_mean at h
  refine g_aload_n hX 0 dX9_mean_0 rfl rfl ?_
  refine g_iload_n hX 1 dX9_mean_1 rfl rfl ?_
  refine g_callVI (As := [.int p1]) (rest := []) hX 0 (Nat.le_of_ble_eq_true rfl) rfl rfl miX9_isSort mvX9_isSort lkX9_392 (by decide) rfl (Nat.le_of_ble_eq_true rfl) rfl dX9_mean_2 (fun τ x ho => kX9_isSort _ ho) h (fun σ_1 t_2 h => ?_)
  refine g_if_eq hX 15 dX9_mean_5 (by decide) h (fun h => ?_) (fun h => ?_)
  · refine g_iconst hX (-1) dX9_mean_15 (by decide) ?_
    exact g_reti hR h dX9_mean_16
  · refine g_aload_n hX 0 dX9_mean_8 rfl rfl ?_
    refine g_callVI (As := []) (rest := []) hX 0 (Nat.le_of_ble_eq_true rfl) rfl rfl miX9_areReady mvX9_areReady lkX9_367 (by decide) rfl (Nat.le_of_ble_eq_true rfl) rfl dX9_mean_9 (fun τ x ho => kX9_areReady _ ho) h (fun σ_3 t_4 h => ?_)
    refine g_if_ne hX 17 dX9_mean_12 (by decide) h (fun h => ?_) (fun h => ?_)
    · refine g_aload_n hX 0 dX9_mean_17 rfl rfl ?_
      refine g_callVV (As := []) (rest := []) hX 0 (Nat.le_of_ble_eq_true rfl) rfl rfl miX9_sells mvX9_sells lkX9_351 (by decide) rfl (Nat.le_of_ble_eq_true rfl) rfl dX9_mean_18 (fun τ x ho => kX9_sells _ ho) h (fun σ_5 t_6 h => ?_)
      refine g_aload_n hX 0 dX9_mean_21 rfl rfl ?_
      refine g_iload_n hX 1 dX9_mean_22 rfl rfl ?_
      refine g_callVI (As := [.int p1]) (rest := []) hX 0 (Nat.le_of_ble_eq_true rfl) rfl rfl miX9_meanNow mvX9_meanNow lkX9_397 (by decide) rfl (Nat.le_of_ble_eq_true rfl) rfl dX9_mean_23 (fun τ x ho => kX9_meanNow _ ho) h (fun σ_7 t_8 h => ?_)
      exact g_reti hR h dX9_mean_26
    · refine g_iconst hX (-1) dX9_mean_15 (by decide) ?_
      exact g_reti hR h dX9_mean_16
set_option maxRecDepth 20000 in
set_option maxHeartbeats 4000000 in
theorem kX9_mean (l : Launch) {a : Nat → Nat} {D : va_G} {tI tJ tB : ClassId} {zz : SV} {σ τ : St}  {p1 : Int32} {x : Int32} (h : fX9_mean σ p1 = some (τ, x)) : CtI l yX9_mean cX9_mean 2 (some .int) 10 228 (vM a D tI tJ tB zz) σ [.ref (a 0), .int p1] τ x := g_metI (by decide) (Nat.le_of_ble_eq_true rfl) rfl (fun X _ hX hR => sX9_mean (r := (τ, x)) hX hR h)
def fX9_gap_L60 (q1_60 : Int64) (q3_60 : Int32) (kx60 : St → Int32 → Int32 → Int32 → Option (St × Int64)) : Nat → St → Int32 → Int32 → Int32 → Option (St × Int64)
  | 0, _, _, _, _ => none
  | n60 + 1, σ, c4_60, c5_60, c6_60 =>
    (if (σ.1 0 0) ≤ c6_60 then kx60 σ c4_60 c5_60 c6_60 else chk (inb c6_60 4) (bnd (if (σ.1 21 (ix c6_60)) < c4_60 then (σ.1 21 (ix c6_60)) else c4_60) fun (t_15 : Int32) => bnd t_15 fun (x4_16 : Int32) => chk (inb c6_60 4) (bnd (if c5_60 < (σ.1 21 (ix c6_60)) then (σ.1 21 (ix c6_60)) else c5_60) fun (t_17 : Int32) => bnd t_17 fun (x5_18 : Int32) => bnd (c6_60 + (1 : Int32)) fun (x6_19 : Int32) => fX9_gap_L60 q1_60 q3_60 kx60 n60 σ x4_16 x5_18 x6_19)))
def fX9_gap_L15  (kx15 : St → Int64 → Int32 → Option (St × Int64)) : Nat → St → Int64 → Int32 → Option (St × Int64)
  | 0, _, _, _ => none
  | n15 + 1, σ, c1_15, c3_15 =>
    cl (fX9_rows σ ) fun (σ_5 : St) (t_6 : Int32) => (if t_6 ≤ c3_15 then kx15 σ_5 c1_15 c3_15 else cl (fX9_lays_ σ_5 c3_15 (0 : Int32)) fun (σ_7 : St) (t_8 : Unit) => (jp (fun (σ_9 : St) (x1_10 : Int64)  => bnd (c3_15 + (1 : Int32)) fun (x3_11 : Int32) => fX9_gap_L15 kx15 n15 σ_9 x1_10 x3_11) fun j125 => (if (lg_cmp (σ_7.2 0 47) (0 : Int64)) = 0 then j125 σ_7 c1_15 else chk (inb (0 : Int32) 4) (bnd (σ_7.1 21 (ix (0 : Int32))) fun (x4_12 : Int32) => chk (inb (0 : Int32) 4) (bnd (σ_7.1 21 (ix (0 : Int32))) fun (x5_13 : Int32) => bnd (1 : Int32) fun (x6_14 : Int32) => fX9_gap_L60 c1_15 c3_15 (fun (σ_20 : St) (x4_21 : Int32) (x5_22 : Int32) (x6_23 : Int32) => cl (fX9_price σ_20 x5_22) fun (σ_24 : St) (t_25 : Int32) => cl (fX9_price σ_24 x4_21) fun (σ_26 : St) (t_27 : Int32) => bnd (c1_15 + ((σ_20.2 0 47) * (((t_25 - t_27)).toInt64))) fun (x1_28 : Int64) => j125 σ_26 x1_28) FU σ_7 x4_12 x5_13 x6_14)))))
def fX9_gap (σ : St)  : Option (St × Int64) :=
  cl (fX9_areReady σ ) fun (σ_1 : St) (t_2 : Int32) => (if t_2 = 0 then some (σ_1, (-1 : Int64)) else bnd (0 : Int64) fun (x1_3 : Int64) => bnd (0 : Int32) fun (x3_4 : Int32) => fX9_gap_L15  (fun (σ_29 : St) (x1_30 : Int64) (x3_31 : Int32) => some (σ_29, x1_30)) FU σ_1 x1_3 x3_4)
set_option maxRecDepth 20000 in
set_option maxHeartbeats 4000000 in
theorem sX9_gap_L60 {X : CX} {a : Nat → Nat} {D : va_G} {tI tJ tB : ClassId} {zz : SV} {q1_60 : Int64} {q3_60 : Int32} {kx60 : St → Int32 → Int32 → Int32 → Option (St × Int64)} {r : St × Int64} (hX : OKX X (vM a D tI tJ tB zz) cX9_gap 7 RX9 10 228) (hR : ∀ (pc : Nat) (lv : List (Nat × Value)), decode cX9_gap pc = .ok (.lreturn, 1) → G X (vM a D tI tJ tB zz) 7 r.1 pc lv [.long r.2]) (hkx60 : ∀ (σ : St) (e4_60 : Int32) (e5_60 : Int32) (e6_60 : Int32), kx60 σ e4_60 e5_60 e6_60 = some r → G X (vM a D tI tJ tB zz) 7 σ 103 [(0, .ref (a 0)), (1, .long q1_60), (3, .int q3_60), (4, .int e4_60), (5, .int e5_60)] []) : ∀ (n : Nat) (σ : St) (c4_60 : Int32) (c5_60 : Int32) (c6_60 : Int32), fX9_gap_L60 q1_60 q3_60 kx60 n σ c4_60 c5_60 c6_60 = some r → G X (vM a D tI tJ tB zz) 7 σ 60 [(0, .ref (a 0)), (1, .long q1_60), (3, .int q3_60), (4, .int c4_60), (5, .int c5_60), (6, .int c6_60)] [] := by
  intro n
  induction n with
  | zero => intro σ c4_60 c5_60 c6_60 h; rw [fX9_gap_L60] at h; exact absurd h (by simp)
  | succ n60 ih60 =>
    intro σ c4_60 c5_60 c6_60 h
    rw [fX9_gap_L60] at h
    refine g_iload hX 5 dX9_gap_60 rfl ?_
    refine g_aload_n hX 0 dX9_gap_62 rfl rfl ?_
    refine gM_260 hX dX9_gap_63 ?_
    refine g_icmp_ge hX 103 dX9_gap_66 (by decide) h (fun h => ?_) (fun h => ?_)
    · exact g_sub [0, 1, 2, 3, 4] rfl (hkx60 _ _ _ _ h)
    · refine g_iload hX 3 dX9_gap_69 rfl ?_
      refine g_aload_n hX 0 dX9_gap_71 rfl rfl ?_
      refine gM_88 hX dX9_gap_72 ?_
      refine g_iload hX 5 dX9_gap_75 rfl ?_
      refine alM_21 hX dX9_gap_77 h (fun h => ?_)
      refine g_mmin hX lkX9_400 mathS_minI mathI mathC_minI (by decide) (by decide) (Nat.le_of_ble_eq_true rfl) dX9_gap_78 h (fun t_15 h => ?_)
      refine g_istore (lv' := fun x4_16 => [(4, .int x4_16), (0, .ref (a 0)), (1, .long q1_60), (3, .int q3_60), (5, .int c5_60), (6, .int c6_60)]) hX dX9_gap_81 (by decide) (fun _ => rfl) h (fun x4_16 h => ?_)
      refine g_iload hX 4 dX9_gap_83 rfl ?_
      refine g_aload_n hX 1 dX9_gap_85 rfl rfl ?_
      refine gM_88 hX dX9_gap_86 ?_
      refine g_iload hX 5 dX9_gap_89 rfl ?_
      refine alM_21 hX dX9_gap_91 h (fun h => ?_)
      refine g_mmax hX lkX9_406 mathS_maxI mathI mathC_maxI (by decide) (by decide) (Nat.le_of_ble_eq_true rfl) dX9_gap_92 h (fun t_17 h => ?_)
      refine g_istore (lv' := fun x5_18 => [(5, .int x5_18), (4, .int x4_16), (0, .ref (a 0)), (1, .long q1_60), (3, .int q3_60), (6, .int c6_60)]) hX dX9_gap_95 (by decide) (fun _ => rfl) h (fun x5_18 h => ?_)
      refine g_iinc (y := (1)) (lv' := fun x6_19 => [(6, .int x6_19), (5, .int x5_18), (4, .int x4_16), (0, .ref (a 0)), (1, .long q1_60), (3, .int q3_60)]) hX 5 dX9_gap_97 rfl (by decide) (by decide) (fun _ => rfl) h (fun x6_19 h => ?_)
      refine g_goto hX 60 dX9_gap_100 (by decide) ?_
      exact g_sub [3, 4, 5, 2, 1, 0] rfl (ih60 _ _ _ _ h)
set_option maxRecDepth 20000 in
set_option maxHeartbeats 4000000 in
theorem sX9_gap_L15 {X : CX} {a : Nat → Nat} {D : va_G} {tI tJ tB : ClassId} {zz : SV}  {kx15 : St → Int64 → Int32 → Option (St × Int64)} {r : St × Int64} (hX : OKX X (vM a D tI tJ tB zz) cX9_gap 7 RX9 10 228) (hR : ∀ (pc : Nat) (lv : List (Nat × Value)), decode cX9_gap pc = .ok (.lreturn, 1) → G X (vM a D tI tJ tB zz) 7 r.1 pc lv [.long r.2]) (hkx15 : ∀ (σ : St) (e1_15 : Int64) (e3_15 : Int32), kx15 σ e1_15 e3_15 = some r → G X (vM a D tI tJ tB zz) 7 σ 131 [(1, .long e1_15)] []) : ∀ (n : Nat) (σ : St) (c1_15 : Int64) (c3_15 : Int32), fX9_gap_L15 kx15 n σ c1_15 c3_15 = some r → G X (vM a D tI tJ tB zz) 7 σ 15 [(0, .ref (a 0)), (1, .long c1_15), (3, .int c3_15)] [] := by
  intro n
  induction n with
  | zero => intro σ c1_15 c3_15 h; rw [fX9_gap_L15] at h; exact absurd h (by simp)
  | succ n15 ih15 =>
    intro σ c1_15 c3_15 h
    rw [fX9_gap_L15] at h
    refine g_iload_n hX 2 dX9_gap_15 rfl rfl ?_
    refine g_aload_n hX 0 dX9_gap_16 rfl rfl ?_
    refine g_callVI (As := []) (rest := [.int c3_15]) hX 0 (Nat.le_of_ble_eq_true rfl) rfl rfl miX9_rows mvX9_rows lkX9_342 (by decide) rfl (Nat.le_of_ble_eq_true rfl) rfl dX9_gap_17 (fun τ x ho => kX9_rows _ ho) h (fun σ_5 t_6 h => ?_)
    refine g_icmp_ge hX 131 dX9_gap_20 (by decide) h (fun h => ?_) (fun h => ?_)
    · exact g_sub [1] rfl (hkx15 _ _ _ h)
    · refine g_aload_n hX 0 dX9_gap_23 rfl rfl ?_
      refine g_iload_n hX 2 dX9_gap_24 rfl rfl ?_
      refine g_iconst hX (0) dX9_gap_25 (by decide) ?_
      refine g_callVV (As := [.int c3_15, .int (0 : Int32)]) (rest := []) hX 0 (Nat.le_of_ble_eq_true rfl) rfl rfl miX9_lays_ mvX9_lays_ lkX9_345 (by decide) rfl (Nat.le_of_ble_eq_true rfl) rfl dX9_gap_26 (fun τ x ho => kX9_lays_ _ ho) h (fun σ_7 t_8 h => ?_)
      refine g_aload_n hX 0 dX9_gap_29 rfl rfl ?_
      refine gM_331 hX dX9_gap_30 ?_
      refine g_lconst hX (0) dX9_gap_33 (by decide) ?_
      refine g_lcmp hX dX9_gap_34 ?_
      refine jp_inv (P := fun f => ∀ (σ_9 : St) (x1_10 : Int64) , f σ_9 x1_10 = some r → G X (vM a D tI tJ tB zz) 7 σ_9 125 [(0, .ref (a 0)), (3, .int c3_15), (1, .long x1_10)] []) h (fun σ_9 x1_10 h => ?_) (fun j125 hj125 h => ?_)
      · refine g_iinc (y := (1)) (lv' := fun x3_11 => [(3, .int x3_11), (0, .ref (a 0)), (1, .long x1_10)]) hX 1 dX9_gap_125 rfl (by decide) (by decide) (fun _ => rfl) h (fun x3_11 h => ?_)
        refine g_goto hX 15 dX9_gap_128 (by decide) ?_
        exact g_sub [1, 2, 0] rfl (ih15 _ _ _ h)
      refine g_if_ne hX 41 dX9_gap_35 (by decide) h (fun h => ?_) (fun h => ?_)
      · refine g_aload_n hX 0 dX9_gap_41 rfl rfl ?_
        refine gM_88 hX dX9_gap_42 ?_
        refine g_iconst hX (0) dX9_gap_45 (by decide) ?_
        refine alM_21 hX dX9_gap_46 h (fun h => ?_)
        refine g_istore (lv' := fun x4_12 => [(4, .int x4_12), (0, .ref (a 0)), (1, .long c1_15), (3, .int c3_15)]) hX dX9_gap_47 (by decide) (fun _ => rfl) h (fun x4_12 h => ?_)
        refine g_aload_n hX 1 dX9_gap_49 rfl rfl ?_
        refine gM_88 hX dX9_gap_50 ?_
        refine g_iconst hX (0) dX9_gap_53 (by decide) ?_
        refine alM_21 hX dX9_gap_54 h (fun h => ?_)
        refine g_istore (lv' := fun x5_13 => [(5, .int x5_13), (4, .int x4_12), (0, .ref (a 0)), (1, .long c1_15), (3, .int c3_15)]) hX dX9_gap_55 (by decide) (fun _ => rfl) h (fun x5_13 h => ?_)
        refine g_iconst hX (1) dX9_gap_57 (by decide) ?_
        refine g_istore (lv' := fun x6_14 => [(6, .int x6_14), (5, .int x5_13), (4, .int x4_12), (0, .ref (a 0)), (1, .long c1_15), (3, .int c3_15)]) hX dX9_gap_58 (by decide) (fun _ => rfl) h (fun x6_14 h => ?_)
        refine g_sub [3, 4, 5, 2, 1, 0] rfl (sX9_gap_L60 hX hR (fun σ_20 x4_21 x5_22 x6_23 h => ?_) FU _ _ _ _ h)
        refine g_lload_n hX 1 dX9_gap_103 rfl rfl ?_
        refine g_aload_n hX 0 dX9_gap_104 rfl rfl ?_
        refine gM_331 hX dX9_gap_105 ?_
        refine g_aload_n hX 0 dX9_gap_108 rfl rfl ?_
        refine g_iload hX 4 dX9_gap_109 rfl ?_
        refine g_callVI (As := [.int x5_22]) (rest := [.long (σ_20.2 0 47), .long c1_15]) hX 0 (Nat.le_of_ble_eq_true rfl) rfl rfl miX9_price mvX9_price lkX9_312 (by decide) rfl (Nat.le_of_ble_eq_true rfl) rfl dX9_gap_111 (fun τ x ho => kX9_price _ ho) h (fun σ_24 t_25 h => ?_)
        refine g_aload_n hX 0 dX9_gap_114 rfl rfl ?_
        refine g_iload hX 3 dX9_gap_115 rfl ?_
        refine g_callVI (As := [.int x4_21]) (rest := [.int t_25, .long (σ_20.2 0 47), .long c1_15]) hX 0 (Nat.le_of_ble_eq_true rfl) rfl rfl miX9_price mvX9_price lkX9_312 (by decide) rfl (Nat.le_of_ble_eq_true rfl) rfl dX9_gap_117 (fun τ x ho => kX9_price _ ho) h (fun σ_26 t_27 h => ?_)
        refine g_isub hX dX9_gap_120 ?_
        refine g_i2l hX dX9_gap_121 ?_
        refine g_lmul hX dX9_gap_122 ?_
        refine g_ladd hX dX9_gap_123 ?_
        refine g_lstore_n (lv' := fun x1_28 => [(1, .long x1_28), (0, .ref (a 0)), (3, .int c3_15), (4, .int x4_21), (5, .int x5_22)]) hX dX9_gap_124 rfl (by decide) (fun _ => rfl) h (fun x1_28 h => ?_)
        exact g_sub [1, 2, 0] rfl (hj125 _ _ h)
      · refine g_goto hX 125 dX9_gap_38 (by decide) ?_
        exact g_sub [0, 2, 1] rfl (hj125 _ _ h)
set_option maxRecDepth 20000 in
set_option maxHeartbeats 4000000 in
theorem sX9_gap {X : CX} {a : Nat → Nat} {D : va_G} {tI tJ tB : ClassId} {zz : SV} {σ : St}   {r : St × Int64} (hX : OKX X (vM a D tI tJ tB zz) cX9_gap 7 RX9 10 228) (hR : ∀ (pc : Nat) (lv : List (Nat × Value)), decode cX9_gap pc = .ok (.lreturn, 1) → G X (vM a D tI tJ tB zz) 7 r.1 pc lv [.long r.2]) (h : fX9_gap σ  = some r) : G X (vM a D tI tJ tB zz) 7 σ 0 [(0, .ref (a 0))] [] := by
  unfold fX9_gap at h
  refine g_aload_n hX 0 dX9_gap_0 rfl rfl ?_
  refine g_callVI (As := []) (rest := []) hX 0 (Nat.le_of_ble_eq_true rfl) rfl rfl miX9_areReady mvX9_areReady lkX9_367 (by decide) rfl (Nat.le_of_ble_eq_true rfl) rfl dX9_gap_1 (fun τ x ho => kX9_areReady _ ho) h (fun σ_1 t_2 h => ?_)
  refine g_if_ne hX 11 dX9_gap_4 (by decide) h (fun h => ?_) (fun h => ?_)
  · refine g_lconst hX (0) dX9_gap_11 (by decide) ?_
    refine g_lstore_n (lv' := fun x1_3 => [(1, .long x1_3), (0, .ref (a 0))]) hX dX9_gap_12 rfl (by decide) (fun _ => rfl) h (fun x1_3 h => ?_)
    refine g_iconst hX (0) dX9_gap_13 (by decide) ?_
    refine g_istore_n (lv' := fun x3_4 => [(3, .int x3_4), (1, .long x1_3), (0, .ref (a 0))]) hX dX9_gap_14 rfl (by decide) (fun _ => rfl) h (fun x3_4 h => ?_)
    refine g_sub [2, 1, 0] rfl (sX9_gap_L15 hX hR (fun σ_29 x1_30 x3_31 h => ?_) FU _ _ _ h)
    refine g_lload_n hX 0 dX9_gap_131 rfl rfl ?_
    exact g_retl hR h dX9_gap_132
  · refine g_ldc2 hX lkX9_370 dX9_gap_7 ?_
    exact g_retl hR h dX9_gap_10
set_option maxRecDepth 20000 in
set_option maxHeartbeats 4000000 in
theorem kX9_gap (l : Launch) {a : Nat → Nat} {D : va_G} {tI tJ tB : ClassId} {zz : SV} {σ τ : St}   {x : Int64} (h : fX9_gap σ  = some (τ, x)) : CtL l yX9_gap cX9_gap 7 (some .long) 10 228 (vM a D tI tJ tB zz) σ [.ref (a 0)] τ x := g_metL (by decide) (Nat.le_of_ble_eq_true rfl) rfl (fun X _ hX hR => sX9_gap (r := (τ, x)) hX hR h)
def fX9_valueOf (σ : St) (p1 : Int32) (p2 : Int32) : Option (St × Int32) :=
  cl (fX9_leastStep σ p2) fun (σ_1 : St) (t_2 : Int32) => bnd t_2 fun (x3_3 : Int32) => (if x3_3 = (-1 : Int32) then some (σ_1, (0 : Int32)) else chk (inb p1 12) (cl (fX9_price σ_1 x3_3) fun (σ_4 : St) (t_5 : Int32) => bnd (if (0 : Int32) < ((σ_1.1 6 (ix p1)) - t_5) then ((σ_1.1 6 (ix p1)) - t_5) else (0 : Int32)) fun (t_6 : Int32) => some (σ_4, t_6)))
set_option maxRecDepth 20000 in
set_option maxHeartbeats 4000000 in
theorem sX9_valueOf {X : CX} {a : Nat → Nat} {D : va_G} {tI tJ tB : ClassId} {zz : SV} {σ : St}  {p1 : Int32} {p2 : Int32} {r : St × Int32} (hX : OKX X (vM a D tI tJ tB zz) cX9_valueOf 4 RX9 2 44) (hR : ∀ (pc : Nat) (lv : List (Nat × Value)), decode cX9_valueOf pc = .ok (.ireturn, 1) → G X (vM a D tI tJ tB zz) 4 r.1 pc lv [.int r.2]) (h : fX9_valueOf σ p1 p2 = some r) : G X (vM a D tI tJ tB zz) 4 σ 0 [(0, .ref (a 0)), (1, .int p1), (2, .int p2)] [] := by
  unfold fX9_valueOf at h
  refine g_aload_n hX 0 dX9_valueOf_0 rfl rfl ?_
  refine g_iload_n hX 2 dX9_valueOf_1 rfl rfl ?_
  refine g_callVI (As := [.int p2]) (rest := []) hX 0 (Nat.le_of_ble_eq_true rfl) rfl rfl miX9_leastStep mvX9_leastStep lkX9_309 (by decide) rfl (Nat.le_of_ble_eq_true rfl) rfl dX9_valueOf_2 (fun τ x ho => kX9_leastStep _ ho) h (fun σ_1 t_2 h => ?_)
  refine g_istore_n (lv' := fun x3_3 => [(3, .int x3_3), (0, .ref (a 0)), (1, .int p1), (2, .int p2)]) hX dX9_valueOf_5 rfl (by decide) (fun _ => rfl) h (fun x3_3 h => ?_)
  refine g_iload_n hX 0 dX9_valueOf_6 rfl rfl ?_
  refine g_iconst hX (-1) dX9_valueOf_7 (by decide) ?_
  refine g_icmp_ne hX 15 dX9_valueOf_8 (by decide) h (fun h => ?_) (fun h => ?_)
  · refine g_iconst hX (0) dX9_valueOf_15 (by decide) ?_
    refine g_aload_n hX 1 dX9_valueOf_16 rfl rfl ?_
    refine gM_36 hX dX9_valueOf_17 ?_
    refine g_iload_n hX 2 dX9_valueOf_20 rfl rfl ?_
    refine alM_6 hX dX9_valueOf_21 h (fun h => ?_)
    refine g_aload_n hX 1 dX9_valueOf_22 rfl rfl ?_
    refine g_iload_n hX 0 dX9_valueOf_23 rfl rfl ?_
    refine g_callVI (As := [.int x3_3]) (rest := [.int (σ_1.1 6 (ix p1)), .int (0 : Int32)]) hX 0 (Nat.le_of_ble_eq_true rfl) rfl rfl miX9_price mvX9_price lkX9_312 (by decide) rfl (Nat.le_of_ble_eq_true rfl) rfl dX9_valueOf_24 (fun τ x ho => kX9_price _ ho) h (fun σ_4 t_5 h => ?_)
    refine g_isub hX dX9_valueOf_27 ?_
    refine g_mmax hX lkX9_406 mathS_maxI mathI mathC_maxI (by decide) (by decide) (Nat.le_of_ble_eq_true rfl) dX9_valueOf_28 h (fun t_6 h => ?_)
    exact g_reti hR h dX9_valueOf_31
  · refine g_iconst hX (0) dX9_valueOf_11 (by decide) ?_
    refine g_goto hX 31 dX9_valueOf_12 (by decide) ?_
    exact g_reti hR h dX9_valueOf_31
set_option maxRecDepth 20000 in
set_option maxHeartbeats 4000000 in
theorem kX9_valueOf (l : Launch) {a : Nat → Nat} {D : va_G} {tI tJ tB : ClassId} {zz : SV} {σ τ : St}  {p1 : Int32} {p2 : Int32} {x : Int32} (h : fX9_valueOf σ p1 p2 = some (τ, x)) : CtI l yX9_valueOf cX9_valueOf 4 (some .int) 2 44 (vM a D tI tJ tB zz) σ [.ref (a 0), .int p1, .int p2] τ x := g_metI (by decide) (Nat.le_of_ble_eq_true rfl) rfl (fun X _ hX hR => sX9_valueOf (r := (τ, x)) hX hR h)
def fX9_savesNow_L5 (q1_5 : Int32) (q2_5 : Int32) (kx5 : St → Int64 → Int32 → Option (St × Int64)) : Nat → St → Int64 → Int32 → Option (St × Int64)
  | 0, _, _, _ => none
  | n5 + 1, σ, c3_5, c5_5 =>
    cl (fX9_rows σ ) fun (σ_3 : St) (t_4 : Int32) => (if t_4 ≤ c5_5 then kx5 σ_3 c3_5 c5_5 else cl (fX9_lays_ σ_3 c5_5 (0 : Int32)) fun (σ_5 : St) (t_6 : Unit) => (jp (fun (σ_7 : St) (x3_8 : Int64)  => bnd (c5_5 + (1 : Int32)) fun (x5_9 : Int32) => fX9_savesNow_L5 q1_5 q2_5 kx5 n5 σ_7 x3_8 x5_9) fun j66 => (if (lg_cmp (σ_5.2 0 47) (0 : Int64)) ≤ 0 then j66 σ_5 c3_5 else chk (inb q1_5 12) (cl (fX9_valueOf σ_5 q1_5 ((σ_5.1 27 (ix q1_5)) ||| ((1 : Int32) <<< (q2_5 &&& 31)))) fun (σ_10 : St) (t_11 : Int32) => chk (inb q1_5 12) (cl (fX9_valueOf σ_10 q1_5 (σ_10.1 27 (ix q1_5))) fun (σ_12 : St) (t_13 : Int32) => bnd (c3_5 + ((σ_5.2 0 47) * (((t_11 - t_13)).toInt64))) fun (x3_14 : Int64) => j66 σ_12 x3_14)))))
def fX9_savesNow (σ : St) (p1 : Int32) (p2 : Int32) : Option (St × Int64) :=
  bnd (0 : Int64) fun (x3_1 : Int64) => bnd (0 : Int32) fun (x5_2 : Int32) => fX9_savesNow_L5 p1 p2 (fun (σ_15 : St) (x3_16 : Int64) (x5_17 : Int32) => some (σ_15, x3_16)) FU σ x3_1 x5_2
set_option maxRecDepth 20000 in
set_option maxHeartbeats 4000000 in
theorem sX9_savesNow_L5 {X : CX} {a : Nat → Nat} {D : va_G} {tI tJ tB : ClassId} {zz : SV} {q1_5 : Int32} {q2_5 : Int32} {kx5 : St → Int64 → Int32 → Option (St × Int64)} {r : St × Int64} (hX : OKX X (vM a D tI tJ tB zz) cX9_savesNow 6 RX9 3 67) (hR : ∀ (pc : Nat) (lv : List (Nat × Value)), decode cX9_savesNow pc = .ok (.lreturn, 1) → G X (vM a D tI tJ tB zz) 6 r.1 pc lv [.long r.2]) (hkx5 : ∀ (σ : St) (e3_5 : Int64) (e5_5 : Int32), kx5 σ e3_5 e5_5 = some r → G X (vM a D tI tJ tB zz) 6 σ 72 [(3, .long e3_5)] []) : ∀ (n : Nat) (σ : St) (c3_5 : Int64) (c5_5 : Int32), fX9_savesNow_L5 q1_5 q2_5 kx5 n σ c3_5 c5_5 = some r → G X (vM a D tI tJ tB zz) 6 σ 5 [(0, .ref (a 0)), (1, .int q1_5), (2, .int q2_5), (3, .long c3_5), (5, .int c5_5)] [] := by
  intro n
  induction n with
  | zero => intro σ c3_5 c5_5 h; rw [fX9_savesNow_L5] at h; exact absurd h (by simp)
  | succ n5 ih5 =>
    intro σ c3_5 c5_5 h
    rw [fX9_savesNow_L5] at h
    refine g_iload hX 4 dX9_savesNow_5 rfl ?_
    refine g_aload_n hX 0 dX9_savesNow_7 rfl rfl ?_
    refine g_callVI (As := []) (rest := [.int c5_5]) hX 0 (Nat.le_of_ble_eq_true rfl) rfl rfl miX9_rows mvX9_rows lkX9_342 (by decide) rfl (Nat.le_of_ble_eq_true rfl) rfl dX9_savesNow_8 (fun τ x ho => kX9_rows _ ho) h (fun σ_3 t_4 h => ?_)
    refine g_icmp_ge hX 72 dX9_savesNow_11 (by decide) h (fun h => ?_) (fun h => ?_)
    · exact g_sub [3] rfl (hkx5 _ _ _ h)
    · refine g_aload_n hX 0 dX9_savesNow_14 rfl rfl ?_
      refine g_iload hX 4 dX9_savesNow_15 rfl ?_
      refine g_iconst hX (0) dX9_savesNow_17 (by decide) ?_
      refine g_callVV (As := [.int c5_5, .int (0 : Int32)]) (rest := []) hX 0 (Nat.le_of_ble_eq_true rfl) rfl rfl miX9_lays_ mvX9_lays_ lkX9_345 (by decide) rfl (Nat.le_of_ble_eq_true rfl) rfl dX9_savesNow_18 (fun τ x ho => kX9_lays_ _ ho) h (fun σ_5 t_6 h => ?_)
      refine g_aload_n hX 0 dX9_savesNow_21 rfl rfl ?_
      refine gM_331 hX dX9_savesNow_22 ?_
      refine g_lconst hX (0) dX9_savesNow_25 (by decide) ?_
      refine g_lcmp hX dX9_savesNow_26 ?_
      refine jp_inv (P := fun f => ∀ (σ_7 : St) (x3_8 : Int64) , f σ_7 x3_8 = some r → G X (vM a D tI tJ tB zz) 6 σ_7 66 [(0, .ref (a 0)), (1, .int q1_5), (2, .int q2_5), (5, .int c5_5), (3, .long x3_8)] []) h (fun σ_7 x3_8 h => ?_) (fun j66 hj66 h => ?_)
      · refine g_iinc (y := (1)) (lv' := fun x5_9 => [(5, .int x5_9), (0, .ref (a 0)), (1, .int q1_5), (2, .int q2_5), (3, .long x3_8)]) hX 3 dX9_savesNow_66 rfl (by decide) (by decide) (fun _ => rfl) h (fun x5_9 h => ?_)
        refine g_goto hX 5 dX9_savesNow_69 (by decide) ?_
        exact g_sub [1, 2, 3, 4, 0] rfl (ih5 _ _ _ h)
      refine g_if_le hX 66 dX9_savesNow_27 (by decide) h (fun h => ?_) (fun h => ?_)
      · exact g_sub [0, 1, 2, 4, 3] rfl (hj66 _ _ h)
      · refine g_lload_n hX 3 dX9_savesNow_30 rfl rfl ?_
        refine g_aload_n hX 0 dX9_savesNow_31 rfl rfl ?_
        refine gM_331 hX dX9_savesNow_32 ?_
        refine g_aload_n hX 0 dX9_savesNow_35 rfl rfl ?_
        refine g_iload_n hX 1 dX9_savesNow_36 rfl rfl ?_
        refine g_aload_n hX 0 dX9_savesNow_37 rfl rfl ?_
        refine gM_106 hX dX9_savesNow_38 ?_
        refine g_iload_n hX 1 dX9_savesNow_41 rfl rfl ?_
        refine alM_27 hX dX9_savesNow_42 h (fun h => ?_)
        refine g_iconst hX (1) dX9_savesNow_43 (by decide) ?_
        refine g_iload_n hX 2 dX9_savesNow_44 rfl rfl ?_
        refine g_ishl hX dX9_savesNow_45 ?_
        refine g_ior hX dX9_savesNow_46 ?_
        refine g_callVI (As := [.int q1_5, .int ((σ_5.1 27 (ix q1_5)) ||| ((1 : Int32) <<< (q2_5 &&& 31)))]) (rest := [.long (σ_5.2 0 47), .long c3_5]) hX 0 (Nat.le_of_ble_eq_true rfl) rfl rfl miX9_valueOf mvX9_valueOf lkX9_409 (by decide) rfl (Nat.le_of_ble_eq_true rfl) rfl dX9_savesNow_47 (fun τ x ho => kX9_valueOf _ ho) h (fun σ_10 t_11 h => ?_)
        refine g_aload_n hX 0 dX9_savesNow_50 rfl rfl ?_
        refine g_iload_n hX 1 dX9_savesNow_51 rfl rfl ?_
        refine g_aload_n hX 0 dX9_savesNow_52 rfl rfl ?_
        refine gM_106 hX dX9_savesNow_53 ?_
        refine g_iload_n hX 1 dX9_savesNow_56 rfl rfl ?_
        refine alM_27 hX dX9_savesNow_57 h (fun h => ?_)
        refine g_callVI (As := [.int q1_5, .int (σ_10.1 27 (ix q1_5))]) (rest := [.int t_11, .long (σ_5.2 0 47), .long c3_5]) hX 0 (Nat.le_of_ble_eq_true rfl) rfl rfl miX9_valueOf mvX9_valueOf lkX9_409 (by decide) rfl (Nat.le_of_ble_eq_true rfl) rfl dX9_savesNow_58 (fun τ x ho => kX9_valueOf _ ho) h (fun σ_12 t_13 h => ?_)
        refine g_isub hX dX9_savesNow_61 ?_
        refine g_i2l hX dX9_savesNow_62 ?_
        refine g_lmul hX dX9_savesNow_63 ?_
        refine g_ladd hX dX9_savesNow_64 ?_
        refine g_lstore_n (lv' := fun x3_14 => [(3, .long x3_14), (0, .ref (a 0)), (1, .int q1_5), (2, .int q2_5), (5, .int c5_5)]) hX dX9_savesNow_65 rfl (by decide) (fun _ => rfl) h (fun x3_14 h => ?_)
        exact g_sub [1, 2, 3, 4, 0] rfl (hj66 _ _ h)
set_option maxRecDepth 20000 in
set_option maxHeartbeats 4000000 in
theorem sX9_savesNow {X : CX} {a : Nat → Nat} {D : va_G} {tI tJ tB : ClassId} {zz : SV} {σ : St}  {p1 : Int32} {p2 : Int32} {r : St × Int64} (hX : OKX X (vM a D tI tJ tB zz) cX9_savesNow 6 RX9 3 67) (hR : ∀ (pc : Nat) (lv : List (Nat × Value)), decode cX9_savesNow pc = .ok (.lreturn, 1) → G X (vM a D tI tJ tB zz) 6 r.1 pc lv [.long r.2]) (h : fX9_savesNow σ p1 p2 = some r) : G X (vM a D tI tJ tB zz) 6 σ 0 [(0, .ref (a 0)), (1, .int p1), (2, .int p2)] [] := by
  unfold fX9_savesNow at h
  refine g_lconst hX (0) dX9_savesNow_0 (by decide) ?_
  refine g_lstore_n (lv' := fun x3_1 => [(3, .long x3_1), (0, .ref (a 0)), (1, .int p1), (2, .int p2)]) hX dX9_savesNow_1 rfl (by decide) (fun _ => rfl) h (fun x3_1 h => ?_)
  refine g_iconst hX (0) dX9_savesNow_2 (by decide) ?_
  refine g_istore (lv' := fun x5_2 => [(5, .int x5_2), (3, .long x3_1), (0, .ref (a 0)), (1, .int p1), (2, .int p2)]) hX dX9_savesNow_3 (by decide) (fun _ => rfl) h (fun x5_2 h => ?_)
  refine g_sub [2, 3, 4, 1, 0] rfl (sX9_savesNow_L5 hX hR (fun σ_15 x3_16 x5_17 h => ?_) FU _ _ _ h)
  refine g_lload_n hX 0 dX9_savesNow_72 rfl rfl ?_
  exact g_retl hR h dX9_savesNow_73
set_option maxRecDepth 20000 in
set_option maxHeartbeats 4000000 in
theorem kX9_savesNow (l : Launch) {a : Nat → Nat} {D : va_G} {tI tJ tB : ClassId} {zz : SV} {σ τ : St}  {p1 : Int32} {p2 : Int32} {x : Int64} (h : fX9_savesNow σ p1 p2 = some (τ, x)) : CtL l yX9_savesNow cX9_savesNow 6 (some .long) 3 67 (vM a D tI tJ tB zz) σ [.ref (a 0), .int p1, .int p2] τ x := g_metL (by decide) (Nat.le_of_ble_eq_true rfl) rfl (fun X _ hX hR => sX9_savesNow (r := (τ, x)) hX hR h)
def fX9_mayLook (σ : St) (p1 : Int32) : Option (St × Int32) :=
  cl (fX9_isSort σ p1) fun (σ_1 : St) (t_2 : Int32) => (if t_2 = 0 then some (σ_1, (0 : Int32)) else chk (inb p1 12) ((if (σ_1.1 3 (ix p1)) = 0 then cl (fX9_isShouted σ_1 ) fun (σ_3 : St) (t_4 : Int32) => (if t_4 = 0 then some (σ_3, (1 : Int32)) else some (σ_3, (0 : Int32))) else some (σ_1, (0 : Int32)))))
set_option maxRecDepth 20000 in
set_option maxHeartbeats 4000000 in
theorem sX9_mayLook {X : CX} {a : Nat → Nat} {D : va_G} {tI tJ tB : ClassId} {zz : SV} {σ : St}  {p1 : Int32} {r : St × Int32} (hX : OKX X (vM a D tI tJ tB zz) cX9_mayLook 2 RX9 2 43) (hR : (r.2 = 0 ∨ r.2 = 1) → ∀ (pc : Nat) (lv : List (Nat × Value)), decode cX9_mayLook pc = .ok (.ireturn, 1) → G X (vM a D tI tJ tB zz) 2 r.1 pc lv [.int r.2]) (h : fX9_mayLook σ p1 = some r) : G X (vM a D tI tJ tB zz) 2 σ 0 [(0, .ref (a 0)), (1, .int p1)] [] := by
  unfold fX9_mayLook at h
  refine g_aload_n hX 0 dX9_mayLook_0 rfl rfl ?_
  refine g_iload_n hX 1 dX9_mayLook_1 rfl rfl ?_
  refine g_callVI (As := [.int p1]) (rest := []) hX 0 (Nat.le_of_ble_eq_true rfl) rfl rfl miX9_isSort mvX9_isSort lkX9_392 (by decide) rfl (Nat.le_of_ble_eq_true rfl) rfl dX9_mayLook_2 (fun τ x ho => kX9_isSort _ ho) h (fun σ_1 t_2 h => ?_)
  refine g_if_eq hX 28 dX9_mayLook_5 (by decide) h (fun h => ?_) (fun h => ?_)
  · refine g_iconst hX (0) dX9_mayLook_28 (by decide) ?_
    exact g_retz hR (by decide) h dX9_mayLook_29
  · refine g_aload_n hX 0 dX9_mayLook_8 rfl rfl ?_
    refine gM_27 hX dX9_mayLook_9 ?_
    refine g_iload_n hX 1 dX9_mayLook_12 rfl rfl ?_
    refine alM_3 hX dX9_mayLook_13 h (fun h => ?_)
    refine g_if_ne hX 28 dX9_mayLook_14 (by decide) h (fun h => ?_) (fun h => ?_)
    · refine g_iconst hX (0) dX9_mayLook_28 (by decide) ?_
      exact g_retz hR (by decide) h dX9_mayLook_29
    · refine g_aload_n hX 0 dX9_mayLook_17 rfl rfl ?_
      refine g_callVI (As := []) (rest := []) hX 0 (Nat.le_of_ble_eq_true rfl) rfl rfl miX9_isShouted mvX9_isShouted lkX9_320 (by decide) rfl (Nat.le_of_ble_eq_true rfl) rfl dX9_mayLook_18 (fun τ x ho => kX9_isShouted _ ho) h (fun σ_3 t_4 h => ?_)
      refine g_if_ne hX 28 dX9_mayLook_21 (by decide) h (fun h => ?_) (fun h => ?_)
      · refine g_iconst hX (0) dX9_mayLook_28 (by decide) ?_
        exact g_retz hR (by decide) h dX9_mayLook_29
      · refine g_iconst hX (1) dX9_mayLook_24 (by decide) ?_
        refine g_goto hX 29 dX9_mayLook_25 (by decide) ?_
        exact g_retz hR (by decide) h dX9_mayLook_29
set_option maxRecDepth 20000 in
set_option maxHeartbeats 4000000 in
theorem kX9_mayLook (l : Launch) {a : Nat → Nat} {D : va_G} {tI tJ tB : ClassId} {zz : SV} {σ τ : St}  {p1 : Int32} {x : Int32} (h : fX9_mayLook σ p1 = some (τ, x)) : CtI l yX9_mayLook cX9_mayLook 2 (some .boolean) 2 43 (vM a D tI tJ tB zz) σ [.ref (a 0), .int p1] τ x := g_metZ (by decide) (Nat.le_of_ble_eq_true rfl) rfl (fun X _ hX hR => sX9_mayLook (r := (τ, x)) hX hR h)
def fX9_saves (σ : St) (p1 : Int32) (p2 : Int32) : Option (St × Int64) :=
  cl (fX9_mayLook σ p1) fun (σ_1 : St) (t_2 : Int32) => (if t_2 = 0 then some (σ_1, (-1 : Int64)) else cl (fX9_isBaker σ_1 p2) fun (σ_3 : St) (t_4 : Int32) => (if t_4 = 0 then some (σ_3, (-1 : Int64)) else chk (inb p1 12) (cl (fX9_has σ_3 (σ_3.1 5 (ix p1)) p2) fun (σ_5 : St) (t_6 : Int32) => (if t_6 = 0 then cl (fX9_areReady σ_5 ) fun (σ_7 : St) (t_8 : Int32) => (if t_8 = 0 then some (σ_7, (-1 : Int64)) else cl (fX9_savesNow σ_7 p1 p2) fun (σ_9 : St) (t_10 : Int64) => some (σ_9, t_10)) else some (σ_5, (-1 : Int64))))))
set_option maxRecDepth 20000 in
set_option maxHeartbeats 4000000 in
theorem sX9_saves {X : CX} {a : Nat → Nat} {D : va_G} {tI tJ tB : ClassId} {zz : SV} {σ : St}  {p1 : Int32} {p2 : Int32} {r : St × Int64} (hX : OKX X (vM a D tI tJ tB zz) cX9_saves 3 RX9 10 228) (hR : ∀ (pc : Nat) (lv : List (Nat × Value)), decode cX9_saves pc = .ok (.lreturn, 1) → G X (vM a D tI tJ tB zz) 3 r.1 pc lv [.long r.2]) (h : fX9_saves σ p1 p2 = some r) : G X (vM a D tI tJ tB zz) 3 σ 0 [(0, .ref (a 0)), (1, .int p1), (2, .int p2)] [] := by
  unfold fX9_saves at h
  refine g_aload_n hX 0 dX9_saves_0 rfl rfl ?_
  refine g_iload_n hX 1 dX9_saves_1 rfl rfl ?_
  refine g_callVI (As := [.int p1]) (rest := []) hX 0 (Nat.le_of_ble_eq_true rfl) rfl rfl miX9_mayLook mvX9_mayLook lkX9_412 (by decide) rfl (Nat.le_of_ble_eq_true rfl) rfl dX9_saves_2 (fun τ x ho => kX9_mayLook _ ho) h (fun σ_1 t_2 h => ?_)
  refine g_if_eq hX 45 dX9_saves_5 (by decide) h (fun h => ?_) (fun h => ?_)
  · refine g_ldc2 hX lkX9_370 dX9_saves_45 ?_
    exact g_retl hR h dX9_saves_48
  · refine g_aload_n hX 0 dX9_saves_8 rfl rfl ?_
    refine g_iload_n hX 2 dX9_saves_9 rfl rfl ?_
    refine g_callVI (As := [.int p2]) (rest := []) hX 0 (Nat.le_of_ble_eq_true rfl) rfl rfl miX9_isBaker mvX9_isBaker lkX9_287 (by decide) rfl (Nat.le_of_ble_eq_true rfl) rfl dX9_saves_10 (fun τ x ho => kX9_isBaker _ ho) h (fun σ_3 t_4 h => ?_)
    refine g_if_eq hX 45 dX9_saves_13 (by decide) h (fun h => ?_) (fun h => ?_)
    · refine g_ldc2 hX lkX9_370 dX9_saves_45 ?_
      exact g_retl hR h dX9_saves_48
    · refine g_aload_n hX 0 dX9_saves_16 rfl rfl ?_
      refine gM_33 hX dX9_saves_17 ?_
      refine g_iload_n hX 1 dX9_saves_20 rfl rfl ?_
      refine alM_5 hX dX9_saves_21 h (fun h => ?_)
      refine g_iload_n hX 2 dX9_saves_22 rfl rfl ?_
      refine g_callSI (As := [.int (σ_3.1 5 (ix p1)), .int p2]) (rest := []) hX miX9_has mvX9_has lkX9_195 (by decide) rfl (Nat.le_of_ble_eq_true rfl) rfl dX9_saves_23 (fun τ x ho => kX9_has _ ho) h (fun σ_5 t_6 h => ?_)
      refine g_if_ne hX 45 dX9_saves_26 (by decide) h (fun h => ?_) (fun h => ?_)
      · refine g_ldc2 hX lkX9_370 dX9_saves_45 ?_
        exact g_retl hR h dX9_saves_48
      · refine g_aload_n hX 0 dX9_saves_29 rfl rfl ?_
        refine g_callVI (As := []) (rest := []) hX 0 (Nat.le_of_ble_eq_true rfl) rfl rfl miX9_areReady mvX9_areReady lkX9_367 (by decide) rfl (Nat.le_of_ble_eq_true rfl) rfl dX9_saves_30 (fun τ x ho => kX9_areReady _ ho) h (fun σ_7 t_8 h => ?_)
        refine g_if_eq hX 45 dX9_saves_33 (by decide) h (fun h => ?_) (fun h => ?_)
        · refine g_ldc2 hX lkX9_370 dX9_saves_45 ?_
          exact g_retl hR h dX9_saves_48
        · refine g_aload_n hX 0 dX9_saves_36 rfl rfl ?_
          refine g_iload_n hX 1 dX9_saves_37 rfl rfl ?_
          refine g_iload_n hX 2 dX9_saves_38 rfl rfl ?_
          refine g_callVL (As := [.int p1, .int p2]) (rest := []) hX 0 (Nat.le_of_ble_eq_true rfl) rfl rfl miX9_savesNow mvX9_savesNow lkX9_415 (by decide) rfl (Nat.le_of_ble_eq_true rfl) rfl dX9_saves_39 (fun τ x ho => kX9_savesNow _ ho) h (fun σ_9 t_10 h => ?_)
          refine g_goto hX 48 dX9_saves_42 (by decide) ?_
          exact g_retl hR h dX9_saves_48
set_option maxRecDepth 20000 in
set_option maxHeartbeats 4000000 in
theorem kX9_saves (l : Launch) {a : Nat → Nat} {D : va_G} {tI tJ tB : ClassId} {zz : SV} {σ τ : St}  {p1 : Int32} {p2 : Int32} {x : Int64} (h : fX9_saves σ p1 p2 = some (τ, x)) : CtL l yX9_saves cX9_saves 3 (some .long) 10 228 (vM a D tI tJ tB zz) σ [.ref (a 0), .int p1, .int p2] τ x := g_metL (by decide) (Nat.le_of_ble_eq_true rfl) rfl (fun X _ hX hR => sX9_saves (r := (τ, x)) hX hR h)
def fX9_wouldTake_L11 (q1_11 : Int32) (q2_11 : Int32) (kx11 : St → Int64 → Int32 → Option (St × Int32)) : Nat → St → Int64 → Int32 → Option (St × Int32)
  | 0, _, _, _ => none
  | n11 + 1, σ, c3_11, c5_11 =>
    (if (σ.1 0 0) ≤ c5_11 then kx11 σ c3_11 c5_11 else bnd (c3_11 * (100 : Int64)) fun (x3_4 : Int64) => bnd (c5_11 + (1 : Int32)) fun (x5_5 : Int32) => fX9_wouldTake_L11 q1_11 q2_11 kx11 n11 σ x3_4 x5_5)
def fX9_wouldTake_L35 (q1_35 : Int32) (kx35 : St → Int32 → Int64 → Int32 → Option (St × Int32)) : Nat → St → Int32 → Int64 → Int32 → Option (St × Int32)
  | 0, _, _, _, _ => none
  | n35 + 1, σ, c2_35, c3_35, c5_35 =>
    (if (σ.1 0 0) ≤ c5_35 then kx35 σ c2_35 c3_35 c5_35 else chk (inb q1_35 12) (cl (fX9_has σ (σ.1 27 (ix q1_35)) c5_35) fun (σ_10 : St) (t_11 : Int32) => (jp (fun (σ_12 : St) (x2_13 : Int32) (x3_14 : Int64)  => bnd (c5_35 + (1 : Int32)) fun (x5_15 : Int32) => fX9_wouldTake_L35 q1_35 kx35 n35 σ_12 x2_13 x3_14 x5_15) fun j86 => (if t_11 = 0 then cl (fX9_savesNow σ_10 q1_35 c5_35) fun (σ_16 : St) (t_17 : Int64) => bnd t_17 fun (x6_18 : Int64) => (if 0 < (lg_cmp x6_18 c3_35) then bnd c5_35 fun (x2_19 : Int32) => bnd x6_18 fun (x3_20 : Int64) => j86 σ_16 x2_19 x3_20 else j86 σ_16 c2_35 c3_35) else j86 σ_10 c2_35 c3_35))))
def fX9_wouldTake (σ : St) (p1 : Int32) : Option (St × Int32) :=
  bnd (-1 : Int32) fun (x2_1 : Int32) => bnd (((σ.1 0 5)).toInt64) fun (x3_2 : Int64) => bnd (0 : Int32) fun (x5_3 : Int32) => fX9_wouldTake_L11 p1 x2_1 (fun (σ_6 : St) (x3_7 : Int64) (x5_8 : Int32) => bnd (0 : Int32) fun (x5_9 : Int32) => fX9_wouldTake_L35 p1 (fun (σ_21 : St) (x2_22 : Int32) (x3_23 : Int64) (x5_24 : Int32) => some (σ_21, x2_22)) FU σ_6 x2_1 x3_7 x5_9) FU σ x3_2 x5_3
set_option maxRecDepth 20000 in
set_option maxHeartbeats 4000000 in
theorem sX9_wouldTake_L11 {X : CX} {a : Nat → Nat} {D : va_G} {tI tJ tB : ClassId} {zz : SV} {q1_11 : Int32} {q2_11 : Int32} {kx11 : St → Int64 → Int32 → Option (St × Int32)} {r : St × Int32} (hX : OKX X (vM a D tI tJ tB zz) cX9_wouldTake 8 RX9 4 92) (hR : ∀ (pc : Nat) (lv : List (Nat × Value)), decode cX9_wouldTake pc = .ok (.ireturn, 1) → G X (vM a D tI tJ tB zz) 8 r.1 pc lv [.int r.2]) (hkx11 : ∀ (σ : St) (e3_11 : Int64) (e5_11 : Int32), kx11 σ e3_11 e5_11 = some r → G X (vM a D tI tJ tB zz) 8 σ 32 [(0, .ref (a 0)), (1, .int q1_11), (2, .int q2_11), (3, .long e3_11)] []) : ∀ (n : Nat) (σ : St) (c3_11 : Int64) (c5_11 : Int32), fX9_wouldTake_L11 q1_11 q2_11 kx11 n σ c3_11 c5_11 = some r → G X (vM a D tI tJ tB zz) 8 σ 11 [(0, .ref (a 0)), (1, .int q1_11), (2, .int q2_11), (3, .long c3_11), (5, .int c5_11)] [] := by
  intro n
  induction n with
  | zero => intro σ c3_11 c5_11 h; rw [fX9_wouldTake_L11] at h; exact absurd h (by simp)
  | succ n11 ih11 =>
    intro σ c3_11 c5_11 h
    rw [fX9_wouldTake_L11] at h
    refine g_iload hX 4 dX9_wouldTake_11 rfl ?_
    refine g_aload_n hX 0 dX9_wouldTake_13 rfl rfl ?_
    refine gM_260 hX dX9_wouldTake_14 ?_
    refine g_icmp_ge hX 32 dX9_wouldTake_17 (by decide) h (fun h => ?_) (fun h => ?_)
    · exact g_sub [0, 1, 2, 3] rfl (hkx11 _ _ _ h)
    · refine g_lload_n hX 3 dX9_wouldTake_20 rfl rfl ?_
      refine g_ldc2 hX lkX9_418 dX9_wouldTake_21 ?_
      refine g_lmul hX dX9_wouldTake_24 ?_
      refine g_lstore_n (lv' := fun x3_4 => [(3, .long x3_4), (0, .ref (a 0)), (1, .int q1_11), (2, .int q2_11), (5, .int c5_11)]) hX dX9_wouldTake_25 rfl (by decide) (fun _ => rfl) h (fun x3_4 h => ?_)
      refine g_iinc (y := (1)) (lv' := fun x5_5 => [(5, .int x5_5), (3, .long x3_4), (0, .ref (a 0)), (1, .int q1_11), (2, .int q2_11)]) hX 4 dX9_wouldTake_26 rfl (by decide) (by decide) (fun _ => rfl) h (fun x5_5 h => ?_)
      refine g_goto hX 11 dX9_wouldTake_29 (by decide) ?_
      exact g_sub [2, 3, 4, 1, 0] rfl (ih11 _ _ _ h)
set_option maxRecDepth 20000 in
set_option maxHeartbeats 4000000 in
theorem sX9_wouldTake_L35 {X : CX} {a : Nat → Nat} {D : va_G} {tI tJ tB : ClassId} {zz : SV} {q1_35 : Int32} {kx35 : St → Int32 → Int64 → Int32 → Option (St × Int32)} {r : St × Int32} (hX : OKX X (vM a D tI tJ tB zz) cX9_wouldTake 8 RX9 4 92) (hR : ∀ (pc : Nat) (lv : List (Nat × Value)), decode cX9_wouldTake pc = .ok (.ireturn, 1) → G X (vM a D tI tJ tB zz) 8 r.1 pc lv [.int r.2]) (hkx35 : ∀ (σ : St) (e2_35 : Int32) (e3_35 : Int64) (e5_35 : Int32), kx35 σ e2_35 e3_35 e5_35 = some r → G X (vM a D tI tJ tB zz) 8 σ 92 [(2, .int e2_35)] []) : ∀ (n : Nat) (σ : St) (c2_35 : Int32) (c3_35 : Int64) (c5_35 : Int32), fX9_wouldTake_L35 q1_35 kx35 n σ c2_35 c3_35 c5_35 = some r → G X (vM a D tI tJ tB zz) 8 σ 35 [(0, .ref (a 0)), (1, .int q1_35), (2, .int c2_35), (3, .long c3_35), (5, .int c5_35)] [] := by
  intro n
  induction n with
  | zero => intro σ c2_35 c3_35 c5_35 h; rw [fX9_wouldTake_L35] at h; exact absurd h (by simp)
  | succ n35 ih35 =>
    intro σ c2_35 c3_35 c5_35 h
    rw [fX9_wouldTake_L35] at h
    refine g_iload hX 4 dX9_wouldTake_35 rfl ?_
    refine g_aload_n hX 0 dX9_wouldTake_37 rfl rfl ?_
    refine gM_260 hX dX9_wouldTake_38 ?_
    refine g_icmp_ge hX 92 dX9_wouldTake_41 (by decide) h (fun h => ?_) (fun h => ?_)
    · exact g_sub [2] rfl (hkx35 _ _ _ _ h)
    · refine g_aload_n hX 0 dX9_wouldTake_44 rfl rfl ?_
      refine gM_106 hX dX9_wouldTake_45 ?_
      refine g_iload_n hX 1 dX9_wouldTake_48 rfl rfl ?_
      refine alM_27 hX dX9_wouldTake_49 h (fun h => ?_)
      refine g_iload hX 4 dX9_wouldTake_50 rfl ?_
      refine g_callSI (As := [.int (σ.1 27 (ix q1_35)), .int c5_35]) (rest := []) hX miX9_has mvX9_has lkX9_195 (by decide) rfl (Nat.le_of_ble_eq_true rfl) rfl dX9_wouldTake_52 (fun τ x ho => kX9_has _ ho) h (fun σ_10 t_11 h => ?_)
      refine jp_inv (P := fun f => ∀ (σ_12 : St) (x2_13 : Int32) (x3_14 : Int64) , f σ_12 x2_13 x3_14 = some r → G X (vM a D tI tJ tB zz) 8 σ_12 86 [(0, .ref (a 0)), (1, .int q1_35), (5, .int c5_35), (2, .int x2_13), (3, .long x3_14)] []) h (fun σ_12 x2_13 x3_14 h => ?_) (fun j86 hj86 h => ?_)
      · refine g_iinc (y := (1)) (lv' := fun x5_15 => [(5, .int x5_15), (0, .ref (a 0)), (1, .int q1_35), (2, .int x2_13), (3, .long x3_14)]) hX 2 dX9_wouldTake_86 rfl (by decide) (by decide) (fun _ => rfl) h (fun x5_15 h => ?_)
        refine g_goto hX 35 dX9_wouldTake_89 (by decide) ?_
        exact g_sub [1, 2, 3, 4, 0] rfl (ih35 _ _ _ _ h)
      refine g_if_eq hX 61 dX9_wouldTake_55 (by decide) h (fun h => ?_) (fun h => ?_)
      · refine g_aload_n hX 0 dX9_wouldTake_61 rfl rfl ?_
        refine g_iload_n hX 1 dX9_wouldTake_62 rfl rfl ?_
        refine g_iload hX 4 dX9_wouldTake_63 rfl ?_
        refine g_callVL (As := [.int q1_35, .int c5_35]) (rest := []) hX 0 (Nat.le_of_ble_eq_true rfl) rfl rfl miX9_savesNow mvX9_savesNow lkX9_415 (by decide) rfl (Nat.le_of_ble_eq_true rfl) rfl dX9_wouldTake_65 (fun τ x ho => kX9_savesNow _ ho) h (fun σ_16 t_17 h => ?_)
        refine g_lstore (lv' := fun x6_18 => [(6, .long x6_18), (0, .ref (a 0)), (1, .int q1_35), (2, .int c2_35), (3, .long c3_35), (5, .int c5_35)]) hX dX9_wouldTake_68 (by decide) (fun _ => rfl) h (fun x6_18 h => ?_)
        refine g_lload hX 0 dX9_wouldTake_70 rfl ?_
        refine g_lload_n hX 4 dX9_wouldTake_72 rfl rfl ?_
        refine g_lcmp hX dX9_wouldTake_73 ?_
        refine g_if_gt hX 80 dX9_wouldTake_74 (by decide) h (fun h => ?_) (fun h => ?_)
        · refine g_iload hX 5 dX9_wouldTake_80 rfl ?_
          refine g_istore_n (lv' := fun x2_19 => [(2, .int x2_19), (6, .long x6_18), (0, .ref (a 0)), (1, .int q1_35), (3, .long c3_35), (5, .int c5_35)]) hX dX9_wouldTake_82 rfl (by decide) (fun _ => rfl) h (fun x2_19 h => ?_)
          refine g_lload hX 1 dX9_wouldTake_83 rfl ?_
          refine g_lstore_n (lv' := fun x3_20 => [(3, .long x3_20), (2, .int x2_19), (6, .long x6_18), (0, .ref (a 0)), (1, .int q1_35), (5, .int c5_35)]) hX dX9_wouldTake_85 rfl (by decide) (fun _ => rfl) h (fun x3_20 h => ?_)
          exact g_sub [3, 4, 5, 1, 0] rfl (hj86 _ _ _ h)
        · refine g_goto hX 86 dX9_wouldTake_77 (by decide) ?_
          exact g_sub [1, 2, 5, 3, 4] rfl (hj86 _ _ _ h)
      · refine g_goto hX 86 dX9_wouldTake_58 (by decide) ?_
        exact g_sub [0, 1, 4, 2, 3] rfl (hj86 _ _ _ h)
set_option maxRecDepth 20000 in
set_option maxHeartbeats 4000000 in
theorem sX9_wouldTake {X : CX} {a : Nat → Nat} {D : va_G} {tI tJ tB : ClassId} {zz : SV} {σ : St}  {p1 : Int32} {r : St × Int32} (hX : OKX X (vM a D tI tJ tB zz) cX9_wouldTake 8 RX9 4 92) (hR : ∀ (pc : Nat) (lv : List (Nat × Value)), decode cX9_wouldTake pc = .ok (.ireturn, 1) → G X (vM a D tI tJ tB zz) 8 r.1 pc lv [.int r.2]) (h : fX9_wouldTake σ p1 = some r) : G X (vM a D tI tJ tB zz) 8 σ 0 [(0, .ref (a 0)), (1, .int p1)] [] := by
  unfold fX9_wouldTake at h
  refine g_iconst hX (-1) dX9_wouldTake_0 (by decide) ?_
  refine g_istore_n (lv' := fun x2_1 => [(2, .int x2_1), (0, .ref (a 0)), (1, .int p1)]) hX dX9_wouldTake_1 rfl (by decide) (fun _ => rfl) h (fun x2_1 h => ?_)
  refine g_aload_n hX 1 dX9_wouldTake_2 rfl rfl ?_
  refine gM_266 hX dX9_wouldTake_3 ?_
  refine g_i2l hX dX9_wouldTake_6 ?_
  refine g_lstore_n (lv' := fun x3_2 => [(3, .long x3_2), (2, .int x2_1), (0, .ref (a 0)), (1, .int p1)]) hX dX9_wouldTake_7 rfl (by decide) (fun _ => rfl) h (fun x3_2 h => ?_)
  refine g_iconst hX (0) dX9_wouldTake_8 (by decide) ?_
  refine g_istore (lv' := fun x5_3 => [(5, .int x5_3), (3, .long x3_2), (2, .int x2_1), (0, .ref (a 0)), (1, .int p1)]) hX dX9_wouldTake_9 (by decide) (fun _ => rfl) h (fun x5_3 h => ?_)
  refine g_sub [3, 4, 2, 1, 0] rfl (sX9_wouldTake_L11 hX hR (fun σ_6 x3_7 x5_8 h => ?_) FU _ _ _ h)
  refine g_iconst hX (0) dX9_wouldTake_32 (by decide) ?_
  refine g_istore (lv' := fun x5_9 => [(5, .int x5_9), (0, .ref (a 0)), (1, .int p1), (2, .int x2_1), (3, .long x3_7)]) hX dX9_wouldTake_33 (by decide) (fun _ => rfl) h (fun x5_9 h => ?_)
  refine g_sub [1, 2, 3, 4, 0] rfl (sX9_wouldTake_L35 hX hR (fun σ_21 x2_22 x3_23 x5_24 h => ?_) FU _ _ _ _ h)
  refine g_iload_n hX 0 dX9_wouldTake_92 rfl rfl ?_
  exact g_reti hR h dX9_wouldTake_93
set_option maxRecDepth 20000 in
set_option maxHeartbeats 4000000 in
theorem kX9_wouldTake (l : Launch) {a : Nat → Nat} {D : va_G} {tI tJ tB : ClassId} {zz : SV} {σ τ : St}  {p1 : Int32} {x : Int32} (h : fX9_wouldTake σ p1 = some (τ, x)) : CtI l yX9_wouldTake cX9_wouldTake 8 (some .int) 4 92 (vM a D tI tJ tB zz) σ [.ref (a 0), .int p1] τ x := g_metI (by decide) (Nat.le_of_ble_eq_true rfl) rfl (fun X _ hX hR => sX9_wouldTake (r := (τ, x)) hX hR h)
def fX9_would (σ : St) (p1 : Int32) : Option (St × Int32) :=
  cl (fX9_mayLook σ p1) fun (σ_1 : St) (t_2 : Int32) => (if t_2 = 0 then some (σ_1, (-1 : Int32)) else cl (fX9_areReady σ_1 ) fun (σ_3 : St) (t_4 : Int32) => (if t_4 = 0 then some (σ_3, (-1 : Int32)) else cl (fX9_wouldTake σ_3 p1) fun (σ_5 : St) (t_6 : Int32) => some (σ_5, t_6)))
set_option maxRecDepth 20000 in
set_option maxHeartbeats 4000000 in
theorem sX9_would {X : CX} {a : Nat → Nat} {D : va_G} {tI tJ tB : ClassId} {zz : SV} {σ : St}  {p1 : Int32} {r : St × Int32} (hX : OKX X (vM a D tI tJ tB zz) cX9_would 2 RX9 10 228) (hR : ∀ (pc : Nat) (lv : List (Nat × Value)), decode cX9_would pc = .ok (.ireturn, 1) → G X (vM a D tI tJ tB zz) 2 r.1 pc lv [.int r.2]) (h : fX9_would σ p1 = some r) : G X (vM a D tI tJ tB zz) 2 σ 0 [(0, .ref (a 0)), (1, .int p1)] [] := by
  unfold fX9_would at h
  refine g_aload_n hX 0 dX9_would_0 rfl rfl ?_
  refine g_iload_n hX 1 dX9_would_1 rfl rfl ?_
  refine g_callVI (As := [.int p1]) (rest := []) hX 0 (Nat.le_of_ble_eq_true rfl) rfl rfl miX9_mayLook mvX9_mayLook lkX9_412 (by decide) rfl (Nat.le_of_ble_eq_true rfl) rfl dX9_would_2 (fun τ x ho => kX9_mayLook _ ho) h (fun σ_1 t_2 h => ?_)
  refine g_if_eq hX 23 dX9_would_5 (by decide) h (fun h => ?_) (fun h => ?_)
  · refine g_iconst hX (-1) dX9_would_23 (by decide) ?_
    exact g_reti hR h dX9_would_24
  · refine g_aload_n hX 0 dX9_would_8 rfl rfl ?_
    refine g_callVI (As := []) (rest := []) hX 0 (Nat.le_of_ble_eq_true rfl) rfl rfl miX9_areReady mvX9_areReady lkX9_367 (by decide) rfl (Nat.le_of_ble_eq_true rfl) rfl dX9_would_9 (fun τ x ho => kX9_areReady _ ho) h (fun σ_3 t_4 h => ?_)
    refine g_if_eq hX 23 dX9_would_12 (by decide) h (fun h => ?_) (fun h => ?_)
    · refine g_iconst hX (-1) dX9_would_23 (by decide) ?_
      exact g_reti hR h dX9_would_24
    · refine g_aload_n hX 0 dX9_would_15 rfl rfl ?_
      refine g_iload_n hX 1 dX9_would_16 rfl rfl ?_
      refine g_callVI (As := [.int p1]) (rest := []) hX 0 (Nat.le_of_ble_eq_true rfl) rfl rfl miX9_wouldTake mvX9_wouldTake lkX9_420 (by decide) rfl (Nat.le_of_ble_eq_true rfl) rfl dX9_would_17 (fun τ x ho => kX9_wouldTake _ ho) h (fun σ_5 t_6 h => ?_)
      refine g_goto hX 24 dX9_would_20 (by decide) ?_
      exact g_reti hR h dX9_would_24
set_option maxRecDepth 20000 in
set_option maxHeartbeats 4000000 in
theorem kX9_would (l : Launch) {a : Nat → Nat} {D : va_G} {tI tJ tB : ClassId} {zz : SV} {σ τ : St}  {p1 : Int32} {x : Int32} (h : fX9_would σ p1 = some (τ, x)) : CtI l yX9_would cX9_would 2 (some .int) 10 228 (vM a D tI tJ tB zz) σ [.ref (a 0), .int p1] τ x := g_metI (by decide) (Nat.le_of_ble_eq_true rfl) rfl (fun X _ hX hR => sX9_would (r := (τ, x)) hX hR h)
def fX9_look_L67 (q1_67 : Int32) (q2_67 : Int32) (q3_67 : Int32) (kx67 : St → Int32 → Int32 → Option (St × Int32)) : Nat → St → Int32 → Int32 → Option (St × Int32)
  | 0, _, _, _ => none
  | n67 + 1, σ, c4_67, c5_67 =>
    (if (σ.1 0 1) ≤ c5_67 then kx67 σ c4_67 c5_67 else chk (inb c5_67 12) ((jp (fun (σ_12 : St)  (t_13 : Int32) => bnd t_13 fun (x6_14 : Int32) => (jp (fun (σ_15 : St) (x4_16 : Int32)  => bnd (c5_67 + (1 : Int32)) fun (x5_17 : Int32) => fX9_look_L67 q1_67 q2_67 q3_67 kx67 n67 σ_15 x4_16 x5_17) fun j130 => (if x6_14 = (-1 : Int32) then j130 σ_12 c4_67 else chk (inb c5_67 12) (chk (inb c5_67 12) (bnd (sI σ_12 27 (ix c5_67) ((σ_12.1 27 (ix c5_67)) ||| ((1 : Int32) <<< (x6_14 &&& 31)))) fun (σ_18 : St) => bnd (1 : Int32) fun (x4_19 : Int32) => cl (fX9_areWhole σ_18 ) fun (σ_20 : St) (t_21 : Int32) => bnd t_21 fun (x7_22 : Int32) => j130 σ_20 x4_19))))) fun j96 => (if (σ.1 3 (ix c5_67)) = 0 then cl (fX9_wouldTake σ c5_67) fun (σ_23 : St) (t_24 : Int32) => j96 σ_23 t_24 else j96 σ (-1 : Int32)))))
def fX9_look_L51 (q1_51 : Int32) (q2_51 : Int32) (kx51 : St → Int32 → Int32 → Option (St × Int32)) : Nat → St → Int32 → Int32 → Option (St × Int32)
  | 0, _, _, _ => none
  | n51 + 1, σ, c3_51, c4_51 =>
    (if c4_51 = 0 then kx51 σ c3_51 c4_51 else (if q1_51 ≤ c3_51 then kx51 σ c3_51 c4_51 else bnd (0 : Int32) fun (x4_10 : Int32) => bnd (0 : Int32) fun (x5_11 : Int32) => fX9_look_L67 q1_51 q2_51 c3_51 (fun (σ_25 : St) (x4_26 : Int32) (x5_27 : Int32) => bnd (c3_51 + (1 : Int32)) fun (x3_28 : Int32) => fX9_look_L51 q1_51 q2_51 kx51 n51 σ_25 x3_28 x4_26) FU σ x4_10 x5_11))
def fX9_look (σ : St) (p1 : Int32) (p2 : Int32) : Option (St × Int32) :=
  cl (fX9_isIn σ p1 (1 : Int32) (9 : Int32)) fun (σ_1 : St) (t_2 : Int32) => (if t_2 = 0 then some (σ_1, (-1 : Int32)) else (jp (fun (σ_3 : St)   => cl (fX9_isShouted σ_3 ) fun (σ_4 : St) (t_5 : Int32) => (if t_5 = 0 then cl (fX9_areReady σ_4 ) fun (σ_6 : St) (t_7 : Int32) => (if t_7 = 0 then some (σ_6, (-1 : Int32)) else bnd (0 : Int32) fun (x3_8 : Int32) => bnd (1 : Int32) fun (x4_9 : Int32) => fX9_look_L51 p1 p2 (fun (σ_29 : St) (x3_30 : Int32) (x4_31 : Int32) => (if p2 = 0 then some (σ_29, x3_30) else chk (inb (p2 - (10 : Int32)) 12) ((if (σ_29.1 3 (ix (p2 - (10 : Int32)))) = 0 then chk (inb (p2 - (10 : Int32)) 12) (some (σ_29, (σ_29.1 27 (ix (p2 - (10 : Int32)))))) else some (σ_29, (-1 : Int32)))))) FU σ_6 x3_8 x4_9) else some (σ_4, (-1 : Int32)))) fun j30 => (if p2 = 0 then j30 σ_1 else cl (fX9_isIn σ_1 p2 (10 : Int32) ((9 : Int32) + (σ_1.1 0 1))) fun (σ_32 : St) (t_33 : Int32) => (if t_33 = 0 then some (σ_32, (-1 : Int32)) else j30 σ_32))))
set_option maxRecDepth 20000 in
set_option maxHeartbeats 4000000 in
theorem sX9_look_L67 {X : CX} {a : Nat → Nat} {D : va_G} {tI tJ tB : ClassId} {zz : SV} {q1_67 : Int32} {q2_67 : Int32} {q3_67 : Int32} {kx67 : St → Int32 → Int32 → Option (St × Int32)} {r : St × Int32} (hX : OKX X (vM a D tI tJ tB zz) cX9_look 8 RX9 10 228) (hR : ∀ (pc : Nat) (lv : List (Nat × Value)), decode cX9_look pc = .ok (.ireturn, 1) → G X (vM a D tI tJ tB zz) 8 r.1 pc lv [.int r.2]) (hkx67 : ∀ (σ : St) (e4_67 : Int32) (e5_67 : Int32), kx67 σ e4_67 e5_67 = some r → G X (vM a D tI tJ tB zz) 8 σ 136 [(0, .ref (a 0)), (1, .int q1_67), (2, .int q2_67), (3, .int q3_67), (4, .int e4_67)] []) : ∀ (n : Nat) (σ : St) (c4_67 : Int32) (c5_67 : Int32), fX9_look_L67 q1_67 q2_67 q3_67 kx67 n σ c4_67 c5_67 = some r → G X (vM a D tI tJ tB zz) 8 σ 67 [(0, .ref (a 0)), (1, .int q1_67), (2, .int q2_67), (3, .int q3_67), (4, .int c4_67), (5, .int c5_67)] [] := by
  intro n
  induction n with
  | zero => intro σ c4_67 c5_67 h; rw [fX9_look_L67] at h; exact absurd h (by simp)
  | succ n67 ih67 =>
    intro σ c4_67 c5_67 h
    rw [fX9_look_L67] at h
    refine g_iload hX 5 dX9_look_67 rfl ?_
    refine g_aload_n hX 0 dX9_look_69 rfl rfl ?_
    refine gM_263 hX dX9_look_70 ?_
    refine g_icmp_ge hX 136 dX9_look_73 (by decide) h (fun h => ?_) (fun h => ?_)
    · exact g_sub [0, 1, 2, 3, 4] rfl (hkx67 _ _ _ h)
    · refine g_aload_n hX 0 dX9_look_76 rfl rfl ?_
      refine gM_27 hX dX9_look_77 ?_
      refine g_iload hX 5 dX9_look_80 rfl ?_
      refine alM_3 hX dX9_look_82 h (fun h => ?_)
      refine jp_inv (P := fun f => ∀ (σ_12 : St)  (t_13 : Int32), f σ_12 t_13 = some r → G X (vM a D tI tJ tB zz) 8 σ_12 96 [(0, .ref (a 0)), (1, .int q1_67), (2, .int q2_67), (3, .int q3_67), (4, .int c4_67), (5, .int c5_67)] [.int t_13]) h (fun σ_12 t_13 h => ?_) (fun j96 hj96 h => ?_)
      · refine g_istore (lv' := fun x6_14 => [(6, .int x6_14), (0, .ref (a 0)), (1, .int q1_67), (2, .int q2_67), (3, .int q3_67), (4, .int c4_67), (5, .int c5_67)]) hX dX9_look_96 (by decide) (fun _ => rfl) h (fun x6_14 h => ?_)
        refine g_iload hX 0 dX9_look_98 rfl ?_
        refine g_iconst hX (-1) dX9_look_100 (by decide) ?_
        refine jp_inv (P := fun f => ∀ (σ_15 : St) (x4_16 : Int32) , f σ_15 x4_16 = some r → G X (vM a D tI tJ tB zz) 8 σ_15 130 [(0, .ref (a 0)), (1, .int q1_67), (2, .int q2_67), (3, .int q3_67), (5, .int c5_67), (4, .int x4_16)] []) h (fun σ_15 x4_16 h => ?_) (fun j130 hj130 h => ?_)
        · refine g_iinc (y := (1)) (lv' := fun x5_17 => [(5, .int x5_17), (0, .ref (a 0)), (1, .int q1_67), (2, .int q2_67), (3, .int q3_67), (4, .int x4_16)]) hX 4 dX9_look_130 rfl (by decide) (by decide) (fun _ => rfl) h (fun x5_17 h => ?_)
          refine g_goto hX 67 dX9_look_133 (by decide) ?_
          exact g_sub [1, 2, 3, 4, 5, 0] rfl (ih67 _ _ _ h)
        refine g_icmp_ne hX 107 dX9_look_101 (by decide) h (fun h => ?_) (fun h => ?_)
        · refine g_aload_n hX 1 dX9_look_107 rfl rfl ?_
          refine gM_106 hX dX9_look_108 ?_
          refine g_iload hX 6 dX9_look_111 rfl ?_
          refine g_dup2 hX dX9_look_113 rfl rfl ?_
          refine alM_27 hX dX9_look_114 h (fun h => ?_)
          refine g_iconst hX (1) dX9_look_115 (by decide) ?_
          refine g_iload hX 0 dX9_look_116 rfl ?_
          refine g_ishl hX dX9_look_118 ?_
          refine g_ior hX dX9_look_119 ?_
          refine asM_27 hX dX9_look_120 h (fun σ_18 h => ?_)
          refine g_iconst hX (1) dX9_look_121 (by decide) ?_
          refine g_istore (lv' := fun x4_19 => [(4, .int x4_19), (6, .int x6_14), (0, .ref (a 0)), (1, .int q1_67), (2, .int q2_67), (3, .int q3_67), (5, .int c5_67)]) hX dX9_look_122 (by decide) (fun _ => rfl) h (fun x4_19 h => ?_)
          refine g_aload_n hX 2 dX9_look_124 rfl rfl ?_
          refine g_callVI (As := []) (rest := []) hX 0 (Nat.le_of_ble_eq_true rfl) rfl rfl miX9_areWhole mvX9_areWhole lkX9_364 (by decide) rfl (Nat.le_of_ble_eq_true rfl) rfl dX9_look_125 (fun τ x ho => kX9_areWhole _ ho) h (fun σ_20 t_21 h => ?_)
          refine g_istore (lv' := fun x7_22 => [(7, .int x7_22), (4, .int x4_19), (6, .int x6_14), (0, .ref (a 0)), (1, .int q1_67), (2, .int q2_67), (3, .int q3_67), (5, .int c5_67)]) hX dX9_look_128 (by decide) (fun _ => rfl) h (fun x7_22 h => ?_)
          exact g_sub [3, 4, 5, 6, 7, 1] rfl (hj130 _ _ h)
        · refine g_goto hX 130 dX9_look_104 (by decide) ?_
          exact g_sub [1, 2, 3, 4, 6, 5] rfl (hj130 _ _ h)
      refine g_if_ne hX 95 dX9_look_83 (by decide) h (fun h => ?_) (fun h => ?_)
      · refine g_iconst hX (-1) dX9_look_95 (by decide) ?_
        exact g_sub [0, 1, 2, 3, 4, 5] rfl (hj96 _ _ h)
      · refine g_aload_n hX 0 dX9_look_86 rfl rfl ?_
        refine g_iload hX 5 dX9_look_87 rfl ?_
        refine g_callVI (As := [.int c5_67]) (rest := []) hX 0 (Nat.le_of_ble_eq_true rfl) rfl rfl miX9_wouldTake mvX9_wouldTake lkX9_420 (by decide) rfl (Nat.le_of_ble_eq_true rfl) rfl dX9_look_89 (fun τ x ho => kX9_wouldTake _ ho) h (fun σ_23 t_24 h => ?_)
        refine g_goto hX 96 dX9_look_92 (by decide) ?_
        exact g_sub [0, 1, 2, 3, 4, 5] rfl (hj96 _ _ h)
set_option maxRecDepth 20000 in
set_option maxHeartbeats 4000000 in
theorem sX9_look_L51 {X : CX} {a : Nat → Nat} {D : va_G} {tI tJ tB : ClassId} {zz : SV} {q1_51 : Int32} {q2_51 : Int32} {kx51 : St → Int32 → Int32 → Option (St × Int32)} {r : St × Int32} (hX : OKX X (vM a D tI tJ tB zz) cX9_look 8 RX9 10 228) (hR : ∀ (pc : Nat) (lv : List (Nat × Value)), decode cX9_look pc = .ok (.ireturn, 1) → G X (vM a D tI tJ tB zz) 8 r.1 pc lv [.int r.2]) (hkx51 : ∀ (σ : St) (e3_51 : Int32) (e4_51 : Int32), kx51 σ e3_51 e4_51 = some r → G X (vM a D tI tJ tB zz) 8 σ 142 [(0, .ref (a 0)), (2, .int q2_51), (3, .int e3_51)] []) : ∀ (n : Nat) (σ : St) (c3_51 : Int32) (c4_51 : Int32), fX9_look_L51 q1_51 q2_51 kx51 n σ c3_51 c4_51 = some r → G X (vM a D tI tJ tB zz) 8 σ 51 [(0, .ref (a 0)), (1, .int q1_51), (2, .int q2_51), (3, .int c3_51), (4, .int c4_51)] [] := by
  intro n
  induction n with
  | zero => intro σ c3_51 c4_51 h; rw [fX9_look_L51] at h; exact absurd h (by simp)
  | succ n51 ih51 =>
    intro σ c3_51 c4_51 h
    rw [fX9_look_L51] at h
    refine g_iload hX 4 dX9_look_51 rfl ?_
    refine g_if_eq hX 142 dX9_look_53 (by decide) h (fun h => ?_) (fun h => ?_)
    · exact g_sub [0, 2, 3] rfl (hkx51 _ _ _ h)
    · refine g_iload_n hX 3 dX9_look_56 rfl rfl ?_
      refine g_iload_n hX 1 dX9_look_57 rfl rfl ?_
      refine g_icmp_ge hX 142 dX9_look_58 (by decide) h (fun h => ?_) (fun h => ?_)
      · exact g_sub [0, 2, 3] rfl (hkx51 _ _ _ h)
      · refine g_iconst hX (0) dX9_look_61 (by decide) ?_
        refine g_istore (lv' := fun x4_10 => [(4, .int x4_10), (0, .ref (a 0)), (1, .int q1_51), (2, .int q2_51), (3, .int c3_51)]) hX dX9_look_62 (by decide) (fun _ => rfl) h (fun x4_10 h => ?_)
        refine g_iconst hX (0) dX9_look_64 (by decide) ?_
        refine g_istore (lv' := fun x5_11 => [(5, .int x5_11), (4, .int x4_10), (0, .ref (a 0)), (1, .int q1_51), (2, .int q2_51), (3, .int c3_51)]) hX dX9_look_65 (by decide) (fun _ => rfl) h (fun x5_11 h => ?_)
        refine g_sub [2, 3, 4, 5, 1, 0] rfl (sX9_look_L67 hX hR (fun σ_25 x4_26 x5_27 h => ?_) FU _ _ _ h)
        refine g_iinc (y := (1)) (lv' := fun x3_28 => [(3, .int x3_28), (0, .ref (a 0)), (1, .int q1_51), (2, .int q2_51), (4, .int x4_26)]) hX 3 dX9_look_136 rfl (by decide) (by decide) (fun _ => rfl) h (fun x3_28 h => ?_)
        refine g_goto hX 51 dX9_look_139 (by decide) ?_
        exact g_sub [1, 2, 3, 0, 4] rfl (ih51 _ _ _ h)
set_option maxRecDepth 20000 in
set_option maxHeartbeats 4000000 in
theorem sX9_look {X : CX} {a : Nat → Nat} {D : va_G} {tI tJ tB : ClassId} {zz : SV} {σ : St}  {p1 : Int32} {p2 : Int32} {r : St × Int32} (hX : OKX X (vM a D tI tJ tB zz) cX9_look 8 RX9 10 228) (hR : ∀ (pc : Nat) (lv : List (Nat × Value)), decode cX9_look pc = .ok (.ireturn, 1) → G X (vM a D tI tJ tB zz) 8 r.1 pc lv [.int r.2]) (h : fX9_look σ p1 p2 = some r) : G X (vM a D tI tJ tB zz) 8 σ 0 [(0, .ref (a 0)), (1, .int p1), (2, .int p2)] [] := by
  unfold fX9_look at h
  refine g_iload_n hX 1 dX9_look_0 rfl rfl ?_
  refine g_iconst hX (1) dX9_look_1 (by decide) ?_
  refine g_bipush hX (9) dX9_look_2 (by decide) ?_
  refine g_callSI (As := [.int p1, .int (1 : Int32), .int (9 : Int32)]) (rest := []) hX miX9_isIn mvX9_isIn lkX9_156 (by decide) rfl (Nat.le_of_ble_eq_true rfl) rfl dX9_look_4 (fun τ x ho => kX9_isIn _ ho) h (fun σ_1 t_2 h => ?_)
  refine g_if_eq hX 44 dX9_look_7 (by decide) h (fun h => ?_) (fun h => ?_)
  · refine g_iconst hX (-1) dX9_look_44 (by decide) ?_
    exact g_reti hR h dX9_look_45
  · refine g_iload_n hX 2 dX9_look_10 rfl rfl ?_
    refine jp_inv (P := fun f => ∀ (σ_3 : St)  , f σ_3 = some r → G X (vM a D tI tJ tB zz) 8 σ_3 30 [(0, .ref (a 0)), (1, .int p1), (2, .int p2)] []) h (fun σ_3 h => ?_) (fun j30 hj30 h => ?_)
    · refine g_aload_n hX 0 dX9_look_30 rfl rfl ?_
      refine g_callVI (As := []) (rest := []) hX 0 (Nat.le_of_ble_eq_true rfl) rfl rfl miX9_isShouted mvX9_isShouted lkX9_320 (by decide) rfl (Nat.le_of_ble_eq_true rfl) rfl dX9_look_31 (fun τ x ho => kX9_isShouted _ ho) h (fun σ_4 t_5 h => ?_)
      refine g_if_ne hX 44 dX9_look_34 (by decide) h (fun h => ?_) (fun h => ?_)
      · refine g_iconst hX (-1) dX9_look_44 (by decide) ?_
        exact g_reti hR h dX9_look_45
      · refine g_aload_n hX 0 dX9_look_37 rfl rfl ?_
        refine g_callVI (As := []) (rest := []) hX 0 (Nat.le_of_ble_eq_true rfl) rfl rfl miX9_areReady mvX9_areReady lkX9_367 (by decide) rfl (Nat.le_of_ble_eq_true rfl) rfl dX9_look_38 (fun τ x ho => kX9_areReady _ ho) h (fun σ_6 t_7 h => ?_)
        refine g_if_ne hX 46 dX9_look_41 (by decide) h (fun h => ?_) (fun h => ?_)
        · refine g_iconst hX (0) dX9_look_46 (by decide) ?_
          refine g_istore_n (lv' := fun x3_8 => [(3, .int x3_8), (0, .ref (a 0)), (1, .int p1), (2, .int p2)]) hX dX9_look_47 rfl (by decide) (fun _ => rfl) h (fun x3_8 h => ?_)
          refine g_iconst hX (1) dX9_look_48 (by decide) ?_
          refine g_istore (lv' := fun x4_9 => [(4, .int x4_9), (3, .int x3_8), (0, .ref (a 0)), (1, .int p1), (2, .int p2)]) hX dX9_look_49 (by decide) (fun _ => rfl) h (fun x4_9 h => ?_)
          refine g_sub [2, 3, 4, 1, 0] rfl (sX9_look_L51 hX hR (fun σ_29 x3_30 x4_31 h => ?_) FU _ _ _ h)
          refine g_iload_n hX 1 dX9_look_142 rfl rfl ?_
          refine g_if_ne hX 150 dX9_look_143 (by decide) h (fun h => ?_) (fun h => ?_)
          · refine g_aload_n hX 0 dX9_look_150 rfl rfl ?_
            refine gM_27 hX dX9_look_151 ?_
            refine g_iload_n hX 1 dX9_look_154 rfl rfl ?_
            refine g_bipush hX (10) dX9_look_155 (by decide) ?_
            refine g_isub hX dX9_look_157 ?_
            refine alM_3 hX dX9_look_158 h (fun h => ?_)
            refine g_if_ne hX 174 dX9_look_159 (by decide) h (fun h => ?_) (fun h => ?_)
            · refine g_iconst hX (-1) dX9_look_174 (by decide) ?_
              exact g_reti hR h dX9_look_175
            · refine g_aload_n hX 0 dX9_look_162 rfl rfl ?_
              refine gM_106 hX dX9_look_163 ?_
              refine g_iload_n hX 1 dX9_look_166 rfl rfl ?_
              refine g_bipush hX (10) dX9_look_167 (by decide) ?_
              refine g_isub hX dX9_look_169 ?_
              refine alM_27 hX dX9_look_170 h (fun h => ?_)
              refine g_goto hX 175 dX9_look_171 (by decide) ?_
              exact g_reti hR h dX9_look_175
          · refine g_iload_n hX 2 dX9_look_146 rfl rfl ?_
            refine g_goto hX 175 dX9_look_147 (by decide) ?_
            exact g_reti hR h dX9_look_175
        · refine g_iconst hX (-1) dX9_look_44 (by decide) ?_
          exact g_reti hR h dX9_look_45
    refine g_if_eq hX 30 dX9_look_11 (by decide) h (fun h => ?_) (fun h => ?_)
    · exact g_sub [0, 1, 2] rfl (hj30 _ h)
    · refine g_iload_n hX 2 dX9_look_14 rfl rfl ?_
      refine g_bipush hX (10) dX9_look_15 (by decide) ?_
      refine g_bipush hX (9) dX9_look_17 (by decide) ?_
      refine g_aload_n hX 0 dX9_look_19 rfl rfl ?_
      refine gM_263 hX dX9_look_20 ?_
      refine g_iadd hX dX9_look_23 ?_
      refine g_callSI (As := [.int p2, .int (10 : Int32), .int ((9 : Int32) + (σ_1.1 0 1))]) (rest := []) hX miX9_isIn mvX9_isIn lkX9_156 (by decide) rfl (Nat.le_of_ble_eq_true rfl) rfl dX9_look_24 (fun τ x ho => kX9_isIn _ ho) h (fun σ_32 t_33 h => ?_)
      refine g_if_eq hX 44 dX9_look_27 (by decide) h (fun h => ?_) (fun h => ?_)
      · refine g_iconst hX (-1) dX9_look_44 (by decide) ?_
        exact g_reti hR h dX9_look_45
      · exact g_sub [0, 1, 2] rfl (hj30 _ h)
set_option maxRecDepth 20000 in
set_option maxHeartbeats 4000000 in
theorem kX9_look (l : Launch) {a : Nat → Nat} {D : va_G} {tI tJ tB : ClassId} {zz : SV} {σ τ : St}  {p1 : Int32} {p2 : Int32} {x : Int32} (h : fX9_look σ p1 p2 = some (τ, x)) : CtI l yX9_look cX9_look 8 (some .int) 10 228 (vM a D tI tJ tB zz) σ [.ref (a 0), .int p1, .int p2] τ x := g_metI (by decide) (Nat.le_of_ble_eq_true rfl) rfl (fun X _ hX hR => sX9_look (r := (τ, x)) hX hR h)
def fX9_divisor_L12  (kx12 : St → Int64 → Int64 → Option (St × Int64)) : Nat → St → Int64 → Int64 → Option (St × Int64)
  | 0, _, _, _ => none
  | n12 + 1, σ, c4_12, c6_12 =>
    (if (lg_cmp c6_12 (0 : Int64)) ≤ 0 then kx12 σ c4_12 c6_12 else chk (decide (¬ c6_12 = 0)) (bnd (c4_12 - c4_12 / c6_12 * c6_12) fun (x8_5 : Int64) => bnd c6_12 fun (x4_6 : Int64) => bnd x8_5 fun (x6_7 : Int64) => fX9_divisor_L12 kx12 n12 σ x4_6 x6_7))
def fX9_divisor (σ : St) (p1 : Int64) (p2 : Int64) : Option (St × Int64) :=
  bnd (if 0 < p1 then p1 else -p1) fun (t_1 : Int64) => bnd t_1 fun (x4_2 : Int64) => bnd (if 0 < p2 then p2 else -p2) fun (t_3 : Int64) => bnd t_3 fun (x6_4 : Int64) => fX9_divisor_L12  (fun (σ_8 : St) (x4_9 : Int64) (x6_10 : Int64) => some (σ_8, x4_9)) FU σ x4_2 x6_4
set_option maxRecDepth 20000 in
set_option maxHeartbeats 4000000 in
theorem sX9_divisor_L12 {X : CX} {a : Nat → Nat} {D : va_G} {tI tJ tB : ClassId} {zz : SV}  {kx12 : St → Int64 → Int64 → Option (St × Int64)} {r : St × Int64} (hX : OKX X (vM a D tI tJ tB zz) cX9_divisor 10 RX9 1 21) (hR : ∀ (pc : Nat) (lv : List (Nat × Value)), decode cX9_divisor pc = .ok (.lreturn, 1) → G X (vM a D tI tJ tB zz) 10 r.1 pc lv [.long r.2]) (hkx12 : ∀ (σ : St) (e4_12 : Int64) (e6_12 : Int64), kx12 σ e4_12 e6_12 = some r → G X (vM a D tI tJ tB zz) 10 σ 37 [(4, .long e4_12)] []) : ∀ (n : Nat) (σ : St) (c4_12 : Int64) (c6_12 : Int64), fX9_divisor_L12 kx12 n σ c4_12 c6_12 = some r → G X (vM a D tI tJ tB zz) 10 σ 12 [(4, .long c4_12), (6, .long c6_12)] [] := by
  intro n
  induction n with
  | zero => intro σ c4_12 c6_12 h; rw [fX9_divisor_L12] at h; exact absurd h (by simp)
  | succ n12 ih12 =>
    intro σ c4_12 c6_12 h
    rw [fX9_divisor_L12] at h
    refine g_lload hX 1 dX9_divisor_12 rfl ?_
    refine g_lconst hX (0) dX9_divisor_14 (by decide) ?_
    refine g_lcmp hX dX9_divisor_15 ?_
    refine g_if_le hX 37 dX9_divisor_16 (by decide) h (fun h => ?_) (fun h => ?_)
    · exact g_sub [0] rfl (hkx12 _ _ _ h)
    · refine g_lload hX 0 dX9_divisor_19 rfl ?_
      refine g_lload hX 1 dX9_divisor_21 rfl ?_
      refine g_lrem hX dX9_divisor_23 h (fun h => ?_)
      refine g_lstore (lv' := fun x8_5 => [(8, .long x8_5), (4, .long c4_12), (6, .long c6_12)]) hX dX9_divisor_24 (by decide) (fun _ => rfl) h (fun x8_5 h => ?_)
      refine g_lload hX 2 dX9_divisor_26 rfl ?_
      refine g_lstore (lv' := fun x4_6 => [(4, .long x4_6), (8, .long x8_5), (6, .long c6_12)]) hX dX9_divisor_28 (by decide) (fun _ => rfl) h (fun x4_6 h => ?_)
      refine g_lload hX 1 dX9_divisor_30 rfl ?_
      refine g_lstore (lv' := fun x6_7 => [(6, .long x6_7), (4, .long x4_6), (8, .long x8_5)]) hX dX9_divisor_32 (by decide) (fun _ => rfl) h (fun x6_7 h => ?_)
      refine g_goto hX 12 dX9_divisor_34 (by decide) ?_
      exact g_sub [1, 0] rfl (ih12 _ _ _ h)
set_option maxRecDepth 20000 in
set_option maxHeartbeats 4000000 in
theorem sX9_divisor {X : CX} {a : Nat → Nat} {D : va_G} {tI tJ tB : ClassId} {zz : SV} {σ : St}  {p1 : Int64} {p2 : Int64} {r : St × Int64} (hX : OKX X (vM a D tI tJ tB zz) cX9_divisor 10 RX9 1 21) (hR : ∀ (pc : Nat) (lv : List (Nat × Value)), decode cX9_divisor pc = .ok (.lreturn, 1) → G X (vM a D tI tJ tB zz) 10 r.1 pc lv [.long r.2]) (h : fX9_divisor σ p1 p2 = some r) : G X (vM a D tI tJ tB zz) 10 σ 0 [(0, .long p1), (2, .long p2)] [] := by
  unfold fX9_divisor at h
  refine g_lload_n hX 0 dX9_divisor_0 rfl rfl ?_
  refine g_mabsL hX lkX9_423 mathS_absJ mathI mathC_absJ (by decide) (by decide) (Nat.le_of_ble_eq_true rfl) dX9_divisor_1 h (fun t_1 h => ?_)
  refine g_lstore (lv' := fun x4_2 => [(4, .long x4_2), (0, .long p1), (2, .long p2)]) hX dX9_divisor_4 (by decide) (fun _ => rfl) h (fun x4_2 h => ?_)
  refine g_lload_n hX 2 dX9_divisor_6 rfl rfl ?_
  refine g_mabsL hX lkX9_423 mathS_absJ mathI mathC_absJ (by decide) (by decide) (Nat.le_of_ble_eq_true rfl) dX9_divisor_7 h (fun t_3 h => ?_)
  refine g_lstore (lv' := fun x6_4 => [(6, .long x6_4), (4, .long x4_2), (0, .long p1), (2, .long p2)]) hX dX9_divisor_10 (by decide) (fun _ => rfl) h (fun x6_4 h => ?_)
  refine g_sub [1, 0] rfl (sX9_divisor_L12 hX hR (fun σ_8 x4_9 x6_10 h => ?_) FU _ _ _ h)
  refine g_lload hX 0 dX9_divisor_37 rfl ?_
  exact g_retl hR h dX9_divisor_39
set_option maxRecDepth 20000 in
set_option maxHeartbeats 4000000 in
theorem kX9_divisor (l : Launch) {a : Nat → Nat} {D : va_G} {tI tJ tB : ClassId} {zz : SV} {σ τ : St}  {p1 : Int64} {p2 : Int64} {x : Int64} (h : fX9_divisor σ p1 p2 = some (τ, x)) : CtL l yX9_divisor cX9_divisor 10 (some .long) 1 21 (vM a D tI tJ tB zz) σ [.long p1, .long p2] τ x := g_metL (by decide) (Nat.le_of_ble_eq_true rfl) rfl (fun X _ hX hR => sX9_divisor (r := (τ, x)) hX hR h)
def fX9_isUnrest_L4  (kx4 : St → Int32 → Int32 → Option (St × Int32)) : Nat → St → Int32 → Int32 → Option (St × Int32)
  | 0, _, _, _ => none
  | n4 + 1, σ, c1_4, c2_4 =>
    (if (4 : Int32) ≤ c2_4 then kx4 σ c1_4 c2_4 else (jp (fun (σ_3 : St)  (t_4 : Int32) => bnd t_4 fun (x1_5 : Int32) => bnd (c2_4 + (1 : Int32)) fun (x2_6 : Int32) => fX9_isUnrest_L4 kx4 n4 σ_3 x1_5 x2_6) fun j54 => jp (fun (σ_7 : St)   => j54 σ_7 (0 : Int32)) fun j53 => (if c1_4 = 0 then j53 σ else chk (inb (c2_4 ^^^ (2 : Int32)) 4) (chk (inb c2_4 4) ((jp (fun (σ_8 : St)   => j54 σ_8 (1 : Int32)) fun j49 => (if 0 < (lg_cmp (σ.2 30 (ix (c2_4 ^^^ (2 : Int32)))) (σ.2 30 (ix c2_4))) then j49 σ else chk (inb (c2_4 ^^^ (1 : Int32)) 4) (chk (inb c2_4 4) ((if (lg_cmp (σ.2 31 (ix (c2_4 ^^^ (1 : Int32)))) (σ.2 31 (ix c2_4))) ≤ 0 then j53 σ else j49 σ))))))))))
def fX9_isUnrest (σ : St)  : Option (St × Int32) :=
  bnd (1 : Int32) fun (x1_1 : Int32) => bnd (0 : Int32) fun (x2_2 : Int32) => fX9_isUnrest_L4  (fun (σ_9 : St) (x1_10 : Int32) (x2_11 : Int32) => chk (isB x1_10) (some (σ_9, x1_10))) FU σ x1_1 x2_2
set_option maxRecDepth 20000 in
set_option maxHeartbeats 4000000 in
theorem sX9_isUnrest_L4 {X : CX} {a : Nat → Nat} {D : va_G} {tI tJ tB : ClassId} {zz : SV}  {kx4 : St → Int32 → Int32 → Option (St × Int32)} {r : St × Int32} (hX : OKX X (vM a D tI tJ tB zz) cX9_isUnrest 3 RX9 0 0) (hR : (r.2 = 0 ∨ r.2 = 1) → ∀ (pc : Nat) (lv : List (Nat × Value)), decode cX9_isUnrest pc = .ok (.ireturn, 1) → G X (vM a D tI tJ tB zz) 3 r.1 pc lv [.int r.2]) (hkx4 : ∀ (σ : St) (e1_4 : Int32) (e2_4 : Int32), kx4 σ e1_4 e2_4 = some r → G X (vM a D tI tJ tB zz) 3 σ 61 [(1, .int e1_4)] []) : ∀ (n : Nat) (σ : St) (c1_4 : Int32) (c2_4 : Int32), fX9_isUnrest_L4 kx4 n σ c1_4 c2_4 = some r → G X (vM a D tI tJ tB zz) 3 σ 4 [(0, .ref (a 0)), (1, .int c1_4), (2, .int c2_4)] [] := by
  intro n
  induction n with
  | zero => intro σ c1_4 c2_4 h; rw [fX9_isUnrest_L4] at h; exact absurd h (by simp)
  | succ n4 ih4 =>
    intro σ c1_4 c2_4 h
    rw [fX9_isUnrest_L4] at h
    refine g_iload_n hX 2 dX9_isUnrest_4 rfl rfl ?_
    refine g_iconst hX (4) dX9_isUnrest_5 (by decide) ?_
    refine g_icmp_ge hX 61 dX9_isUnrest_6 (by decide) h (fun h => ?_) (fun h => ?_)
    · exact g_sub [1] rfl (hkx4 _ _ _ h)
    · refine g_iload_n hX 1 dX9_isUnrest_9 rfl rfl ?_
      refine jp_inv (P := fun f => ∀ (σ_3 : St)  (t_4 : Int32), f σ_3 t_4 = some r → G X (vM a D tI tJ tB zz) 3 σ_3 54 [(0, .ref (a 0)), (2, .int c2_4)] [.int t_4]) h (fun σ_3 t_4 h => ?_) (fun j54 hj54 h => ?_)
      · refine g_istore_n (lv' := fun x1_5 => [(1, .int x1_5), (0, .ref (a 0)), (2, .int c2_4)]) hX dX9_isUnrest_54 rfl (by decide) (fun _ => rfl) h (fun x1_5 h => ?_)
        refine g_iinc (y := (1)) (lv' := fun x2_6 => [(2, .int x2_6), (1, .int x1_5), (0, .ref (a 0))]) hX 2 dX9_isUnrest_55 rfl (by decide) (by decide) (fun _ => rfl) h (fun x2_6 h => ?_)
        refine g_goto hX 4 dX9_isUnrest_58 (by decide) ?_
        exact g_sub [2, 1, 0] rfl (ih4 _ _ _ h)
      refine jp_inv (P := fun f => ∀ (σ_7 : St)  , f σ_7 = some r → G X (vM a D tI tJ tB zz) 3 σ_7 53 [(0, .ref (a 0)), (2, .int c2_4)] []) h (fun σ_7 h => ?_) (fun j53 hj53 h => ?_)
      · refine g_iconst hX (0) dX9_isUnrest_53 (by decide) ?_
        exact g_sub [0, 1] rfl (hj54 _ _ h)
      refine g_if_eq hX 53 dX9_isUnrest_10 (by decide) h (fun h => ?_) (fun h => ?_)
      · exact g_sub [0, 2] rfl (hj53 _ h)
      · refine g_aload_n hX 0 dX9_isUnrest_13 rfl rfl ?_
        refine gM_115 hX dX9_isUnrest_14 ?_
        refine g_iload_n hX 2 dX9_isUnrest_17 rfl rfl ?_
        refine g_iconst hX (2) dX9_isUnrest_18 (by decide) ?_
        refine g_ixor hX dX9_isUnrest_19 ?_
        refine alM_30 hX dX9_isUnrest_20 h (fun h => ?_)
        refine g_aload_n hX 0 dX9_isUnrest_21 rfl rfl ?_
        refine gM_115 hX dX9_isUnrest_22 ?_
        refine g_iload_n hX 2 dX9_isUnrest_25 rfl rfl ?_
        refine alM_30 hX dX9_isUnrest_26 h (fun h => ?_)
        refine g_lcmp hX dX9_isUnrest_27 ?_
        refine jp_inv (P := fun f => ∀ (σ_8 : St)  , f σ_8 = some r → G X (vM a D tI tJ tB zz) 3 σ_8 49 [(0, .ref (a 0)), (2, .int c2_4)] []) h (fun σ_8 h => ?_) (fun j49 hj49 h => ?_)
        · refine g_iconst hX (1) dX9_isUnrest_49 (by decide) ?_
          refine g_goto hX 54 dX9_isUnrest_50 (by decide) ?_
          exact g_sub [0, 1] rfl (hj54 _ _ h)
        refine g_if_gt hX 49 dX9_isUnrest_28 (by decide) h (fun h => ?_) (fun h => ?_)
        · exact g_sub [0, 2] rfl (hj49 _ h)
        · refine g_aload_n hX 0 dX9_isUnrest_31 rfl rfl ?_
          refine gM_118 hX dX9_isUnrest_32 ?_
          refine g_iload_n hX 2 dX9_isUnrest_35 rfl rfl ?_
          refine g_iconst hX (1) dX9_isUnrest_36 (by decide) ?_
          refine g_ixor hX dX9_isUnrest_37 ?_
          refine alM_31 hX dX9_isUnrest_38 h (fun h => ?_)
          refine g_aload_n hX 0 dX9_isUnrest_39 rfl rfl ?_
          refine gM_118 hX dX9_isUnrest_40 ?_
          refine g_iload_n hX 2 dX9_isUnrest_43 rfl rfl ?_
          refine alM_31 hX dX9_isUnrest_44 h (fun h => ?_)
          refine g_lcmp hX dX9_isUnrest_45 ?_
          refine g_if_le hX 53 dX9_isUnrest_46 (by decide) h (fun h => ?_) (fun h => ?_)
          · exact g_sub [0, 2] rfl (hj53 _ h)
          · exact g_sub [0, 2] rfl (hj49 _ h)
set_option maxRecDepth 20000 in
set_option maxHeartbeats 4000000 in
theorem sX9_isUnrest {X : CX} {a : Nat → Nat} {D : va_G} {tI tJ tB : ClassId} {zz : SV} {σ : St}   {r : St × Int32} (hX : OKX X (vM a D tI tJ tB zz) cX9_isUnrest 3 RX9 0 0) (hR : (r.2 = 0 ∨ r.2 = 1) → ∀ (pc : Nat) (lv : List (Nat × Value)), decode cX9_isUnrest pc = .ok (.ireturn, 1) → G X (vM a D tI tJ tB zz) 3 r.1 pc lv [.int r.2]) (h : fX9_isUnrest σ  = some r) : G X (vM a D tI tJ tB zz) 3 σ 0 [(0, .ref (a 0))] [] := by
  unfold fX9_isUnrest at h
  refine g_iconst hX (1) dX9_isUnrest_0 (by decide) ?_
  refine g_istore_n (lv' := fun x1_1 => [(1, .int x1_1), (0, .ref (a 0))]) hX dX9_isUnrest_1 rfl (by decide) (fun _ => rfl) h (fun x1_1 h => ?_)
  refine g_iconst hX (0) dX9_isUnrest_2 (by decide) ?_
  refine g_istore_n (lv' := fun x2_2 => [(2, .int x2_2), (1, .int x1_1), (0, .ref (a 0))]) hX dX9_isUnrest_3 rfl (by decide) (fun _ => rfl) h (fun x2_2 h => ?_)
  refine g_sub [2, 1, 0] rfl (sX9_isUnrest_L4 hX hR (fun σ_9 x1_10 x2_11 h => ?_) FU _ _ _ h)
  refine g_iload_n hX 0 dX9_isUnrest_61 rfl rfl ?_
  exact g_retzc hR h dX9_isUnrest_62
set_option maxRecDepth 20000 in
set_option maxHeartbeats 4000000 in
theorem kX9_isUnrest (l : Launch) {a : Nat → Nat} {D : va_G} {tI tJ tB : ClassId} {zz : SV} {σ τ : St}   {x : Int32} (h : fX9_isUnrest σ  = some (τ, x)) : CtI l yX9_isUnrest cX9_isUnrest 3 (some .boolean) 0 0 (vM a D tI tJ tB zz) σ [.ref (a 0)] τ x := g_metZ (by decide) (Nat.le_of_ble_eq_true rfl) rfl (fun X _ hX hR => sX9_isUnrest (r := (τ, x)) hX hR h)
