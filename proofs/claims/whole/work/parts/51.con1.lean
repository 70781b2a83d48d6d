theorem acl_long : Cond.arrayClass .long ∈ wsAll := wsAll_mem 272 (by decide +kernel) (by decide +kernel)
theorem acl_byte : Cond.arrayClass .byte ∈ wsAll := wsAll_mem 271 (by decide +kernel) (by decide +kernel)
theorem clk_L_7 : Cond.classLink RL 7 RX8 ∈ wsAll := wsAll_mem 177 (by decide +kernel) (by decide +kernel)
theorem inst_X8 : Cond.instantiable RX8 15 ∈ wsAll := wsAll_mem 178 (by decide +kernel) (by decide +kernel)
theorem clk_X8_9 : Cond.classLink RX8 9 RX6 ∈ wsAll := wsAll_mem 185 (by decide +kernel) (by decide +kernel)
theorem inst_X6 : Cond.instantiable RX6 15 ∈ wsAll := wsAll_mem 186 (by decide +kernel) (by decide +kernel)
theorem clk_X8_12 : Cond.classLink RX8 12 RX2 ∈ wsAll := wsAll_mem 274 (by decide +kernel) (by decide +kernel)
theorem inst_X2 : Cond.instantiable RX2 3 ∈ wsAll := wsAll_mem 275 (by decide +kernel) (by decide +kernel)
theorem clk_X8_15 : Cond.classLink RX8 15 RX5 ∈ wsAll := wsAll_mem 292 (by decide +kernel) (by decide +kernel)
theorem inst_X5 : Cond.instantiable RX5 5 ∈ wsAll := wsAll_mem 293 (by decide +kernel) (by decide +kernel)
theorem clk_X8_18 : Cond.classLink RX8 18 RX7 ∈ wsAll := wsAll_mem 327 (by decide +kernel) (by decide +kernel)
theorem inst_X7 : Cond.instantiable RX7 17 ∈ wsAll := wsAll_mem 328 (by decide +kernel) (by decide +kernel)
theorem clk_X8_34 : Cond.classLink RX8 34 RX3 ∈ wsAll := wsAll_mem 395 (by decide +kernel) (by decide +kernel)
theorem inst_X3 : Cond.instantiable RX3 9 ∈ wsAll := wsAll_mem 396 (by decide +kernel) (by decide +kernel)
theorem clk_X8_59 : Cond.classLink RX8 59 RX4 ∈ wsAll := wsAll_mem 429 (by decide +kernel) (by decide +kernel)
theorem inst_X4 : Cond.instantiable RX4 10 ∈ wsAll := wsAll_mem 430 (by decide +kernel) (by decide +kernel)
theorem clk_X8_68 : Cond.classLink RX8 68 RX0 ∈ wsAll := wsAll_mem 467 (by decide +kernel) (by decide +kernel)
theorem inst_X0 : Cond.instantiable RX0 8 ∈ wsAll := wsAll_mem 468 (by decide +kernel) (by decide +kernel)
theorem clk_X8_77 : Cond.classLink RX8 77 RX1 ∈ wsAll := wsAll_mem 502 (by decide +kernel) (by decide +kernel)
theorem inst_X1 : Cond.instantiable RX1 9 ∈ wsAll := wsAll_mem 503 (by decide +kernel) (by decide +kernel)
theorem clk_L_10 : Cond.classLink RL 10 RX9 ∈ wsAll := wsAll_mem 1264 (by decide +kernel) (by decide +kernel)
theorem inst_X9 : Cond.instantiable RX9 70 ∈ wsAll := wsAll_mem 1265 (by decide +kernel) (by decide +kernel)
theorem df_X0 : ∀ j, j < 8 → defaultValue (tyX0 j) = vp_V [.null, .null, .null, .null, .null, .int 0, .int 0, .int 0] j := fun j hj => match j, hj with
  | 0, _ => rfl
  | 1, _ => rfl
  | 2, _ => rfl
  | 3, _ => rfl
  | 4, _ => rfl
  | 5, _ => rfl
  | 6, _ => rfl
  | 7, _ => rfl
  | j + 8, hj => absurd hj (by omega)
theorem df_X1 : ∀ j, j < 9 → defaultValue (tyX1 j) = vp_V [.null, .long 0, .long 0, .long 0, .long 0, .long 0, .long 0, .long 0, .long 0] j := fun j hj => match j, hj with
  | 0, _ => rfl
  | 1, _ => rfl
  | 2, _ => rfl
  | 3, _ => rfl
  | 4, _ => rfl
  | 5, _ => rfl
  | 6, _ => rfl
  | 7, _ => rfl
  | 8, _ => rfl
  | j + 9, hj => absurd hj (by omega)
theorem df_X2 : ∀ j, j < 3 → defaultValue (tyX2 j) = vp_V [.int 0, .null, .null] j := fun j hj => match j, hj with
  | 0, _ => rfl
  | 1, _ => rfl
  | 2, _ => rfl
  | j + 3, hj => absurd hj (by omega)
theorem df_X3 : ∀ j, j < 9 → defaultValue (tyX3 j) = vp_V [.null, .null, .int 0, .int 0, .int 0, .int 0, .int 0, .int 0, .long 0] j := fun j hj => match j, hj with
  | 0, _ => rfl
  | 1, _ => rfl
  | 2, _ => rfl
  | 3, _ => rfl
  | 4, _ => rfl
  | 5, _ => rfl
  | 6, _ => rfl
  | 7, _ => rfl
  | 8, _ => rfl
  | j + 9, hj => absurd hj (by omega)
theorem df_X4 : ∀ j, j < 10 → defaultValue (tyX4 j) = vp_V [.null, .null, .null, .null, .null, .null, .null, .null, .int 0, .int 0] j := fun j hj => match j, hj with
  | 0, _ => rfl
  | 1, _ => rfl
  | 2, _ => rfl
  | 3, _ => rfl
  | 4, _ => rfl
  | 5, _ => rfl
  | 6, _ => rfl
  | 7, _ => rfl
  | 8, _ => rfl
  | 9, _ => rfl
  | j + 10, hj => absurd hj (by omega)
theorem df_X5 : ∀ j, j < 5 → defaultValue (tyX5 j) = vp_V [.null, .null, .null, .int 0, .int 0] j := fun j hj => match j, hj with
  | 0, _ => rfl
  | 1, _ => rfl
  | 2, _ => rfl
  | 3, _ => rfl
  | 4, _ => rfl
  | j + 5, hj => absurd hj (by omega)
theorem df_X6 : ∀ j, j < 15 → defaultValue (tyX6 j) = vp_V [.int 0, .int 0, .int 0, .int 0, .int 0, .int 0, .int 0, .int 0, .null, .null, .null, .null, .null, .null, .null] j := fun j hj => match j, hj with
  | 0, _ => rfl
  | 1, _ => rfl
  | 2, _ => rfl
  | 3, _ => rfl
  | 4, _ => rfl
  | 5, _ => rfl
  | 6, _ => rfl
  | 7, _ => rfl
  | 8, _ => rfl
  | 9, _ => rfl
  | 10, _ => rfl
  | 11, _ => rfl
  | 12, _ => rfl
  | 13, _ => rfl
  | 14, _ => rfl
  | j + 15, hj => absurd hj (by omega)
theorem df_X7 : ∀ j, j < 17 → defaultValue (tyX7 j) = vp_V [.null, .null, .null, .null, .null, .null, .null, .null, .null, .null, .null, .null, .long 0, .long 0, .int 0, .int 0, .int 0] j := fun j hj => match j, hj with
  | 0, _ => rfl
  | 1, _ => rfl
  | 2, _ => rfl
  | 3, _ => rfl
  | 4, _ => rfl
  | 5, _ => rfl
  | 6, _ => rfl
  | 7, _ => rfl
  | 8, _ => rfl
  | 9, _ => rfl
  | 10, _ => rfl
  | 11, _ => rfl
  | 12, _ => rfl
  | 13, _ => rfl
  | 14, _ => rfl
  | 15, _ => rfl
  | 16, _ => rfl
  | j + 17, hj => absurd hj (by omega)
theorem df_X8 : ∀ j, j < 15 → defaultValue (tyX8 j) = vp_V [.null, .null, .null, .null, .null, .null, .null, .null, .null, .null, .null, .int 0, .int 0, .int 0, .int 0] j := fun j hj => match j, hj with
  | 0, _ => rfl
  | 1, _ => rfl
  | 2, _ => rfl
  | 3, _ => rfl
  | 4, _ => rfl
  | 5, _ => rfl
  | 6, _ => rfl
  | 7, _ => rfl
  | 8, _ => rfl
  | 9, _ => rfl
  | 10, _ => rfl
  | 11, _ => rfl
  | 12, _ => rfl
  | 13, _ => rfl
  | 14, _ => rfl
  | j + 15, hj => absurd hj (by omega)
theorem df_X9 : ∀ j, j < 70 → defaultValue (tyX9 j) = vp_V [.int 0, .int 0, .int 0, .int 0, .int 0, .int 0, .int 0, .int 0, .int 0, .null, .null, .null, .null, .null, .null, .int 0, .int 0, .int 0, .int 0, .int 0, .int 0, .int 0, .int 0, .null, .null, .null, .null, .null, .null, .int 0, .int 0, .int 0, .int 0, .null, .null, .int 0, .int 0, .int 0, .int 0, .int 0, .null, .null, .null, .null, .null, .null, .null, .long 0, .null, .null, .null, .null, .null, .null, .null, .long 0, .null, .int 0, .null, .null, .null, .null, .int 0, .int 0, .int 0, .int 0, .int 0, .long 0, .int 0, .null] j := fun j hj => match j, hj with
  | 0, _ => rfl
  | 1, _ => rfl
  | 2, _ => rfl
  | 3, _ => rfl
  | 4, _ => rfl
  | 5, _ => rfl
  | 6, _ => rfl
  | 7, _ => rfl
  | 8, _ => rfl
  | 9, _ => rfl
  | 10, _ => rfl
  | 11, _ => rfl
  | 12, _ => rfl
  | 13, _ => rfl
  | 14, _ => rfl
  | 15, _ => rfl
  | 16, _ => rfl
  | 17, _ => rfl
  | 18, _ => rfl
  | 19, _ => rfl
  | 20, _ => rfl
  | 21, _ => rfl
  | 22, _ => rfl
  | 23, _ => rfl
  | 24, _ => rfl
  | 25, _ => rfl
  | 26, _ => rfl
  | 27, _ => rfl
  | 28, _ => rfl
  | 29, _ => rfl
  | 30, _ => rfl
  | 31, _ => rfl
  | 32, _ => rfl
  | 33, _ => rfl
  | 34, _ => rfl
  | 35, _ => rfl
  | 36, _ => rfl
  | 37, _ => rfl
  | 38, _ => rfl
  | 39, _ => rfl
  | 40, _ => rfl
  | 41, _ => rfl
  | 42, _ => rfl
  | 43, _ => rfl
  | 44, _ => rfl
  | 45, _ => rfl
  | 46, _ => rfl
  | 47, _ => rfl
  | 48, _ => rfl
  | 49, _ => rfl
  | 50, _ => rfl
  | 51, _ => rfl
  | 52, _ => rfl
  | 53, _ => rfl
  | 54, _ => rfl
  | 55, _ => rfl
  | 56, _ => rfl
  | 57, _ => rfl
  | 58, _ => rfl
  | 59, _ => rfl
  | 60, _ => rfl
  | 61, _ => rfl
  | 62, _ => rfl
  | 63, _ => rfl
  | 64, _ => rfl
  | 65, _ => rfl
  | 66, _ => rfl
  | 67, _ => rfl
  | 68, _ => rfl
  | 69, _ => rfl
  | j + 70, hj => absurd hj (by omega)
set_option maxRecDepth 20000 in
set_option maxHeartbeats 4000000 in
theorem nX6_empty (l : Launch) {D : va_G} {tI tJ tB tS : ClassId}  (h0 b0 b1 b2 b3 b4 b5 b6 : Nat) : CtK l yX6_empty cX6_empty 1 0 0 0 0 D [(tI, .int), (tJ, .long), (tB, .byte), (tS, .object "LoafStreet$Stand")] [.ref h0] [(h0, .inr (6, [.int 0, .int 0, .int 0, .int 0, .int 0, .int 0, .int 0, .int 0, .ref b0, .ref b1, .ref b2, .ref b3, .ref b4, .ref b5, .ref b6]))] (fun u => [(h0, .inr (6, [.int (0), .int (0), .int (4), .int (5), .int (5), .int (0), .int (0), .int (0), .ref b0, .ref b1, .ref b2, .ref b3, .ref b4, .ref b5, .ref b6]))]) := by
  refine k_met false (by decide) (fun h => absurd h (by decide)) (Nat.le_of_ble_eq_true rfl) rfl (fun X _ hX hRm hR => ?_)
  refine k_aload_n hX 0 dX6_empty_0 rfl rfl ?_
  refine k_iconst hX (0) dX6_empty_1 (by decide) ?_
  refine k_put (ws' := [(h0, .inr (6, [.int (0), .int 0, .int 0, .int 0, .int 0, .int 0, .int 0, .int 0, .ref b0, .ref b1, .ref b2, .ref b3, .ref b4, .ref b5, .ref b6]))]) hX 0 rfl hinX6 tyX6_ok nmX6 rfl 0 (by decide) lkX6_37 rfl (Or.inl rfl) (ty := .int) (by decide +kernel) rfl rfl (Nat.le_of_ble_eq_true rfl) rfl dX6_empty_2 ?_
  refine k_aload_n hX 0 dX6_empty_5 rfl rfl ?_
  refine k_iconst hX (0) dX6_empty_6 (by decide) ?_
  refine k_put (ws' := [(h0, .inr (6, [.int (0), .int (0), .int 0, .int 0, .int 0, .int 0, .int 0, .int 0, .ref b0, .ref b1, .ref b2, .ref b3, .ref b4, .ref b5, .ref b6]))]) hX 0 rfl hinX6 tyX6_ok nmX6 rfl 1 (by decide) lkX6_41 rfl (Or.inl rfl) (ty := .int) (by decide +kernel) rfl rfl (Nat.le_of_ble_eq_true rfl) rfl dX6_empty_7 ?_
  refine k_aload_n hX 0 dX6_empty_10 rfl rfl ?_
  refine k_iconst hX (4) dX6_empty_11 (by decide) ?_
  refine k_put (ws' := [(h0, .inr (6, [.int (0), .int (0), .int (4), .int 0, .int 0, .int 0, .int 0, .int 0, .ref b0, .ref b1, .ref b2, .ref b3, .ref b4, .ref b5, .ref b6]))]) hX 0 rfl hinX6 tyX6_ok nmX6 rfl 2 (by decide) lkX6_44 rfl (Or.inl rfl) (ty := .int) (by decide +kernel) rfl rfl (Nat.le_of_ble_eq_true rfl) rfl dX6_empty_12 ?_
  refine k_aload_n hX 0 dX6_empty_15 rfl rfl ?_
  refine k_iconst hX (5) dX6_empty_16 (by decide) ?_
  refine k_put (ws' := [(h0, .inr (6, [.int (0), .int (0), .int (4), .int (5), .int 0, .int 0, .int 0, .int 0, .ref b0, .ref b1, .ref b2, .ref b3, .ref b4, .ref b5, .ref b6]))]) hX 0 rfl hinX6 tyX6_ok nmX6 rfl 3 (by decide) lkX6_47 rfl (Or.inl rfl) (ty := .int) (by decide +kernel) rfl rfl (Nat.le_of_ble_eq_true rfl) rfl dX6_empty_17 ?_
  refine k_aload_n hX 0 dX6_empty_20 rfl rfl ?_
  refine k_iconst hX (5) dX6_empty_21 (by decide) ?_
  refine k_put (ws' := [(h0, .inr (6, [.int (0), .int (0), .int (4), .int (5), .int (5), .int 0, .int 0, .int 0, .ref b0, .ref b1, .ref b2, .ref b3, .ref b4, .ref b5, .ref b6]))]) hX 0 rfl hinX6 tyX6_ok nmX6 rfl 4 (by decide) lkX6_50 rfl (Or.inl rfl) (ty := .int) (by decide +kernel) rfl rfl (Nat.le_of_ble_eq_true rfl) rfl dX6_empty_22 ?_
  refine k_aload_n hX 0 dX6_empty_25 rfl rfl ?_
  refine k_iconst hX (0) dX6_empty_26 (by decide) ?_
  refine k_put (ws' := [(h0, .inr (6, [.int (0), .int (0), .int (4), .int (5), .int (5), .int (0), .int 0, .int 0, .ref b0, .ref b1, .ref b2, .ref b3, .ref b4, .ref b5, .ref b6]))]) hX 0 rfl hinX6 tyX6_ok nmX6 rfl 5 (by decide) lkX6_53 rfl (Or.inl rfl) (ty := .int) (by decide +kernel) rfl rfl (Nat.le_of_ble_eq_true rfl) rfl dX6_empty_27 ?_
  refine k_aload_n hX 0 dX6_empty_30 rfl rfl ?_
  refine k_iconst hX (0) dX6_empty_31 (by decide) ?_
  refine k_put (ws' := [(h0, .inr (6, [.int (0), .int (0), .int (4), .int (5), .int (5), .int (0), .int (0), .int 0, .ref b0, .ref b1, .ref b2, .ref b3, .ref b4, .ref b5, .ref b6]))]) hX 0 rfl hinX6 tyX6_ok nmX6 rfl 6 (by decide) lkX6_56 rfl (Or.inl rfl) (ty := .int) (by decide +kernel) rfl rfl (Nat.le_of_ble_eq_true rfl) rfl dX6_empty_32 ?_
  refine k_aload_n hX 0 dX6_empty_35 rfl rfl ?_
  refine k_iconst hX (0) dX6_empty_36 (by decide) ?_
  refine k_put (ws' := [(h0, .inr (6, [.int (0), .int (0), .int (4), .int (5), .int (5), .int (0), .int (0), .int (0), .ref b0, .ref b1, .ref b2, .ref b3, .ref b4, .ref b5, .ref b6]))]) hX 0 rfl hinX6 tyX6_ok nmX6 rfl 7 (by decide) lkX6_59 rfl (Or.inl rfl) (ty := .int) (by decide +kernel) rfl rfl (Nat.le_of_ble_eq_true rfl) rfl dX6_empty_37 ?_
  exact hR (fun i => [].getD i 0) _ _ dX6_empty_40
set_option maxRecDepth 20000 in
set_option maxHeartbeats 4000000 in
theorem nX6_init (l : Launch) {D : va_G} {tI tJ tB tS : ClassId}  (h0 : Nat) : CtK l yX6_init cX6_init 1 1 20 7 68 D [(tI, .int), (tJ, .long), (tB, .byte), (tS, .object "LoafStreet$Stand")] [.ref h0] [(h0, .inr (6, [.int 0, .int 0, .int 0, .int 0, .int 0, .int 0, .int 0, .int 0, .null, .null, .null, .null, .null, .null, .null]))] (fun u => [((u 0), .inl (tJ, 4, .inr (.inl (fun _ => 0)))), ((u 1), .inl (tI, 4, .inl (fun _ => 0))), ((u 2), .inl (tI, 12, .inl (fun _ => 0))), ((u 3), .inl (tI, 12, .inl (fun _ => 0))), ((u 4), .inl (tI, 12, .inl (fun _ => 0))), ((u 5), .inl (tI, 12, .inl (fun _ => 0))), ((u 6), .inl (tI, 12, .inl (fun _ => 0))), (h0, .inr (6, [.int (0), .int (0), .int (4), .int (5), .int (5), .int (0), .int (0), .int (0), .ref (u 0), .ref (u 1), .ref (u 2), .ref (u 3), .ref (u 4), .ref (u 5), .ref (u 6)]))]) := by
  refine k_met true (by decide) (fun h => rfl) (Nat.le_of_ble_eq_true rfl) rfl (fun X _ hX hRm hR => ?_)
  refine k_aload_n hX 0 dX6_init_0 rfl rfl ?_
  refine k_objInit hX lkX6_3 (by decide) (by decide) (Nat.le_of_ble_eq_true rfl) dX6_init_1 ?_
  refine k_aload_n hX 0 dX6_init_4 rfl rfl ?_
  refine k_iconst hX (4) dX6_init_5 (by decide) ?_
  refine k_newa hX .long (ty := .long) (N := 4) (t0 := 1) (a0 := (4, .inr (.inl (fun _ => 0)))) rfl rfl rfl acl_long (fun cA => rfl) (by decide) (by decide) (by decide) (by rw [hRm]; exact Nat.le_of_ble_eq_true rfl) (by rw [hRm]; exact Nat.le_of_ble_eq_true rfl) dX6_init_6 (fun q1 => ?_)
  show GK X D 1 [(h0, .inr (6, [.int 0, .int 0, .int 0, .int 0, .int 0, .int 0, .int 0, .int 0, .null, .null, .null, .null, .null, .null, .null])), (q1, .inl (tJ, 4, .inr (.inl (fun _ => 0))))] 1 4 8 [(0, .ref h0)] [.ref q1, .ref h0]
  refine k_put (ws' := [(h0, .inr (6, [.int 0, .int 0, .int 0, .int 0, .int 0, .int 0, .int 0, .int 0, .ref q1, .null, .null, .null, .null, .null, .null])), (q1, .inl (tJ, 4, .inr (.inl (fun _ => 0))))]) hX 0 rfl hinX6 tyX6_ok nmX6 rfl 8 (by decide) lkX6_9 rfl (Or.inr ⟨rfl, rfl, rfl⟩) (ty := .array .long) (by decide +kernel) rfl rfl (Nat.le_of_ble_eq_true rfl) rfl dX6_init_8 ?_
  refine k_aload_n hX 0 dX6_init_11 rfl rfl ?_
  refine k_iconst hX (4) dX6_init_12 (by decide) ?_
  refine k_newa hX .int (ty := .int) (N := 4) (t0 := 0) (a0 := (4, .inl (fun _ => 0))) rfl rfl rfl acl_int (fun cA => rfl) (by decide) (by decide) (by decide) (by rw [hRm]; exact Nat.le_of_ble_eq_true rfl) (by rw [hRm]; exact Nat.le_of_ble_eq_true rfl) dX6_init_13 (fun q2 => ?_)
  show GK X D 1 [(h0, .inr (6, [.int 0, .int 0, .int 0, .int 0, .int 0, .int 0, .int 0, .int 0, .ref q1, .null, .null, .null, .null, .null, .null])), (q1, .inl (tJ, 4, .inr (.inl (fun _ => 0)))), (q2, .inl (tI, 4, .inl (fun _ => 0)))] 2 8 15 [(0, .ref h0)] [.ref q2, .ref h0]
  refine k_put (ws' := [(h0, .inr (6, [.int 0, .int 0, .int 0, .int 0, .int 0, .int 0, .int 0, .int 0, .ref q1, .ref q2, .null, .null, .null, .null, .null])), (q1, .inl (tJ, 4, .inr (.inl (fun _ => 0)))), (q2, .inl (tI, 4, .inl (fun _ => 0)))]) hX 0 rfl hinX6 tyX6_ok nmX6 rfl 9 (by decide) lkX6_15 rfl (Or.inr ⟨rfl, rfl, rfl⟩) (ty := .array .int) (by decide +kernel) rfl rfl (Nat.le_of_ble_eq_true rfl) rfl dX6_init_15 ?_
  refine k_aload_n hX 0 dX6_init_18 rfl rfl ?_
  refine k_bipush hX (12) dX6_init_19 (by decide) ?_
  refine k_newa hX .int (ty := .int) (N := 12) (t0 := 0) (a0 := (12, .inl (fun _ => 0))) rfl rfl rfl acl_int (fun cA => rfl) (by decide) (by decide) (by decide) (by rw [hRm]; exact Nat.le_of_ble_eq_true rfl) (by rw [hRm]; exact Nat.le_of_ble_eq_true rfl) dX6_init_21 (fun q3 => ?_)
  show GK X D 1 [(h0, .inr (6, [.int 0, .int 0, .int 0, .int 0, .int 0, .int 0, .int 0, .int 0, .ref q1, .ref q2, .null, .null, .null, .null, .null])), (q1, .inl (tJ, 4, .inr (.inl (fun _ => 0)))), (q2, .inl (tI, 4, .inl (fun _ => 0))), (q3, .inl (tI, 12, .inl (fun _ => 0)))] 3 20 23 [(0, .ref h0)] [.ref q3, .ref h0]
  refine k_put (ws' := [(h0, .inr (6, [.int 0, .int 0, .int 0, .int 0, .int 0, .int 0, .int 0, .int 0, .ref q1, .ref q2, .ref q3, .null, .null, .null, .null])), (q1, .inl (tJ, 4, .inr (.inl (fun _ => 0)))), (q2, .inl (tI, 4, .inl (fun _ => 0))), (q3, .inl (tI, 12, .inl (fun _ => 0)))]) hX 0 rfl hinX6 tyX6_ok nmX6 rfl 10 (by decide) lkX6_19 rfl (Or.inr ⟨rfl, rfl, rfl⟩) (ty := .array .int) (by decide +kernel) rfl rfl (Nat.le_of_ble_eq_true rfl) rfl dX6_init_23 ?_
  refine k_aload_n hX 0 dX6_init_26 rfl rfl ?_
  refine k_bipush hX (12) dX6_init_27 (by decide) ?_
  refine k_newa hX .int (ty := .int) (N := 12) (t0 := 0) (a0 := (12, .inl (fun _ => 0))) rfl rfl rfl acl_int (fun cA => rfl) (by decide) (by decide) (by decide) (by rw [hRm]; exact Nat.le_of_ble_eq_true rfl) (by rw [hRm]; exact Nat.le_of_ble_eq_true rfl) dX6_init_29 (fun q4 => ?_)
  show GK X D 1 [(h0, .inr (6, [.int 0, .int 0, .int 0, .int 0, .int 0, .int 0, .int 0, .int 0, .ref q1, .ref q2, .ref q3, .null, .null, .null, .null])), (q1, .inl (tJ, 4, .inr (.inl (fun _ => 0)))), (q2, .inl (tI, 4, .inl (fun _ => 0))), (q3, .inl (tI, 12, .inl (fun _ => 0))), (q4, .inl (tI, 12, .inl (fun _ => 0)))] 4 32 31 [(0, .ref h0)] [.ref q4, .ref h0]
  refine k_put (ws' := [(h0, .inr (6, [.int 0, .int 0, .int 0, .int 0, .int 0, .int 0, .int 0, .int 0, .ref q1, .ref q2, .ref q3, .ref q4, .null, .null, .null])), (q1, .inl (tJ, 4, .inr (.inl (fun _ => 0)))), (q2, .inl (tI, 4, .inl (fun _ => 0))), (q3, .inl (tI, 12, .inl (fun _ => 0))), (q4, .inl (tI, 12, .inl (fun _ => 0)))]) hX 0 rfl hinX6 tyX6_ok nmX6 rfl 11 (by decide) lkX6_22 rfl (Or.inr ⟨rfl, rfl, rfl⟩) (ty := .array .int) (by decide +kernel) rfl rfl (Nat.le_of_ble_eq_true rfl) rfl dX6_init_31 ?_
  refine k_aload_n hX 0 dX6_init_34 rfl rfl ?_
  refine k_bipush hX (12) dX6_init_35 (by decide) ?_
  refine k_newa hX .int (ty := .int) (N := 12) (t0 := 0) (a0 := (12, .inl (fun _ => 0))) rfl rfl rfl acl_int (fun cA => rfl) (by decide) (by decide) (by decide) (by rw [hRm]; exact Nat.le_of_ble_eq_true rfl) (by rw [hRm]; exact Nat.le_of_ble_eq_true rfl) dX6_init_37 (fun q5 => ?_)
  show GK X D 1 [(h0, .inr (6, [.int 0, .int 0, .int 0, .int 0, .int 0, .int 0, .int 0, .int 0, .ref q1, .ref q2, .ref q3, .ref q4, .null, .null, .null])), (q1, .inl (tJ, 4, .inr (.inl (fun _ => 0)))), (q2, .inl (tI, 4, .inl (fun _ => 0))), (q3, .inl (tI, 12, .inl (fun _ => 0))), (q4, .inl (tI, 12, .inl (fun _ => 0))), (q5, .inl (tI, 12, .inl (fun _ => 0)))] 5 44 39 [(0, .ref h0)] [.ref q5, .ref h0]
  refine k_put (ws' := [(h0, .inr (6, [.int 0, .int 0, .int 0, .int 0, .int 0, .int 0, .int 0, .int 0, .ref q1, .ref q2, .ref q3, .ref q4, .ref q5, .null, .null])), (q1, .inl (tJ, 4, .inr (.inl (fun _ => 0)))), (q2, .inl (tI, 4, .inl (fun _ => 0))), (q3, .inl (tI, 12, .inl (fun _ => 0))), (q4, .inl (tI, 12, .inl (fun _ => 0))), (q5, .inl (tI, 12, .inl (fun _ => 0)))]) hX 0 rfl hinX6 tyX6_ok nmX6 rfl 12 (by decide) lkX6_25 rfl (Or.inr ⟨rfl, rfl, rfl⟩) (ty := .array .int) (by decide +kernel) rfl rfl (Nat.le_of_ble_eq_true rfl) rfl dX6_init_39 ?_
  refine k_aload_n hX 0 dX6_init_42 rfl rfl ?_
  refine k_bipush hX (12) dX6_init_43 (by decide) ?_
  refine k_newa hX .int (ty := .int) (N := 12) (t0 := 0) (a0 := (12, .inl (fun _ => 0))) rfl rfl rfl acl_int (fun cA => rfl) (by decide) (by decide) (by decide) (by rw [hRm]; exact Nat.le_of_ble_eq_true rfl) (by rw [hRm]; exact Nat.le_of_ble_eq_true rfl) dX6_init_45 (fun q6 => ?_)
  show GK X D 1 [(h0, .inr (6, [.int 0, .int 0, .int 0, .int 0, .int 0, .int 0, .int 0, .int 0, .ref q1, .ref q2, .ref q3, .ref q4, .ref q5, .null, .null])), (q1, .inl (tJ, 4, .inr (.inl (fun _ => 0)))), (q2, .inl (tI, 4, .inl (fun _ => 0))), (q3, .inl (tI, 12, .inl (fun _ => 0))), (q4, .inl (tI, 12, .inl (fun _ => 0))), (q5, .inl (tI, 12, .inl (fun _ => 0))), (q6, .inl (tI, 12, .inl (fun _ => 0)))] 6 56 47 [(0, .ref h0)] [.ref q6, .ref h0]
  refine k_put (ws' := [(h0, .inr (6, [.int 0, .int 0, .int 0, .int 0, .int 0, .int 0, .int 0, .int 0, .ref q1, .ref q2, .ref q3, .ref q4, .ref q5, .ref q6, .null])), (q1, .inl (tJ, 4, .inr (.inl (fun _ => 0)))), (q2, .inl (tI, 4, .inl (fun _ => 0))), (q3, .inl (tI, 12, .inl (fun _ => 0))), (q4, .inl (tI, 12, .inl (fun _ => 0))), (q5, .inl (tI, 12, .inl (fun _ => 0))), (q6, .inl (tI, 12, .inl (fun _ => 0)))]) hX 0 rfl hinX6 tyX6_ok nmX6 rfl 13 (by decide) lkX6_28 rfl (Or.inr ⟨rfl, rfl, rfl⟩) (ty := .array .int) (by decide +kernel) rfl rfl (Nat.le_of_ble_eq_true rfl) rfl dX6_init_47 ?_
  refine k_aload_n hX 0 dX6_init_50 rfl rfl ?_
  refine k_bipush hX (12) dX6_init_51 (by decide) ?_
  refine k_newa hX .int (ty := .int) (N := 12) (t0 := 0) (a0 := (12, .inl (fun _ => 0))) rfl rfl rfl acl_int (fun cA => rfl) (by decide) (by decide) (by decide) (by rw [hRm]; exact Nat.le_of_ble_eq_true rfl) (by rw [hRm]; exact Nat.le_of_ble_eq_true rfl) dX6_init_53 (fun q7 => ?_)
  show GK X D 1 [(h0, .inr (6, [.int 0, .int 0, .int 0, .int 0, .int 0, .int 0, .int 0, .int 0, .ref q1, .ref q2, .ref q3, .ref q4, .ref q5, .ref q6, .null])), (q1, .inl (tJ, 4, .inr (.inl (fun _ => 0)))), (q2, .inl (tI, 4, .inl (fun _ => 0))), (q3, .inl (tI, 12, .inl (fun _ => 0))), (q4, .inl (tI, 12, .inl (fun _ => 0))), (q5, .inl (tI, 12, .inl (fun _ => 0))), (q6, .inl (tI, 12, .inl (fun _ => 0))), (q7, .inl (tI, 12, .inl (fun _ => 0)))] 7 68 55 [(0, .ref h0)] [.ref q7, .ref h0]
  refine k_put (ws' := [(h0, .inr (6, [.int 0, .int 0, .int 0, .int 0, .int 0, .int 0, .int 0, .int 0, .ref q1, .ref q2, .ref q3, .ref q4, .ref q5, .ref q6, .ref q7])), (q1, .inl (tJ, 4, .inr (.inl (fun _ => 0)))), (q2, .inl (tI, 4, .inl (fun _ => 0))), (q3, .inl (tI, 12, .inl (fun _ => 0))), (q4, .inl (tI, 12, .inl (fun _ => 0))), (q5, .inl (tI, 12, .inl (fun _ => 0))), (q6, .inl (tI, 12, .inl (fun _ => 0))), (q7, .inl (tI, 12, .inl (fun _ => 0)))]) hX 0 rfl hinX6 tyX6_ok nmX6 rfl 14 (by decide) lkX6_31 rfl (Or.inr ⟨rfl, rfl, rfl⟩) (ty := .array .int) (by decide +kernel) rfl rfl (Nat.le_of_ble_eq_true rfl) rfl dX6_init_55 ?_
  refine k_aload_n hX 0 dX6_init_58 rfl rfl ?_
  refine k_callV (As := []) (rest := []) (wr := [(q1, .inl (tJ, 4, .inr (.inl (fun _ => 0)))), (q2, .inl (tI, 4, .inl (fun _ => 0))), (q3, .inl (tI, 12, .inl (fun _ => 0))), (q4, .inl (tI, 12, .inl (fun _ => 0))), (q5, .inl (tI, 12, .inl (fun _ => 0))), (q6, .inl (tI, 12, .inl (fun _ => 0))), (q7, .inl (tI, 12, .inl (fun _ => 0)))]) hX [0] [1, 2, 3, 4, 5, 6, 7] (nX6_empty (Xl X) (h0) (q1) (q2) (q3) (q4) (q5) (q6) (q7)) miX6_empty 0 mvX6_empty rfl rfl lkX6_34 (by decide) rfl (Nat.le_of_ble_eq_true rfl) rfl rfl rfl rfl rfl rfl (by decide) ⟨(by rw [hRm]; exact Nat.le_of_ble_eq_true rfl), (by rw [hRm]; exact Nat.le_of_ble_eq_true rfl)⟩ dX6_init_59 (fun u8 => ?_)
  show GK X D 1 [(q1, .inl (tJ, 4, .inr (.inl (fun _ => 0)))), (q2, .inl (tI, 4, .inl (fun _ => 0))), (q3, .inl (tI, 12, .inl (fun _ => 0))), (q4, .inl (tI, 12, .inl (fun _ => 0))), (q5, .inl (tI, 12, .inl (fun _ => 0))), (q6, .inl (tI, 12, .inl (fun _ => 0))), (q7, .inl (tI, 12, .inl (fun _ => 0))), (h0, .inr (6, [.int (0), .int (0), .int (4), .int (5), .int (5), .int (0), .int (0), .int (0), .ref q1, .ref q2, .ref q3, .ref q4, .ref q5, .ref q6, .ref q7]))] 7 68 62 [(0, .ref h0)] []
  exact hR (fun i => [q1, q2, q3, q4, q5, q6, q7].getD i 0) _ _ dX6_init_62
set_option maxRecDepth 20000 in
set_option maxHeartbeats 4000000 in
theorem nX5_init (l : Launch) {D : va_G} {tI tJ tB tS : ClassId}  (h0 : Nat) : CtK l yX5_init cX5_init 1 1 20 3 40 D [(tI, .int), (tJ, .long), (tB, .byte), (tS, .object "LoafStreet$Stand")] [.ref h0] [(h0, .inr (5, [.null, .null, .null, .int 0, .int 0]))] (fun u => [(h0, .inr (5, [.ref (u 0), .ref (u 1), .ref (u 2), .int (0), .int (-1)])), ((u 0), .inl (tI, 4, .inl (fun _ => 0))), ((u 1), .inl (tI, 32, .inl (fun _ => 0))), ((u 2), .inl (tI, 4, .inl (fun _ => 0)))]) := by
  refine k_met true (by decide) (fun h => rfl) (Nat.le_of_ble_eq_true rfl) rfl (fun X _ hX hRm hR => ?_)
  refine k_aload_n hX 0 dX5_init_0 rfl rfl ?_
  refine k_objInit hX lkX5_3 (by decide) (by decide) (Nat.le_of_ble_eq_true rfl) dX5_init_1 ?_
  refine k_aload_n hX 0 dX5_init_4 rfl rfl ?_
  refine k_iconst hX (4) dX5_init_5 (by decide) ?_
  refine k_newa hX .int (ty := .int) (N := 4) (t0 := 0) (a0 := (4, .inl (fun _ => 0))) rfl rfl rfl acl_int (fun cA => rfl) (by decide) (by decide) (by decide) (by rw [hRm]; exact Nat.le_of_ble_eq_true rfl) (by rw [hRm]; exact Nat.le_of_ble_eq_true rfl) dX5_init_6 (fun q1 => ?_)
  show GK X D 1 [(h0, .inr (5, [.null, .null, .null, .int 0, .int 0])), (q1, .inl (tI, 4, .inl (fun _ => 0)))] 1 4 8 [(0, .ref h0)] [.ref q1, .ref h0]
  refine k_put (ws' := [(h0, .inr (5, [.ref q1, .null, .null, .int 0, .int 0])), (q1, .inl (tI, 4, .inl (fun _ => 0)))]) hX 0 rfl hinX5 tyX5_ok nmX5 rfl 0 (by decide) lkX5_9 rfl (Or.inr ⟨rfl, rfl, rfl⟩) (ty := .array .int) (by decide +kernel) rfl rfl (Nat.le_of_ble_eq_true rfl) rfl dX5_init_8 ?_
  refine k_aload_n hX 0 dX5_init_11 rfl rfl ?_
  refine k_bipush hX (32) dX5_init_12 (by decide) ?_
  refine k_newa hX .int (ty := .int) (N := 32) (t0 := 0) (a0 := (32, .inl (fun _ => 0))) rfl rfl rfl acl_int (fun cA => rfl) (by decide) (by decide) (by decide) (by rw [hRm]; exact Nat.le_of_ble_eq_true rfl) (by rw [hRm]; exact Nat.le_of_ble_eq_true rfl) dX5_init_14 (fun q2 => ?_)
  show GK X D 1 [(h0, .inr (5, [.ref q1, .null, .null, .int 0, .int 0])), (q1, .inl (tI, 4, .inl (fun _ => 0))), (q2, .inl (tI, 32, .inl (fun _ => 0)))] 2 36 16 [(0, .ref h0)] [.ref q2, .ref h0]
  refine k_put (ws' := [(h0, .inr (5, [.ref q1, .ref q2, .null, .int 0, .int 0])), (q1, .inl (tI, 4, .inl (fun _ => 0))), (q2, .inl (tI, 32, .inl (fun _ => 0)))]) hX 0 rfl hinX5 tyX5_ok nmX5 rfl 1 (by decide) lkX5_15 rfl (Or.inr ⟨rfl, rfl, rfl⟩) (ty := .array .int) (by decide +kernel) rfl rfl (Nat.le_of_ble_eq_true rfl) rfl dX5_init_16 ?_
  refine k_aload_n hX 0 dX5_init_19 rfl rfl ?_
  refine k_iconst hX (4) dX5_init_20 (by decide) ?_
  refine k_newa hX .int (ty := .int) (N := 4) (t0 := 0) (a0 := (4, .inl (fun _ => 0))) rfl rfl rfl acl_int (fun cA => rfl) (by decide) (by decide) (by decide) (by rw [hRm]; exact Nat.le_of_ble_eq_true rfl) (by rw [hRm]; exact Nat.le_of_ble_eq_true rfl) dX5_init_21 (fun q3 => ?_)
  show GK X D 1 [(h0, .inr (5, [.ref q1, .ref q2, .null, .int 0, .int 0])), (q1, .inl (tI, 4, .inl (fun _ => 0))), (q2, .inl (tI, 32, .inl (fun _ => 0))), (q3, .inl (tI, 4, .inl (fun _ => 0)))] 3 40 23 [(0, .ref h0)] [.ref q3, .ref h0]
  refine k_put (ws' := [(h0, .inr (5, [.ref q1, .ref q2, .ref q3, .int 0, .int 0])), (q1, .inl (tI, 4, .inl (fun _ => 0))), (q2, .inl (tI, 32, .inl (fun _ => 0))), (q3, .inl (tI, 4, .inl (fun _ => 0)))]) hX 0 rfl hinX5 tyX5_ok nmX5 rfl 2 (by decide) lkX5_18 rfl (Or.inr ⟨rfl, rfl, rfl⟩) (ty := .array .int) (by decide +kernel) rfl rfl (Nat.le_of_ble_eq_true rfl) rfl dX5_init_23 ?_
  refine k_aload_n hX 0 dX5_init_26 rfl rfl ?_
  refine k_iconst hX (0) dX5_init_27 (by decide) ?_
  refine k_put (ws' := [(h0, .inr (5, [.ref q1, .ref q2, .ref q3, .int (0), .int 0])), (q1, .inl (tI, 4, .inl (fun _ => 0))), (q2, .inl (tI, 32, .inl (fun _ => 0))), (q3, .inl (tI, 4, .inl (fun _ => 0)))]) hX 0 rfl hinX5 tyX5_ok nmX5 rfl 3 (by decide) lkX5_21 rfl (Or.inl rfl) (ty := .int) (by decide +kernel) rfl rfl (Nat.le_of_ble_eq_true rfl) rfl dX5_init_28 ?_
  refine k_aload_n hX 0 dX5_init_31 rfl rfl ?_
  refine k_iconst hX (-1) dX5_init_32 (by decide) ?_
  refine k_put (ws' := [(h0, .inr (5, [.ref q1, .ref q2, .ref q3, .int (0), .int (-1)])), (q1, .inl (tI, 4, .inl (fun _ => 0))), (q2, .inl (tI, 32, .inl (fun _ => 0))), (q3, .inl (tI, 4, .inl (fun _ => 0)))]) hX 0 rfl hinX5 tyX5_ok nmX5 rfl 4 (by decide) lkX5_25 rfl (Or.inl rfl) (ty := .int) (by decide +kernel) rfl rfl (Nat.le_of_ble_eq_true rfl) rfl dX5_init_33 ?_
  exact hR (fun i => [q1, q2, q3].getD i 0) _ _ dX5_init_36
set_option maxRecDepth 20000 in
set_option maxHeartbeats 4000000 in
theorem nX2_init (l : Launch) {D : va_G} {tI tJ tB tS : ClassId}  (h0 : Nat) : CtK l yX2_init cX2_init 1 1 20 2 12 D [(tI, .int), (tJ, .long), (tB, .byte), (tS, .object "LoafStreet$Stand")] [.ref h0] [(h0, .inr (2, [.int 0, .null, .null]))] (fun u => [(h0, .inr (2, [.int (0), .ref (u 0), .ref (u 1)])), ((u 0), .inl (tI, 6, .inl (fun _ => 0))), ((u 1), .inl (tI, 6, .inl (fun _ => 0)))]) := by
  refine k_met true (by decide) (fun h => rfl) (Nat.le_of_ble_eq_true rfl) rfl (fun X _ hX hRm hR => ?_)
  refine k_aload_n hX 0 dX2_init_0 rfl rfl ?_
  refine k_objInit hX lkX2_3 (by decide) (by decide) (Nat.le_of_ble_eq_true rfl) dX2_init_1 ?_
  refine k_aload_n hX 0 dX2_init_4 rfl rfl ?_
  refine k_iconst hX (0) dX2_init_5 (by decide) ?_
  refine k_put (ws' := [(h0, .inr (2, [.int (0), .null, .null]))]) hX 0 rfl hinX2 tyX2_ok nmX2 rfl 0 (by decide) lkX2_9 rfl (Or.inl rfl) (ty := .int) (by decide +kernel) rfl rfl (Nat.le_of_ble_eq_true rfl) rfl dX2_init_6 ?_
  refine k_aload_n hX 0 dX2_init_9 rfl rfl ?_
  refine k_bipush hX (6) dX2_init_10 (by decide) ?_
  refine k_newa hX .int (ty := .int) (N := 6) (t0 := 0) (a0 := (6, .inl (fun _ => 0))) rfl rfl rfl acl_int (fun cA => rfl) (by decide) (by decide) (by decide) (by rw [hRm]; exact Nat.le_of_ble_eq_true rfl) (by rw [hRm]; exact Nat.le_of_ble_eq_true rfl) dX2_init_12 (fun q1 => ?_)
  show GK X D 1 [(h0, .inr (2, [.int (0), .null, .null])), (q1, .inl (tI, 6, .inl (fun _ => 0)))] 1 6 14 [(0, .ref h0)] [.ref q1, .ref h0]
  refine k_put (ws' := [(h0, .inr (2, [.int (0), .ref q1, .null])), (q1, .inl (tI, 6, .inl (fun _ => 0)))]) hX 0 rfl hinX2 tyX2_ok nmX2 rfl 1 (by decide) lkX2_15 rfl (Or.inr ⟨rfl, rfl, rfl⟩) (ty := .array .int) (by decide +kernel) rfl rfl (Nat.le_of_ble_eq_true rfl) rfl dX2_init_14 ?_
  refine k_aload_n hX 0 dX2_init_17 rfl rfl ?_
  refine k_bipush hX (6) dX2_init_18 (by decide) ?_
  refine k_newa hX .int (ty := .int) (N := 6) (t0 := 0) (a0 := (6, .inl (fun _ => 0))) rfl rfl rfl acl_int (fun cA => rfl) (by decide) (by decide) (by decide) (by rw [hRm]; exact Nat.le_of_ble_eq_true rfl) (by rw [hRm]; exact Nat.le_of_ble_eq_true rfl) dX2_init_20 (fun q2 => ?_)
  show GK X D 1 [(h0, .inr (2, [.int (0), .ref q1, .null])), (q1, .inl (tI, 6, .inl (fun _ => 0))), (q2, .inl (tI, 6, .inl (fun _ => 0)))] 2 12 22 [(0, .ref h0)] [.ref q2, .ref h0]
  refine k_put (ws' := [(h0, .inr (2, [.int (0), .ref q1, .ref q2])), (q1, .inl (tI, 6, .inl (fun _ => 0))), (q2, .inl (tI, 6, .inl (fun _ => 0)))]) hX 0 rfl hinX2 tyX2_ok nmX2 rfl 2 (by decide) lkX2_19 rfl (Or.inr ⟨rfl, rfl, rfl⟩) (ty := .array .int) (by decide +kernel) rfl rfl (Nat.le_of_ble_eq_true rfl) rfl dX2_init_22 ?_
  exact hR (fun i => [q1, q2].getD i 0) _ _ dX2_init_25
set_option maxRecDepth 20000 in
set_option maxHeartbeats 4000000 in
theorem nX3_init (l : Launch) {D : va_G} {tI tJ tB tS : ClassId}  (h0 : Nat) (a1 : Nat) (a2 : Nat) : CtK l yX3_init cX3_init 3 1 20 0 0 D [(tI, .int), (tJ, .long), (tB, .byte), (tS, .object "LoafStreet$Stand")] [.ref h0, .ref a1, .ref a2] [(h0, .inr (3, [.null, .null, .int 0, .int 0, .int 0, .int 0, .int 0, .int 0, .long 0]))] (fun u => [(h0, .inr (3, [.ref a1, .ref a2, .int 0, .int 0, .int 0, .int 0, .int 0, .int 0, .long 0]))]) := by
  refine k_met true (by decide) (fun h => rfl) (Nat.le_of_ble_eq_true rfl) rfl (fun X _ hX hRm hR => ?_)
  refine k_aload_n hX 0 dX3_init_0 rfl rfl ?_
  refine k_objInit hX lkX3_3 (by decide) (by decide) (Nat.le_of_ble_eq_true rfl) dX3_init_1 ?_
  refine k_aload_n hX 0 dX3_init_4 rfl rfl ?_
  refine k_aload_n hX 1 dX3_init_5 rfl rfl ?_
  refine k_put (ws' := [(h0, .inr (3, [.ref a1, .null, .int 0, .int 0, .int 0, .int 0, .int 0, .int 0, .long 0]))]) hX 0 rfl hinX3 tyX3_ok nmX3 rfl 0 (by decide) lkX3_9 rfl (Or.inr ⟨rfl, rfl, rfl⟩) (ty := .array .byte) (by decide +kernel) rfl rfl (Nat.le_of_ble_eq_true rfl) rfl dX3_init_6 ?_
  refine k_aload_n hX 0 dX3_init_9 rfl rfl ?_
  refine k_aload_n hX 2 dX3_init_10 rfl rfl ?_
  refine k_put (ws' := [(h0, .inr (3, [.ref a1, .ref a2, .int 0, .int 0, .int 0, .int 0, .int 0, .int 0, .long 0]))]) hX 0 rfl hinX3 tyX3_ok nmX3 rfl 1 (by decide) lkX3_15 rfl (Or.inr ⟨rfl, rfl, rfl⟩) (ty := .object "LoafStreet$Street") (by decide +kernel) rfl rfl (Nat.le_of_ble_eq_true rfl) rfl dX3_init_11 ?_
  exact hR (fun i => [].getD i 0) _ _ dX3_init_14
set_option maxRecDepth 20000 in
set_option maxHeartbeats 4000000 in
theorem nX7_init (l : Launch) {D : va_G} {tI tJ tB tS : ClassId}  (h0 : Nat) (a1 : Nat) (a2 : Nat) (a3 : Nat) : CtK l yX7_init cX7_init 4 1 20 9 228 D [(tI, .int), (tJ, .long), (tB, .byte), (tS, .object "LoafStreet$Stand")] [.ref h0, .ref a1, .ref a2, .ref a3] [(h0, .inr (7, [.null, .null, .null, .null, .null, .null, .null, .null, .null, .null, .null, .null, .long 0, .long 0, .int 0, .int 0, .int 0]))] (fun u => [(h0, .inr (7, [.ref a1, .ref a2, .ref a3, .ref (u 0), .ref (u 1), .ref (u 2), .ref (u 3), .ref (u 4), .ref (u 5), .ref (u 6), .ref (u 7), .ref (u 8), .long (0), .long (0), .int (0), .int (0), .int (-1)])), ((u 0), .inl (tI, 128, .inl (fun _ => 0))), ((u 1), .inl (tI, 32, .inl (fun _ => 0))), ((u 2), .inl (tI, 4, .inl (fun _ => 0))), ((u 3), .inl (tI, 16, .inl (fun _ => 0))), ((u 4), .inl (tI, 16, .inl (fun _ => 0))), ((u 5), .inl (tI, 8, .inl (fun _ => 0))), ((u 6), .inl (tI, 8, .inl (fun _ => 0))), ((u 7), .inl (tJ, 8, .inr (.inl (fun _ => 0)))), ((u 8), .inl (tJ, 8, .inr (.inl (fun _ => 0))))]) := by
  refine k_met true (by decide) (fun h => rfl) (Nat.le_of_ble_eq_true rfl) rfl (fun X _ hX hRm hR => ?_)
  refine k_aload_n hX 0 dX7_init_0 rfl rfl ?_
  refine k_objInit hX lkX7_3 (by decide) (by decide) (Nat.le_of_ble_eq_true rfl) dX7_init_1 ?_
  refine k_aload_n hX 0 dX7_init_4 rfl rfl ?_
  refine k_aload_n hX 1 dX7_init_5 rfl rfl ?_
  refine k_put (ws' := [(h0, .inr (7, [.ref a1, .null, .null, .null, .null, .null, .null, .null, .null, .null, .null, .null, .long 0, .long 0, .int 0, .int 0, .int 0]))]) hX 0 rfl hinX7 tyX7_ok nmX7 rfl 0 (by decide) lkX7_9 rfl (Or.inr ⟨rfl, rfl, rfl⟩) (ty := .object "LoafStreet$Street") (by decide +kernel) rfl rfl (Nat.le_of_ble_eq_true rfl) rfl dX7_init_6 ?_
  refine k_aload_n hX 0 dX7_init_9 rfl rfl ?_
  refine k_aload_n hX 2 dX7_init_10 rfl rfl ?_
  refine k_put (ws' := [(h0, .inr (7, [.ref a1, .ref a2, .null, .null, .null, .null, .null, .null, .null, .null, .null, .null, .long 0, .long 0, .int 0, .int 0, .int 0]))]) hX 0 rfl hinX7 tyX7_ok nmX7 rfl 1 (by decide) lkX7_15 rfl (Or.inr ⟨rfl, rfl, rfl⟩) (ty := .object "LoafStreet$Stand") (by decide +kernel) rfl rfl (Nat.le_of_ble_eq_true rfl) rfl dX7_init_11 ?_
  refine k_aload_n hX 0 dX7_init_14 rfl rfl ?_
  refine k_aload_n hX 3 dX7_init_15 rfl rfl ?_
  refine k_put (ws' := [(h0, .inr (7, [.ref a1, .ref a2, .ref a3, .null, .null, .null, .null, .null, .null, .null, .null, .null, .long 0, .long 0, .int 0, .int 0, .int 0]))]) hX 0 rfl hinX7 tyX7_ok nmX7 rfl 2 (by decide) lkX7_19 rfl (Or.inr ⟨rfl, rfl, rfl⟩) (ty := .object "LoafStreet$Laws") (by decide +kernel) rfl rfl (Nat.le_of_ble_eq_true rfl) rfl dX7_init_16 ?_
  refine k_aload_n hX 0 dX7_init_19 rfl rfl ?_
  refine k_sipush hX (128) dX7_init_20 (by decide) ?_
  refine k_newa hX .int (ty := .int) (N := 128) (t0 := 0) (a0 := (128, .inl (fun _ => 0))) rfl rfl rfl acl_int (fun cA => rfl) (by decide) (by decide) (by decide) (by rw [hRm]; exact Nat.le_of_ble_eq_true rfl) (by rw [hRm]; exact Nat.le_of_ble_eq_true rfl) dX7_init_23 (fun q1 => ?_)
  show GK X D 4 [(h0, .inr (7, [.ref a1, .ref a2, .ref a3, .null, .null, .null, .null, .null, .null, .null, .null, .null, .long 0, .long 0, .int 0, .int 0, .int 0])), (q1, .inl (tI, 128, .inl (fun _ => 0)))] 1 128 25 [(0, .ref h0), (1, .ref a1), (2, .ref a2), (3, .ref a3)] [.ref q1, .ref h0]
  refine k_put (ws' := [(h0, .inr (7, [.ref a1, .ref a2, .ref a3, .ref q1, .null, .null, .null, .null, .null, .null, .null, .null, .long 0, .long 0, .int 0, .int 0, .int 0])), (q1, .inl (tI, 128, .inl (fun _ => 0)))]) hX 0 rfl hinX7 tyX7_ok nmX7 rfl 3 (by decide) lkX7_23 rfl (Or.inr ⟨rfl, rfl, rfl⟩) (ty := .array .int) (by decide +kernel) rfl rfl (Nat.le_of_ble_eq_true rfl) rfl dX7_init_25 ?_
  refine k_aload_n hX 0 dX7_init_28 rfl rfl ?_
  refine k_bipush hX (32) dX7_init_29 (by decide) ?_
  refine k_newa hX .int (ty := .int) (N := 32) (t0 := 0) (a0 := (32, .inl (fun _ => 0))) rfl rfl rfl acl_int (fun cA => rfl) (by decide) (by decide) (by decide) (by rw [hRm]; exact Nat.le_of_ble_eq_true rfl) (by rw [hRm]; exact Nat.le_of_ble_eq_true rfl) dX7_init_31 (fun q2 => ?_)
  show GK X D 4 [(h0, .inr (7, [.ref a1, .ref a2, .ref a3, .ref q1, .null, .null, .null, .null, .null, .null, .null, .null, .long 0, .long 0, .int 0, .int 0, .int 0])), (q1, .inl (tI, 128, .inl (fun _ => 0))), (q2, .inl (tI, 32, .inl (fun _ => 0)))] 2 160 33 [(0, .ref h0), (1, .ref a1), (2, .ref a2), (3, .ref a3)] [.ref q2, .ref h0]
  refine k_put (ws' := [(h0, .inr (7, [.ref a1, .ref a2, .ref a3, .ref q1, .ref q2, .null, .null, .null, .null, .null, .null, .null, .long 0, .long 0, .int 0, .int 0, .int 0])), (q1, .inl (tI, 128, .inl (fun _ => 0))), (q2, .inl (tI, 32, .inl (fun _ => 0)))]) hX 0 rfl hinX7 tyX7_ok nmX7 rfl 4 (by decide) lkX7_27 rfl (Or.inr ⟨rfl, rfl, rfl⟩) (ty := .array .int) (by decide +kernel) rfl rfl (Nat.le_of_ble_eq_true rfl) rfl dX7_init_33 ?_
  refine k_aload_n hX 0 dX7_init_36 rfl rfl ?_
  refine k_iconst hX (4) dX7_init_37 (by decide) ?_
  refine k_newa hX .int (ty := .int) (N := 4) (t0 := 0) (a0 := (4, .inl (fun _ => 0))) rfl rfl rfl acl_int (fun cA => rfl) (by decide) (by decide) (by decide) (by rw [hRm]; exact Nat.le_of_ble_eq_true rfl) (by rw [hRm]; exact Nat.le_of_ble_eq_true rfl) dX7_init_38 (fun q3 => ?_)
  show GK X D 4 [(h0, .inr (7, [.ref a1, .ref a2, .ref a3, .ref q1, .ref q2, .null, .null, .null, .null, .null, .null, .null, .long 0, .long 0, .int 0, .int 0, .int 0])), (q1, .inl (tI, 128, .inl (fun _ => 0))), (q2, .inl (tI, 32, .inl (fun _ => 0))), (q3, .inl (tI, 4, .inl (fun _ => 0)))] 3 164 40 [(0, .ref h0), (1, .ref a1), (2, .ref a2), (3, .ref a3)] [.ref q3, .ref h0]
  refine k_put (ws' := [(h0, .inr (7, [.ref a1, .ref a2, .ref a3, .ref q1, .ref q2, .ref q3, .null, .null, .null, .null, .null, .null, .long 0, .long 0, .int 0, .int 0, .int 0])), (q1, .inl (tI, 128, .inl (fun _ => 0))), (q2, .inl (tI, 32, .inl (fun _ => 0))), (q3, .inl (tI, 4, .inl (fun _ => 0)))]) hX 0 rfl hinX7 tyX7_ok nmX7 rfl 5 (by decide) lkX7_30 rfl (Or.inr ⟨rfl, rfl, rfl⟩) (ty := .array .int) (by decide +kernel) rfl rfl (Nat.le_of_ble_eq_true rfl) rfl dX7_init_40 ?_
  refine k_aload_n hX 0 dX7_init_43 rfl rfl ?_
  refine k_bipush hX (16) dX7_init_44 (by decide) ?_
  refine k_newa hX .int (ty := .int) (N := 16) (t0 := 0) (a0 := (16, .inl (fun _ => 0))) rfl rfl rfl acl_int (fun cA => rfl) (by decide) (by decide) (by decide) (by rw [hRm]; exact Nat.le_of_ble_eq_true rfl) (by rw [hRm]; exact Nat.le_of_ble_eq_true rfl) dX7_init_46 (fun q4 => ?_)
  show GK X D 4 [(h0, .inr (7, [.ref a1, .ref a2, .ref a3, .ref q1, .ref q2, .ref q3, .null, .null, .null, .null, .null, .null, .long 0, .long 0, .int 0, .int 0, .int 0])), (q1, .inl (tI, 128, .inl (fun _ => 0))), (q2, .inl (tI, 32, .inl (fun _ => 0))), (q3, .inl (tI, 4, .inl (fun _ => 0))), (q4, .inl (tI, 16, .inl (fun _ => 0)))] 4 180 48 [(0, .ref h0), (1, .ref a1), (2, .ref a2), (3, .ref a3)] [.ref q4, .ref h0]
  refine k_put (ws' := [(h0, .inr (7, [.ref a1, .ref a2, .ref a3, .ref q1, .ref q2, .ref q3, .ref q4, .null, .null, .null, .null, .null, .long 0, .long 0, .int 0, .int 0, .int 0])), (q1, .inl (tI, 128, .inl (fun _ => 0))), (q2, .inl (tI, 32, .inl (fun _ => 0))), (q3, .inl (tI, 4, .inl (fun _ => 0))), (q4, .inl (tI, 16, .inl (fun _ => 0)))]) hX 0 rfl hinX7 tyX7_ok nmX7 rfl 6 (by decide) lkX7_33 rfl (Or.inr ⟨rfl, rfl, rfl⟩) (ty := .array .int) (by decide +kernel) rfl rfl (Nat.le_of_ble_eq_true rfl) rfl dX7_init_48 ?_
  refine k_aload_n hX 0 dX7_init_51 rfl rfl ?_
  refine k_bipush hX (16) dX7_init_52 (by decide) ?_
  refine k_newa hX .int (ty := .int) (N := 16) (t0 := 0) (a0 := (16, .inl (fun _ => 0))) rfl rfl rfl acl_int (fun cA => rfl) (by decide) (by decide) (by decide) (by rw [hRm]; exact Nat.le_of_ble_eq_true rfl) (by rw [hRm]; exact Nat.le_of_ble_eq_true rfl) dX7_init_54 (fun q5 => ?_)
  show GK X D 4 [(h0, .inr (7, [.ref a1, .ref a2, .ref a3, .ref q1, .ref q2, .ref q3, .ref q4, .null, .null, .null, .null, .null, .long 0, .long 0, .int 0, .int 0, .int 0])), (q1, .inl (tI, 128, .inl (fun _ => 0))), (q2, .inl (tI, 32, .inl (fun _ => 0))), (q3, .inl (tI, 4, .inl (fun _ => 0))), (q4, .inl (tI, 16, .inl (fun _ => 0))), (q5, .inl (tI, 16, .inl (fun _ => 0)))] 5 196 56 [(0, .ref h0), (1, .ref a1), (2, .ref a2), (3, .ref a3)] [.ref q5, .ref h0]
  refine k_put (ws' := [(h0, .inr (7, [.ref a1, .ref a2, .ref a3, .ref q1, .ref q2, .ref q3, .ref q4, .ref q5, .null, .null, .null, .null, .long 0, .long 0, .int 0, .int 0, .int 0])), (q1, .inl (tI, 128, .inl (fun _ => 0))), (q2, .inl (tI, 32, .inl (fun _ => 0))), (q3, .inl (tI, 4, .inl (fun _ => 0))), (q4, .inl (tI, 16, .inl (fun _ => 0))), (q5, .inl (tI, 16, .inl (fun _ => 0)))]) hX 0 rfl hinX7 tyX7_ok nmX7 rfl 7 (by decide) lkX7_36 rfl (Or.inr ⟨rfl, rfl, rfl⟩) (ty := .array .int) (by decide +kernel) rfl rfl (Nat.le_of_ble_eq_true rfl) rfl dX7_init_56 ?_
  refine k_aload_n hX 0 dX7_init_59 rfl rfl ?_
  refine k_bipush hX (8) dX7_init_60 (by decide) ?_
  refine k_newa hX .int (ty := .int) (N := 8) (t0 := 0) (a0 := (8, .inl (fun _ => 0))) rfl rfl rfl acl_int (fun cA => rfl) (by decide) (by decide) (by decide) (by rw [hRm]; exact Nat.le_of_ble_eq_true rfl) (by rw [hRm]; exact Nat.le_of_ble_eq_true rfl) dX7_init_62 (fun q6 => ?_)
  show GK X D 4 [(h0, .inr (7, [.ref a1, .ref a2, .ref a3, .ref q1, .ref q2, .ref q3, .ref q4, .ref q5, .null, .null, .null, .null, .long 0, .long 0, .int 0, .int 0, .int 0])), (q1, .inl (tI, 128, .inl (fun _ => 0))), (q2, .inl (tI, 32, .inl (fun _ => 0))), (q3, .inl (tI, 4, .inl (fun _ => 0))), (q4, .inl (tI, 16, .inl (fun _ => 0))), (q5, .inl (tI, 16, .inl (fun _ => 0))), (q6, .inl (tI, 8, .inl (fun _ => 0)))] 6 204 64 [(0, .ref h0), (1, .ref a1), (2, .ref a2), (3, .ref a3)] [.ref q6, .ref h0]
  refine k_put (ws' := [(h0, .inr (7, [.ref a1, .ref a2, .ref a3, .ref q1, .ref q2, .ref q3, .ref q4, .ref q5, .ref q6, .null, .null, .null, .long 0, .long 0, .int 0, .int 0, .int 0])), (q1, .inl (tI, 128, .inl (fun _ => 0))), (q2, .inl (tI, 32, .inl (fun _ => 0))), (q3, .inl (tI, 4, .inl (fun _ => 0))), (q4, .inl (tI, 16, .inl (fun _ => 0))), (q5, .inl (tI, 16, .inl (fun _ => 0))), (q6, .inl (tI, 8, .inl (fun _ => 0)))]) hX 0 rfl hinX7 tyX7_ok nmX7 rfl 8 (by decide) lkX7_39 rfl (Or.inr ⟨rfl, rfl, rfl⟩) (ty := .array .int) (by decide +kernel) rfl rfl (Nat.le_of_ble_eq_true rfl) rfl dX7_init_64 ?_
  refine k_aload_n hX 0 dX7_init_67 rfl rfl ?_
  refine k_bipush hX (8) dX7_init_68 (by decide) ?_
  refine k_newa hX .int (ty := .int) (N := 8) (t0 := 0) (a0 := (8, .inl (fun _ => 0))) rfl rfl rfl acl_int (fun cA => rfl) (by decide) (by decide) (by decide) (by rw [hRm]; exact Nat.le_of_ble_eq_true rfl) (by rw [hRm]; exact Nat.le_of_ble_eq_true rfl) dX7_init_70 (fun q7 => ?_)
  show GK X D 4 [(h0, .inr (7, [.ref a1, .ref a2, .ref a3, .ref q1, .ref q2, .ref q3, .ref q4, .ref q5, .ref q6, .null, .null, .null, .long 0, .long 0, .int 0, .int 0, .int 0])), (q1, .inl (tI, 128, .inl (fun _ => 0))), (q2, .inl (tI, 32, .inl (fun _ => 0))), (q3, .inl (tI, 4, .inl (fun _ => 0))), (q4, .inl (tI, 16, .inl (fun _ => 0))), (q5, .inl (tI, 16, .inl (fun _ => 0))), (q6, .inl (tI, 8, .inl (fun _ => 0))), (q7, .inl (tI, 8, .inl (fun _ => 0)))] 7 212 72 [(0, .ref h0), (1, .ref a1), (2, .ref a2), (3, .ref a3)] [.ref q7, .ref h0]
  refine k_put (ws' := [(h0, .inr (7, [.ref a1, .ref a2, .ref a3, .ref q1, .ref q2, .ref q3, .ref q4, .ref q5, .ref q6, .ref q7, .null, .null, .long 0, .long 0, .int 0, .int 0, .int 0])), (q1, .inl (tI, 128, .inl (fun _ => 0))), (q2, .inl (tI, 32, .inl (fun _ => 0))), (q3, .inl (tI, 4, .inl (fun _ => 0))), (q4, .inl (tI, 16, .inl (fun _ => 0))), (q5, .inl (tI, 16, .inl (fun _ => 0))), (q6, .inl (tI, 8, .inl (fun _ => 0))), (q7, .inl (tI, 8, .inl (fun _ => 0)))]) hX 0 rfl hinX7 tyX7_ok nmX7 rfl 9 (by decide) lkX7_42 rfl (Or.inr ⟨rfl, rfl, rfl⟩) (ty := .array .int) (by decide +kernel) rfl rfl (Nat.le_of_ble_eq_true rfl) rfl dX7_init_72 ?_
  refine k_aload_n hX 0 dX7_init_75 rfl rfl ?_
  refine k_bipush hX (8) dX7_init_76 (by decide) ?_
  refine k_newa hX .long (ty := .long) (N := 8) (t0 := 1) (a0 := (8, .inr (.inl (fun _ => 0)))) rfl rfl rfl acl_long (fun cA => rfl) (by decide) (by decide) (by decide) (by rw [hRm]; exact Nat.le_of_ble_eq_true rfl) (by rw [hRm]; exact Nat.le_of_ble_eq_true rfl) dX7_init_78 (fun q8 => ?_)
  show GK X D 4 [(h0, .inr (7, [.ref a1, .ref a2, .ref a3, .ref q1, .ref q2, .ref q3, .ref q4, .ref q5, .ref q6, .ref q7, .null, .null, .long 0, .long 0, .int 0, .int 0, .int 0])), (q1, .inl (tI, 128, .inl (fun _ => 0))), (q2, .inl (tI, 32, .inl (fun _ => 0))), (q3, .inl (tI, 4, .inl (fun _ => 0))), (q4, .inl (tI, 16, .inl (fun _ => 0))), (q5, .inl (tI, 16, .inl (fun _ => 0))), (q6, .inl (tI, 8, .inl (fun _ => 0))), (q7, .inl (tI, 8, .inl (fun _ => 0))), (q8, .inl (tJ, 8, .inr (.inl (fun _ => 0))))] 8 220 80 [(0, .ref h0), (1, .ref a1), (2, .ref a2), (3, .ref a3)] [.ref q8, .ref h0]
  refine k_put (ws' := [(h0, .inr (7, [.ref a1, .ref a2, .ref a3, .ref q1, .ref q2, .ref q3, .ref q4, .ref q5, .ref q6, .ref q7, .ref q8, .null, .long 0, .long 0, .int 0, .int 0, .int 0])), (q1, .inl (tI, 128, .inl (fun _ => 0))), (q2, .inl (tI, 32, .inl (fun _ => 0))), (q3, .inl (tI, 4, .inl (fun _ => 0))), (q4, .inl (tI, 16, .inl (fun _ => 0))), (q5, .inl (tI, 16, .inl (fun _ => 0))), (q6, .inl (tI, 8, .inl (fun _ => 0))), (q7, .inl (tI, 8, .inl (fun _ => 0))), (q8, .inl (tJ, 8, .inr (.inl (fun _ => 0))))]) hX 0 rfl hinX7 tyX7_ok nmX7 rfl 10 (by decide) lkX7_45 rfl (Or.inr ⟨rfl, rfl, rfl⟩) (ty := .array .long) (by decide +kernel) rfl rfl (Nat.le_of_ble_eq_true rfl) rfl dX7_init_80 ?_
  refine k_aload_n hX 0 dX7_init_83 rfl rfl ?_
  refine k_bipush hX (8) dX7_init_84 (by decide) ?_
  refine k_newa hX .long (ty := .long) (N := 8) (t0 := 1) (a0 := (8, .inr (.inl (fun _ => 0)))) rfl rfl rfl acl_long (fun cA => rfl) (by decide) (by decide) (by decide) (by rw [hRm]; exact Nat.le_of_ble_eq_true rfl) (by rw [hRm]; exact Nat.le_of_ble_eq_true rfl) dX7_init_86 (fun q9 => ?_)
  show GK X D 4 [(h0, .inr (7, [.ref a1, .ref a2, .ref a3, .ref q1, .ref q2, .ref q3, .ref q4, .ref q5, .ref q6, .ref q7, .ref q8, .null, .long 0, .long 0, .int 0, .int 0, .int 0])), (q1, .inl (tI, 128, .inl (fun _ => 0))), (q2, .inl (tI, 32, .inl (fun _ => 0))), (q3, .inl (tI, 4, .inl (fun _ => 0))), (q4, .inl (tI, 16, .inl (fun _ => 0))), (q5, .inl (tI, 16, .inl (fun _ => 0))), (q6, .inl (tI, 8, .inl (fun _ => 0))), (q7, .inl (tI, 8, .inl (fun _ => 0))), (q8, .inl (tJ, 8, .inr (.inl (fun _ => 0)))), (q9, .inl (tJ, 8, .inr (.inl (fun _ => 0))))] 9 228 88 [(0, .ref h0), (1, .ref a1), (2, .ref a2), (3, .ref a3)] [.ref q9, .ref h0]
  refine k_put (ws' := [(h0, .inr (7, [.ref a1, .ref a2, .ref a3, .ref q1, .ref q2, .ref q3, .ref q4, .ref q5, .ref q6, .ref q7, .ref q8, .ref q9, .long 0, .long 0, .int 0, .int 0, .int 0])), (q1, .inl (tI, 128, .inl (fun _ => 0))), (q2, .inl (tI, 32, .inl (fun _ => 0))), (q3, .inl (tI, 4, .inl (fun _ => 0))), (q4, .inl (tI, 16, .inl (fun _ => 0))), (q5, .inl (tI, 16, .inl (fun _ => 0))), (q6, .inl (tI, 8, .inl (fun _ => 0))), (q7, .inl (tI, 8, .inl (fun _ => 0))), (q8, .inl (tJ, 8, .inr (.inl (fun _ => 0)))), (q9, .inl (tJ, 8, .inr (.inl (fun _ => 0))))]) hX 0 rfl hinX7 tyX7_ok nmX7 rfl 11 (by decide) lkX7_49 rfl (Or.inr ⟨rfl, rfl, rfl⟩) (ty := .array .long) (by decide +kernel) rfl rfl (Nat.le_of_ble_eq_true rfl) rfl dX7_init_88 ?_
  refine k_aload_n hX 0 dX7_init_91 rfl rfl ?_
  refine k_lconst hX (0) dX7_init_92 (by decide) ?_
  refine k_put (ws' := [(h0, .inr (7, [.ref a1, .ref a2, .ref a3, .ref q1, .ref q2, .ref q3, .ref q4, .ref q5, .ref q6, .ref q7, .ref q8, .ref q9, .long (0), .long 0, .int 0, .int 0, .int 0])), (q1, .inl (tI, 128, .inl (fun _ => 0))), (q2, .inl (tI, 32, .inl (fun _ => 0))), (q3, .inl (tI, 4, .inl (fun _ => 0))), (q4, .inl (tI, 16, .inl (fun _ => 0))), (q5, .inl (tI, 16, .inl (fun _ => 0))), (q6, .inl (tI, 8, .inl (fun _ => 0))), (q7, .inl (tI, 8, .inl (fun _ => 0))), (q8, .inl (tJ, 8, .inr (.inl (fun _ => 0)))), (q9, .inl (tJ, 8, .inr (.inl (fun _ => 0))))]) hX 0 rfl hinX7 tyX7_ok nmX7 rfl 12 (by decide) lkX7_52 rfl (Or.inl rfl) (ty := .long) (by decide +kernel) rfl rfl (Nat.le_of_ble_eq_true rfl) rfl dX7_init_93 ?_
  refine k_aload_n hX 0 dX7_init_96 rfl rfl ?_
  refine k_lconst hX (0) dX7_init_97 (by decide) ?_
  refine k_put (ws' := [(h0, .inr (7, [.ref a1, .ref a2, .ref a3, .ref q1, .ref q2, .ref q3, .ref q4, .ref q5, .ref q6, .ref q7, .ref q8, .ref q9, .long (0), .long (0), .int 0, .int 0, .int 0])), (q1, .inl (tI, 128, .inl (fun _ => 0))), (q2, .inl (tI, 32, .inl (fun _ => 0))), (q3, .inl (tI, 4, .inl (fun _ => 0))), (q4, .inl (tI, 16, .inl (fun _ => 0))), (q5, .inl (tI, 16, .inl (fun _ => 0))), (q6, .inl (tI, 8, .inl (fun _ => 0))), (q7, .inl (tI, 8, .inl (fun _ => 0))), (q8, .inl (tJ, 8, .inr (.inl (fun _ => 0)))), (q9, .inl (tJ, 8, .inr (.inl (fun _ => 0))))]) hX 0 rfl hinX7 tyX7_ok nmX7 rfl 13 (by decide) lkX7_56 rfl (Or.inl rfl) (ty := .long) (by decide +kernel) rfl rfl (Nat.le_of_ble_eq_true rfl) rfl dX7_init_98 ?_
  refine k_aload_n hX 0 dX7_init_101 rfl rfl ?_
  refine k_iconst hX (0) dX7_init_102 (by decide) ?_
  refine k_put (ws' := [(h0, .inr (7, [.ref a1, .ref a2, .ref a3, .ref q1, .ref q2, .ref q3, .ref q4, .ref q5, .ref q6, .ref q7, .ref q8, .ref q9, .long (0), .long (0), .int (0), .int 0, .int 0])), (q1, .inl (tI, 128, .inl (fun _ => 0))), (q2, .inl (tI, 32, .inl (fun _ => 0))), (q3, .inl (tI, 4, .inl (fun _ => 0))), (q4, .inl (tI, 16, .inl (fun _ => 0))), (q5, .inl (tI, 16, .inl (fun _ => 0))), (q6, .inl (tI, 8, .inl (fun _ => 0))), (q7, .inl (tI, 8, .inl (fun _ => 0))), (q8, .inl (tJ, 8, .inr (.inl (fun _ => 0)))), (q9, .inl (tJ, 8, .inr (.inl (fun _ => 0))))]) hX 0 rfl hinX7 tyX7_ok nmX7 rfl 14 (by decide) lkX7_59 rfl (Or.inl rfl) (ty := .boolean) (by decide +kernel) rfl rfl (Nat.le_of_ble_eq_true rfl) rfl dX7_init_103 ?_
  refine k_aload_n hX 0 dX7_init_106 rfl rfl ?_
  refine k_iconst hX (0) dX7_init_107 (by decide) ?_
  refine k_put (ws' := [(h0, .inr (7, [.ref a1, .ref a2, .ref a3, .ref q1, .ref q2, .ref q3, .ref q4, .ref q5, .ref q6, .ref q7, .ref q8, .ref q9, .long (0), .long (0), .int (0), .int (0), .int 0])), (q1, .inl (tI, 128, .inl (fun _ => 0))), (q2, .inl (tI, 32, .inl (fun _ => 0))), (q3, .inl (tI, 4, .inl (fun _ => 0))), (q4, .inl (tI, 16, .inl (fun _ => 0))), (q5, .inl (tI, 16, .inl (fun _ => 0))), (q6, .inl (tI, 8, .inl (fun _ => 0))), (q7, .inl (tI, 8, .inl (fun _ => 0))), (q8, .inl (tJ, 8, .inr (.inl (fun _ => 0)))), (q9, .inl (tJ, 8, .inr (.inl (fun _ => 0))))]) hX 0 rfl hinX7 tyX7_ok nmX7 rfl 15 (by decide) lkX7_63 rfl (Or.inl rfl) (ty := .int) (by decide +kernel) rfl rfl (Nat.le_of_ble_eq_true rfl) rfl dX7_init_108 ?_
  refine k_aload_n hX 0 dX7_init_111 rfl rfl ?_
  refine k_iconst hX (-1) dX7_init_112 (by decide) ?_
  refine k_put (ws' := [(h0, .inr (7, [.ref a1, .ref a2, .ref a3, .ref q1, .ref q2, .ref q3, .ref q4, .ref q5, .ref q6, .ref q7, .ref q8, .ref q9, .long (0), .long (0), .int (0), .int (0), .int (-1)])), (q1, .inl (tI, 128, .inl (fun _ => 0))), (q2, .inl (tI, 32, .inl (fun _ => 0))), (q3, .inl (tI, 4, .inl (fun _ => 0))), (q4, .inl (tI, 16, .inl (fun _ => 0))), (q5, .inl (tI, 16, .inl (fun _ => 0))), (q6, .inl (tI, 8, .inl (fun _ => 0))), (q7, .inl (tI, 8, .inl (fun _ => 0))), (q8, .inl (tJ, 8, .inr (.inl (fun _ => 0)))), (q9, .inl (tJ, 8, .inr (.inl (fun _ => 0))))]) hX 0 rfl hinX7 tyX7_ok nmX7 rfl 16 (by decide) lkX7_67 rfl (Or.inl rfl) (ty := .int) (by decide +kernel) rfl rfl (Nat.le_of_ble_eq_true rfl) rfl dX7_init_113 ?_
  exact hR (fun i => [q1, q2, q3, q4, q5, q6, q7, q8, q9].getD i 0) _ _ dX7_init_116
set_option maxRecDepth 20000 in
set_option maxHeartbeats 4000000 in
theorem nX4_init (l : Launch) {D : va_G} {tI tJ tB tS : ClassId}  (h0 : Nat) (a1 : Nat) (a2 : Nat) (a3 : Nat) (a4 : Nat) : CtK l yX4_init cX4_init 5 1 20 4 40 D [(tI, .int), (tJ, .long), (tB, .byte), (tS, .object "LoafStreet$Stand")] [.ref h0, .ref a1, .ref a2, .ref a3, .ref a4] [(h0, .inr (4, [.null, .null, .null, .null, .null, .null, .null, .null, .int 0, .int 0]))] (fun u => [(h0, .inr (4, [.ref a1, .ref a2, .ref a3, .ref a4, .ref (u 0), .ref (u 1), .ref (u 2), .ref (u 3), .int (0), .int (0)])), ((u 0), .inl (tI, 8, .inl (fun j => if j = 2147483648 then (8 : Int32) else 0))), ((u 1), .inl (tI, 4, .inl (fun _ => 0))), ((u 2), .inl (tI, 21, .inl (fun _ => 0))), ((u 3), .inl (tI, 7, .inl (fun _ => 0)))]) := by
  refine k_met true (by decide) (fun h => rfl) (Nat.le_of_ble_eq_true rfl) rfl (fun X _ hX hRm hR => ?_)
  refine k_aload_n hX 0 dX4_init_0 rfl rfl ?_
  refine k_objInit hX lkX4_3 (by decide) (by decide) (Nat.le_of_ble_eq_true rfl) dX4_init_1 ?_
  refine k_aload_n hX 0 dX4_init_4 rfl rfl ?_
  refine k_aload_n hX 1 dX4_init_5 rfl rfl ?_
  refine k_put (ws' := [(h0, .inr (4, [.ref a1, .null, .null, .null, .null, .null, .null, .null, .int 0, .int 0]))]) hX 0 rfl hinX4 tyX4_ok nmX4 rfl 0 (by decide) lkX4_9 rfl (Or.inr ⟨rfl, rfl, rfl⟩) (ty := .object "LoafStreet$Street") (by decide +kernel) rfl rfl (Nat.le_of_ble_eq_true rfl) rfl dX4_init_6 ?_
  refine k_aload_n hX 0 dX4_init_9 rfl rfl ?_
  refine k_aload_n hX 2 dX4_init_10 rfl rfl ?_
  refine k_put (ws' := [(h0, .inr (4, [.ref a1, .ref a2, .null, .null, .null, .null, .null, .null, .int 0, .int 0]))]) hX 0 rfl hinX4 tyX4_ok nmX4 rfl 1 (by decide) lkX4_15 rfl (Or.inr ⟨rfl, rfl, rfl⟩) (ty := .object "LoafStreet$Stand") (by decide +kernel) rfl rfl (Nat.le_of_ble_eq_true rfl) rfl dX4_init_11 ?_
  refine k_aload_n hX 0 dX4_init_14 rfl rfl ?_
  refine k_aload_n hX 3 dX4_init_15 rfl rfl ?_
  refine k_put (ws' := [(h0, .inr (4, [.ref a1, .ref a2, .ref a3, .null, .null, .null, .null, .null, .int 0, .int 0]))]) hX 0 rfl hinX4 tyX4_ok nmX4 rfl 2 (by decide) lkX4_19 rfl (Or.inr ⟨rfl, rfl, rfl⟩) (ty := .object "LoafStreet$Laws") (by decide +kernel) rfl rfl (Nat.le_of_ble_eq_true rfl) rfl dX4_init_16 ?_
  refine k_aload_n hX 0 dX4_init_19 rfl rfl ?_
  refine k_aload hX 4 dX4_init_20 rfl ?_
  refine k_put (ws' := [(h0, .inr (4, [.ref a1, .ref a2, .ref a3, .ref a4, .null, .null, .null, .null, .int 0, .int 0]))]) hX 0 rfl hinX4 tyX4_ok nmX4 rfl 3 (by decide) lkX4_23 rfl (Or.inr ⟨rfl, rfl, rfl⟩) (ty := .object "LoafStreet$Trade") (by decide +kernel) rfl rfl (Nat.le_of_ble_eq_true rfl) rfl dX4_init_22 ?_
  refine k_aload_n hX 0 dX4_init_25 rfl rfl ?_
  refine k_bipush hX (8) dX4_init_26 (by decide) ?_
  refine k_newa hX .int (ty := .int) (N := 8) (t0 := 0) (a0 := (8, .inl (fun j => if j = 2147483648 then (8 : Int32) else 0))) rfl rfl rfl acl_int (fun cA => nM_cell 8 cA) (by decide) (by decide) (by decide) (by rw [hRm]; exact Nat.le_of_ble_eq_true rfl) (by rw [hRm]; exact Nat.le_of_ble_eq_true rfl) dX4_init_28 (fun q1 => ?_)
  show GK X D 5 [(h0, .inr (4, [.ref a1, .ref a2, .ref a3, .ref a4, .null, .null, .null, .null, .int 0, .int 0])), (q1, .inl (tI, 8, .inl (fun j => if j = 2147483648 then (8 : Int32) else 0)))] 1 8 30 [(0, .ref h0), (1, .ref a1), (2, .ref a2), (3, .ref a3), (4, .ref a4)] [.ref q1, .ref h0]
  refine k_put (ws' := [(h0, .inr (4, [.ref a1, .ref a2, .ref a3, .ref a4, .ref q1, .null, .null, .null, .int 0, .int 0])), (q1, .inl (tI, 8, .inl (fun j => if j = 2147483648 then (8 : Int32) else 0)))]) hX 0 rfl hinX4 tyX4_ok nmX4 rfl 4 (by decide) lkX4_27 rfl (Or.inl rfl) (ty := .array .int) (by decide +kernel) rfl rfl (Nat.le_of_ble_eq_true rfl) rfl dX4_init_30 ?_
  refine k_aload_n hX 0 dX4_init_33 rfl rfl ?_
  refine k_iconst hX (4) dX4_init_34 (by decide) ?_
  refine k_newa hX .int (ty := .int) (N := 4) (t0 := 0) (a0 := (4, .inl (fun _ => 0))) rfl rfl rfl acl_int (fun cA => rfl) (by decide) (by decide) (by decide) (by rw [hRm]; exact Nat.le_of_ble_eq_true rfl) (by rw [hRm]; exact Nat.le_of_ble_eq_true rfl) dX4_init_35 (fun q2 => ?_)
  show GK X D 5 [(h0, .inr (4, [.ref a1, .ref a2, .ref a3, .ref a4, .ref q1, .null, .null, .null, .int 0, .int 0])), (q1, .inl (tI, 8, .inl (fun j => if j = 2147483648 then (8 : Int32) else 0))), (q2, .inl (tI, 4, .inl (fun _ => 0)))] 2 12 37 [(0, .ref h0), (1, .ref a1), (2, .ref a2), (3, .ref a3), (4, .ref a4)] [.ref q2, .ref h0]
  refine k_put (ws' := [(h0, .inr (4, [.ref a1, .ref a2, .ref a3, .ref a4, .ref q1, .ref q2, .null, .null, .int 0, .int 0])), (q1, .inl (tI, 8, .inl (fun j => if j = 2147483648 then (8 : Int32) else 0))), (q2, .inl (tI, 4, .inl (fun _ => 0)))]) hX 0 rfl hinX4 tyX4_ok nmX4 rfl 5 (by decide) lkX4_31 rfl (Or.inr ⟨rfl, rfl, rfl⟩) (ty := .array .int) (by decide +kernel) rfl rfl (Nat.le_of_ble_eq_true rfl) rfl dX4_init_37 ?_
  refine k_aload_n hX 0 dX4_init_40 rfl rfl ?_
  refine k_bipush hX (21) dX4_init_41 (by decide) ?_
  refine k_newa hX .int (ty := .int) (N := 21) (t0 := 0) (a0 := (21, .inl (fun _ => 0))) rfl rfl rfl acl_int (fun cA => rfl) (by decide) (by decide) (by decide) (by rw [hRm]; exact Nat.le_of_ble_eq_true rfl) (by rw [hRm]; exact Nat.le_of_ble_eq_true rfl) dX4_init_43 (fun q3 => ?_)
  show GK X D 5 [(h0, .inr (4, [.ref a1, .ref a2, .ref a3, .ref a4, .ref q1, .ref q2, .null, .null, .int 0, .int 0])), (q1, .inl (tI, 8, .inl (fun j => if j = 2147483648 then (8 : Int32) else 0))), (q2, .inl (tI, 4, .inl (fun _ => 0))), (q3, .inl (tI, 21, .inl (fun _ => 0)))] 3 33 45 [(0, .ref h0), (1, .ref a1), (2, .ref a2), (3, .ref a3), (4, .ref a4)] [.ref q3, .ref h0]
  refine k_put (ws' := [(h0, .inr (4, [.ref a1, .ref a2, .ref a3, .ref a4, .ref q1, .ref q2, .ref q3, .null, .int 0, .int 0])), (q1, .inl (tI, 8, .inl (fun j => if j = 2147483648 then (8 : Int32) else 0))), (q2, .inl (tI, 4, .inl (fun _ => 0))), (q3, .inl (tI, 21, .inl (fun _ => 0)))]) hX 0 rfl hinX4 tyX4_ok nmX4 rfl 6 (by decide) lkX4_34 rfl (Or.inr ⟨rfl, rfl, rfl⟩) (ty := .array .int) (by decide +kernel) rfl rfl (Nat.le_of_ble_eq_true rfl) rfl dX4_init_45 ?_
  refine k_aload_n hX 0 dX4_init_48 rfl rfl ?_
  refine k_bipush hX (7) dX4_init_49 (by decide) ?_
  refine k_newa hX .int (ty := .int) (N := 7) (t0 := 0) (a0 := (7, .inl (fun _ => 0))) rfl rfl rfl acl_int (fun cA => rfl) (by decide) (by decide) (by decide) (by rw [hRm]; exact Nat.le_of_ble_eq_true rfl) (by rw [hRm]; exact Nat.le_of_ble_eq_true rfl) dX4_init_51 (fun q4 => ?_)
  show GK X D 5 [(h0, .inr (4, [.ref a1, .ref a2, .ref a3, .ref a4, .ref q1, .ref q2, .ref q3, .null, .int 0, .int 0])), (q1, .inl (tI, 8, .inl (fun j => if j = 2147483648 then (8 : Int32) else 0))), (q2, .inl (tI, 4, .inl (fun _ => 0))), (q3, .inl (tI, 21, .inl (fun _ => 0))), (q4, .inl (tI, 7, .inl (fun _ => 0)))] 4 40 53 [(0, .ref h0), (1, .ref a1), (2, .ref a2), (3, .ref a3), (4, .ref a4)] [.ref q4, .ref h0]
  refine k_put (ws' := [(h0, .inr (4, [.ref a1, .ref a2, .ref a3, .ref a4, .ref q1, .ref q2, .ref q3, .ref q4, .int 0, .int 0])), (q1, .inl (tI, 8, .inl (fun j => if j = 2147483648 then (8 : Int32) else 0))), (q2, .inl (tI, 4, .inl (fun _ => 0))), (q3, .inl (tI, 21, .inl (fun _ => 0))), (q4, .inl (tI, 7, .inl (fun _ => 0)))]) hX 0 rfl hinX4 tyX4_ok nmX4 rfl 7 (by decide) lkX4_37 rfl (Or.inr ⟨rfl, rfl, rfl⟩) (ty := .array .int) (by decide +kernel) rfl rfl (Nat.le_of_ble_eq_true rfl) rfl dX4_init_53 ?_
  refine k_aload_n hX 0 dX4_init_56 rfl rfl ?_
  refine k_iconst hX (0) dX4_init_57 (by decide) ?_
  refine k_put (ws' := [(h0, .inr (4, [.ref a1, .ref a2, .ref a3, .ref a4, .ref q1, .ref q2, .ref q3, .ref q4, .int (0), .int 0])), (q1, .inl (tI, 8, .inl (fun j => if j = 2147483648 then (8 : Int32) else 0))), (q2, .inl (tI, 4, .inl (fun _ => 0))), (q3, .inl (tI, 21, .inl (fun _ => 0))), (q4, .inl (tI, 7, .inl (fun _ => 0)))]) hX 0 rfl hinX4 tyX4_ok nmX4 rfl 8 (by decide) lkX4_40 rfl (Or.inl rfl) (ty := .int) (by decide +kernel) rfl rfl (Nat.le_of_ble_eq_true rfl) rfl dX4_init_58 ?_
  refine k_aload_n hX 0 dX4_init_61 rfl rfl ?_
  refine k_iconst hX (0) dX4_init_62 (by decide) ?_
  refine k_put (ws' := [(h0, .inr (4, [.ref a1, .ref a2, .ref a3, .ref a4, .ref q1, .ref q2, .ref q3, .ref q4, .int (0), .int (0)])), (q1, .inl (tI, 8, .inl (fun j => if j = 2147483648 then (8 : Int32) else 0))), (q2, .inl (tI, 4, .inl (fun _ => 0))), (q3, .inl (tI, 21, .inl (fun _ => 0))), (q4, .inl (tI, 7, .inl (fun _ => 0)))]) hX 0 rfl hinX4 tyX4_ok nmX4 rfl 9 (by decide) lkX4_44 rfl (Or.inl rfl) (ty := .boolean) (by decide +kernel) rfl rfl (Nat.le_of_ble_eq_true rfl) rfl dX4_init_63 ?_
  exact hR (fun i => [q1, q2, q3, q4].getD i 0) _ _ dX4_init_66
set_option maxRecDepth 20000 in
set_option maxHeartbeats 4000000 in
theorem nX0_init (l : Launch) {D : va_G} {tI tJ tB tS : ClassId}  (h0 : Nat) (a1 : Nat) (a2 : Nat) (a3 : Nat) : CtK l yX0_init cX0_init 4 1 20 2 65 D [(tI, .int), (tJ, .long), (tB, .byte), (tS, .object "LoafStreet$Stand")] [.ref h0, .ref a1, .ref a2, .ref a3] [(h0, .inr (0, [.null, .null, .null, .null, .null, .int 0, .int 0, .int 0]))] (fun u => [(h0, .inr (0, [.ref a1, .ref a2, .ref a3, .ref (u 0), .ref (u 1), .int (0), .int (0), .int (0)])), ((u 0), .inl (tI, 4, .inl (fun _ => 0))), ((u 1), .inl (tI, 61, .inl (fun _ => 0)))]) := by
  refine k_met true (by decide) (fun h => rfl) (Nat.le_of_ble_eq_true rfl) rfl (fun X _ hX hRm hR => ?_)
  refine k_aload_n hX 0 dX0_init_0 rfl rfl ?_
  refine k_objInit hX lkX0_3 (by decide) (by decide) (Nat.le_of_ble_eq_true rfl) dX0_init_1 ?_
  refine k_aload_n hX 0 dX0_init_4 rfl rfl ?_
  refine k_aload_n hX 1 dX0_init_5 rfl rfl ?_
  refine k_put (ws' := [(h0, .inr (0, [.ref a1, .null, .null, .null, .null, .int 0, .int 0, .int 0]))]) hX 0 rfl hinX0 tyX0_ok nmX0 rfl 0 (by decide) lkX0_9 rfl (Or.inr ⟨rfl, rfl, rfl⟩) (ty := .object "LoafStreet$Street") (by decide +kernel) rfl rfl (Nat.le_of_ble_eq_true rfl) rfl dX0_init_6 ?_
  refine k_aload_n hX 0 dX0_init_9 rfl rfl ?_
  refine k_aload_n hX 2 dX0_init_10 rfl rfl ?_
  refine k_put (ws' := [(h0, .inr (0, [.ref a1, .ref a2, .null, .null, .null, .int 0, .int 0, .int 0]))]) hX 0 rfl hinX0 tyX0_ok nmX0 rfl 1 (by decide) lkX0_15 rfl (Or.inr ⟨rfl, rfl, rfl⟩) (ty := .object "LoafStreet$Stand") (by decide +kernel) rfl rfl (Nat.le_of_ble_eq_true rfl) rfl dX0_init_11 ?_
  refine k_aload_n hX 0 dX0_init_14 rfl rfl ?_
  refine k_aload_n hX 3 dX0_init_15 rfl rfl ?_
  refine k_put (ws' := [(h0, .inr (0, [.ref a1, .ref a2, .ref a3, .null, .null, .int 0, .int 0, .int 0]))]) hX 0 rfl hinX0 tyX0_ok nmX0 rfl 2 (by decide) lkX0_19 rfl (Or.inr ⟨rfl, rfl, rfl⟩) (ty := .object "LoafStreet$Trade") (by decide +kernel) rfl rfl (Nat.le_of_ble_eq_true rfl) rfl dX0_init_16 ?_
  refine k_aload_n hX 0 dX0_init_19 rfl rfl ?_
  refine k_iconst hX (4) dX0_init_20 (by decide) ?_
  refine k_newa hX .int (ty := .int) (N := 4) (t0 := 0) (a0 := (4, .inl (fun _ => 0))) rfl rfl rfl acl_int (fun cA => rfl) (by decide) (by decide) (by decide) (by rw [hRm]; exact Nat.le_of_ble_eq_true rfl) (by rw [hRm]; exact Nat.le_of_ble_eq_true rfl) dX0_init_21 (fun q1 => ?_)
  show GK X D 4 [(h0, .inr (0, [.ref a1, .ref a2, .ref a3, .null, .null, .int 0, .int 0, .int 0])), (q1, .inl (tI, 4, .inl (fun _ => 0)))] 1 4 23 [(0, .ref h0), (1, .ref a1), (2, .ref a2), (3, .ref a3)] [.ref q1, .ref h0]
  refine k_put (ws' := [(h0, .inr (0, [.ref a1, .ref a2, .ref a3, .ref q1, .null, .int 0, .int 0, .int 0])), (q1, .inl (tI, 4, .inl (fun _ => 0)))]) hX 0 rfl hinX0 tyX0_ok nmX0 rfl 3 (by decide) lkX0_23 rfl (Or.inr ⟨rfl, rfl, rfl⟩) (ty := .array .int) (by decide +kernel) rfl rfl (Nat.le_of_ble_eq_true rfl) rfl dX0_init_23 ?_
  refine k_aload_n hX 0 dX0_init_26 rfl rfl ?_
  refine k_bipush hX (61) dX0_init_27 (by decide) ?_
  refine k_newa hX .int (ty := .int) (N := 61) (t0 := 0) (a0 := (61, .inl (fun _ => 0))) rfl rfl rfl acl_int (fun cA => rfl) (by decide) (by decide) (by decide) (by rw [hRm]; exact Nat.le_of_ble_eq_true rfl) (by rw [hRm]; exact Nat.le_of_ble_eq_true rfl) dX0_init_29 (fun q2 => ?_)
  show GK X D 4 [(h0, .inr (0, [.ref a1, .ref a2, .ref a3, .ref q1, .null, .int 0, .int 0, .int 0])), (q1, .inl (tI, 4, .inl (fun _ => 0))), (q2, .inl (tI, 61, .inl (fun _ => 0)))] 2 65 31 [(0, .ref h0), (1, .ref a1), (2, .ref a2), (3, .ref a3)] [.ref q2, .ref h0]
  refine k_put (ws' := [(h0, .inr (0, [.ref a1, .ref a2, .ref a3, .ref q1, .ref q2, .int 0, .int 0, .int 0])), (q1, .inl (tI, 4, .inl (fun _ => 0))), (q2, .inl (tI, 61, .inl (fun _ => 0)))]) hX 0 rfl hinX0 tyX0_ok nmX0 rfl 4 (by decide) lkX0_27 rfl (Or.inr ⟨rfl, rfl, rfl⟩) (ty := .array .int) (by decide +kernel) rfl rfl (Nat.le_of_ble_eq_true rfl) rfl dX0_init_31 ?_
  refine k_aload_n hX 0 dX0_init_34 rfl rfl ?_
  refine k_iconst hX (0) dX0_init_35 (by decide) ?_
  refine k_put (ws' := [(h0, .inr (0, [.ref a1, .ref a2, .ref a3, .ref q1, .ref q2, .int (0), .int 0, .int 0])), (q1, .inl (tI, 4, .inl (fun _ => 0))), (q2, .inl (tI, 61, .inl (fun _ => 0)))]) hX 0 rfl hinX0 tyX0_ok nmX0 rfl 5 (by decide) lkX0_30 rfl (Or.inl rfl) (ty := .int) (by decide +kernel) rfl rfl (Nat.le_of_ble_eq_true rfl) rfl dX0_init_36 ?_
  refine k_aload_n hX 0 dX0_init_39 rfl rfl ?_
  refine k_iconst hX (0) dX0_init_40 (by decide) ?_
  refine k_put (ws' := [(h0, .inr (0, [.ref a1, .ref a2, .ref a3, .ref q1, .ref q2, .int (0), .int (0), .int 0])), (q1, .inl (tI, 4, .inl (fun _ => 0))), (q2, .inl (tI, 61, .inl (fun _ => 0)))]) hX 0 rfl hinX0 tyX0_ok nmX0 rfl 6 (by decide) lkX0_34 rfl (Or.inl rfl) (ty := .int) (by decide +kernel) rfl rfl (Nat.le_of_ble_eq_true rfl) rfl dX0_init_41 ?_
  refine k_aload_n hX 0 dX0_init_44 rfl rfl ?_
  refine k_iconst hX (0) dX0_init_45 (by decide) ?_
  refine k_put (ws' := [(h0, .inr (0, [.ref a1, .ref a2, .ref a3, .ref q1, .ref q2, .int (0), .int (0), .int (0)])), (q1, .inl (tI, 4, .inl (fun _ => 0))), (q2, .inl (tI, 61, .inl (fun _ => 0)))]) hX 0 rfl hinX0 tyX0_ok nmX0 rfl 7 (by decide) lkX0_37 rfl (Or.inl rfl) (ty := .int) (by decide +kernel) rfl rfl (Nat.le_of_ble_eq_true rfl) rfl dX0_init_46 ?_
  exact hR (fun i => [q1, q2].getD i 0) _ _ dX0_init_49
set_option maxRecDepth 20000 in
set_option maxHeartbeats 4000000 in
theorem nX1_init (l : Launch) {D : va_G} {tI tJ tB tS : ClassId}  (h0 : Nat) (a1 : Nat) : CtK l yX1_init cX1_init 2 1 20 0 0 D [(tI, .int), (tJ, .long), (tB, .byte), (tS, .object "LoafStreet$Stand")] [.ref h0, .ref a1] [(h0, .inr (1, [.null, .long 0, .long 0, .long 0, .long 0, .long 0, .long 0, .long 0, .long 0]))] (fun u => [(h0, .inr (1, [.ref a1, .long 0, .long 0, .long 0, .long 0, .long 0, .long 0, .long 0, .long 0]))]) := by
  refine k_met true (by decide) (fun h => rfl) (Nat.le_of_ble_eq_true rfl) rfl (fun X _ hX hRm hR => ?_)
  refine k_aload_n hX 0 dX1_init_0 rfl rfl ?_
  refine k_objInit hX lkX1_3 (by decide) (by decide) (Nat.le_of_ble_eq_true rfl) dX1_init_1 ?_
  refine k_aload_n hX 0 dX1_init_4 rfl rfl ?_
  refine k_aload_n hX 1 dX1_init_5 rfl rfl ?_
  refine k_put (ws' := [(h0, .inr (1, [.ref a1, .long 0, .long 0, .long 0, .long 0, .long 0, .long 0, .long 0, .long 0]))]) hX 0 rfl hinX1 tyX1_ok nmX1 rfl 0 (by decide) lkX1_9 rfl (Or.inr ⟨rfl, rfl, rfl⟩) (ty := .object "LoafStreet$Trade") (by decide +kernel) rfl rfl (Nat.le_of_ble_eq_true rfl) rfl dX1_init_6 ?_
  exact hR (fun i => [].getD i 0) _ _ dX1_init_9
