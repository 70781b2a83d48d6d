def fX9_lots_L85 (q1_85 : Int32) (q2_85 : Int32) (q3_85 : Int32) (q4_85 : Int32) (q5_85 : Int32) (kx85 : St → Int32 → Option (St × Int64)) : Nat → St → Int32 → Option (St × Int64)
  | 0, _, _ => none
  | n85 + 1, σ, c6_85 =>
    (if (4 : Int32) ≤ c6_85 then kx85 σ c6_85 else (jp (fun (σ_18 : St)  (t_19 : Int32) => cl (fX9_puts σ_18 q1_85 t_19) fun (σ_20 : St) (t_21 : Unit) => chk (decide (¬ (2 : Int32) = 0)) ((jp (fun (σ_22 : St)  (t_23 : Int32) => cl (fX9_puts σ_22 q2_85 t_23) fun (σ_24 : St) (t_25 : Unit) => cl (fX9_sells σ_24 ) fun (σ_26 : St) (t_27 : Unit) => chk (inb q1_85 4) (chk (inb c6_85 4) (bnd (sL σ_26 30 (ix c6_85) (σ_26.2 23 (ix q1_85))) fun (σ_28 : St) => chk (inb q2_85 4) (chk (inb c6_85 4) (bnd (sL σ_28 31 (ix c6_85) (σ_28.2 23 (ix q2_85))) fun (σ_29 : St) => bnd (c6_85 + (1 : Int32)) fun (x6_30 : Int32) => fX9_lots_L85 q1_85 q2_85 q3_85 q4_85 q5_85 kx85 n85 σ_29 x6_30))))) fun j123 => (if (c6_85 - c6_85 / (2 : Int32) * (2 : Int32)) = 0 then j123 σ_20 q3_85 else j123 σ_20 q4_85)))) fun j105 => (if (2 : Int32) ≤ c6_85 then j105 σ q4_85 else j105 σ q3_85)))
def fX9_lots (σ : St) (p1 : Int32) (p2 : Int32) (p3 : Int32) (p4 : Int32) (p5 : Int32) : Option (St × Int64) :=
  cl (fX9_isBaker σ p1) fun (σ_1 : St) (t_2 : Int32) => (if t_2 = 0 then some (σ_1, (-1 : Int64)) else cl (fX9_isBaker σ_1 p2) fun (σ_3 : St) (t_4 : Int32) => (if t_4 = 0 then some (σ_3, (-1 : Int64)) else (if p1 = p2 then some (σ_3, (-1 : Int64)) else cl (fX9_isStep σ_3 p3) fun (σ_5 : St) (t_6 : Int32) => (if t_6 = 0 then some (σ_5, (-1 : Int64)) else cl (fX9_isStep σ_5 p4) fun (σ_7 : St) (t_8 : Int32) => (if t_8 = 0 then some (σ_7, (-1 : Int64)) else (if p4 ≤ p3 then some (σ_7, (-1 : Int64)) else cl (fX9_isBarred σ_7 p3) fun (σ_9 : St) (t_10 : Int32) => (if t_10 = 0 then cl (fX9_isBarred σ_9 p4) fun (σ_11 : St) (t_12 : Int32) => (if t_12 = 0 then cl (fX9_isIn σ_11 p5 (0 : Int32) (3 : Int32)) fun (σ_13 : St) (t_14 : Int32) => (if t_14 = 0 then some (σ_13, (-1 : Int64)) else cl (fX9_areReady σ_13 ) fun (σ_15 : St) (t_16 : Int32) => (if t_16 = 0 then some (σ_15, (-1 : Int64)) else bnd (0 : Int32) fun (x6_17 : Int32) => fX9_lots_L85 p1 p2 p3 p4 p5 (fun (σ_31 : St) (x6_32 : Int32) => cl (fX9_isUnrest σ_31 ) fun (σ_33 : St) (t_34 : Int32) => (if t_34 = 0 then some (σ_33, (-1 : Int64)) else (jp (fun (σ_35 : St)  (t_36 : Int64) => bnd t_36 fun (x6_37 : Int64) => (jp (fun (σ_38 : St)  (t_39 : Int64) => bnd t_39 fun (x8_40 : Int64) => cl (fX9_divisor σ_38 x6_37 x8_40) fun (σ_41 : St) (t_42 : Int64) => (jp (fun (σ_43 : St)  (t_44 : Int64) => bnd (t_42 * t_44) fun (x10_45 : Int64) => chk (decide (¬ (2 : Int32) = 0)) ((if (p5 - p5 / (2 : Int32) * (2 : Int32)) = 0 then chk (decide (¬ x10_45 = 0)) (some (σ_43, (x6_37 / x10_45))) else chk (decide (¬ x10_45 = 0)) (some (σ_43, (x8_40 / x10_45)))))) fun j296 => (if 0 ≤ (lg_cmp x8_40 (0 : Int64)) then j296 σ_41 (1 : Int64) else j296 σ_41 (-1 : Int64)))) fun j273 => (if (2 : Int32) ≤ p5 then chk (inb (0 : Int32) 4) (chk (inb (1 : Int32) 4) (chk (inb (2 : Int32) 4) (chk (inb (3 : Int32) 4) (j273 σ_35 ((((σ_35.2 30 (ix (0 : Int32))) - (σ_35.2 30 (ix (1 : Int32)))) - (σ_35.2 30 (ix (2 : Int32)))) + (σ_35.2 30 (ix (3 : Int32)))))))) else chk (inb (0 : Int32) 4) (chk (inb (1 : Int32) 4) (chk (inb (2 : Int32) 4) (chk (inb (3 : Int32) 4) (j273 σ_35 ((((σ_35.2 31 (ix (0 : Int32))) - (σ_35.2 31 (ix (1 : Int32)))) - (σ_35.2 31 (ix (2 : Int32)))) + (σ_35.2 31 (ix (3 : Int32))))))))))) fun j208 => (if (2 : Int32) ≤ p5 then chk (inb (3 : Int32) 4) (chk (inb (1 : Int32) 4) (j208 σ_33 ((σ_33.2 30 (ix (3 : Int32))) - (σ_33.2 30 (ix (1 : Int32)))))) else chk (inb (3 : Int32) 4) (chk (inb (2 : Int32) 4) (j208 σ_33 ((σ_33.2 31 (ix (3 : Int32))) - (σ_33.2 31 (ix (2 : Int32)))))))))) FU σ_15 x6_17)) else some (σ_11, (-1 : Int64))) else some (σ_9, (-1 : Int64)))))))))
set_option maxRecDepth 20000 in
set_option maxHeartbeats 4000000 in
theorem sX9_lots_L85 {X : CX} {a : Nat → Nat} {D : va_G} {tI tJ tB : ClassId} {zz : SV} {q1_85 : Int32} {q2_85 : Int32} {q3_85 : Int32} {q4_85 : Int32} {q5_85 : Int32} {kx85 : St → Int32 → Option (St × Int64)} {r : St × Int64} (hX : OKX X (vM a D tI tJ tB zz) cX9_lots 12 RX9 10 228) (hR : ∀ (pc : Nat) (lv : List (Nat × Value)), decode cX9_lots pc = .ok (.lreturn, 1) → G X (vM a D tI tJ tB zz) 12 r.1 pc lv [.long r.2]) (hkx85 : ∀ (σ : St) (e6_85 : Int32), kx85 σ e6_85 = some r → G X (vM a D tI tJ tB zz) 12 σ 162 [(0, .ref (a 0)), (5, .int q5_85)] []) : ∀ (n : Nat) (σ : St) (c6_85 : Int32), fX9_lots_L85 q1_85 q2_85 q3_85 q4_85 q5_85 kx85 n σ c6_85 = some r → G X (vM a D tI tJ tB zz) 12 σ 85 [(0, .ref (a 0)), (1, .int q1_85), (2, .int q2_85), (3, .int q3_85), (4, .int q4_85), (5, .int q5_85), (6, .int c6_85)] [] := by
  intro n
  induction n with
  | zero => intro σ c6_85 h; rw [fX9_lots_L85] at h; exact absurd h (by simp)
  | succ n85 ih85 =>
    intro σ c6_85 h
    rw [fX9_lots_L85] at h
    refine g_iload hX 6 dX9_lots_85 rfl ?_
    refine g_iconst hX (4) dX9_lots_87 (by decide) ?_
    refine g_icmp_ge hX 162 dX9_lots_88 (by decide) h (fun h => ?_) (fun h => ?_)
    · exact g_sub [0, 5] rfl (hkx85 _ _ h)
    · refine g_aload_n hX 0 dX9_lots_91 rfl rfl ?_
      refine g_iload_n hX 1 dX9_lots_92 rfl rfl ?_
      refine g_iload hX 6 dX9_lots_93 rfl ?_
      refine g_iconst hX (2) dX9_lots_95 (by decide) ?_
      refine jp_inv (P := fun f => ∀ (σ_18 : St)  (t_19 : Int32), f σ_18 t_19 = some r → G X (vM a D tI tJ tB zz) 12 σ_18 105 [(0, .ref (a 0)), (1, .int q1_85), (2, .int q2_85), (3, .int q3_85), (4, .int q4_85), (5, .int q5_85), (6, .int c6_85)] [.int t_19, .int q1_85, .ref (a 0)]) h (fun σ_18 t_19 h => ?_) (fun j105 hj105 h => ?_)
      · refine g_callVV (As := [.int q1_85, .int t_19]) (rest := []) hX 0 (Nat.le_of_ble_eq_true rfl) rfl rfl miX9_puts mvX9_puts lkX9_305 (by decide) rfl (Nat.le_of_ble_eq_true rfl) rfl dX9_lots_105 (fun τ x ho => kX9_puts _ ho) h (fun σ_20 t_21 h => ?_)
        refine g_aload_n hX 0 dX9_lots_108 rfl rfl ?_
        refine g_iload_n hX 2 dX9_lots_109 rfl rfl ?_
        refine g_iload hX 6 dX9_lots_110 rfl ?_
        refine g_iconst hX (2) dX9_lots_112 (by decide) ?_
        refine g_irem hX dX9_lots_113 h (fun h => ?_)
        refine jp_inv (P := fun f => ∀ (σ_22 : St)  (t_23 : Int32), f σ_22 t_23 = some r → G X (vM a D tI tJ tB zz) 12 σ_22 123 [(0, .ref (a 0)), (1, .int q1_85), (2, .int q2_85), (3, .int q3_85), (4, .int q4_85), (5, .int q5_85), (6, .int c6_85)] [.int t_23, .int q2_85, .ref (a 0)]) h (fun σ_22 t_23 h => ?_) (fun j123 hj123 h => ?_)
        · refine g_callVV (As := [.int q2_85, .int t_23]) (rest := []) hX 0 (Nat.le_of_ble_eq_true rfl) rfl rfl miX9_puts mvX9_puts lkX9_305 (by decide) rfl (Nat.le_of_ble_eq_true rfl) rfl dX9_lots_123 (fun τ x ho => kX9_puts _ ho) h (fun σ_24 t_25 h => ?_)
          refine g_aload_n hX 0 dX9_lots_126 rfl rfl ?_
          refine g_callVV (As := []) (rest := []) hX 0 (Nat.le_of_ble_eq_true rfl) rfl rfl miX9_sells mvX9_sells lkX9_351 (by decide) rfl (Nat.le_of_ble_eq_true rfl) rfl dX9_lots_127 (fun τ x ho => kX9_sells _ ho) h (fun σ_26 t_27 h => ?_)
          refine g_aload_n hX 0 dX9_lots_130 rfl rfl ?_
          refine gM_115 hX dX9_lots_131 ?_
          refine g_iload hX 6 dX9_lots_134 rfl ?_
          refine g_aload_n hX 0 dX9_lots_136 rfl rfl ?_
          refine gM_94 hX dX9_lots_137 ?_
          refine g_iload_n hX 1 dX9_lots_140 rfl rfl ?_
          refine alM_23 hX dX9_lots_141 h (fun h => ?_)
          refine asM_30 hX dX9_lots_142 h (fun σ_28 h => ?_)
          refine g_aload_n hX 0 dX9_lots_143 rfl rfl ?_
          refine gM_118 hX dX9_lots_144 ?_
          refine g_iload hX 6 dX9_lots_147 rfl ?_
          refine g_aload_n hX 0 dX9_lots_149 rfl rfl ?_
          refine gM_94 hX dX9_lots_150 ?_
          refine g_iload_n hX 2 dX9_lots_153 rfl rfl ?_
          refine alM_23 hX dX9_lots_154 h (fun h => ?_)
          refine asM_31 hX dX9_lots_155 h (fun σ_29 h => ?_)
          refine g_iinc (y := (1)) (lv' := fun x6_30 => [(6, .int x6_30), (0, .ref (a 0)), (1, .int q1_85), (2, .int q2_85), (3, .int q3_85), (4, .int q4_85), (5, .int q5_85)]) hX 6 dX9_lots_156 rfl (by decide) (by decide) (fun _ => rfl) h (fun x6_30 h => ?_)
          refine g_goto hX 85 dX9_lots_159 (by decide) ?_
          exact g_sub [1, 2, 3, 4, 5, 6, 0] rfl (ih85 _ _ h)
        refine g_if_ne hX 121 dX9_lots_114 (by decide) h (fun h => ?_) (fun h => ?_)
        · refine g_iload hX 4 dX9_lots_121 rfl ?_
          exact g_sub [0, 1, 2, 3, 4, 5, 6] rfl (hj123 _ _ h)
        · refine g_iload_n hX 3 dX9_lots_117 rfl rfl ?_
          refine g_goto hX 123 dX9_lots_118 (by decide) ?_
          exact g_sub [0, 1, 2, 3, 4, 5, 6] rfl (hj123 _ _ h)
      refine g_icmp_ge hX 103 dX9_lots_96 (by decide) h (fun h => ?_) (fun h => ?_)
      · refine g_iload hX 4 dX9_lots_103 rfl ?_
        exact g_sub [0, 1, 2, 3, 4, 5, 6] rfl (hj105 _ _ h)
      · refine g_iload_n hX 3 dX9_lots_99 rfl rfl ?_
        refine g_goto hX 105 dX9_lots_100 (by decide) ?_
        exact g_sub [0, 1, 2, 3, 4, 5, 6] rfl (hj105 _ _ h)
set_option maxRecDepth 20000 in
set_option maxHeartbeats 4000000 in
theorem sX9_lots {X : CX} {a : Nat → Nat} {D : va_G} {tI tJ tB : ClassId} {zz : SV} {σ : St}  {p1 : Int32} {p2 : Int32} {p3 : Int32} {p4 : Int32} {p5 : Int32} {r : St × Int64} (hX : OKX X (vM a D tI tJ tB zz) cX9_lots 12 RX9 10 228) (hR : ∀ (pc : Nat) (lv : List (Nat × Value)), decode cX9_lots pc = .ok (.lreturn, 1) → G X (vM a D tI tJ tB zz) 12 r.1 pc lv [.long r.2]) (h : fX9_lots σ p1 p2 p3 p4 p5 = some r) : G X (vM a D tI tJ tB zz) 12 σ 0 [(0, .ref (a 0)), (1, .int p1), (2, .int p2), (3, .int p3), (4, .int p4), (5, .int p5)] [] := by
  unfold fX9_lots at h
  refine g_aload_n hX 0 dX9_lots_0 rfl rfl ?_
  refine g_iload_n hX 1 dX9_lots_1 rfl rfl ?_
  refine g_callVI (As := [.int p1]) (rest := []) hX 0 (Nat.le_of_ble_eq_true rfl) rfl rfl miX9_isBaker mvX9_isBaker lkX9_287 (by decide) rfl (Nat.le_of_ble_eq_true rfl) rfl dX9_lots_2 (fun τ x ho => kX9_isBaker _ ho) h (fun σ_1 t_2 h => ?_)
  refine g_if_eq hX 78 dX9_lots_5 (by decide) h (fun h => ?_) (fun h => ?_)
  · refine g_ldc2 hX lkX9_370 dX9_lots_78 ?_
    exact g_retl hR h dX9_lots_81
  · refine g_aload_n hX 0 dX9_lots_8 rfl rfl ?_
    refine g_iload_n hX 2 dX9_lots_9 rfl rfl ?_
    refine g_callVI (As := [.int p2]) (rest := []) hX 0 (Nat.le_of_ble_eq_true rfl) rfl rfl miX9_isBaker mvX9_isBaker lkX9_287 (by decide) rfl (Nat.le_of_ble_eq_true rfl) rfl dX9_lots_10 (fun τ x ho => kX9_isBaker _ ho) h (fun σ_3 t_4 h => ?_)
    refine g_if_eq hX 78 dX9_lots_13 (by decide) h (fun h => ?_) (fun h => ?_)
    · refine g_ldc2 hX lkX9_370 dX9_lots_78 ?_
      exact g_retl hR h dX9_lots_81
    · refine g_iload_n hX 1 dX9_lots_16 rfl rfl ?_
      refine g_iload_n hX 2 dX9_lots_17 rfl rfl ?_
      refine g_icmp_eq hX 78 dX9_lots_18 (by decide) h (fun h => ?_) (fun h => ?_)
      · refine g_ldc2 hX lkX9_370 dX9_lots_78 ?_
        exact g_retl hR h dX9_lots_81
      · refine g_aload_n hX 0 dX9_lots_21 rfl rfl ?_
        refine g_iload_n hX 3 dX9_lots_22 rfl rfl ?_
        refine g_callVI (As := [.int p3]) (rest := []) hX 0 (Nat.le_of_ble_eq_true rfl) rfl rfl miX9_isStep mvX9_isStep lkX9_290 (by decide) rfl (Nat.le_of_ble_eq_true rfl) rfl dX9_lots_23 (fun τ x ho => kX9_isStep _ ho) h (fun σ_5 t_6 h => ?_)
        refine g_if_eq hX 78 dX9_lots_26 (by decide) h (fun h => ?_) (fun h => ?_)
        · refine g_ldc2 hX lkX9_370 dX9_lots_78 ?_
          exact g_retl hR h dX9_lots_81
        · refine g_aload_n hX 0 dX9_lots_29 rfl rfl ?_
          refine g_iload hX 4 dX9_lots_30 rfl ?_
          refine g_callVI (As := [.int p4]) (rest := []) hX 0 (Nat.le_of_ble_eq_true rfl) rfl rfl miX9_isStep mvX9_isStep lkX9_290 (by decide) rfl (Nat.le_of_ble_eq_true rfl) rfl dX9_lots_32 (fun τ x ho => kX9_isStep _ ho) h (fun σ_7 t_8 h => ?_)
          refine g_if_eq hX 78 dX9_lots_35 (by decide) h (fun h => ?_) (fun h => ?_)
          · refine g_ldc2 hX lkX9_370 dX9_lots_78 ?_
            exact g_retl hR h dX9_lots_81
          · refine g_iload_n hX 3 dX9_lots_38 rfl rfl ?_
            refine g_iload hX 4 dX9_lots_39 rfl ?_
            refine g_icmp_ge hX 78 dX9_lots_41 (by decide) h (fun h => ?_) (fun h => ?_)
            · refine g_ldc2 hX lkX9_370 dX9_lots_78 ?_
              exact g_retl hR h dX9_lots_81
            · refine g_aload_n hX 0 dX9_lots_44 rfl rfl ?_
              refine g_iload_n hX 3 dX9_lots_45 rfl rfl ?_
              refine g_callVI (As := [.int p3]) (rest := []) hX 0 (Nat.le_of_ble_eq_true rfl) rfl rfl miX9_isBarred mvX9_isBarred lkX9_293 (by decide) rfl (Nat.le_of_ble_eq_true rfl) rfl dX9_lots_46 (fun τ x ho => kX9_isBarred _ ho) h (fun σ_9 t_10 h => ?_)
              refine g_if_ne hX 78 dX9_lots_49 (by decide) h (fun h => ?_) (fun h => ?_)
              · refine g_ldc2 hX lkX9_370 dX9_lots_78 ?_
                exact g_retl hR h dX9_lots_81
              · refine g_aload_n hX 0 dX9_lots_52 rfl rfl ?_
                refine g_iload hX 4 dX9_lots_53 rfl ?_
                refine g_callVI (As := [.int p4]) (rest := []) hX 0 (Nat.le_of_ble_eq_true rfl) rfl rfl miX9_isBarred mvX9_isBarred lkX9_293 (by decide) rfl (Nat.le_of_ble_eq_true rfl) rfl dX9_lots_55 (fun τ x ho => kX9_isBarred _ ho) h (fun σ_11 t_12 h => ?_)
                refine g_if_ne hX 78 dX9_lots_58 (by decide) h (fun h => ?_) (fun h => ?_)
                · refine g_ldc2 hX lkX9_370 dX9_lots_78 ?_
                  exact g_retl hR h dX9_lots_81
                · refine g_iload hX 5 dX9_lots_61 rfl ?_
                  refine g_iconst hX (0) dX9_lots_63 (by decide) ?_
                  refine g_iconst hX (3) dX9_lots_64 (by decide) ?_
                  refine g_callSI (As := [.int p5, .int (0 : Int32), .int (3 : Int32)]) (rest := []) hX miX9_isIn mvX9_isIn lkX9_156 (by decide) rfl (Nat.le_of_ble_eq_true rfl) rfl dX9_lots_65 (fun τ x ho => kX9_isIn _ ho) h (fun σ_13 t_14 h => ?_)
                  refine g_if_eq hX 78 dX9_lots_68 (by decide) h (fun h => ?_) (fun h => ?_)
                  · refine g_ldc2 hX lkX9_370 dX9_lots_78 ?_
                    exact g_retl hR h dX9_lots_81
                  · refine g_aload_n hX 0 dX9_lots_71 rfl rfl ?_
                    refine g_callVI (As := []) (rest := []) hX 0 (Nat.le_of_ble_eq_true rfl) rfl rfl miX9_areReady mvX9_areReady lkX9_367 (by decide) rfl (Nat.le_of_ble_eq_true rfl) rfl dX9_lots_72 (fun τ x ho => kX9_areReady _ ho) h (fun σ_15 t_16 h => ?_)
                    refine g_if_ne hX 82 dX9_lots_75 (by decide) h (fun h => ?_) (fun h => ?_)
                    · refine g_iconst hX (0) dX9_lots_82 (by decide) ?_
                      refine g_istore (lv' := fun x6_17 => [(6, .int x6_17), (0, .ref (a 0)), (1, .int p1), (2, .int p2), (3, .int p3), (4, .int p4), (5, .int p5)]) hX dX9_lots_83 (by decide) (fun _ => rfl) h (fun x6_17 h => ?_)
                      refine g_sub [1, 2, 3, 4, 5, 6, 0] rfl (sX9_lots_L85 hX hR (fun σ_31 x6_32 h => ?_) FU _ _ h)
                      refine g_aload_n hX 0 dX9_lots_162 rfl rfl ?_
                      refine g_callVI (As := []) (rest := []) hX 0 (Nat.le_of_ble_eq_true rfl) rfl rfl miX9_isUnrest mvX9_isUnrest lkX9_427 (by decide) rfl (Nat.le_of_ble_eq_true rfl) rfl dX9_lots_163 (fun τ x ho => kX9_isUnrest _ ho) h (fun σ_33 t_34 h => ?_)
                      refine g_if_ne hX 173 dX9_lots_166 (by decide) h (fun h => ?_) (fun h => ?_)
                      · refine g_iload hX 1 dX9_lots_173 rfl ?_
                        refine g_iconst hX (2) dX9_lots_175 (by decide) ?_
                        refine jp_inv (P := fun f => ∀ (σ_35 : St)  (t_36 : Int64), f σ_35 t_36 = some r → G X (vM a D tI tJ tB zz) 12 σ_35 208 [(0, .ref (a 0)), (5, .int p5)] [.long t_36]) h (fun σ_35 t_36 h => ?_) (fun j208 hj208 h => ?_)
                        · refine g_lstore (lv' := fun x6_37 => [(6, .long x6_37), (0, .ref (a 0)), (5, .int p5)]) hX dX9_lots_208 (by decide) (fun _ => rfl) h (fun x6_37 h => ?_)
                          refine g_iload hX 2 dX9_lots_210 rfl ?_
                          refine g_iconst hX (2) dX9_lots_212 (by decide) ?_
                          refine jp_inv (P := fun f => ∀ (σ_38 : St)  (t_39 : Int64), f σ_38 t_39 = some r → G X (vM a D tI tJ tB zz) 12 σ_38 273 [(6, .long x6_37), (5, .int p5)] [.long t_39]) h (fun σ_38 t_39 h => ?_) (fun j273 hj273 h => ?_)
                          · refine g_lstore (lv' := fun x8_40 => [(8, .long x8_40), (6, .long x6_37), (5, .int p5)]) hX dX9_lots_273 (by decide) (fun _ => rfl) h (fun x8_40 h => ?_)
                            refine g_lload hX 1 dX9_lots_275 rfl ?_
                            refine g_lload hX 0 dX9_lots_277 rfl ?_
                            refine g_callSL (As := [.long x6_37, .long x8_40]) (rest := []) hX miX9_divisor mvX9_divisor lkX9_430 (by decide) rfl (Nat.le_of_ble_eq_true rfl) rfl dX9_lots_279 (fun τ x ho => kX9_divisor _ ho) h (fun σ_41 t_42 h => ?_)
                            refine g_lload hX 0 dX9_lots_282 rfl ?_
                            refine g_lconst hX (0) dX9_lots_284 (by decide) ?_
                            refine g_lcmp hX dX9_lots_285 ?_
                            refine jp_inv (P := fun f => ∀ (σ_43 : St)  (t_44 : Int64), f σ_43 t_44 = some r → G X (vM a D tI tJ tB zz) 12 σ_43 296 [(8, .long x8_40), (6, .long x6_37), (5, .int p5)] [.long t_44, .long t_42]) h (fun σ_43 t_44 h => ?_) (fun j296 hj296 h => ?_)
                            · refine g_lmul hX dX9_lots_296 ?_
                              refine g_lstore (lv' := fun x10_45 => [(10, .long x10_45), (8, .long x8_40), (6, .long x6_37), (5, .int p5)]) hX dX9_lots_297 (by decide) (fun _ => rfl) h (fun x10_45 h => ?_)
                              refine g_iload hX 3 dX9_lots_299 rfl ?_
                              refine g_iconst hX (2) dX9_lots_301 (by decide) ?_
                              refine g_irem hX dX9_lots_302 h (fun h => ?_)
                              refine g_if_ne hX 311 dX9_lots_303 (by decide) h (fun h => ?_) (fun h => ?_)
                              · refine g_lload hX 1 dX9_lots_311 rfl ?_
                                refine g_lload hX 0 dX9_lots_313 rfl ?_
                                refine g_ldiv hX dX9_lots_315 h (fun h => ?_)
                                exact g_retl hR h dX9_lots_316
                              · refine g_lload hX 2 dX9_lots_306 rfl ?_
                                refine g_goto hX 313 dX9_lots_308 (by decide) ?_
                                refine g_lload hX 0 dX9_lots_313 rfl ?_
                                refine g_ldiv hX dX9_lots_315 h (fun h => ?_)
                                exact g_retl hR h dX9_lots_316
                            refine g_if_ge hX 295 dX9_lots_286 (by decide) h (fun h => ?_) (fun h => ?_)
                            · refine g_lconst hX (1) dX9_lots_295 (by decide) ?_
                              exact g_sub [0, 1, 2] rfl (hj296 _ _ h)
                            · refine g_ldc2 hX lkX9_370 dX9_lots_289 ?_
                              refine g_goto hX 296 dX9_lots_292 (by decide) ?_
                              exact g_sub [0, 1, 2] rfl (hj296 _ _ h)
                          refine g_icmp_ge hX 246 dX9_lots_213 (by decide) h (fun h => ?_) (fun h => ?_)
                          · refine g_aload_n hX 1 dX9_lots_246 rfl rfl ?_
                            refine gM_115 hX dX9_lots_247 ?_
                            refine g_iconst hX (0) dX9_lots_250 (by decide) ?_
                            refine alM_30 hX dX9_lots_251 h (fun h => ?_)
                            refine g_aload_n hX 1 dX9_lots_252 rfl rfl ?_
                            refine gM_115 hX dX9_lots_253 ?_
                            refine g_iconst hX (1) dX9_lots_256 (by decide) ?_
                            refine alM_30 hX dX9_lots_257 h (fun h => ?_)
                            refine g_lsub hX dX9_lots_258 ?_
                            refine g_aload_n hX 1 dX9_lots_259 rfl rfl ?_
                            refine gM_115 hX dX9_lots_260 ?_
                            refine g_iconst hX (2) dX9_lots_263 (by decide) ?_
                            refine alM_30 hX dX9_lots_264 h (fun h => ?_)
                            refine g_lsub hX dX9_lots_265 ?_
                            refine g_aload_n hX 1 dX9_lots_266 rfl rfl ?_
                            refine gM_115 hX dX9_lots_267 ?_
                            refine g_iconst hX (3) dX9_lots_270 (by decide) ?_
                            refine alM_30 hX dX9_lots_271 h (fun h => ?_)
                            refine g_ladd hX dX9_lots_272 ?_
                            exact g_sub [0, 2] rfl (hj273 _ _ h)
                          · refine g_aload_n hX 1 dX9_lots_216 rfl rfl ?_
                            refine gM_118 hX dX9_lots_217 ?_
                            refine g_iconst hX (0) dX9_lots_220 (by decide) ?_
                            refine alM_31 hX dX9_lots_221 h (fun h => ?_)
                            refine g_aload_n hX 1 dX9_lots_222 rfl rfl ?_
                            refine gM_118 hX dX9_lots_223 ?_
                            refine g_iconst hX (1) dX9_lots_226 (by decide) ?_
                            refine alM_31 hX dX9_lots_227 h (fun h => ?_)
                            refine g_lsub hX dX9_lots_228 ?_
                            refine g_aload_n hX 1 dX9_lots_229 rfl rfl ?_
                            refine gM_118 hX dX9_lots_230 ?_
                            refine g_iconst hX (2) dX9_lots_233 (by decide) ?_
                            refine alM_31 hX dX9_lots_234 h (fun h => ?_)
                            refine g_lsub hX dX9_lots_235 ?_
                            refine g_aload_n hX 1 dX9_lots_236 rfl rfl ?_
                            refine gM_118 hX dX9_lots_237 ?_
                            refine g_iconst hX (3) dX9_lots_240 (by decide) ?_
                            refine alM_31 hX dX9_lots_241 h (fun h => ?_)
                            refine g_ladd hX dX9_lots_242 ?_
                            refine g_goto hX 273 dX9_lots_243 (by decide) ?_
                            exact g_sub [0, 2] rfl (hj273 _ _ h)
                        refine g_icmp_ge hX 195 dX9_lots_176 (by decide) h (fun h => ?_) (fun h => ?_)
                        · refine g_aload_n hX 0 dX9_lots_195 rfl rfl ?_
                          refine gM_115 hX dX9_lots_196 ?_
                          refine g_iconst hX (3) dX9_lots_199 (by decide) ?_
                          refine alM_30 hX dX9_lots_200 h (fun h => ?_)
                          refine g_aload_n hX 0 dX9_lots_201 rfl rfl ?_
                          refine gM_115 hX dX9_lots_202 ?_
                          refine g_iconst hX (1) dX9_lots_205 (by decide) ?_
                          refine alM_30 hX dX9_lots_206 h (fun h => ?_)
                          refine g_lsub hX dX9_lots_207 ?_
                          exact g_sub [0, 1] rfl (hj208 _ _ h)
                        · refine g_aload_n hX 0 dX9_lots_179 rfl rfl ?_
                          refine gM_118 hX dX9_lots_180 ?_
                          refine g_iconst hX (3) dX9_lots_183 (by decide) ?_
                          refine alM_31 hX dX9_lots_184 h (fun h => ?_)
                          refine g_aload_n hX 0 dX9_lots_185 rfl rfl ?_
                          refine gM_118 hX dX9_lots_186 ?_
                          refine g_iconst hX (2) dX9_lots_189 (by decide) ?_
                          refine alM_31 hX dX9_lots_190 h (fun h => ?_)
                          refine g_lsub hX dX9_lots_191 ?_
                          refine g_goto hX 208 dX9_lots_192 (by decide) ?_
                          exact g_sub [0, 1] rfl (hj208 _ _ h)
                      · refine g_ldc2 hX lkX9_370 dX9_lots_169 ?_
                        exact g_retl hR h dX9_lots_172
                    · refine g_ldc2 hX lkX9_370 dX9_lots_78 ?_
                      exact g_retl hR h dX9_lots_81
set_option maxRecDepth 20000 in
set_option maxHeartbeats 4000000 in
theorem kX9_lots (l : Launch) {a : Nat → Nat} {D : va_G} {tI tJ tB : ClassId} {zz : SV} {σ τ : St}  {p1 : Int32} {p2 : Int32} {p3 : Int32} {p4 : Int32} {p5 : Int32} {x : Int64} (h : fX9_lots σ p1 p2 p3 p4 p5 = some (τ, x)) : CtL l yX9_lots cX9_lots 12 (some .long) 10 228 (vM a D tI tJ tB zz) σ [.ref (a 0), .int p1, .int p2, .int p3, .int p4, .int p5] τ x := g_metL (by decide) (Nat.le_of_ble_eq_true rfl) rfl (fun X _ hX hR => sX9_lots (r := (τ, x)) hX hR h)
def fX9_sees_L46 (q1_46 : Int32) (q2_46 : Int32) (kx46 : St → Int32 → Option (St × Unit)) : Nat → St → Int32 → Option (St × Unit)
  | 0, _, _ => none
  | n46 + 1, σ, c3_46 =>
    (if (8 : Int32) ≤ c3_46 then kx46 σ c3_46 else chk (inb (((8 : Int32) * q2_46) + c3_46) 32) (chk (inb (((((36 : Int32) * q1_46) + ((9 : Int32) * q2_46)) + (1 : Int32)) + c3_46) 2196) (bnd (sI σ 32 (ix (((((36 : Int32) * q1_46) + ((9 : Int32) * q2_46)) + (1 : Int32)) + c3_46)) (σ.1 18 (ix (((8 : Int32) * q2_46) + c3_46)))) fun (σ_6 : St) => bnd (c3_46 + (1 : Int32)) fun (x3_7 : Int32) => fX9_sees_L46 q1_46 q2_46 kx46 n46 σ_6 x3_7)))
def fX9_sees_L2 (q1_2 : Int32) (kx2 : St → Int32 → Option (St × Unit)) : Nat → St → Int32 → Option (St × Unit)
  | 0, _, _ => none
  | n2 + 1, σ, c2_2 =>
    (if (σ.1 0 0) ≤ c2_2 then kx2 σ c2_2 else chk (inb c2_2 4) ((jp (fun (σ_2 : St)  (t_3 : Int32) => chk (inb (((36 : Int32) * q1_2) + ((9 : Int32) * c2_2)) 2196) (bnd (sI σ_2 32 (ix (((36 : Int32) * q1_2) + ((9 : Int32) * c2_2))) t_3) fun (σ_4 : St) => bnd (0 : Int32) fun (x3_5 : Int32) => fX9_sees_L46 q1_2 c2_2 (fun (σ_8 : St) (x3_9 : Int32) => bnd (c2_2 + (1 : Int32)) fun (x2_10 : Int32) => fX9_sees_L2 q1_2 kx2 n2 σ_8 x2_10) FU σ_4 x3_5)) fun j43 => (if (σ.1 15 (ix c2_2)) = (1 : Int32) then chk (inb c2_2 4) (j43 σ (σ.1 16 (ix c2_2))) else j43 σ (-1 : Int32)))))
def fX9_sees (σ : St) (p1 : Int32) : Option (St × Unit) :=
  bnd (0 : Int32) fun (x2_1 : Int32) => fX9_sees_L2 p1 (fun (σ_11 : St) (x2_12 : Int32) => some (σ_11, ())) FU σ x2_1
set_option maxRecDepth 20000 in
set_option maxHeartbeats 4000000 in
theorem sX9_sees_L46 {X : CX} {a : Nat → Nat} {D : va_G} {tI tJ tB : ClassId} {zz : SV} {q1_46 : Int32} {q2_46 : Int32} {kx46 : St → Int32 → Option (St × Unit)} {r : St × Unit} (hX : OKX X (vM a D tI tJ tB zz) cX9_sees 4 RX9 0 0) (hR : ∀ (pc : Nat) (lv : List (Nat × Value)), decode cX9_sees pc = .ok (.return_, 1) → G X (vM a D tI tJ tB zz) 4 r.1 pc lv []) (hkx46 : ∀ (σ : St) (e3_46 : Int32), kx46 σ e3_46 = some r → G X (vM a D tI tJ tB zz) 4 σ 87 [(0, .ref (a 0)), (1, .int q1_46), (2, .int q2_46)] []) : ∀ (n : Nat) (σ : St) (c3_46 : Int32), fX9_sees_L46 q1_46 q2_46 kx46 n σ c3_46 = some r → G X (vM a D tI tJ tB zz) 4 σ 46 [(0, .ref (a 0)), (1, .int q1_46), (2, .int q2_46), (3, .int c3_46)] [] := by
  intro n
  induction n with
  | zero => intro σ c3_46 h; rw [fX9_sees_L46] at h; exact absurd h (by simp)
  | succ n46 ih46 =>
    intro σ c3_46 h
    rw [fX9_sees_L46] at h
    refine g_iload_n hX 3 dX9_sees_46 rfl rfl ?_
    refine g_bipush hX (8) dX9_sees_47 (by decide) ?_
    refine g_icmp_ge hX 87 dX9_sees_49 (by decide) h (fun h => ?_) (fun h => ?_)
    · exact g_sub [0, 1, 2] rfl (hkx46 _ _ h)
    · refine g_aload_n hX 0 dX9_sees_52 rfl rfl ?_
      refine gM_121 hX dX9_sees_53 ?_
      refine g_bipush hX (36) dX9_sees_56 (by decide) ?_
      refine g_iload_n hX 1 dX9_sees_58 rfl rfl ?_
      refine g_imul hX dX9_sees_59 ?_
      refine g_bipush hX (9) dX9_sees_60 (by decide) ?_
      refine g_iload_n hX 2 dX9_sees_62 rfl rfl ?_
      refine g_imul hX dX9_sees_63 ?_
      refine g_iadd hX dX9_sees_64 ?_
      refine g_iconst hX (1) dX9_sees_65 (by decide) ?_
      refine g_iadd hX dX9_sees_66 ?_
      refine g_iload_n hX 3 dX9_sees_67 rfl rfl ?_
      refine g_iadd hX dX9_sees_68 ?_
      refine g_aload_n hX 0 dX9_sees_69 rfl rfl ?_
      refine gM_79 hX dX9_sees_70 ?_
      refine g_bipush hX (8) dX9_sees_73 (by decide) ?_
      refine g_iload_n hX 2 dX9_sees_75 rfl rfl ?_
      refine g_imul hX dX9_sees_76 ?_
      refine g_iload_n hX 3 dX9_sees_77 rfl rfl ?_
      refine g_iadd hX dX9_sees_78 ?_
      refine alM_18 hX dX9_sees_79 h (fun h => ?_)
      refine asM_32 hX dX9_sees_80 h (fun σ_6 h => ?_)
      refine g_iinc (y := (1)) (lv' := fun x3_7 => [(3, .int x3_7), (0, .ref (a 0)), (1, .int q1_46), (2, .int q2_46)]) hX 3 dX9_sees_81 rfl (by decide) (by decide) (fun _ => rfl) h (fun x3_7 h => ?_)
      refine g_goto hX 46 dX9_sees_84 (by decide) ?_
      exact g_sub [1, 2, 3, 0] rfl (ih46 _ _ h)
set_option maxRecDepth 20000 in
set_option maxHeartbeats 4000000 in
theorem sX9_sees_L2 {X : CX} {a : Nat → Nat} {D : va_G} {tI tJ tB : ClassId} {zz : SV} {q1_2 : Int32} {kx2 : St → Int32 → Option (St × Unit)} {r : St × Unit} (hX : OKX X (vM a D tI tJ tB zz) cX9_sees 4 RX9 0 0) (hR : ∀ (pc : Nat) (lv : List (Nat × Value)), decode cX9_sees pc = .ok (.return_, 1) → G X (vM a D tI tJ tB zz) 4 r.1 pc lv []) (hkx2 : ∀ (σ : St) (e2_2 : Int32), kx2 σ e2_2 = some r → G X (vM a D tI tJ tB zz) 4 σ 93 [] []) : ∀ (n : Nat) (σ : St) (c2_2 : Int32), fX9_sees_L2 q1_2 kx2 n σ c2_2 = some r → G X (vM a D tI tJ tB zz) 4 σ 2 [(0, .ref (a 0)), (1, .int q1_2), (2, .int c2_2)] [] := by
  intro n
  induction n with
  | zero => intro σ c2_2 h; rw [fX9_sees_L2] at h; exact absurd h (by simp)
  | succ n2 ih2 =>
    intro σ c2_2 h
    rw [fX9_sees_L2] at h
    refine g_iload_n hX 2 dX9_sees_2 rfl rfl ?_
    refine g_aload_n hX 0 dX9_sees_3 rfl rfl ?_
    refine gM_260 hX dX9_sees_4 ?_
    refine g_icmp_ge hX 93 dX9_sees_7 (by decide) h (fun h => ?_) (fun h => ?_)
    · exact g_sub [] rfl (hkx2 _ _ h)
    · refine g_aload_n hX 0 dX9_sees_10 rfl rfl ?_
      refine gM_121 hX dX9_sees_11 ?_
      refine g_bipush hX (36) dX9_sees_14 (by decide) ?_
      refine g_iload_n hX 1 dX9_sees_16 rfl rfl ?_
      refine g_imul hX dX9_sees_17 ?_
      refine g_bipush hX (9) dX9_sees_18 (by decide) ?_
      refine g_iload_n hX 2 dX9_sees_20 rfl rfl ?_
      refine g_imul hX dX9_sees_21 ?_
      refine g_iadd hX dX9_sees_22 ?_
      refine g_aload_n hX 0 dX9_sees_23 rfl rfl ?_
      refine gM_70 hX dX9_sees_24 ?_
      refine g_iload_n hX 2 dX9_sees_27 rfl rfl ?_
      refine alM_15 hX dX9_sees_28 h (fun h => ?_)
      refine g_iconst hX (1) dX9_sees_29 (by decide) ?_
      refine jp_inv (P := fun f => ∀ (σ_2 : St)  (t_3 : Int32), f σ_2 t_3 = some r → G X (vM a D tI tJ tB zz) 4 σ_2 43 [(0, .ref (a 0)), (1, .int q1_2), (2, .int c2_2)] [.int t_3, .int (((36 : Int32) * q1_2) + ((9 : Int32) * c2_2)), .ref (a 32)]) h (fun σ_2 t_3 h => ?_) (fun j43 hj43 h => ?_)
      · refine asM_32 hX dX9_sees_43 h (fun σ_4 h => ?_)
        refine g_iconst hX (0) dX9_sees_44 (by decide) ?_
        refine g_istore_n (lv' := fun x3_5 => [(3, .int x3_5), (0, .ref (a 0)), (1, .int q1_2), (2, .int c2_2)]) hX dX9_sees_45 rfl (by decide) (fun _ => rfl) h (fun x3_5 h => ?_)
        refine g_sub [1, 2, 3, 0] rfl (sX9_sees_L46 hX hR (fun σ_8 x3_9 h => ?_) FU _ _ h)
        refine g_iinc (y := (1)) (lv' := fun x2_10 => [(2, .int x2_10), (0, .ref (a 0)), (1, .int q1_2)]) hX 2 dX9_sees_87 rfl (by decide) (by decide) (fun _ => rfl) h (fun x2_10 h => ?_)
        refine g_goto hX 2 dX9_sees_90 (by decide) ?_
        exact g_sub [1, 2, 0] rfl (ih2 _ _ h)
      refine g_icmp_ne hX 42 dX9_sees_30 (by decide) h (fun h => ?_) (fun h => ?_)
      · refine g_iconst hX (-1) dX9_sees_42 (by decide) ?_
        exact g_sub [0, 1, 2] rfl (hj43 _ _ h)
      · refine g_aload_n hX 0 dX9_sees_33 rfl rfl ?_
        refine gM_73 hX dX9_sees_34 ?_
        refine g_iload_n hX 2 dX9_sees_37 rfl rfl ?_
        refine alM_16 hX dX9_sees_38 h (fun h => ?_)
        refine g_goto hX 43 dX9_sees_39 (by decide) ?_
        exact g_sub [0, 1, 2] rfl (hj43 _ _ h)
set_option maxRecDepth 20000 in
set_option maxHeartbeats 4000000 in
theorem sX9_sees {X : CX} {a : Nat → Nat} {D : va_G} {tI tJ tB : ClassId} {zz : SV} {σ : St}  {p1 : Int32} {r : St × Unit} (hX : OKX X (vM a D tI tJ tB zz) cX9_sees 4 RX9 0 0) (hR : ∀ (pc : Nat) (lv : List (Nat × Value)), decode cX9_sees pc = .ok (.return_, 1) → G X (vM a D tI tJ tB zz) 4 r.1 pc lv []) (h : fX9_sees σ p1 = some r) : G X (vM a D tI tJ tB zz) 4 σ 0 [(0, .ref (a 0)), (1, .int p1)] [] := by
  unfold fX9_sees at h
  refine g_iconst hX (0) dX9_sees_0 (by decide) ?_
  refine g_istore_n (lv' := fun x2_1 => [(2, .int x2_1), (0, .ref (a 0)), (1, .int p1)]) hX dX9_sees_1 rfl (by decide) (fun _ => rfl) h (fun x2_1 h => ?_)
  refine g_sub [1, 2, 0] rfl (sX9_sees_L2 hX hR (fun σ_11 x2_12 h => ?_) FU _ _ h)
  exact g_retv hR h dX9_sees_93
set_option maxRecDepth 20000 in
set_option maxHeartbeats 4000000 in
theorem kX9_sees (l : Launch) {a : Nat → Nat} {D : va_G} {tI tJ tB : ClassId} {zz : SV} {σ τ : St}  {p1 : Int32} {x : Unit} (h : fX9_sees σ p1 = some (τ, x)) : CtV l yX9_sees cX9_sees 4 none 0 0 (vM a D tI tJ tB zz) σ [.ref (a 0), .int p1] τ x := g_metV (by decide) (Nat.le_of_ble_eq_true rfl) rfl (fun X _ hX hR => sX9_sees (r := (τ, x)) hX hR h)
def fX9_isLike_L5 (q1_5 : Int32) (q2_5 : Int32) (kx5 : St → Int32 → Int32 → Option (St × Int32)) : Nat → St → Int32 → Int32 → Option (St × Int32)
  | 0, _, _, _ => none
  | n5 + 1, σ, c3_5, c4_5 =>
    (if ((9 : Int32) * (σ.1 0 0)) ≤ c4_5 then kx5 σ c3_5 c4_5 else (jp (fun (σ_3 : St)  (t_4 : Int32) => bnd t_4 fun (x3_5 : Int32) => bnd (c4_5 + (1 : Int32)) fun (x4_6 : Int32) => fX9_isLike_L5 q1_5 q2_5 kx5 n5 σ_3 x3_5 x4_6) fun j53 => jp (fun (σ_7 : St)   => j53 σ_7 (0 : Int32)) fun j52 => (if c3_5 = 0 then j52 σ else chk (inb (((36 : Int32) * q1_5) + c4_5) 2196) (chk (inb (((36 : Int32) * q2_5) + c4_5) 2196) ((if (σ.1 32 (ix (((36 : Int32) * q1_5) + c4_5))) = (σ.1 32 (ix (((36 : Int32) * q2_5) + c4_5))) then j53 σ (1 : Int32) else j52 σ))))))
def fX9_isLike (σ : St) (p1 : Int32) (p2 : Int32) : Option (St × Int32) :=
  bnd (1 : Int32) fun (x3_1 : Int32) => bnd (0 : Int32) fun (x4_2 : Int32) => fX9_isLike_L5 p1 p2 (fun (σ_8 : St) (x3_9 : Int32) (x4_10 : Int32) => chk (isB x3_9) (some (σ_8, x3_9))) FU σ x3_1 x4_2
set_option maxRecDepth 20000 in
set_option maxHeartbeats 4000000 in
theorem sX9_isLike_L5 {X : CX} {a : Nat → Nat} {D : va_G} {tI tJ tB : ClassId} {zz : SV} {q1_5 : Int32} {q2_5 : Int32} {kx5 : St → Int32 → Int32 → Option (St × Int32)} {r : St × Int32} (hX : OKX X (vM a D tI tJ tB zz) cX9_isLike 5 RX9 0 0) (hR : (r.2 = 0 ∨ r.2 = 1) → ∀ (pc : Nat) (lv : List (Nat × Value)), decode cX9_isLike pc = .ok (.ireturn, 1) → G X (vM a D tI tJ tB zz) 5 r.1 pc lv [.int r.2]) (hkx5 : ∀ (σ : St) (e3_5 : Int32) (e4_5 : Int32), kx5 σ e3_5 e4_5 = some r → G X (vM a D tI tJ tB zz) 5 σ 60 [(3, .int e3_5)] []) : ∀ (n : Nat) (σ : St) (c3_5 : Int32) (c4_5 : Int32), fX9_isLike_L5 q1_5 q2_5 kx5 n σ c3_5 c4_5 = some r → G X (vM a D tI tJ tB zz) 5 σ 5 [(0, .ref (a 0)), (1, .int q1_5), (2, .int q2_5), (3, .int c3_5), (4, .int c4_5)] [] := by
  intro n
  induction n with
  | zero => intro σ c3_5 c4_5 h; rw [fX9_isLike_L5] at h; exact absurd h (by simp)
  | succ n5 ih5 =>
    intro σ c3_5 c4_5 h
    rw [fX9_isLike_L5] at h
    refine g_iload hX 4 dX9_isLike_5 rfl ?_
    refine g_bipush hX (9) dX9_isLike_7 (by decide) ?_
    refine g_aload_n hX 0 dX9_isLike_9 rfl rfl ?_
    refine gM_260 hX dX9_isLike_10 ?_
    refine g_imul hX dX9_isLike_13 ?_
    refine g_icmp_ge hX 60 dX9_isLike_14 (by decide) h (fun h => ?_) (fun h => ?_)
    · exact g_sub [3] rfl (hkx5 _ _ _ h)
    · refine g_iload_n hX 3 dX9_isLike_17 rfl rfl ?_
      refine jp_inv (P := fun f => ∀ (σ_3 : St)  (t_4 : Int32), f σ_3 t_4 = some r → G X (vM a D tI tJ tB zz) 5 σ_3 53 [(0, .ref (a 0)), (1, .int q1_5), (2, .int q2_5), (4, .int c4_5)] [.int t_4]) h (fun σ_3 t_4 h => ?_) (fun j53 hj53 h => ?_)
      · refine g_istore_n (lv' := fun x3_5 => [(3, .int x3_5), (0, .ref (a 0)), (1, .int q1_5), (2, .int q2_5), (4, .int c4_5)]) hX dX9_isLike_53 rfl (by decide) (fun _ => rfl) h (fun x3_5 h => ?_)
        refine g_iinc (y := (1)) (lv' := fun x4_6 => [(4, .int x4_6), (3, .int x3_5), (0, .ref (a 0)), (1, .int q1_5), (2, .int q2_5)]) hX 4 dX9_isLike_54 rfl (by decide) (by decide) (fun _ => rfl) h (fun x4_6 h => ?_)
        refine g_goto hX 5 dX9_isLike_57 (by decide) ?_
        exact g_sub [2, 3, 4, 1, 0] rfl (ih5 _ _ _ h)
      refine jp_inv (P := fun f => ∀ (σ_7 : St)  , f σ_7 = some r → G X (vM a D tI tJ tB zz) 5 σ_7 52 [(0, .ref (a 0)), (1, .int q1_5), (2, .int q2_5), (4, .int c4_5)] []) h (fun σ_7 h => ?_) (fun j52 hj52 h => ?_)
      · refine g_iconst hX (0) dX9_isLike_52 (by decide) ?_
        exact g_sub [0, 1, 2, 3] rfl (hj53 _ _ h)
      refine g_if_eq hX 52 dX9_isLike_18 (by decide) h (fun h => ?_) (fun h => ?_)
      · exact g_sub [0, 1, 2, 4] rfl (hj52 _ h)
      · refine g_aload_n hX 0 dX9_isLike_21 rfl rfl ?_
        refine gM_121 hX dX9_isLike_22 ?_
        refine g_bipush hX (36) dX9_isLike_25 (by decide) ?_
        refine g_iload_n hX 1 dX9_isLike_27 rfl rfl ?_
        refine g_imul hX dX9_isLike_28 ?_
        refine g_iload hX 4 dX9_isLike_29 rfl ?_
        refine g_iadd hX dX9_isLike_31 ?_
        refine alM_32 hX dX9_isLike_32 h (fun h => ?_)
        refine g_aload_n hX 0 dX9_isLike_33 rfl rfl ?_
        refine gM_121 hX dX9_isLike_34 ?_
        refine g_bipush hX (36) dX9_isLike_37 (by decide) ?_
        refine g_iload_n hX 2 dX9_isLike_39 rfl rfl ?_
        refine g_imul hX dX9_isLike_40 ?_
        refine g_iload hX 4 dX9_isLike_41 rfl ?_
        refine g_iadd hX dX9_isLike_43 ?_
        refine alM_32 hX dX9_isLike_44 h (fun h => ?_)
        refine g_icmp_ne hX 52 dX9_isLike_45 (by decide) h (fun h => ?_) (fun h => ?_)
        · exact g_sub [0, 1, 2, 4] rfl (hj52 _ h)
        · refine g_iconst hX (1) dX9_isLike_48 (by decide) ?_
          refine g_goto hX 53 dX9_isLike_49 (by decide) ?_
          exact g_sub [0, 1, 2, 4] rfl (hj53 _ _ h)
set_option maxRecDepth 20000 in
set_option maxHeartbeats 4000000 in
theorem sX9_isLike {X : CX} {a : Nat → Nat} {D : va_G} {tI tJ tB : ClassId} {zz : SV} {σ : St}  {p1 : Int32} {p2 : Int32} {r : St × Int32} (hX : OKX X (vM a D tI tJ tB zz) cX9_isLike 5 RX9 0 0) (hR : (r.2 = 0 ∨ r.2 = 1) → ∀ (pc : Nat) (lv : List (Nat × Value)), decode cX9_isLike pc = .ok (.ireturn, 1) → G X (vM a D tI tJ tB zz) 5 r.1 pc lv [.int r.2]) (h : fX9_isLike σ p1 p2 = some r) : G X (vM a D tI tJ tB zz) 5 σ 0 [(0, .ref (a 0)), (1, .int p1), (2, .int p2)] [] := by
  unfold fX9_isLike at h
  refine g_iconst hX (1) dX9_isLike_0 (by decide) ?_
  refine g_istore_n (lv' := fun x3_1 => [(3, .int x3_1), (0, .ref (a 0)), (1, .int p1), (2, .int p2)]) hX dX9_isLike_1 rfl (by decide) (fun _ => rfl) h (fun x3_1 h => ?_)
  refine g_iconst hX (0) dX9_isLike_2 (by decide) ?_
  refine g_istore (lv' := fun x4_2 => [(4, .int x4_2), (3, .int x3_1), (0, .ref (a 0)), (1, .int p1), (2, .int p2)]) hX dX9_isLike_3 (by decide) (fun _ => rfl) h (fun x4_2 h => ?_)
  refine g_sub [2, 3, 4, 1, 0] rfl (sX9_isLike_L5 hX hR (fun σ_8 x3_9 x4_10 h => ?_) FU _ _ _ h)
  refine g_iload_n hX 0 dX9_isLike_60 rfl rfl ?_
  exact g_retzc hR h dX9_isLike_61
set_option maxRecDepth 20000 in
set_option maxHeartbeats 4000000 in
theorem kX9_isLike (l : Launch) {a : Nat → Nat} {D : va_G} {tI tJ tB : ClassId} {zz : SV} {σ τ : St}  {p1 : Int32} {p2 : Int32} {x : Int32} (h : fX9_isLike σ p1 p2 = some (τ, x)) : CtI l yX9_isLike cX9_isLike 5 (some .boolean) 0 0 (vM a D tI tJ tB zz) σ [.ref (a 0), .int p1, .int p2] τ x := g_metZ (by decide) (Nat.le_of_ble_eq_true rfl) rfl (fun X _ hX hR => sX9_isLike (r := (τ, x)) hX hR h)
def fX9_chases_L40 (q1_40 : Int32) (kx40 : St → Int32 → Int32 → Option (St × Unit)) : Nat → St → Int32 → Int32 → Option (St × Unit)
  | 0, _, _, _ => none
  | n40 + 1, σ, c2_40, c3_40 =>
    (if (σ.1 0 0) ≤ c3_40 then kx40 σ c2_40 c3_40 else cl (fX9_wouldRather σ c3_40) fun (σ_8 : St) (t_9 : Int32) => (jp (fun (σ_10 : St) (x2_11 : Int32)  => bnd (c3_40 + (1 : Int32)) fun (x3_12 : Int32) => fX9_chases_L40 q1_40 kx40 n40 σ_10 x2_11 x3_12) fun j90 => (if t_9 = 0 then j90 σ_8 c2_40 else chk (inb c3_40 4) (bnd (sI σ_8 15 (ix c3_40) (1 : Int32)) fun (σ_13 : St) => cl (fX9_bestOf σ_13 c3_40) fun (σ_14 : St) (t_15 : Int32) => chk (inb c3_40 4) (bnd (sI σ_14 16 (ix c3_40) t_15) fun (σ_16 : St) => chk (inb c3_40 4) (cl (fX9_puts σ_16 c3_40 (σ_16.1 16 (ix c3_40))) fun (σ_17 : St) (t_18 : Unit) => bnd (1 : Int32) fun (x2_19 : Int32) => j90 σ_17 x2_19))))))
def fX9_chases_L130 (q1_130 : Int32) (kx130 : St → Int32 → Option (St × Unit)) : Nat → St → Int32 → Option (St × Unit)
  | 0, _, _ => none
  | n130 + 1, σ, c3_130 =>
    (if c3_130 < 0 then kx130 σ c3_130 else (if (σ.1 0 63) = (2 : Int32) then cl (fX9_isLike σ c3_130 (σ.1 0 62)) fun (σ_28 : St) (t_29 : Int32) => (jp (fun (σ_30 : St)   => bnd (c3_130 + (-1 : Int32)) fun (x3_31 : Int32) => fX9_chases_L130 q1_130 kx130 n130 σ_30 x3_31) fun j172 => (if t_29 = 0 then j172 σ_28 else bnd (sI σ_28 0 63 (1 : Int32)) fun (σ_32 : St) => bnd (sI σ_32 0 64 ((σ_32.1 0 62) - c3_130)) fun (σ_33 : St) => j172 σ_33)) else kx130 σ c3_130))
def fX9_chases_L20 (q1_20 : Int32) (kx20 : St → Option (St × Unit)) : Nat → St → Option (St × Unit)
  | 0, _ => none
  | n20 + 1, σ =>
    (if (σ.1 0 63) = (2 : Int32) then (if q1_20 ≤ (σ.1 0 62) then kx20 σ else bnd (0 : Int32) fun (x2_6 : Int32) => bnd (0 : Int32) fun (x3_7 : Int32) => fX9_chases_L40 q1_20 (fun (σ_20 : St) (x2_21 : Int32) (x3_22 : Int32) => bnd (sI σ_20 0 62 ((σ_20.1 0 62) + (1 : Int32))) fun (σ_23 : St) => cl (fX9_sees σ_23 (σ_23.1 0 62)) fun (σ_24 : St) (t_25 : Unit) => (jp (fun (σ_26 : St)   => bnd ((σ_26.1 0 62) - (1 : Int32)) fun (x3_27 : Int32) => fX9_chases_L130 q1_20 (fun (σ_34 : St) (x3_35 : Int32) => fX9_chases_L20 q1_20 kx20 n20 σ_34) FU σ_26 x3_27) fun j123 => (if x2_21 = 0 then bnd (sI σ_24 0 63 (0 : Int32)) fun (σ_36 : St) => j123 σ_36 else j123 σ_24))) FU σ x2_6 x3_7) else kx20 σ)
def fX9_chases (σ : St) (p1 : Int32) : Option (St × Unit) :=
  bnd (sI σ 0 62 (0 : Int32)) fun (σ_1 : St) => bnd (sI σ_1 0 63 (2 : Int32)) fun (σ_2 : St) => bnd (sI σ_2 0 64 (0 : Int32)) fun (σ_3 : St) => cl (fX9_sees σ_3 (0 : Int32)) fun (σ_4 : St) (t_5 : Unit) => fX9_chases_L20 p1 (fun (σ_37 : St)  => some (σ_37, ())) FU σ_4 
set_option maxRecDepth 20000 in
set_option maxHeartbeats 4000000 in
theorem sX9_chases_L40 {X : CX} {a : Nat → Nat} {D : va_G} {tI tJ tB : ClassId} {zz : SV} {q1_40 : Int32} {kx40 : St → Int32 → Int32 → Option (St × Unit)} {r : St × Unit} (hX : OKX X (vM a D tI tJ tB zz) cX9_chases 4 RX9 9 209) (hR : ∀ (pc : Nat) (lv : List (Nat × Value)), decode cX9_chases pc = .ok (.return_, 1) → G X (vM a D tI tJ tB zz) 4 r.1 pc lv []) (hkx40 : ∀ (σ : St) (e2_40 : Int32) (e3_40 : Int32), kx40 σ e2_40 e3_40 = some r → G X (vM a D tI tJ tB zz) 4 σ 96 [(0, .ref (a 0)), (1, .int q1_40), (2, .int e2_40)] []) : ∀ (n : Nat) (σ : St) (c2_40 : Int32) (c3_40 : Int32), fX9_chases_L40 q1_40 kx40 n σ c2_40 c3_40 = some r → G X (vM a D tI tJ tB zz) 4 σ 40 [(0, .ref (a 0)), (1, .int q1_40), (2, .int c2_40), (3, .int c3_40)] [] := by
  intro n
  induction n with
  | zero => intro σ c2_40 c3_40 h; rw [fX9_chases_L40] at h; exact absurd h (by simp)
  | succ n40 ih40 =>
    intro σ c2_40 c3_40 h
    rw [fX9_chases_L40] at h
    refine g_iload_n hX 3 dX9_chases_40 rfl rfl ?_
    refine g_aload_n hX 0 dX9_chases_41 rfl rfl ?_
    refine gM_260 hX dX9_chases_42 ?_
    refine g_icmp_ge hX 96 dX9_chases_45 (by decide) h (fun h => ?_) (fun h => ?_)
    · exact g_sub [0, 1, 2] rfl (hkx40 _ _ _ h)
    · refine g_aload_n hX 0 dX9_chases_48 rfl rfl ?_
      refine g_iload_n hX 3 dX9_chases_49 rfl rfl ?_
      refine g_callVI (As := [.int c3_40]) (rest := []) hX 0 (Nat.le_of_ble_eq_true rfl) rfl rfl miX9_wouldRather mvX9_wouldRather lkX9_374 (by decide) rfl (Nat.le_of_ble_eq_true rfl) rfl dX9_chases_50 (fun τ x ho => kX9_wouldRather _ ho) h (fun σ_8 t_9 h => ?_)
      refine jp_inv (P := fun f => ∀ (σ_10 : St) (x2_11 : Int32) , f σ_10 x2_11 = some r → G X (vM a D tI tJ tB zz) 4 σ_10 90 [(0, .ref (a 0)), (1, .int q1_40), (3, .int c3_40), (2, .int x2_11)] []) h (fun σ_10 x2_11 h => ?_) (fun j90 hj90 h => ?_)
      · refine g_iinc (y := (1)) (lv' := fun x3_12 => [(3, .int x3_12), (0, .ref (a 0)), (1, .int q1_40), (2, .int x2_11)]) hX 2 dX9_chases_90 rfl (by decide) (by decide) (fun _ => rfl) h (fun x3_12 h => ?_)
        refine g_goto hX 40 dX9_chases_93 (by decide) ?_
        exact g_sub [1, 2, 3, 0] rfl (ih40 _ _ _ h)
      refine g_if_ne hX 59 dX9_chases_53 (by decide) h (fun h => ?_) (fun h => ?_)
      · refine g_aload_n hX 0 dX9_chases_59 rfl rfl ?_
        refine gM_70 hX dX9_chases_60 ?_
        refine g_iload_n hX 3 dX9_chases_63 rfl rfl ?_
        refine g_iconst hX (1) dX9_chases_64 (by decide) ?_
        refine asM_15 hX dX9_chases_65 h (fun σ_13 h => ?_)
        refine g_aload_n hX 0 dX9_chases_66 rfl rfl ?_
        refine gM_73 hX dX9_chases_67 ?_
        refine g_iload_n hX 3 dX9_chases_70 rfl rfl ?_
        refine g_aload_n hX 0 dX9_chases_71 rfl rfl ?_
        refine g_iload_n hX 3 dX9_chases_72 rfl rfl ?_
        refine g_callVI (As := [.int c3_40]) (rest := [.int c3_40, .ref (a 16)]) hX 0 (Nat.le_of_ble_eq_true rfl) rfl rfl miX9_bestOf mvX9_bestOf lkX9_302 (by decide) rfl (Nat.le_of_ble_eq_true rfl) rfl dX9_chases_73 (fun τ x ho => kX9_bestOf _ ho) h (fun σ_14 t_15 h => ?_)
        refine asM_16 hX dX9_chases_76 h (fun σ_16 h => ?_)
        refine g_aload_n hX 0 dX9_chases_77 rfl rfl ?_
        refine g_iload_n hX 3 dX9_chases_78 rfl rfl ?_
        refine g_aload_n hX 0 dX9_chases_79 rfl rfl ?_
        refine gM_73 hX dX9_chases_80 ?_
        refine g_iload_n hX 3 dX9_chases_83 rfl rfl ?_
        refine alM_16 hX dX9_chases_84 h (fun h => ?_)
        refine g_callVV (As := [.int c3_40, .int (σ_16.1 16 (ix c3_40))]) (rest := []) hX 0 (Nat.le_of_ble_eq_true rfl) rfl rfl miX9_puts mvX9_puts lkX9_305 (by decide) rfl (Nat.le_of_ble_eq_true rfl) rfl dX9_chases_85 (fun τ x ho => kX9_puts _ ho) h (fun σ_17 t_18 h => ?_)
        refine g_iconst hX (1) dX9_chases_88 (by decide) ?_
        refine g_istore_n (lv' := fun x2_19 => [(2, .int x2_19), (0, .ref (a 0)), (1, .int q1_40), (3, .int c3_40)]) hX dX9_chases_89 rfl (by decide) (fun _ => rfl) h (fun x2_19 h => ?_)
        exact g_sub [1, 2, 3, 0] rfl (hj90 _ _ h)
      · refine g_goto hX 90 dX9_chases_56 (by decide) ?_
        exact g_sub [0, 1, 3, 2] rfl (hj90 _ _ h)
set_option maxRecDepth 20000 in
set_option maxHeartbeats 4000000 in
theorem sX9_chases_L130 {X : CX} {a : Nat → Nat} {D : va_G} {tI tJ tB : ClassId} {zz : SV} {q1_130 : Int32} {kx130 : St → Int32 → Option (St × Unit)} {r : St × Unit} (hX : OKX X (vM a D tI tJ tB zz) cX9_chases 4 RX9 9 209) (hR : ∀ (pc : Nat) (lv : List (Nat × Value)), decode cX9_chases pc = .ok (.return_, 1) → G X (vM a D tI tJ tB zz) 4 r.1 pc lv []) (hkx130 : ∀ (σ : St) (e3_130 : Int32), kx130 σ e3_130 = some r → G X (vM a D tI tJ tB zz) 4 σ 178 [(0, .ref (a 0)), (1, .int q1_130)] []) : ∀ (n : Nat) (σ : St) (c3_130 : Int32), fX9_chases_L130 q1_130 kx130 n σ c3_130 = some r → G X (vM a D tI tJ tB zz) 4 σ 130 [(0, .ref (a 0)), (1, .int q1_130), (3, .int c3_130)] [] := by
  intro n
  induction n with
  | zero => intro σ c3_130 h; rw [fX9_chases_L130] at h; exact absurd h (by simp)
  | succ n130 ih130 =>
    intro σ c3_130 h
    rw [fX9_chases_L130] at h
    refine g_iload_n hX 2 dX9_chases_130 rfl rfl ?_
    refine g_if_lt hX 178 dX9_chases_131 (by decide) h (fun h => ?_) (fun h => ?_)
    · exact g_sub [0, 1] rfl (hkx130 _ _ h)
    · refine g_aload_n hX 0 dX9_chases_134 rfl rfl ?_
      refine gM_437 hX dX9_chases_135 ?_
      refine g_iconst hX (2) dX9_chases_138 (by decide) ?_
      refine g_icmp_ne hX 178 dX9_chases_139 (by decide) h (fun h => ?_) (fun h => ?_)
      · exact g_sub [0, 1] rfl (hkx130 _ _ h)
      · refine g_aload_n hX 0 dX9_chases_142 rfl rfl ?_
        refine g_iload_n hX 2 dX9_chases_143 rfl rfl ?_
        refine g_aload_n hX 0 dX9_chases_144 rfl rfl ?_
        refine gM_434 hX dX9_chases_145 ?_
        refine g_callVI (As := [.int c3_130, .int (σ.1 0 62)]) (rest := []) hX 0 (Nat.le_of_ble_eq_true rfl) rfl rfl miX9_isLike mvX9_isLike lkX9_446 (by decide) rfl (Nat.le_of_ble_eq_true rfl) rfl dX9_chases_148 (fun τ x ho => kX9_isLike _ ho) h (fun σ_28 t_29 h => ?_)
        refine jp_inv (P := fun f => ∀ (σ_30 : St)  , f σ_30 = some r → G X (vM a D tI tJ tB zz) 4 σ_30 172 [(0, .ref (a 0)), (1, .int q1_130), (3, .int c3_130)] []) h (fun σ_30 h => ?_) (fun j172 hj172 h => ?_)
        · refine g_iinc (y := (-1)) (lv' := fun x3_31 => [(3, .int x3_31), (0, .ref (a 0)), (1, .int q1_130)]) hX 2 dX9_chases_172 rfl (by decide) (by decide) (fun _ => rfl) h (fun x3_31 h => ?_)
          refine g_goto hX 130 dX9_chases_175 (by decide) ?_
          exact g_sub [1, 2, 0] rfl (ih130 _ _ h)
        refine g_if_ne hX 157 dX9_chases_151 (by decide) h (fun h => ?_) (fun h => ?_)
        · refine g_aload_n hX 0 dX9_chases_157 rfl rfl ?_
          refine g_iconst hX (1) dX9_chases_158 (by decide) ?_
          refine pM_437 hX dX9_chases_159 h (fun σ_32 h => ?_)
          refine g_aload_n hX 0 dX9_chases_162 rfl rfl ?_
          refine g_aload_n hX 0 dX9_chases_163 rfl rfl ?_
          refine gM_434 hX dX9_chases_164 ?_
          refine g_iload_n hX 2 dX9_chases_167 rfl rfl ?_
          refine g_isub hX dX9_chases_168 ?_
          refine pM_440 hX dX9_chases_169 h (fun σ_33 h => ?_)
          exact g_sub [0, 1, 2] rfl (hj172 _ h)
        · refine g_goto hX 172 dX9_chases_154 (by decide) ?_
          exact g_sub [0, 1, 2] rfl (hj172 _ h)
set_option maxRecDepth 20000 in
set_option maxHeartbeats 4000000 in
theorem sX9_chases_L20 {X : CX} {a : Nat → Nat} {D : va_G} {tI tJ tB : ClassId} {zz : SV} {q1_20 : Int32} {kx20 : St → Option (St × Unit)} {r : St × Unit} (hX : OKX X (vM a D tI tJ tB zz) cX9_chases 4 RX9 9 209) (hR : ∀ (pc : Nat) (lv : List (Nat × Value)), decode cX9_chases pc = .ok (.return_, 1) → G X (vM a D tI tJ tB zz) 4 r.1 pc lv []) (hkx20 : ∀ (σ : St) , kx20 σ  = some r → G X (vM a D tI tJ tB zz) 4 σ 181 [] []) : ∀ (n : Nat) (σ : St) , fX9_chases_L20 q1_20 kx20 n σ  = some r → G X (vM a D tI tJ tB zz) 4 σ 20 [(0, .ref (a 0)), (1, .int q1_20)] [] := by
  intro n
  induction n with
  | zero => intro σ  h; rw [fX9_chases_L20] at h; exact absurd h (by simp)
  | succ n20 ih20 =>
    intro σ  h
    rw [fX9_chases_L20] at h
    refine g_aload_n hX 0 dX9_chases_20 rfl rfl ?_
    refine gM_437 hX dX9_chases_21 ?_
    refine g_iconst hX (2) dX9_chases_24 (by decide) ?_
    refine g_icmp_ne hX 181 dX9_chases_25 (by decide) h (fun h => ?_) (fun h => ?_)
    · exact g_sub [] rfl (hkx20 _ h)
    · refine g_aload_n hX 0 dX9_chases_28 rfl rfl ?_
      refine gM_434 hX dX9_chases_29 ?_
      refine g_iload_n hX 1 dX9_chases_32 rfl rfl ?_
      refine g_icmp_ge hX 181 dX9_chases_33 (by decide) h (fun h => ?_) (fun h => ?_)
      · exact g_sub [] rfl (hkx20 _ h)
      · refine g_iconst hX (0) dX9_chases_36 (by decide) ?_
        refine g_istore_n (lv' := fun x2_6 => [(2, .int x2_6), (0, .ref (a 0)), (1, .int q1_20)]) hX dX9_chases_37 rfl (by decide) (fun _ => rfl) h (fun x2_6 h => ?_)
        refine g_iconst hX (0) dX9_chases_38 (by decide) ?_
        refine g_istore_n (lv' := fun x3_7 => [(3, .int x3_7), (2, .int x2_6), (0, .ref (a 0)), (1, .int q1_20)]) hX dX9_chases_39 rfl (by decide) (fun _ => rfl) h (fun x3_7 h => ?_)
        refine g_sub [2, 3, 1, 0] rfl (sX9_chases_L40 hX hR (fun σ_20 x2_21 x3_22 h => ?_) FU _ _ _ h)
        refine g_aload_n hX 0 dX9_chases_96 rfl rfl ?_
        refine g_dup hX dX9_chases_97 rfl ?_
        refine gM_434 hX dX9_chases_98 ?_
        refine g_iconst hX (1) dX9_chases_101 (by decide) ?_
        refine g_iadd hX dX9_chases_102 ?_
        refine pM_434 hX dX9_chases_103 h (fun σ_23 h => ?_)
        refine g_aload_n hX 0 dX9_chases_106 rfl rfl ?_
        refine g_aload_n hX 0 dX9_chases_107 rfl rfl ?_
        refine gM_434 hX dX9_chases_108 ?_
        refine g_callVV (As := [.int (σ_23.1 0 62)]) (rest := []) hX 0 (Nat.le_of_ble_eq_true rfl) rfl rfl miX9_sees mvX9_sees lkX9_443 (by decide) rfl (Nat.le_of_ble_eq_true rfl) rfl dX9_chases_111 (fun τ x ho => kX9_sees _ ho) h (fun σ_24 t_25 h => ?_)
        refine g_iload_n hX 2 dX9_chases_114 rfl rfl ?_
        refine jp_inv (P := fun f => ∀ (σ_26 : St)  , f σ_26 = some r → G X (vM a D tI tJ tB zz) 4 σ_26 123 [(0, .ref (a 0)), (1, .int q1_20)] []) h (fun σ_26 h => ?_) (fun j123 hj123 h => ?_)
        · refine g_aload_n hX 0 dX9_chases_123 rfl rfl ?_
          refine gM_434 hX dX9_chases_124 ?_
          refine g_iconst hX (1) dX9_chases_127 (by decide) ?_
          refine g_isub hX dX9_chases_128 ?_
          refine g_istore_n (lv' := fun x3_27 => [(3, .int x3_27), (0, .ref (a 0)), (1, .int q1_20)]) hX dX9_chases_129 rfl (by decide) (fun _ => rfl) h (fun x3_27 h => ?_)
          refine g_sub [1, 2, 0] rfl (sX9_chases_L130 hX hR (fun σ_34 x3_35 h => ?_) FU _ _ h)
          refine g_goto hX 20 dX9_chases_178 (by decide) ?_
          exact g_sub [0, 1] rfl (ih20 _ h)
        refine g_if_ne hX 123 dX9_chases_115 (by decide) h (fun h => ?_) (fun h => ?_)
        · exact g_sub [0, 1] rfl (hj123 _ h)
        · refine g_aload_n hX 0 dX9_chases_118 rfl rfl ?_
          refine g_iconst hX (0) dX9_chases_119 (by decide) ?_
          refine pM_437 hX dX9_chases_120 h (fun σ_36 h => ?_)
          exact g_sub [0, 1] rfl (hj123 _ h)
set_option maxRecDepth 20000 in
set_option maxHeartbeats 4000000 in
theorem sX9_chases {X : CX} {a : Nat → Nat} {D : va_G} {tI tJ tB : ClassId} {zz : SV} {σ : St}  {p1 : Int32} {r : St × Unit} (hX : OKX X (vM a D tI tJ tB zz) cX9_chases 4 RX9 9 209) (hR : ∀ (pc : Nat) (lv : List (Nat × Value)), decode cX9_chases pc = .ok (.return_, 1) → G X (vM a D tI tJ tB zz) 4 r.1 pc lv []) (h : fX9_chases σ p1 = some r) : G X (vM a D tI tJ tB zz) 4 σ 0 [(0, .ref (a 0)), (1, .int p1)] [] := by
  unfold fX9_chases at h
  refine g_aload_n hX 0 dX9_chases_0 rfl rfl ?_
  refine g_iconst hX (0) dX9_chases_1 (by decide) ?_
  refine pM_434 hX dX9_chases_2 h (fun σ_1 h => ?_)
  refine g_aload_n hX 0 dX9_chases_5 rfl rfl ?_
  refine g_iconst hX (2) dX9_chases_6 (by decide) ?_
  refine pM_437 hX dX9_chases_7 h (fun σ_2 h => ?_)
  refine g_aload_n hX 0 dX9_chases_10 rfl rfl ?_
  refine g_iconst hX (0) dX9_chases_11 (by decide) ?_
  refine pM_440 hX dX9_chases_12 h (fun σ_3 h => ?_)
  refine g_aload_n hX 0 dX9_chases_15 rfl rfl ?_
  refine g_iconst hX (0) dX9_chases_16 (by decide) ?_
  refine g_callVV (As := [.int (0 : Int32)]) (rest := []) hX 0 (Nat.le_of_ble_eq_true rfl) rfl rfl miX9_sees mvX9_sees lkX9_443 (by decide) rfl (Nat.le_of_ble_eq_true rfl) rfl dX9_chases_17 (fun τ x ho => kX9_sees _ ho) h (fun σ_4 t_5 h => ?_)
  refine g_sub [0, 1] rfl (sX9_chases_L20 hX hR (fun σ_37  h => ?_) FU _  h)
  exact g_retv hR h dX9_chases_181
set_option maxRecDepth 20000 in
set_option maxHeartbeats 4000000 in
theorem kX9_chases (l : Launch) {a : Nat → Nat} {D : va_G} {tI tJ tB : ClassId} {zz : SV} {σ τ : St}  {p1 : Int32} {x : Unit} (h : fX9_chases σ p1 = some (τ, x)) : CtV l yX9_chases cX9_chases 4 none 9 209 (vM a D tI tJ tB zz) σ [.ref (a 0), .int p1] τ x := g_metV (by decide) (Nat.le_of_ble_eq_true rfl) rfl (fun X _ hX hR => sX9_chases (r := (τ, x)) hX hR h)
def fX9_chase_L46 (q1_46 : Int32) (q2_46 : Int32) (kx46 : St → Int32 → Option (St × Int32)) : Nat → St → Int32 → Option (St × Int32)
  | 0, _, _ => none
  | n46 + 1, σ, c3_46 =>
    (if (σ.1 0 0) ≤ c3_46 then kx46 σ c3_46 else chk (inb c3_46 4) ((if (σ.1 15 (ix c3_46)) = (3 : Int32) then some (σ, (-1 : Int32)) else bnd (c3_46 + (1 : Int32)) fun (x3_9 : Int32) => fX9_chase_L46 q1_46 q2_46 kx46 n46 σ x3_9)))
def fX9_chase_L83 (q1_83 : Int32) (q2_83 : Int32) (kx83 : St → Int32 → Option (St × Int32)) : Nat → St → Int32 → Option (St × Int32)
  | 0, _, _ => none
  | n83 + 1, σ, c3_83 =>
    (if (σ.1 0 0) ≤ c3_83 then kx83 σ c3_83 else chk (inb c3_83 4) (chk (inb c3_83 8) (bnd (sI σ 33 (ix c3_83) (σ.1 15 (ix c3_83))) fun (σ_15 : St) => chk (inb c3_83 4) (chk (inb ((4 : Int32) + c3_83) 8) (bnd (sI σ_15 33 (ix ((4 : Int32) + c3_83)) (σ_15.1 16 (ix c3_83))) fun (σ_16 : St) => bnd (c3_83 + (1 : Int32)) fun (x3_17 : Int32) => fX9_chase_L83 q1_83 q2_83 kx83 n83 σ_16 x3_17)))))
def fX9_chase_L193 (q3_193 : Int32) (kx193 : St → Int32 → Option (St × Int32)) : Nat → St → Int32 → Option (St × Int32)
  | 0, _, _ => none
  | n193 + 1, σ, c4_193 =>
    (if (σ.1 0 0) ≤ c4_193 then kx193 σ c4_193 else chk (inb c4_193 8) (chk (inb c4_193 4) (bnd (sI σ 15 (ix c4_193) (σ.1 33 (ix c4_193))) fun (σ_26 : St) => chk (inb ((4 : Int32) + c4_193) 8) (chk (inb c4_193 4) (bnd (sI σ_26 16 (ix c4_193) (σ_26.1 33 (ix ((4 : Int32) + c4_193)))) fun (σ_27 : St) => bnd (c4_193 + (1 : Int32)) fun (x4_28 : Int32) => fX9_chase_L193 q3_193 kx193 n193 σ_27 x4_28)))))
def fX9_chase (σ : St) (p1 : Int32) (p2 : Int32) : Option (St × Int32) :=
  cl (fX9_isIn σ p1 (1 : Int32) (60 : Int32)) fun (σ_1 : St) (t_2 : Int32) => (if t_2 = 0 then some (σ_1, (-1 : Int32)) else cl (fX9_isIn σ_1 p2 (0 : Int32) (2 : Int32)) fun (σ_3 : St) (t_4 : Int32) => (jp (fun (σ_5 : St)   => cl (fX9_isAllBarred σ_5 ) fun (σ_6 : St) (t_7 : Int32) => (if t_7 = 0 then bnd (0 : Int32) fun (x3_8 : Int32) => fX9_chase_L46 p1 p2 (fun (σ_10 : St) (x3_11 : Int32) => cl (fX9_areReady σ_10 ) fun (σ_12 : St) (t_13 : Int32) => (if t_13 = 0 then some (σ_12, (-1 : Int32)) else bnd (0 : Int32) fun (x3_14 : Int32) => fX9_chase_L83 p1 p2 (fun (σ_18 : St) (x3_19 : Int32) => cl (fX9_chases σ_18 p1) fun (σ_20 : St) (t_21 : Unit) => (jp (fun (σ_22 : St)  (t_23 : Int32) => bnd t_23 fun (x3_24 : Int32) => bnd (0 : Int32) fun (x4_25 : Int32) => fX9_chase_L193 x3_24 (fun (σ_29 : St) (x4_30 : Int32) => some (σ_29, x3_24)) FU σ_22 x4_25) fun j189 => (if p2 = 0 then j189 σ_20 (σ_20.1 0 63) else (if p2 = (1 : Int32) then j189 σ_20 (σ_20.1 0 62) else (if p2 = (2 : Int32) then j189 σ_20 (σ_20.1 0 64) else chk (inb (p2 - (10 : Int32)) 4) ((if (σ_20.1 15 (ix (p2 - (10 : Int32)))) = (1 : Int32) then chk (inb (p2 - (10 : Int32)) 4) (j189 σ_20 (σ_20.1 16 (ix (p2 - (10 : Int32))))) else j189 σ_20 (-1 : Int32)))))))) FU σ_12 x3_14)) FU σ_6 x3_8 else some (σ_6, (-1 : Int32)))) fun j35 => (if t_4 = 0 then cl (fX9_isIn σ_3 p2 (10 : Int32) ((9 : Int32) + (σ_3.1 0 0))) fun (σ_31 : St) (t_32 : Int32) => (if t_32 = 0 then some (σ_31, (-1 : Int32)) else j35 σ_31) else j35 σ_3)))
set_option maxRecDepth 20000 in
set_option maxHeartbeats 4000000 in
theorem sX9_chase_L46 {X : CX} {a : Nat → Nat} {D : va_G} {tI tJ tB : ClassId} {zz : SV} {q1_46 : Int32} {q2_46 : Int32} {kx46 : St → Int32 → Option (St × Int32)} {r : St × Int32} (hX : OKX X (vM a D tI tJ tB zz) cX9_chase 5 RX9 10 232) (hR : ∀ (pc : Nat) (lv : List (Nat × Value)), decode cX9_chase pc = .ok (.ireturn, 1) → G X (vM a D tI tJ tB zz) 5 r.1 pc lv [.int r.2]) (hkx46 : ∀ (σ : St) (e3_46 : Int32), kx46 σ e3_46 = some r → G X (vM a D tI tJ tB zz) 5 σ 72 [(0, .ref (a 0)), (1, .int q1_46), (2, .int q2_46)] []) : ∀ (n : Nat) (σ : St) (c3_46 : Int32), fX9_chase_L46 q1_46 q2_46 kx46 n σ c3_46 = some r → G X (vM a D tI tJ tB zz) 5 σ 46 [(0, .ref (a 0)), (1, .int q1_46), (2, .int q2_46), (3, .int c3_46)] [] := by
  intro n
  induction n with
  | zero => intro σ c3_46 h; rw [fX9_chase_L46] at h; exact absurd h (by simp)
  | succ n46 ih46 =>
    intro σ c3_46 h
    rw [fX9_chase_L46] at h
    refine g_iload_n hX 3 dX9_chase_46 rfl rfl ?_
    refine g_aload_n hX 0 dX9_chase_47 rfl rfl ?_
    refine gM_260 hX dX9_chase_48 ?_
    refine g_icmp_ge hX 72 dX9_chase_51 (by decide) h (fun h => ?_) (fun h => ?_)
    · exact g_sub [0, 1, 2] rfl (hkx46 _ _ h)
    · refine g_aload_n hX 0 dX9_chase_54 rfl rfl ?_
      refine gM_70 hX dX9_chase_55 ?_
      refine g_iload_n hX 3 dX9_chase_58 rfl rfl ?_
      refine alM_15 hX dX9_chase_59 h (fun h => ?_)
      refine g_iconst hX (3) dX9_chase_60 (by decide) ?_
      refine g_icmp_ne hX 66 dX9_chase_61 (by decide) h (fun h => ?_) (fun h => ?_)
      · refine g_iinc (y := (1)) (lv' := fun x3_9 => [(3, .int x3_9), (0, .ref (a 0)), (1, .int q1_46), (2, .int q2_46)]) hX 3 dX9_chase_66 rfl (by decide) (by decide) (fun _ => rfl) h (fun x3_9 h => ?_)
        refine g_goto hX 46 dX9_chase_69 (by decide) ?_
        exact g_sub [1, 2, 3, 0] rfl (ih46 _ _ h)
      · refine g_iconst hX (-1) dX9_chase_64 (by decide) ?_
        exact g_reti hR h dX9_chase_65
set_option maxRecDepth 20000 in
set_option maxHeartbeats 4000000 in
theorem sX9_chase_L83 {X : CX} {a : Nat → Nat} {D : va_G} {tI tJ tB : ClassId} {zz : SV} {q1_83 : Int32} {q2_83 : Int32} {kx83 : St → Int32 → Option (St × Int32)} {r : St × Int32} (hX : OKX X (vM a D tI tJ tB zz) cX9_chase 5 RX9 10 232) (hR : ∀ (pc : Nat) (lv : List (Nat × Value)), decode cX9_chase pc = .ok (.ireturn, 1) → G X (vM a D tI tJ tB zz) 5 r.1 pc lv [.int r.2]) (hkx83 : ∀ (σ : St) (e3_83 : Int32), kx83 σ e3_83 = some r → G X (vM a D tI tJ tB zz) 5 σ 123 [(0, .ref (a 0)), (1, .int q1_83), (2, .int q2_83)] []) : ∀ (n : Nat) (σ : St) (c3_83 : Int32), fX9_chase_L83 q1_83 q2_83 kx83 n σ c3_83 = some r → G X (vM a D tI tJ tB zz) 5 σ 83 [(0, .ref (a 0)), (1, .int q1_83), (2, .int q2_83), (3, .int c3_83)] [] := by
  intro n
  induction n with
  | zero => intro σ c3_83 h; rw [fX9_chase_L83] at h; exact absurd h (by simp)
  | succ n83 ih83 =>
    intro σ c3_83 h
    rw [fX9_chase_L83] at h
    refine g_iload_n hX 3 dX9_chase_83 rfl rfl ?_
    refine g_aload_n hX 0 dX9_chase_84 rfl rfl ?_
    refine gM_260 hX dX9_chase_85 ?_
    refine g_icmp_ge hX 123 dX9_chase_88 (by decide) h (fun h => ?_) (fun h => ?_)
    · exact g_sub [0, 1, 2] rfl (hkx83 _ _ h)
    · refine g_aload_n hX 0 dX9_chase_91 rfl rfl ?_
      refine gM_124 hX dX9_chase_92 ?_
      refine g_iload_n hX 3 dX9_chase_95 rfl rfl ?_
      refine g_aload_n hX 0 dX9_chase_96 rfl rfl ?_
      refine gM_70 hX dX9_chase_97 ?_
      refine g_iload_n hX 3 dX9_chase_100 rfl rfl ?_
      refine alM_15 hX dX9_chase_101 h (fun h => ?_)
      refine asM_33 hX dX9_chase_102 h (fun σ_15 h => ?_)
      refine g_aload_n hX 0 dX9_chase_103 rfl rfl ?_
      refine gM_124 hX dX9_chase_104 ?_
      refine g_iconst hX (4) dX9_chase_107 (by decide) ?_
      refine g_iload_n hX 3 dX9_chase_108 rfl rfl ?_
      refine g_iadd hX dX9_chase_109 ?_
      refine g_aload_n hX 0 dX9_chase_110 rfl rfl ?_
      refine gM_73 hX dX9_chase_111 ?_
      refine g_iload_n hX 3 dX9_chase_114 rfl rfl ?_
      refine alM_16 hX dX9_chase_115 h (fun h => ?_)
      refine asM_33 hX dX9_chase_116 h (fun σ_16 h => ?_)
      refine g_iinc (y := (1)) (lv' := fun x3_17 => [(3, .int x3_17), (0, .ref (a 0)), (1, .int q1_83), (2, .int q2_83)]) hX 3 dX9_chase_117 rfl (by decide) (by decide) (fun _ => rfl) h (fun x3_17 h => ?_)
      refine g_goto hX 83 dX9_chase_120 (by decide) ?_
      exact g_sub [1, 2, 3, 0] rfl (ih83 _ _ h)
set_option maxRecDepth 20000 in
set_option maxHeartbeats 4000000 in
theorem sX9_chase_L193 {X : CX} {a : Nat → Nat} {D : va_G} {tI tJ tB : ClassId} {zz : SV} {q3_193 : Int32} {kx193 : St → Int32 → Option (St × Int32)} {r : St × Int32} (hX : OKX X (vM a D tI tJ tB zz) cX9_chase 5 RX9 10 232) (hR : ∀ (pc : Nat) (lv : List (Nat × Value)), decode cX9_chase pc = .ok (.ireturn, 1) → G X (vM a D tI tJ tB zz) 5 r.1 pc lv [.int r.2]) (hkx193 : ∀ (σ : St) (e4_193 : Int32), kx193 σ e4_193 = some r → G X (vM a D tI tJ tB zz) 5 σ 238 [(3, .int q3_193)] []) : ∀ (n : Nat) (σ : St) (c4_193 : Int32), fX9_chase_L193 q3_193 kx193 n σ c4_193 = some r → G X (vM a D tI tJ tB zz) 5 σ 193 [(0, .ref (a 0)), (3, .int q3_193), (4, .int c4_193)] [] := by
  intro n
  induction n with
  | zero => intro σ c4_193 h; rw [fX9_chase_L193] at h; exact absurd h (by simp)
  | succ n193 ih193 =>
    intro σ c4_193 h
    rw [fX9_chase_L193] at h
    refine g_iload hX 2 dX9_chase_193 rfl ?_
    refine g_aload_n hX 0 dX9_chase_195 rfl rfl ?_
    refine gM_260 hX dX9_chase_196 ?_
    refine g_icmp_ge hX 238 dX9_chase_199 (by decide) h (fun h => ?_) (fun h => ?_)
    · exact g_sub [1] rfl (hkx193 _ _ h)
    · refine g_aload_n hX 0 dX9_chase_202 rfl rfl ?_
      refine gM_70 hX dX9_chase_203 ?_
      refine g_iload hX 2 dX9_chase_206 rfl ?_
      refine g_aload_n hX 0 dX9_chase_208 rfl rfl ?_
      refine gM_124 hX dX9_chase_209 ?_
      refine g_iload hX 2 dX9_chase_212 rfl ?_
      refine alM_33 hX dX9_chase_214 h (fun h => ?_)
      refine asM_15 hX dX9_chase_215 h (fun σ_26 h => ?_)
      refine g_aload_n hX 0 dX9_chase_216 rfl rfl ?_
      refine gM_73 hX dX9_chase_217 ?_
      refine g_iload hX 2 dX9_chase_220 rfl ?_
      refine g_aload_n hX 0 dX9_chase_222 rfl rfl ?_
      refine gM_124 hX dX9_chase_223 ?_
      refine g_iconst hX (4) dX9_chase_226 (by decide) ?_
      refine g_iload hX 2 dX9_chase_227 rfl ?_
      refine g_iadd hX dX9_chase_229 ?_
      refine alM_33 hX dX9_chase_230 h (fun h => ?_)
      refine asM_16 hX dX9_chase_231 h (fun σ_27 h => ?_)
      refine g_iinc (y := (1)) (lv' := fun x4_28 => [(4, .int x4_28), (0, .ref (a 0)), (3, .int q3_193)]) hX 2 dX9_chase_232 rfl (by decide) (by decide) (fun _ => rfl) h (fun x4_28 h => ?_)
      refine g_goto hX 193 dX9_chase_235 (by decide) ?_
      exact g_sub [1, 2, 0] rfl (ih193 _ _ h)
set_option maxRecDepth 20000 in
set_option maxHeartbeats 4000000 in
theorem sX9_chase {X : CX} {a : Nat → Nat} {D : va_G} {tI tJ tB : ClassId} {zz : SV} {σ : St}  {p1 : Int32} {p2 : Int32} {r : St × Int32} (hX : OKX X (vM a D tI tJ tB zz) cX9_chase 5 RX9 10 232) (hR : ∀ (pc : Nat) (lv : List (Nat × Value)), decode cX9_chase pc = .ok (.ireturn, 1) → G X (vM a D tI tJ tB zz) 5 r.1 pc lv [.int r.2]) (h : fX9_chase σ p1 p2 = some r) : G X (vM a D tI tJ tB zz) 5 σ 0 [(0, .ref (a 0)), (1, .int p1), (2, .int p2)] [] := by
  unfold fX9_chase at h
  refine g_iload_n hX 1 dX9_chase_0 rfl rfl ?_
  refine g_iconst hX (1) dX9_chase_1 (by decide) ?_
  refine g_bipush hX (60) dX9_chase_2 (by decide) ?_
  refine g_callSI (As := [.int p1, .int (1 : Int32), .int (60 : Int32)]) (rest := []) hX miX9_isIn mvX9_isIn lkX9_156 (by decide) rfl (Nat.le_of_ble_eq_true rfl) rfl dX9_chase_4 (fun τ x ho => kX9_isIn _ ho) h (fun σ_1 t_2 h => ?_)
  refine g_if_eq hX 42 dX9_chase_7 (by decide) h (fun h => ?_) (fun h => ?_)
  · refine g_iconst hX (-1) dX9_chase_42 (by decide) ?_
    exact g_reti hR h dX9_chase_43
  · refine g_iload_n hX 2 dX9_chase_10 rfl rfl ?_
    refine g_iconst hX (0) dX9_chase_11 (by decide) ?_
    refine g_iconst hX (2) dX9_chase_12 (by decide) ?_
    refine g_callSI (As := [.int p2, .int (0 : Int32), .int (2 : Int32)]) (rest := []) hX miX9_isIn mvX9_isIn lkX9_156 (by decide) rfl (Nat.le_of_ble_eq_true rfl) rfl dX9_chase_13 (fun τ x ho => kX9_isIn _ ho) h (fun σ_3 t_4 h => ?_)
    refine jp_inv (P := fun f => ∀ (σ_5 : St)  , f σ_5 = some r → G X (vM a D tI tJ tB zz) 5 σ_5 35 [(0, .ref (a 0)), (1, .int p1), (2, .int p2)] []) h (fun σ_5 h => ?_) (fun j35 hj35 h => ?_)
    · refine g_aload_n hX 0 dX9_chase_35 rfl rfl ?_
      refine g_callVI (As := []) (rest := []) hX 0 (Nat.le_of_ble_eq_true rfl) rfl rfl miX9_isAllBarred mvX9_isAllBarred lkX9_299 (by decide) rfl (Nat.le_of_ble_eq_true rfl) rfl dX9_chase_36 (fun τ x ho => kX9_isAllBarred _ ho) h (fun σ_6 t_7 h => ?_)
      refine g_if_eq hX 44 dX9_chase_39 (by decide) h (fun h => ?_) (fun h => ?_)
      · refine g_iconst hX (0) dX9_chase_44 (by decide) ?_
        refine g_istore_n (lv' := fun x3_8 => [(3, .int x3_8), (0, .ref (a 0)), (1, .int p1), (2, .int p2)]) hX dX9_chase_45 rfl (by decide) (fun _ => rfl) h (fun x3_8 h => ?_)
        refine g_sub [1, 2, 3, 0] rfl (sX9_chase_L46 hX hR (fun σ_10 x3_11 h => ?_) FU _ _ h)
        refine g_aload_n hX 0 dX9_chase_72 rfl rfl ?_
        refine g_callVI (As := []) (rest := []) hX 0 (Nat.le_of_ble_eq_true rfl) rfl rfl miX9_areReady mvX9_areReady lkX9_367 (by decide) rfl (Nat.le_of_ble_eq_true rfl) rfl dX9_chase_73 (fun τ x ho => kX9_areReady _ ho) h (fun σ_12 t_13 h => ?_)
        refine g_if_ne hX 81 dX9_chase_76 (by decide) h (fun h => ?_) (fun h => ?_)
        · refine g_iconst hX (0) dX9_chase_81 (by decide) ?_
          refine g_istore_n (lv' := fun x3_14 => [(3, .int x3_14), (0, .ref (a 0)), (1, .int p1), (2, .int p2)]) hX dX9_chase_82 rfl (by decide) (fun _ => rfl) h (fun x3_14 h => ?_)
          refine g_sub [1, 2, 3, 0] rfl (sX9_chase_L83 hX hR (fun σ_18 x3_19 h => ?_) FU _ _ h)
          refine g_aload_n hX 0 dX9_chase_123 rfl rfl ?_
          refine g_iload_n hX 1 dX9_chase_124 rfl rfl ?_
          refine g_callVV (As := [.int p1]) (rest := []) hX 0 (Nat.le_of_ble_eq_true rfl) rfl rfl miX9_chases mvX9_chases lkX9_449 (by decide) rfl (Nat.le_of_ble_eq_true rfl) rfl dX9_chase_125 (fun τ x ho => kX9_chases _ ho) h (fun σ_20 t_21 h => ?_)
          refine g_iload_n hX 2 dX9_chase_128 rfl rfl ?_
          refine jp_inv (P := fun f => ∀ (σ_22 : St)  (t_23 : Int32), f σ_22 t_23 = some r → G X (vM a D tI tJ tB zz) 5 σ_22 189 [(0, .ref (a 0))] [.int t_23]) h (fun σ_22 t_23 h => ?_) (fun j189 hj189 h => ?_)
          · refine g_istore_n (lv' := fun x3_24 => [(3, .int x3_24), (0, .ref (a 0))]) hX dX9_chase_189 rfl (by decide) (fun _ => rfl) h (fun x3_24 h => ?_)
            refine g_iconst hX (0) dX9_chase_190 (by decide) ?_
            refine g_istore (lv' := fun x4_25 => [(4, .int x4_25), (3, .int x3_24), (0, .ref (a 0))]) hX dX9_chase_191 (by decide) (fun _ => rfl) h (fun x4_25 h => ?_)
            refine g_sub [2, 1, 0] rfl (sX9_chase_L193 hX hR (fun σ_29 x4_30 h => ?_) FU _ _ h)
            refine g_iload_n hX 0 dX9_chase_238 rfl rfl ?_
            exact g_reti hR h dX9_chase_239
          refine g_if_ne hX 139 dX9_chase_129 (by decide) h (fun h => ?_) (fun h => ?_)
          · refine g_iload_n hX 2 dX9_chase_139 rfl rfl ?_
            refine g_iconst hX (1) dX9_chase_140 (by decide) ?_
            refine g_icmp_ne hX 151 dX9_chase_141 (by decide) h (fun h => ?_) (fun h => ?_)
            · refine g_iload_n hX 2 dX9_chase_151 rfl rfl ?_
              refine g_iconst hX (2) dX9_chase_152 (by decide) ?_
              refine g_icmp_ne hX 163 dX9_chase_153 (by decide) h (fun h => ?_) (fun h => ?_)
              · refine g_aload_n hX 0 dX9_chase_163 rfl rfl ?_
                refine gM_70 hX dX9_chase_164 ?_
                refine g_iload_n hX 2 dX9_chase_167 rfl rfl ?_
                refine g_bipush hX (10) dX9_chase_168 (by decide) ?_
                refine g_isub hX dX9_chase_170 ?_
                refine alM_15 hX dX9_chase_171 h (fun h => ?_)
                refine g_iconst hX (1) dX9_chase_172 (by decide) ?_
                refine g_icmp_ne hX 188 dX9_chase_173 (by decide) h (fun h => ?_) (fun h => ?_)
                · refine g_iconst hX (-1) dX9_chase_188 (by decide) ?_
                  exact g_sub [0] rfl (hj189 _ _ h)
                · refine g_aload_n hX 0 dX9_chase_176 rfl rfl ?_
                  refine gM_73 hX dX9_chase_177 ?_
                  refine g_iload_n hX 2 dX9_chase_180 rfl rfl ?_
                  refine g_bipush hX (10) dX9_chase_181 (by decide) ?_
                  refine g_isub hX dX9_chase_183 ?_
                  refine alM_16 hX dX9_chase_184 h (fun h => ?_)
                  refine g_goto hX 189 dX9_chase_185 (by decide) ?_
                  exact g_sub [0] rfl (hj189 _ _ h)
              · refine g_aload_n hX 0 dX9_chase_156 rfl rfl ?_
                refine gM_440 hX dX9_chase_157 ?_
                refine g_goto hX 189 dX9_chase_160 (by decide) ?_
                exact g_sub [0] rfl (hj189 _ _ h)
            · refine g_aload_n hX 0 dX9_chase_144 rfl rfl ?_
              refine gM_434 hX dX9_chase_145 ?_
              refine g_goto hX 189 dX9_chase_148 (by decide) ?_
              exact g_sub [0] rfl (hj189 _ _ h)
          · refine g_aload_n hX 0 dX9_chase_132 rfl rfl ?_
            refine gM_437 hX dX9_chase_133 ?_
            refine g_goto hX 189 dX9_chase_136 (by decide) ?_
            exact g_sub [0] rfl (hj189 _ _ h)
        · refine g_iconst hX (-1) dX9_chase_79 (by decide) ?_
          exact g_reti hR h dX9_chase_80
      · refine g_iconst hX (-1) dX9_chase_42 (by decide) ?_
        exact g_reti hR h dX9_chase_43
    refine g_if_ne hX 35 dX9_chase_16 (by decide) h (fun h => ?_) (fun h => ?_)
    · exact g_sub [0, 1, 2] rfl (hj35 _ h)
    · refine g_iload_n hX 2 dX9_chase_19 rfl rfl ?_
      refine g_bipush hX (10) dX9_chase_20 (by decide) ?_
      refine g_bipush hX (9) dX9_chase_22 (by decide) ?_
      refine g_aload_n hX 0 dX9_chase_24 rfl rfl ?_
      refine gM_260 hX dX9_chase_25 ?_
      refine g_iadd hX dX9_chase_28 ?_
      refine g_callSI (As := [.int p2, .int (10 : Int32), .int ((9 : Int32) + (σ_3.1 0 0))]) (rest := []) hX miX9_isIn mvX9_isIn lkX9_156 (by decide) rfl (Nat.le_of_ble_eq_true rfl) rfl dX9_chase_29 (fun τ x ho => kX9_isIn _ ho) h (fun σ_31 t_32 h => ?_)
      refine g_if_eq hX 42 dX9_chase_32 (by decide) h (fun h => ?_) (fun h => ?_)
      · refine g_iconst hX (-1) dX9_chase_42 (by decide) ?_
        exact g_reti hR h dX9_chase_43
      · exact g_sub [0, 1, 2] rfl (hj35 _ h)
set_option maxRecDepth 20000 in
set_option maxHeartbeats 4000000 in
theorem kX9_chase (l : Launch) {a : Nat → Nat} {D : va_G} {tI tJ tB : ClassId} {zz : SV} {σ τ : St}  {p1 : Int32} {p2 : Int32} {x : Int32} (h : fX9_chase σ p1 p2 = some (τ, x)) : CtI l yX9_chase cX9_chase 5 (some .int) 10 232 (vM a D tI tJ tB zz) σ [.ref (a 0), .int p1, .int p2] τ x := g_metI (by decide) (Nat.le_of_ble_eq_true rfl) rfl (fun X _ hX hR => sX9_chase (r := (τ, x)) hX hR h)
def fX9_asksLaws_L21 (q1_21 : Int32) (q2_21 : Int32) (kx21 : St → Int32 → Option (St × Unit)) : Nat → St → Int32 → Option (St × Unit)
  | 0, _, _ => none
  | n21 + 1, σ, c3_21 =>
    (if (σ.1 0 38) ≤ c3_21 then kx21 σ c3_21 else bnd (sI σ 0 39 c3_21) fun (σ_7 : St) => cl (fX9_countRests σ_7 ) fun (σ_8 : St) (t_9 : Int32) => (jp (fun (σ_10 : St)   => bnd (c3_21 + (1 : Int32)) fun (x3_11 : Int32) => fX9_asksLaws_L21 q1_21 q2_21 kx21 n21 σ_10 x3_11) fun j115 => (if t_9 = 0 then j115 σ_8 else cl (fX9_clears σ_8 ) fun (σ_12 : St) (t_13 : Unit) => cl (fX9_lays_ σ_12 (σ_12.1 0 57) (1 : Int32)) fun (σ_14 : St) (t_15 : Unit) => cl (fX9_rowBuys σ_14 ) fun (σ_16 : St) (t_17 : Unit) => cl (fX9_meanNow σ_16 q1_21) fun (σ_18 : St) (t_19 : Int32) => bnd t_19 fun (x4_20 : Int32) => (if x4_20 = (-1 : Int32) then j115 σ_18 else (jp (fun (σ_21 : St)   => (jp (fun (σ_22 : St)  (t_23 : Int32) => bnd (sI σ_22 0 65 t_23) fun (σ_24 : St) => bnd (sI σ_24 0 66 x4_20) fun (σ_25 : St) => j115 σ_25) fun j106 => (if c3_21 = (-1 : Int32) then j106 σ_21 (9 : Int32) else j106 σ_21 c3_21))) fun j94 => (if (σ_18.1 0 65) = (-1 : Int32) then j94 σ_18 else (if x4_20 < (σ_18.1 0 66) then j94 σ_18 else j115 σ_18)))))))
def fX9_asksLaws (σ : St) (p1 : Int32) : Option (St × Unit) :=
  bnd (σ.1 0 39) fun (x2_1 : Int32) => bnd (sI σ 0 65 (-1 : Int32)) fun (σ_2 : St) => bnd (sI σ_2 0 66 (-1 : Int32)) fun (σ_3 : St) => cl (fX9_knocks σ_3 ) fun (σ_4 : St) (t_5 : Unit) => bnd (-1 : Int32) fun (x3_6 : Int32) => fX9_asksLaws_L21 p1 x2_1 (fun (σ_26 : St) (x3_27 : Int32) => bnd (sI σ_26 0 39 x2_1) fun (σ_28 : St) => some (σ_28, ())) FU σ_4 x3_6
set_option maxRecDepth 20000 in
set_option maxHeartbeats 4000000 in
theorem sX9_asksLaws_L21 {X : CX} {a : Nat → Nat} {D : va_G} {tI tJ tB : ClassId} {zz : SV} {q1_21 : Int32} {q2_21 : Int32} {kx21 : St → Int32 → Option (St × Unit)} {r : St × Unit} (hX : OKX X (vM a D tI tJ tB zz) cX9_asksLaws 5 RX9 7 161) (hR : ∀ (pc : Nat) (lv : List (Nat × Value)), decode cX9_asksLaws pc = .ok (.return_, 1) → G X (vM a D tI tJ tB zz) 5 r.1 pc lv []) (hkx21 : ∀ (σ : St) (e3_21 : Int32), kx21 σ e3_21 = some r → G X (vM a D tI tJ tB zz) 5 σ 121 [(0, .ref (a 0)), (2, .int q2_21)] []) : ∀ (n : Nat) (σ : St) (c3_21 : Int32), fX9_asksLaws_L21 q1_21 q2_21 kx21 n σ c3_21 = some r → G X (vM a D tI tJ tB zz) 5 σ 21 [(0, .ref (a 0)), (1, .int q1_21), (2, .int q2_21), (3, .int c3_21)] [] := by
  intro n
  induction n with
  | zero => intro σ c3_21 h; rw [fX9_asksLaws_L21] at h; exact absurd h (by simp)
  | succ n21 ih21 =>
    intro σ c3_21 h
    rw [fX9_asksLaws_L21] at h
    refine g_iload_n hX 3 dX9_asksLaws_21 rfl rfl ?_
    refine g_aload_n hX 0 dX9_asksLaws_22 rfl rfl ?_
    refine gM_278 hX dX9_asksLaws_23 ?_
    refine g_icmp_ge hX 121 dX9_asksLaws_26 (by decide) h (fun h => ?_) (fun h => ?_)
    · exact g_sub [0, 2] rfl (hkx21 _ _ h)
    · refine g_aload_n hX 0 dX9_asksLaws_29 rfl rfl ?_
      refine g_iload_n hX 3 dX9_asksLaws_30 rfl rfl ?_
      refine pM_67 hX dX9_asksLaws_31 h (fun σ_7 h => ?_)
      refine g_aload_n hX 0 dX9_asksLaws_34 rfl rfl ?_
      refine g_callVI (As := []) (rest := []) hX 0 (Nat.le_of_ble_eq_true rfl) rfl rfl miX9_countRests mvX9_countRests lkX9_389 (by decide) rfl (Nat.le_of_ble_eq_true rfl) rfl dX9_asksLaws_35 (fun τ x ho => kX9_countRests _ ho) h (fun σ_8 t_9 h => ?_)
      refine jp_inv (P := fun f => ∀ (σ_10 : St)  , f σ_10 = some r → G X (vM a D tI tJ tB zz) 5 σ_10 115 [(0, .ref (a 0)), (1, .int q1_21), (2, .int q2_21), (3, .int c3_21)] []) h (fun σ_10 h => ?_) (fun j115 hj115 h => ?_)
      · refine g_iinc (y := (1)) (lv' := fun x3_11 => [(3, .int x3_11), (0, .ref (a 0)), (1, .int q1_21), (2, .int q2_21)]) hX 3 dX9_asksLaws_115 rfl (by decide) (by decide) (fun _ => rfl) h (fun x3_11 h => ?_)
        refine g_goto hX 21 dX9_asksLaws_118 (by decide) ?_
        exact g_sub [1, 2, 3, 0] rfl (ih21 _ _ h)
      refine g_if_ne hX 44 dX9_asksLaws_38 (by decide) h (fun h => ?_) (fun h => ?_)
      · refine g_aload_n hX 0 dX9_asksLaws_44 rfl rfl ?_
        refine g_callVV (As := []) (rest := []) hX 0 (Nat.le_of_ble_eq_true rfl) rfl rfl miX9_clears mvX9_clears lkX9_339 (by decide) rfl (Nat.le_of_ble_eq_true rfl) rfl dX9_asksLaws_45 (fun τ x ho => kX9_clears _ ho) h (fun σ_12 t_13 h => ?_)
        refine g_aload_n hX 0 dX9_asksLaws_48 rfl rfl ?_
        refine g_aload_n hX 0 dX9_asksLaws_49 rfl rfl ?_
        refine gM_383 hX dX9_asksLaws_50 ?_
        refine g_iconst hX (1) dX9_asksLaws_53 (by decide) ?_
        refine g_callVV (As := [.int (σ_12.1 0 57), .int (1 : Int32)]) (rest := []) hX 0 (Nat.le_of_ble_eq_true rfl) rfl rfl miX9_lays_ mvX9_lays_ lkX9_345 (by decide) rfl (Nat.le_of_ble_eq_true rfl) rfl dX9_asksLaws_54 (fun τ x ho => kX9_lays_ _ ho) h (fun σ_14 t_15 h => ?_)
        refine g_aload_n hX 0 dX9_asksLaws_57 rfl rfl ?_
        refine g_callVV (As := []) (rest := []) hX 0 (Nat.le_of_ble_eq_true rfl) rfl rfl miX9_rowBuys mvX9_rowBuys lkX9_348 (by decide) rfl (Nat.le_of_ble_eq_true rfl) rfl dX9_asksLaws_58 (fun τ x ho => kX9_rowBuys _ ho) h (fun σ_16 t_17 h => ?_)
        refine g_aload_n hX 0 dX9_asksLaws_61 rfl rfl ?_
        refine g_iload_n hX 1 dX9_asksLaws_62 rfl rfl ?_
        refine g_callVI (As := [.int q1_21]) (rest := []) hX 0 (Nat.le_of_ble_eq_true rfl) rfl rfl miX9_meanNow mvX9_meanNow lkX9_397 (by decide) rfl (Nat.le_of_ble_eq_true rfl) rfl dX9_asksLaws_63 (fun τ x ho => kX9_meanNow _ ho) h (fun σ_18 t_19 h => ?_)
        refine g_istore (lv' := fun x4_20 => [(4, .int x4_20), (0, .ref (a 0)), (1, .int q1_21), (2, .int q2_21), (3, .int c3_21)]) hX dX9_asksLaws_66 (by decide) (fun _ => rfl) h (fun x4_20 h => ?_)
        refine g_iload hX 0 dX9_asksLaws_68 rfl ?_
        refine g_iconst hX (-1) dX9_asksLaws_70 (by decide) ?_
        refine g_icmp_eq hX 115 dX9_asksLaws_71 (by decide) h (fun h => ?_) (fun h => ?_)
        · exact g_sub [1, 2, 3, 4] rfl (hj115 _ h)
        · refine g_aload_n hX 1 dX9_asksLaws_74 rfl rfl ?_
          refine gM_452 hX dX9_asksLaws_75 ?_
          refine g_iconst hX (-1) dX9_asksLaws_78 (by decide) ?_
          refine jp_inv (P := fun f => ∀ (σ_21 : St)  , f σ_21 = some r → G X (vM a D tI tJ tB zz) 5 σ_21 94 [(4, .int x4_20), (0, .ref (a 0)), (1, .int q1_21), (2, .int q2_21), (3, .int c3_21)] []) h (fun σ_21 h => ?_) (fun j94 hj94 h => ?_)
          · refine g_aload_n hX 1 dX9_asksLaws_94 rfl rfl ?_
            refine g_iload_n hX 4 dX9_asksLaws_95 rfl rfl ?_
            refine g_iconst hX (-1) dX9_asksLaws_96 (by decide) ?_
            refine jp_inv (P := fun f => ∀ (σ_22 : St)  (t_23 : Int32), f σ_22 t_23 = some r → G X (vM a D tI tJ tB zz) 5 σ_22 106 [(4, .int x4_20), (0, .ref (a 0)), (1, .int q1_21), (2, .int q2_21), (3, .int c3_21)] [.int t_23, .ref (a 0)]) h (fun σ_22 t_23 h => ?_) (fun j106 hj106 h => ?_)
            · refine pM_452 hX dX9_asksLaws_106 h (fun σ_24 h => ?_)
              refine g_aload_n hX 1 dX9_asksLaws_109 rfl rfl ?_
              refine g_iload hX 0 dX9_asksLaws_110 rfl ?_
              refine pM_455 hX dX9_asksLaws_112 h (fun σ_25 h => ?_)
              exact g_sub [1, 2, 3, 4] rfl (hj115 _ h)
            refine g_icmp_ne hX 105 dX9_asksLaws_97 (by decide) h (fun h => ?_) (fun h => ?_)
            · refine g_iload_n hX 4 dX9_asksLaws_105 rfl rfl ?_
              exact g_sub [0, 1, 2, 3, 4] rfl (hj106 _ _ h)
            · refine g_bipush hX (9) dX9_asksLaws_100 (by decide) ?_
              refine g_goto hX 106 dX9_asksLaws_102 (by decide) ?_
              exact g_sub [0, 1, 2, 3, 4] rfl (hj106 _ _ h)
          refine g_icmp_eq hX 94 dX9_asksLaws_79 (by decide) h (fun h => ?_) (fun h => ?_)
          · exact g_sub [0, 1, 2, 3, 4] rfl (hj94 _ h)
          · refine g_iload hX 0 dX9_asksLaws_82 rfl ?_
            refine g_aload_n hX 1 dX9_asksLaws_84 rfl rfl ?_
            refine gM_455 hX dX9_asksLaws_85 ?_
            refine g_icmp_lt hX 94 dX9_asksLaws_88 (by decide) h (fun h => ?_) (fun h => ?_)
            · exact g_sub [0, 1, 2, 3, 4] rfl (hj94 _ h)
            · refine g_goto hX 115 dX9_asksLaws_91 (by decide) ?_
              exact g_sub [1, 2, 3, 4] rfl (hj115 _ h)
      · refine g_goto hX 115 dX9_asksLaws_41 (by decide) ?_
        exact g_sub [0, 1, 2, 3] rfl (hj115 _ h)
set_option maxRecDepth 20000 in
set_option maxHeartbeats 4000000 in
theorem sX9_asksLaws {X : CX} {a : Nat → Nat} {D : va_G} {tI tJ tB : ClassId} {zz : SV} {σ : St}  {p1 : Int32} {r : St × Unit} (hX : OKX X (vM a D tI tJ tB zz) cX9_asksLaws 5 RX9 7 161) (hR : ∀ (pc : Nat) (lv : List (Nat × Value)), decode cX9_asksLaws pc = .ok (.return_, 1) → G X (vM a D tI tJ tB zz) 5 r.1 pc lv []) (h : fX9_asksLaws σ p1 = some r) : G X (vM a D tI tJ tB zz) 5 σ 0 [(0, .ref (a 0)), (1, .int p1)] [] := by
  unfold fX9_asksLaws at h
  refine g_aload_n hX 0 dX9_asksLaws_0 rfl rfl ?_
  refine gM_67 hX dX9_asksLaws_1 ?_
  refine g_istore_n (lv' := fun x2_1 => [(2, .int x2_1), (0, .ref (a 0)), (1, .int p1)]) hX dX9_asksLaws_4 rfl (by decide) (fun _ => rfl) h (fun x2_1 h => ?_)
  refine g_aload_n hX 1 dX9_asksLaws_5 rfl rfl ?_
  refine g_iconst hX (-1) dX9_asksLaws_6 (by decide) ?_
  refine pM_452 hX dX9_asksLaws_7 h (fun σ_2 h => ?_)
  refine g_aload_n hX 1 dX9_asksLaws_10 rfl rfl ?_
  refine g_iconst hX (-1) dX9_asksLaws_11 (by decide) ?_
  refine pM_455 hX dX9_asksLaws_12 h (fun σ_3 h => ?_)
  refine g_aload_n hX 1 dX9_asksLaws_15 rfl rfl ?_
  refine g_callVV (As := []) (rest := []) hX 0 (Nat.le_of_ble_eq_true rfl) rfl rfl miX9_knocks mvX9_knocks lkX9_361 (by decide) rfl (Nat.le_of_ble_eq_true rfl) rfl dX9_asksLaws_16 (fun τ x ho => kX9_knocks _ ho) h (fun σ_4 t_5 h => ?_)
  refine g_iconst hX (-1) dX9_asksLaws_19 (by decide) ?_
  refine g_istore_n (lv' := fun x3_6 => [(3, .int x3_6), (2, .int x2_1), (0, .ref (a 0)), (1, .int p1)]) hX dX9_asksLaws_20 rfl (by decide) (fun _ => rfl) h (fun x3_6 h => ?_)
  refine g_sub [2, 3, 1, 0] rfl (sX9_asksLaws_L21 hX hR (fun σ_26 x3_27 h => ?_) FU _ _ h)
  refine g_aload_n hX 0 dX9_asksLaws_121 rfl rfl ?_
  refine g_iload_n hX 1 dX9_asksLaws_122 rfl rfl ?_
  refine pM_67 hX dX9_asksLaws_123 h (fun σ_28 h => ?_)
  exact g_retv hR h dX9_asksLaws_126
set_option maxRecDepth 20000 in
set_option maxHeartbeats 4000000 in
theorem kX9_asksLaws (l : Launch) {a : Nat → Nat} {D : va_G} {tI tJ tB : ClassId} {zz : SV} {σ τ : St}  {p1 : Int32} {x : Unit} (h : fX9_asksLaws σ p1 = some (τ, x)) : CtV l yX9_asksLaws cX9_asksLaws 5 none 7 161 (vM a D tI tJ tB zz) σ [.ref (a 0), .int p1] τ x := g_metV (by decide) (Nat.le_of_ble_eq_true rfl) rfl (fun X _ hX hR => sX9_asksLaws (r := (τ, x)) hX hR h)
def fX9_bestLaw (σ : St) (p1 : Int32) (p2 : Int32) : Option (St × Int32) :=
  cl (fX9_isSort σ p1) fun (σ_1 : St) (t_2 : Int32) => (if t_2 = 0 then some (σ_1, (-1 : Int32)) else cl (fX9_isIn σ_1 p2 (0 : Int32) (1 : Int32)) fun (σ_3 : St) (t_4 : Int32) => (if t_4 = 0 then some (σ_3, (-1 : Int32)) else cl (fX9_asksLaws σ_3 p1) fun (σ_5 : St) (t_6 : Unit) => (if p2 = 0 then some (σ_5, (σ_5.1 0 65)) else some (σ_5, (σ_5.1 0 66)))))
set_option maxRecDepth 20000 in
set_option maxHeartbeats 4000000 in
theorem sX9_bestLaw {X : CX} {a : Nat → Nat} {D : va_G} {tI tJ tB : ClassId} {zz : SV} {σ : St}  {p1 : Int32} {p2 : Int32} {r : St × Int32} (hX : OKX X (vM a D tI tJ tB zz) cX9_bestLaw 3 RX9 8 185) (hR : ∀ (pc : Nat) (lv : List (Nat × Value)), decode cX9_bestLaw pc = .ok (.ireturn, 1) → G X (vM a D tI tJ tB zz) 3 r.1 pc lv [.int r.2]) (h : fX9_bestLaw σ p1 p2 = some r) : G X (vM a D tI tJ tB zz) 3 σ 0 [(0, .ref (a 0)), (1, .int p1), (2, .int p2)] [] := by
  unfold fX9_bestLaw at h
  refine g_aload_n hX 0 dX9_bestLaw_0 rfl rfl ?_
  refine g_iload_n hX 1 dX9_bestLaw_1 rfl rfl ?_
  refine g_callVI (As := [.int p1]) (rest := []) hX 0 (Nat.le_of_ble_eq_true rfl) rfl rfl miX9_isSort mvX9_isSort lkX9_392 (by decide) rfl (Nat.le_of_ble_eq_true rfl) rfl dX9_bestLaw_2 (fun τ x ho => kX9_isSort _ ho) h (fun σ_1 t_2 h => ?_)
  refine g_if_eq hX 17 dX9_bestLaw_5 (by decide) h (fun h => ?_) (fun h => ?_)
  · refine g_iconst hX (-1) dX9_bestLaw_17 (by decide) ?_
    exact g_reti hR h dX9_bestLaw_18
  · refine g_iload_n hX 2 dX9_bestLaw_8 rfl rfl ?_
    refine g_iconst hX (0) dX9_bestLaw_9 (by decide) ?_
    refine g_iconst hX (1) dX9_bestLaw_10 (by decide) ?_
    refine g_callSI (As := [.int p2, .int (0 : Int32), .int (1 : Int32)]) (rest := []) hX miX9_isIn mvX9_isIn lkX9_156 (by decide) rfl (Nat.le_of_ble_eq_true rfl) rfl dX9_bestLaw_11 (fun τ x ho => kX9_isIn _ ho) h (fun σ_3 t_4 h => ?_)
    refine g_if_ne hX 19 dX9_bestLaw_14 (by decide) h (fun h => ?_) (fun h => ?_)
    · refine g_aload_n hX 0 dX9_bestLaw_19 rfl rfl ?_
      refine g_iload_n hX 1 dX9_bestLaw_20 rfl rfl ?_
      refine g_callVV (As := [.int p1]) (rest := []) hX 0 (Nat.le_of_ble_eq_true rfl) rfl rfl miX9_asksLaws mvX9_asksLaws lkX9_458 (by decide) rfl (Nat.le_of_ble_eq_true rfl) rfl dX9_bestLaw_21 (fun τ x ho => kX9_asksLaws _ ho) h (fun σ_5 t_6 h => ?_)
      refine g_iload_n hX 2 dX9_bestLaw_24 rfl rfl ?_
      refine g_if_ne hX 35 dX9_bestLaw_25 (by decide) h (fun h => ?_) (fun h => ?_)
      · refine g_aload_n hX 0 dX9_bestLaw_35 rfl rfl ?_
        refine gM_455 hX dX9_bestLaw_36 ?_
        exact g_reti hR h dX9_bestLaw_39
      · refine g_aload_n hX 0 dX9_bestLaw_28 rfl rfl ?_
        refine gM_452 hX dX9_bestLaw_29 ?_
        refine g_goto hX 39 dX9_bestLaw_32 (by decide) ?_
        exact g_reti hR h dX9_bestLaw_39
    · refine g_iconst hX (-1) dX9_bestLaw_17 (by decide) ?_
      exact g_reti hR h dX9_bestLaw_18
set_option maxRecDepth 20000 in
set_option maxHeartbeats 4000000 in
theorem kX9_bestLaw (l : Launch) {a : Nat → Nat} {D : va_G} {tI tJ tB : ClassId} {zz : SV} {σ τ : St}  {p1 : Int32} {p2 : Int32} {x : Int32} (h : fX9_bestLaw σ p1 p2 = some (τ, x)) : CtI l yX9_bestLaw cX9_bestLaw 3 (some .int) 8 185 (vM a D tI tJ tB zz) σ [.ref (a 0), .int p1, .int p2] τ x := g_metI (by decide) (Nat.le_of_ble_eq_true rfl) rfl (fun X _ hX hR => sX9_bestLaw (r := (τ, x)) hX hR h)
def fX9_edge_L40 (q1_40 : Int32) (q2_40 : Int32) (q3_40 : Int32) (q4_40 : Int32) (kx40 : St → Int32 → Int32 → Option (St × Int32)) : Nat → St → Int32 → Int32 → Option (St × Int32)
  | 0, _, _, _ => none
  | n40 + 1, σ, c5_40, c6_40 =>
    bnd (if (q2_40 + (20 : Int32)) < (99 : Int32) then (q2_40 + (20 : Int32)) else (99 : Int32)) fun (t_12 : Int32) => (if t_12 < c6_40 then kx40 σ c5_40 c6_40 else (if c5_40 = (-1 : Int32) then chk (inb q1_40 4) (bnd (sI σ 2 (ix q1_40) c6_40) fun (σ_13 : St) => cl (fX9_countRests σ_13 ) fun (σ_14 : St) (t_15 : Int32) => (jp (fun (σ_16 : St) (x5_17 : Int32)  => bnd (c6_40 + (1 : Int32)) fun (x6_18 : Int32) => fX9_edge_L40 q1_40 q2_40 q3_40 q4_40 kx40 n40 σ_16 x5_17 x6_18) fun j89 => jp (fun (σ_19 : St)   => bnd c6_40 fun (x5_20 : Int32) => j89 σ_19 x5_20) fun j85 => (if t_15 = q3_40 then (if (σ_14.1 0 57) = q4_40 then j89 σ_14 c5_40 else j85 σ_14) else j85 σ_14))) else kx40 σ c5_40 c6_40))
def fX9_edge (σ : St) (p1 : Int32) : Option (St × Int32) :=
  cl (fX9_isBaker σ p1) fun (σ_1 : St) (t_2 : Int32) => (if t_2 = 0 then some (σ_1, (-1 : Int32)) else cl (fX9_knocks σ_1 ) fun (σ_3 : St) (t_4 : Unit) => chk (inb p1 4) (bnd (σ_3.1 2 (ix p1)) fun (x2_5 : Int32) => cl (fX9_countRests σ_3 ) fun (σ_6 : St) (t_7 : Int32) => bnd t_7 fun (x3_8 : Int32) => bnd (σ_6.1 0 57) fun (x4_9 : Int32) => bnd (-1 : Int32) fun (x5_10 : Int32) => bnd (x2_5 + (1 : Int32)) fun (x6_11 : Int32) => fX9_edge_L40 p1 x2_5 x3_8 x4_9 (fun (σ_21 : St) (x5_22 : Int32) (x6_23 : Int32) => chk (inb p1 4) (bnd (sI σ_21 2 (ix p1) x2_5) fun (σ_24 : St) => some (σ_24, x5_22))) FU σ_6 x5_10 x6_11))
set_option maxRecDepth 20000 in
set_option maxHeartbeats 4000000 in
theorem sX9_edge_L40 {X : CX} {a : Nat → Nat} {D : va_G} {tI tJ tB : ClassId} {zz : SV} {q1_40 : Int32} {q2_40 : Int32} {q3_40 : Int32} {q4_40 : Int32} {kx40 : St → Int32 → Int32 → Option (St × Int32)} {r : St × Int32} (hX : OKX X (vM a D tI tJ tB zz) cX9_edge 7 RX9 7 161) (hR : ∀ (pc : Nat) (lv : List (Nat × Value)), decode cX9_edge pc = .ok (.ireturn, 1) → G X (vM a D tI tJ tB zz) 7 r.1 pc lv [.int r.2]) (hkx40 : ∀ (σ : St) (e5_40 : Int32) (e6_40 : Int32), kx40 σ e5_40 e6_40 = some r → G X (vM a D tI tJ tB zz) 7 σ 95 [(0, .ref (a 0)), (1, .int q1_40), (2, .int q2_40), (5, .int e5_40)] []) : ∀ (n : Nat) (σ : St) (c5_40 : Int32) (c6_40 : Int32), fX9_edge_L40 q1_40 q2_40 q3_40 q4_40 kx40 n σ c5_40 c6_40 = some r → G X (vM a D tI tJ tB zz) 7 σ 40 [(0, .ref (a 0)), (1, .int q1_40), (2, .int q2_40), (3, .int q3_40), (4, .int q4_40), (5, .int c5_40), (6, .int c6_40)] [] := by
  intro n
  induction n with
  | zero => intro σ c5_40 c6_40 h; rw [fX9_edge_L40] at h; exact absurd h (by simp)
  | succ n40 ih40 =>
    intro σ c5_40 c6_40 h
    rw [fX9_edge_L40] at h
    refine g_iload hX 6 dX9_edge_40 rfl ?_
    refine g_bipush hX (99) dX9_edge_42 (by decide) ?_
    refine g_iload_n hX 2 dX9_edge_44 rfl rfl ?_
    refine g_bipush hX (20) dX9_edge_45 (by decide) ?_
    refine g_iadd hX dX9_edge_47 ?_
    refine g_mmin hX lkX9_400 mathS_minI mathI mathC_minI (by decide) (by decide) (Nat.le_of_ble_eq_true rfl) dX9_edge_48 h (fun t_12 h => ?_)
    refine g_icmp_gt hX 95 dX9_edge_51 (by decide) h (fun h => ?_) (fun h => ?_)
    · exact g_sub [0, 1, 2, 5] rfl (hkx40 _ _ _ h)
    · refine g_iload hX 5 dX9_edge_54 rfl ?_
      refine g_iconst hX (-1) dX9_edge_56 (by decide) ?_
      refine g_icmp_ne hX 95 dX9_edge_57 (by decide) h (fun h => ?_) (fun h => ?_)
      · exact g_sub [0, 1, 2, 5] rfl (hkx40 _ _ _ h)
      · refine g_aload_n hX 0 dX9_edge_60 rfl rfl ?_
        refine gM_23 hX dX9_edge_61 ?_
        refine g_iload_n hX 1 dX9_edge_64 rfl rfl ?_
        refine g_iload hX 6 dX9_edge_65 rfl ?_
        refine asM_2 hX dX9_edge_67 h (fun σ_13 h => ?_)
        refine g_aload_n hX 0 dX9_edge_68 rfl rfl ?_
        refine g_callVI (As := []) (rest := []) hX 0 (Nat.le_of_ble_eq_true rfl) rfl rfl miX9_countRests mvX9_countRests lkX9_389 (by decide) rfl (Nat.le_of_ble_eq_true rfl) rfl dX9_edge_69 (fun τ x ho => kX9_countRests _ ho) h (fun σ_14 t_15 h => ?_)
        refine g_iload_n hX 3 dX9_edge_72 rfl rfl ?_
        refine jp_inv (P := fun f => ∀ (σ_16 : St) (x5_17 : Int32) , f σ_16 x5_17 = some r → G X (vM a D tI tJ tB zz) 7 σ_16 89 [(0, .ref (a 0)), (1, .int q1_40), (2, .int q2_40), (3, .int q3_40), (4, .int q4_40), (6, .int c6_40), (5, .int x5_17)] []) h (fun σ_16 x5_17 h => ?_) (fun j89 hj89 h => ?_)
        · refine g_iinc (y := (1)) (lv' := fun x6_18 => [(6, .int x6_18), (0, .ref (a 0)), (1, .int q1_40), (2, .int q2_40), (3, .int q3_40), (4, .int q4_40), (5, .int x5_17)]) hX 5 dX9_edge_89 rfl (by decide) (by decide) (fun _ => rfl) h (fun x6_18 h => ?_)
          refine g_goto hX 40 dX9_edge_92 (by decide) ?_
          exact g_sub [1, 2, 3, 4, 5, 6, 0] rfl (ih40 _ _ _ h)
        refine jp_inv (P := fun f => ∀ (σ_19 : St)  , f σ_19 = some r → G X (vM a D tI tJ tB zz) 7 σ_19 85 [(0, .ref (a 0)), (1, .int q1_40), (2, .int q2_40), (3, .int q3_40), (4, .int q4_40), (6, .int c6_40)] []) h (fun σ_19 h => ?_) (fun j85 hj85 h => ?_)
        · refine g_iload hX 5 dX9_edge_85 rfl ?_
          refine g_istore (lv' := fun x5_20 => [(5, .int x5_20), (0, .ref (a 0)), (1, .int q1_40), (2, .int q2_40), (3, .int q3_40), (4, .int q4_40), (6, .int c6_40)]) hX dX9_edge_87 (by decide) (fun _ => rfl) h (fun x5_20 h => ?_)
          exact g_sub [1, 2, 3, 4, 5, 6, 0] rfl (hj89 _ _ h)
        refine g_icmp_ne hX 85 dX9_edge_73 (by decide) h (fun h => ?_) (fun h => ?_)
        · exact g_sub [0, 1, 2, 3, 4, 6] rfl (hj85 _ h)
        · refine g_aload_n hX 0 dX9_edge_76 rfl rfl ?_
          refine gM_383 hX dX9_edge_77 ?_
          refine g_iload hX 4 dX9_edge_80 rfl ?_
          refine g_icmp_eq hX 89 dX9_edge_82 (by decide) h (fun h => ?_) (fun h => ?_)
          · exact g_sub [0, 1, 2, 3, 4, 6, 5] rfl (hj89 _ _ h)
          · exact g_sub [0, 1, 2, 3, 4, 6] rfl (hj85 _ h)
set_option maxRecDepth 20000 in
set_option maxHeartbeats 4000000 in
theorem sX9_edge {X : CX} {a : Nat → Nat} {D : va_G} {tI tJ tB : ClassId} {zz : SV} {σ : St}  {p1 : Int32} {r : St × Int32} (hX : OKX X (vM a D tI tJ tB zz) cX9_edge 7 RX9 7 161) (hR : ∀ (pc : Nat) (lv : List (Nat × Value)), decode cX9_edge pc = .ok (.ireturn, 1) → G X (vM a D tI tJ tB zz) 7 r.1 pc lv [.int r.2]) (h : fX9_edge σ p1 = some r) : G X (vM a D tI tJ tB zz) 7 σ 0 [(0, .ref (a 0)), (1, .int p1)] [] := by
  unfold fX9_edge at h
  refine g_aload_n hX 0 dX9_edge_0 rfl rfl ?_
  refine g_iload_n hX 1 dX9_edge_1 rfl rfl ?_
  refine g_callVI (As := [.int p1]) (rest := []) hX 0 (Nat.le_of_ble_eq_true rfl) rfl rfl miX9_isBaker mvX9_isBaker lkX9_287 (by decide) rfl (Nat.le_of_ble_eq_true rfl) rfl dX9_edge_2 (fun τ x ho => kX9_isBaker _ ho) h (fun σ_1 t_2 h => ?_)
  refine g_if_ne hX 10 dX9_edge_5 (by decide) h (fun h => ?_) (fun h => ?_)
  · refine g_aload_n hX 0 dX9_edge_10 rfl rfl ?_
    refine g_callVV (As := []) (rest := []) hX 0 (Nat.le_of_ble_eq_true rfl) rfl rfl miX9_knocks mvX9_knocks lkX9_361 (by decide) rfl (Nat.le_of_ble_eq_true rfl) rfl dX9_edge_11 (fun τ x ho => kX9_knocks _ ho) h (fun σ_3 t_4 h => ?_)
    refine g_aload_n hX 0 dX9_edge_14 rfl rfl ?_
    refine gM_23 hX dX9_edge_15 ?_
    refine g_iload_n hX 1 dX9_edge_18 rfl rfl ?_
    refine alM_2 hX dX9_edge_19 h (fun h => ?_)
    refine g_istore_n (lv' := fun x2_5 => [(2, .int x2_5), (0, .ref (a 0)), (1, .int p1)]) hX dX9_edge_20 rfl (by decide) (fun _ => rfl) h (fun x2_5 h => ?_)
    refine g_aload_n hX 1 dX9_edge_21 rfl rfl ?_
    refine g_callVI (As := []) (rest := []) hX 0 (Nat.le_of_ble_eq_true rfl) rfl rfl miX9_countRests mvX9_countRests lkX9_389 (by decide) rfl (Nat.le_of_ble_eq_true rfl) rfl dX9_edge_22 (fun τ x ho => kX9_countRests _ ho) h (fun σ_6 t_7 h => ?_)
    refine g_istore_n (lv' := fun x3_8 => [(3, .int x3_8), (2, .int x2_5), (0, .ref (a 0)), (1, .int p1)]) hX dX9_edge_25 rfl (by decide) (fun _ => rfl) h (fun x3_8 h => ?_)
    refine g_aload_n hX 2 dX9_edge_26 rfl rfl ?_
    refine gM_383 hX dX9_edge_27 ?_
    refine g_istore (lv' := fun x4_9 => [(4, .int x4_9), (3, .int x3_8), (2, .int x2_5), (0, .ref (a 0)), (1, .int p1)]) hX dX9_edge_30 (by decide) (fun _ => rfl) h (fun x4_9 h => ?_)
    refine g_iconst hX (-1) dX9_edge_32 (by decide) ?_
    refine g_istore (lv' := fun x5_10 => [(5, .int x5_10), (4, .int x4_9), (3, .int x3_8), (2, .int x2_5), (0, .ref (a 0)), (1, .int p1)]) hX dX9_edge_33 (by decide) (fun _ => rfl) h (fun x5_10 h => ?_)
    refine g_iload_n hX 3 dX9_edge_35 rfl rfl ?_
    refine g_iconst hX (1) dX9_edge_36 (by decide) ?_
    refine g_iadd hX dX9_edge_37 ?_
    refine g_istore (lv' := fun x6_11 => [(6, .int x6_11), (5, .int x5_10), (4, .int x4_9), (3, .int x3_8), (2, .int x2_5), (0, .ref (a 0)), (1, .int p1)]) hX dX9_edge_38 (by decide) (fun _ => rfl) h (fun x6_11 h => ?_)
    refine g_sub [5, 6, 4, 3, 2, 1, 0] rfl (sX9_edge_L40 hX hR (fun σ_21 x5_22 x6_23 h => ?_) FU _ _ _ h)
    refine g_aload_n hX 0 dX9_edge_95 rfl rfl ?_
    refine gM_23 hX dX9_edge_96 ?_
    refine g_iload_n hX 1 dX9_edge_99 rfl rfl ?_
    refine g_iload_n hX 2 dX9_edge_100 rfl rfl ?_
    refine asM_2 hX dX9_edge_101 h (fun σ_24 h => ?_)
    refine g_iload hX 3 dX9_edge_102 rfl ?_
    exact g_reti hR h dX9_edge_104
  · refine g_iconst hX (-1) dX9_edge_8 (by decide) ?_
    exact g_reti hR h dX9_edge_9
set_option maxRecDepth 20000 in
set_option maxHeartbeats 4000000 in
theorem kX9_edge (l : Launch) {a : Nat → Nat} {D : va_G} {tI tJ tB : ClassId} {zz : SV} {σ τ : St}  {p1 : Int32} {x : Int32} (h : fX9_edge σ p1 = some (τ, x)) : CtI l yX9_edge cX9_edge 7 (some .int) 7 161 (vM a D tI tJ tB zz) σ [.ref (a 0), .int p1] τ x := g_metI (by decide) (Nat.le_of_ble_eq_true rfl) rfl (fun X _ hX hR => sX9_edge (r := (τ, x)) hX hR h)
def fX9_drawn_L34 (q1_34 : Int32) (q2_34 : Int32) (kx34 : St → Int32 → Int32 → Option (St × Int32)) : Nat → St → Int32 → Int32 → Option (St × Int32)
  | 0, _, _, _ => none
  | n34 + 1, σ, c3_34, c4_34 =>
    (if (8 : Int32) ≤ c4_34 then kx34 σ c3_34 c4_34 else chk (inb (((8 : Int32) * q1_34) + c4_34) 32) (bnd (c3_34 + (σ.1 18 (ix (((8 : Int32) * q1_34) + c4_34)))) fun (x3_5 : Int32) => (if x3_5 ≤ q2_34 then bnd (c4_34 + (1 : Int32)) fun (x4_6 : Int32) => fX9_drawn_L34 q1_34 q2_34 kx34 n34 σ x3_5 x4_6 else some (σ, c4_34))))
def fX9_drawn (σ : St) (p1 : Int32) : Option (St × Int32) :=
  bnd (sL σ 0 67 (((σ.2 0 67) * (6364136223846793005 : Int64)) + (1442695040888963407 : Int64))) fun (σ_1 : St) => chk (decide (¬ (100 : Int64) = 0)) (bnd (((((((σ_1.2 0 67)).toUInt64 >>> (((33 : Int32)).toInt64.toUInt64 &&& Int64.toUInt64 63)).toInt64) - ((((σ_1.2 0 67)).toUInt64 >>> (((33 : Int32)).toInt64.toUInt64 &&& Int64.toUInt64 63)).toInt64) / (100 : Int64) * (100 : Int64))).toInt32) fun (x2_2 : Int32) => bnd (0 : Int32) fun (x3_3 : Int32) => bnd (0 : Int32) fun (x4_4 : Int32) => fX9_drawn_L34 p1 x2_2 (fun (σ_7 : St) (x3_8 : Int32) (x4_9 : Int32) => some (σ_7, (7 : Int32))) FU σ_1 x3_3 x4_4)
set_option maxRecDepth 20000 in
set_option maxHeartbeats 4000000 in
theorem sX9_drawn_L34 {X : CX} {a : Nat → Nat} {D : va_G} {tI tJ tB : ClassId} {zz : SV} {q1_34 : Int32} {q2_34 : Int32} {kx34 : St → Int32 → Int32 → Option (St × Int32)} {r : St × Int32} (hX : OKX X (vM a D tI tJ tB zz) cX9_drawn 5 RX9 0 0) (hR : ∀ (pc : Nat) (lv : List (Nat × Value)), decode cX9_drawn pc = .ok (.ireturn, 1) → G X (vM a D tI tJ tB zz) 5 r.1 pc lv [.int r.2]) (hkx34 : ∀ (σ : St) (e3_34 : Int32) (e4_34 : Int32), kx34 σ e3_34 e4_34 = some r → G X (vM a D tI tJ tB zz) 5 σ 70 [] []) : ∀ (n : Nat) (σ : St) (c3_34 : Int32) (c4_34 : Int32), fX9_drawn_L34 q1_34 q2_34 kx34 n σ c3_34 c4_34 = some r → G X (vM a D tI tJ tB zz) 5 σ 34 [(0, .ref (a 0)), (1, .int q1_34), (2, .int q2_34), (3, .int c3_34), (4, .int c4_34)] [] := by
  intro n
  induction n with
  | zero => intro σ c3_34 c4_34 h; rw [fX9_drawn_L34] at h; exact absurd h (by simp)
  | succ n34 ih34 =>
    intro σ c3_34 c4_34 h
    rw [fX9_drawn_L34] at h
    refine g_iload hX 4 dX9_drawn_34 rfl ?_
    refine g_bipush hX (8) dX9_drawn_36 (by decide) ?_
    refine g_icmp_ge hX 70 dX9_drawn_38 (by decide) h (fun h => ?_) (fun h => ?_)
    · exact g_sub [] rfl (hkx34 _ _ _ h)
    · refine g_iload_n hX 3 dX9_drawn_41 rfl rfl ?_
      refine g_aload_n hX 0 dX9_drawn_42 rfl rfl ?_
      refine gM_79 hX dX9_drawn_43 ?_
      refine g_bipush hX (8) dX9_drawn_46 (by decide) ?_
      refine g_iload_n hX 1 dX9_drawn_48 rfl rfl ?_
      refine g_imul hX dX9_drawn_49 ?_
      refine g_iload hX 4 dX9_drawn_50 rfl ?_
      refine g_iadd hX dX9_drawn_52 ?_
      refine alM_18 hX dX9_drawn_53 h (fun h => ?_)
      refine g_iadd hX dX9_drawn_54 ?_
      refine g_istore_n (lv' := fun x3_5 => [(3, .int x3_5), (0, .ref (a 0)), (1, .int q1_34), (2, .int q2_34), (4, .int c4_34)]) hX dX9_drawn_55 rfl (by decide) (fun _ => rfl) h (fun x3_5 h => ?_)
      refine g_iload_n hX 0 dX9_drawn_56 rfl rfl ?_
      refine g_iload_n hX 3 dX9_drawn_57 rfl rfl ?_
      refine g_icmp_le hX 64 dX9_drawn_58 (by decide) h (fun h => ?_) (fun h => ?_)
      · refine g_iinc (y := (1)) (lv' := fun x4_6 => [(4, .int x4_6), (3, .int x3_5), (0, .ref (a 0)), (1, .int q1_34), (2, .int q2_34)]) hX 4 dX9_drawn_64 rfl (by decide) (by decide) (fun _ => rfl) h (fun x4_6 h => ?_)
        refine g_goto hX 34 dX9_drawn_67 (by decide) ?_
        exact g_sub [2, 3, 4, 1, 0] rfl (ih34 _ _ _ h)
      · refine g_iload hX 4 dX9_drawn_61 rfl ?_
        exact g_reti hR h dX9_drawn_63
set_option maxRecDepth 20000 in
set_option maxHeartbeats 4000000 in
theorem sX9_drawn {X : CX} {a : Nat → Nat} {D : va_G} {tI tJ tB : ClassId} {zz : SV} {σ : St}  {p1 : Int32} {r : St × Int32} (hX : OKX X (vM a D tI tJ tB zz) cX9_drawn 5 RX9 0 0) (hR : ∀ (pc : Nat) (lv : List (Nat × Value)), decode cX9_drawn pc = .ok (.ireturn, 1) → G X (vM a D tI tJ tB zz) 5 r.1 pc lv [.int r.2]) (h : fX9_drawn σ p1 = some r) : G X (vM a D tI tJ tB zz) 5 σ 0 [(0, .ref (a 0)), (1, .int p1)] [] := by
  unfold fX9_drawn at h
  refine g_aload_n hX 0 dX9_drawn_0 rfl rfl ?_
  refine g_aload_n hX 0 dX9_drawn_1 rfl rfl ?_
  refine gM_461 hX dX9_drawn_2 ?_
  refine g_ldc2 hX lkX9_464 dX9_drawn_5 ?_
  refine g_lmul hX dX9_drawn_8 ?_
  refine g_ldc2 hX lkX9_466 dX9_drawn_9 ?_
  refine g_ladd hX dX9_drawn_12 ?_
  refine pM_461 hX dX9_drawn_13 h (fun σ_1 h => ?_)
  refine g_aload_n hX 0 dX9_drawn_16 rfl rfl ?_
  refine gM_461 hX dX9_drawn_17 ?_
  refine g_bipush hX (33) dX9_drawn_20 (by decide) ?_
  refine g_lushr hX dX9_drawn_22 ?_
  refine g_ldc2 hX lkX9_418 dX9_drawn_23 ?_
  refine g_lrem hX dX9_drawn_26 h (fun h => ?_)
  refine g_l2i hX dX9_drawn_27 ?_
  refine g_istore_n (lv' := fun x2_2 => [(2, .int x2_2), (0, .ref (a 0)), (1, .int p1)]) hX dX9_drawn_28 rfl (by decide) (fun _ => rfl) h (fun x2_2 h => ?_)
  refine g_iconst hX (0) dX9_drawn_29 (by decide) ?_
  refine g_istore_n (lv' := fun x3_3 => [(3, .int x3_3), (2, .int x2_2), (0, .ref (a 0)), (1, .int p1)]) hX dX9_drawn_30 rfl (by decide) (fun _ => rfl) h (fun x3_3 h => ?_)
  refine g_iconst hX (0) dX9_drawn_31 (by decide) ?_
  refine g_istore (lv' := fun x4_4 => [(4, .int x4_4), (3, .int x3_3), (2, .int x2_2), (0, .ref (a 0)), (1, .int p1)]) hX dX9_drawn_32 (by decide) (fun _ => rfl) h (fun x4_4 h => ?_)
  refine g_sub [3, 4, 2, 1, 0] rfl (sX9_drawn_L34 hX hR (fun σ_7 x3_8 x4_9 h => ?_) FU _ _ _ h)
  refine g_bipush hX (7) dX9_drawn_70 (by decide) ?_
  exact g_reti hR h dX9_drawn_72
set_option maxRecDepth 20000 in
set_option maxHeartbeats 4000000 in
theorem kX9_drawn (l : Launch) {a : Nat → Nat} {D : va_G} {tI tJ tB : ClassId} {zz : SV} {σ τ : St}  {p1 : Int32} {x : Int32} (h : fX9_drawn σ p1 = some (τ, x)) : CtI l yX9_drawn cX9_drawn 5 (some .int) 0 0 (vM a D tI tJ tB zz) σ [.ref (a 0), .int p1] τ x := g_metI (by decide) (Nat.le_of_ble_eq_true rfl) rfl (fun X _ hX hR => sX9_drawn (r := (τ, x)) hX hR h)
def fX9_run_L123 (q2_123 : Int32) (q3_123 : Int32) (q5_123 : Int64) (q7_123 : Int32) (kx123 : St → Int32 → Option (St × Int64)) : Nat → St → Int32 → Option (St × Int64)
  | 0, _, _ => none
  | n123 + 1, σ, c8_123 =>
    (if (σ.1 0 0) ≤ c8_123 then kx123 σ c8_123 else cl (fX9_drawn σ c8_123) fun (σ_19 : St) (t_20 : Int32) => chk (inb c8_123 4) (bnd (sI σ_19 21 (ix c8_123) t_20) fun (σ_21 : St) => bnd (c8_123 + (1 : Int32)) fun (x8_22 : Int32) => fX9_run_L123 q2_123 q3_123 q5_123 q7_123 kx123 n123 σ_21 x8_22))
def fX9_run_L114 (q2_114 : Int32) (q3_114 : Int32) (kx114 : St → Int64 → Int32 → Option (St × Int64)) : Nat → St → Int64 → Int32 → Option (St × Int64)
  | 0, _, _, _ => none
  | n114 + 1, σ, c5_114, c7_114 =>
    (if q2_114 ≤ c7_114 then kx114 σ c5_114 c7_114 else bnd (0 : Int32) fun (x8_18 : Int32) => fX9_run_L123 q2_114 q3_114 c5_114 c7_114 (fun (σ_23 : St) (x8_24 : Int32) => cl (fX9_rowBuys σ_23 ) fun (σ_25 : St) (t_26 : Unit) => (jp (fun (σ_27 : St) (x5_28 : Int64)  => bnd (c7_114 + (1 : Int32)) fun (x7_29 : Int32) => fX9_run_L114 q2_114 q3_114 kx114 n114 σ_27 x5_28 x7_29) fun j223 => (if (20 : Int32) ≤ q3_114 then (if (30 : Int32) ≤ q3_114 then j223 σ_25 c5_114 else chk (inb (q3_114 - (20 : Int32)) 4) (cl (fX9_price σ_25 (σ_25.1 21 (ix (q3_114 - (20 : Int32))))) fun (σ_30 : St) (t_31 : Int32) => bnd (c5_114 + ((t_31).toInt64)) fun (x5_32 : Int64) => j223 σ_30 x5_32)) else chk (inb (q3_114 - (10 : Int32)) 4) (cl (fX9_everyone σ_25 ) fun (σ_33 : St) (t_34 : Int32) => cl (fX9_leastStep σ_33 t_34) fun (σ_35 : St) (t_36 : Int32) => (jp (fun (σ_37 : St)  (t_38 : Int32) => cl (fX9_one σ_37 t_38) fun (σ_39 : St) (t_40 : Int32) => bnd (c5_114 + ((t_40).toInt64)) fun (x5_41 : Int64) => j223 σ_39 x5_41) fun j188 => (if (σ_25.1 21 (ix (q3_114 - (10 : Int32)))) = t_36 then j188 σ_35 (1 : Int32) else j188 σ_35 (0 : Int32))))))) FU σ x8_18)
def fX9_run (σ : St) (p1 : Int32) (p2 : Int32) (p3 : Int32) : Option (St × Int64) :=
  cl (fX9_isIn σ p3 (10 : Int32) ((9 : Int32) + (σ.1 0 0))) fun (σ_1 : St) (t_2 : Int32) => (jp (fun (σ_3 : St)  (t_4 : Int32) => bnd t_4 fun (x4_5 : Int32) => cl (fX9_isIn σ_3 p1 (0 : Int32) (999999999 : Int32)) fun (σ_6 : St) (t_7 : Int32) => (if t_7 = 0 then some (σ_6, (-1 : Int64)) else cl (fX9_isIn σ_6 p2 (1 : Int32) (400 : Int32)) fun (σ_8 : St) (t_9 : Int32) => (if t_9 = 0 then some (σ_8, (-1 : Int64)) else (if x4_5 = 0 then some (σ_8, (-1 : Int64)) else cl (fX9_areReady σ_8 ) fun (σ_10 : St) (t_11 : Int32) => (if t_11 = 0 then some (σ_10, (-1 : Int64)) else bnd (sL σ_10 0 67 ((p1).toInt64)) fun (σ_12 : St) => bnd (sL σ_12 0 47 (1 : Int64)) fun (σ_13 : St) => cl (fX9_clears σ_13 ) fun (σ_14 : St) (t_15 : Unit) => bnd (0 : Int64) fun (x5_16 : Int64) => bnd (0 : Int32) fun (x7_17 : Int32) => fX9_run_L114 p2 p3 (fun (σ_42 : St) (x5_43 : Int64) (x7_44 : Int32) => (if (30 : Int32) ≤ p3 then chk (inb (p3 - (30 : Int32)) 12) (some (σ_42, (σ_42.2 24 (ix (p3 - (30 : Int32)))))) else some (σ_42, x5_43))) FU σ_14 x5_16 x7_17))))) fun j53 => jp (fun (σ_45 : St)   => j53 σ_45 (1 : Int32)) fun j48 => (if t_2 = 0 then cl (fX9_isIn σ_1 p3 (20 : Int32) ((19 : Int32) + (σ_1.1 0 0))) fun (σ_46 : St) (t_47 : Int32) => (if t_47 = 0 then cl (fX9_isIn σ_46 p3 (30 : Int32) ((29 : Int32) + (σ_46.1 0 1))) fun (σ_48 : St) (t_49 : Int32) => (if t_49 = 0 then j53 σ_48 (0 : Int32) else j48 σ_48) else j48 σ_46) else j48 σ_1))
set_option maxRecDepth 20000 in
set_option maxHeartbeats 4000000 in
theorem sX9_run_L123 {X : CX} {a : Nat → Nat} {D : va_G} {tI tJ tB : ClassId} {zz : SV} {q2_123 : Int32} {q3_123 : Int32} {q5_123 : Int64} {q7_123 : Int32} {kx123 : St → Int32 → Option (St × Int64)} {r : St × Int64} (hX : OKX X (vM a D tI tJ tB zz) cX9_run 9 RX9 10 228) (hR : ∀ (pc : Nat) (lv : List (Nat × Value)), decode cX9_run pc = .ok (.lreturn, 1) → G X (vM a D tI tJ tB zz) 9 r.1 pc lv [.long r.2]) (hkx123 : ∀ (σ : St) (e8_123 : Int32), kx123 σ e8_123 = some r → G X (vM a D tI tJ tB zz) 9 σ 151 [(0, .ref (a 0)), (2, .int q2_123), (3, .int q3_123), (5, .long q5_123), (7, .int q7_123)] []) : ∀ (n : Nat) (σ : St) (c8_123 : Int32), fX9_run_L123 q2_123 q3_123 q5_123 q7_123 kx123 n σ c8_123 = some r → G X (vM a D tI tJ tB zz) 9 σ 123 [(0, .ref (a 0)), (2, .int q2_123), (3, .int q3_123), (5, .long q5_123), (7, .int q7_123), (8, .int c8_123)] [] := by
  intro n
  induction n with
  | zero => intro σ c8_123 h; rw [fX9_run_L123] at h; exact absurd h (by simp)
  | succ n123 ih123 =>
    intro σ c8_123 h
    rw [fX9_run_L123] at h
    refine g_iload hX 5 dX9_run_123 rfl ?_
    refine g_aload_n hX 0 dX9_run_125 rfl rfl ?_
    refine gM_260 hX dX9_run_126 ?_
    refine g_icmp_ge hX 151 dX9_run_129 (by decide) h (fun h => ?_) (fun h => ?_)
    · exact g_sub [0, 1, 2, 3, 4] rfl (hkx123 _ _ h)
    · refine g_aload_n hX 0 dX9_run_132 rfl rfl ?_
      refine gM_88 hX dX9_run_133 ?_
      refine g_iload hX 5 dX9_run_136 rfl ?_
      refine g_aload_n hX 0 dX9_run_138 rfl rfl ?_
      refine g_iload hX 5 dX9_run_139 rfl ?_
      refine g_callVI (As := [.int c8_123]) (rest := [.int c8_123, .ref (a 21)]) hX 0 (Nat.le_of_ble_eq_true rfl) rfl rfl miX9_drawn mvX9_drawn lkX9_469 (by decide) rfl (Nat.le_of_ble_eq_true rfl) rfl dX9_run_141 (fun τ x ho => kX9_drawn _ ho) h (fun σ_19 t_20 h => ?_)
      refine asM_21 hX dX9_run_144 h (fun σ_21 h => ?_)
      refine g_iinc (y := (1)) (lv' := fun x8_22 => [(8, .int x8_22), (0, .ref (a 0)), (2, .int q2_123), (3, .int q3_123), (5, .long q5_123), (7, .int q7_123)]) hX 5 dX9_run_145 rfl (by decide) (by decide) (fun _ => rfl) h (fun x8_22 h => ?_)
      refine g_goto hX 123 dX9_run_148 (by decide) ?_
      exact g_sub [1, 2, 3, 4, 5, 0] rfl (ih123 _ _ h)
set_option maxRecDepth 20000 in
set_option maxHeartbeats 4000000 in
theorem sX9_run_L114 {X : CX} {a : Nat → Nat} {D : va_G} {tI tJ tB : ClassId} {zz : SV} {q2_114 : Int32} {q3_114 : Int32} {kx114 : St → Int64 → Int32 → Option (St × Int64)} {r : St × Int64} (hX : OKX X (vM a D tI tJ tB zz) cX9_run 9 RX9 10 228) (hR : ∀ (pc : Nat) (lv : List (Nat × Value)), decode cX9_run pc = .ok (.lreturn, 1) → G X (vM a D tI tJ tB zz) 9 r.1 pc lv [.long r.2]) (hkx114 : ∀ (σ : St) (e5_114 : Int64) (e7_114 : Int32), kx114 σ e5_114 e7_114 = some r → G X (vM a D tI tJ tB zz) 9 σ 229 [(0, .ref (a 0)), (3, .int q3_114), (5, .long e5_114)] []) : ∀ (n : Nat) (σ : St) (c5_114 : Int64) (c7_114 : Int32), fX9_run_L114 q2_114 q3_114 kx114 n σ c5_114 c7_114 = some r → G X (vM a D tI tJ tB zz) 9 σ 114 [(0, .ref (a 0)), (2, .int q2_114), (3, .int q3_114), (5, .long c5_114), (7, .int c7_114)] [] := by
  intro n
  induction n with
  | zero => intro σ c5_114 c7_114 h; rw [fX9_run_L114] at h; exact absurd h (by simp)
  | succ n114 ih114 =>
    intro σ c5_114 c7_114 h
    rw [fX9_run_L114] at h
    refine g_iload hX 4 dX9_run_114 rfl ?_
    refine g_iload_n hX 1 dX9_run_116 rfl rfl ?_
    refine g_icmp_ge hX 229 dX9_run_117 (by decide) h (fun h => ?_) (fun h => ?_)
    · exact g_sub [0, 2, 3] rfl (hkx114 _ _ _ h)
    · refine g_iconst hX (0) dX9_run_120 (by decide) ?_
      refine g_istore (lv' := fun x8_18 => [(8, .int x8_18), (0, .ref (a 0)), (2, .int q2_114), (3, .int q3_114), (5, .long c5_114), (7, .int c7_114)]) hX dX9_run_121 (by decide) (fun _ => rfl) h (fun x8_18 h => ?_)
      refine g_sub [1, 2, 3, 4, 5, 0] rfl (sX9_run_L123 hX hR (fun σ_23 x8_24 h => ?_) FU _ _ h)
      refine g_aload_n hX 0 dX9_run_151 rfl rfl ?_
      refine g_callVV (As := []) (rest := []) hX 0 (Nat.le_of_ble_eq_true rfl) rfl rfl miX9_rowBuys mvX9_rowBuys lkX9_348 (by decide) rfl (Nat.le_of_ble_eq_true rfl) rfl dX9_run_152 (fun τ x ho => kX9_rowBuys _ ho) h (fun σ_25 t_26 h => ?_)
      refine g_iload_n hX 2 dX9_run_155 rfl rfl ?_
      refine g_bipush hX (20) dX9_run_156 (by decide) ?_
      refine jp_inv (P := fun f => ∀ (σ_27 : St) (x5_28 : Int64) , f σ_27 x5_28 = some r → G X (vM a D tI tJ tB zz) 9 σ_27 223 [(0, .ref (a 0)), (2, .int q2_114), (3, .int q3_114), (7, .int c7_114), (5, .long x5_28)] []) h (fun σ_27 x5_28 h => ?_) (fun j223 hj223 h => ?_)
      · refine g_iinc (y := (1)) (lv' := fun x7_29 => [(7, .int x7_29), (0, .ref (a 0)), (2, .int q2_114), (3, .int q3_114), (5, .long x5_28)]) hX 3 dX9_run_223 rfl (by decide) (by decide) (fun _ => rfl) h (fun x7_29 h => ?_)
        refine g_goto hX 114 dX9_run_226 (by decide) ?_
        exact g_sub [1, 2, 3, 4, 0] rfl (ih114 _ _ _ h)
      refine g_icmp_ge hX 198 dX9_run_158 (by decide) h (fun h => ?_) (fun h => ?_)
      · refine g_iload_n hX 2 dX9_run_198 rfl rfl ?_
        refine g_bipush hX (30) dX9_run_199 (by decide) ?_
        refine g_icmp_ge hX 223 dX9_run_201 (by decide) h (fun h => ?_) (fun h => ?_)
        · exact g_sub [0, 1, 2, 4, 3] rfl (hj223 _ _ h)
        · refine g_lload hX 3 dX9_run_204 rfl ?_
          refine g_aload_n hX 0 dX9_run_206 rfl rfl ?_
          refine g_aload_n hX 0 dX9_run_207 rfl rfl ?_
          refine gM_88 hX dX9_run_208 ?_
          refine g_iload_n hX 2 dX9_run_211 rfl rfl ?_
          refine g_bipush hX (20) dX9_run_212 (by decide) ?_
          refine g_isub hX dX9_run_214 ?_
          refine alM_21 hX dX9_run_215 h (fun h => ?_)
          refine g_callVI (As := [.int (σ_25.1 21 (ix (q3_114 - (20 : Int32))))]) (rest := [.long c5_114]) hX 0 (Nat.le_of_ble_eq_true rfl) rfl rfl miX9_price mvX9_price lkX9_312 (by decide) rfl (Nat.le_of_ble_eq_true rfl) rfl dX9_run_216 (fun τ x ho => kX9_price _ ho) h (fun σ_30 t_31 h => ?_)
          refine g_i2l hX dX9_run_219 ?_
          refine g_ladd hX dX9_run_220 ?_
          refine g_lstore (lv' := fun x5_32 => [(5, .long x5_32), (0, .ref (a 0)), (2, .int q2_114), (3, .int q3_114), (7, .int c7_114)]) hX dX9_run_221 (by decide) (fun _ => rfl) h (fun x5_32 h => ?_)
          exact g_sub [1, 2, 3, 4, 0] rfl (hj223 _ _ h)
      · refine g_lload hX 3 dX9_run_161 rfl ?_
        refine g_aload_n hX 0 dX9_run_163 rfl rfl ?_
        refine gM_88 hX dX9_run_164 ?_
        refine g_iload_n hX 2 dX9_run_167 rfl rfl ?_
        refine g_bipush hX (10) dX9_run_168 (by decide) ?_
        refine g_isub hX dX9_run_170 ?_
        refine alM_21 hX dX9_run_171 h (fun h => ?_)
        refine g_aload_n hX 0 dX9_run_172 rfl rfl ?_
        refine g_aload_n hX 0 dX9_run_173 rfl rfl ?_
        refine g_callVI (As := []) (rest := [.ref (a 0), .int (σ_25.1 21 (ix (q3_114 - (10 : Int32)))), .long c5_114]) hX 0 (Nat.le_of_ble_eq_true rfl) rfl rfl miX9_everyone mvX9_everyone lkX9_323 (by decide) rfl (Nat.le_of_ble_eq_true rfl) rfl dX9_run_174 (fun τ x ho => kX9_everyone _ ho) h (fun σ_33 t_34 h => ?_)
        refine g_callVI (As := [.int t_34]) (rest := [.int (σ_25.1 21 (ix (q3_114 - (10 : Int32)))), .long c5_114]) hX 0 (Nat.le_of_ble_eq_true rfl) rfl rfl miX9_leastStep mvX9_leastStep lkX9_309 (by decide) rfl (Nat.le_of_ble_eq_true rfl) rfl dX9_run_177 (fun τ x ho => kX9_leastStep _ ho) h (fun σ_35 t_36 h => ?_)
        refine jp_inv (P := fun f => ∀ (σ_37 : St)  (t_38 : Int32), f σ_37 t_38 = some r → G X (vM a D tI tJ tB zz) 9 σ_37 188 [(0, .ref (a 0)), (2, .int q2_114), (3, .int q3_114), (7, .int c7_114)] [.int t_38, .long c5_114]) h (fun σ_37 t_38 h => ?_) (fun j188 hj188 h => ?_)
        · refine g_callSI (As := [.int t_38]) (rest := [.long c5_114]) hX miX9_one mvX9_one lkX9_472 (by decide) rfl (Nat.le_of_ble_eq_true rfl) rfl dX9_run_188 (fun τ x ho => kX9_one _ ho) h (fun σ_39 t_40 h => ?_)
          refine g_i2l hX dX9_run_191 ?_
          refine g_ladd hX dX9_run_192 ?_
          refine g_lstore (lv' := fun x5_41 => [(5, .long x5_41), (0, .ref (a 0)), (2, .int q2_114), (3, .int q3_114), (7, .int c7_114)]) hX dX9_run_193 (by decide) (fun _ => rfl) h (fun x5_41 h => ?_)
          refine g_goto hX 223 dX9_run_195 (by decide) ?_
          exact g_sub [1, 2, 3, 4, 0] rfl (hj223 _ _ h)
        refine g_icmp_ne hX 187 dX9_run_180 (by decide) h (fun h => ?_) (fun h => ?_)
        · refine g_iconst hX (0) dX9_run_187 (by decide) ?_
          exact g_sub [0, 1, 2, 4] rfl (hj188 _ _ h)
        · refine g_iconst hX (1) dX9_run_183 (by decide) ?_
          refine g_goto hX 188 dX9_run_184 (by decide) ?_
          exact g_sub [0, 1, 2, 4] rfl (hj188 _ _ h)
set_option maxRecDepth 20000 in
set_option maxHeartbeats 4000000 in
theorem sX9_run {X : CX} {a : Nat → Nat} {D : va_G} {tI tJ tB : ClassId} {zz : SV} {σ : St}  {p1 : Int32} {p2 : Int32} {p3 : Int32} {r : St × Int64} (hX : OKX X (vM a D tI tJ tB zz) cX9_run 9 RX9 10 228) (hR : ∀ (pc : Nat) (lv : List (Nat × Value)), decode cX9_run pc = .ok (.lreturn, 1) → G X (vM a D tI tJ tB zz) 9 r.1 pc lv [.long r.2]) (h : fX9_run σ p1 p2 p3 = some r) : G X (vM a D tI tJ tB zz) 9 σ 0 [(0, .ref (a 0)), (1, .int p1), (2, .int p2), (3, .int p3)] [] := by
  unfold fX9_run at h
  refine g_iload_n hX 3 dX9_run_0 rfl rfl ?_
  refine g_bipush hX (10) dX9_run_1 (by decide) ?_
  refine g_bipush hX (9) dX9_run_3 (by decide) ?_
  refine g_aload_n hX 0 dX9_run_5 rfl rfl ?_
  refine gM_260 hX dX9_run_6 ?_
  refine g_iadd hX dX9_run_9 ?_
  refine g_callSI (As := [.int p3, .int (10 : Int32), .int ((9 : Int32) + (σ.1 0 0))]) (rest := []) hX miX9_isIn mvX9_isIn lkX9_156 (by decide) rfl (Nat.le_of_ble_eq_true rfl) rfl dX9_run_10 (fun τ x ho => kX9_isIn _ ho) h (fun σ_1 t_2 h => ?_)
  refine jp_inv (P := fun f => ∀ (σ_3 : St)  (t_4 : Int32), f σ_3 t_4 = some r → G X (vM a D tI tJ tB zz) 9 σ_3 53 [(0, .ref (a 0)), (1, .int p1), (2, .int p2), (3, .int p3)] [.int t_4]) h (fun σ_3 t_4 h => ?_) (fun j53 hj53 h => ?_)
  · refine g_istore (lv' := fun x4_5 => [(4, .int x4_5), (0, .ref (a 0)), (1, .int p1), (2, .int p2), (3, .int p3)]) hX dX9_run_53 (by decide) (fun _ => rfl) h (fun x4_5 h => ?_)
    refine g_iload_n hX 2 dX9_run_55 rfl rfl ?_
    refine g_iconst hX (0) dX9_run_56 (by decide) ?_
    refine g_ldc_w hX lkX9_468 dX9_run_57 ?_
    refine g_callSI (As := [.int p1, .int (0 : Int32), .int (999999999 : Int32)]) (rest := []) hX miX9_isIn mvX9_isIn lkX9_156 (by decide) rfl (Nat.le_of_ble_eq_true rfl) rfl dX9_run_60 (fun τ x ho => kX9_isIn _ ho) h (fun σ_6 t_7 h => ?_)
    refine g_if_eq hX 89 dX9_run_63 (by decide) h (fun h => ?_) (fun h => ?_)
    · refine g_ldc2 hX lkX9_370 dX9_run_89 ?_
      exact g_retl hR h dX9_run_92
    · refine g_iload_n hX 3 dX9_run_66 rfl rfl ?_
      refine g_iconst hX (1) dX9_run_67 (by decide) ?_
      refine g_sipush hX (400) dX9_run_68 (by decide) ?_
      refine g_callSI (As := [.int p2, .int (1 : Int32), .int (400 : Int32)]) (rest := []) hX miX9_isIn mvX9_isIn lkX9_156 (by decide) rfl (Nat.le_of_ble_eq_true rfl) rfl dX9_run_71 (fun τ x ho => kX9_isIn _ ho) h (fun σ_8 t_9 h => ?_)
      refine g_if_eq hX 89 dX9_run_74 (by decide) h (fun h => ?_) (fun h => ?_)
      · refine g_ldc2 hX lkX9_370 dX9_run_89 ?_
        exact g_retl hR h dX9_run_92
      · refine g_iload hX 0 dX9_run_77 rfl ?_
        refine g_if_eq hX 89 dX9_run_79 (by decide) h (fun h => ?_) (fun h => ?_)
        · refine g_ldc2 hX lkX9_370 dX9_run_89 ?_
          exact g_retl hR h dX9_run_92
        · refine g_aload_n hX 1 dX9_run_82 rfl rfl ?_
          refine g_callVI (As := []) (rest := []) hX 0 (Nat.le_of_ble_eq_true rfl) rfl rfl miX9_areReady mvX9_areReady lkX9_367 (by decide) rfl (Nat.le_of_ble_eq_true rfl) rfl dX9_run_83 (fun τ x ho => kX9_areReady _ ho) h (fun σ_10 t_11 h => ?_)
          refine g_if_ne hX 93 dX9_run_86 (by decide) h (fun h => ?_) (fun h => ?_)
          · refine g_aload_n hX 1 dX9_run_93 rfl rfl ?_
            refine g_iload_n hX 2 dX9_run_94 rfl rfl ?_
            refine g_i2l hX dX9_run_95 ?_
            refine pM_461 hX dX9_run_96 h (fun σ_12 h => ?_)
            refine g_aload_n hX 1 dX9_run_99 rfl rfl ?_
            refine g_lconst hX (1) dX9_run_100 (by decide) ?_
            refine pM_331 hX dX9_run_101 h (fun σ_13 h => ?_)
            refine g_aload_n hX 1 dX9_run_104 rfl rfl ?_
            refine g_callVV (As := []) (rest := []) hX 0 (Nat.le_of_ble_eq_true rfl) rfl rfl miX9_clears mvX9_clears lkX9_339 (by decide) rfl (Nat.le_of_ble_eq_true rfl) rfl dX9_run_105 (fun τ x ho => kX9_clears _ ho) h (fun σ_14 t_15 h => ?_)
            refine g_lconst hX (0) dX9_run_108 (by decide) ?_
            refine g_lstore (lv' := fun x5_16 => [(5, .long x5_16), (4, .int x4_5), (0, .ref (a 0)), (1, .int p1), (2, .int p2), (3, .int p3)]) hX dX9_run_109 (by decide) (fun _ => rfl) h (fun x5_16 h => ?_)
            refine g_iconst hX (0) dX9_run_111 (by decide) ?_
            refine g_istore (lv' := fun x7_17 => [(7, .int x7_17), (5, .long x5_16), (4, .int x4_5), (0, .ref (a 0)), (1, .int p1), (2, .int p2), (3, .int p3)]) hX dX9_run_112 (by decide) (fun _ => rfl) h (fun x7_17 h => ?_)
            refine g_sub [3, 5, 6, 1, 0] rfl (sX9_run_L114 hX hR (fun σ_42 x5_43 x7_44 h => ?_) FU _ _ _ h)
            refine g_iload_n hX 1 dX9_run_229 rfl rfl ?_
            refine g_bipush hX (30) dX9_run_230 (by decide) ?_
            refine g_icmp_ge hX 240 dX9_run_232 (by decide) h (fun h => ?_) (fun h => ?_)
            · refine g_aload_n hX 0 dX9_run_240 rfl rfl ?_
              refine gM_97 hX dX9_run_241 ?_
              refine g_iload_n hX 1 dX9_run_244 rfl rfl ?_
              refine g_bipush hX (30) dX9_run_245 (by decide) ?_
              refine g_isub hX dX9_run_247 ?_
              refine alM_24 hX dX9_run_248 h (fun h => ?_)
              exact g_retl hR h dX9_run_249
            · refine g_lload hX 2 dX9_run_235 rfl ?_
              refine g_goto hX 249 dX9_run_237 (by decide) ?_
              exact g_retl hR h dX9_run_249
          · refine g_ldc2 hX lkX9_370 dX9_run_89 ?_
            exact g_retl hR h dX9_run_92
  refine jp_inv (P := fun f => ∀ (σ_45 : St)  , f σ_45 = some r → G X (vM a D tI tJ tB zz) 9 σ_45 48 [(0, .ref (a 0)), (1, .int p1), (2, .int p2), (3, .int p3)] []) h (fun σ_45 h => ?_) (fun j48 hj48 h => ?_)
  · refine g_iconst hX (1) dX9_run_48 (by decide) ?_
    refine g_goto hX 53 dX9_run_49 (by decide) ?_
    exact g_sub [0, 1, 2, 3] rfl (hj53 _ _ h)
  refine g_if_ne hX 48 dX9_run_13 (by decide) h (fun h => ?_) (fun h => ?_)
  · exact g_sub [0, 1, 2, 3] rfl (hj48 _ h)
  · refine g_iload_n hX 3 dX9_run_16 rfl rfl ?_
    refine g_bipush hX (20) dX9_run_17 (by decide) ?_
    refine g_bipush hX (19) dX9_run_19 (by decide) ?_
    refine g_aload_n hX 0 dX9_run_21 rfl rfl ?_
    refine gM_260 hX dX9_run_22 ?_
    refine g_iadd hX dX9_run_25 ?_
    refine g_callSI (As := [.int p3, .int (20 : Int32), .int ((19 : Int32) + (σ_1.1 0 0))]) (rest := []) hX miX9_isIn mvX9_isIn lkX9_156 (by decide) rfl (Nat.le_of_ble_eq_true rfl) rfl dX9_run_26 (fun τ x ho => kX9_isIn _ ho) h (fun σ_46 t_47 h => ?_)
    refine g_if_ne hX 48 dX9_run_29 (by decide) h (fun h => ?_) (fun h => ?_)
    · exact g_sub [0, 1, 2, 3] rfl (hj48 _ h)
    · refine g_iload_n hX 3 dX9_run_32 rfl rfl ?_
      refine g_bipush hX (30) dX9_run_33 (by decide) ?_
      refine g_bipush hX (29) dX9_run_35 (by decide) ?_
      refine g_aload_n hX 0 dX9_run_37 rfl rfl ?_
      refine gM_263 hX dX9_run_38 ?_
      refine g_iadd hX dX9_run_41 ?_
      refine g_callSI (As := [.int p3, .int (30 : Int32), .int ((29 : Int32) + (σ_46.1 0 1))]) (rest := []) hX miX9_isIn mvX9_isIn lkX9_156 (by decide) rfl (Nat.le_of_ble_eq_true rfl) rfl dX9_run_42 (fun τ x ho => kX9_isIn _ ho) h (fun σ_48 t_49 h => ?_)
      refine g_if_eq hX 52 dX9_run_45 (by decide) h (fun h => ?_) (fun h => ?_)
      · refine g_iconst hX (0) dX9_run_52 (by decide) ?_
        exact g_sub [0, 1, 2, 3] rfl (hj53 _ _ h)
      · exact g_sub [0, 1, 2, 3] rfl (hj48 _ h)
set_option maxRecDepth 20000 in
set_option maxHeartbeats 4000000 in
theorem kX9_run (l : Launch) {a : Nat → Nat} {D : va_G} {tI tJ tB : ClassId} {zz : SV} {σ τ : St}  {p1 : Int32} {p2 : Int32} {p3 : Int32} {x : Int64} (h : fX9_run σ p1 p2 p3 = some (τ, x)) : CtL l yX9_run cX9_run 9 (some .long) 10 228 (vM a D tI tJ tB zz) σ [.ref (a 0), .int p1, .int p2, .int p3] τ x := g_metL (by decide) (Nat.le_of_ble_eq_true rfl) rfl (fun X _ hX hR => sX9_run (r := (τ, x)) hX hR h)
def fX9_image_L49 (q1_49 : Int32) (kx49 : St → Int32 → Option (St × Int32)) : Nat → St → Int32 → Option (St × Int32)
  | 0, _, _ => none
  | n49 + 1, σ, c2_49 =>
    (if (4 : Int32) ≤ c2_49 then kx49 σ c2_49 else chk (inb c2_49 4) (chk (inb ((q1_49 + (2 : Int32)) + c2_49) 228) (bnd (sI σ 34 (ix ((q1_49 + (2 : Int32)) + c2_49)) (σ.1 2 (ix c2_49))) fun (σ_5 : St) => chk (inb c2_49 4) (chk (inb ((q1_49 + (6 : Int32)) + c2_49) 228) (bnd (sI σ_5 34 (ix ((q1_49 + (6 : Int32)) + c2_49)) (σ_5.1 15 (ix c2_49))) fun (σ_6 : St) => chk (inb c2_49 4) (chk (inb ((q1_49 + (10 : Int32)) + c2_49) 228) (bnd (sI σ_6 34 (ix ((q1_49 + (10 : Int32)) + c2_49)) (σ_6.1 16 (ix c2_49))) fun (σ_7 : St) => bnd (c2_49 + (1 : Int32)) fun (x2_8 : Int32) => fX9_image_L49 q1_49 kx49 n49 σ_7 x2_8)))))))
def fX9_image_L112 (q1_112 : Int32) (kx112 : St → Int32 → Option (St × Int32)) : Nat → St → Int32 → Option (St × Int32)
  | 0, _, _ => none
  | n112 + 1, σ, c2_112 =>
    (if (32 : Int32) ≤ c2_112 then kx112 σ c2_112 else chk (inb c2_112 32) (chk (inb ((q1_112 + (14 : Int32)) + c2_112) 228) (bnd (sI σ 34 (ix ((q1_112 + (14 : Int32)) + c2_112)) (σ.1 17 (ix c2_112))) fun (σ_12 : St) => bnd (c2_112 + (1 : Int32)) fun (x2_13 : Int32) => fX9_image_L112 q1_112 kx112 n112 σ_12 x2_13)))
def fX9_image (σ : St)  : Option (St × Int32) :=
  (if (σ.1 0 68) = (4 : Int32) then some (σ, (-1 : Int32)) else (if (σ.1 0 0) = 0 then some (σ, (-1 : Int32)) else bnd ((57 : Int32) * (σ.1 0 68)) fun (x1_1 : Int32) => chk (inb x1_1 228) (bnd (sI σ 34 (ix x1_1) (σ.1 0 39)) fun (σ_2 : St) => chk (inb (x1_1 + (1 : Int32)) 228) (bnd (sI σ_2 34 (ix (x1_1 + (1 : Int32))) (σ_2.1 0 37)) fun (σ_3 : St) => bnd (0 : Int32) fun (x2_4 : Int32) => fX9_image_L49 x1_1 (fun (σ_9 : St) (x2_10 : Int32) => bnd (0 : Int32) fun (x2_11 : Int32) => fX9_image_L112 x1_1 (fun (σ_14 : St) (x2_15 : Int32) => bnd (sI σ_14 0 68 ((σ_14.1 0 68) + (1 : Int32))) fun (σ_16 : St) => some (σ_16, ((σ_16.1 0 68) - (1 : Int32)))) FU σ_9 x2_11) FU σ_3 x2_4))))
set_option maxRecDepth 20000 in
set_option maxHeartbeats 4000000 in
theorem sX9_image_L49 {X : CX} {a : Nat → Nat} {D : va_G} {tI tJ tB : ClassId} {zz : SV} {q1_49 : Int32} {kx49 : St → Int32 → Option (St × Int32)} {r : St × Int32} (hX : OKX X (vM a D tI tJ tB zz) cX9_image 3 RX9 0 0) (hR : ∀ (pc : Nat) (lv : List (Nat × Value)), decode cX9_image pc = .ok (.ireturn, 1) → G X (vM a D tI tJ tB zz) 3 r.1 pc lv [.int r.2]) (hkx49 : ∀ (σ : St) (e2_49 : Int32), kx49 σ e2_49 = some r → G X (vM a D tI tJ tB zz) 3 σ 110 [(0, .ref (a 0)), (1, .int q1_49)] []) : ∀ (n : Nat) (σ : St) (c2_49 : Int32), fX9_image_L49 q1_49 kx49 n σ c2_49 = some r → G X (vM a D tI tJ tB zz) 3 σ 49 [(0, .ref (a 0)), (1, .int q1_49), (2, .int c2_49)] [] := by
  intro n
  induction n with
  | zero => intro σ c2_49 h; rw [fX9_image_L49] at h; exact absurd h (by simp)
  | succ n49 ih49 =>
    intro σ c2_49 h
    rw [fX9_image_L49] at h
    refine g_iload_n hX 2 dX9_image_49 rfl rfl ?_
    refine g_iconst hX (4) dX9_image_50 (by decide) ?_
    refine g_icmp_ge hX 110 dX9_image_51 (by decide) h (fun h => ?_) (fun h => ?_)
    · exact g_sub [0, 1] rfl (hkx49 _ _ h)
    · refine g_aload_n hX 0 dX9_image_54 rfl rfl ?_
      refine gM_127 hX dX9_image_55 ?_
      refine g_iload_n hX 1 dX9_image_58 rfl rfl ?_
      refine g_iconst hX (2) dX9_image_59 (by decide) ?_
      refine g_iadd hX dX9_image_60 ?_
      refine g_iload_n hX 2 dX9_image_61 rfl rfl ?_
      refine g_iadd hX dX9_image_62 ?_
      refine g_aload_n hX 0 dX9_image_63 rfl rfl ?_
      refine gM_23 hX dX9_image_64 ?_
      refine g_iload_n hX 2 dX9_image_67 rfl rfl ?_
      refine alM_2 hX dX9_image_68 h (fun h => ?_)
      refine asM_34 hX dX9_image_69 h (fun σ_5 h => ?_)
      refine g_aload_n hX 0 dX9_image_70 rfl rfl ?_
      refine gM_127 hX dX9_image_71 ?_
      refine g_iload_n hX 1 dX9_image_74 rfl rfl ?_
      refine g_bipush hX (6) dX9_image_75 (by decide) ?_
      refine g_iadd hX dX9_image_77 ?_
      refine g_iload_n hX 2 dX9_image_78 rfl rfl ?_
      refine g_iadd hX dX9_image_79 ?_
      refine g_aload_n hX 0 dX9_image_80 rfl rfl ?_
      refine gM_70 hX dX9_image_81 ?_
      refine g_iload_n hX 2 dX9_image_84 rfl rfl ?_
      refine alM_15 hX dX9_image_85 h (fun h => ?_)
      refine asM_34 hX dX9_image_86 h (fun σ_6 h => ?_)
      refine g_aload_n hX 0 dX9_image_87 rfl rfl ?_
      refine gM_127 hX dX9_image_88 ?_
      refine g_iload_n hX 1 dX9_image_91 rfl rfl ?_
      refine g_bipush hX (10) dX9_image_92 (by decide) ?_
      refine g_iadd hX dX9_image_94 ?_
      refine g_iload_n hX 2 dX9_image_95 rfl rfl ?_
      refine g_iadd hX dX9_image_96 ?_
      refine g_aload_n hX 0 dX9_image_97 rfl rfl ?_
      refine gM_73 hX dX9_image_98 ?_
      refine g_iload_n hX 2 dX9_image_101 rfl rfl ?_
      refine alM_16 hX dX9_image_102 h (fun h => ?_)
      refine asM_34 hX dX9_image_103 h (fun σ_7 h => ?_)
      refine g_iinc (y := (1)) (lv' := fun x2_8 => [(2, .int x2_8), (0, .ref (a 0)), (1, .int q1_49)]) hX 2 dX9_image_104 rfl (by decide) (by decide) (fun _ => rfl) h (fun x2_8 h => ?_)
      refine g_goto hX 49 dX9_image_107 (by decide) ?_
      exact g_sub [1, 2, 0] rfl (ih49 _ _ h)
set_option maxRecDepth 20000 in
set_option maxHeartbeats 4000000 in
theorem sX9_image_L112 {X : CX} {a : Nat → Nat} {D : va_G} {tI tJ tB : ClassId} {zz : SV} {q1_112 : Int32} {kx112 : St → Int32 → Option (St × Int32)} {r : St × Int32} (hX : OKX X (vM a D tI tJ tB zz) cX9_image 3 RX9 0 0) (hR : ∀ (pc : Nat) (lv : List (Nat × Value)), decode cX9_image pc = .ok (.ireturn, 1) → G X (vM a D tI tJ tB zz) 3 r.1 pc lv [.int r.2]) (hkx112 : ∀ (σ : St) (e2_112 : Int32), kx112 σ e2_112 = some r → G X (vM a D tI tJ tB zz) 3 σ 141 [(0, .ref (a 0))] []) : ∀ (n : Nat) (σ : St) (c2_112 : Int32), fX9_image_L112 q1_112 kx112 n σ c2_112 = some r → G X (vM a D tI tJ tB zz) 3 σ 112 [(0, .ref (a 0)), (1, .int q1_112), (2, .int c2_112)] [] := by
  intro n
  induction n with
  | zero => intro σ c2_112 h; rw [fX9_image_L112] at h; exact absurd h (by simp)
  | succ n112 ih112 =>
    intro σ c2_112 h
    rw [fX9_image_L112] at h
    refine g_iload_n hX 2 dX9_image_112 rfl rfl ?_
    refine g_bipush hX (32) dX9_image_113 (by decide) ?_
    refine g_icmp_ge hX 141 dX9_image_115 (by decide) h (fun h => ?_) (fun h => ?_)
    · exact g_sub [0] rfl (hkx112 _ _ h)
    · refine g_aload_n hX 0 dX9_image_118 rfl rfl ?_
      refine gM_127 hX dX9_image_119 ?_
      refine g_iload_n hX 1 dX9_image_122 rfl rfl ?_
      refine g_bipush hX (14) dX9_image_123 (by decide) ?_
      refine g_iadd hX dX9_image_125 ?_
      refine g_iload_n hX 2 dX9_image_126 rfl rfl ?_
      refine g_iadd hX dX9_image_127 ?_
      refine g_aload_n hX 0 dX9_image_128 rfl rfl ?_
      refine gM_76 hX dX9_image_129 ?_
      refine g_iload_n hX 2 dX9_image_132 rfl rfl ?_
      refine alM_17 hX dX9_image_133 h (fun h => ?_)
      refine asM_34 hX dX9_image_134 h (fun σ_12 h => ?_)
      refine g_iinc (y := (1)) (lv' := fun x2_13 => [(2, .int x2_13), (0, .ref (a 0)), (1, .int q1_112)]) hX 2 dX9_image_135 rfl (by decide) (by decide) (fun _ => rfl) h (fun x2_13 h => ?_)
      refine g_goto hX 112 dX9_image_138 (by decide) ?_
      exact g_sub [1, 2, 0] rfl (ih112 _ _ h)
set_option maxRecDepth 20000 in
set_option maxHeartbeats 4000000 in
theorem sX9_image {X : CX} {a : Nat → Nat} {D : va_G} {tI tJ tB : ClassId} {zz : SV} {σ : St}   {r : St × Int32} (hX : OKX X (vM a D tI tJ tB zz) cX9_image 3 RX9 0 0) (hR : ∀ (pc : Nat) (lv : List (Nat × Value)), decode cX9_image pc = .ok (.ireturn, 1) → G X (vM a D tI tJ tB zz) 3 r.1 pc lv [.int r.2]) (h : fX9_image σ  = some r) : G X (vM a D tI tJ tB zz) 3 σ 0 [(0, .ref (a 0))] [] := by
  unfold fX9_image at h
  refine g_aload_n hX 0 dX9_image_0 rfl rfl ?_
  refine gM_281 hX dX9_image_1 ?_
  refine g_iconst hX (4) dX9_image_4 (by decide) ?_
  refine g_icmp_eq hX 15 dX9_image_5 (by decide) h (fun h => ?_) (fun h => ?_)
  · refine g_iconst hX (-1) dX9_image_15 (by decide) ?_
    exact g_reti hR h dX9_image_16
  · refine g_aload_n hX 0 dX9_image_8 rfl rfl ?_
    refine gM_260 hX dX9_image_9 ?_
    refine g_if_ne hX 17 dX9_image_12 (by decide) h (fun h => ?_) (fun h => ?_)
    · refine g_bipush hX (57) dX9_image_17 (by decide) ?_
      refine g_aload_n hX 0 dX9_image_19 rfl rfl ?_
      refine gM_281 hX dX9_image_20 ?_
      refine g_imul hX dX9_image_23 ?_
      refine g_istore_n (lv' := fun x1_1 => [(1, .int x1_1), (0, .ref (a 0))]) hX dX9_image_24 rfl (by decide) (fun _ => rfl) h (fun x1_1 h => ?_)
      refine g_aload_n hX 1 dX9_image_25 rfl rfl ?_
      refine gM_127 hX dX9_image_26 ?_
      refine g_iload_n hX 0 dX9_image_29 rfl rfl ?_
      refine g_aload_n hX 1 dX9_image_30 rfl rfl ?_
      refine gM_67 hX dX9_image_31 ?_
      refine asM_34 hX dX9_image_34 h (fun σ_2 h => ?_)
      refine g_aload_n hX 1 dX9_image_35 rfl rfl ?_
      refine gM_127 hX dX9_image_36 ?_
      refine g_iload_n hX 0 dX9_image_39 rfl rfl ?_
      refine g_iconst hX (1) dX9_image_40 (by decide) ?_
      refine g_iadd hX dX9_image_41 ?_
      refine g_aload_n hX 1 dX9_image_42 rfl rfl ?_
      refine gM_275 hX dX9_image_43 ?_
      refine asM_34 hX dX9_image_46 h (fun σ_3 h => ?_)
      refine g_iconst hX (0) dX9_image_47 (by decide) ?_
      refine g_istore_n (lv' := fun x2_4 => [(2, .int x2_4), (1, .int x1_1), (0, .ref (a 0))]) hX dX9_image_48 rfl (by decide) (fun _ => rfl) h (fun x2_4 h => ?_)
      refine g_sub [2, 1, 0] rfl (sX9_image_L49 hX hR (fun σ_9 x2_10 h => ?_) FU _ _ h)
      refine g_iconst hX (0) dX9_image_110 (by decide) ?_
      refine g_istore_n (lv' := fun x2_11 => [(2, .int x2_11), (0, .ref (a 0)), (1, .int x1_1)]) hX dX9_image_111 rfl (by decide) (fun _ => rfl) h (fun x2_11 h => ?_)
      refine g_sub [1, 2, 0] rfl (sX9_image_L112 hX hR (fun σ_14 x2_15 h => ?_) FU _ _ h)
      refine g_aload_n hX 0 dX9_image_141 rfl rfl ?_
      refine g_dup hX dX9_image_142 rfl ?_
      refine gM_281 hX dX9_image_143 ?_
      refine g_iconst hX (1) dX9_image_146 (by decide) ?_
      refine g_iadd hX dX9_image_147 ?_
      refine pM_281 hX dX9_image_148 h (fun σ_16 h => ?_)
      refine g_aload_n hX 0 dX9_image_151 rfl rfl ?_
      refine gM_281 hX dX9_image_152 ?_
      refine g_iconst hX (1) dX9_image_155 (by decide) ?_
      refine g_isub hX dX9_image_156 ?_
      exact g_reti hR h dX9_image_157
    · refine g_iconst hX (-1) dX9_image_15 (by decide) ?_
      exact g_reti hR h dX9_image_16
set_option maxRecDepth 20000 in
set_option maxHeartbeats 4000000 in
theorem kX9_image (l : Launch) {a : Nat → Nat} {D : va_G} {tI tJ tB : ClassId} {zz : SV} {σ τ : St}   {x : Int32} (h : fX9_image σ  = some (τ, x)) : CtI l yX9_image cX9_image 3 (some .int) 0 0 (vM a D tI tJ tB zz) σ [.ref (a 0)] τ x := g_metI (by decide) (Nat.le_of_ble_eq_true rfl) rfl (fun X _ hX hR => sX9_image (r := (τ, x)) hX hR h)
def fX9_back_L45 (q2_45 : Int32) (kx45 : St → Int32 → Option (St × Int32)) : Nat → St → Int32 → Option (St × Int32)
  | 0, _, _ => none
  | n45 + 1, σ, c3_45 =>
    (if (4 : Int32) ≤ c3_45 then kx45 σ c3_45 else chk (inb ((q2_45 + (2 : Int32)) + c3_45) 228) (chk (inb c3_45 4) (bnd (sI σ 2 (ix c3_45) (σ.1 34 (ix ((q2_45 + (2 : Int32)) + c3_45)))) fun (σ_7 : St) => chk (inb ((q2_45 + (6 : Int32)) + c3_45) 228) (chk (inb c3_45 4) (bnd (sI σ_7 15 (ix c3_45) (σ_7.1 34 (ix ((q2_45 + (6 : Int32)) + c3_45)))) fun (σ_8 : St) => chk (inb ((q2_45 + (10 : Int32)) + c3_45) 228) (chk (inb c3_45 4) (bnd (sI σ_8 16 (ix c3_45) (σ_8.1 34 (ix ((q2_45 + (10 : Int32)) + c3_45)))) fun (σ_9 : St) => bnd (c3_45 + (1 : Int32)) fun (x3_10 : Int32) => fX9_back_L45 q2_45 kx45 n45 σ_9 x3_10)))))))
def fX9_back_L108 (q2_108 : Int32) (kx108 : St → Int32 → Option (St × Int32)) : Nat → St → Int32 → Option (St × Int32)
  | 0, _, _ => none
  | n108 + 1, σ, c3_108 =>
    (if (32 : Int32) ≤ c3_108 then kx108 σ c3_108 else chk (inb ((q2_108 + (14 : Int32)) + c3_108) 228) (chk (inb c3_108 32) (bnd (sI σ 17 (ix c3_108) (σ.1 34 (ix ((q2_108 + (14 : Int32)) + c3_108)))) fun (σ_14 : St) => bnd (c3_108 + (1 : Int32)) fun (x3_15 : Int32) => fX9_back_L108 q2_108 kx108 n108 σ_14 x3_15)))
def fX9_back (σ : St) (p1 : Int32) : Option (St × Int32) :=
  cl (fX9_isIn σ p1 (0 : Int32) ((σ.1 0 68) - (1 : Int32))) fun (σ_1 : St) (t_2 : Int32) => (if t_2 = 0 then some (σ_1, (0 : Int32)) else bnd ((57 : Int32) * p1) fun (x2_3 : Int32) => chk (inb x2_3 228) (bnd (sI σ_1 0 39 (σ_1.1 34 (ix x2_3))) fun (σ_4 : St) => chk (inb (x2_3 + (1 : Int32)) 228) (bnd (sI σ_4 0 37 (σ_4.1 34 (ix (x2_3 + (1 : Int32))))) fun (σ_5 : St) => bnd (0 : Int32) fun (x3_6 : Int32) => fX9_back_L45 x2_3 (fun (σ_11 : St) (x3_12 : Int32) => bnd (0 : Int32) fun (x3_13 : Int32) => fX9_back_L108 x2_3 (fun (σ_16 : St) (x3_17 : Int32) => some (σ_16, (1 : Int32))) FU σ_11 x3_13) FU σ_5 x3_6)))
set_option maxRecDepth 20000 in
set_option maxHeartbeats 4000000 in
theorem sX9_back_L45 {X : CX} {a : Nat → Nat} {D : va_G} {tI tJ tB : ClassId} {zz : SV} {q2_45 : Int32} {kx45 : St → Int32 → Option (St × Int32)} {r : St × Int32} (hX : OKX X (vM a D tI tJ tB zz) cX9_back 4 RX9 1 22) (hR : (r.2 = 0 ∨ r.2 = 1) → ∀ (pc : Nat) (lv : List (Nat × Value)), decode cX9_back pc = .ok (.ireturn, 1) → G X (vM a D tI tJ tB zz) 4 r.1 pc lv [.int r.2]) (hkx45 : ∀ (σ : St) (e3_45 : Int32), kx45 σ e3_45 = some r → G X (vM a D tI tJ tB zz) 4 σ 106 [(0, .ref (a 0)), (2, .int q2_45)] []) : ∀ (n : Nat) (σ : St) (c3_45 : Int32), fX9_back_L45 q2_45 kx45 n σ c3_45 = some r → G X (vM a D tI tJ tB zz) 4 σ 45 [(0, .ref (a 0)), (2, .int q2_45), (3, .int c3_45)] [] := by
  intro n
  induction n with
  | zero => intro σ c3_45 h; rw [fX9_back_L45] at h; exact absurd h (by simp)
  | succ n45 ih45 =>
    intro σ c3_45 h
    rw [fX9_back_L45] at h
    refine g_iload_n hX 2 dX9_back_45 rfl rfl ?_
    refine g_iconst hX (4) dX9_back_46 (by decide) ?_
    refine g_icmp_ge hX 106 dX9_back_47 (by decide) h (fun h => ?_) (fun h => ?_)
    · exact g_sub [0, 1] rfl (hkx45 _ _ h)
    · refine g_aload_n hX 0 dX9_back_50 rfl rfl ?_
      refine gM_23 hX dX9_back_51 ?_
      refine g_iload_n hX 2 dX9_back_54 rfl rfl ?_
      refine g_aload_n hX 0 dX9_back_55 rfl rfl ?_
      refine gM_127 hX dX9_back_56 ?_
      refine g_iload_n hX 1 dX9_back_59 rfl rfl ?_
      refine g_iconst hX (2) dX9_back_60 (by decide) ?_
      refine g_iadd hX dX9_back_61 ?_
      refine g_iload_n hX 2 dX9_back_62 rfl rfl ?_
      refine g_iadd hX dX9_back_63 ?_
      refine alM_34 hX dX9_back_64 h (fun h => ?_)
      refine asM_2 hX dX9_back_65 h (fun σ_7 h => ?_)
      refine g_aload_n hX 0 dX9_back_66 rfl rfl ?_
      refine gM_70 hX dX9_back_67 ?_
      refine g_iload_n hX 2 dX9_back_70 rfl rfl ?_
      refine g_aload_n hX 0 dX9_back_71 rfl rfl ?_
      refine gM_127 hX dX9_back_72 ?_
      refine g_iload_n hX 1 dX9_back_75 rfl rfl ?_
      refine g_bipush hX (6) dX9_back_76 (by decide) ?_
      refine g_iadd hX dX9_back_78 ?_
      refine g_iload_n hX 2 dX9_back_79 rfl rfl ?_
      refine g_iadd hX dX9_back_80 ?_
      refine alM_34 hX dX9_back_81 h (fun h => ?_)
      refine asM_15 hX dX9_back_82 h (fun σ_8 h => ?_)
      refine g_aload_n hX 0 dX9_back_83 rfl rfl ?_
      refine gM_73 hX dX9_back_84 ?_
      refine g_iload_n hX 2 dX9_back_87 rfl rfl ?_
      refine g_aload_n hX 0 dX9_back_88 rfl rfl ?_
      refine gM_127 hX dX9_back_89 ?_
      refine g_iload_n hX 1 dX9_back_92 rfl rfl ?_
      refine g_bipush hX (10) dX9_back_93 (by decide) ?_
      refine g_iadd hX dX9_back_95 ?_
      refine g_iload_n hX 2 dX9_back_96 rfl rfl ?_
      refine g_iadd hX dX9_back_97 ?_
      refine alM_34 hX dX9_back_98 h (fun h => ?_)
      refine asM_16 hX dX9_back_99 h (fun σ_9 h => ?_)
      refine g_iinc (y := (1)) (lv' := fun x3_10 => [(3, .int x3_10), (0, .ref (a 0)), (2, .int q2_45)]) hX 2 dX9_back_100 rfl (by decide) (by decide) (fun _ => rfl) h (fun x3_10 h => ?_)
      refine g_goto hX 45 dX9_back_103 (by decide) ?_
      exact g_sub [1, 2, 0] rfl (ih45 _ _ h)
set_option maxRecDepth 20000 in
set_option maxHeartbeats 4000000 in
theorem sX9_back_L108 {X : CX} {a : Nat → Nat} {D : va_G} {tI tJ tB : ClassId} {zz : SV} {q2_108 : Int32} {kx108 : St → Int32 → Option (St × Int32)} {r : St × Int32} (hX : OKX X (vM a D tI tJ tB zz) cX9_back 4 RX9 1 22) (hR : (r.2 = 0 ∨ r.2 = 1) → ∀ (pc : Nat) (lv : List (Nat × Value)), decode cX9_back pc = .ok (.ireturn, 1) → G X (vM a D tI tJ tB zz) 4 r.1 pc lv [.int r.2]) (hkx108 : ∀ (σ : St) (e3_108 : Int32), kx108 σ e3_108 = some r → G X (vM a D tI tJ tB zz) 4 σ 137 [] []) : ∀ (n : Nat) (σ : St) (c3_108 : Int32), fX9_back_L108 q2_108 kx108 n σ c3_108 = some r → G X (vM a D tI tJ tB zz) 4 σ 108 [(0, .ref (a 0)), (2, .int q2_108), (3, .int c3_108)] [] := by
  intro n
  induction n with
  | zero => intro σ c3_108 h; rw [fX9_back_L108] at h; exact absurd h (by simp)
  | succ n108 ih108 =>
    intro σ c3_108 h
    rw [fX9_back_L108] at h
    refine g_iload_n hX 2 dX9_back_108 rfl rfl ?_
    refine g_bipush hX (32) dX9_back_109 (by decide) ?_
    refine g_icmp_ge hX 137 dX9_back_111 (by decide) h (fun h => ?_) (fun h => ?_)
    · exact g_sub [] rfl (hkx108 _ _ h)
    · refine g_aload_n hX 0 dX9_back_114 rfl rfl ?_
      refine gM_76 hX dX9_back_115 ?_
      refine g_iload_n hX 2 dX9_back_118 rfl rfl ?_
      refine g_aload_n hX 0 dX9_back_119 rfl rfl ?_
      refine gM_127 hX dX9_back_120 ?_
      refine g_iload_n hX 1 dX9_back_123 rfl rfl ?_
      refine g_bipush hX (14) dX9_back_124 (by decide) ?_
      refine g_iadd hX dX9_back_126 ?_
      refine g_iload_n hX 2 dX9_back_127 rfl rfl ?_
      refine g_iadd hX dX9_back_128 ?_
      refine alM_34 hX dX9_back_129 h (fun h => ?_)
      refine asM_17 hX dX9_back_130 h (fun σ_14 h => ?_)
      refine g_iinc (y := (1)) (lv' := fun x3_15 => [(3, .int x3_15), (0, .ref (a 0)), (2, .int q2_108)]) hX 2 dX9_back_131 rfl (by decide) (by decide) (fun _ => rfl) h (fun x3_15 h => ?_)
      refine g_goto hX 108 dX9_back_134 (by decide) ?_
      exact g_sub [1, 2, 0] rfl (ih108 _ _ h)
set_option maxRecDepth 20000 in
set_option maxHeartbeats 4000000 in
theorem sX9_back {X : CX} {a : Nat → Nat} {D : va_G} {tI tJ tB : ClassId} {zz : SV} {σ : St}  {p1 : Int32} {r : St × Int32} (hX : OKX X (vM a D tI tJ tB zz) cX9_back 4 RX9 1 22) (hR : (r.2 = 0 ∨ r.2 = 1) → ∀ (pc : Nat) (lv : List (Nat × Value)), decode cX9_back pc = .ok (.ireturn, 1) → G X (vM a D tI tJ tB zz) 4 r.1 pc lv [.int r.2]) (h : fX9_back σ p1 = some r) : G X (vM a D tI tJ tB zz) 4 σ 0 [(0, .ref (a 0)), (1, .int p1)] [] := by
  unfold fX9_back at h
  refine g_iload_n hX 1 dX9_back_0 rfl rfl ?_
  refine g_iconst hX (0) dX9_back_1 (by decide) ?_
  refine g_aload_n hX 0 dX9_back_2 rfl rfl ?_
  refine gM_281 hX dX9_back_3 ?_
  refine g_iconst hX (1) dX9_back_6 (by decide) ?_
  refine g_isub hX dX9_back_7 ?_
  refine g_callSI (As := [.int p1, .int (0 : Int32), .int ((σ.1 0 68) - (1 : Int32))]) (rest := []) hX miX9_isIn mvX9_isIn lkX9_156 (by decide) rfl (Nat.le_of_ble_eq_true rfl) rfl dX9_back_8 (fun τ x ho => kX9_isIn _ ho) h (fun σ_1 t_2 h => ?_)
  refine g_if_ne hX 16 dX9_back_11 (by decide) h (fun h => ?_) (fun h => ?_)
  · refine g_bipush hX (57) dX9_back_16 (by decide) ?_
    refine g_iload_n hX 1 dX9_back_18 rfl rfl ?_
    refine g_imul hX dX9_back_19 ?_
    refine g_istore_n (lv' := fun x2_3 => [(2, .int x2_3), (0, .ref (a 0)), (1, .int p1)]) hX dX9_back_20 rfl (by decide) (fun _ => rfl) h (fun x2_3 h => ?_)
    refine g_aload_n hX 1 dX9_back_21 rfl rfl ?_
    refine g_aload_n hX 1 dX9_back_22 rfl rfl ?_
    refine gM_127 hX dX9_back_23 ?_
    refine g_iload_n hX 0 dX9_back_26 rfl rfl ?_
    refine alM_34 hX dX9_back_27 h (fun h => ?_)
    refine pM_67 hX dX9_back_28 h (fun σ_4 h => ?_)
    refine g_aload_n hX 1 dX9_back_31 rfl rfl ?_
    refine g_aload_n hX 1 dX9_back_32 rfl rfl ?_
    refine gM_127 hX dX9_back_33 ?_
    refine g_iload_n hX 0 dX9_back_36 rfl rfl ?_
    refine g_iconst hX (1) dX9_back_37 (by decide) ?_
    refine g_iadd hX dX9_back_38 ?_
    refine alM_34 hX dX9_back_39 h (fun h => ?_)
    refine pM_275 hX dX9_back_40 h (fun σ_5 h => ?_)
    refine g_iconst hX (0) dX9_back_43 (by decide) ?_
    refine g_istore_n (lv' := fun x3_6 => [(3, .int x3_6), (2, .int x2_3), (0, .ref (a 0)), (1, .int p1)]) hX dX9_back_44 rfl (by decide) (fun _ => rfl) h (fun x3_6 h => ?_)
    refine g_sub [2, 1, 0] rfl (sX9_back_L45 hX hR (fun σ_11 x3_12 h => ?_) FU _ _ h)
    refine g_iconst hX (0) dX9_back_106 (by decide) ?_
    refine g_istore_n (lv' := fun x3_13 => [(3, .int x3_13), (0, .ref (a 0)), (2, .int x2_3)]) hX dX9_back_107 rfl (by decide) (fun _ => rfl) h (fun x3_13 h => ?_)
    refine g_sub [1, 2, 0] rfl (sX9_back_L108 hX hR (fun σ_16 x3_17 h => ?_) FU _ _ h)
    refine g_iconst hX (1) dX9_back_137 (by decide) ?_
    exact g_retz hR (by decide) h dX9_back_138
  · refine g_iconst hX (0) dX9_back_14 (by decide) ?_
    exact g_retz hR (by decide) h dX9_back_15
set_option maxRecDepth 20000 in
set_option maxHeartbeats 4000000 in
theorem kX9_back (l : Launch) {a : Nat → Nat} {D : va_G} {tI tJ tB : ClassId} {zz : SV} {σ τ : St}  {p1 : Int32} {x : Int32} (h : fX9_back σ p1 = some (τ, x)) : CtI l yX9_back cX9_back 4 (some .boolean) 1 22 (vM a D tI tJ tB zz) σ [.ref (a 0), .int p1] τ x := g_metZ (by decide) (Nat.le_of_ble_eq_true rfl) rfl (fun X _ hX hR => sX9_back (r := (τ, x)) hX hR h)
def fX9_weighed_L13  (kx13 : St → Int32 → Int32 → Option (St × Int32)) : Nat → St → Int32 → Int32 → Option (St × Int32)
  | 0, _, _, _ => none
  | n13 + 1, σ, c1_13, c2_13 =>
    cl (fX9_rows σ ) fun (σ_5 : St) (t_6 : Int32) => (if t_6 ≤ c2_13 then kx13 σ_5 c1_13 c2_13 else cl (fX9_lays_ σ_5 c2_13 (0 : Int32)) fun (σ_7 : St) (t_8 : Unit) => (jp (fun (σ_9 : St)  (t_10 : Int32) => cl (fX9_one σ_9 t_10) fun (σ_11 : St) (t_12 : Int32) => bnd (c1_13 + t_12) fun (x1_13 : Int32) => bnd (c2_13 + (1 : Int32)) fun (x2_14 : Int32) => fX9_weighed_L13 kx13 n13 σ_11 x1_13 x2_14) fun j42 => (if (lg_cmp (σ_7.2 0 47) (0 : Int64)) ≤ 0 then j42 σ_7 (0 : Int32) else j42 σ_7 (1 : Int32))))
def fX9_weighed (σ : St)  : Option (St × Int32) :=
  cl (fX9_areReady σ ) fun (σ_1 : St) (t_2 : Int32) => (if t_2 = 0 then some (σ_1, (0 : Int32)) else bnd (0 : Int32) fun (x1_3 : Int32) => bnd (0 : Int32) fun (x2_4 : Int32) => fX9_weighed_L13  (fun (σ_15 : St) (x1_16 : Int32) (x2_17 : Int32) => some (σ_15, x1_16)) FU σ_1 x1_3 x2_4)
set_option maxRecDepth 20000 in
set_option maxHeartbeats 4000000 in
theorem sX9_weighed_L13 {X : CX} {a : Nat → Nat} {D : va_G} {tI tJ tB : ClassId} {zz : SV}  {kx13 : St → Int32 → Int32 → Option (St × Int32)} {r : St × Int32} (hX : OKX X (vM a D tI tJ tB zz) cX9_weighed 3 RX9 10 228) (hR : ∀ (pc : Nat) (lv : List (Nat × Value)), decode cX9_weighed pc = .ok (.ireturn, 1) → G X (vM a D tI tJ tB zz) 3 r.1 pc lv [.int r.2]) (hkx13 : ∀ (σ : St) (e1_13 : Int32) (e2_13 : Int32), kx13 σ e1_13 e2_13 = some r → G X (vM a D tI tJ tB zz) 3 σ 53 [(1, .int e1_13)] []) : ∀ (n : Nat) (σ : St) (c1_13 : Int32) (c2_13 : Int32), fX9_weighed_L13 kx13 n σ c1_13 c2_13 = some r → G X (vM a D tI tJ tB zz) 3 σ 13 [(0, .ref (a 0)), (1, .int c1_13), (2, .int c2_13)] [] := by
  intro n
  induction n with
  | zero => intro σ c1_13 c2_13 h; rw [fX9_weighed_L13] at h; exact absurd h (by simp)
  | succ n13 ih13 =>
    intro σ c1_13 c2_13 h
    rw [fX9_weighed_L13] at h
    refine g_iload_n hX 2 dX9_weighed_13 rfl rfl ?_
    refine g_aload_n hX 0 dX9_weighed_14 rfl rfl ?_
    refine g_callVI (As := []) (rest := [.int c2_13]) hX 0 (Nat.le_of_ble_eq_true rfl) rfl rfl miX9_rows mvX9_rows lkX9_342 (by decide) rfl (Nat.le_of_ble_eq_true rfl) rfl dX9_weighed_15 (fun τ x ho => kX9_rows _ ho) h (fun σ_5 t_6 h => ?_)
    refine g_icmp_ge hX 53 dX9_weighed_18 (by decide) h (fun h => ?_) (fun h => ?_)
    · exact g_sub [1] rfl (hkx13 _ _ _ h)
    · refine g_aload_n hX 0 dX9_weighed_21 rfl rfl ?_
      refine g_iload_n hX 2 dX9_weighed_22 rfl rfl ?_
      refine g_iconst hX (0) dX9_weighed_23 (by decide) ?_
      refine g_callVV (As := [.int c2_13, .int (0 : Int32)]) (rest := []) hX 0 (Nat.le_of_ble_eq_true rfl) rfl rfl miX9_lays_ mvX9_lays_ lkX9_345 (by decide) rfl (Nat.le_of_ble_eq_true rfl) rfl dX9_weighed_24 (fun τ x ho => kX9_lays_ _ ho) h (fun σ_7 t_8 h => ?_)
      refine g_iload_n hX 1 dX9_weighed_27 rfl rfl ?_
      refine g_aload_n hX 0 dX9_weighed_28 rfl rfl ?_
      refine gM_331 hX dX9_weighed_29 ?_
      refine g_lconst hX (0) dX9_weighed_32 (by decide) ?_
      refine g_lcmp hX dX9_weighed_33 ?_
      refine jp_inv (P := fun f => ∀ (σ_9 : St)  (t_10 : Int32), f σ_9 t_10 = some r → G X (vM a D tI tJ tB zz) 3 σ_9 42 [(0, .ref (a 0)), (2, .int c2_13)] [.int t_10, .int c1_13]) h (fun σ_9 t_10 h => ?_) (fun j42 hj42 h => ?_)
      · refine g_callSI (As := [.int t_10]) (rest := [.int c1_13]) hX miX9_one mvX9_one lkX9_472 (by decide) rfl (Nat.le_of_ble_eq_true rfl) rfl dX9_weighed_42 (fun τ x ho => kX9_one _ ho) h (fun σ_11 t_12 h => ?_)
        refine g_iadd hX dX9_weighed_45 ?_
        refine g_istore_n (lv' := fun x1_13 => [(1, .int x1_13), (0, .ref (a 0)), (2, .int c2_13)]) hX dX9_weighed_46 rfl (by decide) (fun _ => rfl) h (fun x1_13 h => ?_)
        refine g_iinc (y := (1)) (lv' := fun x2_14 => [(2, .int x2_14), (1, .int x1_13), (0, .ref (a 0))]) hX 2 dX9_weighed_47 rfl (by decide) (by decide) (fun _ => rfl) h (fun x2_14 h => ?_)
        refine g_goto hX 13 dX9_weighed_50 (by decide) ?_
        exact g_sub [2, 1, 0] rfl (ih13 _ _ _ h)
      refine g_if_le hX 41 dX9_weighed_34 (by decide) h (fun h => ?_) (fun h => ?_)
      · refine g_iconst hX (0) dX9_weighed_41 (by decide) ?_
        exact g_sub [0, 2] rfl (hj42 _ _ h)
      · refine g_iconst hX (1) dX9_weighed_37 (by decide) ?_
        refine g_goto hX 42 dX9_weighed_38 (by decide) ?_
        exact g_sub [0, 2] rfl (hj42 _ _ h)
set_option maxRecDepth 20000 in
set_option maxHeartbeats 4000000 in
theorem sX9_weighed {X : CX} {a : Nat → Nat} {D : va_G} {tI tJ tB : ClassId} {zz : SV} {σ : St}   {r : St × Int32} (hX : OKX X (vM a D tI tJ tB zz) cX9_weighed 3 RX9 10 228) (hR : ∀ (pc : Nat) (lv : List (Nat × Value)), decode cX9_weighed pc = .ok (.ireturn, 1) → G X (vM a D tI tJ tB zz) 3 r.1 pc lv [.int r.2]) (h : fX9_weighed σ  = some r) : G X (vM a D tI tJ tB zz) 3 σ 0 [(0, .ref (a 0))] [] := by
  unfold fX9_weighed at h
  refine g_aload_n hX 0 dX9_weighed_0 rfl rfl ?_
  refine g_callVI (As := []) (rest := []) hX 0 (Nat.le_of_ble_eq_true rfl) rfl rfl miX9_areReady mvX9_areReady lkX9_367 (by decide) rfl (Nat.le_of_ble_eq_true rfl) rfl dX9_weighed_1 (fun τ x ho => kX9_areReady _ ho) h (fun σ_1 t_2 h => ?_)
  refine g_if_ne hX 9 dX9_weighed_4 (by decide) h (fun h => ?_) (fun h => ?_)
  · refine g_iconst hX (0) dX9_weighed_9 (by decide) ?_
    refine g_istore_n (lv' := fun x1_3 => [(1, .int x1_3), (0, .ref (a 0))]) hX dX9_weighed_10 rfl (by decide) (fun _ => rfl) h (fun x1_3 h => ?_)
    refine g_iconst hX (0) dX9_weighed_11 (by decide) ?_
    refine g_istore_n (lv' := fun x2_4 => [(2, .int x2_4), (1, .int x1_3), (0, .ref (a 0))]) hX dX9_weighed_12 rfl (by decide) (fun _ => rfl) h (fun x2_4 h => ?_)
    refine g_sub [2, 1, 0] rfl (sX9_weighed_L13 hX hR (fun σ_15 x1_16 x2_17 h => ?_) FU _ _ _ h)
    refine g_iload_n hX 0 dX9_weighed_53 rfl rfl ?_
    exact g_reti hR h dX9_weighed_54
  · refine g_iconst hX (0) dX9_weighed_7 (by decide) ?_
    exact g_reti hR h dX9_weighed_8
set_option maxRecDepth 20000 in
set_option maxHeartbeats 4000000 in
theorem kX9_weighed (l : Launch) {a : Nat → Nat} {D : va_G} {tI tJ tB : ClassId} {zz : SV} {σ τ : St}   {x : Int32} (h : fX9_weighed σ  = some (τ, x)) : CtI l yX9_weighed cX9_weighed 3 (some .int) 10 228 (vM a D tI tJ tB zz) σ [.ref (a 0)] τ x := g_metI (by decide) (Nat.le_of_ble_eq_true rfl) rfl (fun X _ hX hR => sX9_weighed (r := (τ, x)) hX hR h)
def fX9_womenMany_L34 (q1_34 : Int32) (q2_34 : Int32) (kx34 : St → Int32 → Int32 → Option (St × Int32)) : Nat → St → Int32 → Int32 → Option (St × Int32)
  | 0, _, _, _ => none
  | n34 + 1, σ, c3_34, c4_34 =>
    cl (fX9_everyone σ ) fun (σ_9 : St) (t_10 : Int32) => (if t_10 < c4_34 then kx34 σ_9 c3_34 c4_34 else chk (inb q2_34 12) ((if (σ_9.1 3 (ix q2_34)) = (1 : Int32) then cl (fX9_bits σ_9 c4_34) fun (σ_11 : St) (t_12 : Int32) => chk (inb q2_34 12) ((jp (fun (σ_13 : St)  (t_14 : Int32) => cl (fX9_one σ_13 t_14) fun (σ_15 : St) (t_16 : Int32) => bnd (c3_34 + t_16) fun (x3_17 : Int32) => bnd (c4_34 + (1 : Int32)) fun (x4_18 : Int32) => fX9_womenMany_L34 q1_34 q2_34 kx34 n34 σ_15 x3_17 x4_18) fun j73 => (if t_12 = (σ_11.1 5 (ix q2_34)) then j73 σ_11 (1 : Int32) else j73 σ_11 (0 : Int32)))) else kx34 σ_9 c3_34 c4_34)))
def fX9_womenMany_L4  (kx4 : St → Int32 → Int32 → Option (St × Int32)) : Nat → St → Int32 → Int32 → Option (St × Int32)
  | 0, _, _, _ => none
  | n4 + 1, σ, c1_4, c2_4 =>
    (if (σ.1 0 1) ≤ c2_4 then kx4 σ c1_4 c2_4 else chk (inb c2_4 12) ((jp (fun (σ_3 : St)  (t_4 : Int32) => cl (fX9_one σ_3 t_4) fun (σ_5 : St) (t_6 : Int32) => bnd t_6 fun (x3_7 : Int32) => bnd (1 : Int32) fun (x4_8 : Int32) => fX9_womenMany_L34 c1_4 c2_4 (fun (σ_19 : St) (x3_20 : Int32) (x4_21 : Int32) => chk (inb c2_4 12) (bnd (c1_4 + (x3_20 * (σ_19.1 4 (ix c2_4)))) fun (x1_22 : Int32) => bnd (c2_4 + (1 : Int32)) fun (x2_23 : Int32) => fX9_womenMany_L4 kx4 n4 σ_19 x1_22 x2_23)) FU σ_5 x3_7 x4_8) fun j27 => (if (σ.1 3 (ix c2_4)) = (1 : Int32) then j27 σ (0 : Int32) else j27 σ (1 : Int32)))))
def fX9_womenMany (σ : St)  : Option (St × Int32) :=
  bnd (0 : Int32) fun (x1_1 : Int32) => bnd (0 : Int32) fun (x2_2 : Int32) => fX9_womenMany_L4  (fun (σ_24 : St) (x1_25 : Int32) (x2_26 : Int32) => some (σ_24, x1_25)) FU σ x1_1 x2_2
set_option maxRecDepth 20000 in
set_option maxHeartbeats 4000000 in
theorem sX9_womenMany_L34 {X : CX} {a : Nat → Nat} {D : va_G} {tI tJ tB : ClassId} {zz : SV} {q1_34 : Int32} {q2_34 : Int32} {kx34 : St → Int32 → Int32 → Option (St × Int32)} {r : St × Int32} (hX : OKX X (vM a D tI tJ tB zz) cX9_womenMany 5 RX9 1 22) (hR : ∀ (pc : Nat) (lv : List (Nat × Value)), decode cX9_womenMany pc = .ok (.ireturn, 1) → G X (vM a D tI tJ tB zz) 5 r.1 pc lv [.int r.2]) (hkx34 : ∀ (σ : St) (e3_34 : Int32) (e4_34 : Int32), kx34 σ e3_34 e4_34 = some r → G X (vM a D tI tJ tB zz) 5 σ 84 [(0, .ref (a 0)), (1, .int q1_34), (2, .int q2_34), (3, .int e3_34)] []) : ∀ (n : Nat) (σ : St) (c3_34 : Int32) (c4_34 : Int32), fX9_womenMany_L34 q1_34 q2_34 kx34 n σ c3_34 c4_34 = some r → G X (vM a D tI tJ tB zz) 5 σ 34 [(0, .ref (a 0)), (1, .int q1_34), (2, .int q2_34), (3, .int c3_34), (4, .int c4_34)] [] := by
  intro n
  induction n with
  | zero => intro σ c3_34 c4_34 h; rw [fX9_womenMany_L34] at h; exact absurd h (by simp)
  | succ n34 ih34 =>
    intro σ c3_34 c4_34 h
    rw [fX9_womenMany_L34] at h
    refine g_iload hX 4 dX9_womenMany_34 rfl ?_
    refine g_aload_n hX 0 dX9_womenMany_36 rfl rfl ?_
    refine g_callVI (As := []) (rest := [.int c4_34]) hX 0 (Nat.le_of_ble_eq_true rfl) rfl rfl miX9_everyone mvX9_everyone lkX9_323 (by decide) rfl (Nat.le_of_ble_eq_true rfl) rfl dX9_womenMany_37 (fun τ x ho => kX9_everyone _ ho) h (fun σ_9 t_10 h => ?_)
    refine g_icmp_gt hX 84 dX9_womenMany_40 (by decide) h (fun h => ?_) (fun h => ?_)
    · exact g_sub [0, 1, 2, 3] rfl (hkx34 _ _ _ h)
    · refine g_aload_n hX 0 dX9_womenMany_43 rfl rfl ?_
      refine gM_27 hX dX9_womenMany_44 ?_
      refine g_iload_n hX 2 dX9_womenMany_47 rfl rfl ?_
      refine alM_3 hX dX9_womenMany_48 h (fun h => ?_)
      refine g_iconst hX (1) dX9_womenMany_49 (by decide) ?_
      refine g_icmp_ne hX 84 dX9_womenMany_50 (by decide) h (fun h => ?_) (fun h => ?_)
      · exact g_sub [0, 1, 2, 3] rfl (hkx34 _ _ _ h)
      · refine g_iload_n hX 3 dX9_womenMany_53 rfl rfl ?_
        refine g_iload hX 4 dX9_womenMany_54 rfl ?_
        refine g_callSI (As := [.int c4_34]) (rest := [.int c3_34]) hX miX9_bits mvX9_bits lkX9_317 (by decide) rfl (Nat.le_of_ble_eq_true rfl) rfl dX9_womenMany_56 (fun τ x ho => kX9_bits _ ho) h (fun σ_11 t_12 h => ?_)
        refine g_aload_n hX 0 dX9_womenMany_59 rfl rfl ?_
        refine gM_33 hX dX9_womenMany_60 ?_
        refine g_iload_n hX 2 dX9_womenMany_63 rfl rfl ?_
        refine alM_5 hX dX9_womenMany_64 h (fun h => ?_)
        refine jp_inv (P := fun f => ∀ (σ_13 : St)  (t_14 : Int32), f σ_13 t_14 = some r → G X (vM a D tI tJ tB zz) 5 σ_13 73 [(0, .ref (a 0)), (1, .int q1_34), (2, .int q2_34), (4, .int c4_34)] [.int t_14, .int c3_34]) h (fun σ_13 t_14 h => ?_) (fun j73 hj73 h => ?_)
        · refine g_callSI (As := [.int t_14]) (rest := [.int c3_34]) hX miX9_one mvX9_one lkX9_472 (by decide) rfl (Nat.le_of_ble_eq_true rfl) rfl dX9_womenMany_73 (fun τ x ho => kX9_one _ ho) h (fun σ_15 t_16 h => ?_)
          refine g_iadd hX dX9_womenMany_76 ?_
          refine g_istore_n (lv' := fun x3_17 => [(3, .int x3_17), (0, .ref (a 0)), (1, .int q1_34), (2, .int q2_34), (4, .int c4_34)]) hX dX9_womenMany_77 rfl (by decide) (fun _ => rfl) h (fun x3_17 h => ?_)
          refine g_iinc (y := (1)) (lv' := fun x4_18 => [(4, .int x4_18), (3, .int x3_17), (0, .ref (a 0)), (1, .int q1_34), (2, .int q2_34)]) hX 4 dX9_womenMany_78 rfl (by decide) (by decide) (fun _ => rfl) h (fun x4_18 h => ?_)
          refine g_goto hX 34 dX9_womenMany_81 (by decide) ?_
          exact g_sub [2, 3, 4, 1, 0] rfl (ih34 _ _ _ h)
        refine g_icmp_ne hX 72 dX9_womenMany_65 (by decide) h (fun h => ?_) (fun h => ?_)
        · refine g_iconst hX (0) dX9_womenMany_72 (by decide) ?_
          exact g_sub [0, 1, 2, 4] rfl (hj73 _ _ h)
        · refine g_iconst hX (1) dX9_womenMany_68 (by decide) ?_
          refine g_goto hX 73 dX9_womenMany_69 (by decide) ?_
          exact g_sub [0, 1, 2, 4] rfl (hj73 _ _ h)
set_option maxRecDepth 20000 in
set_option maxHeartbeats 4000000 in
theorem sX9_womenMany_L4 {X : CX} {a : Nat → Nat} {D : va_G} {tI tJ tB : ClassId} {zz : SV}  {kx4 : St → Int32 → Int32 → Option (St × Int32)} {r : St × Int32} (hX : OKX X (vM a D tI tJ tB zz) cX9_womenMany 5 RX9 1 22) (hR : ∀ (pc : Nat) (lv : List (Nat × Value)), decode cX9_womenMany pc = .ok (.ireturn, 1) → G X (vM a D tI tJ tB zz) 5 r.1 pc lv [.int r.2]) (hkx4 : ∀ (σ : St) (e1_4 : Int32) (e2_4 : Int32), kx4 σ e1_4 e2_4 = some r → G X (vM a D tI tJ tB zz) 5 σ 101 [(1, .int e1_4)] []) : ∀ (n : Nat) (σ : St) (c1_4 : Int32) (c2_4 : Int32), fX9_womenMany_L4 kx4 n σ c1_4 c2_4 = some r → G X (vM a D tI tJ tB zz) 5 σ 4 [(0, .ref (a 0)), (1, .int c1_4), (2, .int c2_4)] [] := by
  intro n
  induction n with
  | zero => intro σ c1_4 c2_4 h; rw [fX9_womenMany_L4] at h; exact absurd h (by simp)
  | succ n4 ih4 =>
    intro σ c1_4 c2_4 h
    rw [fX9_womenMany_L4] at h
    refine g_iload_n hX 2 dX9_womenMany_4 rfl rfl ?_
    refine g_aload_n hX 0 dX9_womenMany_5 rfl rfl ?_
    refine gM_263 hX dX9_womenMany_6 ?_
    refine g_icmp_ge hX 101 dX9_womenMany_9 (by decide) h (fun h => ?_) (fun h => ?_)
    · exact g_sub [1] rfl (hkx4 _ _ _ h)
    · refine g_aload_n hX 0 dX9_womenMany_12 rfl rfl ?_
      refine gM_27 hX dX9_womenMany_13 ?_
      refine g_iload_n hX 2 dX9_womenMany_16 rfl rfl ?_
      refine alM_3 hX dX9_womenMany_17 h (fun h => ?_)
      refine g_iconst hX (1) dX9_womenMany_18 (by decide) ?_
      refine jp_inv (P := fun f => ∀ (σ_3 : St)  (t_4 : Int32), f σ_3 t_4 = some r → G X (vM a D tI tJ tB zz) 5 σ_3 27 [(0, .ref (a 0)), (1, .int c1_4), (2, .int c2_4)] [.int t_4]) h (fun σ_3 t_4 h => ?_) (fun j27 hj27 h => ?_)
      · refine g_callSI (As := [.int t_4]) (rest := []) hX miX9_one mvX9_one lkX9_472 (by decide) rfl (Nat.le_of_ble_eq_true rfl) rfl dX9_womenMany_27 (fun τ x ho => kX9_one _ ho) h (fun σ_5 t_6 h => ?_)
        refine g_istore_n (lv' := fun x3_7 => [(3, .int x3_7), (0, .ref (a 0)), (1, .int c1_4), (2, .int c2_4)]) hX dX9_womenMany_30 rfl (by decide) (fun _ => rfl) h (fun x3_7 h => ?_)
        refine g_iconst hX (1) dX9_womenMany_31 (by decide) ?_
        refine g_istore (lv' := fun x4_8 => [(4, .int x4_8), (3, .int x3_7), (0, .ref (a 0)), (1, .int c1_4), (2, .int c2_4)]) hX dX9_womenMany_32 (by decide) (fun _ => rfl) h (fun x4_8 h => ?_)
        refine g_sub [2, 3, 4, 1, 0] rfl (sX9_womenMany_L34 hX hR (fun σ_19 x3_20 x4_21 h => ?_) FU _ _ _ h)
        refine g_iload_n hX 1 dX9_womenMany_84 rfl rfl ?_
        refine g_iload_n hX 3 dX9_womenMany_85 rfl rfl ?_
        refine g_aload_n hX 0 dX9_womenMany_86 rfl rfl ?_
        refine gM_30 hX dX9_womenMany_87 ?_
        refine g_iload_n hX 2 dX9_womenMany_90 rfl rfl ?_
        refine alM_4 hX dX9_womenMany_91 h (fun h => ?_)
        refine g_imul hX dX9_womenMany_92 ?_
        refine g_iadd hX dX9_womenMany_93 ?_
        refine g_istore_n (lv' := fun x1_22 => [(1, .int x1_22), (0, .ref (a 0)), (2, .int c2_4), (3, .int x3_20)]) hX dX9_womenMany_94 rfl (by decide) (fun _ => rfl) h (fun x1_22 h => ?_)
        refine g_iinc (y := (1)) (lv' := fun x2_23 => [(2, .int x2_23), (1, .int x1_22), (0, .ref (a 0)), (3, .int x3_20)]) hX 2 dX9_womenMany_95 rfl (by decide) (by decide) (fun _ => rfl) h (fun x2_23 h => ?_)
        refine g_goto hX 4 dX9_womenMany_98 (by decide) ?_
        exact g_sub [2, 1, 0] rfl (ih4 _ _ _ h)
      refine g_icmp_eq hX 26 dX9_womenMany_19 (by decide) h (fun h => ?_) (fun h => ?_)
      · refine g_iconst hX (0) dX9_womenMany_26 (by decide) ?_
        exact g_sub [0, 1, 2] rfl (hj27 _ _ h)
      · refine g_iconst hX (1) dX9_womenMany_22 (by decide) ?_
        refine g_goto hX 27 dX9_womenMany_23 (by decide) ?_
        exact g_sub [0, 1, 2] rfl (hj27 _ _ h)
set_option maxRecDepth 20000 in
set_option maxHeartbeats 4000000 in
theorem sX9_womenMany {X : CX} {a : Nat → Nat} {D : va_G} {tI tJ tB : ClassId} {zz : SV} {σ : St}   {r : St × Int32} (hX : OKX X (vM a D tI tJ tB zz) cX9_womenMany 5 RX9 1 22) (hR : ∀ (pc : Nat) (lv : List (Nat × Value)), decode cX9_womenMany pc = .ok (.ireturn, 1) → G X (vM a D tI tJ tB zz) 5 r.1 pc lv [.int r.2]) (h : fX9_womenMany σ  = some r) : G X (vM a D tI tJ tB zz) 5 σ 0 [(0, .ref (a 0))] [] := by
  unfold fX9_womenMany at h
  refine g_iconst hX (0) dX9_womenMany_0 (by decide) ?_
  refine g_istore_n (lv' := fun x1_1 => [(1, .int x1_1), (0, .ref (a 0))]) hX dX9_womenMany_1 rfl (by decide) (fun _ => rfl) h (fun x1_1 h => ?_)
  refine g_iconst hX (0) dX9_womenMany_2 (by decide) ?_
  refine g_istore_n (lv' := fun x2_2 => [(2, .int x2_2), (1, .int x1_1), (0, .ref (a 0))]) hX dX9_womenMany_3 rfl (by decide) (fun _ => rfl) h (fun x2_2 h => ?_)
  refine g_sub [2, 1, 0] rfl (sX9_womenMany_L4 hX hR (fun σ_24 x1_25 x2_26 h => ?_) FU _ _ _ h)
  refine g_iload_n hX 0 dX9_womenMany_101 rfl rfl ?_
  exact g_reti hR h dX9_womenMany_102
set_option maxRecDepth 20000 in
set_option maxHeartbeats 4000000 in
theorem kX9_womenMany (l : Launch) {a : Nat → Nat} {D : va_G} {tI tJ tB : ClassId} {zz : SV} {σ τ : St}   {x : Int32} (h : fX9_womenMany σ  = some (τ, x)) : CtI l yX9_womenMany cX9_womenMany 5 (some .int) 1 22 (vM a D tI tJ tB zz) σ [.ref (a 0)] τ x := g_metI (by decide) (Nat.le_of_ble_eq_true rfl) rfl (fun X _ hX hR => sX9_womenMany (r := (τ, x)) hX hR h)
def fX9_count (σ : St) (p1 : Int32) : Option (St × Int32) :=
  (if p1 = 0 then some (σ, (σ.1 0 8)) else (if p1 = 1 then some (σ, (σ.1 0 29)) else (if p1 = 2 then some (σ, (σ.1 0 38)) else (if p1 = 3 then some (σ, (σ.1 0 39)) else (if p1 = 4 then some (σ, (σ.1 0 68)) else (if p1 = 5 then some (σ, (σ.1 0 37)) else (if p1 = 6 then cl (fX9_areReady σ ) fun (σ_1 : St) (t_2 : Int32) => cl (fX9_one σ_1 t_2) fun (σ_3 : St) (t_4 : Int32) => some (σ_3, t_4) else (if p1 = 7 then cl (fX9_weighed σ ) fun (σ_5 : St) (t_6 : Int32) => some (σ_5, t_6) else (if p1 = 8 then cl (fX9_womenMany σ ) fun (σ_7 : St) (t_8 : Int32) => some (σ_7, t_8) else some (σ, (-1 : Int32)))))))))))
set_option maxRecDepth 20000 in
set_option maxHeartbeats 4000000 in
theorem sX9_count {X : CX} {a : Nat → Nat} {D : va_G} {tI tJ tB : ClassId} {zz : SV} {σ : St}  {p1 : Int32} {r : St × Int32} (hX : OKX X (vM a D tI tJ tB zz) cX9_count 2 RX9 11 250) (hR : ∀ (pc : Nat) (lv : List (Nat × Value)), decode cX9_count pc = .ok (.ireturn, 1) → G X (vM a D tI tJ tB zz) 2 r.1 pc lv [.int r.2]) (h : fX9_count σ p1 = some r) : G X (vM a D tI tJ tB zz) 2 σ 0 [(0, .ref (a 0)), (1, .int p1)] [] := by
  unfold fX9_count at h
  refine g_iload_n hX 1 dX9_count_0 rfl rfl ?_
  refine ite_go h (fun hq h => ?_) (fun hs1_0 h => ?_)
  · refine g_tabIn (off := 51) (0) hX 52 hq dX9_count_1 (by decide) (by decide) (by decide) (by decide) ?_
    refine g_aload_n hX 0 dX9_count_52 rfl rfl ?_
    refine gM_284 hX dX9_count_53 ?_
    exact g_reti hR h dX9_count_56
  refine ite_go h (fun hq h => ?_) (fun hs1_1 h => ?_)
  · refine g_tabIn (off := 56) (1) hX 57 hq dX9_count_1 (by decide) (by decide) (by decide) (by decide) ?_
    refine g_aload_n hX 0 dX9_count_57 rfl rfl ?_
    refine gM_130 hX dX9_count_58 ?_
    exact g_reti hR h dX9_count_61
  refine ite_go h (fun hq h => ?_) (fun hs1_2 h => ?_)
  · refine g_tabIn (off := 61) (2) hX 62 hq dX9_count_1 (by decide) (by decide) (by decide) (by decide) ?_
    refine g_aload_n hX 0 dX9_count_62 rfl rfl ?_
    refine gM_278 hX dX9_count_63 ?_
    exact g_reti hR h dX9_count_66
  refine ite_go h (fun hq h => ?_) (fun hs1_3 h => ?_)
  · refine g_tabIn (off := 66) (3) hX 67 hq dX9_count_1 (by decide) (by decide) (by decide) (by decide) ?_
    refine g_aload_n hX 0 dX9_count_67 rfl rfl ?_
    refine gM_67 hX dX9_count_68 ?_
    exact g_reti hR h dX9_count_71
  refine ite_go h (fun hq h => ?_) (fun hs1_4 h => ?_)
  · refine g_tabIn (off := 71) (4) hX 72 hq dX9_count_1 (by decide) (by decide) (by decide) (by decide) ?_
    refine g_aload_n hX 0 dX9_count_72 rfl rfl ?_
    refine gM_281 hX dX9_count_73 ?_
    exact g_reti hR h dX9_count_76
  refine ite_go h (fun hq h => ?_) (fun hs1_5 h => ?_)
  · refine g_tabIn (off := 76) (5) hX 77 hq dX9_count_1 (by decide) (by decide) (by decide) (by decide) ?_
    refine g_aload_n hX 0 dX9_count_77 rfl rfl ?_
    refine gM_275 hX dX9_count_78 ?_
    exact g_reti hR h dX9_count_81
  refine ite_go h (fun hq h => ?_) (fun hs1_6 h => ?_)
  · refine g_tabIn (off := 81) (6) hX 82 hq dX9_count_1 (by decide) (by decide) (by decide) (by decide) ?_
    refine g_aload_n hX 0 dX9_count_82 rfl rfl ?_
    refine g_callVI (As := []) (rest := []) hX 0 (Nat.le_of_ble_eq_true rfl) rfl rfl miX9_areReady mvX9_areReady lkX9_367 (by decide) rfl (Nat.le_of_ble_eq_true rfl) rfl dX9_count_83 (fun τ x ho => kX9_areReady _ ho) h (fun σ_1 t_2 h => ?_)
    refine g_callSI (As := [.int t_2]) (rest := []) hX miX9_one mvX9_one lkX9_472 (by decide) rfl (Nat.le_of_ble_eq_true rfl) rfl dX9_count_86 (fun τ x ho => kX9_one _ ho) h (fun σ_3 t_4 h => ?_)
    exact g_reti hR h dX9_count_89
  refine ite_go h (fun hq h => ?_) (fun hs1_7 h => ?_)
  · refine g_tabIn (off := 89) (7) hX 90 hq dX9_count_1 (by decide) (by decide) (by decide) (by decide) ?_
    refine g_aload_n hX 0 dX9_count_90 rfl rfl ?_
    refine g_callVI (As := []) (rest := []) hX 0 (Nat.le_of_ble_eq_true rfl) rfl rfl miX9_weighed mvX9_weighed lkX9_476 (by decide) rfl (Nat.le_of_ble_eq_true rfl) rfl dX9_count_91 (fun τ x ho => kX9_weighed _ ho) h (fun σ_5 t_6 h => ?_)
    exact g_reti hR h dX9_count_94
  refine ite_go h (fun hq h => ?_) (fun hs1_8 h => ?_)
  · refine g_tabIn (off := 94) (8) hX 95 hq dX9_count_1 (by decide) (by decide) (by decide) (by decide) ?_
    refine g_aload_n hX 0 dX9_count_95 rfl rfl ?_
    refine g_callVI (As := []) (rest := []) hX 0 (Nat.le_of_ble_eq_true rfl) rfl rfl miX9_womenMany mvX9_womenMany lkX9_479 (by decide) rfl (Nat.le_of_ble_eq_true rfl) rfl dX9_count_96 (fun τ x ho => kX9_womenMany _ ho) h (fun σ_7 t_8 h => ?_)
    exact g_reti hR h dX9_count_99
  refine g_tabOut hX 100 dX9_count_1 (by have k0 := sw_ne hs1_0 (n := 0) (by decide); have k1 := sw_ne hs1_1 (n := 1) (by decide); have k2 := sw_ne hs1_2 (n := 2) (by decide); have k3 := sw_ne hs1_3 (n := 3) (by decide); have k4 := sw_ne hs1_4 (n := 4) (by decide); have k5 := sw_ne hs1_5 (n := 5) (by decide); have k6 := sw_ne hs1_6 (n := 6) (by decide); have k7 := sw_ne hs1_7 (n := 7) (by decide); have k8 := sw_ne hs1_8 (n := 8) (by decide); omega) (by decide) ?_
  refine g_iconst hX (-1) dX9_count_100 (by decide) ?_
  exact g_reti hR h dX9_count_101
set_option maxRecDepth 20000 in
set_option maxHeartbeats 4000000 in
theorem kX9_count (l : Launch) {a : Nat → Nat} {D : va_G} {tI tJ tB : ClassId} {zz : SV} {σ τ : St}  {p1 : Int32} {x : Int32} (h : fX9_count σ p1 = some (τ, x)) : CtI l yX9_count cX9_count 2 (some .int) 11 250 (vM a D tI tJ tB zz) σ [.ref (a 0), .int p1] τ x := g_metI (by decide) (Nat.le_of_ble_eq_true rfl) rfl (fun X _ hX hR => sX9_count (r := (τ, x)) hX hR h)
