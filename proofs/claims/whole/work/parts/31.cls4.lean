def fX4_strike_L6 (q1_6 : Int32) (q2_6 : Int32) (q3_6 : Int32) (q4_6 : Int32) (kx6 : St → Int32 → Int32 → Option (St × Unit)) : Nat → St → Int32 → Int32 → Option (St × Unit)
  | 0, _, _, _ => none
  | n6 + 1, σ, c5_6, c6_6 =>
    (if (σ.1 2 0) ≤ c6_6 then kx6 σ c5_6 c6_6 else (jp (fun (σ_3 : St)  (t_4 : Int32) => bnd (c5_6 + t_4) fun (x5_5 : Int32) => bnd (c6_6 + (1 : Int32)) fun (x6_6 : Int32) => fX4_strike_L6 q1_6 q2_6 q3_6 q4_6 kx6 n6 σ_3 x5_5 x6_6) fun j48 => (if c6_6 = q1_6 then j48 σ (0 : Int32) else chk (inb c6_6 4) (chk (inb c6_6 4) (j48 σ ((σ.1 46 (ix c6_6)) * (σ.1 55 (ix c6_6))))))))
def fX4_strike_L64 (q1_64 : Int32) (q2_64 : Int32) (q3_64 : Int32) (q4_64 : Int32) (q5_64 : Int32) (kx64 : St → Int32 → Int32 → Option (St × Unit)) : Nat → St → Int32 → Int32 → Option (St × Unit)
  | 0, _, _, _ => none
  | n64 + 1, σ, c6_64, c7_64 =>
    (if (σ.1 2 2) ≤ c7_64 then kx64 σ c6_64 c7_64 else (jp (fun (σ_12 : St) (x6_13 : Int32)  => bnd (c7_64 + (1 : Int32)) fun (x7_14 : Int32) => fX4_strike_L64 q1_64 q2_64 q3_64 q4_64 q5_64 kx64 n64 σ_12 x6_13 x7_14) fun j116 => (if ((q3_64 >>> (c7_64 &&& 31)) &&& (1 : Int32)) = 0 then j116 σ c6_64 else chk (inb c7_64 8) (chk (inb c7_64 8) (bnd (if c6_64 < ((σ.1 50 (ix c7_64)) - (q4_64 * (σ.1 49 (ix c7_64)))) then ((σ.1 50 (ix c7_64)) - (q4_64 * (σ.1 49 (ix c7_64)))) else c6_64) fun (t_15 : Int32) => bnd t_15 fun (x6_16 : Int32) => j116 σ x6_16)))))
def fX4_strike_L125 (q1_125 : Int32) (q2_125 : Int32) (q3_125 : Int32) (q4_125 : Int32) (q5_125 : Int32) (q6_125 : Int32) (kx125 : St → Int32 → Option (St × Unit)) : Nat → St → Int32 → Option (St × Unit)
  | 0, _, _ => none
  | n125 + 1, σ, c7_125 =>
    (if (σ.1 2 2) ≤ c7_125 then kx125 σ c7_125 else (jp (fun (σ_21 : St)  (t_22 : Int32) => bnd t_22 fun (x8_23 : Int32) => chk (inb q1_125 4) (bnd (q5_125 + (c7_125 * (σ_21.1 55 (ix q1_125)))) fun (x9_24 : Int32) => chk (decide (0 ≤ σ_21.1 54 2147483648)) ((jp (fun (σ_25 : St)   => bnd (c7_125 + (1 : Int32)) fun (x7_26 : Int32) => fX4_strike_L125 q1_125 q2_125 q3_125 q4_125 q5_125 q6_125 kx125 n125 σ_25 x7_26) fun j224 => (if (σ_21.1 54 2147483648) ≤ x9_24 then j224 σ_21 else (jp (fun (σ_27 : St)   => chk (inb x9_24 (ix (σ_27.1 54 2147483648))) (chk (inb x9_24 (ix (σ_27.1 54 2147483648))) (bnd (sI σ_27 54 (ix x9_24) ((σ_27.1 54 (ix x9_24)) &&& (q2_125 ^^^ (-1 : Int32)))) fun (σ_28 : St) => j224 σ_28))) fun j211 => (if x8_23 = 0 then j211 σ_21 else chk (inb c7_125 8) (chk (inb c7_125 8) ((if q6_125 ≤ ((σ_21.1 50 (ix c7_125)) - (q4_125 * (σ_21.1 49 (ix c7_125)))) then j224 σ_21 else j211 σ_21)))))))))) fun j151 => (if ((q3_125 >>> (c7_125 &&& 31)) &&& (1 : Int32)) = 0 then j151 σ (0 : Int32) else j151 σ (1 : Int32))))
def fX4_strike (σ : St) (p1 : Int32) (p2 : Int32) (p3 : Int32) (p4 : Int32) : Option (St × Unit) :=
  bnd (0 : Int32) fun (x5_1 : Int32) => bnd (0 : Int32) fun (x6_2 : Int32) => fX4_strike_L6 p1 p2 p3 p4 (fun (σ_7 : St) (x5_8 : Int32) (x6_9 : Int32) => bnd (-2147483648 : Int32) fun (x6_10 : Int32) => bnd (0 : Int32) fun (x7_11 : Int32) => fX4_strike_L64 p1 p2 p3 p4 x5_8 (fun (σ_17 : St) (x6_18 : Int32) (x7_19 : Int32) => bnd (0 : Int32) fun (x7_20 : Int32) => fX4_strike_L125 p1 p2 p3 p4 x5_8 x6_18 (fun (σ_29 : St) (x7_30 : Int32) => some (σ_29, ())) FU σ_17 x7_20) FU σ_7 x6_10 x7_11) FU σ x5_1 x6_2
set_option maxRecDepth 20000 in
set_option maxHeartbeats 4000000 in
theorem sX4_strike_L6 {X : CX} {a : Nat → Nat} {D : va_G} {tI tJ tB tS : ClassId} {kK kV : Nat → Nat} {q1_6 : Int32} {q2_6 : Int32} {q3_6 : Int32} {q4_6 : Int32} {kx6 : St → Int32 → Int32 → Option (St × Unit)} {r : St × Unit} (hX : OKX X (vC a D tI tJ tB tS kK kV) cX4_strike 10 RX4 1 21) (hR : ∀ (pc : Nat) (lv : List (Nat × Value)), decode cX4_strike pc = .ok (.return_, 1) → G X (vC a D tI tJ tB tS kK kV) 10 r.1 pc lv []) (hkx6 : ∀ (σ : St) (e5_6 : Int32) (e6_6 : Int32), kx6 σ e5_6 e6_6 = some r → G X (vC a D tI tJ tB tS kK kV) 10 σ 57 [(0, .ref (a 53)), (1, .int q1_6), (2, .int q2_6), (3, .int q3_6), (4, .int q4_6), (5, .int e5_6)] []) : ∀ (n : Nat) (σ : St) (c5_6 : Int32) (c6_6 : Int32), fX4_strike_L6 q1_6 q2_6 q3_6 q4_6 kx6 n σ c5_6 c6_6 = some r → G X (vC a D tI tJ tB tS kK kV) 10 σ 6 [(0, .ref (a 53)), (1, .int q1_6), (2, .int q2_6), (3, .int q3_6), (4, .int q4_6), (5, .int c5_6), (6, .int c6_6)] [] := by
  intro n
  induction n with
  | zero => intro σ c5_6 c6_6 h; rw [fX4_strike_L6] at h; exact absurd h (by simp)
  | succ n6 ih6 =>
    intro σ c5_6 c6_6 h
    rw [fX4_strike_L6] at h
    refine g_iload hX 6 dX4_strike_6 rfl ?_
    refine g_aload_n hX 0 dX4_strike_8 rfl rfl ?_
    refine gCX4_9_53 hX dX4_strike_9 ?_
    refine gCX4_106_2 hX dX4_strike_12 ?_
    refine g_icmp_ge hX 57 dX4_strike_15 (by decide) h (fun h => ?_) (fun h => ?_)
    · exact g_sub [0, 1, 2, 3, 4, 5] rfl (hkx6 _ _ _ h)
    · refine g_iload hX 5 dX4_strike_18 rfl ?_
      refine g_iload hX 6 dX4_strike_20 rfl ?_
      refine g_iload_n hX 1 dX4_strike_22 rfl rfl ?_
      refine jp_inv (P := fun f => ∀ (σ_3 : St)  (t_4 : Int32), f σ_3 t_4 = some r → G X (vC a D tI tJ tB tS kK kV) 10 σ_3 48 [(0, .ref (a 53)), (1, .int q1_6), (2, .int q2_6), (3, .int q3_6), (4, .int q4_6), (6, .int c6_6)] [.int t_4, .int c5_6]) h (fun σ_3 t_4 h => ?_) (fun j48 hj48 h => ?_)
      · refine g_iadd hX dX4_strike_48 ?_
        refine g_istore (lv' := fun x5_5 => [(5, .int x5_5), (0, .ref (a 53)), (1, .int q1_6), (2, .int q2_6), (3, .int q3_6), (4, .int q4_6), (6, .int c6_6)]) hX dX4_strike_49 (by decide) (fun _ => rfl) h (fun x5_5 h => ?_)
        refine g_iinc (y := (1)) (lv' := fun x6_6 => [(6, .int x6_6), (5, .int x5_5), (0, .ref (a 53)), (1, .int q1_6), (2, .int q2_6), (3, .int q3_6), (4, .int q4_6)]) hX 6 dX4_strike_51 rfl (by decide) (by decide) (fun _ => rfl) h (fun x6_6 h => ?_)
        refine g_goto hX 6 dX4_strike_54 (by decide) ?_
        exact g_sub [2, 3, 4, 5, 6, 1, 0] rfl (ih6 _ _ _ h)
      refine g_icmp_ne hX 30 dX4_strike_23 (by decide) h (fun h => ?_) (fun h => ?_)
      · refine g_aload_n hX 0 dX4_strike_30 rfl rfl ?_
        refine gCX4_23_53 hX dX4_strike_31 ?_
        refine gCX4_145_43 hX dX4_strike_34 ?_
        refine g_iload hX 6 dX4_strike_37 rfl ?_
        refine alC_46 hX dX4_strike_39 h (fun h => ?_)
        refine g_aload_n hX 0 dX4_strike_40 rfl rfl ?_
        refine gCX4_31_53 hX dX4_strike_41 ?_
        refine g_iload hX 6 dX4_strike_44 rfl ?_
        refine alC_55 hX dX4_strike_46 h (fun h => ?_)
        refine g_imul hX dX4_strike_47 ?_
        exact g_sub [0, 1, 2, 3, 4, 6] rfl (hj48 _ _ h)
      · refine g_iconst hX (0) dX4_strike_26 (by decide) ?_
        refine g_goto hX 48 dX4_strike_27 (by decide) ?_
        exact g_sub [0, 1, 2, 3, 4, 6] rfl (hj48 _ _ h)
set_option maxRecDepth 20000 in
set_option maxHeartbeats 4000000 in
theorem sX4_strike_L64 {X : CX} {a : Nat → Nat} {D : va_G} {tI tJ tB tS : ClassId} {kK kV : Nat → Nat} {q1_64 : Int32} {q2_64 : Int32} {q3_64 : Int32} {q4_64 : Int32} {q5_64 : Int32} {kx64 : St → Int32 → Int32 → Option (St × Unit)} {r : St × Unit} (hX : OKX X (vC a D tI tJ tB tS kK kV) cX4_strike 10 RX4 1 21) (hR : ∀ (pc : Nat) (lv : List (Nat × Value)), decode cX4_strike pc = .ok (.return_, 1) → G X (vC a D tI tJ tB tS kK kV) 10 r.1 pc lv []) (hkx64 : ∀ (σ : St) (e6_64 : Int32) (e7_64 : Int32), kx64 σ e6_64 e7_64 = some r → G X (vC a D tI tJ tB tS kK kV) 10 σ 122 [(0, .ref (a 53)), (1, .int q1_64), (2, .int q2_64), (3, .int q3_64), (4, .int q4_64), (5, .int q5_64), (6, .int e6_64)] []) : ∀ (n : Nat) (σ : St) (c6_64 : Int32) (c7_64 : Int32), fX4_strike_L64 q1_64 q2_64 q3_64 q4_64 q5_64 kx64 n σ c6_64 c7_64 = some r → G X (vC a D tI tJ tB tS kK kV) 10 σ 64 [(0, .ref (a 53)), (1, .int q1_64), (2, .int q2_64), (3, .int q3_64), (4, .int q4_64), (5, .int q5_64), (6, .int c6_64), (7, .int c7_64)] [] := by
  intro n
  induction n with
  | zero => intro σ c6_64 c7_64 h; rw [fX4_strike_L64] at h; exact absurd h (by simp)
  | succ n64 ih64 =>
    intro σ c6_64 c7_64 h
    rw [fX4_strike_L64] at h
    refine g_iload hX 7 dX4_strike_64 rfl ?_
    refine g_aload_n hX 0 dX4_strike_66 rfl rfl ?_
    refine gCX4_9_53 hX dX4_strike_67 ?_
    refine gCX4_92_2 hX dX4_strike_70 ?_
    refine g_icmp_ge hX 122 dX4_strike_73 (by decide) h (fun h => ?_) (fun h => ?_)
    · exact g_sub [0, 1, 2, 3, 4, 5, 6] rfl (hkx64 _ _ _ h)
    · refine g_iload_n hX 3 dX4_strike_76 rfl rfl ?_
      refine g_iload hX 7 dX4_strike_77 rfl ?_
      refine g_ishr hX dX4_strike_79 ?_
      refine g_iconst hX (1) dX4_strike_80 (by decide) ?_
      refine g_iand hX dX4_strike_81 ?_
      refine jp_inv (P := fun f => ∀ (σ_12 : St) (x6_13 : Int32) , f σ_12 x6_13 = some r → G X (vC a D tI tJ tB tS kK kV) 10 σ_12 116 [(0, .ref (a 53)), (1, .int q1_64), (2, .int q2_64), (3, .int q3_64), (4, .int q4_64), (5, .int q5_64), (7, .int c7_64), (6, .int x6_13)] []) h (fun σ_12 x6_13 h => ?_) (fun j116 hj116 h => ?_)
      · refine g_iinc (y := (1)) (lv' := fun x7_14 => [(7, .int x7_14), (0, .ref (a 53)), (1, .int q1_64), (2, .int q2_64), (3, .int q3_64), (4, .int q4_64), (5, .int q5_64), (6, .int x6_13)]) hX 6 dX4_strike_116 rfl (by decide) (by decide) (fun _ => rfl) h (fun x7_14 h => ?_)
        refine g_goto hX 64 dX4_strike_119 (by decide) ?_
        exact g_sub [1, 2, 3, 4, 5, 6, 7, 0] rfl (ih64 _ _ _ h)
      refine g_if_eq hX 116 dX4_strike_82 (by decide) h (fun h => ?_) (fun h => ?_)
      · exact g_sub [0, 1, 2, 3, 4, 5, 7, 6] rfl (hj116 _ _ h)
      · refine g_iload hX 6 dX4_strike_85 rfl ?_
        refine g_aload_n hX 0 dX4_strike_87 rfl rfl ?_
        refine gCX4_23_53 hX dX4_strike_88 ?_
        refine gCX4_151_43 hX dX4_strike_91 ?_
        refine g_iload hX 7 dX4_strike_94 rfl ?_
        refine alC_50 hX dX4_strike_96 h (fun h => ?_)
        refine g_iload hX 4 dX4_strike_97 rfl ?_
        refine g_aload_n hX 0 dX4_strike_99 rfl rfl ?_
        refine gCX4_23_53 hX dX4_strike_100 ?_
        refine gCX4_154_43 hX dX4_strike_103 ?_
        refine g_iload hX 7 dX4_strike_106 rfl ?_
        refine alC_49 hX dX4_strike_108 h (fun h => ?_)
        refine g_imul hX dX4_strike_109 ?_
        refine g_isub hX dX4_strike_110 ?_
        refine g_mmax hX lkX4_157 mathS_maxI mathI mathC_maxI (by decide) (by decide) (Nat.le_of_ble_eq_true rfl) dX4_strike_111 h (fun t_15 h => ?_)
        refine g_istore (lv' := fun x6_16 => [(6, .int x6_16), (0, .ref (a 53)), (1, .int q1_64), (2, .int q2_64), (3, .int q3_64), (4, .int q4_64), (5, .int q5_64), (7, .int c7_64)]) hX dX4_strike_114 (by decide) (fun _ => rfl) h (fun x6_16 h => ?_)
        exact g_sub [1, 2, 3, 4, 5, 6, 7, 0] rfl (hj116 _ _ h)
set_option maxRecDepth 20000 in
set_option maxHeartbeats 4000000 in
theorem sX4_strike_L125 {X : CX} {a : Nat → Nat} {D : va_G} {tI tJ tB tS : ClassId} {kK kV : Nat → Nat} {q1_125 : Int32} {q2_125 : Int32} {q3_125 : Int32} {q4_125 : Int32} {q5_125 : Int32} {q6_125 : Int32} {kx125 : St → Int32 → Option (St × Unit)} {r : St × Unit} (hX : OKX X (vC a D tI tJ tB tS kK kV) cX4_strike 10 RX4 1 21) (hR : ∀ (pc : Nat) (lv : List (Nat × Value)), decode cX4_strike pc = .ok (.return_, 1) → G X (vC a D tI tJ tB tS kK kV) 10 r.1 pc lv []) (hkx125 : ∀ (σ : St) (e7_125 : Int32), kx125 σ e7_125 = some r → G X (vC a D tI tJ tB tS kK kV) 10 σ 230 [] []) : ∀ (n : Nat) (σ : St) (c7_125 : Int32), fX4_strike_L125 q1_125 q2_125 q3_125 q4_125 q5_125 q6_125 kx125 n σ c7_125 = some r → G X (vC a D tI tJ tB tS kK kV) 10 σ 125 [(0, .ref (a 53)), (1, .int q1_125), (2, .int q2_125), (3, .int q3_125), (4, .int q4_125), (5, .int q5_125), (6, .int q6_125), (7, .int c7_125)] [] := by
  intro n
  induction n with
  | zero => intro σ c7_125 h; rw [fX4_strike_L125] at h; exact absurd h (by simp)
  | succ n125 ih125 =>
    intro σ c7_125 h
    rw [fX4_strike_L125] at h
    refine g_iload hX 7 dX4_strike_125 rfl ?_
    refine g_aload_n hX 0 dX4_strike_127 rfl rfl ?_
    refine gCX4_9_53 hX dX4_strike_128 ?_
    refine gCX4_92_2 hX dX4_strike_131 ?_
    refine g_icmp_ge hX 230 dX4_strike_134 (by decide) h (fun h => ?_) (fun h => ?_)
    · exact g_sub [] rfl (hkx125 _ _ h)
    · refine g_iload_n hX 3 dX4_strike_137 rfl rfl ?_
      refine g_iload hX 7 dX4_strike_138 rfl ?_
      refine g_ishr hX dX4_strike_140 ?_
      refine g_iconst hX (1) dX4_strike_141 (by decide) ?_
      refine g_iand hX dX4_strike_142 ?_
      refine jp_inv (P := fun f => ∀ (σ_21 : St)  (t_22 : Int32), f σ_21 t_22 = some r → G X (vC a D tI tJ tB tS kK kV) 10 σ_21 151 [(0, .ref (a 53)), (1, .int q1_125), (2, .int q2_125), (3, .int q3_125), (4, .int q4_125), (5, .int q5_125), (6, .int q6_125), (7, .int c7_125)] [.int t_22]) h (fun σ_21 t_22 h => ?_) (fun j151 hj151 h => ?_)
      · refine g_istore (lv' := fun x8_23 => [(8, .int x8_23), (0, .ref (a 53)), (1, .int q1_125), (2, .int q2_125), (3, .int q3_125), (4, .int q4_125), (5, .int q5_125), (6, .int q6_125), (7, .int c7_125)]) hX dX4_strike_151 (by decide) (fun _ => rfl) h (fun x8_23 h => ?_)
        refine g_iload hX 6 dX4_strike_153 rfl ?_
        refine g_iload hX 8 dX4_strike_155 rfl ?_
        refine g_aload_n hX 1 dX4_strike_157 rfl rfl ?_
        refine gCX4_31_53 hX dX4_strike_158 ?_
        refine g_iload_n hX 2 dX4_strike_161 rfl rfl ?_
        refine alC_55 hX dX4_strike_162 h (fun h => ?_)
        refine g_imul hX dX4_strike_163 ?_
        refine g_iadd hX dX4_strike_164 ?_
        refine g_istore (lv' := fun x9_24 => [(9, .int x9_24), (8, .int x8_23), (0, .ref (a 53)), (1, .int q1_125), (2, .int q2_125), (3, .int q3_125), (4, .int q4_125), (5, .int q5_125), (6, .int q6_125), (7, .int c7_125)]) hX dX4_strike_165 (by decide) (fun _ => rfl) h (fun x9_24 h => ?_)
        refine g_iload hX 0 dX4_strike_167 rfl ?_
        refine g_aload_n hX 2 dX4_strike_169 rfl rfl ?_
        refine gCX4_27_53 hX dX4_strike_170 ?_
        refine lenC_54 hX dX4_strike_173 h (fun h => ?_)
        refine jp_inv (P := fun f => ∀ (σ_25 : St)  , f σ_25 = some r → G X (vC a D tI tJ tB tS kK kV) 10 σ_25 224 [(0, .ref (a 53)), (1, .int q1_125), (2, .int q2_125), (3, .int q3_125), (4, .int q4_125), (5, .int q5_125), (6, .int q6_125), (7, .int c7_125)] []) h (fun σ_25 h => ?_) (fun j224 hj224 h => ?_)
        · refine g_iinc (y := (1)) (lv' := fun x7_26 => [(7, .int x7_26), (0, .ref (a 53)), (1, .int q1_125), (2, .int q2_125), (3, .int q3_125), (4, .int q4_125), (5, .int q5_125), (6, .int q6_125)]) hX 7 dX4_strike_224 rfl (by decide) (by decide) (fun _ => rfl) h (fun x7_26 h => ?_)
          refine g_goto hX 125 dX4_strike_227 (by decide) ?_
          exact g_sub [1, 2, 3, 4, 5, 6, 7, 0] rfl (ih125 _ _ h)
        refine g_icmp_ge hX 224 dX4_strike_174 (by decide) h (fun h => ?_) (fun h => ?_)
        · exact g_sub [2, 3, 4, 5, 6, 7, 8, 9] rfl (hj224 _ h)
        · refine g_iload hX 1 dX4_strike_177 rfl ?_
          refine jp_inv (P := fun f => ∀ (σ_27 : St)  , f σ_27 = some r → G X (vC a D tI tJ tB tS kK kV) 10 σ_27 211 [(9, .int x9_24), (0, .ref (a 53)), (1, .int q1_125), (2, .int q2_125), (3, .int q3_125), (4, .int q4_125), (5, .int q5_125), (6, .int q6_125), (7, .int c7_125)] []) h (fun σ_27 h => ?_) (fun j211 hj211 h => ?_)
          · refine g_aload_n hX 1 dX4_strike_211 rfl rfl ?_
            refine gCX4_27_53 hX dX4_strike_212 ?_
            refine g_iload hX 0 dX4_strike_215 rfl ?_
            refine g_dup2 hX dX4_strike_217 rfl rfl ?_
            refine alC_54 hX dX4_strike_218 h (fun h => ?_)
            refine g_iload_n hX 3 dX4_strike_219 rfl rfl ?_
            refine g_iconst hX (-1) dX4_strike_220 (by decide) ?_
            refine g_ixor hX dX4_strike_221 ?_
            refine g_iand hX dX4_strike_222 ?_
            refine asC_54 hX dX4_strike_223 h (fun σ_28 h => ?_)
            exact g_sub [1, 2, 3, 4, 5, 6, 7, 8] rfl (hj224 _ h)
          refine g_if_eq hX 211 dX4_strike_179 (by decide) h (fun h => ?_) (fun h => ?_)
          · exact g_sub [0, 2, 3, 4, 5, 6, 7, 8, 9] rfl (hj211 _ h)
          · refine g_aload_n hX 2 dX4_strike_182 rfl rfl ?_
            refine gCX4_23_53 hX dX4_strike_183 ?_
            refine gCX4_151_43 hX dX4_strike_186 ?_
            refine g_iload hX 9 dX4_strike_189 rfl ?_
            refine alC_50 hX dX4_strike_191 h (fun h => ?_)
            refine g_iload hX 6 dX4_strike_192 rfl ?_
            refine g_aload_n hX 2 dX4_strike_194 rfl rfl ?_
            refine gCX4_23_53 hX dX4_strike_195 ?_
            refine gCX4_154_43 hX dX4_strike_198 ?_
            refine g_iload hX 9 dX4_strike_201 rfl ?_
            refine alC_49 hX dX4_strike_203 h (fun h => ?_)
            refine g_imul hX dX4_strike_204 ?_
            refine g_isub hX dX4_strike_205 ?_
            refine g_iload hX 8 dX4_strike_206 rfl ?_
            refine g_icmp_ge hX 224 dX4_strike_208 (by decide) h (fun h => ?_) (fun h => ?_)
            · exact g_sub [2, 3, 4, 5, 6, 7, 8, 9] rfl (hj224 _ h)
            · exact g_sub [0, 2, 3, 4, 5, 6, 7, 8, 9] rfl (hj211 _ h)
      refine g_if_eq hX 150 dX4_strike_143 (by decide) h (fun h => ?_) (fun h => ?_)
      · refine g_iconst hX (0) dX4_strike_150 (by decide) ?_
        exact g_sub [0, 1, 2, 3, 4, 5, 6, 7] rfl (hj151 _ _ h)
      · refine g_iconst hX (1) dX4_strike_146 (by decide) ?_
        refine g_goto hX 151 dX4_strike_147 (by decide) ?_
        exact g_sub [0, 1, 2, 3, 4, 5, 6, 7] rfl (hj151 _ _ h)
set_option maxRecDepth 20000 in
set_option maxHeartbeats 4000000 in
theorem sX4_strike {X : CX} {a : Nat → Nat} {D : va_G} {tI tJ tB tS : ClassId} {kK kV : Nat → Nat} {σ : St}  {p1 : Int32} {p2 : Int32} {p3 : Int32} {p4 : Int32} {r : St × Unit} (hX : OKX X (vC a D tI tJ tB tS kK kV) cX4_strike 10 RX4 1 21) (hR : ∀ (pc : Nat) (lv : List (Nat × Value)), decode cX4_strike pc = .ok (.return_, 1) → G X (vC a D tI tJ tB tS kK kV) 10 r.1 pc lv [])  (h : fX4_strike σ p1 p2 p3 p4 = some r) : G X (vC a D tI tJ tB tS kK kV) 10 σ 0 [(0, .ref (a 53)), (1, .int p1), (2, .int p2), (3, .int p3), (4, .int p4)] [] := by
  unfold fX4_strike at h
  refine g_iconst hX (0) dX4_strike_0 (by decide) ?_
  refine g_istore (lv' := fun x5_1 => [(5, .int x5_1), (0, .ref (a 53)), (1, .int p1), (2, .int p2), (3, .int p3), (4, .int p4)]) hX dX4_strike_1 (by decide) (fun _ => rfl) h (fun x5_1 h => ?_)
  refine g_iconst hX (0) dX4_strike_3 (by decide) ?_
  refine g_istore (lv' := fun x6_2 => [(6, .int x6_2), (5, .int x5_1), (0, .ref (a 53)), (1, .int p1), (2, .int p2), (3, .int p3), (4, .int p4)]) hX dX4_strike_4 (by decide) (fun _ => rfl) h (fun x6_2 h => ?_)
  refine g_sub [2, 3, 4, 5, 6, 1, 0] rfl (sX4_strike_L6 hX hR (fun σ_7 x5_8 x6_9 h => ?_) FU _ _ _ h)
  refine g_ldc hX lkX4_150 dX4_strike_57 ?_
  refine g_istore (lv' := fun x6_10 => [(6, .int x6_10), (0, .ref (a 53)), (1, .int p1), (2, .int p2), (3, .int p3), (4, .int p4), (5, .int x5_8)]) hX dX4_strike_59 (by decide) (fun _ => rfl) h (fun x6_10 h => ?_)
  refine g_iconst hX (0) dX4_strike_61 (by decide) ?_
  refine g_istore (lv' := fun x7_11 => [(7, .int x7_11), (6, .int x6_10), (0, .ref (a 53)), (1, .int p1), (2, .int p2), (3, .int p3), (4, .int p4), (5, .int x5_8)]) hX dX4_strike_62 (by decide) (fun _ => rfl) h (fun x7_11 h => ?_)
  refine g_sub [2, 3, 4, 5, 6, 7, 1, 0] rfl (sX4_strike_L64 hX hR (fun σ_17 x6_18 x7_19 h => ?_) FU _ _ _ h)
  refine g_iconst hX (0) dX4_strike_122 (by decide) ?_
  refine g_istore (lv' := fun x7_20 => [(7, .int x7_20), (0, .ref (a 53)), (1, .int p1), (2, .int p2), (3, .int p3), (4, .int p4), (5, .int x5_8), (6, .int x6_18)]) hX dX4_strike_123 (by decide) (fun _ => rfl) h (fun x7_20 h => ?_)
  refine g_sub [1, 2, 3, 4, 5, 6, 7, 0] rfl (sX4_strike_L125 hX hR (fun σ_29 x7_30 h => ?_) FU _ _ h)
  exact g_retv hR h dX4_strike_230
set_option maxRecDepth 20000 in
set_option maxHeartbeats 4000000 in
theorem kX4_strike (l : Launch) {a : Nat → Nat} {D : va_G} {tI tJ tB tS : ClassId} {kK kV : Nat → Nat} {σ τ : St}  {p1 : Int32} {p2 : Int32} {p3 : Int32} {p4 : Int32} {x : Unit} (h : fX4_strike σ p1 p2 p3 p4 = some (τ, x)) : CtV l yX4_strike cX4_strike 10 none 1 21 (vC a D tI tJ tB tS kK kV) σ [.ref (a 53), .int p1, .int p2, .int p3, .int p4] τ x := g_metV (by decide) (Nat.le_of_ble_eq_true rfl) rfl (fun X _ hX hR => sX4_strike (r := (τ, x)) hX hR h)
def fX4_strikeCases_L39 (q1_39 : Int32) (q2_39 : Int32) (q3_39 : Int32) (kx39 : St → Int32 → Option (St × Unit)) : Nat → St → Int32 → Option (St × Unit)
  | 0, _, _ => none
  | n39 + 1, σ, c4_39 =>
    (if q2_39 ≤ c4_39 then kx39 σ c4_39 else chk (inb c4_39 21) (chk (inb q1_39 4) ((jp (fun (σ_3 : St)  (t_4 : Int32) => cl (fX4_strike σ_3 q1_39 ((1 : Int32) <<< (c4_39 &&& 31)) (σ.1 56 (ix c4_39)) ((σ.1 25 (ix q1_39)) + t_4)) fun (σ_5 : St) (t_6 : Unit) => bnd (c4_39 + (1 : Int32)) fun (x4_7 : Int32) => fX4_strikeCases_L39 q1_39 q2_39 q3_39 kx39 n39 σ_5 x4_7) fun j78 => (if q3_39 = q1_39 then j78 σ c4_39 else j78 σ (0 : Int32))))))
def fX4_strikeCases (σ : St) (p1 : Int32) (p2 : Int32) (p3 : Int32) : Option (St × Unit) :=
  (jp (fun (σ_1 : St)   => bnd (0 : Int32) fun (x4_2 : Int32) => fX4_strikeCases_L39 p1 p2 p3 (fun (σ_8 : St) (x4_9 : Int32) => some (σ_8, ())) FU σ_1 x4_2) fun j36 => (if p3 = (-1 : Int32) then j36 σ else (if p3 = p1 then j36 σ else chk (inb (0 : Int32) 21) (chk (inb p1 4) (cl (fX4_strike σ p1 (((1 : Int32) <<< (p2 &&& 31)) - (1 : Int32)) (σ.1 56 (ix (0 : Int32))) (σ.1 25 (ix p1))) fun (σ_10 : St) (t_11 : Unit) => some (σ_10, ()))))))
set_option maxRecDepth 20000 in
set_option maxHeartbeats 4000000 in
theorem sX4_strikeCases_L39 {X : CX} {a : Nat → Nat} {D : va_G} {tI tJ tB tS : ClassId} {kK kV : Nat → Nat} {q1_39 : Int32} {q2_39 : Int32} {q3_39 : Int32} {kx39 : St → Int32 → Option (St × Unit)} {r : St × Unit} (hX : OKX X (vC a D tI tJ tB tS kK kV) cX4_strikeCases 5 RX4 2 50) (hR : ∀ (pc : Nat) (lv : List (Nat × Value)), decode cX4_strikeCases pc = .ok (.return_, 1) → G X (vC a D tI tJ tB tS kK kV) 5 r.1 pc lv []) (hkx39 : ∀ (σ : St) (e4_39 : Int32), kx39 σ e4_39 = some r → G X (vC a D tI tJ tB tS kK kV) 5 σ 88 [] []) : ∀ (n : Nat) (σ : St) (c4_39 : Int32), fX4_strikeCases_L39 q1_39 q2_39 q3_39 kx39 n σ c4_39 = some r → G X (vC a D tI tJ tB tS kK kV) 5 σ 39 [(0, .ref (a 53)), (1, .int q1_39), (2, .int q2_39), (3, .int q3_39), (4, .int c4_39)] [] := by
  intro n
  induction n with
  | zero => intro σ c4_39 h; rw [fX4_strikeCases_L39] at h; exact absurd h (by simp)
  | succ n39 ih39 =>
    intro σ c4_39 h
    rw [fX4_strikeCases_L39] at h
    refine g_iload hX 4 dX4_strikeCases_39 rfl ?_
    refine g_iload_n hX 2 dX4_strikeCases_41 rfl rfl ?_
    refine g_icmp_ge hX 88 dX4_strikeCases_42 (by decide) h (fun h => ?_) (fun h => ?_)
    · exact g_sub [] rfl (hkx39 _ _ h)
    · refine g_aload_n hX 0 dX4_strikeCases_45 rfl rfl ?_
      refine g_iload_n hX 1 dX4_strikeCases_46 rfl rfl ?_
      refine g_iconst hX (1) dX4_strikeCases_47 (by decide) ?_
      refine g_iload hX 4 dX4_strikeCases_48 rfl ?_
      refine g_ishl hX dX4_strikeCases_50 ?_
      refine g_aload_n hX 0 dX4_strikeCases_51 rfl rfl ?_
      refine gCX4_34_53 hX dX4_strikeCases_52 ?_
      refine g_iload hX 4 dX4_strikeCases_55 rfl ?_
      refine alC_56 hX dX4_strikeCases_57 h (fun h => ?_)
      refine g_aload_n hX 0 dX4_strikeCases_58 rfl rfl ?_
      refine gCX4_15_53 hX dX4_strikeCases_59 ?_
      refine gCX4_65_22 hX dX4_strikeCases_62 ?_
      refine g_iload_n hX 1 dX4_strikeCases_65 rfl rfl ?_
      refine alC_25 hX dX4_strikeCases_66 h (fun h => ?_)
      refine g_iload_n hX 3 dX4_strikeCases_67 rfl rfl ?_
      refine g_iload_n hX 1 dX4_strikeCases_68 rfl rfl ?_
      refine jp_inv (P := fun f => ∀ (σ_3 : St)  (t_4 : Int32), f σ_3 t_4 = some r → G X (vC a D tI tJ tB tS kK kV) 5 σ_3 78 [(0, .ref (a 53)), (1, .int q1_39), (2, .int q2_39), (3, .int q3_39), (4, .int c4_39)] [.int t_4, .int (σ.1 25 (ix q1_39)), .int (σ.1 56 (ix c4_39)), .int ((1 : Int32) <<< (c4_39 &&& 31)), .int q1_39, .ref (a 53)]) h (fun σ_3 t_4 h => ?_) (fun j78 hj78 h => ?_)
      · refine g_iadd hX dX4_strikeCases_78 ?_
        refine g_callVV (As := [.int q1_39, .int ((1 : Int32) <<< (c4_39 &&& 31)), .int (σ.1 56 (ix c4_39)), .int ((σ.1 25 (ix q1_39)) + t_4)]) (rest := []) hX 53 (Nat.le_of_ble_eq_true rfl) rfl rfl miX4_strike mvX4_strike lkX4_141 (by decide) rfl (Nat.le_of_ble_eq_true rfl) rfl dX4_strikeCases_79 (fun τ x ho => kX4_strike _ ho) h (fun σ_5 t_6 h => ?_)
        refine g_iinc (y := (1)) (lv' := fun x4_7 => [(4, .int x4_7), (0, .ref (a 53)), (1, .int q1_39), (2, .int q2_39), (3, .int q3_39)]) hX 4 dX4_strikeCases_82 rfl (by decide) (by decide) (fun _ => rfl) h (fun x4_7 h => ?_)
        refine g_goto hX 39 dX4_strikeCases_85 (by decide) ?_
        exact g_sub [1, 2, 3, 4, 0] rfl (ih39 _ _ h)
      refine g_icmp_ne hX 77 dX4_strikeCases_69 (by decide) h (fun h => ?_) (fun h => ?_)
      · refine g_iconst hX (0) dX4_strikeCases_77 (by decide) ?_
        exact g_sub [0, 1, 2, 3, 4] rfl (hj78 _ _ h)
      · refine g_iload hX 4 dX4_strikeCases_72 rfl ?_
        refine g_goto hX 78 dX4_strikeCases_74 (by decide) ?_
        exact g_sub [0, 1, 2, 3, 4] rfl (hj78 _ _ h)
set_option maxRecDepth 20000 in
set_option maxHeartbeats 4000000 in
theorem sX4_strikeCases {X : CX} {a : Nat → Nat} {D : va_G} {tI tJ tB tS : ClassId} {kK kV : Nat → Nat} {σ : St}  {p1 : Int32} {p2 : Int32} {p3 : Int32} {r : St × Unit} (hX : OKX X (vC a D tI tJ tB tS kK kV) cX4_strikeCases 5 RX4 2 50) (hR : ∀ (pc : Nat) (lv : List (Nat × Value)), decode cX4_strikeCases pc = .ok (.return_, 1) → G X (vC a D tI tJ tB tS kK kV) 5 r.1 pc lv [])  (h : fX4_strikeCases σ p1 p2 p3 = some r) : G X (vC a D tI tJ tB tS kK kV) 5 σ 0 [(0, .ref (a 53)), (1, .int p1), (2, .int p2), (3, .int p3)] [] := by
  unfold fX4_strikeCases at h
  refine g_iload_n hX 3 dX4_strikeCases_0 rfl rfl ?_
  refine g_iconst hX (-1) dX4_strikeCases_1 (by decide) ?_
  refine jp_inv (P := fun f => ∀ (σ_1 : St)  , f σ_1 = some r → G X (vC a D tI tJ tB tS kK kV) 5 σ_1 36 [(0, .ref (a 53)), (1, .int p1), (2, .int p2), (3, .int p3)] []) h (fun σ_1 h => ?_) (fun j36 hj36 h => ?_)
  · refine g_iconst hX (0) dX4_strikeCases_36 (by decide) ?_
    refine g_istore (lv' := fun x4_2 => [(4, .int x4_2), (0, .ref (a 53)), (1, .int p1), (2, .int p2), (3, .int p3)]) hX dX4_strikeCases_37 (by decide) (fun _ => rfl) h (fun x4_2 h => ?_)
    refine g_sub [1, 2, 3, 4, 0] rfl (sX4_strikeCases_L39 hX hR (fun σ_8 x4_9 h => ?_) FU _ _ h)
    exact g_retv hR h dX4_strikeCases_88
  refine g_icmp_eq hX 36 dX4_strikeCases_2 (by decide) h (fun h => ?_) (fun h => ?_)
  · exact g_sub [0, 1, 2, 3] rfl (hj36 _ h)
  · refine g_iload_n hX 3 dX4_strikeCases_5 rfl rfl ?_
    refine g_iload_n hX 1 dX4_strikeCases_6 rfl rfl ?_
    refine g_icmp_eq hX 36 dX4_strikeCases_7 (by decide) h (fun h => ?_) (fun h => ?_)
    · exact g_sub [0, 1, 2, 3] rfl (hj36 _ h)
    · refine g_aload_n hX 0 dX4_strikeCases_10 rfl rfl ?_
      refine g_iload_n hX 1 dX4_strikeCases_11 rfl rfl ?_
      refine g_iconst hX (1) dX4_strikeCases_12 (by decide) ?_
      refine g_iload_n hX 2 dX4_strikeCases_13 rfl rfl ?_
      refine g_ishl hX dX4_strikeCases_14 ?_
      refine g_iconst hX (1) dX4_strikeCases_15 (by decide) ?_
      refine g_isub hX dX4_strikeCases_16 ?_
      refine g_aload_n hX 0 dX4_strikeCases_17 rfl rfl ?_
      refine gCX4_34_53 hX dX4_strikeCases_18 ?_
      refine g_iconst hX (0) dX4_strikeCases_21 (by decide) ?_
      refine alC_56 hX dX4_strikeCases_22 h (fun h => ?_)
      refine g_aload_n hX 0 dX4_strikeCases_23 rfl rfl ?_
      refine gCX4_15_53 hX dX4_strikeCases_24 ?_
      refine gCX4_65_22 hX dX4_strikeCases_27 ?_
      refine g_iload_n hX 1 dX4_strikeCases_30 rfl rfl ?_
      refine alC_25 hX dX4_strikeCases_31 h (fun h => ?_)
      refine g_callVV (As := [.int p1, .int (((1 : Int32) <<< (p2 &&& 31)) - (1 : Int32)), .int (σ.1 56 (ix (0 : Int32))), .int (σ.1 25 (ix p1))]) (rest := []) hX 53 (Nat.le_of_ble_eq_true rfl) rfl rfl miX4_strike mvX4_strike lkX4_141 (by decide) rfl (Nat.le_of_ble_eq_true rfl) rfl dX4_strikeCases_32 (fun τ x ho => kX4_strike _ ho) h (fun σ_10 t_11 h => ?_)
      exact g_retv hR h dX4_strikeCases_35
set_option maxRecDepth 20000 in
set_option maxHeartbeats 4000000 in
theorem kX4_strikeCases (l : Launch) {a : Nat → Nat} {D : va_G} {tI tJ tB tS : ClassId} {kK kV : Nat → Nat} {σ τ : St}  {p1 : Int32} {p2 : Int32} {p3 : Int32} {x : Unit} (h : fX4_strikeCases σ p1 p2 p3 = some (τ, x)) : CtV l yX4_strikeCases cX4_strikeCases 5 none 2 50 (vC a D tI tJ tB tS kK kV) σ [.ref (a 53), .int p1, .int p2, .int p3] τ x := g_metV (by decide) (Nat.le_of_ble_eq_true rfl) rfl (fun X _ hX hR => sX4_strikeCases (r := (τ, x)) hX hR h)
def fX4_search_L48 (q1_48 : Int32) (q2_48 : Int32) (q3_48 : Int32) (q4_48 : Int32) (kx48 : St → Int32 → Option (St × Unit)) : Nat → St → Int32 → Option (St × Unit)
  | 0, _, _ => none
  | n48 + 1, σ, c5_48 =>
    (if q4_48 ≤ c5_48 then kx48 σ c5_48 else cl (fX7_readRow σ ) fun (σ_12 : St) (t_13 : Unit) => cl (fX7_weigh σ_12 q3_48) fun (σ_14 : St) (t_15 : Unit) => cl (fX4_strikeCases σ_14 q3_48 q1_48 q2_48) fun (σ_16 : St) (t_17 : Unit) => cl (fX7_nextRow σ_16 q3_48) fun (σ_18 : St) (t_19 : Unit) => bnd (c5_48 + (1 : Int32)) fun (x5_20 : Int32) => fX4_search_L48 q1_48 q2_48 q3_48 q4_48 kx48 n48 σ_18 x5_20)
def fX4_search_L18 (q1_18 : Int32) (q2_18 : Int32) (kx18 : St → Int32 → Option (St × Unit)) : Nat → St → Int32 → Option (St × Unit)
  | 0, _, _ => none
  | n18 + 1, σ, c3_18 =>
    (if (σ.1 2 0) ≤ c3_18 then kx18 σ c3_18 else cl (fX7_rowsOfOthers σ ) fun (σ_6 : St) (t_7 : Int32) => bnd t_7 fun (x4_8 : Int32) => cl (fX7_firstRow σ_6 ) fun (σ_9 : St) (t_10 : Unit) => bnd (0 : Int32) fun (x5_11 : Int32) => fX4_search_L48 q1_18 q2_18 c3_18 x4_8 (fun (σ_21 : St) (x5_22 : Int32) => bnd (c3_18 + (1 : Int32)) fun (x3_23 : Int32) => fX4_search_L18 q1_18 q2_18 kx18 n18 σ_21 x3_23) FU σ_9 x5_11)
def fX4_search (σ : St) (p1 : Int32) (p2 : Int32) : Option (St × Unit) :=
  cl (fX4_countRows σ ) fun (σ_1 : St) (t_2 : Unit) => cl (fJ7_fill_53178_i54 σ_1 (((1 : Int32) <<< (p1 &&& 31)) - (1 : Int32))) fun (σ_3 : St) (t_4 : Unit) => bnd (0 : Int32) fun (x3_5 : Int32) => fX4_search_L18 p1 p2 (fun (σ_24 : St) (x3_25 : Int32) => some (σ_24, ())) FU σ_3 x3_5
set_option maxRecDepth 20000 in
set_option maxHeartbeats 4000000 in
theorem sX4_search_L48 {X : CX} {a : Nat → Nat} {D : va_G} {tI tJ tB tS : ClassId} {kK kV : Nat → Nat} {q1_48 : Int32} {q2_48 : Int32} {q3_48 : Int32} {q4_48 : Int32} {kx48 : St → Int32 → Option (St × Unit)} {r : St × Unit} (hX : OKX X (vC a D tI tJ tB tS kK kV) cX4_search 6 RX4 3 74) (hR : ∀ (pc : Nat) (lv : List (Nat × Value)), decode cX4_search pc = .ok (.return_, 1) → G X (vC a D tI tJ tB tS kK kV) 6 r.1 pc lv []) (hkx48 : ∀ (σ : St) (e5_48 : Int32), kx48 σ e5_48 = some r → G X (vC a D tI tJ tB tS kK kV) 6 σ 91 [(0, .ref (a 53)), (1, .int q1_48), (2, .int q2_48), (3, .int q3_48)] []) : ∀ (n : Nat) (σ : St) (c5_48 : Int32), fX4_search_L48 q1_48 q2_48 q3_48 q4_48 kx48 n σ c5_48 = some r → G X (vC a D tI tJ tB tS kK kV) 6 σ 48 [(0, .ref (a 53)), (1, .int q1_48), (2, .int q2_48), (3, .int q3_48), (4, .int q4_48), (5, .int c5_48)] [] := by
  intro n
  induction n with
  | zero => intro σ c5_48 h; rw [fX4_search_L48] at h; exact absurd h (by simp)
  | succ n48 ih48 =>
    intro σ c5_48 h
    rw [fX4_search_L48] at h
    refine g_iload hX 5 dX4_search_48 rfl ?_
    refine g_iload hX 4 dX4_search_50 rfl ?_
    refine g_icmp_ge hX 91 dX4_search_52 (by decide) h (fun h => ?_) (fun h => ?_)
    · exact g_sub [0, 1, 2, 3] rfl (hkx48 _ _ h)
    · refine g_aload_n hX 0 dX4_search_55 rfl rfl ?_
      refine gCX4_23_53 hX dX4_search_56 ?_
      refine g_callNV (As := []) (rest := []) hX 43 (Nat.le_of_ble_eq_true rfl) rfl rfl miX7_readRow mvX7_readRow lkX4_128 (by decide) rfl (Nat.le_of_ble_eq_true rfl) rfl dX4_search_59 (fun τ x ho => kX7_readRow _ ho) h (fun σ_12 t_13 h => ?_)
      refine g_aload_n hX 0 dX4_search_62 rfl rfl ?_
      refine gCX4_23_53 hX dX4_search_63 ?_
      refine g_iload_n hX 3 dX4_search_66 rfl rfl ?_
      refine g_callNV (As := [.int q3_48]) (rest := []) hX 43 (Nat.le_of_ble_eq_true rfl) rfl rfl miX7_weigh mvX7_weigh lkX4_131 (by decide) rfl (Nat.le_of_ble_eq_true rfl) rfl dX4_search_67 (fun τ x ho => kX7_weigh _ ho) h (fun σ_14 t_15 h => ?_)
      refine g_aload_n hX 0 dX4_search_70 rfl rfl ?_
      refine g_iload_n hX 3 dX4_search_71 rfl rfl ?_
      refine g_iload_n hX 1 dX4_search_72 rfl rfl ?_
      refine g_iload_n hX 2 dX4_search_73 rfl rfl ?_
      refine g_callVV (As := [.int q3_48, .int q1_48, .int q2_48]) (rest := []) hX 53 (Nat.le_of_ble_eq_true rfl) rfl rfl miX4_strikeCases mvX4_strikeCases lkX4_134 (by decide) rfl (Nat.le_of_ble_eq_true rfl) rfl dX4_search_74 (fun τ x ho => kX4_strikeCases _ ho) h (fun σ_16 t_17 h => ?_)
      refine g_aload_n hX 0 dX4_search_77 rfl rfl ?_
      refine gCX4_23_53 hX dX4_search_78 ?_
      refine g_iload_n hX 3 dX4_search_81 rfl rfl ?_
      refine g_callNV (As := [.int q3_48]) (rest := []) hX 43 (Nat.le_of_ble_eq_true rfl) rfl rfl miX7_nextRow mvX7_nextRow lkX4_138 (by decide) rfl (Nat.le_of_ble_eq_true rfl) rfl dX4_search_82 (fun τ x ho => kX7_nextRow _ ho) h (fun σ_18 t_19 h => ?_)
      refine g_iinc (y := (1)) (lv' := fun x5_20 => [(5, .int x5_20), (0, .ref (a 53)), (1, .int q1_48), (2, .int q2_48), (3, .int q3_48), (4, .int q4_48)]) hX 5 dX4_search_85 rfl (by decide) (by decide) (fun _ => rfl) h (fun x5_20 h => ?_)
      refine g_goto hX 48 dX4_search_88 (by decide) ?_
      exact g_sub [1, 2, 3, 4, 5, 0] rfl (ih48 _ _ h)
set_option maxRecDepth 20000 in
set_option maxHeartbeats 4000000 in
theorem sX4_search_L18 {X : CX} {a : Nat → Nat} {D : va_G} {tI tJ tB tS : ClassId} {kK kV : Nat → Nat} {q1_18 : Int32} {q2_18 : Int32} {kx18 : St → Int32 → Option (St × Unit)} {r : St × Unit} (hX : OKX X (vC a D tI tJ tB tS kK kV) cX4_search 6 RX4 3 74) (hR : ∀ (pc : Nat) (lv : List (Nat × Value)), decode cX4_search pc = .ok (.return_, 1) → G X (vC a D tI tJ tB tS kK kV) 6 r.1 pc lv []) (hkx18 : ∀ (σ : St) (e3_18 : Int32), kx18 σ e3_18 = some r → G X (vC a D tI tJ tB tS kK kV) 6 σ 97 [] []) : ∀ (n : Nat) (σ : St) (c3_18 : Int32), fX4_search_L18 q1_18 q2_18 kx18 n σ c3_18 = some r → G X (vC a D tI tJ tB tS kK kV) 6 σ 18 [(0, .ref (a 53)), (1, .int q1_18), (2, .int q2_18), (3, .int c3_18)] [] := by
  intro n
  induction n with
  | zero => intro σ c3_18 h; rw [fX4_search_L18] at h; exact absurd h (by simp)
  | succ n18 ih18 =>
    intro σ c3_18 h
    rw [fX4_search_L18] at h
    refine g_iload_n hX 3 dX4_search_18 rfl rfl ?_
    refine g_aload_n hX 0 dX4_search_19 rfl rfl ?_
    refine gCX4_9_53 hX dX4_search_20 ?_
    refine gCX4_106_2 hX dX4_search_23 ?_
    refine g_icmp_ge hX 97 dX4_search_26 (by decide) h (fun h => ?_) (fun h => ?_)
    · exact g_sub [] rfl (hkx18 _ _ h)
    · refine g_aload_n hX 0 dX4_search_29 rfl rfl ?_
      refine gCX4_23_53 hX dX4_search_30 ?_
      refine g_callNI (As := []) (rest := []) hX 43 (Nat.le_of_ble_eq_true rfl) rfl rfl miX7_rowsOfOthers mvX7_rowsOfOthers lkX4_121 (by decide) rfl (Nat.le_of_ble_eq_true rfl) rfl dX4_search_33 (fun τ x ho => kX7_rowsOfOthers _ ho) h (fun σ_6 t_7 h => ?_)
      refine g_istore (lv' := fun x4_8 => [(4, .int x4_8), (0, .ref (a 53)), (1, .int q1_18), (2, .int q2_18), (3, .int c3_18)]) hX dX4_search_36 (by decide) (fun _ => rfl) h (fun x4_8 h => ?_)
      refine g_aload_n hX 1 dX4_search_38 rfl rfl ?_
      refine gCX4_23_53 hX dX4_search_39 ?_
      refine g_callNV (As := []) (rest := []) hX 43 (Nat.le_of_ble_eq_true rfl) rfl rfl miX7_firstRow mvX7_firstRow lkX4_125 (by decide) rfl (Nat.le_of_ble_eq_true rfl) rfl dX4_search_42 (fun τ x ho => kX7_firstRow _ ho) h (fun σ_9 t_10 h => ?_)
      refine g_iconst hX (0) dX4_search_45 (by decide) ?_
      refine g_istore (lv' := fun x5_11 => [(5, .int x5_11), (4, .int x4_8), (0, .ref (a 53)), (1, .int q1_18), (2, .int q2_18), (3, .int c3_18)]) hX dX4_search_46 (by decide) (fun _ => rfl) h (fun x5_11 h => ?_)
      refine g_sub [2, 3, 4, 5, 1, 0] rfl (sX4_search_L48 hX hR (fun σ_21 x5_22 h => ?_) FU _ _ h)
      refine g_iinc (y := (1)) (lv' := fun x3_23 => [(3, .int x3_23), (0, .ref (a 53)), (1, .int q1_18), (2, .int q2_18)]) hX 3 dX4_search_91 rfl (by decide) (by decide) (fun _ => rfl) h (fun x3_23 h => ?_)
      refine g_goto hX 18 dX4_search_94 (by decide) ?_
      exact g_sub [1, 2, 3, 0] rfl (ih18 _ _ h)
set_option maxRecDepth 20000 in
set_option maxHeartbeats 4000000 in
theorem sX4_search {X : CX} {a : Nat → Nat} {D : va_G} {tI tJ tB tS : ClassId} {kK kV : Nat → Nat} {σ : St}  {p1 : Int32} {p2 : Int32} {r : St × Unit} (hX : OKX X (vC a D tI tJ tB tS kK kV) cX4_search 6 RX4 3 74) (hR : ∀ (pc : Nat) (lv : List (Nat × Value)), decode cX4_search pc = .ok (.return_, 1) → G X (vC a D tI tJ tB tS kK kV) 6 r.1 pc lv [])  (h : fX4_search σ p1 p2 = some r) : G X (vC a D tI tJ tB tS kK kV) 6 σ 0 [(0, .ref (a 53)), (1, .int p1), (2, .int p2)] [] := by
  unfold fX4_search at h
  refine g_aload_n hX 0 dX4_search_0 rfl rfl ?_
  refine g_callVV (As := []) (rest := []) hX 53 (Nat.le_of_ble_eq_true rfl) rfl rfl miX4_countRows mvX4_countRows lkX4_118 (by decide) rfl (Nat.le_of_ble_eq_true rfl) rfl dX4_search_1 (fun τ x ho => kX4_countRows _ ho) h (fun σ_1 t_2 h => ?_)
  refine g_aload_n hX 0 dX4_search_4 rfl rfl ?_
  refine gCX4_27_53 hX dX4_search_5 ?_
  refine g_iconst hX (1) dX4_search_8 (by decide) ?_
  refine g_iload_n hX 1 dX4_search_9 rfl rfl ?_
  refine g_ishl hX dX4_search_10 ?_
  refine g_iconst hX (1) dX4_search_11 (by decide) ?_
  refine g_isub hX dX4_search_12 ?_
  refine g_callSV (As := [.ref (a 54), .int (((1 : Int32) <<< (p1 &&& 31)) - (1 : Int32))]) (rest := []) hX miJ7_fill_53178 mvJ7_fill_53178 lkX4_74 (by decide) rfl (Nat.le_of_ble_eq_true rfl) rfl dX4_search_13 (fun τ x ho => kJ7_fill_53178_i54 _ ho) h (fun σ_3 t_4 h => ?_)
  refine g_iconst hX (0) dX4_search_16 (by decide) ?_
  refine g_istore_n (lv' := fun x3_5 => [(3, .int x3_5), (0, .ref (a 53)), (1, .int p1), (2, .int p2)]) hX dX4_search_17 rfl (by decide) (fun _ => rfl) h (fun x3_5 h => ?_)
  refine g_sub [1, 2, 3, 0] rfl (sX4_search_L18 hX hR (fun σ_24 x3_25 h => ?_) FU _ _ h)
  exact g_retv hR h dX4_search_97
set_option maxRecDepth 20000 in
set_option maxHeartbeats 4000000 in
theorem kX4_search (l : Launch) {a : Nat → Nat} {D : va_G} {tI tJ tB tS : ClassId} {kK kV : Nat → Nat} {σ τ : St}  {p1 : Int32} {p2 : Int32} {x : Unit} (h : fX4_search σ p1 p2 = some (τ, x)) : CtV l yX4_search cX4_search 6 none 3 74 (vC a D tI tJ tB tS kK kV) σ [.ref (a 53), .int p1, .int p2] τ x := g_metV (by decide) (Nat.le_of_ble_eq_true rfl) rfl (fun X _ hX hR => sX4_search (r := (τ, x)) hX hR h)
def fX4_find (σ : St)  : Option (St × Unit) :=
  (if (σ.1 53 9) = 0 then cl (fX7_open σ (σ.1 22 4)) fun (σ_1 : St) (t_2 : Unit) => chk (inb (0 : Int32) 21) (bnd (sI σ_1 56 (ix (0 : Int32)) (σ_1.1 43 15)) fun (σ_3 : St) => cl (fX4_search σ_3 (1 : Int32) (-1 : Int32)) fun (σ_4 : St) (t_5 : Unit) => chk (isB (1 : Int32)) (bnd (sI σ_4 53 9 (1 : Int32)) fun (σ_6 : St) => some (σ_6, ()))) else some (σ, ()))
set_option maxRecDepth 20000 in
set_option maxHeartbeats 4000000 in
theorem sX4_find {X : CX} {a : Nat → Nat} {D : va_G} {tI tJ tB tS : ClassId} {kK kV : Nat → Nat} {σ : St}   {r : St × Unit} (hX : OKX X (vC a D tI tJ tB tS kK kV) cX4_find 1 RX4 5 111) (hR : ∀ (pc : Nat) (lv : List (Nat × Value)), decode cX4_find pc = .ok (.return_, 1) → G X (vC a D tI tJ tB tS kK kV) 1 r.1 pc lv [])  (h : fX4_find σ  = some r) : G X (vC a D tI tJ tB tS kK kV) 1 σ 0 [(0, .ref (a 53))] [] := by
  unfold fX4_find at h
  refine g_aload_n hX 0 dX4_find_0 rfl rfl ?_
  refine gCX4_44_53 hX dX4_find_1 ?_
  refine g_if_ne hX 45 dX4_find_4 (by decide) h (fun h => ?_) (fun h => ?_)
  · exact g_retv hR h dX4_find_45
  · refine g_aload_n hX 0 dX4_find_7 rfl rfl ?_
    refine gCX4_23_53 hX dX4_find_8 ?_
    refine g_aload_n hX 0 dX4_find_11 rfl rfl ?_
    refine gCX4_15_53 hX dX4_find_12 ?_
    refine gCX4_48_22 hX dX4_find_15 ?_
    refine g_callNV (As := [.int (σ.1 22 4)]) (rest := []) hX 43 (Nat.le_of_ble_eq_true rfl) rfl rfl miX7_open mvX7_open lkX4_53 (by decide) rfl (Nat.le_of_ble_eq_true rfl) rfl dX4_find_18 (fun τ x ho => kX7_open _ ho) h (fun σ_1 t_2 h => ?_)
    refine g_aload_n hX 0 dX4_find_21 rfl rfl ?_
    refine gCX4_34_53 hX dX4_find_22 ?_
    refine g_iconst hX (0) dX4_find_25 (by decide) ?_
    refine g_aload_n hX 0 dX4_find_26 rfl rfl ?_
    refine gCX4_23_53 hX dX4_find_27 ?_
    refine gCX4_59_43 hX dX4_find_30 ?_
    refine asC_56 hX dX4_find_33 h (fun σ_3 h => ?_)
    refine g_aload_n hX 0 dX4_find_34 rfl rfl ?_
    refine g_iconst hX (1) dX4_find_35 (by decide) ?_
    refine g_iconst hX (-1) dX4_find_36 (by decide) ?_
    refine g_callVV (As := [.int (1 : Int32), .int (-1 : Int32)]) (rest := []) hX 53 (Nat.le_of_ble_eq_true rfl) rfl rfl miX4_search mvX4_search lkX4_61 (by decide) rfl (Nat.le_of_ble_eq_true rfl) rfl dX4_find_37 (fun τ x ho => kX4_search _ ho) h (fun σ_4 t_5 h => ?_)
    refine g_aload_n hX 0 dX4_find_40 rfl rfl ?_
    refine g_iconst hX (1) dX4_find_41 (by decide) ?_
    refine pCX4_44_53 hX dX4_find_42 h (fun σ_6 h => ?_)
    exact g_retv hR h dX4_find_45
set_option maxRecDepth 20000 in
set_option maxHeartbeats 4000000 in
theorem kX4_find (l : Launch) {a : Nat → Nat} {D : va_G} {tI tJ tB tS : ClassId} {kK kV : Nat → Nat} {σ τ : St}   {x : Unit} (h : fX4_find σ  = some (τ, x)) : CtV l yX4_find cX4_find 1 none 5 111 (vC a D tI tJ tB tS kK kV) σ [.ref (a 53)] τ x := g_metV (by decide) (Nat.le_of_ble_eq_true rfl) rfl (fun X _ hX hR => sX4_find (r := (τ, x)) hX hR h)
def fX4_place_L5 (q1_5 : Int32) (q2_5 : Int32) (kx5 : St → Int32 → Int32 → Option (St × Int32)) : Nat → St → Int32 → Int32 → Option (St × Int32)
  | 0, _, _, _ => none
  | n5 + 1, σ, c3_5, c4_5 =>
    (if (σ.1 53 8) ≤ c4_5 then kx5 σ c3_5 c4_5 else chk (decide (0 ≤ σ.1 54 2147483648)) ((if (σ.1 54 2147483648) ≤ c4_5 then kx5 σ c3_5 c4_5 else chk (inb c4_5 (ix (σ.1 54 2147483648))) ((jp (fun (σ_3 : St) (x3_4 : Int32)  => bnd (c4_5 + (1 : Int32)) fun (x4_5 : Int32) => fX4_place_L5 q1_5 q2_5 kx5 n5 σ_3 x3_4 x4_5) fun j49 => (if (((σ.1 54 (ix c4_5)) >>> (q1_5 &&& 31)) &&& (1 : Int32)) = 0 then j49 σ c3_5 else (if c3_5 = q2_5 then some (σ, c4_5) else bnd (c3_5 + (1 : Int32)) fun (x3_6 : Int32) => j49 σ x3_6)))))))
def fX4_place (σ : St) (p1 : Int32) (p2 : Int32) : Option (St × Int32) :=
  bnd (0 : Int32) fun (x3_1 : Int32) => bnd (0 : Int32) fun (x4_2 : Int32) => fX4_place_L5 p1 p2 (fun (σ_7 : St) (x3_8 : Int32) (x4_9 : Int32) => some (σ_7, (-1 : Int32))) FU σ x3_1 x4_2
set_option maxRecDepth 20000 in
set_option maxHeartbeats 4000000 in
theorem sX4_place_L5 {X : CX} {a : Nat → Nat} {D : va_G} {tI tJ tB tS : ClassId} {kK kV : Nat → Nat} {q1_5 : Int32} {q2_5 : Int32} {kx5 : St → Int32 → Int32 → Option (St × Int32)} {r : St × Int32} (hX : OKX X (vC a D tI tJ tB tS kK kV) cX4_place 5 RX4 0 0) (hR : ∀ (pc : Nat) (lv : List (Nat × Value)), decode cX4_place pc = .ok (.ireturn, 1) → G X (vC a D tI tJ tB tS kK kV) 5 r.1 pc lv [.int r.2]) (hkx5 : ∀ (σ : St) (e3_5 : Int32) (e4_5 : Int32), kx5 σ e3_5 e4_5 = some r → G X (vC a D tI tJ tB tS kK kV) 5 σ 55 [] []) : ∀ (n : Nat) (σ : St) (c3_5 : Int32) (c4_5 : Int32), fX4_place_L5 q1_5 q2_5 kx5 n σ c3_5 c4_5 = some r → G X (vC a D tI tJ tB tS kK kV) 5 σ 5 [(0, .ref (a 53)), (1, .int q1_5), (2, .int q2_5), (3, .int c3_5), (4, .int c4_5)] [] := by
  intro n
  induction n with
  | zero => intro σ c3_5 c4_5 h; rw [fX4_place_L5] at h; exact absurd h (by simp)
  | succ n5 ih5 =>
    intro σ c3_5 c4_5 h
    rw [fX4_place_L5] at h
    refine g_iload hX 4 dX4_place_5 rfl ?_
    refine g_aload_n hX 0 dX4_place_7 rfl rfl ?_
    refine gCX4_40_53 hX dX4_place_8 ?_
    refine g_icmp_ge hX 55 dX4_place_11 (by decide) h (fun h => ?_) (fun h => ?_)
    · exact g_sub [] rfl (hkx5 _ _ _ h)
    · refine g_iload hX 4 dX4_place_14 rfl ?_
      refine g_aload_n hX 0 dX4_place_16 rfl rfl ?_
      refine gCX4_27_53 hX dX4_place_17 ?_
      refine lenC_54 hX dX4_place_20 h (fun h => ?_)
      refine g_icmp_ge hX 55 dX4_place_21 (by decide) h (fun h => ?_) (fun h => ?_)
      · exact g_sub [] rfl (hkx5 _ _ _ h)
      · refine g_aload_n hX 0 dX4_place_24 rfl rfl ?_
        refine gCX4_27_53 hX dX4_place_25 ?_
        refine g_iload hX 4 dX4_place_28 rfl ?_
        refine alC_54 hX dX4_place_30 h (fun h => ?_)
        refine g_iload_n hX 1 dX4_place_31 rfl rfl ?_
        refine g_ishr hX dX4_place_32 ?_
        refine g_iconst hX (1) dX4_place_33 (by decide) ?_
        refine g_iand hX dX4_place_34 ?_
        refine jp_inv (P := fun f => ∀ (σ_3 : St) (x3_4 : Int32) , f σ_3 x3_4 = some r → G X (vC a D tI tJ tB tS kK kV) 5 σ_3 49 [(0, .ref (a 53)), (1, .int q1_5), (2, .int q2_5), (4, .int c4_5), (3, .int x3_4)] []) h (fun σ_3 x3_4 h => ?_) (fun j49 hj49 h => ?_)
        · refine g_iinc (y := (1)) (lv' := fun x4_5 => [(4, .int x4_5), (0, .ref (a 53)), (1, .int q1_5), (2, .int q2_5), (3, .int x3_4)]) hX 3 dX4_place_49 rfl (by decide) (by decide) (fun _ => rfl) h (fun x4_5 h => ?_)
          refine g_goto hX 5 dX4_place_52 (by decide) ?_
          exact g_sub [1, 2, 3, 4, 0] rfl (ih5 _ _ _ h)
        refine g_if_eq hX 49 dX4_place_35 (by decide) h (fun h => ?_) (fun h => ?_)
        · exact g_sub [0, 1, 2, 4, 3] rfl (hj49 _ _ h)
        · refine g_iload_n hX 3 dX4_place_38 rfl rfl ?_
          refine g_iload_n hX 2 dX4_place_39 rfl rfl ?_
          refine g_icmp_ne hX 46 dX4_place_40 (by decide) h (fun h => ?_) (fun h => ?_)
          · refine g_iinc (y := (1)) (lv' := fun x3_6 => [(3, .int x3_6), (0, .ref (a 53)), (1, .int q1_5), (2, .int q2_5), (4, .int c4_5)]) hX 3 dX4_place_46 rfl (by decide) (by decide) (fun _ => rfl) h (fun x3_6 h => ?_)
            exact g_sub [1, 2, 3, 4, 0] rfl (hj49 _ _ h)
          · refine g_iload hX 4 dX4_place_43 rfl ?_
            exact g_reti hR h dX4_place_45
set_option maxRecDepth 20000 in
set_option maxHeartbeats 4000000 in
theorem sX4_place {X : CX} {a : Nat → Nat} {D : va_G} {tI tJ tB tS : ClassId} {kK kV : Nat → Nat} {σ : St}  {p1 : Int32} {p2 : Int32} {r : St × Int32} (hX : OKX X (vC a D tI tJ tB tS kK kV) cX4_place 5 RX4 0 0) (hR : ∀ (pc : Nat) (lv : List (Nat × Value)), decode cX4_place pc = .ok (.ireturn, 1) → G X (vC a D tI tJ tB tS kK kV) 5 r.1 pc lv [.int r.2])  (h : fX4_place σ p1 p2 = some r) : G X (vC a D tI tJ tB tS kK kV) 5 σ 0 [(0, .ref (a 53)), (1, .int p1), (2, .int p2)] [] := by
  unfold fX4_place at h
  refine g_iconst hX (0) dX4_place_0 (by decide) ?_
  refine g_istore_n (lv' := fun x3_1 => [(3, .int x3_1), (0, .ref (a 53)), (1, .int p1), (2, .int p2)]) hX dX4_place_1 rfl (by decide) (fun _ => rfl) h (fun x3_1 h => ?_)
  refine g_iconst hX (0) dX4_place_2 (by decide) ?_
  refine g_istore (lv' := fun x4_2 => [(4, .int x4_2), (3, .int x3_1), (0, .ref (a 53)), (1, .int p1), (2, .int p2)]) hX dX4_place_3 (by decide) (fun _ => rfl) h (fun x4_2 h => ?_)
  refine g_sub [2, 3, 4, 1, 0] rfl (sX4_place_L5 hX hR (fun σ_7 x3_8 x4_9 h => ?_) FU _ _ _ h)
  refine g_iconst hX (-1) dX4_place_55 (by decide) ?_
  exact g_reti hR h dX4_place_56
set_option maxRecDepth 20000 in
set_option maxHeartbeats 4000000 in
theorem kX4_place (l : Launch) {a : Nat → Nat} {D : va_G} {tI tJ tB tS : ClassId} {kK kV : Nat → Nat} {σ τ : St}  {p1 : Int32} {p2 : Int32} {x : Int32} (h : fX4_place σ p1 p2 = some (τ, x)) : CtI l yX4_place cX4_place 5 (some .int) 0 0 (vC a D tI tJ tB tS kK kV) σ [.ref (a 53), .int p1, .int p2] τ x := g_metI (by decide) (Nat.le_of_ble_eq_true rfl) rfl (fun X _ hX hR => sX4_place (r := (τ, x)) hX hR h)
def fX4_stepIn (σ : St) (p1 : Int32) (p2 : Int32) : Option (St × Int32) :=
  chk (inb p2 4) ((if (σ.1 55 (ix p2)) ≤ 0 then some (σ, (0 : Int32)) else (if (σ.1 2 2) ≤ 0 then some (σ, (0 : Int32)) else chk (inb p2 4) (chk (decide (¬ (σ.1 55 (ix p2)) = 0)) (chk (decide (¬ (σ.1 2 2) = 0)) (some (σ, ((p1 / (σ.1 55 (ix p2))) - (p1 / (σ.1 55 (ix p2))) / (σ.1 2 2) * (σ.1 2 2)))))))))
set_option maxRecDepth 20000 in
set_option maxHeartbeats 4000000 in
theorem sX4_stepIn {X : CX} {a : Nat → Nat} {D : va_G} {tI tJ tB tS : ClassId} {kK kV : Nat → Nat} {σ : St}  {p1 : Int32} {p2 : Int32} {r : St × Int32} (hX : OKX X (vC a D tI tJ tB tS kK kV) cX4_stepIn 3 RX4 0 0) (hR : ∀ (pc : Nat) (lv : List (Nat × Value)), decode cX4_stepIn pc = .ok (.ireturn, 1) → G X (vC a D tI tJ tB tS kK kV) 3 r.1 pc lv [.int r.2])  (h : fX4_stepIn σ p1 p2 = some r) : G X (vC a D tI tJ tB tS kK kV) 3 σ 0 [(0, .ref (a 53)), (1, .int p1), (2, .int p2)] [] := by
  unfold fX4_stepIn at h
  refine g_aload_n hX 0 dX4_stepIn_0 rfl rfl ?_
  refine gCX4_31_53 hX dX4_stepIn_1 ?_
  refine g_iload_n hX 2 dX4_stepIn_4 rfl rfl ?_
  refine alC_55 hX dX4_stepIn_5 h (fun h => ?_)
  refine g_if_le hX 38 dX4_stepIn_6 (by decide) h (fun h => ?_) (fun h => ?_)
  · refine g_iconst hX (0) dX4_stepIn_38 (by decide) ?_
    exact g_reti hR h dX4_stepIn_39
  · refine g_aload_n hX 0 dX4_stepIn_9 rfl rfl ?_
    refine gCX4_9_53 hX dX4_stepIn_10 ?_
    refine gCX4_92_2 hX dX4_stepIn_13 ?_
    refine g_if_le hX 38 dX4_stepIn_16 (by decide) h (fun h => ?_) (fun h => ?_)
    · refine g_iconst hX (0) dX4_stepIn_38 (by decide) ?_
      exact g_reti hR h dX4_stepIn_39
    · refine g_iload_n hX 1 dX4_stepIn_19 rfl rfl ?_
      refine g_aload_n hX 0 dX4_stepIn_20 rfl rfl ?_
      refine gCX4_31_53 hX dX4_stepIn_21 ?_
      refine g_iload_n hX 2 dX4_stepIn_24 rfl rfl ?_
      refine alC_55 hX dX4_stepIn_25 h (fun h => ?_)
      refine g_idiv hX dX4_stepIn_26 h (fun h => ?_)
      refine g_aload_n hX 0 dX4_stepIn_27 rfl rfl ?_
      refine gCX4_9_53 hX dX4_stepIn_28 ?_
      refine gCX4_92_2 hX dX4_stepIn_31 ?_
      refine g_irem hX dX4_stepIn_34 h (fun h => ?_)
      refine g_goto hX 39 dX4_stepIn_35 (by decide) ?_
      exact g_reti hR h dX4_stepIn_39
set_option maxRecDepth 20000 in
set_option maxHeartbeats 4000000 in
theorem kX4_stepIn (l : Launch) {a : Nat → Nat} {D : va_G} {tI tJ tB tS : ClassId} {kK kV : Nat → Nat} {σ τ : St}  {p1 : Int32} {p2 : Int32} {x : Int32} (h : fX4_stepIn σ p1 p2 = some (τ, x)) : CtI l yX4_stepIn cX4_stepIn 3 (some .int) 0 0 (vC a D tI tJ tB tS kK kV) σ [.ref (a 53), .int p1, .int p2] τ x := g_metI (by decide) (Nat.le_of_ble_eq_true rfl) rfl (fun X _ hX hR => sX4_stepIn (r := (τ, x)) hX hR h)
def fX4_codeOf_L11 (q1_11 : Int32) (kx11 : St → Int32 → Int32 → Option (St × Int32)) : Nat → St → Int32 → Int32 → Option (St × Int32)
  | 0, _, _, _ => none
  | n11 + 1, σ, c2_11, c3_11 =>
    (if (σ.1 2 0) ≤ c3_11 then kx11 σ c2_11 c3_11 else cl (fX4_stepIn σ q1_11 c3_11) fun (σ_3 : St) (t_4 : Int32) => bnd (c2_11 + (t_4 <<< (((3 : Int32) * c3_11) &&& 31))) fun (x2_5 : Int32) => bnd (c3_11 + (1 : Int32)) fun (x3_6 : Int32) => fX4_codeOf_L11 q1_11 kx11 n11 σ_3 x2_5 x3_6)
def fX4_codeOf (σ : St) (p1 : Int32) : Option (St × Int32) :=
  (if p1 = (-1 : Int32) then some (σ, (-1 : Int32)) else bnd (0 : Int32) fun (x2_1 : Int32) => bnd (0 : Int32) fun (x3_2 : Int32) => fX4_codeOf_L11 p1 (fun (σ_7 : St) (x2_8 : Int32) (x3_9 : Int32) => some (σ_7, x2_8)) FU σ x2_1 x3_2)
set_option maxRecDepth 20000 in
set_option maxHeartbeats 4000000 in
theorem sX4_codeOf_L11 {X : CX} {a : Nat → Nat} {D : va_G} {tI tJ tB tS : ClassId} {kK kV : Nat → Nat} {q1_11 : Int32} {kx11 : St → Int32 → Int32 → Option (St × Int32)} {r : St × Int32} (hX : OKX X (vC a D tI tJ tB tS kK kV) cX4_codeOf 4 RX4 1 22) (hR : ∀ (pc : Nat) (lv : List (Nat × Value)), decode cX4_codeOf pc = .ok (.ireturn, 1) → G X (vC a D tI tJ tB tS kK kV) 4 r.1 pc lv [.int r.2]) (hkx11 : ∀ (σ : St) (e2_11 : Int32) (e3_11 : Int32), kx11 σ e2_11 e3_11 = some r → G X (vC a D tI tJ tB tS kK kV) 4 σ 41 [(2, .int e2_11)] []) : ∀ (n : Nat) (σ : St) (c2_11 : Int32) (c3_11 : Int32), fX4_codeOf_L11 q1_11 kx11 n σ c2_11 c3_11 = some r → G X (vC a D tI tJ tB tS kK kV) 4 σ 11 [(0, .ref (a 53)), (1, .int q1_11), (2, .int c2_11), (3, .int c3_11)] [] := by
  intro n
  induction n with
  | zero => intro σ c2_11 c3_11 h; rw [fX4_codeOf_L11] at h; exact absurd h (by simp)
  | succ n11 ih11 =>
    intro σ c2_11 c3_11 h
    rw [fX4_codeOf_L11] at h
    refine g_iload_n hX 3 dX4_codeOf_11 rfl rfl ?_
    refine g_aload_n hX 0 dX4_codeOf_12 rfl rfl ?_
    refine gCX4_9_53 hX dX4_codeOf_13 ?_
    refine gCX4_106_2 hX dX4_codeOf_16 ?_
    refine g_icmp_ge hX 41 dX4_codeOf_19 (by decide) h (fun h => ?_) (fun h => ?_)
    · exact g_sub [2] rfl (hkx11 _ _ _ h)
    · refine g_iload_n hX 2 dX4_codeOf_22 rfl rfl ?_
      refine g_aload_n hX 0 dX4_codeOf_23 rfl rfl ?_
      refine g_iload_n hX 1 dX4_codeOf_24 rfl rfl ?_
      refine g_iload_n hX 3 dX4_codeOf_25 rfl rfl ?_
      refine g_callVI (As := [.int q1_11, .int c3_11]) (rest := [.int c2_11]) hX 53 (Nat.le_of_ble_eq_true rfl) rfl rfl miX4_stepIn mvX4_stepIn lkX4_109 (by decide) rfl (Nat.le_of_ble_eq_true rfl) rfl dX4_codeOf_26 (fun τ x ho => kX4_stepIn _ ho) h (fun σ_3 t_4 h => ?_)
      refine g_iconst hX (3) dX4_codeOf_29 (by decide) ?_
      refine g_iload_n hX 3 dX4_codeOf_30 rfl rfl ?_
      refine g_imul hX dX4_codeOf_31 ?_
      refine g_ishl hX dX4_codeOf_32 ?_
      refine g_iadd hX dX4_codeOf_33 ?_
      refine g_istore_n (lv' := fun x2_5 => [(2, .int x2_5), (0, .ref (a 53)), (1, .int q1_11), (3, .int c3_11)]) hX dX4_codeOf_34 rfl (by decide) (fun _ => rfl) h (fun x2_5 h => ?_)
      refine g_iinc (y := (1)) (lv' := fun x3_6 => [(3, .int x3_6), (2, .int x2_5), (0, .ref (a 53)), (1, .int q1_11)]) hX 3 dX4_codeOf_35 rfl (by decide) (by decide) (fun _ => rfl) h (fun x3_6 h => ?_)
      refine g_goto hX 11 dX4_codeOf_38 (by decide) ?_
      exact g_sub [2, 3, 1, 0] rfl (ih11 _ _ _ h)
set_option maxRecDepth 20000 in
set_option maxHeartbeats 4000000 in
theorem sX4_codeOf {X : CX} {a : Nat → Nat} {D : va_G} {tI tJ tB tS : ClassId} {kK kV : Nat → Nat} {σ : St}  {p1 : Int32} {r : St × Int32} (hX : OKX X (vC a D tI tJ tB tS kK kV) cX4_codeOf 4 RX4 1 22) (hR : ∀ (pc : Nat) (lv : List (Nat × Value)), decode cX4_codeOf pc = .ok (.ireturn, 1) → G X (vC a D tI tJ tB tS kK kV) 4 r.1 pc lv [.int r.2])  (h : fX4_codeOf σ p1 = some r) : G X (vC a D tI tJ tB tS kK kV) 4 σ 0 [(0, .ref (a 53)), (1, .int p1)] [] := by
  unfold fX4_codeOf at h
  refine g_iload_n hX 1 dX4_codeOf_0 rfl rfl ?_
  refine g_iconst hX (-1) dX4_codeOf_1 (by decide) ?_
  refine g_icmp_ne hX 7 dX4_codeOf_2 (by decide) h (fun h => ?_) (fun h => ?_)
  · refine g_iconst hX (0) dX4_codeOf_7 (by decide) ?_
    refine g_istore_n (lv' := fun x2_1 => [(2, .int x2_1), (0, .ref (a 53)), (1, .int p1)]) hX dX4_codeOf_8 rfl (by decide) (fun _ => rfl) h (fun x2_1 h => ?_)
    refine g_iconst hX (0) dX4_codeOf_9 (by decide) ?_
    refine g_istore_n (lv' := fun x3_2 => [(3, .int x3_2), (2, .int x2_1), (0, .ref (a 53)), (1, .int p1)]) hX dX4_codeOf_10 rfl (by decide) (fun _ => rfl) h (fun x3_2 h => ?_)
    refine g_sub [2, 3, 1, 0] rfl (sX4_codeOf_L11 hX hR (fun σ_7 x2_8 x3_9 h => ?_) FU _ _ _ h)
    refine g_iload_n hX 0 dX4_codeOf_41 rfl rfl ?_
    exact g_reti hR h dX4_codeOf_42
  · refine g_iconst hX (-1) dX4_codeOf_5 (by decide) ?_
    exact g_reti hR h dX4_codeOf_6
set_option maxRecDepth 20000 in
set_option maxHeartbeats 4000000 in
theorem kX4_codeOf (l : Launch) {a : Nat → Nat} {D : va_G} {tI tJ tB tS : ClassId} {kK kV : Nat → Nat} {σ τ : St}  {p1 : Int32} {x : Int32} (h : fX4_codeOf σ p1 = some (τ, x)) : CtI l yX4_codeOf cX4_codeOf 4 (some .int) 1 22 (vC a D tI tJ tB tS kK kV) σ [.ref (a 53), .int p1] τ x := g_metI (by decide) (Nat.le_of_ble_eq_true rfl) rfl (fun X _ hX hR => sX4_codeOf (r := (τ, x)) hX hR h)
def fX4_howMany_L4 (q1_4 : Int32) (kx4 : St → Int32 → Int32 → Option (St × Int32)) : Nat → St → Int32 → Int32 → Option (St × Int32)
  | 0, _, _, _ => none
  | n4 + 1, σ, c2_4, c3_4 =>
    (if (σ.1 53 8) ≤ c3_4 then kx4 σ c2_4 c3_4 else chk (decide (0 ≤ σ.1 54 2147483648)) ((if (σ.1 54 2147483648) ≤ c3_4 then kx4 σ c2_4 c3_4 else chk (inb c3_4 (ix (σ.1 54 2147483648))) (bnd (c2_4 + (((σ.1 54 (ix c3_4)) >>> (q1_4 &&& 31)) &&& (1 : Int32))) fun (x2_3 : Int32) => bnd (c3_4 + (1 : Int32)) fun (x3_4 : Int32) => fX4_howMany_L4 q1_4 kx4 n4 σ x2_3 x3_4))))
def fX4_howMany (σ : St) (p1 : Int32) : Option (St × Int32) :=
  bnd (0 : Int32) fun (x2_1 : Int32) => bnd (0 : Int32) fun (x3_2 : Int32) => fX4_howMany_L4 p1 (fun (σ_5 : St) (x2_6 : Int32) (x3_7 : Int32) => some (σ_5, x2_6)) FU σ x2_1 x3_2
set_option maxRecDepth 20000 in
set_option maxHeartbeats 4000000 in
theorem sX4_howMany_L4 {X : CX} {a : Nat → Nat} {D : va_G} {tI tJ tB tS : ClassId} {kK kV : Nat → Nat} {q1_4 : Int32} {kx4 : St → Int32 → Int32 → Option (St × Int32)} {r : St × Int32} (hX : OKX X (vC a D tI tJ tB tS kK kV) cX4_howMany 4 RX4 0 0) (hR : ∀ (pc : Nat) (lv : List (Nat × Value)), decode cX4_howMany pc = .ok (.ireturn, 1) → G X (vC a D tI tJ tB tS kK kV) 4 r.1 pc lv [.int r.2]) (hkx4 : ∀ (σ : St) (e2_4 : Int32) (e3_4 : Int32), kx4 σ e2_4 e3_4 = some r → G X (vC a D tI tJ tB tS kK kV) 4 σ 40 [(2, .int e2_4)] []) : ∀ (n : Nat) (σ : St) (c2_4 : Int32) (c3_4 : Int32), fX4_howMany_L4 q1_4 kx4 n σ c2_4 c3_4 = some r → G X (vC a D tI tJ tB tS kK kV) 4 σ 4 [(0, .ref (a 53)), (1, .int q1_4), (2, .int c2_4), (3, .int c3_4)] [] := by
  intro n
  induction n with
  | zero => intro σ c2_4 c3_4 h; rw [fX4_howMany_L4] at h; exact absurd h (by simp)
  | succ n4 ih4 =>
    intro σ c2_4 c3_4 h
    rw [fX4_howMany_L4] at h
    refine g_iload_n hX 3 dX4_howMany_4 rfl rfl ?_
    refine g_aload_n hX 0 dX4_howMany_5 rfl rfl ?_
    refine gCX4_40_53 hX dX4_howMany_6 ?_
    refine g_icmp_ge hX 40 dX4_howMany_9 (by decide) h (fun h => ?_) (fun h => ?_)
    · exact g_sub [2] rfl (hkx4 _ _ _ h)
    · refine g_iload_n hX 3 dX4_howMany_12 rfl rfl ?_
      refine g_aload_n hX 0 dX4_howMany_13 rfl rfl ?_
      refine gCX4_27_53 hX dX4_howMany_14 ?_
      refine lenC_54 hX dX4_howMany_17 h (fun h => ?_)
      refine g_icmp_ge hX 40 dX4_howMany_18 (by decide) h (fun h => ?_) (fun h => ?_)
      · exact g_sub [2] rfl (hkx4 _ _ _ h)
      · refine g_iload_n hX 2 dX4_howMany_21 rfl rfl ?_
        refine g_aload_n hX 0 dX4_howMany_22 rfl rfl ?_
        refine gCX4_27_53 hX dX4_howMany_23 ?_
        refine g_iload_n hX 3 dX4_howMany_26 rfl rfl ?_
        refine alC_54 hX dX4_howMany_27 h (fun h => ?_)
        refine g_iload_n hX 1 dX4_howMany_28 rfl rfl ?_
        refine g_ishr hX dX4_howMany_29 ?_
        refine g_iconst hX (1) dX4_howMany_30 (by decide) ?_
        refine g_iand hX dX4_howMany_31 ?_
        refine g_iadd hX dX4_howMany_32 ?_
        refine g_istore_n (lv' := fun x2_3 => [(2, .int x2_3), (0, .ref (a 53)), (1, .int q1_4), (3, .int c3_4)]) hX dX4_howMany_33 rfl (by decide) (fun _ => rfl) h (fun x2_3 h => ?_)
        refine g_iinc (y := (1)) (lv' := fun x3_4 => [(3, .int x3_4), (2, .int x2_3), (0, .ref (a 53)), (1, .int q1_4)]) hX 3 dX4_howMany_34 rfl (by decide) (by decide) (fun _ => rfl) h (fun x3_4 h => ?_)
        refine g_goto hX 4 dX4_howMany_37 (by decide) ?_
        exact g_sub [2, 3, 1, 0] rfl (ih4 _ _ _ h)
set_option maxRecDepth 20000 in
set_option maxHeartbeats 4000000 in
theorem sX4_howMany {X : CX} {a : Nat → Nat} {D : va_G} {tI tJ tB tS : ClassId} {kK kV : Nat → Nat} {σ : St}  {p1 : Int32} {r : St × Int32} (hX : OKX X (vC a D tI tJ tB tS kK kV) cX4_howMany 4 RX4 0 0) (hR : ∀ (pc : Nat) (lv : List (Nat × Value)), decode cX4_howMany pc = .ok (.ireturn, 1) → G X (vC a D tI tJ tB tS kK kV) 4 r.1 pc lv [.int r.2])  (h : fX4_howMany σ p1 = some r) : G X (vC a D tI tJ tB tS kK kV) 4 σ 0 [(0, .ref (a 53)), (1, .int p1)] [] := by
  unfold fX4_howMany at h
  refine g_iconst hX (0) dX4_howMany_0 (by decide) ?_
  refine g_istore_n (lv' := fun x2_1 => [(2, .int x2_1), (0, .ref (a 53)), (1, .int p1)]) hX dX4_howMany_1 rfl (by decide) (fun _ => rfl) h (fun x2_1 h => ?_)
  refine g_iconst hX (0) dX4_howMany_2 (by decide) ?_
  refine g_istore_n (lv' := fun x3_2 => [(3, .int x3_2), (2, .int x2_1), (0, .ref (a 53)), (1, .int p1)]) hX dX4_howMany_3 rfl (by decide) (fun _ => rfl) h (fun x3_2 h => ?_)
  refine g_sub [2, 3, 1, 0] rfl (sX4_howMany_L4 hX hR (fun σ_5 x2_6 x3_7 h => ?_) FU _ _ _ h)
  refine g_iload_n hX 0 dX4_howMany_40 rfl rfl ?_
  exact g_reti hR h dX4_howMany_41
set_option maxRecDepth 20000 in
set_option maxHeartbeats 4000000 in
theorem kX4_howMany (l : Launch) {a : Nat → Nat} {D : va_G} {tI tJ tB tS : ClassId} {kK kV : Nat → Nat} {σ τ : St}  {p1 : Int32} {x : Int32} (h : fX4_howMany σ p1 = some (τ, x)) : CtI l yX4_howMany cX4_howMany 4 (some .int) 0 0 (vC a D tI tJ tB tS kK kV) σ [.ref (a 53), .int p1] τ x := g_metI (by decide) (Nat.le_of_ble_eq_true rfl) rfl (fun X _ hX hR => sX4_howMany (r := (τ, x)) hX hR h)
def fX8_rests (σ : St) (p1 : Int32) : Option (St × Int32) :=
  (if (σ.1 2 0) = 0 then some (σ, (-1 : Int32)) else (if (-1 : Int32) ≤ p1 then cl (fX4_find σ ) fun (σ_1 : St) (t_2 : Unit) => (if p1 = (-1 : Int32) then cl (fX4_howMany σ_1 (0 : Int32)) fun (σ_7 : St) (t_8 : Int32) => some (σ_7, t_8) else cl (fX4_place σ_1 (0 : Int32) p1) fun (σ_3 : St) (t_4 : Int32) => cl (fX4_codeOf σ_3 t_4) fun (σ_5 : St) (t_6 : Int32) => some (σ_5, t_6)) else some (σ, (-1 : Int32))))
set_option maxRecDepth 20000 in
set_option maxHeartbeats 4000000 in
theorem sX8_rests {X : CX} {a : Nat → Nat} {D : va_G} {tI tJ tB tS : ClassId} {kK kV : Nat → Nat} {σ : St}  {p1 : Int32} {r : St × Int32} (hX : OKX X (vC a D tI tJ tB tS kK kV) cX8_rests 2 RX8 6 131) (hR : ∀ (pc : Nat) (lv : List (Nat × Value)), decode cX8_rests pc = .ok (.ireturn, 1) → G X (vC a D tI tJ tB tS kK kV) 2 r.1 pc lv [.int r.2])  (h : fX8_rests σ p1 = some r) : G X (vC a D tI tJ tB tS kK kV) 2 σ 0 [(0, .ref (a 0)), (1, .int p1)] [] := by
  unfold fX8_rests at h
  refine g_aload_n hX 0 dX8_rests_0 rfl rfl ?_
  refine gCX8_27_0 hX dX8_rests_1 ?_
  refine gCX8_118_2 hX dX8_rests_4 ?_
  refine g_if_eq hX 15 dX8_rests_7 (by decide) h (fun h => ?_) (fun h => ?_)
  · refine g_iconst hX (-1) dX8_rests_15 (by decide) ?_
    exact g_reti hR h dX8_rests_16
  · refine g_iload_n hX 1 dX8_rests_10 rfl rfl ?_
    refine g_iconst hX (-1) dX8_rests_11 (by decide) ?_
    refine g_icmp_ge hX 17 dX8_rests_12 (by decide) h (fun h => ?_) (fun h => ?_)
    · refine g_aload_n hX 0 dX8_rests_17 rfl rfl ?_
      refine gCX8_64_0 hX dX8_rests_18 ?_
      refine g_callNV (As := []) (rest := []) hX 53 (Nat.le_of_ble_eq_true rfl) rfl rfl miX4_find mvX4_find lkX8_202 (by decide) rfl (Nat.le_of_ble_eq_true rfl) rfl dX8_rests_21 (fun τ x ho => kX4_find _ ho) h (fun σ_1 t_2 h => ?_)
      refine g_iload_n hX 1 dX8_rests_24 rfl rfl ?_
      refine g_iconst hX (-1) dX8_rests_25 (by decide) ?_
      refine g_icmp_ne hX 40 dX8_rests_26 (by decide) h (fun h => ?_) (fun h => ?_)
      · refine g_aload_n hX 0 dX8_rests_40 rfl rfl ?_
        refine gCX8_64_0 hX dX8_rests_41 ?_
        refine g_aload_n hX 0 dX8_rests_44 rfl rfl ?_
        refine gCX8_64_0 hX dX8_rests_45 ?_
        refine g_iconst hX (0) dX8_rests_48 (by decide) ?_
        refine g_iload_n hX 1 dX8_rests_49 rfl rfl ?_
        refine g_callNI (As := [.int (0 : Int32), .int p1]) (rest := [.ref (a 53)]) hX 53 (Nat.le_of_ble_eq_true rfl) rfl rfl miX4_place mvX4_place lkX8_208 (by decide) rfl (Nat.le_of_ble_eq_true rfl) rfl dX8_rests_50 (fun τ x ho => kX4_place _ ho) h (fun σ_3 t_4 h => ?_)
        refine g_callNI (As := [.int t_4]) (rest := []) hX 53 (Nat.le_of_ble_eq_true rfl) rfl rfl miX4_codeOf mvX4_codeOf lkX8_211 (by decide) rfl (Nat.le_of_ble_eq_true rfl) rfl dX8_rests_53 (fun τ x ho => kX4_codeOf _ ho) h (fun σ_5 t_6 h => ?_)
        exact g_reti hR h dX8_rests_56
      · refine g_aload_n hX 0 dX8_rests_29 rfl rfl ?_
        refine gCX8_64_0 hX dX8_rests_30 ?_
        refine g_iconst hX (0) dX8_rests_33 (by decide) ?_
        refine g_callNI (As := [.int (0 : Int32)]) (rest := []) hX 53 (Nat.le_of_ble_eq_true rfl) rfl rfl miX4_howMany mvX4_howMany lkX8_205 (by decide) rfl (Nat.le_of_ble_eq_true rfl) rfl dX8_rests_34 (fun τ x ho => kX4_howMany _ ho) h (fun σ_7 t_8 h => ?_)
        refine g_goto hX 56 dX8_rests_37 (by decide) ?_
        exact g_reti hR h dX8_rests_56
    · refine g_iconst hX (-1) dX8_rests_15 (by decide) ?_
      exact g_reti hR h dX8_rests_16
set_option maxRecDepth 20000 in
set_option maxHeartbeats 4000000 in
theorem kX8_rests (l : Launch) {a : Nat → Nat} {D : va_G} {tI tJ tB tS : ClassId} {kK kV : Nat → Nat} {σ τ : St}  {p1 : Int32} {x : Int32} (h : fX8_rests σ p1 = some (τ, x)) : CtI l yX8_rests cX8_rests 2 (some .int) 6 131 (vC a D tI tJ tB tS kK kV) σ [.ref (a 0), .int p1] τ x := g_metI (by decide) (Nat.le_of_ble_eq_true rfl) rfl (fun X _ hX hR => sX8_rests (r := (τ, x)) hX hR h)
def fX7_partsFrom_L5 (q1_5 : Int32) (kx5 : St → Int32 → Int32 → Option (St × Int32)) : Nat → St → Int32 → Int32 → Option (St × Int32)
  | 0, _, _, _ => none
  | n5 + 1, σ, c3_5, c4_5 =>
    (if (σ.1 2 2) ≤ c4_5 then kx5 σ c3_5 c4_5 else chk (inb ((q1_5 * (8 : Int32)) + c4_5) 32) (bnd (c3_5 + (σ.1 45 (ix ((q1_5 * (8 : Int32)) + c4_5)))) fun (x3_3 : Int32) => bnd (c4_5 + (1 : Int32)) fun (x4_4 : Int32) => fX7_partsFrom_L5 q1_5 kx5 n5 σ x3_3 x4_4))
def fX7_partsFrom (σ : St) (p1 : Int32) (p2 : Int32) : Option (St × Int32) :=
  bnd (0 : Int32) fun (x3_1 : Int32) => bnd p2 fun (x4_2 : Int32) => fX7_partsFrom_L5 p1 (fun (σ_5 : St) (x3_6 : Int32) (x4_7 : Int32) => some (σ_5, x3_6)) FU σ x3_1 x4_2
set_option maxRecDepth 20000 in
set_option maxHeartbeats 4000000 in
theorem sX7_partsFrom_L5 {X : CX} {a : Nat → Nat} {D : va_G} {tI tJ tB tS : ClassId} {kK kV : Nat → Nat} {q1_5 : Int32} {kx5 : St → Int32 → Int32 → Option (St × Int32)} {r : St × Int32} (hX : OKX X (vC a D tI tJ tB tS kK kV) cX7_partsFrom 5 RX7 0 0) (hR : ∀ (pc : Nat) (lv : List (Nat × Value)), decode cX7_partsFrom pc = .ok (.ireturn, 1) → G X (vC a D tI tJ tB tS kK kV) 5 r.1 pc lv [.int r.2]) (hkx5 : ∀ (σ : St) (e3_5 : Int32) (e4_5 : Int32), kx5 σ e3_5 e4_5 = some r → G X (vC a D tI tJ tB tS kK kV) 5 σ 38 [(3, .int e3_5)] []) : ∀ (n : Nat) (σ : St) (c3_5 : Int32) (c4_5 : Int32), fX7_partsFrom_L5 q1_5 kx5 n σ c3_5 c4_5 = some r → G X (vC a D tI tJ tB tS kK kV) 5 σ 5 [(0, .ref (a 43)), (1, .int q1_5), (3, .int c3_5), (4, .int c4_5)] [] := by
  intro n
  induction n with
  | zero => intro σ c3_5 c4_5 h; rw [fX7_partsFrom_L5] at h; exact absurd h (by simp)
  | succ n5 ih5 =>
    intro σ c3_5 c4_5 h
    rw [fX7_partsFrom_L5] at h
    refine g_iload hX 3 dX7_partsFrom_5 rfl ?_
    refine g_aload_n hX 0 dX7_partsFrom_7 rfl rfl ?_
    refine gCX7_9_43 hX dX7_partsFrom_8 ?_
    refine gCX7_106_2 hX dX7_partsFrom_11 ?_
    refine g_icmp_ge hX 38 dX7_partsFrom_14 (by decide) h (fun h => ?_) (fun h => ?_)
    · exact g_sub [2] rfl (hkx5 _ _ _ h)
    · refine g_iload_n hX 2 dX7_partsFrom_17 rfl rfl ?_
      refine g_aload_n hX 0 dX7_partsFrom_18 rfl rfl ?_
      refine gCX7_27_43 hX dX7_partsFrom_19 ?_
      refine g_iload_n hX 1 dX7_partsFrom_22 rfl rfl ?_
      refine g_bipush hX (8) dX7_partsFrom_23 (by decide) ?_
      refine g_imul hX dX7_partsFrom_25 ?_
      refine g_iload hX 3 dX7_partsFrom_26 rfl ?_
      refine g_iadd hX dX7_partsFrom_28 ?_
      refine alC_45 hX dX7_partsFrom_29 h (fun h => ?_)
      refine g_iadd hX dX7_partsFrom_30 ?_
      refine g_istore_n (lv' := fun x3_3 => [(3, .int x3_3), (0, .ref (a 43)), (1, .int q1_5), (4, .int c4_5)]) hX dX7_partsFrom_31 rfl (by decide) (fun _ => rfl) h (fun x3_3 h => ?_)
      refine g_iinc (y := (1)) (lv' := fun x4_4 => [(4, .int x4_4), (3, .int x3_3), (0, .ref (a 43)), (1, .int q1_5)]) hX 3 dX7_partsFrom_32 rfl (by decide) (by decide) (fun _ => rfl) h (fun x4_4 h => ?_)
      refine g_goto hX 5 dX7_partsFrom_35 (by decide) ?_
      exact g_sub [2, 3, 1, 0] rfl (ih5 _ _ _ h)
set_option maxRecDepth 20000 in
set_option maxHeartbeats 4000000 in
theorem sX7_partsFrom {X : CX} {a : Nat → Nat} {D : va_G} {tI tJ tB tS : ClassId} {kK kV : Nat → Nat} {σ : St}  {p1 : Int32} {p2 : Int32} {r : St × Int32} (hX : OKX X (vC a D tI tJ tB tS kK kV) cX7_partsFrom 5 RX7 0 0) (hR : ∀ (pc : Nat) (lv : List (Nat × Value)), decode cX7_partsFrom pc = .ok (.ireturn, 1) → G X (vC a D tI tJ tB tS kK kV) 5 r.1 pc lv [.int r.2])  (h : fX7_partsFrom σ p1 p2 = some r) : G X (vC a D tI tJ tB tS kK kV) 5 σ 0 [(0, .ref (a 43)), (1, .int p1), (2, .int p2)] [] := by
  unfold fX7_partsFrom at h
  refine g_iconst hX (0) dX7_partsFrom_0 (by decide) ?_
  refine g_istore_n (lv' := fun x3_1 => [(3, .int x3_1), (0, .ref (a 43)), (1, .int p1), (2, .int p2)]) hX dX7_partsFrom_1 rfl (by decide) (fun _ => rfl) h (fun x3_1 h => ?_)
  refine g_iload_n hX 3 dX7_partsFrom_2 rfl rfl ?_
  refine g_istore (lv' := fun x4_2 => [(4, .int x4_2), (3, .int x3_1), (0, .ref (a 43)), (1, .int p1), (2, .int p2)]) hX dX7_partsFrom_3 (by decide) (fun _ => rfl) h (fun x4_2 h => ?_)
  refine g_sub [2, 3, 1, 0] rfl (sX7_partsFrom_L5 hX hR (fun σ_5 x3_6 x4_7 h => ?_) FU _ _ _ h)
  refine g_iload_n hX 0 dX7_partsFrom_38 rfl rfl ?_
  exact g_reti hR h dX7_partsFrom_39
set_option maxRecDepth 20000 in
set_option maxHeartbeats 4000000 in
theorem kX7_partsFrom (l : Launch) {a : Nat → Nat} {D : va_G} {tI tJ tB tS : ClassId} {kK kV : Nat → Nat} {σ τ : St}  {p1 : Int32} {p2 : Int32} {x : Int32} (h : fX7_partsFrom σ p1 p2 = some (τ, x)) : CtI l yX7_partsFrom cX7_partsFrom 5 (some .int) 0 0 (vC a D tI tJ tB tS kK kV) σ [.ref (a 43), .int p1, .int p2] τ x := g_metI (by decide) (Nat.le_of_ble_eq_true rfl) rfl (fun X _ hX hR => sX7_partsFrom (r := (τ, x)) hX hR h)
def fX7_weightFrom_L5 (q1_5 : Int32) (q2_5 : Int32) (kx5 : St → Int64 → Int32 → Option (St × Int64)) : Nat → St → Int64 → Int32 → Option (St × Int64)
  | 0, _, _, _ => none
  | n5 + 1, σ, c3_5, c5_5 =>
    (if (σ.1 2 0) ≤ c5_5 then kx5 σ c3_5 c5_5 else (jp (fun (σ_3 : St)  (t_4 : Int64) => bnd (c3_5 * t_4) fun (x3_5 : Int64) => bnd (c5_5 + (1 : Int32)) fun (x5_6 : Int32) => fX7_weightFrom_L5 q1_5 q2_5 kx5 n5 σ_3 x3_5 x5_6) fun j41 => (if ((q1_5 >>> (c5_5 &&& 31)) &&& (1 : Int32)) = 0 then j41 σ (100 : Int64) else cl (fX7_partsFrom σ c5_5 q2_5) fun (σ_7 : St) (t_8 : Int32) => j41 σ_7 ((t_8).toInt64))))
def fX7_weightFrom (σ : St) (p1 : Int32) (p2 : Int32) : Option (St × Int64) :=
  bnd (1 : Int64) fun (x3_1 : Int64) => bnd (0 : Int32) fun (x5_2 : Int32) => fX7_weightFrom_L5 p1 p2 (fun (σ_9 : St) (x3_10 : Int64) (x5_11 : Int32) => some (σ_9, x3_10)) FU σ x3_1 x5_2
set_option maxRecDepth 20000 in
set_option maxHeartbeats 4000000 in
theorem sX7_weightFrom_L5 {X : CX} {a : Nat → Nat} {D : va_G} {tI tJ tB tS : ClassId} {kK kV : Nat → Nat} {q1_5 : Int32} {q2_5 : Int32} {kx5 : St → Int64 → Int32 → Option (St × Int64)} {r : St × Int64} (hX : OKX X (vC a D tI tJ tB tS kK kV) cX7_weightFrom 6 RX7 1 24) (hR : ∀ (pc : Nat) (lv : List (Nat × Value)), decode cX7_weightFrom pc = .ok (.lreturn, 1) → G X (vC a D tI tJ tB tS kK kV) 6 r.1 pc lv [.long r.2]) (hkx5 : ∀ (σ : St) (e3_5 : Int64) (e5_5 : Int32), kx5 σ e3_5 e5_5 = some r → G X (vC a D tI tJ tB tS kK kV) 6 σ 49 [(3, .long e3_5)] []) : ∀ (n : Nat) (σ : St) (c3_5 : Int64) (c5_5 : Int32), fX7_weightFrom_L5 q1_5 q2_5 kx5 n σ c3_5 c5_5 = some r → G X (vC a D tI tJ tB tS kK kV) 6 σ 5 [(0, .ref (a 43)), (1, .int q1_5), (2, .int q2_5), (3, .long c3_5), (5, .int c5_5)] [] := by
  intro n
  induction n with
  | zero => intro σ c3_5 c5_5 h; rw [fX7_weightFrom_L5] at h; exact absurd h (by simp)
  | succ n5 ih5 =>
    intro σ c3_5 c5_5 h
    rw [fX7_weightFrom_L5] at h
    refine g_iload hX 4 dX7_weightFrom_5 rfl ?_
    refine g_aload_n hX 0 dX7_weightFrom_7 rfl rfl ?_
    refine gCX7_9_43 hX dX7_weightFrom_8 ?_
    refine gCX7_85_2 hX dX7_weightFrom_11 ?_
    refine g_icmp_ge hX 49 dX7_weightFrom_14 (by decide) h (fun h => ?_) (fun h => ?_)
    · exact g_sub [3] rfl (hkx5 _ _ _ h)
    · refine g_lload_n hX 3 dX7_weightFrom_17 rfl rfl ?_
      refine g_iload_n hX 1 dX7_weightFrom_18 rfl rfl ?_
      refine g_iload hX 4 dX7_weightFrom_19 rfl ?_
      refine g_ishr hX dX7_weightFrom_21 ?_
      refine g_iconst hX (1) dX7_weightFrom_22 (by decide) ?_
      refine g_iand hX dX7_weightFrom_23 ?_
      refine jp_inv (P := fun f => ∀ (σ_3 : St)  (t_4 : Int64), f σ_3 t_4 = some r → G X (vC a D tI tJ tB tS kK kV) 6 σ_3 41 [(0, .ref (a 43)), (1, .int q1_5), (2, .int q2_5), (5, .int c5_5)] [.long t_4, .long c3_5]) h (fun σ_3 t_4 h => ?_) (fun j41 hj41 h => ?_)
      · refine g_lmul hX dX7_weightFrom_41 ?_
        refine g_lstore_n (lv' := fun x3_5 => [(3, .long x3_5), (0, .ref (a 43)), (1, .int q1_5), (2, .int q2_5), (5, .int c5_5)]) hX dX7_weightFrom_42 rfl (by decide) (fun _ => rfl) h (fun x3_5 h => ?_)
        refine g_iinc (y := (1)) (lv' := fun x5_6 => [(5, .int x5_6), (3, .long x3_5), (0, .ref (a 43)), (1, .int q1_5), (2, .int q2_5)]) hX 4 dX7_weightFrom_43 rfl (by decide) (by decide) (fun _ => rfl) h (fun x5_6 h => ?_)
        refine g_goto hX 5 dX7_weightFrom_46 (by decide) ?_
        exact g_sub [2, 3, 4, 1, 0] rfl (ih5 _ _ _ h)
      refine g_if_eq hX 38 dX7_weightFrom_24 (by decide) h (fun h => ?_) (fun h => ?_)
      · refine g_ldc2 hX lkX7_198 dX7_weightFrom_38 ?_
        exact g_sub [0, 1, 2, 4] rfl (hj41 _ _ h)
      · refine g_aload_n hX 0 dX7_weightFrom_27 rfl rfl ?_
        refine g_iload hX 4 dX7_weightFrom_28 rfl ?_
        refine g_iload_n hX 2 dX7_weightFrom_30 rfl rfl ?_
        refine g_callVI (As := [.int c5_5, .int q2_5]) (rest := [.long c3_5]) hX 43 (Nat.le_of_ble_eq_true rfl) rfl rfl miX7_partsFrom mvX7_partsFrom lkX7_206 (by decide) rfl (Nat.le_of_ble_eq_true rfl) rfl dX7_weightFrom_31 (fun τ x ho => kX7_partsFrom _ ho) h (fun σ_7 t_8 h => ?_)
        refine g_i2l hX dX7_weightFrom_34 ?_
        refine g_goto hX 41 dX7_weightFrom_35 (by decide) ?_
        exact g_sub [0, 1, 2, 4] rfl (hj41 _ _ h)
set_option maxRecDepth 20000 in
set_option maxHeartbeats 4000000 in
theorem sX7_weightFrom {X : CX} {a : Nat → Nat} {D : va_G} {tI tJ tB tS : ClassId} {kK kV : Nat → Nat} {σ : St}  {p1 : Int32} {p2 : Int32} {r : St × Int64} (hX : OKX X (vC a D tI tJ tB tS kK kV) cX7_weightFrom 6 RX7 1 24) (hR : ∀ (pc : Nat) (lv : List (Nat × Value)), decode cX7_weightFrom pc = .ok (.lreturn, 1) → G X (vC a D tI tJ tB tS kK kV) 6 r.1 pc lv [.long r.2])  (h : fX7_weightFrom σ p1 p2 = some r) : G X (vC a D tI tJ tB tS kK kV) 6 σ 0 [(0, .ref (a 43)), (1, .int p1), (2, .int p2)] [] := by
  unfold fX7_weightFrom at h
  refine g_lconst hX (1) dX7_weightFrom_0 (by decide) ?_
  refine g_lstore_n (lv' := fun x3_1 => [(3, .long x3_1), (0, .ref (a 43)), (1, .int p1), (2, .int p2)]) hX dX7_weightFrom_1 rfl (by decide) (fun _ => rfl) h (fun x3_1 h => ?_)
  refine g_iconst hX (0) dX7_weightFrom_2 (by decide) ?_
  refine g_istore (lv' := fun x5_2 => [(5, .int x5_2), (3, .long x3_1), (0, .ref (a 43)), (1, .int p1), (2, .int p2)]) hX dX7_weightFrom_3 (by decide) (fun _ => rfl) h (fun x5_2 h => ?_)
  refine g_sub [2, 3, 4, 1, 0] rfl (sX7_weightFrom_L5 hX hR (fun σ_9 x3_10 x5_11 h => ?_) FU _ _ _ h)
  refine g_lload_n hX 0 dX7_weightFrom_49 rfl rfl ?_
  exact g_retl hR h dX7_weightFrom_50
set_option maxRecDepth 20000 in
set_option maxHeartbeats 4000000 in
theorem kX7_weightFrom (l : Launch) {a : Nat → Nat} {D : va_G} {tI tJ tB tS : ClassId} {kK kV : Nat → Nat} {σ τ : St}  {p1 : Int32} {p2 : Int32} {x : Int64} (h : fX7_weightFrom σ p1 p2 = some (τ, x)) : CtL l yX7_weightFrom cX7_weightFrom 6 (some .long) 1 24 (vC a D tI tJ tB tS kK kV) σ [.ref (a 43), .int p1, .int p2] τ x := g_metL (by decide) (Nat.le_of_ble_eq_true rfl) rfl (fun X _ hX hR => sX7_weightFrom (r := (τ, x)) hX hR h)
def fX7_bill_L51 (q1_51 : Int32) (q2_51 : Int32) (q3_51 : Int64) (kx51 : St → Int32 → Option (St × Unit)) : Nat → St → Int32 → Option (St × Unit)
  | 0, _, _ => none
  | n51 + 1, σ, c5_51 =>
    (if (σ.1 2 2) ≤ c5_51 then kx51 σ c5_51 else (if (lg_cmp q3_51 (0 : Int64)) ≤ 0 then kx51 σ c5_51 else cl (fX6_price σ c5_51) fun (σ_10 : St) (t_11 : Int32) => chk (inb q1_51 12) ((jp (fun (σ_12 : St)   => bnd (c5_51 + (1 : Int32)) fun (x5_13 : Int32) => fX7_bill_L51 q1_51 q2_51 q3_51 kx51 n51 σ_12 x5_13) fun j148 => (if (σ_10.1 8 (ix q1_51)) < t_11 then j148 σ_10 else cl (fX7_weightFrom σ_10 q2_51 c5_51) fun (σ_14 : St) (t_15 : Int64) => cl (fX7_weightFrom σ_14 q2_51 (c5_51 + (1 : Int32))) fun (σ_16 : St) (t_17 : Int64) => bnd (((t_15 - t_17) * q3_51) * (12 : Int64)) fun (x6_18 : Int64) => bnd (sL σ_16 43 13 ((σ_16.2 43 13) + x6_18)) fun (σ_19 : St) => cl (fX6_price σ_19 c5_51) fun (σ_20 : St) (t_21 : Int32) => bnd (sL σ_20 43 12 ((σ_19.2 43 12) + (x6_18 * ((t_21).toInt64)))) fun (σ_22 : St) => j148 σ_22)))))
def fX7_bill_L12 (q1_12 : Int32) (kx12 : St → Int32 → Option (St × Unit)) : Nat → St → Int32 → Option (St × Unit)
  | 0, _, _ => none
  | n12 + 1, σ, c2_12 =>
    cl (fX6_everyone σ ) fun (σ_4 : St) (t_5 : Int32) => (if t_5 < c2_12 then kx12 σ_4 c2_12 else cl (fX6_setsLike σ_4 q1_12 c2_12 (σ_4.1 43 14)) fun (σ_6 : St) (t_7 : Int32) => chk (inb q1_12 12) (bnd (((t_7 * (σ_6.1 6 (ix q1_12)))).toInt64) fun (x3_8 : Int64) => bnd (0 : Int32) fun (x5_9 : Int32) => fX7_bill_L51 q1_12 c2_12 x3_8 (fun (σ_23 : St) (x5_24 : Int32) => bnd (c2_12 + (1 : Int32)) fun (x2_25 : Int32) => fX7_bill_L12 q1_12 kx12 n12 σ_23 x2_25) FU σ_6 x5_9))
def fX7_bill (σ : St) (p1 : Int32) : Option (St × Unit) :=
  bnd (sL σ 43 12 (0 : Int64)) fun (σ_1 : St) => bnd (sL σ_1 43 13 (0 : Int64)) fun (σ_2 : St) => bnd (1 : Int32) fun (x2_3 : Int32) => fX7_bill_L12 p1 (fun (σ_26 : St) (x2_27 : Int32) => some (σ_26, ())) FU σ_2 x2_3
set_option maxRecDepth 20000 in
set_option maxHeartbeats 4000000 in
theorem sX7_bill_L51 {X : CX} {a : Nat → Nat} {D : va_G} {tI tJ tB tS : ClassId} {kK kV : Nat → Nat} {q1_51 : Int32} {q2_51 : Int32} {q3_51 : Int64} {kx51 : St → Int32 → Option (St × Unit)} {r : St × Unit} (hX : OKX X (vC a D tI tJ tB tS kK kV) cX7_bill 8 RX7 3 67) (hR : ∀ (pc : Nat) (lv : List (Nat × Value)), decode cX7_bill pc = .ok (.return_, 1) → G X (vC a D tI tJ tB tS kK kV) 8 r.1 pc lv []) (hkx51 : ∀ (σ : St) (e5_51 : Int32), kx51 σ e5_51 = some r → G X (vC a D tI tJ tB tS kK kV) 8 σ 154 [(0, .ref (a 43)), (1, .int q1_51), (2, .int q2_51)] []) : ∀ (n : Nat) (σ : St) (c5_51 : Int32), fX7_bill_L51 q1_51 q2_51 q3_51 kx51 n σ c5_51 = some r → G X (vC a D tI tJ tB tS kK kV) 8 σ 51 [(0, .ref (a 43)), (1, .int q1_51), (2, .int q2_51), (3, .long q3_51), (5, .int c5_51)] [] := by
  intro n
  induction n with
  | zero => intro σ c5_51 h; rw [fX7_bill_L51] at h; exact absurd h (by simp)
  | succ n51 ih51 =>
    intro σ c5_51 h
    rw [fX7_bill_L51] at h
    refine g_iload hX 4 dX7_bill_51 rfl ?_
    refine g_aload_n hX 0 dX7_bill_53 rfl rfl ?_
    refine gCX7_9_43 hX dX7_bill_54 ?_
    refine gCX7_106_2 hX dX7_bill_57 ?_
    refine g_icmp_ge hX 154 dX7_bill_60 (by decide) h (fun h => ?_) (fun h => ?_)
    · exact g_sub [0, 1, 2] rfl (hkx51 _ _ h)
    · refine g_lload_n hX 3 dX7_bill_63 rfl rfl ?_
      refine g_lconst hX (0) dX7_bill_64 (by decide) ?_
      refine g_lcmp hX dX7_bill_65 ?_
      refine g_if_le hX 154 dX7_bill_66 (by decide) h (fun h => ?_) (fun h => ?_)
      · exact g_sub [0, 1, 2] rfl (hkx51 _ _ h)
      · refine g_aload_n hX 0 dX7_bill_69 rfl rfl ?_
        refine gCX7_9_43 hX dX7_bill_70 ?_
        refine g_iload hX 4 dX7_bill_73 rfl ?_
        refine g_callNI (As := [.int c5_51]) (rest := []) hX 2 (Nat.le_of_ble_eq_true rfl) rfl rfl miX6_price mvX6_price lkX7_151 (by decide) rfl (Nat.le_of_ble_eq_true rfl) rfl dX7_bill_75 (fun τ x ho => kX6_price _ ho) h (fun σ_10 t_11 h => ?_)
        refine g_aload_n hX 0 dX7_bill_78 rfl rfl ?_
        refine gCX7_9_43 hX dX7_bill_79 ?_
        refine gCX7_144_2 hX dX7_bill_82 ?_
        refine g_iload_n hX 1 dX7_bill_85 rfl rfl ?_
        refine alC_8 hX dX7_bill_86 h (fun h => ?_)
        refine jp_inv (P := fun f => ∀ (σ_12 : St)  , f σ_12 = some r → G X (vC a D tI tJ tB tS kK kV) 8 σ_12 148 [(0, .ref (a 43)), (1, .int q1_51), (2, .int q2_51), (3, .long q3_51), (5, .int c5_51)] []) h (fun σ_12 h => ?_) (fun j148 hj148 h => ?_)
        · refine g_iinc (y := (1)) (lv' := fun x5_13 => [(5, .int x5_13), (0, .ref (a 43)), (1, .int q1_51), (2, .int q2_51), (3, .long q3_51)]) hX 4 dX7_bill_148 rfl (by decide) (by decide) (fun _ => rfl) h (fun x5_13 h => ?_)
          refine g_goto hX 51 dX7_bill_151 (by decide) ?_
          exact g_sub [1, 2, 3, 4, 0] rfl (ih51 _ _ h)
        refine g_icmp_gt hX 148 dX7_bill_87 (by decide) h (fun h => ?_) (fun h => ?_)
        · exact g_sub [0, 1, 2, 3, 4] rfl (hj148 _ h)
        · refine g_aload_n hX 0 dX7_bill_90 rfl rfl ?_
          refine g_iload_n hX 2 dX7_bill_91 rfl rfl ?_
          refine g_iload hX 4 dX7_bill_92 rfl ?_
          refine g_callVL (As := [.int q2_51, .int c5_51]) (rest := []) hX 43 (Nat.le_of_ble_eq_true rfl) rfl rfl miX7_weightFrom mvX7_weightFrom lkX7_209 (by decide) rfl (Nat.le_of_ble_eq_true rfl) rfl dX7_bill_94 (fun τ x ho => kX7_weightFrom _ ho) h (fun σ_14 t_15 h => ?_)
          refine g_aload_n hX 0 dX7_bill_97 rfl rfl ?_
          refine g_iload_n hX 2 dX7_bill_98 rfl rfl ?_
          refine g_iload hX 4 dX7_bill_99 rfl ?_
          refine g_iconst hX (1) dX7_bill_101 (by decide) ?_
          refine g_iadd hX dX7_bill_102 ?_
          refine g_callVL (As := [.int q2_51, .int (c5_51 + (1 : Int32))]) (rest := [.long t_15]) hX 43 (Nat.le_of_ble_eq_true rfl) rfl rfl miX7_weightFrom mvX7_weightFrom lkX7_209 (by decide) rfl (Nat.le_of_ble_eq_true rfl) rfl dX7_bill_103 (fun τ x ho => kX7_weightFrom _ ho) h (fun σ_16 t_17 h => ?_)
          refine g_lsub hX dX7_bill_106 ?_
          refine g_lload_n hX 3 dX7_bill_107 rfl rfl ?_
          refine g_lmul hX dX7_bill_108 ?_
          refine g_ldc2 hX lkX7_212 dX7_bill_109 ?_
          refine g_lmul hX dX7_bill_112 ?_
          refine g_lstore (lv' := fun x6_18 => [(6, .long x6_18), (0, .ref (a 43)), (1, .int q1_51), (2, .int q2_51), (3, .long q3_51), (5, .int c5_51)]) hX dX7_bill_113 (by decide) (fun _ => rfl) h (fun x6_18 h => ?_)
          refine g_aload_n hX 1 dX7_bill_115 rfl rfl ?_
          refine g_dup hX dX7_bill_116 rfl ?_
          refine gCX7_56_43 hX dX7_bill_117 ?_
          refine g_lload hX 0 dX7_bill_120 rfl ?_
          refine g_ladd hX dX7_bill_122 ?_
          refine pCX7_56_43 hX dX7_bill_123 h (fun σ_19 h => ?_)
          refine g_aload_n hX 1 dX7_bill_126 rfl rfl ?_
          refine g_dup hX dX7_bill_127 rfl ?_
          refine gCX7_52_43 hX dX7_bill_128 ?_
          refine g_lload hX 0 dX7_bill_131 rfl ?_
          refine g_aload_n hX 1 dX7_bill_133 rfl rfl ?_
          refine gCX7_9_43 hX dX7_bill_134 ?_
          refine g_iload hX 5 dX7_bill_137 rfl ?_
          refine g_callNI (As := [.int c5_51]) (rest := [.long x6_18, .long (σ_19.2 43 12), .ref (a 43)]) hX 2 (Nat.le_of_ble_eq_true rfl) rfl rfl miX6_price mvX6_price lkX7_151 (by decide) rfl (Nat.le_of_ble_eq_true rfl) rfl dX7_bill_139 (fun τ x ho => kX6_price _ ho) h (fun σ_20 t_21 h => ?_)
          refine g_i2l hX dX7_bill_142 ?_
          refine g_lmul hX dX7_bill_143 ?_
          refine g_ladd hX dX7_bill_144 ?_
          refine pCX7_52_43 hX dX7_bill_145 h (fun σ_22 h => ?_)
          exact g_sub [1, 2, 3, 4, 5] rfl (hj148 _ h)
set_option maxRecDepth 20000 in
set_option maxHeartbeats 4000000 in
theorem sX7_bill_L12 {X : CX} {a : Nat → Nat} {D : va_G} {tI tJ tB tS : ClassId} {kK kV : Nat → Nat} {q1_12 : Int32} {kx12 : St → Int32 → Option (St × Unit)} {r : St × Unit} (hX : OKX X (vC a D tI tJ tB tS kK kV) cX7_bill 8 RX7 3 67) (hR : ∀ (pc : Nat) (lv : List (Nat × Value)), decode cX7_bill pc = .ok (.return_, 1) → G X (vC a D tI tJ tB tS kK kV) 8 r.1 pc lv []) (hkx12 : ∀ (σ : St) (e2_12 : Int32), kx12 σ e2_12 = some r → G X (vC a D tI tJ tB tS kK kV) 8 σ 160 [] []) : ∀ (n : Nat) (σ : St) (c2_12 : Int32), fX7_bill_L12 q1_12 kx12 n σ c2_12 = some r → G X (vC a D tI tJ tB tS kK kV) 8 σ 12 [(0, .ref (a 43)), (1, .int q1_12), (2, .int c2_12)] [] := by
  intro n
  induction n with
  | zero => intro σ c2_12 h; rw [fX7_bill_L12] at h; exact absurd h (by simp)
  | succ n12 ih12 =>
    intro σ c2_12 h
    rw [fX7_bill_L12] at h
    refine g_iload_n hX 2 dX7_bill_12 rfl rfl ?_
    refine g_aload_n hX 0 dX7_bill_13 rfl rfl ?_
    refine gCX7_9_43 hX dX7_bill_14 ?_
    refine g_callNI (As := []) (rest := [.int c2_12]) hX 2 (Nat.le_of_ble_eq_true rfl) rfl rfl miX6_everyone mvX6_everyone lkX7_133 (by decide) rfl (Nat.le_of_ble_eq_true rfl) rfl dX7_bill_17 (fun τ x ho => kX6_everyone _ ho) h (fun σ_4 t_5 h => ?_)
    refine g_icmp_gt hX 160 dX7_bill_20 (by decide) h (fun h => ?_) (fun h => ?_)
    · exact g_sub [] rfl (hkx12 _ _ h)
    · refine g_aload_n hX 0 dX7_bill_23 rfl rfl ?_
      refine gCX7_9_43 hX dX7_bill_24 ?_
      refine g_iload_n hX 1 dX7_bill_27 rfl rfl ?_
      refine g_iload_n hX 2 dX7_bill_28 rfl rfl ?_
      refine g_aload_n hX 0 dX7_bill_29 rfl rfl ?_
      refine gCX7_59_43 hX dX7_bill_30 ?_
      refine g_callNI (As := [.int q1_12, .int c2_12, .int (σ_4.1 43 14)]) (rest := []) hX 2 (Nat.le_of_ble_eq_true rfl) rfl rfl miX6_setsLike mvX6_setsLike lkX7_137 (by decide) rfl (Nat.le_of_ble_eq_true rfl) rfl dX7_bill_33 (fun τ x ho => kX6_setsLike _ ho) h (fun σ_6 t_7 h => ?_)
      refine g_aload_n hX 0 dX7_bill_36 rfl rfl ?_
      refine gCX7_9_43 hX dX7_bill_37 ?_
      refine gCX7_141_2 hX dX7_bill_40 ?_
      refine g_iload_n hX 1 dX7_bill_43 rfl rfl ?_
      refine alC_6 hX dX7_bill_44 h (fun h => ?_)
      refine g_imul hX dX7_bill_45 ?_
      refine g_i2l hX dX7_bill_46 ?_
      refine g_lstore_n (lv' := fun x3_8 => [(3, .long x3_8), (0, .ref (a 43)), (1, .int q1_12), (2, .int c2_12)]) hX dX7_bill_47 rfl (by decide) (fun _ => rfl) h (fun x3_8 h => ?_)
      refine g_iconst hX (0) dX7_bill_48 (by decide) ?_
      refine g_istore (lv' := fun x5_9 => [(5, .int x5_9), (3, .long x3_8), (0, .ref (a 43)), (1, .int q1_12), (2, .int c2_12)]) hX dX7_bill_49 (by decide) (fun _ => rfl) h (fun x5_9 h => ?_)
      refine g_sub [2, 3, 4, 1, 0] rfl (sX7_bill_L51 hX hR (fun σ_23 x5_24 h => ?_) FU _ _ h)
      refine g_iinc (y := (1)) (lv' := fun x2_25 => [(2, .int x2_25), (0, .ref (a 43)), (1, .int q1_12)]) hX 2 dX7_bill_154 rfl (by decide) (by decide) (fun _ => rfl) h (fun x2_25 h => ?_)
      refine g_goto hX 12 dX7_bill_157 (by decide) ?_
      exact g_sub [1, 2, 0] rfl (ih12 _ _ h)
set_option maxRecDepth 20000 in
set_option maxHeartbeats 4000000 in
theorem sX7_bill {X : CX} {a : Nat → Nat} {D : va_G} {tI tJ tB tS : ClassId} {kK kV : Nat → Nat} {σ : St}  {p1 : Int32} {r : St × Unit} (hX : OKX X (vC a D tI tJ tB tS kK kV) cX7_bill 8 RX7 3 67) (hR : ∀ (pc : Nat) (lv : List (Nat × Value)), decode cX7_bill pc = .ok (.return_, 1) → G X (vC a D tI tJ tB tS kK kV) 8 r.1 pc lv [])  (h : fX7_bill σ p1 = some r) : G X (vC a D tI tJ tB tS kK kV) 8 σ 0 [(0, .ref (a 43)), (1, .int p1)] [] := by
  unfold fX7_bill at h
  refine g_aload_n hX 0 dX7_bill_0 rfl rfl ?_
  refine g_lconst hX (0) dX7_bill_1 (by decide) ?_
  refine pCX7_52_43 hX dX7_bill_2 h (fun σ_1 h => ?_)
  refine g_aload_n hX 0 dX7_bill_5 rfl rfl ?_
  refine g_lconst hX (0) dX7_bill_6 (by decide) ?_
  refine pCX7_56_43 hX dX7_bill_7 h (fun σ_2 h => ?_)
  refine g_iconst hX (1) dX7_bill_10 (by decide) ?_
  refine g_istore_n (lv' := fun x2_3 => [(2, .int x2_3), (0, .ref (a 43)), (1, .int p1)]) hX dX7_bill_11 rfl (by decide) (fun _ => rfl) h (fun x2_3 h => ?_)
  refine g_sub [1, 2, 0] rfl (sX7_bill_L12 hX hR (fun σ_26 x2_27 h => ?_) FU _ _ h)
  exact g_retv hR h dX7_bill_160
set_option maxRecDepth 20000 in
set_option maxHeartbeats 4000000 in
theorem kX7_bill (l : Launch) {a : Nat → Nat} {D : va_G} {tI tJ tB tS : ClassId} {kK kV : Nat → Nat} {σ τ : St}  {p1 : Int32} {x : Unit} (h : fX7_bill σ p1 = some (τ, x)) : CtV l yX7_bill cX7_bill 8 none 3 67 (vC a D tI tJ tB tS kK kV) σ [.ref (a 43), .int p1] τ x := g_metV (by decide) (Nat.le_of_ble_eq_true rfl) rfl (fun X _ hX hR => sX7_bill (r := (τ, x)) hX hR h)
def fX7_weightInAll (σ : St)  : Option (St × Int64) :=
  cl (fX7_weightFrom σ (0 : Int32) (0 : Int32)) fun (σ_1 : St) (t_2 : Int64) => some (σ_1, t_2)
set_option maxRecDepth 20000 in
set_option maxHeartbeats 4000000 in
theorem sX7_weightInAll {X : CX} {a : Nat → Nat} {D : va_G} {tI tJ tB tS : ClassId} {kK kV : Nat → Nat} {σ : St}   {r : St × Int64} (hX : OKX X (vC a D tI tJ tB tS kK kV) cX7_weightInAll 1 RX7 2 49) (hR : ∀ (pc : Nat) (lv : List (Nat × Value)), decode cX7_weightInAll pc = .ok (.lreturn, 1) → G X (vC a D tI tJ tB tS kK kV) 1 r.1 pc lv [.long r.2])  (h : fX7_weightInAll σ  = some r) : G X (vC a D tI tJ tB tS kK kV) 1 σ 0 [(0, .ref (a 43))] [] := by
  unfold fX7_weightInAll at h
  refine g_aload_n hX 0 dX7_weightInAll_0 rfl rfl ?_
  refine g_iconst hX (0) dX7_weightInAll_1 (by decide) ?_
  refine g_iconst hX (0) dX7_weightInAll_2 (by decide) ?_
  refine g_callVL (As := [.int (0 : Int32), .int (0 : Int32)]) (rest := []) hX 43 (Nat.le_of_ble_eq_true rfl) rfl rfl miX7_weightFrom mvX7_weightFrom lkX7_209 (by decide) rfl (Nat.le_of_ble_eq_true rfl) rfl dX7_weightInAll_3 (fun τ x ho => kX7_weightFrom _ ho) h (fun σ_1 t_2 h => ?_)
  exact g_retl hR h dX7_weightInAll_6
set_option maxRecDepth 20000 in
set_option maxHeartbeats 4000000 in
theorem kX7_weightInAll (l : Launch) {a : Nat → Nat} {D : va_G} {tI tJ tB tS : ClassId} {kK kV : Nat → Nat} {σ τ : St}   {x : Int64} (h : fX7_weightInAll σ  = some (τ, x)) : CtL l yX7_weightInAll cX7_weightInAll 1 (some .long) 2 49 (vC a D tI tJ tB tS kK kV) σ [.ref (a 43)] τ x := g_metL (by decide) (Nat.le_of_ble_eq_true rfl) rfl (fun X _ hX hR => sX7_weightInAll (r := (τ, x)) hX hR h)
def fX7_goneHome (σ : St) (p1 : Int32) : Option (St × Int64) :=
  cl (fX6_setsInAll σ p1) fun (σ_1 : St) (t_2 : Int32) => chk (inb p1 12) (bnd (((t_2 * (σ_1.1 6 (ix p1)))).toInt64) fun (x2_3 : Int64) => cl (fX7_weightInAll σ_1 ) fun (σ_4 : St) (t_5 : Int64) => some (σ_4, (((x2_3 * (12 : Int64)) * t_5) - (σ_4.2 43 13))))
set_option maxRecDepth 20000 in
set_option maxHeartbeats 4000000 in
theorem sX7_goneHome {X : CX} {a : Nat → Nat} {D : va_G} {tI tJ tB tS : ClassId} {kK kV : Nat → Nat} {σ : St}  {p1 : Int32} {r : St × Int64} (hX : OKX X (vC a D tI tJ tB tS kK kV) cX7_goneHome 4 RX7 3 69) (hR : ∀ (pc : Nat) (lv : List (Nat × Value)), decode cX7_goneHome pc = .ok (.lreturn, 1) → G X (vC a D tI tJ tB tS kK kV) 4 r.1 pc lv [.long r.2])  (h : fX7_goneHome σ p1 = some r) : G X (vC a D tI tJ tB tS kK kV) 4 σ 0 [(0, .ref (a 43)), (1, .int p1)] [] := by
  unfold fX7_goneHome at h
  refine g_aload_n hX 0 dX7_goneHome_0 rfl rfl ?_
  refine gCX7_9_43 hX dX7_goneHome_1 ?_
  refine g_iload_n hX 1 dX7_goneHome_4 rfl rfl ?_
  refine g_callNI (As := [.int p1]) (rest := []) hX 2 (Nat.le_of_ble_eq_true rfl) rfl rfl miX6_setsInAll mvX6_setsInAll lkX7_214 (by decide) rfl (Nat.le_of_ble_eq_true rfl) rfl dX7_goneHome_5 (fun τ x ho => kX6_setsInAll _ ho) h (fun σ_1 t_2 h => ?_)
  refine g_aload_n hX 0 dX7_goneHome_8 rfl rfl ?_
  refine gCX7_9_43 hX dX7_goneHome_9 ?_
  refine gCX7_141_2 hX dX7_goneHome_12 ?_
  refine g_iload_n hX 1 dX7_goneHome_15 rfl rfl ?_
  refine alC_6 hX dX7_goneHome_16 h (fun h => ?_)
  refine g_imul hX dX7_goneHome_17 ?_
  refine g_i2l hX dX7_goneHome_18 ?_
  refine g_lstore_n (lv' := fun x2_3 => [(2, .long x2_3), (0, .ref (a 43)), (1, .int p1)]) hX dX7_goneHome_19 rfl (by decide) (fun _ => rfl) h (fun x2_3 h => ?_)
  refine g_lload_n hX 0 dX7_goneHome_20 rfl rfl ?_
  refine g_ldc2 hX lkX7_212 dX7_goneHome_21 ?_
  refine g_lmul hX dX7_goneHome_24 ?_
  refine g_aload_n hX 1 dX7_goneHome_25 rfl rfl ?_
  refine g_callVL (As := []) (rest := [.long (x2_3 * (12 : Int64))]) hX 43 (Nat.le_of_ble_eq_true rfl) rfl rfl miX7_weightInAll mvX7_weightInAll lkX7_217 (by decide) rfl (Nat.le_of_ble_eq_true rfl) rfl dX7_goneHome_26 (fun τ x ho => kX7_weightInAll _ ho) h (fun σ_4 t_5 h => ?_)
  refine g_lmul hX dX7_goneHome_29 ?_
  refine g_aload_n hX 1 dX7_goneHome_30 rfl rfl ?_
  refine gCX7_56_43 hX dX7_goneHome_31 ?_
  refine g_lsub hX dX7_goneHome_34 ?_
  exact g_retl hR h dX7_goneHome_35
set_option maxRecDepth 20000 in
set_option maxHeartbeats 4000000 in
theorem kX7_goneHome (l : Launch) {a : Nat → Nat} {D : va_G} {tI tJ tB tS : ClassId} {kK kV : Nat → Nat} {σ τ : St}  {p1 : Int32} {x : Int64} (h : fX7_goneHome σ p1 = some (τ, x)) : CtL l yX7_goneHome cX7_goneHome 4 (some .long) 3 69 (vC a D tI tJ tB tS kK kV) σ [.ref (a 43), .int p1] τ x := g_metL (by decide) (Nat.le_of_ble_eq_true rfl) rfl (fun X _ hX hR => sX7_goneHome (r := (τ, x)) hX hR h)
def fX8_pays (σ : St) (p1 : Int32) (p2 : Int32) : Option (St × Int64) :=
  cl (fX6_hasSort σ p1) fun (σ_1 : St) (t_2 : Int32) => (if t_2 = 0 then some (σ_1, (-1 : Int64)) else (if p2 < 0 then some (σ_1, (-1 : Int64)) else (if (2 : Int32) < p2 then some (σ_1, (-1 : Int64)) else cl (fX7_settle σ_1 ) fun (σ_3 : St) (t_4 : Int32) => (if t_4 = 0 then some (σ_3, (-1 : Int64)) else cl (fX7_bill σ_3 p1) fun (σ_5 : St) (t_6 : Unit) => (if p2 = 0 then some (σ_5, (σ_5.2 43 12)) else (if p2 = 1 then some (σ_5, (σ_5.2 43 13)) else cl (fX7_goneHome σ_5 p1) fun (σ_7 : St) (t_8 : Int64) => some (σ_7, t_8)))))))
set_option maxRecDepth 20000 in
set_option maxHeartbeats 4000000 in
theorem sX8_pays {X : CX} {a : Nat → Nat} {D : va_G} {tI tJ tB tS : ClassId} {kK kV : Nat → Nat} {σ : St}  {p1 : Int32} {p2 : Int32} {r : St × Int64} (hX : OKX X (vC a D tI tJ tB tS kK kV) cX8_pays 3 RX8 6 132) (hR : ∀ (pc : Nat) (lv : List (Nat × Value)), decode cX8_pays pc = .ok (.lreturn, 1) → G X (vC a D tI tJ tB tS kK kV) 3 r.1 pc lv [.long r.2])  (h : fX8_pays σ p1 p2 = some r) : G X (vC a D tI tJ tB tS kK kV) 3 σ 0 [(0, .ref (a 0)), (1, .int p1), (2, .int p2)] [] := by
  unfold fX8_pays at h
  refine g_aload_n hX 0 dX8_pays_0 rfl rfl ?_
  refine gCX8_27_0 hX dX8_pays_1 ?_
  refine g_iload_n hX 1 dX8_pays_4 rfl rfl ?_
  refine g_callNI (As := [.int p1]) (rest := []) hX 2 (Nat.le_of_ble_eq_true rfl) rfl rfl miX6_hasSort mvX6_hasSort lkX8_214 (by decide) rfl (Nat.le_of_ble_eq_true rfl) rfl dX8_pays_5 (fun τ x ho => kX6_hasSort _ ho) h (fun σ_1 t_2 h => ?_)
  refine g_if_eq hX 30 dX8_pays_8 (by decide) h (fun h => ?_) (fun h => ?_)
  · refine g_ldc2 hX lkX8_178 dX8_pays_30 ?_
    exact g_retl hR h dX8_pays_33
  · refine g_iload_n hX 2 dX8_pays_11 rfl rfl ?_
    refine g_if_lt hX 30 dX8_pays_12 (by decide) h (fun h => ?_) (fun h => ?_)
    · refine g_ldc2 hX lkX8_178 dX8_pays_30 ?_
      exact g_retl hR h dX8_pays_33
    · refine g_iload_n hX 2 dX8_pays_15 rfl rfl ?_
      refine g_iconst hX (2) dX8_pays_16 (by decide) ?_
      refine g_icmp_gt hX 30 dX8_pays_17 (by decide) h (fun h => ?_) (fun h => ?_)
      · refine g_ldc2 hX lkX8_178 dX8_pays_30 ?_
        exact g_retl hR h dX8_pays_33
      · refine g_aload_n hX 0 dX8_pays_20 rfl rfl ?_
        refine gCX8_55_0 hX dX8_pays_21 ?_
        refine g_callNI (As := []) (rest := []) hX 43 (Nat.le_of_ble_eq_true rfl) rfl rfl miX7_settle mvX7_settle lkX8_173 (by decide) rfl (Nat.le_of_ble_eq_true rfl) rfl dX8_pays_24 (fun τ x ho => kX7_settle _ ho) h (fun σ_3 t_4 h => ?_)
        refine g_if_ne hX 34 dX8_pays_27 (by decide) h (fun h => ?_) (fun h => ?_)
        · refine g_aload_n hX 0 dX8_pays_34 rfl rfl ?_
          refine gCX8_55_0 hX dX8_pays_35 ?_
          refine g_iload_n hX 1 dX8_pays_38 rfl rfl ?_
          refine g_callNV (As := [.int p1]) (rest := []) hX 43 (Nat.le_of_ble_eq_true rfl) rfl rfl miX7_bill mvX7_bill lkX8_217 (by decide) rfl (Nat.le_of_ble_eq_true rfl) rfl dX8_pays_39 (fun τ x ho => kX7_bill _ ho) h (fun σ_5 t_6 h => ?_)
          refine g_iload_n hX 2 dX8_pays_42 rfl rfl ?_
          refine ite_go h (fun hq h => ?_) (fun hs43_0 h => ?_)
          · refine g_lookIn (off := 25) (0) hX 68 hq dX8_pays_43 (by decide) (by decide) (by decide) ?_
            refine g_aload_n hX 0 dX8_pays_68 rfl rfl ?_
            refine gCX8_55_0 hX dX8_pays_69 ?_
            refine gCX8_220_43 hX dX8_pays_72 ?_
            exact g_retl hR h dX8_pays_75
          refine ite_go h (fun hq h => ?_) (fun hs43_1 h => ?_)
          · refine g_lookIn (off := 33) (1) hX 76 hq dX8_pays_43 (by decide) (by decide) (by decide) ?_
            refine g_aload_n hX 0 dX8_pays_76 rfl rfl ?_
            refine gCX8_55_0 hX dX8_pays_77 ?_
            refine gCX8_224_43 hX dX8_pays_80 ?_
            exact g_retl hR h dX8_pays_83
          refine g_look (off := 41) hX 84 dX8_pays_43 (by decide) (by have k0 := sw_ne hs43_0 (n := 0) (by decide); have k1 := sw_ne hs43_1 (n := 1) (by decide); simp only [Op.lookupswitch.offset_cons, Op.lookupswitch.offset_nil]; rw [if_neg (Ne.symm k0), if_neg (Ne.symm k1)]) (by decide) ?_
          refine g_aload_n hX 0 dX8_pays_84 rfl rfl ?_
          refine gCX8_55_0 hX dX8_pays_85 ?_
          refine g_iload_n hX 1 dX8_pays_88 rfl rfl ?_
          refine g_callNL (As := [.int p1]) (rest := []) hX 43 (Nat.le_of_ble_eq_true rfl) rfl rfl miX7_goneHome mvX7_goneHome lkX8_227 (by decide) rfl (Nat.le_of_ble_eq_true rfl) rfl dX8_pays_89 (fun τ x ho => kX7_goneHome _ ho) h (fun σ_7 t_8 h => ?_)
          exact g_retl hR h dX8_pays_92
        · refine g_ldc2 hX lkX8_178 dX8_pays_30 ?_
          exact g_retl hR h dX8_pays_33
set_option maxRecDepth 20000 in
set_option maxHeartbeats 4000000 in
theorem kX8_pays (l : Launch) {a : Nat → Nat} {D : va_G} {tI tJ tB tS : ClassId} {kK kV : Nat → Nat} {σ τ : St}  {p1 : Int32} {p2 : Int32} {x : Int64} (h : fX8_pays σ p1 p2 = some (τ, x)) : CtL l yX8_pays cX8_pays 3 (some .long) 6 132 (vC a D tI tJ tB tS kK kV) σ [.ref (a 0), .int p1, .int p2] τ x := g_metL (by decide) (Nat.le_of_ble_eq_true rfl) rfl (fun X _ hX hR => sX8_pays (r := (τ, x)) hX hR h)
def fX7_meanOf (σ : St) (p1 : Int32) : Option (St × Int32) :=
  cl (fX7_bill σ p1) fun (σ_1 : St) (t_2 : Unit) => (if (lg_cmp (σ_1.2 43 13) (0 : Int64)) ≤ 0 then some (σ_1, (-1 : Int32)) else chk (decide (¬ (σ_1.2 43 13) = 0)) (some (σ_1, (((((σ_1.2 43 12) * (1000 : Int64)) / (σ_1.2 43 13))).toInt32))))
set_option maxRecDepth 20000 in
set_option maxHeartbeats 4000000 in
theorem sX7_meanOf {X : CX} {a : Nat → Nat} {D : va_G} {tI tJ tB tS : ClassId} {kK kV : Nat → Nat} {σ : St}  {p1 : Int32} {r : St × Int32} (hX : OKX X (vC a D tI tJ tB tS kK kV) cX7_meanOf 2 RX7 4 94) (hR : ∀ (pc : Nat) (lv : List (Nat × Value)), decode cX7_meanOf pc = .ok (.ireturn, 1) → G X (vC a D tI tJ tB tS kK kV) 2 r.1 pc lv [.int r.2])  (h : fX7_meanOf σ p1 = some r) : G X (vC a D tI tJ tB tS kK kV) 2 σ 0 [(0, .ref (a 43)), (1, .int p1)] [] := by
  unfold fX7_meanOf at h
  refine g_aload_n hX 0 dX7_meanOf_0 rfl rfl ?_
  refine g_iload_n hX 1 dX7_meanOf_1 rfl rfl ?_
  refine g_callVV (As := [.int p1]) (rest := []) hX 43 (Nat.le_of_ble_eq_true rfl) rfl rfl miX7_bill mvX7_bill lkX7_221 (by decide) rfl (Nat.le_of_ble_eq_true rfl) rfl dX7_meanOf_2 (fun τ x ho => kX7_bill _ ho) h (fun σ_1 t_2 h => ?_)
  refine g_aload_n hX 0 dX7_meanOf_5 rfl rfl ?_
  refine gCX7_56_43 hX dX7_meanOf_6 ?_
  refine g_lconst hX (0) dX7_meanOf_9 (by decide) ?_
  refine g_lcmp hX dX7_meanOf_10 ?_
  refine g_if_le hX 31 dX7_meanOf_11 (by decide) h (fun h => ?_) (fun h => ?_)
  · refine g_iconst hX (-1) dX7_meanOf_31 (by decide) ?_
    exact g_reti hR h dX7_meanOf_32
  · refine g_aload_n hX 0 dX7_meanOf_14 rfl rfl ?_
    refine gCX7_52_43 hX dX7_meanOf_15 ?_
    refine g_ldc2 hX lkX7_224 dX7_meanOf_18 ?_
    refine g_lmul hX dX7_meanOf_21 ?_
    refine g_aload_n hX 0 dX7_meanOf_22 rfl rfl ?_
    refine gCX7_56_43 hX dX7_meanOf_23 ?_
    refine g_ldiv hX dX7_meanOf_26 h (fun h => ?_)
    refine g_l2i hX dX7_meanOf_27 ?_
    refine g_goto hX 32 dX7_meanOf_28 (by decide) ?_
    exact g_reti hR h dX7_meanOf_32
set_option maxRecDepth 20000 in
set_option maxHeartbeats 4000000 in
theorem kX7_meanOf (l : Launch) {a : Nat → Nat} {D : va_G} {tI tJ tB tS : ClassId} {kK kV : Nat → Nat} {σ τ : St}  {p1 : Int32} {x : Int32} (h : fX7_meanOf σ p1 = some (τ, x)) : CtI l yX7_meanOf cX7_meanOf 2 (some .int) 4 94 (vC a D tI tJ tB tS kK kV) σ [.ref (a 43), .int p1] τ x := g_metI (by decide) (Nat.le_of_ble_eq_true rfl) rfl (fun X _ hX hR => sX7_meanOf (r := (τ, x)) hX hR h)
def fX8_mean (σ : St) (p1 : Int32) : Option (St × Int32) :=
  cl (fX6_hasSort σ p1) fun (σ_1 : St) (t_2 : Int32) => (if t_2 = 0 then some (σ_1, (-1 : Int32)) else cl (fX7_settle σ_1 ) fun (σ_3 : St) (t_4 : Int32) => (if t_4 = 0 then some (σ_3, (-1 : Int32)) else cl (fX7_meanOf σ_3 p1) fun (σ_5 : St) (t_6 : Int32) => some (σ_5, t_6)))
set_option maxRecDepth 20000 in
set_option maxHeartbeats 4000000 in
theorem sX8_mean {X : CX} {a : Nat → Nat} {D : va_G} {tI tJ tB tS : ClassId} {kK kV : Nat → Nat} {σ : St}  {p1 : Int32} {r : St × Int32} (hX : OKX X (vC a D tI tJ tB tS kK kV) cX8_mean 2 RX8 6 132) (hR : ∀ (pc : Nat) (lv : List (Nat × Value)), decode cX8_mean pc = .ok (.ireturn, 1) → G X (vC a D tI tJ tB tS kK kV) 2 r.1 pc lv [.int r.2])  (h : fX8_mean σ p1 = some r) : G X (vC a D tI tJ tB tS kK kV) 2 σ 0 [(0, .ref (a 0)), (1, .int p1)] [] := by
  unfold fX8_mean at h
  refine g_aload_n hX 0 dX8_mean_0 rfl rfl ?_
  refine gCX8_27_0 hX dX8_mean_1 ?_
  refine g_iload_n hX 1 dX8_mean_4 rfl rfl ?_
  refine g_callNI (As := [.int p1]) (rest := []) hX 2 (Nat.le_of_ble_eq_true rfl) rfl rfl miX6_hasSort mvX6_hasSort lkX8_214 (by decide) rfl (Nat.le_of_ble_eq_true rfl) rfl dX8_mean_5 (fun τ x ho => kX6_hasSort _ ho) h (fun σ_1 t_2 h => ?_)
  refine g_if_eq hX 32 dX8_mean_8 (by decide) h (fun h => ?_) (fun h => ?_)
  · refine g_iconst hX (-1) dX8_mean_32 (by decide) ?_
    exact g_reti hR h dX8_mean_33
  · refine g_aload_n hX 0 dX8_mean_11 rfl rfl ?_
    refine gCX8_55_0 hX dX8_mean_12 ?_
    refine g_callNI (As := []) (rest := []) hX 43 (Nat.le_of_ble_eq_true rfl) rfl rfl miX7_settle mvX7_settle lkX8_173 (by decide) rfl (Nat.le_of_ble_eq_true rfl) rfl dX8_mean_15 (fun τ x ho => kX7_settle _ ho) h (fun σ_3 t_4 h => ?_)
    refine g_if_eq hX 32 dX8_mean_18 (by decide) h (fun h => ?_) (fun h => ?_)
    · refine g_iconst hX (-1) dX8_mean_32 (by decide) ?_
      exact g_reti hR h dX8_mean_33
    · refine g_aload_n hX 0 dX8_mean_21 rfl rfl ?_
      refine gCX8_55_0 hX dX8_mean_22 ?_
      refine g_iload_n hX 1 dX8_mean_25 rfl rfl ?_
      refine g_callNI (As := [.int p1]) (rest := []) hX 43 (Nat.le_of_ble_eq_true rfl) rfl rfl miX7_meanOf mvX7_meanOf lkX8_230 (by decide) rfl (Nat.le_of_ble_eq_true rfl) rfl dX8_mean_26 (fun τ x ho => kX7_meanOf _ ho) h (fun σ_5 t_6 h => ?_)
      refine g_goto hX 33 dX8_mean_29 (by decide) ?_
      exact g_reti hR h dX8_mean_33
set_option maxRecDepth 20000 in
set_option maxHeartbeats 4000000 in
theorem kX8_mean (l : Launch) {a : Nat → Nat} {D : va_G} {tI tJ tB tS : ClassId} {kK kV : Nat → Nat} {σ τ : St}  {p1 : Int32} {x : Int32} (h : fX8_mean σ p1 = some (τ, x)) : CtI l yX8_mean cX8_mean 2 (some .int) 6 132 (vC a D tI tJ tB tS kK kV) σ [.ref (a 0), .int p1] τ x := g_metI (by decide) (Nat.le_of_ble_eq_true rfl) rfl (fun X _ hX hR => sX8_mean (r := (τ, x)) hX hR h)
def fX7_weightBelow_L5 (q1_5 : Int32) (kx5 : St → Int64 → Int32 → Option (St × Int64)) : Nat → St → Int64 → Int32 → Option (St × Int64)
  | 0, _, _, _ => none
  | n5 + 1, σ, c2_5, c4_5 =>
    (if (σ.1 2 0) ≤ c4_5 then kx5 σ c2_5 c4_5 else cl (fX7_partsFrom σ c4_5 q1_5) fun (σ_3 : St) (t_4 : Int32) => bnd (c2_5 * ((((100 : Int32) - t_4)).toInt64)) fun (x2_5 : Int64) => bnd (c4_5 + (1 : Int32)) fun (x4_6 : Int32) => fX7_weightBelow_L5 q1_5 kx5 n5 σ_3 x2_5 x4_6)
def fX7_weightBelow (σ : St) (p1 : Int32) : Option (St × Int64) :=
  bnd (1 : Int64) fun (x2_1 : Int64) => bnd (0 : Int32) fun (x4_2 : Int32) => fX7_weightBelow_L5 p1 (fun (σ_7 : St) (x2_8 : Int64) (x4_9 : Int32) => some (σ_7, x2_8)) FU σ x2_1 x4_2
set_option maxRecDepth 20000 in
set_option maxHeartbeats 4000000 in
theorem sX7_weightBelow_L5 {X : CX} {a : Nat → Nat} {D : va_G} {tI tJ tB tS : ClassId} {kK kV : Nat → Nat} {q1_5 : Int32} {kx5 : St → Int64 → Int32 → Option (St × Int64)} {r : St × Int64} (hX : OKX X (vC a D tI tJ tB tS kK kV) cX7_weightBelow 5 RX7 1 24) (hR : ∀ (pc : Nat) (lv : List (Nat × Value)), decode cX7_weightBelow pc = .ok (.lreturn, 1) → G X (vC a D tI tJ tB tS kK kV) 5 r.1 pc lv [.long r.2]) (hkx5 : ∀ (σ : St) (e2_5 : Int64) (e4_5 : Int32), kx5 σ e2_5 e4_5 = some r → G X (vC a D tI tJ tB tS kK kV) 5 σ 37 [(2, .long e2_5)] []) : ∀ (n : Nat) (σ : St) (c2_5 : Int64) (c4_5 : Int32), fX7_weightBelow_L5 q1_5 kx5 n σ c2_5 c4_5 = some r → G X (vC a D tI tJ tB tS kK kV) 5 σ 5 [(0, .ref (a 43)), (1, .int q1_5), (2, .long c2_5), (4, .int c4_5)] [] := by
  intro n
  induction n with
  | zero => intro σ c2_5 c4_5 h; rw [fX7_weightBelow_L5] at h; exact absurd h (by simp)
  | succ n5 ih5 =>
    intro σ c2_5 c4_5 h
    rw [fX7_weightBelow_L5] at h
    refine g_iload hX 3 dX7_weightBelow_5 rfl ?_
    refine g_aload_n hX 0 dX7_weightBelow_7 rfl rfl ?_
    refine gCX7_9_43 hX dX7_weightBelow_8 ?_
    refine gCX7_85_2 hX dX7_weightBelow_11 ?_
    refine g_icmp_ge hX 37 dX7_weightBelow_14 (by decide) h (fun h => ?_) (fun h => ?_)
    · exact g_sub [2] rfl (hkx5 _ _ _ h)
    · refine g_lload_n hX 2 dX7_weightBelow_17 rfl rfl ?_
      refine g_bipush hX (100) dX7_weightBelow_18 (by decide) ?_
      refine g_aload_n hX 0 dX7_weightBelow_20 rfl rfl ?_
      refine g_iload hX 3 dX7_weightBelow_21 rfl ?_
      refine g_iload_n hX 1 dX7_weightBelow_23 rfl rfl ?_
      refine g_callVI (As := [.int c4_5, .int q1_5]) (rest := [.int (100 : Int32), .long c2_5]) hX 43 (Nat.le_of_ble_eq_true rfl) rfl rfl miX7_partsFrom mvX7_partsFrom lkX7_206 (by decide) rfl (Nat.le_of_ble_eq_true rfl) rfl dX7_weightBelow_24 (fun τ x ho => kX7_partsFrom _ ho) h (fun σ_3 t_4 h => ?_)
      refine g_isub hX dX7_weightBelow_27 ?_
      refine g_i2l hX dX7_weightBelow_28 ?_
      refine g_lmul hX dX7_weightBelow_29 ?_
      refine g_lstore_n (lv' := fun x2_5 => [(2, .long x2_5), (0, .ref (a 43)), (1, .int q1_5), (4, .int c4_5)]) hX dX7_weightBelow_30 rfl (by decide) (fun _ => rfl) h (fun x2_5 h => ?_)
      refine g_iinc (y := (1)) (lv' := fun x4_6 => [(4, .int x4_6), (2, .long x2_5), (0, .ref (a 43)), (1, .int q1_5)]) hX 3 dX7_weightBelow_31 rfl (by decide) (by decide) (fun _ => rfl) h (fun x4_6 h => ?_)
      refine g_goto hX 5 dX7_weightBelow_34 (by decide) ?_
      exact g_sub [2, 3, 1, 0] rfl (ih5 _ _ _ h)
set_option maxRecDepth 20000 in
set_option maxHeartbeats 4000000 in
theorem sX7_weightBelow {X : CX} {a : Nat → Nat} {D : va_G} {tI tJ tB tS : ClassId} {kK kV : Nat → Nat} {σ : St}  {p1 : Int32} {r : St × Int64} (hX : OKX X (vC a D tI tJ tB tS kK kV) cX7_weightBelow 5 RX7 1 24) (hR : ∀ (pc : Nat) (lv : List (Nat × Value)), decode cX7_weightBelow pc = .ok (.lreturn, 1) → G X (vC a D tI tJ tB tS kK kV) 5 r.1 pc lv [.long r.2])  (h : fX7_weightBelow σ p1 = some r) : G X (vC a D tI tJ tB tS kK kV) 5 σ 0 [(0, .ref (a 43)), (1, .int p1)] [] := by
  unfold fX7_weightBelow at h
  refine g_lconst hX (1) dX7_weightBelow_0 (by decide) ?_
  refine g_lstore_n (lv' := fun x2_1 => [(2, .long x2_1), (0, .ref (a 43)), (1, .int p1)]) hX dX7_weightBelow_1 rfl (by decide) (fun _ => rfl) h (fun x2_1 h => ?_)
  refine g_iconst hX (0) dX7_weightBelow_2 (by decide) ?_
  refine g_istore (lv' := fun x4_2 => [(4, .int x4_2), (2, .long x2_1), (0, .ref (a 43)), (1, .int p1)]) hX dX7_weightBelow_3 (by decide) (fun _ => rfl) h (fun x4_2 h => ?_)
  refine g_sub [2, 3, 1, 0] rfl (sX7_weightBelow_L5 hX hR (fun σ_7 x2_8 x4_9 h => ?_) FU _ _ _ h)
  refine g_lload_n hX 0 dX7_weightBelow_37 rfl rfl ?_
  exact g_retl hR h dX7_weightBelow_38
set_option maxRecDepth 20000 in
set_option maxHeartbeats 4000000 in
theorem kX7_weightBelow (l : Launch) {a : Nat → Nat} {D : va_G} {tI tJ tB tS : ClassId} {kK kV : Nat → Nat} {σ τ : St}  {p1 : Int32} {x : Int64} (h : fX7_weightBelow σ p1 = some (τ, x)) : CtL l yX7_weightBelow cX7_weightBelow 5 (some .long) 1 24 (vC a D tI tJ tB tS kK kV) σ [.ref (a 43), .int p1] τ x := g_metL (by decide) (Nat.le_of_ble_eq_true rfl) rfl (fun X _ hX hR => sX7_weightBelow (r := (τ, x)) hX hR h)
def fX7_spread_L4  (kx4 : St → Int64 → Int32 → Option (St × Int64)) : Nat → St → Int64 → Int32 → Option (St × Int64)
  | 0, _, _, _ => none
  | n4 + 1, σ, c1_4, c3_4 =>
    (if (σ.1 2 2) ≤ c3_4 then kx4 σ c1_4 c3_4 else cl (fX7_weightInAll σ ) fun (σ_3 : St) (t_4 : Int64) => cl (fX6_everyone σ_3 ) fun (σ_5 : St) (t_6 : Int32) => cl (fX7_weightFrom σ_5 t_6 c3_4) fun (σ_7 : St) (t_8 : Int64) => cl (fX7_weightBelow σ_7 c3_4) fun (σ_9 : St) (t_10 : Int64) => bnd (c1_4 + ((t_4 - t_8) - t_10)) fun (x1_11 : Int64) => bnd (c3_4 + (1 : Int32)) fun (x3_12 : Int32) => fX7_spread_L4 kx4 n4 σ_9 x1_11 x3_12)
def fX7_spread (σ : St)  : Option (St × Int64) :=
  bnd (0 : Int64) fun (x1_1 : Int64) => bnd (1 : Int32) fun (x3_2 : Int32) => fX7_spread_L4  (fun (σ_13 : St) (x1_14 : Int64) (x3_15 : Int32) => some (σ_13, (x1_14 * (((σ_13.1 2 4)).toInt64)))) FU σ x1_1 x3_2
set_option maxRecDepth 20000 in
set_option maxHeartbeats 4000000 in
theorem sX7_spread_L4 {X : CX} {a : Nat → Nat} {D : va_G} {tI tJ tB tS : ClassId} {kK kV : Nat → Nat}  {kx4 : St → Int64 → Int32 → Option (St × Int64)} {r : St × Int64} (hX : OKX X (vC a D tI tJ tB tS kK kV) cX7_spread 4 RX7 3 69) (hR : ∀ (pc : Nat) (lv : List (Nat × Value)), decode cX7_spread pc = .ok (.lreturn, 1) → G X (vC a D tI tJ tB tS kK kV) 4 r.1 pc lv [.long r.2]) (hkx4 : ∀ (σ : St) (e1_4 : Int64) (e3_4 : Int32), kx4 σ e1_4 e3_4 = some r → G X (vC a D tI tJ tB tS kK kV) 4 σ 47 [(0, .ref (a 43)), (1, .long e1_4)] []) : ∀ (n : Nat) (σ : St) (c1_4 : Int64) (c3_4 : Int32), fX7_spread_L4 kx4 n σ c1_4 c3_4 = some r → G X (vC a D tI tJ tB tS kK kV) 4 σ 4 [(0, .ref (a 43)), (1, .long c1_4), (3, .int c3_4)] [] := by
  intro n
  induction n with
  | zero => intro σ c1_4 c3_4 h; rw [fX7_spread_L4] at h; exact absurd h (by simp)
  | succ n4 ih4 =>
    intro σ c1_4 c3_4 h
    rw [fX7_spread_L4] at h
    refine g_iload_n hX 2 dX7_spread_4 rfl rfl ?_
    refine g_aload_n hX 0 dX7_spread_5 rfl rfl ?_
    refine gCX7_9_43 hX dX7_spread_6 ?_
    refine gCX7_106_2 hX dX7_spread_9 ?_
    refine g_icmp_ge hX 47 dX7_spread_12 (by decide) h (fun h => ?_) (fun h => ?_)
    · exact g_sub [0, 1] rfl (hkx4 _ _ _ h)
    · refine g_lload_n hX 1 dX7_spread_15 rfl rfl ?_
      refine g_aload_n hX 0 dX7_spread_16 rfl rfl ?_
      refine g_callVL (As := []) (rest := [.long c1_4]) hX 43 (Nat.le_of_ble_eq_true rfl) rfl rfl miX7_weightInAll mvX7_weightInAll lkX7_217 (by decide) rfl (Nat.le_of_ble_eq_true rfl) rfl dX7_spread_17 (fun τ x ho => kX7_weightInAll _ ho) h (fun σ_3 t_4 h => ?_)
      refine g_aload_n hX 0 dX7_spread_20 rfl rfl ?_
      refine g_aload_n hX 0 dX7_spread_21 rfl rfl ?_
      refine gCX7_9_43 hX dX7_spread_22 ?_
      refine g_callNI (As := []) (rest := [.ref (a 43), .long t_4, .long c1_4]) hX 2 (Nat.le_of_ble_eq_true rfl) rfl rfl miX6_everyone mvX6_everyone lkX7_133 (by decide) rfl (Nat.le_of_ble_eq_true rfl) rfl dX7_spread_25 (fun τ x ho => kX6_everyone _ ho) h (fun σ_5 t_6 h => ?_)
      refine g_iload_n hX 2 dX7_spread_28 rfl rfl ?_
      refine g_callVL (As := [.int t_6, .int c3_4]) (rest := [.long t_4, .long c1_4]) hX 43 (Nat.le_of_ble_eq_true rfl) rfl rfl miX7_weightFrom mvX7_weightFrom lkX7_209 (by decide) rfl (Nat.le_of_ble_eq_true rfl) rfl dX7_spread_29 (fun τ x ho => kX7_weightFrom _ ho) h (fun σ_7 t_8 h => ?_)
      refine g_lsub hX dX7_spread_32 ?_
      refine g_aload_n hX 0 dX7_spread_33 rfl rfl ?_
      refine g_iload_n hX 2 dX7_spread_34 rfl rfl ?_
      refine g_callVL (As := [.int c3_4]) (rest := [.long (t_4 - t_8), .long c1_4]) hX 43 (Nat.le_of_ble_eq_true rfl) rfl rfl miX7_weightBelow mvX7_weightBelow lkX7_226 (by decide) rfl (Nat.le_of_ble_eq_true rfl) rfl dX7_spread_35 (fun τ x ho => kX7_weightBelow _ ho) h (fun σ_9 t_10 h => ?_)
      refine g_lsub hX dX7_spread_38 ?_
      refine g_ladd hX dX7_spread_39 ?_
      refine g_lstore_n (lv' := fun x1_11 => [(1, .long x1_11), (0, .ref (a 43)), (3, .int c3_4)]) hX dX7_spread_40 rfl (by decide) (fun _ => rfl) h (fun x1_11 h => ?_)
      refine g_iinc (y := (1)) (lv' := fun x3_12 => [(3, .int x3_12), (1, .long x1_11), (0, .ref (a 43))]) hX 2 dX7_spread_41 rfl (by decide) (by decide) (fun _ => rfl) h (fun x3_12 h => ?_)
      refine g_goto hX 4 dX7_spread_44 (by decide) ?_
      exact g_sub [2, 1, 0] rfl (ih4 _ _ _ h)
set_option maxRecDepth 20000 in
set_option maxHeartbeats 4000000 in
theorem sX7_spread {X : CX} {a : Nat → Nat} {D : va_G} {tI tJ tB tS : ClassId} {kK kV : Nat → Nat} {σ : St}   {r : St × Int64} (hX : OKX X (vC a D tI tJ tB tS kK kV) cX7_spread 4 RX7 3 69) (hR : ∀ (pc : Nat) (lv : List (Nat × Value)), decode cX7_spread pc = .ok (.lreturn, 1) → G X (vC a D tI tJ tB tS kK kV) 4 r.1 pc lv [.long r.2])  (h : fX7_spread σ  = some r) : G X (vC a D tI tJ tB tS kK kV) 4 σ 0 [(0, .ref (a 43))] [] := by
  unfold fX7_spread at h
  refine g_lconst hX (0) dX7_spread_0 (by decide) ?_
  refine g_lstore_n (lv' := fun x1_1 => [(1, .long x1_1), (0, .ref (a 43))]) hX dX7_spread_1 rfl (by decide) (fun _ => rfl) h (fun x1_1 h => ?_)
  refine g_iconst hX (1) dX7_spread_2 (by decide) ?_
  refine g_istore_n (lv' := fun x3_2 => [(3, .int x3_2), (1, .long x1_1), (0, .ref (a 43))]) hX dX7_spread_3 rfl (by decide) (fun _ => rfl) h (fun x3_2 h => ?_)
  refine g_sub [2, 1, 0] rfl (sX7_spread_L4 hX hR (fun σ_13 x1_14 x3_15 h => ?_) FU _ _ _ h)
  refine g_lload_n hX 1 dX7_spread_47 rfl rfl ?_
  refine g_aload_n hX 0 dX7_spread_48 rfl rfl ?_
  refine gCX7_9_43 hX dX7_spread_49 ?_
  refine gCX7_229_2 hX dX7_spread_52 ?_
  refine g_i2l hX dX7_spread_55 ?_
  refine g_lmul hX dX7_spread_56 ?_
  exact g_retl hR h dX7_spread_57
set_option maxRecDepth 20000 in
set_option maxHeartbeats 4000000 in
theorem kX7_spread (l : Launch) {a : Nat → Nat} {D : va_G} {tI tJ tB tS : ClassId} {kK kV : Nat → Nat} {σ τ : St}   {x : Int64} (h : fX7_spread σ  = some (τ, x)) : CtL l yX7_spread cX7_spread 4 (some .long) 3 69 (vC a D tI tJ tB tS kK kV) σ [.ref (a 43)] τ x := g_metL (by decide) (Nat.le_of_ble_eq_true rfl) rfl (fun X _ hX hR => sX7_spread (r := (τ, x)) hX hR h)
def fX8_gap (σ : St)  : Option (St × Int64) :=
  cl (fX7_settle σ ) fun (σ_1 : St) (t_2 : Int32) => (if t_2 = 0 then some (σ_1, (-1 : Int64)) else cl (fX7_spread σ_1 ) fun (σ_3 : St) (t_4 : Int64) => some (σ_3, t_4))
set_option maxRecDepth 20000 in
set_option maxHeartbeats 4000000 in
theorem sX8_gap {X : CX} {a : Nat → Nat} {D : va_G} {tI tJ tB tS : ClassId} {kK kV : Nat → Nat} {σ : St}   {r : St × Int64} (hX : OKX X (vC a D tI tJ tB tS kK kV) cX8_gap 1 RX8 6 132) (hR : ∀ (pc : Nat) (lv : List (Nat × Value)), decode cX8_gap pc = .ok (.lreturn, 1) → G X (vC a D tI tJ tB tS kK kV) 1 r.1 pc lv [.long r.2])  (h : fX8_gap σ  = some r) : G X (vC a D tI tJ tB tS kK kV) 1 σ 0 [(0, .ref (a 0))] [] := by
  unfold fX8_gap at h
  refine g_aload_n hX 0 dX8_gap_0 rfl rfl ?_
  refine gCX8_55_0 hX dX8_gap_1 ?_
  refine g_callNI (As := []) (rest := []) hX 43 (Nat.le_of_ble_eq_true rfl) rfl rfl miX7_settle mvX7_settle lkX8_173 (by decide) rfl (Nat.le_of_ble_eq_true rfl) rfl dX8_gap_4 (fun τ x ho => kX7_settle _ ho) h (fun σ_1 t_2 h => ?_)
  refine g_if_eq hX 20 dX8_gap_7 (by decide) h (fun h => ?_) (fun h => ?_)
  · refine g_ldc2 hX lkX8_178 dX8_gap_20 ?_
    exact g_retl hR h dX8_gap_23
  · refine g_aload_n hX 0 dX8_gap_10 rfl rfl ?_
    refine gCX8_55_0 hX dX8_gap_11 ?_
    refine g_callNL (As := []) (rest := []) hX 43 (Nat.le_of_ble_eq_true rfl) rfl rfl miX7_spread mvX7_spread lkX8_233 (by decide) rfl (Nat.le_of_ble_eq_true rfl) rfl dX8_gap_14 (fun τ x ho => kX7_spread _ ho) h (fun σ_3 t_4 h => ?_)
    refine g_goto hX 23 dX8_gap_17 (by decide) ?_
    exact g_retl hR h dX8_gap_23
set_option maxRecDepth 20000 in
set_option maxHeartbeats 4000000 in
theorem kX8_gap (l : Launch) {a : Nat → Nat} {D : va_G} {tI tJ tB tS : ClassId} {kK kV : Nat → Nat} {σ τ : St}   {x : Int64} (h : fX8_gap σ  = some (τ, x)) : CtL l yX8_gap cX8_gap 1 (some .long) 6 132 (vC a D tI tJ tB tS kK kV) σ [.ref (a 0)] τ x := g_metL (by decide) (Nat.le_of_ble_eq_true rfl) rfl (fun X _ hX hR => sX8_gap (r := (τ, x)) hX hR h)
def fX6_isWomen (σ : St) (p1 : Int32) : Option (St × Int32) :=
  cl (fX6_hasSort σ p1) fun (σ_1 : St) (t_2 : Int32) => (if t_2 = 0 then some (σ_1, (0 : Int32)) else chk (inb p1 12) ((if (σ_1.1 5 (ix p1)) = 0 then some (σ_1, (1 : Int32)) else some (σ_1, (0 : Int32)))))
set_option maxRecDepth 20000 in
set_option maxHeartbeats 4000000 in
theorem sX6_isWomen {X : CX} {a : Nat → Nat} {D : va_G} {tI tJ tB tS : ClassId} {kK kV : Nat → Nat} {σ : St}  {p1 : Int32} {r : St × Int32} (hX : OKX X (vC a D tI tJ tB tS kK kV) cX6_isWomen 2 RX6 1 21) (hR : (r.2 = 0 ∨ r.2 = 1) → ∀ (pc : Nat) (lv : List (Nat × Value)), decode cX6_isWomen pc = .ok (.ireturn, 1) → G X (vC a D tI tJ tB tS kK kV) 2 r.1 pc lv [.int r.2])  (h : fX6_isWomen σ p1 = some r) : G X (vC a D tI tJ tB tS kK kV) 2 σ 0 [(0, .ref (a 2)), (1, .int p1)] [] := by
  unfold fX6_isWomen at h
  refine g_aload_n hX 0 dX6_isWomen_0 rfl rfl ?_
  refine g_iload_n hX 1 dX6_isWomen_1 rfl rfl ?_
  refine g_callVI (As := [.int p1]) (rest := []) hX 2 (Nat.le_of_ble_eq_true rfl) rfl rfl miX6_hasSort mvX6_hasSort lkX6_71 (by decide) rfl (Nat.le_of_ble_eq_true rfl) rfl dX6_isWomen_2 (fun τ x ho => kX6_hasSort _ ho) h (fun σ_1 t_2 h => ?_)
  refine g_if_eq hX 21 dX6_isWomen_5 (by decide) h (fun h => ?_) (fun h => ?_)
  · refine g_iconst hX (0) dX6_isWomen_21 (by decide) ?_
    exact g_retz hR (by decide) h dX6_isWomen_22
  · refine g_aload_n hX 0 dX6_isWomen_8 rfl rfl ?_
    refine gCX6_19_2 hX dX6_isWomen_9 ?_
    refine g_iload_n hX 1 dX6_isWomen_12 rfl rfl ?_
    refine alC_5 hX dX6_isWomen_13 h (fun h => ?_)
    refine g_if_ne hX 21 dX6_isWomen_14 (by decide) h (fun h => ?_) (fun h => ?_)
    · refine g_iconst hX (0) dX6_isWomen_21 (by decide) ?_
      exact g_retz hR (by decide) h dX6_isWomen_22
    · refine g_iconst hX (1) dX6_isWomen_17 (by decide) ?_
      refine g_goto hX 22 dX6_isWomen_18 (by decide) ?_
      exact g_retz hR (by decide) h dX6_isWomen_22
set_option maxRecDepth 20000 in
set_option maxHeartbeats 4000000 in
theorem kX6_isWomen (l : Launch) {a : Nat → Nat} {D : va_G} {tI tJ tB tS : ClassId} {kK kV : Nat → Nat} {σ τ : St}  {p1 : Int32} {x : Int32} (h : fX6_isWomen σ p1 = some (τ, x)) : CtI l yX6_isWomen cX6_isWomen 2 (some .boolean) 1 21 (vC a D tI tJ tB tS kK kV) σ [.ref (a 2), .int p1] τ x := g_metZ (by decide) (Nat.le_of_ble_eq_true rfl) rfl (fun X _ hX hR => sX6_isWomen (r := (τ, x)) hX hR h)
def fX6_asks (σ : St) (p1 : Int32) (p2 : Int32) : Option (St × Int32) :=
  cl (fX6_hasSort σ p1) fun (σ_1 : St) (t_2 : Int32) => (if t_2 = 0 then some (σ_1, (0 : Int32)) else chk (inb p1 12) ((if (((σ_1.1 9 (ix p1)) >>> (p2 &&& 31)) &&& (1 : Int32)) = 0 then some (σ_1, (0 : Int32)) else some (σ_1, (1 : Int32)))))
set_option maxRecDepth 20000 in
set_option maxHeartbeats 4000000 in
theorem sX6_asks {X : CX} {a : Nat → Nat} {D : va_G} {tI tJ tB tS : ClassId} {kK kV : Nat → Nat} {σ : St}  {p1 : Int32} {p2 : Int32} {r : St × Int32} (hX : OKX X (vC a D tI tJ tB tS kK kV) cX6_asks 3 RX6 1 21) (hR : (r.2 = 0 ∨ r.2 = 1) → ∀ (pc : Nat) (lv : List (Nat × Value)), decode cX6_asks pc = .ok (.ireturn, 1) → G X (vC a D tI tJ tB tS kK kV) 3 r.1 pc lv [.int r.2])  (h : fX6_asks σ p1 p2 = some r) : G X (vC a D tI tJ tB tS kK kV) 3 σ 0 [(0, .ref (a 2)), (1, .int p1), (2, .int p2)] [] := by
  unfold fX6_asks at h
  refine g_aload_n hX 0 dX6_asks_0 rfl rfl ?_
  refine g_iload_n hX 1 dX6_asks_1 rfl rfl ?_
  refine g_callVI (As := [.int p1]) (rest := []) hX 2 (Nat.le_of_ble_eq_true rfl) rfl rfl miX6_hasSort mvX6_hasSort lkX6_71 (by decide) rfl (Nat.le_of_ble_eq_true rfl) rfl dX6_asks_2 (fun τ x ho => kX6_hasSort _ ho) h (fun σ_1 t_2 h => ?_)
  refine g_if_eq hX 25 dX6_asks_5 (by decide) h (fun h => ?_) (fun h => ?_)
  · refine g_iconst hX (0) dX6_asks_25 (by decide) ?_
    exact g_retz hR (by decide) h dX6_asks_26
  · refine g_aload_n hX 0 dX6_asks_8 rfl rfl ?_
    refine gCX6_31_2 hX dX6_asks_9 ?_
    refine g_iload_n hX 1 dX6_asks_12 rfl rfl ?_
    refine alC_9 hX dX6_asks_13 h (fun h => ?_)
    refine g_iload_n hX 2 dX6_asks_14 rfl rfl ?_
    refine g_ishr hX dX6_asks_15 ?_
    refine g_iconst hX (1) dX6_asks_16 (by decide) ?_
    refine g_iand hX dX6_asks_17 ?_
    refine g_if_eq hX 25 dX6_asks_18 (by decide) h (fun h => ?_) (fun h => ?_)
    · refine g_iconst hX (0) dX6_asks_25 (by decide) ?_
      exact g_retz hR (by decide) h dX6_asks_26
    · refine g_iconst hX (1) dX6_asks_21 (by decide) ?_
      refine g_goto hX 26 dX6_asks_22 (by decide) ?_
      exact g_retz hR (by decide) h dX6_asks_26
set_option maxRecDepth 20000 in
set_option maxHeartbeats 4000000 in
theorem kX6_asks (l : Launch) {a : Nat → Nat} {D : va_G} {tI tJ tB tS : ClassId} {kK kV : Nat → Nat} {σ τ : St}  {p1 : Int32} {p2 : Int32} {x : Int32} (h : fX6_asks σ p1 p2 = some (τ, x)) : CtI l yX6_asks cX6_asks 3 (some .boolean) 1 21 (vC a D tI tJ tB tS kK kV) σ [.ref (a 2), .int p1, .int p2] τ x := g_metZ (by decide) (Nat.le_of_ble_eq_true rfl) rfl (fun X _ hX hR => sX6_asks (r := (τ, x)) hX hR h)
def fX7_valueOf_L5 (q1_5 : Int32) (q2_5 : Int32) (kx5 : St → Int64 → Int32 → Option (St × Int64)) : Nat → St → Int64 → Int32 → Option (St × Int64)
  | 0, _, _, _ => none
  | n5 + 1, σ, c3_5, c5_5 =>
    (if (σ.1 2 2) ≤ c5_5 then kx5 σ c3_5 c5_5 else chk (inb q1_5 12) (cl (fX6_price σ c5_5) fun (σ_3 : St) (t_4 : Int32) => bnd ((σ.1 8 (ix q1_5)) - t_4) fun (x6_5 : Int32) => (jp (fun (σ_6 : St) (x3_7 : Int64)  => bnd (c5_5 + (1 : Int32)) fun (x5_8 : Int32) => fX7_valueOf_L5 q1_5 q2_5 kx5 n5 σ_6 x3_7 x5_8) fun j67 => (if x6_5 ≤ 0 then j67 σ_3 c3_5 else cl (fX7_weightFrom σ_3 q2_5 c5_5) fun (σ_9 : St) (t_10 : Int64) => cl (fX7_weightFrom σ_9 q2_5 (c5_5 + (1 : Int32))) fun (σ_11 : St) (t_12 : Int64) => bnd (c3_5 + (((x6_5).toInt64) * (t_10 - t_12))) fun (x3_13 : Int64) => j67 σ_11 x3_13))))
def fX7_valueOf (σ : St) (p1 : Int32) (p2 : Int32) : Option (St × Int64) :=
  bnd (0 : Int64) fun (x3_1 : Int64) => bnd (0 : Int32) fun (x5_2 : Int32) => fX7_valueOf_L5 p1 p2 (fun (σ_14 : St) (x3_15 : Int64) (x5_16 : Int32) => some (σ_14, x3_15)) FU σ x3_1 x5_2
set_option maxRecDepth 20000 in
set_option maxHeartbeats 4000000 in
theorem sX7_valueOf_L5 {X : CX} {a : Nat → Nat} {D : va_G} {tI tJ tB tS : ClassId} {kK kV : Nat → Nat} {q1_5 : Int32} {q2_5 : Int32} {kx5 : St → Int64 → Int32 → Option (St × Int64)} {r : St × Int64} (hX : OKX X (vC a D tI tJ tB tS kK kV) cX7_valueOf 7 RX7 2 49) (hR : ∀ (pc : Nat) (lv : List (Nat × Value)), decode cX7_valueOf pc = .ok (.lreturn, 1) → G X (vC a D tI tJ tB tS kK kV) 7 r.1 pc lv [.long r.2]) (hkx5 : ∀ (σ : St) (e3_5 : Int64) (e5_5 : Int32), kx5 σ e3_5 e5_5 = some r → G X (vC a D tI tJ tB tS kK kV) 7 σ 73 [(3, .long e3_5)] []) : ∀ (n : Nat) (σ : St) (c3_5 : Int64) (c5_5 : Int32), fX7_valueOf_L5 q1_5 q2_5 kx5 n σ c3_5 c5_5 = some r → G X (vC a D tI tJ tB tS kK kV) 7 σ 5 [(0, .ref (a 43)), (1, .int q1_5), (2, .int q2_5), (3, .long c3_5), (5, .int c5_5)] [] := by
  intro n
  induction n with
  | zero => intro σ c3_5 c5_5 h; rw [fX7_valueOf_L5] at h; exact absurd h (by simp)
  | succ n5 ih5 =>
    intro σ c3_5 c5_5 h
    rw [fX7_valueOf_L5] at h
    refine g_iload hX 4 dX7_valueOf_5 rfl ?_
    refine g_aload_n hX 0 dX7_valueOf_7 rfl rfl ?_
    refine gCX7_9_43 hX dX7_valueOf_8 ?_
    refine gCX7_106_2 hX dX7_valueOf_11 ?_
    refine g_icmp_ge hX 73 dX7_valueOf_14 (by decide) h (fun h => ?_) (fun h => ?_)
    · exact g_sub [3] rfl (hkx5 _ _ _ h)
    · refine g_aload_n hX 0 dX7_valueOf_17 rfl rfl ?_
      refine gCX7_9_43 hX dX7_valueOf_18 ?_
      refine gCX7_144_2 hX dX7_valueOf_21 ?_
      refine g_iload_n hX 1 dX7_valueOf_24 rfl rfl ?_
      refine alC_8 hX dX7_valueOf_25 h (fun h => ?_)
      refine g_aload_n hX 0 dX7_valueOf_26 rfl rfl ?_
      refine gCX7_9_43 hX dX7_valueOf_27 ?_
      refine g_iload hX 4 dX7_valueOf_30 rfl ?_
      refine g_callNI (As := [.int c5_5]) (rest := [.int (σ.1 8 (ix q1_5))]) hX 2 (Nat.le_of_ble_eq_true rfl) rfl rfl miX6_price mvX6_price lkX7_151 (by decide) rfl (Nat.le_of_ble_eq_true rfl) rfl dX7_valueOf_32 (fun τ x ho => kX6_price _ ho) h (fun σ_3 t_4 h => ?_)
      refine g_isub hX dX7_valueOf_35 ?_
      refine g_istore (lv' := fun x6_5 => [(6, .int x6_5), (0, .ref (a 43)), (1, .int q1_5), (2, .int q2_5), (3, .long c3_5), (5, .int c5_5)]) hX dX7_valueOf_36 (by decide) (fun _ => rfl) h (fun x6_5 h => ?_)
      refine g_iload hX 0 dX7_valueOf_38 rfl ?_
      refine jp_inv (P := fun f => ∀ (σ_6 : St) (x3_7 : Int64) , f σ_6 x3_7 = some r → G X (vC a D tI tJ tB tS kK kV) 7 σ_6 67 [(0, .ref (a 43)), (1, .int q1_5), (2, .int q2_5), (5, .int c5_5), (3, .long x3_7)] []) h (fun σ_6 x3_7 h => ?_) (fun j67 hj67 h => ?_)
      · refine g_iinc (y := (1)) (lv' := fun x5_8 => [(5, .int x5_8), (0, .ref (a 43)), (1, .int q1_5), (2, .int q2_5), (3, .long x3_7)]) hX 3 dX7_valueOf_67 rfl (by decide) (by decide) (fun _ => rfl) h (fun x5_8 h => ?_)
        refine g_goto hX 5 dX7_valueOf_70 (by decide) ?_
        exact g_sub [1, 2, 3, 4, 0] rfl (ih5 _ _ _ h)
      refine g_if_le hX 67 dX7_valueOf_40 (by decide) h (fun h => ?_) (fun h => ?_)
      · exact g_sub [1, 2, 3, 5, 4] rfl (hj67 _ _ h)
      · refine g_lload_n hX 4 dX7_valueOf_43 rfl rfl ?_
        refine g_iload hX 0 dX7_valueOf_44 rfl ?_
        refine g_i2l hX dX7_valueOf_46 ?_
        refine g_aload_n hX 1 dX7_valueOf_47 rfl rfl ?_
        refine g_iload_n hX 3 dX7_valueOf_48 rfl rfl ?_
        refine g_iload hX 5 dX7_valueOf_49 rfl ?_
        refine g_callVL (As := [.int q2_5, .int c5_5]) (rest := [.long ((x6_5).toInt64), .long c3_5]) hX 43 (Nat.le_of_ble_eq_true rfl) rfl rfl miX7_weightFrom mvX7_weightFrom lkX7_209 (by decide) rfl (Nat.le_of_ble_eq_true rfl) rfl dX7_valueOf_51 (fun τ x ho => kX7_weightFrom _ ho) h (fun σ_9 t_10 h => ?_)
        refine g_aload_n hX 1 dX7_valueOf_54 rfl rfl ?_
        refine g_iload_n hX 3 dX7_valueOf_55 rfl rfl ?_
        refine g_iload hX 5 dX7_valueOf_56 rfl ?_
        refine g_iconst hX (1) dX7_valueOf_58 (by decide) ?_
        refine g_iadd hX dX7_valueOf_59 ?_
        refine g_callVL (As := [.int q2_5, .int (c5_5 + (1 : Int32))]) (rest := [.long t_10, .long ((x6_5).toInt64), .long c3_5]) hX 43 (Nat.le_of_ble_eq_true rfl) rfl rfl miX7_weightFrom mvX7_weightFrom lkX7_209 (by decide) rfl (Nat.le_of_ble_eq_true rfl) rfl dX7_valueOf_60 (fun τ x ho => kX7_weightFrom _ ho) h (fun σ_11 t_12 h => ?_)
        refine g_lsub hX dX7_valueOf_63 ?_
        refine g_lmul hX dX7_valueOf_64 ?_
        refine g_ladd hX dX7_valueOf_65 ?_
        refine g_lstore_n (lv' := fun x3_13 => [(3, .long x3_13), (6, .int x6_5), (0, .ref (a 43)), (1, .int q1_5), (2, .int q2_5), (5, .int c5_5)]) hX dX7_valueOf_66 rfl (by decide) (fun _ => rfl) h (fun x3_13 h => ?_)
        exact g_sub [2, 3, 4, 5, 0] rfl (hj67 _ _ h)
set_option maxRecDepth 20000 in
set_option maxHeartbeats 4000000 in
theorem sX7_valueOf {X : CX} {a : Nat → Nat} {D : va_G} {tI tJ tB tS : ClassId} {kK kV : Nat → Nat} {σ : St}  {p1 : Int32} {p2 : Int32} {r : St × Int64} (hX : OKX X (vC a D tI tJ tB tS kK kV) cX7_valueOf 7 RX7 2 49) (hR : ∀ (pc : Nat) (lv : List (Nat × Value)), decode cX7_valueOf pc = .ok (.lreturn, 1) → G X (vC a D tI tJ tB tS kK kV) 7 r.1 pc lv [.long r.2])  (h : fX7_valueOf σ p1 p2 = some r) : G X (vC a D tI tJ tB tS kK kV) 7 σ 0 [(0, .ref (a 43)), (1, .int p1), (2, .int p2)] [] := by
  unfold fX7_valueOf at h
  refine g_lconst hX (0) dX7_valueOf_0 (by decide) ?_
  refine g_lstore_n (lv' := fun x3_1 => [(3, .long x3_1), (0, .ref (a 43)), (1, .int p1), (2, .int p2)]) hX dX7_valueOf_1 rfl (by decide) (fun _ => rfl) h (fun x3_1 h => ?_)
  refine g_iconst hX (0) dX7_valueOf_2 (by decide) ?_
  refine g_istore (lv' := fun x5_2 => [(5, .int x5_2), (3, .long x3_1), (0, .ref (a 43)), (1, .int p1), (2, .int p2)]) hX dX7_valueOf_3 (by decide) (fun _ => rfl) h (fun x5_2 h => ?_)
  refine g_sub [2, 3, 4, 1, 0] rfl (sX7_valueOf_L5 hX hR (fun σ_14 x3_15 x5_16 h => ?_) FU _ _ _ h)
  refine g_lload_n hX 0 dX7_valueOf_73 rfl rfl ?_
  exact g_retl hR h dX7_valueOf_74
set_option maxRecDepth 20000 in
set_option maxHeartbeats 4000000 in
theorem kX7_valueOf (l : Launch) {a : Nat → Nat} {D : va_G} {tI tJ tB tS : ClassId} {kK kV : Nat → Nat} {σ τ : St}  {p1 : Int32} {p2 : Int32} {x : Int64} (h : fX7_valueOf σ p1 p2 = some (τ, x)) : CtL l yX7_valueOf cX7_valueOf 7 (some .long) 2 49 (vC a D tI tJ tB tS kK kV) σ [.ref (a 43), .int p1, .int p2] τ x := g_metL (by decide) (Nat.le_of_ble_eq_true rfl) rfl (fun X _ hX hR => sX7_valueOf (r := (τ, x)) hX hR h)
def fX7_savedBy (σ : St) (p1 : Int32) (p2 : Int32) : Option (St × Int64) :=
  chk (inb p1 12) (bnd (σ.1 9 (ix p1)) fun (x3_1 : Int32) => cl (fX7_valueOf σ p1 (x3_1 ||| ((1 : Int32) <<< (p2 &&& 31)))) fun (σ_2 : St) (t_3 : Int64) => cl (fX7_valueOf σ_2 p1 x3_1) fun (σ_4 : St) (t_5 : Int64) => some (σ_4, (t_3 - t_5)))
set_option maxRecDepth 20000 in
set_option maxHeartbeats 4000000 in
theorem sX7_savedBy {X : CX} {a : Nat → Nat} {D : va_G} {tI tJ tB tS : ClassId} {kK kV : Nat → Nat} {σ : St}  {p1 : Int32} {p2 : Int32} {r : St × Int64} (hX : OKX X (vC a D tI tJ tB tS kK kV) cX7_savedBy 4 RX7 3 75) (hR : ∀ (pc : Nat) (lv : List (Nat × Value)), decode cX7_savedBy pc = .ok (.lreturn, 1) → G X (vC a D tI tJ tB tS kK kV) 4 r.1 pc lv [.long r.2])  (h : fX7_savedBy σ p1 p2 = some r) : G X (vC a D tI tJ tB tS kK kV) 4 σ 0 [(0, .ref (a 43)), (1, .int p1), (2, .int p2)] [] := by
  unfold fX7_savedBy at h
  refine g_aload_n hX 0 dX7_savedBy_0 rfl rfl ?_
  refine gCX7_9_43 hX dX7_savedBy_1 ?_
  refine gCX7_232_2 hX dX7_savedBy_4 ?_
  refine g_iload_n hX 1 dX7_savedBy_7 rfl rfl ?_
  refine alC_9 hX dX7_savedBy_8 h (fun h => ?_)
  refine g_istore_n (lv' := fun x3_1 => [(3, .int x3_1), (0, .ref (a 43)), (1, .int p1), (2, .int p2)]) hX dX7_savedBy_9 rfl (by decide) (fun _ => rfl) h (fun x3_1 h => ?_)
  refine g_aload_n hX 1 dX7_savedBy_10 rfl rfl ?_
  refine g_iload_n hX 2 dX7_savedBy_11 rfl rfl ?_
  refine g_iload_n hX 0 dX7_savedBy_12 rfl rfl ?_
  refine g_iconst hX (1) dX7_savedBy_13 (by decide) ?_
  refine g_iload_n hX 3 dX7_savedBy_14 rfl rfl ?_
  refine g_ishl hX dX7_savedBy_15 ?_
  refine g_ior hX dX7_savedBy_16 ?_
  refine g_callVL (As := [.int p1, .int (x3_1 ||| ((1 : Int32) <<< (p2 &&& 31)))]) (rest := []) hX 43 (Nat.le_of_ble_eq_true rfl) rfl rfl miX7_valueOf mvX7_valueOf lkX7_235 (by decide) rfl (Nat.le_of_ble_eq_true rfl) rfl dX7_savedBy_17 (fun τ x ho => kX7_valueOf _ ho) h (fun σ_2 t_3 h => ?_)
  refine g_aload_n hX 1 dX7_savedBy_20 rfl rfl ?_
  refine g_iload_n hX 2 dX7_savedBy_21 rfl rfl ?_
  refine g_iload_n hX 0 dX7_savedBy_22 rfl rfl ?_
  refine g_callVL (As := [.int p1, .int x3_1]) (rest := [.long t_3]) hX 43 (Nat.le_of_ble_eq_true rfl) rfl rfl miX7_valueOf mvX7_valueOf lkX7_235 (by decide) rfl (Nat.le_of_ble_eq_true rfl) rfl dX7_savedBy_23 (fun τ x ho => kX7_valueOf _ ho) h (fun σ_4 t_5 h => ?_)
  refine g_lsub hX dX7_savedBy_26 ?_
  exact g_retl hR h dX7_savedBy_27
set_option maxRecDepth 20000 in
set_option maxHeartbeats 4000000 in
theorem kX7_savedBy (l : Launch) {a : Nat → Nat} {D : va_G} {tI tJ tB tS : ClassId} {kK kV : Nat → Nat} {σ τ : St}  {p1 : Int32} {p2 : Int32} {x : Int64} (h : fX7_savedBy σ p1 p2 = some (τ, x)) : CtL l yX7_savedBy cX7_savedBy 4 (some .long) 3 75 (vC a D tI tJ tB tS kK kV) σ [.ref (a 43), .int p1, .int p2] τ x := g_metL (by decide) (Nat.le_of_ble_eq_true rfl) rfl (fun X _ hX hR => sX7_savedBy (r := (τ, x)) hX hR h)
def fX8_saves (σ : St) (p1 : Int32) (p2 : Int32) : Option (St × Int64) :=
  cl (fX6_isWomen σ p1) fun (σ_1 : St) (t_2 : Int32) => (if t_2 = 0 then some (σ_1, (-1 : Int64)) else cl (fX6_hasBaker σ_1 p2) fun (σ_3 : St) (t_4 : Int32) => (if t_4 = 0 then some (σ_3, (-1 : Int64)) else cl (fX6_asks σ_3 p1 p2) fun (σ_5 : St) (t_6 : Int32) => (if t_6 = 0 then cl (fX7_settle σ_5 ) fun (σ_7 : St) (t_8 : Int32) => (if t_8 = 0 then some (σ_7, (-1 : Int64)) else (if (σ_7.1 43 14) = 0 then cl (fX7_savedBy σ_7 p1 p2) fun (σ_9 : St) (t_10 : Int64) => some (σ_9, t_10) else some (σ_7, (-1 : Int64)))) else some (σ_5, (-1 : Int64)))))
set_option maxRecDepth 20000 in
set_option maxHeartbeats 4000000 in
theorem sX8_saves {X : CX} {a : Nat → Nat} {D : va_G} {tI tJ tB tS : ClassId} {kK kV : Nat → Nat} {σ : St}  {p1 : Int32} {p2 : Int32} {r : St × Int64} (hX : OKX X (vC a D tI tJ tB tS kK kV) cX8_saves 3 RX8 6 132) (hR : ∀ (pc : Nat) (lv : List (Nat × Value)), decode cX8_saves pc = .ok (.lreturn, 1) → G X (vC a D tI tJ tB tS kK kV) 3 r.1 pc lv [.long r.2])  (h : fX8_saves σ p1 p2 = some r) : G X (vC a D tI tJ tB tS kK kV) 3 σ 0 [(0, .ref (a 0)), (1, .int p1), (2, .int p2)] [] := by
  unfold fX8_saves at h
  refine g_aload_n hX 0 dX8_saves_0 rfl rfl ?_
  refine gCX8_27_0 hX dX8_saves_1 ?_
  refine g_iload_n hX 1 dX8_saves_4 rfl rfl ?_
  refine g_callNI (As := [.int p1]) (rest := []) hX 2 (Nat.le_of_ble_eq_true rfl) rfl rfl miX6_isWomen mvX6_isWomen lkX8_237 (by decide) rfl (Nat.le_of_ble_eq_true rfl) rfl dX8_saves_5 (fun τ x ho => kX6_isWomen _ ho) h (fun σ_1 t_2 h => ?_)
  refine g_if_eq hX 34 dX8_saves_8 (by decide) h (fun h => ?_) (fun h => ?_)
  · refine g_ldc2 hX lkX8_178 dX8_saves_34 ?_
    exact g_retl hR h dX8_saves_37
  · refine g_aload_n hX 0 dX8_saves_11 rfl rfl ?_
    refine gCX8_27_0 hX dX8_saves_12 ?_
    refine g_iload_n hX 2 dX8_saves_15 rfl rfl ?_
    refine g_callNI (As := [.int p2]) (rest := []) hX 2 (Nat.le_of_ble_eq_true rfl) rfl rfl miX6_hasBaker mvX6_hasBaker lkX8_125 (by decide) rfl (Nat.le_of_ble_eq_true rfl) rfl dX8_saves_16 (fun τ x ho => kX6_hasBaker _ ho) h (fun σ_3 t_4 h => ?_)
    refine g_if_eq hX 34 dX8_saves_19 (by decide) h (fun h => ?_) (fun h => ?_)
    · refine g_ldc2 hX lkX8_178 dX8_saves_34 ?_
      exact g_retl hR h dX8_saves_37
    · refine g_aload_n hX 0 dX8_saves_22 rfl rfl ?_
      refine gCX8_27_0 hX dX8_saves_23 ?_
      refine g_iload_n hX 1 dX8_saves_26 rfl rfl ?_
      refine g_iload_n hX 2 dX8_saves_27 rfl rfl ?_
      refine g_callNI (As := [.int p1, .int p2]) (rest := []) hX 2 (Nat.le_of_ble_eq_true rfl) rfl rfl miX6_asks mvX6_asks lkX8_240 (by decide) rfl (Nat.le_of_ble_eq_true rfl) rfl dX8_saves_28 (fun τ x ho => kX6_asks _ ho) h (fun σ_5 t_6 h => ?_)
      refine g_if_eq hX 38 dX8_saves_31 (by decide) h (fun h => ?_) (fun h => ?_)
      · refine g_aload_n hX 0 dX8_saves_38 rfl rfl ?_
        refine gCX8_55_0 hX dX8_saves_39 ?_
        refine g_callNI (As := []) (rest := []) hX 43 (Nat.le_of_ble_eq_true rfl) rfl rfl miX7_settle mvX7_settle lkX8_173 (by decide) rfl (Nat.le_of_ble_eq_true rfl) rfl dX8_saves_42 (fun τ x ho => kX7_settle _ ho) h (fun σ_7 t_8 h => ?_)
        refine g_if_eq hX 70 dX8_saves_45 (by decide) h (fun h => ?_) (fun h => ?_)
        · refine g_ldc2 hX lkX8_178 dX8_saves_70 ?_
          exact g_retl hR h dX8_saves_73
        · refine g_aload_n hX 0 dX8_saves_48 rfl rfl ?_
          refine gCX8_55_0 hX dX8_saves_49 ?_
          refine gCX8_244_43 hX dX8_saves_52 ?_
          refine g_if_ne hX 70 dX8_saves_55 (by decide) h (fun h => ?_) (fun h => ?_)
          · refine g_ldc2 hX lkX8_178 dX8_saves_70 ?_
            exact g_retl hR h dX8_saves_73
          · refine g_aload_n hX 0 dX8_saves_58 rfl rfl ?_
            refine gCX8_55_0 hX dX8_saves_59 ?_
            refine g_iload_n hX 1 dX8_saves_62 rfl rfl ?_
            refine g_iload_n hX 2 dX8_saves_63 rfl rfl ?_
            refine g_callNL (As := [.int p1, .int p2]) (rest := []) hX 43 (Nat.le_of_ble_eq_true rfl) rfl rfl miX7_savedBy mvX7_savedBy lkX8_248 (by decide) rfl (Nat.le_of_ble_eq_true rfl) rfl dX8_saves_64 (fun τ x ho => kX7_savedBy _ ho) h (fun σ_9 t_10 h => ?_)
            refine g_goto hX 73 dX8_saves_67 (by decide) ?_
            exact g_retl hR h dX8_saves_73
      · refine g_ldc2 hX lkX8_178 dX8_saves_34 ?_
        exact g_retl hR h dX8_saves_37
set_option maxRecDepth 20000 in
set_option maxHeartbeats 4000000 in
theorem kX8_saves (l : Launch) {a : Nat → Nat} {D : va_G} {tI tJ tB tS : ClassId} {kK kV : Nat → Nat} {σ τ : St}  {p1 : Int32} {p2 : Int32} {x : Int64} (h : fX8_saves σ p1 p2 = some (τ, x)) : CtL l yX8_saves cX8_saves 3 (some .long) 6 132 (vC a D tI tJ tB tS kK kV) σ [.ref (a 0), .int p1, .int p2] τ x := g_metL (by decide) (Nat.le_of_ble_eq_true rfl) rfl (fun X _ hX hR => sX8_saves (r := (τ, x)) hX hR h)
def fX7_wishedDoor_L19 (q1_19 : Int32) (kx19 : St → Int32 → Int64 → Int32 → Option (St × Int32)) : Nat → St → Int32 → Int64 → Int32 → Option (St × Int32)
  | 0, _, _, _, _ => none
  | n19 + 1, σ, c2_19, c3_19, c5_19 =>
    (if (σ.1 2 0) ≤ c5_19 then kx19 σ c2_19 c3_19 c5_19 else cl (fX6_asks σ q1_19 c5_19) fun (σ_6 : St) (t_7 : Int32) => (jp (fun (σ_8 : St) (x2_9 : Int32) (x3_10 : Int64)  => bnd (c5_19 + (1 : Int32)) fun (x5_11 : Int32) => fX7_wishedDoor_L19 q1_19 kx19 n19 σ_8 x2_9 x3_10 x5_11) fun j66 => (if t_7 = 0 then cl (fX7_savedBy σ_6 q1_19 c5_19) fun (σ_12 : St) (t_13 : Int64) => bnd t_13 fun (x6_14 : Int64) => (if (lg_cmp x6_14 c3_19) ≤ 0 then j66 σ_12 c2_19 c3_19 else bnd x6_14 fun (x3_15 : Int64) => bnd c5_19 fun (x2_16 : Int32) => j66 σ_12 x2_16 x3_15) else j66 σ_6 c2_19 c3_19)))
def fX7_wishedDoor (σ : St) (p1 : Int32) : Option (St × Int32) :=
  bnd (-1 : Int32) fun (x2_1 : Int32) => cl (fX7_weightInAll σ ) fun (σ_2 : St) (t_3 : Int64) => bnd ((((σ.1 2 5)).toInt64) * t_3) fun (x3_4 : Int64) => bnd (0 : Int32) fun (x5_5 : Int32) => fX7_wishedDoor_L19 p1 (fun (σ_17 : St) (x2_18 : Int32) (x3_19 : Int64) (x5_20 : Int32) => some (σ_17, x2_18)) FU σ_2 x2_1 x3_4 x5_5
set_option maxRecDepth 20000 in
set_option maxHeartbeats 4000000 in
theorem sX7_wishedDoor_L19 {X : CX} {a : Nat → Nat} {D : va_G} {tI tJ tB tS : ClassId} {kK kV : Nat → Nat} {q1_19 : Int32} {kx19 : St → Int32 → Int64 → Int32 → Option (St × Int32)} {r : St × Int32} (hX : OKX X (vC a D tI tJ tB tS kK kV) cX7_wishedDoor 8 RX7 4 98) (hR : ∀ (pc : Nat) (lv : List (Nat × Value)), decode cX7_wishedDoor pc = .ok (.ireturn, 1) → G X (vC a D tI tJ tB tS kK kV) 8 r.1 pc lv [.int r.2]) (hkx19 : ∀ (σ : St) (e2_19 : Int32) (e3_19 : Int64) (e5_19 : Int32), kx19 σ e2_19 e3_19 e5_19 = some r → G X (vC a D tI tJ tB tS kK kV) 8 σ 72 [(2, .int e2_19)] []) : ∀ (n : Nat) (σ : St) (c2_19 : Int32) (c3_19 : Int64) (c5_19 : Int32), fX7_wishedDoor_L19 q1_19 kx19 n σ c2_19 c3_19 c5_19 = some r → G X (vC a D tI tJ tB tS kK kV) 8 σ 19 [(0, .ref (a 43)), (1, .int q1_19), (2, .int c2_19), (3, .long c3_19), (5, .int c5_19)] [] := by
  intro n
  induction n with
  | zero => intro σ c2_19 c3_19 c5_19 h; rw [fX7_wishedDoor_L19] at h; exact absurd h (by simp)
  | succ n19 ih19 =>
    intro σ c2_19 c3_19 c5_19 h
    rw [fX7_wishedDoor_L19] at h
    refine g_iload hX 4 dX7_wishedDoor_19 rfl ?_
    refine g_aload_n hX 0 dX7_wishedDoor_21 rfl rfl ?_
    refine gCX7_9_43 hX dX7_wishedDoor_22 ?_
    refine gCX7_85_2 hX dX7_wishedDoor_25 ?_
    refine g_icmp_ge hX 72 dX7_wishedDoor_28 (by decide) h (fun h => ?_) (fun h => ?_)
    · exact g_sub [2] rfl (hkx19 _ _ _ _ h)
    · refine g_aload_n hX 0 dX7_wishedDoor_31 rfl rfl ?_
      refine gCX7_9_43 hX dX7_wishedDoor_32 ?_
      refine g_iload_n hX 1 dX7_wishedDoor_35 rfl rfl ?_
      refine g_iload hX 4 dX7_wishedDoor_36 rfl ?_
      refine g_callNI (As := [.int q1_19, .int c5_19]) (rest := []) hX 2 (Nat.le_of_ble_eq_true rfl) rfl rfl miX6_asks mvX6_asks lkX7_241 (by decide) rfl (Nat.le_of_ble_eq_true rfl) rfl dX7_wishedDoor_38 (fun τ x ho => kX6_asks _ ho) h (fun σ_6 t_7 h => ?_)
      refine jp_inv (P := fun f => ∀ (σ_8 : St) (x2_9 : Int32) (x3_10 : Int64) , f σ_8 x2_9 x3_10 = some r → G X (vC a D tI tJ tB tS kK kV) 8 σ_8 66 [(0, .ref (a 43)), (1, .int q1_19), (5, .int c5_19), (2, .int x2_9), (3, .long x3_10)] []) h (fun σ_8 x2_9 x3_10 h => ?_) (fun j66 hj66 h => ?_)
      · refine g_iinc (y := (1)) (lv' := fun x5_11 => [(5, .int x5_11), (0, .ref (a 43)), (1, .int q1_19), (2, .int x2_9), (3, .long x3_10)]) hX 2 dX7_wishedDoor_66 rfl (by decide) (by decide) (fun _ => rfl) h (fun x5_11 h => ?_)
        refine g_goto hX 19 dX7_wishedDoor_69 (by decide) ?_
        exact g_sub [1, 2, 3, 4, 0] rfl (ih19 _ _ _ _ h)
      refine g_if_ne hX 66 dX7_wishedDoor_41 (by decide) h (fun h => ?_) (fun h => ?_)
      · exact g_sub [0, 1, 4, 2, 3] rfl (hj66 _ _ _ h)
      · refine g_aload_n hX 0 dX7_wishedDoor_44 rfl rfl ?_
        refine g_iload_n hX 1 dX7_wishedDoor_45 rfl rfl ?_
        refine g_iload hX 4 dX7_wishedDoor_46 rfl ?_
        refine g_callVL (As := [.int q1_19, .int c5_19]) (rest := []) hX 43 (Nat.le_of_ble_eq_true rfl) rfl rfl miX7_savedBy mvX7_savedBy lkX7_245 (by decide) rfl (Nat.le_of_ble_eq_true rfl) rfl dX7_wishedDoor_48 (fun τ x ho => kX7_savedBy _ ho) h (fun σ_12 t_13 h => ?_)
        refine g_lstore (lv' := fun x6_14 => [(6, .long x6_14), (0, .ref (a 43)), (1, .int q1_19), (2, .int c2_19), (3, .long c3_19), (5, .int c5_19)]) hX dX7_wishedDoor_51 (by decide) (fun _ => rfl) h (fun x6_14 h => ?_)
        refine g_lload hX 0 dX7_wishedDoor_53 rfl ?_
        refine g_lload_n hX 4 dX7_wishedDoor_55 rfl rfl ?_
        refine g_lcmp hX dX7_wishedDoor_56 ?_
        refine g_if_le hX 66 dX7_wishedDoor_57 (by decide) h (fun h => ?_) (fun h => ?_)
        · exact g_sub [1, 2, 5, 3, 4] rfl (hj66 _ _ _ h)
        · refine g_lload hX 0 dX7_wishedDoor_60 rfl ?_
          refine g_lstore_n (lv' := fun x3_15 => [(3, .long x3_15), (6, .long x6_14), (0, .ref (a 43)), (1, .int q1_19), (2, .int c2_19), (5, .int c5_19)]) hX dX7_wishedDoor_62 rfl (by decide) (fun _ => rfl) h (fun x3_15 h => ?_)
          refine g_iload hX 5 dX7_wishedDoor_63 rfl ?_
          refine g_istore_n (lv' := fun x2_16 => [(2, .int x2_16), (3, .long x3_15), (6, .long x6_14), (0, .ref (a 43)), (1, .int q1_19), (5, .int c5_19)]) hX dX7_wishedDoor_65 rfl (by decide) (fun _ => rfl) h (fun x2_16 h => ?_)
          exact g_sub [3, 4, 5, 0, 1] rfl (hj66 _ _ _ h)
set_option maxRecDepth 20000 in
set_option maxHeartbeats 4000000 in
theorem sX7_wishedDoor {X : CX} {a : Nat → Nat} {D : va_G} {tI tJ tB tS : ClassId} {kK kV : Nat → Nat} {σ : St}  {p1 : Int32} {r : St × Int32} (hX : OKX X (vC a D tI tJ tB tS kK kV) cX7_wishedDoor 8 RX7 4 98) (hR : ∀ (pc : Nat) (lv : List (Nat × Value)), decode cX7_wishedDoor pc = .ok (.ireturn, 1) → G X (vC a D tI tJ tB tS kK kV) 8 r.1 pc lv [.int r.2])  (h : fX7_wishedDoor σ p1 = some r) : G X (vC a D tI tJ tB tS kK kV) 8 σ 0 [(0, .ref (a 43)), (1, .int p1)] [] := by
  unfold fX7_wishedDoor at h
  refine g_iconst hX (-1) dX7_wishedDoor_0 (by decide) ?_
  refine g_istore_n (lv' := fun x2_1 => [(2, .int x2_1), (0, .ref (a 43)), (1, .int p1)]) hX dX7_wishedDoor_1 rfl (by decide) (fun _ => rfl) h (fun x2_1 h => ?_)
  refine g_aload_n hX 1 dX7_wishedDoor_2 rfl rfl ?_
  refine gCX7_9_43 hX dX7_wishedDoor_3 ?_
  refine gCX7_238_2 hX dX7_wishedDoor_6 ?_
  refine g_i2l hX dX7_wishedDoor_9 ?_
  refine g_aload_n hX 1 dX7_wishedDoor_10 rfl rfl ?_
  refine g_callVL (As := []) (rest := [.long (((σ.1 2 5)).toInt64)]) hX 43 (Nat.le_of_ble_eq_true rfl) rfl rfl miX7_weightInAll mvX7_weightInAll lkX7_217 (by decide) rfl (Nat.le_of_ble_eq_true rfl) rfl dX7_wishedDoor_11 (fun τ x ho => kX7_weightInAll _ ho) h (fun σ_2 t_3 h => ?_)
  refine g_lmul hX dX7_wishedDoor_14 ?_
  refine g_lstore_n (lv' := fun x3_4 => [(3, .long x3_4), (2, .int x2_1), (0, .ref (a 43)), (1, .int p1)]) hX dX7_wishedDoor_15 rfl (by decide) (fun _ => rfl) h (fun x3_4 h => ?_)
  refine g_iconst hX (0) dX7_wishedDoor_16 (by decide) ?_
  refine g_istore (lv' := fun x5_5 => [(5, .int x5_5), (3, .long x3_4), (2, .int x2_1), (0, .ref (a 43)), (1, .int p1)]) hX dX7_wishedDoor_17 (by decide) (fun _ => rfl) h (fun x5_5 h => ?_)
  refine g_sub [3, 4, 2, 1, 0] rfl (sX7_wishedDoor_L19 hX hR (fun σ_17 x2_18 x3_19 x5_20 h => ?_) FU _ _ _ _ h)
  refine g_iload_n hX 0 dX7_wishedDoor_72 rfl rfl ?_
  exact g_reti hR h dX7_wishedDoor_73
set_option maxRecDepth 20000 in
set_option maxHeartbeats 4000000 in
theorem kX7_wishedDoor (l : Launch) {a : Nat → Nat} {D : va_G} {tI tJ tB tS : ClassId} {kK kV : Nat → Nat} {σ τ : St}  {p1 : Int32} {x : Int32} (h : fX7_wishedDoor σ p1 = some (τ, x)) : CtI l yX7_wishedDoor cX7_wishedDoor 8 (some .int) 4 98 (vC a D tI tJ tB tS kK kV) σ [.ref (a 43), .int p1] τ x := g_metI (by decide) (Nat.le_of_ble_eq_true rfl) rfl (fun X _ hX hR => sX7_wishedDoor (r := (τ, x)) hX hR h)
