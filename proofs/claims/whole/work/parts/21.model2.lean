def fX9_isKept (σ : St) (p1 : Int64) : Option (St × Int32) :=
  (if (lg_cmp p1 (422541223282 : Int64)) = 0 then some (σ, (1 : Int32)) else (if (lg_cmp p1 (1668248436 : Int64)) = 0 then some (σ, (1 : Int32)) else (if (lg_cmp p1 (495874044019 : Int64)) = 0 then some (σ, (1 : Int32)) else (if (lg_cmp p1 (1718775661 : Int64)) = 0 then some (σ, (1 : Int32)) else (if (lg_cmp p1 (25209 : Int64)) = 0 then some (σ, (1 : Int32)) else (if (lg_cmp p1 (1818850164 : Int64)) = 0 then some (σ, (1 : Int32)) else (if (lg_cmp p1 (1685024626 : Int64)) = 0 then some (σ, (1 : Int32)) else (jp (fun (σ_1 : St)   => some (σ_1, (1 : Int32))) fun j114 => (if (lg_cmp p1 (512970548590 : Int64)) = 0 then j114 σ else (if (lg_cmp p1 (6386539 : Int64)) = 0 then j114 σ else (if (lg_cmp p1 (6385252 : Int64)) = 0 then j114 σ else (if (lg_cmp p1 (512970880104 : Int64)) = 0 then j114 σ else (if (lg_cmp p1 (1700881256 : Int64)) = 0 then j114 σ else (if (lg_cmp p1 (28518 : Int64)) = 0 then j114 σ else (if (lg_cmp p1 (32199616315617907 : Int64)) = 0 then j114 σ else some (σ, (0 : Int32)))))))))))))))))
set_option maxRecDepth 20000 in
set_option maxHeartbeats 4000000 in
theorem sX9_isKept {X : CX} {a : Nat → Nat} {D : va_G} {tI tJ tB : ClassId} {zz : SV} {σ : St}  {p1 : Int64} {r : St × Int32} (hX : OKX X (vM a D tI tJ tB zz) cX9_isKept 2 RX9 0 0) (hR : (r.2 = 0 ∨ r.2 = 1) → ∀ (pc : Nat) (lv : List (Nat × Value)), decode cX9_isKept pc = .ok (.ireturn, 1) → G X (vM a D tI tJ tB zz) 2 r.1 pc lv [.int r.2]) (h : fX9_isKept σ p1 = some r) : G X (vM a D tI tJ tB zz) 2 σ 0 [(0, .long p1)] [] := by
  unfold fX9_isKept at h
  refine g_lload_n hX 0 dX9_isKept_0 rfl rfl ?_
  refine g_ldc2 hX lkX9_160 dX9_isKept_1 ?_
  refine g_lcmp hX dX9_isKept_4 ?_
  refine g_if_eq hX 56 dX9_isKept_5 (by decide) h (fun h => ?_) (fun h => ?_)
  · refine g_iconst hX (1) dX9_isKept_56 (by decide) ?_
    exact g_retz hR (by decide) h dX9_isKept_57
  · refine g_lload_n hX 0 dX9_isKept_8 rfl rfl ?_
    refine g_ldc2 hX lkX9_162 dX9_isKept_9 ?_
    refine g_lcmp hX dX9_isKept_12 ?_
    refine g_if_eq hX 56 dX9_isKept_13 (by decide) h (fun h => ?_) (fun h => ?_)
    · refine g_iconst hX (1) dX9_isKept_56 (by decide) ?_
      exact g_retz hR (by decide) h dX9_isKept_57
    · refine g_lload_n hX 0 dX9_isKept_16 rfl rfl ?_
      refine g_ldc2 hX lkX9_164 dX9_isKept_17 ?_
      refine g_lcmp hX dX9_isKept_20 ?_
      refine g_if_eq hX 56 dX9_isKept_21 (by decide) h (fun h => ?_) (fun h => ?_)
      · refine g_iconst hX (1) dX9_isKept_56 (by decide) ?_
        exact g_retz hR (by decide) h dX9_isKept_57
      · refine g_lload_n hX 0 dX9_isKept_24 rfl rfl ?_
        refine g_ldc2 hX lkX9_166 dX9_isKept_25 ?_
        refine g_lcmp hX dX9_isKept_28 ?_
        refine g_if_eq hX 56 dX9_isKept_29 (by decide) h (fun h => ?_) (fun h => ?_)
        · refine g_iconst hX (1) dX9_isKept_56 (by decide) ?_
          exact g_retz hR (by decide) h dX9_isKept_57
        · refine g_lload_n hX 0 dX9_isKept_32 rfl rfl ?_
          refine g_ldc2 hX lkX9_168 dX9_isKept_33 ?_
          refine g_lcmp hX dX9_isKept_36 ?_
          refine g_if_eq hX 56 dX9_isKept_37 (by decide) h (fun h => ?_) (fun h => ?_)
          · refine g_iconst hX (1) dX9_isKept_56 (by decide) ?_
            exact g_retz hR (by decide) h dX9_isKept_57
          · refine g_lload_n hX 0 dX9_isKept_40 rfl rfl ?_
            refine g_ldc2 hX lkX9_170 dX9_isKept_41 ?_
            refine g_lcmp hX dX9_isKept_44 ?_
            refine g_if_eq hX 56 dX9_isKept_45 (by decide) h (fun h => ?_) (fun h => ?_)
            · refine g_iconst hX (1) dX9_isKept_56 (by decide) ?_
              exact g_retz hR (by decide) h dX9_isKept_57
            · refine g_lload_n hX 0 dX9_isKept_48 rfl rfl ?_
              refine g_ldc2 hX lkX9_172 dX9_isKept_49 ?_
              refine g_lcmp hX dX9_isKept_52 ?_
              refine g_if_ne hX 58 dX9_isKept_53 (by decide) h (fun h => ?_) (fun h => ?_)
              · refine g_lload_n hX 0 dX9_isKept_58 rfl rfl ?_
                refine g_ldc2 hX lkX9_174 dX9_isKept_59 ?_
                refine g_lcmp hX dX9_isKept_62 ?_
                refine jp_inv (P := fun f => ∀ (σ_1 : St)  , f σ_1 = some r → G X (vM a D tI tJ tB zz) 2 σ_1 114 [] []) h (fun σ_1 h => ?_) (fun j114 hj114 h => ?_)
                · refine g_iconst hX (1) dX9_isKept_114 (by decide) ?_
                  refine g_goto hX 119 dX9_isKept_115 (by decide) ?_
                  exact g_retz hR (by decide) h dX9_isKept_119
                refine g_if_eq hX 114 dX9_isKept_63 (by decide) h (fun h => ?_) (fun h => ?_)
                · exact g_sub [] rfl (hj114 _ h)
                · refine g_lload_n hX 0 dX9_isKept_66 rfl rfl ?_
                  refine g_ldc2 hX lkX9_176 dX9_isKept_67 ?_
                  refine g_lcmp hX dX9_isKept_70 ?_
                  refine g_if_eq hX 114 dX9_isKept_71 (by decide) h (fun h => ?_) (fun h => ?_)
                  · exact g_sub [] rfl (hj114 _ h)
                  · refine g_lload_n hX 0 dX9_isKept_74 rfl rfl ?_
                    refine g_ldc2 hX lkX9_178 dX9_isKept_75 ?_
                    refine g_lcmp hX dX9_isKept_78 ?_
                    refine g_if_eq hX 114 dX9_isKept_79 (by decide) h (fun h => ?_) (fun h => ?_)
                    · exact g_sub [] rfl (hj114 _ h)
                    · refine g_lload_n hX 0 dX9_isKept_82 rfl rfl ?_
                      refine g_ldc2 hX lkX9_180 dX9_isKept_83 ?_
                      refine g_lcmp hX dX9_isKept_86 ?_
                      refine g_if_eq hX 114 dX9_isKept_87 (by decide) h (fun h => ?_) (fun h => ?_)
                      · exact g_sub [] rfl (hj114 _ h)
                      · refine g_lload_n hX 0 dX9_isKept_90 rfl rfl ?_
                        refine g_ldc2 hX lkX9_182 dX9_isKept_91 ?_
                        refine g_lcmp hX dX9_isKept_94 ?_
                        refine g_if_eq hX 114 dX9_isKept_95 (by decide) h (fun h => ?_) (fun h => ?_)
                        · exact g_sub [] rfl (hj114 _ h)
                        · refine g_lload_n hX 0 dX9_isKept_98 rfl rfl ?_
                          refine g_ldc2 hX lkX9_184 dX9_isKept_99 ?_
                          refine g_lcmp hX dX9_isKept_102 ?_
                          refine g_if_eq hX 114 dX9_isKept_103 (by decide) h (fun h => ?_) (fun h => ?_)
                          · exact g_sub [] rfl (hj114 _ h)
                          · refine g_lload_n hX 0 dX9_isKept_106 rfl rfl ?_
                            refine g_ldc2 hX lkX9_186 dX9_isKept_107 ?_
                            refine g_lcmp hX dX9_isKept_110 ?_
                            refine g_if_ne hX 118 dX9_isKept_111 (by decide) h (fun h => ?_) (fun h => ?_)
                            · refine g_iconst hX (0) dX9_isKept_118 (by decide) ?_
                              exact g_retz hR (by decide) h dX9_isKept_119
                            · exact g_sub [] rfl (hj114 _ h)
              · refine g_iconst hX (1) dX9_isKept_56 (by decide) ?_
                exact g_retz hR (by decide) h dX9_isKept_57
set_option maxRecDepth 20000 in
set_option maxHeartbeats 4000000 in
theorem kX9_isKept (l : Launch) {a : Nat → Nat} {D : va_G} {tI tJ tB : ClassId} {zz : SV} {σ τ : St}  {p1 : Int64} {x : Int32} (h : fX9_isKept σ p1 = some (τ, x)) : CtI l yX9_isKept cX9_isKept 2 (some .boolean) 0 0 (vM a D tI tJ tB zz) σ [.long p1] τ x := g_metZ (by decide) (Nat.le_of_ble_eq_true rfl) rfl (fun X _ hX hR => sX9_isKept (r := (τ, x)) hX hR h)
def fX9_named_L2 (q1_2 : Int64) (kx2 : St → Int32 → Option (St × Int32)) : Nat → St → Int32 → Option (St × Int32)
  | 0, _, _ => none
  | n2 + 1, σ, c3_2 =>
    (if (σ.1 0 15) ≤ c3_2 then kx2 σ c3_2 else chk (inb c3_2 4) ((if (lg_cmp (σ.2 7 (ix c3_2)) q1_2) = 0 then some (σ, c3_2) else bnd (c3_2 + (1 : Int32)) fun (x3_2 : Int32) => fX9_named_L2 q1_2 kx2 n2 σ x3_2)))
def fX9_named (σ : St) (p1 : Int64) : Option (St × Int32) :=
  bnd (0 : Int32) fun (x3_1 : Int32) => fX9_named_L2 p1 (fun (σ_3 : St) (x3_4 : Int32) => some (σ_3, (-1 : Int32))) FU σ x3_1
set_option maxRecDepth 20000 in
set_option maxHeartbeats 4000000 in
theorem sX9_named_L2 {X : CX} {a : Nat → Nat} {D : va_G} {tI tJ tB : ClassId} {zz : SV} {q1_2 : Int64} {kx2 : St → Int32 → Option (St × Int32)} {r : St × Int32} (hX : OKX X (vM a D tI tJ tB zz) cX9_named 4 RX9 0 0) (hR : ∀ (pc : Nat) (lv : List (Nat × Value)), decode cX9_named pc = .ok (.ireturn, 1) → G X (vM a D tI tJ tB zz) 4 r.1 pc lv [.int r.2]) (hkx2 : ∀ (σ : St) (e3_2 : Int32), kx2 σ e3_2 = some r → G X (vM a D tI tJ tB zz) 4 σ 29 [] []) : ∀ (n : Nat) (σ : St) (c3_2 : Int32), fX9_named_L2 q1_2 kx2 n σ c3_2 = some r → G X (vM a D tI tJ tB zz) 4 σ 2 [(0, .ref (a 0)), (1, .long q1_2), (3, .int c3_2)] [] := by
  intro n
  induction n with
  | zero => intro σ c3_2 h; rw [fX9_named_L2] at h; exact absurd h (by simp)
  | succ n2 ih2 =>
    intro σ c3_2 h
    rw [fX9_named_L2] at h
    refine g_iload_n hX 2 dX9_named_2 rfl rfl ?_
    refine g_aload_n hX 0 dX9_named_3 rfl rfl ?_
    refine gM_188 hX dX9_named_4 ?_
    refine g_icmp_ge hX 29 dX9_named_7 (by decide) h (fun h => ?_) (fun h => ?_)
    · exact g_sub [] rfl (hkx2 _ _ h)
    · refine g_aload_n hX 0 dX9_named_10 rfl rfl ?_
      refine gM_39 hX dX9_named_11 ?_
      refine g_iload_n hX 2 dX9_named_14 rfl rfl ?_
      refine alM_7 hX dX9_named_15 h (fun h => ?_)
      refine g_lload_n hX 1 dX9_named_16 rfl rfl ?_
      refine g_lcmp hX dX9_named_17 ?_
      refine g_if_ne hX 23 dX9_named_18 (by decide) h (fun h => ?_) (fun h => ?_)
      · refine g_iinc (y := (1)) (lv' := fun x3_2 => [(3, .int x3_2), (0, .ref (a 0)), (1, .long q1_2)]) hX 2 dX9_named_23 rfl (by decide) (by decide) (fun _ => rfl) h (fun x3_2 h => ?_)
        refine g_goto hX 2 dX9_named_26 (by decide) ?_
        exact g_sub [1, 2, 0] rfl (ih2 _ _ h)
      · refine g_iload_n hX 2 dX9_named_21 rfl rfl ?_
        exact g_reti hR h dX9_named_22
set_option maxRecDepth 20000 in
set_option maxHeartbeats 4000000 in
theorem sX9_named {X : CX} {a : Nat → Nat} {D : va_G} {tI tJ tB : ClassId} {zz : SV} {σ : St}  {p1 : Int64} {r : St × Int32} (hX : OKX X (vM a D tI tJ tB zz) cX9_named 4 RX9 0 0) (hR : ∀ (pc : Nat) (lv : List (Nat × Value)), decode cX9_named pc = .ok (.ireturn, 1) → G X (vM a D tI tJ tB zz) 4 r.1 pc lv [.int r.2]) (h : fX9_named σ p1 = some r) : G X (vM a D tI tJ tB zz) 4 σ 0 [(0, .ref (a 0)), (1, .long p1)] [] := by
  unfold fX9_named at h
  refine g_iconst hX (0) dX9_named_0 (by decide) ?_
  refine g_istore_n (lv' := fun x3_1 => [(3, .int x3_1), (0, .ref (a 0)), (1, .long p1)]) hX dX9_named_1 rfl (by decide) (fun _ => rfl) h (fun x3_1 h => ?_)
  refine g_sub [1, 2, 0] rfl (sX9_named_L2 hX hR (fun σ_3 x3_4 h => ?_) FU _ _ h)
  refine g_iconst hX (-1) dX9_named_29 (by decide) ?_
  exact g_reti hR h dX9_named_30
set_option maxRecDepth 20000 in
set_option maxHeartbeats 4000000 in
theorem kX9_named (l : Launch) {a : Nat → Nat} {D : va_G} {tI tJ tB : ClassId} {zz : SV} {σ τ : St}  {p1 : Int64} {x : Int32} (h : fX9_named σ p1 = some (τ, x)) : CtI l yX9_named cX9_named 4 (some .int) 0 0 (vM a D tI tJ tB zz) σ [.ref (a 0), .long p1] τ x := g_metI (by decide) (Nat.le_of_ble_eq_true rfl) rfl (fun X _ hX hR => sX9_named (r := (τ, x)) hX hR h)
def fX9_baker (σ : St) (p1 : Int32) : Option (St × Int32) :=
  cl (fX9_word σ ) fun (σ_1 : St) (t_2 : Int64) => cl (fX9_named σ_1 t_2) fun (σ_3 : St) (t_4 : Int32) => bnd t_4 fun (x2_5 : Int32) => (if x2_5 = (-1 : Int32) then some (σ_3, (-1 : Int32)) else cl (fX9_has σ_3 p1 x2_5) fun (σ_6 : St) (t_7 : Int32) => (if t_7 = 0 then bnd (sI σ_6 0 31 (σ_6.1 0 35)) fun (σ_8 : St) => some (σ_8, x2_5) else some (σ_6, (-1 : Int32))))
set_option maxRecDepth 20000 in
set_option maxHeartbeats 4000000 in
theorem sX9_baker {X : CX} {a : Nat → Nat} {D : va_G} {tI tJ tB : ClassId} {zz : SV} {σ : St}  {p1 : Int32} {r : St × Int32} (hX : OKX X (vM a D tI tJ tB zz) cX9_baker 3 RX9 2 42) (hR : ∀ (pc : Nat) (lv : List (Nat × Value)), decode cX9_baker pc = .ok (.ireturn, 1) → G X (vM a D tI tJ tB zz) 3 r.1 pc lv [.int r.2]) (h : fX9_baker σ p1 = some r) : G X (vM a D tI tJ tB zz) 3 σ 0 [(0, .ref (a 0)), (1, .int p1)] [] := by
  unfold fX9_baker at h
  refine g_aload_n hX 0 dX9_baker_0 rfl rfl ?_
  refine g_aload_n hX 0 dX9_baker_1 rfl rfl ?_
  refine g_callVL (As := []) (rest := [.ref (a 0)]) hX 0 (Nat.le_of_ble_eq_true rfl) rfl rfl miX9_word mvX9_word lkX9_149 (by decide) rfl (Nat.le_of_ble_eq_true rfl) rfl dX9_baker_2 (fun τ x ho => kX9_word _ ho) h (fun σ_1 t_2 h => ?_)
  refine g_callVI (As := [.long t_2]) (rest := []) hX 0 (Nat.le_of_ble_eq_true rfl) rfl rfl miX9_named mvX9_named lkX9_191 (by decide) rfl (Nat.le_of_ble_eq_true rfl) rfl dX9_baker_5 (fun τ x ho => kX9_named _ ho) h (fun σ_3 t_4 h => ?_)
  refine g_istore_n (lv' := fun x2_5 => [(2, .int x2_5), (0, .ref (a 0)), (1, .int p1)]) hX dX9_baker_8 rfl (by decide) (fun _ => rfl) h (fun x2_5 h => ?_)
  refine g_iload_n hX 0 dX9_baker_9 rfl rfl ?_
  refine g_iconst hX (-1) dX9_baker_10 (by decide) ?_
  refine g_icmp_eq hX 22 dX9_baker_11 (by decide) h (fun h => ?_) (fun h => ?_)
  · refine g_iconst hX (-1) dX9_baker_22 (by decide) ?_
    exact g_reti hR h dX9_baker_23
  · refine g_iload_n hX 2 dX9_baker_14 rfl rfl ?_
    refine g_iload_n hX 0 dX9_baker_15 rfl rfl ?_
    refine g_callSI (As := [.int p1, .int x2_5]) (rest := []) hX miX9_has mvX9_has lkX9_195 (by decide) rfl (Nat.le_of_ble_eq_true rfl) rfl dX9_baker_16 (fun τ x ho => kX9_has _ ho) h (fun σ_6 t_7 h => ?_)
    refine g_if_eq hX 24 dX9_baker_19 (by decide) h (fun h => ?_) (fun h => ?_)
    · refine g_aload_n hX 1 dX9_baker_24 rfl rfl ?_
      refine g_aload_n hX 1 dX9_baker_25 rfl rfl ?_
      refine gM_146 hX dX9_baker_26 ?_
      refine pM_137 hX dX9_baker_29 h (fun σ_8 h => ?_)
      refine g_iload_n hX 0 dX9_baker_32 rfl rfl ?_
      exact g_reti hR h dX9_baker_33
    · refine g_iconst hX (-1) dX9_baker_22 (by decide) ?_
      exact g_reti hR h dX9_baker_23
set_option maxRecDepth 20000 in
set_option maxHeartbeats 4000000 in
theorem kX9_baker (l : Launch) {a : Nat → Nat} {D : va_G} {tI tJ tB : ClassId} {zz : SV} {σ τ : St}  {p1 : Int32} {x : Int32} (h : fX9_baker σ p1 = some (τ, x)) : CtI l yX9_baker cX9_baker 3 (some .int) 2 42 (vM a D tI tJ tB zz) σ [.ref (a 0), .int p1] τ x := g_metI (by decide) (Nat.le_of_ble_eq_true rfl) rfl (fun X _ hX hR => sX9_baker (r := (τ, x)) hX hR h)
def fX9_bakerTold (σ : St)  : Option (St × Int32) :=
  cl (fX9_word σ ) fun (σ_1 : St) (t_2 : Int64) => bnd t_2 fun (x1_3 : Int64) => (if (lg_cmp x1_3 (0 : Int64)) = 0 then some (σ_1, (0 : Int32)) else cl (fX9_isKept σ_1 x1_3) fun (σ_4 : St) (t_5 : Int32) => (if t_5 = 0 then cl (fX9_named σ_4 x1_3) fun (σ_6 : St) (t_7 : Int32) => (if t_7 = (-1 : Int32) then (if (σ_6.1 0 15) = (4 : Int32) then some (σ_6, (0 : Int32)) else bnd (sI σ_6 0 31 (σ_6.1 0 35)) fun (σ_8 : St) => chk (inb (σ_8.1 0 15) 4) (bnd (sL σ_8 7 (ix (σ_8.1 0 15)) x1_3) fun (σ_9 : St) => cl (fX9_takes σ_9 (1668248436 : Int64)) fun (σ_10 : St) (t_11 : Int32) => (if t_11 = 0 then some (σ_10, (0 : Int32)) else cl (fX9_takesNumber σ_10 (0 : Int32) (99 : Int32)) fun (σ_12 : St) (t_13 : Int32) => (if t_13 = 0 then some (σ_12, (0 : Int32)) else chk (inb (σ_12.1 0 15) 4) (bnd (sI σ_12 8 (ix (σ_12.1 0 15)) (σ_12.1 0 36)) fun (σ_14 : St) => bnd (sI σ_14 0 15 ((σ_14.1 0 15) + (1 : Int32))) fun (σ_15 : St) => some (σ_15, (1 : Int32))))))) else some (σ_6, (0 : Int32))) else some (σ_4, (0 : Int32))))
set_option maxRecDepth 20000 in
set_option maxHeartbeats 4000000 in
theorem sX9_bakerTold {X : CX} {a : Nat → Nat} {D : va_G} {tI tJ tB : ClassId} {zz : SV} {σ : St}   {r : St × Int32} (hX : OKX X (vM a D tI tJ tB zz) cX9_bakerTold 3 RX9 3 64) (hR : (r.2 = 0 ∨ r.2 = 1) → ∀ (pc : Nat) (lv : List (Nat × Value)), decode cX9_bakerTold pc = .ok (.ireturn, 1) → G X (vM a D tI tJ tB zz) 3 r.1 pc lv [.int r.2]) (h : fX9_bakerTold σ  = some r) : G X (vM a D tI tJ tB zz) 3 σ 0 [(0, .ref (a 0))] [] := by
  unfold fX9_bakerTold at h
  refine g_aload_n hX 0 dX9_bakerTold_0 rfl rfl ?_
  refine g_callVL (As := []) (rest := []) hX 0 (Nat.le_of_ble_eq_true rfl) rfl rfl miX9_word mvX9_word lkX9_149 (by decide) rfl (Nat.le_of_ble_eq_true rfl) rfl dX9_bakerTold_1 (fun τ x ho => kX9_word _ ho) h (fun σ_1 t_2 h => ?_)
  refine g_lstore_n (lv' := fun x1_3 => [(1, .long x1_3), (0, .ref (a 0))]) hX dX9_bakerTold_4 rfl (by decide) (fun _ => rfl) h (fun x1_3 h => ?_)
  refine g_lload_n hX 0 dX9_bakerTold_5 rfl rfl ?_
  refine g_lconst hX (0) dX9_bakerTold_6 (by decide) ?_
  refine g_lcmp hX dX9_bakerTold_7 ?_
  refine g_if_eq hX 35 dX9_bakerTold_8 (by decide) h (fun h => ?_) (fun h => ?_)
  · refine g_iconst hX (0) dX9_bakerTold_35 (by decide) ?_
    exact g_retz hR (by decide) h dX9_bakerTold_36
  · refine g_lload_n hX 0 dX9_bakerTold_11 rfl rfl ?_
    refine g_callSI (As := [.long x1_3]) (rest := []) hX miX9_isKept mvX9_isKept lkX9_199 (by decide) rfl (Nat.le_of_ble_eq_true rfl) rfl dX9_bakerTold_12 (fun τ x ho => kX9_isKept _ ho) h (fun σ_4 t_5 h => ?_)
    refine g_if_ne hX 35 dX9_bakerTold_15 (by decide) h (fun h => ?_) (fun h => ?_)
    · refine g_iconst hX (0) dX9_bakerTold_35 (by decide) ?_
      exact g_retz hR (by decide) h dX9_bakerTold_36
    · refine g_aload_n hX 1 dX9_bakerTold_18 rfl rfl ?_
      refine g_lload_n hX 0 dX9_bakerTold_19 rfl rfl ?_
      refine g_callVI (As := [.long x1_3]) (rest := []) hX 0 (Nat.le_of_ble_eq_true rfl) rfl rfl miX9_named mvX9_named lkX9_191 (by decide) rfl (Nat.le_of_ble_eq_true rfl) rfl dX9_bakerTold_20 (fun τ x ho => kX9_named _ ho) h (fun σ_6 t_7 h => ?_)
      refine g_iconst hX (-1) dX9_bakerTold_23 (by decide) ?_
      refine g_icmp_ne hX 35 dX9_bakerTold_24 (by decide) h (fun h => ?_) (fun h => ?_)
      · refine g_iconst hX (0) dX9_bakerTold_35 (by decide) ?_
        exact g_retz hR (by decide) h dX9_bakerTold_36
      · refine g_aload_n hX 1 dX9_bakerTold_27 rfl rfl ?_
        refine gM_188 hX dX9_bakerTold_28 ?_
        refine g_iconst hX (4) dX9_bakerTold_31 (by decide) ?_
        refine g_icmp_ne hX 37 dX9_bakerTold_32 (by decide) h (fun h => ?_) (fun h => ?_)
        · refine g_aload_n hX 1 dX9_bakerTold_37 rfl rfl ?_
          refine g_aload_n hX 1 dX9_bakerTold_38 rfl rfl ?_
          refine gM_146 hX dX9_bakerTold_39 ?_
          refine pM_137 hX dX9_bakerTold_42 h (fun σ_8 h => ?_)
          refine g_aload_n hX 1 dX9_bakerTold_45 rfl rfl ?_
          refine gM_39 hX dX9_bakerTold_46 ?_
          refine g_aload_n hX 1 dX9_bakerTold_49 rfl rfl ?_
          refine gM_188 hX dX9_bakerTold_50 ?_
          refine g_lload_n hX 0 dX9_bakerTold_53 rfl rfl ?_
          refine asM_7 hX dX9_bakerTold_54 h (fun σ_9 h => ?_)
          refine g_aload_n hX 1 dX9_bakerTold_55 rfl rfl ?_
          refine g_ldc2 hX lkX9_162 dX9_bakerTold_56 ?_
          refine g_callVI (As := [.long (1668248436 : Int64)]) (rest := []) hX 0 (Nat.le_of_ble_eq_true rfl) rfl rfl miX9_takes mvX9_takes lkX9_203 (by decide) rfl (Nat.le_of_ble_eq_true rfl) rfl dX9_bakerTold_59 (fun τ x ho => kX9_takes _ ho) h (fun σ_10 t_11 h => ?_)
          refine g_if_eq hX 75 dX9_bakerTold_62 (by decide) h (fun h => ?_) (fun h => ?_)
          · refine g_iconst hX (0) dX9_bakerTold_75 (by decide) ?_
            exact g_retz hR (by decide) h dX9_bakerTold_76
          · refine g_aload_n hX 1 dX9_bakerTold_65 rfl rfl ?_
            refine g_iconst hX (0) dX9_bakerTold_66 (by decide) ?_
            refine g_bipush hX (99) dX9_bakerTold_67 (by decide) ?_
            refine g_callVI (As := [.int (0 : Int32), .int (99 : Int32)]) (rest := []) hX 0 (Nat.le_of_ble_eq_true rfl) rfl rfl miX9_takesNumber mvX9_takesNumber lkX9_206 (by decide) rfl (Nat.le_of_ble_eq_true rfl) rfl dX9_bakerTold_69 (fun τ x ho => kX9_takesNumber _ ho) h (fun σ_12 t_13 h => ?_)
            refine g_if_ne hX 77 dX9_bakerTold_72 (by decide) h (fun h => ?_) (fun h => ?_)
            · refine g_aload_n hX 1 dX9_bakerTold_77 rfl rfl ?_
              refine gM_42 hX dX9_bakerTold_78 ?_
              refine g_aload_n hX 1 dX9_bakerTold_81 rfl rfl ?_
              refine gM_188 hX dX9_bakerTold_82 ?_
              refine g_aload_n hX 1 dX9_bakerTold_85 rfl rfl ?_
              refine gM_153 hX dX9_bakerTold_86 ?_
              refine asM_8 hX dX9_bakerTold_89 h (fun σ_14 h => ?_)
              refine g_aload_n hX 1 dX9_bakerTold_90 rfl rfl ?_
              refine g_dup hX dX9_bakerTold_91 rfl ?_
              refine gM_188 hX dX9_bakerTold_92 ?_
              refine g_iconst hX (1) dX9_bakerTold_95 (by decide) ?_
              refine g_iadd hX dX9_bakerTold_96 ?_
              refine pM_188 hX dX9_bakerTold_97 h (fun σ_15 h => ?_)
              refine g_iconst hX (1) dX9_bakerTold_100 (by decide) ?_
              exact g_retz hR (by decide) h dX9_bakerTold_101
            · refine g_iconst hX (0) dX9_bakerTold_75 (by decide) ?_
              exact g_retz hR (by decide) h dX9_bakerTold_76
        · refine g_iconst hX (0) dX9_bakerTold_35 (by decide) ?_
          exact g_retz hR (by decide) h dX9_bakerTold_36
set_option maxRecDepth 20000 in
set_option maxHeartbeats 4000000 in
theorem kX9_bakerTold (l : Launch) {a : Nat → Nat} {D : va_G} {tI tJ tB : ClassId} {zz : SV} {σ τ : St}   {x : Int32} (h : fX9_bakerTold σ  = some (τ, x)) : CtI l yX9_bakerTold cX9_bakerTold 3 (some .boolean) 3 64 (vM a D tI tJ tB zz) σ [.ref (a 0)] τ x := g_metZ (by decide) (Nat.le_of_ble_eq_true rfl) rfl (fun X _ hX hR => sX9_bakerTold (r := (τ, x)) hX hR h)
def fX9_stepsTold (σ : St)  : Option (St × Int32) :=
  cl (fX9_takesNumber σ (1 : Int32) (8 : Int32)) fun (σ_1 : St) (t_2 : Int32) => (if t_2 = 0 then some (σ_1, (0 : Int32)) else bnd (sI σ_1 0 17 (σ_1.1 0 36)) fun (σ_3 : St) => cl (fX9_takes σ_3 (1718775661 : Int64)) fun (σ_4 : St) (t_5 : Int32) => (if t_5 = 0 then some (σ_4, (0 : Int32)) else cl (fX9_takesNumber σ_4 (0 : Int32) (99 : Int32)) fun (σ_6 : St) (t_7 : Int32) => (if t_7 = 0 then some (σ_6, (0 : Int32)) else bnd (sI σ_6 0 18 (σ_6.1 0 36)) fun (σ_8 : St) => cl (fX9_takes σ_8 (25209 : Int64)) fun (σ_9 : St) (t_10 : Int32) => (if t_10 = 0 then some (σ_9, (0 : Int32)) else cl (fX9_takesNumber σ_9 (1 : Int32) (20 : Int32)) fun (σ_11 : St) (t_12 : Int32) => (if t_12 = 0 then some (σ_11, (0 : Int32)) else bnd (sI σ_11 0 19 (σ_11.1 0 36)) fun (σ_13 : St) => some (σ_13, (1 : Int32)))))))
set_option maxRecDepth 20000 in
set_option maxHeartbeats 4000000 in
theorem sX9_stepsTold {X : CX} {a : Nat → Nat} {D : va_G} {tI tJ tB : ClassId} {zz : SV} {σ : St}   {r : St × Int32} (hX : OKX X (vM a D tI tJ tB zz) cX9_stepsTold 1 RX9 3 64) (hR : (r.2 = 0 ∨ r.2 = 1) → ∀ (pc : Nat) (lv : List (Nat × Value)), decode cX9_stepsTold pc = .ok (.ireturn, 1) → G X (vM a D tI tJ tB zz) 1 r.1 pc lv [.int r.2]) (h : fX9_stepsTold σ  = some r) : G X (vM a D tI tJ tB zz) 1 σ 0 [(0, .ref (a 0))] [] := by
  unfold fX9_stepsTold at h
  refine g_aload_n hX 0 dX9_stepsTold_0 rfl rfl ?_
  refine g_iconst hX (1) dX9_stepsTold_1 (by decide) ?_
  refine g_bipush hX (8) dX9_stepsTold_2 (by decide) ?_
  refine g_callVI (As := [.int (1 : Int32), .int (8 : Int32)]) (rest := []) hX 0 (Nat.le_of_ble_eq_true rfl) rfl rfl miX9_takesNumber mvX9_takesNumber lkX9_206 (by decide) rfl (Nat.le_of_ble_eq_true rfl) rfl dX9_stepsTold_4 (fun τ x ho => kX9_takesNumber _ ho) h (fun σ_1 t_2 h => ?_)
  refine g_if_ne hX 12 dX9_stepsTold_7 (by decide) h (fun h => ?_) (fun h => ?_)
  · refine g_aload_n hX 0 dX9_stepsTold_12 rfl rfl ?_
    refine g_aload_n hX 0 dX9_stepsTold_13 rfl rfl ?_
    refine gM_153 hX dX9_stepsTold_14 ?_
    refine pM_209 hX dX9_stepsTold_17 h (fun σ_3 h => ?_)
    refine g_aload_n hX 0 dX9_stepsTold_20 rfl rfl ?_
    refine g_ldc2 hX lkX9_166 dX9_stepsTold_21 ?_
    refine g_callVI (As := [.long (1718775661 : Int64)]) (rest := []) hX 0 (Nat.le_of_ble_eq_true rfl) rfl rfl miX9_takes mvX9_takes lkX9_203 (by decide) rfl (Nat.le_of_ble_eq_true rfl) rfl dX9_stepsTold_24 (fun τ x ho => kX9_takes _ ho) h (fun σ_4 t_5 h => ?_)
    refine g_if_eq hX 40 dX9_stepsTold_27 (by decide) h (fun h => ?_) (fun h => ?_)
    · refine g_iconst hX (0) dX9_stepsTold_40 (by decide) ?_
      exact g_retz hR (by decide) h dX9_stepsTold_41
    · refine g_aload_n hX 0 dX9_stepsTold_30 rfl rfl ?_
      refine g_iconst hX (0) dX9_stepsTold_31 (by decide) ?_
      refine g_bipush hX (99) dX9_stepsTold_32 (by decide) ?_
      refine g_callVI (As := [.int (0 : Int32), .int (99 : Int32)]) (rest := []) hX 0 (Nat.le_of_ble_eq_true rfl) rfl rfl miX9_takesNumber mvX9_takesNumber lkX9_206 (by decide) rfl (Nat.le_of_ble_eq_true rfl) rfl dX9_stepsTold_34 (fun τ x ho => kX9_takesNumber _ ho) h (fun σ_6 t_7 h => ?_)
      refine g_if_ne hX 42 dX9_stepsTold_37 (by decide) h (fun h => ?_) (fun h => ?_)
      · refine g_aload_n hX 0 dX9_stepsTold_42 rfl rfl ?_
        refine g_aload_n hX 0 dX9_stepsTold_43 rfl rfl ?_
        refine gM_153 hX dX9_stepsTold_44 ?_
        refine pM_212 hX dX9_stepsTold_47 h (fun σ_8 h => ?_)
        refine g_aload_n hX 0 dX9_stepsTold_50 rfl rfl ?_
        refine g_ldc2 hX lkX9_168 dX9_stepsTold_51 ?_
        refine g_callVI (As := [.long (25209 : Int64)]) (rest := []) hX 0 (Nat.le_of_ble_eq_true rfl) rfl rfl miX9_takes mvX9_takes lkX9_203 (by decide) rfl (Nat.le_of_ble_eq_true rfl) rfl dX9_stepsTold_54 (fun τ x ho => kX9_takes _ ho) h (fun σ_9 t_10 h => ?_)
        refine g_if_eq hX 70 dX9_stepsTold_57 (by decide) h (fun h => ?_) (fun h => ?_)
        · refine g_iconst hX (0) dX9_stepsTold_70 (by decide) ?_
          exact g_retz hR (by decide) h dX9_stepsTold_71
        · refine g_aload_n hX 0 dX9_stepsTold_60 rfl rfl ?_
          refine g_iconst hX (1) dX9_stepsTold_61 (by decide) ?_
          refine g_bipush hX (20) dX9_stepsTold_62 (by decide) ?_
          refine g_callVI (As := [.int (1 : Int32), .int (20 : Int32)]) (rest := []) hX 0 (Nat.le_of_ble_eq_true rfl) rfl rfl miX9_takesNumber mvX9_takesNumber lkX9_206 (by decide) rfl (Nat.le_of_ble_eq_true rfl) rfl dX9_stepsTold_64 (fun τ x ho => kX9_takesNumber _ ho) h (fun σ_11 t_12 h => ?_)
          refine g_if_ne hX 72 dX9_stepsTold_67 (by decide) h (fun h => ?_) (fun h => ?_)
          · refine g_aload_n hX 0 dX9_stepsTold_72 rfl rfl ?_
            refine g_aload_n hX 0 dX9_stepsTold_73 rfl rfl ?_
            refine gM_153 hX dX9_stepsTold_74 ?_
            refine pM_215 hX dX9_stepsTold_77 h (fun σ_13 h => ?_)
            refine g_iconst hX (1) dX9_stepsTold_80 (by decide) ?_
            exact g_retz hR (by decide) h dX9_stepsTold_81
          · refine g_iconst hX (0) dX9_stepsTold_70 (by decide) ?_
            exact g_retz hR (by decide) h dX9_stepsTold_71
      · refine g_iconst hX (0) dX9_stepsTold_40 (by decide) ?_
        exact g_retz hR (by decide) h dX9_stepsTold_41
  · refine g_iconst hX (0) dX9_stepsTold_10 (by decide) ?_
    exact g_retz hR (by decide) h dX9_stepsTold_11
set_option maxRecDepth 20000 in
set_option maxHeartbeats 4000000 in
theorem kX9_stepsTold (l : Launch) {a : Nat → Nat} {D : va_G} {tI tJ tB : ClassId} {zz : SV} {σ τ : St}   {x : Int32} (h : fX9_stepsTold σ  = some (τ, x)) : CtI l yX9_stepsTold cX9_stepsTold 1 (some .boolean) 3 64 (vM a D tI tJ tB zz) σ [.ref (a 0)] τ x := g_metZ (by decide) (Nat.le_of_ble_eq_true rfl) rfl (fun X _ hX hR => sX9_stepsTold (r := (τ, x)) hX hR h)
def fX9_worthTold (σ : St)  : Option (St × Int32) :=
  chk (inb (σ.1 0 16) 12) (bnd (sI σ 12 (ix (σ.1 0 16)) (999 : Int32)) fun (σ_1 : St) => cl (fX9_takes σ_1 (512970880104 : Int64)) fun (σ_2 : St) (t_3 : Int32) => (jp (fun (σ_4 : St)   => bnd (sI σ_4 0 16 ((σ_4.1 0 16) + (1 : Int32))) fun (σ_5 : St) => some (σ_5, (1 : Int32))) fun j48 => (if t_3 = 0 then j48 σ_2 else cl (fX9_takesNumber σ_2 (0 : Int32) (999 : Int32)) fun (σ_6 : St) (t_7 : Int32) => (if t_7 = 0 then some (σ_6, (0 : Int32)) else chk (inb (σ_6.1 0 16) 12) (bnd (sI σ_6 12 (ix (σ_6.1 0 16)) (σ_6.1 0 36)) fun (σ_8 : St) => j48 σ_8)))))
set_option maxRecDepth 20000 in
set_option maxHeartbeats 4000000 in
theorem sX9_worthTold {X : CX} {a : Nat → Nat} {D : va_G} {tI tJ tB : ClassId} {zz : SV} {σ : St}   {r : St × Int32} (hX : OKX X (vM a D tI tJ tB zz) cX9_worthTold 1 RX9 3 64) (hR : (r.2 = 0 ∨ r.2 = 1) → ∀ (pc : Nat) (lv : List (Nat × Value)), decode cX9_worthTold pc = .ok (.ireturn, 1) → G X (vM a D tI tJ tB zz) 1 r.1 pc lv [.int r.2]) (h : fX9_worthTold σ  = some r) : G X (vM a D tI tJ tB zz) 1 σ 0 [(0, .ref (a 0))] [] := by
  unfold fX9_worthTold at h
  refine g_aload_n hX 0 dX9_worthTold_0 rfl rfl ?_
  refine gM_54 hX dX9_worthTold_1 ?_
  refine g_aload_n hX 0 dX9_worthTold_4 rfl rfl ?_
  refine gM_218 hX dX9_worthTold_5 ?_
  refine g_sipush hX (999) dX9_worthTold_8 (by decide) ?_
  refine asM_12 hX dX9_worthTold_11 h (fun σ_1 h => ?_)
  refine g_aload_n hX 0 dX9_worthTold_12 rfl rfl ?_
  refine g_ldc2 hX lkX9_180 dX9_worthTold_13 ?_
  refine g_callVI (As := [.long (512970880104 : Int64)]) (rest := []) hX 0 (Nat.le_of_ble_eq_true rfl) rfl rfl miX9_takes mvX9_takes lkX9_203 (by decide) rfl (Nat.le_of_ble_eq_true rfl) rfl dX9_worthTold_16 (fun τ x ho => kX9_takes _ ho) h (fun σ_2 t_3 h => ?_)
  refine jp_inv (P := fun f => ∀ (σ_4 : St)  , f σ_4 = some r → G X (vM a D tI tJ tB zz) 1 σ_4 48 [(0, .ref (a 0))] []) h (fun σ_4 h => ?_) (fun j48 hj48 h => ?_)
  · refine g_aload_n hX 0 dX9_worthTold_48 rfl rfl ?_
    refine g_dup hX dX9_worthTold_49 rfl ?_
    refine gM_218 hX dX9_worthTold_50 ?_
    refine g_iconst hX (1) dX9_worthTold_53 (by decide) ?_
    refine g_iadd hX dX9_worthTold_54 ?_
    refine pM_218 hX dX9_worthTold_55 h (fun σ_5 h => ?_)
    refine g_iconst hX (1) dX9_worthTold_58 (by decide) ?_
    exact g_retz hR (by decide) h dX9_worthTold_59
  refine g_if_eq hX 48 dX9_worthTold_19 (by decide) h (fun h => ?_) (fun h => ?_)
  · exact g_sub [0] rfl (hj48 _ h)
  · refine g_aload_n hX 0 dX9_worthTold_22 rfl rfl ?_
    refine g_iconst hX (0) dX9_worthTold_23 (by decide) ?_
    refine g_sipush hX (999) dX9_worthTold_24 (by decide) ?_
    refine g_callVI (As := [.int (0 : Int32), .int (999 : Int32)]) (rest := []) hX 0 (Nat.le_of_ble_eq_true rfl) rfl rfl miX9_takesNumber mvX9_takesNumber lkX9_206 (by decide) rfl (Nat.le_of_ble_eq_true rfl) rfl dX9_worthTold_27 (fun τ x ho => kX9_takesNumber _ ho) h (fun σ_6 t_7 h => ?_)
    refine g_if_ne hX 35 dX9_worthTold_30 (by decide) h (fun h => ?_) (fun h => ?_)
    · refine g_aload_n hX 0 dX9_worthTold_35 rfl rfl ?_
      refine gM_54 hX dX9_worthTold_36 ?_
      refine g_aload_n hX 0 dX9_worthTold_39 rfl rfl ?_
      refine gM_218 hX dX9_worthTold_40 ?_
      refine g_aload_n hX 0 dX9_worthTold_43 rfl rfl ?_
      refine gM_153 hX dX9_worthTold_44 ?_
      refine asM_12 hX dX9_worthTold_47 h (fun σ_8 h => ?_)
      exact g_sub [0] rfl (hj48 _ h)
    · refine g_iconst hX (0) dX9_worthTold_33 (by decide) ?_
      exact g_retz hR (by decide) h dX9_worthTold_34
set_option maxRecDepth 20000 in
set_option maxHeartbeats 4000000 in
theorem kX9_worthTold (l : Launch) {a : Nat → Nat} {D : va_G} {tI tJ tB : ClassId} {zz : SV} {σ τ : St}   {x : Int32} (h : fX9_worthTold σ  = some (τ, x)) : CtI l yX9_worthTold cX9_worthTold 1 (some .boolean) 3 64 (vM a D tI tJ tB zz) σ [.ref (a 0)] τ x := g_metZ (by decide) (Nat.le_of_ble_eq_true rfl) rfl (fun X _ hX hR => sX9_worthTold (r := (τ, x)) hX hR h)
def fX9_sortTold_L101  (kx101 : St → Option (St × Int32)) : Nat → St → Option (St × Int32)
  | 0, _ => none
  | n101 + 1, σ =>
    bnd (sI σ 0 31 (σ.1 0 35)) fun (σ_12 : St) => chk (inb (σ_12.1 0 16) 12) (cl (fX9_baker σ_12 (σ_12.1 11 (ix (σ_12.1 0 16)))) fun (σ_13 : St) (t_14 : Int32) => bnd t_14 fun (x2_15 : Int32) => (if x2_15 = (-1 : Int32) then some (σ_13, (0 : Int32)) else chk (inb (σ_13.1 0 16) 12) (chk (inb (σ_13.1 0 16) 12) (bnd (sI σ_13 11 (ix (σ_13.1 0 16)) ((σ_13.1 11 (ix (σ_13.1 0 16))) ||| ((1 : Int32) <<< (x2_15 &&& 31)))) fun (σ_16 : St) => cl (fX9_word σ_16 ) fun (σ_17 : St) (t_18 : Int64) => (if (lg_cmp t_18 (6385252 : Int64)) = 0 then fX9_sortTold_L101 kx101 n101 σ_17 else kx101 σ_17)))))
def fX9_sortTold (σ : St) (p1 : Int32) : Option (St × Int32) :=
  cl (fX9_takesNumber σ (1 : Int32) (99 : Int32)) fun (σ_1 : St) (t_2 : Int32) => (if t_2 = 0 then some (σ_1, (0 : Int32)) else chk (inb (σ_1.1 0 16) 12) (bnd (sI σ_1 9 (ix (σ_1.1 0 16)) p1) fun (σ_3 : St) => chk (inb (σ_3.1 0 16) 12) (bnd (sI σ_3 10 (ix (σ_3.1 0 16)) (σ_3.1 0 36)) fun (σ_4 : St) => chk (inb (σ_4.1 0 16) 12) (bnd (sI σ_4 11 (ix (σ_4.1 0 16)) (0 : Int32)) fun (σ_5 : St) => (jp (fun (σ_6 : St)   => (jp (fun (σ_7 : St)   => cl (fX9_worthTold σ_7 ) fun (σ_8 : St) (t_9 : Int32) => chk (isB t_9) (some (σ_8, t_9))) fun j156 => (if p1 = 0 then cl (fX9_word σ_6 ) fun (σ_10 : St) (t_11 : Int64) => (if (lg_cmp t_11 (6386539 : Int64)) = 0 then fX9_sortTold_L101  (fun (σ_19 : St)  => j156 σ_19) FU σ_10  else some (σ_10, (0 : Int32))) else j156 σ_6))) fun j84 => (if p1 = (1 : Int32) then cl (fX9_takes σ_5 (28518 : Int64)) fun (σ_20 : St) (t_21 : Int32) => (if t_21 = 0 then some (σ_20, (0 : Int32)) else cl (fX9_takesNumber σ_20 (1 : Int32) (4 : Int32)) fun (σ_22 : St) (t_23 : Int32) => (if t_23 = 0 then some (σ_22, (0 : Int32)) else chk (inb (σ_22.1 0 16) 12) (bnd (sI σ_22 11 (ix (σ_22.1 0 16)) (σ_22.1 0 36)) fun (σ_24 : St) => j84 σ_24))) else j84 σ_5))))))
set_option maxRecDepth 20000 in
set_option maxHeartbeats 4000000 in
theorem sX9_sortTold_L101 {X : CX} {a : Nat → Nat} {D : va_G} {tI tJ tB : ClassId} {zz : SV}  {kx101 : St → Option (St × Int32)} {r : St × Int32} (hX : OKX X (vM a D tI tJ tB zz) cX9_sortTold 3 RX9 4 84) (hR : (r.2 = 0 ∨ r.2 = 1) → ∀ (pc : Nat) (lv : List (Nat × Value)), decode cX9_sortTold pc = .ok (.ireturn, 1) → G X (vM a D tI tJ tB zz) 3 r.1 pc lv [.int r.2]) (hkx101 : ∀ (σ : St) , kx101 σ  = some r → G X (vM a D tI tJ tB zz) 3 σ 156 [(0, .ref (a 0))] []) : ∀ (n : Nat) (σ : St) , fX9_sortTold_L101 kx101 n σ  = some r → G X (vM a D tI tJ tB zz) 3 σ 101 [(0, .ref (a 0))] [] := by
  intro n
  induction n with
  | zero => intro σ  h; rw [fX9_sortTold_L101] at h; exact absurd h (by simp)
  | succ n101 ih101 =>
    intro σ  h
    rw [fX9_sortTold_L101] at h
    refine g_aload_n hX 0 dX9_sortTold_101 rfl rfl ?_
    refine g_aload_n hX 0 dX9_sortTold_102 rfl rfl ?_
    refine gM_146 hX dX9_sortTold_103 ?_
    refine pM_137 hX dX9_sortTold_106 h (fun σ_12 h => ?_)
    refine g_aload_n hX 0 dX9_sortTold_109 rfl rfl ?_
    refine g_aload_n hX 0 dX9_sortTold_110 rfl rfl ?_
    refine gM_51 hX dX9_sortTold_111 ?_
    refine g_aload_n hX 0 dX9_sortTold_114 rfl rfl ?_
    refine gM_218 hX dX9_sortTold_115 ?_
    refine alM_11 hX dX9_sortTold_118 h (fun h => ?_)
    refine g_callVI (As := [.int (σ_12.1 11 (ix (σ_12.1 0 16)))]) (rest := []) hX 0 (Nat.le_of_ble_eq_true rfl) rfl rfl miX9_baker mvX9_baker lkX9_221 (by decide) rfl (Nat.le_of_ble_eq_true rfl) rfl dX9_sortTold_119 (fun τ x ho => kX9_baker _ ho) h (fun σ_13 t_14 h => ?_)
    refine g_istore_n (lv' := fun x2_15 => [(2, .int x2_15), (0, .ref (a 0))]) hX dX9_sortTold_122 rfl (by decide) (fun _ => rfl) h (fun x2_15 h => ?_)
    refine g_iload_n hX 0 dX9_sortTold_123 rfl rfl ?_
    refine g_iconst hX (-1) dX9_sortTold_124 (by decide) ?_
    refine g_icmp_ne hX 130 dX9_sortTold_125 (by decide) h (fun h => ?_) (fun h => ?_)
    · refine g_aload_n hX 1 dX9_sortTold_130 rfl rfl ?_
      refine gM_51 hX dX9_sortTold_131 ?_
      refine g_aload_n hX 1 dX9_sortTold_134 rfl rfl ?_
      refine gM_218 hX dX9_sortTold_135 ?_
      refine g_dup2 hX dX9_sortTold_138 rfl rfl ?_
      refine alM_11 hX dX9_sortTold_139 h (fun h => ?_)
      refine g_iconst hX (1) dX9_sortTold_140 (by decide) ?_
      refine g_iload_n hX 0 dX9_sortTold_141 rfl rfl ?_
      refine g_ishl hX dX9_sortTold_142 ?_
      refine g_ior hX dX9_sortTold_143 ?_
      refine asM_11 hX dX9_sortTold_144 h (fun σ_16 h => ?_)
      refine g_aload_n hX 1 dX9_sortTold_145 rfl rfl ?_
      refine g_callVL (As := []) (rest := []) hX 0 (Nat.le_of_ble_eq_true rfl) rfl rfl miX9_word mvX9_word lkX9_149 (by decide) rfl (Nat.le_of_ble_eq_true rfl) rfl dX9_sortTold_146 (fun τ x ho => kX9_word _ ho) h (fun σ_17 t_18 h => ?_)
      refine g_ldc2 hX lkX9_178 dX9_sortTold_149 ?_
      refine g_lcmp hX dX9_sortTold_152 ?_
      refine g_if_eq hX 101 dX9_sortTold_153 (by decide) h (fun h => ?_) (fun h => ?_)
      · exact g_sub [1] rfl (ih101 _ h)
      · exact g_sub [1] rfl (hkx101 _ h)
    · refine g_iconst hX (0) dX9_sortTold_128 (by decide) ?_
      exact g_retz hR (by decide) h dX9_sortTold_129
set_option maxRecDepth 20000 in
set_option maxHeartbeats 4000000 in
theorem sX9_sortTold {X : CX} {a : Nat → Nat} {D : va_G} {tI tJ tB : ClassId} {zz : SV} {σ : St}  {p1 : Int32} {r : St × Int32} (hX : OKX X (vM a D tI tJ tB zz) cX9_sortTold 3 RX9 4 84) (hR : (r.2 = 0 ∨ r.2 = 1) → ∀ (pc : Nat) (lv : List (Nat × Value)), decode cX9_sortTold pc = .ok (.ireturn, 1) → G X (vM a D tI tJ tB zz) 3 r.1 pc lv [.int r.2]) (h : fX9_sortTold σ p1 = some r) : G X (vM a D tI tJ tB zz) 3 σ 0 [(0, .ref (a 0)), (1, .int p1)] [] := by
  unfold fX9_sortTold at h
  refine g_aload_n hX 0 dX9_sortTold_0 rfl rfl ?_
  refine g_iconst hX (1) dX9_sortTold_1 (by decide) ?_
  refine g_bipush hX (99) dX9_sortTold_2 (by decide) ?_
  refine g_callVI (As := [.int (1 : Int32), .int (99 : Int32)]) (rest := []) hX 0 (Nat.le_of_ble_eq_true rfl) rfl rfl miX9_takesNumber mvX9_takesNumber lkX9_206 (by decide) rfl (Nat.le_of_ble_eq_true rfl) rfl dX9_sortTold_4 (fun τ x ho => kX9_takesNumber _ ho) h (fun σ_1 t_2 h => ?_)
  refine g_if_ne hX 12 dX9_sortTold_7 (by decide) h (fun h => ?_) (fun h => ?_)
  · refine g_aload_n hX 0 dX9_sortTold_12 rfl rfl ?_
    refine gM_45 hX dX9_sortTold_13 ?_
    refine g_aload_n hX 0 dX9_sortTold_16 rfl rfl ?_
    refine gM_218 hX dX9_sortTold_17 ?_
    refine g_iload_n hX 1 dX9_sortTold_20 rfl rfl ?_
    refine asM_9 hX dX9_sortTold_21 h (fun σ_3 h => ?_)
    refine g_aload_n hX 0 dX9_sortTold_22 rfl rfl ?_
    refine gM_48 hX dX9_sortTold_23 ?_
    refine g_aload_n hX 0 dX9_sortTold_26 rfl rfl ?_
    refine gM_218 hX dX9_sortTold_27 ?_
    refine g_aload_n hX 0 dX9_sortTold_30 rfl rfl ?_
    refine gM_153 hX dX9_sortTold_31 ?_
    refine asM_10 hX dX9_sortTold_34 h (fun σ_4 h => ?_)
    refine g_aload_n hX 0 dX9_sortTold_35 rfl rfl ?_
    refine gM_51 hX dX9_sortTold_36 ?_
    refine g_aload_n hX 0 dX9_sortTold_39 rfl rfl ?_
    refine gM_218 hX dX9_sortTold_40 ?_
    refine g_iconst hX (0) dX9_sortTold_43 (by decide) ?_
    refine asM_11 hX dX9_sortTold_44 h (fun σ_5 h => ?_)
    refine g_iload_n hX 1 dX9_sortTold_45 rfl rfl ?_
    refine g_iconst hX (1) dX9_sortTold_46 (by decide) ?_
    refine jp_inv (P := fun f => ∀ (σ_6 : St)  , f σ_6 = some r → G X (vM a D tI tJ tB zz) 3 σ_6 84 [(0, .ref (a 0)), (1, .int p1)] []) h (fun σ_6 h => ?_) (fun j84 hj84 h => ?_)
    · refine g_iload_n hX 1 dX9_sortTold_84 rfl rfl ?_
      refine jp_inv (P := fun f => ∀ (σ_7 : St)  , f σ_7 = some r → G X (vM a D tI tJ tB zz) 3 σ_7 156 [(0, .ref (a 0))] []) h (fun σ_7 h => ?_) (fun j156 hj156 h => ?_)
      · refine g_aload_n hX 0 dX9_sortTold_156 rfl rfl ?_
        refine g_callVI (As := []) (rest := []) hX 0 (Nat.le_of_ble_eq_true rfl) rfl rfl miX9_worthTold mvX9_worthTold lkX9_225 (by decide) rfl (Nat.le_of_ble_eq_true rfl) rfl dX9_sortTold_157 (fun τ x ho => kX9_worthTold _ ho) h (fun σ_8 t_9 h => ?_)
        exact g_retzc hR h dX9_sortTold_160
      refine g_if_ne hX 156 dX9_sortTold_85 (by decide) h (fun h => ?_) (fun h => ?_)
      · exact g_sub [0] rfl (hj156 _ h)
      · refine g_aload_n hX 0 dX9_sortTold_88 rfl rfl ?_
        refine g_callVL (As := []) (rest := []) hX 0 (Nat.le_of_ble_eq_true rfl) rfl rfl miX9_word mvX9_word lkX9_149 (by decide) rfl (Nat.le_of_ble_eq_true rfl) rfl dX9_sortTold_89 (fun τ x ho => kX9_word _ ho) h (fun σ_10 t_11 h => ?_)
        refine g_ldc2 hX lkX9_176 dX9_sortTold_92 ?_
        refine g_lcmp hX dX9_sortTold_95 ?_
        refine g_if_eq hX 101 dX9_sortTold_96 (by decide) h (fun h => ?_) (fun h => ?_)
        · refine g_sub [0] rfl (sX9_sortTold_L101 hX hR (fun σ_19  h => ?_) FU _  h)
          exact g_sub [0] rfl (hj156 _ h)
        · refine g_iconst hX (0) dX9_sortTold_99 (by decide) ?_
          exact g_retz hR (by decide) h dX9_sortTold_100
    refine g_icmp_ne hX 84 dX9_sortTold_47 (by decide) h (fun h => ?_) (fun h => ?_)
    · exact g_sub [0, 1] rfl (hj84 _ h)
    · refine g_aload_n hX 0 dX9_sortTold_50 rfl rfl ?_
      refine g_ldc2 hX lkX9_184 dX9_sortTold_51 ?_
      refine g_callVI (As := [.long (28518 : Int64)]) (rest := []) hX 0 (Nat.le_of_ble_eq_true rfl) rfl rfl miX9_takes mvX9_takes lkX9_203 (by decide) rfl (Nat.le_of_ble_eq_true rfl) rfl dX9_sortTold_54 (fun τ x ho => kX9_takes _ ho) h (fun σ_20 t_21 h => ?_)
      refine g_if_eq hX 69 dX9_sortTold_57 (by decide) h (fun h => ?_) (fun h => ?_)
      · refine g_iconst hX (0) dX9_sortTold_69 (by decide) ?_
        exact g_retz hR (by decide) h dX9_sortTold_70
      · refine g_aload_n hX 0 dX9_sortTold_60 rfl rfl ?_
        refine g_iconst hX (1) dX9_sortTold_61 (by decide) ?_
        refine g_iconst hX (4) dX9_sortTold_62 (by decide) ?_
        refine g_callVI (As := [.int (1 : Int32), .int (4 : Int32)]) (rest := []) hX 0 (Nat.le_of_ble_eq_true rfl) rfl rfl miX9_takesNumber mvX9_takesNumber lkX9_206 (by decide) rfl (Nat.le_of_ble_eq_true rfl) rfl dX9_sortTold_63 (fun τ x ho => kX9_takesNumber _ ho) h (fun σ_22 t_23 h => ?_)
        refine g_if_ne hX 71 dX9_sortTold_66 (by decide) h (fun h => ?_) (fun h => ?_)
        · refine g_aload_n hX 0 dX9_sortTold_71 rfl rfl ?_
          refine gM_51 hX dX9_sortTold_72 ?_
          refine g_aload_n hX 0 dX9_sortTold_75 rfl rfl ?_
          refine gM_218 hX dX9_sortTold_76 ?_
          refine g_aload_n hX 0 dX9_sortTold_79 rfl rfl ?_
          refine gM_153 hX dX9_sortTold_80 ?_
          refine asM_11 hX dX9_sortTold_83 h (fun σ_24 h => ?_)
          exact g_sub [0, 1] rfl (hj84 _ h)
        · refine g_iconst hX (0) dX9_sortTold_69 (by decide) ?_
          exact g_retz hR (by decide) h dX9_sortTold_70
  · refine g_iconst hX (0) dX9_sortTold_10 (by decide) ?_
    exact g_retz hR (by decide) h dX9_sortTold_11
set_option maxRecDepth 20000 in
set_option maxHeartbeats 4000000 in
theorem kX9_sortTold (l : Launch) {a : Nat → Nat} {D : va_G} {tI tJ tB : ClassId} {zz : SV} {σ τ : St}  {p1 : Int32} {x : Int32} (h : fX9_sortTold σ p1 = some (τ, x)) : CtI l yX9_sortTold cX9_sortTold 3 (some .boolean) 4 84 (vM a D tI tJ tB zz) σ [.ref (a 0), .int p1] τ x := g_metZ (by decide) (Nat.le_of_ble_eq_true rfl) rfl (fun X _ hX hR => sX9_sortTold (r := (τ, x)) hX hR h)
def fX9_listTold (σ : St)  : Option (St × Int32) :=
  cl (fX9_baker σ (0 : Int32)) fun (σ_1 : St) (t_2 : Int32) => bnd t_2 fun (x1_3 : Int32) => (if x1_3 = (-1 : Int32) then some (σ_1, (0 : Int32)) else bnd (sI σ_1 0 21 ((σ_1.1 0 21) ||| ((1 : Int32) <<< (x1_3 &&& 31)))) fun (σ_4 : St) => some (σ_4, (1 : Int32)))
set_option maxRecDepth 20000 in
set_option maxHeartbeats 4000000 in
theorem sX9_listTold {X : CX} {a : Nat → Nat} {D : va_G} {tI tJ tB : ClassId} {zz : SV} {σ : St}   {r : St × Int32} (hX : OKX X (vM a D tI tJ tB zz) cX9_listTold 2 RX9 3 64) (hR : (r.2 = 0 ∨ r.2 = 1) → ∀ (pc : Nat) (lv : List (Nat × Value)), decode cX9_listTold pc = .ok (.ireturn, 1) → G X (vM a D tI tJ tB zz) 2 r.1 pc lv [.int r.2]) (h : fX9_listTold σ  = some r) : G X (vM a D tI tJ tB zz) 2 σ 0 [(0, .ref (a 0))] [] := by
  unfold fX9_listTold at h
  refine g_aload_n hX 0 dX9_listTold_0 rfl rfl ?_
  refine g_iconst hX (0) dX9_listTold_1 (by decide) ?_
  refine g_callVI (As := [.int (0 : Int32)]) (rest := []) hX 0 (Nat.le_of_ble_eq_true rfl) rfl rfl miX9_baker mvX9_baker lkX9_221 (by decide) rfl (Nat.le_of_ble_eq_true rfl) rfl dX9_listTold_2 (fun τ x ho => kX9_baker _ ho) h (fun σ_1 t_2 h => ?_)
  refine g_istore_n (lv' := fun x1_3 => [(1, .int x1_3), (0, .ref (a 0))]) hX dX9_listTold_5 rfl (by decide) (fun _ => rfl) h (fun x1_3 h => ?_)
  refine g_iload_n hX 0 dX9_listTold_6 rfl rfl ?_
  refine g_iconst hX (-1) dX9_listTold_7 (by decide) ?_
  refine g_icmp_ne hX 13 dX9_listTold_8 (by decide) h (fun h => ?_) (fun h => ?_)
  · refine g_aload_n hX 1 dX9_listTold_13 rfl rfl ?_
    refine g_dup hX dX9_listTold_14 rfl ?_
    refine gM_229 hX dX9_listTold_15 ?_
    refine g_iconst hX (1) dX9_listTold_18 (by decide) ?_
    refine g_iload_n hX 0 dX9_listTold_19 rfl rfl ?_
    refine g_ishl hX dX9_listTold_20 ?_
    refine g_ior hX dX9_listTold_21 ?_
    refine pM_229 hX dX9_listTold_22 h (fun σ_4 h => ?_)
    refine g_iconst hX (1) dX9_listTold_25 (by decide) ?_
    exact g_retz hR (by decide) h dX9_listTold_26
  · refine g_iconst hX (0) dX9_listTold_11 (by decide) ?_
    exact g_retz hR (by decide) h dX9_listTold_12
set_option maxRecDepth 20000 in
set_option maxHeartbeats 4000000 in
theorem kX9_listTold (l : Launch) {a : Nat → Nat} {D : va_G} {tI tJ tB : ClassId} {zz : SV} {σ τ : St}   {x : Int32} (h : fX9_listTold σ  = some (τ, x)) : CtI l yX9_listTold cX9_listTold 2 (some .boolean) 3 64 (vM a D tI tJ tB zz) σ [.ref (a 0)] τ x := g_metZ (by decide) (Nat.le_of_ble_eq_true rfl) rfl (fun X _ hX hR => sX9_listTold (r := (τ, x)) hX hR h)
def fX9_statement (σ : St)  : Option (St × Int32) :=
  cl (fX9_takes σ (422541223282 : Int64)) fun (σ_1 : St) (t_2 : Int32) => (if t_2 = 0 then cl (fX9_takes σ_1 (495874044019 : Int64)) fun (σ_3 : St) (t_4 : Int32) => (if t_4 = 0 then cl (fX9_takes σ_3 (1818850164 : Int64)) fun (σ_5 : St) (t_6 : Int32) => (if t_6 = 0 then cl (fX9_takes σ_5 (1685024626 : Int64)) fun (σ_7 : St) (t_8 : Int32) => (if t_8 = 0 then (if (σ_7.1 0 16) = (12 : Int32) then some (σ_7, (0 : Int32)) else cl (fX9_takes σ_7 (512970548590 : Int64)) fun (σ_9 : St) (t_10 : Int32) => (if t_10 = 0 then cl (fX9_takes σ_9 (1700881256 : Int64)) fun (σ_11 : St) (t_12 : Int32) => (if t_12 = 0 then cl (fX9_takes σ_11 (32199616315617907 : Int64)) fun (σ_13 : St) (t_14 : Int32) => (if t_14 = 0 then some (σ_13, (0 : Int32)) else cl (fX9_sortTold σ_13 (2 : Int32)) fun (σ_15 : St) (t_16 : Int32) => (if t_16 = 0 then some (σ_15, (0 : Int32)) else some (σ_15, (1 : Int32)))) else cl (fX9_sortTold σ_11 (1 : Int32)) fun (σ_17 : St) (t_18 : Int32) => chk (isB t_18) (some (σ_17, t_18))) else cl (fX9_sortTold σ_9 (0 : Int32)) fun (σ_19 : St) (t_20 : Int32) => chk (isB t_20) (some (σ_19, t_20)))) else cl (fX9_takesNumber σ_7 (0 : Int32) (99 : Int32)) fun (σ_21 : St) (t_22 : Int32) => (if t_22 = 0 then some (σ_21, (0 : Int32)) else bnd (sI σ_21 0 20 (σ_21.1 0 36)) fun (σ_23 : St) => some (σ_23, (1 : Int32)))) else cl (fX9_listTold σ_5 ) fun (σ_24 : St) (t_25 : Int32) => chk (isB t_25) (some (σ_24, t_25))) else cl (fX9_stepsTold σ_3 ) fun (σ_26 : St) (t_27 : Int32) => chk (isB t_27) (some (σ_26, t_27))) else cl (fX9_bakerTold σ_1 ) fun (σ_28 : St) (t_29 : Int32) => chk (isB t_29) (some (σ_28, t_29)))
set_option maxRecDepth 20000 in
set_option maxHeartbeats 4000000 in
theorem sX9_statement {X : CX} {a : Nat → Nat} {D : va_G} {tI tJ tB : ClassId} {zz : SV} {σ : St}   {r : St × Int32} (hX : OKX X (vM a D tI tJ tB zz) cX9_statement 1 RX9 5 106) (hR : (r.2 = 0 ∨ r.2 = 1) → ∀ (pc : Nat) (lv : List (Nat × Value)), decode cX9_statement pc = .ok (.ireturn, 1) → G X (vM a D tI tJ tB zz) 1 r.1 pc lv [.int r.2]) (h : fX9_statement σ  = some r) : G X (vM a D tI tJ tB zz) 1 σ 0 [(0, .ref (a 0))] [] := by
  unfold fX9_statement at h
  refine g_aload_n hX 0 dX9_statement_0 rfl rfl ?_
  refine g_ldc2 hX lkX9_160 dX9_statement_1 ?_
  refine g_callVI (As := [.long (422541223282 : Int64)]) (rest := []) hX 0 (Nat.le_of_ble_eq_true rfl) rfl rfl miX9_takes mvX9_takes lkX9_203 (by decide) rfl (Nat.le_of_ble_eq_true rfl) rfl dX9_statement_4 (fun τ x ho => kX9_takes _ ho) h (fun σ_1 t_2 h => ?_)
  refine g_if_eq hX 15 dX9_statement_7 (by decide) h (fun h => ?_) (fun h => ?_)
  · refine g_aload_n hX 0 dX9_statement_15 rfl rfl ?_
    refine g_ldc2 hX lkX9_164 dX9_statement_16 ?_
    refine g_callVI (As := [.long (495874044019 : Int64)]) (rest := []) hX 0 (Nat.le_of_ble_eq_true rfl) rfl rfl miX9_takes mvX9_takes lkX9_203 (by decide) rfl (Nat.le_of_ble_eq_true rfl) rfl dX9_statement_19 (fun τ x ho => kX9_takes _ ho) h (fun σ_3 t_4 h => ?_)
    refine g_if_eq hX 30 dX9_statement_22 (by decide) h (fun h => ?_) (fun h => ?_)
    · refine g_aload_n hX 0 dX9_statement_30 rfl rfl ?_
      refine g_ldc2 hX lkX9_170 dX9_statement_31 ?_
      refine g_callVI (As := [.long (1818850164 : Int64)]) (rest := []) hX 0 (Nat.le_of_ble_eq_true rfl) rfl rfl miX9_takes mvX9_takes lkX9_203 (by decide) rfl (Nat.le_of_ble_eq_true rfl) rfl dX9_statement_34 (fun τ x ho => kX9_takes _ ho) h (fun σ_5 t_6 h => ?_)
      refine g_if_eq hX 45 dX9_statement_37 (by decide) h (fun h => ?_) (fun h => ?_)
      · refine g_aload_n hX 0 dX9_statement_45 rfl rfl ?_
        refine g_ldc2 hX lkX9_172 dX9_statement_46 ?_
        refine g_callVI (As := [.long (1685024626 : Int64)]) (rest := []) hX 0 (Nat.le_of_ble_eq_true rfl) rfl rfl miX9_takes mvX9_takes lkX9_203 (by decide) rfl (Nat.le_of_ble_eq_true rfl) rfl dX9_statement_49 (fun τ x ho => kX9_takes _ ho) h (fun σ_7 t_8 h => ?_)
        refine g_if_eq hX 77 dX9_statement_52 (by decide) h (fun h => ?_) (fun h => ?_)
        · refine g_aload_n hX 0 dX9_statement_77 rfl rfl ?_
          refine gM_218 hX dX9_statement_78 ?_
          refine g_bipush hX (12) dX9_statement_81 (by decide) ?_
          refine g_icmp_ne hX 88 dX9_statement_83 (by decide) h (fun h => ?_) (fun h => ?_)
          · refine g_aload_n hX 0 dX9_statement_88 rfl rfl ?_
            refine g_ldc2 hX lkX9_174 dX9_statement_89 ?_
            refine g_callVI (As := [.long (512970548590 : Int64)]) (rest := []) hX 0 (Nat.le_of_ble_eq_true rfl) rfl rfl miX9_takes mvX9_takes lkX9_203 (by decide) rfl (Nat.le_of_ble_eq_true rfl) rfl dX9_statement_92 (fun τ x ho => kX9_takes _ ho) h (fun σ_9 t_10 h => ?_)
            refine g_if_eq hX 104 dX9_statement_95 (by decide) h (fun h => ?_) (fun h => ?_)
            · refine g_aload_n hX 0 dX9_statement_104 rfl rfl ?_
              refine g_ldc2 hX lkX9_182 dX9_statement_105 ?_
              refine g_callVI (As := [.long (1700881256 : Int64)]) (rest := []) hX 0 (Nat.le_of_ble_eq_true rfl) rfl rfl miX9_takes mvX9_takes lkX9_203 (by decide) rfl (Nat.le_of_ble_eq_true rfl) rfl dX9_statement_108 (fun τ x ho => kX9_takes _ ho) h (fun σ_11 t_12 h => ?_)
              refine g_if_eq hX 120 dX9_statement_111 (by decide) h (fun h => ?_) (fun h => ?_)
              · refine g_aload_n hX 0 dX9_statement_120 rfl rfl ?_
                refine g_ldc2 hX lkX9_186 dX9_statement_121 ?_
                refine g_callVI (As := [.long (32199616315617907 : Int64)]) (rest := []) hX 0 (Nat.le_of_ble_eq_true rfl) rfl rfl miX9_takes mvX9_takes lkX9_203 (by decide) rfl (Nat.le_of_ble_eq_true rfl) rfl dX9_statement_124 (fun τ x ho => kX9_takes _ ho) h (fun σ_13 t_14 h => ?_)
                refine g_if_eq hX 142 dX9_statement_127 (by decide) h (fun h => ?_) (fun h => ?_)
                · refine g_iconst hX (0) dX9_statement_142 (by decide) ?_
                  exact g_retz hR (by decide) h dX9_statement_143
                · refine g_aload_n hX 0 dX9_statement_130 rfl rfl ?_
                  refine g_iconst hX (2) dX9_statement_131 (by decide) ?_
                  refine g_callVI (As := [.int (2 : Int32)]) (rest := []) hX 0 (Nat.le_of_ble_eq_true rfl) rfl rfl miX9_sortTold mvX9_sortTold lkX9_244 (by decide) rfl (Nat.le_of_ble_eq_true rfl) rfl dX9_statement_132 (fun τ x ho => kX9_sortTold _ ho) h (fun σ_15 t_16 h => ?_)
                  refine g_if_eq hX 142 dX9_statement_135 (by decide) h (fun h => ?_) (fun h => ?_)
                  · refine g_iconst hX (0) dX9_statement_142 (by decide) ?_
                    exact g_retz hR (by decide) h dX9_statement_143
                  · refine g_iconst hX (1) dX9_statement_138 (by decide) ?_
                    refine g_goto hX 143 dX9_statement_139 (by decide) ?_
                    exact g_retz hR (by decide) h dX9_statement_143
              · refine g_aload_n hX 0 dX9_statement_114 rfl rfl ?_
                refine g_iconst hX (1) dX9_statement_115 (by decide) ?_
                refine g_callVI (As := [.int (1 : Int32)]) (rest := []) hX 0 (Nat.le_of_ble_eq_true rfl) rfl rfl miX9_sortTold mvX9_sortTold lkX9_244 (by decide) rfl (Nat.le_of_ble_eq_true rfl) rfl dX9_statement_116 (fun τ x ho => kX9_sortTold _ ho) h (fun σ_17 t_18 h => ?_)
                exact g_retzc hR h dX9_statement_119
            · refine g_aload_n hX 0 dX9_statement_98 rfl rfl ?_
              refine g_iconst hX (0) dX9_statement_99 (by decide) ?_
              refine g_callVI (As := [.int (0 : Int32)]) (rest := []) hX 0 (Nat.le_of_ble_eq_true rfl) rfl rfl miX9_sortTold mvX9_sortTold lkX9_244 (by decide) rfl (Nat.le_of_ble_eq_true rfl) rfl dX9_statement_100 (fun τ x ho => kX9_sortTold _ ho) h (fun σ_19 t_20 h => ?_)
              exact g_retzc hR h dX9_statement_103
          · refine g_iconst hX (0) dX9_statement_86 (by decide) ?_
            exact g_retz hR (by decide) h dX9_statement_87
        · refine g_aload_n hX 0 dX9_statement_55 rfl rfl ?_
          refine g_iconst hX (0) dX9_statement_56 (by decide) ?_
          refine g_bipush hX (99) dX9_statement_57 (by decide) ?_
          refine g_callVI (As := [.int (0 : Int32), .int (99 : Int32)]) (rest := []) hX 0 (Nat.le_of_ble_eq_true rfl) rfl rfl miX9_takesNumber mvX9_takesNumber lkX9_206 (by decide) rfl (Nat.le_of_ble_eq_true rfl) rfl dX9_statement_59 (fun τ x ho => kX9_takesNumber _ ho) h (fun σ_21 t_22 h => ?_)
          refine g_if_ne hX 67 dX9_statement_62 (by decide) h (fun h => ?_) (fun h => ?_)
          · refine g_aload_n hX 0 dX9_statement_67 rfl rfl ?_
            refine g_aload_n hX 0 dX9_statement_68 rfl rfl ?_
            refine gM_153 hX dX9_statement_69 ?_
            refine pM_241 hX dX9_statement_72 h (fun σ_23 h => ?_)
            refine g_iconst hX (1) dX9_statement_75 (by decide) ?_
            exact g_retz hR (by decide) h dX9_statement_76
          · refine g_iconst hX (0) dX9_statement_65 (by decide) ?_
            exact g_retz hR (by decide) h dX9_statement_66
      · refine g_aload_n hX 0 dX9_statement_40 rfl rfl ?_
        refine g_callVI (As := []) (rest := []) hX 0 (Nat.le_of_ble_eq_true rfl) rfl rfl miX9_listTold mvX9_listTold lkX9_238 (by decide) rfl (Nat.le_of_ble_eq_true rfl) rfl dX9_statement_41 (fun τ x ho => kX9_listTold _ ho) h (fun σ_24 t_25 h => ?_)
        exact g_retzc hR h dX9_statement_44
    · refine g_aload_n hX 0 dX9_statement_25 rfl rfl ?_
      refine g_callVI (As := []) (rest := []) hX 0 (Nat.le_of_ble_eq_true rfl) rfl rfl miX9_stepsTold mvX9_stepsTold lkX9_235 (by decide) rfl (Nat.le_of_ble_eq_true rfl) rfl dX9_statement_26 (fun τ x ho => kX9_stepsTold _ ho) h (fun σ_26 t_27 h => ?_)
      exact g_retzc hR h dX9_statement_29
  · refine g_aload_n hX 0 dX9_statement_10 rfl rfl ?_
    refine g_callVI (As := []) (rest := []) hX 0 (Nat.le_of_ble_eq_true rfl) rfl rfl miX9_bakerTold mvX9_bakerTold lkX9_232 (by decide) rfl (Nat.le_of_ble_eq_true rfl) rfl dX9_statement_11 (fun τ x ho => kX9_bakerTold _ ho) h (fun σ_28 t_29 h => ?_)
    exact g_retzc hR h dX9_statement_14
set_option maxRecDepth 20000 in
set_option maxHeartbeats 4000000 in
theorem kX9_statement (l : Launch) {a : Nat → Nat} {D : va_G} {tI tJ tB : ClassId} {zz : SV} {σ τ : St}   {x : Int32} (h : fX9_statement σ  = some (τ, x)) : CtI l yX9_statement cX9_statement 1 (some .boolean) 5 106 (vM a D tI tJ tB zz) σ [.ref (a 0)] τ x := g_metZ (by decide) (Nat.le_of_ble_eq_true rfl) rfl (fun X _ hX hR => sX9_statement (r := (τ, x)) hX hR h)
def fX9_reads_L2 (q1_2 : Int32) (kx2 : St → Int32 → Option (St × Int32)) : Nat → St → Int32 → Option (St × Int32)
  | 0, _, _ => none
  | n2 + 1, σ, c2_2 =>
    (if q1_2 ≤ c2_2 then kx2 σ c2_2 else chk (inb c2_2 800) (chk (inb c2_2 800) (bnd (sI σ 14 (ix c2_2) (vp_nar .byte (σ.1 13 (ix c2_2)))) fun (σ_2 : St) => bnd (c2_2 + (1 : Int32)) fun (x2_3 : Int32) => fX9_reads_L2 q1_2 kx2 n2 σ_2 x2_3)))
def fX9_reads_L86  (kx86 : St → Int32 → Option (St × Int32)) : Nat → St → Int32 → Option (St × Int32)
  | 0, _, _ => none
  | n86 + 1, σ, c2_86 =>
    (if c2_86 = 0 then kx86 σ c2_86 else (if (σ.1 0 30) ≤ (σ.1 0 31) then kx86 σ c2_86 else (jp (fun (σ_20 : St)  (t_21 : Int32) => bnd t_21 fun (x2_22 : Int32) => (if x2_22 = 0 then fX9_reads_L86 kx86 n86 σ_20 x2_22 else bnd (sI σ_20 0 22 ((σ_20.1 0 22) + (1 : Int32))) fun (σ_23 : St) => cl (fX9_blanks σ_23 ) fun (σ_24 : St) (t_25 : Unit) => fX9_reads_L86 kx86 n86 σ_24 x2_22)) fun j131 => jp (fun (σ_26 : St)   => j131 σ_26 (0 : Int32)) fun j130 => (if (24 : Int32) ≤ (σ.1 0 22) then j130 σ else cl (fX9_statement σ ) fun (σ_27 : St) (t_28 : Int32) => (if t_28 = 0 then j130 σ_27 else cl (fX9_takesSign σ_27 (59 : Int32)) fun (σ_29 : St) (t_30 : Int32) => (if t_30 = 0 then j130 σ_29 else j131 σ_29 (1 : Int32)))))))
def fX9_reads (σ : St) (p1 : Int32) : Option (St × Int32) :=
  bnd (0 : Int32) fun (x2_1 : Int32) => fX9_reads_L2 p1 (fun (σ_4 : St) (x2_5 : Int32) => bnd (sI σ_4 0 30 p1) fun (σ_6 : St) => bnd (sI σ_6 0 29 (0 : Int32)) fun (σ_7 : St) => bnd (sI σ_7 0 31 (0 : Int32)) fun (σ_8 : St) => bnd (sI σ_8 0 15 (0 : Int32)) fun (σ_9 : St) => bnd (sI σ_9 0 16 (0 : Int32)) fun (σ_10 : St) => bnd (sI σ_10 0 17 (4 : Int32)) fun (σ_11 : St) => bnd (sI σ_11 0 18 (5 : Int32)) fun (σ_12 : St) => bnd (sI σ_12 0 19 (5 : Int32)) fun (σ_13 : St) => bnd (sI σ_13 0 20 (0 : Int32)) fun (σ_14 : St) => bnd (sI σ_14 0 21 (0 : Int32)) fun (σ_15 : St) => bnd (sI σ_15 0 22 (0 : Int32)) fun (σ_16 : St) => bnd (1 : Int32) fun (x2_17 : Int32) => cl (fX9_blanks σ_16 ) fun (σ_18 : St) (t_19 : Unit) => fX9_reads_L86  (fun (σ_31 : St) (x2_32 : Int32) => (jp (fun (σ_33 : St)  (t_34 : Int32) => bnd t_34 fun (x2_35 : Int32) => (jp (fun (σ_36 : St)  (t_37 : Int32) => bnd (sI σ_36 0 32 t_37) fun (σ_38 : St) => chk (isB x2_35) (some (σ_38, x2_35))) fun j186 => (if x2_35 = 0 then j186 σ_33 (σ_33.1 0 31) else j186 σ_33 (-1 : Int32)))) fun j172 => jp (fun (σ_39 : St)   => j172 σ_39 (0 : Int32)) fun j171 => (if x2_32 = 0 then j171 σ_31 else (if (σ_31.1 0 15) ≤ 0 then j171 σ_31 else j172 σ_31 (1 : Int32))))) FU σ_18 x2_17) FU σ x2_1
set_option maxRecDepth 20000 in
set_option maxHeartbeats 4000000 in
theorem sX9_reads_L2 {X : CX} {a : Nat → Nat} {D : va_G} {tI tJ tB : ClassId} {zz : SV} {q1_2 : Int32} {kx2 : St → Int32 → Option (St × Int32)} {r : St × Int32} (hX : OKX X (vM a D tI tJ tB zz) cX9_reads 3 RX9 6 126) (hR : (r.2 = 0 ∨ r.2 = 1) → ∀ (pc : Nat) (lv : List (Nat × Value)), decode cX9_reads pc = .ok (.ireturn, 1) → G X (vM a D tI tJ tB zz) 3 r.1 pc lv [.int r.2]) (hkx2 : ∀ (σ : St) (e2_2 : Int32), kx2 σ e2_2 = some r → G X (vM a D tI tJ tB zz) 3 σ 25 [(0, .ref (a 0)), (1, .int q1_2)] []) : ∀ (n : Nat) (σ : St) (c2_2 : Int32), fX9_reads_L2 q1_2 kx2 n σ c2_2 = some r → G X (vM a D tI tJ tB zz) 3 σ 2 [(0, .ref (a 0)), (1, .int q1_2), (2, .int c2_2)] [] := by
  intro n
  induction n with
  | zero => intro σ c2_2 h; rw [fX9_reads_L2] at h; exact absurd h (by simp)
  | succ n2 ih2 =>
    intro σ c2_2 h
    rw [fX9_reads_L2] at h
    refine g_iload_n hX 2 dX9_reads_2 rfl rfl ?_
    refine g_iload_n hX 1 dX9_reads_3 rfl rfl ?_
    refine g_icmp_ge hX 25 dX9_reads_4 (by decide) h (fun h => ?_) (fun h => ?_)
    · exact g_sub [0, 1] rfl (hkx2 _ _ h)
    · refine g_aload_n hX 0 dX9_reads_7 rfl rfl ?_
      refine gM_64 hX dX9_reads_8 ?_
      refine g_iload_n hX 2 dX9_reads_11 rfl rfl ?_
      refine g_aload_n hX 0 dX9_reads_12 rfl rfl ?_
      refine gM_60 hX dX9_reads_13 ?_
      refine g_iload_n hX 2 dX9_reads_16 rfl rfl ?_
      refine alM_13 hX dX9_reads_17 h (fun h => ?_)
      refine asM_14 hX dX9_reads_18 h (fun σ_2 h => ?_)
      refine g_iinc (y := (1)) (lv' := fun x2_3 => [(2, .int x2_3), (0, .ref (a 0)), (1, .int q1_2)]) hX 2 dX9_reads_19 rfl (by decide) (by decide) (fun _ => rfl) h (fun x2_3 h => ?_)
      refine g_goto hX 2 dX9_reads_22 (by decide) ?_
      exact g_sub [1, 2, 0] rfl (ih2 _ _ h)
set_option maxRecDepth 20000 in
set_option maxHeartbeats 4000000 in
theorem sX9_reads_L86 {X : CX} {a : Nat → Nat} {D : va_G} {tI tJ tB : ClassId} {zz : SV}  {kx86 : St → Int32 → Option (St × Int32)} {r : St × Int32} (hX : OKX X (vM a D tI tJ tB zz) cX9_reads 3 RX9 6 126) (hR : (r.2 = 0 ∨ r.2 = 1) → ∀ (pc : Nat) (lv : List (Nat × Value)), decode cX9_reads pc = .ok (.ireturn, 1) → G X (vM a D tI tJ tB zz) 3 r.1 pc lv [.int r.2]) (hkx86 : ∀ (σ : St) (e2_86 : Int32), kx86 σ e2_86 = some r → G X (vM a D tI tJ tB zz) 3 σ 156 [(0, .ref (a 0)), (2, .int e2_86)] []) : ∀ (n : Nat) (σ : St) (c2_86 : Int32), fX9_reads_L86 kx86 n σ c2_86 = some r → G X (vM a D tI tJ tB zz) 3 σ 86 [(0, .ref (a 0)), (2, .int c2_86)] [] := by
  intro n
  induction n with
  | zero => intro σ c2_86 h; rw [fX9_reads_L86] at h; exact absurd h (by simp)
  | succ n86 ih86 =>
    intro σ c2_86 h
    rw [fX9_reads_L86] at h
    refine g_iload_n hX 1 dX9_reads_86 rfl rfl ?_
    refine g_if_eq hX 156 dX9_reads_87 (by decide) h (fun h => ?_) (fun h => ?_)
    · exact g_sub [0, 1] rfl (hkx86 _ _ h)
    · refine g_aload_n hX 0 dX9_reads_90 rfl rfl ?_
      refine gM_137 hX dX9_reads_91 ?_
      refine g_aload_n hX 0 dX9_reads_94 rfl rfl ?_
      refine gM_140 hX dX9_reads_95 ?_
      refine g_icmp_ge hX 156 dX9_reads_98 (by decide) h (fun h => ?_) (fun h => ?_)
      · exact g_sub [0, 1] rfl (hkx86 _ _ h)
      · refine g_aload_n hX 0 dX9_reads_101 rfl rfl ?_
        refine gM_248 hX dX9_reads_102 ?_
        refine g_bipush hX (24) dX9_reads_105 (by decide) ?_
        refine jp_inv (P := fun f => ∀ (σ_20 : St)  (t_21 : Int32), f σ_20 t_21 = some r → G X (vM a D tI tJ tB zz) 3 σ_20 131 [(0, .ref (a 0))] [.int t_21]) h (fun σ_20 t_21 h => ?_) (fun j131 hj131 h => ?_)
        · refine g_istore_n (lv' := fun x2_22 => [(2, .int x2_22), (0, .ref (a 0))]) hX dX9_reads_131 rfl (by decide) (fun _ => rfl) h (fun x2_22 h => ?_)
          refine g_iload_n hX 0 dX9_reads_132 rfl rfl ?_
          refine g_if_ne hX 139 dX9_reads_133 (by decide) h (fun h => ?_) (fun h => ?_)
          · refine g_aload_n hX 1 dX9_reads_139 rfl rfl ?_
            refine g_dup hX dX9_reads_140 rfl ?_
            refine gM_248 hX dX9_reads_141 ?_
            refine g_iconst hX (1) dX9_reads_144 (by decide) ?_
            refine g_iadd hX dX9_reads_145 ?_
            refine pM_248 hX dX9_reads_146 h (fun σ_23 h => ?_)
            refine g_aload_n hX 1 dX9_reads_149 rfl rfl ?_
            refine g_callVV (As := []) (rest := []) hX 0 (Nat.le_of_ble_eq_true rfl) rfl rfl miX9_blanks mvX9_blanks lkX9_143 (by decide) rfl (Nat.le_of_ble_eq_true rfl) rfl dX9_reads_150 (fun τ x ho => kX9_blanks _ ho) h (fun σ_24 t_25 h => ?_)
            refine g_goto hX 86 dX9_reads_153 (by decide) ?_
            exact g_sub [1, 0] rfl (ih86 _ _ h)
          · refine g_goto hX 86 dX9_reads_136 (by decide) ?_
            exact g_sub [1, 0] rfl (ih86 _ _ h)
        refine jp_inv (P := fun f => ∀ (σ_26 : St)  , f σ_26 = some r → G X (vM a D tI tJ tB zz) 3 σ_26 130 [(0, .ref (a 0))] []) h (fun σ_26 h => ?_) (fun j130 hj130 h => ?_)
        · refine g_iconst hX (0) dX9_reads_130 (by decide) ?_
          exact g_sub [0] rfl (hj131 _ _ h)
        refine g_icmp_ge hX 130 dX9_reads_107 (by decide) h (fun h => ?_) (fun h => ?_)
        · exact g_sub [0] rfl (hj130 _ h)
        · refine g_aload_n hX 0 dX9_reads_110 rfl rfl ?_
          refine g_callVI (As := []) (rest := []) hX 0 (Nat.le_of_ble_eq_true rfl) rfl rfl miX9_statement mvX9_statement lkX9_251 (by decide) rfl (Nat.le_of_ble_eq_true rfl) rfl dX9_reads_111 (fun τ x ho => kX9_statement _ ho) h (fun σ_27 t_28 h => ?_)
          refine g_if_eq hX 130 dX9_reads_114 (by decide) h (fun h => ?_) (fun h => ?_)
          · exact g_sub [0] rfl (hj130 _ h)
          · refine g_aload_n hX 0 dX9_reads_117 rfl rfl ?_
            refine g_bipush hX (59) dX9_reads_118 (by decide) ?_
            refine g_callVI (As := [.int (59 : Int32)]) (rest := []) hX 0 (Nat.le_of_ble_eq_true rfl) rfl rfl miX9_takesSign mvX9_takesSign lkX9_254 (by decide) rfl (Nat.le_of_ble_eq_true rfl) rfl dX9_reads_120 (fun τ x ho => kX9_takesSign _ ho) h (fun σ_29 t_30 h => ?_)
            refine g_if_eq hX 130 dX9_reads_123 (by decide) h (fun h => ?_) (fun h => ?_)
            · exact g_sub [0] rfl (hj130 _ h)
            · refine g_iconst hX (1) dX9_reads_126 (by decide) ?_
              refine g_goto hX 131 dX9_reads_127 (by decide) ?_
              exact g_sub [0] rfl (hj131 _ _ h)
set_option maxRecDepth 20000 in
set_option maxHeartbeats 4000000 in
theorem sX9_reads {X : CX} {a : Nat → Nat} {D : va_G} {tI tJ tB : ClassId} {zz : SV} {σ : St}  {p1 : Int32} {r : St × Int32} (hX : OKX X (vM a D tI tJ tB zz) cX9_reads 3 RX9 6 126) (hR : (r.2 = 0 ∨ r.2 = 1) → ∀ (pc : Nat) (lv : List (Nat × Value)), decode cX9_reads pc = .ok (.ireturn, 1) → G X (vM a D tI tJ tB zz) 3 r.1 pc lv [.int r.2]) (h : fX9_reads σ p1 = some r) : G X (vM a D tI tJ tB zz) 3 σ 0 [(0, .ref (a 0)), (1, .int p1)] [] := by
  unfold fX9_reads at h
  refine g_iconst hX (0) dX9_reads_0 (by decide) ?_
  refine g_istore_n (lv' := fun x2_1 => [(2, .int x2_1), (0, .ref (a 0)), (1, .int p1)]) hX dX9_reads_1 rfl (by decide) (fun _ => rfl) h (fun x2_1 h => ?_)
  refine g_sub [1, 2, 0] rfl (sX9_reads_L2 hX hR (fun σ_4 x2_5 h => ?_) FU _ _ h)
  refine g_aload_n hX 0 dX9_reads_25 rfl rfl ?_
  refine g_iload_n hX 1 dX9_reads_26 rfl rfl ?_
  refine pM_140 hX dX9_reads_27 h (fun σ_6 h => ?_)
  refine g_aload_n hX 0 dX9_reads_30 rfl rfl ?_
  refine g_iconst hX (0) dX9_reads_31 (by decide) ?_
  refine pM_130 hX dX9_reads_32 h (fun σ_7 h => ?_)
  refine g_aload_n hX 0 dX9_reads_35 rfl rfl ?_
  refine g_iconst hX (0) dX9_reads_36 (by decide) ?_
  refine pM_137 hX dX9_reads_37 h (fun σ_8 h => ?_)
  refine g_aload_n hX 0 dX9_reads_40 rfl rfl ?_
  refine g_iconst hX (0) dX9_reads_41 (by decide) ?_
  refine pM_188 hX dX9_reads_42 h (fun σ_9 h => ?_)
  refine g_aload_n hX 0 dX9_reads_45 rfl rfl ?_
  refine g_iconst hX (0) dX9_reads_46 (by decide) ?_
  refine pM_218 hX dX9_reads_47 h (fun σ_10 h => ?_)
  refine g_aload_n hX 0 dX9_reads_50 rfl rfl ?_
  refine g_iconst hX (4) dX9_reads_51 (by decide) ?_
  refine pM_209 hX dX9_reads_52 h (fun σ_11 h => ?_)
  refine g_aload_n hX 0 dX9_reads_55 rfl rfl ?_
  refine g_iconst hX (5) dX9_reads_56 (by decide) ?_
  refine pM_212 hX dX9_reads_57 h (fun σ_12 h => ?_)
  refine g_aload_n hX 0 dX9_reads_60 rfl rfl ?_
  refine g_iconst hX (5) dX9_reads_61 (by decide) ?_
  refine pM_215 hX dX9_reads_62 h (fun σ_13 h => ?_)
  refine g_aload_n hX 0 dX9_reads_65 rfl rfl ?_
  refine g_iconst hX (0) dX9_reads_66 (by decide) ?_
  refine pM_241 hX dX9_reads_67 h (fun σ_14 h => ?_)
  refine g_aload_n hX 0 dX9_reads_70 rfl rfl ?_
  refine g_iconst hX (0) dX9_reads_71 (by decide) ?_
  refine pM_229 hX dX9_reads_72 h (fun σ_15 h => ?_)
  refine g_aload_n hX 0 dX9_reads_75 rfl rfl ?_
  refine g_iconst hX (0) dX9_reads_76 (by decide) ?_
  refine pM_248 hX dX9_reads_77 h (fun σ_16 h => ?_)
  refine g_iconst hX (1) dX9_reads_80 (by decide) ?_
  refine g_istore_n (lv' := fun x2_17 => [(2, .int x2_17), (0, .ref (a 0)), (1, .int p1)]) hX dX9_reads_81 rfl (by decide) (fun _ => rfl) h (fun x2_17 h => ?_)
  refine g_aload_n hX 1 dX9_reads_82 rfl rfl ?_
  refine g_callVV (As := []) (rest := []) hX 0 (Nat.le_of_ble_eq_true rfl) rfl rfl miX9_blanks mvX9_blanks lkX9_143 (by decide) rfl (Nat.le_of_ble_eq_true rfl) rfl dX9_reads_83 (fun τ x ho => kX9_blanks _ ho) h (fun σ_18 t_19 h => ?_)
  refine g_sub [1, 0] rfl (sX9_reads_L86 hX hR (fun σ_31 x2_32 h => ?_) FU _ _ h)
  refine g_iload_n hX 1 dX9_reads_156 rfl rfl ?_
  refine jp_inv (P := fun f => ∀ (σ_33 : St)  (t_34 : Int32), f σ_33 t_34 = some r → G X (vM a D tI tJ tB zz) 3 σ_33 172 [(0, .ref (a 0))] [.int t_34]) h (fun σ_33 t_34 h => ?_) (fun j172 hj172 h => ?_)
  · refine g_istore_n (lv' := fun x2_35 => [(2, .int x2_35), (0, .ref (a 0))]) hX dX9_reads_172 rfl (by decide) (fun _ => rfl) h (fun x2_35 h => ?_)
    refine g_aload_n hX 1 dX9_reads_173 rfl rfl ?_
    refine g_iload_n hX 0 dX9_reads_174 rfl rfl ?_
    refine jp_inv (P := fun f => ∀ (σ_36 : St)  (t_37 : Int32), f σ_36 t_37 = some r → G X (vM a D tI tJ tB zz) 3 σ_36 186 [(2, .int x2_35)] [.int t_37, .ref (a 0)]) h (fun σ_36 t_37 h => ?_) (fun j186 hj186 h => ?_)
    · refine pM_57 hX dX9_reads_186 h (fun σ_38 h => ?_)
      refine g_iload_n hX 0 dX9_reads_189 rfl rfl ?_
      exact g_retzc hR h dX9_reads_190
    refine g_if_eq hX 182 dX9_reads_175 (by decide) h (fun h => ?_) (fun h => ?_)
    · refine g_aload_n hX 1 dX9_reads_182 rfl rfl ?_
      refine gM_137 hX dX9_reads_183 ?_
      exact g_sub [0] rfl (hj186 _ _ h)
    · refine g_iconst hX (-1) dX9_reads_178 (by decide) ?_
      refine g_goto hX 186 dX9_reads_179 (by decide) ?_
      exact g_sub [0] rfl (hj186 _ _ h)
  refine jp_inv (P := fun f => ∀ (σ_39 : St)  , f σ_39 = some r → G X (vM a D tI tJ tB zz) 3 σ_39 171 [(0, .ref (a 0))] []) h (fun σ_39 h => ?_) (fun j171 hj171 h => ?_)
  · refine g_iconst hX (0) dX9_reads_171 (by decide) ?_
    exact g_sub [0] rfl (hj172 _ _ h)
  refine g_if_eq hX 171 dX9_reads_157 (by decide) h (fun h => ?_) (fun h => ?_)
  · exact g_sub [0] rfl (hj171 _ h)
  · refine g_aload_n hX 0 dX9_reads_160 rfl rfl ?_
    refine gM_188 hX dX9_reads_161 ?_
    refine g_if_le hX 171 dX9_reads_164 (by decide) h (fun h => ?_) (fun h => ?_)
    · exact g_sub [0] rfl (hj171 _ h)
    · refine g_iconst hX (1) dX9_reads_167 (by decide) ?_
      refine g_goto hX 172 dX9_reads_168 (by decide) ?_
      exact g_sub [0] rfl (hj172 _ _ h)
set_option maxRecDepth 20000 in
set_option maxHeartbeats 4000000 in
theorem kX9_reads (l : Launch) {a : Nat → Nat} {D : va_G} {tI tJ tB : ClassId} {zz : SV} {σ τ : St}  {p1 : Int32} {x : Int32} (h : fX9_reads σ p1 = some (τ, x)) : CtI l yX9_reads cX9_reads 3 (some .boolean) 6 126 (vM a D tI tJ tB zz) σ [.ref (a 0), .int p1] τ x := g_metZ (by decide) (Nat.le_of_ble_eq_true rfl) rfl (fun X _ hX hR => sX9_reads (r := (τ, x)) hX hR h)
def fX9_street_L91  (kx91 : St → Int32 → Option (St × Int32)) : Nat → St → Int32 → Option (St × Int32)
  | 0, _, _ => none
  | n91 + 1, σ, c2_91 =>
    (if (σ.1 0 0) ≤ c2_91 then kx91 σ c2_91 else chk (inb c2_91 4) (chk (inb c2_91 4) (bnd (sL σ 1 (ix c2_91) (σ.2 7 (ix c2_91))) fun (σ_14 : St) => chk (inb c2_91 4) (chk (inb c2_91 4) (bnd (sI σ_14 2 (ix c2_91) (σ_14.1 8 (ix c2_91))) fun (σ_15 : St) => chk (inb c2_91 4) (bnd (sI σ_15 15 (ix c2_91) (0 : Int32)) fun (σ_16 : St) => bnd (c2_91 + (1 : Int32)) fun (x2_17 : Int32) => fX9_street_L91 kx91 n91 σ_16 x2_17))))))
def fX9_street_L138  (kx138 : St → Int32 → Option (St × Int32)) : Nat → St → Int32 → Option (St × Int32)
  | 0, _, _ => none
  | n138 + 1, σ, c2_138 =>
    (if (σ.1 0 1) ≤ c2_138 then kx138 σ c2_138 else chk (inb c2_138 12) (chk (inb c2_138 12) (bnd (sI σ 3 (ix c2_138) (σ.1 9 (ix c2_138))) fun (σ_21 : St) => chk (inb c2_138 12) (chk (inb c2_138 12) (bnd (sI σ_21 4 (ix c2_138) (σ_21.1 10 (ix c2_138))) fun (σ_22 : St) => chk (inb c2_138 12) (chk (inb c2_138 12) (bnd (sI σ_22 5 (ix c2_138) (σ_22.1 11 (ix c2_138))) fun (σ_23 : St) => chk (inb c2_138 12) (chk (inb c2_138 12) (bnd (sI σ_23 6 (ix c2_138) (σ_23.1 12 (ix c2_138))) fun (σ_24 : St) => bnd (c2_138 + (1 : Int32)) fun (x2_25 : Int32) => fX9_street_L138 kx138 n138 σ_24 x2_25)))))))))
def fX9_street (σ : St) (p1 : Int32) : Option (St × Int32) :=
  cl (fX9_isIn σ p1 (0 : Int32) (σ.1 0 29)) fun (σ_1 : St) (t_2 : Int32) => (if t_2 = 0 then some (σ_1, (-2 : Int32)) else cl (fX9_reads σ_1 p1) fun (σ_3 : St) (t_4 : Int32) => (if t_4 = 0 then some (σ_3, (-1 : Int32)) else bnd (sI σ_3 0 0 (σ_3.1 0 15)) fun (σ_5 : St) => bnd (sI σ_5 0 1 (σ_5.1 0 16)) fun (σ_6 : St) => bnd (sI σ_6 0 2 (σ_6.1 0 17)) fun (σ_7 : St) => bnd (sI σ_7 0 3 (σ_7.1 0 18)) fun (σ_8 : St) => bnd (sI σ_8 0 4 (σ_8.1 0 19)) fun (σ_9 : St) => bnd (sI σ_9 0 5 (σ_9.1 0 20)) fun (σ_10 : St) => bnd (sI σ_10 0 6 (σ_10.1 0 21)) fun (σ_11 : St) => bnd (sI σ_11 0 7 (σ_11.1 0 22)) fun (σ_12 : St) => bnd (0 : Int32) fun (x2_13 : Int32) => fX9_street_L91  (fun (σ_18 : St) (x2_19 : Int32) => bnd (0 : Int32) fun (x2_20 : Int32) => fX9_street_L138  (fun (σ_26 : St) (x2_27 : Int32) => bnd (sI σ_26 0 37 (0 : Int32)) fun (σ_28 : St) => bnd (sI σ_28 0 38 (0 : Int32)) fun (σ_29 : St) => bnd (sI σ_29 0 39 (-1 : Int32)) fun (σ_30 : St) => bnd (sI σ_30 0 68 (0 : Int32)) fun (σ_31 : St) => bnd (sI σ_31 0 8 ((σ_31.1 0 8) + (1 : Int32))) fun (σ_32 : St) => some (σ_32, (σ_32.1 0 0))) FU σ_18 x2_20) FU σ_12 x2_13))
set_option maxRecDepth 20000 in
set_option maxHeartbeats 4000000 in
theorem sX9_street_L91 {X : CX} {a : Nat → Nat} {D : va_G} {tI tJ tB : ClassId} {zz : SV}  {kx91 : St → Int32 → Option (St × Int32)} {r : St × Int32} (hX : OKX X (vM a D tI tJ tB zz) cX9_street 3 RX9 7 148) (hR : ∀ (pc : Nat) (lv : List (Nat × Value)), decode cX9_street pc = .ok (.ireturn, 1) → G X (vM a D tI tJ tB zz) 3 r.1 pc lv [.int r.2]) (hkx91 : ∀ (σ : St) (e2_91 : Int32), kx91 σ e2_91 = some r → G X (vM a D tI tJ tB zz) 3 σ 136 [(0, .ref (a 0))] []) : ∀ (n : Nat) (σ : St) (c2_91 : Int32), fX9_street_L91 kx91 n σ c2_91 = some r → G X (vM a D tI tJ tB zz) 3 σ 91 [(0, .ref (a 0)), (2, .int c2_91)] [] := by
  intro n
  induction n with
  | zero => intro σ c2_91 h; rw [fX9_street_L91] at h; exact absurd h (by simp)
  | succ n91 ih91 =>
    intro σ c2_91 h
    rw [fX9_street_L91] at h
    refine g_iload_n hX 1 dX9_street_91 rfl rfl ?_
    refine g_aload_n hX 0 dX9_street_92 rfl rfl ?_
    refine gM_260 hX dX9_street_93 ?_
    refine g_icmp_ge hX 136 dX9_street_96 (by decide) h (fun h => ?_) (fun h => ?_)
    · exact g_sub [0] rfl (hkx91 _ _ h)
    · refine g_aload_n hX 0 dX9_street_99 rfl rfl ?_
      refine gM_19 hX dX9_street_100 ?_
      refine g_iload_n hX 1 dX9_street_103 rfl rfl ?_
      refine g_aload_n hX 0 dX9_street_104 rfl rfl ?_
      refine gM_39 hX dX9_street_105 ?_
      refine g_iload_n hX 1 dX9_street_108 rfl rfl ?_
      refine alM_7 hX dX9_street_109 h (fun h => ?_)
      refine asM_1 hX dX9_street_110 h (fun σ_14 h => ?_)
      refine g_aload_n hX 0 dX9_street_111 rfl rfl ?_
      refine gM_23 hX dX9_street_112 ?_
      refine g_iload_n hX 1 dX9_street_115 rfl rfl ?_
      refine g_aload_n hX 0 dX9_street_116 rfl rfl ?_
      refine gM_42 hX dX9_street_117 ?_
      refine g_iload_n hX 1 dX9_street_120 rfl rfl ?_
      refine alM_8 hX dX9_street_121 h (fun h => ?_)
      refine asM_2 hX dX9_street_122 h (fun σ_15 h => ?_)
      refine g_aload_n hX 0 dX9_street_123 rfl rfl ?_
      refine gM_70 hX dX9_street_124 ?_
      refine g_iload_n hX 1 dX9_street_127 rfl rfl ?_
      refine g_iconst hX (0) dX9_street_128 (by decide) ?_
      refine asM_15 hX dX9_street_129 h (fun σ_16 h => ?_)
      refine g_iinc (y := (1)) (lv' := fun x2_17 => [(2, .int x2_17), (0, .ref (a 0))]) hX 1 dX9_street_130 rfl (by decide) (by decide) (fun _ => rfl) h (fun x2_17 h => ?_)
      refine g_goto hX 91 dX9_street_133 (by decide) ?_
      exact g_sub [1, 0] rfl (ih91 _ _ h)
set_option maxRecDepth 20000 in
set_option maxHeartbeats 4000000 in
theorem sX9_street_L138 {X : CX} {a : Nat → Nat} {D : va_G} {tI tJ tB : ClassId} {zz : SV}  {kx138 : St → Int32 → Option (St × Int32)} {r : St × Int32} (hX : OKX X (vM a D tI tJ tB zz) cX9_street 3 RX9 7 148) (hR : ∀ (pc : Nat) (lv : List (Nat × Value)), decode cX9_street pc = .ok (.ireturn, 1) → G X (vM a D tI tJ tB zz) 3 r.1 pc lv [.int r.2]) (hkx138 : ∀ (σ : St) (e2_138 : Int32), kx138 σ e2_138 = some r → G X (vM a D tI tJ tB zz) 3 σ 200 [(0, .ref (a 0))] []) : ∀ (n : Nat) (σ : St) (c2_138 : Int32), fX9_street_L138 kx138 n σ c2_138 = some r → G X (vM a D tI tJ tB zz) 3 σ 138 [(0, .ref (a 0)), (2, .int c2_138)] [] := by
  intro n
  induction n with
  | zero => intro σ c2_138 h; rw [fX9_street_L138] at h; exact absurd h (by simp)
  | succ n138 ih138 =>
    intro σ c2_138 h
    rw [fX9_street_L138] at h
    refine g_iload_n hX 1 dX9_street_138 rfl rfl ?_
    refine g_aload_n hX 0 dX9_street_139 rfl rfl ?_
    refine gM_263 hX dX9_street_140 ?_
    refine g_icmp_ge hX 200 dX9_street_143 (by decide) h (fun h => ?_) (fun h => ?_)
    · exact g_sub [0] rfl (hkx138 _ _ h)
    · refine g_aload_n hX 0 dX9_street_146 rfl rfl ?_
      refine gM_27 hX dX9_street_147 ?_
      refine g_iload_n hX 1 dX9_street_150 rfl rfl ?_
      refine g_aload_n hX 0 dX9_street_151 rfl rfl ?_
      refine gM_45 hX dX9_street_152 ?_
      refine g_iload_n hX 1 dX9_street_155 rfl rfl ?_
      refine alM_9 hX dX9_street_156 h (fun h => ?_)
      refine asM_3 hX dX9_street_157 h (fun σ_21 h => ?_)
      refine g_aload_n hX 0 dX9_street_158 rfl rfl ?_
      refine gM_30 hX dX9_street_159 ?_
      refine g_iload_n hX 1 dX9_street_162 rfl rfl ?_
      refine g_aload_n hX 0 dX9_street_163 rfl rfl ?_
      refine gM_48 hX dX9_street_164 ?_
      refine g_iload_n hX 1 dX9_street_167 rfl rfl ?_
      refine alM_10 hX dX9_street_168 h (fun h => ?_)
      refine asM_4 hX dX9_street_169 h (fun σ_22 h => ?_)
      refine g_aload_n hX 0 dX9_street_170 rfl rfl ?_
      refine gM_33 hX dX9_street_171 ?_
      refine g_iload_n hX 1 dX9_street_174 rfl rfl ?_
      refine g_aload_n hX 0 dX9_street_175 rfl rfl ?_
      refine gM_51 hX dX9_street_176 ?_
      refine g_iload_n hX 1 dX9_street_179 rfl rfl ?_
      refine alM_11 hX dX9_street_180 h (fun h => ?_)
      refine asM_5 hX dX9_street_181 h (fun σ_23 h => ?_)
      refine g_aload_n hX 0 dX9_street_182 rfl rfl ?_
      refine gM_36 hX dX9_street_183 ?_
      refine g_iload_n hX 1 dX9_street_186 rfl rfl ?_
      refine g_aload_n hX 0 dX9_street_187 rfl rfl ?_
      refine gM_54 hX dX9_street_188 ?_
      refine g_iload_n hX 1 dX9_street_191 rfl rfl ?_
      refine alM_12 hX dX9_street_192 h (fun h => ?_)
      refine asM_6 hX dX9_street_193 h (fun σ_24 h => ?_)
      refine g_iinc (y := (1)) (lv' := fun x2_25 => [(2, .int x2_25), (0, .ref (a 0))]) hX 1 dX9_street_194 rfl (by decide) (by decide) (fun _ => rfl) h (fun x2_25 h => ?_)
      refine g_goto hX 138 dX9_street_197 (by decide) ?_
      exact g_sub [1, 0] rfl (ih138 _ _ h)
set_option maxRecDepth 20000 in
set_option maxHeartbeats 4000000 in
theorem sX9_street {X : CX} {a : Nat → Nat} {D : va_G} {tI tJ tB : ClassId} {zz : SV} {σ : St}  {p1 : Int32} {r : St × Int32} (hX : OKX X (vM a D tI tJ tB zz) cX9_street 3 RX9 7 148) (hR : ∀ (pc : Nat) (lv : List (Nat × Value)), decode cX9_street pc = .ok (.ireturn, 1) → G X (vM a D tI tJ tB zz) 3 r.1 pc lv [.int r.2]) (h : fX9_street σ p1 = some r) : G X (vM a D tI tJ tB zz) 3 σ 0 [(0, .ref (a 0)), (1, .int p1)] [] := by
  unfold fX9_street at h
  refine g_iload_n hX 1 dX9_street_0 rfl rfl ?_
  refine g_iconst hX (0) dX9_street_1 (by decide) ?_
  refine g_aload_n hX 0 dX9_street_2 rfl rfl ?_
  refine gM_130 hX dX9_street_3 ?_
  refine g_callSI (As := [.int p1, .int (0 : Int32), .int (σ.1 0 29)]) (rest := []) hX miX9_isIn mvX9_isIn lkX9_156 (by decide) rfl (Nat.le_of_ble_eq_true rfl) rfl dX9_street_6 (fun τ x ho => kX9_isIn _ ho) h (fun σ_1 t_2 h => ?_)
  refine g_if_ne hX 15 dX9_street_9 (by decide) h (fun h => ?_) (fun h => ?_)
  · refine g_aload_n hX 0 dX9_street_15 rfl rfl ?_
    refine g_iload_n hX 1 dX9_street_16 rfl rfl ?_
    refine g_callVI (As := [.int p1]) (rest := []) hX 0 (Nat.le_of_ble_eq_true rfl) rfl rfl miX9_reads mvX9_reads lkX9_257 (by decide) rfl (Nat.le_of_ble_eq_true rfl) rfl dX9_street_17 (fun τ x ho => kX9_reads _ ho) h (fun σ_3 t_4 h => ?_)
    refine g_if_ne hX 25 dX9_street_20 (by decide) h (fun h => ?_) (fun h => ?_)
    · refine g_aload_n hX 0 dX9_street_25 rfl rfl ?_
      refine g_aload_n hX 0 dX9_street_26 rfl rfl ?_
      refine gM_188 hX dX9_street_27 ?_
      refine pM_260 hX dX9_street_30 h (fun σ_5 h => ?_)
      refine g_aload_n hX 0 dX9_street_33 rfl rfl ?_
      refine g_aload_n hX 0 dX9_street_34 rfl rfl ?_
      refine gM_218 hX dX9_street_35 ?_
      refine pM_263 hX dX9_street_38 h (fun σ_6 h => ?_)
      refine g_aload_n hX 0 dX9_street_41 rfl rfl ?_
      refine g_aload_n hX 0 dX9_street_42 rfl rfl ?_
      refine gM_209 hX dX9_street_43 ?_
      refine pM_7 hX dX9_street_46 h (fun σ_7 h => ?_)
      refine g_aload_n hX 0 dX9_street_49 rfl rfl ?_
      refine g_aload_n hX 0 dX9_street_50 rfl rfl ?_
      refine gM_212 hX dX9_street_51 ?_
      refine pM_13 hX dX9_street_54 h (fun σ_8 h => ?_)
      refine g_aload_n hX 0 dX9_street_57 rfl rfl ?_
      refine g_aload_n hX 0 dX9_street_58 rfl rfl ?_
      refine gM_215 hX dX9_street_59 ?_
      refine pM_16 hX dX9_street_62 h (fun σ_9 h => ?_)
      refine g_aload_n hX 0 dX9_street_65 rfl rfl ?_
      refine g_aload_n hX 0 dX9_street_66 rfl rfl ?_
      refine gM_241 hX dX9_street_67 ?_
      refine pM_266 hX dX9_street_70 h (fun σ_10 h => ?_)
      refine g_aload_n hX 0 dX9_street_73 rfl rfl ?_
      refine g_aload_n hX 0 dX9_street_74 rfl rfl ?_
      refine gM_229 hX dX9_street_75 ?_
      refine pM_269 hX dX9_street_78 h (fun σ_11 h => ?_)
      refine g_aload_n hX 0 dX9_street_81 rfl rfl ?_
      refine g_aload_n hX 0 dX9_street_82 rfl rfl ?_
      refine gM_248 hX dX9_street_83 ?_
      refine pM_272 hX dX9_street_86 h (fun σ_12 h => ?_)
      refine g_iconst hX (0) dX9_street_89 (by decide) ?_
      refine g_istore_n (lv' := fun x2_13 => [(2, .int x2_13), (0, .ref (a 0)), (1, .int p1)]) hX dX9_street_90 rfl (by decide) (fun _ => rfl) h (fun x2_13 h => ?_)
      refine g_sub [1, 0] rfl (sX9_street_L91 hX hR (fun σ_18 x2_19 h => ?_) FU _ _ h)
      refine g_iconst hX (0) dX9_street_136 (by decide) ?_
      refine g_istore_n (lv' := fun x2_20 => [(2, .int x2_20), (0, .ref (a 0))]) hX dX9_street_137 rfl (by decide) (fun _ => rfl) h (fun x2_20 h => ?_)
      refine g_sub [1, 0] rfl (sX9_street_L138 hX hR (fun σ_26 x2_27 h => ?_) FU _ _ h)
      refine g_aload_n hX 0 dX9_street_200 rfl rfl ?_
      refine g_iconst hX (0) dX9_street_201 (by decide) ?_
      refine pM_275 hX dX9_street_202 h (fun σ_28 h => ?_)
      refine g_aload_n hX 0 dX9_street_205 rfl rfl ?_
      refine g_iconst hX (0) dX9_street_206 (by decide) ?_
      refine pM_278 hX dX9_street_207 h (fun σ_29 h => ?_)
      refine g_aload_n hX 0 dX9_street_210 rfl rfl ?_
      refine g_iconst hX (-1) dX9_street_211 (by decide) ?_
      refine pM_67 hX dX9_street_212 h (fun σ_30 h => ?_)
      refine g_aload_n hX 0 dX9_street_215 rfl rfl ?_
      refine g_iconst hX (0) dX9_street_216 (by decide) ?_
      refine pM_281 hX dX9_street_217 h (fun σ_31 h => ?_)
      refine g_aload_n hX 0 dX9_street_220 rfl rfl ?_
      refine g_dup hX dX9_street_221 rfl ?_
      refine gM_284 hX dX9_street_222 ?_
      refine g_iconst hX (1) dX9_street_225 (by decide) ?_
      refine g_iadd hX dX9_street_226 ?_
      refine pM_284 hX dX9_street_227 h (fun σ_32 h => ?_)
      refine g_aload_n hX 0 dX9_street_230 rfl rfl ?_
      refine gM_260 hX dX9_street_231 ?_
      exact g_reti hR h dX9_street_234
    · refine g_iconst hX (-1) dX9_street_23 (by decide) ?_
      exact g_reti hR h dX9_street_24
  · refine g_bipush hX (-2) dX9_street_12 (by decide) ?_
    exact g_reti hR h dX9_street_14
set_option maxRecDepth 20000 in
set_option maxHeartbeats 4000000 in
theorem kX9_street (l : Launch) {a : Nat → Nat} {D : va_G} {tI tJ tB : ClassId} {zz : SV} {σ τ : St}  {p1 : Int32} {x : Int32} (h : fX9_street σ p1 = some (τ, x)) : CtI l yX9_street cX9_street 3 (some .int) 7 148 (vM a D tI tJ tB zz) σ [.ref (a 0), .int p1] τ x := g_metI (by decide) (Nat.le_of_ble_eq_true rfl) rfl (fun X _ hX hR => sX9_street (r := (τ, x)) hX hR h)
def fX9_fault (σ : St)  : Option (St × Int32) :=
  some (σ, (σ.1 0 32))
set_option maxRecDepth 20000 in
set_option maxHeartbeats 4000000 in
theorem sX9_fault {X : CX} {a : Nat → Nat} {D : va_G} {tI tJ tB : ClassId} {zz : SV} {σ : St}   {r : St × Int32} (hX : OKX X (vM a D tI tJ tB zz) cX9_fault 1 RX9 0 0) (hR : ∀ (pc : Nat) (lv : List (Nat × Value)), decode cX9_fault pc = .ok (.ireturn, 1) → G X (vM a D tI tJ tB zz) 1 r.1 pc lv [.int r.2]) (h : fX9_fault σ  = some r) : G X (vM a D tI tJ tB zz) 1 σ 0 [(0, .ref (a 0))] [] := by
  unfold fX9_fault at h
  refine g_aload_n hX 0 dX9_fault_0 rfl rfl ?_
  refine gM_57 hX dX9_fault_1 ?_
  exact g_reti hR h dX9_fault_4
set_option maxRecDepth 20000 in
set_option maxHeartbeats 4000000 in
theorem kX9_fault (l : Launch) {a : Nat → Nat} {D : va_G} {tI tJ tB : ClassId} {zz : SV} {σ τ : St}   {x : Int32} (h : fX9_fault σ  = some (τ, x)) : CtI l yX9_fault cX9_fault 1 (some .int) 0 0 (vM a D tI tJ tB zz) σ [.ref (a 0)] τ x := g_metI (by decide) (Nat.le_of_ble_eq_true rfl) rfl (fun X _ hX hR => sX9_fault (r := (τ, x)) hX hR h)
def fX9_told (σ : St) (p1 : Int32) : Option (St × Int32) :=
  (if p1 = 0 then some (σ, (σ.1 0 0)) else (if p1 = 1 then some (σ, (σ.1 0 1)) else (if p1 = 2 then some (σ, (σ.1 0 2)) else (if p1 = 3 then some (σ, (σ.1 0 3)) else (if p1 = 4 then some (σ, (σ.1 0 4)) else (if p1 = 5 then some (σ, (σ.1 0 5)) else (if p1 = 6 then some (σ, (σ.1 0 6)) else (if p1 = 7 then some (σ, (σ.1 0 7)) else cl (fX9_isIn σ p1 (100 : Int32) ((99 : Int32) + (σ.1 0 0))) fun (σ_1 : St) (t_2 : Int32) => (if t_2 = 0 then cl (fX9_isIn σ_1 p1 (200 : Int32) ((199 : Int32) + ((4 : Int32) * (σ_1.1 0 1)))) fun (σ_3 : St) (t_4 : Int32) => (if t_4 = 0 then some (σ_3, (-1 : Int32)) else chk (decide (¬ (4 : Int32) = 0)) (bnd ((p1 - (200 : Int32)) / (4 : Int32)) fun (x2_5 : Int32) => chk (decide (¬ (4 : Int32) = 0)) (bnd (p1 - p1 / (4 : Int32) * (4 : Int32)) fun (x3_6 : Int32) => (if x3_6 = 0 then chk (inb x2_5 12) (some (σ_3, (σ_3.1 3 (ix x2_5)))) else (if x3_6 = (1 : Int32) then chk (inb x2_5 12) (some (σ_3, (σ_3.1 4 (ix x2_5)))) else (if x3_6 = (2 : Int32) then chk (inb x2_5 12) (some (σ_3, (σ_3.1 5 (ix x2_5)))) else chk (inb x2_5 12) (some (σ_3, (σ_3.1 6 (ix x2_5)))))))))) else chk (inb (p1 - (100 : Int32)) 4) (some (σ_1, (σ_1.1 2 (ix (p1 - (100 : Int32)))))))))))))))
set_option maxRecDepth 20000 in
set_option maxHeartbeats 4000000 in
theorem sX9_told {X : CX} {a : Nat → Nat} {D : va_G} {tI tJ tB : ClassId} {zz : SV} {σ : St}  {p1 : Int32} {r : St × Int32} (hX : OKX X (vM a D tI tJ tB zz) cX9_told 4 RX9 1 22) (hR : ∀ (pc : Nat) (lv : List (Nat × Value)), decode cX9_told pc = .ok (.ireturn, 1) → G X (vM a D tI tJ tB zz) 4 r.1 pc lv [.int r.2]) (h : fX9_told σ p1 = some r) : G X (vM a D tI tJ tB zz) 4 σ 0 [(0, .ref (a 0)), (1, .int p1)] [] := by
  unfold fX9_told at h
  refine g_iload_n hX 1 dX9_told_0 rfl rfl ?_
  refine ite_go h (fun hq h => ?_) (fun hs1_0 h => ?_)
  · refine g_tabIn (off := 47) (0) hX 48 hq dX9_told_1 (by decide) (by decide) (by decide) (by decide) ?_
    refine g_aload_n hX 0 dX9_told_48 rfl rfl ?_
    refine gM_260 hX dX9_told_49 ?_
    exact g_reti hR h dX9_told_52
  refine ite_go h (fun hq h => ?_) (fun hs1_1 h => ?_)
  · refine g_tabIn (off := 52) (1) hX 53 hq dX9_told_1 (by decide) (by decide) (by decide) (by decide) ?_
    refine g_aload_n hX 0 dX9_told_53 rfl rfl ?_
    refine gM_263 hX dX9_told_54 ?_
    exact g_reti hR h dX9_told_57
  refine ite_go h (fun hq h => ?_) (fun hs1_2 h => ?_)
  · refine g_tabIn (off := 57) (2) hX 58 hq dX9_told_1 (by decide) (by decide) (by decide) (by decide) ?_
    refine g_aload_n hX 0 dX9_told_58 rfl rfl ?_
    refine gM_7 hX dX9_told_59 ?_
    exact g_reti hR h dX9_told_62
  refine ite_go h (fun hq h => ?_) (fun hs1_3 h => ?_)
  · refine g_tabIn (off := 62) (3) hX 63 hq dX9_told_1 (by decide) (by decide) (by decide) (by decide) ?_
    refine g_aload_n hX 0 dX9_told_63 rfl rfl ?_
    refine gM_13 hX dX9_told_64 ?_
    exact g_reti hR h dX9_told_67
  refine ite_go h (fun hq h => ?_) (fun hs1_4 h => ?_)
  · refine g_tabIn (off := 67) (4) hX 68 hq dX9_told_1 (by decide) (by decide) (by decide) (by decide) ?_
    refine g_aload_n hX 0 dX9_told_68 rfl rfl ?_
    refine gM_16 hX dX9_told_69 ?_
    exact g_reti hR h dX9_told_72
  refine ite_go h (fun hq h => ?_) (fun hs1_5 h => ?_)
  · refine g_tabIn (off := 72) (5) hX 73 hq dX9_told_1 (by decide) (by decide) (by decide) (by decide) ?_
    refine g_aload_n hX 0 dX9_told_73 rfl rfl ?_
    refine gM_266 hX dX9_told_74 ?_
    exact g_reti hR h dX9_told_77
  refine ite_go h (fun hq h => ?_) (fun hs1_6 h => ?_)
  · refine g_tabIn (off := 77) (6) hX 78 hq dX9_told_1 (by decide) (by decide) (by decide) (by decide) ?_
    refine g_aload_n hX 0 dX9_told_78 rfl rfl ?_
    refine gM_269 hX dX9_told_79 ?_
    exact g_reti hR h dX9_told_82
  refine ite_go h (fun hq h => ?_) (fun hs1_7 h => ?_)
  · refine g_tabIn (off := 82) (7) hX 83 hq dX9_told_1 (by decide) (by decide) (by decide) (by decide) ?_
    refine g_aload_n hX 0 dX9_told_83 rfl rfl ?_
    refine gM_272 hX dX9_told_84 ?_
    exact g_reti hR h dX9_told_87
  refine g_tabOut hX 88 dX9_told_1 (by have k0 := sw_ne hs1_0 (n := 0) (by decide); have k1 := sw_ne hs1_1 (n := 1) (by decide); have k2 := sw_ne hs1_2 (n := 2) (by decide); have k3 := sw_ne hs1_3 (n := 3) (by decide); have k4 := sw_ne hs1_4 (n := 4) (by decide); have k5 := sw_ne hs1_5 (n := 5) (by decide); have k6 := sw_ne hs1_6 (n := 6) (by decide); have k7 := sw_ne hs1_7 (n := 7) (by decide); omega) (by decide) ?_
  refine g_iload_n hX 1 dX9_told_88 rfl rfl ?_
  refine g_bipush hX (100) dX9_told_89 (by decide) ?_
  refine g_bipush hX (99) dX9_told_91 (by decide) ?_
  refine g_aload_n hX 0 dX9_told_93 rfl rfl ?_
  refine gM_260 hX dX9_told_94 ?_
  refine g_iadd hX dX9_told_97 ?_
  refine g_callSI (As := [.int p1, .int (100 : Int32), .int ((99 : Int32) + (σ.1 0 0))]) (rest := []) hX miX9_isIn mvX9_isIn lkX9_156 (by decide) rfl (Nat.le_of_ble_eq_true rfl) rfl dX9_told_98 (fun τ x ho => kX9_isIn _ ho) h (fun σ_1 t_2 h => ?_)
  refine g_if_eq hX 114 dX9_told_101 (by decide) h (fun h => ?_) (fun h => ?_)
  · refine g_iload_n hX 1 dX9_told_114 rfl rfl ?_
    refine g_sipush hX (200) dX9_told_115 (by decide) ?_
    refine g_sipush hX (199) dX9_told_118 (by decide) ?_
    refine g_iconst hX (4) dX9_told_121 (by decide) ?_
    refine g_aload_n hX 0 dX9_told_122 rfl rfl ?_
    refine gM_263 hX dX9_told_123 ?_
    refine g_imul hX dX9_told_126 ?_
    refine g_iadd hX dX9_told_127 ?_
    refine g_callSI (As := [.int p1, .int (200 : Int32), .int ((199 : Int32) + ((4 : Int32) * (σ_1.1 0 1)))]) (rest := []) hX miX9_isIn mvX9_isIn lkX9_156 (by decide) rfl (Nat.le_of_ble_eq_true rfl) rfl dX9_told_128 (fun τ x ho => kX9_isIn _ ho) h (fun σ_3 t_4 h => ?_)
    refine g_if_ne hX 136 dX9_told_131 (by decide) h (fun h => ?_) (fun h => ?_)
    · refine g_iload_n hX 1 dX9_told_136 rfl rfl ?_
      refine g_sipush hX (200) dX9_told_137 (by decide) ?_
      refine g_isub hX dX9_told_140 ?_
      refine g_iconst hX (4) dX9_told_141 (by decide) ?_
      refine g_idiv hX dX9_told_142 h (fun h => ?_)
      refine g_istore_n (lv' := fun x2_5 => [(2, .int x2_5), (0, .ref (a 0)), (1, .int p1)]) hX dX9_told_143 rfl (by decide) (fun _ => rfl) h (fun x2_5 h => ?_)
      refine g_iload_n hX 2 dX9_told_144 rfl rfl ?_
      refine g_iconst hX (4) dX9_told_145 (by decide) ?_
      refine g_irem hX dX9_told_146 h (fun h => ?_)
      refine g_istore_n (lv' := fun x3_6 => [(3, .int x3_6), (2, .int x2_5), (0, .ref (a 0)), (1, .int p1)]) hX dX9_told_147 rfl (by decide) (fun _ => rfl) h (fun x3_6 h => ?_)
      refine g_iload_n hX 0 dX9_told_148 rfl rfl ?_
      refine g_if_ne hX 161 dX9_told_149 (by decide) h (fun h => ?_) (fun h => ?_)
      · refine g_iload_n hX 0 dX9_told_161 rfl rfl ?_
        refine g_iconst hX (1) dX9_told_162 (by decide) ?_
        refine g_icmp_ne hX 175 dX9_told_163 (by decide) h (fun h => ?_) (fun h => ?_)
        · refine g_iload_n hX 0 dX9_told_175 rfl rfl ?_
          refine g_iconst hX (2) dX9_told_176 (by decide) ?_
          refine g_icmp_ne hX 189 dX9_told_177 (by decide) h (fun h => ?_) (fun h => ?_)
          · refine g_aload_n hX 2 dX9_told_189 rfl rfl ?_
            refine gM_36 hX dX9_told_190 ?_
            refine g_iload_n hX 1 dX9_told_193 rfl rfl ?_
            refine alM_6 hX dX9_told_194 h (fun h => ?_)
            exact g_reti hR h dX9_told_195
          · refine g_aload_n hX 2 dX9_told_180 rfl rfl ?_
            refine gM_33 hX dX9_told_181 ?_
            refine g_iload_n hX 1 dX9_told_184 rfl rfl ?_
            refine alM_5 hX dX9_told_185 h (fun h => ?_)
            refine g_goto hX 195 dX9_told_186 (by decide) ?_
            exact g_reti hR h dX9_told_195
        · refine g_aload_n hX 2 dX9_told_166 rfl rfl ?_
          refine gM_30 hX dX9_told_167 ?_
          refine g_iload_n hX 1 dX9_told_170 rfl rfl ?_
          refine alM_4 hX dX9_told_171 h (fun h => ?_)
          refine g_goto hX 195 dX9_told_172 (by decide) ?_
          exact g_reti hR h dX9_told_195
      · refine g_aload_n hX 2 dX9_told_152 rfl rfl ?_
        refine gM_27 hX dX9_told_153 ?_
        refine g_iload_n hX 1 dX9_told_156 rfl rfl ?_
        refine alM_3 hX dX9_told_157 h (fun h => ?_)
        refine g_goto hX 195 dX9_told_158 (by decide) ?_
        exact g_reti hR h dX9_told_195
    · refine g_iconst hX (-1) dX9_told_134 (by decide) ?_
      exact g_reti hR h dX9_told_135
  · refine g_aload_n hX 0 dX9_told_104 rfl rfl ?_
    refine gM_23 hX dX9_told_105 ?_
    refine g_iload_n hX 1 dX9_told_108 rfl rfl ?_
    refine g_bipush hX (100) dX9_told_109 (by decide) ?_
    refine g_isub hX dX9_told_111 ?_
    refine alM_2 hX dX9_told_112 h (fun h => ?_)
    exact g_reti hR h dX9_told_113
set_option maxRecDepth 20000 in
set_option maxHeartbeats 4000000 in
theorem kX9_told (l : Launch) {a : Nat → Nat} {D : va_G} {tI tJ tB : ClassId} {zz : SV} {σ τ : St}  {p1 : Int32} {x : Int32} (h : fX9_told σ p1 = some (τ, x)) : CtI l yX9_told cX9_told 4 (some .int) 1 22 (vM a D tI tJ tB zz) σ [.ref (a 0), .int p1] τ x := g_metI (by decide) (Nat.le_of_ble_eq_true rfl) rfl (fun X _ hX hR => sX9_told (r := (τ, x)) hX hR h)
def fX9_isBaker (σ : St) (p1 : Int32) : Option (St × Int32) :=
  cl (fX9_isIn σ p1 (0 : Int32) ((σ.1 0 0) - (1 : Int32))) fun (σ_1 : St) (t_2 : Int32) => chk (isB t_2) (some (σ_1, t_2))
set_option maxRecDepth 20000 in
set_option maxHeartbeats 4000000 in
theorem sX9_isBaker {X : CX} {a : Nat → Nat} {D : va_G} {tI tJ tB : ClassId} {zz : SV} {σ : St}  {p1 : Int32} {r : St × Int32} (hX : OKX X (vM a D tI tJ tB zz) cX9_isBaker 2 RX9 1 22) (hR : (r.2 = 0 ∨ r.2 = 1) → ∀ (pc : Nat) (lv : List (Nat × Value)), decode cX9_isBaker pc = .ok (.ireturn, 1) → G X (vM a D tI tJ tB zz) 2 r.1 pc lv [.int r.2]) (h : fX9_isBaker σ p1 = some r) : G X (vM a D tI tJ tB zz) 2 σ 0 [(0, .ref (a 0)), (1, .int p1)] [] := by
  unfold fX9_isBaker at h
  refine g_iload_n hX 1 dX9_isBaker_0 rfl rfl ?_
  refine g_iconst hX (0) dX9_isBaker_1 (by decide) ?_
  refine g_aload_n hX 0 dX9_isBaker_2 rfl rfl ?_
  refine gM_260 hX dX9_isBaker_3 ?_
  refine g_iconst hX (1) dX9_isBaker_6 (by decide) ?_
  refine g_isub hX dX9_isBaker_7 ?_
  refine g_callSI (As := [.int p1, .int (0 : Int32), .int ((σ.1 0 0) - (1 : Int32))]) (rest := []) hX miX9_isIn mvX9_isIn lkX9_156 (by decide) rfl (Nat.le_of_ble_eq_true rfl) rfl dX9_isBaker_8 (fun τ x ho => kX9_isIn _ ho) h (fun σ_1 t_2 h => ?_)
  exact g_retzc hR h dX9_isBaker_11
set_option maxRecDepth 20000 in
set_option maxHeartbeats 4000000 in
theorem kX9_isBaker (l : Launch) {a : Nat → Nat} {D : va_G} {tI tJ tB : ClassId} {zz : SV} {σ τ : St}  {p1 : Int32} {x : Int32} (h : fX9_isBaker σ p1 = some (τ, x)) : CtI l yX9_isBaker cX9_isBaker 2 (some .boolean) 1 22 (vM a D tI tJ tB zz) σ [.ref (a 0), .int p1] τ x := g_metZ (by decide) (Nat.le_of_ble_eq_true rfl) rfl (fun X _ hX hR => sX9_isBaker (r := (τ, x)) hX hR h)
def fX9_isSort (σ : St) (p1 : Int32) : Option (St × Int32) :=
  cl (fX9_isIn σ p1 (0 : Int32) ((σ.1 0 1) - (1 : Int32))) fun (σ_1 : St) (t_2 : Int32) => chk (isB t_2) (some (σ_1, t_2))
set_option maxRecDepth 20000 in
set_option maxHeartbeats 4000000 in
theorem sX9_isSort {X : CX} {a : Nat → Nat} {D : va_G} {tI tJ tB : ClassId} {zz : SV} {σ : St}  {p1 : Int32} {r : St × Int32} (hX : OKX X (vM a D tI tJ tB zz) cX9_isSort 2 RX9 1 22) (hR : (r.2 = 0 ∨ r.2 = 1) → ∀ (pc : Nat) (lv : List (Nat × Value)), decode cX9_isSort pc = .ok (.ireturn, 1) → G X (vM a D tI tJ tB zz) 2 r.1 pc lv [.int r.2]) (h : fX9_isSort σ p1 = some r) : G X (vM a D tI tJ tB zz) 2 σ 0 [(0, .ref (a 0)), (1, .int p1)] [] := by
  unfold fX9_isSort at h
  refine g_iload_n hX 1 dX9_isSort_0 rfl rfl ?_
  refine g_iconst hX (0) dX9_isSort_1 (by decide) ?_
  refine g_aload_n hX 0 dX9_isSort_2 rfl rfl ?_
  refine gM_263 hX dX9_isSort_3 ?_
  refine g_iconst hX (1) dX9_isSort_6 (by decide) ?_
  refine g_isub hX dX9_isSort_7 ?_
  refine g_callSI (As := [.int p1, .int (0 : Int32), .int ((σ.1 0 1) - (1 : Int32))]) (rest := []) hX miX9_isIn mvX9_isIn lkX9_156 (by decide) rfl (Nat.le_of_ble_eq_true rfl) rfl dX9_isSort_8 (fun τ x ho => kX9_isIn _ ho) h (fun σ_1 t_2 h => ?_)
  exact g_retzc hR h dX9_isSort_11
set_option maxRecDepth 20000 in
set_option maxHeartbeats 4000000 in
theorem kX9_isSort (l : Launch) {a : Nat → Nat} {D : va_G} {tI tJ tB : ClassId} {zz : SV} {σ τ : St}  {p1 : Int32} {x : Int32} (h : fX9_isSort σ p1 = some (τ, x)) : CtI l yX9_isSort cX9_isSort 2 (some .boolean) 1 22 (vM a D tI tJ tB zz) σ [.ref (a 0), .int p1] τ x := g_metZ (by decide) (Nat.le_of_ble_eq_true rfl) rfl (fun X _ hX hR => sX9_isSort (r := (τ, x)) hX hR h)
def fX9_isStep (σ : St) (p1 : Int32) : Option (St × Int32) :=
  cl (fX9_isIn σ p1 (0 : Int32) ((σ.1 0 2) - (1 : Int32))) fun (σ_1 : St) (t_2 : Int32) => chk (isB t_2) (some (σ_1, t_2))
set_option maxRecDepth 20000 in
set_option maxHeartbeats 4000000 in
theorem sX9_isStep {X : CX} {a : Nat → Nat} {D : va_G} {tI tJ tB : ClassId} {zz : SV} {σ : St}  {p1 : Int32} {r : St × Int32} (hX : OKX X (vM a D tI tJ tB zz) cX9_isStep 2 RX9 1 22) (hR : (r.2 = 0 ∨ r.2 = 1) → ∀ (pc : Nat) (lv : List (Nat × Value)), decode cX9_isStep pc = .ok (.ireturn, 1) → G X (vM a D tI tJ tB zz) 2 r.1 pc lv [.int r.2]) (h : fX9_isStep σ p1 = some r) : G X (vM a D tI tJ tB zz) 2 σ 0 [(0, .ref (a 0)), (1, .int p1)] [] := by
  unfold fX9_isStep at h
  refine g_iload_n hX 1 dX9_isStep_0 rfl rfl ?_
  refine g_iconst hX (0) dX9_isStep_1 (by decide) ?_
  refine g_aload_n hX 0 dX9_isStep_2 rfl rfl ?_
  refine gM_7 hX dX9_isStep_3 ?_
  refine g_iconst hX (1) dX9_isStep_6 (by decide) ?_
  refine g_isub hX dX9_isStep_7 ?_
  refine g_callSI (As := [.int p1, .int (0 : Int32), .int ((σ.1 0 2) - (1 : Int32))]) (rest := []) hX miX9_isIn mvX9_isIn lkX9_156 (by decide) rfl (Nat.le_of_ble_eq_true rfl) rfl dX9_isStep_8 (fun τ x ho => kX9_isIn _ ho) h (fun σ_1 t_2 h => ?_)
  exact g_retzc hR h dX9_isStep_11
set_option maxRecDepth 20000 in
set_option maxHeartbeats 4000000 in
theorem kX9_isStep (l : Launch) {a : Nat → Nat} {D : va_G} {tI tJ tB : ClassId} {zz : SV} {σ τ : St}  {p1 : Int32} {x : Int32} (h : fX9_isStep σ p1 = some (τ, x)) : CtI l yX9_isStep cX9_isStep 2 (some .boolean) 1 22 (vM a D tI tJ tB zz) σ [.ref (a 0), .int p1] τ x := g_metZ (by decide) (Nat.le_of_ble_eq_true rfl) rfl (fun X _ hX hR => sX9_isStep (r := (τ, x)) hX hR h)
def fX9_price (σ : St) (p1 : Int32) : Option (St × Int32) :=
  some (σ, ((σ.1 0 3) + (p1 * (σ.1 0 4))))
set_option maxRecDepth 20000 in
set_option maxHeartbeats 4000000 in
theorem sX9_price {X : CX} {a : Nat → Nat} {D : va_G} {tI tJ tB : ClassId} {zz : SV} {σ : St}  {p1 : Int32} {r : St × Int32} (hX : OKX X (vM a D tI tJ tB zz) cX9_price 2 RX9 0 0) (hR : ∀ (pc : Nat) (lv : List (Nat × Value)), decode cX9_price pc = .ok (.ireturn, 1) → G X (vM a D tI tJ tB zz) 2 r.1 pc lv [.int r.2]) (h : fX9_price σ p1 = some r) : G X (vM a D tI tJ tB zz) 2 σ 0 [(0, .ref (a 0)), (1, .int p1)] [] := by
  unfold fX9_price at h
  refine g_aload_n hX 0 dX9_price_0 rfl rfl ?_
  refine gM_13 hX dX9_price_1 ?_
  refine g_iload_n hX 1 dX9_price_4 rfl rfl ?_
  refine g_aload_n hX 0 dX9_price_5 rfl rfl ?_
  refine gM_16 hX dX9_price_6 ?_
  refine g_imul hX dX9_price_9 ?_
  refine g_iadd hX dX9_price_10 ?_
  exact g_reti hR h dX9_price_11
set_option maxRecDepth 20000 in
set_option maxHeartbeats 4000000 in
theorem kX9_price (l : Launch) {a : Nat → Nat} {D : va_G} {tI tJ tB : ClassId} {zz : SV} {σ τ : St}  {p1 : Int32} {x : Int32} (h : fX9_price σ p1 = some (τ, x)) : CtI l yX9_price cX9_price 2 (some .int) 0 0 (vM a D tI tJ tB zz) σ [.ref (a 0), .int p1] τ x := g_metI (by decide) (Nat.le_of_ble_eq_true rfl) rfl (fun X _ hX hR => sX9_price (r := (τ, x)) hX hR h)
def fX9_cost (σ : St) (p1 : Int32) (p2 : Int32) : Option (St × Int32) :=
  cl (fX9_isBaker σ p1) fun (σ_1 : St) (t_2 : Int32) => (if t_2 = 0 then some (σ_1, (0 : Int32)) else cl (fX9_isIn σ_1 p2 (0 : Int32) (99 : Int32)) fun (σ_3 : St) (t_4 : Int32) => (if t_4 = 0 then some (σ_3, (0 : Int32)) else chk (inb p1 4) (bnd (sI σ_3 2 (ix p1) p2) fun (σ_5 : St) => some (σ_5, (1 : Int32)))))
set_option maxRecDepth 20000 in
set_option maxHeartbeats 4000000 in
theorem sX9_cost {X : CX} {a : Nat → Nat} {D : va_G} {tI tJ tB : ClassId} {zz : SV} {σ : St}  {p1 : Int32} {p2 : Int32} {r : St × Int32} (hX : OKX X (vM a D tI tJ tB zz) cX9_cost 3 RX9 2 43) (hR : (r.2 = 0 ∨ r.2 = 1) → ∀ (pc : Nat) (lv : List (Nat × Value)), decode cX9_cost pc = .ok (.ireturn, 1) → G X (vM a D tI tJ tB zz) 3 r.1 pc lv [.int r.2]) (h : fX9_cost σ p1 p2 = some r) : G X (vM a D tI tJ tB zz) 3 σ 0 [(0, .ref (a 0)), (1, .int p1), (2, .int p2)] [] := by
  unfold fX9_cost at h
  refine g_aload_n hX 0 dX9_cost_0 rfl rfl ?_
  refine g_iload_n hX 1 dX9_cost_1 rfl rfl ?_
  refine g_callVI (As := [.int p1]) (rest := []) hX 0 (Nat.le_of_ble_eq_true rfl) rfl rfl miX9_isBaker mvX9_isBaker lkX9_287 (by decide) rfl (Nat.le_of_ble_eq_true rfl) rfl dX9_cost_2 (fun τ x ho => kX9_isBaker _ ho) h (fun σ_1 t_2 h => ?_)
  refine g_if_eq hX 18 dX9_cost_5 (by decide) h (fun h => ?_) (fun h => ?_)
  · refine g_iconst hX (0) dX9_cost_18 (by decide) ?_
    exact g_retz hR (by decide) h dX9_cost_19
  · refine g_iload_n hX 2 dX9_cost_8 rfl rfl ?_
    refine g_iconst hX (0) dX9_cost_9 (by decide) ?_
    refine g_bipush hX (99) dX9_cost_10 (by decide) ?_
    refine g_callSI (As := [.int p2, .int (0 : Int32), .int (99 : Int32)]) (rest := []) hX miX9_isIn mvX9_isIn lkX9_156 (by decide) rfl (Nat.le_of_ble_eq_true rfl) rfl dX9_cost_12 (fun τ x ho => kX9_isIn _ ho) h (fun σ_3 t_4 h => ?_)
    refine g_if_ne hX 20 dX9_cost_15 (by decide) h (fun h => ?_) (fun h => ?_)
    · refine g_aload_n hX 0 dX9_cost_20 rfl rfl ?_
      refine gM_23 hX dX9_cost_21 ?_
      refine g_iload_n hX 1 dX9_cost_24 rfl rfl ?_
      refine g_iload_n hX 2 dX9_cost_25 rfl rfl ?_
      refine asM_2 hX dX9_cost_26 h (fun σ_5 h => ?_)
      refine g_iconst hX (1) dX9_cost_27 (by decide) ?_
      exact g_retz hR (by decide) h dX9_cost_28
    · refine g_iconst hX (0) dX9_cost_18 (by decide) ?_
      exact g_retz hR (by decide) h dX9_cost_19
set_option maxRecDepth 20000 in
set_option maxHeartbeats 4000000 in
theorem kX9_cost (l : Launch) {a : Nat → Nat} {D : va_G} {tI tJ tB : ClassId} {zz : SV} {σ τ : St}  {p1 : Int32} {p2 : Int32} {x : Int32} (h : fX9_cost σ p1 p2 = some (τ, x)) : CtI l yX9_cost cX9_cost 3 (some .boolean) 2 43 (vM a D tI tJ tB zz) σ [.ref (a 0), .int p1, .int p2] τ x := g_metZ (by decide) (Nat.le_of_ble_eq_true rfl) rfl (fun X _ hX hR => sX9_cost (r := (τ, x)) hX hR h)
def fX9_promise (σ : St) (p1 : Int32) (p2 : Int32) : Option (St × Int32) :=
  cl (fX9_isBaker σ p1) fun (σ_1 : St) (t_2 : Int32) => (if t_2 = 0 then some (σ_1, (0 : Int32)) else (jp (fun (σ_3 : St)  (t_4 : Int32) => bnd (sI σ_3 0 37 t_4) fun (σ_5 : St) => some (σ_5, (1 : Int32))) fun j36 => (if p2 = 0 then j36 σ_1 ((σ_1.1 0 37) &&& (((1 : Int32) <<< (p1 &&& 31)) ^^^ (-1 : Int32))) else j36 σ_1 ((σ_1.1 0 37) ||| ((1 : Int32) <<< (p1 &&& 31))))))
set_option maxRecDepth 20000 in
set_option maxHeartbeats 4000000 in
theorem sX9_promise {X : CX} {a : Nat → Nat} {D : va_G} {tI tJ tB : ClassId} {zz : SV} {σ : St}  {p1 : Int32} {p2 : Int32} {r : St × Int32} (hX : OKX X (vM a D tI tJ tB zz) cX9_promise 3 RX9 2 43) (hR : (r.2 = 0 ∨ r.2 = 1) → ∀ (pc : Nat) (lv : List (Nat × Value)), decode cX9_promise pc = .ok (.ireturn, 1) → G X (vM a D tI tJ tB zz) 3 r.1 pc lv [.int r.2]) (h : fX9_promise σ p1 p2 = some r) : G X (vM a D tI tJ tB zz) 3 σ 0 [(0, .ref (a 0)), (1, .int p1), (2, .int p2)] [] := by
  unfold fX9_promise at h
  refine g_aload_n hX 0 dX9_promise_0 rfl rfl ?_
  refine g_iload_n hX 1 dX9_promise_1 rfl rfl ?_
  refine g_callVI (As := [.int p1]) (rest := []) hX 0 (Nat.le_of_ble_eq_true rfl) rfl rfl miX9_isBaker mvX9_isBaker lkX9_287 (by decide) rfl (Nat.le_of_ble_eq_true rfl) rfl dX9_promise_2 (fun τ x ho => kX9_isBaker _ ho) h (fun σ_1 t_2 h => ?_)
  refine g_if_ne hX 10 dX9_promise_5 (by decide) h (fun h => ?_) (fun h => ?_)
  · refine g_aload_n hX 0 dX9_promise_10 rfl rfl ?_
    refine g_iload_n hX 2 dX9_promise_11 rfl rfl ?_
    refine jp_inv (P := fun f => ∀ (σ_3 : St)  (t_4 : Int32), f σ_3 t_4 = some r → G X (vM a D tI tJ tB zz) 3 σ_3 36 [] [.int t_4, .ref (a 0)]) h (fun σ_3 t_4 h => ?_) (fun j36 hj36 h => ?_)
    · refine pM_275 hX dX9_promise_36 h (fun σ_5 h => ?_)
      refine g_iconst hX (1) dX9_promise_39 (by decide) ?_
      exact g_retz hR (by decide) h dX9_promise_40
    refine g_if_eq hX 26 dX9_promise_12 (by decide) h (fun h => ?_) (fun h => ?_)
    · refine g_aload_n hX 0 dX9_promise_26 rfl rfl ?_
      refine gM_275 hX dX9_promise_27 ?_
      refine g_iconst hX (1) dX9_promise_30 (by decide) ?_
      refine g_iload_n hX 1 dX9_promise_31 rfl rfl ?_
      refine g_ishl hX dX9_promise_32 ?_
      refine g_iconst hX (-1) dX9_promise_33 (by decide) ?_
      refine g_ixor hX dX9_promise_34 ?_
      refine g_iand hX dX9_promise_35 ?_
      exact g_sub [] rfl (hj36 _ _ h)
    · refine g_aload_n hX 0 dX9_promise_15 rfl rfl ?_
      refine gM_275 hX dX9_promise_16 ?_
      refine g_iconst hX (1) dX9_promise_19 (by decide) ?_
      refine g_iload_n hX 1 dX9_promise_20 rfl rfl ?_
      refine g_ishl hX dX9_promise_21 ?_
      refine g_ior hX dX9_promise_22 ?_
      refine g_goto hX 36 dX9_promise_23 (by decide) ?_
      exact g_sub [] rfl (hj36 _ _ h)
  · refine g_iconst hX (0) dX9_promise_8 (by decide) ?_
    exact g_retz hR (by decide) h dX9_promise_9
set_option maxRecDepth 20000 in
set_option maxHeartbeats 4000000 in
theorem kX9_promise (l : Launch) {a : Nat → Nat} {D : va_G} {tI tJ tB : ClassId} {zz : SV} {σ τ : St}  {p1 : Int32} {p2 : Int32} {x : Int32} (h : fX9_promise σ p1 p2 = some (τ, x)) : CtI l yX9_promise cX9_promise 3 (some .boolean) 2 43 (vM a D tI tJ tB zz) σ [.ref (a 0), .int p1, .int p2] τ x := g_metZ (by decide) (Nat.le_of_ble_eq_true rfl) rfl (fun X _ hX hR => sX9_promise (r := (τ, x)) hX hR h)
def fX9_sure (σ : St) (p1 : Int32) (p2 : Int32) : Option (St × Int32) :=
  cl (fX9_isBaker σ p1) fun (σ_1 : St) (t_2 : Int32) => (if t_2 = 0 then some (σ_1, (0 : Int32)) else cl (fX9_isStep σ_1 p2) fun (σ_3 : St) (t_4 : Int32) => (if t_4 = 0 then some (σ_3, (0 : Int32)) else chk (inb p1 4) (bnd (sI σ_3 15 (ix p1) (1 : Int32)) fun (σ_5 : St) => chk (inb p1 4) (bnd (sI σ_5 16 (ix p1) p2) fun (σ_6 : St) => some (σ_6, (1 : Int32))))))
set_option maxRecDepth 20000 in
set_option maxHeartbeats 4000000 in
theorem sX9_sure {X : CX} {a : Nat → Nat} {D : va_G} {tI tJ tB : ClassId} {zz : SV} {σ : St}  {p1 : Int32} {p2 : Int32} {r : St × Int32} (hX : OKX X (vM a D tI tJ tB zz) cX9_sure 3 RX9 2 43) (hR : (r.2 = 0 ∨ r.2 = 1) → ∀ (pc : Nat) (lv : List (Nat × Value)), decode cX9_sure pc = .ok (.ireturn, 1) → G X (vM a D tI tJ tB zz) 3 r.1 pc lv [.int r.2]) (h : fX9_sure σ p1 p2 = some r) : G X (vM a D tI tJ tB zz) 3 σ 0 [(0, .ref (a 0)), (1, .int p1), (2, .int p2)] [] := by
  unfold fX9_sure at h
  refine g_aload_n hX 0 dX9_sure_0 rfl rfl ?_
  refine g_iload_n hX 1 dX9_sure_1 rfl rfl ?_
  refine g_callVI (As := [.int p1]) (rest := []) hX 0 (Nat.le_of_ble_eq_true rfl) rfl rfl miX9_isBaker mvX9_isBaker lkX9_287 (by decide) rfl (Nat.le_of_ble_eq_true rfl) rfl dX9_sure_2 (fun τ x ho => kX9_isBaker _ ho) h (fun σ_1 t_2 h => ?_)
  refine g_if_eq hX 16 dX9_sure_5 (by decide) h (fun h => ?_) (fun h => ?_)
  · refine g_iconst hX (0) dX9_sure_16 (by decide) ?_
    exact g_retz hR (by decide) h dX9_sure_17
  · refine g_aload_n hX 0 dX9_sure_8 rfl rfl ?_
    refine g_iload_n hX 2 dX9_sure_9 rfl rfl ?_
    refine g_callVI (As := [.int p2]) (rest := []) hX 0 (Nat.le_of_ble_eq_true rfl) rfl rfl miX9_isStep mvX9_isStep lkX9_290 (by decide) rfl (Nat.le_of_ble_eq_true rfl) rfl dX9_sure_10 (fun τ x ho => kX9_isStep _ ho) h (fun σ_3 t_4 h => ?_)
    refine g_if_ne hX 18 dX9_sure_13 (by decide) h (fun h => ?_) (fun h => ?_)
    · refine g_aload_n hX 0 dX9_sure_18 rfl rfl ?_
      refine gM_70 hX dX9_sure_19 ?_
      refine g_iload_n hX 1 dX9_sure_22 rfl rfl ?_
      refine g_iconst hX (1) dX9_sure_23 (by decide) ?_
      refine asM_15 hX dX9_sure_24 h (fun σ_5 h => ?_)
      refine g_aload_n hX 0 dX9_sure_25 rfl rfl ?_
      refine gM_73 hX dX9_sure_26 ?_
      refine g_iload_n hX 1 dX9_sure_29 rfl rfl ?_
      refine g_iload_n hX 2 dX9_sure_30 rfl rfl ?_
      refine asM_16 hX dX9_sure_31 h (fun σ_6 h => ?_)
      refine g_iconst hX (1) dX9_sure_32 (by decide) ?_
      exact g_retz hR (by decide) h dX9_sure_33
    · refine g_iconst hX (0) dX9_sure_16 (by decide) ?_
      exact g_retz hR (by decide) h dX9_sure_17
set_option maxRecDepth 20000 in
set_option maxHeartbeats 4000000 in
theorem kX9_sure (l : Launch) {a : Nat → Nat} {D : va_G} {tI tJ tB : ClassId} {zz : SV} {σ τ : St}  {p1 : Int32} {p2 : Int32} {x : Int32} (h : fX9_sure σ p1 p2 = some (τ, x)) : CtI l yX9_sure cX9_sure 3 (some .boolean) 2 43 (vM a D tI tJ tB zz) σ [.ref (a 0), .int p1, .int p2] τ x := g_metZ (by decide) (Nat.le_of_ble_eq_true rfl) rfl (fun X _ hX hR => sX9_sure (r := (τ, x)) hX hR h)
def fX9_lot_L33 (q1_33 : Int32) (q2_33 : Int32) (q3_33 : Int32) (kx33 : St → Int32 → Option (St × Int32)) : Nat → St → Int32 → Option (St × Int32)
  | 0, _, _ => none
  | n33 + 1, σ, c4_33 =>
    (if (8 : Int32) ≤ c4_33 then kx33 σ c4_33 else chk (inb q1_33 4) ((if (σ.1 15 (ix q1_33)) = (2 : Int32) then kx33 σ c4_33 else chk (inb (((8 : Int32) * q1_33) + c4_33) 32) (bnd (sI σ 17 (ix (((8 : Int32) * q1_33) + c4_33)) (0 : Int32)) fun (σ_8 : St) => bnd (c4_33 + (1 : Int32)) fun (x4_9 : Int32) => fX9_lot_L33 q1_33 q2_33 q3_33 kx33 n33 σ_8 x4_9))))
def fX9_lot (σ : St) (p1 : Int32) (p2 : Int32) (p3 : Int32) : Option (St × Int32) :=
  cl (fX9_isBaker σ p1) fun (σ_1 : St) (t_2 : Int32) => (if t_2 = 0 then some (σ_1, (0 : Int32)) else cl (fX9_isIn σ_1 p2 (0 : Int32) (7 : Int32)) fun (σ_3 : St) (t_4 : Int32) => (if t_4 = 0 then some (σ_3, (0 : Int32)) else cl (fX9_isIn σ_3 p3 (0 : Int32) (100 : Int32)) fun (σ_5 : St) (t_6 : Int32) => (if t_6 = 0 then some (σ_5, (0 : Int32)) else bnd (0 : Int32) fun (x4_7 : Int32) => fX9_lot_L33 p1 p2 p3 (fun (σ_10 : St) (x4_11 : Int32) => chk (inb p1 4) (bnd (sI σ_10 15 (ix p1) (2 : Int32)) fun (σ_12 : St) => chk (inb (((8 : Int32) * p1) + p2) 32) (bnd (sI σ_12 17 (ix (((8 : Int32) * p1) + p2)) p3) fun (σ_13 : St) => some (σ_13, (1 : Int32))))) FU σ_5 x4_7)))
set_option maxRecDepth 20000 in
set_option maxHeartbeats 4000000 in
theorem sX9_lot_L33 {X : CX} {a : Nat → Nat} {D : va_G} {tI tJ tB : ClassId} {zz : SV} {q1_33 : Int32} {q2_33 : Int32} {q3_33 : Int32} {kx33 : St → Int32 → Option (St × Int32)} {r : St × Int32} (hX : OKX X (vM a D tI tJ tB zz) cX9_lot 5 RX9 2 43) (hR : (r.2 = 0 ∨ r.2 = 1) → ∀ (pc : Nat) (lv : List (Nat × Value)), decode cX9_lot pc = .ok (.ireturn, 1) → G X (vM a D tI tJ tB zz) 5 r.1 pc lv [.int r.2]) (hkx33 : ∀ (σ : St) (e4_33 : Int32), kx33 σ e4_33 = some r → G X (vM a D tI tJ tB zz) 5 σ 69 [(0, .ref (a 0)), (1, .int q1_33), (2, .int q2_33), (3, .int q3_33)] []) : ∀ (n : Nat) (σ : St) (c4_33 : Int32), fX9_lot_L33 q1_33 q2_33 q3_33 kx33 n σ c4_33 = some r → G X (vM a D tI tJ tB zz) 5 σ 33 [(0, .ref (a 0)), (1, .int q1_33), (2, .int q2_33), (3, .int q3_33), (4, .int c4_33)] [] := by
  intro n
  induction n with
  | zero => intro σ c4_33 h; rw [fX9_lot_L33] at h; exact absurd h (by simp)
  | succ n33 ih33 =>
    intro σ c4_33 h
    rw [fX9_lot_L33] at h
    refine g_iload hX 4 dX9_lot_33 rfl ?_
    refine g_bipush hX (8) dX9_lot_35 (by decide) ?_
    refine g_icmp_ge hX 69 dX9_lot_37 (by decide) h (fun h => ?_) (fun h => ?_)
    · exact g_sub [0, 1, 2, 3] rfl (hkx33 _ _ h)
    · refine g_aload_n hX 0 dX9_lot_40 rfl rfl ?_
      refine gM_70 hX dX9_lot_41 ?_
      refine g_iload_n hX 1 dX9_lot_44 rfl rfl ?_
      refine alM_15 hX dX9_lot_45 h (fun h => ?_)
      refine g_iconst hX (2) dX9_lot_46 (by decide) ?_
      refine g_icmp_eq hX 69 dX9_lot_47 (by decide) h (fun h => ?_) (fun h => ?_)
      · exact g_sub [0, 1, 2, 3] rfl (hkx33 _ _ h)
      · refine g_aload_n hX 0 dX9_lot_50 rfl rfl ?_
        refine gM_76 hX dX9_lot_51 ?_
        refine g_bipush hX (8) dX9_lot_54 (by decide) ?_
        refine g_iload_n hX 1 dX9_lot_56 rfl rfl ?_
        refine g_imul hX dX9_lot_57 ?_
        refine g_iload hX 4 dX9_lot_58 rfl ?_
        refine g_iadd hX dX9_lot_60 ?_
        refine g_iconst hX (0) dX9_lot_61 (by decide) ?_
        refine asM_17 hX dX9_lot_62 h (fun σ_8 h => ?_)
        refine g_iinc (y := (1)) (lv' := fun x4_9 => [(4, .int x4_9), (0, .ref (a 0)), (1, .int q1_33), (2, .int q2_33), (3, .int q3_33)]) hX 4 dX9_lot_63 rfl (by decide) (by decide) (fun _ => rfl) h (fun x4_9 h => ?_)
        refine g_goto hX 33 dX9_lot_66 (by decide) ?_
        exact g_sub [1, 2, 3, 4, 0] rfl (ih33 _ _ h)
set_option maxRecDepth 20000 in
set_option maxHeartbeats 4000000 in
theorem sX9_lot {X : CX} {a : Nat → Nat} {D : va_G} {tI tJ tB : ClassId} {zz : SV} {σ : St}  {p1 : Int32} {p2 : Int32} {p3 : Int32} {r : St × Int32} (hX : OKX X (vM a D tI tJ tB zz) cX9_lot 5 RX9 2 43) (hR : (r.2 = 0 ∨ r.2 = 1) → ∀ (pc : Nat) (lv : List (Nat × Value)), decode cX9_lot pc = .ok (.ireturn, 1) → G X (vM a D tI tJ tB zz) 5 r.1 pc lv [.int r.2]) (h : fX9_lot σ p1 p2 p3 = some r) : G X (vM a D tI tJ tB zz) 5 σ 0 [(0, .ref (a 0)), (1, .int p1), (2, .int p2), (3, .int p3)] [] := by
  unfold fX9_lot at h
  refine g_aload_n hX 0 dX9_lot_0 rfl rfl ?_
  refine g_iload_n hX 1 dX9_lot_1 rfl rfl ?_
  refine g_callVI (As := [.int p1]) (rest := []) hX 0 (Nat.le_of_ble_eq_true rfl) rfl rfl miX9_isBaker mvX9_isBaker lkX9_287 (by decide) rfl (Nat.le_of_ble_eq_true rfl) rfl dX9_lot_2 (fun τ x ho => kX9_isBaker _ ho) h (fun σ_1 t_2 h => ?_)
  refine g_if_eq hX 28 dX9_lot_5 (by decide) h (fun h => ?_) (fun h => ?_)
  · refine g_iconst hX (0) dX9_lot_28 (by decide) ?_
    exact g_retz hR (by decide) h dX9_lot_29
  · refine g_iload_n hX 2 dX9_lot_8 rfl rfl ?_
    refine g_iconst hX (0) dX9_lot_9 (by decide) ?_
    refine g_bipush hX (7) dX9_lot_10 (by decide) ?_
    refine g_callSI (As := [.int p2, .int (0 : Int32), .int (7 : Int32)]) (rest := []) hX miX9_isIn mvX9_isIn lkX9_156 (by decide) rfl (Nat.le_of_ble_eq_true rfl) rfl dX9_lot_12 (fun τ x ho => kX9_isIn _ ho) h (fun σ_3 t_4 h => ?_)
    refine g_if_eq hX 28 dX9_lot_15 (by decide) h (fun h => ?_) (fun h => ?_)
    · refine g_iconst hX (0) dX9_lot_28 (by decide) ?_
      exact g_retz hR (by decide) h dX9_lot_29
    · refine g_iload_n hX 3 dX9_lot_18 rfl rfl ?_
      refine g_iconst hX (0) dX9_lot_19 (by decide) ?_
      refine g_bipush hX (100) dX9_lot_20 (by decide) ?_
      refine g_callSI (As := [.int p3, .int (0 : Int32), .int (100 : Int32)]) (rest := []) hX miX9_isIn mvX9_isIn lkX9_156 (by decide) rfl (Nat.le_of_ble_eq_true rfl) rfl dX9_lot_22 (fun τ x ho => kX9_isIn _ ho) h (fun σ_5 t_6 h => ?_)
      refine g_if_ne hX 30 dX9_lot_25 (by decide) h (fun h => ?_) (fun h => ?_)
      · refine g_iconst hX (0) dX9_lot_30 (by decide) ?_
        refine g_istore (lv' := fun x4_7 => [(4, .int x4_7), (0, .ref (a 0)), (1, .int p1), (2, .int p2), (3, .int p3)]) hX dX9_lot_31 (by decide) (fun _ => rfl) h (fun x4_7 h => ?_)
        refine g_sub [1, 2, 3, 4, 0] rfl (sX9_lot_L33 hX hR (fun σ_10 x4_11 h => ?_) FU _ _ h)
        refine g_aload_n hX 0 dX9_lot_69 rfl rfl ?_
        refine gM_70 hX dX9_lot_70 ?_
        refine g_iload_n hX 1 dX9_lot_73 rfl rfl ?_
        refine g_iconst hX (2) dX9_lot_74 (by decide) ?_
        refine asM_15 hX dX9_lot_75 h (fun σ_12 h => ?_)
        refine g_aload_n hX 0 dX9_lot_76 rfl rfl ?_
        refine gM_76 hX dX9_lot_77 ?_
        refine g_bipush hX (8) dX9_lot_80 (by decide) ?_
        refine g_iload_n hX 1 dX9_lot_82 rfl rfl ?_
        refine g_imul hX dX9_lot_83 ?_
        refine g_iload_n hX 2 dX9_lot_84 rfl rfl ?_
        refine g_iadd hX dX9_lot_85 ?_
        refine g_iload_n hX 3 dX9_lot_86 rfl rfl ?_
        refine asM_17 hX dX9_lot_87 h (fun σ_13 h => ?_)
        refine g_iconst hX (1) dX9_lot_88 (by decide) ?_
        exact g_retz hR (by decide) h dX9_lot_89
      · refine g_iconst hX (0) dX9_lot_28 (by decide) ?_
        exact g_retz hR (by decide) h dX9_lot_29
set_option maxRecDepth 20000 in
set_option maxHeartbeats 4000000 in
theorem kX9_lot (l : Launch) {a : Nat → Nat} {D : va_G} {tI tJ tB : ClassId} {zz : SV} {σ τ : St}  {p1 : Int32} {p2 : Int32} {p3 : Int32} {x : Int32} (h : fX9_lot σ p1 p2 p3 = some (τ, x)) : CtI l yX9_lot cX9_lot 5 (some .boolean) 2 43 (vM a D tI tJ tB zz) σ [.ref (a 0), .int p1, .int p2, .int p3] τ x := g_metZ (by decide) (Nat.le_of_ble_eq_true rfl) rfl (fun X _ hX hR => sX9_lot (r := (τ, x)) hX hR h)
def fX9_answer (σ : St) (p1 : Int32) : Option (St × Int32) :=
  cl (fX9_isBaker σ p1) fun (σ_1 : St) (t_2 : Int32) => (if t_2 = 0 then some (σ_1, (0 : Int32)) else chk (inb p1 4) (bnd (sI σ_1 15 (ix p1) (3 : Int32)) fun (σ_3 : St) => some (σ_3, (1 : Int32))))
set_option maxRecDepth 20000 in
set_option maxHeartbeats 4000000 in
theorem sX9_answer {X : CX} {a : Nat → Nat} {D : va_G} {tI tJ tB : ClassId} {zz : SV} {σ : St}  {p1 : Int32} {r : St × Int32} (hX : OKX X (vM a D tI tJ tB zz) cX9_answer 2 RX9 2 43) (hR : (r.2 = 0 ∨ r.2 = 1) → ∀ (pc : Nat) (lv : List (Nat × Value)), decode cX9_answer pc = .ok (.ireturn, 1) → G X (vM a D tI tJ tB zz) 2 r.1 pc lv [.int r.2]) (h : fX9_answer σ p1 = some r) : G X (vM a D tI tJ tB zz) 2 σ 0 [(0, .ref (a 0)), (1, .int p1)] [] := by
  unfold fX9_answer at h
  refine g_aload_n hX 0 dX9_answer_0 rfl rfl ?_
  refine g_iload_n hX 1 dX9_answer_1 rfl rfl ?_
  refine g_callVI (As := [.int p1]) (rest := []) hX 0 (Nat.le_of_ble_eq_true rfl) rfl rfl miX9_isBaker mvX9_isBaker lkX9_287 (by decide) rfl (Nat.le_of_ble_eq_true rfl) rfl dX9_answer_2 (fun τ x ho => kX9_isBaker _ ho) h (fun σ_1 t_2 h => ?_)
  refine g_if_ne hX 10 dX9_answer_5 (by decide) h (fun h => ?_) (fun h => ?_)
  · refine g_aload_n hX 0 dX9_answer_10 rfl rfl ?_
    refine gM_70 hX dX9_answer_11 ?_
    refine g_iload_n hX 1 dX9_answer_14 rfl rfl ?_
    refine g_iconst hX (3) dX9_answer_15 (by decide) ?_
    refine asM_15 hX dX9_answer_16 h (fun σ_3 h => ?_)
    refine g_iconst hX (1) dX9_answer_17 (by decide) ?_
    exact g_retz hR (by decide) h dX9_answer_18
  · refine g_iconst hX (0) dX9_answer_8 (by decide) ?_
    exact g_retz hR (by decide) h dX9_answer_9
set_option maxRecDepth 20000 in
set_option maxHeartbeats 4000000 in
theorem kX9_answer (l : Launch) {a : Nat → Nat} {D : va_G} {tI tJ tB : ClassId} {zz : SV} {σ τ : St}  {p1 : Int32} {x : Int32} (h : fX9_answer σ p1 = some (τ, x)) : CtI l yX9_answer cX9_answer 2 (some .boolean) 2 43 (vM a D tI tJ tB zz) σ [.ref (a 0), .int p1] τ x := g_metZ (by decide) (Nat.le_of_ble_eq_true rfl) rfl (fun X _ hX hR => sX9_answer (r := (τ, x)) hX hR h)
def fX9_ask (σ : St) (p1 : Int32) : Option (St × Int32) :=
  cl (fX9_isBaker σ p1) fun (σ_1 : St) (t_2 : Int32) => (if t_2 = 0 then some (σ_1, (-1 : Int32)) else chk (inb p1 4) (some (σ_1, (σ_1.1 15 (ix p1)))))
set_option maxRecDepth 20000 in
set_option maxHeartbeats 4000000 in
theorem sX9_ask {X : CX} {a : Nat → Nat} {D : va_G} {tI tJ tB : ClassId} {zz : SV} {σ : St}  {p1 : Int32} {r : St × Int32} (hX : OKX X (vM a D tI tJ tB zz) cX9_ask 2 RX9 2 43) (hR : ∀ (pc : Nat) (lv : List (Nat × Value)), decode cX9_ask pc = .ok (.ireturn, 1) → G X (vM a D tI tJ tB zz) 2 r.1 pc lv [.int r.2]) (h : fX9_ask σ p1 = some r) : G X (vM a D tI tJ tB zz) 2 σ 0 [(0, .ref (a 0)), (1, .int p1)] [] := by
  unfold fX9_ask at h
  refine g_aload_n hX 0 dX9_ask_0 rfl rfl ?_
  refine g_iload_n hX 1 dX9_ask_1 rfl rfl ?_
  refine g_callVI (As := [.int p1]) (rest := []) hX 0 (Nat.le_of_ble_eq_true rfl) rfl rfl miX9_isBaker mvX9_isBaker lkX9_287 (by decide) rfl (Nat.le_of_ble_eq_true rfl) rfl dX9_ask_2 (fun τ x ho => kX9_isBaker _ ho) h (fun σ_1 t_2 h => ?_)
  refine g_if_eq hX 17 dX9_ask_5 (by decide) h (fun h => ?_) (fun h => ?_)
  · refine g_iconst hX (-1) dX9_ask_17 (by decide) ?_
    exact g_reti hR h dX9_ask_18
  · refine g_aload_n hX 0 dX9_ask_8 rfl rfl ?_
    refine gM_70 hX dX9_ask_9 ?_
    refine g_iload_n hX 1 dX9_ask_12 rfl rfl ?_
    refine alM_15 hX dX9_ask_13 h (fun h => ?_)
    refine g_goto hX 18 dX9_ask_14 (by decide) ?_
    exact g_reti hR h dX9_ask_18
set_option maxRecDepth 20000 in
set_option maxHeartbeats 4000000 in
theorem kX9_ask (l : Launch) {a : Nat → Nat} {D : va_G} {tI tJ tB : ClassId} {zz : SV} {σ τ : St}  {p1 : Int32} {x : Int32} (h : fX9_ask σ p1 = some (τ, x)) : CtI l yX9_ask cX9_ask 2 (some .int) 2 43 (vM a D tI tJ tB zz) σ [.ref (a 0), .int p1] τ x := g_metI (by decide) (Nat.le_of_ble_eq_true rfl) rfl (fun X _ hX hR => sX9_ask (r := (τ, x)) hX hR h)
def fX9_law (σ : St) (p1 : Int32) (p2 : Int32) : Option (St × Int32) :=
  cl (fX9_isIn σ p1 (0 : Int32) (2 : Int32)) fun (σ_1 : St) (t_2 : Int32) => (if t_2 = 0 then some (σ_1, (-1 : Int32)) else cl (fX9_isIn σ_1 p2 (0 : Int32) (7 : Int32)) fun (σ_3 : St) (t_4 : Int32) => (if t_4 = 0 then some (σ_3, (-1 : Int32)) else (if (σ_3.1 0 38) = (6 : Int32) then some (σ_3, (-1 : Int32)) else chk (inb (σ_3.1 0 38) 6) (bnd (sI σ_3 19 (ix (σ_3.1 0 38)) p1) fun (σ_5 : St) => chk (inb (σ_5.1 0 38) 6) (bnd (sI σ_5 20 (ix (σ_5.1 0 38)) p2) fun (σ_6 : St) => bnd (sI σ_6 0 38 ((σ_6.1 0 38) + (1 : Int32))) fun (σ_7 : St) => some (σ_7, ((σ_7.1 0 38) - (1 : Int32))))))))
set_option maxRecDepth 20000 in
set_option maxHeartbeats 4000000 in
theorem sX9_law {X : CX} {a : Nat → Nat} {D : va_G} {tI tJ tB : ClassId} {zz : SV} {σ : St}  {p1 : Int32} {p2 : Int32} {r : St × Int32} (hX : OKX X (vM a D tI tJ tB zz) cX9_law 3 RX9 1 22) (hR : ∀ (pc : Nat) (lv : List (Nat × Value)), decode cX9_law pc = .ok (.ireturn, 1) → G X (vM a D tI tJ tB zz) 3 r.1 pc lv [.int r.2]) (h : fX9_law σ p1 p2 = some r) : G X (vM a D tI tJ tB zz) 3 σ 0 [(0, .ref (a 0)), (1, .int p1), (2, .int p2)] [] := by
  unfold fX9_law at h
  refine g_iload_n hX 1 dX9_law_0 rfl rfl ?_
  refine g_iconst hX (0) dX9_law_1 (by decide) ?_
  refine g_iconst hX (2) dX9_law_2 (by decide) ?_
  refine g_callSI (As := [.int p1, .int (0 : Int32), .int (2 : Int32)]) (rest := []) hX miX9_isIn mvX9_isIn lkX9_156 (by decide) rfl (Nat.le_of_ble_eq_true rfl) rfl dX9_law_3 (fun τ x ho => kX9_isIn _ ho) h (fun σ_1 t_2 h => ?_)
  refine g_if_eq hX 28 dX9_law_6 (by decide) h (fun h => ?_) (fun h => ?_)
  · refine g_iconst hX (-1) dX9_law_28 (by decide) ?_
    exact g_reti hR h dX9_law_29
  · refine g_iload_n hX 2 dX9_law_9 rfl rfl ?_
    refine g_iconst hX (0) dX9_law_10 (by decide) ?_
    refine g_bipush hX (7) dX9_law_11 (by decide) ?_
    refine g_callSI (As := [.int p2, .int (0 : Int32), .int (7 : Int32)]) (rest := []) hX miX9_isIn mvX9_isIn lkX9_156 (by decide) rfl (Nat.le_of_ble_eq_true rfl) rfl dX9_law_13 (fun τ x ho => kX9_isIn _ ho) h (fun σ_3 t_4 h => ?_)
    refine g_if_eq hX 28 dX9_law_16 (by decide) h (fun h => ?_) (fun h => ?_)
    · refine g_iconst hX (-1) dX9_law_28 (by decide) ?_
      exact g_reti hR h dX9_law_29
    · refine g_aload_n hX 0 dX9_law_19 rfl rfl ?_
      refine gM_278 hX dX9_law_20 ?_
      refine g_bipush hX (6) dX9_law_23 (by decide) ?_
      refine g_icmp_ne hX 30 dX9_law_25 (by decide) h (fun h => ?_) (fun h => ?_)
      · refine g_aload_n hX 0 dX9_law_30 rfl rfl ?_
        refine gM_82 hX dX9_law_31 ?_
        refine g_aload_n hX 0 dX9_law_34 rfl rfl ?_
        refine gM_278 hX dX9_law_35 ?_
        refine g_iload_n hX 1 dX9_law_38 rfl rfl ?_
        refine asM_19 hX dX9_law_39 h (fun σ_5 h => ?_)
        refine g_aload_n hX 0 dX9_law_40 rfl rfl ?_
        refine gM_85 hX dX9_law_41 ?_
        refine g_aload_n hX 0 dX9_law_44 rfl rfl ?_
        refine gM_278 hX dX9_law_45 ?_
        refine g_iload_n hX 2 dX9_law_48 rfl rfl ?_
        refine asM_20 hX dX9_law_49 h (fun σ_6 h => ?_)
        refine g_aload_n hX 0 dX9_law_50 rfl rfl ?_
        refine g_dup hX dX9_law_51 rfl ?_
        refine gM_278 hX dX9_law_52 ?_
        refine g_iconst hX (1) dX9_law_55 (by decide) ?_
        refine g_iadd hX dX9_law_56 ?_
        refine pM_278 hX dX9_law_57 h (fun σ_7 h => ?_)
        refine g_aload_n hX 0 dX9_law_60 rfl rfl ?_
        refine gM_278 hX dX9_law_61 ?_
        refine g_iconst hX (1) dX9_law_64 (by decide) ?_
        refine g_isub hX dX9_law_65 ?_
        exact g_reti hR h dX9_law_66
      · refine g_iconst hX (-1) dX9_law_28 (by decide) ?_
        exact g_reti hR h dX9_law_29
set_option maxRecDepth 20000 in
set_option maxHeartbeats 4000000 in
theorem kX9_law (l : Launch) {a : Nat → Nat} {D : va_G} {tI tJ tB : ClassId} {zz : SV} {σ τ : St}  {p1 : Int32} {p2 : Int32} {x : Int32} (h : fX9_law σ p1 p2 = some (τ, x)) : CtI l yX9_law cX9_law 3 (some .int) 1 22 (vM a D tI tJ tB zz) σ [.ref (a 0), .int p1, .int p2] τ x := g_metI (by decide) (Nat.le_of_ble_eq_true rfl) rfl (fun X _ hX hR => sX9_law (r := (τ, x)) hX hR h)
def fX9_force (σ : St) (p1 : Int32) : Option (St × Int32) :=
  cl (fX9_isIn σ p1 (-1 : Int32) ((σ.1 0 38) - (1 : Int32))) fun (σ_1 : St) (t_2 : Int32) => (if t_2 = 0 then some (σ_1, (0 : Int32)) else bnd (sI σ_1 0 39 p1) fun (σ_3 : St) => some (σ_3, (1 : Int32)))
set_option maxRecDepth 20000 in
set_option maxHeartbeats 4000000 in
theorem sX9_force {X : CX} {a : Nat → Nat} {D : va_G} {tI tJ tB : ClassId} {zz : SV} {σ : St}  {p1 : Int32} {r : St × Int32} (hX : OKX X (vM a D tI tJ tB zz) cX9_force 2 RX9 1 22) (hR : (r.2 = 0 ∨ r.2 = 1) → ∀ (pc : Nat) (lv : List (Nat × Value)), decode cX9_force pc = .ok (.ireturn, 1) → G X (vM a D tI tJ tB zz) 2 r.1 pc lv [.int r.2]) (h : fX9_force σ p1 = some r) : G X (vM a D tI tJ tB zz) 2 σ 0 [(0, .ref (a 0)), (1, .int p1)] [] := by
  unfold fX9_force at h
  refine g_iload_n hX 1 dX9_force_0 rfl rfl ?_
  refine g_iconst hX (-1) dX9_force_1 (by decide) ?_
  refine g_aload_n hX 0 dX9_force_2 rfl rfl ?_
  refine gM_278 hX dX9_force_3 ?_
  refine g_iconst hX (1) dX9_force_6 (by decide) ?_
  refine g_isub hX dX9_force_7 ?_
  refine g_callSI (As := [.int p1, .int (-1 : Int32), .int ((σ.1 0 38) - (1 : Int32))]) (rest := []) hX miX9_isIn mvX9_isIn lkX9_156 (by decide) rfl (Nat.le_of_ble_eq_true rfl) rfl dX9_force_8 (fun τ x ho => kX9_isIn _ ho) h (fun σ_1 t_2 h => ?_)
  refine g_if_ne hX 16 dX9_force_11 (by decide) h (fun h => ?_) (fun h => ?_)
  · refine g_aload_n hX 0 dX9_force_16 rfl rfl ?_
    refine g_iload_n hX 1 dX9_force_17 rfl rfl ?_
    refine pM_67 hX dX9_force_18 h (fun σ_3 h => ?_)
    refine g_iconst hX (1) dX9_force_21 (by decide) ?_
    exact g_retz hR (by decide) h dX9_force_22
  · refine g_iconst hX (0) dX9_force_14 (by decide) ?_
    exact g_retz hR (by decide) h dX9_force_15
set_option maxRecDepth 20000 in
set_option maxHeartbeats 4000000 in
theorem kX9_force (l : Launch) {a : Nat → Nat} {D : va_G} {tI tJ tB : ClassId} {zz : SV} {σ τ : St}  {p1 : Int32} {x : Int32} (h : fX9_force σ p1 = some (τ, x)) : CtI l yX9_force cX9_force 2 (some .boolean) 1 22 (vM a D tI tJ tB zz) σ [.ref (a 0), .int p1] τ x := g_metZ (by decide) (Nat.le_of_ble_eq_true rfl) rfl (fun X _ hX hR => sX9_force (r := (τ, x)) hX hR h)
