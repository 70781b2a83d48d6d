def fX9_isBarred (σ : St) (p1 : Int32) : Option (St × Int32) :=
  (if (σ.1 0 39) = (-1 : Int32) then some (σ, (0 : Int32)) else chk (inb (σ.1 0 39) 6) ((jp (fun (σ_1 : St)   => some (σ_1, (1 : Int32))) fun j59 => jp (fun (σ_2 : St)   => chk (inb (σ_2.1 0 39) 6) ((if (σ_2.1 19 (ix (σ_2.1 0 39))) = (1 : Int32) then chk (inb (σ_2.1 0 39) 6) ((if (σ_2.1 20 (ix (σ_2.1 0 39))) ≤ p1 then some (σ_2, (0 : Int32)) else j59 σ_2)) else some (σ_2, (0 : Int32))))) fun j33 => (if (σ.1 19 (ix (σ.1 0 39))) = 0 then chk (inb (σ.1 0 39) 6) ((if (σ.1 20 (ix (σ.1 0 39))) < p1 then j59 σ else j33 σ)) else j33 σ))))
set_option maxRecDepth 20000 in
set_option maxHeartbeats 4000000 in
theorem sX9_isBarred {X : CX} {a : Nat → Nat} {D : va_G} {tI tJ tB : ClassId} {zz : SV} {σ : St}  {p1 : Int32} {r : St × Int32} (hX : OKX X (vM a D tI tJ tB zz) cX9_isBarred 2 RX9 0 0) (hR : (r.2 = 0 ∨ r.2 = 1) → ∀ (pc : Nat) (lv : List (Nat × Value)), decode cX9_isBarred pc = .ok (.ireturn, 1) → G X (vM a D tI tJ tB zz) 2 r.1 pc lv [.int r.2]) (h : fX9_isBarred σ p1 = some r) : G X (vM a D tI tJ tB zz) 2 σ 0 [(0, .ref (a 0)), (1, .int p1)] [] := by
  unfold fX9_isBarred at h
  refine g_aload_n hX 0 dX9_isBarred_0 rfl rfl ?_
  refine gM_67 hX dX9_isBarred_1 ?_
  refine g_iconst hX (-1) dX9_isBarred_4 (by decide) ?_
  refine g_icmp_eq hX 63 dX9_isBarred_5 (by decide) h (fun h => ?_) (fun h => ?_)
  · refine g_iconst hX (0) dX9_isBarred_63 (by decide) ?_
    exact g_retz hR (by decide) h dX9_isBarred_64
  · refine g_aload_n hX 0 dX9_isBarred_8 rfl rfl ?_
    refine gM_82 hX dX9_isBarred_9 ?_
    refine g_aload_n hX 0 dX9_isBarred_12 rfl rfl ?_
    refine gM_67 hX dX9_isBarred_13 ?_
    refine alM_19 hX dX9_isBarred_16 h (fun h => ?_)
    refine jp_inv (P := fun f => ∀ (σ_1 : St)  , f σ_1 = some r → G X (vM a D tI tJ tB zz) 2 σ_1 59 [] []) h (fun σ_1 h => ?_) (fun j59 hj59 h => ?_)
    · refine g_iconst hX (1) dX9_isBarred_59 (by decide) ?_
      refine g_goto hX 64 dX9_isBarred_60 (by decide) ?_
      exact g_retz hR (by decide) h dX9_isBarred_64
    refine jp_inv (P := fun f => ∀ (σ_2 : St)  , f σ_2 = some r → G X (vM a D tI tJ tB zz) 2 σ_2 33 [(0, .ref (a 0)), (1, .int p1)] []) h (fun σ_2 h => ?_) (fun j33 hj33 h => ?_)
    · refine g_aload_n hX 0 dX9_isBarred_33 rfl rfl ?_
      refine gM_82 hX dX9_isBarred_34 ?_
      refine g_aload_n hX 0 dX9_isBarred_37 rfl rfl ?_
      refine gM_67 hX dX9_isBarred_38 ?_
      refine alM_19 hX dX9_isBarred_41 h (fun h => ?_)
      refine g_iconst hX (1) dX9_isBarred_42 (by decide) ?_
      refine g_icmp_ne hX 63 dX9_isBarred_43 (by decide) h (fun h => ?_) (fun h => ?_)
      · refine g_iconst hX (0) dX9_isBarred_63 (by decide) ?_
        exact g_retz hR (by decide) h dX9_isBarred_64
      · refine g_iload_n hX 1 dX9_isBarred_46 rfl rfl ?_
        refine g_aload_n hX 0 dX9_isBarred_47 rfl rfl ?_
        refine gM_85 hX dX9_isBarred_48 ?_
        refine g_aload_n hX 0 dX9_isBarred_51 rfl rfl ?_
        refine gM_67 hX dX9_isBarred_52 ?_
        refine alM_20 hX dX9_isBarred_55 h (fun h => ?_)
        refine g_icmp_ge hX 63 dX9_isBarred_56 (by decide) h (fun h => ?_) (fun h => ?_)
        · refine g_iconst hX (0) dX9_isBarred_63 (by decide) ?_
          exact g_retz hR (by decide) h dX9_isBarred_64
        · exact g_sub [] rfl (hj59 _ h)
    refine g_if_ne hX 33 dX9_isBarred_17 (by decide) h (fun h => ?_) (fun h => ?_)
    · exact g_sub [0, 1] rfl (hj33 _ h)
    · refine g_iload_n hX 1 dX9_isBarred_20 rfl rfl ?_
      refine g_aload_n hX 0 dX9_isBarred_21 rfl rfl ?_
      refine gM_85 hX dX9_isBarred_22 ?_
      refine g_aload_n hX 0 dX9_isBarred_25 rfl rfl ?_
      refine gM_67 hX dX9_isBarred_26 ?_
      refine alM_20 hX dX9_isBarred_29 h (fun h => ?_)
      refine g_icmp_gt hX 59 dX9_isBarred_30 (by decide) h (fun h => ?_) (fun h => ?_)
      · exact g_sub [] rfl (hj59 _ h)
      · exact g_sub [0, 1] rfl (hj33 _ h)
set_option maxRecDepth 20000 in
set_option maxHeartbeats 4000000 in
theorem kX9_isBarred (l : Launch) {a : Nat → Nat} {D : va_G} {tI tJ tB : ClassId} {zz : SV} {σ τ : St}  {p1 : Int32} {x : Int32} (h : fX9_isBarred σ p1 = some (τ, x)) : CtI l yX9_isBarred cX9_isBarred 2 (some .boolean) 0 0 (vM a D tI tJ tB zz) σ [.ref (a 0), .int p1] τ x := g_metZ (by decide) (Nat.le_of_ble_eq_true rfl) rfl (fun X _ hX hR => sX9_isBarred (r := (τ, x)) hX hR h)
def fX9_isShouted (σ : St)  : Option (St × Int32) :=
  (if (σ.1 0 39) = (-1 : Int32) then some (σ, (0 : Int32)) else chk (inb (σ.1 0 39) 6) ((if (σ.1 19 (ix (σ.1 0 39))) = (2 : Int32) then some (σ, (1 : Int32)) else some (σ, (0 : Int32)))))
set_option maxRecDepth 20000 in
set_option maxHeartbeats 4000000 in
theorem sX9_isShouted {X : CX} {a : Nat → Nat} {D : va_G} {tI tJ tB : ClassId} {zz : SV} {σ : St}   {r : St × Int32} (hX : OKX X (vM a D tI tJ tB zz) cX9_isShouted 1 RX9 0 0) (hR : (r.2 = 0 ∨ r.2 = 1) → ∀ (pc : Nat) (lv : List (Nat × Value)), decode cX9_isShouted pc = .ok (.ireturn, 1) → G X (vM a D tI tJ tB zz) 1 r.1 pc lv [.int r.2]) (h : fX9_isShouted σ  = some r) : G X (vM a D tI tJ tB zz) 1 σ 0 [(0, .ref (a 0))] [] := by
  unfold fX9_isShouted at h
  refine g_aload_n hX 0 dX9_isShouted_0 rfl rfl ?_
  refine gM_67 hX dX9_isShouted_1 ?_
  refine g_iconst hX (-1) dX9_isShouted_4 (by decide) ?_
  refine g_icmp_eq hX 25 dX9_isShouted_5 (by decide) h (fun h => ?_) (fun h => ?_)
  · refine g_iconst hX (0) dX9_isShouted_25 (by decide) ?_
    exact g_retz hR (by decide) h dX9_isShouted_26
  · refine g_aload_n hX 0 dX9_isShouted_8 rfl rfl ?_
    refine gM_82 hX dX9_isShouted_9 ?_
    refine g_aload_n hX 0 dX9_isShouted_12 rfl rfl ?_
    refine gM_67 hX dX9_isShouted_13 ?_
    refine alM_19 hX dX9_isShouted_16 h (fun h => ?_)
    refine g_iconst hX (2) dX9_isShouted_17 (by decide) ?_
    refine g_icmp_ne hX 25 dX9_isShouted_18 (by decide) h (fun h => ?_) (fun h => ?_)
    · refine g_iconst hX (0) dX9_isShouted_25 (by decide) ?_
      exact g_retz hR (by decide) h dX9_isShouted_26
    · refine g_iconst hX (1) dX9_isShouted_21 (by decide) ?_
      refine g_goto hX 26 dX9_isShouted_22 (by decide) ?_
      exact g_retz hR (by decide) h dX9_isShouted_26
set_option maxRecDepth 20000 in
set_option maxHeartbeats 4000000 in
theorem kX9_isShouted (l : Launch) {a : Nat → Nat} {D : va_G} {tI tJ tB : ClassId} {zz : SV} {σ τ : St}   {x : Int32} (h : fX9_isShouted σ  = some (τ, x)) : CtI l yX9_isShouted cX9_isShouted 1 (some .boolean) 0 0 (vM a D tI tJ tB zz) σ [.ref (a 0)] τ x := g_metZ (by decide) (Nat.le_of_ble_eq_true rfl) rfl (fun X _ hX hR => sX9_isShouted (r := (τ, x)) hX hR h)
def fX9_isAllBarred_L4  (kx4 : St → Int32 → Int32 → Option (St × Int32)) : Nat → St → Int32 → Int32 → Option (St × Int32)
  | 0, _, _, _ => none
  | n4 + 1, σ, c1_4, c2_4 =>
    (if (σ.1 0 2) ≤ c2_4 then kx4 σ c1_4 c2_4 else (jp (fun (σ_3 : St)  (t_4 : Int32) => bnd t_4 fun (x1_5 : Int32) => bnd (c2_4 + (1 : Int32)) fun (x2_6 : Int32) => fX9_isAllBarred_L4 kx4 n4 σ_3 x1_5 x2_6) fun j29 => jp (fun (σ_7 : St)   => j29 σ_7 (0 : Int32)) fun j28 => (if c1_4 = 0 then j28 σ else cl (fX9_isBarred σ c2_4) fun (σ_8 : St) (t_9 : Int32) => (if t_9 = 0 then j28 σ_8 else j29 σ_8 (1 : Int32)))))
def fX9_isAllBarred (σ : St)  : Option (St × Int32) :=
  bnd (1 : Int32) fun (x1_1 : Int32) => bnd (0 : Int32) fun (x2_2 : Int32) => fX9_isAllBarred_L4  (fun (σ_10 : St) (x1_11 : Int32) (x2_12 : Int32) => chk (isB x1_11) (some (σ_10, x1_11))) FU σ x1_1 x2_2
set_option maxRecDepth 20000 in
set_option maxHeartbeats 4000000 in
theorem sX9_isAllBarred_L4 {X : CX} {a : Nat → Nat} {D : va_G} {tI tJ tB : ClassId} {zz : SV}  {kx4 : St → Int32 → Int32 → Option (St × Int32)} {r : St × Int32} (hX : OKX X (vM a D tI tJ tB zz) cX9_isAllBarred 3 RX9 1 21) (hR : (r.2 = 0 ∨ r.2 = 1) → ∀ (pc : Nat) (lv : List (Nat × Value)), decode cX9_isAllBarred pc = .ok (.ireturn, 1) → G X (vM a D tI tJ tB zz) 3 r.1 pc lv [.int r.2]) (hkx4 : ∀ (σ : St) (e1_4 : Int32) (e2_4 : Int32), kx4 σ e1_4 e2_4 = some r → G X (vM a D tI tJ tB zz) 3 σ 36 [(1, .int e1_4)] []) : ∀ (n : Nat) (σ : St) (c1_4 : Int32) (c2_4 : Int32), fX9_isAllBarred_L4 kx4 n σ c1_4 c2_4 = some r → G X (vM a D tI tJ tB zz) 3 σ 4 [(0, .ref (a 0)), (1, .int c1_4), (2, .int c2_4)] [] := by
  intro n
  induction n with
  | zero => intro σ c1_4 c2_4 h; rw [fX9_isAllBarred_L4] at h; exact absurd h (by simp)
  | succ n4 ih4 =>
    intro σ c1_4 c2_4 h
    rw [fX9_isAllBarred_L4] at h
    refine g_iload_n hX 2 dX9_isAllBarred_4 rfl rfl ?_
    refine g_aload_n hX 0 dX9_isAllBarred_5 rfl rfl ?_
    refine gM_7 hX dX9_isAllBarred_6 ?_
    refine g_icmp_ge hX 36 dX9_isAllBarred_9 (by decide) h (fun h => ?_) (fun h => ?_)
    · exact g_sub [1] rfl (hkx4 _ _ _ h)
    · refine g_iload_n hX 1 dX9_isAllBarred_12 rfl rfl ?_
      refine jp_inv (P := fun f => ∀ (σ_3 : St)  (t_4 : Int32), f σ_3 t_4 = some r → G X (vM a D tI tJ tB zz) 3 σ_3 29 [(0, .ref (a 0)), (2, .int c2_4)] [.int t_4]) h (fun σ_3 t_4 h => ?_) (fun j29 hj29 h => ?_)
      · refine g_istore_n (lv' := fun x1_5 => [(1, .int x1_5), (0, .ref (a 0)), (2, .int c2_4)]) hX dX9_isAllBarred_29 rfl (by decide) (fun _ => rfl) h (fun x1_5 h => ?_)
        refine g_iinc (y := (1)) (lv' := fun x2_6 => [(2, .int x2_6), (1, .int x1_5), (0, .ref (a 0))]) hX 2 dX9_isAllBarred_30 rfl (by decide) (by decide) (fun _ => rfl) h (fun x2_6 h => ?_)
        refine g_goto hX 4 dX9_isAllBarred_33 (by decide) ?_
        exact g_sub [2, 1, 0] rfl (ih4 _ _ _ h)
      refine jp_inv (P := fun f => ∀ (σ_7 : St)  , f σ_7 = some r → G X (vM a D tI tJ tB zz) 3 σ_7 28 [(0, .ref (a 0)), (2, .int c2_4)] []) h (fun σ_7 h => ?_) (fun j28 hj28 h => ?_)
      · refine g_iconst hX (0) dX9_isAllBarred_28 (by decide) ?_
        exact g_sub [0, 1] rfl (hj29 _ _ h)
      refine g_if_eq hX 28 dX9_isAllBarred_13 (by decide) h (fun h => ?_) (fun h => ?_)
      · exact g_sub [0, 2] rfl (hj28 _ h)
      · refine g_aload_n hX 0 dX9_isAllBarred_16 rfl rfl ?_
        refine g_iload_n hX 2 dX9_isAllBarred_17 rfl rfl ?_
        refine g_callVI (As := [.int c2_4]) (rest := []) hX 0 (Nat.le_of_ble_eq_true rfl) rfl rfl miX9_isBarred mvX9_isBarred lkX9_293 (by decide) rfl (Nat.le_of_ble_eq_true rfl) rfl dX9_isAllBarred_18 (fun τ x ho => kX9_isBarred _ ho) h (fun σ_8 t_9 h => ?_)
        refine g_if_eq hX 28 dX9_isAllBarred_21 (by decide) h (fun h => ?_) (fun h => ?_)
        · exact g_sub [0, 2] rfl (hj28 _ h)
        · refine g_iconst hX (1) dX9_isAllBarred_24 (by decide) ?_
          refine g_goto hX 29 dX9_isAllBarred_25 (by decide) ?_
          exact g_sub [0, 2] rfl (hj29 _ _ h)
set_option maxRecDepth 20000 in
set_option maxHeartbeats 4000000 in
theorem sX9_isAllBarred {X : CX} {a : Nat → Nat} {D : va_G} {tI tJ tB : ClassId} {zz : SV} {σ : St}   {r : St × Int32} (hX : OKX X (vM a D tI tJ tB zz) cX9_isAllBarred 3 RX9 1 21) (hR : (r.2 = 0 ∨ r.2 = 1) → ∀ (pc : Nat) (lv : List (Nat × Value)), decode cX9_isAllBarred pc = .ok (.ireturn, 1) → G X (vM a D tI tJ tB zz) 3 r.1 pc lv [.int r.2]) (h : fX9_isAllBarred σ  = some r) : G X (vM a D tI tJ tB zz) 3 σ 0 [(0, .ref (a 0))] [] := by
  unfold fX9_isAllBarred at h
  refine g_iconst hX (1) dX9_isAllBarred_0 (by decide) ?_
  refine g_istore_n (lv' := fun x1_1 => [(1, .int x1_1), (0, .ref (a 0))]) hX dX9_isAllBarred_1 rfl (by decide) (fun _ => rfl) h (fun x1_1 h => ?_)
  refine g_iconst hX (0) dX9_isAllBarred_2 (by decide) ?_
  refine g_istore_n (lv' := fun x2_2 => [(2, .int x2_2), (1, .int x1_1), (0, .ref (a 0))]) hX dX9_isAllBarred_3 rfl (by decide) (fun _ => rfl) h (fun x2_2 h => ?_)
  refine g_sub [2, 1, 0] rfl (sX9_isAllBarred_L4 hX hR (fun σ_10 x1_11 x2_12 h => ?_) FU _ _ _ h)
  refine g_iload_n hX 0 dX9_isAllBarred_36 rfl rfl ?_
  exact g_retzc hR h dX9_isAllBarred_37
set_option maxRecDepth 20000 in
set_option maxHeartbeats 4000000 in
theorem kX9_isAllBarred (l : Launch) {a : Nat → Nat} {D : va_G} {tI tJ tB : ClassId} {zz : SV} {σ τ : St}   {x : Int32} (h : fX9_isAllBarred σ  = some (τ, x)) : CtI l yX9_isAllBarred cX9_isAllBarred 3 (some .boolean) 1 21 (vM a D tI tJ tB zz) σ [.ref (a 0)] τ x := g_metZ (by decide) (Nat.le_of_ble_eq_true rfl) rfl (fun X _ hX hR => sX9_isAllBarred (r := (τ, x)) hX hR h)
def fX9_puts_L2 (q1_2 : Int32) (q2_2 : Int32) (kx2 : St → Int32 → Option (St × Unit)) : Nat → St → Int32 → Option (St × Unit)
  | 0, _, _ => none
  | n2 + 1, σ, c3_2 =>
    (if (8 : Int32) ≤ c3_2 then kx2 σ c3_2 else (jp (fun (σ_2 : St)  (t_3 : Int32) => chk (inb (((8 : Int32) * q1_2) + c3_2) 32) (bnd (sI σ_2 18 (ix (((8 : Int32) * q1_2) + c3_2)) t_3) fun (σ_4 : St) => bnd (c3_2 + (1 : Int32)) fun (x3_5 : Int32) => fX9_puts_L2 q1_2 q2_2 kx2 n2 σ_4 x3_5)) fun j29 => (if c3_2 = q2_2 then j29 σ (100 : Int32) else j29 σ (0 : Int32))))
def fX9_puts (σ : St) (p1 : Int32) (p2 : Int32) : Option (St × Unit) :=
  bnd (0 : Int32) fun (x3_1 : Int32) => fX9_puts_L2 p1 p2 (fun (σ_6 : St) (x3_7 : Int32) => some (σ_6, ())) FU σ x3_1
set_option maxRecDepth 20000 in
set_option maxHeartbeats 4000000 in
theorem sX9_puts_L2 {X : CX} {a : Nat → Nat} {D : va_G} {tI tJ tB : ClassId} {zz : SV} {q1_2 : Int32} {q2_2 : Int32} {kx2 : St → Int32 → Option (St × Unit)} {r : St × Unit} (hX : OKX X (vM a D tI tJ tB zz) cX9_puts 4 RX9 0 0) (hR : ∀ (pc : Nat) (lv : List (Nat × Value)), decode cX9_puts pc = .ok (.return_, 1) → G X (vM a D tI tJ tB zz) 4 r.1 pc lv []) (hkx2 : ∀ (σ : St) (e3_2 : Int32), kx2 σ e3_2 = some r → G X (vM a D tI tJ tB zz) 4 σ 36 [] []) : ∀ (n : Nat) (σ : St) (c3_2 : Int32), fX9_puts_L2 q1_2 q2_2 kx2 n σ c3_2 = some r → G X (vM a D tI tJ tB zz) 4 σ 2 [(0, .ref (a 0)), (1, .int q1_2), (2, .int q2_2), (3, .int c3_2)] [] := by
  intro n
  induction n with
  | zero => intro σ c3_2 h; rw [fX9_puts_L2] at h; exact absurd h (by simp)
  | succ n2 ih2 =>
    intro σ c3_2 h
    rw [fX9_puts_L2] at h
    refine g_iload_n hX 3 dX9_puts_2 rfl rfl ?_
    refine g_bipush hX (8) dX9_puts_3 (by decide) ?_
    refine g_icmp_ge hX 36 dX9_puts_5 (by decide) h (fun h => ?_) (fun h => ?_)
    · exact g_sub [] rfl (hkx2 _ _ h)
    · refine g_aload_n hX 0 dX9_puts_8 rfl rfl ?_
      refine gM_79 hX dX9_puts_9 ?_
      refine g_bipush hX (8) dX9_puts_12 (by decide) ?_
      refine g_iload_n hX 1 dX9_puts_14 rfl rfl ?_
      refine g_imul hX dX9_puts_15 ?_
      refine g_iload_n hX 3 dX9_puts_16 rfl rfl ?_
      refine g_iadd hX dX9_puts_17 ?_
      refine g_iload_n hX 3 dX9_puts_18 rfl rfl ?_
      refine g_iload_n hX 2 dX9_puts_19 rfl rfl ?_
      refine jp_inv (P := fun f => ∀ (σ_2 : St)  (t_3 : Int32), f σ_2 t_3 = some r → G X (vM a D tI tJ tB zz) 4 σ_2 29 [(0, .ref (a 0)), (1, .int q1_2), (2, .int q2_2), (3, .int c3_2)] [.int t_3, .int (((8 : Int32) * q1_2) + c3_2), .ref (a 18)]) h (fun σ_2 t_3 h => ?_) (fun j29 hj29 h => ?_)
      · refine asM_18 hX dX9_puts_29 h (fun σ_4 h => ?_)
        refine g_iinc (y := (1)) (lv' := fun x3_5 => [(3, .int x3_5), (0, .ref (a 0)), (1, .int q1_2), (2, .int q2_2)]) hX 3 dX9_puts_30 rfl (by decide) (by decide) (fun _ => rfl) h (fun x3_5 h => ?_)
        refine g_goto hX 2 dX9_puts_33 (by decide) ?_
        exact g_sub [1, 2, 3, 0] rfl (ih2 _ _ h)
      refine g_icmp_ne hX 28 dX9_puts_20 (by decide) h (fun h => ?_) (fun h => ?_)
      · refine g_iconst hX (0) dX9_puts_28 (by decide) ?_
        exact g_sub [0, 1, 2, 3] rfl (hj29 _ _ h)
      · refine g_bipush hX (100) dX9_puts_23 (by decide) ?_
        refine g_goto hX 29 dX9_puts_25 (by decide) ?_
        exact g_sub [0, 1, 2, 3] rfl (hj29 _ _ h)
set_option maxRecDepth 20000 in
set_option maxHeartbeats 4000000 in
theorem sX9_puts {X : CX} {a : Nat → Nat} {D : va_G} {tI tJ tB : ClassId} {zz : SV} {σ : St}  {p1 : Int32} {p2 : Int32} {r : St × Unit} (hX : OKX X (vM a D tI tJ tB zz) cX9_puts 4 RX9 0 0) (hR : ∀ (pc : Nat) (lv : List (Nat × Value)), decode cX9_puts pc = .ok (.return_, 1) → G X (vM a D tI tJ tB zz) 4 r.1 pc lv []) (h : fX9_puts σ p1 p2 = some r) : G X (vM a D tI tJ tB zz) 4 σ 0 [(0, .ref (a 0)), (1, .int p1), (2, .int p2)] [] := by
  unfold fX9_puts at h
  refine g_iconst hX (0) dX9_puts_0 (by decide) ?_
  refine g_istore_n (lv' := fun x3_1 => [(3, .int x3_1), (0, .ref (a 0)), (1, .int p1), (2, .int p2)]) hX dX9_puts_1 rfl (by decide) (fun _ => rfl) h (fun x3_1 h => ?_)
  refine g_sub [1, 2, 3, 0] rfl (sX9_puts_L2 hX hR (fun σ_6 x3_7 h => ?_) FU _ _ h)
  exact g_retv hR h dX9_puts_36
set_option maxRecDepth 20000 in
set_option maxHeartbeats 4000000 in
theorem kX9_puts (l : Launch) {a : Nat → Nat} {D : va_G} {tI tJ tB : ClassId} {zz : SV} {σ τ : St}  {p1 : Int32} {p2 : Int32} {x : Unit} (h : fX9_puts σ p1 p2 = some (τ, x)) : CtV l yX9_puts cX9_puts 4 none 0 0 (vM a D tI tJ tB zz) σ [.ref (a 0), .int p1, .int p2] τ x := g_metV (by decide) (Nat.le_of_ble_eq_true rfl) rfl (fun X _ hX hR => sX9_puts (r := (τ, x)) hX hR h)
def fX9_lays_L7 (q1_7 : Int32) (kx7 : St → Int32 → Int32 → Int32 → Option (St × Int32)) : Nat → St → Int32 → Int32 → Int32 → Option (St × Int32)
  | 0, _, _, _, _ => none
  | n7 + 1, σ, c2_7, c3_7, c4_7 =>
    (if (8 : Int32) ≤ c4_7 then kx7 σ c2_7 c3_7 c4_7 else chk (inb q1_7 4) ((jp (fun (σ_4 : St)  (t_5 : Int32) => bnd t_5 fun (x5_6 : Int32) => chk (inb (((8 : Int32) * q1_7) + c4_7) 32) (bnd (sI σ_4 18 (ix (((8 : Int32) * q1_7) + c4_7)) x5_6) fun (σ_7 : St) => bnd (c2_7 + x5_6) fun (x2_8 : Int32) => (jp (fun (σ_9 : St)  (t_10 : Int32) => bnd t_10 fun (x3_11 : Int32) => bnd (c4_7 + (1 : Int32)) fun (x4_12 : Int32) => fX9_lays_L7 q1_7 kx7 n7 σ_9 x2_8 x3_11 x4_12) fun j123 => jp (fun (σ_13 : St)   => j123 σ_13 (0 : Int32)) fun j122 => (if c3_7 = 0 then j122 σ_7 else (jp (fun (σ_14 : St)   => j123 σ_14 (1 : Int32)) fun j118 => (if x5_6 = 0 then j118 σ_7 else cl (fX9_isStep σ_7 c4_7) fun (σ_15 : St) (t_16 : Int32) => (if t_16 = 0 then j122 σ_15 else cl (fX9_isBarred σ_15 c4_7) fun (σ_17 : St) (t_18 : Int32) => (if t_18 = 0 then j118 σ_17 else j122 σ_17)))))))) fun j70 => (if (σ.1 15 (ix q1_7)) = (1 : Int32) then chk (inb q1_7 4) ((if c4_7 = (σ.1 16 (ix q1_7)) then j70 σ (100 : Int32) else j70 σ (0 : Int32))) else chk (inb q1_7 4) ((if (σ.1 15 (ix q1_7)) = (2 : Int32) then chk (inb (((8 : Int32) * q1_7) + c4_7) 32) (j70 σ (σ.1 17 (ix (((8 : Int32) * q1_7) + c4_7)))) else j70 σ (0 : Int32)))))))
def fX9_lays (σ : St) (p1 : Int32) : Option (St × Int32) :=
  bnd (0 : Int32) fun (x2_1 : Int32) => bnd (1 : Int32) fun (x3_2 : Int32) => bnd (0 : Int32) fun (x4_3 : Int32) => fX9_lays_L7 p1 (fun (σ_19 : St) (x2_20 : Int32) (x3_21 : Int32) (x4_22 : Int32) => (if x3_21 = 0 then some (σ_19, (0 : Int32)) else (if x2_20 = (100 : Int32) then some (σ_19, (1 : Int32)) else some (σ_19, (0 : Int32))))) FU σ x2_1 x3_2 x4_3
set_option maxRecDepth 20000 in
set_option maxHeartbeats 4000000 in
theorem sX9_lays_L7 {X : CX} {a : Nat → Nat} {D : va_G} {tI tJ tB : ClassId} {zz : SV} {q1_7 : Int32} {kx7 : St → Int32 → Int32 → Int32 → Option (St × Int32)} {r : St × Int32} (hX : OKX X (vM a D tI tJ tB zz) cX9_lays 6 RX9 2 43) (hR : (r.2 = 0 ∨ r.2 = 1) → ∀ (pc : Nat) (lv : List (Nat × Value)), decode cX9_lays pc = .ok (.ireturn, 1) → G X (vM a D tI tJ tB zz) 6 r.1 pc lv [.int r.2]) (hkx7 : ∀ (σ : St) (e2_7 : Int32) (e3_7 : Int32) (e4_7 : Int32), kx7 σ e2_7 e3_7 e4_7 = some r → G X (vM a D tI tJ tB zz) 6 σ 130 [(2, .int e2_7), (3, .int e3_7)] []) : ∀ (n : Nat) (σ : St) (c2_7 : Int32) (c3_7 : Int32) (c4_7 : Int32), fX9_lays_L7 q1_7 kx7 n σ c2_7 c3_7 c4_7 = some r → G X (vM a D tI tJ tB zz) 6 σ 7 [(0, .ref (a 0)), (1, .int q1_7), (2, .int c2_7), (3, .int c3_7), (4, .int c4_7)] [] := by
  intro n
  induction n with
  | zero => intro σ c2_7 c3_7 c4_7 h; rw [fX9_lays_L7] at h; exact absurd h (by simp)
  | succ n7 ih7 =>
    intro σ c2_7 c3_7 c4_7 h
    rw [fX9_lays_L7] at h
    refine g_iload hX 4 dX9_lays_7 rfl ?_
    refine g_bipush hX (8) dX9_lays_9 (by decide) ?_
    refine g_icmp_ge hX 130 dX9_lays_11 (by decide) h (fun h => ?_) (fun h => ?_)
    · exact g_sub [2, 3] rfl (hkx7 _ _ _ _ h)
    · refine g_aload_n hX 0 dX9_lays_14 rfl rfl ?_
      refine gM_70 hX dX9_lays_15 ?_
      refine g_iload_n hX 1 dX9_lays_18 rfl rfl ?_
      refine alM_15 hX dX9_lays_19 h (fun h => ?_)
      refine g_iconst hX (1) dX9_lays_20 (by decide) ?_
      refine jp_inv (P := fun f => ∀ (σ_4 : St)  (t_5 : Int32), f σ_4 t_5 = some r → G X (vM a D tI tJ tB zz) 6 σ_4 70 [(0, .ref (a 0)), (1, .int q1_7), (2, .int c2_7), (3, .int c3_7), (4, .int c4_7)] [.int t_5]) h (fun σ_4 t_5 h => ?_) (fun j70 hj70 h => ?_)
      · refine g_istore (lv' := fun x5_6 => [(5, .int x5_6), (0, .ref (a 0)), (1, .int q1_7), (2, .int c2_7), (3, .int c3_7), (4, .int c4_7)]) hX dX9_lays_70 (by decide) (fun _ => rfl) h (fun x5_6 h => ?_)
        refine g_aload_n hX 1 dX9_lays_72 rfl rfl ?_
        refine gM_79 hX dX9_lays_73 ?_
        refine g_bipush hX (8) dX9_lays_76 (by decide) ?_
        refine g_iload_n hX 2 dX9_lays_78 rfl rfl ?_
        refine g_imul hX dX9_lays_79 ?_
        refine g_iload hX 5 dX9_lays_80 rfl ?_
        refine g_iadd hX dX9_lays_82 ?_
        refine g_iload hX 0 dX9_lays_83 rfl ?_
        refine asM_18 hX dX9_lays_85 h (fun σ_7 h => ?_)
        refine g_iload_n hX 3 dX9_lays_86 rfl rfl ?_
        refine g_iload hX 0 dX9_lays_87 rfl ?_
        refine g_iadd hX dX9_lays_89 ?_
        refine g_istore_n (lv' := fun x2_8 => [(2, .int x2_8), (5, .int x5_6), (0, .ref (a 0)), (1, .int q1_7), (3, .int c3_7), (4, .int c4_7)]) hX dX9_lays_90 rfl (by decide) (fun _ => rfl) h (fun x2_8 h => ?_)
        refine g_iload_n hX 4 dX9_lays_91 rfl rfl ?_
        refine jp_inv (P := fun f => ∀ (σ_9 : St)  (t_10 : Int32), f σ_9 t_10 = some r → G X (vM a D tI tJ tB zz) 6 σ_9 123 [(2, .int x2_8), (0, .ref (a 0)), (1, .int q1_7), (4, .int c4_7)] [.int t_10]) h (fun σ_9 t_10 h => ?_) (fun j123 hj123 h => ?_)
        · refine g_istore_n (lv' := fun x3_11 => [(3, .int x3_11), (2, .int x2_8), (0, .ref (a 0)), (1, .int q1_7), (4, .int c4_7)]) hX dX9_lays_123 rfl (by decide) (fun _ => rfl) h (fun x3_11 h => ?_)
          refine g_iinc (y := (1)) (lv' := fun x4_12 => [(4, .int x4_12), (3, .int x3_11), (2, .int x2_8), (0, .ref (a 0)), (1, .int q1_7)]) hX 4 dX9_lays_124 rfl (by decide) (by decide) (fun _ => rfl) h (fun x4_12 h => ?_)
          refine g_goto hX 7 dX9_lays_127 (by decide) ?_
          exact g_sub [3, 4, 2, 1, 0] rfl (ih7 _ _ _ _ h)
        refine jp_inv (P := fun f => ∀ (σ_13 : St)  , f σ_13 = some r → G X (vM a D tI tJ tB zz) 6 σ_13 122 [(2, .int x2_8), (0, .ref (a 0)), (1, .int q1_7), (4, .int c4_7)] []) h (fun σ_13 h => ?_) (fun j122 hj122 h => ?_)
        · refine g_iconst hX (0) dX9_lays_122 (by decide) ?_
          exact g_sub [0, 1, 2, 3] rfl (hj123 _ _ h)
        refine g_if_eq hX 122 dX9_lays_92 (by decide) h (fun h => ?_) (fun h => ?_)
        · exact g_sub [0, 2, 3, 5] rfl (hj122 _ h)
        · refine g_iload hX 1 dX9_lays_95 rfl ?_
          refine jp_inv (P := fun f => ∀ (σ_14 : St)  , f σ_14 = some r → G X (vM a D tI tJ tB zz) 6 σ_14 118 [(2, .int x2_8), (0, .ref (a 0)), (1, .int q1_7), (4, .int c4_7)] []) h (fun σ_14 h => ?_) (fun j118 hj118 h => ?_)
          · refine g_iconst hX (1) dX9_lays_118 (by decide) ?_
            refine g_goto hX 123 dX9_lays_119 (by decide) ?_
            exact g_sub [0, 1, 2, 3] rfl (hj123 _ _ h)
          refine g_if_eq hX 118 dX9_lays_97 (by decide) h (fun h => ?_) (fun h => ?_)
          · exact g_sub [0, 2, 3, 5] rfl (hj118 _ h)
          · refine g_aload_n hX 2 dX9_lays_100 rfl rfl ?_
            refine g_iload hX 5 dX9_lays_101 rfl ?_
            refine g_callVI (As := [.int c4_7]) (rest := []) hX 0 (Nat.le_of_ble_eq_true rfl) rfl rfl miX9_isStep mvX9_isStep lkX9_290 (by decide) rfl (Nat.le_of_ble_eq_true rfl) rfl dX9_lays_103 (fun τ x ho => kX9_isStep _ ho) h (fun σ_15 t_16 h => ?_)
            refine g_if_eq hX 122 dX9_lays_106 (by decide) h (fun h => ?_) (fun h => ?_)
            · exact g_sub [0, 2, 3, 5] rfl (hj122 _ h)
            · refine g_aload_n hX 2 dX9_lays_109 rfl rfl ?_
              refine g_iload hX 5 dX9_lays_110 rfl ?_
              refine g_callVI (As := [.int c4_7]) (rest := []) hX 0 (Nat.le_of_ble_eq_true rfl) rfl rfl miX9_isBarred mvX9_isBarred lkX9_293 (by decide) rfl (Nat.le_of_ble_eq_true rfl) rfl dX9_lays_112 (fun τ x ho => kX9_isBarred _ ho) h (fun σ_17 t_18 h => ?_)
              refine g_if_ne hX 122 dX9_lays_115 (by decide) h (fun h => ?_) (fun h => ?_)
              · exact g_sub [0, 2, 3, 5] rfl (hj122 _ h)
              · exact g_sub [0, 2, 3, 5] rfl (hj118 _ h)
      refine g_icmp_ne hX 44 dX9_lays_21 (by decide) h (fun h => ?_) (fun h => ?_)
      · refine g_aload_n hX 0 dX9_lays_44 rfl rfl ?_
        refine gM_70 hX dX9_lays_45 ?_
        refine g_iload_n hX 1 dX9_lays_48 rfl rfl ?_
        refine alM_15 hX dX9_lays_49 h (fun h => ?_)
        refine g_iconst hX (2) dX9_lays_50 (by decide) ?_
        refine g_icmp_ne hX 69 dX9_lays_51 (by decide) h (fun h => ?_) (fun h => ?_)
        · refine g_iconst hX (0) dX9_lays_69 (by decide) ?_
          exact g_sub [0, 1, 2, 3, 4] rfl (hj70 _ _ h)
        · refine g_aload_n hX 0 dX9_lays_54 rfl rfl ?_
          refine gM_76 hX dX9_lays_55 ?_
          refine g_bipush hX (8) dX9_lays_58 (by decide) ?_
          refine g_iload_n hX 1 dX9_lays_60 rfl rfl ?_
          refine g_imul hX dX9_lays_61 ?_
          refine g_iload hX 4 dX9_lays_62 rfl ?_
          refine g_iadd hX dX9_lays_64 ?_
          refine alM_17 hX dX9_lays_65 h (fun h => ?_)
          refine g_goto hX 70 dX9_lays_66 (by decide) ?_
          exact g_sub [0, 1, 2, 3, 4] rfl (hj70 _ _ h)
      · refine g_iload hX 4 dX9_lays_24 rfl ?_
        refine g_aload_n hX 0 dX9_lays_26 rfl rfl ?_
        refine gM_73 hX dX9_lays_27 ?_
        refine g_iload_n hX 1 dX9_lays_30 rfl rfl ?_
        refine alM_16 hX dX9_lays_31 h (fun h => ?_)
        refine g_icmp_ne hX 40 dX9_lays_32 (by decide) h (fun h => ?_) (fun h => ?_)
        · refine g_iconst hX (0) dX9_lays_40 (by decide) ?_
          refine g_goto hX 70 dX9_lays_41 (by decide) ?_
          exact g_sub [0, 1, 2, 3, 4] rfl (hj70 _ _ h)
        · refine g_bipush hX (100) dX9_lays_35 (by decide) ?_
          refine g_goto hX 70 dX9_lays_37 (by decide) ?_
          exact g_sub [0, 1, 2, 3, 4] rfl (hj70 _ _ h)
set_option maxRecDepth 20000 in
set_option maxHeartbeats 4000000 in
theorem sX9_lays {X : CX} {a : Nat → Nat} {D : va_G} {tI tJ tB : ClassId} {zz : SV} {σ : St}  {p1 : Int32} {r : St × Int32} (hX : OKX X (vM a D tI tJ tB zz) cX9_lays 6 RX9 2 43) (hR : (r.2 = 0 ∨ r.2 = 1) → ∀ (pc : Nat) (lv : List (Nat × Value)), decode cX9_lays pc = .ok (.ireturn, 1) → G X (vM a D tI tJ tB zz) 6 r.1 pc lv [.int r.2]) (h : fX9_lays σ p1 = some r) : G X (vM a D tI tJ tB zz) 6 σ 0 [(0, .ref (a 0)), (1, .int p1)] [] := by
  unfold fX9_lays at h
  refine g_iconst hX (0) dX9_lays_0 (by decide) ?_
  refine g_istore_n (lv' := fun x2_1 => [(2, .int x2_1), (0, .ref (a 0)), (1, .int p1)]) hX dX9_lays_1 rfl (by decide) (fun _ => rfl) h (fun x2_1 h => ?_)
  refine g_iconst hX (1) dX9_lays_2 (by decide) ?_
  refine g_istore_n (lv' := fun x3_2 => [(3, .int x3_2), (2, .int x2_1), (0, .ref (a 0)), (1, .int p1)]) hX dX9_lays_3 rfl (by decide) (fun _ => rfl) h (fun x3_2 h => ?_)
  refine g_iconst hX (0) dX9_lays_4 (by decide) ?_
  refine g_istore (lv' := fun x4_3 => [(4, .int x4_3), (3, .int x3_2), (2, .int x2_1), (0, .ref (a 0)), (1, .int p1)]) hX dX9_lays_5 (by decide) (fun _ => rfl) h (fun x4_3 h => ?_)
  refine g_sub [3, 4, 2, 1, 0] rfl (sX9_lays_L7 hX hR (fun σ_19 x2_20 x3_21 x4_22 h => ?_) FU _ _ _ _ h)
  refine g_iload_n hX 1 dX9_lays_130 rfl rfl ?_
  refine g_if_eq hX 144 dX9_lays_131 (by decide) h (fun h => ?_) (fun h => ?_)
  · refine g_iconst hX (0) dX9_lays_144 (by decide) ?_
    exact g_retz hR (by decide) h dX9_lays_145
  · refine g_iload_n hX 0 dX9_lays_134 rfl rfl ?_
    refine g_bipush hX (100) dX9_lays_135 (by decide) ?_
    refine g_icmp_ne hX 144 dX9_lays_137 (by decide) h (fun h => ?_) (fun h => ?_)
    · refine g_iconst hX (0) dX9_lays_144 (by decide) ?_
      exact g_retz hR (by decide) h dX9_lays_145
    · refine g_iconst hX (1) dX9_lays_140 (by decide) ?_
      refine g_goto hX 145 dX9_lays_141 (by decide) ?_
      exact g_retz hR (by decide) h dX9_lays_145
set_option maxRecDepth 20000 in
set_option maxHeartbeats 4000000 in
theorem kX9_lays (l : Launch) {a : Nat → Nat} {D : va_G} {tI tJ tB : ClassId} {zz : SV} {σ τ : St}  {p1 : Int32} {x : Int32} (h : fX9_lays σ p1 = some (τ, x)) : CtI l yX9_lays cX9_lays 6 (some .boolean) 2 43 (vM a D tI tJ tB zz) σ [.ref (a 0), .int p1] τ x := g_metZ (by decide) (Nat.le_of_ble_eq_true rfl) rfl (fun X _ hX hR => sX9_lays (r := (τ, x)) hX hR h)
def fX9_clears_L2  (kx2 : St → Int32 → Option (St × Unit)) : Nat → St → Int32 → Option (St × Unit)
  | 0, _, _ => none
  | n2 + 1, σ, c1_2 =>
    (if (4 : Int32) ≤ c1_2 then kx2 σ c1_2 else chk (inb c1_2 4) (bnd (sL σ 22 (ix c1_2) (0 : Int64)) fun (σ_2 : St) => chk (inb c1_2 4) (bnd (sL σ_2 23 (ix c1_2) (0 : Int64)) fun (σ_3 : St) => bnd (c1_2 + (1 : Int32)) fun (x1_4 : Int32) => fX9_clears_L2 kx2 n2 σ_3 x1_4)))
def fX9_clears_L29  (kx29 : St → Int32 → Option (St × Unit)) : Nat → St → Int32 → Option (St × Unit)
  | 0, _, _ => none
  | n29 + 1, σ, c1_29 =>
    (if (12 : Int32) ≤ c1_29 then kx29 σ c1_29 else chk (inb c1_29 12) (bnd (sL σ 24 (ix c1_29) (0 : Int64)) fun (σ_8 : St) => chk (inb c1_29 12) (bnd (sL σ_8 25 (ix c1_29) (0 : Int64)) fun (σ_9 : St) => chk (inb c1_29 12) (bnd (sL σ_9 26 (ix c1_29) (0 : Int64)) fun (σ_10 : St) => bnd (c1_29 + (1 : Int32)) fun (x1_11 : Int32) => fX9_clears_L29 kx29 n29 σ_10 x1_11))))
def fX9_clears (σ : St)  : Option (St × Unit) :=
  bnd (0 : Int32) fun (x1_1 : Int32) => fX9_clears_L2  (fun (σ_5 : St) (x1_6 : Int32) => bnd (0 : Int32) fun (x1_7 : Int32) => fX9_clears_L29  (fun (σ_12 : St) (x1_13 : Int32) => some (σ_12, ())) FU σ_5 x1_7) FU σ x1_1
set_option maxRecDepth 20000 in
set_option maxHeartbeats 4000000 in
theorem sX9_clears_L2 {X : CX} {a : Nat → Nat} {D : va_G} {tI tJ tB : ClassId} {zz : SV}  {kx2 : St → Int32 → Option (St × Unit)} {r : St × Unit} (hX : OKX X (vM a D tI tJ tB zz) cX9_clears 2 RX9 0 0) (hR : ∀ (pc : Nat) (lv : List (Nat × Value)), decode cX9_clears pc = .ok (.return_, 1) → G X (vM a D tI tJ tB zz) 2 r.1 pc lv []) (hkx2 : ∀ (σ : St) (e1_2 : Int32), kx2 σ e1_2 = some r → G X (vM a D tI tJ tB zz) 2 σ 27 [(0, .ref (a 0))] []) : ∀ (n : Nat) (σ : St) (c1_2 : Int32), fX9_clears_L2 kx2 n σ c1_2 = some r → G X (vM a D tI tJ tB zz) 2 σ 2 [(0, .ref (a 0)), (1, .int c1_2)] [] := by
  intro n
  induction n with
  | zero => intro σ c1_2 h; rw [fX9_clears_L2] at h; exact absurd h (by simp)
  | succ n2 ih2 =>
    intro σ c1_2 h
    rw [fX9_clears_L2] at h
    refine g_iload_n hX 1 dX9_clears_2 rfl rfl ?_
    refine g_iconst hX (4) dX9_clears_3 (by decide) ?_
    refine g_icmp_ge hX 27 dX9_clears_4 (by decide) h (fun h => ?_) (fun h => ?_)
    · exact g_sub [0] rfl (hkx2 _ _ h)
    · refine g_aload_n hX 0 dX9_clears_7 rfl rfl ?_
      refine gM_91 hX dX9_clears_8 ?_
      refine g_iload_n hX 1 dX9_clears_11 rfl rfl ?_
      refine g_lconst hX (0) dX9_clears_12 (by decide) ?_
      refine asM_22 hX dX9_clears_13 h (fun σ_2 h => ?_)
      refine g_aload_n hX 0 dX9_clears_14 rfl rfl ?_
      refine gM_94 hX dX9_clears_15 ?_
      refine g_iload_n hX 1 dX9_clears_18 rfl rfl ?_
      refine g_lconst hX (0) dX9_clears_19 (by decide) ?_
      refine asM_23 hX dX9_clears_20 h (fun σ_3 h => ?_)
      refine g_iinc (y := (1)) (lv' := fun x1_4 => [(1, .int x1_4), (0, .ref (a 0))]) hX 1 dX9_clears_21 rfl (by decide) (by decide) (fun _ => rfl) h (fun x1_4 h => ?_)
      refine g_goto hX 2 dX9_clears_24 (by decide) ?_
      exact g_sub [1, 0] rfl (ih2 _ _ h)
set_option maxRecDepth 20000 in
set_option maxHeartbeats 4000000 in
theorem sX9_clears_L29 {X : CX} {a : Nat → Nat} {D : va_G} {tI tJ tB : ClassId} {zz : SV}  {kx29 : St → Int32 → Option (St × Unit)} {r : St × Unit} (hX : OKX X (vM a D tI tJ tB zz) cX9_clears 2 RX9 0 0) (hR : ∀ (pc : Nat) (lv : List (Nat × Value)), decode cX9_clears pc = .ok (.return_, 1) → G X (vM a D tI tJ tB zz) 2 r.1 pc lv []) (hkx29 : ∀ (σ : St) (e1_29 : Int32), kx29 σ e1_29 = some r → G X (vM a D tI tJ tB zz) 2 σ 62 [] []) : ∀ (n : Nat) (σ : St) (c1_29 : Int32), fX9_clears_L29 kx29 n σ c1_29 = some r → G X (vM a D tI tJ tB zz) 2 σ 29 [(0, .ref (a 0)), (1, .int c1_29)] [] := by
  intro n
  induction n with
  | zero => intro σ c1_29 h; rw [fX9_clears_L29] at h; exact absurd h (by simp)
  | succ n29 ih29 =>
    intro σ c1_29 h
    rw [fX9_clears_L29] at h
    refine g_iload_n hX 1 dX9_clears_29 rfl rfl ?_
    refine g_bipush hX (12) dX9_clears_30 (by decide) ?_
    refine g_icmp_ge hX 62 dX9_clears_32 (by decide) h (fun h => ?_) (fun h => ?_)
    · exact g_sub [] rfl (hkx29 _ _ h)
    · refine g_aload_n hX 0 dX9_clears_35 rfl rfl ?_
      refine gM_97 hX dX9_clears_36 ?_
      refine g_iload_n hX 1 dX9_clears_39 rfl rfl ?_
      refine g_lconst hX (0) dX9_clears_40 (by decide) ?_
      refine asM_24 hX dX9_clears_41 h (fun σ_8 h => ?_)
      refine g_aload_n hX 0 dX9_clears_42 rfl rfl ?_
      refine gM_100 hX dX9_clears_43 ?_
      refine g_iload_n hX 1 dX9_clears_46 rfl rfl ?_
      refine g_lconst hX (0) dX9_clears_47 (by decide) ?_
      refine asM_25 hX dX9_clears_48 h (fun σ_9 h => ?_)
      refine g_aload_n hX 0 dX9_clears_49 rfl rfl ?_
      refine gM_103 hX dX9_clears_50 ?_
      refine g_iload_n hX 1 dX9_clears_53 rfl rfl ?_
      refine g_lconst hX (0) dX9_clears_54 (by decide) ?_
      refine asM_26 hX dX9_clears_55 h (fun σ_10 h => ?_)
      refine g_iinc (y := (1)) (lv' := fun x1_11 => [(1, .int x1_11), (0, .ref (a 0))]) hX 1 dX9_clears_56 rfl (by decide) (by decide) (fun _ => rfl) h (fun x1_11 h => ?_)
      refine g_goto hX 29 dX9_clears_59 (by decide) ?_
      exact g_sub [1, 0] rfl (ih29 _ _ h)
set_option maxRecDepth 20000 in
set_option maxHeartbeats 4000000 in
theorem sX9_clears {X : CX} {a : Nat → Nat} {D : va_G} {tI tJ tB : ClassId} {zz : SV} {σ : St}   {r : St × Unit} (hX : OKX X (vM a D tI tJ tB zz) cX9_clears 2 RX9 0 0) (hR : ∀ (pc : Nat) (lv : List (Nat × Value)), decode cX9_clears pc = .ok (.return_, 1) → G X (vM a D tI tJ tB zz) 2 r.1 pc lv []) (h : fX9_clears σ  = some r) : G X (vM a D tI tJ tB zz) 2 σ 0 [(0, .ref (a 0))] [] := by
  unfold fX9_clears at h
  refine g_iconst hX (0) dX9_clears_0 (by decide) ?_
  refine g_istore_n (lv' := fun x1_1 => [(1, .int x1_1), (0, .ref (a 0))]) hX dX9_clears_1 rfl (by decide) (fun _ => rfl) h (fun x1_1 h => ?_)
  refine g_sub [1, 0] rfl (sX9_clears_L2 hX hR (fun σ_5 x1_6 h => ?_) FU _ _ h)
  refine g_iconst hX (0) dX9_clears_27 (by decide) ?_
  refine g_istore_n (lv' := fun x1_7 => [(1, .int x1_7), (0, .ref (a 0))]) hX dX9_clears_28 rfl (by decide) (fun _ => rfl) h (fun x1_7 h => ?_)
  refine g_sub [1, 0] rfl (sX9_clears_L29 hX hR (fun σ_12 x1_13 h => ?_) FU _ _ h)
  exact g_retv hR h dX9_clears_62
set_option maxRecDepth 20000 in
set_option maxHeartbeats 4000000 in
theorem kX9_clears (l : Launch) {a : Nat → Nat} {D : va_G} {tI tJ tB : ClassId} {zz : SV} {σ τ : St}   {x : Unit} (h : fX9_clears σ  = some (τ, x)) : CtV l yX9_clears cX9_clears 2 none 0 0 (vM a D tI tJ tB zz) σ [.ref (a 0)] τ x := g_metV (by decide) (Nat.le_of_ble_eq_true rfl) rfl (fun X _ hX hR => sX9_clears (r := (τ, x)) hX hR h)
def fX9_leastStep_L4 (q1_4 : Int32) (kx4 : St → Int32 → Int32 → Option (St × Int32)) : Nat → St → Int32 → Int32 → Option (St × Int32)
  | 0, _, _, _ => none
  | n4 + 1, σ, c2_4, c3_4 =>
    (if (σ.1 0 0) ≤ c3_4 then kx4 σ c2_4 c3_4 else cl (fX9_has σ q1_4 c3_4) fun (σ_3 : St) (t_4 : Int32) => (jp (fun (σ_5 : St) (x2_6 : Int32)  => bnd (c3_4 + (1 : Int32)) fun (x3_7 : Int32) => fX9_leastStep_L4 q1_4 kx4 n4 σ_5 x2_6 x3_7) fun j42 => (if t_4 = 0 then j42 σ_3 c2_4 else (jp (fun (σ_8 : St)   => chk (inb c3_4 4) (bnd (σ_8.1 21 (ix c3_4)) fun (x2_9 : Int32) => j42 σ_8 x2_9)) fun j35 => (if c2_4 = (-1 : Int32) then j35 σ_3 else chk (inb c3_4 4) ((if c2_4 ≤ (σ_3.1 21 (ix c3_4)) then j42 σ_3 c2_4 else j35 σ_3)))))))
def fX9_leastStep (σ : St) (p1 : Int32) : Option (St × Int32) :=
  bnd (-1 : Int32) fun (x2_1 : Int32) => bnd (0 : Int32) fun (x3_2 : Int32) => fX9_leastStep_L4 p1 (fun (σ_10 : St) (x2_11 : Int32) (x3_12 : Int32) => some (σ_10, x2_11)) FU σ x2_1 x3_2
set_option maxRecDepth 20000 in
set_option maxHeartbeats 4000000 in
theorem sX9_leastStep_L4 {X : CX} {a : Nat → Nat} {D : va_G} {tI tJ tB : ClassId} {zz : SV} {q1_4 : Int32} {kx4 : St → Int32 → Int32 → Option (St × Int32)} {r : St × Int32} (hX : OKX X (vM a D tI tJ tB zz) cX9_leastStep 4 RX9 1 21) (hR : ∀ (pc : Nat) (lv : List (Nat × Value)), decode cX9_leastStep pc = .ok (.ireturn, 1) → G X (vM a D tI tJ tB zz) 4 r.1 pc lv [.int r.2]) (hkx4 : ∀ (σ : St) (e2_4 : Int32) (e3_4 : Int32), kx4 σ e2_4 e3_4 = some r → G X (vM a D tI tJ tB zz) 4 σ 48 [(2, .int e2_4)] []) : ∀ (n : Nat) (σ : St) (c2_4 : Int32) (c3_4 : Int32), fX9_leastStep_L4 q1_4 kx4 n σ c2_4 c3_4 = some r → G X (vM a D tI tJ tB zz) 4 σ 4 [(0, .ref (a 0)), (1, .int q1_4), (2, .int c2_4), (3, .int c3_4)] [] := by
  intro n
  induction n with
  | zero => intro σ c2_4 c3_4 h; rw [fX9_leastStep_L4] at h; exact absurd h (by simp)
  | succ n4 ih4 =>
    intro σ c2_4 c3_4 h
    rw [fX9_leastStep_L4] at h
    refine g_iload_n hX 3 dX9_leastStep_4 rfl rfl ?_
    refine g_aload_n hX 0 dX9_leastStep_5 rfl rfl ?_
    refine gM_260 hX dX9_leastStep_6 ?_
    refine g_icmp_ge hX 48 dX9_leastStep_9 (by decide) h (fun h => ?_) (fun h => ?_)
    · exact g_sub [2] rfl (hkx4 _ _ _ h)
    · refine g_iload_n hX 1 dX9_leastStep_12 rfl rfl ?_
      refine g_iload_n hX 3 dX9_leastStep_13 rfl rfl ?_
      refine g_callSI (As := [.int q1_4, .int c3_4]) (rest := []) hX miX9_has mvX9_has lkX9_195 (by decide) rfl (Nat.le_of_ble_eq_true rfl) rfl dX9_leastStep_14 (fun τ x ho => kX9_has _ ho) h (fun σ_3 t_4 h => ?_)
      refine jp_inv (P := fun f => ∀ (σ_5 : St) (x2_6 : Int32) , f σ_5 x2_6 = some r → G X (vM a D tI tJ tB zz) 4 σ_5 42 [(0, .ref (a 0)), (1, .int q1_4), (3, .int c3_4), (2, .int x2_6)] []) h (fun σ_5 x2_6 h => ?_) (fun j42 hj42 h => ?_)
      · refine g_iinc (y := (1)) (lv' := fun x3_7 => [(3, .int x3_7), (0, .ref (a 0)), (1, .int q1_4), (2, .int x2_6)]) hX 2 dX9_leastStep_42 rfl (by decide) (by decide) (fun _ => rfl) h (fun x3_7 h => ?_)
        refine g_goto hX 4 dX9_leastStep_45 (by decide) ?_
        exact g_sub [1, 2, 3, 0] rfl (ih4 _ _ _ h)
      refine g_if_eq hX 42 dX9_leastStep_17 (by decide) h (fun h => ?_) (fun h => ?_)
      · exact g_sub [0, 1, 3, 2] rfl (hj42 _ _ h)
      · refine g_iload_n hX 2 dX9_leastStep_20 rfl rfl ?_
        refine g_iconst hX (-1) dX9_leastStep_21 (by decide) ?_
        refine jp_inv (P := fun f => ∀ (σ_8 : St)  , f σ_8 = some r → G X (vM a D tI tJ tB zz) 4 σ_8 35 [(0, .ref (a 0)), (1, .int q1_4), (3, .int c3_4)] []) h (fun σ_8 h => ?_) (fun j35 hj35 h => ?_)
        · refine g_aload_n hX 0 dX9_leastStep_35 rfl rfl ?_
          refine gM_88 hX dX9_leastStep_36 ?_
          refine g_iload_n hX 2 dX9_leastStep_39 rfl rfl ?_
          refine alM_21 hX dX9_leastStep_40 h (fun h => ?_)
          refine g_istore_n (lv' := fun x2_9 => [(2, .int x2_9), (0, .ref (a 0)), (1, .int q1_4), (3, .int c3_4)]) hX dX9_leastStep_41 rfl (by decide) (fun _ => rfl) h (fun x2_9 h => ?_)
          exact g_sub [1, 2, 3, 0] rfl (hj42 _ _ h)
        refine g_icmp_eq hX 35 dX9_leastStep_22 (by decide) h (fun h => ?_) (fun h => ?_)
        · exact g_sub [0, 1, 3] rfl (hj35 _ h)
        · refine g_aload_n hX 0 dX9_leastStep_25 rfl rfl ?_
          refine gM_88 hX dX9_leastStep_26 ?_
          refine g_iload_n hX 3 dX9_leastStep_29 rfl rfl ?_
          refine alM_21 hX dX9_leastStep_30 h (fun h => ?_)
          refine g_iload_n hX 2 dX9_leastStep_31 rfl rfl ?_
          refine g_icmp_ge hX 42 dX9_leastStep_32 (by decide) h (fun h => ?_) (fun h => ?_)
          · exact g_sub [0, 1, 3, 2] rfl (hj42 _ _ h)
          · exact g_sub [0, 1, 3] rfl (hj35 _ h)
set_option maxRecDepth 20000 in
set_option maxHeartbeats 4000000 in
theorem sX9_leastStep {X : CX} {a : Nat → Nat} {D : va_G} {tI tJ tB : ClassId} {zz : SV} {σ : St}  {p1 : Int32} {r : St × Int32} (hX : OKX X (vM a D tI tJ tB zz) cX9_leastStep 4 RX9 1 21) (hR : ∀ (pc : Nat) (lv : List (Nat × Value)), decode cX9_leastStep pc = .ok (.ireturn, 1) → G X (vM a D tI tJ tB zz) 4 r.1 pc lv [.int r.2]) (h : fX9_leastStep σ p1 = some r) : G X (vM a D tI tJ tB zz) 4 σ 0 [(0, .ref (a 0)), (1, .int p1)] [] := by
  unfold fX9_leastStep at h
  refine g_iconst hX (-1) dX9_leastStep_0 (by decide) ?_
  refine g_istore_n (lv' := fun x2_1 => [(2, .int x2_1), (0, .ref (a 0)), (1, .int p1)]) hX dX9_leastStep_1 rfl (by decide) (fun _ => rfl) h (fun x2_1 h => ?_)
  refine g_iconst hX (0) dX9_leastStep_2 (by decide) ?_
  refine g_istore_n (lv' := fun x3_2 => [(3, .int x3_2), (2, .int x2_1), (0, .ref (a 0)), (1, .int p1)]) hX dX9_leastStep_3 rfl (by decide) (fun _ => rfl) h (fun x3_2 h => ?_)
  refine g_sub [2, 3, 1, 0] rfl (sX9_leastStep_L4 hX hR (fun σ_10 x2_11 x3_12 h => ?_) FU _ _ _ h)
  refine g_iload_n hX 0 dX9_leastStep_48 rfl rfl ?_
  exact g_reti hR h dX9_leastStep_49
set_option maxRecDepth 20000 in
set_option maxHeartbeats 4000000 in
theorem kX9_leastStep (l : Launch) {a : Nat → Nat} {D : va_G} {tI tJ tB : ClassId} {zz : SV} {σ τ : St}  {p1 : Int32} {x : Int32} (h : fX9_leastStep σ p1 = some (τ, x)) : CtI l yX9_leastStep cX9_leastStep 4 (some .int) 1 21 (vM a D tI tJ tB zz) σ [.ref (a 0), .int p1] τ x := g_metI (by decide) (Nat.le_of_ble_eq_true rfl) rfl (fun X _ hX hR => sX9_leastStep (r := (τ, x)) hX hR h)
def fX9_buy_L49 (q1_49 : Int32) (q2_49 : Int32) (q3_49 : Int64) (q5_49 : Int32) (kx49 : St → Int32 → Int32 → Option (St × Unit)) : Nat → St → Int32 → Int32 → Option (St × Unit)
  | 0, _, _, _ => none
  | n49 + 1, σ, c6_49, c7_49 =>
    (if (σ.1 0 0) ≤ c7_49 then kx49 σ c6_49 c7_49 else cl (fX9_has σ q2_49 c7_49) fun (σ_10 : St) (t_11 : Int32) => (jp (fun (σ_12 : St) (x6_13 : Int32)  => bnd (c7_49 + (1 : Int32)) fun (x7_14 : Int32) => fX9_buy_L49 q1_49 q2_49 q3_49 q5_49 kx49 n49 σ_12 x6_13 x7_14) fun j100 => (if t_11 = 0 then j100 σ_10 c6_49 else chk (inb c7_49 4) ((jp (fun (σ_15 : St)   => bnd (c6_49 ||| ((1 : Int32) <<< (c7_49 &&& 31))) fun (x6_16 : Int32) => j100 σ_15 x6_16) fun j91 => (if (σ_10.1 21 (ix c7_49)) = q5_49 then j91 σ_10 else cl (fX9_has σ_10 (σ_10.1 0 37) c7_49) fun (σ_17 : St) (t_18 : Int32) => (if t_18 = 0 then j100 σ_17 c6_49 else j91 σ_17)))))))
def fX9_buy_L119 (q1_119 : Int32) (q3_119 : Int64) (q5_119 : Int32) (q6_119 : Int32) (q7_119 : Int32) (kx119 : St → Int32 → Option (St × Unit)) : Nat → St → Int32 → Option (St × Unit)
  | 0, _, _ => none
  | n119 + 1, σ, c8_119 =>
    (if (σ.1 0 0) ≤ c8_119 then kx119 σ c8_119 else cl (fX9_has σ q6_119 c8_119) fun (σ_26 : St) (t_27 : Int32) => (jp (fun (σ_28 : St)   => bnd (c8_119 + (1 : Int32)) fun (x8_29 : Int32) => fX9_buy_L119 q1_119 q3_119 q5_119 q6_119 q7_119 kx119 n119 σ_28 x8_29) fun j187 => (if t_27 = 0 then j187 σ_26 else chk (inb c8_119 4) (chk (inb c8_119 4) (bnd (sL σ_26 22 (ix c8_119) ((σ_26.2 22 (ix c8_119)) + (q3_119 * ((q7_119).toInt64)))) fun (σ_30 : St) => chk (inb c8_119 4) (cl (fX9_price σ_30 q5_119) fun (σ_31 : St) (t_32 : Int32) => chk (inb c8_119 4) (chk (inb c8_119 4) (bnd (sL σ_31 23 (ix c8_119) ((σ_30.2 23 (ix c8_119)) + ((q3_119 * ((q7_119).toInt64)) * (((t_32 - (σ_31.1 2 (ix c8_119)))).toInt64)))) fun (σ_33 : St) => j187 σ_33))))))))
def fX9_buy (σ : St) (p1 : Int32) (p2 : Int32) (p3 : Int64) : Option (St × Unit) :=
  cl (fX9_leastStep σ p2) fun (σ_1 : St) (t_2 : Int32) => bnd t_2 fun (x5_3 : Int32) => (jp (fun (σ_4 : St)   => chk (inb p1 12) (chk (inb p1 12) (bnd (sL σ_4 26 (ix p1) ((σ_4.2 26 (ix p1)) + (p3 * (12 : Int64)))) fun (σ_5 : St) => some (σ_5, ())))) fun j28 => (if x5_3 = (-1 : Int32) then j28 σ_1 else cl (fX9_price σ_1 x5_3) fun (σ_6 : St) (t_7 : Int32) => chk (inb p1 12) ((if t_7 ≤ (σ_6.1 6 (ix p1)) then bnd (0 : Int32) fun (x6_8 : Int32) => bnd (0 : Int32) fun (x7_9 : Int32) => fX9_buy_L49 p1 p2 p3 x5_3 (fun (σ_19 : St) (x6_20 : Int32) (x7_21 : Int32) => cl (fX9_bits σ_19 x6_20) fun (σ_22 : St) (t_23 : Int32) => chk (decide (¬ t_23 = 0)) (bnd ((12 : Int32) / t_23) fun (x7_24 : Int32) => bnd (0 : Int32) fun (x8_25 : Int32) => fX9_buy_L119 p1 p3 x5_3 x6_20 x7_24 (fun (σ_34 : St) (x8_35 : Int32) => chk (inb p1 12) (cl (fX9_price σ_34 x5_3) fun (σ_36 : St) (t_37 : Int32) => chk (inb p1 12) (bnd (sL σ_36 24 (ix p1) ((σ_34.2 24 (ix p1)) + ((p3 * (12 : Int64)) * ((t_37).toInt64)))) fun (σ_38 : St) => chk (inb p1 12) (chk (inb p1 12) (bnd (sL σ_38 25 (ix p1) ((σ_38.2 25 (ix p1)) + (p3 * (12 : Int64)))) fun (σ_39 : St) => some (σ_39, ())))))) FU σ_22 x8_25)) FU σ_6 x6_8 x7_9 else j28 σ_6))))
set_option maxRecDepth 20000 in
set_option maxHeartbeats 4000000 in
theorem sX9_buy_L49 {X : CX} {a : Nat → Nat} {D : va_G} {tI tJ tB : ClassId} {zz : SV} {q1_49 : Int32} {q2_49 : Int32} {q3_49 : Int64} {q5_49 : Int32} {kx49 : St → Int32 → Int32 → Option (St × Unit)} {r : St × Unit} (hX : OKX X (vM a D tI tJ tB zz) cX9_buy 9 RX9 2 44) (hR : ∀ (pc : Nat) (lv : List (Nat × Value)), decode cX9_buy pc = .ok (.return_, 1) → G X (vM a D tI tJ tB zz) 9 r.1 pc lv []) (hkx49 : ∀ (σ : St) (e6_49 : Int32) (e7_49 : Int32), kx49 σ e6_49 e7_49 = some r → G X (vM a D tI tJ tB zz) 9 σ 106 [(0, .ref (a 0)), (1, .int q1_49), (3, .long q3_49), (5, .int q5_49), (6, .int e6_49)] []) : ∀ (n : Nat) (σ : St) (c6_49 : Int32) (c7_49 : Int32), fX9_buy_L49 q1_49 q2_49 q3_49 q5_49 kx49 n σ c6_49 c7_49 = some r → G X (vM a D tI tJ tB zz) 9 σ 49 [(0, .ref (a 0)), (1, .int q1_49), (2, .int q2_49), (3, .long q3_49), (5, .int q5_49), (6, .int c6_49), (7, .int c7_49)] [] := by
  intro n
  induction n with
  | zero => intro σ c6_49 c7_49 h; rw [fX9_buy_L49] at h; exact absurd h (by simp)
  | succ n49 ih49 =>
    intro σ c6_49 c7_49 h
    rw [fX9_buy_L49] at h
    refine g_iload hX 6 dX9_buy_49 rfl ?_
    refine g_aload_n hX 0 dX9_buy_51 rfl rfl ?_
    refine gM_260 hX dX9_buy_52 ?_
    refine g_icmp_ge hX 106 dX9_buy_55 (by decide) h (fun h => ?_) (fun h => ?_)
    · exact g_sub [0, 1, 3, 4, 5] rfl (hkx49 _ _ _ h)
    · refine g_iload_n hX 2 dX9_buy_58 rfl rfl ?_
      refine g_iload hX 6 dX9_buy_59 rfl ?_
      refine g_callSI (As := [.int q2_49, .int c7_49]) (rest := []) hX miX9_has mvX9_has lkX9_195 (by decide) rfl (Nat.le_of_ble_eq_true rfl) rfl dX9_buy_61 (fun τ x ho => kX9_has _ ho) h (fun σ_10 t_11 h => ?_)
      refine jp_inv (P := fun f => ∀ (σ_12 : St) (x6_13 : Int32) , f σ_12 x6_13 = some r → G X (vM a D tI tJ tB zz) 9 σ_12 100 [(0, .ref (a 0)), (1, .int q1_49), (2, .int q2_49), (3, .long q3_49), (5, .int q5_49), (7, .int c7_49), (6, .int x6_13)] []) h (fun σ_12 x6_13 h => ?_) (fun j100 hj100 h => ?_)
      · refine g_iinc (y := (1)) (lv' := fun x7_14 => [(7, .int x7_14), (0, .ref (a 0)), (1, .int q1_49), (2, .int q2_49), (3, .long q3_49), (5, .int q5_49), (6, .int x6_13)]) hX 5 dX9_buy_100 rfl (by decide) (by decide) (fun _ => rfl) h (fun x7_14 h => ?_)
        refine g_goto hX 49 dX9_buy_103 (by decide) ?_
        exact g_sub [1, 2, 3, 4, 5, 6, 0] rfl (ih49 _ _ _ h)
      refine g_if_eq hX 100 dX9_buy_64 (by decide) h (fun h => ?_) (fun h => ?_)
      · exact g_sub [0, 1, 2, 3, 4, 6, 5] rfl (hj100 _ _ h)
      · refine g_aload_n hX 0 dX9_buy_67 rfl rfl ?_
        refine gM_88 hX dX9_buy_68 ?_
        refine g_iload hX 6 dX9_buy_71 rfl ?_
        refine alM_21 hX dX9_buy_73 h (fun h => ?_)
        refine g_iload hX 4 dX9_buy_74 rfl ?_
        refine jp_inv (P := fun f => ∀ (σ_15 : St)  , f σ_15 = some r → G X (vM a D tI tJ tB zz) 9 σ_15 91 [(0, .ref (a 0)), (1, .int q1_49), (2, .int q2_49), (3, .long q3_49), (5, .int q5_49), (6, .int c6_49), (7, .int c7_49)] []) h (fun σ_15 h => ?_) (fun j91 hj91 h => ?_)
        · refine g_iload hX 5 dX9_buy_91 rfl ?_
          refine g_iconst hX (1) dX9_buy_93 (by decide) ?_
          refine g_iload hX 6 dX9_buy_94 rfl ?_
          refine g_ishl hX dX9_buy_96 ?_
          refine g_ior hX dX9_buy_97 ?_
          refine g_istore (lv' := fun x6_16 => [(6, .int x6_16), (0, .ref (a 0)), (1, .int q1_49), (2, .int q2_49), (3, .long q3_49), (5, .int q5_49), (7, .int c7_49)]) hX dX9_buy_98 (by decide) (fun _ => rfl) h (fun x6_16 h => ?_)
          exact g_sub [1, 2, 3, 4, 5, 6, 0] rfl (hj100 _ _ h)
        refine g_icmp_eq hX 91 dX9_buy_76 (by decide) h (fun h => ?_) (fun h => ?_)
        · exact g_sub [0, 1, 2, 3, 4, 5, 6] rfl (hj91 _ h)
        · refine g_aload_n hX 0 dX9_buy_79 rfl rfl ?_
          refine gM_275 hX dX9_buy_80 ?_
          refine g_iload hX 6 dX9_buy_83 rfl ?_
          refine g_callSI (As := [.int (σ_10.1 0 37), .int c7_49]) (rest := []) hX miX9_has mvX9_has lkX9_195 (by decide) rfl (Nat.le_of_ble_eq_true rfl) rfl dX9_buy_85 (fun τ x ho => kX9_has _ ho) h (fun σ_17 t_18 h => ?_)
          refine g_if_eq hX 100 dX9_buy_88 (by decide) h (fun h => ?_) (fun h => ?_)
          · exact g_sub [0, 1, 2, 3, 4, 6, 5] rfl (hj100 _ _ h)
          · exact g_sub [0, 1, 2, 3, 4, 5, 6] rfl (hj91 _ h)
set_option maxRecDepth 20000 in
set_option maxHeartbeats 4000000 in
theorem sX9_buy_L119 {X : CX} {a : Nat → Nat} {D : va_G} {tI tJ tB : ClassId} {zz : SV} {q1_119 : Int32} {q3_119 : Int64} {q5_119 : Int32} {q6_119 : Int32} {q7_119 : Int32} {kx119 : St → Int32 → Option (St × Unit)} {r : St × Unit} (hX : OKX X (vM a D tI tJ tB zz) cX9_buy 9 RX9 2 44) (hR : ∀ (pc : Nat) (lv : List (Nat × Value)), decode cX9_buy pc = .ok (.return_, 1) → G X (vM a D tI tJ tB zz) 9 r.1 pc lv []) (hkx119 : ∀ (σ : St) (e8_119 : Int32), kx119 σ e8_119 = some r → G X (vM a D tI tJ tB zz) 9 σ 193 [(0, .ref (a 0)), (1, .int q1_119), (3, .long q3_119), (5, .int q5_119)] []) : ∀ (n : Nat) (σ : St) (c8_119 : Int32), fX9_buy_L119 q1_119 q3_119 q5_119 q6_119 q7_119 kx119 n σ c8_119 = some r → G X (vM a D tI tJ tB zz) 9 σ 119 [(0, .ref (a 0)), (1, .int q1_119), (3, .long q3_119), (5, .int q5_119), (6, .int q6_119), (7, .int q7_119), (8, .int c8_119)] [] := by
  intro n
  induction n with
  | zero => intro σ c8_119 h; rw [fX9_buy_L119] at h; exact absurd h (by simp)
  | succ n119 ih119 =>
    intro σ c8_119 h
    rw [fX9_buy_L119] at h
    refine g_iload hX 6 dX9_buy_119 rfl ?_
    refine g_aload_n hX 0 dX9_buy_121 rfl rfl ?_
    refine gM_260 hX dX9_buy_122 ?_
    refine g_icmp_ge hX 193 dX9_buy_125 (by decide) h (fun h => ?_) (fun h => ?_)
    · exact g_sub [0, 1, 2, 3] rfl (hkx119 _ _ h)
    · refine g_iload hX 4 dX9_buy_128 rfl ?_
      refine g_iload hX 6 dX9_buy_130 rfl ?_
      refine g_callSI (As := [.int q6_119, .int c8_119]) (rest := []) hX miX9_has mvX9_has lkX9_195 (by decide) rfl (Nat.le_of_ble_eq_true rfl) rfl dX9_buy_132 (fun τ x ho => kX9_has _ ho) h (fun σ_26 t_27 h => ?_)
      refine jp_inv (P := fun f => ∀ (σ_28 : St)  , f σ_28 = some r → G X (vM a D tI tJ tB zz) 9 σ_28 187 [(0, .ref (a 0)), (1, .int q1_119), (3, .long q3_119), (5, .int q5_119), (6, .int q6_119), (7, .int q7_119), (8, .int c8_119)] []) h (fun σ_28 h => ?_) (fun j187 hj187 h => ?_)
      · refine g_iinc (y := (1)) (lv' := fun x8_29 => [(8, .int x8_29), (0, .ref (a 0)), (1, .int q1_119), (3, .long q3_119), (5, .int q5_119), (6, .int q6_119), (7, .int q7_119)]) hX 6 dX9_buy_187 rfl (by decide) (by decide) (fun _ => rfl) h (fun x8_29 h => ?_)
        refine g_goto hX 119 dX9_buy_190 (by decide) ?_
        exact g_sub [1, 2, 3, 4, 5, 6, 0] rfl (ih119 _ _ h)
      refine g_if_ne hX 141 dX9_buy_135 (by decide) h (fun h => ?_) (fun h => ?_)
      · refine g_aload_n hX 0 dX9_buy_141 rfl rfl ?_
        refine gM_91 hX dX9_buy_142 ?_
        refine g_iload hX 6 dX9_buy_145 rfl ?_
        refine g_dup2 hX dX9_buy_147 rfl rfl ?_
        refine alM_22 hX dX9_buy_148 h (fun h => ?_)
        refine g_lload_n hX 2 dX9_buy_149 rfl rfl ?_
        refine g_iload hX 5 dX9_buy_150 rfl ?_
        refine g_i2l hX dX9_buy_152 ?_
        refine g_lmul hX dX9_buy_153 ?_
        refine g_ladd hX dX9_buy_154 ?_
        refine asM_22 hX dX9_buy_155 h (fun σ_30 h => ?_)
        refine g_aload_n hX 0 dX9_buy_156 rfl rfl ?_
        refine gM_94 hX dX9_buy_157 ?_
        refine g_iload hX 6 dX9_buy_160 rfl ?_
        refine g_dup2 hX dX9_buy_162 rfl rfl ?_
        refine alM_23 hX dX9_buy_163 h (fun h => ?_)
        refine g_lload_n hX 2 dX9_buy_164 rfl rfl ?_
        refine g_iload hX 5 dX9_buy_165 rfl ?_
        refine g_i2l hX dX9_buy_167 ?_
        refine g_lmul hX dX9_buy_168 ?_
        refine g_aload_n hX 0 dX9_buy_169 rfl rfl ?_
        refine g_iload hX 3 dX9_buy_170 rfl ?_
        refine g_callVI (As := [.int q5_119]) (rest := [.long (q3_119 * ((q7_119).toInt64)), .long (σ_30.2 23 (ix c8_119)), .int c8_119, .ref (a 23)]) hX 0 (Nat.le_of_ble_eq_true rfl) rfl rfl miX9_price mvX9_price lkX9_312 (by decide) rfl (Nat.le_of_ble_eq_true rfl) rfl dX9_buy_172 (fun τ x ho => kX9_price _ ho) h (fun σ_31 t_32 h => ?_)
        refine g_aload_n hX 0 dX9_buy_175 rfl rfl ?_
        refine gM_23 hX dX9_buy_176 ?_
        refine g_iload hX 6 dX9_buy_179 rfl ?_
        refine alM_2 hX dX9_buy_181 h (fun h => ?_)
        refine g_isub hX dX9_buy_182 ?_
        refine g_i2l hX dX9_buy_183 ?_
        refine g_lmul hX dX9_buy_184 ?_
        refine g_ladd hX dX9_buy_185 ?_
        refine asM_23 hX dX9_buy_186 h (fun σ_33 h => ?_)
        exact g_sub [0, 1, 2, 3, 4, 5, 6] rfl (hj187 _ h)
      · refine g_goto hX 187 dX9_buy_138 (by decide) ?_
        exact g_sub [0, 1, 2, 3, 4, 5, 6] rfl (hj187 _ h)
set_option maxRecDepth 20000 in
set_option maxHeartbeats 4000000 in
theorem sX9_buy {X : CX} {a : Nat → Nat} {D : va_G} {tI tJ tB : ClassId} {zz : SV} {σ : St}  {p1 : Int32} {p2 : Int32} {p3 : Int64} {r : St × Unit} (hX : OKX X (vM a D tI tJ tB zz) cX9_buy 9 RX9 2 44) (hR : ∀ (pc : Nat) (lv : List (Nat × Value)), decode cX9_buy pc = .ok (.return_, 1) → G X (vM a D tI tJ tB zz) 9 r.1 pc lv []) (h : fX9_buy σ p1 p2 p3 = some r) : G X (vM a D tI tJ tB zz) 9 σ 0 [(0, .ref (a 0)), (1, .int p1), (2, .int p2), (3, .long p3)] [] := by
  unfold fX9_buy at h
  refine g_aload_n hX 0 dX9_buy_0 rfl rfl ?_
  refine g_iload_n hX 2 dX9_buy_1 rfl rfl ?_
  refine g_callVI (As := [.int p2]) (rest := []) hX 0 (Nat.le_of_ble_eq_true rfl) rfl rfl miX9_leastStep mvX9_leastStep lkX9_309 (by decide) rfl (Nat.le_of_ble_eq_true rfl) rfl dX9_buy_2 (fun τ x ho => kX9_leastStep _ ho) h (fun σ_1 t_2 h => ?_)
  refine g_istore (lv' := fun x5_3 => [(5, .int x5_3), (0, .ref (a 0)), (1, .int p1), (2, .int p2), (3, .long p3)]) hX dX9_buy_5 (by decide) (fun _ => rfl) h (fun x5_3 h => ?_)
  refine g_iload hX 0 dX9_buy_7 rfl ?_
  refine g_iconst hX (-1) dX9_buy_9 (by decide) ?_
  refine jp_inv (P := fun f => ∀ (σ_4 : St)  , f σ_4 = some r → G X (vM a D tI tJ tB zz) 9 σ_4 28 [(0, .ref (a 0)), (1, .int p1), (3, .long p3)] []) h (fun σ_4 h => ?_) (fun j28 hj28 h => ?_)
  · refine g_aload_n hX 0 dX9_buy_28 rfl rfl ?_
    refine gM_103 hX dX9_buy_29 ?_
    refine g_iload_n hX 1 dX9_buy_32 rfl rfl ?_
    refine g_dup2 hX dX9_buy_33 rfl rfl ?_
    refine alM_26 hX dX9_buy_34 h (fun h => ?_)
    refine g_lload_n hX 2 dX9_buy_35 rfl rfl ?_
    refine g_ldc2 hX lkX9_315 dX9_buy_36 ?_
    refine g_lmul hX dX9_buy_39 ?_
    refine g_ladd hX dX9_buy_40 ?_
    refine asM_26 hX dX9_buy_41 h (fun σ_5 h => ?_)
    exact g_retv hR h dX9_buy_42
  refine g_icmp_eq hX 28 dX9_buy_10 (by decide) h (fun h => ?_) (fun h => ?_)
  · exact g_sub [1, 2, 4] rfl (hj28 _ h)
  · refine g_aload_n hX 1 dX9_buy_13 rfl rfl ?_
    refine g_iload hX 0 dX9_buy_14 rfl ?_
    refine g_callVI (As := [.int x5_3]) (rest := []) hX 0 (Nat.le_of_ble_eq_true rfl) rfl rfl miX9_price mvX9_price lkX9_312 (by decide) rfl (Nat.le_of_ble_eq_true rfl) rfl dX9_buy_16 (fun τ x ho => kX9_price _ ho) h (fun σ_6 t_7 h => ?_)
    refine g_aload_n hX 1 dX9_buy_19 rfl rfl ?_
    refine gM_36 hX dX9_buy_20 ?_
    refine g_iload_n hX 2 dX9_buy_23 rfl rfl ?_
    refine alM_6 hX dX9_buy_24 h (fun h => ?_)
    refine g_icmp_le hX 43 dX9_buy_25 (by decide) h (fun h => ?_) (fun h => ?_)
    · refine g_iconst hX (0) dX9_buy_43 (by decide) ?_
      refine g_istore (lv' := fun x6_8 => [(6, .int x6_8), (5, .int x5_3), (0, .ref (a 0)), (1, .int p1), (2, .int p2), (3, .long p3)]) hX dX9_buy_44 (by decide) (fun _ => rfl) h (fun x6_8 h => ?_)
      refine g_iconst hX (0) dX9_buy_46 (by decide) ?_
      refine g_istore (lv' := fun x7_9 => [(7, .int x7_9), (6, .int x6_8), (5, .int x5_3), (0, .ref (a 0)), (1, .int p1), (2, .int p2), (3, .long p3)]) hX dX9_buy_47 (by decide) (fun _ => rfl) h (fun x7_9 h => ?_)
      refine g_sub [3, 4, 5, 6, 2, 1, 0] rfl (sX9_buy_L49 hX hR (fun σ_19 x6_20 x7_21 h => ?_) FU _ _ _ h)
      refine g_bipush hX (12) dX9_buy_106 (by decide) ?_
      refine g_iload hX 4 dX9_buy_108 rfl ?_
      refine g_callSI (As := [.int x6_20]) (rest := [.int (12 : Int32)]) hX miX9_bits mvX9_bits lkX9_317 (by decide) rfl (Nat.le_of_ble_eq_true rfl) rfl dX9_buy_110 (fun τ x ho => kX9_bits _ ho) h (fun σ_22 t_23 h => ?_)
      refine g_idiv hX dX9_buy_113 h (fun h => ?_)
      refine g_istore (lv' := fun x7_24 => [(7, .int x7_24), (0, .ref (a 0)), (1, .int p1), (3, .long p3), (5, .int x5_3), (6, .int x6_20)]) hX dX9_buy_114 (by decide) (fun _ => rfl) h (fun x7_24 h => ?_)
      refine g_iconst hX (0) dX9_buy_116 (by decide) ?_
      refine g_istore (lv' := fun x8_25 => [(8, .int x8_25), (7, .int x7_24), (0, .ref (a 0)), (1, .int p1), (3, .long p3), (5, .int x5_3), (6, .int x6_20)]) hX dX9_buy_117 (by decide) (fun _ => rfl) h (fun x8_25 h => ?_)
      refine g_sub [2, 3, 4, 5, 6, 1, 0] rfl (sX9_buy_L119 hX hR (fun σ_34 x8_35 h => ?_) FU _ _ h)
      refine g_aload_n hX 0 dX9_buy_193 rfl rfl ?_
      refine gM_97 hX dX9_buy_194 ?_
      refine g_iload_n hX 1 dX9_buy_197 rfl rfl ?_
      refine g_dup2 hX dX9_buy_198 rfl rfl ?_
      refine alM_24 hX dX9_buy_199 h (fun h => ?_)
      refine g_lload_n hX 2 dX9_buy_200 rfl rfl ?_
      refine g_ldc2 hX lkX9_315 dX9_buy_201 ?_
      refine g_lmul hX dX9_buy_204 ?_
      refine g_aload_n hX 0 dX9_buy_205 rfl rfl ?_
      refine g_iload hX 3 dX9_buy_206 rfl ?_
      refine g_callVI (As := [.int x5_3]) (rest := [.long (p3 * (12 : Int64)), .long (σ_34.2 24 (ix p1)), .int p1, .ref (a 24)]) hX 0 (Nat.le_of_ble_eq_true rfl) rfl rfl miX9_price mvX9_price lkX9_312 (by decide) rfl (Nat.le_of_ble_eq_true rfl) rfl dX9_buy_208 (fun τ x ho => kX9_price _ ho) h (fun σ_36 t_37 h => ?_)
      refine g_i2l hX dX9_buy_211 ?_
      refine g_lmul hX dX9_buy_212 ?_
      refine g_ladd hX dX9_buy_213 ?_
      refine asM_24 hX dX9_buy_214 h (fun σ_38 h => ?_)
      refine g_aload_n hX 0 dX9_buy_215 rfl rfl ?_
      refine gM_100 hX dX9_buy_216 ?_
      refine g_iload_n hX 1 dX9_buy_219 rfl rfl ?_
      refine g_dup2 hX dX9_buy_220 rfl rfl ?_
      refine alM_25 hX dX9_buy_221 h (fun h => ?_)
      refine g_lload_n hX 2 dX9_buy_222 rfl rfl ?_
      refine g_ldc2 hX lkX9_315 dX9_buy_223 ?_
      refine g_lmul hX dX9_buy_226 ?_
      refine g_ladd hX dX9_buy_227 ?_
      refine asM_25 hX dX9_buy_228 h (fun σ_39 h => ?_)
      exact g_retv hR h dX9_buy_229
    · exact g_sub [1, 2, 4] rfl (hj28 _ h)
set_option maxRecDepth 20000 in
set_option maxHeartbeats 4000000 in
theorem kX9_buy (l : Launch) {a : Nat → Nat} {D : va_G} {tI tJ tB : ClassId} {zz : SV} {σ τ : St}  {p1 : Int32} {p2 : Int32} {p3 : Int64} {x : Unit} (h : fX9_buy σ p1 p2 p3 = some (τ, x)) : CtV l yX9_buy cX9_buy 9 none 2 44 (vM a D tI tJ tB zz) σ [.ref (a 0), .int p1, .int p2, .long p3] τ x := g_metV (by decide) (Nat.le_of_ble_eq_true rfl) rfl (fun X _ hX hR => sX9_buy (r := (τ, x)) hX hR h)
def fX9_everyone (σ : St)  : Option (St × Int32) :=
  some (σ, (((1 : Int32) <<< ((σ.1 0 0) &&& 31)) - (1 : Int32)))
set_option maxRecDepth 20000 in
set_option maxHeartbeats 4000000 in
theorem sX9_everyone {X : CX} {a : Nat → Nat} {D : va_G} {tI tJ tB : ClassId} {zz : SV} {σ : St}   {r : St × Int32} (hX : OKX X (vM a D tI tJ tB zz) cX9_everyone 1 RX9 0 0) (hR : ∀ (pc : Nat) (lv : List (Nat × Value)), decode cX9_everyone pc = .ok (.ireturn, 1) → G X (vM a D tI tJ tB zz) 1 r.1 pc lv [.int r.2]) (h : fX9_everyone σ  = some r) : G X (vM a D tI tJ tB zz) 1 σ 0 [(0, .ref (a 0))] [] := by
  unfold fX9_everyone at h
  refine g_iconst hX (1) dX9_everyone_0 (by decide) ?_
  refine g_aload_n hX 0 dX9_everyone_1 rfl rfl ?_
  refine gM_260 hX dX9_everyone_2 ?_
  refine g_ishl hX dX9_everyone_5 ?_
  refine g_iconst hX (1) dX9_everyone_6 (by decide) ?_
  refine g_isub hX dX9_everyone_7 ?_
  exact g_reti hR h dX9_everyone_8
set_option maxRecDepth 20000 in
set_option maxHeartbeats 4000000 in
theorem kX9_everyone (l : Launch) {a : Nat → Nat} {D : va_G} {tI tJ tB : ClassId} {zz : SV} {σ τ : St}   {x : Int32} (h : fX9_everyone σ  = some (τ, x)) : CtI l yX9_everyone cX9_everyone 1 (some .int) 0 0 (vM a D tI tJ tB zz) σ [.ref (a 0)] τ x := g_metI (by decide) (Nat.le_of_ble_eq_true rfl) rfl (fun X _ hX hR => sX9_everyone (r := (τ, x)) hX hR h)
def fX9_sortBuys_L91 (q1_91 : Int32) (q2_91 : Int64) (kx91 : St → Int32 → Option (St × Unit)) : Nat → St → Int32 → Option (St × Unit)
  | 0, _, _ => none
  | n91 + 1, σ, c4_91 =>
    cl (fX9_everyone σ ) fun (σ_18 : St) (t_19 : Int32) => (if t_19 < c4_91 then kx91 σ_18 c4_91 else cl (fX9_bits σ_18 c4_91) fun (σ_20 : St) (t_21 : Int32) => chk (inb q1_91 12) ((jp (fun (σ_22 : St)   => bnd (c4_91 + (1 : Int32)) fun (x4_23 : Int32) => fX9_sortBuys_L91 q1_91 q2_91 kx91 n91 σ_22 x4_23) fun j136 => (if t_21 = (σ_20.1 5 (ix q1_91)) then cl (fX9_isShouted σ_20 ) fun (σ_24 : St) (t_25 : Int32) => (jp (fun (σ_26 : St)  (t_27 : Int32) => cl (fX9_buy σ_26 q1_91 t_27 q2_91) fun (σ_28 : St) (t_29 : Unit) => j136 σ_28) fun j132 => (if t_25 = 0 then j132 σ_24 c4_91 else cl (fX9_everyone σ_24 ) fun (σ_30 : St) (t_31 : Int32) => j132 σ_30 t_31)) else j136 σ_20))))
def fX9_sortBuys (σ : St) (p1 : Int32) (p2 : Int64) : Option (St × Unit) :=
  chk (inb p1 12) ((if (σ.1 3 (ix p1)) = 0 then cl (fX9_isShouted σ ) fun (σ_1 : St) (t_2 : Int32) => (jp (fun (σ_3 : St)  (t_4 : Int32) => cl (fX9_buy σ_3 p1 t_4 p2) fun (σ_5 : St) (t_6 : Unit) => some (σ_5, ())) fun j54 => (if t_2 = 0 then chk (inb p1 12) (j54 σ_1 (σ_1.1 27 (ix p1))) else cl (fX9_everyone σ_1 ) fun (σ_7 : St) (t_8 : Int32) => j54 σ_7 t_8)) else (if (σ.1 3 (ix p1)) = 2 then cl (fX9_isShouted σ ) fun (σ_9 : St) (t_10 : Int32) => (jp (fun (σ_11 : St)  (t_12 : Int32) => cl (fX9_buy σ_11 p1 t_12 p2) fun (σ_13 : St) (t_14 : Unit) => some (σ_13, ())) fun j81 => (if t_10 = 0 then j81 σ_9 (σ_9.1 0 6) else cl (fX9_everyone σ_9 ) fun (σ_15 : St) (t_16 : Int32) => j81 σ_15 t_16)) else bnd (1 : Int32) fun (x4_17 : Int32) => fX9_sortBuys_L91 p1 p2 (fun (σ_32 : St) (x4_33 : Int32) => some (σ_32, ())) FU σ x4_17)))
set_option maxRecDepth 20000 in
set_option maxHeartbeats 4000000 in
theorem sX9_sortBuys_L91 {X : CX} {a : Nat → Nat} {D : va_G} {tI tJ tB : ClassId} {zz : SV} {q1_91 : Int32} {q2_91 : Int64} {kx91 : St → Int32 → Option (St × Unit)} {r : St × Unit} (hX : OKX X (vM a D tI tJ tB zz) cX9_sortBuys 5 RX9 3 72) (hR : ∀ (pc : Nat) (lv : List (Nat × Value)), decode cX9_sortBuys pc = .ok (.return_, 1) → G X (vM a D tI tJ tB zz) 5 r.1 pc lv []) (hkx91 : ∀ (σ : St) (e4_91 : Int32), kx91 σ e4_91 = some r → G X (vM a D tI tJ tB zz) 5 σ 142 [] []) : ∀ (n : Nat) (σ : St) (c4_91 : Int32), fX9_sortBuys_L91 q1_91 q2_91 kx91 n σ c4_91 = some r → G X (vM a D tI tJ tB zz) 5 σ 91 [(0, .ref (a 0)), (1, .int q1_91), (2, .long q2_91), (4, .int c4_91)] [] := by
  intro n
  induction n with
  | zero => intro σ c4_91 h; rw [fX9_sortBuys_L91] at h; exact absurd h (by simp)
  | succ n91 ih91 =>
    intro σ c4_91 h
    rw [fX9_sortBuys_L91] at h
    refine g_iload hX 3 dX9_sortBuys_91 rfl ?_
    refine g_aload_n hX 0 dX9_sortBuys_93 rfl rfl ?_
    refine g_callVI (As := []) (rest := [.int c4_91]) hX 0 (Nat.le_of_ble_eq_true rfl) rfl rfl miX9_everyone mvX9_everyone lkX9_323 (by decide) rfl (Nat.le_of_ble_eq_true rfl) rfl dX9_sortBuys_94 (fun τ x ho => kX9_everyone _ ho) h (fun σ_18 t_19 h => ?_)
    refine g_icmp_gt hX 142 dX9_sortBuys_97 (by decide) h (fun h => ?_) (fun h => ?_)
    · exact g_sub [] rfl (hkx91 _ _ h)
    · refine g_iload hX 3 dX9_sortBuys_100 rfl ?_
      refine g_callSI (As := [.int c4_91]) (rest := []) hX miX9_bits mvX9_bits lkX9_317 (by decide) rfl (Nat.le_of_ble_eq_true rfl) rfl dX9_sortBuys_102 (fun τ x ho => kX9_bits _ ho) h (fun σ_20 t_21 h => ?_)
      refine g_aload_n hX 0 dX9_sortBuys_105 rfl rfl ?_
      refine gM_33 hX dX9_sortBuys_106 ?_
      refine g_iload_n hX 1 dX9_sortBuys_109 rfl rfl ?_
      refine alM_5 hX dX9_sortBuys_110 h (fun h => ?_)
      refine jp_inv (P := fun f => ∀ (σ_22 : St)  , f σ_22 = some r → G X (vM a D tI tJ tB zz) 5 σ_22 136 [(0, .ref (a 0)), (1, .int q1_91), (2, .long q2_91), (4, .int c4_91)] []) h (fun σ_22 h => ?_) (fun j136 hj136 h => ?_)
      · refine g_iinc (y := (1)) (lv' := fun x4_23 => [(4, .int x4_23), (0, .ref (a 0)), (1, .int q1_91), (2, .long q2_91)]) hX 3 dX9_sortBuys_136 rfl (by decide) (by decide) (fun _ => rfl) h (fun x4_23 h => ?_)
        refine g_goto hX 91 dX9_sortBuys_139 (by decide) ?_
        exact g_sub [1, 2, 3, 0] rfl (ih91 _ _ h)
      refine g_icmp_ne hX 136 dX9_sortBuys_111 (by decide) h (fun h => ?_) (fun h => ?_)
      · exact g_sub [0, 1, 2, 3] rfl (hj136 _ h)
      · refine g_aload_n hX 0 dX9_sortBuys_114 rfl rfl ?_
        refine g_iload_n hX 1 dX9_sortBuys_115 rfl rfl ?_
        refine g_aload_n hX 0 dX9_sortBuys_116 rfl rfl ?_
        refine g_callVI (As := []) (rest := [.int q1_91, .ref (a 0)]) hX 0 (Nat.le_of_ble_eq_true rfl) rfl rfl miX9_isShouted mvX9_isShouted lkX9_320 (by decide) rfl (Nat.le_of_ble_eq_true rfl) rfl dX9_sortBuys_117 (fun τ x ho => kX9_isShouted _ ho) h (fun σ_24 t_25 h => ?_)
        refine jp_inv (P := fun f => ∀ (σ_26 : St)  (t_27 : Int32), f σ_26 t_27 = some r → G X (vM a D tI tJ tB zz) 5 σ_26 132 [(0, .ref (a 0)), (1, .int q1_91), (2, .long q2_91), (4, .int c4_91)] [.int t_27, .int q1_91, .ref (a 0)]) h (fun σ_26 t_27 h => ?_) (fun j132 hj132 h => ?_)
        · refine g_lload_n hX 2 dX9_sortBuys_132 rfl rfl ?_
          refine g_callVV (As := [.int q1_91, .int t_27, .long q2_91]) (rest := []) hX 0 (Nat.le_of_ble_eq_true rfl) rfl rfl miX9_buy mvX9_buy lkX9_327 (by decide) rfl (Nat.le_of_ble_eq_true rfl) rfl dX9_sortBuys_133 (fun τ x ho => kX9_buy _ ho) h (fun σ_28 t_29 h => ?_)
          exact g_sub [0, 1, 2, 3] rfl (hj136 _ h)
        refine g_if_eq hX 130 dX9_sortBuys_120 (by decide) h (fun h => ?_) (fun h => ?_)
        · refine g_iload hX 3 dX9_sortBuys_130 rfl ?_
          exact g_sub [0, 1, 2, 3] rfl (hj132 _ _ h)
        · refine g_aload_n hX 0 dX9_sortBuys_123 rfl rfl ?_
          refine g_callVI (As := []) (rest := [.int q1_91, .ref (a 0)]) hX 0 (Nat.le_of_ble_eq_true rfl) rfl rfl miX9_everyone mvX9_everyone lkX9_323 (by decide) rfl (Nat.le_of_ble_eq_true rfl) rfl dX9_sortBuys_124 (fun τ x ho => kX9_everyone _ ho) h (fun σ_30 t_31 h => ?_)
          refine g_goto hX 132 dX9_sortBuys_127 (by decide) ?_
          exact g_sub [0, 1, 2, 3] rfl (hj132 _ _ h)
set_option maxRecDepth 20000 in
set_option maxHeartbeats 4000000 in
theorem sX9_sortBuys {X : CX} {a : Nat → Nat} {D : va_G} {tI tJ tB : ClassId} {zz : SV} {σ : St}  {p1 : Int32} {p2 : Int64} {r : St × Unit} (hX : OKX X (vM a D tI tJ tB zz) cX9_sortBuys 5 RX9 3 72) (hR : ∀ (pc : Nat) (lv : List (Nat × Value)), decode cX9_sortBuys pc = .ok (.return_, 1) → G X (vM a D tI tJ tB zz) 5 r.1 pc lv []) (h : fX9_sortBuys σ p1 p2 = some r) : G X (vM a D tI tJ tB zz) 5 σ 0 [(0, .ref (a 0)), (1, .int p1), (2, .long p2)] [] := by
  unfold fX9_sortBuys at h
  refine g_aload_n hX 0 dX9_sortBuys_0 rfl rfl ?_
  refine gM_27 hX dX9_sortBuys_1 ?_
  refine g_iload_n hX 1 dX9_sortBuys_4 rfl rfl ?_
  refine alM_3 hX dX9_sortBuys_5 h (fun h => ?_)
  refine ite_go h (fun hq h => ?_) (fun hs6_0 h => ?_)
  · refine g_lookIn (off := 26) (0) hX 32 hq dX9_sortBuys_6 (by decide) (by decide) (by decide) ?_
    refine g_aload_n hX 0 dX9_sortBuys_32 rfl rfl ?_
    refine g_iload_n hX 1 dX9_sortBuys_33 rfl rfl ?_
    refine g_aload_n hX 0 dX9_sortBuys_34 rfl rfl ?_
    refine g_callVI (As := []) (rest := [.int p1, .ref (a 0)]) hX 0 (Nat.le_of_ble_eq_true rfl) rfl rfl miX9_isShouted mvX9_isShouted lkX9_320 (by decide) rfl (Nat.le_of_ble_eq_true rfl) rfl dX9_sortBuys_35 (fun τ x ho => kX9_isShouted _ ho) h (fun σ_1 t_2 h => ?_)
    refine jp_inv (P := fun f => ∀ (σ_3 : St)  (t_4 : Int32), f σ_3 t_4 = some r → G X (vM a D tI tJ tB zz) 5 σ_3 54 [(2, .long p2)] [.int t_4, .int p1, .ref (a 0)]) h (fun σ_3 t_4 h => ?_) (fun j54 hj54 h => ?_)
    · refine g_lload_n hX 0 dX9_sortBuys_54 rfl rfl ?_
      refine g_callVV (As := [.int p1, .int t_4, .long p2]) (rest := []) hX 0 (Nat.le_of_ble_eq_true rfl) rfl rfl miX9_buy mvX9_buy lkX9_327 (by decide) rfl (Nat.le_of_ble_eq_true rfl) rfl dX9_sortBuys_55 (fun τ x ho => kX9_buy _ ho) h (fun σ_5 t_6 h => ?_)
      refine g_goto hX 142 dX9_sortBuys_58 (by decide) ?_
      exact g_retv hR h dX9_sortBuys_142
    refine g_if_eq hX 48 dX9_sortBuys_38 (by decide) h (fun h => ?_) (fun h => ?_)
    · refine g_aload_n hX 0 dX9_sortBuys_48 rfl rfl ?_
      refine gM_106 hX dX9_sortBuys_49 ?_
      refine g_iload_n hX 1 dX9_sortBuys_52 rfl rfl ?_
      refine alM_27 hX dX9_sortBuys_53 h (fun h => ?_)
      exact g_sub [2] rfl (hj54 _ _ h)
    · refine g_aload_n hX 0 dX9_sortBuys_41 rfl rfl ?_
      refine g_callVI (As := []) (rest := [.int p1, .ref (a 0)]) hX 0 (Nat.le_of_ble_eq_true rfl) rfl rfl miX9_everyone mvX9_everyone lkX9_323 (by decide) rfl (Nat.le_of_ble_eq_true rfl) rfl dX9_sortBuys_42 (fun τ x ho => kX9_everyone _ ho) h (fun σ_7 t_8 h => ?_)
      refine g_goto hX 54 dX9_sortBuys_45 (by decide) ?_
      exact g_sub [2] rfl (hj54 _ _ h)
  refine ite_go h (fun hq h => ?_) (fun hs6_1 h => ?_)
  · refine g_lookIn (off := 55) (2) hX 61 hq dX9_sortBuys_6 (by decide) (by decide) (by decide) ?_
    refine g_aload_n hX 0 dX9_sortBuys_61 rfl rfl ?_
    refine g_iload_n hX 1 dX9_sortBuys_62 rfl rfl ?_
    refine g_aload_n hX 0 dX9_sortBuys_63 rfl rfl ?_
    refine g_callVI (As := []) (rest := [.int p1, .ref (a 0)]) hX 0 (Nat.le_of_ble_eq_true rfl) rfl rfl miX9_isShouted mvX9_isShouted lkX9_320 (by decide) rfl (Nat.le_of_ble_eq_true rfl) rfl dX9_sortBuys_64 (fun τ x ho => kX9_isShouted _ ho) h (fun σ_9 t_10 h => ?_)
    refine jp_inv (P := fun f => ∀ (σ_11 : St)  (t_12 : Int32), f σ_11 t_12 = some r → G X (vM a D tI tJ tB zz) 5 σ_11 81 [(2, .long p2)] [.int t_12, .int p1, .ref (a 0)]) h (fun σ_11 t_12 h => ?_) (fun j81 hj81 h => ?_)
    · refine g_lload_n hX 0 dX9_sortBuys_81 rfl rfl ?_
      refine g_callVV (As := [.int p1, .int t_12, .long p2]) (rest := []) hX 0 (Nat.le_of_ble_eq_true rfl) rfl rfl miX9_buy mvX9_buy lkX9_327 (by decide) rfl (Nat.le_of_ble_eq_true rfl) rfl dX9_sortBuys_82 (fun τ x ho => kX9_buy _ ho) h (fun σ_13 t_14 h => ?_)
      refine g_goto hX 142 dX9_sortBuys_85 (by decide) ?_
      exact g_retv hR h dX9_sortBuys_142
    refine g_if_eq hX 77 dX9_sortBuys_67 (by decide) h (fun h => ?_) (fun h => ?_)
    · refine g_aload_n hX 0 dX9_sortBuys_77 rfl rfl ?_
      refine gM_269 hX dX9_sortBuys_78 ?_
      exact g_sub [2] rfl (hj81 _ _ h)
    · refine g_aload_n hX 0 dX9_sortBuys_70 rfl rfl ?_
      refine g_callVI (As := []) (rest := [.int p1, .ref (a 0)]) hX 0 (Nat.le_of_ble_eq_true rfl) rfl rfl miX9_everyone mvX9_everyone lkX9_323 (by decide) rfl (Nat.le_of_ble_eq_true rfl) rfl dX9_sortBuys_71 (fun τ x ho => kX9_everyone _ ho) h (fun σ_15 t_16 h => ?_)
      refine g_goto hX 81 dX9_sortBuys_74 (by decide) ?_
      exact g_sub [2] rfl (hj81 _ _ h)
  refine g_look (off := 82) hX 88 dX9_sortBuys_6 (by decide) (by have k0 := sw_ne hs6_0 (n := 0) (by decide); have k1 := sw_ne hs6_1 (n := 2) (by decide); simp only [Op.lookupswitch.offset_cons, Op.lookupswitch.offset_nil]; rw [if_neg (Ne.symm k0), if_neg (Ne.symm k1)]) (by decide) ?_
  refine g_iconst hX (1) dX9_sortBuys_88 (by decide) ?_
  refine g_istore (lv' := fun x4_17 => [(4, .int x4_17), (0, .ref (a 0)), (1, .int p1), (2, .long p2)]) hX dX9_sortBuys_89 (by decide) (fun _ => rfl) h (fun x4_17 h => ?_)
  refine g_sub [1, 2, 3, 0] rfl (sX9_sortBuys_L91 hX hR (fun σ_32 x4_33 h => ?_) FU _ _ h)
  exact g_retv hR h dX9_sortBuys_142
set_option maxRecDepth 20000 in
set_option maxHeartbeats 4000000 in
theorem kX9_sortBuys (l : Launch) {a : Nat → Nat} {D : va_G} {tI tJ tB : ClassId} {zz : SV} {σ τ : St}  {p1 : Int32} {p2 : Int64} {x : Unit} (h : fX9_sortBuys σ p1 p2 = some (τ, x)) : CtV l yX9_sortBuys cX9_sortBuys 5 none 3 72 (vM a D tI tJ tB zz) σ [.ref (a 0), .int p1, .long p2] τ x := g_metV (by decide) (Nat.le_of_ble_eq_true rfl) rfl (fun X _ hX hR => sX9_sortBuys (r := (τ, x)) hX hR h)
def fX9_knocks_L2  (kx2 : St → Int32 → Option (St × Unit)) : Nat → St → Int32 → Option (St × Unit)
  | 0, _, _ => none
  | n2 + 1, σ, c1_2 =>
    (if (σ.1 0 1) ≤ c1_2 then kx2 σ c1_2 else chk (inb c1_2 12) (chk (inb c1_2 12) (bnd (sI σ 27 (ix c1_2) (σ.1 5 (ix c1_2))) fun (σ_2 : St) => bnd (c1_2 + (1 : Int32)) fun (x1_3 : Int32) => fX9_knocks_L2 kx2 n2 σ_2 x1_3)))
def fX9_knocks (σ : St)  : Option (St × Unit) :=
  bnd (0 : Int32) fun (x1_1 : Int32) => fX9_knocks_L2  (fun (σ_4 : St) (x1_5 : Int32) => some (σ_4, ())) FU σ x1_1
set_option maxRecDepth 20000 in
set_option maxHeartbeats 4000000 in
theorem sX9_knocks_L2 {X : CX} {a : Nat → Nat} {D : va_G} {tI tJ tB : ClassId} {zz : SV}  {kx2 : St → Int32 → Option (St × Unit)} {r : St × Unit} (hX : OKX X (vM a D tI tJ tB zz) cX9_knocks 2 RX9 0 0) (hR : ∀ (pc : Nat) (lv : List (Nat × Value)), decode cX9_knocks pc = .ok (.return_, 1) → G X (vM a D tI tJ tB zz) 2 r.1 pc lv []) (hkx2 : ∀ (σ : St) (e1_2 : Int32), kx2 σ e1_2 = some r → G X (vM a D tI tJ tB zz) 2 σ 28 [] []) : ∀ (n : Nat) (σ : St) (c1_2 : Int32), fX9_knocks_L2 kx2 n σ c1_2 = some r → G X (vM a D tI tJ tB zz) 2 σ 2 [(0, .ref (a 0)), (1, .int c1_2)] [] := by
  intro n
  induction n with
  | zero => intro σ c1_2 h; rw [fX9_knocks_L2] at h; exact absurd h (by simp)
  | succ n2 ih2 =>
    intro σ c1_2 h
    rw [fX9_knocks_L2] at h
    refine g_iload_n hX 1 dX9_knocks_2 rfl rfl ?_
    refine g_aload_n hX 0 dX9_knocks_3 rfl rfl ?_
    refine gM_263 hX dX9_knocks_4 ?_
    refine g_icmp_ge hX 28 dX9_knocks_7 (by decide) h (fun h => ?_) (fun h => ?_)
    · exact g_sub [] rfl (hkx2 _ _ h)
    · refine g_aload_n hX 0 dX9_knocks_10 rfl rfl ?_
      refine gM_106 hX dX9_knocks_11 ?_
      refine g_iload_n hX 1 dX9_knocks_14 rfl rfl ?_
      refine g_aload_n hX 0 dX9_knocks_15 rfl rfl ?_
      refine gM_33 hX dX9_knocks_16 ?_
      refine g_iload_n hX 1 dX9_knocks_19 rfl rfl ?_
      refine alM_5 hX dX9_knocks_20 h (fun h => ?_)
      refine asM_27 hX dX9_knocks_21 h (fun σ_2 h => ?_)
      refine g_iinc (y := (1)) (lv' := fun x1_3 => [(1, .int x1_3), (0, .ref (a 0))]) hX 1 dX9_knocks_22 rfl (by decide) (by decide) (fun _ => rfl) h (fun x1_3 h => ?_)
      refine g_goto hX 2 dX9_knocks_25 (by decide) ?_
      exact g_sub [1, 0] rfl (ih2 _ _ h)
set_option maxRecDepth 20000 in
set_option maxHeartbeats 4000000 in
theorem sX9_knocks {X : CX} {a : Nat → Nat} {D : va_G} {tI tJ tB : ClassId} {zz : SV} {σ : St}   {r : St × Unit} (hX : OKX X (vM a D tI tJ tB zz) cX9_knocks 2 RX9 0 0) (hR : ∀ (pc : Nat) (lv : List (Nat × Value)), decode cX9_knocks pc = .ok (.return_, 1) → G X (vM a D tI tJ tB zz) 2 r.1 pc lv []) (h : fX9_knocks σ  = some r) : G X (vM a D tI tJ tB zz) 2 σ 0 [(0, .ref (a 0))] [] := by
  unfold fX9_knocks at h
  refine g_iconst hX (0) dX9_knocks_0 (by decide) ?_
  refine g_istore_n (lv' := fun x1_1 => [(1, .int x1_1), (0, .ref (a 0))]) hX dX9_knocks_1 rfl (by decide) (fun _ => rfl) h (fun x1_1 h => ?_)
  refine g_sub [1, 0] rfl (sX9_knocks_L2 hX hR (fun σ_4 x1_5 h => ?_) FU _ _ h)
  exact g_retv hR h dX9_knocks_28
set_option maxRecDepth 20000 in
set_option maxHeartbeats 4000000 in
theorem kX9_knocks (l : Launch) {a : Nat → Nat} {D : va_G} {tI tJ tB : ClassId} {zz : SV} {σ τ : St}   {x : Unit} (h : fX9_knocks σ  = some (τ, x)) : CtV l yX9_knocks cX9_knocks 2 none 0 0 (vM a D tI tJ tB zz) σ [.ref (a 0)] τ x := g_metV (by decide) (Nat.le_of_ble_eq_true rfl) rfl (fun X _ hX hR => sX9_knocks (r := (τ, x)) hX hR h)
def fX9_rowBuys_L2  (kx2 : St → Int32 → Option (St × Unit)) : Nat → St → Int32 → Option (St × Unit)
  | 0, _, _ => none
  | n2 + 1, σ, c1_2 =>
    (if (σ.1 0 1) ≤ c1_2 then kx2 σ c1_2 else chk (inb c1_2 12) (cl (fX9_sortBuys σ c1_2 ((σ.2 0 47) * (((σ.1 4 (ix c1_2))).toInt64))) fun (σ_2 : St) (t_3 : Unit) => bnd (c1_2 + (1 : Int32)) fun (x1_4 : Int32) => fX9_rowBuys_L2 kx2 n2 σ_2 x1_4))
def fX9_rowBuys (σ : St)  : Option (St × Unit) :=
  bnd (0 : Int32) fun (x1_1 : Int32) => fX9_rowBuys_L2  (fun (σ_5 : St) (x1_6 : Int32) => some (σ_5, ())) FU σ x1_1
set_option maxRecDepth 20000 in
set_option maxHeartbeats 4000000 in
theorem sX9_rowBuys_L2 {X : CX} {a : Nat → Nat} {D : va_G} {tI tJ tB : ClassId} {zz : SV}  {kx2 : St → Int32 → Option (St × Unit)} {r : St × Unit} (hX : OKX X (vM a D tI tJ tB zz) cX9_rowBuys 2 RX9 4 96) (hR : ∀ (pc : Nat) (lv : List (Nat × Value)), decode cX9_rowBuys pc = .ok (.return_, 1) → G X (vM a D tI tJ tB zz) 2 r.1 pc lv []) (hkx2 : ∀ (σ : St) (e1_2 : Int32), kx2 σ e1_2 = some r → G X (vM a D tI tJ tB zz) 2 σ 33 [] []) : ∀ (n : Nat) (σ : St) (c1_2 : Int32), fX9_rowBuys_L2 kx2 n σ c1_2 = some r → G X (vM a D tI tJ tB zz) 2 σ 2 [(0, .ref (a 0)), (1, .int c1_2)] [] := by
  intro n
  induction n with
  | zero => intro σ c1_2 h; rw [fX9_rowBuys_L2] at h; exact absurd h (by simp)
  | succ n2 ih2 =>
    intro σ c1_2 h
    rw [fX9_rowBuys_L2] at h
    refine g_iload_n hX 1 dX9_rowBuys_2 rfl rfl ?_
    refine g_aload_n hX 0 dX9_rowBuys_3 rfl rfl ?_
    refine gM_263 hX dX9_rowBuys_4 ?_
    refine g_icmp_ge hX 33 dX9_rowBuys_7 (by decide) h (fun h => ?_) (fun h => ?_)
    · exact g_sub [] rfl (hkx2 _ _ h)
    · refine g_aload_n hX 0 dX9_rowBuys_10 rfl rfl ?_
      refine g_iload_n hX 1 dX9_rowBuys_11 rfl rfl ?_
      refine g_aload_n hX 0 dX9_rowBuys_12 rfl rfl ?_
      refine gM_331 hX dX9_rowBuys_13 ?_
      refine g_aload_n hX 0 dX9_rowBuys_16 rfl rfl ?_
      refine gM_30 hX dX9_rowBuys_17 ?_
      refine g_iload_n hX 1 dX9_rowBuys_20 rfl rfl ?_
      refine alM_4 hX dX9_rowBuys_21 h (fun h => ?_)
      refine g_i2l hX dX9_rowBuys_22 ?_
      refine g_lmul hX dX9_rowBuys_23 ?_
      refine g_callVV (As := [.int c1_2, .long ((σ.2 0 47) * (((σ.1 4 (ix c1_2))).toInt64))]) (rest := []) hX 0 (Nat.le_of_ble_eq_true rfl) rfl rfl miX9_sortBuys mvX9_sortBuys lkX9_335 (by decide) rfl (Nat.le_of_ble_eq_true rfl) rfl dX9_rowBuys_24 (fun τ x ho => kX9_sortBuys _ ho) h (fun σ_2 t_3 h => ?_)
      refine g_iinc (y := (1)) (lv' := fun x1_4 => [(1, .int x1_4), (0, .ref (a 0))]) hX 1 dX9_rowBuys_27 rfl (by decide) (by decide) (fun _ => rfl) h (fun x1_4 h => ?_)
      refine g_goto hX 2 dX9_rowBuys_30 (by decide) ?_
      exact g_sub [1, 0] rfl (ih2 _ _ h)
set_option maxRecDepth 20000 in
set_option maxHeartbeats 4000000 in
theorem sX9_rowBuys {X : CX} {a : Nat → Nat} {D : va_G} {tI tJ tB : ClassId} {zz : SV} {σ : St}   {r : St × Unit} (hX : OKX X (vM a D tI tJ tB zz) cX9_rowBuys 2 RX9 4 96) (hR : ∀ (pc : Nat) (lv : List (Nat × Value)), decode cX9_rowBuys pc = .ok (.return_, 1) → G X (vM a D tI tJ tB zz) 2 r.1 pc lv []) (h : fX9_rowBuys σ  = some r) : G X (vM a D tI tJ tB zz) 2 σ 0 [(0, .ref (a 0))] [] := by
  unfold fX9_rowBuys at h
  refine g_iconst hX (0) dX9_rowBuys_0 (by decide) ?_
  refine g_istore_n (lv' := fun x1_1 => [(1, .int x1_1), (0, .ref (a 0))]) hX dX9_rowBuys_1 rfl (by decide) (fun _ => rfl) h (fun x1_1 h => ?_)
  refine g_sub [1, 0] rfl (sX9_rowBuys_L2 hX hR (fun σ_5 x1_6 h => ?_) FU _ _ h)
  exact g_retv hR h dX9_rowBuys_33
set_option maxRecDepth 20000 in
set_option maxHeartbeats 4000000 in
theorem kX9_rowBuys (l : Launch) {a : Nat → Nat} {D : va_G} {tI tJ tB : ClassId} {zz : SV} {σ τ : St}   {x : Unit} (h : fX9_rowBuys σ  = some (τ, x)) : CtV l yX9_rowBuys cX9_rowBuys 2 none 4 96 (vM a D tI tJ tB zz) σ [.ref (a 0)] τ x := g_metV (by decide) (Nat.le_of_ble_eq_true rfl) rfl (fun X _ hX hR => sX9_rowBuys (r := (τ, x)) hX hR h)
def fX9_rows_L4  (kx4 : St → Int32 → Int32 → Option (St × Int32)) : Nat → St → Int32 → Int32 → Option (St × Int32)
  | 0, _, _, _ => none
  | n4 + 1, σ, c1_4, c2_4 =>
    (if (σ.1 0 0) ≤ c2_4 then kx4 σ c1_4 c2_4 else bnd (c1_4 * (8 : Int32)) fun (x1_3 : Int32) => bnd (c2_4 + (1 : Int32)) fun (x2_4 : Int32) => fX9_rows_L4 kx4 n4 σ x1_3 x2_4)
def fX9_rows (σ : St)  : Option (St × Int32) :=
  bnd (1 : Int32) fun (x1_1 : Int32) => bnd (0 : Int32) fun (x2_2 : Int32) => fX9_rows_L4  (fun (σ_5 : St) (x1_6 : Int32) (x2_7 : Int32) => some (σ_5, x1_6)) FU σ x1_1 x2_2
set_option maxRecDepth 20000 in
set_option maxHeartbeats 4000000 in
theorem sX9_rows_L4 {X : CX} {a : Nat → Nat} {D : va_G} {tI tJ tB : ClassId} {zz : SV}  {kx4 : St → Int32 → Int32 → Option (St × Int32)} {r : St × Int32} (hX : OKX X (vM a D tI tJ tB zz) cX9_rows 3 RX9 0 0) (hR : ∀ (pc : Nat) (lv : List (Nat × Value)), decode cX9_rows pc = .ok (.ireturn, 1) → G X (vM a D tI tJ tB zz) 3 r.1 pc lv [.int r.2]) (hkx4 : ∀ (σ : St) (e1_4 : Int32) (e2_4 : Int32), kx4 σ e1_4 e2_4 = some r → G X (vM a D tI tJ tB zz) 3 σ 23 [(1, .int e1_4)] []) : ∀ (n : Nat) (σ : St) (c1_4 : Int32) (c2_4 : Int32), fX9_rows_L4 kx4 n σ c1_4 c2_4 = some r → G X (vM a D tI tJ tB zz) 3 σ 4 [(0, .ref (a 0)), (1, .int c1_4), (2, .int c2_4)] [] := by
  intro n
  induction n with
  | zero => intro σ c1_4 c2_4 h; rw [fX9_rows_L4] at h; exact absurd h (by simp)
  | succ n4 ih4 =>
    intro σ c1_4 c2_4 h
    rw [fX9_rows_L4] at h
    refine g_iload_n hX 2 dX9_rows_4 rfl rfl ?_
    refine g_aload_n hX 0 dX9_rows_5 rfl rfl ?_
    refine gM_260 hX dX9_rows_6 ?_
    refine g_icmp_ge hX 23 dX9_rows_9 (by decide) h (fun h => ?_) (fun h => ?_)
    · exact g_sub [1] rfl (hkx4 _ _ _ h)
    · refine g_iload_n hX 1 dX9_rows_12 rfl rfl ?_
      refine g_bipush hX (8) dX9_rows_13 (by decide) ?_
      refine g_imul hX dX9_rows_15 ?_
      refine g_istore_n (lv' := fun x1_3 => [(1, .int x1_3), (0, .ref (a 0)), (2, .int c2_4)]) hX dX9_rows_16 rfl (by decide) (fun _ => rfl) h (fun x1_3 h => ?_)
      refine g_iinc (y := (1)) (lv' := fun x2_4 => [(2, .int x2_4), (1, .int x1_3), (0, .ref (a 0))]) hX 2 dX9_rows_17 rfl (by decide) (by decide) (fun _ => rfl) h (fun x2_4 h => ?_)
      refine g_goto hX 4 dX9_rows_20 (by decide) ?_
      exact g_sub [2, 1, 0] rfl (ih4 _ _ _ h)
set_option maxRecDepth 20000 in
set_option maxHeartbeats 4000000 in
theorem sX9_rows {X : CX} {a : Nat → Nat} {D : va_G} {tI tJ tB : ClassId} {zz : SV} {σ : St}   {r : St × Int32} (hX : OKX X (vM a D tI tJ tB zz) cX9_rows 3 RX9 0 0) (hR : ∀ (pc : Nat) (lv : List (Nat × Value)), decode cX9_rows pc = .ok (.ireturn, 1) → G X (vM a D tI tJ tB zz) 3 r.1 pc lv [.int r.2]) (h : fX9_rows σ  = some r) : G X (vM a D tI tJ tB zz) 3 σ 0 [(0, .ref (a 0))] [] := by
  unfold fX9_rows at h
  refine g_iconst hX (1) dX9_rows_0 (by decide) ?_
  refine g_istore_n (lv' := fun x1_1 => [(1, .int x1_1), (0, .ref (a 0))]) hX dX9_rows_1 rfl (by decide) (fun _ => rfl) h (fun x1_1 h => ?_)
  refine g_iconst hX (0) dX9_rows_2 (by decide) ?_
  refine g_istore_n (lv' := fun x2_2 => [(2, .int x2_2), (1, .int x1_1), (0, .ref (a 0))]) hX dX9_rows_3 rfl (by decide) (fun _ => rfl) h (fun x2_2 h => ?_)
  refine g_sub [2, 1, 0] rfl (sX9_rows_L4 hX hR (fun σ_5 x1_6 x2_7 h => ?_) FU _ _ _ h)
  refine g_iload_n hX 0 dX9_rows_23 rfl rfl ?_
  exact g_reti hR h dX9_rows_24
set_option maxRecDepth 20000 in
set_option maxHeartbeats 4000000 in
theorem kX9_rows (l : Launch) {a : Nat → Nat} {D : va_G} {tI tJ tB : ClassId} {zz : SV} {σ τ : St}   {x : Int32} (h : fX9_rows σ  = some (τ, x)) : CtI l yX9_rows cX9_rows 3 (some .int) 0 0 (vM a D tI tJ tB zz) σ [.ref (a 0)] τ x := g_metI (by decide) (Nat.le_of_ble_eq_true rfl) rfl (fun X _ hX hR => sX9_rows (r := (τ, x)) hX hR h)
def fX9_lays__L7 (q1_7 : Int32) (q2_7 : Int32) (kx7 : St → Int32 → Option (St × Unit)) : Nat → St → Int32 → Option (St × Unit)
  | 0, _, _ => none
  | n7 + 1, σ, c3_7 =>
    (if (σ.1 0 0) ≤ c3_7 then kx7 σ c3_7 else chk (inb c3_7 4) (bnd (sI σ 21 (ix c3_7) ((q1_7 >>> (((3 : Int32) * c3_7) &&& 31)) &&& (7 : Int32))) fun (σ_3 : St) => (jp (fun (σ_4 : St)  (t_5 : Int64) => bnd (sL σ_4 0 47 ((σ_3.2 0 47) * t_5)) fun (σ_6 : St) => bnd (c3_7 + (1 : Int32)) fun (x3_7 : Int32) => fX9_lays__L7 q1_7 q2_7 kx7 n7 σ_6 x3_7) fun j59 => (if q2_7 = 0 then chk (inb c3_7 4) (chk (inb (((8 : Int32) * c3_7) + (σ_3.1 21 (ix c3_7))) 32) (j59 σ_3 (((σ_3.1 18 (ix (((8 : Int32) * c3_7) + (σ_3.1 21 (ix c3_7)))))).toInt64))) else j59 σ_3 (1 : Int64)))))
def fX9_lays_ (σ : St) (p1 : Int32) (p2 : Int32) : Option (St × Unit) :=
  bnd (sL σ 0 47 (1 : Int64)) fun (σ_1 : St) => bnd (0 : Int32) fun (x3_2 : Int32) => fX9_lays__L7 p1 p2 (fun (σ_8 : St) (x3_9 : Int32) => some (σ_8, ())) FU σ_1 x3_2
set_option maxRecDepth 20000 in
set_option maxHeartbeats 4000000 in
theorem sX9_lays__L7 {X : CX} {a : Nat → Nat} {D : va_G} {tI tJ tB : ClassId} {zz : SV} {q1_7 : Int32} {q2_7 : Int32} {kx7 : St → Int32 → Option (St × Unit)} {r : St × Unit} (hX : OKX X (vM a D tI tJ tB zz) cX9_lays_ 4 RX9 0 0) (hR : ∀ (pc : Nat) (lv : List (Nat × Value)), decode cX9_lays_ pc = .ok (.return_, 1) → G X (vM a D tI tJ tB zz) 4 r.1 pc lv []) (hkx7 : ∀ (σ : St) (e3_7 : Int32), kx7 σ e3_7 = some r → G X (vM a D tI tJ tB zz) 4 σ 69 [] []) : ∀ (n : Nat) (σ : St) (c3_7 : Int32), fX9_lays__L7 q1_7 q2_7 kx7 n σ c3_7 = some r → G X (vM a D tI tJ tB zz) 4 σ 7 [(0, .ref (a 0)), (1, .int q1_7), (2, .int q2_7), (3, .int c3_7)] [] := by
  intro n
  induction n with
  | zero => intro σ c3_7 h; rw [fX9_lays__L7] at h; exact absurd h (by simp)
  | succ n7 ih7 =>
    intro σ c3_7 h
    rw [fX9_lays__L7] at h
    refine g_iload_n hX 3 dX9_lays__7 rfl rfl ?_
    refine g_aload_n hX 0 dX9_lays__8 rfl rfl ?_
    refine gM_260 hX dX9_lays__9 ?_
    refine g_icmp_ge hX 69 dX9_lays__12 (by decide) h (fun h => ?_) (fun h => ?_)
    · exact g_sub [] rfl (hkx7 _ _ h)
    · refine g_aload_n hX 0 dX9_lays__15 rfl rfl ?_
      refine gM_88 hX dX9_lays__16 ?_
      refine g_iload_n hX 3 dX9_lays__19 rfl rfl ?_
      refine g_iload_n hX 1 dX9_lays__20 rfl rfl ?_
      refine g_iconst hX (3) dX9_lays__21 (by decide) ?_
      refine g_iload_n hX 3 dX9_lays__22 rfl rfl ?_
      refine g_imul hX dX9_lays__23 ?_
      refine g_ishr hX dX9_lays__24 ?_
      refine g_bipush hX (7) dX9_lays__25 (by decide) ?_
      refine g_iand hX dX9_lays__27 ?_
      refine asM_21 hX dX9_lays__28 h (fun σ_3 h => ?_)
      refine g_aload_n hX 0 dX9_lays__29 rfl rfl ?_
      refine g_dup hX dX9_lays__30 rfl ?_
      refine gM_331 hX dX9_lays__31 ?_
      refine g_iload_n hX 2 dX9_lays__34 rfl rfl ?_
      refine jp_inv (P := fun f => ∀ (σ_4 : St)  (t_5 : Int64), f σ_4 t_5 = some r → G X (vM a D tI tJ tB zz) 4 σ_4 59 [(0, .ref (a 0)), (1, .int q1_7), (2, .int q2_7), (3, .int c3_7)] [.long t_5, .long (σ_3.2 0 47), .ref (a 0)]) h (fun σ_4 t_5 h => ?_) (fun j59 hj59 h => ?_)
      · refine g_lmul hX dX9_lays__59 ?_
        refine pM_331 hX dX9_lays__60 h (fun σ_6 h => ?_)
        refine g_iinc (y := (1)) (lv' := fun x3_7 => [(3, .int x3_7), (0, .ref (a 0)), (1, .int q1_7), (2, .int q2_7)]) hX 3 dX9_lays__63 rfl (by decide) (by decide) (fun _ => rfl) h (fun x3_7 h => ?_)
        refine g_goto hX 7 dX9_lays__66 (by decide) ?_
        exact g_sub [1, 2, 3, 0] rfl (ih7 _ _ h)
      refine g_if_eq hX 42 dX9_lays__35 (by decide) h (fun h => ?_) (fun h => ?_)
      · refine g_aload_n hX 0 dX9_lays__42 rfl rfl ?_
        refine gM_79 hX dX9_lays__43 ?_
        refine g_bipush hX (8) dX9_lays__46 (by decide) ?_
        refine g_iload_n hX 3 dX9_lays__48 rfl rfl ?_
        refine g_imul hX dX9_lays__49 ?_
        refine g_aload_n hX 0 dX9_lays__50 rfl rfl ?_
        refine gM_88 hX dX9_lays__51 ?_
        refine g_iload_n hX 3 dX9_lays__54 rfl rfl ?_
        refine alM_21 hX dX9_lays__55 h (fun h => ?_)
        refine g_iadd hX dX9_lays__56 ?_
        refine alM_18 hX dX9_lays__57 h (fun h => ?_)
        refine g_i2l hX dX9_lays__58 ?_
        exact g_sub [0, 1, 2, 3] rfl (hj59 _ _ h)
      · refine g_lconst hX (1) dX9_lays__38 (by decide) ?_
        refine g_goto hX 59 dX9_lays__39 (by decide) ?_
        exact g_sub [0, 1, 2, 3] rfl (hj59 _ _ h)
set_option maxRecDepth 20000 in
set_option maxHeartbeats 4000000 in
theorem sX9_lays_ {X : CX} {a : Nat → Nat} {D : va_G} {tI tJ tB : ClassId} {zz : SV} {σ : St}  {p1 : Int32} {p2 : Int32} {r : St × Unit} (hX : OKX X (vM a D tI tJ tB zz) cX9_lays_ 4 RX9 0 0) (hR : ∀ (pc : Nat) (lv : List (Nat × Value)), decode cX9_lays_ pc = .ok (.return_, 1) → G X (vM a D tI tJ tB zz) 4 r.1 pc lv []) (h : fX9_lays_ σ p1 p2 = some r) : G X (vM a D tI tJ tB zz) 4 σ 0 [(0, .ref (a 0)), (1, .int p1), (2, .int p2)] [] := by
  unfold fX9_lays_ at h
  refine g_aload_n hX 0 dX9_lays__0 rfl rfl ?_
  refine g_lconst hX (1) dX9_lays__1 (by decide) ?_
  refine pM_331 hX dX9_lays__2 h (fun σ_1 h => ?_)
  refine g_iconst hX (0) dX9_lays__5 (by decide) ?_
  refine g_istore_n (lv' := fun x3_2 => [(3, .int x3_2), (0, .ref (a 0)), (1, .int p1), (2, .int p2)]) hX dX9_lays__6 rfl (by decide) (fun _ => rfl) h (fun x3_2 h => ?_)
  refine g_sub [1, 2, 3, 0] rfl (sX9_lays__L7 hX hR (fun σ_8 x3_9 h => ?_) FU _ _ h)
  exact g_retv hR h dX9_lays__69
set_option maxRecDepth 20000 in
set_option maxHeartbeats 4000000 in
theorem kX9_lays_ (l : Launch) {a : Nat → Nat} {D : va_G} {tI tJ tB : ClassId} {zz : SV} {σ τ : St}  {p1 : Int32} {p2 : Int32} {x : Unit} (h : fX9_lays_ σ p1 p2 = some (τ, x)) : CtV l yX9_lays_ cX9_lays_ 4 none 0 0 (vM a D tI tJ tB zz) σ [.ref (a 0), .int p1, .int p2] τ x := g_metV (by decide) (Nat.le_of_ble_eq_true rfl) rfl (fun X _ hX hR => sX9_lays_ (r := (τ, x)) hX hR h)
def fX9_sells_L6  (kx6 : St → Int32 → Option (St × Unit)) : Nat → St → Int32 → Option (St × Unit)
  | 0, _, _ => none
  | n6 + 1, σ, c1_6 =>
    cl (fX9_rows σ ) fun (σ_4 : St) (t_5 : Int32) => (if t_5 ≤ c1_6 then kx6 σ_4 c1_6 else cl (fX9_lays_ σ_4 c1_6 (0 : Int32)) fun (σ_6 : St) (t_7 : Unit) => (jp (fun (σ_8 : St)   => bnd (c1_6 + (1 : Int32)) fun (x1_9 : Int32) => fX9_sells_L6 kx6 n6 σ_8 x1_9) fun j33 => (if (lg_cmp (σ_6.2 0 47) (0 : Int64)) ≤ 0 then j33 σ_6 else cl (fX9_rowBuys σ_6 ) fun (σ_10 : St) (t_11 : Unit) => j33 σ_10)))
def fX9_sells (σ : St)  : Option (St × Unit) :=
  cl (fX9_clears σ ) fun (σ_1 : St) (t_2 : Unit) => bnd (0 : Int32) fun (x1_3 : Int32) => fX9_sells_L6  (fun (σ_12 : St) (x1_13 : Int32) => some (σ_12, ())) FU σ_1 x1_3
set_option maxRecDepth 20000 in
set_option maxHeartbeats 4000000 in
theorem sX9_sells_L6 {X : CX} {a : Nat → Nat} {D : va_G} {tI tJ tB : ClassId} {zz : SV}  {kx6 : St → Int32 → Option (St × Unit)} {r : St × Unit} (hX : OKX X (vM a D tI tJ tB zz) cX9_sells 2 RX9 5 117) (hR : ∀ (pc : Nat) (lv : List (Nat × Value)), decode cX9_sells pc = .ok (.return_, 1) → G X (vM a D tI tJ tB zz) 2 r.1 pc lv []) (hkx6 : ∀ (σ : St) (e1_6 : Int32), kx6 σ e1_6 = some r → G X (vM a D tI tJ tB zz) 2 σ 39 [] []) : ∀ (n : Nat) (σ : St) (c1_6 : Int32), fX9_sells_L6 kx6 n σ c1_6 = some r → G X (vM a D tI tJ tB zz) 2 σ 6 [(0, .ref (a 0)), (1, .int c1_6)] [] := by
  intro n
  induction n with
  | zero => intro σ c1_6 h; rw [fX9_sells_L6] at h; exact absurd h (by simp)
  | succ n6 ih6 =>
    intro σ c1_6 h
    rw [fX9_sells_L6] at h
    refine g_iload_n hX 1 dX9_sells_6 rfl rfl ?_
    refine g_aload_n hX 0 dX9_sells_7 rfl rfl ?_
    refine g_callVI (As := []) (rest := [.int c1_6]) hX 0 (Nat.le_of_ble_eq_true rfl) rfl rfl miX9_rows mvX9_rows lkX9_342 (by decide) rfl (Nat.le_of_ble_eq_true rfl) rfl dX9_sells_8 (fun τ x ho => kX9_rows _ ho) h (fun σ_4 t_5 h => ?_)
    refine g_icmp_ge hX 39 dX9_sells_11 (by decide) h (fun h => ?_) (fun h => ?_)
    · exact g_sub [] rfl (hkx6 _ _ h)
    · refine g_aload_n hX 0 dX9_sells_14 rfl rfl ?_
      refine g_iload_n hX 1 dX9_sells_15 rfl rfl ?_
      refine g_iconst hX (0) dX9_sells_16 (by decide) ?_
      refine g_callVV (As := [.int c1_6, .int (0 : Int32)]) (rest := []) hX 0 (Nat.le_of_ble_eq_true rfl) rfl rfl miX9_lays_ mvX9_lays_ lkX9_345 (by decide) rfl (Nat.le_of_ble_eq_true rfl) rfl dX9_sells_17 (fun τ x ho => kX9_lays_ _ ho) h (fun σ_6 t_7 h => ?_)
      refine g_aload_n hX 0 dX9_sells_20 rfl rfl ?_
      refine gM_331 hX dX9_sells_21 ?_
      refine g_lconst hX (0) dX9_sells_24 (by decide) ?_
      refine g_lcmp hX dX9_sells_25 ?_
      refine jp_inv (P := fun f => ∀ (σ_8 : St)  , f σ_8 = some r → G X (vM a D tI tJ tB zz) 2 σ_8 33 [(0, .ref (a 0)), (1, .int c1_6)] []) h (fun σ_8 h => ?_) (fun j33 hj33 h => ?_)
      · refine g_iinc (y := (1)) (lv' := fun x1_9 => [(1, .int x1_9), (0, .ref (a 0))]) hX 1 dX9_sells_33 rfl (by decide) (by decide) (fun _ => rfl) h (fun x1_9 h => ?_)
        refine g_goto hX 6 dX9_sells_36 (by decide) ?_
        exact g_sub [1, 0] rfl (ih6 _ _ h)
      refine g_if_le hX 33 dX9_sells_26 (by decide) h (fun h => ?_) (fun h => ?_)
      · exact g_sub [0, 1] rfl (hj33 _ h)
      · refine g_aload_n hX 0 dX9_sells_29 rfl rfl ?_
        refine g_callVV (As := []) (rest := []) hX 0 (Nat.le_of_ble_eq_true rfl) rfl rfl miX9_rowBuys mvX9_rowBuys lkX9_348 (by decide) rfl (Nat.le_of_ble_eq_true rfl) rfl dX9_sells_30 (fun τ x ho => kX9_rowBuys _ ho) h (fun σ_10 t_11 h => ?_)
        exact g_sub [0, 1] rfl (hj33 _ h)
set_option maxRecDepth 20000 in
set_option maxHeartbeats 4000000 in
theorem sX9_sells {X : CX} {a : Nat → Nat} {D : va_G} {tI tJ tB : ClassId} {zz : SV} {σ : St}   {r : St × Unit} (hX : OKX X (vM a D tI tJ tB zz) cX9_sells 2 RX9 5 117) (hR : ∀ (pc : Nat) (lv : List (Nat × Value)), decode cX9_sells pc = .ok (.return_, 1) → G X (vM a D tI tJ tB zz) 2 r.1 pc lv []) (h : fX9_sells σ  = some r) : G X (vM a D tI tJ tB zz) 2 σ 0 [(0, .ref (a 0))] [] := by
  unfold fX9_sells at h
  refine g_aload_n hX 0 dX9_sells_0 rfl rfl ?_
  refine g_callVV (As := []) (rest := []) hX 0 (Nat.le_of_ble_eq_true rfl) rfl rfl miX9_clears mvX9_clears lkX9_339 (by decide) rfl (Nat.le_of_ble_eq_true rfl) rfl dX9_sells_1 (fun τ x ho => kX9_clears _ ho) h (fun σ_1 t_2 h => ?_)
  refine g_iconst hX (0) dX9_sells_4 (by decide) ?_
  refine g_istore_n (lv' := fun x1_3 => [(1, .int x1_3), (0, .ref (a 0))]) hX dX9_sells_5 rfl (by decide) (fun _ => rfl) h (fun x1_3 h => ?_)
  refine g_sub [1, 0] rfl (sX9_sells_L6 hX hR (fun σ_12 x1_13 h => ?_) FU _ _ h)
  exact g_retv hR h dX9_sells_39
set_option maxRecDepth 20000 in
set_option maxHeartbeats 4000000 in
theorem kX9_sells (l : Launch) {a : Nat → Nat} {D : va_G} {tI tJ tB : ClassId} {zz : SV} {σ τ : St}   {x : Unit} (h : fX9_sells σ  = some (τ, x)) : CtV l yX9_sells cX9_sells 2 none 5 117 (vM a D tI tJ tB zz) σ [.ref (a 0)] τ x := g_metV (by decide) (Nat.le_of_ble_eq_true rfl) rfl (fun X _ hX hR => sX9_sells (r := (τ, x)) hX hR h)
def fX9_earnsAt_L2 (q1_2 : Int32) (q2_2 : Int32) (kx2 : St → Int32 → Option (St × Int64)) : Nat → St → Int32 → Option (St × Int64)
  | 0, _, _ => none
  | n2 + 1, σ, c3_2 =>
    (if (8 : Int32) ≤ c3_2 then kx2 σ c3_2 else chk (inb (((8 : Int32) * q1_2) + c3_2) 32) (chk (inb c3_2 8) (bnd (sI σ 28 (ix c3_2) (σ.1 18 (ix (((8 : Int32) * q1_2) + c3_2)))) fun (σ_2 : St) => bnd (c3_2 + (1 : Int32)) fun (x3_3 : Int32) => fX9_earnsAt_L2 q1_2 q2_2 kx2 n2 σ_2 x3_3)))
def fX9_earnsAt_L43 (q1_43 : Int32) (kx43 : St → Int32 → Option (St × Int64)) : Nat → St → Int32 → Option (St × Int64)
  | 0, _, _ => none
  | n43 + 1, σ, c3_43 =>
    (if (8 : Int32) ≤ c3_43 then kx43 σ c3_43 else chk (inb c3_43 8) (chk (inb (((8 : Int32) * q1_43) + c3_43) 32) (bnd (sI σ 18 (ix (((8 : Int32) * q1_43) + c3_43)) (σ.1 28 (ix c3_43))) fun (σ_11 : St) => bnd (c3_43 + (1 : Int32)) fun (x3_12 : Int32) => fX9_earnsAt_L43 q1_43 kx43 n43 σ_11 x3_12)))
def fX9_earnsAt (σ : St) (p1 : Int32) (p2 : Int32) : Option (St × Int64) :=
  bnd (0 : Int32) fun (x3_1 : Int32) => fX9_earnsAt_L2 p1 p2 (fun (σ_4 : St) (x3_5 : Int32) => cl (fX9_puts σ_4 p1 p2) fun (σ_6 : St) (t_7 : Unit) => cl (fX9_sells σ_6 ) fun (σ_8 : St) (t_9 : Unit) => bnd (0 : Int32) fun (x3_10 : Int32) => fX9_earnsAt_L43 p1 (fun (σ_13 : St) (x3_14 : Int32) => chk (inb p1 4) (some (σ_13, (σ_13.2 23 (ix p1))))) FU σ_8 x3_10) FU σ x3_1
set_option maxRecDepth 20000 in
set_option maxHeartbeats 4000000 in
theorem sX9_earnsAt_L2 {X : CX} {a : Nat → Nat} {D : va_G} {tI tJ tB : ClassId} {zz : SV} {q1_2 : Int32} {q2_2 : Int32} {kx2 : St → Int32 → Option (St × Int64)} {r : St × Int64} (hX : OKX X (vM a D tI tJ tB zz) cX9_earnsAt 4 RX9 6 138) (hR : ∀ (pc : Nat) (lv : List (Nat × Value)), decode cX9_earnsAt pc = .ok (.lreturn, 1) → G X (vM a D tI tJ tB zz) 4 r.1 pc lv [.long r.2]) (hkx2 : ∀ (σ : St) (e3_2 : Int32), kx2 σ e3_2 = some r → G X (vM a D tI tJ tB zz) 4 σ 31 [(0, .ref (a 0)), (1, .int q1_2), (2, .int q2_2)] []) : ∀ (n : Nat) (σ : St) (c3_2 : Int32), fX9_earnsAt_L2 q1_2 q2_2 kx2 n σ c3_2 = some r → G X (vM a D tI tJ tB zz) 4 σ 2 [(0, .ref (a 0)), (1, .int q1_2), (2, .int q2_2), (3, .int c3_2)] [] := by
  intro n
  induction n with
  | zero => intro σ c3_2 h; rw [fX9_earnsAt_L2] at h; exact absurd h (by simp)
  | succ n2 ih2 =>
    intro σ c3_2 h
    rw [fX9_earnsAt_L2] at h
    refine g_iload_n hX 3 dX9_earnsAt_2 rfl rfl ?_
    refine g_bipush hX (8) dX9_earnsAt_3 (by decide) ?_
    refine g_icmp_ge hX 31 dX9_earnsAt_5 (by decide) h (fun h => ?_) (fun h => ?_)
    · exact g_sub [0, 1, 2] rfl (hkx2 _ _ h)
    · refine g_aload_n hX 0 dX9_earnsAt_8 rfl rfl ?_
      refine gM_109 hX dX9_earnsAt_9 ?_
      refine g_iload_n hX 3 dX9_earnsAt_12 rfl rfl ?_
      refine g_aload_n hX 0 dX9_earnsAt_13 rfl rfl ?_
      refine gM_79 hX dX9_earnsAt_14 ?_
      refine g_bipush hX (8) dX9_earnsAt_17 (by decide) ?_
      refine g_iload_n hX 1 dX9_earnsAt_19 rfl rfl ?_
      refine g_imul hX dX9_earnsAt_20 ?_
      refine g_iload_n hX 3 dX9_earnsAt_21 rfl rfl ?_
      refine g_iadd hX dX9_earnsAt_22 ?_
      refine alM_18 hX dX9_earnsAt_23 h (fun h => ?_)
      refine asM_28 hX dX9_earnsAt_24 h (fun σ_2 h => ?_)
      refine g_iinc (y := (1)) (lv' := fun x3_3 => [(3, .int x3_3), (0, .ref (a 0)), (1, .int q1_2), (2, .int q2_2)]) hX 3 dX9_earnsAt_25 rfl (by decide) (by decide) (fun _ => rfl) h (fun x3_3 h => ?_)
      refine g_goto hX 2 dX9_earnsAt_28 (by decide) ?_
      exact g_sub [1, 2, 3, 0] rfl (ih2 _ _ h)
set_option maxRecDepth 20000 in
set_option maxHeartbeats 4000000 in
theorem sX9_earnsAt_L43 {X : CX} {a : Nat → Nat} {D : va_G} {tI tJ tB : ClassId} {zz : SV} {q1_43 : Int32} {kx43 : St → Int32 → Option (St × Int64)} {r : St × Int64} (hX : OKX X (vM a D tI tJ tB zz) cX9_earnsAt 4 RX9 6 138) (hR : ∀ (pc : Nat) (lv : List (Nat × Value)), decode cX9_earnsAt pc = .ok (.lreturn, 1) → G X (vM a D tI tJ tB zz) 4 r.1 pc lv [.long r.2]) (hkx43 : ∀ (σ : St) (e3_43 : Int32), kx43 σ e3_43 = some r → G X (vM a D tI tJ tB zz) 4 σ 72 [(0, .ref (a 0)), (1, .int q1_43)] []) : ∀ (n : Nat) (σ : St) (c3_43 : Int32), fX9_earnsAt_L43 q1_43 kx43 n σ c3_43 = some r → G X (vM a D tI tJ tB zz) 4 σ 43 [(0, .ref (a 0)), (1, .int q1_43), (3, .int c3_43)] [] := by
  intro n
  induction n with
  | zero => intro σ c3_43 h; rw [fX9_earnsAt_L43] at h; exact absurd h (by simp)
  | succ n43 ih43 =>
    intro σ c3_43 h
    rw [fX9_earnsAt_L43] at h
    refine g_iload_n hX 2 dX9_earnsAt_43 rfl rfl ?_
    refine g_bipush hX (8) dX9_earnsAt_44 (by decide) ?_
    refine g_icmp_ge hX 72 dX9_earnsAt_46 (by decide) h (fun h => ?_) (fun h => ?_)
    · exact g_sub [0, 1] rfl (hkx43 _ _ h)
    · refine g_aload_n hX 0 dX9_earnsAt_49 rfl rfl ?_
      refine gM_79 hX dX9_earnsAt_50 ?_
      refine g_bipush hX (8) dX9_earnsAt_53 (by decide) ?_
      refine g_iload_n hX 1 dX9_earnsAt_55 rfl rfl ?_
      refine g_imul hX dX9_earnsAt_56 ?_
      refine g_iload_n hX 2 dX9_earnsAt_57 rfl rfl ?_
      refine g_iadd hX dX9_earnsAt_58 ?_
      refine g_aload_n hX 0 dX9_earnsAt_59 rfl rfl ?_
      refine gM_109 hX dX9_earnsAt_60 ?_
      refine g_iload_n hX 2 dX9_earnsAt_63 rfl rfl ?_
      refine alM_28 hX dX9_earnsAt_64 h (fun h => ?_)
      refine asM_18 hX dX9_earnsAt_65 h (fun σ_11 h => ?_)
      refine g_iinc (y := (1)) (lv' := fun x3_12 => [(3, .int x3_12), (0, .ref (a 0)), (1, .int q1_43)]) hX 2 dX9_earnsAt_66 rfl (by decide) (by decide) (fun _ => rfl) h (fun x3_12 h => ?_)
      refine g_goto hX 43 dX9_earnsAt_69 (by decide) ?_
      exact g_sub [1, 2, 0] rfl (ih43 _ _ h)
set_option maxRecDepth 20000 in
set_option maxHeartbeats 4000000 in
theorem sX9_earnsAt {X : CX} {a : Nat → Nat} {D : va_G} {tI tJ tB : ClassId} {zz : SV} {σ : St}  {p1 : Int32} {p2 : Int32} {r : St × Int64} (hX : OKX X (vM a D tI tJ tB zz) cX9_earnsAt 4 RX9 6 138) (hR : ∀ (pc : Nat) (lv : List (Nat × Value)), decode cX9_earnsAt pc = .ok (.lreturn, 1) → G X (vM a D tI tJ tB zz) 4 r.1 pc lv [.long r.2]) (h : fX9_earnsAt σ p1 p2 = some r) : G X (vM a D tI tJ tB zz) 4 σ 0 [(0, .ref (a 0)), (1, .int p1), (2, .int p2)] [] := by
  unfold fX9_earnsAt at h
  refine g_iconst hX (0) dX9_earnsAt_0 (by decide) ?_
  refine g_istore_n (lv' := fun x3_1 => [(3, .int x3_1), (0, .ref (a 0)), (1, .int p1), (2, .int p2)]) hX dX9_earnsAt_1 rfl (by decide) (fun _ => rfl) h (fun x3_1 h => ?_)
  refine g_sub [1, 2, 3, 0] rfl (sX9_earnsAt_L2 hX hR (fun σ_4 x3_5 h => ?_) FU _ _ h)
  refine g_aload_n hX 0 dX9_earnsAt_31 rfl rfl ?_
  refine g_iload_n hX 1 dX9_earnsAt_32 rfl rfl ?_
  refine g_iload_n hX 2 dX9_earnsAt_33 rfl rfl ?_
  refine g_callVV (As := [.int p1, .int p2]) (rest := []) hX 0 (Nat.le_of_ble_eq_true rfl) rfl rfl miX9_puts mvX9_puts lkX9_305 (by decide) rfl (Nat.le_of_ble_eq_true rfl) rfl dX9_earnsAt_34 (fun τ x ho => kX9_puts _ ho) h (fun σ_6 t_7 h => ?_)
  refine g_aload_n hX 0 dX9_earnsAt_37 rfl rfl ?_
  refine g_callVV (As := []) (rest := []) hX 0 (Nat.le_of_ble_eq_true rfl) rfl rfl miX9_sells mvX9_sells lkX9_351 (by decide) rfl (Nat.le_of_ble_eq_true rfl) rfl dX9_earnsAt_38 (fun τ x ho => kX9_sells _ ho) h (fun σ_8 t_9 h => ?_)
  refine g_iconst hX (0) dX9_earnsAt_41 (by decide) ?_
  refine g_istore_n (lv' := fun x3_10 => [(3, .int x3_10), (0, .ref (a 0)), (1, .int p1), (2, .int p2)]) hX dX9_earnsAt_42 rfl (by decide) (fun _ => rfl) h (fun x3_10 h => ?_)
  refine g_sub [1, 2, 0] rfl (sX9_earnsAt_L43 hX hR (fun σ_13 x3_14 h => ?_) FU _ _ h)
  refine g_aload_n hX 0 dX9_earnsAt_72 rfl rfl ?_
  refine gM_94 hX dX9_earnsAt_73 ?_
  refine g_iload_n hX 1 dX9_earnsAt_76 rfl rfl ?_
  refine alM_23 hX dX9_earnsAt_77 h (fun h => ?_)
  exact g_retl hR h dX9_earnsAt_78
set_option maxRecDepth 20000 in
set_option maxHeartbeats 4000000 in
theorem kX9_earnsAt (l : Launch) {a : Nat → Nat} {D : va_G} {tI tJ tB : ClassId} {zz : SV} {σ τ : St}  {p1 : Int32} {p2 : Int32} {x : Int64} (h : fX9_earnsAt σ p1 p2 = some (τ, x)) : CtL l yX9_earnsAt cX9_earnsAt 4 (some .long) 6 138 (vM a D tI tJ tB zz) σ [.ref (a 0), .int p1, .int p2] τ x := g_metL (by decide) (Nat.le_of_ble_eq_true rfl) rfl (fun X _ hX hR => sX9_earnsAt (r := (τ, x)) hX hR h)
def fX9_bestOf_L9 (q1_9 : Int32) (kx9 : St → Int32 → Int32 → Option (St × Int32)) : Nat → St → Int32 → Int32 → Option (St × Int32)
  | 0, _, _, _ => none
  | n9 + 1, σ, c2_9, c3_9 =>
    (if (σ.1 0 2) ≤ c3_9 then kx9 σ c2_9 c3_9 else cl (fX9_isBarred σ c3_9) fun (σ_4 : St) (t_5 : Int32) => (jp (fun (σ_6 : St) (x2_7 : Int32)  => bnd (c3_9 + (1 : Int32)) fun (x3_8 : Int32) => fX9_bestOf_L9 q1_9 kx9 n9 σ_6 x2_7 x3_8) fun j62 => (if t_5 = 0 then cl (fX9_earnsAt σ_4 q1_9 c3_9) fun (σ_9 : St) (t_10 : Int64) => bnd t_10 fun (x4_11 : Int64) => (jp (fun (σ_12 : St)   => bnd c3_9 fun (x2_13 : Int32) => bnd (sL σ_12 0 55 x4_11) fun (σ_14 : St) => j62 σ_14 x2_13) fun j54 => (if c2_9 = (-1 : Int32) then j54 σ_9 else (if 0 < (lg_cmp x4_11 (σ_9.2 0 55)) then j54 σ_9 else j62 σ_9 c2_9))) else j62 σ_4 c2_9)))
def fX9_bestOf (σ : St) (p1 : Int32) : Option (St × Int32) :=
  bnd (-1 : Int32) fun (x2_1 : Int32) => bnd (sL σ 0 55 (0 : Int64)) fun (σ_2 : St) => bnd (0 : Int32) fun (x3_3 : Int32) => fX9_bestOf_L9 p1 (fun (σ_15 : St) (x2_16 : Int32) (x3_17 : Int32) => some (σ_15, x2_16)) FU σ_2 x2_1 x3_3
set_option maxRecDepth 20000 in
set_option maxHeartbeats 4000000 in
theorem sX9_bestOf_L9 {X : CX} {a : Nat → Nat} {D : va_G} {tI tJ tB : ClassId} {zz : SV} {q1_9 : Int32} {kx9 : St → Int32 → Int32 → Option (St × Int32)} {r : St × Int32} (hX : OKX X (vM a D tI tJ tB zz) cX9_bestOf 6 RX9 7 161) (hR : ∀ (pc : Nat) (lv : List (Nat × Value)), decode cX9_bestOf pc = .ok (.ireturn, 1) → G X (vM a D tI tJ tB zz) 6 r.1 pc lv [.int r.2]) (hkx9 : ∀ (σ : St) (e2_9 : Int32) (e3_9 : Int32), kx9 σ e2_9 e3_9 = some r → G X (vM a D tI tJ tB zz) 6 σ 68 [(2, .int e2_9)] []) : ∀ (n : Nat) (σ : St) (c2_9 : Int32) (c3_9 : Int32), fX9_bestOf_L9 q1_9 kx9 n σ c2_9 c3_9 = some r → G X (vM a D tI tJ tB zz) 6 σ 9 [(0, .ref (a 0)), (1, .int q1_9), (2, .int c2_9), (3, .int c3_9)] [] := by
  intro n
  induction n with
  | zero => intro σ c2_9 c3_9 h; rw [fX9_bestOf_L9] at h; exact absurd h (by simp)
  | succ n9 ih9 =>
    intro σ c2_9 c3_9 h
    rw [fX9_bestOf_L9] at h
    refine g_iload_n hX 3 dX9_bestOf_9 rfl rfl ?_
    refine g_aload_n hX 0 dX9_bestOf_10 rfl rfl ?_
    refine gM_7 hX dX9_bestOf_11 ?_
    refine g_icmp_ge hX 68 dX9_bestOf_14 (by decide) h (fun h => ?_) (fun h => ?_)
    · exact g_sub [2] rfl (hkx9 _ _ _ h)
    · refine g_aload_n hX 0 dX9_bestOf_17 rfl rfl ?_
      refine g_iload_n hX 3 dX9_bestOf_18 rfl rfl ?_
      refine g_callVI (As := [.int c3_9]) (rest := []) hX 0 (Nat.le_of_ble_eq_true rfl) rfl rfl miX9_isBarred mvX9_isBarred lkX9_293 (by decide) rfl (Nat.le_of_ble_eq_true rfl) rfl dX9_bestOf_19 (fun τ x ho => kX9_isBarred _ ho) h (fun σ_4 t_5 h => ?_)
      refine jp_inv (P := fun f => ∀ (σ_6 : St) (x2_7 : Int32) , f σ_6 x2_7 = some r → G X (vM a D tI tJ tB zz) 6 σ_6 62 [(0, .ref (a 0)), (1, .int q1_9), (3, .int c3_9), (2, .int x2_7)] []) h (fun σ_6 x2_7 h => ?_) (fun j62 hj62 h => ?_)
      · refine g_iinc (y := (1)) (lv' := fun x3_8 => [(3, .int x3_8), (0, .ref (a 0)), (1, .int q1_9), (2, .int x2_7)]) hX 2 dX9_bestOf_62 rfl (by decide) (by decide) (fun _ => rfl) h (fun x3_8 h => ?_)
        refine g_goto hX 9 dX9_bestOf_65 (by decide) ?_
        exact g_sub [1, 2, 3, 0] rfl (ih9 _ _ _ h)
      refine g_if_eq hX 28 dX9_bestOf_22 (by decide) h (fun h => ?_) (fun h => ?_)
      · refine g_aload_n hX 0 dX9_bestOf_28 rfl rfl ?_
        refine g_iload_n hX 1 dX9_bestOf_29 rfl rfl ?_
        refine g_iload_n hX 3 dX9_bestOf_30 rfl rfl ?_
        refine g_callVL (As := [.int q1_9, .int c3_9]) (rest := []) hX 0 (Nat.le_of_ble_eq_true rfl) rfl rfl miX9_earnsAt mvX9_earnsAt lkX9_357 (by decide) rfl (Nat.le_of_ble_eq_true rfl) rfl dX9_bestOf_31 (fun τ x ho => kX9_earnsAt _ ho) h (fun σ_9 t_10 h => ?_)
        refine g_lstore (lv' := fun x4_11 => [(4, .long x4_11), (0, .ref (a 0)), (1, .int q1_9), (2, .int c2_9), (3, .int c3_9)]) hX dX9_bestOf_34 (by decide) (fun _ => rfl) h (fun x4_11 h => ?_)
        refine g_iload_n hX 3 dX9_bestOf_36 rfl rfl ?_
        refine g_iconst hX (-1) dX9_bestOf_37 (by decide) ?_
        refine jp_inv (P := fun f => ∀ (σ_12 : St)  , f σ_12 = some r → G X (vM a D tI tJ tB zz) 6 σ_12 54 [(4, .long x4_11), (0, .ref (a 0)), (1, .int q1_9), (3, .int c3_9)] []) h (fun σ_12 h => ?_) (fun j54 hj54 h => ?_)
        · refine g_iload_n hX 3 dX9_bestOf_54 rfl rfl ?_
          refine g_istore_n (lv' := fun x2_13 => [(2, .int x2_13), (4, .long x4_11), (0, .ref (a 0)), (1, .int q1_9), (3, .int c3_9)]) hX dX9_bestOf_55 rfl (by decide) (fun _ => rfl) h (fun x2_13 h => ?_)
          refine g_aload_n hX 2 dX9_bestOf_56 rfl rfl ?_
          refine g_lload hX 1 dX9_bestOf_57 rfl ?_
          refine pM_354 hX dX9_bestOf_59 h (fun σ_14 h => ?_)
          exact g_sub [2, 3, 4, 0] rfl (hj62 _ _ h)
        refine g_icmp_eq hX 54 dX9_bestOf_38 (by decide) h (fun h => ?_) (fun h => ?_)
        · exact g_sub [0, 1, 2, 4] rfl (hj54 _ h)
        · refine g_lload hX 0 dX9_bestOf_41 rfl ?_
          refine g_aload_n hX 1 dX9_bestOf_43 rfl rfl ?_
          refine gM_354 hX dX9_bestOf_44 ?_
          refine g_lcmp hX dX9_bestOf_47 ?_
          refine g_if_gt hX 54 dX9_bestOf_48 (by decide) h (fun h => ?_) (fun h => ?_)
          · exact g_sub [0, 1, 2, 4] rfl (hj54 _ h)
          · refine g_goto hX 62 dX9_bestOf_51 (by decide) ?_
            exact g_sub [1, 2, 4, 3] rfl (hj62 _ _ h)
      · refine g_goto hX 62 dX9_bestOf_25 (by decide) ?_
        exact g_sub [0, 1, 3, 2] rfl (hj62 _ _ h)
set_option maxRecDepth 20000 in
set_option maxHeartbeats 4000000 in
theorem sX9_bestOf {X : CX} {a : Nat → Nat} {D : va_G} {tI tJ tB : ClassId} {zz : SV} {σ : St}  {p1 : Int32} {r : St × Int32} (hX : OKX X (vM a D tI tJ tB zz) cX9_bestOf 6 RX9 7 161) (hR : ∀ (pc : Nat) (lv : List (Nat × Value)), decode cX9_bestOf pc = .ok (.ireturn, 1) → G X (vM a D tI tJ tB zz) 6 r.1 pc lv [.int r.2]) (h : fX9_bestOf σ p1 = some r) : G X (vM a D tI tJ tB zz) 6 σ 0 [(0, .ref (a 0)), (1, .int p1)] [] := by
  unfold fX9_bestOf at h
  refine g_iconst hX (-1) dX9_bestOf_0 (by decide) ?_
  refine g_istore_n (lv' := fun x2_1 => [(2, .int x2_1), (0, .ref (a 0)), (1, .int p1)]) hX dX9_bestOf_1 rfl (by decide) (fun _ => rfl) h (fun x2_1 h => ?_)
  refine g_aload_n hX 1 dX9_bestOf_2 rfl rfl ?_
  refine g_lconst hX (0) dX9_bestOf_3 (by decide) ?_
  refine pM_354 hX dX9_bestOf_4 h (fun σ_2 h => ?_)
  refine g_iconst hX (0) dX9_bestOf_7 (by decide) ?_
  refine g_istore_n (lv' := fun x3_3 => [(3, .int x3_3), (2, .int x2_1), (0, .ref (a 0)), (1, .int p1)]) hX dX9_bestOf_8 rfl (by decide) (fun _ => rfl) h (fun x3_3 h => ?_)
  refine g_sub [2, 3, 1, 0] rfl (sX9_bestOf_L9 hX hR (fun σ_15 x2_16 x3_17 h => ?_) FU _ _ _ h)
  refine g_iload_n hX 0 dX9_bestOf_68 rfl rfl ?_
  exact g_reti hR h dX9_bestOf_69
set_option maxRecDepth 20000 in
set_option maxHeartbeats 4000000 in
theorem kX9_bestOf (l : Launch) {a : Nat → Nat} {D : va_G} {tI tJ tB : ClassId} {zz : SV} {σ τ : St}  {p1 : Int32} {x : Int32} (h : fX9_bestOf σ p1 = some (τ, x)) : CtI l yX9_bestOf cX9_bestOf 6 (some .int) 7 161 (vM a D tI tJ tB zz) σ [.ref (a 0), .int p1] τ x := g_metI (by decide) (Nat.le_of_ble_eq_true rfl) rfl (fun X _ hX hR => sX9_bestOf (r := (τ, x)) hX hR h)
def fX9_areWhole_L4  (kx4 : St → Int32 → Int32 → Option (St × Int32)) : Nat → St → Int32 → Int32 → Option (St × Int32)
  | 0, _, _, _ => none
  | n4 + 1, σ, c1_4, c2_4 =>
    (if (σ.1 0 0) ≤ c2_4 then kx4 σ c1_4 c2_4 else chk (inb c2_4 4) ((jp (fun (σ_3 : St) (x1_4 : Int32)  => bnd (c2_4 + (1 : Int32)) fun (x2_5 : Int32) => fX9_areWhole_L4 kx4 n4 σ_3 x1_4 x2_5) fun j44 => (if (σ.1 15 (ix c2_4)) = (3 : Int32) then (if c1_4 = (-1 : Int32) then bnd c2_4 fun (x1_8 : Int32) => j44 σ x1_8 else some (σ, (0 : Int32))) else cl (fX9_lays σ c2_4) fun (σ_6 : St) (t_7 : Int32) => (if t_7 = 0 then some (σ_6, (0 : Int32)) else j44 σ_6 c1_4)))))
def fX9_areWhole (σ : St)  : Option (St × Int32) :=
  bnd (-1 : Int32) fun (x1_1 : Int32) => bnd (0 : Int32) fun (x2_2 : Int32) => fX9_areWhole_L4  (fun (σ_9 : St) (x1_10 : Int32) (x2_11 : Int32) => (if x1_10 = (-1 : Int32) then (if (σ_9.1 0 0) ≤ 0 then some (σ_9, (0 : Int32)) else some (σ_9, (1 : Int32))) else cl (fX9_isAllBarred σ_9 ) fun (σ_12 : St) (t_13 : Int32) => (if t_13 = 0 then cl (fX9_bestOf σ_12 x1_10) fun (σ_14 : St) (t_15 : Int32) => cl (fX9_puts σ_14 x1_10 t_15) fun (σ_16 : St) (t_17 : Unit) => some (σ_16, (1 : Int32)) else some (σ_12, (0 : Int32))))) FU σ x1_1 x2_2
set_option maxRecDepth 20000 in
set_option maxHeartbeats 4000000 in
theorem sX9_areWhole_L4 {X : CX} {a : Nat → Nat} {D : va_G} {tI tJ tB : ClassId} {zz : SV}  {kx4 : St → Int32 → Int32 → Option (St × Int32)} {r : St × Int32} (hX : OKX X (vM a D tI tJ tB zz) cX9_areWhole 3 RX9 8 186) (hR : (r.2 = 0 ∨ r.2 = 1) → ∀ (pc : Nat) (lv : List (Nat × Value)), decode cX9_areWhole pc = .ok (.ireturn, 1) → G X (vM a D tI tJ tB zz) 3 r.1 pc lv [.int r.2]) (hkx4 : ∀ (σ : St) (e1_4 : Int32) (e2_4 : Int32), kx4 σ e1_4 e2_4 = some r → G X (vM a D tI tJ tB zz) 3 σ 50 [(0, .ref (a 0)), (1, .int e1_4)] []) : ∀ (n : Nat) (σ : St) (c1_4 : Int32) (c2_4 : Int32), fX9_areWhole_L4 kx4 n σ c1_4 c2_4 = some r → G X (vM a D tI tJ tB zz) 3 σ 4 [(0, .ref (a 0)), (1, .int c1_4), (2, .int c2_4)] [] := by
  intro n
  induction n with
  | zero => intro σ c1_4 c2_4 h; rw [fX9_areWhole_L4] at h; exact absurd h (by simp)
  | succ n4 ih4 =>
    intro σ c1_4 c2_4 h
    rw [fX9_areWhole_L4] at h
    refine g_iload_n hX 2 dX9_areWhole_4 rfl rfl ?_
    refine g_aload_n hX 0 dX9_areWhole_5 rfl rfl ?_
    refine gM_260 hX dX9_areWhole_6 ?_
    refine g_icmp_ge hX 50 dX9_areWhole_9 (by decide) h (fun h => ?_) (fun h => ?_)
    · exact g_sub [0, 1] rfl (hkx4 _ _ _ h)
    · refine g_aload_n hX 0 dX9_areWhole_12 rfl rfl ?_
      refine gM_70 hX dX9_areWhole_13 ?_
      refine g_iload_n hX 2 dX9_areWhole_16 rfl rfl ?_
      refine alM_15 hX dX9_areWhole_17 h (fun h => ?_)
      refine g_iconst hX (3) dX9_areWhole_18 (by decide) ?_
      refine jp_inv (P := fun f => ∀ (σ_3 : St) (x1_4 : Int32) , f σ_3 x1_4 = some r → G X (vM a D tI tJ tB zz) 3 σ_3 44 [(0, .ref (a 0)), (2, .int c2_4), (1, .int x1_4)] []) h (fun σ_3 x1_4 h => ?_) (fun j44 hj44 h => ?_)
      · refine g_iinc (y := (1)) (lv' := fun x2_5 => [(2, .int x2_5), (0, .ref (a 0)), (1, .int x1_4)]) hX 1 dX9_areWhole_44 rfl (by decide) (by decide) (fun _ => rfl) h (fun x2_5 h => ?_)
        refine g_goto hX 4 dX9_areWhole_47 (by decide) ?_
        exact g_sub [1, 2, 0] rfl (ih4 _ _ _ h)
      refine g_icmp_ne hX 34 dX9_areWhole_19 (by decide) h (fun h => ?_) (fun h => ?_)
      · refine g_aload_n hX 0 dX9_areWhole_34 rfl rfl ?_
        refine g_iload_n hX 2 dX9_areWhole_35 rfl rfl ?_
        refine g_callVI (As := [.int c2_4]) (rest := []) hX 0 (Nat.le_of_ble_eq_true rfl) rfl rfl miX9_lays mvX9_lays lkX9_296 (by decide) rfl (Nat.le_of_ble_eq_true rfl) rfl dX9_areWhole_36 (fun τ x ho => kX9_lays _ ho) h (fun σ_6 t_7 h => ?_)
        refine g_if_ne hX 44 dX9_areWhole_39 (by decide) h (fun h => ?_) (fun h => ?_)
        · exact g_sub [0, 2, 1] rfl (hj44 _ _ h)
        · refine g_iconst hX (0) dX9_areWhole_42 (by decide) ?_
          exact g_retz hR (by decide) h dX9_areWhole_43
      · refine g_iload_n hX 1 dX9_areWhole_22 rfl rfl ?_
        refine g_iconst hX (-1) dX9_areWhole_23 (by decide) ?_
        refine g_icmp_eq hX 29 dX9_areWhole_24 (by decide) h (fun h => ?_) (fun h => ?_)
        · refine g_iload_n hX 2 dX9_areWhole_29 rfl rfl ?_
          refine g_istore_n (lv' := fun x1_8 => [(1, .int x1_8), (0, .ref (a 0)), (2, .int c2_4)]) hX dX9_areWhole_30 rfl (by decide) (fun _ => rfl) h (fun x1_8 h => ?_)
          refine g_goto hX 44 dX9_areWhole_31 (by decide) ?_
          exact g_sub [1, 2, 0] rfl (hj44 _ _ h)
        · refine g_iconst hX (0) dX9_areWhole_27 (by decide) ?_
          exact g_retz hR (by decide) h dX9_areWhole_28
set_option maxRecDepth 20000 in
set_option maxHeartbeats 4000000 in
theorem sX9_areWhole {X : CX} {a : Nat → Nat} {D : va_G} {tI tJ tB : ClassId} {zz : SV} {σ : St}   {r : St × Int32} (hX : OKX X (vM a D tI tJ tB zz) cX9_areWhole 3 RX9 8 186) (hR : (r.2 = 0 ∨ r.2 = 1) → ∀ (pc : Nat) (lv : List (Nat × Value)), decode cX9_areWhole pc = .ok (.ireturn, 1) → G X (vM a D tI tJ tB zz) 3 r.1 pc lv [.int r.2]) (h : fX9_areWhole σ  = some r) : G X (vM a D tI tJ tB zz) 3 σ 0 [(0, .ref (a 0))] [] := by
  unfold fX9_areWhole at h
  refine g_iconst hX (-1) dX9_areWhole_0 (by decide) ?_
  refine g_istore_n (lv' := fun x1_1 => [(1, .int x1_1), (0, .ref (a 0))]) hX dX9_areWhole_1 rfl (by decide) (fun _ => rfl) h (fun x1_1 h => ?_)
  refine g_iconst hX (0) dX9_areWhole_2 (by decide) ?_
  refine g_istore_n (lv' := fun x2_2 => [(2, .int x2_2), (1, .int x1_1), (0, .ref (a 0))]) hX dX9_areWhole_3 rfl (by decide) (fun _ => rfl) h (fun x2_2 h => ?_)
  refine g_sub [2, 1, 0] rfl (sX9_areWhole_L4 hX hR (fun σ_9 x1_10 x2_11 h => ?_) FU _ _ _ h)
  refine g_iload_n hX 1 dX9_areWhole_50 rfl rfl ?_
  refine g_iconst hX (-1) dX9_areWhole_51 (by decide) ?_
  refine g_icmp_ne hX 68 dX9_areWhole_52 (by decide) h (fun h => ?_) (fun h => ?_)
  · refine g_aload_n hX 0 dX9_areWhole_68 rfl rfl ?_
    refine g_callVI (As := []) (rest := []) hX 0 (Nat.le_of_ble_eq_true rfl) rfl rfl miX9_isAllBarred mvX9_isAllBarred lkX9_299 (by decide) rfl (Nat.le_of_ble_eq_true rfl) rfl dX9_areWhole_69 (fun τ x ho => kX9_isAllBarred _ ho) h (fun σ_12 t_13 h => ?_)
    refine g_if_eq hX 77 dX9_areWhole_72 (by decide) h (fun h => ?_) (fun h => ?_)
    · refine g_aload_n hX 0 dX9_areWhole_77 rfl rfl ?_
      refine g_iload_n hX 1 dX9_areWhole_78 rfl rfl ?_
      refine g_aload_n hX 0 dX9_areWhole_79 rfl rfl ?_
      refine g_iload_n hX 1 dX9_areWhole_80 rfl rfl ?_
      refine g_callVI (As := [.int x1_10]) (rest := [.int x1_10, .ref (a 0)]) hX 0 (Nat.le_of_ble_eq_true rfl) rfl rfl miX9_bestOf mvX9_bestOf lkX9_302 (by decide) rfl (Nat.le_of_ble_eq_true rfl) rfl dX9_areWhole_81 (fun τ x ho => kX9_bestOf _ ho) h (fun σ_14 t_15 h => ?_)
      refine g_callVV (As := [.int x1_10, .int t_15]) (rest := []) hX 0 (Nat.le_of_ble_eq_true rfl) rfl rfl miX9_puts mvX9_puts lkX9_305 (by decide) rfl (Nat.le_of_ble_eq_true rfl) rfl dX9_areWhole_84 (fun τ x ho => kX9_puts _ ho) h (fun σ_16 t_17 h => ?_)
      refine g_iconst hX (1) dX9_areWhole_87 (by decide) ?_
      exact g_retz hR (by decide) h dX9_areWhole_88
    · refine g_iconst hX (0) dX9_areWhole_75 (by decide) ?_
      exact g_retz hR (by decide) h dX9_areWhole_76
  · refine g_aload_n hX 0 dX9_areWhole_55 rfl rfl ?_
    refine gM_260 hX dX9_areWhole_56 ?_
    refine g_if_le hX 66 dX9_areWhole_59 (by decide) h (fun h => ?_) (fun h => ?_)
    · refine g_iconst hX (0) dX9_areWhole_66 (by decide) ?_
      exact g_retz hR (by decide) h dX9_areWhole_67
    · refine g_iconst hX (1) dX9_areWhole_62 (by decide) ?_
      refine g_goto hX 67 dX9_areWhole_63 (by decide) ?_
      exact g_retz hR (by decide) h dX9_areWhole_67
set_option maxRecDepth 20000 in
set_option maxHeartbeats 4000000 in
theorem kX9_areWhole (l : Launch) {a : Nat → Nat} {D : va_G} {tI tJ tB : ClassId} {zz : SV} {σ τ : St}   {x : Int32} (h : fX9_areWhole σ  = some (τ, x)) : CtI l yX9_areWhole cX9_areWhole 3 (some .boolean) 8 186 (vM a D tI tJ tB zz) σ [.ref (a 0)] τ x := g_metZ (by decide) (Nat.le_of_ble_eq_true rfl) rfl (fun X _ hX hR => sX9_areWhole (r := (τ, x)) hX hR h)
def fX9_areReady (σ : St)  : Option (St × Int32) :=
  cl (fX9_knocks σ ) fun (σ_1 : St) (t_2 : Unit) => cl (fX9_areWhole σ_1 ) fun (σ_3 : St) (t_4 : Int32) => chk (isB t_4) (some (σ_3, t_4))
set_option maxRecDepth 20000 in
set_option maxHeartbeats 4000000 in
theorem sX9_areReady {X : CX} {a : Nat → Nat} {D : va_G} {tI tJ tB : ClassId} {zz : SV} {σ : St}   {r : St × Int32} (hX : OKX X (vM a D tI tJ tB zz) cX9_areReady 1 RX9 9 208) (hR : (r.2 = 0 ∨ r.2 = 1) → ∀ (pc : Nat) (lv : List (Nat × Value)), decode cX9_areReady pc = .ok (.ireturn, 1) → G X (vM a D tI tJ tB zz) 1 r.1 pc lv [.int r.2]) (h : fX9_areReady σ  = some r) : G X (vM a D tI tJ tB zz) 1 σ 0 [(0, .ref (a 0))] [] := by
  unfold fX9_areReady at h
  refine g_aload_n hX 0 dX9_areReady_0 rfl rfl ?_
  refine g_callVV (As := []) (rest := []) hX 0 (Nat.le_of_ble_eq_true rfl) rfl rfl miX9_knocks mvX9_knocks lkX9_361 (by decide) rfl (Nat.le_of_ble_eq_true rfl) rfl dX9_areReady_1 (fun τ x ho => kX9_knocks _ ho) h (fun σ_1 t_2 h => ?_)
  refine g_aload_n hX 0 dX9_areReady_4 rfl rfl ?_
  refine g_callVI (As := []) (rest := []) hX 0 (Nat.le_of_ble_eq_true rfl) rfl rfl miX9_areWhole mvX9_areWhole lkX9_364 (by decide) rfl (Nat.le_of_ble_eq_true rfl) rfl dX9_areReady_5 (fun τ x ho => kX9_areWhole _ ho) h (fun σ_3 t_4 h => ?_)
  exact g_retzc hR h dX9_areReady_8
set_option maxRecDepth 20000 in
set_option maxHeartbeats 4000000 in
theorem kX9_areReady (l : Launch) {a : Nat → Nat} {D : va_G} {tI tJ tB : ClassId} {zz : SV} {σ τ : St}   {x : Int32} (h : fX9_areReady σ  = some (τ, x)) : CtI l yX9_areReady cX9_areReady 1 (some .boolean) 9 208 (vM a D tI tJ tB zz) σ [.ref (a 0)] τ x := g_metZ (by decide) (Nat.le_of_ble_eq_true rfl) rfl (fun X _ hX hR => sX9_areReady (r := (τ, x)) hX hR h)
