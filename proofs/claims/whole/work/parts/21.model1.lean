def fX9_isIn (σ : St) (p1 : Int32) (p2 : Int32) (p3 : Int32) : Option (St × Int32) :=
  (if p1 < p2 then some (σ, (0 : Int32)) else (if p3 < p1 then some (σ, (0 : Int32)) else some (σ, (1 : Int32))))
set_option maxRecDepth 20000 in
set_option maxHeartbeats 4000000 in
theorem sX9_isIn {X : CX} {a : Nat → Nat} {D : va_G} {tI tJ tB : ClassId} {zz : SV} {σ : St}  {p1 : Int32} {p2 : Int32} {p3 : Int32} {r : St × Int32} (hX : OKX X (vM a D tI tJ tB zz) cX9_isIn 3 RX9 0 0) (hR : (r.2 = 0 ∨ r.2 = 1) → ∀ (pc : Nat) (lv : List (Nat × Value)), decode cX9_isIn pc = .ok (.ireturn, 1) → G X (vM a D tI tJ tB zz) 3 r.1 pc lv [.int r.2]) (h : fX9_isIn σ p1 p2 p3 = some r) : G X (vM a D tI tJ tB zz) 3 σ 0 [(0, .int p1), (1, .int p2), (2, .int p3)] [] := by
  unfold fX9_isIn at h
  refine g_iload_n hX 0 dX9_isIn_0 rfl rfl ?_
  refine g_iload_n hX 1 dX9_isIn_1 rfl rfl ?_
  refine g_icmp_lt hX 14 dX9_isIn_2 (by decide) h (fun h => ?_) (fun h => ?_)
  · refine g_iconst hX (0) dX9_isIn_14 (by decide) ?_
    exact g_retz hR (by decide) h dX9_isIn_15
  · refine g_iload_n hX 0 dX9_isIn_5 rfl rfl ?_
    refine g_iload_n hX 2 dX9_isIn_6 rfl rfl ?_
    refine g_icmp_gt hX 14 dX9_isIn_7 (by decide) h (fun h => ?_) (fun h => ?_)
    · refine g_iconst hX (0) dX9_isIn_14 (by decide) ?_
      exact g_retz hR (by decide) h dX9_isIn_15
    · refine g_iconst hX (1) dX9_isIn_10 (by decide) ?_
      refine g_goto hX 15 dX9_isIn_11 (by decide) ?_
      exact g_retz hR (by decide) h dX9_isIn_15
set_option maxRecDepth 20000 in
set_option maxHeartbeats 4000000 in
theorem kX9_isIn (l : Launch) {a : Nat → Nat} {D : va_G} {tI tJ tB : ClassId} {zz : SV} {σ τ : St}  {p1 : Int32} {p2 : Int32} {p3 : Int32} {x : Int32} (h : fX9_isIn σ p1 p2 p3 = some (τ, x)) : CtI l yX9_isIn cX9_isIn 3 (some .boolean) 0 0 (vM a D tI tJ tB zz) σ [.int p1, .int p2, .int p3] τ x := g_metZ (by decide) (Nat.le_of_ble_eq_true rfl) rfl (fun X _ hX hR => sX9_isIn (r := (τ, x)) hX hR h)
def fX9_one (σ : St) (p1 : Int32) : Option (St × Int32) :=
  (if p1 = 0 then some (σ, (0 : Int32)) else some (σ, (1 : Int32)))
set_option maxRecDepth 20000 in
set_option maxHeartbeats 4000000 in
theorem sX9_one {X : CX} {a : Nat → Nat} {D : va_G} {tI tJ tB : ClassId} {zz : SV} {σ : St}  {p1 : Int32} {r : St × Int32} (hX : OKX X (vM a D tI tJ tB zz) cX9_one 1 RX9 0 0) (hR : ∀ (pc : Nat) (lv : List (Nat × Value)), decode cX9_one pc = .ok (.ireturn, 1) → G X (vM a D tI tJ tB zz) 1 r.1 pc lv [.int r.2]) (h : fX9_one σ p1 = some r) : G X (vM a D tI tJ tB zz) 1 σ 0 [(0, .int p1)] [] := by
  unfold fX9_one at h
  refine g_iload_n hX 0 dX9_one_0 rfl rfl ?_
  refine g_if_eq hX 8 dX9_one_1 (by decide) h (fun h => ?_) (fun h => ?_)
  · refine g_iconst hX (0) dX9_one_8 (by decide) ?_
    exact g_reti hR h dX9_one_9
  · refine g_iconst hX (1) dX9_one_4 (by decide) ?_
    refine g_goto hX 9 dX9_one_5 (by decide) ?_
    exact g_reti hR h dX9_one_9
set_option maxRecDepth 20000 in
set_option maxHeartbeats 4000000 in
theorem kX9_one (l : Launch) {a : Nat → Nat} {D : va_G} {tI tJ tB : ClassId} {zz : SV} {σ τ : St}  {p1 : Int32} {x : Int32} (h : fX9_one σ p1 = some (τ, x)) : CtI l yX9_one cX9_one 1 (some .int) 0 0 (vM a D tI tJ tB zz) σ [.int p1] τ x := g_metI (by decide) (Nat.le_of_ble_eq_true rfl) rfl (fun X _ hX hR => sX9_one (r := (τ, x)) hX hR h)
def fX9_has (σ : St) (p1 : Int32) (p2 : Int32) : Option (St × Int32) :=
  (if ((p1 >>> (p2 &&& 31)) &&& (1 : Int32)) = (1 : Int32) then some (σ, (1 : Int32)) else some (σ, (0 : Int32)))
set_option maxRecDepth 20000 in
set_option maxHeartbeats 4000000 in
theorem sX9_has {X : CX} {a : Nat → Nat} {D : va_G} {tI tJ tB : ClassId} {zz : SV} {σ : St}  {p1 : Int32} {p2 : Int32} {r : St × Int32} (hX : OKX X (vM a D tI tJ tB zz) cX9_has 2 RX9 0 0) (hR : (r.2 = 0 ∨ r.2 = 1) → ∀ (pc : Nat) (lv : List (Nat × Value)), decode cX9_has pc = .ok (.ireturn, 1) → G X (vM a D tI tJ tB zz) 2 r.1 pc lv [.int r.2]) (h : fX9_has σ p1 p2 = some r) : G X (vM a D tI tJ tB zz) 2 σ 0 [(0, .int p1), (1, .int p2)] [] := by
  unfold fX9_has at h
  refine g_iload_n hX 0 dX9_has_0 rfl rfl ?_
  refine g_iload_n hX 1 dX9_has_1 rfl rfl ?_
  refine g_ishr hX dX9_has_2 ?_
  refine g_iconst hX (1) dX9_has_3 (by decide) ?_
  refine g_iand hX dX9_has_4 ?_
  refine g_iconst hX (1) dX9_has_5 (by decide) ?_
  refine g_icmp_ne hX 13 dX9_has_6 (by decide) h (fun h => ?_) (fun h => ?_)
  · refine g_iconst hX (0) dX9_has_13 (by decide) ?_
    exact g_retz hR (by decide) h dX9_has_14
  · refine g_iconst hX (1) dX9_has_9 (by decide) ?_
    refine g_goto hX 14 dX9_has_10 (by decide) ?_
    exact g_retz hR (by decide) h dX9_has_14
set_option maxRecDepth 20000 in
set_option maxHeartbeats 4000000 in
theorem kX9_has (l : Launch) {a : Nat → Nat} {D : va_G} {tI tJ tB : ClassId} {zz : SV} {σ τ : St}  {p1 : Int32} {p2 : Int32} {x : Int32} (h : fX9_has σ p1 p2 = some (τ, x)) : CtI l yX9_has cX9_has 2 (some .boolean) 0 0 (vM a D tI tJ tB zz) σ [.int p1, .int p2] τ x := g_metZ (by decide) (Nat.le_of_ble_eq_true rfl) rfl (fun X _ hX hR => sX9_has (r := (τ, x)) hX hR h)
def fX9_bits_L4  (kx4 : St → Int32 → Int32 → Option (St × Int32)) : Nat → St → Int32 → Int32 → Option (St × Int32)
  | 0, _, _, _ => none
  | n4 + 1, σ, c1_4, c2_4 =>
    (if c2_4 ≤ 0 then kx4 σ c1_4 c2_4 else bnd (c1_4 + (c2_4 &&& (1 : Int32))) fun (x1_3 : Int32) => bnd (c2_4 >>> ((1 : Int32) &&& 31)) fun (x2_4 : Int32) => fX9_bits_L4 kx4 n4 σ x1_3 x2_4)
def fX9_bits (σ : St) (p1 : Int32) : Option (St × Int32) :=
  bnd (0 : Int32) fun (x1_1 : Int32) => bnd p1 fun (x2_2 : Int32) => fX9_bits_L4  (fun (σ_5 : St) (x1_6 : Int32) (x2_7 : Int32) => some (σ_5, x1_6)) FU σ x1_1 x2_2
set_option maxRecDepth 20000 in
set_option maxHeartbeats 4000000 in
theorem sX9_bits_L4 {X : CX} {a : Nat → Nat} {D : va_G} {tI tJ tB : ClassId} {zz : SV}  {kx4 : St → Int32 → Int32 → Option (St × Int32)} {r : St × Int32} (hX : OKX X (vM a D tI tJ tB zz) cX9_bits 3 RX9 0 0) (hR : ∀ (pc : Nat) (lv : List (Nat × Value)), decode cX9_bits pc = .ok (.ireturn, 1) → G X (vM a D tI tJ tB zz) 3 r.1 pc lv [.int r.2]) (hkx4 : ∀ (σ : St) (e1_4 : Int32) (e2_4 : Int32), kx4 σ e1_4 e2_4 = some r → G X (vM a D tI tJ tB zz) 3 σ 21 [(1, .int e1_4)] []) : ∀ (n : Nat) (σ : St) (c1_4 : Int32) (c2_4 : Int32), fX9_bits_L4 kx4 n σ c1_4 c2_4 = some r → G X (vM a D tI tJ tB zz) 3 σ 4 [(1, .int c1_4), (2, .int c2_4)] [] := by
  intro n
  induction n with
  | zero => intro σ c1_4 c2_4 h; rw [fX9_bits_L4] at h; exact absurd h (by simp)
  | succ n4 ih4 =>
    intro σ c1_4 c2_4 h
    rw [fX9_bits_L4] at h
    refine g_iload_n hX 1 dX9_bits_4 rfl rfl ?_
    refine g_if_le hX 21 dX9_bits_5 (by decide) h (fun h => ?_) (fun h => ?_)
    · exact g_sub [0] rfl (hkx4 _ _ _ h)
    · refine g_iload_n hX 0 dX9_bits_8 rfl rfl ?_
      refine g_iload_n hX 1 dX9_bits_9 rfl rfl ?_
      refine g_iconst hX (1) dX9_bits_10 (by decide) ?_
      refine g_iand hX dX9_bits_11 ?_
      refine g_iadd hX dX9_bits_12 ?_
      refine g_istore_n (lv' := fun x1_3 => [(1, .int x1_3), (2, .int c2_4)]) hX dX9_bits_13 rfl (by decide) (fun _ => rfl) h (fun x1_3 h => ?_)
      refine g_iload_n hX 1 dX9_bits_14 rfl rfl ?_
      refine g_iconst hX (1) dX9_bits_15 (by decide) ?_
      refine g_ishr hX dX9_bits_16 ?_
      refine g_istore_n (lv' := fun x2_4 => [(2, .int x2_4), (1, .int x1_3)]) hX dX9_bits_17 rfl (by decide) (fun _ => rfl) h (fun x2_4 h => ?_)
      refine g_goto hX 4 dX9_bits_18 (by decide) ?_
      exact g_sub [1, 0] rfl (ih4 _ _ _ h)
set_option maxRecDepth 20000 in
set_option maxHeartbeats 4000000 in
theorem sX9_bits {X : CX} {a : Nat → Nat} {D : va_G} {tI tJ tB : ClassId} {zz : SV} {σ : St}  {p1 : Int32} {r : St × Int32} (hX : OKX X (vM a D tI tJ tB zz) cX9_bits 3 RX9 0 0) (hR : ∀ (pc : Nat) (lv : List (Nat × Value)), decode cX9_bits pc = .ok (.ireturn, 1) → G X (vM a D tI tJ tB zz) 3 r.1 pc lv [.int r.2]) (h : fX9_bits σ p1 = some r) : G X (vM a D tI tJ tB zz) 3 σ 0 [(0, .int p1)] [] := by
  unfold fX9_bits at h
  refine g_iconst hX (0) dX9_bits_0 (by decide) ?_
  refine g_istore_n (lv' := fun x1_1 => [(1, .int x1_1), (0, .int p1)]) hX dX9_bits_1 rfl (by decide) (fun _ => rfl) h (fun x1_1 h => ?_)
  refine g_iload_n hX 1 dX9_bits_2 rfl rfl ?_
  refine g_istore_n (lv' := fun x2_2 => [(2, .int x2_2), (1, .int x1_1), (0, .int p1)]) hX dX9_bits_3 rfl (by decide) (fun _ => rfl) h (fun x2_2 h => ?_)
  refine g_sub [1, 0] rfl (sX9_bits_L4 hX hR (fun σ_5 x1_6 x2_7 h => ?_) FU _ _ _ h)
  refine g_iload_n hX 0 dX9_bits_21 rfl rfl ?_
  exact g_reti hR h dX9_bits_22
set_option maxRecDepth 20000 in
set_option maxHeartbeats 4000000 in
theorem kX9_bits (l : Launch) {a : Nat → Nat} {D : va_G} {tI tJ tB : ClassId} {zz : SV} {σ τ : St}  {p1 : Int32} {x : Int32} (h : fX9_bits σ p1 = some (τ, x)) : CtI l yX9_bits cX9_bits 3 (some .int) 0 0 (vM a D tI tJ tB zz) σ [.int p1] τ x := g_metI (by decide) (Nat.le_of_ble_eq_true rfl) rfl (fun X _ hX hR => sX9_bits (r := (τ, x)) hX hR h)
def fX9_four_L3 (q1_3 : Int32) (kx3 : St → Int32 → Option (St × Unit)) : Nat → St → Int32 → Option (St × Unit)
  | 0, _, _ => none
  | n3 + 1, σ, c2_3 =>
    (if c2_3 < 0 then kx3 σ c2_3 else chk (inb (σ.1 0 29) 800) (bnd (sI σ 13 (ix (σ.1 0 29)) (vp_nar .byte (((q1_3 >>> (c2_3 &&& 31))).toInt8.toInt32))) fun (σ_2 : St) => bnd (sI σ_2 0 29 ((σ_2.1 0 29) + (1 : Int32))) fun (σ_3 : St) => bnd (c2_3 + (-8 : Int32)) fun (x2_4 : Int32) => fX9_four_L3 q1_3 kx3 n3 σ_3 x2_4))
def fX9_four (σ : St) (p1 : Int32) : Option (St × Unit) :=
  bnd (24 : Int32) fun (x2_1 : Int32) => fX9_four_L3 p1 (fun (σ_5 : St) (x2_6 : Int32) => some (σ_5, ())) FU σ x2_1
set_option maxRecDepth 20000 in
set_option maxHeartbeats 4000000 in
theorem sX9_four_L3 {X : CX} {a : Nat → Nat} {D : va_G} {tI tJ tB : ClassId} {zz : SV} {q1_3 : Int32} {kx3 : St → Int32 → Option (St × Unit)} {r : St × Unit} (hX : OKX X (vM a D tI tJ tB zz) cX9_four 3 RX9 0 0) (hR : ∀ (pc : Nat) (lv : List (Nat × Value)), decode cX9_four pc = .ok (.return_, 1) → G X (vM a D tI tJ tB zz) 3 r.1 pc lv []) (hkx3 : ∀ (σ : St) (e2_3 : Int32), kx3 σ e2_3 = some r → G X (vM a D tI tJ tB zz) 3 σ 36 [] []) : ∀ (n : Nat) (σ : St) (c2_3 : Int32), fX9_four_L3 q1_3 kx3 n σ c2_3 = some r → G X (vM a D tI tJ tB zz) 3 σ 3 [(0, .ref (a 0)), (1, .int q1_3), (2, .int c2_3)] [] := by
  intro n
  induction n with
  | zero => intro σ c2_3 h; rw [fX9_four_L3] at h; exact absurd h (by simp)
  | succ n3 ih3 =>
    intro σ c2_3 h
    rw [fX9_four_L3] at h
    refine g_iload_n hX 2 dX9_four_3 rfl rfl ?_
    refine g_if_lt hX 36 dX9_four_4 (by decide) h (fun h => ?_) (fun h => ?_)
    · exact g_sub [] rfl (hkx3 _ _ h)
    · refine g_aload_n hX 0 dX9_four_7 rfl rfl ?_
      refine gM_60 hX dX9_four_8 ?_
      refine g_aload_n hX 0 dX9_four_11 rfl rfl ?_
      refine gM_130 hX dX9_four_12 ?_
      refine g_iload_n hX 1 dX9_four_15 rfl rfl ?_
      refine g_iload_n hX 2 dX9_four_16 rfl rfl ?_
      refine g_ishr hX dX9_four_17 ?_
      refine g_i2b hX dX9_four_18 ?_
      refine asM_13 hX dX9_four_19 h (fun σ_2 h => ?_)
      refine g_aload_n hX 0 dX9_four_20 rfl rfl ?_
      refine g_dup hX dX9_four_21 rfl ?_
      refine gM_130 hX dX9_four_22 ?_
      refine g_iconst hX (1) dX9_four_25 (by decide) ?_
      refine g_iadd hX dX9_four_26 ?_
      refine pM_130 hX dX9_four_27 h (fun σ_3 h => ?_)
      refine g_iinc (y := (-8)) (lv' := fun x2_4 => [(2, .int x2_4), (0, .ref (a 0)), (1, .int q1_3)]) hX 2 dX9_four_30 rfl (by decide) (by decide) (fun _ => rfl) h (fun x2_4 h => ?_)
      refine g_goto hX 3 dX9_four_33 (by decide) ?_
      exact g_sub [1, 2, 0] rfl (ih3 _ _ h)
set_option maxRecDepth 20000 in
set_option maxHeartbeats 4000000 in
theorem sX9_four {X : CX} {a : Nat → Nat} {D : va_G} {tI tJ tB : ClassId} {zz : SV} {σ : St}  {p1 : Int32} {r : St × Unit} (hX : OKX X (vM a D tI tJ tB zz) cX9_four 3 RX9 0 0) (hR : ∀ (pc : Nat) (lv : List (Nat × Value)), decode cX9_four pc = .ok (.return_, 1) → G X (vM a D tI tJ tB zz) 3 r.1 pc lv []) (h : fX9_four σ p1 = some r) : G X (vM a D tI tJ tB zz) 3 σ 0 [(0, .ref (a 0)), (1, .int p1)] [] := by
  unfold fX9_four at h
  refine g_bipush hX (24) dX9_four_0 (by decide) ?_
  refine g_istore_n (lv' := fun x2_1 => [(2, .int x2_1), (0, .ref (a 0)), (1, .int p1)]) hX dX9_four_2 rfl (by decide) (fun _ => rfl) h (fun x2_1 h => ?_)
  refine g_sub [1, 2, 0] rfl (sX9_four_L3 hX hR (fun σ_5 x2_6 h => ?_) FU _ _ h)
  exact g_retv hR h dX9_four_36
set_option maxRecDepth 20000 in
set_option maxHeartbeats 4000000 in
theorem kX9_four (l : Launch) {a : Nat → Nat} {D : va_G} {tI tJ tB : ClassId} {zz : SV} {σ τ : St}  {p1 : Int32} {x : Unit} (h : fX9_four σ p1 = some (τ, x)) : CtV l yX9_four cX9_four 3 none 0 0 (vM a D tI tJ tB zz) σ [.ref (a 0), .int p1] τ x := g_metV (by decide) (Nat.le_of_ble_eq_true rfl) rfl (fun X _ hX hR => sX9_four (r := (τ, x)) hX hR h)
def fX9_feed (σ : St) (p1 : Int32) (p2 : Int32) (p3 : Int32) (p4 : Int32) (p5 : Int32) : Option (St × Int32) :=
  (if ((σ.1 0 29) + (20 : Int32)) ≤ (800 : Int32) then cl (fX9_four σ p1) fun (σ_1 : St) (t_2 : Unit) => cl (fX9_four σ_1 p2) fun (σ_3 : St) (t_4 : Unit) => cl (fX9_four σ_3 p3) fun (σ_5 : St) (t_6 : Unit) => cl (fX9_four σ_5 p4) fun (σ_7 : St) (t_8 : Unit) => cl (fX9_four σ_7 p5) fun (σ_9 : St) (t_10 : Unit) => some (σ_9, (σ_9.1 0 29)) else some (σ, (-1 : Int32)))
set_option maxRecDepth 20000 in
set_option maxHeartbeats 4000000 in
theorem sX9_feed {X : CX} {a : Nat → Nat} {D : va_G} {tI tJ tB : ClassId} {zz : SV} {σ : St}  {p1 : Int32} {p2 : Int32} {p3 : Int32} {p4 : Int32} {p5 : Int32} {r : St × Int32} (hX : OKX X (vM a D tI tJ tB zz) cX9_feed 6 RX9 1 22) (hR : ∀ (pc : Nat) (lv : List (Nat × Value)), decode cX9_feed pc = .ok (.ireturn, 1) → G X (vM a D tI tJ tB zz) 6 r.1 pc lv [.int r.2]) (h : fX9_feed σ p1 p2 p3 p4 p5 = some r) : G X (vM a D tI tJ tB zz) 6 σ 0 [(0, .ref (a 0)), (1, .int p1), (2, .int p2), (3, .int p3), (4, .int p4), (5, .int p5)] [] := by
  unfold fX9_feed at h
  refine g_aload_n hX 0 dX9_feed_0 rfl rfl ?_
  refine gM_130 hX dX9_feed_1 ?_
  refine g_bipush hX (20) dX9_feed_4 (by decide) ?_
  refine g_iadd hX dX9_feed_6 ?_
  refine g_sipush hX (800) dX9_feed_7 (by decide) ?_
  refine g_icmp_le hX 15 dX9_feed_10 (by decide) h (fun h => ?_) (fun h => ?_)
  · refine g_aload_n hX 0 dX9_feed_15 rfl rfl ?_
    refine g_iload_n hX 1 dX9_feed_16 rfl rfl ?_
    refine g_callVV (As := [.int p1]) (rest := []) hX 0 (Nat.le_of_ble_eq_true rfl) rfl rfl miX9_four mvX9_four lkX9_133 (by decide) rfl (Nat.le_of_ble_eq_true rfl) rfl dX9_feed_17 (fun τ x ho => kX9_four _ ho) h (fun σ_1 t_2 h => ?_)
    refine g_aload_n hX 0 dX9_feed_20 rfl rfl ?_
    refine g_iload_n hX 2 dX9_feed_21 rfl rfl ?_
    refine g_callVV (As := [.int p2]) (rest := []) hX 0 (Nat.le_of_ble_eq_true rfl) rfl rfl miX9_four mvX9_four lkX9_133 (by decide) rfl (Nat.le_of_ble_eq_true rfl) rfl dX9_feed_22 (fun τ x ho => kX9_four _ ho) h (fun σ_3 t_4 h => ?_)
    refine g_aload_n hX 0 dX9_feed_25 rfl rfl ?_
    refine g_iload_n hX 3 dX9_feed_26 rfl rfl ?_
    refine g_callVV (As := [.int p3]) (rest := []) hX 0 (Nat.le_of_ble_eq_true rfl) rfl rfl miX9_four mvX9_four lkX9_133 (by decide) rfl (Nat.le_of_ble_eq_true rfl) rfl dX9_feed_27 (fun τ x ho => kX9_four _ ho) h (fun σ_5 t_6 h => ?_)
    refine g_aload_n hX 0 dX9_feed_30 rfl rfl ?_
    refine g_iload hX 4 dX9_feed_31 rfl ?_
    refine g_callVV (As := [.int p4]) (rest := []) hX 0 (Nat.le_of_ble_eq_true rfl) rfl rfl miX9_four mvX9_four lkX9_133 (by decide) rfl (Nat.le_of_ble_eq_true rfl) rfl dX9_feed_33 (fun τ x ho => kX9_four _ ho) h (fun σ_7 t_8 h => ?_)
    refine g_aload_n hX 0 dX9_feed_36 rfl rfl ?_
    refine g_iload hX 5 dX9_feed_37 rfl ?_
    refine g_callVV (As := [.int p5]) (rest := []) hX 0 (Nat.le_of_ble_eq_true rfl) rfl rfl miX9_four mvX9_four lkX9_133 (by decide) rfl (Nat.le_of_ble_eq_true rfl) rfl dX9_feed_39 (fun τ x ho => kX9_four _ ho) h (fun σ_9 t_10 h => ?_)
    refine g_aload_n hX 0 dX9_feed_42 rfl rfl ?_
    refine gM_130 hX dX9_feed_43 ?_
    exact g_reti hR h dX9_feed_46
  · refine g_iconst hX (-1) dX9_feed_13 (by decide) ?_
    exact g_reti hR h dX9_feed_14
set_option maxRecDepth 20000 in
set_option maxHeartbeats 4000000 in
theorem kX9_feed (l : Launch) {a : Nat → Nat} {D : va_G} {tI tJ tB : ClassId} {zz : SV} {σ τ : St}  {p1 : Int32} {p2 : Int32} {p3 : Int32} {p4 : Int32} {p5 : Int32} {x : Int32} (h : fX9_feed σ p1 p2 p3 p4 p5 = some (τ, x)) : CtI l yX9_feed cX9_feed 6 (some .int) 1 22 (vM a D tI tJ tB zz) σ [.ref (a 0), .int p1, .int p2, .int p3, .int p4, .int p5] τ x := g_metI (by decide) (Nat.le_of_ble_eq_true rfl) rfl (fun X _ hX hR => sX9_feed (r := (τ, x)) hX hR h)
def fX9_blanks_L0  (kx0 : St → Option (St × Unit)) : Nat → St → Option (St × Unit)
  | 0, _ => none
  | n0 + 1, σ =>
    (if (σ.1 0 30) ≤ (σ.1 0 31) then kx0 σ else chk (inb (σ.1 0 31) 800) ((jp (fun (σ_3 : St)   => bnd (sI σ_3 0 31 ((σ_3.1 0 31) + (1 : Int32))) fun (σ_4 : St) => fX9_blanks_L0 kx0 n0 σ_4) fun j39 => (if (σ.1 14 (ix (σ.1 0 31))) = (32 : Int32) then j39 σ else chk (inb (σ.1 0 31) 800) ((if (σ.1 14 (ix (σ.1 0 31))) = (10 : Int32) then j39 σ else kx0 σ))))))
def fX9_blanks (σ : St)  : Option (St × Unit) :=
  (if (σ.1 0 30) ≤ (σ.1 0 31) then some (σ, ()) else chk (inb (σ.1 0 31) 800) ((jp (fun (σ_1 : St)   => bnd (sI σ_1 0 31 ((σ_1.1 0 31) + (1 : Int32))) fun (σ_2 : St) => fX9_blanks_L0  (fun (σ_5 : St)  => some (σ_5, ())) FU σ_2 ) fun j39 => (if (σ.1 14 (ix (σ.1 0 31))) = (32 : Int32) then j39 σ else chk (inb (σ.1 0 31) 800) ((if (σ.1 14 (ix (σ.1 0 31))) = (10 : Int32) then j39 σ else some (σ, ())))))))
set_option maxRecDepth 20000 in
set_option maxHeartbeats 4000000 in
theorem sX9_blanks_L0 {X : CX} {a : Nat → Nat} {D : va_G} {tI tJ tB : ClassId} {zz : SV}  {kx0 : St → Option (St × Unit)} {r : St × Unit} (hX : OKX X (vM a D tI tJ tB zz) cX9_blanks 1 RX9 0 0) (hR : ∀ (pc : Nat) (lv : List (Nat × Value)), decode cX9_blanks pc = .ok (.return_, 1) → G X (vM a D tI tJ tB zz) 1 r.1 pc lv []) (hkx0 : ∀ (σ : St) , kx0 σ  = some r → G X (vM a D tI tJ tB zz) 1 σ 52 [] []) : ∀ (n : Nat) (σ : St) , fX9_blanks_L0 kx0 n σ  = some r → G X (vM a D tI tJ tB zz) 1 σ 0 [(0, .ref (a 0))] [] := by
  intro n
  induction n with
  | zero => intro σ  h; rw [fX9_blanks_L0] at h; exact absurd h (by simp)
  | succ n0 ih0 =>
    intro σ  h
    rw [fX9_blanks_L0] at h
    refine g_aload_n hX 0 dX9_blanks_0 rfl rfl ?_
    refine gM_137 hX dX9_blanks_1 ?_
    refine g_aload_n hX 0 dX9_blanks_4 rfl rfl ?_
    refine gM_140 hX dX9_blanks_5 ?_
    refine g_icmp_ge hX 52 dX9_blanks_8 (by decide) h (fun h => ?_) (fun h => ?_)
    · exact g_sub [] rfl (hkx0 _ h)
    · refine g_aload_n hX 0 dX9_blanks_11 rfl rfl ?_
      refine gM_64 hX dX9_blanks_12 ?_
      refine g_aload_n hX 0 dX9_blanks_15 rfl rfl ?_
      refine gM_137 hX dX9_blanks_16 ?_
      refine alM_14 hX dX9_blanks_19 h (fun h => ?_)
      refine g_bipush hX (32) dX9_blanks_20 (by decide) ?_
      refine jp_inv (P := fun f => ∀ (σ_3 : St)  , f σ_3 = some r → G X (vM a D tI tJ tB zz) 1 σ_3 39 [(0, .ref (a 0))] []) h (fun σ_3 h => ?_) (fun j39 hj39 h => ?_)
      · refine g_aload_n hX 0 dX9_blanks_39 rfl rfl ?_
        refine g_dup hX dX9_blanks_40 rfl ?_
        refine gM_137 hX dX9_blanks_41 ?_
        refine g_iconst hX (1) dX9_blanks_44 (by decide) ?_
        refine g_iadd hX dX9_blanks_45 ?_
        refine pM_137 hX dX9_blanks_46 h (fun σ_4 h => ?_)
        refine g_goto hX 0 dX9_blanks_49 (by decide) ?_
        exact g_sub [0] rfl (ih0 _ h)
      refine g_icmp_eq hX 39 dX9_blanks_22 (by decide) h (fun h => ?_) (fun h => ?_)
      · exact g_sub [0] rfl (hj39 _ h)
      · refine g_aload_n hX 0 dX9_blanks_25 rfl rfl ?_
        refine gM_64 hX dX9_blanks_26 ?_
        refine g_aload_n hX 0 dX9_blanks_29 rfl rfl ?_
        refine gM_137 hX dX9_blanks_30 ?_
        refine alM_14 hX dX9_blanks_33 h (fun h => ?_)
        refine g_bipush hX (10) dX9_blanks_34 (by decide) ?_
        refine g_icmp_ne hX 52 dX9_blanks_36 (by decide) h (fun h => ?_) (fun h => ?_)
        · exact g_sub [] rfl (hkx0 _ h)
        · exact g_sub [0] rfl (hj39 _ h)
set_option maxRecDepth 20000 in
set_option maxHeartbeats 4000000 in
theorem sX9_blanks {X : CX} {a : Nat → Nat} {D : va_G} {tI tJ tB : ClassId} {zz : SV} {σ : St}   {r : St × Unit} (hX : OKX X (vM a D tI tJ tB zz) cX9_blanks 1 RX9 0 0) (hR : ∀ (pc : Nat) (lv : List (Nat × Value)), decode cX9_blanks pc = .ok (.return_, 1) → G X (vM a D tI tJ tB zz) 1 r.1 pc lv []) (h : fX9_blanks σ  = some r) : G X (vM a D tI tJ tB zz) 1 σ 0 [(0, .ref (a 0))] [] := by
  unfold fX9_blanks at h
  refine g_aload_n hX 0 dX9_blanks_0 rfl rfl ?_
  refine gM_137 hX dX9_blanks_1 ?_
  refine g_aload_n hX 0 dX9_blanks_4 rfl rfl ?_
  refine gM_140 hX dX9_blanks_5 ?_
  refine g_icmp_ge hX 52 dX9_blanks_8 (by decide) h (fun h => ?_) (fun h => ?_)
  · exact g_retv hR h dX9_blanks_52
  · refine g_aload_n hX 0 dX9_blanks_11 rfl rfl ?_
    refine gM_64 hX dX9_blanks_12 ?_
    refine g_aload_n hX 0 dX9_blanks_15 rfl rfl ?_
    refine gM_137 hX dX9_blanks_16 ?_
    refine alM_14 hX dX9_blanks_19 h (fun h => ?_)
    refine g_bipush hX (32) dX9_blanks_20 (by decide) ?_
    refine jp_inv (P := fun f => ∀ (σ_1 : St)  , f σ_1 = some r → G X (vM a D tI tJ tB zz) 1 σ_1 39 [(0, .ref (a 0))] []) h (fun σ_1 h => ?_) (fun j39 hj39 h => ?_)
    · refine g_aload_n hX 0 dX9_blanks_39 rfl rfl ?_
      refine g_dup hX dX9_blanks_40 rfl ?_
      refine gM_137 hX dX9_blanks_41 ?_
      refine g_iconst hX (1) dX9_blanks_44 (by decide) ?_
      refine g_iadd hX dX9_blanks_45 ?_
      refine pM_137 hX dX9_blanks_46 h (fun σ_2 h => ?_)
      refine g_goto hX 0 dX9_blanks_49 (by decide) ?_
      refine g_sub [0] rfl (sX9_blanks_L0 hX hR (fun σ_5  h => ?_) FU _  h)
      exact g_retv hR h dX9_blanks_52
    refine g_icmp_eq hX 39 dX9_blanks_22 (by decide) h (fun h => ?_) (fun h => ?_)
    · exact g_sub [0] rfl (hj39 _ h)
    · refine g_aload_n hX 0 dX9_blanks_25 rfl rfl ?_
      refine gM_64 hX dX9_blanks_26 ?_
      refine g_aload_n hX 0 dX9_blanks_29 rfl rfl ?_
      refine gM_137 hX dX9_blanks_30 ?_
      refine alM_14 hX dX9_blanks_33 h (fun h => ?_)
      refine g_bipush hX (10) dX9_blanks_34 (by decide) ?_
      refine g_icmp_ne hX 52 dX9_blanks_36 (by decide) h (fun h => ?_) (fun h => ?_)
      · exact g_retv hR h dX9_blanks_52
      · exact g_sub [0] rfl (hj39 _ h)
set_option maxRecDepth 20000 in
set_option maxHeartbeats 4000000 in
theorem kX9_blanks (l : Launch) {a : Nat → Nat} {D : va_G} {tI tJ tB : ClassId} {zz : SV} {σ τ : St}   {x : Unit} (h : fX9_blanks σ  = some (τ, x)) : CtV l yX9_blanks cX9_blanks 1 none 0 0 (vM a D tI tJ tB zz) σ [.ref (a 0)] τ x := g_metV (by decide) (Nat.le_of_ble_eq_true rfl) rfl (fun X _ hX hR => sX9_blanks (r := (τ, x)) hX hR h)
def fX9_word_L14  (kx14 : St → Int64 → Option (St × Int64)) : Nat → St → Int64 → Option (St × Int64)
  | 0, _, _ => none
  | n14 + 1, σ, c1_14 =>
    (if (σ.1 0 30) ≤ (σ.1 0 35) then kx14 σ c1_14 else chk (inb (σ.1 0 35) 800) ((if (σ.1 14 (ix (σ.1 0 35))) < (97 : Int32) then kx14 σ c1_14 else chk (inb (σ.1 0 35) 800) ((if (122 : Int32) < (σ.1 14 (ix (σ.1 0 35))) then kx14 σ c1_14 else (jp (fun (σ_5 : St)  (t_6 : Int64) => bnd t_6 fun (x1_7 : Int64) => bnd (sI σ_5 0 35 ((σ_5.1 0 35) + (1 : Int32))) fun (σ_8 : St) => fX9_word_L14 kx14 n14 σ_8 x1_7) fun j86 => (if (8 : Int32) ≤ ((σ.1 0 35) - (σ.1 0 31)) then j86 σ (0 : Int64) else chk (inb (σ.1 0 35) 800) (j86 σ ((c1_14 <<< (((8 : Int32)).toInt64 &&& 63)) ||| (((σ.1 14 (ix (σ.1 0 35)))).toInt64))))))))))
def fX9_word (σ : St)  : Option (St × Int64) :=
  cl (fX9_blanks σ ) fun (σ_1 : St) (t_2 : Unit) => bnd (sI σ_1 0 35 (σ_1.1 0 31)) fun (σ_3 : St) => bnd (0 : Int64) fun (x1_4 : Int64) => fX9_word_L14  (fun (σ_9 : St) (x1_10 : Int64) => (if ((σ_9.1 0 35) - (σ_9.1 0 31)) ≤ (8 : Int32) then some (σ_9, x1_10) else some (σ_9, (0 : Int64)))) FU σ_3 x1_4
set_option maxRecDepth 20000 in
set_option maxHeartbeats 4000000 in
theorem sX9_word_L14 {X : CX} {a : Nat → Nat} {D : va_G} {tI tJ tB : ClassId} {zz : SV}  {kx14 : St → Int64 → Option (St × Int64)} {r : St × Int64} (hX : OKX X (vM a D tI tJ tB zz) cX9_word 3 RX9 1 20) (hR : ∀ (pc : Nat) (lv : List (Nat × Value)), decode cX9_word pc = .ok (.lreturn, 1) → G X (vM a D tI tJ tB zz) 3 r.1 pc lv [.long r.2]) (hkx14 : ∀ (σ : St) (e1_14 : Int64), kx14 σ e1_14 = some r → G X (vM a D tI tJ tB zz) 3 σ 100 [(0, .ref (a 0)), (1, .long e1_14)] []) : ∀ (n : Nat) (σ : St) (c1_14 : Int64), fX9_word_L14 kx14 n σ c1_14 = some r → G X (vM a D tI tJ tB zz) 3 σ 14 [(0, .ref (a 0)), (1, .long c1_14)] [] := by
  intro n
  induction n with
  | zero => intro σ c1_14 h; rw [fX9_word_L14] at h; exact absurd h (by simp)
  | succ n14 ih14 =>
    intro σ c1_14 h
    rw [fX9_word_L14] at h
    refine g_aload_n hX 0 dX9_word_14 rfl rfl ?_
    refine gM_146 hX dX9_word_15 ?_
    refine g_aload_n hX 0 dX9_word_18 rfl rfl ?_
    refine gM_140 hX dX9_word_19 ?_
    refine g_icmp_ge hX 100 dX9_word_22 (by decide) h (fun h => ?_) (fun h => ?_)
    · exact g_sub [0, 1] rfl (hkx14 _ _ h)
    · refine g_aload_n hX 0 dX9_word_25 rfl rfl ?_
      refine gM_64 hX dX9_word_26 ?_
      refine g_aload_n hX 0 dX9_word_29 rfl rfl ?_
      refine gM_146 hX dX9_word_30 ?_
      refine alM_14 hX dX9_word_33 h (fun h => ?_)
      refine g_bipush hX (97) dX9_word_34 (by decide) ?_
      refine g_icmp_lt hX 100 dX9_word_36 (by decide) h (fun h => ?_) (fun h => ?_)
      · exact g_sub [0, 1] rfl (hkx14 _ _ h)
      · refine g_aload_n hX 0 dX9_word_39 rfl rfl ?_
        refine gM_64 hX dX9_word_40 ?_
        refine g_aload_n hX 0 dX9_word_43 rfl rfl ?_
        refine gM_146 hX dX9_word_44 ?_
        refine alM_14 hX dX9_word_47 h (fun h => ?_)
        refine g_bipush hX (122) dX9_word_48 (by decide) ?_
        refine g_icmp_gt hX 100 dX9_word_50 (by decide) h (fun h => ?_) (fun h => ?_)
        · exact g_sub [0, 1] rfl (hkx14 _ _ h)
        · refine g_aload_n hX 0 dX9_word_53 rfl rfl ?_
          refine gM_146 hX dX9_word_54 ?_
          refine g_aload_n hX 0 dX9_word_57 rfl rfl ?_
          refine gM_137 hX dX9_word_58 ?_
          refine g_isub hX dX9_word_61 ?_
          refine g_bipush hX (8) dX9_word_62 (by decide) ?_
          refine jp_inv (P := fun f => ∀ (σ_5 : St)  (t_6 : Int64), f σ_5 t_6 = some r → G X (vM a D tI tJ tB zz) 3 σ_5 86 [(0, .ref (a 0))] [.long t_6]) h (fun σ_5 t_6 h => ?_) (fun j86 hj86 h => ?_)
          · refine g_lstore_n (lv' := fun x1_7 => [(1, .long x1_7), (0, .ref (a 0))]) hX dX9_word_86 rfl (by decide) (fun _ => rfl) h (fun x1_7 h => ?_)
            refine g_aload_n hX 1 dX9_word_87 rfl rfl ?_
            refine g_dup hX dX9_word_88 rfl ?_
            refine gM_146 hX dX9_word_89 ?_
            refine g_iconst hX (1) dX9_word_92 (by decide) ?_
            refine g_iadd hX dX9_word_93 ?_
            refine pM_146 hX dX9_word_94 h (fun σ_8 h => ?_)
            refine g_goto hX 14 dX9_word_97 (by decide) ?_
            exact g_sub [1, 0] rfl (ih14 _ _ h)
          refine g_icmp_ge hX 85 dX9_word_64 (by decide) h (fun h => ?_) (fun h => ?_)
          · refine g_lconst hX (0) dX9_word_85 (by decide) ?_
            exact g_sub [0] rfl (hj86 _ _ h)
          · refine g_lload_n hX 1 dX9_word_67 rfl rfl ?_
            refine g_bipush hX (8) dX9_word_68 (by decide) ?_
            refine g_lshl hX dX9_word_70 ?_
            refine g_aload_n hX 0 dX9_word_71 rfl rfl ?_
            refine gM_64 hX dX9_word_72 ?_
            refine g_aload_n hX 0 dX9_word_75 rfl rfl ?_
            refine gM_146 hX dX9_word_76 ?_
            refine alM_14 hX dX9_word_79 h (fun h => ?_)
            refine g_i2l hX dX9_word_80 ?_
            refine g_lor hX dX9_word_81 ?_
            refine g_goto hX 86 dX9_word_82 (by decide) ?_
            exact g_sub [0] rfl (hj86 _ _ h)
set_option maxRecDepth 20000 in
set_option maxHeartbeats 4000000 in
theorem sX9_word {X : CX} {a : Nat → Nat} {D : va_G} {tI tJ tB : ClassId} {zz : SV} {σ : St}   {r : St × Int64} (hX : OKX X (vM a D tI tJ tB zz) cX9_word 3 RX9 1 20) (hR : ∀ (pc : Nat) (lv : List (Nat × Value)), decode cX9_word pc = .ok (.lreturn, 1) → G X (vM a D tI tJ tB zz) 3 r.1 pc lv [.long r.2]) (h : fX9_word σ  = some r) : G X (vM a D tI tJ tB zz) 3 σ 0 [(0, .ref (a 0))] [] := by
  unfold fX9_word at h
  refine g_aload_n hX 0 dX9_word_0 rfl rfl ?_
  refine g_callVV (As := []) (rest := []) hX 0 (Nat.le_of_ble_eq_true rfl) rfl rfl miX9_blanks mvX9_blanks lkX9_143 (by decide) rfl (Nat.le_of_ble_eq_true rfl) rfl dX9_word_1 (fun τ x ho => kX9_blanks _ ho) h (fun σ_1 t_2 h => ?_)
  refine g_aload_n hX 0 dX9_word_4 rfl rfl ?_
  refine g_aload_n hX 0 dX9_word_5 rfl rfl ?_
  refine gM_137 hX dX9_word_6 ?_
  refine pM_146 hX dX9_word_9 h (fun σ_3 h => ?_)
  refine g_lconst hX (0) dX9_word_12 (by decide) ?_
  refine g_lstore_n (lv' := fun x1_4 => [(1, .long x1_4), (0, .ref (a 0))]) hX dX9_word_13 rfl (by decide) (fun _ => rfl) h (fun x1_4 h => ?_)
  refine g_sub [1, 0] rfl (sX9_word_L14 hX hR (fun σ_9 x1_10 h => ?_) FU _ _ h)
  refine g_aload_n hX 0 dX9_word_100 rfl rfl ?_
  refine gM_146 hX dX9_word_101 ?_
  refine g_aload_n hX 0 dX9_word_104 rfl rfl ?_
  refine gM_137 hX dX9_word_105 ?_
  refine g_isub hX dX9_word_108 ?_
  refine g_bipush hX (8) dX9_word_109 (by decide) ?_
  refine g_icmp_le hX 118 dX9_word_111 (by decide) h (fun h => ?_) (fun h => ?_)
  · refine g_lload_n hX 1 dX9_word_118 rfl rfl ?_
    exact g_retl hR h dX9_word_119
  · refine g_lconst hX (0) dX9_word_114 (by decide) ?_
    refine g_goto hX 119 dX9_word_115 (by decide) ?_
    exact g_retl hR h dX9_word_119
set_option maxRecDepth 20000 in
set_option maxHeartbeats 4000000 in
theorem kX9_word (l : Launch) {a : Nat → Nat} {D : va_G} {tI tJ tB : ClassId} {zz : SV} {σ τ : St}   {x : Int64} (h : fX9_word σ  = some (τ, x)) : CtL l yX9_word cX9_word 3 (some .long) 1 20 (vM a D tI tJ tB zz) σ [.ref (a 0)] τ x := g_metL (by decide) (Nat.le_of_ble_eq_true rfl) rfl (fun X _ hX hR => sX9_word (r := (τ, x)) hX hR h)
def fX9_takes (σ : St) (p1 : Int64) : Option (St × Int32) :=
  cl (fX9_word σ ) fun (σ_1 : St) (t_2 : Int64) => (if (lg_cmp t_2 p1) = 0 then bnd (sI σ_1 0 31 (σ_1.1 0 35)) fun (σ_3 : St) => some (σ_3, (1 : Int32)) else some (σ_1, (0 : Int32)))
set_option maxRecDepth 20000 in
set_option maxHeartbeats 4000000 in
theorem sX9_takes {X : CX} {a : Nat → Nat} {D : va_G} {tI tJ tB : ClassId} {zz : SV} {σ : St}  {p1 : Int64} {r : St × Int32} (hX : OKX X (vM a D tI tJ tB zz) cX9_takes 3 RX9 2 42) (hR : (r.2 = 0 ∨ r.2 = 1) → ∀ (pc : Nat) (lv : List (Nat × Value)), decode cX9_takes pc = .ok (.ireturn, 1) → G X (vM a D tI tJ tB zz) 3 r.1 pc lv [.int r.2]) (h : fX9_takes σ p1 = some r) : G X (vM a D tI tJ tB zz) 3 σ 0 [(0, .ref (a 0)), (1, .long p1)] [] := by
  unfold fX9_takes at h
  refine g_aload_n hX 0 dX9_takes_0 rfl rfl ?_
  refine g_callVL (As := []) (rest := []) hX 0 (Nat.le_of_ble_eq_true rfl) rfl rfl miX9_word mvX9_word lkX9_149 (by decide) rfl (Nat.le_of_ble_eq_true rfl) rfl dX9_takes_1 (fun τ x ho => kX9_word _ ho) h (fun σ_1 t_2 h => ?_)
  refine g_lload_n hX 1 dX9_takes_4 rfl rfl ?_
  refine g_lcmp hX dX9_takes_5 ?_
  refine g_if_eq hX 11 dX9_takes_6 (by decide) h (fun h => ?_) (fun h => ?_)
  · refine g_aload_n hX 0 dX9_takes_11 rfl rfl ?_
    refine g_aload_n hX 0 dX9_takes_12 rfl rfl ?_
    refine gM_146 hX dX9_takes_13 ?_
    refine pM_137 hX dX9_takes_16 h (fun σ_3 h => ?_)
    refine g_iconst hX (1) dX9_takes_19 (by decide) ?_
    exact g_retz hR (by decide) h dX9_takes_20
  · refine g_iconst hX (0) dX9_takes_9 (by decide) ?_
    exact g_retz hR (by decide) h dX9_takes_10
set_option maxRecDepth 20000 in
set_option maxHeartbeats 4000000 in
theorem kX9_takes (l : Launch) {a : Nat → Nat} {D : va_G} {tI tJ tB : ClassId} {zz : SV} {σ τ : St}  {p1 : Int64} {x : Int32} (h : fX9_takes σ p1 = some (τ, x)) : CtI l yX9_takes cX9_takes 3 (some .boolean) 2 42 (vM a D tI tJ tB zz) σ [.ref (a 0), .long p1] τ x := g_metZ (by decide) (Nat.le_of_ble_eq_true rfl) rfl (fun X _ hX hR => sX9_takes (r := (τ, x)) hX hR h)
def fX9_takesSign (σ : St) (p1 : Int32) : Option (St × Int32) :=
  cl (fX9_blanks σ ) fun (σ_1 : St) (t_2 : Unit) => (if (σ_1.1 0 31) = (σ_1.1 0 30) then some (σ_1, (0 : Int32)) else chk (inb (σ_1.1 0 31) 800) ((if (σ_1.1 14 (ix (σ_1.1 0 31))) = p1 then bnd (sI σ_1 0 31 ((σ_1.1 0 31) + (1 : Int32))) fun (σ_3 : St) => some (σ_3, (1 : Int32)) else some (σ_1, (0 : Int32)))))
set_option maxRecDepth 20000 in
set_option maxHeartbeats 4000000 in
theorem sX9_takesSign {X : CX} {a : Nat → Nat} {D : va_G} {tI tJ tB : ClassId} {zz : SV} {σ : St}  {p1 : Int32} {r : St × Int32} (hX : OKX X (vM a D tI tJ tB zz) cX9_takesSign 2 RX9 1 20) (hR : (r.2 = 0 ∨ r.2 = 1) → ∀ (pc : Nat) (lv : List (Nat × Value)), decode cX9_takesSign pc = .ok (.ireturn, 1) → G X (vM a D tI tJ tB zz) 2 r.1 pc lv [.int r.2]) (h : fX9_takesSign σ p1 = some r) : G X (vM a D tI tJ tB zz) 2 σ 0 [(0, .ref (a 0)), (1, .int p1)] [] := by
  unfold fX9_takesSign at h
  refine g_aload_n hX 0 dX9_takesSign_0 rfl rfl ?_
  refine g_callVV (As := []) (rest := []) hX 0 (Nat.le_of_ble_eq_true rfl) rfl rfl miX9_blanks mvX9_blanks lkX9_143 (by decide) rfl (Nat.le_of_ble_eq_true rfl) rfl dX9_takesSign_1 (fun τ x ho => kX9_blanks _ ho) h (fun σ_1 t_2 h => ?_)
  refine g_aload_n hX 0 dX9_takesSign_4 rfl rfl ?_
  refine gM_137 hX dX9_takesSign_5 ?_
  refine g_aload_n hX 0 dX9_takesSign_8 rfl rfl ?_
  refine gM_140 hX dX9_takesSign_9 ?_
  refine g_icmp_eq hX 28 dX9_takesSign_12 (by decide) h (fun h => ?_) (fun h => ?_)
  · refine g_iconst hX (0) dX9_takesSign_28 (by decide) ?_
    exact g_retz hR (by decide) h dX9_takesSign_29
  · refine g_aload_n hX 0 dX9_takesSign_15 rfl rfl ?_
    refine gM_64 hX dX9_takesSign_16 ?_
    refine g_aload_n hX 0 dX9_takesSign_19 rfl rfl ?_
    refine gM_137 hX dX9_takesSign_20 ?_
    refine alM_14 hX dX9_takesSign_23 h (fun h => ?_)
    refine g_iload_n hX 1 dX9_takesSign_24 rfl rfl ?_
    refine g_icmp_eq hX 30 dX9_takesSign_25 (by decide) h (fun h => ?_) (fun h => ?_)
    · refine g_aload_n hX 0 dX9_takesSign_30 rfl rfl ?_
      refine g_dup hX dX9_takesSign_31 rfl ?_
      refine gM_137 hX dX9_takesSign_32 ?_
      refine g_iconst hX (1) dX9_takesSign_35 (by decide) ?_
      refine g_iadd hX dX9_takesSign_36 ?_
      refine pM_137 hX dX9_takesSign_37 h (fun σ_3 h => ?_)
      refine g_iconst hX (1) dX9_takesSign_40 (by decide) ?_
      exact g_retz hR (by decide) h dX9_takesSign_41
    · refine g_iconst hX (0) dX9_takesSign_28 (by decide) ?_
      exact g_retz hR (by decide) h dX9_takesSign_29
set_option maxRecDepth 20000 in
set_option maxHeartbeats 4000000 in
theorem kX9_takesSign (l : Launch) {a : Nat → Nat} {D : va_G} {tI tJ tB : ClassId} {zz : SV} {σ τ : St}  {p1 : Int32} {x : Int32} (h : fX9_takesSign σ p1 = some (τ, x)) : CtI l yX9_takesSign cX9_takesSign 2 (some .boolean) 1 20 (vM a D tI tJ tB zz) σ [.ref (a 0), .int p1] τ x := g_metZ (by decide) (Nat.le_of_ble_eq_true rfl) rfl (fun X _ hX hR => sX9_takesSign (r := (τ, x)) hX hR h)
def fX9_takesNumber_L14 (q1_14 : Int32) (q2_14 : Int32) (kx14 : St → Int32 → Option (St × Int32)) : Nat → St → Int32 → Option (St × Int32)
  | 0, _, _ => none
  | n14 + 1, σ, c3_14 =>
    (if (σ.1 0 30) ≤ c3_14 then kx14 σ c3_14 else chk (inb c3_14 800) ((if (σ.1 14 (ix c3_14)) < (48 : Int32) then kx14 σ c3_14 else chk (inb c3_14 800) ((if (57 : Int32) < (σ.1 14 (ix c3_14)) then kx14 σ c3_14 else (jp (fun (σ_5 : St)   => bnd (c3_14 + (1 : Int32)) fun (x3_6 : Int32) => fX9_takesNumber_L14 q1_14 q2_14 kx14 n14 σ_5 x3_6) fun j75 => (if (4 : Int32) ≤ (c3_14 - (σ.1 0 31)) then j75 σ else chk (inb c3_14 800) (bnd (sI σ 0 36 ((((10 : Int32) * (σ.1 0 36)) + (σ.1 14 (ix c3_14))) - (48 : Int32))) fun (σ_7 : St) => j75 σ_7))))))))
def fX9_takesNumber (σ : St) (p1 : Int32) (p2 : Int32) : Option (St × Int32) :=
  cl (fX9_blanks σ ) fun (σ_1 : St) (t_2 : Unit) => bnd (σ_1.1 0 31) fun (x3_3 : Int32) => bnd (sI σ_1 0 36 (0 : Int32)) fun (σ_4 : St) => fX9_takesNumber_L14 p1 p2 (fun (σ_8 : St) (x3_9 : Int32) => (if x3_9 = (σ_8.1 0 31) then some (σ_8, (0 : Int32)) else (if (4 : Int32) < (x3_9 - (σ_8.1 0 31)) then some (σ_8, (0 : Int32)) else cl (fX9_isIn σ_8 (σ_8.1 0 36) p1 p2) fun (σ_10 : St) (t_11 : Int32) => (if t_11 = 0 then some (σ_10, (0 : Int32)) else bnd (sI σ_10 0 31 x3_9) fun (σ_12 : St) => some (σ_12, (1 : Int32)))))) FU σ_4 x3_3
set_option maxRecDepth 20000 in
set_option maxHeartbeats 4000000 in
theorem sX9_takesNumber_L14 {X : CX} {a : Nat → Nat} {D : va_G} {tI tJ tB : ClassId} {zz : SV} {q1_14 : Int32} {q2_14 : Int32} {kx14 : St → Int32 → Option (St × Int32)} {r : St × Int32} (hX : OKX X (vM a D tI tJ tB zz) cX9_takesNumber 4 RX9 1 22) (hR : (r.2 = 0 ∨ r.2 = 1) → ∀ (pc : Nat) (lv : List (Nat × Value)), decode cX9_takesNumber pc = .ok (.ireturn, 1) → G X (vM a D tI tJ tB zz) 4 r.1 pc lv [.int r.2]) (hkx14 : ∀ (σ : St) (e3_14 : Int32), kx14 σ e3_14 = some r → G X (vM a D tI tJ tB zz) 4 σ 81 [(0, .ref (a 0)), (1, .int q1_14), (2, .int q2_14), (3, .int e3_14)] []) : ∀ (n : Nat) (σ : St) (c3_14 : Int32), fX9_takesNumber_L14 q1_14 q2_14 kx14 n σ c3_14 = some r → G X (vM a D tI tJ tB zz) 4 σ 14 [(0, .ref (a 0)), (1, .int q1_14), (2, .int q2_14), (3, .int c3_14)] [] := by
  intro n
  induction n with
  | zero => intro σ c3_14 h; rw [fX9_takesNumber_L14] at h; exact absurd h (by simp)
  | succ n14 ih14 =>
    intro σ c3_14 h
    rw [fX9_takesNumber_L14] at h
    refine g_iload_n hX 3 dX9_takesNumber_14 rfl rfl ?_
    refine g_aload_n hX 0 dX9_takesNumber_15 rfl rfl ?_
    refine gM_140 hX dX9_takesNumber_16 ?_
    refine g_icmp_ge hX 81 dX9_takesNumber_19 (by decide) h (fun h => ?_) (fun h => ?_)
    · exact g_sub [0, 1, 2, 3] rfl (hkx14 _ _ h)
    · refine g_aload_n hX 0 dX9_takesNumber_22 rfl rfl ?_
      refine gM_64 hX dX9_takesNumber_23 ?_
      refine g_iload_n hX 3 dX9_takesNumber_26 rfl rfl ?_
      refine alM_14 hX dX9_takesNumber_27 h (fun h => ?_)
      refine g_bipush hX (48) dX9_takesNumber_28 (by decide) ?_
      refine g_icmp_lt hX 81 dX9_takesNumber_30 (by decide) h (fun h => ?_) (fun h => ?_)
      · exact g_sub [0, 1, 2, 3] rfl (hkx14 _ _ h)
      · refine g_aload_n hX 0 dX9_takesNumber_33 rfl rfl ?_
        refine gM_64 hX dX9_takesNumber_34 ?_
        refine g_iload_n hX 3 dX9_takesNumber_37 rfl rfl ?_
        refine alM_14 hX dX9_takesNumber_38 h (fun h => ?_)
        refine g_bipush hX (57) dX9_takesNumber_39 (by decide) ?_
        refine g_icmp_gt hX 81 dX9_takesNumber_41 (by decide) h (fun h => ?_) (fun h => ?_)
        · exact g_sub [0, 1, 2, 3] rfl (hkx14 _ _ h)
        · refine g_iload_n hX 3 dX9_takesNumber_44 rfl rfl ?_
          refine g_aload_n hX 0 dX9_takesNumber_45 rfl rfl ?_
          refine gM_137 hX dX9_takesNumber_46 ?_
          refine g_isub hX dX9_takesNumber_49 ?_
          refine g_iconst hX (4) dX9_takesNumber_50 (by decide) ?_
          refine jp_inv (P := fun f => ∀ (σ_5 : St)  , f σ_5 = some r → G X (vM a D tI tJ tB zz) 4 σ_5 75 [(0, .ref (a 0)), (1, .int q1_14), (2, .int q2_14), (3, .int c3_14)] []) h (fun σ_5 h => ?_) (fun j75 hj75 h => ?_)
          · refine g_iinc (y := (1)) (lv' := fun x3_6 => [(3, .int x3_6), (0, .ref (a 0)), (1, .int q1_14), (2, .int q2_14)]) hX 3 dX9_takesNumber_75 rfl (by decide) (by decide) (fun _ => rfl) h (fun x3_6 h => ?_)
            refine g_goto hX 14 dX9_takesNumber_78 (by decide) ?_
            exact g_sub [1, 2, 3, 0] rfl (ih14 _ _ h)
          refine g_icmp_ge hX 75 dX9_takesNumber_51 (by decide) h (fun h => ?_) (fun h => ?_)
          · exact g_sub [0, 1, 2, 3] rfl (hj75 _ h)
          · refine g_aload_n hX 0 dX9_takesNumber_54 rfl rfl ?_
            refine g_bipush hX (10) dX9_takesNumber_55 (by decide) ?_
            refine g_aload_n hX 0 dX9_takesNumber_57 rfl rfl ?_
            refine gM_153 hX dX9_takesNumber_58 ?_
            refine g_imul hX dX9_takesNumber_61 ?_
            refine g_aload_n hX 0 dX9_takesNumber_62 rfl rfl ?_
            refine gM_64 hX dX9_takesNumber_63 ?_
            refine g_iload_n hX 3 dX9_takesNumber_66 rfl rfl ?_
            refine alM_14 hX dX9_takesNumber_67 h (fun h => ?_)
            refine g_iadd hX dX9_takesNumber_68 ?_
            refine g_bipush hX (48) dX9_takesNumber_69 (by decide) ?_
            refine g_isub hX dX9_takesNumber_71 ?_
            refine pM_153 hX dX9_takesNumber_72 h (fun σ_7 h => ?_)
            exact g_sub [0, 1, 2, 3] rfl (hj75 _ h)
set_option maxRecDepth 20000 in
set_option maxHeartbeats 4000000 in
theorem sX9_takesNumber {X : CX} {a : Nat → Nat} {D : va_G} {tI tJ tB : ClassId} {zz : SV} {σ : St}  {p1 : Int32} {p2 : Int32} {r : St × Int32} (hX : OKX X (vM a D tI tJ tB zz) cX9_takesNumber 4 RX9 1 22) (hR : (r.2 = 0 ∨ r.2 = 1) → ∀ (pc : Nat) (lv : List (Nat × Value)), decode cX9_takesNumber pc = .ok (.ireturn, 1) → G X (vM a D tI tJ tB zz) 4 r.1 pc lv [.int r.2]) (h : fX9_takesNumber σ p1 p2 = some r) : G X (vM a D tI tJ tB zz) 4 σ 0 [(0, .ref (a 0)), (1, .int p1), (2, .int p2)] [] := by
  unfold fX9_takesNumber at h
  refine g_aload_n hX 0 dX9_takesNumber_0 rfl rfl ?_
  refine g_callVV (As := []) (rest := []) hX 0 (Nat.le_of_ble_eq_true rfl) rfl rfl miX9_blanks mvX9_blanks lkX9_143 (by decide) rfl (Nat.le_of_ble_eq_true rfl) rfl dX9_takesNumber_1 (fun τ x ho => kX9_blanks _ ho) h (fun σ_1 t_2 h => ?_)
  refine g_aload_n hX 0 dX9_takesNumber_4 rfl rfl ?_
  refine gM_137 hX dX9_takesNumber_5 ?_
  refine g_istore_n (lv' := fun x3_3 => [(3, .int x3_3), (0, .ref (a 0)), (1, .int p1), (2, .int p2)]) hX dX9_takesNumber_8 rfl (by decide) (fun _ => rfl) h (fun x3_3 h => ?_)
  refine g_aload_n hX 1 dX9_takesNumber_9 rfl rfl ?_
  refine g_iconst hX (0) dX9_takesNumber_10 (by decide) ?_
  refine pM_153 hX dX9_takesNumber_11 h (fun σ_4 h => ?_)
  refine g_sub [1, 2, 3, 0] rfl (sX9_takesNumber_L14 hX hR (fun σ_8 x3_9 h => ?_) FU _ _ h)
  refine g_iload_n hX 3 dX9_takesNumber_81 rfl rfl ?_
  refine g_aload_n hX 0 dX9_takesNumber_82 rfl rfl ?_
  refine gM_137 hX dX9_takesNumber_83 ?_
  refine g_icmp_eq hX 111 dX9_takesNumber_86 (by decide) h (fun h => ?_) (fun h => ?_)
  · refine g_iconst hX (0) dX9_takesNumber_111 (by decide) ?_
    exact g_retz hR (by decide) h dX9_takesNumber_112
  · refine g_iload_n hX 3 dX9_takesNumber_89 rfl rfl ?_
    refine g_aload_n hX 0 dX9_takesNumber_90 rfl rfl ?_
    refine gM_137 hX dX9_takesNumber_91 ?_
    refine g_isub hX dX9_takesNumber_94 ?_
    refine g_iconst hX (4) dX9_takesNumber_95 (by decide) ?_
    refine g_icmp_gt hX 111 dX9_takesNumber_96 (by decide) h (fun h => ?_) (fun h => ?_)
    · refine g_iconst hX (0) dX9_takesNumber_111 (by decide) ?_
      exact g_retz hR (by decide) h dX9_takesNumber_112
    · refine g_aload_n hX 0 dX9_takesNumber_99 rfl rfl ?_
      refine gM_153 hX dX9_takesNumber_100 ?_
      refine g_iload_n hX 1 dX9_takesNumber_103 rfl rfl ?_
      refine g_iload_n hX 2 dX9_takesNumber_104 rfl rfl ?_
      refine g_callSI (As := [.int (σ_8.1 0 36), .int p1, .int p2]) (rest := []) hX miX9_isIn mvX9_isIn lkX9_156 (by decide) rfl (Nat.le_of_ble_eq_true rfl) rfl dX9_takesNumber_105 (fun τ x ho => kX9_isIn _ ho) h (fun σ_10 t_11 h => ?_)
      refine g_if_ne hX 113 dX9_takesNumber_108 (by decide) h (fun h => ?_) (fun h => ?_)
      · refine g_aload_n hX 0 dX9_takesNumber_113 rfl rfl ?_
        refine g_iload_n hX 3 dX9_takesNumber_114 rfl rfl ?_
        refine pM_137 hX dX9_takesNumber_115 h (fun σ_12 h => ?_)
        refine g_iconst hX (1) dX9_takesNumber_118 (by decide) ?_
        exact g_retz hR (by decide) h dX9_takesNumber_119
      · refine g_iconst hX (0) dX9_takesNumber_111 (by decide) ?_
        exact g_retz hR (by decide) h dX9_takesNumber_112
set_option maxRecDepth 20000 in
set_option maxHeartbeats 4000000 in
theorem kX9_takesNumber (l : Launch) {a : Nat → Nat} {D : va_G} {tI tJ tB : ClassId} {zz : SV} {σ τ : St}  {p1 : Int32} {p2 : Int32} {x : Int32} (h : fX9_takesNumber σ p1 p2 = some (τ, x)) : CtI l yX9_takesNumber cX9_takesNumber 4 (some .boolean) 1 22 (vM a D tI tJ tB zz) σ [.ref (a 0), .int p1, .int p2] τ x := g_metZ (by decide) (Nat.le_of_ble_eq_true rfl) rfl (fun X _ hX hR => sX9_takesNumber (r := (τ, x)) hX hR h)
