def fX8_putNumber_L3 (q1_3 : Int32) (kx3 : St → Int32 → Option (St × Unit)) : Nat → St → Int32 → Option (St × Unit)
  | 0, _, _ => none
  | n3 + 1, σ, c2_3 =>
    (if c2_3 < 0 then kx3 σ c2_3 else (jp (fun (σ_2 : St)   => bnd (c2_3 + (-8 : Int32)) fun (x2_3 : Int32) => fX8_putNumber_L3 q1_3 kx3 n3 σ_2 x2_3) fun j42 => (if (800 : Int32) ≤ (σ.1 0 11) then j42 σ else chk (inb (σ.1 0 11) 800) (bnd (sI σ 1 (ix (σ.1 0 11)) (vp_nar .byte (((((q1_3).toUInt32 >>> ((c2_3).toUInt32 &&& Int32.toUInt32 31)).toInt32)).toInt8.toInt32))) fun (σ_4 : St) => bnd (sI σ_4 0 11 ((σ_4.1 0 11) + (1 : Int32))) fun (σ_5 : St) => j42 σ_5))))
def fX8_putNumber (σ : St) (p1 : Int32) : Option (St × Unit) :=
  bnd (24 : Int32) fun (x2_1 : Int32) => fX8_putNumber_L3 p1 (fun (σ_6 : St) (x2_7 : Int32) => some (σ_6, ())) FU σ x2_1
set_option maxRecDepth 20000 in
set_option maxHeartbeats 4000000 in
theorem sX8_putNumber_L3 {X : CX} {a : Nat → Nat} {D : va_G} {tI tJ tB tS : ClassId} {kK kV : Nat → Nat} {q1_3 : Int32} {kx3 : St → Int32 → Option (St × Unit)} {r : St × Unit} (hX : OKX X (vC a D tI tJ tB tS kK kV) cX8_putNumber 3 RX8 0 0) (hR : ∀ (pc : Nat) (lv : List (Nat × Value)), decode cX8_putNumber pc = .ok (.return_, 1) → G X (vC a D tI tJ tB tS kK kV) 3 r.1 pc lv []) (hkx3 : ∀ (σ : St) (e2_3 : Int32), kx3 σ e2_3 = some r → G X (vC a D tI tJ tB tS kK kV) 3 σ 48 [] []) : ∀ (n : Nat) (σ : St) (c2_3 : Int32), fX8_putNumber_L3 q1_3 kx3 n σ c2_3 = some r → G X (vC a D tI tJ tB tS kK kV) 3 σ 3 [(0, .ref (a 0)), (1, .int q1_3), (2, .int c2_3)] [] := by
  intro n
  induction n with
  | zero => intro σ c2_3 h; rw [fX8_putNumber_L3] at h; exact absurd h (by simp)
  | succ n3 ih3 =>
    intro σ c2_3 h
    rw [fX8_putNumber_L3] at h
    refine g_iload_n hX 2 dX8_putNumber_3 rfl rfl ?_
    refine g_if_lt hX 48 dX8_putNumber_4 (by decide) h (fun h => ?_) (fun h => ?_)
    · exact g_sub [] rfl (hkx3 _ _ h)
    · refine g_aload_n hX 0 dX8_putNumber_7 rfl rfl ?_
      refine gCX8_86_0 hX dX8_putNumber_8 ?_
      refine g_aload_n hX 0 dX8_putNumber_11 rfl rfl ?_
      refine gCX8_23_0 hX dX8_putNumber_12 ?_
      refine lenC_1 hX dX8_putNumber_15 ?_
      refine jp_inv (P := fun f => ∀ (σ_2 : St)  , f σ_2 = some r → G X (vC a D tI tJ tB tS kK kV) 3 σ_2 42 [(0, .ref (a 0)), (1, .int q1_3), (2, .int c2_3)] []) h (fun σ_2 h => ?_) (fun j42 hj42 h => ?_)
      · refine g_iinc (y := (-8)) (lv' := fun x2_3 => [(2, .int x2_3), (0, .ref (a 0)), (1, .int q1_3)]) hX 2 dX8_putNumber_42 rfl (by decide) (by decide) (fun _ => rfl) h (fun x2_3 h => ?_)
        refine g_goto hX 3 dX8_putNumber_45 (by decide) ?_
        exact g_sub [1, 2, 0] rfl (ih3 _ _ h)
      refine g_icmp_ge hX 42 dX8_putNumber_16 (by decide) h (fun h => ?_) (fun h => ?_)
      · exact g_sub [0, 1, 2] rfl (hj42 _ h)
      · refine g_aload_n hX 0 dX8_putNumber_19 rfl rfl ?_
        refine gCX8_23_0 hX dX8_putNumber_20 ?_
        refine g_aload_n hX 0 dX8_putNumber_23 rfl rfl ?_
        refine gCX8_86_0 hX dX8_putNumber_24 ?_
        refine g_iload_n hX 1 dX8_putNumber_27 rfl rfl ?_
        refine g_iload_n hX 2 dX8_putNumber_28 rfl rfl ?_
        refine g_iushr hX dX8_putNumber_29 ?_
        refine g_i2b hX dX8_putNumber_30 ?_
        refine asC_1 hX dX8_putNumber_31 h (fun σ_4 h => ?_)
        refine g_aload_n hX 0 dX8_putNumber_32 rfl rfl ?_
        refine g_dup hX dX8_putNumber_33 rfl ?_
        refine gCX8_86_0 hX dX8_putNumber_34 ?_
        refine g_iconst hX (1) dX8_putNumber_37 (by decide) ?_
        refine g_iadd hX dX8_putNumber_38 ?_
        refine pCX8_86_0 hX dX8_putNumber_39 h (fun σ_5 h => ?_)
        exact g_sub [0, 1, 2] rfl (hj42 _ h)
set_option maxRecDepth 20000 in
set_option maxHeartbeats 4000000 in
theorem sX8_putNumber {X : CX} {a : Nat → Nat} {D : va_G} {tI tJ tB tS : ClassId} {kK kV : Nat → Nat} {σ : St}  {p1 : Int32} {r : St × Unit} (hX : OKX X (vC a D tI tJ tB tS kK kV) cX8_putNumber 3 RX8 0 0) (hR : ∀ (pc : Nat) (lv : List (Nat × Value)), decode cX8_putNumber pc = .ok (.return_, 1) → G X (vC a D tI tJ tB tS kK kV) 3 r.1 pc lv [])  (h : fX8_putNumber σ p1 = some r) : G X (vC a D tI tJ tB tS kK kV) 3 σ 0 [(0, .ref (a 0)), (1, .int p1)] [] := by
  unfold fX8_putNumber at h
  refine g_bipush hX (24) dX8_putNumber_0 (by decide) ?_
  refine g_istore_n (lv' := fun x2_1 => [(2, .int x2_1), (0, .ref (a 0)), (1, .int p1)]) hX dX8_putNumber_2 rfl (by decide) (fun _ => rfl) h (fun x2_1 h => ?_)
  refine g_sub [1, 2, 0] rfl (sX8_putNumber_L3 hX hR (fun σ_6 x2_7 h => ?_) FU _ _ h)
  exact g_retv hR h dX8_putNumber_48
set_option maxRecDepth 20000 in
set_option maxHeartbeats 4000000 in
theorem kX8_putNumber (l : Launch) {a : Nat → Nat} {D : va_G} {tI tJ tB tS : ClassId} {kK kV : Nat → Nat} {σ τ : St}  {p1 : Int32} {x : Unit} (h : fX8_putNumber σ p1 = some (τ, x)) : CtV l yX8_putNumber cX8_putNumber 3 none 0 0 (vC a D tI tJ tB tS kK kV) σ [.ref (a 0), .int p1] τ x := g_metV (by decide) (Nat.le_of_ble_eq_true rfl) rfl (fun X _ hX hR => sX8_putNumber (r := (τ, x)) hX hR h)
def fX8_feed (σ : St) (p1 : Int32) (p2 : Int32) (p3 : Int32) (p4 : Int32) (p5 : Int32) : Option (St × Int32) :=
  (if ((σ.1 0 11) + (20 : Int32)) ≤ (800 : Int32) then cl (fX8_putNumber σ p1) fun (σ_1 : St) (t_2 : Unit) => cl (fX8_putNumber σ_1 p2) fun (σ_3 : St) (t_4 : Unit) => cl (fX8_putNumber σ_3 p3) fun (σ_5 : St) (t_6 : Unit) => cl (fX8_putNumber σ_5 p4) fun (σ_7 : St) (t_8 : Unit) => cl (fX8_putNumber σ_7 p5) fun (σ_9 : St) (t_10 : Unit) => some (σ_9, (σ_9.1 0 11)) else some (σ, (-1 : Int32)))
set_option maxRecDepth 20000 in
set_option maxHeartbeats 4000000 in
theorem sX8_feed {X : CX} {a : Nat → Nat} {D : va_G} {tI tJ tB tS : ClassId} {kK kV : Nat → Nat} {σ : St}  {p1 : Int32} {p2 : Int32} {p3 : Int32} {p4 : Int32} {p5 : Int32} {r : St × Int32} (hX : OKX X (vC a D tI tJ tB tS kK kV) cX8_feed 6 RX8 1 22) (hR : ∀ (pc : Nat) (lv : List (Nat × Value)), decode cX8_feed pc = .ok (.ireturn, 1) → G X (vC a D tI tJ tB tS kK kV) 6 r.1 pc lv [.int r.2])  (h : fX8_feed σ p1 p2 p3 p4 p5 = some r) : G X (vC a D tI tJ tB tS kK kV) 6 σ 0 [(0, .ref (a 0)), (1, .int p1), (2, .int p2), (3, .int p3), (4, .int p4), (5, .int p5)] [] := by
  unfold fX8_feed at h
  refine g_aload_n hX 0 dX8_feed_0 rfl rfl ?_
  refine gCX8_86_0 hX dX8_feed_1 ?_
  refine g_bipush hX (20) dX8_feed_4 (by decide) ?_
  refine g_iadd hX dX8_feed_6 ?_
  refine g_aload_n hX 0 dX8_feed_7 rfl rfl ?_
  refine gCX8_23_0 hX dX8_feed_8 ?_
  refine lenC_1 hX dX8_feed_11 ?_
  refine g_icmp_le hX 17 dX8_feed_12 (by decide) h (fun h => ?_) (fun h => ?_)
  · refine g_aload_n hX 0 dX8_feed_17 rfl rfl ?_
    refine g_iload_n hX 1 dX8_feed_18 rfl rfl ?_
    refine g_callVV (As := [.int p1]) (rest := []) hX 0 (Nat.le_of_ble_eq_true rfl) rfl rfl miX8_putNumber mvX8_putNumber lkX8_99 (by decide) rfl (Nat.le_of_ble_eq_true rfl) rfl dX8_feed_19 (fun τ x ho => kX8_putNumber _ ho) h (fun σ_1 t_2 h => ?_)
    refine g_aload_n hX 0 dX8_feed_22 rfl rfl ?_
    refine g_iload_n hX 2 dX8_feed_23 rfl rfl ?_
    refine g_callVV (As := [.int p2]) (rest := []) hX 0 (Nat.le_of_ble_eq_true rfl) rfl rfl miX8_putNumber mvX8_putNumber lkX8_99 (by decide) rfl (Nat.le_of_ble_eq_true rfl) rfl dX8_feed_24 (fun τ x ho => kX8_putNumber _ ho) h (fun σ_3 t_4 h => ?_)
    refine g_aload_n hX 0 dX8_feed_27 rfl rfl ?_
    refine g_iload_n hX 3 dX8_feed_28 rfl rfl ?_
    refine g_callVV (As := [.int p3]) (rest := []) hX 0 (Nat.le_of_ble_eq_true rfl) rfl rfl miX8_putNumber mvX8_putNumber lkX8_99 (by decide) rfl (Nat.le_of_ble_eq_true rfl) rfl dX8_feed_29 (fun τ x ho => kX8_putNumber _ ho) h (fun σ_5 t_6 h => ?_)
    refine g_aload_n hX 0 dX8_feed_32 rfl rfl ?_
    refine g_iload hX 4 dX8_feed_33 rfl ?_
    refine g_callVV (As := [.int p4]) (rest := []) hX 0 (Nat.le_of_ble_eq_true rfl) rfl rfl miX8_putNumber mvX8_putNumber lkX8_99 (by decide) rfl (Nat.le_of_ble_eq_true rfl) rfl dX8_feed_35 (fun τ x ho => kX8_putNumber _ ho) h (fun σ_7 t_8 h => ?_)
    refine g_aload_n hX 0 dX8_feed_38 rfl rfl ?_
    refine g_iload hX 5 dX8_feed_39 rfl ?_
    refine g_callVV (As := [.int p5]) (rest := []) hX 0 (Nat.le_of_ble_eq_true rfl) rfl rfl miX8_putNumber mvX8_putNumber lkX8_99 (by decide) rfl (Nat.le_of_ble_eq_true rfl) rfl dX8_feed_41 (fun τ x ho => kX8_putNumber _ ho) h (fun σ_9 t_10 h => ?_)
    refine g_aload_n hX 0 dX8_feed_44 rfl rfl ?_
    refine gCX8_86_0 hX dX8_feed_45 ?_
    exact g_reti hR h dX8_feed_48
  · refine g_iconst hX (-1) dX8_feed_15 (by decide) ?_
    exact g_reti hR h dX8_feed_16
set_option maxRecDepth 20000 in
set_option maxHeartbeats 4000000 in
theorem kX8_feed (l : Launch) {a : Nat → Nat} {D : va_G} {tI tJ tB tS : ClassId} {kK kV : Nat → Nat} {σ τ : St}  {p1 : Int32} {p2 : Int32} {p3 : Int32} {p4 : Int32} {p5 : Int32} {x : Int32} (h : fX8_feed σ p1 p2 p3 p4 p5 = some (τ, x)) : CtI l yX8_feed cX8_feed 6 (some .int) 1 22 (vC a D tI tJ tB tS kK kV) σ [.ref (a 0), .int p1, .int p2, .int p3, .int p4, .int p5] τ x := g_metI (by decide) (Nat.le_of_ble_eq_true rfl) rfl (fun X _ hX hR => sX8_feed (r := (τ, x)) hX hR h)
def fX6_empty_i10 (σ : St)  : Option (St × Unit) :=
  bnd (sI σ 10 0 (0 : Int32)) fun (σ_1 : St) => bnd (sI σ_1 10 1 (0 : Int32)) fun (σ_2 : St) => bnd (sI σ_2 10 2 (4 : Int32)) fun (σ_3 : St) => bnd (sI σ_3 10 3 (5 : Int32)) fun (σ_4 : St) => bnd (sI σ_4 10 4 (5 : Int32)) fun (σ_5 : St) => bnd (sI σ_5 10 5 (0 : Int32)) fun (σ_6 : St) => bnd (sI σ_6 10 6 (0 : Int32)) fun (σ_7 : St) => bnd (sI σ_7 10 7 (0 : Int32)) fun (σ_8 : St) => some (σ_8, ())
set_option maxRecDepth 20000 in
set_option maxHeartbeats 4000000 in
theorem sX6_empty_i10 {X : CX} {a : Nat → Nat} {D : va_G} {tI tJ tB tS : ClassId} {kK kV : Nat → Nat} {σ : St}   {r : St × Unit} (hX : OKX X (vC a D tI tJ tB tS kK kV) cX6_empty 1 RX6 0 0) (hR : ∀ (pc : Nat) (lv : List (Nat × Value)), decode cX6_empty pc = .ok (.return_, 1) → G X (vC a D tI tJ tB tS kK kV) 1 r.1 pc lv [])  (h : fX6_empty_i10 σ  = some r) : G X (vC a D tI tJ tB tS kK kV) 1 σ 0 [(0, .ref (a 10))] [] := by
  unfold fX6_empty_i10 at h
  refine g_aload_n hX 0 dX6_empty_0 rfl rfl ?_
  refine g_iconst hX (0) dX6_empty_1 (by decide) ?_
  refine pCX6_37_10 hX dX6_empty_2 h (fun σ_1 h => ?_)
  refine g_aload_n hX 0 dX6_empty_5 rfl rfl ?_
  refine g_iconst hX (0) dX6_empty_6 (by decide) ?_
  refine pCX6_41_10 hX dX6_empty_7 h (fun σ_2 h => ?_)
  refine g_aload_n hX 0 dX6_empty_10 rfl rfl ?_
  refine g_iconst hX (4) dX6_empty_11 (by decide) ?_
  refine pCX6_44_10 hX dX6_empty_12 h (fun σ_3 h => ?_)
  refine g_aload_n hX 0 dX6_empty_15 rfl rfl ?_
  refine g_iconst hX (5) dX6_empty_16 (by decide) ?_
  refine pCX6_47_10 hX dX6_empty_17 h (fun σ_4 h => ?_)
  refine g_aload_n hX 0 dX6_empty_20 rfl rfl ?_
  refine g_iconst hX (5) dX6_empty_21 (by decide) ?_
  refine pCX6_50_10 hX dX6_empty_22 h (fun σ_5 h => ?_)
  refine g_aload_n hX 0 dX6_empty_25 rfl rfl ?_
  refine g_iconst hX (0) dX6_empty_26 (by decide) ?_
  refine pCX6_53_10 hX dX6_empty_27 h (fun σ_6 h => ?_)
  refine g_aload_n hX 0 dX6_empty_30 rfl rfl ?_
  refine g_iconst hX (0) dX6_empty_31 (by decide) ?_
  refine pCX6_56_10 hX dX6_empty_32 h (fun σ_7 h => ?_)
  refine g_aload_n hX 0 dX6_empty_35 rfl rfl ?_
  refine g_iconst hX (0) dX6_empty_36 (by decide) ?_
  refine pCX6_59_10 hX dX6_empty_37 h (fun σ_8 h => ?_)
  exact g_retv hR h dX6_empty_40
set_option maxRecDepth 20000 in
set_option maxHeartbeats 4000000 in
theorem kX6_empty_i10 (l : Launch) {a : Nat → Nat} {D : va_G} {tI tJ tB tS : ClassId} {kK kV : Nat → Nat} {σ τ : St}   {x : Unit} (h : fX6_empty_i10 σ  = some (τ, x)) : CtV l yX6_empty cX6_empty 1 none 0 0 (vC a D tI tJ tB tS kK kV) σ [.ref (a 10)] τ x := g_metV (by decide) (Nat.le_of_ble_eq_true rfl) rfl (fun X _ hX hR => sX6_empty_i10 (r := (τ, x)) hX hR h)
def fX3_advance_L70  (kx70 : St → Option (St × Unit)) : Nat → St → Option (St × Unit)
  | 0, _ => none
  | n70 + 1, σ =>
    (if (σ.1 18 2) ≤ (σ.1 18 3) then kx70 σ else chk (inb (σ.1 18 3) 800) ((if (σ.1 1 (ix (σ.1 18 3))) < (97 : Int32) then kx70 σ else chk (inb (σ.1 18 3) 800) ((if (122 : Int32) < (σ.1 1 (ix (σ.1 18 3))) then kx70 σ else chk (inb (σ.1 18 3) 800) (bnd (sL σ 18 8 (((σ.2 18 8) * (32 : Int64)) + (((((σ.1 1 (ix (σ.1 18 3))) - (97 : Int32)) + (1 : Int32))).toInt64))) fun (σ_5 : St) => bnd (sI σ_5 18 3 ((σ_5.1 18 3) + (1 : Int32))) fun (σ_6 : St) => fX3_advance_L70 kx70 n70 σ_6))))))
def fX3_advance_L170  (kx170 : St → Option (St × Unit)) : Nat → St → Option (St × Unit)
  | 0, _ => none
  | n170 + 1, σ =>
    (if (σ.1 18 5) = (2 : Int32) then (if (σ.1 18 2) ≤ (σ.1 18 3) then kx170 σ else chk (inb (σ.1 18 3) 800) ((if (σ.1 1 (ix (σ.1 18 3))) < (48 : Int32) then kx170 σ else chk (inb (σ.1 18 3) 800) ((if (57 : Int32) < (σ.1 1 (ix (σ.1 18 3))) then kx170 σ else chk (inb (σ.1 18 3) 800) (bnd (if (10000 : Int32) < (((σ.1 18 7) * (10 : Int32)) + ((σ.1 1 (ix (σ.1 18 3))) - (48 : Int32))) then (10000 : Int32) else (((σ.1 18 7) * (10 : Int32)) + ((σ.1 1 (ix (σ.1 18 3))) - (48 : Int32)))) fun (t_11 : Int32) => bnd (sI σ 18 7 t_11) fun (σ_12 : St) => bnd (sI σ_12 18 3 ((σ_12.1 18 3) + (1 : Int32))) fun (σ_13 : St) => fX3_advance_L170 kx170 n170 σ_13)))))) else kx170 σ)
def fX3_advance_L0  (kx0 : St → Option (St × Unit)) : Nat → St → Option (St × Unit)
  | 0, _ => none
  | n0 + 1, σ =>
    (if (σ.1 18 2) ≤ (σ.1 18 3) then kx0 σ else chk (inb (σ.1 18 3) 800) ((jp (fun (σ_24 : St)   => bnd (sI σ_24 18 3 ((σ_24.1 18 3) + (1 : Int32))) fun (σ_25 : St) => fX3_advance_L0 kx0 n0 σ_25) fun j39 => (if (σ.1 1 (ix (σ.1 18 3))) = (32 : Int32) then j39 σ else chk (inb (σ.1 18 3) 800) ((if (σ.1 1 (ix (σ.1 18 3))) = (10 : Int32) then j39 σ else kx0 σ))))))
def fX3_advance (σ : St)  : Option (St × Unit) :=
  (jp (fun (σ_1 : St)   => bnd (sI σ_1 18 4 (σ_1.1 18 3)) fun (σ_2 : St) => bnd (sI σ_2 18 7 (0 : Int32)) fun (σ_3 : St) => bnd (sL σ_3 18 8 (0 : Int64)) fun (σ_4 : St) => fX3_advance_L70  (fun (σ_7 : St)  => (jp (fun (σ_8 : St)  (t_9 : Int32) => bnd (sI σ_8 18 5 t_9) fun (σ_10 : St) => fX3_advance_L170  (fun (σ_14 : St)  => (jp (fun (σ_15 : St)   => bnd (sI σ_15 18 6 ((σ_15.1 18 3) - (σ_15.1 18 4))) fun (σ_16 : St) => some (σ_16, ())) fun j326 => (if (σ_14.1 18 3) = (σ_14.1 18 4) then (jp (fun (σ_17 : St)  (t_18 : Int32) => bnd (sI σ_17 18 5 t_18) fun (σ_19 : St) => bnd (if (σ_19.1 18 2) < ((σ_19.1 18 3) + (1 : Int32)) then (σ_19.1 18 2) else ((σ_19.1 18 3) + (1 : Int32))) fun (t_20 : Int32) => bnd (sI σ_19 18 3 t_20) fun (σ_21 : St) => j326 σ_21) fun j306 => (if (σ_14.1 18 3) < (σ_14.1 18 2) then chk (inb (σ_14.1 18 3) 800) ((if (σ_14.1 1 (ix (σ_14.1 18 3))) = (59 : Int32) then j306 σ_14 (3 : Int32) else j306 σ_14 (4 : Int32))) else j306 σ_14 (0 : Int32))) else j326 σ_14))) FU σ_10 ) fun j167 => (if (σ_7.1 18 3) ≤ (σ_7.1 18 4) then j167 σ_7 (2 : Int32) else j167 σ_7 (1 : Int32)))) FU σ_4 ) fun j52 => (if (σ.1 18 2) ≤ (σ.1 18 3) then j52 σ else chk (inb (σ.1 18 3) 800) ((jp (fun (σ_22 : St)   => bnd (sI σ_22 18 3 ((σ_22.1 18 3) + (1 : Int32))) fun (σ_23 : St) => fX3_advance_L0  (fun (σ_26 : St)  => j52 σ_26) FU σ_23 ) fun j39 => (if (σ.1 1 (ix (σ.1 18 3))) = (32 : Int32) then j39 σ else chk (inb (σ.1 18 3) 800) ((if (σ.1 1 (ix (σ.1 18 3))) = (10 : Int32) then j39 σ else j52 σ)))))))
set_option maxRecDepth 20000 in
set_option maxHeartbeats 4000000 in
theorem sX3_advance_L70 {X : CX} {a : Nat → Nat} {D : va_G} {tI tJ tB tS : ClassId} {kK kV : Nat → Nat}  {kx70 : St → Option (St × Unit)} {r : St × Unit} (hX : OKX X (vC a D tI tJ tB tS kK kV) cX3_advance 1 RX3 1 21) (hR : ∀ (pc : Nat) (lv : List (Nat × Value)), decode cX3_advance pc = .ok (.return_, 1) → G X (vC a D tI tJ tB tS kK kV) 1 r.1 pc lv []) (hkx70 : ∀ (σ : St) , kx70 σ  = some r → G X (vC a D tI tJ tB tS kK kV) 1 σ 150 [(0, .ref (a 18))] []) : ∀ (n : Nat) (σ : St) , fX3_advance_L70 kx70 n σ  = some r → G X (vC a D tI tJ tB tS kK kV) 1 σ 70 [(0, .ref (a 18))] [] := by
  intro n
  induction n with
  | zero => intro σ  h; rw [fX3_advance_L70] at h; exact absurd h (by simp)
  | succ n70 ih70 =>
    intro σ  h
    rw [fX3_advance_L70] at h
    refine g_aload_n hX 0 dX3_advance_70 rfl rfl ?_
    refine gCX3_34_18 hX dX3_advance_71 ?_
    refine g_aload_n hX 0 dX3_advance_74 rfl rfl ?_
    refine gCX3_30_18 hX dX3_advance_75 ?_
    refine g_icmp_ge hX 150 dX3_advance_78 (by decide) h (fun h => ?_) (fun h => ?_)
    · exact g_sub [0] rfl (hkx70 _ h)
    · refine g_aload_n hX 0 dX3_advance_81 rfl rfl ?_
      refine gCX3_9_18 hX dX3_advance_82 ?_
      refine g_aload_n hX 0 dX3_advance_85 rfl rfl ?_
      refine gCX3_34_18 hX dX3_advance_86 ?_
      refine alC_1 hX dX3_advance_89 h (fun h => ?_)
      refine g_bipush hX (97) dX3_advance_90 (by decide) ?_
      refine g_icmp_lt hX 150 dX3_advance_92 (by decide) h (fun h => ?_) (fun h => ?_)
      · exact g_sub [0] rfl (hkx70 _ h)
      · refine g_aload_n hX 0 dX3_advance_95 rfl rfl ?_
        refine gCX3_9_18 hX dX3_advance_96 ?_
        refine g_aload_n hX 0 dX3_advance_99 rfl rfl ?_
        refine gCX3_34_18 hX dX3_advance_100 ?_
        refine alC_1 hX dX3_advance_103 h (fun h => ?_)
        refine g_bipush hX (122) dX3_advance_104 (by decide) ?_
        refine g_icmp_gt hX 150 dX3_advance_106 (by decide) h (fun h => ?_) (fun h => ?_)
        · exact g_sub [0] rfl (hkx70 _ h)
        · refine g_aload_n hX 0 dX3_advance_109 rfl rfl ?_
          refine g_aload_n hX 0 dX3_advance_110 rfl rfl ?_
          refine gCX3_59_18 hX dX3_advance_111 ?_
          refine g_ldc2 hX lkX3_63 dX3_advance_114 ?_
          refine g_lmul hX dX3_advance_117 ?_
          refine g_aload_n hX 0 dX3_advance_118 rfl rfl ?_
          refine gCX3_9_18 hX dX3_advance_119 ?_
          refine g_aload_n hX 0 dX3_advance_122 rfl rfl ?_
          refine gCX3_34_18 hX dX3_advance_123 ?_
          refine alC_1 hX dX3_advance_126 h (fun h => ?_)
          refine g_bipush hX (97) dX3_advance_127 (by decide) ?_
          refine g_isub hX dX3_advance_129 ?_
          refine g_iconst hX (1) dX3_advance_130 (by decide) ?_
          refine g_iadd hX dX3_advance_131 ?_
          refine g_i2l hX dX3_advance_132 ?_
          refine g_ladd hX dX3_advance_133 ?_
          refine pCX3_59_18 hX dX3_advance_134 h (fun σ_5 h => ?_)
          refine g_aload_n hX 0 dX3_advance_137 rfl rfl ?_
          refine g_dup hX dX3_advance_138 rfl ?_
          refine gCX3_34_18 hX dX3_advance_139 ?_
          refine g_iconst hX (1) dX3_advance_142 (by decide) ?_
          refine g_iadd hX dX3_advance_143 ?_
          refine pCX3_34_18 hX dX3_advance_144 h (fun σ_6 h => ?_)
          refine g_goto hX 70 dX3_advance_147 (by decide) ?_
          exact g_sub [0] rfl (ih70 _ h)
set_option maxRecDepth 20000 in
set_option maxHeartbeats 4000000 in
theorem sX3_advance_L170 {X : CX} {a : Nat → Nat} {D : va_G} {tI tJ tB tS : ClassId} {kK kV : Nat → Nat}  {kx170 : St → Option (St × Unit)} {r : St × Unit} (hX : OKX X (vC a D tI tJ tB tS kK kV) cX3_advance 1 RX3 1 21) (hR : ∀ (pc : Nat) (lv : List (Nat × Value)), decode cX3_advance pc = .ok (.return_, 1) → G X (vC a D tI tJ tB tS kK kV) 1 r.1 pc lv []) (hkx170 : ∀ (σ : St) , kx170 σ  = some r → G X (vC a D tI tJ tB tS kK kV) 1 σ 260 [(0, .ref (a 18))] []) : ∀ (n : Nat) (σ : St) , fX3_advance_L170 kx170 n σ  = some r → G X (vC a D tI tJ tB tS kK kV) 1 σ 170 [(0, .ref (a 18))] [] := by
  intro n
  induction n with
  | zero => intro σ  h; rw [fX3_advance_L170] at h; exact absurd h (by simp)
  | succ n170 ih170 =>
    intro σ  h
    rw [fX3_advance_L170] at h
    refine g_aload_n hX 0 dX3_advance_170 rfl rfl ?_
    refine gCX3_40_18 hX dX3_advance_171 ?_
    refine g_iconst hX (2) dX3_advance_174 (by decide) ?_
    refine g_icmp_ne hX 260 dX3_advance_175 (by decide) h (fun h => ?_) (fun h => ?_)
    · exact g_sub [0] rfl (hkx170 _ h)
    · refine g_aload_n hX 0 dX3_advance_178 rfl rfl ?_
      refine gCX3_34_18 hX dX3_advance_179 ?_
      refine g_aload_n hX 0 dX3_advance_182 rfl rfl ?_
      refine gCX3_30_18 hX dX3_advance_183 ?_
      refine g_icmp_ge hX 260 dX3_advance_186 (by decide) h (fun h => ?_) (fun h => ?_)
      · exact g_sub [0] rfl (hkx170 _ h)
      · refine g_aload_n hX 0 dX3_advance_189 rfl rfl ?_
        refine gCX3_9_18 hX dX3_advance_190 ?_
        refine g_aload_n hX 0 dX3_advance_193 rfl rfl ?_
        refine gCX3_34_18 hX dX3_advance_194 ?_
        refine alC_1 hX dX3_advance_197 h (fun h => ?_)
        refine g_bipush hX (48) dX3_advance_198 (by decide) ?_
        refine g_icmp_lt hX 260 dX3_advance_200 (by decide) h (fun h => ?_) (fun h => ?_)
        · exact g_sub [0] rfl (hkx170 _ h)
        · refine g_aload_n hX 0 dX3_advance_203 rfl rfl ?_
          refine gCX3_9_18 hX dX3_advance_204 ?_
          refine g_aload_n hX 0 dX3_advance_207 rfl rfl ?_
          refine gCX3_34_18 hX dX3_advance_208 ?_
          refine alC_1 hX dX3_advance_211 h (fun h => ?_)
          refine g_bipush hX (57) dX3_advance_212 (by decide) ?_
          refine g_icmp_gt hX 260 dX3_advance_214 (by decide) h (fun h => ?_) (fun h => ?_)
          · exact g_sub [0] rfl (hkx170 _ h)
          · refine g_aload_n hX 0 dX3_advance_217 rfl rfl ?_
            refine g_aload_n hX 0 dX3_advance_218 rfl rfl ?_
            refine gCX3_56_18 hX dX3_advance_219 ?_
            refine g_bipush hX (10) dX3_advance_222 (by decide) ?_
            refine g_imul hX dX3_advance_224 ?_
            refine g_aload_n hX 0 dX3_advance_225 rfl rfl ?_
            refine gCX3_9_18 hX dX3_advance_226 ?_
            refine g_aload_n hX 0 dX3_advance_229 rfl rfl ?_
            refine gCX3_34_18 hX dX3_advance_230 ?_
            refine alC_1 hX dX3_advance_233 h (fun h => ?_)
            refine g_bipush hX (48) dX3_advance_234 (by decide) ?_
            refine g_isub hX dX3_advance_236 ?_
            refine g_iadd hX dX3_advance_237 ?_
            refine g_sipush hX (10000) dX3_advance_238 (by decide) ?_
            refine g_mmin hX lkX3_24 mathS_minI mathI mathC_minI (by decide) (by decide) (Nat.le_of_ble_eq_true rfl) dX3_advance_241 h (fun t_11 h => ?_)
            refine pCX3_56_18 hX dX3_advance_244 h (fun σ_12 h => ?_)
            refine g_aload_n hX 0 dX3_advance_247 rfl rfl ?_
            refine g_dup hX dX3_advance_248 rfl ?_
            refine gCX3_34_18 hX dX3_advance_249 ?_
            refine g_iconst hX (1) dX3_advance_252 (by decide) ?_
            refine g_iadd hX dX3_advance_253 ?_
            refine pCX3_34_18 hX dX3_advance_254 h (fun σ_13 h => ?_)
            refine g_goto hX 170 dX3_advance_257 (by decide) ?_
            exact g_sub [0] rfl (ih170 _ h)
set_option maxRecDepth 20000 in
set_option maxHeartbeats 4000000 in
theorem sX3_advance_L0 {X : CX} {a : Nat → Nat} {D : va_G} {tI tJ tB tS : ClassId} {kK kV : Nat → Nat}  {kx0 : St → Option (St × Unit)} {r : St × Unit} (hX : OKX X (vC a D tI tJ tB tS kK kV) cX3_advance 1 RX3 1 21) (hR : ∀ (pc : Nat) (lv : List (Nat × Value)), decode cX3_advance pc = .ok (.return_, 1) → G X (vC a D tI tJ tB tS kK kV) 1 r.1 pc lv []) (hkx0 : ∀ (σ : St) , kx0 σ  = some r → G X (vC a D tI tJ tB tS kK kV) 1 σ 52 [(0, .ref (a 18))] []) : ∀ (n : Nat) (σ : St) , fX3_advance_L0 kx0 n σ  = some r → G X (vC a D tI tJ tB tS kK kV) 1 σ 0 [(0, .ref (a 18))] [] := by
  intro n
  induction n with
  | zero => intro σ  h; rw [fX3_advance_L0] at h; exact absurd h (by simp)
  | succ n0 ih0 =>
    intro σ  h
    rw [fX3_advance_L0] at h
    refine g_aload_n hX 0 dX3_advance_0 rfl rfl ?_
    refine gCX3_34_18 hX dX3_advance_1 ?_
    refine g_aload_n hX 0 dX3_advance_4 rfl rfl ?_
    refine gCX3_30_18 hX dX3_advance_5 ?_
    refine g_icmp_ge hX 52 dX3_advance_8 (by decide) h (fun h => ?_) (fun h => ?_)
    · exact g_sub [0] rfl (hkx0 _ h)
    · refine g_aload_n hX 0 dX3_advance_11 rfl rfl ?_
      refine gCX3_9_18 hX dX3_advance_12 ?_
      refine g_aload_n hX 0 dX3_advance_15 rfl rfl ?_
      refine gCX3_34_18 hX dX3_advance_16 ?_
      refine alC_1 hX dX3_advance_19 h (fun h => ?_)
      refine g_bipush hX (32) dX3_advance_20 (by decide) ?_
      refine jp_inv (P := fun f => ∀ (σ_24 : St)  , f σ_24 = some r → G X (vC a D tI tJ tB tS kK kV) 1 σ_24 39 [(0, .ref (a 18))] []) h (fun σ_24 h => ?_) (fun j39 hj39 h => ?_)
      · refine g_aload_n hX 0 dX3_advance_39 rfl rfl ?_
        refine g_dup hX dX3_advance_40 rfl ?_
        refine gCX3_34_18 hX dX3_advance_41 ?_
        refine g_iconst hX (1) dX3_advance_44 (by decide) ?_
        refine g_iadd hX dX3_advance_45 ?_
        refine pCX3_34_18 hX dX3_advance_46 h (fun σ_25 h => ?_)
        refine g_goto hX 0 dX3_advance_49 (by decide) ?_
        exact g_sub [0] rfl (ih0 _ h)
      refine g_icmp_eq hX 39 dX3_advance_22 (by decide) h (fun h => ?_) (fun h => ?_)
      · exact g_sub [0] rfl (hj39 _ h)
      · refine g_aload_n hX 0 dX3_advance_25 rfl rfl ?_
        refine gCX3_9_18 hX dX3_advance_26 ?_
        refine g_aload_n hX 0 dX3_advance_29 rfl rfl ?_
        refine gCX3_34_18 hX dX3_advance_30 ?_
        refine alC_1 hX dX3_advance_33 h (fun h => ?_)
        refine g_bipush hX (10) dX3_advance_34 (by decide) ?_
        refine g_icmp_ne hX 52 dX3_advance_36 (by decide) h (fun h => ?_) (fun h => ?_)
        · exact g_sub [0] rfl (hkx0 _ h)
        · exact g_sub [0] rfl (hj39 _ h)
set_option maxRecDepth 20000 in
set_option maxHeartbeats 4000000 in
theorem sX3_advance {X : CX} {a : Nat → Nat} {D : va_G} {tI tJ tB tS : ClassId} {kK kV : Nat → Nat} {σ : St}   {r : St × Unit} (hX : OKX X (vC a D tI tJ tB tS kK kV) cX3_advance 1 RX3 1 21) (hR : ∀ (pc : Nat) (lv : List (Nat × Value)), decode cX3_advance pc = .ok (.return_, 1) → G X (vC a D tI tJ tB tS kK kV) 1 r.1 pc lv [])  (h : fX3_advance σ  = some r) : G X (vC a D tI tJ tB tS kK kV) 1 σ 0 [(0, .ref (a 18))] [] := by
  unfold fX3_advance at h
  refine g_aload_n hX 0 dX3_advance_0 rfl rfl ?_
  refine gCX3_34_18 hX dX3_advance_1 ?_
  refine g_aload_n hX 0 dX3_advance_4 rfl rfl ?_
  refine gCX3_30_18 hX dX3_advance_5 ?_
  refine jp_inv (P := fun f => ∀ (σ_1 : St)  , f σ_1 = some r → G X (vC a D tI tJ tB tS kK kV) 1 σ_1 52 [(0, .ref (a 18))] []) h (fun σ_1 h => ?_) (fun j52 hj52 h => ?_)
  · refine g_aload_n hX 0 dX3_advance_52 rfl rfl ?_
    refine g_aload_n hX 0 dX3_advance_53 rfl rfl ?_
    refine gCX3_34_18 hX dX3_advance_54 ?_
    refine pCX3_50_18 hX dX3_advance_57 h (fun σ_2 h => ?_)
    refine g_aload_n hX 0 dX3_advance_60 rfl rfl ?_
    refine g_iconst hX (0) dX3_advance_61 (by decide) ?_
    refine pCX3_56_18 hX dX3_advance_62 h (fun σ_3 h => ?_)
    refine g_aload_n hX 0 dX3_advance_65 rfl rfl ?_
    refine g_lconst hX (0) dX3_advance_66 (by decide) ?_
    refine pCX3_59_18 hX dX3_advance_67 h (fun σ_4 h => ?_)
    refine g_sub [0] rfl (sX3_advance_L70 hX hR (fun σ_7  h => ?_) FU _  h)
    refine g_aload_n hX 0 dX3_advance_150 rfl rfl ?_
    refine g_aload_n hX 0 dX3_advance_151 rfl rfl ?_
    refine gCX3_34_18 hX dX3_advance_152 ?_
    refine g_aload_n hX 0 dX3_advance_155 rfl rfl ?_
    refine gCX3_50_18 hX dX3_advance_156 ?_
    refine jp_inv (P := fun f => ∀ (σ_8 : St)  (t_9 : Int32), f σ_8 t_9 = some r → G X (vC a D tI tJ tB tS kK kV) 1 σ_8 167 [(0, .ref (a 18))] [.int t_9, .ref (a 18)]) h (fun σ_8 t_9 h => ?_) (fun j167 hj167 h => ?_)
    · refine pCX3_40_18 hX dX3_advance_167 h (fun σ_10 h => ?_)
      refine g_sub [0] rfl (sX3_advance_L170 hX hR (fun σ_14  h => ?_) FU _  h)
      refine g_aload_n hX 0 dX3_advance_260 rfl rfl ?_
      refine gCX3_34_18 hX dX3_advance_261 ?_
      refine g_aload_n hX 0 dX3_advance_264 rfl rfl ?_
      refine gCX3_50_18 hX dX3_advance_265 ?_
      refine jp_inv (P := fun f => ∀ (σ_15 : St)  , f σ_15 = some r → G X (vC a D tI tJ tB tS kK kV) 1 σ_15 326 [(0, .ref (a 18))] []) h (fun σ_15 h => ?_) (fun j326 hj326 h => ?_)
      · refine g_aload_n hX 0 dX3_advance_326 rfl rfl ?_
        refine g_aload_n hX 0 dX3_advance_327 rfl rfl ?_
        refine gCX3_34_18 hX dX3_advance_328 ?_
        refine g_aload_n hX 0 dX3_advance_331 rfl rfl ?_
        refine gCX3_50_18 hX dX3_advance_332 ?_
        refine g_isub hX dX3_advance_335 ?_
        refine pCX3_65_18 hX dX3_advance_336 h (fun σ_16 h => ?_)
        exact g_retv hR h dX3_advance_339
      refine g_icmp_ne hX 326 dX3_advance_268 (by decide) h (fun h => ?_) (fun h => ?_)
      · exact g_sub [0] rfl (hj326 _ h)
      · refine g_aload_n hX 0 dX3_advance_271 rfl rfl ?_
        refine g_aload_n hX 0 dX3_advance_272 rfl rfl ?_
        refine gCX3_34_18 hX dX3_advance_273 ?_
        refine g_aload_n hX 0 dX3_advance_276 rfl rfl ?_
        refine gCX3_30_18 hX dX3_advance_277 ?_
        refine jp_inv (P := fun f => ∀ (σ_17 : St)  (t_18 : Int32), f σ_17 t_18 = some r → G X (vC a D tI tJ tB tS kK kV) 1 σ_17 306 [(0, .ref (a 18))] [.int t_18, .ref (a 18)]) h (fun σ_17 t_18 h => ?_) (fun j306 hj306 h => ?_)
        · refine pCX3_40_18 hX dX3_advance_306 h (fun σ_19 h => ?_)
          refine g_aload_n hX 0 dX3_advance_309 rfl rfl ?_
          refine g_aload_n hX 0 dX3_advance_310 rfl rfl ?_
          refine gCX3_34_18 hX dX3_advance_311 ?_
          refine g_iconst hX (1) dX3_advance_314 (by decide) ?_
          refine g_iadd hX dX3_advance_315 ?_
          refine g_aload_n hX 0 dX3_advance_316 rfl rfl ?_
          refine gCX3_30_18 hX dX3_advance_317 ?_
          refine g_mmin hX lkX3_24 mathS_minI mathI mathC_minI (by decide) (by decide) (Nat.le_of_ble_eq_true rfl) dX3_advance_320 h (fun t_20 h => ?_)
          refine pCX3_34_18 hX dX3_advance_323 h (fun σ_21 h => ?_)
          exact g_sub [0] rfl (hj326 _ h)
        refine g_icmp_lt hX 287 dX3_advance_280 (by decide) h (fun h => ?_) (fun h => ?_)
        · refine g_aload_n hX 0 dX3_advance_287 rfl rfl ?_
          refine gCX3_9_18 hX dX3_advance_288 ?_
          refine g_aload_n hX 0 dX3_advance_291 rfl rfl ?_
          refine gCX3_34_18 hX dX3_advance_292 ?_
          refine alC_1 hX dX3_advance_295 h (fun h => ?_)
          refine g_bipush hX (59) dX3_advance_296 (by decide) ?_
          refine g_icmp_ne hX 305 dX3_advance_298 (by decide) h (fun h => ?_) (fun h => ?_)
          · refine g_iconst hX (4) dX3_advance_305 (by decide) ?_
            exact g_sub [0] rfl (hj306 _ _ h)
          · refine g_iconst hX (3) dX3_advance_301 (by decide) ?_
            refine g_goto hX 306 dX3_advance_302 (by decide) ?_
            exact g_sub [0] rfl (hj306 _ _ h)
        · refine g_iconst hX (0) dX3_advance_283 (by decide) ?_
          refine g_goto hX 306 dX3_advance_284 (by decide) ?_
          exact g_sub [0] rfl (hj306 _ _ h)
    refine g_icmp_le hX 166 dX3_advance_159 (by decide) h (fun h => ?_) (fun h => ?_)
    · refine g_iconst hX (2) dX3_advance_166 (by decide) ?_
      exact g_sub [0] rfl (hj167 _ _ h)
    · refine g_iconst hX (1) dX3_advance_162 (by decide) ?_
      refine g_goto hX 167 dX3_advance_163 (by decide) ?_
      exact g_sub [0] rfl (hj167 _ _ h)
  refine g_icmp_ge hX 52 dX3_advance_8 (by decide) h (fun h => ?_) (fun h => ?_)
  · exact g_sub [0] rfl (hj52 _ h)
  · refine g_aload_n hX 0 dX3_advance_11 rfl rfl ?_
    refine gCX3_9_18 hX dX3_advance_12 ?_
    refine g_aload_n hX 0 dX3_advance_15 rfl rfl ?_
    refine gCX3_34_18 hX dX3_advance_16 ?_
    refine alC_1 hX dX3_advance_19 h (fun h => ?_)
    refine g_bipush hX (32) dX3_advance_20 (by decide) ?_
    refine jp_inv (P := fun f => ∀ (σ_22 : St)  , f σ_22 = some r → G X (vC a D tI tJ tB tS kK kV) 1 σ_22 39 [(0, .ref (a 18))] []) h (fun σ_22 h => ?_) (fun j39 hj39 h => ?_)
    · refine g_aload_n hX 0 dX3_advance_39 rfl rfl ?_
      refine g_dup hX dX3_advance_40 rfl ?_
      refine gCX3_34_18 hX dX3_advance_41 ?_
      refine g_iconst hX (1) dX3_advance_44 (by decide) ?_
      refine g_iadd hX dX3_advance_45 ?_
      refine pCX3_34_18 hX dX3_advance_46 h (fun σ_23 h => ?_)
      refine g_goto hX 0 dX3_advance_49 (by decide) ?_
      refine g_sub [0] rfl (sX3_advance_L0 hX hR (fun σ_26  h => ?_) FU _  h)
      exact g_sub [0] rfl (hj52 _ h)
    refine g_icmp_eq hX 39 dX3_advance_22 (by decide) h (fun h => ?_) (fun h => ?_)
    · exact g_sub [0] rfl (hj39 _ h)
    · refine g_aload_n hX 0 dX3_advance_25 rfl rfl ?_
      refine gCX3_9_18 hX dX3_advance_26 ?_
      refine g_aload_n hX 0 dX3_advance_29 rfl rfl ?_
      refine gCX3_34_18 hX dX3_advance_30 ?_
      refine alC_1 hX dX3_advance_33 h (fun h => ?_)
      refine g_bipush hX (10) dX3_advance_34 (by decide) ?_
      refine g_icmp_ne hX 52 dX3_advance_36 (by decide) h (fun h => ?_) (fun h => ?_)
      · exact g_sub [0] rfl (hj52 _ h)
      · exact g_sub [0] rfl (hj39 _ h)
set_option maxRecDepth 20000 in
set_option maxHeartbeats 4000000 in
theorem kX3_advance (l : Launch) {a : Nat → Nat} {D : va_G} {tI tJ tB tS : ClassId} {kK kV : Nat → Nat} {σ τ : St}   {x : Unit} (h : fX3_advance σ  = some (τ, x)) : CtV l yX3_advance cX3_advance 1 none 1 21 (vC a D tI tJ tB tS kK kV) σ [.ref (a 18)] τ x := g_metV (by decide) (Nat.le_of_ble_eq_true rfl) rfl (fun X _ hX hR => sX3_advance (r := (τ, x)) hX hR h)
def fJ0_coder_7d493 (σ : St) (w0 : Nat) : Option (St × Int32) :=
  (if (1 : Int32) = 0 then chk (isY (1 : Int32)) (some (σ, (1 : Int32))) else chk (decide (w0 < 15)) (chk (isY (0 : Int32)) (some (σ, (0 : Int32)))))
set_option maxRecDepth 20000 in
set_option maxHeartbeats 4000000 in
theorem sJ0_coder_7d493 {X : CX} {a : Nat → Nat} {D : va_G} {tI tJ tB tS : ClassId} {kK kV : Nat → Nat} {σ : St}  {w0 : Nat} {r : St × Int32} (hX : OKX X (vC a D tI tJ tB tS kK kV) cJ0_coder_7d493 1 RJ0 0 0) (hR : isY r.2 = true → ∀ (pc : Nat) (lv : List (Nat × Value)), decode cJ0_coder_7d493 pc = .ok (.ireturn, 1) → G X (vC a D tI tJ tB tS kK kV) 1 r.1 pc lv [.int r.2])  (h : fJ0_coder_7d493 σ w0 = some r) : G X (vC a D tI tJ tB tS kK kV) 1 σ 0 [(0, .ref (kK w0))] [] := by
  unfold fJ0_coder_7d493 at h
  refine g_getsC hX lkJ0_38 dJ0_coder_7d493_0 ?_
  refine g_if_eq hX 13 dJ0_coder_7d493_3 (by decide) h (fun h => ?_) (fun h => ?_)
  · refine g_iconst hX (1) dJ0_coder_7d493_13 (by decide) ?_
    exact g_rety hR h dJ0_coder_7d493_14
  · refine g_aload_n hX 0 dJ0_coder_7d493_6 rfl rfl ?_
    refine g_strC (N := 15) hX rfl lkJ0_15 dJ0_coder_7d493_7 h (fun h => ?_)
    refine g_goto hX 14 dJ0_coder_7d493_10 (by decide) ?_
    exact g_rety hR h dJ0_coder_7d493_14
set_option maxRecDepth 20000 in
set_option maxHeartbeats 4000000 in
theorem kJ0_coder_7d493 (l : Launch) {a : Nat → Nat} {D : va_G} {tI tJ tB tS : ClassId} {kK kV : Nat → Nat} {σ τ : St}  {w0 : Nat} {x : Int32} (h : fJ0_coder_7d493 σ w0 = some (τ, x)) : CtI l yJ0_coder_7d493 cJ0_coder_7d493 1 (some .byte) 0 0 (vC a D tI tJ tB tS kK kV) σ [.ref (kK w0)] τ x := g_metY (by decide) (Nat.le_of_ble_eq_true rfl) rfl (fun X _ hX hR => sJ0_coder_7d493 (r := (τ, x)) hX hR h)
def fJ0_length_8abf5 (σ : St) (w0 : Nat) : Option (St × Int32) :=
  chk (decide (w0 < 15)) (chk (decide (w0 < 15)) (chk (decide (w0 < 15)) (cl (fJ0_coder_7d493 σ w0) fun (σ_1 : St) (t_2 : Int32) => some (σ_1, ((Int32.ofNat (lenJS.getD w0 0)) >>> (t_2 &&& 31))))))
set_option maxRecDepth 20000 in
set_option maxHeartbeats 4000000 in
theorem sJ0_length_8abf5 {X : CX} {a : Nat → Nat} {D : va_G} {tI tJ tB tS : ClassId} {kK kV : Nat → Nat} {σ : St}  {w0 : Nat} {r : St × Int32} (hX : OKX X (vC a D tI tJ tB tS kK kV) cJ0_length_8abf5 1 RJ0 1 20) (hR : ∀ (pc : Nat) (lv : List (Nat × Value)), decode cJ0_length_8abf5 pc = .ok (.ireturn, 1) → G X (vC a D tI tJ tB tS kK kV) 1 r.1 pc lv [.int r.2])  (h : fJ0_length_8abf5 σ w0 = some r) : G X (vC a D tI tJ tB tS kK kV) 1 σ 0 [(0, .ref (kK w0))] [] := by
  unfold fJ0_length_8abf5 at h
  refine g_aload_n hX 0 dJ0_length_8abf5_0 rfl rfl ?_
  refine g_strV (N := 15) hX rfl lkJ0_9 dJ0_length_8abf5_1 h (fun h => ?_)
  refine g_strL (N := 15) (le := lenJS) hX rfl rfl dJ0_length_8abf5_4 h (fun h => ?_)
  refine g_aload_n hX 0 dJ0_length_8abf5_5 rfl rfl ?_
  obtain ⟨hlt, h⟩ := chk_inv h
  refine g_callZI (As := []) (rest := [.int (Int32.ofNat (lenJS.getD w0 0))]) hX w0 (of_decide_eq_true hlt) miJ0_coder_7d493 mvJ0_coder_7d493 lkJ0_335 (by decide) rfl (Nat.le_of_ble_eq_true rfl) rfl dJ0_length_8abf5_6 (fun τ x ho => kJ0_coder_7d493 _ ho) h (fun σ_1 t_2 h => ?_)
  refine g_ishr hX dJ0_length_8abf5_9 ?_
  exact g_reti hR h dJ0_length_8abf5_10
set_option maxRecDepth 20000 in
set_option maxHeartbeats 4000000 in
theorem kJ0_length_8abf5 (l : Launch) {a : Nat → Nat} {D : va_G} {tI tJ tB tS : ClassId} {kK kV : Nat → Nat} {σ τ : St}  {w0 : Nat} {x : Int32} (h : fJ0_length_8abf5 σ w0 = some (τ, x)) : CtI l yJ0_length_8abf5 cJ0_length_8abf5 1 (some .int) 1 20 (vC a D tI tJ tB tS kK kV) σ [.ref (kK w0)] τ x := g_metI (by decide) (Nat.le_of_ble_eq_true rfl) rfl (fun X _ hX hR => sJ0_length_8abf5 (r := (τ, x)) hX hR h)
def fJ0_isLatin1_aae02 (σ : St) (w0 : Nat) : Option (St × Int32) :=
  (if (1 : Int32) = 0 then some (σ, (0 : Int32)) else chk (decide (w0 < 15)) ((if (0 : Int32) = 0 then some (σ, (1 : Int32)) else some (σ, (0 : Int32)))))
set_option maxRecDepth 20000 in
set_option maxHeartbeats 4000000 in
theorem sJ0_isLatin1_aae02 {X : CX} {a : Nat → Nat} {D : va_G} {tI tJ tB tS : ClassId} {kK kV : Nat → Nat} {σ : St}  {w0 : Nat} {r : St × Int32} (hX : OKX X (vC a D tI tJ tB tS kK kV) cJ0_isLatin1_aae02 1 RJ0 0 0) (hR : (r.2 = 0 ∨ r.2 = 1) → ∀ (pc : Nat) (lv : List (Nat × Value)), decode cJ0_isLatin1_aae02 pc = .ok (.ireturn, 1) → G X (vC a D tI tJ tB tS kK kV) 1 r.1 pc lv [.int r.2])  (h : fJ0_isLatin1_aae02 σ w0 = some r) : G X (vC a D tI tJ tB tS kK kV) 1 σ 0 [(0, .ref (kK w0))] [] := by
  unfold fJ0_isLatin1_aae02 at h
  refine g_getsC hX lkJ0_38 dJ0_isLatin1_aae02_0 ?_
  refine g_if_eq hX 17 dJ0_isLatin1_aae02_3 (by decide) h (fun h => ?_) (fun h => ?_)
  · refine g_iconst hX (0) dJ0_isLatin1_aae02_17 (by decide) ?_
    exact g_retz hR (by decide) h dJ0_isLatin1_aae02_18
  · refine g_aload_n hX 0 dJ0_isLatin1_aae02_6 rfl rfl ?_
    refine g_strC (N := 15) hX rfl lkJ0_15 dJ0_isLatin1_aae02_7 h (fun h => ?_)
    refine g_if_ne hX 17 dJ0_isLatin1_aae02_10 (by decide) h (fun h => ?_) (fun h => ?_)
    · refine g_iconst hX (0) dJ0_isLatin1_aae02_17 (by decide) ?_
      exact g_retz hR (by decide) h dJ0_isLatin1_aae02_18
    · refine g_iconst hX (1) dJ0_isLatin1_aae02_13 (by decide) ?_
      refine g_goto hX 18 dJ0_isLatin1_aae02_14 (by decide) ?_
      exact g_retz hR (by decide) h dJ0_isLatin1_aae02_18
set_option maxRecDepth 20000 in
set_option maxHeartbeats 4000000 in
theorem kJ0_isLatin1_aae02 (l : Launch) {a : Nat → Nat} {D : va_G} {tI tJ tB tS : ClassId} {kK kV : Nat → Nat} {σ τ : St}  {w0 : Nat} {x : Int32} (h : fJ0_isLatin1_aae02 σ w0 = some (τ, x)) : CtI l yJ0_isLatin1_aae02 cJ0_isLatin1_aae02 1 (some .boolean) 0 0 (vC a D tI tJ tB tS kK kV) σ [.ref (kK w0)] τ x := g_metZ (by decide) (Nat.le_of_ble_eq_true rfl) rfl (fun X _ hX hR => sJ0_isLatin1_aae02 (r := (τ, x)) hX hR h)
def fJ3_checkIndex_8e157_inull (σ : St) (p1 : Int32) (p2 : Int32) : Option (St × Int32) :=
  (if p1 < 0 then none else (if p1 < p2 then some (σ, p1) else none))
set_option maxRecDepth 20000 in
set_option maxHeartbeats 4000000 in
theorem sJ3_checkIndex_8e157_inull {X : CX} {a : Nat → Nat} {D : va_G} {tI tJ tB tS : ClassId} {kK kV : Nat → Nat} {σ : St}  {p1 : Int32} {p2 : Int32} {r : St × Int32} (hX : OKX X (vC a D tI tJ tB tS kK kV) cJ3_checkIndex_8e157 3 RJ3 0 0) (hR : ∀ (pc : Nat) (lv : List (Nat × Value)), decode cJ3_checkIndex_8e157 pc = .ok (.ireturn, 1) → G X (vC a D tI tJ tB tS kK kV) 3 r.1 pc lv [.int r.2])  (h : fJ3_checkIndex_8e157_inull σ p1 p2 = some r) : G X (vC a D tI tJ tB tS kK kV) 3 σ 0 [(0, .int p1), (1, .int p2), (2, .null)] [] := by
  unfold fJ3_checkIndex_8e157_inull at h
  refine g_iload_n hX 0 dJ3_checkIndex_8e157_0 rfl rfl ?_
  refine g_if_lt hX 9 dJ3_checkIndex_8e157_1 (by decide) h (fun h => ?_) (fun h => ?_)
  · exact absurd h (by simp)
  · refine g_iload_n hX 0 dJ3_checkIndex_8e157_4 rfl rfl ?_
    refine g_iload_n hX 1 dJ3_checkIndex_8e157_5 rfl rfl ?_
    refine g_icmp_lt hX 16 dJ3_checkIndex_8e157_6 (by decide) h (fun h => ?_) (fun h => ?_)
    · refine g_iload_n hX 0 dJ3_checkIndex_8e157_16 rfl rfl ?_
      exact g_reti hR h dJ3_checkIndex_8e157_17
    · exact absurd h (by simp)
set_option maxRecDepth 20000 in
set_option maxHeartbeats 4000000 in
theorem kJ3_checkIndex_8e157_inull (l : Launch) {a : Nat → Nat} {D : va_G} {tI tJ tB tS : ClassId} {kK kV : Nat → Nat} {σ τ : St}  {p1 : Int32} {p2 : Int32} {x : Int32} (h : fJ3_checkIndex_8e157_inull σ p1 p2 = some (τ, x)) : CtI l yJ3_checkIndex_8e157 cJ3_checkIndex_8e157 3 (some .int) 0 0 (vC a D tI tJ tB tS kK kV) σ [.int p1, .int p2, .null] τ x := g_metI (by decide) (Nat.le_of_ble_eq_true rfl) rfl (fun X _ hX hR => sJ3_checkIndex_8e157_inull (r := (τ, x)) hX hR h)
def fJ3_checkIndex_8e157_ireft (σ : St) (p1 : Int32) (p2 : Int32) : Option (St × Int32) :=
  (if p1 < 0 then none else (if p1 < p2 then some (σ, p1) else none))
set_option maxRecDepth 20000 in
set_option maxHeartbeats 4000000 in
theorem sJ3_checkIndex_8e157_ireft {X : CX} {a : Nat → Nat} {D : va_G} {tI tJ tB tS : ClassId} {kK kV : Nat → Nat} {σ : St} {t9 : Nat} {p1 : Int32} {p2 : Int32} {r : St × Int32} (hX : OKX X (vC a D tI tJ tB tS kK kV) cJ3_checkIndex_8e157 3 RJ3 0 0) (hR : ∀ (pc : Nat) (lv : List (Nat × Value)), decode cJ3_checkIndex_8e157 pc = .ok (.ireturn, 1) → G X (vC a D tI tJ tB tS kK kV) 3 r.1 pc lv [.int r.2])  (h : fJ3_checkIndex_8e157_ireft σ p1 p2 = some r) : G X (vC a D tI tJ tB tS kK kV) 3 σ 0 [(0, .int p1), (1, .int p2), (2, .ref t9)] [] := by
  unfold fJ3_checkIndex_8e157_ireft at h
  refine g_iload_n hX 0 dJ3_checkIndex_8e157_0 rfl rfl ?_
  refine g_if_lt hX 9 dJ3_checkIndex_8e157_1 (by decide) h (fun h => ?_) (fun h => ?_)
  · exact absurd h (by simp)
  · refine g_iload_n hX 0 dJ3_checkIndex_8e157_4 rfl rfl ?_
    refine g_iload_n hX 1 dJ3_checkIndex_8e157_5 rfl rfl ?_
    refine g_icmp_lt hX 16 dJ3_checkIndex_8e157_6 (by decide) h (fun h => ?_) (fun h => ?_)
    · refine g_iload_n hX 0 dJ3_checkIndex_8e157_16 rfl rfl ?_
      exact g_reti hR h dJ3_checkIndex_8e157_17
    · exact absurd h (by simp)
set_option maxRecDepth 20000 in
set_option maxHeartbeats 4000000 in
theorem kJ3_checkIndex_8e157_ireft (l : Launch) {a : Nat → Nat} {D : va_G} {tI tJ tB tS : ClassId} {kK kV : Nat → Nat} {σ τ : St} {t9 : Nat} {p1 : Int32} {p2 : Int32} {x : Int32} (h : fJ3_checkIndex_8e157_ireft σ p1 p2 = some (τ, x)) : CtI l yJ3_checkIndex_8e157 cJ3_checkIndex_8e157 3 (some .int) 0 0 (vC a D tI tJ tB tS kK kV) σ [.int p1, .int p2, .ref t9] τ x := g_metI (by decide) (Nat.le_of_ble_eq_true rfl) rfl (fun X _ hX hR => sJ3_checkIndex_8e157_ireft (r := (τ, x)) hX hR h)
def fJ0_checkIndex_df160 (σ : St) (p1 : Int32) (p2 : Int32) : Option (St × Unit) :=
  cl (fJ3_checkIndex_8e157_inull σ p1 p2) fun (σ_1 : St) (t_2 : Int32) => some (σ_1, ())
set_option maxRecDepth 20000 in
set_option maxHeartbeats 4000000 in
theorem sJ0_checkIndex_df160 {X : CX} {a : Nat → Nat} {D : va_G} {tI tJ tB tS : ClassId} {kK kV : Nat → Nat} {σ : St}  {p1 : Int32} {p2 : Int32} {r : St × Unit} (hX : OKX X (vC a D tI tJ tB tS kK kV) cJ0_checkIndex_df160 2 RJ0 1 22) (hR : ∀ (pc : Nat) (lv : List (Nat × Value)), decode cJ0_checkIndex_df160 pc = .ok (.return_, 1) → G X (vC a D tI tJ tB tS kK kV) 2 r.1 pc lv [])  (h : fJ0_checkIndex_df160 σ p1 p2 = some r) : G X (vC a D tI tJ tB tS kK kV) 2 σ 0 [(0, .int p1), (1, .int p2)] [] := by
  unfold fJ0_checkIndex_df160 at h
  refine g_iload_n hX 0 dJ0_checkIndex_df160_0 rfl rfl ?_
  refine g_iload_n hX 1 dJ0_checkIndex_df160_1 rfl rfl ?_
  refine g_getsF hX lkJ0_1053 dJ0_checkIndex_df160_2 ?_ (fun t8 => ?_)
  · refine g_callSI (As := [.int p1, .int p2, .null]) (rest := []) hX miJ3_checkIndex_8e157 mvJ3_checkIndex_8e157 lkJ0_1059 (by decide) rfl (Nat.le_of_ble_eq_true rfl) rfl dJ0_checkIndex_df160_5 (fun τ x ho => kJ3_checkIndex_8e157_inull _ ho) h (fun σ_1 t_2 h => ?_)
    refine g_pop hX dJ0_checkIndex_df160_8 rfl ?_
    exact g_retv hR h dJ0_checkIndex_df160_9
  · refine g_callSI (As := [.int p1, .int p2, .ref t8]) (rest := []) hX miJ3_checkIndex_8e157 mvJ3_checkIndex_8e157 lkJ0_1059 (by decide) rfl (Nat.le_of_ble_eq_true rfl) rfl dJ0_checkIndex_df160_5 (fun τ x ho => kJ3_checkIndex_8e157_ireft _ ho) h (fun σ_3 t_4 h => ?_)
    refine g_pop hX dJ0_checkIndex_df160_8 rfl ?_
    exact g_retv hR h dJ0_checkIndex_df160_9
set_option maxRecDepth 20000 in
set_option maxHeartbeats 4000000 in
theorem kJ0_checkIndex_df160 (l : Launch) {a : Nat → Nat} {D : va_G} {tI tJ tB tS : ClassId} {kK kV : Nat → Nat} {σ τ : St}  {p1 : Int32} {p2 : Int32} {x : Unit} (h : fJ0_checkIndex_df160 σ p1 p2 = some (τ, x)) : CtV l yJ0_checkIndex_df160 cJ0_checkIndex_df160 2 none 1 22 (vC a D tI tJ tB tS kK kV) σ [.int p1, .int p2] τ x := g_metV (by decide) (Nat.le_of_ble_eq_true rfl) rfl (fun X _ hX hR => sJ0_checkIndex_df160 (r := (τ, x)) hX hR h)
def fJ1_charAt_3b067 (σ : St) (w1 : Nat) (p2 : Int32) : Option (St × Int32) :=
  chk (decide (w1 < 15)) (cl (fJ0_checkIndex_df160 σ p2 (Int32.ofNat (lenJS.getD w1 0))) fun (σ_1 : St) (t_2 : Unit) => chk (decide (w1 < 15)) (chk (inb p2 (lenJS.getD w1 0)) (chk (isC ((((((bytJS.getD w1 []).getD (ix p2) 0) &&& (255 : Int32))).toUInt32 % 65536).toInt32)) (some (σ_1, ((((((bytJS.getD w1 []).getD (ix p2) 0) &&& (255 : Int32))).toUInt32 % 65536).toInt32))))))
set_option maxRecDepth 20000 in
set_option maxHeartbeats 4000000 in
theorem sJ1_charAt_3b067 {X : CX} {a : Nat → Nat} {D : va_G} {tI tJ tB tS : ClassId} {kK kV : Nat → Nat} {σ : St}  {w1 : Nat} {p2 : Int32} {r : St × Int32} (hX : OKX X (vC a D tI tJ tB tS kK kV) cJ1_charAt_3b067 2 RJ1 2 43) (hR : isC r.2 = true → ∀ (pc : Nat) (lv : List (Nat × Value)), decode cJ1_charAt_3b067 pc = .ok (.ireturn, 1) → G X (vC a D tI tJ tB tS kK kV) 2 r.1 pc lv [.int r.2])  (h : fJ1_charAt_3b067 σ w1 p2 = some r) : G X (vC a D tI tJ tB tS kK kV) 2 σ 0 [(0, .ref (kV w1)), (1, .int p2)] [] := by
  unfold fJ1_charAt_3b067 at h
  refine g_iload_n hX 1 dJ1_charAt_3b067_0 rfl rfl ?_
  refine g_aload_n hX 0 dJ1_charAt_3b067_1 rfl rfl ?_
  refine g_strL (N := 15) (le := lenJS) hX rfl rfl dJ1_charAt_3b067_2 h (fun h => ?_)
  refine g_callSV (As := [.int p2, .int (Int32.ofNat (lenJS.getD w1 0))]) (rest := []) hX miJ0_checkIndex_df160 mvJ0_checkIndex_df160 lkJ1_9 (by decide) rfl (Nat.le_of_ble_eq_true rfl) rfl dJ1_charAt_3b067_3 (fun τ x ho => kJ0_checkIndex_df160 _ ho) h (fun σ_1 t_2 h => ?_)
  refine g_aload_n hX 0 dJ1_charAt_3b067_6 rfl rfl ?_
  refine g_iload_n hX 1 dJ1_charAt_3b067_7 rfl rfl ?_
  refine g_strB (N := 15) (le := lenJS) (by' := bytJS) hX rfl rfl rfl dJ1_charAt_3b067_8 h (fun h => ?_)
  refine g_sipush hX (255) dJ1_charAt_3b067_9 (by decide) ?_
  refine g_iand hX dJ1_charAt_3b067_12 ?_
  refine g_i2c hX dJ1_charAt_3b067_13 ?_
  exact g_retc hR h dJ1_charAt_3b067_14
set_option maxRecDepth 20000 in
set_option maxHeartbeats 4000000 in
theorem kJ1_charAt_3b067 (l : Launch) {a : Nat → Nat} {D : va_G} {tI tJ tB tS : ClassId} {kK kV : Nat → Nat} {σ τ : St}  {w1 : Nat} {p2 : Int32} {x : Int32} (h : fJ1_charAt_3b067 σ w1 p2 = some (τ, x)) : CtI l yJ1_charAt_3b067 cJ1_charAt_3b067 2 (some .char) 2 43 (vC a D tI tJ tB tS kK kV) σ [.ref (kV w1), .int p2] τ x := g_metC (by decide) (Nat.le_of_ble_eq_true rfl) rfl (fun X _ hX hR => sJ1_charAt_3b067 (r := (τ, x)) hX hR h)
def fJ0_charAt_5068e (σ : St) (w0 : Nat) (p1 : Int32) : Option (St × Int32) :=
  chk (decide (w0 < 15)) (cl (fJ0_isLatin1_aae02 σ w0) fun (σ_1 : St) (t_2 : Int32) => (if t_2 = 0 then chk (decide (w0 < 15)) (none) else chk (decide (w0 < 15)) (cl (fJ1_charAt_3b067 σ_1 w0 p1) fun (σ_3 : St) (t_4 : Int32) => chk (isC t_4) (some (σ_3, t_4)))))
set_option maxRecDepth 20000 in
set_option maxHeartbeats 4000000 in
theorem sJ0_charAt_5068e {X : CX} {a : Nat → Nat} {D : va_G} {tI tJ tB tS : ClassId} {kK kV : Nat → Nat} {σ : St}  {w0 : Nat} {p1 : Int32} {r : St × Int32} (hX : OKX X (vC a D tI tJ tB tS kK kV) cJ0_charAt_5068e 2 RJ0 3 64) (hR : isC r.2 = true → ∀ (pc : Nat) (lv : List (Nat × Value)), decode cJ0_charAt_5068e pc = .ok (.ireturn, 1) → G X (vC a D tI tJ tB tS kK kV) 2 r.1 pc lv [.int r.2])  (h : fJ0_charAt_5068e σ w0 p1 = some r) : G X (vC a D tI tJ tB tS kK kV) 2 σ 0 [(0, .ref (kK w0)), (1, .int p1)] [] := by
  unfold fJ0_charAt_5068e at h
  refine g_aload_n hX 0 dJ0_charAt_5068e_0 rfl rfl ?_
  obtain ⟨hlt, h⟩ := chk_inv h
  refine g_callZI (As := []) (rest := []) hX w0 (of_decide_eq_true hlt) miJ0_isLatin1_aae02 mvJ0_isLatin1_aae02 lkJ0_492 (by decide) rfl (Nat.le_of_ble_eq_true rfl) rfl dJ0_charAt_5068e_1 (fun τ x ho => kJ0_isLatin1_aae02 _ ho) h (fun σ_1 t_2 h => ?_)
  refine g_if_eq hX 16 dJ0_charAt_5068e_4 (by decide) h (fun h => ?_) (fun h => ?_)
  · refine g_aload_n hX 0 dJ0_charAt_5068e_16 rfl rfl ?_
    refine g_strV (N := 15) hX rfl lkJ0_9 dJ0_charAt_5068e_17 h (fun h => ?_)
    refine g_iload_n hX 1 dJ0_charAt_5068e_20 rfl rfl ?_
    exact absurd h (by simp)
  · refine g_aload_n hX 0 dJ0_charAt_5068e_7 rfl rfl ?_
    refine g_strV (N := 15) hX rfl lkJ0_9 dJ0_charAt_5068e_8 h (fun h => ?_)
    refine g_iload_n hX 1 dJ0_charAt_5068e_11 rfl rfl ?_
    refine g_callSI (As := [.ref (kV w0), .int p1]) (rest := []) hX miJ1_charAt_3b067 mvJ1_charAt_3b067 lkJ0_495 (by decide) rfl (Nat.le_of_ble_eq_true rfl) rfl dJ0_charAt_5068e_12 (fun τ x ho => kJ1_charAt_3b067 _ ho) h (fun σ_3 t_4 h => ?_)
    exact g_retc hR h dJ0_charAt_5068e_15
set_option maxRecDepth 20000 in
set_option maxHeartbeats 4000000 in
theorem kJ0_charAt_5068e (l : Launch) {a : Nat → Nat} {D : va_G} {tI tJ tB tS : ClassId} {kK kV : Nat → Nat} {σ τ : St}  {w0 : Nat} {p1 : Int32} {x : Int32} (h : fJ0_charAt_5068e σ w0 p1 = some (τ, x)) : CtI l yJ0_charAt_5068e cJ0_charAt_5068e 2 (some .char) 3 64 (vC a D tI tJ tB tS kK kV) σ [.ref (kK w0), .int p1] τ x := g_metC (by decide) (Nat.le_of_ble_eq_true rfl) rfl (fun X _ hX hR => sJ0_charAt_5068e (r := (τ, x)) hX hR h)
def fX3_spells_L33 (q1_33 : Nat) (q2_33 : Int32) (kx33 : St → Int32 → Option (St × Int32)) : Nat → St → Int32 → Option (St × Int32)
  | 0, _, _ => none
  | n33 + 1, σ, c3_33 =>
    (if (σ.1 18 6) ≤ c3_33 then kx33 σ c3_33 else chk (decide (q1_33 < 15)) (cl (fJ0_charAt_5068e σ q1_33 (q2_33 + c3_33)) fun (σ_4 : St) (t_5 : Int32) => chk (inb ((σ_4.1 18 4) + c3_33) 800) ((if t_5 = ((((σ_4.1 1 (ix ((σ_4.1 18 4) + c3_33)))).toUInt32 % 65536).toInt32) then bnd (c3_33 + (1 : Int32)) fun (x3_6 : Int32) => fX3_spells_L33 q1_33 q2_33 kx33 n33 σ_4 x3_6 else some (σ_4, (0 : Int32))))))
def fX3_spells (σ : St) (w1 : Nat) (p2 : Int32) : Option (St × Int32) :=
  chk (decide (w1 < 15)) (cl (fJ0_length_8abf5 σ w1) fun (σ_1 : St) (t_2 : Int32) => (if t_2 < (p2 + (σ.1 18 6)) then some (σ_1, (0 : Int32)) else (if ((σ_1.1 18 4) + (σ_1.1 18 6)) ≤ (σ_1.1 18 2) then bnd (0 : Int32) fun (x3_3 : Int32) => fX3_spells_L33 w1 p2 (fun (σ_7 : St) (x3_8 : Int32) => some (σ_7, (1 : Int32))) FU σ_1 x3_3 else some (σ_1, (0 : Int32)))))
set_option maxRecDepth 20000 in
set_option maxHeartbeats 4000000 in
theorem sX3_spells_L33 {X : CX} {a : Nat → Nat} {D : va_G} {tI tJ tB tS : ClassId} {kK kV : Nat → Nat} {q1_33 : Nat} {q2_33 : Int32} {kx33 : St → Int32 → Option (St × Int32)} {r : St × Int32} (hX : OKX X (vC a D tI tJ tB tS kK kV) cX3_spells 4 RX3 4 85) (hR : (r.2 = 0 ∨ r.2 = 1) → ∀ (pc : Nat) (lv : List (Nat × Value)), decode cX3_spells pc = .ok (.ireturn, 1) → G X (vC a D tI tJ tB tS kK kV) 4 r.1 pc lv [.int r.2]) (hkx33 : ∀ (σ : St) (e3_33 : Int32), kx33 σ e3_33 = some r → G X (vC a D tI tJ tB tS kK kV) 4 σ 71 [] []) : ∀ (n : Nat) (σ : St) (c3_33 : Int32), fX3_spells_L33 q1_33 q2_33 kx33 n σ c3_33 = some r → G X (vC a D tI tJ tB tS kK kV) 4 σ 33 [(0, .ref (a 18)), (1, .ref (kK q1_33)), (2, .int q2_33), (3, .int c3_33)] [] := by
  intro n
  induction n with
  | zero => intro σ c3_33 h; rw [fX3_spells_L33] at h; exact absurd h (by simp)
  | succ n33 ih33 =>
    intro σ c3_33 h
    rw [fX3_spells_L33] at h
    refine g_iload_n hX 3 dX3_spells_33 rfl rfl ?_
    refine g_aload_n hX 0 dX3_spells_34 rfl rfl ?_
    refine gCX3_65_18 hX dX3_spells_35 ?_
    refine g_icmp_ge hX 71 dX3_spells_38 (by decide) h (fun h => ?_) (fun h => ?_)
    · exact g_sub [] rfl (hkx33 _ _ h)
    · refine g_aload_n hX 1 dX3_spells_41 rfl rfl ?_
      refine g_iload_n hX 2 dX3_spells_42 rfl rfl ?_
      refine g_iload_n hX 3 dX3_spells_43 rfl rfl ?_
      refine g_iadd hX dX3_spells_44 ?_
      obtain ⟨hlt, h⟩ := chk_inv h
      refine g_callZI (As := [.int (q2_33 + c3_33)]) (rest := []) hX q1_33 (of_decide_eq_true hlt) miJ0_charAt_5068e mvJ0_charAt_5068e lkX3_162 (by decide) rfl (Nat.le_of_ble_eq_true rfl) rfl dX3_spells_45 (fun τ x ho => kJ0_charAt_5068e _ ho) h (fun σ_4 t_5 h => ?_)
      refine g_aload_n hX 0 dX3_spells_48 rfl rfl ?_
      refine gCX3_9_18 hX dX3_spells_49 ?_
      refine g_aload_n hX 0 dX3_spells_52 rfl rfl ?_
      refine gCX3_50_18 hX dX3_spells_53 ?_
      refine g_iload_n hX 3 dX3_spells_56 rfl rfl ?_
      refine g_iadd hX dX3_spells_57 ?_
      refine alC_1 hX dX3_spells_58 h (fun h => ?_)
      refine g_i2c hX dX3_spells_59 ?_
      refine g_icmp_eq hX 65 dX3_spells_60 (by decide) h (fun h => ?_) (fun h => ?_)
      · refine g_iinc (y := (1)) (lv' := fun x3_6 => [(3, .int x3_6), (0, .ref (a 18)), (1, .ref (kK q1_33)), (2, .int q2_33)]) hX 3 dX3_spells_65 rfl (by decide) (by decide) (fun _ => rfl) h (fun x3_6 h => ?_)
        refine g_goto hX 33 dX3_spells_68 (by decide) ?_
        exact g_sub [1, 2, 3, 0] rfl (ih33 _ _ h)
      · refine g_iconst hX (0) dX3_spells_63 (by decide) ?_
        exact g_retz hR (by decide) h dX3_spells_64
set_option maxRecDepth 20000 in
set_option maxHeartbeats 4000000 in
theorem sX3_spells {X : CX} {a : Nat → Nat} {D : va_G} {tI tJ tB tS : ClassId} {kK kV : Nat → Nat} {σ : St}  {w1 : Nat} {p2 : Int32} {r : St × Int32} (hX : OKX X (vC a D tI tJ tB tS kK kV) cX3_spells 4 RX3 4 85) (hR : (r.2 = 0 ∨ r.2 = 1) → ∀ (pc : Nat) (lv : List (Nat × Value)), decode cX3_spells pc = .ok (.ireturn, 1) → G X (vC a D tI tJ tB tS kK kV) 4 r.1 pc lv [.int r.2])  (h : fX3_spells σ w1 p2 = some r) : G X (vC a D tI tJ tB tS kK kV) 4 σ 0 [(0, .ref (a 18)), (1, .ref (kK w1)), (2, .int p2)] [] := by
  unfold fX3_spells at h
  refine g_iload_n hX 2 dX3_spells_0 rfl rfl ?_
  refine g_aload_n hX 0 dX3_spells_1 rfl rfl ?_
  refine gCX3_65_18 hX dX3_spells_2 ?_
  refine g_iadd hX dX3_spells_5 ?_
  refine g_aload_n hX 1 dX3_spells_6 rfl rfl ?_
  obtain ⟨hlt, h⟩ := chk_inv h
  refine g_callZI (As := []) (rest := [.int (p2 + (σ.1 18 6))]) hX w1 (of_decide_eq_true hlt) miJ0_length_8abf5 mvJ0_length_8abf5 lkX3_149 (by decide) rfl (Nat.le_of_ble_eq_true rfl) rfl dX3_spells_7 (fun τ x ho => kJ0_length_8abf5 _ ho) h (fun σ_1 t_2 h => ?_)
  refine g_icmp_gt hX 29 dX3_spells_10 (by decide) h (fun h => ?_) (fun h => ?_)
  · refine g_iconst hX (0) dX3_spells_29 (by decide) ?_
    exact g_retz hR (by decide) h dX3_spells_30
  · refine g_aload_n hX 0 dX3_spells_13 rfl rfl ?_
    refine gCX3_50_18 hX dX3_spells_14 ?_
    refine g_aload_n hX 0 dX3_spells_17 rfl rfl ?_
    refine gCX3_65_18 hX dX3_spells_18 ?_
    refine g_iadd hX dX3_spells_21 ?_
    refine g_aload_n hX 0 dX3_spells_22 rfl rfl ?_
    refine gCX3_30_18 hX dX3_spells_23 ?_
    refine g_icmp_le hX 31 dX3_spells_26 (by decide) h (fun h => ?_) (fun h => ?_)
    · refine g_iconst hX (0) dX3_spells_31 (by decide) ?_
      refine g_istore_n (lv' := fun x3_3 => [(3, .int x3_3), (0, .ref (a 18)), (1, .ref (kK w1)), (2, .int p2)]) hX dX3_spells_32 rfl (by decide) (fun _ => rfl) h (fun x3_3 h => ?_)
      refine g_sub [1, 2, 3, 0] rfl (sX3_spells_L33 hX hR (fun σ_7 x3_8 h => ?_) FU _ _ h)
      refine g_iconst hX (1) dX3_spells_71 (by decide) ?_
      exact g_retz hR (by decide) h dX3_spells_72
    · refine g_iconst hX (0) dX3_spells_29 (by decide) ?_
      exact g_retz hR (by decide) h dX3_spells_30
set_option maxRecDepth 20000 in
set_option maxHeartbeats 4000000 in
theorem kX3_spells (l : Launch) {a : Nat → Nat} {D : va_G} {tI tJ tB tS : ClassId} {kK kV : Nat → Nat} {σ τ : St}  {w1 : Nat} {p2 : Int32} {x : Int32} (h : fX3_spells σ w1 p2 = some (τ, x)) : CtI l yX3_spells cX3_spells 4 (some .boolean) 4 85 (vC a D tI tJ tB tS kK kV) σ [.ref (a 18), .ref (kK w1), .int p2] τ x := g_metZ (by decide) (Nat.le_of_ble_eq_true rfl) rfl (fun X _ hX hR => sX3_spells (r := (τ, x)) hX hR h)
def fX3_accept (σ : St) (w1 : Nat) : Option (St × Int32) :=
  (if (σ.1 18 5) = (1 : Int32) then chk (decide (w1 < 15)) (cl (fJ0_length_8abf5 σ w1) fun (σ_1 : St) (t_2 : Int32) => (if (σ.1 18 6) = t_2 then cl (fX3_spells σ_1 w1 (0 : Int32)) fun (σ_3 : St) (t_4 : Int32) => (if t_4 = 0 then some (σ_3, (0 : Int32)) else cl (fX3_advance σ_3 ) fun (σ_5 : St) (t_6 : Unit) => some (σ_5, (1 : Int32))) else some (σ_1, (0 : Int32)))) else some (σ, (0 : Int32)))
set_option maxRecDepth 20000 in
set_option maxHeartbeats 4000000 in
theorem sX3_accept {X : CX} {a : Nat → Nat} {D : va_G} {tI tJ tB tS : ClassId} {kK kV : Nat → Nat} {σ : St}  {w1 : Nat} {r : St × Int32} (hX : OKX X (vC a D tI tJ tB tS kK kV) cX3_accept 2 RX3 5 108) (hR : (r.2 = 0 ∨ r.2 = 1) → ∀ (pc : Nat) (lv : List (Nat × Value)), decode cX3_accept pc = .ok (.ireturn, 1) → G X (vC a D tI tJ tB tS kK kV) 2 r.1 pc lv [.int r.2])  (h : fX3_accept σ w1 = some r) : G X (vC a D tI tJ tB tS kK kV) 2 σ 0 [(0, .ref (a 18)), (1, .ref (kK w1))] [] := by
  unfold fX3_accept at h
  refine g_aload_n hX 0 dX3_accept_0 rfl rfl ?_
  refine gCX3_40_18 hX dX3_accept_1 ?_
  refine g_iconst hX (1) dX3_accept_4 (by decide) ?_
  refine g_icmp_ne hX 28 dX3_accept_5 (by decide) h (fun h => ?_) (fun h => ?_)
  · refine g_iconst hX (0) dX3_accept_28 (by decide) ?_
    exact g_retz hR (by decide) h dX3_accept_29
  · refine g_aload_n hX 0 dX3_accept_8 rfl rfl ?_
    refine gCX3_65_18 hX dX3_accept_9 ?_
    refine g_aload_n hX 1 dX3_accept_12 rfl rfl ?_
    obtain ⟨hlt, h⟩ := chk_inv h
    refine g_callZI (As := []) (rest := [.int (σ.1 18 6)]) hX w1 (of_decide_eq_true hlt) miJ0_length_8abf5 mvJ0_length_8abf5 lkX3_149 (by decide) rfl (Nat.le_of_ble_eq_true rfl) rfl dX3_accept_13 (fun τ x ho => kJ0_length_8abf5 _ ho) h (fun σ_1 t_2 h => ?_)
    refine g_icmp_ne hX 28 dX3_accept_16 (by decide) h (fun h => ?_) (fun h => ?_)
    · refine g_iconst hX (0) dX3_accept_28 (by decide) ?_
      exact g_retz hR (by decide) h dX3_accept_29
    · refine g_aload_n hX 0 dX3_accept_19 rfl rfl ?_
      refine g_aload_n hX 1 dX3_accept_20 rfl rfl ?_
      refine g_iconst hX (0) dX3_accept_21 (by decide) ?_
      refine g_callVI (As := [.ref (kK w1), .int (0 : Int32)]) (rest := []) hX 18 (Nat.le_of_ble_eq_true rfl) rfl rfl miX3_spells mvX3_spells lkX3_153 (by decide) rfl (Nat.le_of_ble_eq_true rfl) rfl dX3_accept_22 (fun τ x ho => kX3_spells _ ho) h (fun σ_3 t_4 h => ?_)
      refine g_if_ne hX 30 dX3_accept_25 (by decide) h (fun h => ?_) (fun h => ?_)
      · refine g_aload_n hX 0 dX3_accept_30 rfl rfl ?_
        refine g_callVV (As := []) (rest := []) hX 18 (Nat.le_of_ble_eq_true rfl) rfl rfl miX3_advance mvX3_advance lkX3_37 (by decide) rfl (Nat.le_of_ble_eq_true rfl) rfl dX3_accept_31 (fun τ x ho => kX3_advance _ ho) h (fun σ_5 t_6 h => ?_)
        refine g_iconst hX (1) dX3_accept_34 (by decide) ?_
        exact g_retz hR (by decide) h dX3_accept_35
      · refine g_iconst hX (0) dX3_accept_28 (by decide) ?_
        exact g_retz hR (by decide) h dX3_accept_29
set_option maxRecDepth 20000 in
set_option maxHeartbeats 4000000 in
theorem kX3_accept (l : Launch) {a : Nat → Nat} {D : va_G} {tI tJ tB tS : ClassId} {kK kV : Nat → Nat} {σ τ : St}  {w1 : Nat} {x : Int32} (h : fX3_accept σ w1 = some (τ, x)) : CtI l yX3_accept cX3_accept 2 (some .boolean) 5 108 (vC a D tI tJ tB tS kK kV) σ [.ref (a 18), .ref (kK w1)] τ x := g_metZ (by decide) (Nat.le_of_ble_eq_true rfl) rfl (fun X _ hX hR => sX3_accept (r := (τ, x)) hX hR h)
def fX3_number (σ : St) (p1 : Int32) (p2 : Int32) : Option (St × Int32) :=
  (if (σ.1 18 5) = (2 : Int32) then (if (4 : Int32) < (σ.1 18 6) then some (σ, (-1 : Int32)) else (if (σ.1 18 7) < p1 then some (σ, (-1 : Int32)) else (if (σ.1 18 7) ≤ p2 then bnd (σ.1 18 7) fun (x3_1 : Int32) => cl (fX3_advance σ ) fun (σ_2 : St) (t_3 : Unit) => some (σ_2, x3_1) else some (σ, (-1 : Int32))))) else some (σ, (-1 : Int32)))
set_option maxRecDepth 20000 in
set_option maxHeartbeats 4000000 in
theorem sX3_number {X : CX} {a : Nat → Nat} {D : va_G} {tI tJ tB tS : ClassId} {kK kV : Nat → Nat} {σ : St}  {p1 : Int32} {p2 : Int32} {r : St × Int32} (hX : OKX X (vC a D tI tJ tB tS kK kV) cX3_number 4 RX3 2 41) (hR : ∀ (pc : Nat) (lv : List (Nat × Value)), decode cX3_number pc = .ok (.ireturn, 1) → G X (vC a D tI tJ tB tS kK kV) 4 r.1 pc lv [.int r.2])  (h : fX3_number σ p1 p2 = some r) : G X (vC a D tI tJ tB tS kK kV) 4 σ 0 [(0, .ref (a 18)), (1, .int p1), (2, .int p2)] [] := by
  unfold fX3_number at h
  refine g_aload_n hX 0 dX3_number_0 rfl rfl ?_
  refine gCX3_40_18 hX dX3_number_1 ?_
  refine g_iconst hX (2) dX3_number_4 (by decide) ?_
  refine g_icmp_ne hX 32 dX3_number_5 (by decide) h (fun h => ?_) (fun h => ?_)
  · refine g_iconst hX (-1) dX3_number_32 (by decide) ?_
    exact g_reti hR h dX3_number_33
  · refine g_aload_n hX 0 dX3_number_8 rfl rfl ?_
    refine gCX3_65_18 hX dX3_number_9 ?_
    refine g_iconst hX (4) dX3_number_12 (by decide) ?_
    refine g_icmp_gt hX 32 dX3_number_13 (by decide) h (fun h => ?_) (fun h => ?_)
    · refine g_iconst hX (-1) dX3_number_32 (by decide) ?_
      exact g_reti hR h dX3_number_33
    · refine g_aload_n hX 0 dX3_number_16 rfl rfl ?_
      refine gCX3_56_18 hX dX3_number_17 ?_
      refine g_iload_n hX 1 dX3_number_20 rfl rfl ?_
      refine g_icmp_lt hX 32 dX3_number_21 (by decide) h (fun h => ?_) (fun h => ?_)
      · refine g_iconst hX (-1) dX3_number_32 (by decide) ?_
        exact g_reti hR h dX3_number_33
      · refine g_aload_n hX 0 dX3_number_24 rfl rfl ?_
        refine gCX3_56_18 hX dX3_number_25 ?_
        refine g_iload_n hX 2 dX3_number_28 rfl rfl ?_
        refine g_icmp_le hX 34 dX3_number_29 (by decide) h (fun h => ?_) (fun h => ?_)
        · refine g_aload_n hX 0 dX3_number_34 rfl rfl ?_
          refine gCX3_56_18 hX dX3_number_35 ?_
          refine g_istore_n (lv' := fun x3_1 => [(3, .int x3_1), (0, .ref (a 18)), (1, .int p1), (2, .int p2)]) hX dX3_number_38 rfl (by decide) (fun _ => rfl) h (fun x3_1 h => ?_)
          refine g_aload_n hX 1 dX3_number_39 rfl rfl ?_
          refine g_callVV (As := []) (rest := []) hX 18 (Nat.le_of_ble_eq_true rfl) rfl rfl miX3_advance mvX3_advance lkX3_37 (by decide) rfl (Nat.le_of_ble_eq_true rfl) rfl dX3_number_40 (fun τ x ho => kX3_advance _ ho) h (fun σ_2 t_3 h => ?_)
          refine g_iload_n hX 0 dX3_number_43 rfl rfl ?_
          exact g_reti hR h dX3_number_44
        · refine g_iconst hX (-1) dX3_number_32 (by decide) ?_
          exact g_reti hR h dX3_number_33
set_option maxRecDepth 20000 in
set_option maxHeartbeats 4000000 in
theorem kX3_number (l : Launch) {a : Nat → Nat} {D : va_G} {tI tJ tB tS : ClassId} {kK kV : Nat → Nat} {σ τ : St}  {p1 : Int32} {p2 : Int32} {x : Int32} (h : fX3_number σ p1 p2 = some (τ, x)) : CtI l yX3_number cX3_number 4 (some .int) 2 41 (vC a D tI tJ tB tS kK kV) σ [.ref (a 18), .int p1, .int p2] τ x := g_metI (by decide) (Nat.le_of_ble_eq_true rfl) rfl (fun X _ hX hR => sX3_number (r := (τ, x)) hX hR h)
def fX6_addSort_i10 (σ : St) (p1 : Int32) (p2 : Int32) (p3 : Int32) (p4 : Int32) : Option (St × Unit) :=
  (if (12 : Int32) ≤ (σ.1 10 1) then some (σ, ()) else chk (inb (σ.1 10 1) 12) (bnd (sI σ 13 (ix (σ.1 10 1)) p1) fun (σ_1 : St) => chk (inb (σ_1.1 10 1) 12) (bnd (sI σ_1 14 (ix (σ_1.1 10 1)) p2) fun (σ_2 : St) => chk (inb (σ_2.1 10 1) 12) (bnd (sI σ_2 15 (ix (σ_2.1 10 1)) p3) fun (σ_3 : St) => chk (inb (σ_3.1 10 1) 12) (bnd (sI σ_3 16 (ix (σ_3.1 10 1)) p4) fun (σ_4 : St) => bnd (sI σ_4 10 1 ((σ_4.1 10 1) + (1 : Int32))) fun (σ_5 : St) => some (σ_5, ()))))))
set_option maxRecDepth 20000 in
set_option maxHeartbeats 4000000 in
theorem sX6_addSort_i10 {X : CX} {a : Nat → Nat} {D : va_G} {tI tJ tB tS : ClassId} {kK kV : Nat → Nat} {σ : St}  {p1 : Int32} {p2 : Int32} {p3 : Int32} {p4 : Int32} {r : St × Unit} (hX : OKX X (vC a D tI tJ tB tS kK kV) cX6_addSort 5 RX6 0 0) (hR : ∀ (pc : Nat) (lv : List (Nat × Value)), decode cX6_addSort pc = .ok (.return_, 1) → G X (vC a D tI tJ tB tS kK kV) 5 r.1 pc lv [])  (h : fX6_addSort_i10 σ p1 p2 p3 p4 = some r) : G X (vC a D tI tJ tB tS kK kV) 5 σ 0 [(0, .ref (a 10)), (1, .int p1), (2, .int p2), (3, .int p3), (4, .int p4)] [] := by
  unfold fX6_addSort_i10 at h
  refine g_aload_n hX 0 dX6_addSort_0 rfl rfl ?_
  refine gCX6_41_10 hX dX6_addSort_1 ?_
  refine g_bipush hX (12) dX6_addSort_4 (by decide) ?_
  refine g_icmp_ge hX 60 dX6_addSort_6 (by decide) h (fun h => ?_) (fun h => ?_)
  · exact g_retv hR h dX6_addSort_60
  · refine g_aload_n hX 0 dX6_addSort_9 rfl rfl ?_
    refine gCX6_19_10 hX dX6_addSort_10 ?_
    refine g_aload_n hX 0 dX6_addSort_13 rfl rfl ?_
    refine gCX6_41_10 hX dX6_addSort_14 ?_
    refine g_iload_n hX 1 dX6_addSort_17 rfl rfl ?_
    refine asC_13 hX dX6_addSort_18 h (fun σ_1 h => ?_)
    refine g_aload_n hX 0 dX6_addSort_19 rfl rfl ?_
    refine gCX6_22_10 hX dX6_addSort_20 ?_
    refine g_aload_n hX 0 dX6_addSort_23 rfl rfl ?_
    refine gCX6_41_10 hX dX6_addSort_24 ?_
    refine g_iload_n hX 2 dX6_addSort_27 rfl rfl ?_
    refine asC_14 hX dX6_addSort_28 h (fun σ_2 h => ?_)
    refine g_aload_n hX 0 dX6_addSort_29 rfl rfl ?_
    refine gCX6_25_10 hX dX6_addSort_30 ?_
    refine g_aload_n hX 0 dX6_addSort_33 rfl rfl ?_
    refine gCX6_41_10 hX dX6_addSort_34 ?_
    refine g_iload_n hX 3 dX6_addSort_37 rfl rfl ?_
    refine asC_15 hX dX6_addSort_38 h (fun σ_3 h => ?_)
    refine g_aload_n hX 0 dX6_addSort_39 rfl rfl ?_
    refine gCX6_28_10 hX dX6_addSort_40 ?_
    refine g_aload_n hX 0 dX6_addSort_43 rfl rfl ?_
    refine gCX6_41_10 hX dX6_addSort_44 ?_
    refine g_iload hX 4 dX6_addSort_47 rfl ?_
    refine asC_16 hX dX6_addSort_49 h (fun σ_4 h => ?_)
    refine g_aload_n hX 0 dX6_addSort_50 rfl rfl ?_
    refine g_dup hX dX6_addSort_51 rfl ?_
    refine gCX6_41_10 hX dX6_addSort_52 ?_
    refine g_iconst hX (1) dX6_addSort_55 (by decide) ?_
    refine g_iadd hX dX6_addSort_56 ?_
    refine pCX6_41_10 hX dX6_addSort_57 h (fun σ_5 h => ?_)
    exact g_retv hR h dX6_addSort_60
set_option maxRecDepth 20000 in
set_option maxHeartbeats 4000000 in
theorem kX6_addSort_i10 (l : Launch) {a : Nat → Nat} {D : va_G} {tI tJ tB tS : ClassId} {kK kV : Nat → Nat} {σ τ : St}  {p1 : Int32} {p2 : Int32} {p3 : Int32} {p4 : Int32} {x : Unit} (h : fX6_addSort_i10 σ p1 p2 p3 p4 = some (τ, x)) : CtV l yX6_addSort cX6_addSort 5 none 0 0 (vC a D tI tJ tB tS kK kV) σ [.ref (a 10), .int p1, .int p2, .int p3, .int p4] τ x := g_metV (by decide) (Nat.le_of_ble_eq_true rfl) rfl (fun X _ hX hR => sX6_addSort_i10 (r := (τ, x)) hX hR h)
def fX3_ended (σ : St)  : Option (St × Int32) :=
  (if (σ.1 18 5) = (3 : Int32) then cl (fX3_advance σ ) fun (σ_1 : St) (t_2 : Unit) => some (σ_1, (1 : Int32)) else some (σ, (0 : Int32)))
set_option maxRecDepth 20000 in
set_option maxHeartbeats 4000000 in
theorem sX3_ended {X : CX} {a : Nat → Nat} {D : va_G} {tI tJ tB tS : ClassId} {kK kV : Nat → Nat} {σ : St}   {r : St × Int32} (hX : OKX X (vC a D tI tJ tB tS kK kV) cX3_ended 1 RX3 2 41) (hR : (r.2 = 0 ∨ r.2 = 1) → ∀ (pc : Nat) (lv : List (Nat × Value)), decode cX3_ended pc = .ok (.ireturn, 1) → G X (vC a D tI tJ tB tS kK kV) 1 r.1 pc lv [.int r.2])  (h : fX3_ended σ  = some r) : G X (vC a D tI tJ tB tS kK kV) 1 σ 0 [(0, .ref (a 18))] [] := by
  unfold fX3_ended at h
  refine g_aload_n hX 0 dX3_ended_0 rfl rfl ?_
  refine gCX3_40_18 hX dX3_ended_1 ?_
  refine g_iconst hX (3) dX3_ended_4 (by decide) ?_
  refine g_icmp_eq hX 10 dX3_ended_5 (by decide) h (fun h => ?_) (fun h => ?_)
  · refine g_aload_n hX 0 dX3_ended_10 rfl rfl ?_
    refine g_callVV (As := []) (rest := []) hX 18 (Nat.le_of_ble_eq_true rfl) rfl rfl miX3_advance mvX3_advance lkX3_37 (by decide) rfl (Nat.le_of_ble_eq_true rfl) rfl dX3_ended_11 (fun τ x ho => kX3_advance _ ho) h (fun σ_1 t_2 h => ?_)
    refine g_iconst hX (1) dX3_ended_14 (by decide) ?_
    exact g_retz hR (by decide) h dX3_ended_15
  · refine g_iconst hX (0) dX3_ended_8 (by decide) ?_
    exact g_retz hR (by decide) h dX3_ended_9
set_option maxRecDepth 20000 in
set_option maxHeartbeats 4000000 in
theorem kX3_ended (l : Launch) {a : Nat → Nat} {D : va_G} {tI tJ tB tS : ClassId} {kK kV : Nat → Nat} {σ τ : St}   {x : Int32} (h : fX3_ended σ  = some (τ, x)) : CtI l yX3_ended cX3_ended 1 (some .boolean) 2 41 (vC a D tI tJ tB tS kK kV) σ [.ref (a 18)] τ x := g_metZ (by decide) (Nat.le_of_ble_eq_true rfl) rfl (fun X _ hX hR => sX3_ended (r := (τ, x)) hX hR h)
def fX3_knownBaker_L21  (kx21 : St → Int32 → Option (St × Int32)) : Nat → St → Int32 → Option (St × Int32)
  | 0, _, _ => none
  | n21 + 1, σ, c1_21 =>
    (if (σ.1 10 0) ≤ c1_21 then kx21 σ c1_21 else chk (inb c1_21 4) ((if (lg_cmp (σ.2 11 (ix c1_21)) (σ.2 18 8)) = 0 then some (σ, c1_21) else bnd (c1_21 + (1 : Int32)) fun (x1_2 : Int32) => fX3_knownBaker_L21 kx21 n21 σ x1_2)))
def fX3_knownBaker (σ : St)  : Option (St × Int32) :=
  (if (σ.1 18 5) = (1 : Int32) then (if (σ.1 18 6) ≤ (8 : Int32) then bnd (0 : Int32) fun (x1_1 : Int32) => fX3_knownBaker_L21  (fun (σ_3 : St) (x1_4 : Int32) => some (σ_3, (-1 : Int32))) FU σ x1_1 else some (σ, (-1 : Int32))) else some (σ, (-1 : Int32)))
set_option maxRecDepth 20000 in
set_option maxHeartbeats 4000000 in
theorem sX3_knownBaker_L21 {X : CX} {a : Nat → Nat} {D : va_G} {tI tJ tB tS : ClassId} {kK kV : Nat → Nat}  {kx21 : St → Int32 → Option (St × Int32)} {r : St × Int32} (hX : OKX X (vC a D tI tJ tB tS kK kV) cX3_knownBaker 2 RX3 0 0) (hR : ∀ (pc : Nat) (lv : List (Nat × Value)), decode cX3_knownBaker pc = .ok (.ireturn, 1) → G X (vC a D tI tJ tB tS kK kV) 2 r.1 pc lv [.int r.2]) (hkx21 : ∀ (σ : St) (e1_21 : Int32), kx21 σ e1_21 = some r → G X (vC a D tI tJ tB tS kK kV) 2 σ 57 [] []) : ∀ (n : Nat) (σ : St) (c1_21 : Int32), fX3_knownBaker_L21 kx21 n σ c1_21 = some r → G X (vC a D tI tJ tB tS kK kV) 2 σ 21 [(0, .ref (a 18)), (1, .int c1_21)] [] := by
  intro n
  induction n with
  | zero => intro σ c1_21 h; rw [fX3_knownBaker_L21] at h; exact absurd h (by simp)
  | succ n21 ih21 =>
    intro σ c1_21 h
    rw [fX3_knownBaker_L21] at h
    refine g_iload_n hX 1 dX3_knownBaker_21 rfl rfl ?_
    refine g_aload_n hX 0 dX3_knownBaker_22 rfl rfl ?_
    refine gCX3_15_18 hX dX3_knownBaker_23 ?_
    refine gCX3_53_10 hX dX3_knownBaker_26 ?_
    refine g_icmp_ge hX 57 dX3_knownBaker_29 (by decide) h (fun h => ?_) (fun h => ?_)
    · exact g_sub [] rfl (hkx21 _ _ h)
    · refine g_aload_n hX 0 dX3_knownBaker_32 rfl rfl ?_
      refine gCX3_15_18 hX dX3_knownBaker_33 ?_
      refine gCX3_166_10 hX dX3_knownBaker_36 ?_
      refine g_iload_n hX 1 dX3_knownBaker_39 rfl rfl ?_
      refine alC_11 hX dX3_knownBaker_40 h (fun h => ?_)
      refine g_aload_n hX 0 dX3_knownBaker_41 rfl rfl ?_
      refine gCX3_59_18 hX dX3_knownBaker_42 ?_
      refine g_lcmp hX dX3_knownBaker_45 ?_
      refine g_if_ne hX 51 dX3_knownBaker_46 (by decide) h (fun h => ?_) (fun h => ?_)
      · refine g_iinc (y := (1)) (lv' := fun x1_2 => [(1, .int x1_2), (0, .ref (a 18))]) hX 1 dX3_knownBaker_51 rfl (by decide) (by decide) (fun _ => rfl) h (fun x1_2 h => ?_)
        refine g_goto hX 21 dX3_knownBaker_54 (by decide) ?_
        exact g_sub [1, 0] rfl (ih21 _ _ h)
      · refine g_iload_n hX 1 dX3_knownBaker_49 rfl rfl ?_
        exact g_reti hR h dX3_knownBaker_50
set_option maxRecDepth 20000 in
set_option maxHeartbeats 4000000 in
theorem sX3_knownBaker {X : CX} {a : Nat → Nat} {D : va_G} {tI tJ tB tS : ClassId} {kK kV : Nat → Nat} {σ : St}   {r : St × Int32} (hX : OKX X (vC a D tI tJ tB tS kK kV) cX3_knownBaker 2 RX3 0 0) (hR : ∀ (pc : Nat) (lv : List (Nat × Value)), decode cX3_knownBaker pc = .ok (.ireturn, 1) → G X (vC a D tI tJ tB tS kK kV) 2 r.1 pc lv [.int r.2])  (h : fX3_knownBaker σ  = some r) : G X (vC a D tI tJ tB tS kK kV) 2 σ 0 [(0, .ref (a 18))] [] := by
  unfold fX3_knownBaker at h
  refine g_aload_n hX 0 dX3_knownBaker_0 rfl rfl ?_
  refine gCX3_40_18 hX dX3_knownBaker_1 ?_
  refine g_iconst hX (1) dX3_knownBaker_4 (by decide) ?_
  refine g_icmp_ne hX 17 dX3_knownBaker_5 (by decide) h (fun h => ?_) (fun h => ?_)
  · refine g_iconst hX (-1) dX3_knownBaker_17 (by decide) ?_
    exact g_reti hR h dX3_knownBaker_18
  · refine g_aload_n hX 0 dX3_knownBaker_8 rfl rfl ?_
    refine gCX3_65_18 hX dX3_knownBaker_9 ?_
    refine g_bipush hX (8) dX3_knownBaker_12 (by decide) ?_
    refine g_icmp_le hX 19 dX3_knownBaker_14 (by decide) h (fun h => ?_) (fun h => ?_)
    · refine g_iconst hX (0) dX3_knownBaker_19 (by decide) ?_
      refine g_istore_n (lv' := fun x1_1 => [(1, .int x1_1), (0, .ref (a 18))]) hX dX3_knownBaker_20 rfl (by decide) (fun _ => rfl) h (fun x1_1 h => ?_)
      refine g_sub [1, 0] rfl (sX3_knownBaker_L21 hX hR (fun σ_3 x1_4 h => ?_) FU _ _ h)
      refine g_iconst hX (-1) dX3_knownBaker_57 (by decide) ?_
      exact g_reti hR h dX3_knownBaker_58
    · refine g_iconst hX (-1) dX3_knownBaker_17 (by decide) ?_
      exact g_reti hR h dX3_knownBaker_18
set_option maxRecDepth 20000 in
set_option maxHeartbeats 4000000 in
theorem kX3_knownBaker (l : Launch) {a : Nat → Nat} {D : va_G} {tI tJ tB tS : ClassId} {kK kV : Nat → Nat} {σ τ : St}   {x : Int32} (h : fX3_knownBaker σ  = some (τ, x)) : CtI l yX3_knownBaker cX3_knownBaker 2 (some .int) 0 0 (vC a D tI tJ tB tS kK kV) σ [.ref (a 18)] τ x := g_metI (by decide) (Nat.le_of_ble_eq_true rfl) rfl (fun X _ hX hR => sX3_knownBaker (r := (τ, x)) hX hR h)
def fX3_asked_L4  (kx4 : St → Int32 → Int32 → Option (St × Int32)) : Nat → St → Int32 → Int32 → Option (St × Int32)
  | 0, _, _, _ => none
  | n4 + 1, σ, c1_4, c2_4 =>
    (if (4 : Int32) < c2_4 then kx4 σ c1_4 c2_4 else cl (fX3_knownBaker σ ) fun (σ_3 : St) (t_4 : Int32) => bnd t_4 fun (x3_5 : Int32) => (if x3_5 = (-1 : Int32) then some (σ_3, (-1 : Int32)) else (if ((c1_4 >>> (x3_5 &&& 31)) &&& (1 : Int32)) = 0 then bnd (c1_4 ||| ((1 : Int32) <<< (x3_5 &&& 31))) fun (x1_6 : Int32) => cl (fX3_advance σ_3 ) fun (σ_7 : St) (t_8 : Unit) => cl (fX3_accept σ_7 10) fun (σ_9 : St) (t_10 : Int32) => (if t_10 = 0 then some (σ_9, x1_6) else bnd (c2_4 + (1 : Int32)) fun (x2_11 : Int32) => fX3_asked_L4 kx4 n4 σ_9 x1_6 x2_11) else some (σ_3, (-1 : Int32)))))
def fX3_asked (σ : St)  : Option (St × Int32) :=
  bnd (0 : Int32) fun (x1_1 : Int32) => bnd (0 : Int32) fun (x2_2 : Int32) => fX3_asked_L4  (fun (σ_12 : St) (x1_13 : Int32) (x2_14 : Int32) => some (σ_12, (-1 : Int32))) FU σ x1_1 x2_2
set_option maxRecDepth 20000 in
set_option maxHeartbeats 4000000 in
theorem sX3_asked_L4 {X : CX} {a : Nat → Nat} {D : va_G} {tI tJ tB tS : ClassId} {kK kV : Nat → Nat}  {kx4 : St → Int32 → Int32 → Option (St × Int32)} {r : St × Int32} (hX : OKX X (vC a D tI tJ tB tS kK kV) cX3_asked 4 RX3 6 129) (hR : ∀ (pc : Nat) (lv : List (Nat × Value)), decode cX3_asked pc = .ok (.ireturn, 1) → G X (vC a D tI tJ tB tS kK kV) 4 r.1 pc lv [.int r.2]) (hkx4 : ∀ (σ : St) (e1_4 : Int32) (e2_4 : Int32), kx4 σ e1_4 e2_4 = some r → G X (vC a D tI tJ tB tS kK kV) 4 σ 56 [] []) : ∀ (n : Nat) (σ : St) (c1_4 : Int32) (c2_4 : Int32), fX3_asked_L4 kx4 n σ c1_4 c2_4 = some r → G X (vC a D tI tJ tB tS kK kV) 4 σ 4 [(0, .ref (a 18)), (1, .int c1_4), (2, .int c2_4)] [] := by
  intro n
  induction n with
  | zero => intro σ c1_4 c2_4 h; rw [fX3_asked_L4] at h; exact absurd h (by simp)
  | succ n4 ih4 =>
    intro σ c1_4 c2_4 h
    rw [fX3_asked_L4] at h
    refine g_iload_n hX 2 dX3_asked_4 rfl rfl ?_
    refine g_iconst hX (4) dX3_asked_5 (by decide) ?_
    refine g_icmp_gt hX 56 dX3_asked_6 (by decide) h (fun h => ?_) (fun h => ?_)
    · exact g_sub [] rfl (hkx4 _ _ _ h)
    · refine g_aload_n hX 0 dX3_asked_9 rfl rfl ?_
      refine g_callVI (As := []) (rest := []) hX 18 (Nat.le_of_ble_eq_true rfl) rfl rfl miX3_knownBaker mvX3_knownBaker lkX3_111 (by decide) rfl (Nat.le_of_ble_eq_true rfl) rfl dX3_asked_10 (fun τ x ho => kX3_knownBaker _ ho) h (fun σ_3 t_4 h => ?_)
      refine g_istore_n (lv' := fun x3_5 => [(3, .int x3_5), (0, .ref (a 18)), (1, .int c1_4), (2, .int c2_4)]) hX dX3_asked_13 rfl (by decide) (fun _ => rfl) h (fun x3_5 h => ?_)
      refine g_iload_n hX 0 dX3_asked_14 rfl rfl ?_
      refine g_iconst hX (-1) dX3_asked_15 (by decide) ?_
      refine g_icmp_eq hX 27 dX3_asked_16 (by decide) h (fun h => ?_) (fun h => ?_)
      · refine g_iconst hX (-1) dX3_asked_27 (by decide) ?_
        exact g_reti hR h dX3_asked_28
      · refine g_iload_n hX 2 dX3_asked_19 rfl rfl ?_
        refine g_iload_n hX 0 dX3_asked_20 rfl rfl ?_
        refine g_ishr hX dX3_asked_21 ?_
        refine g_iconst hX (1) dX3_asked_22 (by decide) ?_
        refine g_iand hX dX3_asked_23 ?_
        refine g_if_eq hX 29 dX3_asked_24 (by decide) h (fun h => ?_) (fun h => ?_)
        · refine g_iload_n hX 2 dX3_asked_29 rfl rfl ?_
          refine g_iconst hX (1) dX3_asked_30 (by decide) ?_
          refine g_iload_n hX 0 dX3_asked_31 rfl rfl ?_
          refine g_ishl hX dX3_asked_32 ?_
          refine g_ior hX dX3_asked_33 ?_
          refine g_istore_n (lv' := fun x1_6 => [(1, .int x1_6), (3, .int x3_5), (0, .ref (a 18)), (2, .int c2_4)]) hX dX3_asked_34 rfl (by decide) (fun _ => rfl) h (fun x1_6 h => ?_)
          refine g_aload_n hX 2 dX3_asked_35 rfl rfl ?_
          refine g_callVV (As := []) (rest := []) hX 18 (Nat.le_of_ble_eq_true rfl) rfl rfl miX3_advance mvX3_advance lkX3_37 (by decide) rfl (Nat.le_of_ble_eq_true rfl) rfl dX3_asked_36 (fun τ x ho => kX3_advance _ ho) h (fun σ_7 t_8 h => ?_)
          refine g_aload_n hX 2 dX3_asked_39 rfl rfl ?_
          refine g_ldcS hX 10 (Nat.le_of_ble_eq_true rfl) rfl dX3_asked_40 ?_
          refine g_callVI (As := [.ref (kK 10)]) (rest := []) hX 18 (Nat.le_of_ble_eq_true rfl) rfl rfl miX3_accept mvX3_accept lkX3_70 (by decide) rfl (Nat.le_of_ble_eq_true rfl) rfl dX3_asked_42 (fun τ x ho => kX3_accept _ ho) h (fun σ_9 t_10 h => ?_)
          refine g_if_ne hX 50 dX3_asked_45 (by decide) h (fun h => ?_) (fun h => ?_)
          · refine g_iinc (y := (1)) (lv' := fun x2_11 => [(2, .int x2_11), (1, .int x1_6), (3, .int x3_5), (0, .ref (a 18))]) hX 3 dX3_asked_50 rfl (by decide) (by decide) (fun _ => rfl) h (fun x2_11 h => ?_)
            refine g_goto hX 4 dX3_asked_53 (by decide) ?_
            exact g_sub [3, 1, 0] rfl (ih4 _ _ _ h)
          · refine g_iload_n hX 0 dX3_asked_48 rfl rfl ?_
            exact g_reti hR h dX3_asked_49
        · refine g_iconst hX (-1) dX3_asked_27 (by decide) ?_
          exact g_reti hR h dX3_asked_28
set_option maxRecDepth 20000 in
set_option maxHeartbeats 4000000 in
theorem sX3_asked {X : CX} {a : Nat → Nat} {D : va_G} {tI tJ tB tS : ClassId} {kK kV : Nat → Nat} {σ : St}   {r : St × Int32} (hX : OKX X (vC a D tI tJ tB tS kK kV) cX3_asked 4 RX3 6 129) (hR : ∀ (pc : Nat) (lv : List (Nat × Value)), decode cX3_asked pc = .ok (.ireturn, 1) → G X (vC a D tI tJ tB tS kK kV) 4 r.1 pc lv [.int r.2])  (h : fX3_asked σ  = some r) : G X (vC a D tI tJ tB tS kK kV) 4 σ 0 [(0, .ref (a 18))] [] := by
  unfold fX3_asked at h
  refine g_iconst hX (0) dX3_asked_0 (by decide) ?_
  refine g_istore_n (lv' := fun x1_1 => [(1, .int x1_1), (0, .ref (a 18))]) hX dX3_asked_1 rfl (by decide) (fun _ => rfl) h (fun x1_1 h => ?_)
  refine g_iconst hX (0) dX3_asked_2 (by decide) ?_
  refine g_istore_n (lv' := fun x2_2 => [(2, .int x2_2), (1, .int x1_1), (0, .ref (a 18))]) hX dX3_asked_3 rfl (by decide) (fun _ => rfl) h (fun x2_2 h => ?_)
  refine g_sub [2, 1, 0] rfl (sX3_asked_L4 hX hR (fun σ_12 x1_13 x2_14 h => ?_) FU _ _ _ h)
  refine g_iconst hX (-1) dX3_asked_56 (by decide) ?_
  exact g_reti hR h dX3_asked_57
set_option maxRecDepth 20000 in
set_option maxHeartbeats 4000000 in
theorem kX3_asked (l : Launch) {a : Nat → Nat} {D : va_G} {tI tJ tB tS : ClassId} {kK kV : Nat → Nat} {σ τ : St}   {x : Int32} (h : fX3_asked σ  = some (τ, x)) : CtI l yX3_asked cX3_asked 4 (some .int) 6 129 (vC a D tI tJ tB tS kK kV) σ [.ref (a 18)] τ x := g_metI (by decide) (Nat.le_of_ble_eq_true rfl) rfl (fun X _ hX hR => sX3_asked (r := (τ, x)) hX hR h)
def fX3_sort (σ : St) (p1 : Int32) : Option (St × Int32) :=
  cl (fX3_number σ (1 : Int32) (99 : Int32)) fun (σ_1 : St) (t_2 : Int32) => bnd t_2 fun (x2_3 : Int32) => (if x2_3 = (-1 : Int32) then some (σ_1, (0 : Int32)) else bnd (0 : Int32) fun (x3_4 : Int32) => (jp (fun (σ_5 : St) (x3_6 : Int32)  => (if x3_6 = (-1 : Int32) then some (σ_5, (0 : Int32)) else cl (fX3_accept σ_5 12) fun (σ_7 : St) (t_8 : Int32) => (jp (fun (σ_9 : St)  (t_10 : Int32) => bnd t_10 fun (x4_11 : Int32) => (if x4_11 = (-1 : Int32) then some (σ_9, (0 : Int32)) else cl (fX6_addSort_i10 σ_9 p1 x2_3 x3_6 x4_11) fun (σ_12 : St) (t_13 : Unit) => cl (fX3_ended σ_12 ) fun (σ_14 : St) (t_15 : Int32) => chk (isB t_15) (some (σ_14, t_15)))) fun j97 => (if t_8 = 0 then j97 σ_7 (999 : Int32) else cl (fX3_number σ_7 (0 : Int32) (999 : Int32)) fun (σ_16 : St) (t_17 : Int32) => j97 σ_16 t_17)))) fun j67 => (if p1 = 0 then cl (fX3_accept σ_1 9) fun (σ_25 : St) (t_26 : Int32) => (jp (fun (σ_27 : St)  (t_28 : Int32) => bnd t_28 fun (x3_29 : Int32) => j67 σ_27 x3_29) fun j38 => (if t_26 = 0 then j38 σ_25 (-1 : Int32) else cl (fX3_asked σ_25 ) fun (σ_30 : St) (t_31 : Int32) => j38 σ_30 t_31)) else (if p1 = (1 : Int32) then cl (fX3_accept σ_1 11) fun (σ_18 : St) (t_19 : Int32) => (jp (fun (σ_20 : St)  (t_21 : Int32) => bnd t_21 fun (x3_22 : Int32) => j67 σ_20 x3_22) fun j66 => (if t_19 = 0 then j66 σ_18 (-1 : Int32) else cl (fX3_number σ_18 (1 : Int32) (4 : Int32)) fun (σ_23 : St) (t_24 : Int32) => j66 σ_23 t_24)) else j67 σ_1 x3_4))))
set_option maxRecDepth 20000 in
set_option maxHeartbeats 4000000 in
theorem sX3_sort {X : CX} {a : Nat → Nat} {D : va_G} {tI tJ tB tS : ClassId} {kK kV : Nat → Nat} {σ : St}  {p1 : Int32} {r : St × Int32} (hX : OKX X (vC a D tI tJ tB tS kK kV) cX3_sort 5 RX3 7 152) (hR : (r.2 = 0 ∨ r.2 = 1) → ∀ (pc : Nat) (lv : List (Nat × Value)), decode cX3_sort pc = .ok (.ireturn, 1) → G X (vC a D tI tJ tB tS kK kV) 5 r.1 pc lv [.int r.2])  (h : fX3_sort σ p1 = some r) : G X (vC a D tI tJ tB tS kK kV) 5 σ 0 [(0, .ref (a 18)), (1, .int p1)] [] := by
  unfold fX3_sort at h
  refine g_aload_n hX 0 dX3_sort_0 rfl rfl ?_
  refine g_iconst hX (1) dX3_sort_1 (by decide) ?_
  refine g_bipush hX (99) dX3_sort_2 (by decide) ?_
  refine g_callVI (As := [.int (1 : Int32), .int (99 : Int32)]) (rest := []) hX 18 (Nat.le_of_ble_eq_true rfl) rfl rfl miX3_number mvX3_number lkX3_87 (by decide) rfl (Nat.le_of_ble_eq_true rfl) rfl dX3_sort_4 (fun τ x ho => kX3_number _ ho) h (fun σ_1 t_2 h => ?_)
  refine g_istore_n (lv' := fun x2_3 => [(2, .int x2_3), (0, .ref (a 18)), (1, .int p1)]) hX dX3_sort_7 rfl (by decide) (fun _ => rfl) h (fun x2_3 h => ?_)
  refine g_iload_n hX 0 dX3_sort_8 rfl rfl ?_
  refine g_iconst hX (-1) dX3_sort_9 (by decide) ?_
  refine g_icmp_ne hX 15 dX3_sort_10 (by decide) h (fun h => ?_) (fun h => ?_)
  · refine g_iconst hX (0) dX3_sort_15 (by decide) ?_
    refine g_istore_n (lv' := fun x3_4 => [(3, .int x3_4), (2, .int x2_3), (0, .ref (a 18)), (1, .int p1)]) hX dX3_sort_16 rfl (by decide) (fun _ => rfl) h (fun x3_4 h => ?_)
    refine g_iload_n hX 3 dX3_sort_17 rfl rfl ?_
    refine jp_inv (P := fun f => ∀ (σ_5 : St) (x3_6 : Int32) , f σ_5 x3_6 = some r → G X (vC a D tI tJ tB tS kK kV) 5 σ_5 67 [(2, .int x2_3), (0, .ref (a 18)), (1, .int p1), (3, .int x3_6)] []) h (fun σ_5 x3_6 h => ?_) (fun j67 hj67 h => ?_)
    · refine g_iload_n hX 3 dX3_sort_67 rfl rfl ?_
      refine g_iconst hX (-1) dX3_sort_68 (by decide) ?_
      refine g_icmp_ne hX 74 dX3_sort_69 (by decide) h (fun h => ?_) (fun h => ?_)
      · refine g_aload_n hX 1 dX3_sort_74 rfl rfl ?_
        refine g_ldcS hX 12 (Nat.le_of_ble_eq_true rfl) rfl dX3_sort_75 ?_
        refine g_callVI (As := [.ref (kK 12)]) (rest := []) hX 18 (Nat.le_of_ble_eq_true rfl) rfl rfl miX3_accept mvX3_accept lkX3_70 (by decide) rfl (Nat.le_of_ble_eq_true rfl) rfl dX3_sort_77 (fun τ x ho => kX3_accept _ ho) h (fun σ_7 t_8 h => ?_)
        refine jp_inv (P := fun f => ∀ (σ_9 : St)  (t_10 : Int32), f σ_9 t_10 = some r → G X (vC a D tI tJ tB tS kK kV) 5 σ_9 97 [(2, .int x2_3), (0, .ref (a 18)), (1, .int p1), (3, .int x3_6)] [.int t_10]) h (fun σ_9 t_10 h => ?_) (fun j97 hj97 h => ?_)
        · refine g_istore (lv' := fun x4_11 => [(4, .int x4_11), (2, .int x2_3), (0, .ref (a 18)), (1, .int p1), (3, .int x3_6)]) hX dX3_sort_97 (by decide) (fun _ => rfl) h (fun x4_11 h => ?_)
          refine g_iload hX 0 dX3_sort_99 rfl ?_
          refine g_iconst hX (-1) dX3_sort_101 (by decide) ?_
          refine g_icmp_ne hX 107 dX3_sort_102 (by decide) h (fun h => ?_) (fun h => ?_)
          · refine g_aload_n hX 2 dX3_sort_107 rfl rfl ?_
            refine gCX3_15_18 hX dX3_sort_108 ?_
            refine g_iload_n hX 3 dX3_sort_111 rfl rfl ?_
            refine g_iload_n hX 1 dX3_sort_112 rfl rfl ?_
            refine g_iload_n hX 4 dX3_sort_113 rfl rfl ?_
            refine g_iload hX 0 dX3_sort_114 rfl ?_
            refine g_callNV (As := [.int p1, .int x2_3, .int x3_6, .int x4_11]) (rest := []) hX 10 (Nat.le_of_ble_eq_true rfl) rfl rfl miX6_addSort mvX6_addSort lkX3_143 (by decide) rfl (Nat.le_of_ble_eq_true rfl) rfl dX3_sort_116 (fun τ x ho => kX6_addSort_i10 _ ho) h (fun σ_12 t_13 h => ?_)
            refine g_aload_n hX 2 dX3_sort_119 rfl rfl ?_
            refine g_callVI (As := []) (rest := []) hX 18 (Nat.le_of_ble_eq_true rfl) rfl rfl miX3_ended mvX3_ended lkX3_92 (by decide) rfl (Nat.le_of_ble_eq_true rfl) rfl dX3_sort_120 (fun τ x ho => kX3_ended _ ho) h (fun σ_14 t_15 h => ?_)
            exact g_retzc hR h dX3_sort_123
          · refine g_iconst hX (0) dX3_sort_105 (by decide) ?_
            exact g_retz hR (by decide) h dX3_sort_106
        refine g_if_eq hX 94 dX3_sort_80 (by decide) h (fun h => ?_) (fun h => ?_)
        · refine g_sipush hX (999) dX3_sort_94 (by decide) ?_
          exact g_sub [0, 1, 2, 3] rfl (hj97 _ _ h)
        · refine g_aload_n hX 1 dX3_sort_83 rfl rfl ?_
          refine g_iconst hX (0) dX3_sort_84 (by decide) ?_
          refine g_sipush hX (999) dX3_sort_85 (by decide) ?_
          refine g_callVI (As := [.int (0 : Int32), .int (999 : Int32)]) (rest := []) hX 18 (Nat.le_of_ble_eq_true rfl) rfl rfl miX3_number mvX3_number lkX3_87 (by decide) rfl (Nat.le_of_ble_eq_true rfl) rfl dX3_sort_88 (fun τ x ho => kX3_number _ ho) h (fun σ_16 t_17 h => ?_)
          refine g_goto hX 97 dX3_sort_91 (by decide) ?_
          exact g_sub [0, 1, 2, 3] rfl (hj97 _ _ h)
      · refine g_iconst hX (0) dX3_sort_72 (by decide) ?_
        exact g_retz hR (by decide) h dX3_sort_73
    refine g_if_ne hX 42 dX3_sort_18 (by decide) h (fun h => ?_) (fun h => ?_)
    · refine g_iload_n hX 3 dX3_sort_42 rfl rfl ?_
      refine g_iconst hX (1) dX3_sort_43 (by decide) ?_
      refine g_icmp_ne hX 67 dX3_sort_44 (by decide) h (fun h => ?_) (fun h => ?_)
      · exact g_sub [1, 2, 3, 0] rfl (hj67 _ _ h)
      · refine g_aload_n hX 2 dX3_sort_47 rfl rfl ?_
        refine g_ldcS hX 11 (Nat.le_of_ble_eq_true rfl) rfl dX3_sort_48 ?_
        refine g_callVI (As := [.ref (kK 11)]) (rest := []) hX 18 (Nat.le_of_ble_eq_true rfl) rfl rfl miX3_accept mvX3_accept lkX3_70 (by decide) rfl (Nat.le_of_ble_eq_true rfl) rfl dX3_sort_50 (fun τ x ho => kX3_accept _ ho) h (fun σ_18 t_19 h => ?_)
        refine jp_inv (P := fun f => ∀ (σ_20 : St)  (t_21 : Int32), f σ_20 t_21 = some r → G X (vC a D tI tJ tB tS kK kV) 5 σ_20 66 [(2, .int x2_3), (0, .ref (a 18)), (1, .int p1)] [.int t_21]) h (fun σ_20 t_21 h => ?_) (fun j66 hj66 h => ?_)
        · refine g_istore_n (lv' := fun x3_22 => [(3, .int x3_22), (2, .int x2_3), (0, .ref (a 18)), (1, .int p1)]) hX dX3_sort_66 rfl (by decide) (fun _ => rfl) h (fun x3_22 h => ?_)
          exact g_sub [1, 2, 3, 0] rfl (hj67 _ _ h)
        refine g_if_eq hX 65 dX3_sort_53 (by decide) h (fun h => ?_) (fun h => ?_)
        · refine g_iconst hX (-1) dX3_sort_65 (by decide) ?_
          exact g_sub [1, 2, 3] rfl (hj66 _ _ h)
        · refine g_aload_n hX 2 dX3_sort_56 rfl rfl ?_
          refine g_iconst hX (1) dX3_sort_57 (by decide) ?_
          refine g_iconst hX (4) dX3_sort_58 (by decide) ?_
          refine g_callVI (As := [.int (1 : Int32), .int (4 : Int32)]) (rest := []) hX 18 (Nat.le_of_ble_eq_true rfl) rfl rfl miX3_number mvX3_number lkX3_87 (by decide) rfl (Nat.le_of_ble_eq_true rfl) rfl dX3_sort_59 (fun τ x ho => kX3_number _ ho) h (fun σ_23 t_24 h => ?_)
          refine g_goto hX 66 dX3_sort_62 (by decide) ?_
          exact g_sub [1, 2, 3] rfl (hj66 _ _ h)
    · refine g_aload_n hX 2 dX3_sort_21 rfl rfl ?_
      refine g_ldcS hX 9 (Nat.le_of_ble_eq_true rfl) rfl dX3_sort_22 ?_
      refine g_callVI (As := [.ref (kK 9)]) (rest := []) hX 18 (Nat.le_of_ble_eq_true rfl) rfl rfl miX3_accept mvX3_accept lkX3_70 (by decide) rfl (Nat.le_of_ble_eq_true rfl) rfl dX3_sort_24 (fun τ x ho => kX3_accept _ ho) h (fun σ_25 t_26 h => ?_)
      refine jp_inv (P := fun f => ∀ (σ_27 : St)  (t_28 : Int32), f σ_27 t_28 = some r → G X (vC a D tI tJ tB tS kK kV) 5 σ_27 38 [(2, .int x2_3), (0, .ref (a 18)), (1, .int p1)] [.int t_28]) h (fun σ_27 t_28 h => ?_) (fun j38 hj38 h => ?_)
      · refine g_istore_n (lv' := fun x3_29 => [(3, .int x3_29), (2, .int x2_3), (0, .ref (a 18)), (1, .int p1)]) hX dX3_sort_38 rfl (by decide) (fun _ => rfl) h (fun x3_29 h => ?_)
        refine g_goto hX 67 dX3_sort_39 (by decide) ?_
        exact g_sub [1, 2, 3, 0] rfl (hj67 _ _ h)
      refine g_if_eq hX 37 dX3_sort_27 (by decide) h (fun h => ?_) (fun h => ?_)
      · refine g_iconst hX (-1) dX3_sort_37 (by decide) ?_
        exact g_sub [1, 2, 3] rfl (hj38 _ _ h)
      · refine g_aload_n hX 2 dX3_sort_30 rfl rfl ?_
        refine g_callVI (As := []) (rest := []) hX 18 (Nat.le_of_ble_eq_true rfl) rfl rfl miX3_asked mvX3_asked lkX3_136 (by decide) rfl (Nat.le_of_ble_eq_true rfl) rfl dX3_sort_31 (fun τ x ho => kX3_asked _ ho) h (fun σ_30 t_31 h => ?_)
        refine g_goto hX 38 dX3_sort_34 (by decide) ?_
        exact g_sub [1, 2, 3] rfl (hj38 _ _ h)
  · refine g_iconst hX (0) dX3_sort_13 (by decide) ?_
    exact g_retz hR (by decide) h dX3_sort_14
set_option maxRecDepth 20000 in
set_option maxHeartbeats 4000000 in
theorem kX3_sort (l : Launch) {a : Nat → Nat} {D : va_G} {tI tJ tB tS : ClassId} {kK kV : Nat → Nat} {σ τ : St}  {p1 : Int32} {x : Int32} (h : fX3_sort σ p1 = some (τ, x)) : CtI l yX3_sort cX3_sort 5 (some .boolean) 7 152 (vC a D tI tJ tB tS kK kV) σ [.ref (a 18), .int p1] τ x := g_metZ (by decide) (Nat.le_of_ble_eq_true rfl) rfl (fun X _ hX hR => sX3_sort (r := (τ, x)) hX hR h)
def fX3_listing (σ : St)  : Option (St × Int32) :=
  cl (fX3_knownBaker σ ) fun (σ_1 : St) (t_2 : Int32) => bnd t_2 fun (x1_3 : Int32) => (if x1_3 = (-1 : Int32) then some (σ_1, (0 : Int32)) else bnd (sI σ_1 10 6 ((σ_1.1 10 6) ||| ((1 : Int32) <<< (x1_3 &&& 31)))) fun (σ_4 : St) => cl (fX3_advance σ_4 ) fun (σ_5 : St) (t_6 : Unit) => cl (fX3_ended σ_5 ) fun (σ_7 : St) (t_8 : Int32) => chk (isB t_8) (some (σ_7, t_8)))
set_option maxRecDepth 20000 in
set_option maxHeartbeats 4000000 in
theorem sX3_listing {X : CX} {a : Nat → Nat} {D : va_G} {tI tJ tB tS : ClassId} {kK kV : Nat → Nat} {σ : St}   {r : St × Int32} (hX : OKX X (vC a D tI tJ tB tS kK kV) cX3_listing 2 RX3 3 61) (hR : (r.2 = 0 ∨ r.2 = 1) → ∀ (pc : Nat) (lv : List (Nat × Value)), decode cX3_listing pc = .ok (.ireturn, 1) → G X (vC a D tI tJ tB tS kK kV) 2 r.1 pc lv [.int r.2])  (h : fX3_listing σ  = some r) : G X (vC a D tI tJ tB tS kK kV) 2 σ 0 [(0, .ref (a 18))] [] := by
  unfold fX3_listing at h
  refine g_aload_n hX 0 dX3_listing_0 rfl rfl ?_
  refine g_callVI (As := []) (rest := []) hX 18 (Nat.le_of_ble_eq_true rfl) rfl rfl miX3_knownBaker mvX3_knownBaker lkX3_111 (by decide) rfl (Nat.le_of_ble_eq_true rfl) rfl dX3_listing_1 (fun τ x ho => kX3_knownBaker _ ho) h (fun σ_1 t_2 h => ?_)
  refine g_istore_n (lv' := fun x1_3 => [(1, .int x1_3), (0, .ref (a 18))]) hX dX3_listing_4 rfl (by decide) (fun _ => rfl) h (fun x1_3 h => ?_)
  refine g_iload_n hX 0 dX3_listing_5 rfl rfl ?_
  refine g_iconst hX (-1) dX3_listing_6 (by decide) ?_
  refine g_icmp_ne hX 12 dX3_listing_7 (by decide) h (fun h => ?_) (fun h => ?_)
  · refine g_aload_n hX 1 dX3_listing_12 rfl rfl ?_
    refine gCX3_15_18 hX dX3_listing_13 ?_
    refine g_dup hX dX3_listing_16 rfl ?_
    refine gCX3_131_10 hX dX3_listing_17 ?_
    refine g_iconst hX (1) dX3_listing_20 (by decide) ?_
    refine g_iload_n hX 0 dX3_listing_21 rfl rfl ?_
    refine g_ishl hX dX3_listing_22 ?_
    refine g_ior hX dX3_listing_23 ?_
    refine pCX3_131_10 hX dX3_listing_24 h (fun σ_4 h => ?_)
    refine g_aload_n hX 1 dX3_listing_27 rfl rfl ?_
    refine g_callVV (As := []) (rest := []) hX 18 (Nat.le_of_ble_eq_true rfl) rfl rfl miX3_advance mvX3_advance lkX3_37 (by decide) rfl (Nat.le_of_ble_eq_true rfl) rfl dX3_listing_28 (fun τ x ho => kX3_advance _ ho) h (fun σ_5 t_6 h => ?_)
    refine g_aload_n hX 1 dX3_listing_31 rfl rfl ?_
    refine g_callVI (As := []) (rest := []) hX 18 (Nat.le_of_ble_eq_true rfl) rfl rfl miX3_ended mvX3_ended lkX3_92 (by decide) rfl (Nat.le_of_ble_eq_true rfl) rfl dX3_listing_32 (fun τ x ho => kX3_ended _ ho) h (fun σ_7 t_8 h => ?_)
    exact g_retzc hR h dX3_listing_35
  · refine g_iconst hX (0) dX3_listing_10 (by decide) ?_
    exact g_retz hR (by decide) h dX3_listing_11
set_option maxRecDepth 20000 in
set_option maxHeartbeats 4000000 in
theorem kX3_listing (l : Launch) {a : Nat → Nat} {D : va_G} {tI tJ tB tS : ClassId} {kK kV : Nat → Nat} {σ τ : St}   {x : Int32} (h : fX3_listing σ  = some (τ, x)) : CtI l yX3_listing cX3_listing 2 (some .boolean) 3 61 (vC a D tI tJ tB tS kK kV) σ [.ref (a 18)] τ x := g_metZ (by decide) (Nat.le_of_ble_eq_true rfl) rfl (fun X _ hX hR => sX3_listing (r := (τ, x)) hX hR h)
def fX3_steps (σ : St)  : Option (St × Int32) :=
  cl (fX3_number σ (1 : Int32) (8 : Int32)) fun (σ_1 : St) (t_2 : Int32) => bnd (sI σ_1 10 2 t_2) fun (σ_3 : St) => (if (σ_3.1 10 2) = (-1 : Int32) then some (σ_3, (0 : Int32)) else cl (fX3_accept σ_3 4) fun (σ_4 : St) (t_5 : Int32) => (if t_5 = 0 then some (σ_4, (0 : Int32)) else cl (fX3_number σ_4 (0 : Int32) (99 : Int32)) fun (σ_6 : St) (t_7 : Int32) => bnd (sI σ_6 10 3 t_7) fun (σ_8 : St) => (if (σ_8.1 10 3) = (-1 : Int32) then some (σ_8, (0 : Int32)) else cl (fX3_accept σ_8 5) fun (σ_9 : St) (t_10 : Int32) => (if t_10 = 0 then some (σ_9, (0 : Int32)) else cl (fX3_number σ_9 (1 : Int32) (20 : Int32)) fun (σ_11 : St) (t_12 : Int32) => bnd (sI σ_11 10 4 t_12) fun (σ_13 : St) => (if (σ_13.1 10 4) = (-1 : Int32) then some (σ_13, (0 : Int32)) else cl (fX3_ended σ_13 ) fun (σ_14 : St) (t_15 : Int32) => (if t_15 = 0 then some (σ_14, (0 : Int32)) else some (σ_14, (1 : Int32))))))))
set_option maxRecDepth 20000 in
set_option maxHeartbeats 4000000 in
theorem sX3_steps {X : CX} {a : Nat → Nat} {D : va_G} {tI tJ tB tS : ClassId} {kK kV : Nat → Nat} {σ : St}   {r : St × Int32} (hX : OKX X (vC a D tI tJ tB tS kK kV) cX3_steps 1 RX3 6 129) (hR : (r.2 = 0 ∨ r.2 = 1) → ∀ (pc : Nat) (lv : List (Nat × Value)), decode cX3_steps pc = .ok (.ireturn, 1) → G X (vC a D tI tJ tB tS kK kV) 1 r.1 pc lv [.int r.2])  (h : fX3_steps σ  = some r) : G X (vC a D tI tJ tB tS kK kV) 1 σ 0 [(0, .ref (a 18))] [] := by
  unfold fX3_steps at h
  refine g_aload_n hX 0 dX3_steps_0 rfl rfl ?_
  refine gCX3_15_18 hX dX3_steps_1 ?_
  refine g_aload_n hX 0 dX3_steps_4 rfl rfl ?_
  refine g_iconst hX (1) dX3_steps_5 (by decide) ?_
  refine g_bipush hX (8) dX3_steps_6 (by decide) ?_
  refine g_callVI (As := [.int (1 : Int32), .int (8 : Int32)]) (rest := [.ref (a 10)]) hX 18 (Nat.le_of_ble_eq_true rfl) rfl rfl miX3_number mvX3_number lkX3_87 (by decide) rfl (Nat.le_of_ble_eq_true rfl) rfl dX3_steps_8 (fun τ x ho => kX3_number _ ho) h (fun σ_1 t_2 h => ?_)
  refine pCX3_121_10 hX dX3_steps_11 h (fun σ_3 h => ?_)
  refine g_aload_n hX 0 dX3_steps_14 rfl rfl ?_
  refine gCX3_15_18 hX dX3_steps_15 ?_
  refine gCX3_121_10 hX dX3_steps_18 ?_
  refine g_iconst hX (-1) dX3_steps_21 (by decide) ?_
  refine g_icmp_eq hX 34 dX3_steps_22 (by decide) h (fun h => ?_) (fun h => ?_)
  · refine g_iconst hX (0) dX3_steps_34 (by decide) ?_
    exact g_retz hR (by decide) h dX3_steps_35
  · refine g_aload_n hX 0 dX3_steps_25 rfl rfl ?_
    refine g_ldcS hX 4 (Nat.le_of_ble_eq_true rfl) rfl dX3_steps_26 ?_
    refine g_callVI (As := [.ref (kK 4)]) (rest := []) hX 18 (Nat.le_of_ble_eq_true rfl) rfl rfl miX3_accept mvX3_accept lkX3_70 (by decide) rfl (Nat.le_of_ble_eq_true rfl) rfl dX3_steps_28 (fun τ x ho => kX3_accept _ ho) h (fun σ_4 t_5 h => ?_)
    refine g_if_ne hX 36 dX3_steps_31 (by decide) h (fun h => ?_) (fun h => ?_)
    · refine g_aload_n hX 0 dX3_steps_36 rfl rfl ?_
      refine gCX3_15_18 hX dX3_steps_37 ?_
      refine g_aload_n hX 0 dX3_steps_40 rfl rfl ?_
      refine g_iconst hX (0) dX3_steps_41 (by decide) ?_
      refine g_bipush hX (99) dX3_steps_42 (by decide) ?_
      refine g_callVI (As := [.int (0 : Int32), .int (99 : Int32)]) (rest := [.ref (a 10)]) hX 18 (Nat.le_of_ble_eq_true rfl) rfl rfl miX3_number mvX3_number lkX3_87 (by decide) rfl (Nat.le_of_ble_eq_true rfl) rfl dX3_steps_44 (fun τ x ho => kX3_number _ ho) h (fun σ_6 t_7 h => ?_)
      refine pCX3_125_10 hX dX3_steps_47 h (fun σ_8 h => ?_)
      refine g_aload_n hX 0 dX3_steps_50 rfl rfl ?_
      refine gCX3_15_18 hX dX3_steps_51 ?_
      refine gCX3_125_10 hX dX3_steps_54 ?_
      refine g_iconst hX (-1) dX3_steps_57 (by decide) ?_
      refine g_icmp_eq hX 70 dX3_steps_58 (by decide) h (fun h => ?_) (fun h => ?_)
      · refine g_iconst hX (0) dX3_steps_70 (by decide) ?_
        exact g_retz hR (by decide) h dX3_steps_71
      · refine g_aload_n hX 0 dX3_steps_61 rfl rfl ?_
        refine g_ldcS hX 5 (Nat.le_of_ble_eq_true rfl) rfl dX3_steps_62 ?_
        refine g_callVI (As := [.ref (kK 5)]) (rest := []) hX 18 (Nat.le_of_ble_eq_true rfl) rfl rfl miX3_accept mvX3_accept lkX3_70 (by decide) rfl (Nat.le_of_ble_eq_true rfl) rfl dX3_steps_64 (fun τ x ho => kX3_accept _ ho) h (fun σ_9 t_10 h => ?_)
        refine g_if_ne hX 72 dX3_steps_67 (by decide) h (fun h => ?_) (fun h => ?_)
        · refine g_aload_n hX 0 dX3_steps_72 rfl rfl ?_
          refine gCX3_15_18 hX dX3_steps_73 ?_
          refine g_aload_n hX 0 dX3_steps_76 rfl rfl ?_
          refine g_iconst hX (1) dX3_steps_77 (by decide) ?_
          refine g_bipush hX (20) dX3_steps_78 (by decide) ?_
          refine g_callVI (As := [.int (1 : Int32), .int (20 : Int32)]) (rest := [.ref (a 10)]) hX 18 (Nat.le_of_ble_eq_true rfl) rfl rfl miX3_number mvX3_number lkX3_87 (by decide) rfl (Nat.le_of_ble_eq_true rfl) rfl dX3_steps_80 (fun τ x ho => kX3_number _ ho) h (fun σ_11 t_12 h => ?_)
          refine pCX3_129_10 hX dX3_steps_83 h (fun σ_13 h => ?_)
          refine g_aload_n hX 0 dX3_steps_86 rfl rfl ?_
          refine gCX3_15_18 hX dX3_steps_87 ?_
          refine gCX3_129_10 hX dX3_steps_90 ?_
          refine g_iconst hX (-1) dX3_steps_93 (by decide) ?_
          refine g_icmp_eq hX 108 dX3_steps_94 (by decide) h (fun h => ?_) (fun h => ?_)
          · refine g_iconst hX (0) dX3_steps_108 (by decide) ?_
            exact g_retz hR (by decide) h dX3_steps_109
          · refine g_aload_n hX 0 dX3_steps_97 rfl rfl ?_
            refine g_callVI (As := []) (rest := []) hX 18 (Nat.le_of_ble_eq_true rfl) rfl rfl miX3_ended mvX3_ended lkX3_92 (by decide) rfl (Nat.le_of_ble_eq_true rfl) rfl dX3_steps_98 (fun τ x ho => kX3_ended _ ho) h (fun σ_14 t_15 h => ?_)
            refine g_if_eq hX 108 dX3_steps_101 (by decide) h (fun h => ?_) (fun h => ?_)
            · refine g_iconst hX (0) dX3_steps_108 (by decide) ?_
              exact g_retz hR (by decide) h dX3_steps_109
            · refine g_iconst hX (1) dX3_steps_104 (by decide) ?_
              refine g_goto hX 109 dX3_steps_105 (by decide) ?_
              exact g_retz hR (by decide) h dX3_steps_109
        · refine g_iconst hX (0) dX3_steps_70 (by decide) ?_
          exact g_retz hR (by decide) h dX3_steps_71
    · refine g_iconst hX (0) dX3_steps_34 (by decide) ?_
      exact g_retz hR (by decide) h dX3_steps_35
set_option maxRecDepth 20000 in
set_option maxHeartbeats 4000000 in
theorem kX3_steps (l : Launch) {a : Nat → Nat} {D : va_G} {tI tJ tB tS : ClassId} {kK kV : Nat → Nat} {σ τ : St}   {x : Int32} (h : fX3_steps σ  = some (τ, x)) : CtI l yX3_steps cX3_steps 1 (some .boolean) 6 129 (vC a D tI tJ tB tS kK kV) σ [.ref (a 18)] τ x := g_metZ (by decide) (Nat.le_of_ble_eq_true rfl) rfl (fun X _ hX hR => sX3_steps (r := (τ, x)) hX hR h)
def fX3_isKeyword_L4  (kx4 : St → Int32 → Int32 → Option (St × Int32)) : Nat → St → Int32 → Int32 → Option (St × Int32)
  | 0, _, _, _ => none
  | n4 + 1, σ, c1_4, c2_4 =>
    chk (decide (1 < 15)) (cl (fJ0_length_8abf5 σ 1) fun (σ_3 : St) (t_4 : Int32) => (if t_4 ≤ c2_4 then kx4 σ_3 c1_4 c2_4 else chk (decide (1 < 15)) (cl (fJ0_charAt_5068e σ_3 1 c2_4) fun (σ_5 : St) (t_6 : Int32) => (jp (fun (σ_7 : St) (x1_8 : Int32)  => bnd (c2_4 + (1 : Int32)) fun (x2_9 : Int32) => fX3_isKeyword_L4 kx4 n4 σ_7 x1_8 x2_9) fun j50 => (if t_6 = (32 : Int32) then (jp (fun (σ_10 : St)   => bnd (c2_4 + (1 : Int32)) fun (x1_11 : Int32) => j50 σ_10 x1_11) fun j46 => (if (c2_4 - c1_4) = (σ_5.1 18 6) then cl (fX3_spells σ_5 1 c1_4) fun (σ_12 : St) (t_13 : Int32) => (if t_13 = 0 then j46 σ_12 else some (σ_12, (1 : Int32))) else j46 σ_5)) else j50 σ_5 c1_4)))))
def fX3_isKeyword (σ : St)  : Option (St × Int32) :=
  bnd (0 : Int32) fun (x1_1 : Int32) => bnd (0 : Int32) fun (x2_2 : Int32) => fX3_isKeyword_L4  (fun (σ_14 : St) (x1_15 : Int32) (x2_16 : Int32) => some (σ_14, (0 : Int32))) FU σ x1_1 x2_2
set_option maxRecDepth 20000 in
set_option maxHeartbeats 4000000 in
theorem sX3_isKeyword_L4 {X : CX} {a : Nat → Nat} {D : va_G} {tI tJ tB tS : ClassId} {kK kV : Nat → Nat}  {kx4 : St → Int32 → Int32 → Option (St × Int32)} {r : St × Int32} (hX : OKX X (vC a D tI tJ tB tS kK kV) cX3_isKeyword 3 RX3 5 108) (hR : (r.2 = 0 ∨ r.2 = 1) → ∀ (pc : Nat) (lv : List (Nat × Value)), decode cX3_isKeyword pc = .ok (.ireturn, 1) → G X (vC a D tI tJ tB tS kK kV) 3 r.1 pc lv [.int r.2]) (hkx4 : ∀ (σ : St) (e1_4 : Int32) (e2_4 : Int32), kx4 σ e1_4 e2_4 = some r → G X (vC a D tI tJ tB tS kK kV) 3 σ 56 [] []) : ∀ (n : Nat) (σ : St) (c1_4 : Int32) (c2_4 : Int32), fX3_isKeyword_L4 kx4 n σ c1_4 c2_4 = some r → G X (vC a D tI tJ tB tS kK kV) 3 σ 4 [(0, .ref (a 18)), (1, .int c1_4), (2, .int c2_4)] [] := by
  intro n
  induction n with
  | zero => intro σ c1_4 c2_4 h; rw [fX3_isKeyword_L4] at h; exact absurd h (by simp)
  | succ n4 ih4 =>
    intro σ c1_4 c2_4 h
    rw [fX3_isKeyword_L4] at h
    refine g_iload_n hX 2 dX3_isKeyword_4 rfl rfl ?_
    refine g_ldcS hX 1 (Nat.le_of_ble_eq_true rfl) rfl dX3_isKeyword_5 ?_
    obtain ⟨hlt, h⟩ := chk_inv h
    refine g_callZI (As := []) (rest := [.int c2_4]) hX 1 (of_decide_eq_true hlt) miJ0_length_8abf5 mvJ0_length_8abf5 lkX3_149 (by decide) rfl (Nat.le_of_ble_eq_true rfl) rfl dX3_isKeyword_7 (fun τ x ho => kJ0_length_8abf5 _ ho) h (fun σ_3 t_4 h => ?_)
    refine g_icmp_ge hX 56 dX3_isKeyword_10 (by decide) h (fun h => ?_) (fun h => ?_)
    · exact g_sub [] rfl (hkx4 _ _ _ h)
    · refine g_ldcS hX 1 (Nat.le_of_ble_eq_true rfl) rfl dX3_isKeyword_13 ?_
      refine g_iload_n hX 2 dX3_isKeyword_15 rfl rfl ?_
      obtain ⟨hlt, h⟩ := chk_inv h
      refine g_callZI (As := [.int c2_4]) (rest := []) hX 1 (of_decide_eq_true hlt) miJ0_charAt_5068e mvJ0_charAt_5068e lkX3_162 (by decide) rfl (Nat.le_of_ble_eq_true rfl) rfl dX3_isKeyword_16 (fun τ x ho => kJ0_charAt_5068e _ ho) h (fun σ_5 t_6 h => ?_)
      refine g_bipush hX (32) dX3_isKeyword_19 (by decide) ?_
      refine jp_inv (P := fun f => ∀ (σ_7 : St) (x1_8 : Int32) , f σ_7 x1_8 = some r → G X (vC a D tI tJ tB tS kK kV) 3 σ_7 50 [(0, .ref (a 18)), (2, .int c2_4), (1, .int x1_8)] []) h (fun σ_7 x1_8 h => ?_) (fun j50 hj50 h => ?_)
      · refine g_iinc (y := (1)) (lv' := fun x2_9 => [(2, .int x2_9), (0, .ref (a 18)), (1, .int x1_8)]) hX 1 dX3_isKeyword_50 rfl (by decide) (by decide) (fun _ => rfl) h (fun x2_9 h => ?_)
        refine g_goto hX 4 dX3_isKeyword_53 (by decide) ?_
        exact g_sub [1, 2, 0] rfl (ih4 _ _ _ h)
      refine g_icmp_ne hX 50 dX3_isKeyword_21 (by decide) h (fun h => ?_) (fun h => ?_)
      · exact g_sub [0, 2, 1] rfl (hj50 _ _ h)
      · refine g_iload_n hX 2 dX3_isKeyword_24 rfl rfl ?_
        refine g_iload_n hX 1 dX3_isKeyword_25 rfl rfl ?_
        refine g_isub hX dX3_isKeyword_26 ?_
        refine g_aload_n hX 0 dX3_isKeyword_27 rfl rfl ?_
        refine gCX3_65_18 hX dX3_isKeyword_28 ?_
        refine jp_inv (P := fun f => ∀ (σ_10 : St)  , f σ_10 = some r → G X (vC a D tI tJ tB tS kK kV) 3 σ_10 46 [(0, .ref (a 18)), (2, .int c2_4)] []) h (fun σ_10 h => ?_) (fun j46 hj46 h => ?_)
        · refine g_iload_n hX 1 dX3_isKeyword_46 rfl rfl ?_
          refine g_iconst hX (1) dX3_isKeyword_47 (by decide) ?_
          refine g_iadd hX dX3_isKeyword_48 ?_
          refine g_istore_n (lv' := fun x1_11 => [(1, .int x1_11), (0, .ref (a 18)), (2, .int c2_4)]) hX dX3_isKeyword_49 rfl (by decide) (fun _ => rfl) h (fun x1_11 h => ?_)
          exact g_sub [1, 2, 0] rfl (hj50 _ _ h)
        refine g_icmp_ne hX 46 dX3_isKeyword_31 (by decide) h (fun h => ?_) (fun h => ?_)
        · exact g_sub [0, 2] rfl (hj46 _ h)
        · refine g_aload_n hX 0 dX3_isKeyword_34 rfl rfl ?_
          refine g_ldcS hX 1 (Nat.le_of_ble_eq_true rfl) rfl dX3_isKeyword_35 ?_
          refine g_iload_n hX 1 dX3_isKeyword_37 rfl rfl ?_
          refine g_callVI (As := [.ref (kK 1), .int c1_4]) (rest := []) hX 18 (Nat.le_of_ble_eq_true rfl) rfl rfl miX3_spells mvX3_spells lkX3_153 (by decide) rfl (Nat.le_of_ble_eq_true rfl) rfl dX3_isKeyword_38 (fun τ x ho => kX3_spells _ ho) h (fun σ_12 t_13 h => ?_)
          refine g_if_eq hX 46 dX3_isKeyword_41 (by decide) h (fun h => ?_) (fun h => ?_)
          · exact g_sub [0, 2] rfl (hj46 _ h)
          · refine g_iconst hX (1) dX3_isKeyword_44 (by decide) ?_
            exact g_retz hR (by decide) h dX3_isKeyword_45
set_option maxRecDepth 20000 in
set_option maxHeartbeats 4000000 in
theorem sX3_isKeyword {X : CX} {a : Nat → Nat} {D : va_G} {tI tJ tB tS : ClassId} {kK kV : Nat → Nat} {σ : St}   {r : St × Int32} (hX : OKX X (vC a D tI tJ tB tS kK kV) cX3_isKeyword 3 RX3 5 108) (hR : (r.2 = 0 ∨ r.2 = 1) → ∀ (pc : Nat) (lv : List (Nat × Value)), decode cX3_isKeyword pc = .ok (.ireturn, 1) → G X (vC a D tI tJ tB tS kK kV) 3 r.1 pc lv [.int r.2])  (h : fX3_isKeyword σ  = some r) : G X (vC a D tI tJ tB tS kK kV) 3 σ 0 [(0, .ref (a 18))] [] := by
  unfold fX3_isKeyword at h
  refine g_iconst hX (0) dX3_isKeyword_0 (by decide) ?_
  refine g_istore_n (lv' := fun x1_1 => [(1, .int x1_1), (0, .ref (a 18))]) hX dX3_isKeyword_1 rfl (by decide) (fun _ => rfl) h (fun x1_1 h => ?_)
  refine g_iconst hX (0) dX3_isKeyword_2 (by decide) ?_
  refine g_istore_n (lv' := fun x2_2 => [(2, .int x2_2), (1, .int x1_1), (0, .ref (a 18))]) hX dX3_isKeyword_3 rfl (by decide) (fun _ => rfl) h (fun x2_2 h => ?_)
  refine g_sub [2, 1, 0] rfl (sX3_isKeyword_L4 hX hR (fun σ_14 x1_15 x2_16 h => ?_) FU _ _ _ h)
  refine g_iconst hX (0) dX3_isKeyword_56 (by decide) ?_
  exact g_retz hR (by decide) h dX3_isKeyword_57
set_option maxRecDepth 20000 in
set_option maxHeartbeats 4000000 in
theorem kX3_isKeyword (l : Launch) {a : Nat → Nat} {D : va_G} {tI tJ tB tS : ClassId} {kK kV : Nat → Nat} {σ τ : St}   {x : Int32} (h : fX3_isKeyword σ  = some (τ, x)) : CtI l yX3_isKeyword cX3_isKeyword 3 (some .boolean) 5 108 (vC a D tI tJ tB tS kK kV) σ [.ref (a 18)] τ x := g_metZ (by decide) (Nat.le_of_ble_eq_true rfl) rfl (fun X _ hX hR => sX3_isKeyword (r := (τ, x)) hX hR h)
def fX3_isName (σ : St)  : Option (St × Int32) :=
  (if (σ.1 18 5) = (1 : Int32) then (if (8 : Int32) < (σ.1 18 6) then some (σ, (0 : Int32)) else cl (fX3_isKeyword σ ) fun (σ_1 : St) (t_2 : Int32) => (if t_2 = 0 then some (σ_1, (1 : Int32)) else some (σ_1, (0 : Int32)))) else some (σ, (0 : Int32)))
set_option maxRecDepth 20000 in
set_option maxHeartbeats 4000000 in
theorem sX3_isName {X : CX} {a : Nat → Nat} {D : va_G} {tI tJ tB tS : ClassId} {kK kV : Nat → Nat} {σ : St}   {r : St × Int32} (hX : OKX X (vC a D tI tJ tB tS kK kV) cX3_isName 1 RX3 6 130) (hR : (r.2 = 0 ∨ r.2 = 1) → ∀ (pc : Nat) (lv : List (Nat × Value)), decode cX3_isName pc = .ok (.ireturn, 1) → G X (vC a D tI tJ tB tS kK kV) 1 r.1 pc lv [.int r.2])  (h : fX3_isName σ  = some r) : G X (vC a D tI tJ tB tS kK kV) 1 σ 0 [(0, .ref (a 18))] [] := by
  unfold fX3_isName at h
  refine g_aload_n hX 0 dX3_isName_0 rfl rfl ?_
  refine gCX3_40_18 hX dX3_isName_1 ?_
  refine g_iconst hX (1) dX3_isName_4 (by decide) ?_
  refine g_icmp_ne hX 28 dX3_isName_5 (by decide) h (fun h => ?_) (fun h => ?_)
  · refine g_iconst hX (0) dX3_isName_28 (by decide) ?_
    exact g_retz hR (by decide) h dX3_isName_29
  · refine g_aload_n hX 0 dX3_isName_8 rfl rfl ?_
    refine gCX3_65_18 hX dX3_isName_9 ?_
    refine g_bipush hX (8) dX3_isName_12 (by decide) ?_
    refine g_icmp_gt hX 28 dX3_isName_14 (by decide) h (fun h => ?_) (fun h => ?_)
    · refine g_iconst hX (0) dX3_isName_28 (by decide) ?_
      exact g_retz hR (by decide) h dX3_isName_29
    · refine g_aload_n hX 0 dX3_isName_17 rfl rfl ?_
      refine g_callVI (As := []) (rest := []) hX 18 (Nat.le_of_ble_eq_true rfl) rfl rfl miX3_isKeyword mvX3_isKeyword lkX3_157 (by decide) rfl (Nat.le_of_ble_eq_true rfl) rfl dX3_isName_18 (fun τ x ho => kX3_isKeyword _ ho) h (fun σ_1 t_2 h => ?_)
      refine g_if_ne hX 28 dX3_isName_21 (by decide) h (fun h => ?_) (fun h => ?_)
      · refine g_iconst hX (0) dX3_isName_28 (by decide) ?_
        exact g_retz hR (by decide) h dX3_isName_29
      · refine g_iconst hX (1) dX3_isName_24 (by decide) ?_
        refine g_goto hX 29 dX3_isName_25 (by decide) ?_
        exact g_retz hR (by decide) h dX3_isName_29
set_option maxRecDepth 20000 in
set_option maxHeartbeats 4000000 in
theorem kX3_isName (l : Launch) {a : Nat → Nat} {D : va_G} {tI tJ tB tS : ClassId} {kK kV : Nat → Nat} {σ τ : St}   {x : Int32} (h : fX3_isName σ  = some (τ, x)) : CtI l yX3_isName cX3_isName 1 (some .boolean) 6 130 (vC a D tI tJ tB tS kK kV) σ [.ref (a 18)] τ x := g_metZ (by decide) (Nat.le_of_ble_eq_true rfl) rfl (fun X _ hX hR => sX3_isName (r := (τ, x)) hX hR h)
def fX6_addBaker_i10 (σ : St) (p1 : Int64) (p2 : Int32) : Option (St × Unit) :=
  (if (4 : Int32) ≤ (σ.1 10 0) then some (σ, ()) else chk (inb (σ.1 10 0) 4) (bnd (sL σ 11 (ix (σ.1 10 0)) p1) fun (σ_1 : St) => chk (inb (σ_1.1 10 0) 4) (bnd (sI σ_1 12 (ix (σ_1.1 10 0)) p2) fun (σ_2 : St) => bnd (sI σ_2 10 0 ((σ_2.1 10 0) + (1 : Int32))) fun (σ_3 : St) => some (σ_3, ()))))
set_option maxRecDepth 20000 in
set_option maxHeartbeats 4000000 in
theorem sX6_addBaker_i10 {X : CX} {a : Nat → Nat} {D : va_G} {tI tJ tB tS : ClassId} {kK kV : Nat → Nat} {σ : St}  {p1 : Int64} {p2 : Int32} {r : St × Unit} (hX : OKX X (vC a D tI tJ tB tS kK kV) cX6_addBaker 4 RX6 0 0) (hR : ∀ (pc : Nat) (lv : List (Nat × Value)), decode cX6_addBaker pc = .ok (.return_, 1) → G X (vC a D tI tJ tB tS kK kV) 4 r.1 pc lv [])  (h : fX6_addBaker_i10 σ p1 p2 = some r) : G X (vC a D tI tJ tB tS kK kV) 4 σ 0 [(0, .ref (a 10)), (1, .long p1), (3, .int p2)] [] := by
  unfold fX6_addBaker_i10 at h
  refine g_aload_n hX 0 dX6_addBaker_0 rfl rfl ?_
  refine gCX6_37_10 hX dX6_addBaker_1 ?_
  refine g_iconst hX (4) dX6_addBaker_4 (by decide) ?_
  refine g_icmp_ge hX 38 dX6_addBaker_5 (by decide) h (fun h => ?_) (fun h => ?_)
  · exact g_retv hR h dX6_addBaker_38
  · refine g_aload_n hX 0 dX6_addBaker_8 rfl rfl ?_
    refine gCX6_9_10 hX dX6_addBaker_9 ?_
    refine g_aload_n hX 0 dX6_addBaker_12 rfl rfl ?_
    refine gCX6_37_10 hX dX6_addBaker_13 ?_
    refine g_lload_n hX 1 dX6_addBaker_16 rfl rfl ?_
    refine asC_11 hX dX6_addBaker_17 h (fun σ_1 h => ?_)
    refine g_aload_n hX 0 dX6_addBaker_18 rfl rfl ?_
    refine gCX6_15_10 hX dX6_addBaker_19 ?_
    refine g_aload_n hX 0 dX6_addBaker_22 rfl rfl ?_
    refine gCX6_37_10 hX dX6_addBaker_23 ?_
    refine g_iload_n hX 2 dX6_addBaker_26 rfl rfl ?_
    refine asC_12 hX dX6_addBaker_27 h (fun σ_2 h => ?_)
    refine g_aload_n hX 0 dX6_addBaker_28 rfl rfl ?_
    refine g_dup hX dX6_addBaker_29 rfl ?_
    refine gCX6_37_10 hX dX6_addBaker_30 ?_
    refine g_iconst hX (1) dX6_addBaker_33 (by decide) ?_
    refine g_iadd hX dX6_addBaker_34 ?_
    refine pCX6_37_10 hX dX6_addBaker_35 h (fun σ_3 h => ?_)
    exact g_retv hR h dX6_addBaker_38
set_option maxRecDepth 20000 in
set_option maxHeartbeats 4000000 in
theorem kX6_addBaker_i10 (l : Launch) {a : Nat → Nat} {D : va_G} {tI tJ tB tS : ClassId} {kK kV : Nat → Nat} {σ τ : St}  {p1 : Int64} {p2 : Int32} {x : Unit} (h : fX6_addBaker_i10 σ p1 p2 = some (τ, x)) : CtV l yX6_addBaker cX6_addBaker 4 none 0 0 (vC a D tI tJ tB tS kK kV) σ [.ref (a 10), .long p1, .int p2] τ x := g_metV (by decide) (Nat.le_of_ble_eq_true rfl) rfl (fun X _ hX hR => sX6_addBaker_i10 (r := (τ, x)) hX hR h)
def fX3_baker (σ : St)  : Option (St × Int32) :=
  cl (fX3_isName σ ) fun (σ_1 : St) (t_2 : Int32) => (if t_2 = 0 then some (σ_1, (0 : Int32)) else cl (fX3_knownBaker σ_1 ) fun (σ_3 : St) (t_4 : Int32) => (if t_4 = (-1 : Int32) then (if (σ_3.1 10 0) < (4 : Int32) then bnd (σ_3.2 18 8) fun (x1_5 : Int64) => cl (fX3_advance σ_3 ) fun (σ_6 : St) (t_7 : Unit) => cl (fX3_accept σ_6 2) fun (σ_8 : St) (t_9 : Int32) => (if t_9 = 0 then some (σ_8, (0 : Int32)) else cl (fX3_number σ_8 (0 : Int32) (99 : Int32)) fun (σ_10 : St) (t_11 : Int32) => bnd t_11 fun (x3_12 : Int32) => (if x3_12 = (-1 : Int32) then some (σ_10, (0 : Int32)) else cl (fX6_addBaker_i10 σ_10 x1_5 x3_12) fun (σ_13 : St) (t_14 : Unit) => cl (fX3_ended σ_13 ) fun (σ_15 : St) (t_16 : Int32) => chk (isB t_16) (some (σ_15, t_16)))) else some (σ_3, (0 : Int32))) else some (σ_3, (0 : Int32))))
set_option maxRecDepth 20000 in
set_option maxHeartbeats 4000000 in
theorem sX3_baker {X : CX} {a : Nat → Nat} {D : va_G} {tI tJ tB tS : ClassId} {kK kV : Nat → Nat} {σ : St}   {r : St × Int32} (hX : OKX X (vC a D tI tJ tB tS kK kV) cX3_baker 4 RX3 7 150) (hR : (r.2 = 0 ∨ r.2 = 1) → ∀ (pc : Nat) (lv : List (Nat × Value)), decode cX3_baker pc = .ok (.ireturn, 1) → G X (vC a D tI tJ tB tS kK kV) 4 r.1 pc lv [.int r.2])  (h : fX3_baker σ  = some r) : G X (vC a D tI tJ tB tS kK kV) 4 σ 0 [(0, .ref (a 18))] [] := by
  unfold fX3_baker at h
  refine g_aload_n hX 0 dX3_baker_0 rfl rfl ?_
  refine g_callVI (As := []) (rest := []) hX 18 (Nat.le_of_ble_eq_true rfl) rfl rfl miX3_isName mvX3_isName lkX3_108 (by decide) rfl (Nat.le_of_ble_eq_true rfl) rfl dX3_baker_1 (fun τ x ho => kX3_isName _ ho) h (fun σ_1 t_2 h => ?_)
  refine g_if_eq hX 26 dX3_baker_4 (by decide) h (fun h => ?_) (fun h => ?_)
  · refine g_iconst hX (0) dX3_baker_26 (by decide) ?_
    exact g_retz hR (by decide) h dX3_baker_27
  · refine g_aload_n hX 0 dX3_baker_7 rfl rfl ?_
    refine g_callVI (As := []) (rest := []) hX 18 (Nat.le_of_ble_eq_true rfl) rfl rfl miX3_knownBaker mvX3_knownBaker lkX3_111 (by decide) rfl (Nat.le_of_ble_eq_true rfl) rfl dX3_baker_8 (fun τ x ho => kX3_knownBaker _ ho) h (fun σ_3 t_4 h => ?_)
    refine g_iconst hX (-1) dX3_baker_11 (by decide) ?_
    refine g_icmp_ne hX 26 dX3_baker_12 (by decide) h (fun h => ?_) (fun h => ?_)
    · refine g_iconst hX (0) dX3_baker_26 (by decide) ?_
      exact g_retz hR (by decide) h dX3_baker_27
    · refine g_aload_n hX 0 dX3_baker_15 rfl rfl ?_
      refine gCX3_15_18 hX dX3_baker_16 ?_
      refine gCX3_53_10 hX dX3_baker_19 ?_
      refine g_iconst hX (4) dX3_baker_22 (by decide) ?_
      refine g_icmp_lt hX 28 dX3_baker_23 (by decide) h (fun h => ?_) (fun h => ?_)
      · refine g_aload_n hX 0 dX3_baker_28 rfl rfl ?_
        refine gCX3_59_18 hX dX3_baker_29 ?_
        refine g_lstore_n (lv' := fun x1_5 => [(1, .long x1_5), (0, .ref (a 18))]) hX dX3_baker_32 rfl (by decide) (fun _ => rfl) h (fun x1_5 h => ?_)
        refine g_aload_n hX 1 dX3_baker_33 rfl rfl ?_
        refine g_callVV (As := []) (rest := []) hX 18 (Nat.le_of_ble_eq_true rfl) rfl rfl miX3_advance mvX3_advance lkX3_37 (by decide) rfl (Nat.le_of_ble_eq_true rfl) rfl dX3_baker_34 (fun τ x ho => kX3_advance _ ho) h (fun σ_6 t_7 h => ?_)
        refine g_aload_n hX 1 dX3_baker_37 rfl rfl ?_
        refine g_ldcS hX 2 (Nat.le_of_ble_eq_true rfl) rfl dX3_baker_38 ?_
        refine g_callVI (As := [.ref (kK 2)]) (rest := []) hX 18 (Nat.le_of_ble_eq_true rfl) rfl rfl miX3_accept mvX3_accept lkX3_70 (by decide) rfl (Nat.le_of_ble_eq_true rfl) rfl dX3_baker_40 (fun τ x ho => kX3_accept _ ho) h (fun σ_8 t_9 h => ?_)
        refine g_if_ne hX 48 dX3_baker_43 (by decide) h (fun h => ?_) (fun h => ?_)
        · refine g_aload_n hX 1 dX3_baker_48 rfl rfl ?_
          refine g_iconst hX (0) dX3_baker_49 (by decide) ?_
          refine g_bipush hX (99) dX3_baker_50 (by decide) ?_
          refine g_callVI (As := [.int (0 : Int32), .int (99 : Int32)]) (rest := []) hX 18 (Nat.le_of_ble_eq_true rfl) rfl rfl miX3_number mvX3_number lkX3_87 (by decide) rfl (Nat.le_of_ble_eq_true rfl) rfl dX3_baker_52 (fun τ x ho => kX3_number _ ho) h (fun σ_10 t_11 h => ?_)
          refine g_istore_n (lv' := fun x3_12 => [(3, .int x3_12), (1, .long x1_5), (0, .ref (a 18))]) hX dX3_baker_55 rfl (by decide) (fun _ => rfl) h (fun x3_12 h => ?_)
          refine g_iload_n hX 0 dX3_baker_56 rfl rfl ?_
          refine g_iconst hX (-1) dX3_baker_57 (by decide) ?_
          refine g_icmp_ne hX 63 dX3_baker_58 (by decide) h (fun h => ?_) (fun h => ?_)
          · refine g_aload_n hX 2 dX3_baker_63 rfl rfl ?_
            refine gCX3_15_18 hX dX3_baker_64 ?_
            refine g_lload_n hX 1 dX3_baker_67 rfl rfl ?_
            refine g_iload_n hX 0 dX3_baker_68 rfl rfl ?_
            refine g_callNV (As := [.long x1_5, .int x3_12]) (rest := []) hX 10 (Nat.le_of_ble_eq_true rfl) rfl rfl miX6_addBaker mvX6_addBaker lkX3_117 (by decide) rfl (Nat.le_of_ble_eq_true rfl) rfl dX3_baker_69 (fun τ x ho => kX6_addBaker_i10 _ ho) h (fun σ_13 t_14 h => ?_)
            refine g_aload_n hX 2 dX3_baker_72 rfl rfl ?_
            refine g_callVI (As := []) (rest := []) hX 18 (Nat.le_of_ble_eq_true rfl) rfl rfl miX3_ended mvX3_ended lkX3_92 (by decide) rfl (Nat.le_of_ble_eq_true rfl) rfl dX3_baker_73 (fun τ x ho => kX3_ended _ ho) h (fun σ_15 t_16 h => ?_)
            exact g_retzc hR h dX3_baker_76
          · refine g_iconst hX (0) dX3_baker_61 (by decide) ?_
            exact g_retz hR (by decide) h dX3_baker_62
        · refine g_iconst hX (0) dX3_baker_46 (by decide) ?_
          exact g_retz hR (by decide) h dX3_baker_47
      · refine g_iconst hX (0) dX3_baker_26 (by decide) ?_
        exact g_retz hR (by decide) h dX3_baker_27
set_option maxRecDepth 20000 in
set_option maxHeartbeats 4000000 in
theorem kX3_baker (l : Launch) {a : Nat → Nat} {D : va_G} {tI tJ tB tS : ClassId} {kK kV : Nat → Nat} {σ τ : St}   {x : Int32} (h : fX3_baker σ  = some (τ, x)) : CtI l yX3_baker cX3_baker 4 (some .boolean) 7 150 (vC a D tI tJ tB tS kK kV) σ [.ref (a 18)] τ x := g_metZ (by decide) (Nat.le_of_ble_eq_true rfl) rfl (fun X _ hX hR => sX3_baker (r := (τ, x)) hX hR h)
def fX3_statement (σ : St)  : Option (St × Int32) :=
  cl (fX3_accept σ 0) fun (σ_1 : St) (t_2 : Int32) => (if t_2 = 0 then cl (fX3_accept σ_1 3) fun (σ_3 : St) (t_4 : Int32) => (if t_4 = 0 then cl (fX3_accept σ_3 6) fun (σ_5 : St) (t_6 : Int32) => (if t_6 = 0 then cl (fX3_accept σ_5 7) fun (σ_7 : St) (t_8 : Int32) => (if t_8 = 0 then (if (σ_7.1 10 1) < (12 : Int32) then cl (fX3_accept σ_7 8) fun (σ_9 : St) (t_10 : Int32) => (if t_10 = 0 then cl (fX3_accept σ_9 13) fun (σ_11 : St) (t_12 : Int32) => (if t_12 = 0 then cl (fX3_accept σ_11 14) fun (σ_13 : St) (t_14 : Int32) => (if t_14 = 0 then some (σ_13, (0 : Int32)) else cl (fX3_sort σ_13 (2 : Int32)) fun (σ_15 : St) (t_16 : Int32) => (if t_16 = 0 then some (σ_15, (0 : Int32)) else some (σ_15, (1 : Int32)))) else cl (fX3_sort σ_11 (1 : Int32)) fun (σ_17 : St) (t_18 : Int32) => chk (isB t_18) (some (σ_17, t_18))) else cl (fX3_sort σ_9 (0 : Int32)) fun (σ_19 : St) (t_20 : Int32) => chk (isB t_20) (some (σ_19, t_20))) else some (σ_7, (0 : Int32))) else cl (fX3_number σ_7 (0 : Int32) (99 : Int32)) fun (σ_21 : St) (t_22 : Int32) => bnd (sI σ_21 10 5 t_22) fun (σ_23 : St) => (if (σ_23.1 10 5) = (-1 : Int32) then some (σ_23, (0 : Int32)) else cl (fX3_ended σ_23 ) fun (σ_24 : St) (t_25 : Int32) => (if t_25 = 0 then some (σ_24, (0 : Int32)) else some (σ_24, (1 : Int32))))) else cl (fX3_listing σ_5 ) fun (σ_26 : St) (t_27 : Int32) => chk (isB t_27) (some (σ_26, t_27))) else cl (fX3_steps σ_3 ) fun (σ_28 : St) (t_29 : Int32) => chk (isB t_29) (some (σ_28, t_29))) else cl (fX3_baker σ_1 ) fun (σ_30 : St) (t_31 : Int32) => chk (isB t_31) (some (σ_30, t_31)))
set_option maxRecDepth 20000 in
set_option maxHeartbeats 4000000 in
theorem sX3_statement {X : CX} {a : Nat → Nat} {D : va_G} {tI tJ tB tS : ClassId} {kK kV : Nat → Nat} {σ : St}   {r : St × Int32} (hX : OKX X (vC a D tI tJ tB tS kK kV) cX3_statement 1 RX3 8 176) (hR : (r.2 = 0 ∨ r.2 = 1) → ∀ (pc : Nat) (lv : List (Nat × Value)), decode cX3_statement pc = .ok (.ireturn, 1) → G X (vC a D tI tJ tB tS kK kV) 1 r.1 pc lv [.int r.2])  (h : fX3_statement σ  = some r) : G X (vC a D tI tJ tB tS kK kV) 1 σ 0 [(0, .ref (a 18))] [] := by
  unfold fX3_statement at h
  refine g_aload_n hX 0 dX3_statement_0 rfl rfl ?_
  refine g_ldcS hX 0 (Nat.le_of_ble_eq_true rfl) rfl dX3_statement_1 ?_
  refine g_callVI (As := [.ref (kK 0)]) (rest := []) hX 18 (Nat.le_of_ble_eq_true rfl) rfl rfl miX3_accept mvX3_accept lkX3_70 (by decide) rfl (Nat.le_of_ble_eq_true rfl) rfl dX3_statement_3 (fun τ x ho => kX3_accept _ ho) h (fun σ_1 t_2 h => ?_)
  refine g_if_eq hX 14 dX3_statement_6 (by decide) h (fun h => ?_) (fun h => ?_)
  · refine g_aload_n hX 0 dX3_statement_14 rfl rfl ?_
    refine g_ldcS hX 3 (Nat.le_of_ble_eq_true rfl) rfl dX3_statement_15 ?_
    refine g_callVI (As := [.ref (kK 3)]) (rest := []) hX 18 (Nat.le_of_ble_eq_true rfl) rfl rfl miX3_accept mvX3_accept lkX3_70 (by decide) rfl (Nat.le_of_ble_eq_true rfl) rfl dX3_statement_17 (fun τ x ho => kX3_accept _ ho) h (fun σ_3 t_4 h => ?_)
    refine g_if_eq hX 28 dX3_statement_20 (by decide) h (fun h => ?_) (fun h => ?_)
    · refine g_aload_n hX 0 dX3_statement_28 rfl rfl ?_
      refine g_ldcS hX 6 (Nat.le_of_ble_eq_true rfl) rfl dX3_statement_29 ?_
      refine g_callVI (As := [.ref (kK 6)]) (rest := []) hX 18 (Nat.le_of_ble_eq_true rfl) rfl rfl miX3_accept mvX3_accept lkX3_70 (by decide) rfl (Nat.le_of_ble_eq_true rfl) rfl dX3_statement_31 (fun τ x ho => kX3_accept _ ho) h (fun σ_5 t_6 h => ?_)
      refine g_if_eq hX 42 dX3_statement_34 (by decide) h (fun h => ?_) (fun h => ?_)
      · refine g_aload_n hX 0 dX3_statement_42 rfl rfl ?_
        refine g_ldcS hX 7 (Nat.le_of_ble_eq_true rfl) rfl dX3_statement_43 ?_
        refine g_callVI (As := [.ref (kK 7)]) (rest := []) hX 18 (Nat.le_of_ble_eq_true rfl) rfl rfl miX3_accept mvX3_accept lkX3_70 (by decide) rfl (Nat.le_of_ble_eq_true rfl) rfl dX3_statement_45 (fun τ x ho => kX3_accept _ ho) h (fun σ_7 t_8 h => ?_)
        refine g_if_eq hX 89 dX3_statement_48 (by decide) h (fun h => ?_) (fun h => ?_)
        · refine g_aload_n hX 0 dX3_statement_89 rfl rfl ?_
          refine gCX3_15_18 hX dX3_statement_90 ?_
          refine gCX3_95_10 hX dX3_statement_93 ?_
          refine g_bipush hX (12) dX3_statement_96 (by decide) ?_
          refine g_icmp_lt hX 103 dX3_statement_98 (by decide) h (fun h => ?_) (fun h => ?_)
          · refine g_aload_n hX 0 dX3_statement_103 rfl rfl ?_
            refine g_ldcS hX 8 (Nat.le_of_ble_eq_true rfl) rfl dX3_statement_104 ?_
            refine g_callVI (As := [.ref (kK 8)]) (rest := []) hX 18 (Nat.le_of_ble_eq_true rfl) rfl rfl miX3_accept mvX3_accept lkX3_70 (by decide) rfl (Nat.le_of_ble_eq_true rfl) rfl dX3_statement_106 (fun τ x ho => kX3_accept _ ho) h (fun σ_9 t_10 h => ?_)
            refine g_if_eq hX 118 dX3_statement_109 (by decide) h (fun h => ?_) (fun h => ?_)
            · refine g_aload_n hX 0 dX3_statement_118 rfl rfl ?_
              refine g_ldcS hX 13 (Nat.le_of_ble_eq_true rfl) rfl dX3_statement_119 ?_
              refine g_callVI (As := [.ref (kK 13)]) (rest := []) hX 18 (Nat.le_of_ble_eq_true rfl) rfl rfl miX3_accept mvX3_accept lkX3_70 (by decide) rfl (Nat.le_of_ble_eq_true rfl) rfl dX3_statement_121 (fun τ x ho => kX3_accept _ ho) h (fun σ_11 t_12 h => ?_)
              refine g_if_eq hX 133 dX3_statement_124 (by decide) h (fun h => ?_) (fun h => ?_)
              · refine g_aload_n hX 0 dX3_statement_133 rfl rfl ?_
                refine g_ldcS hX 14 (Nat.le_of_ble_eq_true rfl) rfl dX3_statement_134 ?_
                refine g_callVI (As := [.ref (kK 14)]) (rest := []) hX 18 (Nat.le_of_ble_eq_true rfl) rfl rfl miX3_accept mvX3_accept lkX3_70 (by decide) rfl (Nat.le_of_ble_eq_true rfl) rfl dX3_statement_136 (fun τ x ho => kX3_accept _ ho) h (fun σ_13 t_14 h => ?_)
                refine g_if_eq hX 154 dX3_statement_139 (by decide) h (fun h => ?_) (fun h => ?_)
                · refine g_iconst hX (0) dX3_statement_154 (by decide) ?_
                  exact g_retz hR (by decide) h dX3_statement_155
                · refine g_aload_n hX 0 dX3_statement_142 rfl rfl ?_
                  refine g_iconst hX (2) dX3_statement_143 (by decide) ?_
                  refine g_callVI (As := [.int (2 : Int32)]) (rest := []) hX 18 (Nat.le_of_ble_eq_true rfl) rfl rfl miX3_sort mvX3_sort lkX3_100 (by decide) rfl (Nat.le_of_ble_eq_true rfl) rfl dX3_statement_144 (fun τ x ho => kX3_sort _ ho) h (fun σ_15 t_16 h => ?_)
                  refine g_if_eq hX 154 dX3_statement_147 (by decide) h (fun h => ?_) (fun h => ?_)
                  · refine g_iconst hX (0) dX3_statement_154 (by decide) ?_
                    exact g_retz hR (by decide) h dX3_statement_155
                  · refine g_iconst hX (1) dX3_statement_150 (by decide) ?_
                    refine g_goto hX 155 dX3_statement_151 (by decide) ?_
                    exact g_retz hR (by decide) h dX3_statement_155
              · refine g_aload_n hX 0 dX3_statement_127 rfl rfl ?_
                refine g_iconst hX (1) dX3_statement_128 (by decide) ?_
                refine g_callVI (As := [.int (1 : Int32)]) (rest := []) hX 18 (Nat.le_of_ble_eq_true rfl) rfl rfl miX3_sort mvX3_sort lkX3_100 (by decide) rfl (Nat.le_of_ble_eq_true rfl) rfl dX3_statement_129 (fun τ x ho => kX3_sort _ ho) h (fun σ_17 t_18 h => ?_)
                exact g_retzc hR h dX3_statement_132
            · refine g_aload_n hX 0 dX3_statement_112 rfl rfl ?_
              refine g_iconst hX (0) dX3_statement_113 (by decide) ?_
              refine g_callVI (As := [.int (0 : Int32)]) (rest := []) hX 18 (Nat.le_of_ble_eq_true rfl) rfl rfl miX3_sort mvX3_sort lkX3_100 (by decide) rfl (Nat.le_of_ble_eq_true rfl) rfl dX3_statement_114 (fun τ x ho => kX3_sort _ ho) h (fun σ_19 t_20 h => ?_)
              exact g_retzc hR h dX3_statement_117
          · refine g_iconst hX (0) dX3_statement_101 (by decide) ?_
            exact g_retz hR (by decide) h dX3_statement_102
        · refine g_aload_n hX 0 dX3_statement_51 rfl rfl ?_
          refine gCX3_15_18 hX dX3_statement_52 ?_
          refine g_aload_n hX 0 dX3_statement_55 rfl rfl ?_
          refine g_iconst hX (0) dX3_statement_56 (by decide) ?_
          refine g_bipush hX (99) dX3_statement_57 (by decide) ?_
          refine g_callVI (As := [.int (0 : Int32), .int (99 : Int32)]) (rest := [.ref (a 10)]) hX 18 (Nat.le_of_ble_eq_true rfl) rfl rfl miX3_number mvX3_number lkX3_87 (by decide) rfl (Nat.le_of_ble_eq_true rfl) rfl dX3_statement_59 (fun τ x ho => kX3_number _ ho) h (fun σ_21 t_22 h => ?_)
          refine pCX3_90_10 hX dX3_statement_62 h (fun σ_23 h => ?_)
          refine g_aload_n hX 0 dX3_statement_65 rfl rfl ?_
          refine gCX3_15_18 hX dX3_statement_66 ?_
          refine gCX3_90_10 hX dX3_statement_69 ?_
          refine g_iconst hX (-1) dX3_statement_72 (by decide) ?_
          refine g_icmp_eq hX 87 dX3_statement_73 (by decide) h (fun h => ?_) (fun h => ?_)
          · refine g_iconst hX (0) dX3_statement_87 (by decide) ?_
            exact g_retz hR (by decide) h dX3_statement_88
          · refine g_aload_n hX 0 dX3_statement_76 rfl rfl ?_
            refine g_callVI (As := []) (rest := []) hX 18 (Nat.le_of_ble_eq_true rfl) rfl rfl miX3_ended mvX3_ended lkX3_92 (by decide) rfl (Nat.le_of_ble_eq_true rfl) rfl dX3_statement_77 (fun τ x ho => kX3_ended _ ho) h (fun σ_24 t_25 h => ?_)
            refine g_if_eq hX 87 dX3_statement_80 (by decide) h (fun h => ?_) (fun h => ?_)
            · refine g_iconst hX (0) dX3_statement_87 (by decide) ?_
              exact g_retz hR (by decide) h dX3_statement_88
            · refine g_iconst hX (1) dX3_statement_83 (by decide) ?_
              refine g_goto hX 88 dX3_statement_84 (by decide) ?_
              exact g_retz hR (by decide) h dX3_statement_88
      · refine g_aload_n hX 0 dX3_statement_37 rfl rfl ?_
        refine g_callVI (As := []) (rest := []) hX 18 (Nat.le_of_ble_eq_true rfl) rfl rfl miX3_listing mvX3_listing lkX3_82 (by decide) rfl (Nat.le_of_ble_eq_true rfl) rfl dX3_statement_38 (fun τ x ho => kX3_listing _ ho) h (fun σ_26 t_27 h => ?_)
        exact g_retzc hR h dX3_statement_41
    · refine g_aload_n hX 0 dX3_statement_23 rfl rfl ?_
      refine g_callVI (As := []) (rest := []) hX 18 (Nat.le_of_ble_eq_true rfl) rfl rfl miX3_steps mvX3_steps lkX3_78 (by decide) rfl (Nat.le_of_ble_eq_true rfl) rfl dX3_statement_24 (fun τ x ho => kX3_steps _ ho) h (fun σ_28 t_29 h => ?_)
      exact g_retzc hR h dX3_statement_27
  · refine g_aload_n hX 0 dX3_statement_9 rfl rfl ?_
    refine g_callVI (As := []) (rest := []) hX 18 (Nat.le_of_ble_eq_true rfl) rfl rfl miX3_baker mvX3_baker lkX3_74 (by decide) rfl (Nat.le_of_ble_eq_true rfl) rfl dX3_statement_10 (fun τ x ho => kX3_baker _ ho) h (fun σ_30 t_31 h => ?_)
    exact g_retzc hR h dX3_statement_13
set_option maxRecDepth 20000 in
set_option maxHeartbeats 4000000 in
theorem kX3_statement (l : Launch) {a : Nat → Nat} {D : va_G} {tI tJ tB tS : ClassId} {kK kV : Nat → Nat} {σ τ : St}   {x : Int32} (h : fX3_statement σ  = some (τ, x)) : CtI l yX3_statement cX3_statement 1 (some .boolean) 8 176 (vC a D tI tJ tB tS kK kV) σ [.ref (a 18)] τ x := g_metZ (by decide) (Nat.le_of_ble_eq_true rfl) rfl (fun X _ hX hR => sX3_statement (r := (τ, x)) hX hR h)
def fX3_read_L31  (kx31 : St → Int32 → Option (St × Int32)) : Nat → St → Int32 → Option (St × Int32)
  | 0, _, _ => none
  | n31 + 1, σ, c2_31 =>
    (if (24 : Int32) < c2_31 then kx31 σ c2_31 else (if (σ.1 18 5) = 0 then kx31 σ c2_31 else (if (24 : Int32) ≤ (σ.1 10 7) then some (σ, (σ.1 18 4)) else cl (fX3_statement σ ) fun (σ_9 : St) (t_10 : Int32) => (if t_10 = 0 then some (σ_9, (σ_9.1 18 4)) else bnd (sI σ_9 10 7 ((σ_9.1 10 7) + (1 : Int32))) fun (σ_11 : St) => bnd (c2_31 + (1 : Int32)) fun (x2_12 : Int32) => fX3_read_L31 kx31 n31 σ_11 x2_12))))
def fX3_read (σ : St) (p1 : Int32) : Option (St × Int32) :=
  cl (fX6_empty_i10 σ ) fun (σ_1 : St) (t_2 : Unit) => bnd (if (800 : Int32) < p1 then (800 : Int32) else p1) fun (t_3 : Int32) => bnd (sI σ_1 18 2 t_3) fun (σ_4 : St) => bnd (sI σ_4 18 3 (0 : Int32)) fun (σ_5 : St) => cl (fX3_advance σ_5 ) fun (σ_6 : St) (t_7 : Unit) => bnd (0 : Int32) fun (x2_8 : Int32) => fX3_read_L31  (fun (σ_13 : St) (x2_14 : Int32) => (if (σ_13.1 10 0) ≤ 0 then some (σ_13, (σ_13.1 18 2)) else some (σ_13, (-1 : Int32)))) FU σ_6 x2_8
set_option maxRecDepth 20000 in
set_option maxHeartbeats 4000000 in
theorem sX3_read_L31 {X : CX} {a : Nat → Nat} {D : va_G} {tI tJ tB tS : ClassId} {kK kV : Nat → Nat}  {kx31 : St → Int32 → Option (St × Int32)} {r : St × Int32} (hX : OKX X (vC a D tI tJ tB tS kK kV) cX3_read 3 RX3 9 196) (hR : ∀ (pc : Nat) (lv : List (Nat × Value)), decode cX3_read pc = .ok (.ireturn, 1) → G X (vC a D tI tJ tB tS kK kV) 3 r.1 pc lv [.int r.2]) (hkx31 : ∀ (σ : St) (e2_31 : Int32), kx31 σ e2_31 = some r → G X (vC a D tI tJ tB tS kK kV) 3 σ 87 [(0, .ref (a 18))] []) : ∀ (n : Nat) (σ : St) (c2_31 : Int32), fX3_read_L31 kx31 n σ c2_31 = some r → G X (vC a D tI tJ tB tS kK kV) 3 σ 31 [(0, .ref (a 18)), (2, .int c2_31)] [] := by
  intro n
  induction n with
  | zero => intro σ c2_31 h; rw [fX3_read_L31] at h; exact absurd h (by simp)
  | succ n31 ih31 =>
    intro σ c2_31 h
    rw [fX3_read_L31] at h
    refine g_iload_n hX 1 dX3_read_31 rfl rfl ?_
    refine g_bipush hX (24) dX3_read_32 (by decide) ?_
    refine g_icmp_gt hX 87 dX3_read_34 (by decide) h (fun h => ?_) (fun h => ?_)
    · exact g_sub [0] rfl (hkx31 _ _ h)
    · refine g_aload_n hX 0 dX3_read_37 rfl rfl ?_
      refine gCX3_40_18 hX dX3_read_38 ?_
      refine g_if_eq hX 87 dX3_read_41 (by decide) h (fun h => ?_) (fun h => ?_)
      · exact g_sub [0] rfl (hkx31 _ _ h)
      · refine g_aload_n hX 0 dX3_read_44 rfl rfl ?_
        refine gCX3_15_18 hX dX3_read_45 ?_
        refine gCX3_43_10 hX dX3_read_48 ?_
        refine g_bipush hX (24) dX3_read_51 (by decide) ?_
        refine g_icmp_ge hX 63 dX3_read_53 (by decide) h (fun h => ?_) (fun h => ?_)
        · refine g_aload_n hX 0 dX3_read_63 rfl rfl ?_
          refine gCX3_50_18 hX dX3_read_64 ?_
          exact g_reti hR h dX3_read_67
        · refine g_aload_n hX 0 dX3_read_56 rfl rfl ?_
          refine g_callVI (As := []) (rest := []) hX 18 (Nat.le_of_ble_eq_true rfl) rfl rfl miX3_statement mvX3_statement lkX3_46 (by decide) rfl (Nat.le_of_ble_eq_true rfl) rfl dX3_read_57 (fun τ x ho => kX3_statement _ ho) h (fun σ_9 t_10 h => ?_)
          refine g_if_ne hX 68 dX3_read_60 (by decide) h (fun h => ?_) (fun h => ?_)
          · refine g_aload_n hX 0 dX3_read_68 rfl rfl ?_
            refine gCX3_15_18 hX dX3_read_69 ?_
            refine g_dup hX dX3_read_72 rfl ?_
            refine gCX3_43_10 hX dX3_read_73 ?_
            refine g_iconst hX (1) dX3_read_76 (by decide) ?_
            refine g_iadd hX dX3_read_77 ?_
            refine pCX3_43_10 hX dX3_read_78 h (fun σ_11 h => ?_)
            refine g_iinc (y := (1)) (lv' := fun x2_12 => [(2, .int x2_12), (0, .ref (a 18))]) hX 1 dX3_read_81 rfl (by decide) (by decide) (fun _ => rfl) h (fun x2_12 h => ?_)
            refine g_goto hX 31 dX3_read_84 (by decide) ?_
            exact g_sub [1, 0] rfl (ih31 _ _ h)
          · refine g_aload_n hX 0 dX3_read_63 rfl rfl ?_
            refine gCX3_50_18 hX dX3_read_64 ?_
            exact g_reti hR h dX3_read_67
set_option maxRecDepth 20000 in
set_option maxHeartbeats 4000000 in
theorem sX3_read {X : CX} {a : Nat → Nat} {D : va_G} {tI tJ tB tS : ClassId} {kK kV : Nat → Nat} {σ : St}  {p1 : Int32} {r : St × Int32} (hX : OKX X (vC a D tI tJ tB tS kK kV) cX3_read 3 RX3 9 196) (hR : ∀ (pc : Nat) (lv : List (Nat × Value)), decode cX3_read pc = .ok (.ireturn, 1) → G X (vC a D tI tJ tB tS kK kV) 3 r.1 pc lv [.int r.2])  (h : fX3_read σ p1 = some r) : G X (vC a D tI tJ tB tS kK kV) 3 σ 0 [(0, .ref (a 18)), (1, .int p1)] [] := by
  unfold fX3_read at h
  refine g_aload_n hX 0 dX3_read_0 rfl rfl ?_
  refine gCX3_15_18 hX dX3_read_1 ?_
  refine g_callNV (As := []) (rest := []) hX 10 (Nat.le_of_ble_eq_true rfl) rfl rfl miX6_empty mvX6_empty lkX3_19 (by decide) rfl (Nat.le_of_ble_eq_true rfl) rfl dX3_read_4 (fun τ x ho => kX6_empty_i10 _ ho) h (fun σ_1 t_2 h => ?_)
  refine g_aload_n hX 0 dX3_read_7 rfl rfl ?_
  refine g_iload_n hX 1 dX3_read_8 rfl rfl ?_
  refine g_aload_n hX 0 dX3_read_9 rfl rfl ?_
  refine gCX3_9_18 hX dX3_read_10 ?_
  refine lenC_1 hX dX3_read_13 ?_
  refine g_mmin hX lkX3_24 mathS_minI mathI mathC_minI (by decide) (by decide) (Nat.le_of_ble_eq_true rfl) dX3_read_14 h (fun t_3 h => ?_)
  refine pCX3_30_18 hX dX3_read_17 h (fun σ_4 h => ?_)
  refine g_aload_n hX 0 dX3_read_20 rfl rfl ?_
  refine g_iconst hX (0) dX3_read_21 (by decide) ?_
  refine pCX3_34_18 hX dX3_read_22 h (fun σ_5 h => ?_)
  refine g_aload_n hX 0 dX3_read_25 rfl rfl ?_
  refine g_callVV (As := []) (rest := []) hX 18 (Nat.le_of_ble_eq_true rfl) rfl rfl miX3_advance mvX3_advance lkX3_37 (by decide) rfl (Nat.le_of_ble_eq_true rfl) rfl dX3_read_26 (fun τ x ho => kX3_advance _ ho) h (fun σ_6 t_7 h => ?_)
  refine g_iconst hX (0) dX3_read_29 (by decide) ?_
  refine g_istore_n (lv' := fun x2_8 => [(2, .int x2_8), (0, .ref (a 18)), (1, .int p1)]) hX dX3_read_30 rfl (by decide) (fun _ => rfl) h (fun x2_8 h => ?_)
  refine g_sub [1, 0] rfl (sX3_read_L31 hX hR (fun σ_13 x2_14 h => ?_) FU _ _ h)
  refine g_aload_n hX 0 dX3_read_87 rfl rfl ?_
  refine gCX3_15_18 hX dX3_read_88 ?_
  refine gCX3_53_10 hX dX3_read_91 ?_
  refine g_if_le hX 101 dX3_read_94 (by decide) h (fun h => ?_) (fun h => ?_)
  · refine g_aload_n hX 0 dX3_read_101 rfl rfl ?_
    refine gCX3_30_18 hX dX3_read_102 ?_
    exact g_reti hR h dX3_read_105
  · refine g_iconst hX (-1) dX3_read_97 (by decide) ?_
    refine g_goto hX 105 dX3_read_98 (by decide) ?_
    exact g_reti hR h dX3_read_105
set_option maxRecDepth 20000 in
set_option maxHeartbeats 4000000 in
theorem kX3_read (l : Launch) {a : Nat → Nat} {D : va_G} {tI tJ tB tS : ClassId} {kK kV : Nat → Nat} {σ τ : St}  {p1 : Int32} {x : Int32} (h : fX3_read σ p1 = some (τ, x)) : CtI l yX3_read cX3_read 3 (some .int) 9 196 (vC a D tI tJ tB tS kK kV) σ [.ref (a 18), .int p1] τ x := g_metI (by decide) (Nat.le_of_ble_eq_true rfl) rfl (fun X _ hX hR => sX3_read (r := (τ, x)) hX hR h)
def fX6_shutDoors (σ : St)  : Option (St × Unit) :=
  bnd (cpI σ 7 9 (0 : Int32) (0 : Int32) (12 : Int32)) fun (σ_1 : St) => some (σ_1, ())
set_option maxRecDepth 20000 in
set_option maxHeartbeats 4000000 in
theorem sX6_shutDoors {X : CX} {a : Nat → Nat} {D : va_G} {tI tJ tB tS : ClassId} {kK kV : Nat → Nat} {σ : St}   {r : St × Unit} (hX : OKX X (vC a D tI tJ tB tS kK kV) cX6_shutDoors 1 RX6 1 60) (hR : ∀ (pc : Nat) (lv : List (Nat × Value)), decode cX6_shutDoors pc = .ok (.return_, 1) → G X (vC a D tI tJ tB tS kK kV) 1 r.1 pc lv [])  (h : fX6_shutDoors σ  = some r) : G X (vC a D tI tJ tB tS kK kV) 1 σ 0 [(0, .ref (a 2))] [] := by
  unfold fX6_shutDoors at h
  refine g_aload_n hX 0 dX6_shutDoors_0 rfl rfl ?_
  refine gCX6_25_2 hX dX6_shutDoors_1 ?_
  refine g_iconst hX (0) dX6_shutDoors_4 (by decide) ?_
  refine g_aload_n hX 0 dX6_shutDoors_5 rfl rfl ?_
  refine gCX6_31_2 hX dX6_shutDoors_6 ?_
  refine g_iconst hX (0) dX6_shutDoors_9 (by decide) ?_
  refine g_bipush hX (12) dX6_shutDoors_10 (by decide) ?_
  refine g_copyI (ty := .int) hX 7 9 0 lkX6_62 acN acS acI (Nat.le_of_ble_eq_true rfl) (Nat.le_of_ble_eq_true rfl) rfl rfl rfl rfl rfl (fun _ => rfl) (by decide) (by decide) (by decide) (by decide) (by decide) (by decide) (by decide) dX6_shutDoors_12 h (fun σ_1 h => ?_)
  exact g_retv hR h dX6_shutDoors_15
set_option maxRecDepth 20000 in
set_option maxHeartbeats 4000000 in
theorem kX6_shutDoors (l : Launch) {a : Nat → Nat} {D : va_G} {tI tJ tB tS : ClassId} {kK kV : Nat → Nat} {σ τ : St}   {x : Unit} (h : fX6_shutDoors σ  = some (τ, x)) : CtV l yX6_shutDoors cX6_shutDoors 1 none 1 60 (vC a D tI tJ tB tS kK kV) σ [.ref (a 2)] τ x := g_metV (by decide) (Nat.le_of_ble_eq_true rfl) rfl (fun X _ hX hR => sX6_shutDoors (r := (τ, x)) hX hR h)
def fX6_copyFrom_i10 (σ : St)  : Option (St × Unit) :=
  bnd (sI σ 2 0 (σ.1 10 0)) fun (σ_1 : St) => bnd (sI σ_1 2 1 (σ_1.1 10 1)) fun (σ_2 : St) => bnd (sI σ_2 2 2 (σ_2.1 10 2)) fun (σ_3 : St) => bnd (sI σ_3 2 3 (σ_3.1 10 3)) fun (σ_4 : St) => bnd (sI σ_4 2 4 (σ_4.1 10 4)) fun (σ_5 : St) => bnd (sI σ_5 2 5 (σ_5.1 10 5)) fun (σ_6 : St) => bnd (sI σ_6 2 6 (σ_6.1 10 6)) fun (σ_7 : St) => bnd (sI σ_7 2 7 (σ_7.1 10 7)) fun (σ_8 : St) => bnd (cpI σ_8 12 4 (0 : Int32) (0 : Int32) (4 : Int32)) fun (σ_9 : St) => bnd (cpI σ_9 13 5 (0 : Int32) (0 : Int32) (12 : Int32)) fun (σ_10 : St) => bnd (cpI σ_10 14 6 (0 : Int32) (0 : Int32) (12 : Int32)) fun (σ_11 : St) => bnd (cpI σ_11 15 7 (0 : Int32) (0 : Int32) (12 : Int32)) fun (σ_12 : St) => bnd (cpI σ_12 16 8 (0 : Int32) (0 : Int32) (12 : Int32)) fun (σ_13 : St) => cl (fX6_shutDoors σ_13 ) fun (σ_14 : St) (t_15 : Unit) => some (σ_14, ())
set_option maxRecDepth 20000 in
set_option maxHeartbeats 4000000 in
theorem sX6_copyFrom_i10 {X : CX} {a : Nat → Nat} {D : va_G} {tI tJ tB tS : ClassId} {kK kV : Nat → Nat} {σ : St}   {r : St × Unit} (hX : OKX X (vC a D tI tJ tB tS kK kV) cX6_copyFrom 2 RX6 2 80) (hR : ∀ (pc : Nat) (lv : List (Nat × Value)), decode cX6_copyFrom pc = .ok (.return_, 1) → G X (vC a D tI tJ tB tS kK kV) 2 r.1 pc lv [])  (h : fX6_copyFrom_i10 σ  = some r) : G X (vC a D tI tJ tB tS kK kV) 2 σ 0 [(0, .ref (a 2)), (1, .ref (a 10))] [] := by
  unfold fX6_copyFrom_i10 at h
  refine g_aload_n hX 0 dX6_copyFrom_0 rfl rfl ?_
  refine g_aload_n hX 1 dX6_copyFrom_1 rfl rfl ?_
  refine gCX6_37_10 hX dX6_copyFrom_2 ?_
  refine pCX6_37_2 hX dX6_copyFrom_5 h (fun σ_1 h => ?_)
  refine g_aload_n hX 0 dX6_copyFrom_8 rfl rfl ?_
  refine g_aload_n hX 1 dX6_copyFrom_9 rfl rfl ?_
  refine gCX6_41_10 hX dX6_copyFrom_10 ?_
  refine pCX6_41_2 hX dX6_copyFrom_13 h (fun σ_2 h => ?_)
  refine g_aload_n hX 0 dX6_copyFrom_16 rfl rfl ?_
  refine g_aload_n hX 1 dX6_copyFrom_17 rfl rfl ?_
  refine gCX6_44_10 hX dX6_copyFrom_18 ?_
  refine pCX6_44_2 hX dX6_copyFrom_21 h (fun σ_3 h => ?_)
  refine g_aload_n hX 0 dX6_copyFrom_24 rfl rfl ?_
  refine g_aload_n hX 1 dX6_copyFrom_25 rfl rfl ?_
  refine gCX6_47_10 hX dX6_copyFrom_26 ?_
  refine pCX6_47_2 hX dX6_copyFrom_29 h (fun σ_4 h => ?_)
  refine g_aload_n hX 0 dX6_copyFrom_32 rfl rfl ?_
  refine g_aload_n hX 1 dX6_copyFrom_33 rfl rfl ?_
  refine gCX6_50_10 hX dX6_copyFrom_34 ?_
  refine pCX6_50_2 hX dX6_copyFrom_37 h (fun σ_5 h => ?_)
  refine g_aload_n hX 0 dX6_copyFrom_40 rfl rfl ?_
  refine g_aload_n hX 1 dX6_copyFrom_41 rfl rfl ?_
  refine gCX6_53_10 hX dX6_copyFrom_42 ?_
  refine pCX6_53_2 hX dX6_copyFrom_45 h (fun σ_6 h => ?_)
  refine g_aload_n hX 0 dX6_copyFrom_48 rfl rfl ?_
  refine g_aload_n hX 1 dX6_copyFrom_49 rfl rfl ?_
  refine gCX6_56_10 hX dX6_copyFrom_50 ?_
  refine pCX6_56_2 hX dX6_copyFrom_53 h (fun σ_7 h => ?_)
  refine g_aload_n hX 0 dX6_copyFrom_56 rfl rfl ?_
  refine g_aload_n hX 1 dX6_copyFrom_57 rfl rfl ?_
  refine gCX6_59_10 hX dX6_copyFrom_58 ?_
  refine pCX6_59_2 hX dX6_copyFrom_61 h (fun σ_8 h => ?_)
  refine g_aload_n hX 1 dX6_copyFrom_64 rfl rfl ?_
  refine gCX6_15_10 hX dX6_copyFrom_65 ?_
  refine g_iconst hX (0) dX6_copyFrom_68 (by decide) ?_
  refine g_aload_n hX 0 dX6_copyFrom_69 rfl rfl ?_
  refine gCX6_15_2 hX dX6_copyFrom_70 ?_
  refine g_iconst hX (0) dX6_copyFrom_73 (by decide) ?_
  refine g_iconst hX (4) dX6_copyFrom_74 (by decide) ?_
  refine g_copyI (ty := .int) hX 12 4 0 lkX6_62 acN acS acI (Nat.le_of_ble_eq_true rfl) (Nat.le_of_ble_eq_true rfl) rfl rfl rfl rfl rfl (fun _ => rfl) (by decide) (by decide) (by decide) (by decide) (by decide) (by decide) (by decide) dX6_copyFrom_75 h (fun σ_9 h => ?_)
  refine g_aload_n hX 1 dX6_copyFrom_78 rfl rfl ?_
  refine gCX6_19_10 hX dX6_copyFrom_79 ?_
  refine g_iconst hX (0) dX6_copyFrom_82 (by decide) ?_
  refine g_aload_n hX 0 dX6_copyFrom_83 rfl rfl ?_
  refine gCX6_19_2 hX dX6_copyFrom_84 ?_
  refine g_iconst hX (0) dX6_copyFrom_87 (by decide) ?_
  refine g_bipush hX (12) dX6_copyFrom_88 (by decide) ?_
  refine g_copyI (ty := .int) hX 13 5 0 lkX6_62 acN acS acI (Nat.le_of_ble_eq_true rfl) (Nat.le_of_ble_eq_true rfl) rfl rfl rfl rfl rfl (fun _ => rfl) (by decide) (by decide) (by decide) (by decide) (by decide) (by decide) (by decide) dX6_copyFrom_90 h (fun σ_10 h => ?_)
  refine g_aload_n hX 1 dX6_copyFrom_93 rfl rfl ?_
  refine gCX6_22_10 hX dX6_copyFrom_94 ?_
  refine g_iconst hX (0) dX6_copyFrom_97 (by decide) ?_
  refine g_aload_n hX 0 dX6_copyFrom_98 rfl rfl ?_
  refine gCX6_22_2 hX dX6_copyFrom_99 ?_
  refine g_iconst hX (0) dX6_copyFrom_102 (by decide) ?_
  refine g_bipush hX (12) dX6_copyFrom_103 (by decide) ?_
  refine g_copyI (ty := .int) hX 14 6 0 lkX6_62 acN acS acI (Nat.le_of_ble_eq_true rfl) (Nat.le_of_ble_eq_true rfl) rfl rfl rfl rfl rfl (fun _ => rfl) (by decide) (by decide) (by decide) (by decide) (by decide) (by decide) (by decide) dX6_copyFrom_105 h (fun σ_11 h => ?_)
  refine g_aload_n hX 1 dX6_copyFrom_108 rfl rfl ?_
  refine gCX6_25_10 hX dX6_copyFrom_109 ?_
  refine g_iconst hX (0) dX6_copyFrom_112 (by decide) ?_
  refine g_aload_n hX 0 dX6_copyFrom_113 rfl rfl ?_
  refine gCX6_25_2 hX dX6_copyFrom_114 ?_
  refine g_iconst hX (0) dX6_copyFrom_117 (by decide) ?_
  refine g_bipush hX (12) dX6_copyFrom_118 (by decide) ?_
  refine g_copyI (ty := .int) hX 15 7 0 lkX6_62 acN acS acI (Nat.le_of_ble_eq_true rfl) (Nat.le_of_ble_eq_true rfl) rfl rfl rfl rfl rfl (fun _ => rfl) (by decide) (by decide) (by decide) (by decide) (by decide) (by decide) (by decide) dX6_copyFrom_120 h (fun σ_12 h => ?_)
  refine g_aload_n hX 1 dX6_copyFrom_123 rfl rfl ?_
  refine gCX6_28_10 hX dX6_copyFrom_124 ?_
  refine g_iconst hX (0) dX6_copyFrom_127 (by decide) ?_
  refine g_aload_n hX 0 dX6_copyFrom_128 rfl rfl ?_
  refine gCX6_28_2 hX dX6_copyFrom_129 ?_
  refine g_iconst hX (0) dX6_copyFrom_132 (by decide) ?_
  refine g_bipush hX (12) dX6_copyFrom_133 (by decide) ?_
  refine g_copyI (ty := .int) hX 16 8 0 lkX6_62 acN acS acI (Nat.le_of_ble_eq_true rfl) (Nat.le_of_ble_eq_true rfl) rfl rfl rfl rfl rfl (fun _ => rfl) (by decide) (by decide) (by decide) (by decide) (by decide) (by decide) (by decide) dX6_copyFrom_135 h (fun σ_13 h => ?_)
  refine g_aload_n hX 0 dX6_copyFrom_138 rfl rfl ?_
  refine g_callVV (As := []) (rest := []) hX 2 (Nat.le_of_ble_eq_true rfl) rfl rfl miX6_shutDoors mvX6_shutDoors lkX6_68 (by decide) rfl (Nat.le_of_ble_eq_true rfl) rfl dX6_copyFrom_139 (fun τ x ho => kX6_shutDoors _ ho) h (fun σ_14 t_15 h => ?_)
  exact g_retv hR h dX6_copyFrom_142
set_option maxRecDepth 20000 in
set_option maxHeartbeats 4000000 in
theorem kX6_copyFrom_i10 (l : Launch) {a : Nat → Nat} {D : va_G} {tI tJ tB tS : ClassId} {kK kV : Nat → Nat} {σ τ : St}   {x : Unit} (h : fX6_copyFrom_i10 σ  = some (τ, x)) : CtV l yX6_copyFrom cX6_copyFrom 2 none 2 80 (vC a D tI tJ tB tS kK kV) σ [.ref (a 2), .ref (a 10)] τ x := g_metV (by decide) (Nat.le_of_ble_eq_true rfl) rfl (fun X _ hX hR => sX6_copyFrom_i10 (r := (τ, x)) hX hR h)
