def fJ7_fill_53178_i23_L5 (q1_5 : Int32) (q3_5 : Int32) (kx5 : St → Int32 → Option (St × Unit)) : Nat → St → Int32 → Option (St × Unit)
  | 0, _, _ => none
  | n5 + 1, σ, c2_5 =>
    (if q3_5 ≤ c2_5 then kx5 σ c2_5 else chk (inb c2_5 4) (bnd (sI σ 23 (ix c2_5) q1_5) fun (σ_3 : St) => bnd (c2_5 + (1 : Int32)) fun (x2_4 : Int32) => fJ7_fill_53178_i23_L5 q1_5 q3_5 kx5 n5 σ_3 x2_4))
def fJ7_fill_53178_i23 (σ : St) (p2 : Int32) : Option (St × Unit) :=
  bnd (0 : Int32) fun (x2_1 : Int32) => bnd (4 : Int32) fun (x3_2 : Int32) => fJ7_fill_53178_i23_L5 p2 x3_2 (fun (σ_5 : St) (x2_6 : Int32) => some (σ_5, ())) FU σ x2_1
set_option maxRecDepth 20000 in
set_option maxHeartbeats 4000000 in
theorem sJ7_fill_53178_i23_L5 {X : CX} {a : Nat → Nat} {D : va_G} {tI tJ tB tS : ClassId} {kK kV : Nat → Nat} {q1_5 : Int32} {q3_5 : Int32} {kx5 : St → Int32 → Option (St × Unit)} {r : St × Unit} (hX : OKX X (vC a D tI tJ tB tS kK kV) cJ7_fill_53178 4 RJ7 0 0) (hR : ∀ (pc : Nat) (lv : List (Nat × Value)), decode cJ7_fill_53178 pc = .ok (.return_, 1) → G X (vC a D tI tJ tB tS kK kV) 4 r.1 pc lv []) (hkx5 : ∀ (σ : St) (e2_5 : Int32), kx5 σ e2_5 = some r → G X (vC a D tI tJ tB tS kK kV) 4 σ 20 [] []) : ∀ (n : Nat) (σ : St) (c2_5 : Int32), fJ7_fill_53178_i23_L5 q1_5 q3_5 kx5 n σ c2_5 = some r → G X (vC a D tI tJ tB tS kK kV) 4 σ 5 [(0, .ref (a 23)), (1, .int q1_5), (3, .int q3_5), (2, .int c2_5)] [] := by
  intro n
  induction n with
  | zero => intro σ c2_5 h; rw [fJ7_fill_53178_i23_L5] at h; exact absurd h (by simp)
  | succ n5 ih5 =>
    intro σ c2_5 h
    rw [fJ7_fill_53178_i23_L5] at h
    refine g_iload_n hX 3 dJ7_fill_53178_5 rfl rfl ?_
    refine g_iload_n hX 2 dJ7_fill_53178_6 rfl rfl ?_
    refine g_icmp_ge hX 20 dJ7_fill_53178_7 (by decide) h (fun h => ?_) (fun h => ?_)
    · exact g_sub [] rfl (hkx5 _ _ h)
    · refine g_aload_n hX 0 dJ7_fill_53178_10 rfl rfl ?_
      refine g_iload_n hX 3 dJ7_fill_53178_11 rfl rfl ?_
      refine g_iload_n hX 1 dJ7_fill_53178_12 rfl rfl ?_
      refine asC_23 hX dJ7_fill_53178_13 h (fun σ_3 h => ?_)
      refine g_iinc (y := (1)) (lv' := fun x2_4 => [(2, .int x2_4), (0, .ref (a 23)), (1, .int q1_5), (3, .int q3_5)]) hX 3 dJ7_fill_53178_14 rfl (by decide) (by decide) (fun _ => rfl) h (fun x2_4 h => ?_)
      refine g_goto hX 5 dJ7_fill_53178_17 (by decide) ?_
      exact g_sub [1, 2, 3, 0] rfl (ih5 _ _ h)
set_option maxRecDepth 20000 in
set_option maxHeartbeats 4000000 in
theorem sJ7_fill_53178_i23 {X : CX} {a : Nat → Nat} {D : va_G} {tI tJ tB tS : ClassId} {kK kV : Nat → Nat} {σ : St}  {p2 : Int32} {r : St × Unit} (hX : OKX X (vC a D tI tJ tB tS kK kV) cJ7_fill_53178 4 RJ7 0 0) (hR : ∀ (pc : Nat) (lv : List (Nat × Value)), decode cJ7_fill_53178 pc = .ok (.return_, 1) → G X (vC a D tI tJ tB tS kK kV) 4 r.1 pc lv [])  (h : fJ7_fill_53178_i23 σ p2 = some r) : G X (vC a D tI tJ tB tS kK kV) 4 σ 0 [(0, .ref (a 23)), (1, .int p2)] [] := by
  unfold fJ7_fill_53178_i23 at h
  refine g_iconst hX (0) dJ7_fill_53178_0 (by decide) ?_
  refine g_istore_n (lv' := fun x2_1 => [(2, .int x2_1), (0, .ref (a 23)), (1, .int p2)]) hX dJ7_fill_53178_1 rfl (by decide) (fun _ => rfl) h (fun x2_1 h => ?_)
  refine g_aload_n hX 1 dJ7_fill_53178_2 rfl rfl ?_
  refine lenC_23 hX dJ7_fill_53178_3 ?_
  refine g_istore_n (lv' := fun x3_2 => [(3, .int x3_2), (2, .int x2_1), (0, .ref (a 23)), (1, .int p2)]) hX dJ7_fill_53178_4 rfl (by decide) (fun _ => rfl) h (fun x3_2 h => ?_)
  refine g_sub [2, 3, 0, 1] rfl (sJ7_fill_53178_i23_L5 hX hR (fun σ_5 x2_6 h => ?_) FU _ _ h)
  exact g_retv hR h dJ7_fill_53178_20
set_option maxRecDepth 20000 in
set_option maxHeartbeats 4000000 in
theorem kJ7_fill_53178_i23 (l : Launch) {a : Nat → Nat} {D : va_G} {tI tJ tB tS : ClassId} {kK kV : Nat → Nat} {σ τ : St}  {p2 : Int32} {x : Unit} (h : fJ7_fill_53178_i23 σ p2 = some (τ, x)) : CtV l yJ7_fill_53178 cJ7_fill_53178 4 none 0 0 (vC a D tI tJ tB tS kK kV) σ [.ref (a 23), .int p2] τ x := g_metV (by decide) (Nat.le_of_ble_eq_true rfl) rfl (fun X _ hX hR => sJ7_fill_53178_i23 (r := (τ, x)) hX hR h)
def fJ7_fill_53178_i24_L5 (q1_5 : Int32) (q3_5 : Int32) (kx5 : St → Int32 → Option (St × Unit)) : Nat → St → Int32 → Option (St × Unit)
  | 0, _, _ => none
  | n5 + 1, σ, c2_5 =>
    (if q3_5 ≤ c2_5 then kx5 σ c2_5 else chk (inb c2_5 32) (bnd (sI σ 24 (ix c2_5) q1_5) fun (σ_3 : St) => bnd (c2_5 + (1 : Int32)) fun (x2_4 : Int32) => fJ7_fill_53178_i24_L5 q1_5 q3_5 kx5 n5 σ_3 x2_4))
def fJ7_fill_53178_i24 (σ : St) (p2 : Int32) : Option (St × Unit) :=
  bnd (0 : Int32) fun (x2_1 : Int32) => bnd (32 : Int32) fun (x3_2 : Int32) => fJ7_fill_53178_i24_L5 p2 x3_2 (fun (σ_5 : St) (x2_6 : Int32) => some (σ_5, ())) FU σ x2_1
set_option maxRecDepth 20000 in
set_option maxHeartbeats 4000000 in
theorem sJ7_fill_53178_i24_L5 {X : CX} {a : Nat → Nat} {D : va_G} {tI tJ tB tS : ClassId} {kK kV : Nat → Nat} {q1_5 : Int32} {q3_5 : Int32} {kx5 : St → Int32 → Option (St × Unit)} {r : St × Unit} (hX : OKX X (vC a D tI tJ tB tS kK kV) cJ7_fill_53178 4 RJ7 0 0) (hR : ∀ (pc : Nat) (lv : List (Nat × Value)), decode cJ7_fill_53178 pc = .ok (.return_, 1) → G X (vC a D tI tJ tB tS kK kV) 4 r.1 pc lv []) (hkx5 : ∀ (σ : St) (e2_5 : Int32), kx5 σ e2_5 = some r → G X (vC a D tI tJ tB tS kK kV) 4 σ 20 [] []) : ∀ (n : Nat) (σ : St) (c2_5 : Int32), fJ7_fill_53178_i24_L5 q1_5 q3_5 kx5 n σ c2_5 = some r → G X (vC a D tI tJ tB tS kK kV) 4 σ 5 [(0, .ref (a 24)), (1, .int q1_5), (3, .int q3_5), (2, .int c2_5)] [] := by
  intro n
  induction n with
  | zero => intro σ c2_5 h; rw [fJ7_fill_53178_i24_L5] at h; exact absurd h (by simp)
  | succ n5 ih5 =>
    intro σ c2_5 h
    rw [fJ7_fill_53178_i24_L5] at h
    refine g_iload_n hX 3 dJ7_fill_53178_5 rfl rfl ?_
    refine g_iload_n hX 2 dJ7_fill_53178_6 rfl rfl ?_
    refine g_icmp_ge hX 20 dJ7_fill_53178_7 (by decide) h (fun h => ?_) (fun h => ?_)
    · exact g_sub [] rfl (hkx5 _ _ h)
    · refine g_aload_n hX 0 dJ7_fill_53178_10 rfl rfl ?_
      refine g_iload_n hX 3 dJ7_fill_53178_11 rfl rfl ?_
      refine g_iload_n hX 1 dJ7_fill_53178_12 rfl rfl ?_
      refine asC_24 hX dJ7_fill_53178_13 h (fun σ_3 h => ?_)
      refine g_iinc (y := (1)) (lv' := fun x2_4 => [(2, .int x2_4), (0, .ref (a 24)), (1, .int q1_5), (3, .int q3_5)]) hX 3 dJ7_fill_53178_14 rfl (by decide) (by decide) (fun _ => rfl) h (fun x2_4 h => ?_)
      refine g_goto hX 5 dJ7_fill_53178_17 (by decide) ?_
      exact g_sub [1, 2, 3, 0] rfl (ih5 _ _ h)
set_option maxRecDepth 20000 in
set_option maxHeartbeats 4000000 in
theorem sJ7_fill_53178_i24 {X : CX} {a : Nat → Nat} {D : va_G} {tI tJ tB tS : ClassId} {kK kV : Nat → Nat} {σ : St}  {p2 : Int32} {r : St × Unit} (hX : OKX X (vC a D tI tJ tB tS kK kV) cJ7_fill_53178 4 RJ7 0 0) (hR : ∀ (pc : Nat) (lv : List (Nat × Value)), decode cJ7_fill_53178 pc = .ok (.return_, 1) → G X (vC a D tI tJ tB tS kK kV) 4 r.1 pc lv [])  (h : fJ7_fill_53178_i24 σ p2 = some r) : G X (vC a D tI tJ tB tS kK kV) 4 σ 0 [(0, .ref (a 24)), (1, .int p2)] [] := by
  unfold fJ7_fill_53178_i24 at h
  refine g_iconst hX (0) dJ7_fill_53178_0 (by decide) ?_
  refine g_istore_n (lv' := fun x2_1 => [(2, .int x2_1), (0, .ref (a 24)), (1, .int p2)]) hX dJ7_fill_53178_1 rfl (by decide) (fun _ => rfl) h (fun x2_1 h => ?_)
  refine g_aload_n hX 1 dJ7_fill_53178_2 rfl rfl ?_
  refine lenC_24 hX dJ7_fill_53178_3 ?_
  refine g_istore_n (lv' := fun x3_2 => [(3, .int x3_2), (2, .int x2_1), (0, .ref (a 24)), (1, .int p2)]) hX dJ7_fill_53178_4 rfl (by decide) (fun _ => rfl) h (fun x3_2 h => ?_)
  refine g_sub [2, 3, 0, 1] rfl (sJ7_fill_53178_i24_L5 hX hR (fun σ_5 x2_6 h => ?_) FU _ _ h)
  exact g_retv hR h dJ7_fill_53178_20
set_option maxRecDepth 20000 in
set_option maxHeartbeats 4000000 in
theorem kJ7_fill_53178_i24 (l : Launch) {a : Nat → Nat} {D : va_G} {tI tJ tB tS : ClassId} {kK kV : Nat → Nat} {σ τ : St}  {p2 : Int32} {x : Unit} (h : fJ7_fill_53178_i24 σ p2 = some (τ, x)) : CtV l yJ7_fill_53178 cJ7_fill_53178 4 none 0 0 (vC a D tI tJ tB tS kK kV) σ [.ref (a 24), .int p2] τ x := g_metV (by decide) (Nat.le_of_ble_eq_true rfl) rfl (fun X _ hX hR => sJ7_fill_53178_i24 (r := (τ, x)) hX hR h)
def fX5_begin_i2 (σ : St)  : Option (St × Unit) :=
  cl (fJ7_fill_53178_i23 σ (0 : Int32)) fun (σ_1 : St) (t_2 : Unit) => cl (fJ7_fill_53178_i24 σ_1 (0 : Int32)) fun (σ_3 : St) (t_4 : Unit) => bnd (cpI σ_3 4 25 (0 : Int32) (0 : Int32) (4 : Int32)) fun (σ_5 : St) => bnd (sI σ_5 22 3 (0 : Int32)) fun (σ_6 : St) => bnd (sI σ_6 22 4 (-1 : Int32)) fun (σ_7 : St) => some (σ_7, ())
set_option maxRecDepth 20000 in
set_option maxHeartbeats 4000000 in
theorem sX5_begin_i2 {X : CX} {a : Nat → Nat} {D : va_G} {tI tJ tB tS : ClassId} {kK kV : Nat → Nat} {σ : St}   {r : St × Unit} (hX : OKX X (vC a D tI tJ tB tS kK kV) cX5_begin 2 RX5 1 60) (hR : ∀ (pc : Nat) (lv : List (Nat × Value)), decode cX5_begin pc = .ok (.return_, 1) → G X (vC a D tI tJ tB tS kK kV) 2 r.1 pc lv [])  (h : fX5_begin_i2 σ  = some r) : G X (vC a D tI tJ tB tS kK kV) 2 σ 0 [(0, .ref (a 22)), (1, .ref (a 2))] [] := by
  unfold fX5_begin_i2 at h
  refine g_aload_n hX 0 dX5_begin_0 rfl rfl ?_
  refine gCX5_9_22 hX dX5_begin_1 ?_
  refine g_iconst hX (0) dX5_begin_4 (by decide) ?_
  refine g_callSV (As := [.ref (a 23), .int (0 : Int32)]) (rest := []) hX miJ7_fill_53178 mvJ7_fill_53178 lkX5_28 (by decide) rfl (Nat.le_of_ble_eq_true rfl) rfl dX5_begin_5 (fun τ x ho => kJ7_fill_53178_i23 _ ho) h (fun σ_1 t_2 h => ?_)
  refine g_aload_n hX 0 dX5_begin_8 rfl rfl ?_
  refine gCX5_15_22 hX dX5_begin_9 ?_
  refine g_iconst hX (0) dX5_begin_12 (by decide) ?_
  refine g_callSV (As := [.ref (a 24), .int (0 : Int32)]) (rest := []) hX miJ7_fill_53178 mvJ7_fill_53178 lkX5_28 (by decide) rfl (Nat.le_of_ble_eq_true rfl) rfl dX5_begin_13 (fun τ x ho => kJ7_fill_53178_i24 _ ho) h (fun σ_3 t_4 h => ?_)
  refine g_aload_n hX 1 dX5_begin_16 rfl rfl ?_
  refine gCX5_34_2 hX dX5_begin_17 ?_
  refine g_iconst hX (0) dX5_begin_20 (by decide) ?_
  refine g_aload_n hX 0 dX5_begin_21 rfl rfl ?_
  refine gCX5_18_22 hX dX5_begin_22 ?_
  refine g_iconst hX (0) dX5_begin_25 (by decide) ?_
  refine g_iconst hX (4) dX5_begin_26 (by decide) ?_
  refine g_copyI (ty := .int) hX 4 25 0 lkX5_37 acN acS acI (Nat.le_of_ble_eq_true rfl) (Nat.le_of_ble_eq_true rfl) rfl rfl rfl rfl rfl (fun _ => rfl) (by decide) (by decide) (by decide) (by decide) (by decide) (by decide) (by decide) dX5_begin_27 h (fun σ_5 h => ?_)
  refine g_aload_n hX 0 dX5_begin_30 rfl rfl ?_
  refine g_iconst hX (0) dX5_begin_31 (by decide) ?_
  refine pCX5_21_22 hX dX5_begin_32 h (fun σ_6 h => ?_)
  refine g_aload_n hX 0 dX5_begin_35 rfl rfl ?_
  refine g_iconst hX (-1) dX5_begin_36 (by decide) ?_
  refine pCX5_25_22 hX dX5_begin_37 h (fun σ_7 h => ?_)
  exact g_retv hR h dX5_begin_40
set_option maxRecDepth 20000 in
set_option maxHeartbeats 4000000 in
theorem kX5_begin_i2 (l : Launch) {a : Nat → Nat} {D : va_G} {tI tJ tB tS : ClassId} {kK kV : Nat → Nat} {σ τ : St}   {x : Unit} (h : fX5_begin_i2 σ  = some (τ, x)) : CtV l yX5_begin cX5_begin 2 none 1 60 (vC a D tI tJ tB tS kK kV) σ [.ref (a 22), .ref (a 2)] τ x := g_metV (by decide) (Nat.le_of_ble_eq_true rfl) rfl (fun X _ hX hR => sX5_begin_i2 (r := (τ, x)) hX hR h)
def fX2_forget (σ : St)  : Option (St × Unit) :=
  bnd (sI σ 19 0 (0 : Int32)) fun (σ_1 : St) => some (σ_1, ())
set_option maxRecDepth 20000 in
set_option maxHeartbeats 4000000 in
theorem sX2_forget {X : CX} {a : Nat → Nat} {D : va_G} {tI tJ tB tS : ClassId} {kK kV : Nat → Nat} {σ : St}   {r : St × Unit} (hX : OKX X (vC a D tI tJ tB tS kK kV) cX2_forget 1 RX2 0 0) (hR : ∀ (pc : Nat) (lv : List (Nat × Value)), decode cX2_forget pc = .ok (.return_, 1) → G X (vC a D tI tJ tB tS kK kV) 1 r.1 pc lv [])  (h : fX2_forget σ  = some r) : G X (vC a D tI tJ tB tS kK kV) 1 σ 0 [(0, .ref (a 19))] [] := by
  unfold fX2_forget at h
  refine g_aload_n hX 0 dX2_forget_0 rfl rfl ?_
  refine g_iconst hX (0) dX2_forget_1 (by decide) ?_
  refine pCX2_9_19 hX dX2_forget_2 h (fun σ_1 h => ?_)
  exact g_retv hR h dX2_forget_5
set_option maxRecDepth 20000 in
set_option maxHeartbeats 4000000 in
theorem kX2_forget (l : Launch) {a : Nat → Nat} {D : va_G} {tI tJ tB tS : ClassId} {kK kV : Nat → Nat} {σ τ : St}   {x : Unit} (h : fX2_forget σ  = some (τ, x)) : CtV l yX2_forget cX2_forget 1 none 0 0 (vC a D tI tJ tB tS kK kV) σ [.ref (a 19)] τ x := g_metV (by decide) (Nat.le_of_ble_eq_true rfl) rfl (fun X _ hX hR => sX2_forget (r := (τ, x)) hX hR h)
def fX4_forget (σ : St)  : Option (St × Unit) :=
  chk (isB (0 : Int32)) (bnd (sI σ 53 9 (0 : Int32)) fun (σ_1 : St) => some (σ_1, ()))
set_option maxRecDepth 20000 in
set_option maxHeartbeats 4000000 in
theorem sX4_forget {X : CX} {a : Nat → Nat} {D : va_G} {tI tJ tB tS : ClassId} {kK kV : Nat → Nat} {σ : St}   {r : St × Unit} (hX : OKX X (vC a D tI tJ tB tS kK kV) cX4_forget 1 RX4 0 0) (hR : ∀ (pc : Nat) (lv : List (Nat × Value)), decode cX4_forget pc = .ok (.return_, 1) → G X (vC a D tI tJ tB tS kK kV) 1 r.1 pc lv [])  (h : fX4_forget σ  = some r) : G X (vC a D tI tJ tB tS kK kV) 1 σ 0 [(0, .ref (a 53))] [] := by
  unfold fX4_forget at h
  refine g_aload_n hX 0 dX4_forget_0 rfl rfl ?_
  refine g_iconst hX (0) dX4_forget_1 (by decide) ?_
  refine pCX4_44_53 hX dX4_forget_2 h (fun σ_1 h => ?_)
  exact g_retv hR h dX4_forget_5
set_option maxRecDepth 20000 in
set_option maxHeartbeats 4000000 in
theorem kX4_forget (l : Launch) {a : Nat → Nat} {D : va_G} {tI tJ tB tS : ClassId} {kK kV : Nat → Nat} {σ τ : St}   {x : Unit} (h : fX4_forget σ  = some (τ, x)) : CtV l yX4_forget cX4_forget 1 none 0 0 (vC a D tI tJ tB tS kK kV) σ [.ref (a 53)] τ x := g_metV (by decide) (Nat.le_of_ble_eq_true rfl) rfl (fun X _ hX hR => sX4_forget (r := (τ, x)) hX hR h)
def fX8_street (σ : St) (p1 : Int32) : Option (St × Int32) :=
  (if p1 < 0 then some (σ, (-2 : Int32)) else (if p1 ≤ (σ.1 0 11) then bnd (sI σ 0 11 (0 : Int32)) fun (σ_1 : St) => cl (fX3_read σ_1 p1) fun (σ_2 : St) (t_3 : Int32) => bnd (sI σ_2 0 12 t_3) fun (σ_4 : St) => (if (σ_4.1 0 12) = (-1 : Int32) then cl (fX6_copyFrom_i10 σ_4 ) fun (σ_5 : St) (t_6 : Unit) => cl (fX5_begin_i2 σ_5 ) fun (σ_7 : St) (t_8 : Unit) => cl (fX2_forget σ_7 ) fun (σ_9 : St) (t_10 : Unit) => cl (fX4_forget σ_9 ) fun (σ_11 : St) (t_12 : Unit) => bnd (sI σ_11 0 14 (0 : Int32)) fun (σ_13 : St) => bnd (sI σ_13 0 13 ((σ_13.1 0 13) + (1 : Int32))) fun (σ_14 : St) => some (σ_14, (σ_14.1 2 0)) else some (σ_4, (-1 : Int32))) else some (σ, (-2 : Int32))))
set_option maxRecDepth 20000 in
set_option maxHeartbeats 4000000 in
theorem sX8_street {X : CX} {a : Nat → Nat} {D : va_G} {tI tJ tB tS : ClassId} {kK kV : Nat → Nat} {σ : St}  {p1 : Int32} {r : St × Int32} (hX : OKX X (vC a D tI tJ tB tS kK kV) cX8_street 2 RX8 10 218) (hR : ∀ (pc : Nat) (lv : List (Nat × Value)), decode cX8_street pc = .ok (.ireturn, 1) → G X (vC a D tI tJ tB tS kK kV) 2 r.1 pc lv [.int r.2])  (h : fX8_street σ p1 = some r) : G X (vC a D tI tJ tB tS kK kV) 2 σ 0 [(0, .ref (a 0)), (1, .int p1)] [] := by
  unfold fX8_street at h
  refine g_iload_n hX 1 dX8_street_0 rfl rfl ?_
  refine g_if_lt hX 12 dX8_street_1 (by decide) h (fun h => ?_) (fun h => ?_)
  · refine g_bipush hX (-2) dX8_street_12 (by decide) ?_
    exact g_reti hR h dX8_street_14
  · refine g_iload_n hX 1 dX8_street_4 rfl rfl ?_
    refine g_aload_n hX 0 dX8_street_5 rfl rfl ?_
    refine gCX8_86_0 hX dX8_street_6 ?_
    refine g_icmp_le hX 15 dX8_street_9 (by decide) h (fun h => ?_) (fun h => ?_)
    · refine g_aload_n hX 0 dX8_street_15 rfl rfl ?_
      refine g_iconst hX (0) dX8_street_16 (by decide) ?_
      refine pCX8_86_0 hX dX8_street_17 h (fun σ_1 h => ?_)
      refine g_aload_n hX 0 dX8_street_20 rfl rfl ?_
      refine g_aload_n hX 0 dX8_street_21 rfl rfl ?_
      refine gCX8_39_0 hX dX8_street_22 ?_
      refine g_iload_n hX 1 dX8_street_25 rfl rfl ?_
      refine g_callNI (As := [.int p1]) (rest := [.ref (a 0)]) hX 18 (Nat.le_of_ble_eq_true rfl) rfl rfl miX3_read mvX3_read lkX8_103 (by decide) rfl (Nat.le_of_ble_eq_true rfl) rfl dX8_street_26 (fun τ x ho => kX3_read _ ho) h (fun σ_2 t_3 h => ?_)
      refine pCX8_90_0 hX dX8_street_29 h (fun σ_4 h => ?_)
      refine g_aload_n hX 0 dX8_street_32 rfl rfl ?_
      refine gCX8_90_0 hX dX8_street_33 ?_
      refine g_iconst hX (-1) dX8_street_36 (by decide) ?_
      refine g_icmp_eq hX 42 dX8_street_37 (by decide) h (fun h => ?_) (fun h => ?_)
      · refine g_aload_n hX 0 dX8_street_42 rfl rfl ?_
        refine gCX8_27_0 hX dX8_street_43 ?_
        refine g_aload_n hX 0 dX8_street_46 rfl rfl ?_
        refine gCX8_31_0 hX dX8_street_47 ?_
        refine g_callNV (As := [.ref (a 10)]) (rest := []) hX 2 (Nat.le_of_ble_eq_true rfl) rfl rfl miX6_copyFrom mvX6_copyFrom lkX8_107 (by decide) rfl (Nat.le_of_ble_eq_true rfl) rfl dX8_street_50 (fun τ x ho => kX6_copyFrom_i10 _ ho) h (fun σ_5 t_6 h => ?_)
        refine g_aload_n hX 0 dX8_street_53 rfl rfl ?_
        refine gCX8_47_0 hX dX8_street_54 ?_
        refine g_aload_n hX 0 dX8_street_57 rfl rfl ?_
        refine gCX8_27_0 hX dX8_street_58 ?_
        refine g_callNV (As := [.ref (a 2)]) (rest := []) hX 22 (Nat.le_of_ble_eq_true rfl) rfl rfl miX5_begin mvX5_begin lkX8_111 (by decide) rfl (Nat.le_of_ble_eq_true rfl) rfl dX8_street_61 (fun τ x ho => kX5_begin_i2 _ ho) h (fun σ_7 t_8 h => ?_)
        refine g_aload_n hX 0 dX8_street_64 rfl rfl ?_
        refine gCX8_43_0 hX dX8_street_65 ?_
        refine g_callNV (As := []) (rest := []) hX 19 (Nat.le_of_ble_eq_true rfl) rfl rfl miX2_forget mvX2_forget lkX8_114 (by decide) rfl (Nat.le_of_ble_eq_true rfl) rfl dX8_street_68 (fun τ x ho => kX2_forget _ ho) h (fun σ_9 t_10 h => ?_)
        refine g_aload_n hX 0 dX8_street_71 rfl rfl ?_
        refine gCX8_64_0 hX dX8_street_72 ?_
        refine g_callNV (As := []) (rest := []) hX 53 (Nat.le_of_ble_eq_true rfl) rfl rfl miX4_forget mvX4_forget lkX8_117 (by decide) rfl (Nat.le_of_ble_eq_true rfl) rfl dX8_street_75 (fun τ x ho => kX4_forget _ ho) h (fun σ_11 t_12 h => ?_)
        refine g_aload_n hX 0 dX8_street_78 rfl rfl ?_
        refine g_iconst hX (0) dX8_street_79 (by decide) ?_
        refine pCX8_96_0 hX dX8_street_80 h (fun σ_13 h => ?_)
        refine g_aload_n hX 0 dX8_street_83 rfl rfl ?_
        refine g_dup hX dX8_street_84 rfl ?_
        refine gCX8_93_0 hX dX8_street_85 ?_
        refine g_iconst hX (1) dX8_street_88 (by decide) ?_
        refine g_iadd hX dX8_street_89 ?_
        refine pCX8_93_0 hX dX8_street_90 h (fun σ_14 h => ?_)
        refine g_aload_n hX 0 dX8_street_93 rfl rfl ?_
        refine gCX8_27_0 hX dX8_street_94 ?_
        refine gCX8_118_2 hX dX8_street_97 ?_
        exact g_reti hR h dX8_street_100
      · refine g_iconst hX (-1) dX8_street_40 (by decide) ?_
        exact g_reti hR h dX8_street_41
    · refine g_bipush hX (-2) dX8_street_12 (by decide) ?_
      exact g_reti hR h dX8_street_14
set_option maxRecDepth 20000 in
set_option maxHeartbeats 4000000 in
theorem kX8_street (l : Launch) {a : Nat → Nat} {D : va_G} {tI tJ tB tS : ClassId} {kK kV : Nat → Nat} {σ τ : St}  {p1 : Int32} {x : Int32} (h : fX8_street σ p1 = some (τ, x)) : CtI l yX8_street cX8_street 2 (some .int) 10 218 (vC a D tI tJ tB tS kK kV) σ [.ref (a 0), .int p1] τ x := g_metI (by decide) (Nat.le_of_ble_eq_true rfl) rfl (fun X _ hX hR => sX8_street (r := (τ, x)) hX hR h)
def fX8_fault (σ : St)  : Option (St × Int32) :=
  some (σ, (σ.1 0 12))
set_option maxRecDepth 20000 in
set_option maxHeartbeats 4000000 in
theorem sX8_fault {X : CX} {a : Nat → Nat} {D : va_G} {tI tJ tB tS : ClassId} {kK kV : Nat → Nat} {σ : St}   {r : St × Int32} (hX : OKX X (vC a D tI tJ tB tS kK kV) cX8_fault 1 RX8 0 0) (hR : ∀ (pc : Nat) (lv : List (Nat × Value)), decode cX8_fault pc = .ok (.ireturn, 1) → G X (vC a D tI tJ tB tS kK kV) 1 r.1 pc lv [.int r.2])  (h : fX8_fault σ  = some r) : G X (vC a D tI tJ tB tS kK kV) 1 σ 0 [(0, .ref (a 0))] [] := by
  unfold fX8_fault at h
  refine g_aload_n hX 0 dX8_fault_0 rfl rfl ?_
  refine gCX8_90_0 hX dX8_fault_1 ?_
  exact g_reti hR h dX8_fault_4
set_option maxRecDepth 20000 in
set_option maxHeartbeats 4000000 in
theorem kX8_fault (l : Launch) {a : Nat → Nat} {D : va_G} {tI tJ tB tS : ClassId} {kK kV : Nat → Nat} {σ τ : St}   {x : Int32} (h : fX8_fault σ  = some (τ, x)) : CtI l yX8_fault cX8_fault 1 (some .int) 0 0 (vC a D tI tJ tB tS kK kV) σ [.ref (a 0)] τ x := g_metI (by decide) (Nat.le_of_ble_eq_true rfl) rfl (fun X _ hX hR => sX8_fault (r := (τ, x)) hX hR h)
def fX6_hasBaker (σ : St) (p1 : Int32) : Option (St × Int32) :=
  (if p1 < 0 then some (σ, (0 : Int32)) else (if (σ.1 2 0) ≤ p1 then some (σ, (0 : Int32)) else some (σ, (1 : Int32))))
set_option maxRecDepth 20000 in
set_option maxHeartbeats 4000000 in
theorem sX6_hasBaker {X : CX} {a : Nat → Nat} {D : va_G} {tI tJ tB tS : ClassId} {kK kV : Nat → Nat} {σ : St}  {p1 : Int32} {r : St × Int32} (hX : OKX X (vC a D tI tJ tB tS kK kV) cX6_hasBaker 2 RX6 0 0) (hR : (r.2 = 0 ∨ r.2 = 1) → ∀ (pc : Nat) (lv : List (Nat × Value)), decode cX6_hasBaker pc = .ok (.ireturn, 1) → G X (vC a D tI tJ tB tS kK kV) 2 r.1 pc lv [.int r.2])  (h : fX6_hasBaker σ p1 = some r) : G X (vC a D tI tJ tB tS kK kV) 2 σ 0 [(0, .ref (a 2)), (1, .int p1)] [] := by
  unfold fX6_hasBaker at h
  refine g_iload_n hX 1 dX6_hasBaker_0 rfl rfl ?_
  refine g_if_lt hX 16 dX6_hasBaker_1 (by decide) h (fun h => ?_) (fun h => ?_)
  · refine g_iconst hX (0) dX6_hasBaker_16 (by decide) ?_
    exact g_retz hR (by decide) h dX6_hasBaker_17
  · refine g_iload_n hX 1 dX6_hasBaker_4 rfl rfl ?_
    refine g_aload_n hX 0 dX6_hasBaker_5 rfl rfl ?_
    refine gCX6_37_2 hX dX6_hasBaker_6 ?_
    refine g_icmp_ge hX 16 dX6_hasBaker_9 (by decide) h (fun h => ?_) (fun h => ?_)
    · refine g_iconst hX (0) dX6_hasBaker_16 (by decide) ?_
      exact g_retz hR (by decide) h dX6_hasBaker_17
    · refine g_iconst hX (1) dX6_hasBaker_12 (by decide) ?_
      refine g_goto hX 17 dX6_hasBaker_13 (by decide) ?_
      exact g_retz hR (by decide) h dX6_hasBaker_17
set_option maxRecDepth 20000 in
set_option maxHeartbeats 4000000 in
theorem kX6_hasBaker (l : Launch) {a : Nat → Nat} {D : va_G} {tI tJ tB tS : ClassId} {kK kV : Nat → Nat} {σ τ : St}  {p1 : Int32} {x : Int32} (h : fX6_hasBaker σ p1 = some (τ, x)) : CtI l yX6_hasBaker cX6_hasBaker 2 (some .boolean) 0 0 (vC a D tI tJ tB tS kK kV) σ [.ref (a 2), .int p1] τ x := g_metZ (by decide) (Nat.le_of_ble_eq_true rfl) rfl (fun X _ hX hR => sX6_hasBaker (r := (τ, x)) hX hR h)
def fX6_hasSort (σ : St) (p1 : Int32) : Option (St × Int32) :=
  (if p1 < 0 then some (σ, (0 : Int32)) else (if (σ.1 2 1) ≤ p1 then some (σ, (0 : Int32)) else some (σ, (1 : Int32))))
set_option maxRecDepth 20000 in
set_option maxHeartbeats 4000000 in
theorem sX6_hasSort {X : CX} {a : Nat → Nat} {D : va_G} {tI tJ tB tS : ClassId} {kK kV : Nat → Nat} {σ : St}  {p1 : Int32} {r : St × Int32} (hX : OKX X (vC a D tI tJ tB tS kK kV) cX6_hasSort 2 RX6 0 0) (hR : (r.2 = 0 ∨ r.2 = 1) → ∀ (pc : Nat) (lv : List (Nat × Value)), decode cX6_hasSort pc = .ok (.ireturn, 1) → G X (vC a D tI tJ tB tS kK kV) 2 r.1 pc lv [.int r.2])  (h : fX6_hasSort σ p1 = some r) : G X (vC a D tI tJ tB tS kK kV) 2 σ 0 [(0, .ref (a 2)), (1, .int p1)] [] := by
  unfold fX6_hasSort at h
  refine g_iload_n hX 1 dX6_hasSort_0 rfl rfl ?_
  refine g_if_lt hX 16 dX6_hasSort_1 (by decide) h (fun h => ?_) (fun h => ?_)
  · refine g_iconst hX (0) dX6_hasSort_16 (by decide) ?_
    exact g_retz hR (by decide) h dX6_hasSort_17
  · refine g_iload_n hX 1 dX6_hasSort_4 rfl rfl ?_
    refine g_aload_n hX 0 dX6_hasSort_5 rfl rfl ?_
    refine gCX6_41_2 hX dX6_hasSort_6 ?_
    refine g_icmp_ge hX 16 dX6_hasSort_9 (by decide) h (fun h => ?_) (fun h => ?_)
    · refine g_iconst hX (0) dX6_hasSort_16 (by decide) ?_
      exact g_retz hR (by decide) h dX6_hasSort_17
    · refine g_iconst hX (1) dX6_hasSort_12 (by decide) ?_
      refine g_goto hX 17 dX6_hasSort_13 (by decide) ?_
      exact g_retz hR (by decide) h dX6_hasSort_17
set_option maxRecDepth 20000 in
set_option maxHeartbeats 4000000 in
theorem kX6_hasSort (l : Launch) {a : Nat → Nat} {D : va_G} {tI tJ tB tS : ClassId} {kK kV : Nat → Nat} {σ τ : St}  {p1 : Int32} {x : Int32} (h : fX6_hasSort σ p1 = some (τ, x)) : CtI l yX6_hasSort cX6_hasSort 2 (some .boolean) 0 0 (vC a D tI tJ tB tS kK kV) σ [.ref (a 2), .int p1] τ x := g_metZ (by decide) (Nat.le_of_ble_eq_true rfl) rfl (fun X _ hX hR => sX6_hasSort (r := (τ, x)) hX hR h)
def fX6_toldOfSort (σ : St) (p1 : Int32) (p2 : Int32) : Option (St × Int32) :=
  cl (fX6_hasSort σ p1) fun (σ_1 : St) (t_2 : Int32) => (if t_2 = 0 then some (σ_1, (-1 : Int32)) else (if p2 = 0 then chk (inb p1 12) (some (σ_1, (σ_1.1 5 (ix p1)))) else (if p2 = 1 then chk (inb p1 12) (some (σ_1, (σ_1.1 6 (ix p1)))) else (if p2 = 2 then chk (inb p1 12) (some (σ_1, (σ_1.1 7 (ix p1)))) else chk (inb p1 12) (some (σ_1, (σ_1.1 8 (ix p1))))))))
set_option maxRecDepth 20000 in
set_option maxHeartbeats 4000000 in
theorem sX6_toldOfSort {X : CX} {a : Nat → Nat} {D : va_G} {tI tJ tB tS : ClassId} {kK kV : Nat → Nat} {σ : St}  {p1 : Int32} {p2 : Int32} {r : St × Int32} (hX : OKX X (vC a D tI tJ tB tS kK kV) cX6_toldOfSort 3 RX6 1 21) (hR : ∀ (pc : Nat) (lv : List (Nat × Value)), decode cX6_toldOfSort pc = .ok (.ireturn, 1) → G X (vC a D tI tJ tB tS kK kV) 3 r.1 pc lv [.int r.2])  (h : fX6_toldOfSort σ p1 p2 = some r) : G X (vC a D tI tJ tB tS kK kV) 3 σ 0 [(0, .ref (a 2)), (1, .int p1), (2, .int p2)] [] := by
  unfold fX6_toldOfSort at h
  refine g_aload_n hX 0 dX6_toldOfSort_0 rfl rfl ?_
  refine g_iload_n hX 1 dX6_toldOfSort_1 rfl rfl ?_
  refine g_callVI (As := [.int p1]) (rest := []) hX 2 (Nat.le_of_ble_eq_true rfl) rfl rfl miX6_hasSort mvX6_hasSort lkX6_71 (by decide) rfl (Nat.le_of_ble_eq_true rfl) rfl dX6_toldOfSort_2 (fun τ x ho => kX6_hasSort _ ho) h (fun σ_1 t_2 h => ?_)
  refine g_if_ne hX 10 dX6_toldOfSort_5 (by decide) h (fun h => ?_) (fun h => ?_)
  · refine g_iload_n hX 2 dX6_toldOfSort_10 rfl rfl ?_
    refine ite_go h (fun hq h => ?_) (fun hs11_0 h => ?_)
    · refine g_tabIn (off := 25) (0) hX 36 hq dX6_toldOfSort_11 (by decide) (by decide) (by decide) (by decide) ?_
      refine g_aload_n hX 0 dX6_toldOfSort_36 rfl rfl ?_
      refine gCX6_19_2 hX dX6_toldOfSort_37 ?_
      refine g_iload_n hX 1 dX6_toldOfSort_40 rfl rfl ?_
      refine alC_5 hX dX6_toldOfSort_41 h (fun h => ?_)
      exact g_reti hR h dX6_toldOfSort_42
    refine ite_go h (fun hq h => ?_) (fun hs11_1 h => ?_)
    · refine g_tabIn (off := 32) (1) hX 43 hq dX6_toldOfSort_11 (by decide) (by decide) (by decide) (by decide) ?_
      refine g_aload_n hX 0 dX6_toldOfSort_43 rfl rfl ?_
      refine gCX6_22_2 hX dX6_toldOfSort_44 ?_
      refine g_iload_n hX 1 dX6_toldOfSort_47 rfl rfl ?_
      refine alC_6 hX dX6_toldOfSort_48 h (fun h => ?_)
      exact g_reti hR h dX6_toldOfSort_49
    refine ite_go h (fun hq h => ?_) (fun hs11_2 h => ?_)
    · refine g_tabIn (off := 39) (2) hX 50 hq dX6_toldOfSort_11 (by decide) (by decide) (by decide) (by decide) ?_
      refine g_aload_n hX 0 dX6_toldOfSort_50 rfl rfl ?_
      refine gCX6_25_2 hX dX6_toldOfSort_51 ?_
      refine g_iload_n hX 1 dX6_toldOfSort_54 rfl rfl ?_
      refine alC_7 hX dX6_toldOfSort_55 h (fun h => ?_)
      exact g_reti hR h dX6_toldOfSort_56
    refine g_tabOut hX 57 dX6_toldOfSort_11 (by have k0 := sw_ne hs11_0 (n := 0) (by decide); have k1 := sw_ne hs11_1 (n := 1) (by decide); have k2 := sw_ne hs11_2 (n := 2) (by decide); omega) (by decide) ?_
    refine g_aload_n hX 0 dX6_toldOfSort_57 rfl rfl ?_
    refine gCX6_28_2 hX dX6_toldOfSort_58 ?_
    refine g_iload_n hX 1 dX6_toldOfSort_61 rfl rfl ?_
    refine alC_8 hX dX6_toldOfSort_62 h (fun h => ?_)
    exact g_reti hR h dX6_toldOfSort_63
  · refine g_iconst hX (-1) dX6_toldOfSort_8 (by decide) ?_
    exact g_reti hR h dX6_toldOfSort_9
set_option maxRecDepth 20000 in
set_option maxHeartbeats 4000000 in
theorem kX6_toldOfSort (l : Launch) {a : Nat → Nat} {D : va_G} {tI tJ tB tS : ClassId} {kK kV : Nat → Nat} {σ τ : St}  {p1 : Int32} {p2 : Int32} {x : Int32} (h : fX6_toldOfSort σ p1 p2 = some (τ, x)) : CtI l yX6_toldOfSort cX6_toldOfSort 3 (some .int) 1 21 (vC a D tI tJ tB tS kK kV) σ [.ref (a 2), .int p1, .int p2] τ x := g_metI (by decide) (Nat.le_of_ble_eq_true rfl) rfl (fun X _ hX hR => sX6_toldOfSort (r := (τ, x)) hX hR h)
def fX8_told (σ : St) (p1 : Int32) : Option (St × Int32) :=
  (if p1 < (200 : Int32) then (if p1 < (100 : Int32) then (if p1 = 0 then some (σ, (σ.1 2 0)) else (if p1 = 1 then some (σ, (σ.1 2 1)) else (if p1 = 2 then some (σ, (σ.1 2 2)) else (if p1 = 3 then some (σ, (σ.1 2 3)) else (if p1 = 4 then some (σ, (σ.1 2 4)) else (if p1 = 5 then some (σ, (σ.1 2 5)) else (if p1 = 6 then some (σ, (σ.1 2 6)) else (if p1 = 7 then some (σ, (σ.1 2 7)) else some (σ, (-1 : Int32)))))))))) else cl (fX6_hasBaker σ (p1 - (100 : Int32))) fun (σ_1 : St) (t_2 : Int32) => (if t_2 = 0 then some (σ_1, (-1 : Int32)) else chk (inb (p1 - (100 : Int32)) 4) (some (σ_1, (σ_1.1 25 (ix (p1 - (100 : Int32)))))))) else chk (decide (¬ (4 : Int32) = 0)) (chk (decide (¬ (4 : Int32) = 0)) (cl (fX6_toldOfSort σ ((p1 - (200 : Int32)) / (4 : Int32)) ((p1 - (200 : Int32)) - (p1 - (200 : Int32)) / (4 : Int32) * (4 : Int32))) fun (σ_3 : St) (t_4 : Int32) => some (σ_3, t_4))))
set_option maxRecDepth 20000 in
set_option maxHeartbeats 4000000 in
theorem sX8_told {X : CX} {a : Nat → Nat} {D : va_G} {tI tJ tB tS : ClassId} {kK kV : Nat → Nat} {σ : St}  {p1 : Int32} {r : St × Int32} (hX : OKX X (vC a D tI tJ tB tS kK kV) cX8_told 2 RX8 2 43) (hR : ∀ (pc : Nat) (lv : List (Nat × Value)), decode cX8_told pc = .ok (.ireturn, 1) → G X (vC a D tI tJ tB tS kK kV) 2 r.1 pc lv [.int r.2])  (h : fX8_told σ p1 = some r) : G X (vC a D tI tJ tB tS kK kV) 2 σ 0 [(0, .ref (a 0)), (1, .int p1)] [] := by
  unfold fX8_told at h
  refine g_iload_n hX 1 dX8_told_0 rfl rfl ?_
  refine g_sipush hX (200) dX8_told_1 (by decide) ?_
  refine g_icmp_lt hX 29 dX8_told_4 (by decide) h (fun h => ?_) (fun h => ?_)
  · refine g_iload_n hX 1 dX8_told_29 rfl rfl ?_
    refine g_bipush hX (100) dX8_told_30 (by decide) ?_
    refine g_icmp_lt hX 66 dX8_told_32 (by decide) h (fun h => ?_) (fun h => ?_)
    · refine g_iload_n hX 1 dX8_told_66 rfl rfl ?_
      refine ite_go h (fun hq h => ?_) (fun hs67_0 h => ?_)
      · refine g_tabIn (off := 45) (0) hX 112 hq dX8_told_67 (by decide) (by decide) (by decide) (by decide) ?_
        refine g_aload_n hX 0 dX8_told_112 rfl rfl ?_
        refine gCX8_27_0 hX dX8_told_113 ?_
        refine gCX8_118_2 hX dX8_told_116 ?_
        exact g_reti hR h dX8_told_119
      refine ite_go h (fun hq h => ?_) (fun hs67_1 h => ?_)
      · refine g_tabIn (off := 53) (1) hX 120 hq dX8_told_67 (by decide) (by decide) (by decide) (by decide) ?_
        refine g_aload_n hX 0 dX8_told_120 rfl rfl ?_
        refine gCX8_27_0 hX dX8_told_121 ?_
        refine gCX8_133_2 hX dX8_told_124 ?_
        exact g_reti hR h dX8_told_127
      refine ite_go h (fun hq h => ?_) (fun hs67_2 h => ?_)
      · refine g_tabIn (off := 61) (2) hX 128 hq dX8_told_67 (by decide) (by decide) (by decide) (by decide) ?_
        refine g_aload_n hX 0 dX8_told_128 rfl rfl ?_
        refine gCX8_27_0 hX dX8_told_129 ?_
        refine gCX8_136_2 hX dX8_told_132 ?_
        exact g_reti hR h dX8_told_135
      refine ite_go h (fun hq h => ?_) (fun hs67_3 h => ?_)
      · refine g_tabIn (off := 69) (3) hX 136 hq dX8_told_67 (by decide) (by decide) (by decide) (by decide) ?_
        refine g_aload_n hX 0 dX8_told_136 rfl rfl ?_
        refine gCX8_27_0 hX dX8_told_137 ?_
        refine gCX8_139_2 hX dX8_told_140 ?_
        exact g_reti hR h dX8_told_143
      refine ite_go h (fun hq h => ?_) (fun hs67_4 h => ?_)
      · refine g_tabIn (off := 77) (4) hX 144 hq dX8_told_67 (by decide) (by decide) (by decide) (by decide) ?_
        refine g_aload_n hX 0 dX8_told_144 rfl rfl ?_
        refine gCX8_27_0 hX dX8_told_145 ?_
        refine gCX8_142_2 hX dX8_told_148 ?_
        exact g_reti hR h dX8_told_151
      refine ite_go h (fun hq h => ?_) (fun hs67_5 h => ?_)
      · refine g_tabIn (off := 85) (5) hX 152 hq dX8_told_67 (by decide) (by decide) (by decide) (by decide) ?_
        refine g_aload_n hX 0 dX8_told_152 rfl rfl ?_
        refine gCX8_27_0 hX dX8_told_153 ?_
        refine gCX8_145_2 hX dX8_told_156 ?_
        exact g_reti hR h dX8_told_159
      refine ite_go h (fun hq h => ?_) (fun hs67_6 h => ?_)
      · refine g_tabIn (off := 93) (6) hX 160 hq dX8_told_67 (by decide) (by decide) (by decide) (by decide) ?_
        refine g_aload_n hX 0 dX8_told_160 rfl rfl ?_
        refine gCX8_27_0 hX dX8_told_161 ?_
        refine gCX8_148_2 hX dX8_told_164 ?_
        exact g_reti hR h dX8_told_167
      refine ite_go h (fun hq h => ?_) (fun hs67_7 h => ?_)
      · refine g_tabIn (off := 101) (7) hX 168 hq dX8_told_67 (by decide) (by decide) (by decide) (by decide) ?_
        refine g_aload_n hX 0 dX8_told_168 rfl rfl ?_
        refine gCX8_27_0 hX dX8_told_169 ?_
        refine gCX8_151_2 hX dX8_told_172 ?_
        exact g_reti hR h dX8_told_175
      refine g_tabOut hX 176 dX8_told_67 (by have k0 := sw_ne hs67_0 (n := 0) (by decide); have k1 := sw_ne hs67_1 (n := 1) (by decide); have k2 := sw_ne hs67_2 (n := 2) (by decide); have k3 := sw_ne hs67_3 (n := 3) (by decide); have k4 := sw_ne hs67_4 (n := 4) (by decide); have k5 := sw_ne hs67_5 (n := 5) (by decide); have k6 := sw_ne hs67_6 (n := 6) (by decide); have k7 := sw_ne hs67_7 (n := 7) (by decide); omega) (by decide) ?_
      refine g_iconst hX (-1) dX8_told_176 (by decide) ?_
      exact g_reti hR h dX8_told_177
    · refine g_aload_n hX 0 dX8_told_35 rfl rfl ?_
      refine gCX8_27_0 hX dX8_told_36 ?_
      refine g_iload_n hX 1 dX8_told_39 rfl rfl ?_
      refine g_bipush hX (100) dX8_told_40 (by decide) ?_
      refine g_isub hX dX8_told_42 ?_
      refine g_callNI (As := [.int (p1 - (100 : Int32))]) (rest := []) hX 2 (Nat.le_of_ble_eq_true rfl) rfl rfl miX6_hasBaker mvX6_hasBaker lkX8_125 (by decide) rfl (Nat.le_of_ble_eq_true rfl) rfl dX8_told_43 (fun τ x ho => kX6_hasBaker _ ho) h (fun σ_1 t_2 h => ?_)
      refine g_if_eq hX 64 dX8_told_46 (by decide) h (fun h => ?_) (fun h => ?_)
      · refine g_iconst hX (-1) dX8_told_64 (by decide) ?_
        exact g_reti hR h dX8_told_65
      · refine g_aload_n hX 0 dX8_told_49 rfl rfl ?_
        refine gCX8_47_0 hX dX8_told_50 ?_
        refine gCX8_129_22 hX dX8_told_53 ?_
        refine g_iload_n hX 1 dX8_told_56 rfl rfl ?_
        refine g_bipush hX (100) dX8_told_57 (by decide) ?_
        refine g_isub hX dX8_told_59 ?_
        refine alC_25 hX dX8_told_60 h (fun h => ?_)
        refine g_goto hX 65 dX8_told_61 (by decide) ?_
        exact g_reti hR h dX8_told_65
  · refine g_aload_n hX 0 dX8_told_7 rfl rfl ?_
    refine gCX8_27_0 hX dX8_told_8 ?_
    refine g_iload_n hX 1 dX8_told_11 rfl rfl ?_
    refine g_sipush hX (200) dX8_told_12 (by decide) ?_
    refine g_isub hX dX8_told_15 ?_
    refine g_iconst hX (4) dX8_told_16 (by decide) ?_
    refine g_idiv hX dX8_told_17 h (fun h => ?_)
    refine g_iload_n hX 1 dX8_told_18 rfl rfl ?_
    refine g_sipush hX (200) dX8_told_19 (by decide) ?_
    refine g_isub hX dX8_told_22 ?_
    refine g_iconst hX (4) dX8_told_23 (by decide) ?_
    refine g_irem hX dX8_told_24 h (fun h => ?_)
    refine g_callNI (As := [.int ((p1 - (200 : Int32)) / (4 : Int32)), .int ((p1 - (200 : Int32)) - (p1 - (200 : Int32)) / (4 : Int32) * (4 : Int32))]) (rest := []) hX 2 (Nat.le_of_ble_eq_true rfl) rfl rfl miX6_toldOfSort mvX6_toldOfSort lkX8_121 (by decide) rfl (Nat.le_of_ble_eq_true rfl) rfl dX8_told_25 (fun τ x ho => kX6_toldOfSort _ ho) h (fun σ_3 t_4 h => ?_)
    exact g_reti hR h dX8_told_28
set_option maxRecDepth 20000 in
set_option maxHeartbeats 4000000 in
theorem kX8_told (l : Launch) {a : Nat → Nat} {D : va_G} {tI tJ tB tS : ClassId} {kK kV : Nat → Nat} {σ τ : St}  {p1 : Int32} {x : Int32} (h : fX8_told σ p1 = some (τ, x)) : CtI l yX8_told cX8_told 2 (some .int) 2 43 (vC a D tI tJ tB tS kK kV) σ [.ref (a 0), .int p1] τ x := g_metI (by decide) (Nat.le_of_ble_eq_true rfl) rfl (fun X _ hX hR => sX8_told (r := (τ, x)) hX hR h)
def fX8_cost (σ : St) (p1 : Int32) (p2 : Int32) : Option (St × Int32) :=
  cl (fX6_hasBaker σ p1) fun (σ_1 : St) (t_2 : Int32) => (if t_2 = 0 then some (σ_1, (0 : Int32)) else (if p2 < 0 then some (σ_1, (0 : Int32)) else (if p2 ≤ (99 : Int32) then chk (inb p1 4) (bnd (sI σ_1 25 (ix p1) p2) fun (σ_3 : St) => cl (fX4_forget σ_3 ) fun (σ_4 : St) (t_5 : Unit) => some (σ_4, (1 : Int32))) else some (σ_1, (0 : Int32)))))
set_option maxRecDepth 20000 in
set_option maxHeartbeats 4000000 in
theorem sX8_cost {X : CX} {a : Nat → Nat} {D : va_G} {tI tJ tB tS : ClassId} {kK kV : Nat → Nat} {σ : St}  {p1 : Int32} {p2 : Int32} {r : St × Int32} (hX : OKX X (vC a D tI tJ tB tS kK kV) cX8_cost 3 RX8 1 21) (hR : (r.2 = 0 ∨ r.2 = 1) → ∀ (pc : Nat) (lv : List (Nat × Value)), decode cX8_cost pc = .ok (.ireturn, 1) → G X (vC a D tI tJ tB tS kK kV) 3 r.1 pc lv [.int r.2])  (h : fX8_cost σ p1 p2 = some r) : G X (vC a D tI tJ tB tS kK kV) 3 σ 0 [(0, .ref (a 0)), (1, .int p1), (2, .int p2)] [] := by
  unfold fX8_cost at h
  refine g_aload_n hX 0 dX8_cost_0 rfl rfl ?_
  refine gCX8_27_0 hX dX8_cost_1 ?_
  refine g_iload_n hX 1 dX8_cost_4 rfl rfl ?_
  refine g_callNI (As := [.int p1]) (rest := []) hX 2 (Nat.le_of_ble_eq_true rfl) rfl rfl miX6_hasBaker mvX6_hasBaker lkX8_125 (by decide) rfl (Nat.le_of_ble_eq_true rfl) rfl dX8_cost_5 (fun τ x ho => kX6_hasBaker _ ho) h (fun σ_1 t_2 h => ?_)
  refine g_if_eq hX 21 dX8_cost_8 (by decide) h (fun h => ?_) (fun h => ?_)
  · refine g_iconst hX (0) dX8_cost_21 (by decide) ?_
    exact g_retz hR (by decide) h dX8_cost_22
  · refine g_iload_n hX 2 dX8_cost_11 rfl rfl ?_
    refine g_if_lt hX 21 dX8_cost_12 (by decide) h (fun h => ?_) (fun h => ?_)
    · refine g_iconst hX (0) dX8_cost_21 (by decide) ?_
      exact g_retz hR (by decide) h dX8_cost_22
    · refine g_iload_n hX 2 dX8_cost_15 rfl rfl ?_
      refine g_bipush hX (99) dX8_cost_16 (by decide) ?_
      refine g_icmp_le hX 23 dX8_cost_18 (by decide) h (fun h => ?_) (fun h => ?_)
      · refine g_aload_n hX 0 dX8_cost_23 rfl rfl ?_
        refine gCX8_47_0 hX dX8_cost_24 ?_
        refine gCX8_129_22 hX dX8_cost_27 ?_
        refine g_iload_n hX 1 dX8_cost_30 rfl rfl ?_
        refine g_iload_n hX 2 dX8_cost_31 rfl rfl ?_
        refine asC_25 hX dX8_cost_32 h (fun σ_3 h => ?_)
        refine g_aload_n hX 0 dX8_cost_33 rfl rfl ?_
        refine gCX8_64_0 hX dX8_cost_34 ?_
        refine g_callNV (As := []) (rest := []) hX 53 (Nat.le_of_ble_eq_true rfl) rfl rfl miX4_forget mvX4_forget lkX8_117 (by decide) rfl (Nat.le_of_ble_eq_true rfl) rfl dX8_cost_37 (fun τ x ho => kX4_forget _ ho) h (fun σ_4 t_5 h => ?_)
        refine g_iconst hX (1) dX8_cost_40 (by decide) ?_
        exact g_retz hR (by decide) h dX8_cost_41
      · refine g_iconst hX (0) dX8_cost_21 (by decide) ?_
        exact g_retz hR (by decide) h dX8_cost_22
set_option maxRecDepth 20000 in
set_option maxHeartbeats 4000000 in
theorem kX8_cost (l : Launch) {a : Nat → Nat} {D : va_G} {tI tJ tB tS : ClassId} {kK kV : Nat → Nat} {σ τ : St}  {p1 : Int32} {p2 : Int32} {x : Int32} (h : fX8_cost σ p1 p2 = some (τ, x)) : CtI l yX8_cost cX8_cost 3 (some .boolean) 1 21 (vC a D tI tJ tB tS kK kV) σ [.ref (a 0), .int p1, .int p2] τ x := g_metZ (by decide) (Nat.le_of_ble_eq_true rfl) rfl (fun X _ hX hR => sX8_cost (r := (τ, x)) hX hR h)
def fX8_promise (σ : St) (p1 : Int32) (p2 : Int32) : Option (St × Int32) :=
  cl (fX6_hasBaker σ p1) fun (σ_1 : St) (t_2 : Int32) => (if t_2 = 0 then some (σ_1, (0 : Int32)) else (jp (fun (σ_3 : St)   => cl (fX4_forget σ_3 ) fun (σ_4 : St) (t_5 : Unit) => some (σ_4, (1 : Int32))) fun j52 => (if p2 = 0 then bnd (sI σ_1 22 3 ((σ_1.1 22 3) &&& (((1 : Int32) <<< (p1 &&& 31)) ^^^ (-1 : Int32)))) fun (σ_6 : St) => j52 σ_6 else bnd (sI σ_1 22 3 ((σ_1.1 22 3) ||| ((1 : Int32) <<< (p1 &&& 31)))) fun (σ_7 : St) => j52 σ_7)))
set_option maxRecDepth 20000 in
set_option maxHeartbeats 4000000 in
theorem sX8_promise {X : CX} {a : Nat → Nat} {D : va_G} {tI tJ tB tS : ClassId} {kK kV : Nat → Nat} {σ : St}  {p1 : Int32} {p2 : Int32} {r : St × Int32} (hX : OKX X (vC a D tI tJ tB tS kK kV) cX8_promise 3 RX8 1 21) (hR : (r.2 = 0 ∨ r.2 = 1) → ∀ (pc : Nat) (lv : List (Nat × Value)), decode cX8_promise pc = .ok (.ireturn, 1) → G X (vC a D tI tJ tB tS kK kV) 3 r.1 pc lv [.int r.2])  (h : fX8_promise σ p1 p2 = some r) : G X (vC a D tI tJ tB tS kK kV) 3 σ 0 [(0, .ref (a 0)), (1, .int p1), (2, .int p2)] [] := by
  unfold fX8_promise at h
  refine g_aload_n hX 0 dX8_promise_0 rfl rfl ?_
  refine gCX8_27_0 hX dX8_promise_1 ?_
  refine g_iload_n hX 1 dX8_promise_4 rfl rfl ?_
  refine g_callNI (As := [.int p1]) (rest := []) hX 2 (Nat.le_of_ble_eq_true rfl) rfl rfl miX6_hasBaker mvX6_hasBaker lkX8_125 (by decide) rfl (Nat.le_of_ble_eq_true rfl) rfl dX8_promise_5 (fun τ x ho => kX6_hasBaker _ ho) h (fun σ_1 t_2 h => ?_)
  refine g_if_ne hX 13 dX8_promise_8 (by decide) h (fun h => ?_) (fun h => ?_)
  · refine g_iload_n hX 2 dX8_promise_13 rfl rfl ?_
    refine jp_inv (P := fun f => ∀ (σ_3 : St)  , f σ_3 = some r → G X (vC a D tI tJ tB tS kK kV) 3 σ_3 52 [(0, .ref (a 0))] []) h (fun σ_3 h => ?_) (fun j52 hj52 h => ?_)
    · refine g_aload_n hX 0 dX8_promise_52 rfl rfl ?_
      refine gCX8_64_0 hX dX8_promise_53 ?_
      refine g_callNV (As := []) (rest := []) hX 53 (Nat.le_of_ble_eq_true rfl) rfl rfl miX4_forget mvX4_forget lkX8_117 (by decide) rfl (Nat.le_of_ble_eq_true rfl) rfl dX8_promise_56 (fun τ x ho => kX4_forget _ ho) h (fun σ_4 t_5 h => ?_)
      refine g_iconst hX (1) dX8_promise_59 (by decide) ?_
      exact g_retz hR (by decide) h dX8_promise_60
    refine g_if_eq hX 35 dX8_promise_14 (by decide) h (fun h => ?_) (fun h => ?_)
    · refine g_aload_n hX 0 dX8_promise_35 rfl rfl ?_
      refine gCX8_47_0 hX dX8_promise_36 ?_
      refine g_dup hX dX8_promise_39 rfl ?_
      refine gCX8_154_22 hX dX8_promise_40 ?_
      refine g_iconst hX (1) dX8_promise_43 (by decide) ?_
      refine g_iload_n hX 1 dX8_promise_44 rfl rfl ?_
      refine g_ishl hX dX8_promise_45 ?_
      refine g_iconst hX (-1) dX8_promise_46 (by decide) ?_
      refine g_ixor hX dX8_promise_47 ?_
      refine g_iand hX dX8_promise_48 ?_
      refine pCX8_154_22 hX dX8_promise_49 h (fun σ_6 h => ?_)
      exact g_sub [0] rfl (hj52 _ h)
    · refine g_aload_n hX 0 dX8_promise_17 rfl rfl ?_
      refine gCX8_47_0 hX dX8_promise_18 ?_
      refine g_dup hX dX8_promise_21 rfl ?_
      refine gCX8_154_22 hX dX8_promise_22 ?_
      refine g_iconst hX (1) dX8_promise_25 (by decide) ?_
      refine g_iload_n hX 1 dX8_promise_26 rfl rfl ?_
      refine g_ishl hX dX8_promise_27 ?_
      refine g_ior hX dX8_promise_28 ?_
      refine pCX8_154_22 hX dX8_promise_29 h (fun σ_7 h => ?_)
      refine g_goto hX 52 dX8_promise_32 (by decide) ?_
      exact g_sub [0] rfl (hj52 _ h)
  · refine g_iconst hX (0) dX8_promise_11 (by decide) ?_
    exact g_retz hR (by decide) h dX8_promise_12
set_option maxRecDepth 20000 in
set_option maxHeartbeats 4000000 in
theorem kX8_promise (l : Launch) {a : Nat → Nat} {D : va_G} {tI tJ tB tS : ClassId} {kK kV : Nat → Nat} {σ τ : St}  {p1 : Int32} {p2 : Int32} {x : Int32} (h : fX8_promise σ p1 p2 = some (τ, x)) : CtI l yX8_promise cX8_promise 3 (some .boolean) 1 21 (vC a D tI tJ tB tS kK kV) σ [.ref (a 0), .int p1, .int p2] τ x := g_metZ (by decide) (Nat.le_of_ble_eq_true rfl) rfl (fun X _ hX hR => sX8_promise (r := (τ, x)) hX hR h)
def fX6_hasStep (σ : St) (p1 : Int32) : Option (St × Int32) :=
  (if p1 < 0 then some (σ, (0 : Int32)) else (if (σ.1 2 2) ≤ p1 then some (σ, (0 : Int32)) else some (σ, (1 : Int32))))
set_option maxRecDepth 20000 in
set_option maxHeartbeats 4000000 in
theorem sX6_hasStep {X : CX} {a : Nat → Nat} {D : va_G} {tI tJ tB tS : ClassId} {kK kV : Nat → Nat} {σ : St}  {p1 : Int32} {r : St × Int32} (hX : OKX X (vC a D tI tJ tB tS kK kV) cX6_hasStep 2 RX6 0 0) (hR : (r.2 = 0 ∨ r.2 = 1) → ∀ (pc : Nat) (lv : List (Nat × Value)), decode cX6_hasStep pc = .ok (.ireturn, 1) → G X (vC a D tI tJ tB tS kK kV) 2 r.1 pc lv [.int r.2])  (h : fX6_hasStep σ p1 = some r) : G X (vC a D tI tJ tB tS kK kV) 2 σ 0 [(0, .ref (a 2)), (1, .int p1)] [] := by
  unfold fX6_hasStep at h
  refine g_iload_n hX 1 dX6_hasStep_0 rfl rfl ?_
  refine g_if_lt hX 16 dX6_hasStep_1 (by decide) h (fun h => ?_) (fun h => ?_)
  · refine g_iconst hX (0) dX6_hasStep_16 (by decide) ?_
    exact g_retz hR (by decide) h dX6_hasStep_17
  · refine g_iload_n hX 1 dX6_hasStep_4 rfl rfl ?_
    refine g_aload_n hX 0 dX6_hasStep_5 rfl rfl ?_
    refine gCX6_44_2 hX dX6_hasStep_6 ?_
    refine g_icmp_ge hX 16 dX6_hasStep_9 (by decide) h (fun h => ?_) (fun h => ?_)
    · refine g_iconst hX (0) dX6_hasStep_16 (by decide) ?_
      exact g_retz hR (by decide) h dX6_hasStep_17
    · refine g_iconst hX (1) dX6_hasStep_12 (by decide) ?_
      refine g_goto hX 17 dX6_hasStep_13 (by decide) ?_
      exact g_retz hR (by decide) h dX6_hasStep_17
set_option maxRecDepth 20000 in
set_option maxHeartbeats 4000000 in
theorem kX6_hasStep (l : Launch) {a : Nat → Nat} {D : va_G} {tI tJ tB tS : ClassId} {kK kV : Nat → Nat} {σ τ : St}  {p1 : Int32} {x : Int32} (h : fX6_hasStep σ p1 = some (τ, x)) : CtI l yX6_hasStep cX6_hasStep 2 (some .boolean) 0 0 (vC a D tI tJ tB tS kK kV) σ [.ref (a 2), .int p1] τ x := g_metZ (by decide) (Nat.le_of_ble_eq_true rfl) rfl (fun X _ hX hR => sX6_hasStep (r := (τ, x)) hX hR h)
def fX5_tellAnew_L9 (q1_9 : Int32) (kx9 : St → Int32 → Option (St × Unit)) : Nat → St → Int32 → Option (St × Unit)
  | 0, _, _ => none
  | n9 + 1, σ, c3_9 =>
    (if (8 : Int32) ≤ c3_9 then kx9 σ c3_9 else chk (inb ((q1_9 * (8 : Int32)) + c3_9) 32) (bnd (sI σ 24 (ix ((q1_9 * (8 : Int32)) + c3_9)) (0 : Int32)) fun (σ_3 : St) => bnd (c3_9 + (1 : Int32)) fun (x3_4 : Int32) => fX5_tellAnew_L9 q1_9 kx9 n9 σ_3 x3_4))
def fX5_tellAnew (σ : St) (p1 : Int32) (p2 : Int32) : Option (St × Unit) :=
  chk (inb p1 4) (bnd (sI σ 23 (ix p1) p2) fun (σ_1 : St) => bnd (0 : Int32) fun (x3_2 : Int32) => fX5_tellAnew_L9 p1 (fun (σ_5 : St) (x3_6 : Int32) => some (σ_5, ())) FU σ_1 x3_2)
set_option maxRecDepth 20000 in
set_option maxHeartbeats 4000000 in
theorem sX5_tellAnew_L9 {X : CX} {a : Nat → Nat} {D : va_G} {tI tJ tB tS : ClassId} {kK kV : Nat → Nat} {q1_9 : Int32} {kx9 : St → Int32 → Option (St × Unit)} {r : St × Unit} (hX : OKX X (vC a D tI tJ tB tS kK kV) cX5_tellAnew 4 RX5 0 0) (hR : ∀ (pc : Nat) (lv : List (Nat × Value)), decode cX5_tellAnew pc = .ok (.return_, 1) → G X (vC a D tI tJ tB tS kK kV) 4 r.1 pc lv []) (hkx9 : ∀ (σ : St) (e3_9 : Int32), kx9 σ e3_9 = some r → G X (vC a D tI tJ tB tS kK kV) 4 σ 33 [] []) : ∀ (n : Nat) (σ : St) (c3_9 : Int32), fX5_tellAnew_L9 q1_9 kx9 n σ c3_9 = some r → G X (vC a D tI tJ tB tS kK kV) 4 σ 9 [(0, .ref (a 22)), (1, .int q1_9), (3, .int c3_9)] [] := by
  intro n
  induction n with
  | zero => intro σ c3_9 h; rw [fX5_tellAnew_L9] at h; exact absurd h (by simp)
  | succ n9 ih9 =>
    intro σ c3_9 h
    rw [fX5_tellAnew_L9] at h
    refine g_iload_n hX 2 dX5_tellAnew_9 rfl rfl ?_
    refine g_bipush hX (8) dX5_tellAnew_10 (by decide) ?_
    refine g_icmp_ge hX 33 dX5_tellAnew_12 (by decide) h (fun h => ?_) (fun h => ?_)
    · exact g_sub [] rfl (hkx9 _ _ h)
    · refine g_aload_n hX 0 dX5_tellAnew_15 rfl rfl ?_
      refine gCX5_15_22 hX dX5_tellAnew_16 ?_
      refine g_iload_n hX 1 dX5_tellAnew_19 rfl rfl ?_
      refine g_bipush hX (8) dX5_tellAnew_20 (by decide) ?_
      refine g_imul hX dX5_tellAnew_22 ?_
      refine g_iload_n hX 2 dX5_tellAnew_23 rfl rfl ?_
      refine g_iadd hX dX5_tellAnew_24 ?_
      refine g_iconst hX (0) dX5_tellAnew_25 (by decide) ?_
      refine asC_24 hX dX5_tellAnew_26 h (fun σ_3 h => ?_)
      refine g_iinc (y := (1)) (lv' := fun x3_4 => [(3, .int x3_4), (0, .ref (a 22)), (1, .int q1_9)]) hX 2 dX5_tellAnew_27 rfl (by decide) (by decide) (fun _ => rfl) h (fun x3_4 h => ?_)
      refine g_goto hX 9 dX5_tellAnew_30 (by decide) ?_
      exact g_sub [1, 2, 0] rfl (ih9 _ _ h)
set_option maxRecDepth 20000 in
set_option maxHeartbeats 4000000 in
theorem sX5_tellAnew {X : CX} {a : Nat → Nat} {D : va_G} {tI tJ tB tS : ClassId} {kK kV : Nat → Nat} {σ : St}  {p1 : Int32} {p2 : Int32} {r : St × Unit} (hX : OKX X (vC a D tI tJ tB tS kK kV) cX5_tellAnew 4 RX5 0 0) (hR : ∀ (pc : Nat) (lv : List (Nat × Value)), decode cX5_tellAnew pc = .ok (.return_, 1) → G X (vC a D tI tJ tB tS kK kV) 4 r.1 pc lv [])  (h : fX5_tellAnew σ p1 p2 = some r) : G X (vC a D tI tJ tB tS kK kV) 4 σ 0 [(0, .ref (a 22)), (1, .int p1), (2, .int p2)] [] := by
  unfold fX5_tellAnew at h
  refine g_aload_n hX 0 dX5_tellAnew_0 rfl rfl ?_
  refine gCX5_9_22 hX dX5_tellAnew_1 ?_
  refine g_iload_n hX 1 dX5_tellAnew_4 rfl rfl ?_
  refine g_iload_n hX 2 dX5_tellAnew_5 rfl rfl ?_
  refine asC_23 hX dX5_tellAnew_6 h (fun σ_1 h => ?_)
  refine g_iconst hX (0) dX5_tellAnew_7 (by decide) ?_
  refine g_istore_n (lv' := fun x3_2 => [(3, .int x3_2), (0, .ref (a 22)), (1, .int p1), (2, .int p2)]) hX dX5_tellAnew_8 rfl (by decide) (fun _ => rfl) h (fun x3_2 h => ?_)
  refine g_sub [1, 2, 0] rfl (sX5_tellAnew_L9 hX hR (fun σ_5 x3_6 h => ?_) FU _ _ h)
  exact g_retv hR h dX5_tellAnew_33
set_option maxRecDepth 20000 in
set_option maxHeartbeats 4000000 in
theorem kX5_tellAnew (l : Launch) {a : Nat → Nat} {D : va_G} {tI tJ tB tS : ClassId} {kK kV : Nat → Nat} {σ τ : St}  {p1 : Int32} {p2 : Int32} {x : Unit} (h : fX5_tellAnew σ p1 p2 = some (τ, x)) : CtV l yX5_tellAnew cX5_tellAnew 4 none 0 0 (vC a D tI tJ tB tS kK kV) σ [.ref (a 22), .int p1, .int p2] τ x := g_metV (by decide) (Nat.le_of_ble_eq_true rfl) rfl (fun X _ hX hR => sX5_tellAnew (r := (τ, x)) hX hR h)
def fX8_sure (σ : St) (p1 : Int32) (p2 : Int32) : Option (St × Int32) :=
  cl (fX6_hasBaker σ p1) fun (σ_1 : St) (t_2 : Int32) => (if t_2 = 0 then some (σ_1, (0 : Int32)) else cl (fX6_hasStep σ_1 p2) fun (σ_3 : St) (t_4 : Int32) => (if t_4 = 0 then some (σ_3, (0 : Int32)) else cl (fX5_tellAnew σ_3 p1 (1 : Int32)) fun (σ_5 : St) (t_6 : Unit) => chk (inb ((p1 * (8 : Int32)) + p2) 32) (bnd (sI σ_5 24 (ix ((p1 * (8 : Int32)) + p2)) (100 : Int32)) fun (σ_7 : St) => some (σ_7, (1 : Int32)))))
set_option maxRecDepth 20000 in
set_option maxHeartbeats 4000000 in
theorem sX8_sure {X : CX} {a : Nat → Nat} {D : va_G} {tI tJ tB tS : ClassId} {kK kV : Nat → Nat} {σ : St}  {p1 : Int32} {p2 : Int32} {r : St × Int32} (hX : OKX X (vC a D tI tJ tB tS kK kV) cX8_sure 3 RX8 1 23) (hR : (r.2 = 0 ∨ r.2 = 1) → ∀ (pc : Nat) (lv : List (Nat × Value)), decode cX8_sure pc = .ok (.ireturn, 1) → G X (vC a D tI tJ tB tS kK kV) 3 r.1 pc lv [.int r.2])  (h : fX8_sure σ p1 p2 = some r) : G X (vC a D tI tJ tB tS kK kV) 3 σ 0 [(0, .ref (a 0)), (1, .int p1), (2, .int p2)] [] := by
  unfold fX8_sure at h
  refine g_aload_n hX 0 dX8_sure_0 rfl rfl ?_
  refine gCX8_27_0 hX dX8_sure_1 ?_
  refine g_iload_n hX 1 dX8_sure_4 rfl rfl ?_
  refine g_callNI (As := [.int p1]) (rest := []) hX 2 (Nat.le_of_ble_eq_true rfl) rfl rfl miX6_hasBaker mvX6_hasBaker lkX8_125 (by decide) rfl (Nat.le_of_ble_eq_true rfl) rfl dX8_sure_5 (fun τ x ho => kX6_hasBaker _ ho) h (fun σ_1 t_2 h => ?_)
  refine g_if_eq hX 22 dX8_sure_8 (by decide) h (fun h => ?_) (fun h => ?_)
  · refine g_iconst hX (0) dX8_sure_22 (by decide) ?_
    exact g_retz hR (by decide) h dX8_sure_23
  · refine g_aload_n hX 0 dX8_sure_11 rfl rfl ?_
    refine gCX8_27_0 hX dX8_sure_12 ?_
    refine g_iload_n hX 2 dX8_sure_15 rfl rfl ?_
    refine g_callNI (As := [.int p2]) (rest := []) hX 2 (Nat.le_of_ble_eq_true rfl) rfl rfl miX6_hasStep mvX6_hasStep lkX8_157 (by decide) rfl (Nat.le_of_ble_eq_true rfl) rfl dX8_sure_16 (fun τ x ho => kX6_hasStep _ ho) h (fun σ_3 t_4 h => ?_)
    refine g_if_ne hX 24 dX8_sure_19 (by decide) h (fun h => ?_) (fun h => ?_)
    · refine g_aload_n hX 0 dX8_sure_24 rfl rfl ?_
      refine gCX8_47_0 hX dX8_sure_25 ?_
      refine g_iload_n hX 1 dX8_sure_28 rfl rfl ?_
      refine g_iconst hX (1) dX8_sure_29 (by decide) ?_
      refine g_callNV (As := [.int p1, .int (1 : Int32)]) (rest := []) hX 22 (Nat.le_of_ble_eq_true rfl) rfl rfl miX5_tellAnew mvX5_tellAnew lkX8_160 (by decide) rfl (Nat.le_of_ble_eq_true rfl) rfl dX8_sure_30 (fun τ x ho => kX5_tellAnew _ ho) h (fun σ_5 t_6 h => ?_)
      refine g_aload_n hX 0 dX8_sure_33 rfl rfl ?_
      refine gCX8_47_0 hX dX8_sure_34 ?_
      refine gCX8_164_22 hX dX8_sure_37 ?_
      refine g_iload_n hX 1 dX8_sure_40 rfl rfl ?_
      refine g_bipush hX (8) dX8_sure_41 (by decide) ?_
      refine g_imul hX dX8_sure_43 ?_
      refine g_iload_n hX 2 dX8_sure_44 rfl rfl ?_
      refine g_iadd hX dX8_sure_45 ?_
      refine g_bipush hX (100) dX8_sure_46 (by decide) ?_
      refine asC_24 hX dX8_sure_48 h (fun σ_7 h => ?_)
      refine g_iconst hX (1) dX8_sure_49 (by decide) ?_
      exact g_retz hR (by decide) h dX8_sure_50
    · refine g_iconst hX (0) dX8_sure_22 (by decide) ?_
      exact g_retz hR (by decide) h dX8_sure_23
set_option maxRecDepth 20000 in
set_option maxHeartbeats 4000000 in
theorem kX8_sure (l : Launch) {a : Nat → Nat} {D : va_G} {tI tJ tB tS : ClassId} {kK kV : Nat → Nat} {σ τ : St}  {p1 : Int32} {p2 : Int32} {x : Int32} (h : fX8_sure σ p1 p2 = some (τ, x)) : CtI l yX8_sure cX8_sure 3 (some .boolean) 1 23 (vC a D tI tJ tB tS kK kV) σ [.ref (a 0), .int p1, .int p2] τ x := g_metZ (by decide) (Nat.le_of_ble_eq_true rfl) rfl (fun X _ hX hR => sX8_sure (r := (τ, x)) hX hR h)
def fX8_isAnyStep (σ : St) (p1 : Int32) : Option (St × Int32) :=
  (if p1 < 0 then some (σ, (0 : Int32)) else (if (8 : Int32) ≤ p1 then some (σ, (0 : Int32)) else some (σ, (1 : Int32))))
set_option maxRecDepth 20000 in
set_option maxHeartbeats 4000000 in
theorem sX8_isAnyStep {X : CX} {a : Nat → Nat} {D : va_G} {tI tJ tB tS : ClassId} {kK kV : Nat → Nat} {σ : St}  {p1 : Int32} {r : St × Int32} (hX : OKX X (vC a D tI tJ tB tS kK kV) cX8_isAnyStep 1 RX8 0 0) (hR : (r.2 = 0 ∨ r.2 = 1) → ∀ (pc : Nat) (lv : List (Nat × Value)), decode cX8_isAnyStep pc = .ok (.ireturn, 1) → G X (vC a D tI tJ tB tS kK kV) 1 r.1 pc lv [.int r.2])  (h : fX8_isAnyStep σ p1 = some r) : G X (vC a D tI tJ tB tS kK kV) 1 σ 0 [(0, .int p1)] [] := by
  unfold fX8_isAnyStep at h
  refine g_iload_n hX 0 dX8_isAnyStep_0 rfl rfl ?_
  refine g_if_lt hX 14 dX8_isAnyStep_1 (by decide) h (fun h => ?_) (fun h => ?_)
  · refine g_iconst hX (0) dX8_isAnyStep_14 (by decide) ?_
    exact g_retz hR (by decide) h dX8_isAnyStep_15
  · refine g_iload_n hX 0 dX8_isAnyStep_4 rfl rfl ?_
    refine g_bipush hX (8) dX8_isAnyStep_5 (by decide) ?_
    refine g_icmp_ge hX 14 dX8_isAnyStep_7 (by decide) h (fun h => ?_) (fun h => ?_)
    · refine g_iconst hX (0) dX8_isAnyStep_14 (by decide) ?_
      exact g_retz hR (by decide) h dX8_isAnyStep_15
    · refine g_iconst hX (1) dX8_isAnyStep_10 (by decide) ?_
      refine g_goto hX 15 dX8_isAnyStep_11 (by decide) ?_
      exact g_retz hR (by decide) h dX8_isAnyStep_15
set_option maxRecDepth 20000 in
set_option maxHeartbeats 4000000 in
theorem kX8_isAnyStep (l : Launch) {a : Nat → Nat} {D : va_G} {tI tJ tB tS : ClassId} {kK kV : Nat → Nat} {σ τ : St}  {p1 : Int32} {x : Int32} (h : fX8_isAnyStep σ p1 = some (τ, x)) : CtI l yX8_isAnyStep cX8_isAnyStep 1 (some .boolean) 0 0 (vC a D tI tJ tB tS kK kV) σ [.int p1] τ x := g_metZ (by decide) (Nat.le_of_ble_eq_true rfl) rfl (fun X _ hX hR => sX8_isAnyStep (r := (τ, x)) hX hR h)
def fX8_lot (σ : St) (p1 : Int32) (p2 : Int32) (p3 : Int32) : Option (St × Int32) :=
  cl (fX6_hasBaker σ p1) fun (σ_1 : St) (t_2 : Int32) => (if t_2 = 0 then some (σ_1, (0 : Int32)) else cl (fX8_isAnyStep σ_1 p2) fun (σ_3 : St) (t_4 : Int32) => (if t_4 = 0 then some (σ_3, (0 : Int32)) else (if p3 < 0 then some (σ_3, (0 : Int32)) else (if p3 ≤ (100 : Int32) then chk (inb p1 4) ((jp (fun (σ_5 : St)   => chk (inb ((p1 * (8 : Int32)) + p2) 32) (bnd (sI σ_5 24 (ix ((p1 * (8 : Int32)) + p2)) p3) fun (σ_6 : St) => some (σ_6, (1 : Int32)))) fun j52 => (if (σ_3.1 23 (ix p1)) = (2 : Int32) then j52 σ_3 else cl (fX5_tellAnew σ_3 p1 (2 : Int32)) fun (σ_7 : St) (t_8 : Unit) => j52 σ_7))) else some (σ_3, (0 : Int32))))))
set_option maxRecDepth 20000 in
set_option maxHeartbeats 4000000 in
theorem sX8_lot {X : CX} {a : Nat → Nat} {D : va_G} {tI tJ tB tS : ClassId} {kK kV : Nat → Nat} {σ : St}  {p1 : Int32} {p2 : Int32} {p3 : Int32} {r : St × Int32} (hX : OKX X (vC a D tI tJ tB tS kK kV) cX8_lot 4 RX8 1 23) (hR : (r.2 = 0 ∨ r.2 = 1) → ∀ (pc : Nat) (lv : List (Nat × Value)), decode cX8_lot pc = .ok (.ireturn, 1) → G X (vC a D tI tJ tB tS kK kV) 4 r.1 pc lv [.int r.2])  (h : fX8_lot σ p1 p2 p3 = some r) : G X (vC a D tI tJ tB tS kK kV) 4 σ 0 [(0, .ref (a 0)), (1, .int p1), (2, .int p2), (3, .int p3)] [] := by
  unfold fX8_lot at h
  refine g_aload_n hX 0 dX8_lot_0 rfl rfl ?_
  refine gCX8_27_0 hX dX8_lot_1 ?_
  refine g_iload_n hX 1 dX8_lot_4 rfl rfl ?_
  refine g_callNI (As := [.int p1]) (rest := []) hX 2 (Nat.le_of_ble_eq_true rfl) rfl rfl miX6_hasBaker mvX6_hasBaker lkX8_125 (by decide) rfl (Nat.le_of_ble_eq_true rfl) rfl dX8_lot_5 (fun τ x ho => kX6_hasBaker _ ho) h (fun σ_1 t_2 h => ?_)
  refine g_if_eq hX 28 dX8_lot_8 (by decide) h (fun h => ?_) (fun h => ?_)
  · refine g_iconst hX (0) dX8_lot_28 (by decide) ?_
    exact g_retz hR (by decide) h dX8_lot_29
  · refine g_iload_n hX 2 dX8_lot_11 rfl rfl ?_
    refine g_callSI (As := [.int p2]) (rest := []) hX miX8_isAnyStep mvX8_isAnyStep lkX8_167 (by decide) rfl (Nat.le_of_ble_eq_true rfl) rfl dX8_lot_12 (fun τ x ho => kX8_isAnyStep _ ho) h (fun σ_3 t_4 h => ?_)
    refine g_if_eq hX 28 dX8_lot_15 (by decide) h (fun h => ?_) (fun h => ?_)
    · refine g_iconst hX (0) dX8_lot_28 (by decide) ?_
      exact g_retz hR (by decide) h dX8_lot_29
    · refine g_iload_n hX 3 dX8_lot_18 rfl rfl ?_
      refine g_if_lt hX 28 dX8_lot_19 (by decide) h (fun h => ?_) (fun h => ?_)
      · refine g_iconst hX (0) dX8_lot_28 (by decide) ?_
        exact g_retz hR (by decide) h dX8_lot_29
      · refine g_iload_n hX 3 dX8_lot_22 rfl rfl ?_
        refine g_bipush hX (100) dX8_lot_23 (by decide) ?_
        refine g_icmp_le hX 30 dX8_lot_25 (by decide) h (fun h => ?_) (fun h => ?_)
        · refine g_aload_n hX 0 dX8_lot_30 rfl rfl ?_
          refine gCX8_47_0 hX dX8_lot_31 ?_
          refine gCX8_170_22 hX dX8_lot_34 ?_
          refine g_iload_n hX 1 dX8_lot_37 rfl rfl ?_
          refine alC_23 hX dX8_lot_38 h (fun h => ?_)
          refine g_iconst hX (2) dX8_lot_39 (by decide) ?_
          refine jp_inv (P := fun f => ∀ (σ_5 : St)  , f σ_5 = some r → G X (vC a D tI tJ tB tS kK kV) 4 σ_5 52 [(0, .ref (a 0)), (1, .int p1), (2, .int p2), (3, .int p3)] []) h (fun σ_5 h => ?_) (fun j52 hj52 h => ?_)
          · refine g_aload_n hX 0 dX8_lot_52 rfl rfl ?_
            refine gCX8_47_0 hX dX8_lot_53 ?_
            refine gCX8_164_22 hX dX8_lot_56 ?_
            refine g_iload_n hX 1 dX8_lot_59 rfl rfl ?_
            refine g_bipush hX (8) dX8_lot_60 (by decide) ?_
            refine g_imul hX dX8_lot_62 ?_
            refine g_iload_n hX 2 dX8_lot_63 rfl rfl ?_
            refine g_iadd hX dX8_lot_64 ?_
            refine g_iload_n hX 3 dX8_lot_65 rfl rfl ?_
            refine asC_24 hX dX8_lot_66 h (fun σ_6 h => ?_)
            refine g_iconst hX (1) dX8_lot_67 (by decide) ?_
            exact g_retz hR (by decide) h dX8_lot_68
          refine g_icmp_eq hX 52 dX8_lot_40 (by decide) h (fun h => ?_) (fun h => ?_)
          · exact g_sub [0, 1, 2, 3] rfl (hj52 _ h)
          · refine g_aload_n hX 0 dX8_lot_43 rfl rfl ?_
            refine gCX8_47_0 hX dX8_lot_44 ?_
            refine g_iload_n hX 1 dX8_lot_47 rfl rfl ?_
            refine g_iconst hX (2) dX8_lot_48 (by decide) ?_
            refine g_callNV (As := [.int p1, .int (2 : Int32)]) (rest := []) hX 22 (Nat.le_of_ble_eq_true rfl) rfl rfl miX5_tellAnew mvX5_tellAnew lkX8_160 (by decide) rfl (Nat.le_of_ble_eq_true rfl) rfl dX8_lot_49 (fun τ x ho => kX5_tellAnew _ ho) h (fun σ_7 t_8 h => ?_)
            exact g_sub [0, 1, 2, 3] rfl (hj52 _ h)
        · refine g_iconst hX (0) dX8_lot_28 (by decide) ?_
          exact g_retz hR (by decide) h dX8_lot_29
set_option maxRecDepth 20000 in
set_option maxHeartbeats 4000000 in
theorem kX8_lot (l : Launch) {a : Nat → Nat} {D : va_G} {tI tJ tB tS : ClassId} {kK kV : Nat → Nat} {σ τ : St}  {p1 : Int32} {p2 : Int32} {p3 : Int32} {x : Int32} (h : fX8_lot σ p1 p2 p3 = some (τ, x)) : CtI l yX8_lot cX8_lot 4 (some .boolean) 1 23 (vC a D tI tJ tB tS kK kV) σ [.ref (a 0), .int p1, .int p2, .int p3] τ x := g_metZ (by decide) (Nat.le_of_ble_eq_true rfl) rfl (fun X _ hX hR => sX8_lot (r := (τ, x)) hX hR h)
def fX8_answer (σ : St) (p1 : Int32) : Option (St × Int32) :=
  cl (fX6_hasBaker σ p1) fun (σ_1 : St) (t_2 : Int32) => (if t_2 = 0 then some (σ_1, (0 : Int32)) else cl (fX5_tellAnew σ_1 p1 (3 : Int32)) fun (σ_3 : St) (t_4 : Unit) => some (σ_3, (1 : Int32)))
set_option maxRecDepth 20000 in
set_option maxHeartbeats 4000000 in
theorem sX8_answer {X : CX} {a : Nat → Nat} {D : va_G} {tI tJ tB tS : ClassId} {kK kV : Nat → Nat} {σ : St}  {p1 : Int32} {r : St × Int32} (hX : OKX X (vC a D tI tJ tB tS kK kV) cX8_answer 2 RX8 1 23) (hR : (r.2 = 0 ∨ r.2 = 1) → ∀ (pc : Nat) (lv : List (Nat × Value)), decode cX8_answer pc = .ok (.ireturn, 1) → G X (vC a D tI tJ tB tS kK kV) 2 r.1 pc lv [.int r.2])  (h : fX8_answer σ p1 = some r) : G X (vC a D tI tJ tB tS kK kV) 2 σ 0 [(0, .ref (a 0)), (1, .int p1)] [] := by
  unfold fX8_answer at h
  refine g_aload_n hX 0 dX8_answer_0 rfl rfl ?_
  refine gCX8_27_0 hX dX8_answer_1 ?_
  refine g_iload_n hX 1 dX8_answer_4 rfl rfl ?_
  refine g_callNI (As := [.int p1]) (rest := []) hX 2 (Nat.le_of_ble_eq_true rfl) rfl rfl miX6_hasBaker mvX6_hasBaker lkX8_125 (by decide) rfl (Nat.le_of_ble_eq_true rfl) rfl dX8_answer_5 (fun τ x ho => kX6_hasBaker _ ho) h (fun σ_1 t_2 h => ?_)
  refine g_if_ne hX 13 dX8_answer_8 (by decide) h (fun h => ?_) (fun h => ?_)
  · refine g_aload_n hX 0 dX8_answer_13 rfl rfl ?_
    refine gCX8_47_0 hX dX8_answer_14 ?_
    refine g_iload_n hX 1 dX8_answer_17 rfl rfl ?_
    refine g_iconst hX (3) dX8_answer_18 (by decide) ?_
    refine g_callNV (As := [.int p1, .int (3 : Int32)]) (rest := []) hX 22 (Nat.le_of_ble_eq_true rfl) rfl rfl miX5_tellAnew mvX5_tellAnew lkX8_160 (by decide) rfl (Nat.le_of_ble_eq_true rfl) rfl dX8_answer_19 (fun τ x ho => kX5_tellAnew _ ho) h (fun σ_3 t_4 h => ?_)
    refine g_iconst hX (1) dX8_answer_22 (by decide) ?_
    exact g_retz hR (by decide) h dX8_answer_23
  · refine g_iconst hX (0) dX8_answer_11 (by decide) ?_
    exact g_retz hR (by decide) h dX8_answer_12
set_option maxRecDepth 20000 in
set_option maxHeartbeats 4000000 in
theorem kX8_answer (l : Launch) {a : Nat → Nat} {D : va_G} {tI tJ tB tS : ClassId} {kK kV : Nat → Nat} {σ τ : St}  {p1 : Int32} {x : Int32} (h : fX8_answer σ p1 = some (τ, x)) : CtI l yX8_answer cX8_answer 2 (some .boolean) 1 23 (vC a D tI tJ tB tS kK kV) σ [.ref (a 0), .int p1] τ x := g_metZ (by decide) (Nat.le_of_ble_eq_true rfl) rfl (fun X _ hX hR => sX8_answer (r := (τ, x)) hX hR h)
def fX8_ask (σ : St) (p1 : Int32) : Option (St × Int32) :=
  cl (fX6_hasBaker σ p1) fun (σ_1 : St) (t_2 : Int32) => (if t_2 = 0 then some (σ_1, (-1 : Int32)) else chk (inb p1 4) (some (σ_1, (σ_1.1 23 (ix p1)))))
set_option maxRecDepth 20000 in
set_option maxHeartbeats 4000000 in
theorem sX8_ask {X : CX} {a : Nat → Nat} {D : va_G} {tI tJ tB tS : ClassId} {kK kV : Nat → Nat} {σ : St}  {p1 : Int32} {r : St × Int32} (hX : OKX X (vC a D tI tJ tB tS kK kV) cX8_ask 2 RX8 1 21) (hR : ∀ (pc : Nat) (lv : List (Nat × Value)), decode cX8_ask pc = .ok (.ireturn, 1) → G X (vC a D tI tJ tB tS kK kV) 2 r.1 pc lv [.int r.2])  (h : fX8_ask σ p1 = some r) : G X (vC a D tI tJ tB tS kK kV) 2 σ 0 [(0, .ref (a 0)), (1, .int p1)] [] := by
  unfold fX8_ask at h
  refine g_aload_n hX 0 dX8_ask_0 rfl rfl ?_
  refine gCX8_27_0 hX dX8_ask_1 ?_
  refine g_iload_n hX 1 dX8_ask_4 rfl rfl ?_
  refine g_callNI (As := [.int p1]) (rest := []) hX 2 (Nat.le_of_ble_eq_true rfl) rfl rfl miX6_hasBaker mvX6_hasBaker lkX8_125 (by decide) rfl (Nat.le_of_ble_eq_true rfl) rfl dX8_ask_5 (fun τ x ho => kX6_hasBaker _ ho) h (fun σ_1 t_2 h => ?_)
  refine g_if_eq hX 23 dX8_ask_8 (by decide) h (fun h => ?_) (fun h => ?_)
  · refine g_iconst hX (-1) dX8_ask_23 (by decide) ?_
    exact g_reti hR h dX8_ask_24
  · refine g_aload_n hX 0 dX8_ask_11 rfl rfl ?_
    refine gCX8_47_0 hX dX8_ask_12 ?_
    refine gCX8_170_22 hX dX8_ask_15 ?_
    refine g_iload_n hX 1 dX8_ask_18 rfl rfl ?_
    refine alC_23 hX dX8_ask_19 h (fun h => ?_)
    refine g_goto hX 24 dX8_ask_20 (by decide) ?_
    exact g_reti hR h dX8_ask_24
set_option maxRecDepth 20000 in
set_option maxHeartbeats 4000000 in
theorem kX8_ask (l : Launch) {a : Nat → Nat} {D : va_G} {tI tJ tB tS : ClassId} {kK kV : Nat → Nat} {σ τ : St}  {p1 : Int32} {x : Int32} (h : fX8_ask σ p1 = some (τ, x)) : CtI l yX8_ask cX8_ask 2 (some .int) 1 21 (vC a D tI tJ tB tS kK kV) σ [.ref (a 0), .int p1] τ x := g_metI (by decide) (Nat.le_of_ble_eq_true rfl) rfl (fun X _ hX hR => sX8_ask (r := (τ, x)) hX hR h)
def fX2_has (σ : St) (p1 : Int32) : Option (St × Int32) :=
  (if p1 < 0 then some (σ, (0 : Int32)) else (if (σ.1 19 0) ≤ p1 then some (σ, (0 : Int32)) else some (σ, (1 : Int32))))
set_option maxRecDepth 20000 in
set_option maxHeartbeats 4000000 in
theorem sX2_has {X : CX} {a : Nat → Nat} {D : va_G} {tI tJ tB tS : ClassId} {kK kV : Nat → Nat} {σ : St}  {p1 : Int32} {r : St × Int32} (hX : OKX X (vC a D tI tJ tB tS kK kV) cX2_has 2 RX2 0 0) (hR : (r.2 = 0 ∨ r.2 = 1) → ∀ (pc : Nat) (lv : List (Nat × Value)), decode cX2_has pc = .ok (.ireturn, 1) → G X (vC a D tI tJ tB tS kK kV) 2 r.1 pc lv [.int r.2])  (h : fX2_has σ p1 = some r) : G X (vC a D tI tJ tB tS kK kV) 2 σ 0 [(0, .ref (a 19)), (1, .int p1)] [] := by
  unfold fX2_has at h
  refine g_iload_n hX 1 dX2_has_0 rfl rfl ?_
  refine g_if_lt hX 16 dX2_has_1 (by decide) h (fun h => ?_) (fun h => ?_)
  · refine g_iconst hX (0) dX2_has_16 (by decide) ?_
    exact g_retz hR (by decide) h dX2_has_17
  · refine g_iload_n hX 1 dX2_has_4 rfl rfl ?_
    refine g_aload_n hX 0 dX2_has_5 rfl rfl ?_
    refine gCX2_9_19 hX dX2_has_6 ?_
    refine g_icmp_ge hX 16 dX2_has_9 (by decide) h (fun h => ?_) (fun h => ?_)
    · refine g_iconst hX (0) dX2_has_16 (by decide) ?_
      exact g_retz hR (by decide) h dX2_has_17
    · refine g_iconst hX (1) dX2_has_12 (by decide) ?_
      refine g_goto hX 17 dX2_has_13 (by decide) ?_
      exact g_retz hR (by decide) h dX2_has_17
set_option maxRecDepth 20000 in
set_option maxHeartbeats 4000000 in
theorem kX2_has (l : Launch) {a : Nat → Nat} {D : va_G} {tI tJ tB tS : ClassId} {kK kV : Nat → Nat} {σ τ : St}  {p1 : Int32} {x : Int32} (h : fX2_has σ p1 = some (τ, x)) : CtI l yX2_has cX2_has 2 (some .boolean) 0 0 (vC a D tI tJ tB tS kK kV) σ [.ref (a 19), .int p1] τ x := g_metZ (by decide) (Nat.le_of_ble_eq_true rfl) rfl (fun X _ hX hR => sX2_has (r := (τ, x)) hX hR h)
def fX2_shouts (σ : St) (p1 : Int32) : Option (St × Int32) :=
  cl (fX2_has σ p1) fun (σ_1 : St) (t_2 : Int32) => (if t_2 = 0 then some (σ_1, (0 : Int32)) else chk (inb p1 6) ((if (σ_1.1 20 (ix p1)) = (2 : Int32) then some (σ_1, (1 : Int32)) else some (σ_1, (0 : Int32)))))
set_option maxRecDepth 20000 in
set_option maxHeartbeats 4000000 in
theorem sX2_shouts {X : CX} {a : Nat → Nat} {D : va_G} {tI tJ tB tS : ClassId} {kK kV : Nat → Nat} {σ : St}  {p1 : Int32} {r : St × Int32} (hX : OKX X (vC a D tI tJ tB tS kK kV) cX2_shouts 2 RX2 1 21) (hR : (r.2 = 0 ∨ r.2 = 1) → ∀ (pc : Nat) (lv : List (Nat × Value)), decode cX2_shouts pc = .ok (.ireturn, 1) → G X (vC a D tI tJ tB tS kK kV) 2 r.1 pc lv [.int r.2])  (h : fX2_shouts σ p1 = some r) : G X (vC a D tI tJ tB tS kK kV) 2 σ 0 [(0, .ref (a 19)), (1, .int p1)] [] := by
  unfold fX2_shouts at h
  refine g_aload_n hX 0 dX2_shouts_0 rfl rfl ?_
  refine g_iload_n hX 1 dX2_shouts_1 rfl rfl ?_
  refine g_callVI (As := [.int p1]) (rest := []) hX 19 (Nat.le_of_ble_eq_true rfl) rfl rfl miX2_has mvX2_has lkX2_22 (by decide) rfl (Nat.le_of_ble_eq_true rfl) rfl dX2_shouts_2 (fun τ x ho => kX2_has _ ho) h (fun σ_1 t_2 h => ?_)
  refine g_if_eq hX 22 dX2_shouts_5 (by decide) h (fun h => ?_) (fun h => ?_)
  · refine g_iconst hX (0) dX2_shouts_22 (by decide) ?_
    exact g_retz hR (by decide) h dX2_shouts_23
  · refine g_aload_n hX 0 dX2_shouts_8 rfl rfl ?_
    refine gCX2_15_19 hX dX2_shouts_9 ?_
    refine g_iload_n hX 1 dX2_shouts_12 rfl rfl ?_
    refine alC_20 hX dX2_shouts_13 h (fun h => ?_)
    refine g_iconst hX (2) dX2_shouts_14 (by decide) ?_
    refine g_icmp_ne hX 22 dX2_shouts_15 (by decide) h (fun h => ?_) (fun h => ?_)
    · refine g_iconst hX (0) dX2_shouts_22 (by decide) ?_
      exact g_retz hR (by decide) h dX2_shouts_23
    · refine g_iconst hX (1) dX2_shouts_18 (by decide) ?_
      refine g_goto hX 23 dX2_shouts_19 (by decide) ?_
      exact g_retz hR (by decide) h dX2_shouts_23
set_option maxRecDepth 20000 in
set_option maxHeartbeats 4000000 in
theorem kX2_shouts (l : Launch) {a : Nat → Nat} {D : va_G} {tI tJ tB tS : ClassId} {kK kV : Nat → Nat} {σ τ : St}  {p1 : Int32} {x : Int32} (h : fX2_shouts σ p1 = some (τ, x)) : CtI l yX2_shouts cX2_shouts 2 (some .boolean) 1 21 (vC a D tI tJ tB tS kK kV) σ [.ref (a 19), .int p1] τ x := g_metZ (by decide) (Nat.le_of_ble_eq_true rfl) rfl (fun X _ hX hR => sX2_shouts (r := (τ, x)) hX hR h)
def fX2_free (σ : St) (p1 : Int32) (p2 : Int32) : Option (St × Int32) :=
  bnd (((1 : Int32) <<< (p2 &&& 31)) - (1 : Int32)) fun (x3_1 : Int32) => cl (fX2_has σ p1) fun (σ_2 : St) (t_3 : Int32) => (if t_3 = 0 then some (σ_2, x3_1) else chk (inb p1 6) ((if (σ_2.1 20 (ix p1)) = (2 : Int32) then some (σ_2, x3_1) else chk (inb p1 6) (bnd (((1 : Int32) <<< ((σ_2.1 21 (ix p1)) &&& 31)) - (1 : Int32)) fun (x4_4 : Int32) => chk (inb p1 6) ((if (σ_2.1 20 (ix p1)) = (1 : Int32) then some (σ_2, (x3_1 &&& (x4_4 ^^^ (-1 : Int32)))) else some (σ_2, (x3_1 &&& ((x4_4 * (2 : Int32)) + (1 : Int32))))))))))
set_option maxRecDepth 20000 in
set_option maxHeartbeats 4000000 in
theorem sX2_free {X : CX} {a : Nat → Nat} {D : va_G} {tI tJ tB tS : ClassId} {kK kV : Nat → Nat} {σ : St}  {p1 : Int32} {p2 : Int32} {r : St × Int32} (hX : OKX X (vC a D tI tJ tB tS kK kV) cX2_free 5 RX2 1 21) (hR : ∀ (pc : Nat) (lv : List (Nat × Value)), decode cX2_free pc = .ok (.ireturn, 1) → G X (vC a D tI tJ tB tS kK kV) 5 r.1 pc lv [.int r.2])  (h : fX2_free σ p1 p2 = some r) : G X (vC a D tI tJ tB tS kK kV) 5 σ 0 [(0, .ref (a 19)), (1, .int p1), (2, .int p2)] [] := by
  unfold fX2_free at h
  refine g_iconst hX (1) dX2_free_0 (by decide) ?_
  refine g_iload_n hX 2 dX2_free_1 rfl rfl ?_
  refine g_ishl hX dX2_free_2 ?_
  refine g_iconst hX (1) dX2_free_3 (by decide) ?_
  refine g_isub hX dX2_free_4 ?_
  refine g_istore_n (lv' := fun x3_1 => [(3, .int x3_1), (0, .ref (a 19)), (1, .int p1), (2, .int p2)]) hX dX2_free_5 rfl (by decide) (fun _ => rfl) h (fun x3_1 h => ?_)
  refine g_aload_n hX 1 dX2_free_6 rfl rfl ?_
  refine g_iload_n hX 2 dX2_free_7 rfl rfl ?_
  refine g_callVI (As := [.int p1]) (rest := []) hX 19 (Nat.le_of_ble_eq_true rfl) rfl rfl miX2_has mvX2_has lkX2_22 (by decide) rfl (Nat.le_of_ble_eq_true rfl) rfl dX2_free_8 (fun τ x ho => kX2_has _ ho) h (fun σ_2 t_3 h => ?_)
  refine g_if_eq hX 24 dX2_free_11 (by decide) h (fun h => ?_) (fun h => ?_)
  · refine g_iload_n hX 0 dX2_free_24 rfl rfl ?_
    exact g_reti hR h dX2_free_25
  · refine g_aload_n hX 1 dX2_free_14 rfl rfl ?_
    refine gCX2_15_19 hX dX2_free_15 ?_
    refine g_iload_n hX 2 dX2_free_18 rfl rfl ?_
    refine alC_20 hX dX2_free_19 h (fun h => ?_)
    refine g_iconst hX (2) dX2_free_20 (by decide) ?_
    refine g_icmp_ne hX 26 dX2_free_21 (by decide) h (fun h => ?_) (fun h => ?_)
    · refine g_iconst hX (1) dX2_free_26 (by decide) ?_
      refine g_aload_n hX 1 dX2_free_27 rfl rfl ?_
      refine gCX2_19_19 hX dX2_free_28 ?_
      refine g_iload_n hX 2 dX2_free_31 rfl rfl ?_
      refine alC_21 hX dX2_free_32 h (fun h => ?_)
      refine g_ishl hX dX2_free_33 ?_
      refine g_iconst hX (1) dX2_free_34 (by decide) ?_
      refine g_isub hX dX2_free_35 ?_
      refine g_istore (lv' := fun x4_4 => [(4, .int x4_4), (3, .int x3_1), (0, .ref (a 19)), (1, .int p1), (2, .int p2)]) hX dX2_free_36 (by decide) (fun _ => rfl) h (fun x4_4 h => ?_)
      refine g_aload_n hX 2 dX2_free_38 rfl rfl ?_
      refine gCX2_15_19 hX dX2_free_39 ?_
      refine g_iload_n hX 3 dX2_free_42 rfl rfl ?_
      refine alC_20 hX dX2_free_43 h (fun h => ?_)
      refine g_iconst hX (1) dX2_free_44 (by decide) ?_
      refine g_icmp_ne hX 57 dX2_free_45 (by decide) h (fun h => ?_) (fun h => ?_)
      · refine g_iload_n hX 1 dX2_free_57 rfl rfl ?_
        refine g_iload hX 0 dX2_free_58 rfl ?_
        refine g_iconst hX (2) dX2_free_60 (by decide) ?_
        refine g_imul hX dX2_free_61 ?_
        refine g_iconst hX (1) dX2_free_62 (by decide) ?_
        refine g_iadd hX dX2_free_63 ?_
        refine g_iand hX dX2_free_64 ?_
        exact g_reti hR h dX2_free_65
      · refine g_iload_n hX 1 dX2_free_48 rfl rfl ?_
        refine g_iload hX 0 dX2_free_49 rfl ?_
        refine g_iconst hX (-1) dX2_free_51 (by decide) ?_
        refine g_ixor hX dX2_free_52 ?_
        refine g_iand hX dX2_free_53 ?_
        refine g_goto hX 65 dX2_free_54 (by decide) ?_
        exact g_reti hR h dX2_free_65
    · refine g_iload_n hX 0 dX2_free_24 rfl rfl ?_
      exact g_reti hR h dX2_free_25
set_option maxRecDepth 20000 in
set_option maxHeartbeats 4000000 in
theorem kX2_free (l : Launch) {a : Nat → Nat} {D : va_G} {tI tJ tB tS : ClassId} {kK kV : Nat → Nat} {σ τ : St}  {p1 : Int32} {p2 : Int32} {x : Int32} (h : fX2_free σ p1 p2 = some (τ, x)) : CtI l yX2_free cX2_free 5 (some .int) 1 21 (vC a D tI tJ tB tS kK kV) σ [.ref (a 19), .int p1, .int p2] τ x := g_metI (by decide) (Nat.le_of_ble_eq_true rfl) rfl (fun X _ hX hR => sX2_free (r := (τ, x)) hX hR h)
def fJ7_fill_53178_i44_L5 (q1_5 : Int32) (q3_5 : Int32) (kx5 : St → Int32 → Option (St × Unit)) : Nat → St → Int32 → Option (St × Unit)
  | 0, _, _ => none
  | n5 + 1, σ, c2_5 =>
    (if q3_5 ≤ c2_5 then kx5 σ c2_5 else chk (inb c2_5 128) (bnd (sI σ 44 (ix c2_5) q1_5) fun (σ_3 : St) => bnd (c2_5 + (1 : Int32)) fun (x2_4 : Int32) => fJ7_fill_53178_i44_L5 q1_5 q3_5 kx5 n5 σ_3 x2_4))
def fJ7_fill_53178_i44 (σ : St) (p2 : Int32) : Option (St × Unit) :=
  bnd (0 : Int32) fun (x2_1 : Int32) => bnd (128 : Int32) fun (x3_2 : Int32) => fJ7_fill_53178_i44_L5 p2 x3_2 (fun (σ_5 : St) (x2_6 : Int32) => some (σ_5, ())) FU σ x2_1
set_option maxRecDepth 20000 in
set_option maxHeartbeats 4000000 in
theorem sJ7_fill_53178_i44_L5 {X : CX} {a : Nat → Nat} {D : va_G} {tI tJ tB tS : ClassId} {kK kV : Nat → Nat} {q1_5 : Int32} {q3_5 : Int32} {kx5 : St → Int32 → Option (St × Unit)} {r : St × Unit} (hX : OKX X (vC a D tI tJ tB tS kK kV) cJ7_fill_53178 4 RJ7 0 0) (hR : ∀ (pc : Nat) (lv : List (Nat × Value)), decode cJ7_fill_53178 pc = .ok (.return_, 1) → G X (vC a D tI tJ tB tS kK kV) 4 r.1 pc lv []) (hkx5 : ∀ (σ : St) (e2_5 : Int32), kx5 σ e2_5 = some r → G X (vC a D tI tJ tB tS kK kV) 4 σ 20 [] []) : ∀ (n : Nat) (σ : St) (c2_5 : Int32), fJ7_fill_53178_i44_L5 q1_5 q3_5 kx5 n σ c2_5 = some r → G X (vC a D tI tJ tB tS kK kV) 4 σ 5 [(0, .ref (a 44)), (1, .int q1_5), (3, .int q3_5), (2, .int c2_5)] [] := by
  intro n
  induction n with
  | zero => intro σ c2_5 h; rw [fJ7_fill_53178_i44_L5] at h; exact absurd h (by simp)
  | succ n5 ih5 =>
    intro σ c2_5 h
    rw [fJ7_fill_53178_i44_L5] at h
    refine g_iload_n hX 3 dJ7_fill_53178_5 rfl rfl ?_
    refine g_iload_n hX 2 dJ7_fill_53178_6 rfl rfl ?_
    refine g_icmp_ge hX 20 dJ7_fill_53178_7 (by decide) h (fun h => ?_) (fun h => ?_)
    · exact g_sub [] rfl (hkx5 _ _ h)
    · refine g_aload_n hX 0 dJ7_fill_53178_10 rfl rfl ?_
      refine g_iload_n hX 3 dJ7_fill_53178_11 rfl rfl ?_
      refine g_iload_n hX 1 dJ7_fill_53178_12 rfl rfl ?_
      refine asC_44 hX dJ7_fill_53178_13 h (fun σ_3 h => ?_)
      refine g_iinc (y := (1)) (lv' := fun x2_4 => [(2, .int x2_4), (0, .ref (a 44)), (1, .int q1_5), (3, .int q3_5)]) hX 3 dJ7_fill_53178_14 rfl (by decide) (by decide) (fun _ => rfl) h (fun x2_4 h => ?_)
      refine g_goto hX 5 dJ7_fill_53178_17 (by decide) ?_
      exact g_sub [1, 2, 3, 0] rfl (ih5 _ _ h)
set_option maxRecDepth 20000 in
set_option maxHeartbeats 4000000 in
theorem sJ7_fill_53178_i44 {X : CX} {a : Nat → Nat} {D : va_G} {tI tJ tB tS : ClassId} {kK kV : Nat → Nat} {σ : St}  {p2 : Int32} {r : St × Unit} (hX : OKX X (vC a D tI tJ tB tS kK kV) cJ7_fill_53178 4 RJ7 0 0) (hR : ∀ (pc : Nat) (lv : List (Nat × Value)), decode cJ7_fill_53178 pc = .ok (.return_, 1) → G X (vC a D tI tJ tB tS kK kV) 4 r.1 pc lv [])  (h : fJ7_fill_53178_i44 σ p2 = some r) : G X (vC a D tI tJ tB tS kK kV) 4 σ 0 [(0, .ref (a 44)), (1, .int p2)] [] := by
  unfold fJ7_fill_53178_i44 at h
  refine g_iconst hX (0) dJ7_fill_53178_0 (by decide) ?_
  refine g_istore_n (lv' := fun x2_1 => [(2, .int x2_1), (0, .ref (a 44)), (1, .int p2)]) hX dJ7_fill_53178_1 rfl (by decide) (fun _ => rfl) h (fun x2_1 h => ?_)
  refine g_aload_n hX 1 dJ7_fill_53178_2 rfl rfl ?_
  refine lenC_44 hX dJ7_fill_53178_3 ?_
  refine g_istore_n (lv' := fun x3_2 => [(3, .int x3_2), (2, .int x2_1), (0, .ref (a 44)), (1, .int p2)]) hX dJ7_fill_53178_4 rfl (by decide) (fun _ => rfl) h (fun x3_2 h => ?_)
  refine g_sub [2, 3, 0, 1] rfl (sJ7_fill_53178_i44_L5 hX hR (fun σ_5 x2_6 h => ?_) FU _ _ h)
  exact g_retv hR h dJ7_fill_53178_20
set_option maxRecDepth 20000 in
set_option maxHeartbeats 4000000 in
theorem kJ7_fill_53178_i44 (l : Launch) {a : Nat → Nat} {D : va_G} {tI tJ tB tS : ClassId} {kK kV : Nat → Nat} {σ τ : St}  {p2 : Int32} {x : Unit} (h : fJ7_fill_53178_i44 σ p2 = some (τ, x)) : CtV l yJ7_fill_53178 cJ7_fill_53178 4 none 0 0 (vC a D tI tJ tB tS kK kV) σ [.ref (a 44), .int p2] τ x := g_metV (by decide) (Nat.le_of_ble_eq_true rfl) rfl (fun X _ hX hR => sJ7_fill_53178_i44 (r := (τ, x)) hX hR h)
def fX6_everyone (σ : St)  : Option (St × Int32) :=
  some (σ, (((1 : Int32) <<< ((σ.1 2 0) &&& 31)) - (1 : Int32)))
set_option maxRecDepth 20000 in
set_option maxHeartbeats 4000000 in
theorem sX6_everyone {X : CX} {a : Nat → Nat} {D : va_G} {tI tJ tB tS : ClassId} {kK kV : Nat → Nat} {σ : St}   {r : St × Int32} (hX : OKX X (vC a D tI tJ tB tS kK kV) cX6_everyone 1 RX6 0 0) (hR : ∀ (pc : Nat) (lv : List (Nat × Value)), decode cX6_everyone pc = .ok (.ireturn, 1) → G X (vC a D tI tJ tB tS kK kV) 1 r.1 pc lv [.int r.2])  (h : fX6_everyone σ  = some r) : G X (vC a D tI tJ tB tS kK kV) 1 σ 0 [(0, .ref (a 2))] [] := by
  unfold fX6_everyone at h
  refine g_iconst hX (1) dX6_everyone_0 (by decide) ?_
  refine g_aload_n hX 0 dX6_everyone_1 rfl rfl ?_
  refine gCX6_37_2 hX dX6_everyone_2 ?_
  refine g_ishl hX dX6_everyone_5 ?_
  refine g_iconst hX (1) dX6_everyone_6 (by decide) ?_
  refine g_isub hX dX6_everyone_7 ?_
  exact g_reti hR h dX6_everyone_8
set_option maxRecDepth 20000 in
set_option maxHeartbeats 4000000 in
theorem kX6_everyone (l : Launch) {a : Nat → Nat} {D : va_G} {tI tJ tB tS : ClassId} {kK kV : Nat → Nat} {σ τ : St}   {x : Int32} (h : fX6_everyone σ  = some (τ, x)) : CtI l yX6_everyone cX6_everyone 1 (some .int) 0 0 (vC a D tI tJ tB tS kK kV) σ [.ref (a 2)] τ x := g_metI (by decide) (Nat.le_of_ble_eq_true rfl) rfl (fun X _ hX hR => sX6_everyone (r := (τ, x)) hX hR h)
def fJ6_bitCount_0f7a4 (σ : St) (p1 : Int32) : Option (St × Int32) :=
  bnd (p1 - ((((p1).toUInt32 >>> (((1 : Int32)).toUInt32 &&& Int32.toUInt32 31)).toInt32) &&& (1431655765 : Int32))) fun (x0_1 : Int32) => bnd ((x0_1 &&& (858993459 : Int32)) + ((((x0_1).toUInt32 >>> (((2 : Int32)).toUInt32 &&& Int32.toUInt32 31)).toInt32) &&& (858993459 : Int32))) fun (x0_2 : Int32) => bnd ((x0_2 + (((x0_2).toUInt32 >>> (((4 : Int32)).toUInt32 &&& Int32.toUInt32 31)).toInt32)) &&& (252645135 : Int32)) fun (x0_3 : Int32) => bnd (x0_3 + (((x0_3).toUInt32 >>> (((8 : Int32)).toUInt32 &&& Int32.toUInt32 31)).toInt32)) fun (x0_4 : Int32) => bnd (x0_4 + (((x0_4).toUInt32 >>> (((16 : Int32)).toUInt32 &&& Int32.toUInt32 31)).toInt32)) fun (x0_5 : Int32) => some (σ, (x0_5 &&& (63 : Int32)))
set_option maxRecDepth 20000 in
set_option maxHeartbeats 4000000 in
theorem sJ6_bitCount_0f7a4 {X : CX} {a : Nat → Nat} {D : va_G} {tI tJ tB tS : ClassId} {kK kV : Nat → Nat} {σ : St}  {p1 : Int32} {r : St × Int32} (hX : OKX X (vC a D tI tJ tB tS kK kV) cJ6_bitCount_0f7a4 1 RJ6 0 0) (hR : ∀ (pc : Nat) (lv : List (Nat × Value)), decode cJ6_bitCount_0f7a4 pc = .ok (.ireturn, 1) → G X (vC a D tI tJ tB tS kK kV) 1 r.1 pc lv [.int r.2])  (h : fJ6_bitCount_0f7a4 σ p1 = some r) : G X (vC a D tI tJ tB tS kK kV) 1 σ 0 [(0, .int p1)] [] := by
  unfold fJ6_bitCount_0f7a4 at h
  refine g_iload_n hX 0 dJ6_bitCount_0f7a4_0 rfl rfl ?_
  refine g_iload_n hX 0 dJ6_bitCount_0f7a4_1 rfl rfl ?_
  refine g_iconst hX (1) dJ6_bitCount_0f7a4_2 (by decide) ?_
  refine g_iushr hX dJ6_bitCount_0f7a4_3 ?_
  refine g_ldc_w hX lkJ6_265 dJ6_bitCount_0f7a4_4 ?_
  refine g_iand hX dJ6_bitCount_0f7a4_7 ?_
  refine g_isub hX dJ6_bitCount_0f7a4_8 ?_
  refine g_istore_n (lv' := fun x0_1 => [(0, .int x0_1)]) hX dJ6_bitCount_0f7a4_9 rfl (by decide) (fun _ => rfl) h (fun x0_1 h => ?_)
  refine g_iload_n hX 0 dJ6_bitCount_0f7a4_10 rfl rfl ?_
  refine g_ldc_w hX lkJ6_266 dJ6_bitCount_0f7a4_11 ?_
  refine g_iand hX dJ6_bitCount_0f7a4_14 ?_
  refine g_iload_n hX 0 dJ6_bitCount_0f7a4_15 rfl rfl ?_
  refine g_iconst hX (2) dJ6_bitCount_0f7a4_16 (by decide) ?_
  refine g_iushr hX dJ6_bitCount_0f7a4_17 ?_
  refine g_ldc_w hX lkJ6_266 dJ6_bitCount_0f7a4_18 ?_
  refine g_iand hX dJ6_bitCount_0f7a4_21 ?_
  refine g_iadd hX dJ6_bitCount_0f7a4_22 ?_
  refine g_istore_n (lv' := fun x0_2 => [(0, .int x0_2)]) hX dJ6_bitCount_0f7a4_23 rfl (by decide) (fun _ => rfl) h (fun x0_2 h => ?_)
  refine g_iload_n hX 0 dJ6_bitCount_0f7a4_24 rfl rfl ?_
  refine g_iload_n hX 0 dJ6_bitCount_0f7a4_25 rfl rfl ?_
  refine g_iconst hX (4) dJ6_bitCount_0f7a4_26 (by decide) ?_
  refine g_iushr hX dJ6_bitCount_0f7a4_27 ?_
  refine g_iadd hX dJ6_bitCount_0f7a4_28 ?_
  refine g_ldc_w hX lkJ6_267 dJ6_bitCount_0f7a4_29 ?_
  refine g_iand hX dJ6_bitCount_0f7a4_32 ?_
  refine g_istore_n (lv' := fun x0_3 => [(0, .int x0_3)]) hX dJ6_bitCount_0f7a4_33 rfl (by decide) (fun _ => rfl) h (fun x0_3 h => ?_)
  refine g_iload_n hX 0 dJ6_bitCount_0f7a4_34 rfl rfl ?_
  refine g_iload_n hX 0 dJ6_bitCount_0f7a4_35 rfl rfl ?_
  refine g_bipush hX (8) dJ6_bitCount_0f7a4_36 (by decide) ?_
  refine g_iushr hX dJ6_bitCount_0f7a4_38 ?_
  refine g_iadd hX dJ6_bitCount_0f7a4_39 ?_
  refine g_istore_n (lv' := fun x0_4 => [(0, .int x0_4)]) hX dJ6_bitCount_0f7a4_40 rfl (by decide) (fun _ => rfl) h (fun x0_4 h => ?_)
  refine g_iload_n hX 0 dJ6_bitCount_0f7a4_41 rfl rfl ?_
  refine g_iload_n hX 0 dJ6_bitCount_0f7a4_42 rfl rfl ?_
  refine g_bipush hX (16) dJ6_bitCount_0f7a4_43 (by decide) ?_
  refine g_iushr hX dJ6_bitCount_0f7a4_45 ?_
  refine g_iadd hX dJ6_bitCount_0f7a4_46 ?_
  refine g_istore_n (lv' := fun x0_5 => [(0, .int x0_5)]) hX dJ6_bitCount_0f7a4_47 rfl (by decide) (fun _ => rfl) h (fun x0_5 h => ?_)
  refine g_iload_n hX 0 dJ6_bitCount_0f7a4_48 rfl rfl ?_
  refine g_bipush hX (63) dJ6_bitCount_0f7a4_49 (by decide) ?_
  refine g_iand hX dJ6_bitCount_0f7a4_51 ?_
  exact g_reti hR h dJ6_bitCount_0f7a4_52
set_option maxRecDepth 20000 in
set_option maxHeartbeats 4000000 in
theorem kJ6_bitCount_0f7a4 (l : Launch) {a : Nat → Nat} {D : va_G} {tI tJ tB tS : ClassId} {kK kV : Nat → Nat} {σ τ : St}  {p1 : Int32} {x : Int32} (h : fJ6_bitCount_0f7a4 σ p1 = some (τ, x)) : CtI l yJ6_bitCount_0f7a4 cJ6_bitCount_0f7a4 1 (some .int) 0 0 (vC a D tI tJ tB tS kK kV) σ [.int p1] τ x := g_metI (by decide) (Nat.le_of_ble_eq_true rfl) rfl (fun X _ hX hR => sJ6_bitCount_0f7a4 (r := (τ, x)) hX hR h)
def fX6_setsInAll_L16 (q1_16 : Int32) (kx16 : St → Int32 → Int32 → Option (St × Int32)) : Nat → St → Int32 → Int32 → Option (St × Int32)
  | 0, _, _, _ => none
  | n16 + 1, σ, c2_16, c3_16 =>
    (if ((1 : Int32) <<< ((σ.1 2 0) &&& 31)) ≤ c3_16 then kx16 σ c2_16 c3_16 else cl (fJ6_bitCount_0f7a4 σ c3_16) fun (σ_3 : St) (t_4 : Int32) => chk (inb q1_16 12) ((jp (fun (σ_5 : St) (x2_6 : Int32)  => bnd (c3_16 + (1 : Int32)) fun (x3_7 : Int32) => fX6_setsInAll_L16 q1_16 kx16 n16 σ_5 x2_6 x3_7) fun j42 => (if t_4 = (σ_3.1 7 (ix q1_16)) then bnd (c2_16 + (1 : Int32)) fun (x2_8 : Int32) => j42 σ_3 x2_8 else j42 σ_3 c2_16))))
def fX6_setsInAll (σ : St) (p1 : Int32) : Option (St × Int32) :=
  chk (inb p1 12) ((if (σ.1 5 (ix p1)) = (1 : Int32) then bnd (0 : Int32) fun (x2_1 : Int32) => bnd (0 : Int32) fun (x3_2 : Int32) => fX6_setsInAll_L16 p1 (fun (σ_9 : St) (x2_10 : Int32) (x3_11 : Int32) => some (σ_9, x2_10)) FU σ x2_1 x3_2 else some (σ, (1 : Int32))))
set_option maxRecDepth 20000 in
set_option maxHeartbeats 4000000 in
theorem sX6_setsInAll_L16 {X : CX} {a : Nat → Nat} {D : va_G} {tI tJ tB tS : ClassId} {kK kV : Nat → Nat} {q1_16 : Int32} {kx16 : St → Int32 → Int32 → Option (St × Int32)} {r : St × Int32} (hX : OKX X (vC a D tI tJ tB tS kK kV) cX6_setsInAll 4 RX6 1 20) (hR : ∀ (pc : Nat) (lv : List (Nat × Value)), decode cX6_setsInAll pc = .ok (.ireturn, 1) → G X (vC a D tI tJ tB tS kK kV) 4 r.1 pc lv [.int r.2]) (hkx16 : ∀ (σ : St) (e2_16 : Int32) (e3_16 : Int32), kx16 σ e2_16 e3_16 = some r → G X (vC a D tI tJ tB tS kK kV) 4 σ 48 [(2, .int e2_16)] []) : ∀ (n : Nat) (σ : St) (c2_16 : Int32) (c3_16 : Int32), fX6_setsInAll_L16 q1_16 kx16 n σ c2_16 c3_16 = some r → G X (vC a D tI tJ tB tS kK kV) 4 σ 16 [(0, .ref (a 2)), (1, .int q1_16), (2, .int c2_16), (3, .int c3_16)] [] := by
  intro n
  induction n with
  | zero => intro σ c2_16 c3_16 h; rw [fX6_setsInAll_L16] at h; exact absurd h (by simp)
  | succ n16 ih16 =>
    intro σ c2_16 c3_16 h
    rw [fX6_setsInAll_L16] at h
    refine g_iload_n hX 3 dX6_setsInAll_16 rfl rfl ?_
    refine g_iconst hX (1) dX6_setsInAll_17 (by decide) ?_
    refine g_aload_n hX 0 dX6_setsInAll_18 rfl rfl ?_
    refine gCX6_37_2 hX dX6_setsInAll_19 ?_
    refine g_ishl hX dX6_setsInAll_22 ?_
    refine g_icmp_ge hX 48 dX6_setsInAll_23 (by decide) h (fun h => ?_) (fun h => ?_)
    · exact g_sub [2] rfl (hkx16 _ _ _ h)
    · refine g_iload_n hX 3 dX6_setsInAll_26 rfl rfl ?_
      refine g_callSI (As := [.int c3_16]) (rest := []) hX miJ6_bitCount_0f7a4 mvJ6_bitCount_0f7a4 lkX6_75 (by decide) rfl (Nat.le_of_ble_eq_true rfl) rfl dX6_setsInAll_27 (fun τ x ho => kJ6_bitCount_0f7a4 _ ho) h (fun σ_3 t_4 h => ?_)
      refine g_aload_n hX 0 dX6_setsInAll_30 rfl rfl ?_
      refine gCX6_25_2 hX dX6_setsInAll_31 ?_
      refine g_iload_n hX 1 dX6_setsInAll_34 rfl rfl ?_
      refine alC_7 hX dX6_setsInAll_35 h (fun h => ?_)
      refine jp_inv (P := fun f => ∀ (σ_5 : St) (x2_6 : Int32) , f σ_5 x2_6 = some r → G X (vC a D tI tJ tB tS kK kV) 4 σ_5 42 [(0, .ref (a 2)), (1, .int q1_16), (3, .int c3_16), (2, .int x2_6)] []) h (fun σ_5 x2_6 h => ?_) (fun j42 hj42 h => ?_)
      · refine g_iinc (y := (1)) (lv' := fun x3_7 => [(3, .int x3_7), (0, .ref (a 2)), (1, .int q1_16), (2, .int x2_6)]) hX 2 dX6_setsInAll_42 rfl (by decide) (by decide) (fun _ => rfl) h (fun x3_7 h => ?_)
        refine g_goto hX 16 dX6_setsInAll_45 (by decide) ?_
        exact g_sub [1, 2, 3, 0] rfl (ih16 _ _ _ h)
      refine g_icmp_ne hX 42 dX6_setsInAll_36 (by decide) h (fun h => ?_) (fun h => ?_)
      · exact g_sub [0, 1, 3, 2] rfl (hj42 _ _ h)
      · refine g_iinc (y := (1)) (lv' := fun x2_8 => [(2, .int x2_8), (0, .ref (a 2)), (1, .int q1_16), (3, .int c3_16)]) hX 2 dX6_setsInAll_39 rfl (by decide) (by decide) (fun _ => rfl) h (fun x2_8 h => ?_)
        exact g_sub [1, 2, 3, 0] rfl (hj42 _ _ h)
set_option maxRecDepth 20000 in
set_option maxHeartbeats 4000000 in
theorem sX6_setsInAll {X : CX} {a : Nat → Nat} {D : va_G} {tI tJ tB tS : ClassId} {kK kV : Nat → Nat} {σ : St}  {p1 : Int32} {r : St × Int32} (hX : OKX X (vC a D tI tJ tB tS kK kV) cX6_setsInAll 4 RX6 1 20) (hR : ∀ (pc : Nat) (lv : List (Nat × Value)), decode cX6_setsInAll pc = .ok (.ireturn, 1) → G X (vC a D tI tJ tB tS kK kV) 4 r.1 pc lv [.int r.2])  (h : fX6_setsInAll σ p1 = some r) : G X (vC a D tI tJ tB tS kK kV) 4 σ 0 [(0, .ref (a 2)), (1, .int p1)] [] := by
  unfold fX6_setsInAll at h
  refine g_aload_n hX 0 dX6_setsInAll_0 rfl rfl ?_
  refine gCX6_19_2 hX dX6_setsInAll_1 ?_
  refine g_iload_n hX 1 dX6_setsInAll_4 rfl rfl ?_
  refine alC_5 hX dX6_setsInAll_5 h (fun h => ?_)
  refine g_iconst hX (1) dX6_setsInAll_6 (by decide) ?_
  refine g_icmp_eq hX 12 dX6_setsInAll_7 (by decide) h (fun h => ?_) (fun h => ?_)
  · refine g_iconst hX (0) dX6_setsInAll_12 (by decide) ?_
    refine g_istore_n (lv' := fun x2_1 => [(2, .int x2_1), (0, .ref (a 2)), (1, .int p1)]) hX dX6_setsInAll_13 rfl (by decide) (fun _ => rfl) h (fun x2_1 h => ?_)
    refine g_iconst hX (0) dX6_setsInAll_14 (by decide) ?_
    refine g_istore_n (lv' := fun x3_2 => [(3, .int x3_2), (2, .int x2_1), (0, .ref (a 2)), (1, .int p1)]) hX dX6_setsInAll_15 rfl (by decide) (fun _ => rfl) h (fun x3_2 h => ?_)
    refine g_sub [2, 3, 1, 0] rfl (sX6_setsInAll_L16 hX hR (fun σ_9 x2_10 x3_11 h => ?_) FU _ _ _ h)
    refine g_iload_n hX 0 dX6_setsInAll_48 rfl rfl ?_
    exact g_reti hR h dX6_setsInAll_49
  · refine g_iconst hX (1) dX6_setsInAll_10 (by decide) ?_
    exact g_reti hR h dX6_setsInAll_11
set_option maxRecDepth 20000 in
set_option maxHeartbeats 4000000 in
theorem kX6_setsInAll (l : Launch) {a : Nat → Nat} {D : va_G} {tI tJ tB tS : ClassId} {kK kV : Nat → Nat} {σ τ : St}  {p1 : Int32} {x : Int32} (h : fX6_setsInAll σ p1 = some (τ, x)) : CtI l yX6_setsInAll cX6_setsInAll 4 (some .int) 1 20 (vC a D tI tJ tB tS kK kV) σ [.ref (a 2), .int p1] τ x := g_metI (by decide) (Nat.le_of_ble_eq_true rfl) rfl (fun X _ hX hR => sX6_setsInAll (r := (τ, x)) hX hR h)
def fX6_setsLike (σ : St) (p1 : Int32) (p2 : Int32) (p3 : Int32) : Option (St × Int32) :=
  (if p3 = 0 then chk (inb p1 12) ((jp (fun (σ_1 : St) (x4_2 : Int32)  => (if x4_2 = 0 then some (σ_1, (0 : Int32)) else some (σ_1, (1 : Int32)))) fun j99 => (if (σ.1 5 (ix p1)) = 0 then chk (inb p1 12) ((jp (fun (σ_11 : St)  (t_12 : Int32) => bnd t_12 fun (x4_13 : Int32) => j99 σ_11 x4_13) fun j46 => (if p2 = (σ.1 9 (ix p1)) then j46 σ (1 : Int32) else j46 σ (0 : Int32)))) else chk (inb p1 12) ((if (σ.1 5 (ix p1)) = (1 : Int32) then cl (fJ6_bitCount_0f7a4 σ p2) fun (σ_6 : St) (t_7 : Int32) => chk (inb p1 12) ((jp (fun (σ_8 : St)  (t_9 : Int32) => bnd t_9 fun (x4_10 : Int32) => j99 σ_8 x4_10) fun j79 => (if t_7 = (σ_6.1 7 (ix p1)) then j79 σ_6 (1 : Int32) else j79 σ_6 (0 : Int32)))) else (jp (fun (σ_3 : St)  (t_4 : Int32) => bnd t_4 fun (x4_5 : Int32) => j99 σ_3 x4_5) fun j97 => (if p2 = (σ.1 2 6) then j97 σ (1 : Int32) else j97 σ (0 : Int32)))))))) else cl (fX6_everyone σ ) fun (σ_14 : St) (t_15 : Int32) => (if p2 = t_15 then cl (fX6_setsInAll σ_14 p1) fun (σ_16 : St) (t_17 : Int32) => some (σ_16, t_17) else some (σ_14, (0 : Int32))))
set_option maxRecDepth 20000 in
set_option maxHeartbeats 4000000 in
theorem sX6_setsLike {X : CX} {a : Nat → Nat} {D : va_G} {tI tJ tB tS : ClassId} {kK kV : Nat → Nat} {σ : St}  {p1 : Int32} {p2 : Int32} {p3 : Int32} {r : St × Int32} (hX : OKX X (vC a D tI tJ tB tS kK kV) cX6_setsLike 5 RX6 2 43) (hR : ∀ (pc : Nat) (lv : List (Nat × Value)), decode cX6_setsLike pc = .ok (.ireturn, 1) → G X (vC a D tI tJ tB tS kK kV) 5 r.1 pc lv [.int r.2])  (h : fX6_setsLike σ p1 p2 p3 = some r) : G X (vC a D tI tJ tB tS kK kV) 5 σ 0 [(0, .ref (a 2)), (1, .int p1), (2, .int p2), (3, .int p3)] [] := by
  unfold fX6_setsLike at h
  refine g_iload_n hX 3 dX6_setsLike_0 rfl rfl ?_
  refine g_if_eq hX 22 dX6_setsLike_1 (by decide) h (fun h => ?_) (fun h => ?_)
  · refine g_aload_n hX 0 dX6_setsLike_22 rfl rfl ?_
    refine gCX6_19_2 hX dX6_setsLike_23 ?_
    refine g_iload_n hX 1 dX6_setsLike_26 rfl rfl ?_
    refine alC_5 hX dX6_setsLike_27 h (fun h => ?_)
    refine jp_inv (P := fun f => ∀ (σ_1 : St) (x4_2 : Int32) , f σ_1 x4_2 = some r → G X (vC a D tI tJ tB tS kK kV) 5 σ_1 99 [(4, .int x4_2)] []) h (fun σ_1 x4_2 h => ?_) (fun j99 hj99 h => ?_)
    · refine g_iload hX 0 dX6_setsLike_99 rfl ?_
      refine g_if_eq hX 108 dX6_setsLike_101 (by decide) h (fun h => ?_) (fun h => ?_)
      · refine g_iconst hX (0) dX6_setsLike_108 (by decide) ?_
        exact g_reti hR h dX6_setsLike_109
      · refine g_iconst hX (1) dX6_setsLike_104 (by decide) ?_
        refine g_goto hX 109 dX6_setsLike_105 (by decide) ?_
        exact g_reti hR h dX6_setsLike_109
    refine g_if_ne hX 51 dX6_setsLike_28 (by decide) h (fun h => ?_) (fun h => ?_)
    · refine g_aload_n hX 0 dX6_setsLike_51 rfl rfl ?_
      refine gCX6_19_2 hX dX6_setsLike_52 ?_
      refine g_iload_n hX 1 dX6_setsLike_55 rfl rfl ?_
      refine alC_5 hX dX6_setsLike_56 h (fun h => ?_)
      refine g_iconst hX (1) dX6_setsLike_57 (by decide) ?_
      refine g_icmp_ne hX 84 dX6_setsLike_58 (by decide) h (fun h => ?_) (fun h => ?_)
      · refine g_iload_n hX 2 dX6_setsLike_84 rfl rfl ?_
        refine g_aload_n hX 0 dX6_setsLike_85 rfl rfl ?_
        refine gCX6_56_2 hX dX6_setsLike_86 ?_
        refine jp_inv (P := fun f => ∀ (σ_3 : St)  (t_4 : Int32), f σ_3 t_4 = some r → G X (vC a D tI tJ tB tS kK kV) 5 σ_3 97 [] [.int t_4]) h (fun σ_3 t_4 h => ?_) (fun j97 hj97 h => ?_)
        · refine g_istore (lv' := fun x4_5 => [(4, .int x4_5)]) hX dX6_setsLike_97 (by decide) (fun _ => rfl) h (fun x4_5 h => ?_)
          exact g_sub [0] rfl (hj99 _ _ h)
        refine g_icmp_ne hX 96 dX6_setsLike_89 (by decide) h (fun h => ?_) (fun h => ?_)
        · refine g_iconst hX (0) dX6_setsLike_96 (by decide) ?_
          exact g_sub [] rfl (hj97 _ _ h)
        · refine g_iconst hX (1) dX6_setsLike_92 (by decide) ?_
          refine g_goto hX 97 dX6_setsLike_93 (by decide) ?_
          exact g_sub [] rfl (hj97 _ _ h)
      · refine g_iload_n hX 2 dX6_setsLike_61 rfl rfl ?_
        refine g_callSI (As := [.int p2]) (rest := []) hX miJ6_bitCount_0f7a4 mvJ6_bitCount_0f7a4 lkX6_75 (by decide) rfl (Nat.le_of_ble_eq_true rfl) rfl dX6_setsLike_62 (fun τ x ho => kJ6_bitCount_0f7a4 _ ho) h (fun σ_6 t_7 h => ?_)
        refine g_aload_n hX 0 dX6_setsLike_65 rfl rfl ?_
        refine gCX6_25_2 hX dX6_setsLike_66 ?_
        refine g_iload_n hX 1 dX6_setsLike_69 rfl rfl ?_
        refine alC_7 hX dX6_setsLike_70 h (fun h => ?_)
        refine jp_inv (P := fun f => ∀ (σ_8 : St)  (t_9 : Int32), f σ_8 t_9 = some r → G X (vC a D tI tJ tB tS kK kV) 5 σ_8 79 [] [.int t_9]) h (fun σ_8 t_9 h => ?_) (fun j79 hj79 h => ?_)
        · refine g_istore (lv' := fun x4_10 => [(4, .int x4_10)]) hX dX6_setsLike_79 (by decide) (fun _ => rfl) h (fun x4_10 h => ?_)
          refine g_goto hX 99 dX6_setsLike_81 (by decide) ?_
          exact g_sub [0] rfl (hj99 _ _ h)
        refine g_icmp_ne hX 78 dX6_setsLike_71 (by decide) h (fun h => ?_) (fun h => ?_)
        · refine g_iconst hX (0) dX6_setsLike_78 (by decide) ?_
          exact g_sub [] rfl (hj79 _ _ h)
        · refine g_iconst hX (1) dX6_setsLike_74 (by decide) ?_
          refine g_goto hX 79 dX6_setsLike_75 (by decide) ?_
          exact g_sub [] rfl (hj79 _ _ h)
    · refine g_iload_n hX 2 dX6_setsLike_31 rfl rfl ?_
      refine g_aload_n hX 0 dX6_setsLike_32 rfl rfl ?_
      refine gCX6_31_2 hX dX6_setsLike_33 ?_
      refine g_iload_n hX 1 dX6_setsLike_36 rfl rfl ?_
      refine alC_9 hX dX6_setsLike_37 h (fun h => ?_)
      refine jp_inv (P := fun f => ∀ (σ_11 : St)  (t_12 : Int32), f σ_11 t_12 = some r → G X (vC a D tI tJ tB tS kK kV) 5 σ_11 46 [] [.int t_12]) h (fun σ_11 t_12 h => ?_) (fun j46 hj46 h => ?_)
      · refine g_istore (lv' := fun x4_13 => [(4, .int x4_13)]) hX dX6_setsLike_46 (by decide) (fun _ => rfl) h (fun x4_13 h => ?_)
        refine g_goto hX 99 dX6_setsLike_48 (by decide) ?_
        exact g_sub [0] rfl (hj99 _ _ h)
      refine g_icmp_ne hX 45 dX6_setsLike_38 (by decide) h (fun h => ?_) (fun h => ?_)
      · refine g_iconst hX (0) dX6_setsLike_45 (by decide) ?_
        exact g_sub [] rfl (hj46 _ _ h)
      · refine g_iconst hX (1) dX6_setsLike_41 (by decide) ?_
        refine g_goto hX 46 dX6_setsLike_42 (by decide) ?_
        exact g_sub [] rfl (hj46 _ _ h)
  · refine g_iload_n hX 2 dX6_setsLike_4 rfl rfl ?_
    refine g_aload_n hX 0 dX6_setsLike_5 rfl rfl ?_
    refine g_callVI (As := []) (rest := [.int p2]) hX 2 (Nat.le_of_ble_eq_true rfl) rfl rfl miX6_everyone mvX6_everyone lkX6_81 (by decide) rfl (Nat.le_of_ble_eq_true rfl) rfl dX6_setsLike_6 (fun τ x ho => kX6_everyone _ ho) h (fun σ_14 t_15 h => ?_)
    refine g_icmp_ne hX 20 dX6_setsLike_9 (by decide) h (fun h => ?_) (fun h => ?_)
    · refine g_iconst hX (0) dX6_setsLike_20 (by decide) ?_
      exact g_reti hR h dX6_setsLike_21
    · refine g_aload_n hX 0 dX6_setsLike_12 rfl rfl ?_
      refine g_iload_n hX 1 dX6_setsLike_13 rfl rfl ?_
      refine g_callVI (As := [.int p1]) (rest := []) hX 2 (Nat.le_of_ble_eq_true rfl) rfl rfl miX6_setsInAll mvX6_setsInAll lkX6_85 (by decide) rfl (Nat.le_of_ble_eq_true rfl) rfl dX6_setsLike_14 (fun τ x ho => kX6_setsInAll _ ho) h (fun σ_16 t_17 h => ?_)
      refine g_goto hX 21 dX6_setsLike_17 (by decide) ?_
      exact g_reti hR h dX6_setsLike_21
set_option maxRecDepth 20000 in
set_option maxHeartbeats 4000000 in
theorem kX6_setsLike (l : Launch) {a : Nat → Nat} {D : va_G} {tI tJ tB tS : ClassId} {kK kV : Nat → Nat} {σ τ : St}  {p1 : Int32} {p2 : Int32} {p3 : Int32} {x : Int32} (h : fX6_setsLike σ p1 p2 p3 = some (τ, x)) : CtI l yX6_setsLike cX6_setsLike 5 (some .int) 2 43 (vC a D tI tJ tB tS kK kV) σ [.ref (a 2), .int p1, .int p2, .int p3] τ x := g_metI (by decide) (Nat.le_of_ble_eq_true rfl) rfl (fun X _ hX hR => sX6_setsLike (r := (τ, x)) hX hR h)
def fX6_price (σ : St) (p1 : Int32) : Option (St × Int32) :=
  some (σ, ((σ.1 2 3) + (p1 * (σ.1 2 4))))
set_option maxRecDepth 20000 in
set_option maxHeartbeats 4000000 in
theorem sX6_price {X : CX} {a : Nat → Nat} {D : va_G} {tI tJ tB tS : ClassId} {kK kV : Nat → Nat} {σ : St}  {p1 : Int32} {r : St × Int32} (hX : OKX X (vC a D tI tJ tB tS kK kV) cX6_price 2 RX6 0 0) (hR : ∀ (pc : Nat) (lv : List (Nat × Value)), decode cX6_price pc = .ok (.ireturn, 1) → G X (vC a D tI tJ tB tS kK kV) 2 r.1 pc lv [.int r.2])  (h : fX6_price σ p1 = some r) : G X (vC a D tI tJ tB tS kK kV) 2 σ 0 [(0, .ref (a 2)), (1, .int p1)] [] := by
  unfold fX6_price at h
  refine g_aload_n hX 0 dX6_price_0 rfl rfl ?_
  refine gCX6_47_2 hX dX6_price_1 ?_
  refine g_iload_n hX 1 dX6_price_4 rfl rfl ?_
  refine g_aload_n hX 0 dX6_price_5 rfl rfl ?_
  refine gCX6_50_2 hX dX6_price_6 ?_
  refine g_imul hX dX6_price_9 ?_
  refine g_iadd hX dX6_price_10 ?_
  exact g_reti hR h dX6_price_11
set_option maxRecDepth 20000 in
set_option maxHeartbeats 4000000 in
theorem kX6_price (l : Launch) {a : Nat → Nat} {D : va_G} {tI tJ tB tS : ClassId} {kK kV : Nat → Nat} {σ τ : St}  {p1 : Int32} {x : Int32} (h : fX6_price σ p1 = some (τ, x)) : CtI l yX6_price cX6_price 2 (some .int) 0 0 (vC a D tI tJ tB tS kK kV) σ [.ref (a 2), .int p1] τ x := g_metI (by decide) (Nat.le_of_ble_eq_true rfl) rfl (fun X _ hX hR => sX6_price (r := (τ, x)) hX hR h)
def fX7_addCrowd_L3 (q1_3 : Int32) (q2_3 : Int32) (q3_3 : Int32) (kx3 : St → Int32 → Option (St × Unit)) : Nat → St → Int32 → Option (St × Unit)
  | 0, _, _ => none
  | n3 + 1, σ, c4_3 =>
    (if (σ.1 2 2) ≤ c4_3 then kx3 σ c4_3 else cl (fX6_price σ c4_3) fun (σ_2 : St) (t_3 : Int32) => (jp (fun (σ_4 : St)   => bnd (c4_3 + (1 : Int32)) fun (x4_5 : Int32) => fX7_addCrowd_L3 q1_3 q2_3 q3_3 kx3 n3 σ_4 x4_5) fun j44 => (if q3_3 < t_3 then j44 σ_2 else chk (inb ((q1_3 * (8 : Int32)) + c4_3) 128) (chk (inb ((q1_3 * (8 : Int32)) + c4_3) 128) (bnd (sI σ_2 44 (ix ((q1_3 * (8 : Int32)) + c4_3)) ((σ_2.1 44 (ix ((q1_3 * (8 : Int32)) + c4_3))) + q2_3)) fun (σ_6 : St) => j44 σ_6)))))
def fX7_addCrowd (σ : St) (p1 : Int32) (p2 : Int32) (p3 : Int32) : Option (St × Unit) :=
  bnd (0 : Int32) fun (x4_1 : Int32) => fX7_addCrowd_L3 p1 p2 p3 (fun (σ_7 : St) (x4_8 : Int32) => some (σ_7, ())) FU σ x4_1
set_option maxRecDepth 20000 in
set_option maxHeartbeats 4000000 in
theorem sX7_addCrowd_L3 {X : CX} {a : Nat → Nat} {D : va_G} {tI tJ tB tS : ClassId} {kK kV : Nat → Nat} {q1_3 : Int32} {q2_3 : Int32} {q3_3 : Int32} {kx3 : St → Int32 → Option (St × Unit)} {r : St × Unit} (hX : OKX X (vC a D tI tJ tB tS kK kV) cX7_addCrowd 5 RX7 1 21) (hR : ∀ (pc : Nat) (lv : List (Nat × Value)), decode cX7_addCrowd pc = .ok (.return_, 1) → G X (vC a D tI tJ tB tS kK kV) 5 r.1 pc lv []) (hkx3 : ∀ (σ : St) (e4_3 : Int32), kx3 σ e4_3 = some r → G X (vC a D tI tJ tB tS kK kV) 5 σ 50 [] []) : ∀ (n : Nat) (σ : St) (c4_3 : Int32), fX7_addCrowd_L3 q1_3 q2_3 q3_3 kx3 n σ c4_3 = some r → G X (vC a D tI tJ tB tS kK kV) 5 σ 3 [(0, .ref (a 43)), (1, .int q1_3), (2, .int q2_3), (3, .int q3_3), (4, .int c4_3)] [] := by
  intro n
  induction n with
  | zero => intro σ c4_3 h; rw [fX7_addCrowd_L3] at h; exact absurd h (by simp)
  | succ n3 ih3 =>
    intro σ c4_3 h
    rw [fX7_addCrowd_L3] at h
    refine g_iload hX 4 dX7_addCrowd_3 rfl ?_
    refine g_aload_n hX 0 dX7_addCrowd_5 rfl rfl ?_
    refine gCX7_9_43 hX dX7_addCrowd_6 ?_
    refine gCX7_106_2 hX dX7_addCrowd_9 ?_
    refine g_icmp_ge hX 50 dX7_addCrowd_12 (by decide) h (fun h => ?_) (fun h => ?_)
    · exact g_sub [] rfl (hkx3 _ _ h)
    · refine g_aload_n hX 0 dX7_addCrowd_15 rfl rfl ?_
      refine gCX7_9_43 hX dX7_addCrowd_16 ?_
      refine g_iload hX 4 dX7_addCrowd_19 rfl ?_
      refine g_callNI (As := [.int c4_3]) (rest := []) hX 2 (Nat.le_of_ble_eq_true rfl) rfl rfl miX6_price mvX6_price lkX7_151 (by decide) rfl (Nat.le_of_ble_eq_true rfl) rfl dX7_addCrowd_21 (fun τ x ho => kX6_price _ ho) h (fun σ_2 t_3 h => ?_)
      refine g_iload_n hX 3 dX7_addCrowd_24 rfl rfl ?_
      refine jp_inv (P := fun f => ∀ (σ_4 : St)  , f σ_4 = some r → G X (vC a D tI tJ tB tS kK kV) 5 σ_4 44 [(0, .ref (a 43)), (1, .int q1_3), (2, .int q2_3), (3, .int q3_3), (4, .int c4_3)] []) h (fun σ_4 h => ?_) (fun j44 hj44 h => ?_)
      · refine g_iinc (y := (1)) (lv' := fun x4_5 => [(4, .int x4_5), (0, .ref (a 43)), (1, .int q1_3), (2, .int q2_3), (3, .int q3_3)]) hX 4 dX7_addCrowd_44 rfl (by decide) (by decide) (fun _ => rfl) h (fun x4_5 h => ?_)
        refine g_goto hX 3 dX7_addCrowd_47 (by decide) ?_
        exact g_sub [1, 2, 3, 4, 0] rfl (ih3 _ _ h)
      refine g_icmp_gt hX 44 dX7_addCrowd_25 (by decide) h (fun h => ?_) (fun h => ?_)
      · exact g_sub [0, 1, 2, 3, 4] rfl (hj44 _ h)
      · refine g_aload_n hX 0 dX7_addCrowd_28 rfl rfl ?_
        refine gCX7_23_43 hX dX7_addCrowd_29 ?_
        refine g_iload_n hX 1 dX7_addCrowd_32 rfl rfl ?_
        refine g_bipush hX (8) dX7_addCrowd_33 (by decide) ?_
        refine g_imul hX dX7_addCrowd_35 ?_
        refine g_iload hX 4 dX7_addCrowd_36 rfl ?_
        refine g_iadd hX dX7_addCrowd_38 ?_
        refine g_dup2 hX dX7_addCrowd_39 rfl rfl ?_
        refine alC_44 hX dX7_addCrowd_40 h (fun h => ?_)
        refine g_iload_n hX 2 dX7_addCrowd_41 rfl rfl ?_
        refine g_iadd hX dX7_addCrowd_42 ?_
        refine asC_44 hX dX7_addCrowd_43 h (fun σ_6 h => ?_)
        exact g_sub [0, 1, 2, 3, 4] rfl (hj44 _ h)
set_option maxRecDepth 20000 in
set_option maxHeartbeats 4000000 in
theorem sX7_addCrowd {X : CX} {a : Nat → Nat} {D : va_G} {tI tJ tB tS : ClassId} {kK kV : Nat → Nat} {σ : St}  {p1 : Int32} {p2 : Int32} {p3 : Int32} {r : St × Unit} (hX : OKX X (vC a D tI tJ tB tS kK kV) cX7_addCrowd 5 RX7 1 21) (hR : ∀ (pc : Nat) (lv : List (Nat × Value)), decode cX7_addCrowd pc = .ok (.return_, 1) → G X (vC a D tI tJ tB tS kK kV) 5 r.1 pc lv [])  (h : fX7_addCrowd σ p1 p2 p3 = some r) : G X (vC a D tI tJ tB tS kK kV) 5 σ 0 [(0, .ref (a 43)), (1, .int p1), (2, .int p2), (3, .int p3)] [] := by
  unfold fX7_addCrowd at h
  refine g_iconst hX (0) dX7_addCrowd_0 (by decide) ?_
  refine g_istore (lv' := fun x4_1 => [(4, .int x4_1), (0, .ref (a 43)), (1, .int p1), (2, .int p2), (3, .int p3)]) hX dX7_addCrowd_1 (by decide) (fun _ => rfl) h (fun x4_1 h => ?_)
  refine g_sub [1, 2, 3, 4, 0] rfl (sX7_addCrowd_L3 hX hR (fun σ_7 x4_8 h => ?_) FU _ _ h)
  exact g_retv hR h dX7_addCrowd_50
set_option maxRecDepth 20000 in
set_option maxHeartbeats 4000000 in
theorem kX7_addCrowd (l : Launch) {a : Nat → Nat} {D : va_G} {tI tJ tB tS : ClassId} {kK kV : Nat → Nat} {σ τ : St}  {p1 : Int32} {p2 : Int32} {p3 : Int32} {x : Unit} (h : fX7_addCrowd σ p1 p2 p3 = some (τ, x)) : CtV l yX7_addCrowd cX7_addCrowd 5 none 1 21 (vC a D tI tJ tB tS kK kV) σ [.ref (a 43), .int p1, .int p2, .int p3] τ x := g_metV (by decide) (Nat.le_of_ble_eq_true rfl) rfl (fun X _ hX hR => sX7_addCrowd (r := (τ, x)) hX hR h)
def fX7_gather_L23 (q1_23 : Int32) (kx23 : St → Int32 → Option (St × Unit)) : Nat → St → Int32 → Option (St × Unit)
  | 0, _, _ => none
  | n23 + 1, σ, c2_23 =>
    cl (fX6_everyone σ ) fun (σ_5 : St) (t_6 : Int32) => (if t_6 < c2_23 then kx23 σ_5 c2_23 else cl (fX6_setsLike σ_5 q1_23 c2_23 (σ_5.1 43 14)) fun (σ_7 : St) (t_8 : Int32) => chk (inb q1_23 12) (bnd (t_8 * (σ_7.1 6 (ix q1_23))) fun (x3_9 : Int32) => (jp (fun (σ_10 : St)   => bnd (c2_23 + (1 : Int32)) fun (x2_11 : Int32) => fX7_gather_L23 q1_23 kx23 n23 σ_10 x2_11) fun j77 => (if x3_9 ≤ 0 then j77 σ_7 else chk (inb q1_23 12) (cl (fX7_addCrowd σ_7 c2_23 x3_9 (σ_7.1 8 (ix q1_23))) fun (σ_12 : St) (t_13 : Unit) => j77 σ_12)))))
def fX7_gather_L10  (kx10 : St → Int32 → Option (St × Unit)) : Nat → St → Int32 → Option (St × Unit)
  | 0, _, _ => none
  | n10 + 1, σ, c1_10 =>
    (if (σ.1 2 1) ≤ c1_10 then kx10 σ c1_10 else bnd (1 : Int32) fun (x2_4 : Int32) => fX7_gather_L23 c1_10 (fun (σ_14 : St) (x2_15 : Int32) => bnd (c1_10 + (1 : Int32)) fun (x1_16 : Int32) => fX7_gather_L10 kx10 n10 σ_14 x1_16) FU σ x2_4)
def fX7_gather (σ : St)  : Option (St × Unit) :=
  cl (fJ7_fill_53178_i44 σ (0 : Int32)) fun (σ_1 : St) (t_2 : Unit) => bnd (0 : Int32) fun (x1_3 : Int32) => fX7_gather_L10  (fun (σ_17 : St) (x1_18 : Int32) => some (σ_17, ())) FU σ_1 x1_3
set_option maxRecDepth 20000 in
set_option maxHeartbeats 4000000 in
theorem sX7_gather_L23 {X : CX} {a : Nat → Nat} {D : va_G} {tI tJ tB tS : ClassId} {kK kV : Nat → Nat} {q1_23 : Int32} {kx23 : St → Int32 → Option (St × Unit)} {r : St × Unit} (hX : OKX X (vC a D tI tJ tB tS kK kV) cX7_gather 4 RX7 3 67) (hR : ∀ (pc : Nat) (lv : List (Nat × Value)), decode cX7_gather pc = .ok (.return_, 1) → G X (vC a D tI tJ tB tS kK kV) 4 r.1 pc lv []) (hkx23 : ∀ (σ : St) (e2_23 : Int32), kx23 σ e2_23 = some r → G X (vC a D tI tJ tB tS kK kV) 4 σ 83 [(0, .ref (a 43)), (1, .int q1_23)] []) : ∀ (n : Nat) (σ : St) (c2_23 : Int32), fX7_gather_L23 q1_23 kx23 n σ c2_23 = some r → G X (vC a D tI tJ tB tS kK kV) 4 σ 23 [(0, .ref (a 43)), (1, .int q1_23), (2, .int c2_23)] [] := by
  intro n
  induction n with
  | zero => intro σ c2_23 h; rw [fX7_gather_L23] at h; exact absurd h (by simp)
  | succ n23 ih23 =>
    intro σ c2_23 h
    rw [fX7_gather_L23] at h
    refine g_iload_n hX 2 dX7_gather_23 rfl rfl ?_
    refine g_aload_n hX 0 dX7_gather_24 rfl rfl ?_
    refine gCX7_9_43 hX dX7_gather_25 ?_
    refine g_callNI (As := []) (rest := [.int c2_23]) hX 2 (Nat.le_of_ble_eq_true rfl) rfl rfl miX6_everyone mvX6_everyone lkX7_133 (by decide) rfl (Nat.le_of_ble_eq_true rfl) rfl dX7_gather_28 (fun τ x ho => kX6_everyone _ ho) h (fun σ_5 t_6 h => ?_)
    refine g_icmp_gt hX 83 dX7_gather_31 (by decide) h (fun h => ?_) (fun h => ?_)
    · exact g_sub [0, 1] rfl (hkx23 _ _ h)
    · refine g_aload_n hX 0 dX7_gather_34 rfl rfl ?_
      refine gCX7_9_43 hX dX7_gather_35 ?_
      refine g_iload_n hX 1 dX7_gather_38 rfl rfl ?_
      refine g_iload_n hX 2 dX7_gather_39 rfl rfl ?_
      refine g_aload_n hX 0 dX7_gather_40 rfl rfl ?_
      refine gCX7_59_43 hX dX7_gather_41 ?_
      refine g_callNI (As := [.int q1_23, .int c2_23, .int (σ_5.1 43 14)]) (rest := []) hX 2 (Nat.le_of_ble_eq_true rfl) rfl rfl miX6_setsLike mvX6_setsLike lkX7_137 (by decide) rfl (Nat.le_of_ble_eq_true rfl) rfl dX7_gather_44 (fun τ x ho => kX6_setsLike _ ho) h (fun σ_7 t_8 h => ?_)
      refine g_aload_n hX 0 dX7_gather_47 rfl rfl ?_
      refine gCX7_9_43 hX dX7_gather_48 ?_
      refine gCX7_141_2 hX dX7_gather_51 ?_
      refine g_iload_n hX 1 dX7_gather_54 rfl rfl ?_
      refine alC_6 hX dX7_gather_55 h (fun h => ?_)
      refine g_imul hX dX7_gather_56 ?_
      refine g_istore_n (lv' := fun x3_9 => [(3, .int x3_9), (0, .ref (a 43)), (1, .int q1_23), (2, .int c2_23)]) hX dX7_gather_57 rfl (by decide) (fun _ => rfl) h (fun x3_9 h => ?_)
      refine g_iload_n hX 0 dX7_gather_58 rfl rfl ?_
      refine jp_inv (P := fun f => ∀ (σ_10 : St)  , f σ_10 = some r → G X (vC a D tI tJ tB tS kK kV) 4 σ_10 77 [(0, .ref (a 43)), (1, .int q1_23), (2, .int c2_23)] []) h (fun σ_10 h => ?_) (fun j77 hj77 h => ?_)
      · refine g_iinc (y := (1)) (lv' := fun x2_11 => [(2, .int x2_11), (0, .ref (a 43)), (1, .int q1_23)]) hX 2 dX7_gather_77 rfl (by decide) (by decide) (fun _ => rfl) h (fun x2_11 h => ?_)
        refine g_goto hX 23 dX7_gather_80 (by decide) ?_
        exact g_sub [1, 2, 0] rfl (ih23 _ _ h)
      refine g_if_le hX 77 dX7_gather_59 (by decide) h (fun h => ?_) (fun h => ?_)
      · exact g_sub [1, 2, 3] rfl (hj77 _ h)
      · refine g_aload_n hX 1 dX7_gather_62 rfl rfl ?_
        refine g_iload_n hX 3 dX7_gather_63 rfl rfl ?_
        refine g_iload_n hX 0 dX7_gather_64 rfl rfl ?_
        refine g_aload_n hX 1 dX7_gather_65 rfl rfl ?_
        refine gCX7_9_43 hX dX7_gather_66 ?_
        refine gCX7_144_2 hX dX7_gather_69 ?_
        refine g_iload_n hX 2 dX7_gather_72 rfl rfl ?_
        refine alC_8 hX dX7_gather_73 h (fun h => ?_)
        refine g_callVV (As := [.int c2_23, .int x3_9, .int (σ_7.1 8 (ix q1_23))]) (rest := []) hX 43 (Nat.le_of_ble_eq_true rfl) rfl rfl miX7_addCrowd mvX7_addCrowd lkX7_147 (by decide) rfl (Nat.le_of_ble_eq_true rfl) rfl dX7_gather_74 (fun τ x ho => kX7_addCrowd _ ho) h (fun σ_12 t_13 h => ?_)
        exact g_sub [1, 2, 3] rfl (hj77 _ h)
set_option maxRecDepth 20000 in
set_option maxHeartbeats 4000000 in
theorem sX7_gather_L10 {X : CX} {a : Nat → Nat} {D : va_G} {tI tJ tB tS : ClassId} {kK kV : Nat → Nat}  {kx10 : St → Int32 → Option (St × Unit)} {r : St × Unit} (hX : OKX X (vC a D tI tJ tB tS kK kV) cX7_gather 4 RX7 3 67) (hR : ∀ (pc : Nat) (lv : List (Nat × Value)), decode cX7_gather pc = .ok (.return_, 1) → G X (vC a D tI tJ tB tS kK kV) 4 r.1 pc lv []) (hkx10 : ∀ (σ : St) (e1_10 : Int32), kx10 σ e1_10 = some r → G X (vC a D tI tJ tB tS kK kV) 4 σ 89 [] []) : ∀ (n : Nat) (σ : St) (c1_10 : Int32), fX7_gather_L10 kx10 n σ c1_10 = some r → G X (vC a D tI tJ tB tS kK kV) 4 σ 10 [(0, .ref (a 43)), (1, .int c1_10)] [] := by
  intro n
  induction n with
  | zero => intro σ c1_10 h; rw [fX7_gather_L10] at h; exact absurd h (by simp)
  | succ n10 ih10 =>
    intro σ c1_10 h
    rw [fX7_gather_L10] at h
    refine g_iload_n hX 1 dX7_gather_10 rfl rfl ?_
    refine g_aload_n hX 0 dX7_gather_11 rfl rfl ?_
    refine gCX7_9_43 hX dX7_gather_12 ?_
    refine gCX7_130_2 hX dX7_gather_15 ?_
    refine g_icmp_ge hX 89 dX7_gather_18 (by decide) h (fun h => ?_) (fun h => ?_)
    · exact g_sub [] rfl (hkx10 _ _ h)
    · refine g_iconst hX (1) dX7_gather_21 (by decide) ?_
      refine g_istore_n (lv' := fun x2_4 => [(2, .int x2_4), (0, .ref (a 43)), (1, .int c1_10)]) hX dX7_gather_22 rfl (by decide) (fun _ => rfl) h (fun x2_4 h => ?_)
      refine g_sub [1, 2, 0] rfl (sX7_gather_L23 hX hR (fun σ_14 x2_15 h => ?_) FU _ _ h)
      refine g_iinc (y := (1)) (lv' := fun x1_16 => [(1, .int x1_16), (0, .ref (a 43))]) hX 1 dX7_gather_83 rfl (by decide) (by decide) (fun _ => rfl) h (fun x1_16 h => ?_)
      refine g_goto hX 10 dX7_gather_86 (by decide) ?_
      exact g_sub [1, 0] rfl (ih10 _ _ h)
set_option maxRecDepth 20000 in
set_option maxHeartbeats 4000000 in
theorem sX7_gather {X : CX} {a : Nat → Nat} {D : va_G} {tI tJ tB tS : ClassId} {kK kV : Nat → Nat} {σ : St}   {r : St × Unit} (hX : OKX X (vC a D tI tJ tB tS kK kV) cX7_gather 4 RX7 3 67) (hR : ∀ (pc : Nat) (lv : List (Nat × Value)), decode cX7_gather pc = .ok (.return_, 1) → G X (vC a D tI tJ tB tS kK kV) 4 r.1 pc lv [])  (h : fX7_gather σ  = some r) : G X (vC a D tI tJ tB tS kK kV) 4 σ 0 [(0, .ref (a 43))] [] := by
  unfold fX7_gather at h
  refine g_aload_n hX 0 dX7_gather_0 rfl rfl ?_
  refine gCX7_23_43 hX dX7_gather_1 ?_
  refine g_iconst hX (0) dX7_gather_4 (by decide) ?_
  refine g_callSV (As := [.ref (a 44), .int (0 : Int32)]) (rest := []) hX miJ7_fill_53178 mvJ7_fill_53178 lkX7_79 (by decide) rfl (Nat.le_of_ble_eq_true rfl) rfl dX7_gather_5 (fun τ x ho => kJ7_fill_53178_i44 _ ho) h (fun σ_1 t_2 h => ?_)
  refine g_iconst hX (0) dX7_gather_8 (by decide) ?_
  refine g_istore_n (lv' := fun x1_3 => [(1, .int x1_3), (0, .ref (a 43))]) hX dX7_gather_9 rfl (by decide) (fun _ => rfl) h (fun x1_3 h => ?_)
  refine g_sub [1, 0] rfl (sX7_gather_L10 hX hR (fun σ_17 x1_18 h => ?_) FU _ _ h)
  exact g_retv hR h dX7_gather_89
set_option maxRecDepth 20000 in
set_option maxHeartbeats 4000000 in
theorem kX7_gather (l : Launch) {a : Nat → Nat} {D : va_G} {tI tJ tB tS : ClassId} {kK kV : Nat → Nat} {σ τ : St}   {x : Unit} (h : fX7_gather σ  = some (τ, x)) : CtV l yX7_gather cX7_gather 4 none 3 67 (vC a D tI tJ tB tS kK kV) σ [.ref (a 43)] τ x := g_metV (by decide) (Nat.le_of_ble_eq_true rfl) rfl (fun X _ hX hR => sX7_gather (r := (τ, x)) hX hR h)
def fX7_open (σ : St) (p1 : Int32) : Option (St × Unit) :=
  cl (fX2_shouts σ p1) fun (σ_1 : St) (t_2 : Int32) => chk (isB t_2) (bnd (sI σ_1 43 14 t_2) fun (σ_3 : St) => cl (fX2_free σ_3 p1 (σ_3.1 2 2)) fun (σ_4 : St) (t_5 : Int32) => bnd (sI σ_4 43 15 t_5) fun (σ_6 : St) => cl (fX7_gather σ_6 ) fun (σ_7 : St) (t_8 : Unit) => some (σ_7, ()))
set_option maxRecDepth 20000 in
set_option maxHeartbeats 4000000 in
theorem sX7_open {X : CX} {a : Nat → Nat} {D : va_G} {tI tJ tB tS : ClassId} {kK kV : Nat → Nat} {σ : St}  {p1 : Int32} {r : St × Unit} (hX : OKX X (vC a D tI tJ tB tS kK kV) cX7_open 2 RX7 4 90) (hR : ∀ (pc : Nat) (lv : List (Nat × Value)), decode cX7_open pc = .ok (.return_, 1) → G X (vC a D tI tJ tB tS kK kV) 2 r.1 pc lv [])  (h : fX7_open σ p1 = some r) : G X (vC a D tI tJ tB tS kK kV) 2 σ 0 [(0, .ref (a 43)), (1, .int p1)] [] := by
  unfold fX7_open at h
  refine g_aload_n hX 0 dX7_open_0 rfl rfl ?_
  refine g_aload_n hX 0 dX7_open_1 rfl rfl ?_
  refine gCX7_19_43 hX dX7_open_2 ?_
  refine g_iload_n hX 1 dX7_open_5 rfl rfl ?_
  refine g_callNI (As := [.int p1]) (rest := [.ref (a 43)]) hX 19 (Nat.le_of_ble_eq_true rfl) rfl rfl miX2_shouts mvX2_shouts lkX7_101 (by decide) rfl (Nat.le_of_ble_eq_true rfl) rfl dX7_open_6 (fun τ x ho => kX2_shouts _ ho) h (fun σ_1 t_2 h => ?_)
  refine pCX7_59_43 hX dX7_open_9 h (fun σ_3 h => ?_)
  refine g_aload_n hX 0 dX7_open_12 rfl rfl ?_
  refine g_aload_n hX 0 dX7_open_13 rfl rfl ?_
  refine gCX7_19_43 hX dX7_open_14 ?_
  refine g_iload_n hX 1 dX7_open_17 rfl rfl ?_
  refine g_aload_n hX 0 dX7_open_18 rfl rfl ?_
  refine gCX7_9_43 hX dX7_open_19 ?_
  refine gCX7_106_2 hX dX7_open_22 ?_
  refine g_callNI (As := [.int p1, .int (σ_3.1 2 2)]) (rest := [.ref (a 43)]) hX 19 (Nat.le_of_ble_eq_true rfl) rfl rfl miX2_free mvX2_free lkX7_109 (by decide) rfl (Nat.le_of_ble_eq_true rfl) rfl dX7_open_25 (fun τ x ho => kX2_free _ ho) h (fun σ_4 t_5 h => ?_)
  refine pCX7_63_43 hX dX7_open_28 h (fun σ_6 h => ?_)
  refine g_aload_n hX 0 dX7_open_31 rfl rfl ?_
  refine g_callVV (As := []) (rest := []) hX 43 (Nat.le_of_ble_eq_true rfl) rfl rfl miX7_gather mvX7_gather lkX7_112 (by decide) rfl (Nat.le_of_ble_eq_true rfl) rfl dX7_open_32 (fun τ x ho => kX7_gather _ ho) h (fun σ_7 t_8 h => ?_)
  exact g_retv hR h dX7_open_35
set_option maxRecDepth 20000 in
set_option maxHeartbeats 4000000 in
theorem kX7_open (l : Launch) {a : Nat → Nat} {D : va_G} {tI tJ tB tS : ClassId} {kK kV : Nat → Nat} {σ τ : St}  {p1 : Int32} {x : Unit} (h : fX7_open σ p1 = some (τ, x)) : CtV l yX7_open cX7_open 2 none 4 90 (vC a D tI tJ tB tS kK kV) σ [.ref (a 43), .int p1] τ x := g_metV (by decide) (Nat.le_of_ble_eq_true rfl) rfl (fun X _ hX hR => sX7_open (r := (τ, x)) hX hR h)
def fJ7_fill_53178_i45_L5 (q1_5 : Int32) (q3_5 : Int32) (kx5 : St → Int32 → Option (St × Unit)) : Nat → St → Int32 → Option (St × Unit)
  | 0, _, _ => none
  | n5 + 1, σ, c2_5 =>
    (if q3_5 ≤ c2_5 then kx5 σ c2_5 else chk (inb c2_5 32) (bnd (sI σ 45 (ix c2_5) q1_5) fun (σ_3 : St) => bnd (c2_5 + (1 : Int32)) fun (x2_4 : Int32) => fJ7_fill_53178_i45_L5 q1_5 q3_5 kx5 n5 σ_3 x2_4))
def fJ7_fill_53178_i45 (σ : St) (p2 : Int32) : Option (St × Unit) :=
  bnd (0 : Int32) fun (x2_1 : Int32) => bnd (32 : Int32) fun (x3_2 : Int32) => fJ7_fill_53178_i45_L5 p2 x3_2 (fun (σ_5 : St) (x2_6 : Int32) => some (σ_5, ())) FU σ x2_1
set_option maxRecDepth 20000 in
set_option maxHeartbeats 4000000 in
theorem sJ7_fill_53178_i45_L5 {X : CX} {a : Nat → Nat} {D : va_G} {tI tJ tB tS : ClassId} {kK kV : Nat → Nat} {q1_5 : Int32} {q3_5 : Int32} {kx5 : St → Int32 → Option (St × Unit)} {r : St × Unit} (hX : OKX X (vC a D tI tJ tB tS kK kV) cJ7_fill_53178 4 RJ7 0 0) (hR : ∀ (pc : Nat) (lv : List (Nat × Value)), decode cJ7_fill_53178 pc = .ok (.return_, 1) → G X (vC a D tI tJ tB tS kK kV) 4 r.1 pc lv []) (hkx5 : ∀ (σ : St) (e2_5 : Int32), kx5 σ e2_5 = some r → G X (vC a D tI tJ tB tS kK kV) 4 σ 20 [] []) : ∀ (n : Nat) (σ : St) (c2_5 : Int32), fJ7_fill_53178_i45_L5 q1_5 q3_5 kx5 n σ c2_5 = some r → G X (vC a D tI tJ tB tS kK kV) 4 σ 5 [(0, .ref (a 45)), (1, .int q1_5), (3, .int q3_5), (2, .int c2_5)] [] := by
  intro n
  induction n with
  | zero => intro σ c2_5 h; rw [fJ7_fill_53178_i45_L5] at h; exact absurd h (by simp)
  | succ n5 ih5 =>
    intro σ c2_5 h
    rw [fJ7_fill_53178_i45_L5] at h
    refine g_iload_n hX 3 dJ7_fill_53178_5 rfl rfl ?_
    refine g_iload_n hX 2 dJ7_fill_53178_6 rfl rfl ?_
    refine g_icmp_ge hX 20 dJ7_fill_53178_7 (by decide) h (fun h => ?_) (fun h => ?_)
    · exact g_sub [] rfl (hkx5 _ _ h)
    · refine g_aload_n hX 0 dJ7_fill_53178_10 rfl rfl ?_
      refine g_iload_n hX 3 dJ7_fill_53178_11 rfl rfl ?_
      refine g_iload_n hX 1 dJ7_fill_53178_12 rfl rfl ?_
      refine asC_45 hX dJ7_fill_53178_13 h (fun σ_3 h => ?_)
      refine g_iinc (y := (1)) (lv' := fun x2_4 => [(2, .int x2_4), (0, .ref (a 45)), (1, .int q1_5), (3, .int q3_5)]) hX 3 dJ7_fill_53178_14 rfl (by decide) (by decide) (fun _ => rfl) h (fun x2_4 h => ?_)
      refine g_goto hX 5 dJ7_fill_53178_17 (by decide) ?_
      exact g_sub [1, 2, 3, 0] rfl (ih5 _ _ h)
set_option maxRecDepth 20000 in
set_option maxHeartbeats 4000000 in
theorem sJ7_fill_53178_i45 {X : CX} {a : Nat → Nat} {D : va_G} {tI tJ tB tS : ClassId} {kK kV : Nat → Nat} {σ : St}  {p2 : Int32} {r : St × Unit} (hX : OKX X (vC a D tI tJ tB tS kK kV) cJ7_fill_53178 4 RJ7 0 0) (hR : ∀ (pc : Nat) (lv : List (Nat × Value)), decode cJ7_fill_53178 pc = .ok (.return_, 1) → G X (vC a D tI tJ tB tS kK kV) 4 r.1 pc lv [])  (h : fJ7_fill_53178_i45 σ p2 = some r) : G X (vC a D tI tJ tB tS kK kV) 4 σ 0 [(0, .ref (a 45)), (1, .int p2)] [] := by
  unfold fJ7_fill_53178_i45 at h
  refine g_iconst hX (0) dJ7_fill_53178_0 (by decide) ?_
  refine g_istore_n (lv' := fun x2_1 => [(2, .int x2_1), (0, .ref (a 45)), (1, .int p2)]) hX dJ7_fill_53178_1 rfl (by decide) (fun _ => rfl) h (fun x2_1 h => ?_)
  refine g_aload_n hX 1 dJ7_fill_53178_2 rfl rfl ?_
  refine lenC_45 hX dJ7_fill_53178_3 ?_
  refine g_istore_n (lv' := fun x3_2 => [(3, .int x3_2), (2, .int x2_1), (0, .ref (a 45)), (1, .int p2)]) hX dJ7_fill_53178_4 rfl (by decide) (fun _ => rfl) h (fun x3_2 h => ?_)
  refine g_sub [2, 3, 0, 1] rfl (sJ7_fill_53178_i45_L5 hX hR (fun σ_5 x2_6 h => ?_) FU _ _ h)
  exact g_retv hR h dJ7_fill_53178_20
set_option maxRecDepth 20000 in
set_option maxHeartbeats 4000000 in
theorem kJ7_fill_53178_i45 (l : Launch) {a : Nat → Nat} {D : va_G} {tI tJ tB tS : ClassId} {kK kV : Nat → Nat} {σ τ : St}  {p2 : Int32} {x : Unit} (h : fJ7_fill_53178_i45 σ p2 = some (τ, x)) : CtV l yJ7_fill_53178 cJ7_fill_53178 4 none 0 0 (vC a D tI tJ tB tS kK kV) σ [.ref (a 45), .int p2] τ x := g_metV (by decide) (Nat.le_of_ble_eq_true rfl) rfl (fun X _ hX hR => sJ7_fill_53178_i45 (r := (τ, x)) hX hR h)
def fX7_isFree (σ : St) (p1 : Int32) : Option (St × Int32) :=
  (if (((σ.1 43 15) >>> (p1 &&& 31)) &&& (1 : Int32)) = 0 then some (σ, (0 : Int32)) else some (σ, (1 : Int32)))
set_option maxRecDepth 20000 in
set_option maxHeartbeats 4000000 in
theorem sX7_isFree {X : CX} {a : Nat → Nat} {D : va_G} {tI tJ tB tS : ClassId} {kK kV : Nat → Nat} {σ : St}  {p1 : Int32} {r : St × Int32} (hX : OKX X (vC a D tI tJ tB tS kK kV) cX7_isFree 2 RX7 0 0) (hR : (r.2 = 0 ∨ r.2 = 1) → ∀ (pc : Nat) (lv : List (Nat × Value)), decode cX7_isFree pc = .ok (.ireturn, 1) → G X (vC a D tI tJ tB tS kK kV) 2 r.1 pc lv [.int r.2])  (h : fX7_isFree σ p1 = some r) : G X (vC a D tI tJ tB tS kK kV) 2 σ 0 [(0, .ref (a 43)), (1, .int p1)] [] := by
  unfold fX7_isFree at h
  refine g_aload_n hX 0 dX7_isFree_0 rfl rfl ?_
  refine gCX7_63_43 hX dX7_isFree_1 ?_
  refine g_iload_n hX 1 dX7_isFree_4 rfl rfl ?_
  refine g_ishr hX dX7_isFree_5 ?_
  refine g_iconst hX (1) dX7_isFree_6 (by decide) ?_
  refine g_iand hX dX7_isFree_7 ?_
  refine g_if_eq hX 15 dX7_isFree_8 (by decide) h (fun h => ?_) (fun h => ?_)
  · refine g_iconst hX (0) dX7_isFree_15 (by decide) ?_
    exact g_retz hR (by decide) h dX7_isFree_16
  · refine g_iconst hX (1) dX7_isFree_11 (by decide) ?_
    refine g_goto hX 16 dX7_isFree_12 (by decide) ?_
    exact g_retz hR (by decide) h dX7_isFree_16
set_option maxRecDepth 20000 in
set_option maxHeartbeats 4000000 in
theorem kX7_isFree (l : Launch) {a : Nat → Nat} {D : va_G} {tI tJ tB tS : ClassId} {kK kV : Nat → Nat} {σ τ : St}  {p1 : Int32} {x : Int32} (h : fX7_isFree σ p1 = some (τ, x)) : CtI l yX7_isFree cX7_isFree 2 (some .boolean) 0 0 (vC a D tI tJ tB tS kK kV) σ [.ref (a 43), .int p1] τ x := g_metZ (by decide) (Nat.le_of_ble_eq_true rfl) rfl (fun X _ hX hR => sX7_isFree (r := (τ, x)) hX hR h)
def fX7_takeParts_L4 (q1_4 : Int32) (kx4 : St → Int32 → Int32 → Option (St × Int32)) : Nat → St → Int32 → Int32 → Option (St × Int32)
  | 0, _, _, _ => none
  | n4 + 1, σ, c2_4, c3_4 =>
    (if (8 : Int32) ≤ c3_4 then kx4 σ c2_4 c3_4 else chk (inb ((q1_4 * (8 : Int32)) + c3_4) 32) (bnd (σ.1 24 (ix ((q1_4 * (8 : Int32)) + c3_4))) fun (x4_3 : Int32) => (jp (fun (σ_4 : St)   => chk (inb ((q1_4 * (8 : Int32)) + c3_4) 32) (bnd (sI σ_4 45 (ix ((q1_4 * (8 : Int32)) + c3_4)) x4_3) fun (σ_5 : St) => bnd (c2_4 + x4_3) fun (x2_6 : Int32) => bnd (c3_4 + (1 : Int32)) fun (x3_7 : Int32) => fX7_takeParts_L4 q1_4 kx4 n4 σ_5 x2_6 x3_7)) fun j41 => (if x4_3 ≤ 0 then j41 σ else cl (fX7_isFree σ c3_4) fun (σ_8 : St) (t_9 : Int32) => (if t_9 = 0 then some (σ_8, (0 : Int32)) else j41 σ_8)))))
def fX7_takeParts (σ : St) (p1 : Int32) : Option (St × Int32) :=
  bnd (0 : Int32) fun (x2_1 : Int32) => bnd (0 : Int32) fun (x3_2 : Int32) => fX7_takeParts_L4 p1 (fun (σ_10 : St) (x2_11 : Int32) (x3_12 : Int32) => (if x2_11 = (100 : Int32) then some (σ_10, (1 : Int32)) else some (σ_10, (0 : Int32)))) FU σ x2_1 x3_2
set_option maxRecDepth 20000 in
set_option maxHeartbeats 4000000 in
theorem sX7_takeParts_L4 {X : CX} {a : Nat → Nat} {D : va_G} {tI tJ tB tS : ClassId} {kK kV : Nat → Nat} {q1_4 : Int32} {kx4 : St → Int32 → Int32 → Option (St × Int32)} {r : St × Int32} (hX : OKX X (vC a D tI tJ tB tS kK kV) cX7_takeParts 5 RX7 1 21) (hR : (r.2 = 0 ∨ r.2 = 1) → ∀ (pc : Nat) (lv : List (Nat × Value)), decode cX7_takeParts pc = .ok (.ireturn, 1) → G X (vC a D tI tJ tB tS kK kV) 5 r.1 pc lv [.int r.2]) (hkx4 : ∀ (σ : St) (e2_4 : Int32) (e3_4 : Int32), kx4 σ e2_4 e3_4 = some r → G X (vC a D tI tJ tB tS kK kV) 5 σ 65 [(2, .int e2_4)] []) : ∀ (n : Nat) (σ : St) (c2_4 : Int32) (c3_4 : Int32), fX7_takeParts_L4 q1_4 kx4 n σ c2_4 c3_4 = some r → G X (vC a D tI tJ tB tS kK kV) 5 σ 4 [(0, .ref (a 43)), (1, .int q1_4), (2, .int c2_4), (3, .int c3_4)] [] := by
  intro n
  induction n with
  | zero => intro σ c2_4 c3_4 h; rw [fX7_takeParts_L4] at h; exact absurd h (by simp)
  | succ n4 ih4 =>
    intro σ c2_4 c3_4 h
    rw [fX7_takeParts_L4] at h
    refine g_iload_n hX 3 dX7_takeParts_4 rfl rfl ?_
    refine g_bipush hX (8) dX7_takeParts_5 (by decide) ?_
    refine g_icmp_ge hX 65 dX7_takeParts_7 (by decide) h (fun h => ?_) (fun h => ?_)
    · exact g_sub [2] rfl (hkx4 _ _ _ h)
    · refine g_aload_n hX 0 dX7_takeParts_10 rfl rfl ?_
      refine gCX7_15_43 hX dX7_takeParts_11 ?_
      refine gCX7_115_22 hX dX7_takeParts_14 ?_
      refine g_iload_n hX 1 dX7_takeParts_17 rfl rfl ?_
      refine g_bipush hX (8) dX7_takeParts_18 (by decide) ?_
      refine g_imul hX dX7_takeParts_20 ?_
      refine g_iload_n hX 3 dX7_takeParts_21 rfl rfl ?_
      refine g_iadd hX dX7_takeParts_22 ?_
      refine alC_24 hX dX7_takeParts_23 h (fun h => ?_)
      refine g_istore (lv' := fun x4_3 => [(4, .int x4_3), (0, .ref (a 43)), (1, .int q1_4), (2, .int c2_4), (3, .int c3_4)]) hX dX7_takeParts_24 (by decide) (fun _ => rfl) h (fun x4_3 h => ?_)
      refine g_iload hX 0 dX7_takeParts_26 rfl ?_
      refine jp_inv (P := fun f => ∀ (σ_4 : St)  , f σ_4 = some r → G X (vC a D tI tJ tB tS kK kV) 5 σ_4 41 [(4, .int x4_3), (0, .ref (a 43)), (1, .int q1_4), (2, .int c2_4), (3, .int c3_4)] []) h (fun σ_4 h => ?_) (fun j41 hj41 h => ?_)
      · refine g_aload_n hX 1 dX7_takeParts_41 rfl rfl ?_
        refine gCX7_27_43 hX dX7_takeParts_42 ?_
        refine g_iload_n hX 2 dX7_takeParts_45 rfl rfl ?_
        refine g_bipush hX (8) dX7_takeParts_46 (by decide) ?_
        refine g_imul hX dX7_takeParts_48 ?_
        refine g_iload_n hX 4 dX7_takeParts_49 rfl rfl ?_
        refine g_iadd hX dX7_takeParts_50 ?_
        refine g_iload hX 0 dX7_takeParts_51 rfl ?_
        refine asC_45 hX dX7_takeParts_53 h (fun σ_5 h => ?_)
        refine g_iload_n hX 3 dX7_takeParts_54 rfl rfl ?_
        refine g_iload hX 0 dX7_takeParts_55 rfl ?_
        refine g_iadd hX dX7_takeParts_57 ?_
        refine g_istore_n (lv' := fun x2_6 => [(2, .int x2_6), (4, .int x4_3), (0, .ref (a 43)), (1, .int q1_4), (3, .int c3_4)]) hX dX7_takeParts_58 rfl (by decide) (fun _ => rfl) h (fun x2_6 h => ?_)
        refine g_iinc (y := (1)) (lv' := fun x3_7 => [(3, .int x3_7), (2, .int x2_6), (4, .int x4_3), (0, .ref (a 43)), (1, .int q1_4)]) hX 4 dX7_takeParts_59 rfl (by decide) (by decide) (fun _ => rfl) h (fun x3_7 h => ?_)
        refine g_goto hX 4 dX7_takeParts_62 (by decide) ?_
        exact g_sub [3, 4, 1, 0] rfl (ih4 _ _ _ h)
      refine g_if_le hX 41 dX7_takeParts_28 (by decide) h (fun h => ?_) (fun h => ?_)
      · exact g_sub [0, 1, 2, 3, 4] rfl (hj41 _ h)
      · refine g_aload_n hX 1 dX7_takeParts_31 rfl rfl ?_
        refine g_iload_n hX 4 dX7_takeParts_32 rfl rfl ?_
        refine g_callVI (As := [.int c3_4]) (rest := []) hX 43 (Nat.le_of_ble_eq_true rfl) rfl rfl miX7_isFree mvX7_isFree lkX7_116 (by decide) rfl (Nat.le_of_ble_eq_true rfl) rfl dX7_takeParts_33 (fun τ x ho => kX7_isFree _ ho) h (fun σ_8 t_9 h => ?_)
        refine g_if_ne hX 41 dX7_takeParts_36 (by decide) h (fun h => ?_) (fun h => ?_)
        · exact g_sub [0, 1, 2, 3, 4] rfl (hj41 _ h)
        · refine g_iconst hX (0) dX7_takeParts_39 (by decide) ?_
          exact g_retz hR (by decide) h dX7_takeParts_40
set_option maxRecDepth 20000 in
set_option maxHeartbeats 4000000 in
theorem sX7_takeParts {X : CX} {a : Nat → Nat} {D : va_G} {tI tJ tB tS : ClassId} {kK kV : Nat → Nat} {σ : St}  {p1 : Int32} {r : St × Int32} (hX : OKX X (vC a D tI tJ tB tS kK kV) cX7_takeParts 5 RX7 1 21) (hR : (r.2 = 0 ∨ r.2 = 1) → ∀ (pc : Nat) (lv : List (Nat × Value)), decode cX7_takeParts pc = .ok (.ireturn, 1) → G X (vC a D tI tJ tB tS kK kV) 5 r.1 pc lv [.int r.2])  (h : fX7_takeParts σ p1 = some r) : G X (vC a D tI tJ tB tS kK kV) 5 σ 0 [(0, .ref (a 43)), (1, .int p1)] [] := by
  unfold fX7_takeParts at h
  refine g_iconst hX (0) dX7_takeParts_0 (by decide) ?_
  refine g_istore_n (lv' := fun x2_1 => [(2, .int x2_1), (0, .ref (a 43)), (1, .int p1)]) hX dX7_takeParts_1 rfl (by decide) (fun _ => rfl) h (fun x2_1 h => ?_)
  refine g_iconst hX (0) dX7_takeParts_2 (by decide) ?_
  refine g_istore_n (lv' := fun x3_2 => [(3, .int x3_2), (2, .int x2_1), (0, .ref (a 43)), (1, .int p1)]) hX dX7_takeParts_3 rfl (by decide) (fun _ => rfl) h (fun x3_2 h => ?_)
  refine g_sub [2, 3, 1, 0] rfl (sX7_takeParts_L4 hX hR (fun σ_10 x2_11 x3_12 h => ?_) FU _ _ _ h)
  refine g_iload_n hX 0 dX7_takeParts_65 rfl rfl ?_
  refine g_bipush hX (100) dX7_takeParts_66 (by decide) ?_
  refine g_icmp_ne hX 75 dX7_takeParts_68 (by decide) h (fun h => ?_) (fun h => ?_)
  · refine g_iconst hX (0) dX7_takeParts_75 (by decide) ?_
    exact g_retz hR (by decide) h dX7_takeParts_76
  · refine g_iconst hX (1) dX7_takeParts_71 (by decide) ?_
    refine g_goto hX 76 dX7_takeParts_72 (by decide) ?_
    exact g_retz hR (by decide) h dX7_takeParts_76
set_option maxRecDepth 20000 in
set_option maxHeartbeats 4000000 in
theorem kX7_takeParts (l : Launch) {a : Nat → Nat} {D : va_G} {tI tJ tB tS : ClassId} {kK kV : Nat → Nat} {σ τ : St}  {p1 : Int32} {x : Int32} (h : fX7_takeParts σ p1 = some (τ, x)) : CtI l yX7_takeParts cX7_takeParts 5 (some .boolean) 1 21 (vC a D tI tJ tB tS kK kV) σ [.ref (a 43), .int p1] τ x := g_metZ (by decide) (Nat.le_of_ble_eq_true rfl) rfl (fun X _ hX hR => sX7_takeParts (r := (τ, x)) hX hR h)
def fJ7_fill_d0a16_i51_L6 (q1_6 : Int64) (q4_6 : Int32) (kx6 : St → Int32 → Option (St × Unit)) : Nat → St → Int32 → Option (St × Unit)
  | 0, _, _ => none
  | n6 + 1, σ, c3_6 =>
    (if q4_6 ≤ c3_6 then kx6 σ c3_6 else chk (inb c3_6 8) (bnd (sL σ 51 (ix c3_6) q1_6) fun (σ_3 : St) => bnd (c3_6 + (1 : Int32)) fun (x3_4 : Int32) => fJ7_fill_d0a16_i51_L6 q1_6 q4_6 kx6 n6 σ_3 x3_4))
def fJ7_fill_d0a16_i51 (σ : St) (p2 : Int64) : Option (St × Unit) :=
  bnd (0 : Int32) fun (x3_1 : Int32) => bnd (8 : Int32) fun (x4_2 : Int32) => fJ7_fill_d0a16_i51_L6 p2 x4_2 (fun (σ_5 : St) (x3_6 : Int32) => some (σ_5, ())) FU σ x3_1
set_option maxRecDepth 20000 in
set_option maxHeartbeats 4000000 in
theorem sJ7_fill_d0a16_i51_L6 {X : CX} {a : Nat → Nat} {D : va_G} {tI tJ tB tS : ClassId} {kK kV : Nat → Nat} {q1_6 : Int64} {q4_6 : Int32} {kx6 : St → Int32 → Option (St × Unit)} {r : St × Unit} (hX : OKX X (vC a D tI tJ tB tS kK kV) cJ7_fill_d0a16 5 RJ7 0 0) (hR : ∀ (pc : Nat) (lv : List (Nat × Value)), decode cJ7_fill_d0a16 pc = .ok (.return_, 1) → G X (vC a D tI tJ tB tS kK kV) 5 r.1 pc lv []) (hkx6 : ∀ (σ : St) (e3_6 : Int32), kx6 σ e3_6 = some r → G X (vC a D tI tJ tB tS kK kV) 5 σ 22 [] []) : ∀ (n : Nat) (σ : St) (c3_6 : Int32), fJ7_fill_d0a16_i51_L6 q1_6 q4_6 kx6 n σ c3_6 = some r → G X (vC a D tI tJ tB tS kK kV) 5 σ 6 [(0, .ref (a 51)), (1, .long q1_6), (4, .int q4_6), (3, .int c3_6)] [] := by
  intro n
  induction n with
  | zero => intro σ c3_6 h; rw [fJ7_fill_d0a16_i51_L6] at h; exact absurd h (by simp)
  | succ n6 ih6 =>
    intro σ c3_6 h
    rw [fJ7_fill_d0a16_i51_L6] at h
    refine g_iload_n hX 3 dJ7_fill_d0a16_6 rfl rfl ?_
    refine g_iload hX 2 dJ7_fill_d0a16_7 rfl ?_
    refine g_icmp_ge hX 22 dJ7_fill_d0a16_9 (by decide) h (fun h => ?_) (fun h => ?_)
    · exact g_sub [] rfl (hkx6 _ _ h)
    · refine g_aload_n hX 0 dJ7_fill_d0a16_12 rfl rfl ?_
      refine g_iload_n hX 3 dJ7_fill_d0a16_13 rfl rfl ?_
      refine g_lload_n hX 1 dJ7_fill_d0a16_14 rfl rfl ?_
      refine asC_51 hX dJ7_fill_d0a16_15 h (fun σ_3 h => ?_)
      refine g_iinc (y := (1)) (lv' := fun x3_4 => [(3, .int x3_4), (0, .ref (a 51)), (1, .long q1_6), (4, .int q4_6)]) hX 3 dJ7_fill_d0a16_16 rfl (by decide) (by decide) (fun _ => rfl) h (fun x3_4 h => ?_)
      refine g_goto hX 6 dJ7_fill_d0a16_19 (by decide) ?_
      exact g_sub [1, 2, 3, 0] rfl (ih6 _ _ h)
set_option maxRecDepth 20000 in
set_option maxHeartbeats 4000000 in
theorem sJ7_fill_d0a16_i51 {X : CX} {a : Nat → Nat} {D : va_G} {tI tJ tB tS : ClassId} {kK kV : Nat → Nat} {σ : St}  {p2 : Int64} {r : St × Unit} (hX : OKX X (vC a D tI tJ tB tS kK kV) cJ7_fill_d0a16 5 RJ7 0 0) (hR : ∀ (pc : Nat) (lv : List (Nat × Value)), decode cJ7_fill_d0a16 pc = .ok (.return_, 1) → G X (vC a D tI tJ tB tS kK kV) 5 r.1 pc lv [])  (h : fJ7_fill_d0a16_i51 σ p2 = some r) : G X (vC a D tI tJ tB tS kK kV) 5 σ 0 [(0, .ref (a 51)), (1, .long p2)] [] := by
  unfold fJ7_fill_d0a16_i51 at h
  refine g_iconst hX (0) dJ7_fill_d0a16_0 (by decide) ?_
  refine g_istore_n (lv' := fun x3_1 => [(3, .int x3_1), (0, .ref (a 51)), (1, .long p2)]) hX dJ7_fill_d0a16_1 rfl (by decide) (fun _ => rfl) h (fun x3_1 h => ?_)
  refine g_aload_n hX 1 dJ7_fill_d0a16_2 rfl rfl ?_
  refine lenC_51 hX dJ7_fill_d0a16_3 ?_
  refine g_istore (lv' := fun x4_2 => [(4, .int x4_2), (3, .int x3_1), (0, .ref (a 51)), (1, .long p2)]) hX dJ7_fill_d0a16_4 (by decide) (fun _ => rfl) h (fun x4_2 h => ?_)
  refine g_sub [2, 3, 0, 1] rfl (sJ7_fill_d0a16_i51_L6 hX hR (fun σ_5 x3_6 h => ?_) FU _ _ h)
  exact g_retv hR h dJ7_fill_d0a16_22
set_option maxRecDepth 20000 in
set_option maxHeartbeats 4000000 in
theorem kJ7_fill_d0a16_i51 (l : Launch) {a : Nat → Nat} {D : va_G} {tI tJ tB tS : ClassId} {kK kV : Nat → Nat} {σ τ : St}  {p2 : Int64} {x : Unit} (h : fJ7_fill_d0a16_i51 σ p2 = some (τ, x)) : CtV l yJ7_fill_d0a16 cJ7_fill_d0a16 5 none 0 0 (vC a D tI tJ tB tS kK kV) σ [.ref (a 51), .long p2] τ x := g_metV (by decide) (Nat.le_of_ble_eq_true rfl) rfl (fun X _ hX hR => sJ7_fill_d0a16_i51 (r := (τ, x)) hX hR h)
def fJ7_fill_d0a16_i52_L6 (q1_6 : Int64) (q4_6 : Int32) (kx6 : St → Int32 → Option (St × Unit)) : Nat → St → Int32 → Option (St × Unit)
  | 0, _, _ => none
  | n6 + 1, σ, c3_6 =>
    (if q4_6 ≤ c3_6 then kx6 σ c3_6 else chk (inb c3_6 8) (bnd (sL σ 52 (ix c3_6) q1_6) fun (σ_3 : St) => bnd (c3_6 + (1 : Int32)) fun (x3_4 : Int32) => fJ7_fill_d0a16_i52_L6 q1_6 q4_6 kx6 n6 σ_3 x3_4))
def fJ7_fill_d0a16_i52 (σ : St) (p2 : Int64) : Option (St × Unit) :=
  bnd (0 : Int32) fun (x3_1 : Int32) => bnd (8 : Int32) fun (x4_2 : Int32) => fJ7_fill_d0a16_i52_L6 p2 x4_2 (fun (σ_5 : St) (x3_6 : Int32) => some (σ_5, ())) FU σ x3_1
set_option maxRecDepth 20000 in
set_option maxHeartbeats 4000000 in
theorem sJ7_fill_d0a16_i52_L6 {X : CX} {a : Nat → Nat} {D : va_G} {tI tJ tB tS : ClassId} {kK kV : Nat → Nat} {q1_6 : Int64} {q4_6 : Int32} {kx6 : St → Int32 → Option (St × Unit)} {r : St × Unit} (hX : OKX X (vC a D tI tJ tB tS kK kV) cJ7_fill_d0a16 5 RJ7 0 0) (hR : ∀ (pc : Nat) (lv : List (Nat × Value)), decode cJ7_fill_d0a16 pc = .ok (.return_, 1) → G X (vC a D tI tJ tB tS kK kV) 5 r.1 pc lv []) (hkx6 : ∀ (σ : St) (e3_6 : Int32), kx6 σ e3_6 = some r → G X (vC a D tI tJ tB tS kK kV) 5 σ 22 [] []) : ∀ (n : Nat) (σ : St) (c3_6 : Int32), fJ7_fill_d0a16_i52_L6 q1_6 q4_6 kx6 n σ c3_6 = some r → G X (vC a D tI tJ tB tS kK kV) 5 σ 6 [(0, .ref (a 52)), (1, .long q1_6), (4, .int q4_6), (3, .int c3_6)] [] := by
  intro n
  induction n with
  | zero => intro σ c3_6 h; rw [fJ7_fill_d0a16_i52_L6] at h; exact absurd h (by simp)
  | succ n6 ih6 =>
    intro σ c3_6 h
    rw [fJ7_fill_d0a16_i52_L6] at h
    refine g_iload_n hX 3 dJ7_fill_d0a16_6 rfl rfl ?_
    refine g_iload hX 2 dJ7_fill_d0a16_7 rfl ?_
    refine g_icmp_ge hX 22 dJ7_fill_d0a16_9 (by decide) h (fun h => ?_) (fun h => ?_)
    · exact g_sub [] rfl (hkx6 _ _ h)
    · refine g_aload_n hX 0 dJ7_fill_d0a16_12 rfl rfl ?_
      refine g_iload_n hX 3 dJ7_fill_d0a16_13 rfl rfl ?_
      refine g_lload_n hX 1 dJ7_fill_d0a16_14 rfl rfl ?_
      refine asC_52 hX dJ7_fill_d0a16_15 h (fun σ_3 h => ?_)
      refine g_iinc (y := (1)) (lv' := fun x3_4 => [(3, .int x3_4), (0, .ref (a 52)), (1, .long q1_6), (4, .int q4_6)]) hX 3 dJ7_fill_d0a16_16 rfl (by decide) (by decide) (fun _ => rfl) h (fun x3_4 h => ?_)
      refine g_goto hX 6 dJ7_fill_d0a16_19 (by decide) ?_
      exact g_sub [1, 2, 3, 0] rfl (ih6 _ _ h)
set_option maxRecDepth 20000 in
set_option maxHeartbeats 4000000 in
theorem sJ7_fill_d0a16_i52 {X : CX} {a : Nat → Nat} {D : va_G} {tI tJ tB tS : ClassId} {kK kV : Nat → Nat} {σ : St}  {p2 : Int64} {r : St × Unit} (hX : OKX X (vC a D tI tJ tB tS kK kV) cJ7_fill_d0a16 5 RJ7 0 0) (hR : ∀ (pc : Nat) (lv : List (Nat × Value)), decode cJ7_fill_d0a16 pc = .ok (.return_, 1) → G X (vC a D tI tJ tB tS kK kV) 5 r.1 pc lv [])  (h : fJ7_fill_d0a16_i52 σ p2 = some r) : G X (vC a D tI tJ tB tS kK kV) 5 σ 0 [(0, .ref (a 52)), (1, .long p2)] [] := by
  unfold fJ7_fill_d0a16_i52 at h
  refine g_iconst hX (0) dJ7_fill_d0a16_0 (by decide) ?_
  refine g_istore_n (lv' := fun x3_1 => [(3, .int x3_1), (0, .ref (a 52)), (1, .long p2)]) hX dJ7_fill_d0a16_1 rfl (by decide) (fun _ => rfl) h (fun x3_1 h => ?_)
  refine g_aload_n hX 1 dJ7_fill_d0a16_2 rfl rfl ?_
  refine lenC_52 hX dJ7_fill_d0a16_3 ?_
  refine g_istore (lv' := fun x4_2 => [(4, .int x4_2), (3, .int x3_1), (0, .ref (a 52)), (1, .long p2)]) hX dJ7_fill_d0a16_4 (by decide) (fun _ => rfl) h (fun x4_2 h => ?_)
  refine g_sub [2, 3, 0, 1] rfl (sJ7_fill_d0a16_i52_L6 hX hR (fun σ_5 x3_6 h => ?_) FU _ _ h)
  exact g_retv hR h dJ7_fill_d0a16_22
set_option maxRecDepth 20000 in
set_option maxHeartbeats 4000000 in
theorem kJ7_fill_d0a16_i52 (l : Launch) {a : Nat → Nat} {D : va_G} {tI tJ tB tS : ClassId} {kK kV : Nat → Nat} {σ τ : St}  {p2 : Int64} {x : Unit} (h : fJ7_fill_d0a16_i52 σ p2 = some (τ, x)) : CtV l yJ7_fill_d0a16 cJ7_fill_d0a16 5 none 0 0 (vC a D tI tJ tB tS kK kV) σ [.ref (a 52), .long p2] τ x := g_metV (by decide) (Nat.le_of_ble_eq_true rfl) rfl (fun X _ hX hR => sJ7_fill_d0a16_i52 (r := (τ, x)) hX hR h)
def fX7_rowsOfOthers_L4  (kx4 : St → Int32 → Int32 → Option (St × Int32)) : Nat → St → Int32 → Int32 → Option (St × Int32)
  | 0, _, _, _ => none
  | n4 + 1, σ, c1_4, c2_4 =>
    (if (σ.1 2 0) ≤ c2_4 then kx4 σ c1_4 c2_4 else bnd (c1_4 * (σ.1 2 2)) fun (x1_3 : Int32) => bnd (c2_4 + (1 : Int32)) fun (x2_4 : Int32) => fX7_rowsOfOthers_L4 kx4 n4 σ x1_3 x2_4)
def fX7_rowsOfOthers (σ : St)  : Option (St × Int32) :=
  bnd (1 : Int32) fun (x1_1 : Int32) => bnd (1 : Int32) fun (x2_2 : Int32) => fX7_rowsOfOthers_L4  (fun (σ_5 : St) (x1_6 : Int32) (x2_7 : Int32) => some (σ_5, x1_6)) FU σ x1_1 x2_2
set_option maxRecDepth 20000 in
set_option maxHeartbeats 4000000 in
theorem sX7_rowsOfOthers_L4 {X : CX} {a : Nat → Nat} {D : va_G} {tI tJ tB tS : ClassId} {kK kV : Nat → Nat}  {kx4 : St → Int32 → Int32 → Option (St × Int32)} {r : St × Int32} (hX : OKX X (vC a D tI tJ tB tS kK kV) cX7_rowsOfOthers 3 RX7 0 0) (hR : ∀ (pc : Nat) (lv : List (Nat × Value)), decode cX7_rowsOfOthers pc = .ok (.ireturn, 1) → G X (vC a D tI tJ tB tS kK kV) 3 r.1 pc lv [.int r.2]) (hkx4 : ∀ (σ : St) (e1_4 : Int32) (e2_4 : Int32), kx4 σ e1_4 e2_4 = some r → G X (vC a D tI tJ tB tS kK kV) 3 σ 31 [(1, .int e1_4)] []) : ∀ (n : Nat) (σ : St) (c1_4 : Int32) (c2_4 : Int32), fX7_rowsOfOthers_L4 kx4 n σ c1_4 c2_4 = some r → G X (vC a D tI tJ tB tS kK kV) 3 σ 4 [(0, .ref (a 43)), (1, .int c1_4), (2, .int c2_4)] [] := by
  intro n
  induction n with
  | zero => intro σ c1_4 c2_4 h; rw [fX7_rowsOfOthers_L4] at h; exact absurd h (by simp)
  | succ n4 ih4 =>
    intro σ c1_4 c2_4 h
    rw [fX7_rowsOfOthers_L4] at h
    refine g_iload_n hX 2 dX7_rowsOfOthers_4 rfl rfl ?_
    refine g_aload_n hX 0 dX7_rowsOfOthers_5 rfl rfl ?_
    refine gCX7_9_43 hX dX7_rowsOfOthers_6 ?_
    refine gCX7_85_2 hX dX7_rowsOfOthers_9 ?_
    refine g_icmp_ge hX 31 dX7_rowsOfOthers_12 (by decide) h (fun h => ?_) (fun h => ?_)
    · exact g_sub [1] rfl (hkx4 _ _ _ h)
    · refine g_iload_n hX 1 dX7_rowsOfOthers_15 rfl rfl ?_
      refine g_aload_n hX 0 dX7_rowsOfOthers_16 rfl rfl ?_
      refine gCX7_9_43 hX dX7_rowsOfOthers_17 ?_
      refine gCX7_106_2 hX dX7_rowsOfOthers_20 ?_
      refine g_imul hX dX7_rowsOfOthers_23 ?_
      refine g_istore_n (lv' := fun x1_3 => [(1, .int x1_3), (0, .ref (a 43)), (2, .int c2_4)]) hX dX7_rowsOfOthers_24 rfl (by decide) (fun _ => rfl) h (fun x1_3 h => ?_)
      refine g_iinc (y := (1)) (lv' := fun x2_4 => [(2, .int x2_4), (1, .int x1_3), (0, .ref (a 43))]) hX 2 dX7_rowsOfOthers_25 rfl (by decide) (by decide) (fun _ => rfl) h (fun x2_4 h => ?_)
      refine g_goto hX 4 dX7_rowsOfOthers_28 (by decide) ?_
      exact g_sub [2, 1, 0] rfl (ih4 _ _ _ h)
set_option maxRecDepth 20000 in
set_option maxHeartbeats 4000000 in
theorem sX7_rowsOfOthers {X : CX} {a : Nat → Nat} {D : va_G} {tI tJ tB tS : ClassId} {kK kV : Nat → Nat} {σ : St}   {r : St × Int32} (hX : OKX X (vC a D tI tJ tB tS kK kV) cX7_rowsOfOthers 3 RX7 0 0) (hR : ∀ (pc : Nat) (lv : List (Nat × Value)), decode cX7_rowsOfOthers pc = .ok (.ireturn, 1) → G X (vC a D tI tJ tB tS kK kV) 3 r.1 pc lv [.int r.2])  (h : fX7_rowsOfOthers σ  = some r) : G X (vC a D tI tJ tB tS kK kV) 3 σ 0 [(0, .ref (a 43))] [] := by
  unfold fX7_rowsOfOthers at h
  refine g_iconst hX (1) dX7_rowsOfOthers_0 (by decide) ?_
  refine g_istore_n (lv' := fun x1_1 => [(1, .int x1_1), (0, .ref (a 43))]) hX dX7_rowsOfOthers_1 rfl (by decide) (fun _ => rfl) h (fun x1_1 h => ?_)
  refine g_iconst hX (1) dX7_rowsOfOthers_2 (by decide) ?_
  refine g_istore_n (lv' := fun x2_2 => [(2, .int x2_2), (1, .int x1_1), (0, .ref (a 43))]) hX dX7_rowsOfOthers_3 rfl (by decide) (fun _ => rfl) h (fun x2_2 h => ?_)
  refine g_sub [2, 1, 0] rfl (sX7_rowsOfOthers_L4 hX hR (fun σ_5 x1_6 x2_7 h => ?_) FU _ _ _ h)
  refine g_iload_n hX 0 dX7_rowsOfOthers_31 rfl rfl ?_
  exact g_reti hR h dX7_rowsOfOthers_32
set_option maxRecDepth 20000 in
set_option maxHeartbeats 4000000 in
theorem kX7_rowsOfOthers (l : Launch) {a : Nat → Nat} {D : va_G} {tI tJ tB tS : ClassId} {kK kV : Nat → Nat} {σ τ : St}   {x : Int32} (h : fX7_rowsOfOthers σ  = some (τ, x)) : CtI l yX7_rowsOfOthers cX7_rowsOfOthers 3 (some .int) 0 0 (vC a D tI tJ tB tS kK kV) σ [.ref (a 43)] τ x := g_metI (by decide) (Nat.le_of_ble_eq_true rfl) rfl (fun X _ hX hR => sX7_rowsOfOthers (r := (τ, x)) hX hR h)
