def fJ7_fill_53178_i46_L5 (q1_5 : Int32) (q3_5 : Int32) (kx5 : St → Int32 → Option (St × Unit)) : Nat → St → Int32 → Option (St × Unit)
  | 0, _, _ => none
  | n5 + 1, σ, c2_5 =>
    (if q3_5 ≤ c2_5 then kx5 σ c2_5 else chk (inb c2_5 4) (bnd (sI σ 46 (ix c2_5) q1_5) fun (σ_3 : St) => bnd (c2_5 + (1 : Int32)) fun (x2_4 : Int32) => fJ7_fill_53178_i46_L5 q1_5 q3_5 kx5 n5 σ_3 x2_4))
def fJ7_fill_53178_i46 (σ : St) (p2 : Int32) : Option (St × Unit) :=
  bnd (0 : Int32) fun (x2_1 : Int32) => bnd (4 : Int32) fun (x3_2 : Int32) => fJ7_fill_53178_i46_L5 p2 x3_2 (fun (σ_5 : St) (x2_6 : Int32) => some (σ_5, ())) FU σ x2_1
set_option maxRecDepth 20000 in
set_option maxHeartbeats 4000000 in
theorem sJ7_fill_53178_i46_L5 {X : CX} {a : Nat → Nat} {D : va_G} {tI tJ tB tS : ClassId} {kK kV : Nat → Nat} {q1_5 : Int32} {q3_5 : Int32} {kx5 : St → Int32 → Option (St × Unit)} {r : St × Unit} (hX : OKX X (vC a D tI tJ tB tS kK kV) cJ7_fill_53178 4 RJ7 0 0) (hR : ∀ (pc : Nat) (lv : List (Nat × Value)), decode cJ7_fill_53178 pc = .ok (.return_, 1) → G X (vC a D tI tJ tB tS kK kV) 4 r.1 pc lv []) (hkx5 : ∀ (σ : St) (e2_5 : Int32), kx5 σ e2_5 = some r → G X (vC a D tI tJ tB tS kK kV) 4 σ 20 [] []) : ∀ (n : Nat) (σ : St) (c2_5 : Int32), fJ7_fill_53178_i46_L5 q1_5 q3_5 kx5 n σ c2_5 = some r → G X (vC a D tI tJ tB tS kK kV) 4 σ 5 [(0, .ref (a 46)), (1, .int q1_5), (3, .int q3_5), (2, .int c2_5)] [] := by
  intro n
  induction n with
  | zero => intro σ c2_5 h; rw [fJ7_fill_53178_i46_L5] at h; exact absurd h (by simp)
  | succ n5 ih5 =>
    intro σ c2_5 h
    rw [fJ7_fill_53178_i46_L5] at h
    refine g_iload_n hX 3 dJ7_fill_53178_5 rfl rfl ?_
    refine g_iload_n hX 2 dJ7_fill_53178_6 rfl rfl ?_
    refine g_icmp_ge hX 20 dJ7_fill_53178_7 (by decide) h (fun h => ?_) (fun h => ?_)
    · exact g_sub [] rfl (hkx5 _ _ h)
    · refine g_aload_n hX 0 dJ7_fill_53178_10 rfl rfl ?_
      refine g_iload_n hX 3 dJ7_fill_53178_11 rfl rfl ?_
      refine g_iload_n hX 1 dJ7_fill_53178_12 rfl rfl ?_
      refine asC_46 hX dJ7_fill_53178_13 h (fun σ_3 h => ?_)
      refine g_iinc (y := (1)) (lv' := fun x2_4 => [(2, .int x2_4), (0, .ref (a 46)), (1, .int q1_5), (3, .int q3_5)]) hX 3 dJ7_fill_53178_14 rfl (by decide) (by decide) (fun _ => rfl) h (fun x2_4 h => ?_)
      refine g_goto hX 5 dJ7_fill_53178_17 (by decide) ?_
      exact g_sub [1, 2, 3, 0] rfl (ih5 _ _ h)
set_option maxRecDepth 20000 in
set_option maxHeartbeats 4000000 in
theorem sJ7_fill_53178_i46 {X : CX} {a : Nat → Nat} {D : va_G} {tI tJ tB tS : ClassId} {kK kV : Nat → Nat} {σ : St}  {p2 : Int32} {r : St × Unit} (hX : OKX X (vC a D tI tJ tB tS kK kV) cJ7_fill_53178 4 RJ7 0 0) (hR : ∀ (pc : Nat) (lv : List (Nat × Value)), decode cJ7_fill_53178 pc = .ok (.return_, 1) → G X (vC a D tI tJ tB tS kK kV) 4 r.1 pc lv [])  (h : fJ7_fill_53178_i46 σ p2 = some r) : G X (vC a D tI tJ tB tS kK kV) 4 σ 0 [(0, .ref (a 46)), (1, .int p2)] [] := by
  unfold fJ7_fill_53178_i46 at h
  refine g_iconst hX (0) dJ7_fill_53178_0 (by decide) ?_
  refine g_istore_n (lv' := fun x2_1 => [(2, .int x2_1), (0, .ref (a 46)), (1, .int p2)]) hX dJ7_fill_53178_1 rfl (by decide) (fun _ => rfl) h (fun x2_1 h => ?_)
  refine g_aload_n hX 1 dJ7_fill_53178_2 rfl rfl ?_
  refine lenC_46 hX dJ7_fill_53178_3 ?_
  refine g_istore_n (lv' := fun x3_2 => [(3, .int x3_2), (2, .int x2_1), (0, .ref (a 46)), (1, .int p2)]) hX dJ7_fill_53178_4 rfl (by decide) (fun _ => rfl) h (fun x3_2 h => ?_)
  refine g_sub [2, 3, 0, 1] rfl (sJ7_fill_53178_i46_L5 hX hR (fun σ_5 x2_6 h => ?_) FU _ _ h)
  exact g_retv hR h dJ7_fill_53178_20
set_option maxRecDepth 20000 in
set_option maxHeartbeats 4000000 in
theorem kJ7_fill_53178_i46 (l : Launch) {a : Nat → Nat} {D : va_G} {tI tJ tB tS : ClassId} {kK kV : Nat → Nat} {σ τ : St}  {p2 : Int32} {x : Unit} (h : fJ7_fill_53178_i46 σ p2 = some (τ, x)) : CtV l yJ7_fill_53178 cJ7_fill_53178 4 none 0 0 (vC a D tI tJ tB tS kK kV) σ [.ref (a 46), .int p2] τ x := g_metV (by decide) (Nat.le_of_ble_eq_true rfl) rfl (fun X _ hX hR => sJ7_fill_53178_i46 (r := (τ, x)) hX hR h)
def fX7_firstRow (σ : St)  : Option (St × Unit) :=
  cl (fJ7_fill_53178_i46 σ (0 : Int32)) fun (σ_1 : St) (t_2 : Unit) => some (σ_1, ())
set_option maxRecDepth 20000 in
set_option maxHeartbeats 4000000 in
theorem sX7_firstRow {X : CX} {a : Nat → Nat} {D : va_G} {tI tJ tB tS : ClassId} {kK kV : Nat → Nat} {σ : St}   {r : St × Unit} (hX : OKX X (vC a D tI tJ tB tS kK kV) cX7_firstRow 1 RX7 1 23) (hR : ∀ (pc : Nat) (lv : List (Nat × Value)), decode cX7_firstRow pc = .ok (.return_, 1) → G X (vC a D tI tJ tB tS kK kV) 1 r.1 pc lv [])  (h : fX7_firstRow σ  = some r) : G X (vC a D tI tJ tB tS kK kV) 1 σ 0 [(0, .ref (a 43))] [] := by
  unfold fX7_firstRow at h
  refine g_aload_n hX 0 dX7_firstRow_0 rfl rfl ?_
  refine gCX7_30_43 hX dX7_firstRow_1 ?_
  refine g_iconst hX (0) dX7_firstRow_4 (by decide) ?_
  refine g_callSV (As := [.ref (a 46), .int (0 : Int32)]) (rest := []) hX miJ7_fill_53178 mvJ7_fill_53178 lkX7_79 (by decide) rfl (Nat.le_of_ble_eq_true rfl) rfl dX7_firstRow_5 (fun τ x ho => kJ7_fill_53178_i46 _ ho) h (fun σ_1 t_2 h => ?_)
  exact g_retv hR h dX7_firstRow_8
set_option maxRecDepth 20000 in
set_option maxHeartbeats 4000000 in
theorem kX7_firstRow (l : Launch) {a : Nat → Nat} {D : va_G} {tI tJ tB tS : ClassId} {kK kV : Nat → Nat} {σ τ : St}   {x : Unit} (h : fX7_firstRow σ  = some (τ, x)) : CtV l yX7_firstRow cX7_firstRow 1 none 1 23 (vC a D tI tJ tB tS kK kV) σ [.ref (a 43)] τ x := g_metV (by decide) (Nat.le_of_ble_eq_true rfl) rfl (fun X _ hX hR => sX7_firstRow (r := (τ, x)) hX hR h)
def fX7_weightOfOthers_L5 (q1_5 : Int32) (kx5 : St → Int64 → Int32 → Option (St × Int64)) : Nat → St → Int64 → Int32 → Option (St × Int64)
  | 0, _, _, _ => none
  | n5 + 1, σ, c2_5, c4_5 =>
    (if (σ.1 2 0) ≤ c4_5 then kx5 σ c2_5 c4_5 else (if (lg_cmp c2_5 (0 : Int64)) ≤ 0 then kx5 σ c2_5 c4_5 else (jp (fun (σ_3 : St) (x2_4 : Int64)  => bnd (c4_5 + (1 : Int32)) fun (x4_5 : Int32) => fX7_weightOfOthers_L5 q1_5 kx5 n5 σ_3 x2_4 x4_5) fun j51 => (if c4_5 = q1_5 then j51 σ c2_5 else chk (inb c4_5 4) (chk (inb ((c4_5 * (8 : Int32)) + (σ.1 46 (ix c4_5))) 32) (bnd (c2_5 * (((σ.1 45 (ix ((c4_5 * (8 : Int32)) + (σ.1 46 (ix c4_5)))))).toInt64)) fun (x2_6 : Int64) => j51 σ x2_6))))))
def fX7_weightOfOthers (σ : St) (p1 : Int32) : Option (St × Int64) :=
  bnd (1 : Int64) fun (x2_1 : Int64) => bnd (0 : Int32) fun (x4_2 : Int32) => fX7_weightOfOthers_L5 p1 (fun (σ_7 : St) (x2_8 : Int64) (x4_9 : Int32) => some (σ_7, x2_8)) FU σ x2_1 x4_2
set_option maxRecDepth 20000 in
set_option maxHeartbeats 4000000 in
theorem sX7_weightOfOthers_L5 {X : CX} {a : Nat → Nat} {D : va_G} {tI tJ tB tS : ClassId} {kK kV : Nat → Nat} {q1_5 : Int32} {kx5 : St → Int64 → Int32 → Option (St × Int64)} {r : St × Int64} (hX : OKX X (vC a D tI tJ tB tS kK kV) cX7_weightOfOthers 5 RX7 0 0) (hR : ∀ (pc : Nat) (lv : List (Nat × Value)), decode cX7_weightOfOthers pc = .ok (.lreturn, 1) → G X (vC a D tI tJ tB tS kK kV) 5 r.1 pc lv [.long r.2]) (hkx5 : ∀ (σ : St) (e2_5 : Int64) (e4_5 : Int32), kx5 σ e2_5 e4_5 = some r → G X (vC a D tI tJ tB tS kK kV) 5 σ 57 [(2, .long e2_5)] []) : ∀ (n : Nat) (σ : St) (c2_5 : Int64) (c4_5 : Int32), fX7_weightOfOthers_L5 q1_5 kx5 n σ c2_5 c4_5 = some r → G X (vC a D tI tJ tB tS kK kV) 5 σ 5 [(0, .ref (a 43)), (1, .int q1_5), (2, .long c2_5), (4, .int c4_5)] [] := by
  intro n
  induction n with
  | zero => intro σ c2_5 c4_5 h; rw [fX7_weightOfOthers_L5] at h; exact absurd h (by simp)
  | succ n5 ih5 =>
    intro σ c2_5 c4_5 h
    rw [fX7_weightOfOthers_L5] at h
    refine g_iload hX 3 dX7_weightOfOthers_5 rfl ?_
    refine g_aload_n hX 0 dX7_weightOfOthers_7 rfl rfl ?_
    refine gCX7_9_43 hX dX7_weightOfOthers_8 ?_
    refine gCX7_85_2 hX dX7_weightOfOthers_11 ?_
    refine g_icmp_ge hX 57 dX7_weightOfOthers_14 (by decide) h (fun h => ?_) (fun h => ?_)
    · exact g_sub [2] rfl (hkx5 _ _ _ h)
    · refine g_lload_n hX 2 dX7_weightOfOthers_17 rfl rfl ?_
      refine g_lconst hX (0) dX7_weightOfOthers_18 (by decide) ?_
      refine g_lcmp hX dX7_weightOfOthers_19 ?_
      refine g_if_le hX 57 dX7_weightOfOthers_20 (by decide) h (fun h => ?_) (fun h => ?_)
      · exact g_sub [2] rfl (hkx5 _ _ _ h)
      · refine g_iload hX 3 dX7_weightOfOthers_23 rfl ?_
        refine g_iload_n hX 1 dX7_weightOfOthers_25 rfl rfl ?_
        refine jp_inv (P := fun f => ∀ (σ_3 : St) (x2_4 : Int64) , f σ_3 x2_4 = some r → G X (vC a D tI tJ tB tS kK kV) 5 σ_3 51 [(0, .ref (a 43)), (1, .int q1_5), (4, .int c4_5), (2, .long x2_4)] []) h (fun σ_3 x2_4 h => ?_) (fun j51 hj51 h => ?_)
        · refine g_iinc (y := (1)) (lv' := fun x4_5 => [(4, .int x4_5), (0, .ref (a 43)), (1, .int q1_5), (2, .long x2_4)]) hX 2 dX7_weightOfOthers_51 rfl (by decide) (by decide) (fun _ => rfl) h (fun x4_5 h => ?_)
          refine g_goto hX 5 dX7_weightOfOthers_54 (by decide) ?_
          exact g_sub [1, 2, 3, 0] rfl (ih5 _ _ _ h)
        refine g_icmp_eq hX 51 dX7_weightOfOthers_26 (by decide) h (fun h => ?_) (fun h => ?_)
        · exact g_sub [0, 1, 3, 2] rfl (hj51 _ _ h)
        · refine g_lload_n hX 2 dX7_weightOfOthers_29 rfl rfl ?_
          refine g_aload_n hX 0 dX7_weightOfOthers_30 rfl rfl ?_
          refine gCX7_27_43 hX dX7_weightOfOthers_31 ?_
          refine g_iload hX 3 dX7_weightOfOthers_34 rfl ?_
          refine g_bipush hX (8) dX7_weightOfOthers_36 (by decide) ?_
          refine g_imul hX dX7_weightOfOthers_38 ?_
          refine g_aload_n hX 0 dX7_weightOfOthers_39 rfl rfl ?_
          refine gCX7_30_43 hX dX7_weightOfOthers_40 ?_
          refine g_iload hX 3 dX7_weightOfOthers_43 rfl ?_
          refine alC_46 hX dX7_weightOfOthers_45 h (fun h => ?_)
          refine g_iadd hX dX7_weightOfOthers_46 ?_
          refine alC_45 hX dX7_weightOfOthers_47 h (fun h => ?_)
          refine g_i2l hX dX7_weightOfOthers_48 ?_
          refine g_lmul hX dX7_weightOfOthers_49 ?_
          refine g_lstore_n (lv' := fun x2_6 => [(2, .long x2_6), (0, .ref (a 43)), (1, .int q1_5), (4, .int c4_5)]) hX dX7_weightOfOthers_50 rfl (by decide) (fun _ => rfl) h (fun x2_6 h => ?_)
          exact g_sub [1, 2, 3, 0] rfl (hj51 _ _ h)
set_option maxRecDepth 20000 in
set_option maxHeartbeats 4000000 in
theorem sX7_weightOfOthers {X : CX} {a : Nat → Nat} {D : va_G} {tI tJ tB tS : ClassId} {kK kV : Nat → Nat} {σ : St}  {p1 : Int32} {r : St × Int64} (hX : OKX X (vC a D tI tJ tB tS kK kV) cX7_weightOfOthers 5 RX7 0 0) (hR : ∀ (pc : Nat) (lv : List (Nat × Value)), decode cX7_weightOfOthers pc = .ok (.lreturn, 1) → G X (vC a D tI tJ tB tS kK kV) 5 r.1 pc lv [.long r.2])  (h : fX7_weightOfOthers σ p1 = some r) : G X (vC a D tI tJ tB tS kK kV) 5 σ 0 [(0, .ref (a 43)), (1, .int p1)] [] := by
  unfold fX7_weightOfOthers at h
  refine g_lconst hX (1) dX7_weightOfOthers_0 (by decide) ?_
  refine g_lstore_n (lv' := fun x2_1 => [(2, .long x2_1), (0, .ref (a 43)), (1, .int p1)]) hX dX7_weightOfOthers_1 rfl (by decide) (fun _ => rfl) h (fun x2_1 h => ?_)
  refine g_iconst hX (0) dX7_weightOfOthers_2 (by decide) ?_
  refine g_istore (lv' := fun x4_2 => [(4, .int x4_2), (2, .long x2_1), (0, .ref (a 43)), (1, .int p1)]) hX dX7_weightOfOthers_3 (by decide) (fun _ => rfl) h (fun x4_2 h => ?_)
  refine g_sub [2, 3, 1, 0] rfl (sX7_weightOfOthers_L5 hX hR (fun σ_7 x2_8 x4_9 h => ?_) FU _ _ _ h)
  refine g_lload_n hX 0 dX7_weightOfOthers_57 rfl rfl ?_
  exact g_retl hR h dX7_weightOfOthers_58
set_option maxRecDepth 20000 in
set_option maxHeartbeats 4000000 in
theorem kX7_weightOfOthers (l : Launch) {a : Nat → Nat} {D : va_G} {tI tJ tB tS : ClassId} {kK kV : Nat → Nat} {σ τ : St}  {p1 : Int32} {x : Int64} (h : fX7_weightOfOthers σ p1 = some (τ, x)) : CtL l yX7_weightOfOthers cX7_weightOfOthers 5 (some .long) 0 0 (vC a D tI tJ tB tS kK kV) σ [.ref (a 43), .int p1] τ x := g_metL (by decide) (Nat.le_of_ble_eq_true rfl) rfl (fun X _ hX hR => sX7_weightOfOthers (r := (τ, x)) hX hR h)
def fX7_nextRow_L2 (q1_2 : Int32) (kx2 : St → Int32 → Option (St × Unit)) : Nat → St → Int32 → Option (St × Unit)
  | 0, _, _ => none
  | n2 + 1, σ, c2_2 =>
    (if (σ.1 2 0) ≤ c2_2 then kx2 σ c2_2 else (jp (fun (σ_2 : St)   => bnd (c2_2 + (1 : Int32)) fun (x2_3 : Int32) => fX7_nextRow_L2 q1_2 kx2 n2 σ_2 x2_3) fun j52 => (if c2_2 = q1_2 then j52 σ else chk (inb c2_2 4) (chk (inb c2_2 4) (bnd (sI σ 46 (ix c2_2) ((σ.1 46 (ix c2_2)) + (1 : Int32))) fun (σ_4 : St) => chk (inb c2_2 4) ((if (σ_4.1 2 2) ≤ (σ_4.1 46 (ix c2_2)) then chk (inb c2_2 4) (bnd (sI σ_4 46 (ix c2_2) (0 : Int32)) fun (σ_5 : St) => j52 σ_5) else some (σ_4, ()))))))))
def fX7_nextRow (σ : St) (p1 : Int32) : Option (St × Unit) :=
  bnd (0 : Int32) fun (x2_1 : Int32) => fX7_nextRow_L2 p1 (fun (σ_6 : St) (x2_7 : Int32) => some (σ_6, ())) FU σ x2_1
set_option maxRecDepth 20000 in
set_option maxHeartbeats 4000000 in
theorem sX7_nextRow_L2 {X : CX} {a : Nat → Nat} {D : va_G} {tI tJ tB tS : ClassId} {kK kV : Nat → Nat} {q1_2 : Int32} {kx2 : St → Int32 → Option (St × Unit)} {r : St × Unit} (hX : OKX X (vC a D tI tJ tB tS kK kV) cX7_nextRow 3 RX7 0 0) (hR : ∀ (pc : Nat) (lv : List (Nat × Value)), decode cX7_nextRow pc = .ok (.return_, 1) → G X (vC a D tI tJ tB tS kK kV) 3 r.1 pc lv []) (hkx2 : ∀ (σ : St) (e2_2 : Int32), kx2 σ e2_2 = some r → G X (vC a D tI tJ tB tS kK kV) 3 σ 58 [] []) : ∀ (n : Nat) (σ : St) (c2_2 : Int32), fX7_nextRow_L2 q1_2 kx2 n σ c2_2 = some r → G X (vC a D tI tJ tB tS kK kV) 3 σ 2 [(0, .ref (a 43)), (1, .int q1_2), (2, .int c2_2)] [] := by
  intro n
  induction n with
  | zero => intro σ c2_2 h; rw [fX7_nextRow_L2] at h; exact absurd h (by simp)
  | succ n2 ih2 =>
    intro σ c2_2 h
    rw [fX7_nextRow_L2] at h
    refine g_iload_n hX 2 dX7_nextRow_2 rfl rfl ?_
    refine g_aload_n hX 0 dX7_nextRow_3 rfl rfl ?_
    refine gCX7_9_43 hX dX7_nextRow_4 ?_
    refine gCX7_85_2 hX dX7_nextRow_7 ?_
    refine g_icmp_ge hX 58 dX7_nextRow_10 (by decide) h (fun h => ?_) (fun h => ?_)
    · exact g_sub [] rfl (hkx2 _ _ h)
    · refine g_iload_n hX 2 dX7_nextRow_13 rfl rfl ?_
      refine g_iload_n hX 1 dX7_nextRow_14 rfl rfl ?_
      refine jp_inv (P := fun f => ∀ (σ_2 : St)  , f σ_2 = some r → G X (vC a D tI tJ tB tS kK kV) 3 σ_2 52 [(0, .ref (a 43)), (1, .int q1_2), (2, .int c2_2)] []) h (fun σ_2 h => ?_) (fun j52 hj52 h => ?_)
      · refine g_iinc (y := (1)) (lv' := fun x2_3 => [(2, .int x2_3), (0, .ref (a 43)), (1, .int q1_2)]) hX 2 dX7_nextRow_52 rfl (by decide) (by decide) (fun _ => rfl) h (fun x2_3 h => ?_)
        refine g_goto hX 2 dX7_nextRow_55 (by decide) ?_
        exact g_sub [1, 2, 0] rfl (ih2 _ _ h)
      refine g_icmp_eq hX 52 dX7_nextRow_15 (by decide) h (fun h => ?_) (fun h => ?_)
      · exact g_sub [0, 1, 2] rfl (hj52 _ h)
      · refine g_aload_n hX 0 dX7_nextRow_18 rfl rfl ?_
        refine gCX7_30_43 hX dX7_nextRow_19 ?_
        refine g_iload_n hX 2 dX7_nextRow_22 rfl rfl ?_
        refine g_dup2 hX dX7_nextRow_23 rfl rfl ?_
        refine alC_46 hX dX7_nextRow_24 h (fun h => ?_)
        refine g_iconst hX (1) dX7_nextRow_25 (by decide) ?_
        refine g_iadd hX dX7_nextRow_26 ?_
        refine asC_46 hX dX7_nextRow_27 h (fun σ_4 h => ?_)
        refine g_aload_n hX 0 dX7_nextRow_28 rfl rfl ?_
        refine gCX7_30_43 hX dX7_nextRow_29 ?_
        refine g_iload_n hX 2 dX7_nextRow_32 rfl rfl ?_
        refine alC_46 hX dX7_nextRow_33 h (fun h => ?_)
        refine g_aload_n hX 0 dX7_nextRow_34 rfl rfl ?_
        refine gCX7_9_43 hX dX7_nextRow_35 ?_
        refine gCX7_106_2 hX dX7_nextRow_38 ?_
        refine g_icmp_ge hX 45 dX7_nextRow_41 (by decide) h (fun h => ?_) (fun h => ?_)
        · refine g_aload_n hX 0 dX7_nextRow_45 rfl rfl ?_
          refine gCX7_30_43 hX dX7_nextRow_46 ?_
          refine g_iload_n hX 2 dX7_nextRow_49 rfl rfl ?_
          refine g_iconst hX (0) dX7_nextRow_50 (by decide) ?_
          refine asC_46 hX dX7_nextRow_51 h (fun σ_5 h => ?_)
          exact g_sub [0, 1, 2] rfl (hj52 _ h)
        · exact g_retv hR h dX7_nextRow_44
set_option maxRecDepth 20000 in
set_option maxHeartbeats 4000000 in
theorem sX7_nextRow {X : CX} {a : Nat → Nat} {D : va_G} {tI tJ tB tS : ClassId} {kK kV : Nat → Nat} {σ : St}  {p1 : Int32} {r : St × Unit} (hX : OKX X (vC a D tI tJ tB tS kK kV) cX7_nextRow 3 RX7 0 0) (hR : ∀ (pc : Nat) (lv : List (Nat × Value)), decode cX7_nextRow pc = .ok (.return_, 1) → G X (vC a D tI tJ tB tS kK kV) 3 r.1 pc lv [])  (h : fX7_nextRow σ p1 = some r) : G X (vC a D tI tJ tB tS kK kV) 3 σ 0 [(0, .ref (a 43)), (1, .int p1)] [] := by
  unfold fX7_nextRow at h
  refine g_iconst hX (0) dX7_nextRow_0 (by decide) ?_
  refine g_istore_n (lv' := fun x2_1 => [(2, .int x2_1), (0, .ref (a 43)), (1, .int p1)]) hX dX7_nextRow_1 rfl (by decide) (fun _ => rfl) h (fun x2_1 h => ?_)
  refine g_sub [1, 2, 0] rfl (sX7_nextRow_L2 hX hR (fun σ_6 x2_7 h => ?_) FU _ _ h)
  exact g_retv hR h dX7_nextRow_58
set_option maxRecDepth 20000 in
set_option maxHeartbeats 4000000 in
theorem kX7_nextRow (l : Launch) {a : Nat → Nat} {D : va_G} {tI tJ tB tS : ClassId} {kK kV : Nat → Nat} {σ τ : St}  {p1 : Int32} {x : Unit} (h : fX7_nextRow σ p1 = some (τ, x)) : CtV l yX7_nextRow cX7_nextRow 3 none 0 0 (vC a D tI tJ tB tS kK kV) σ [.ref (a 43), .int p1] τ x := g_metV (by decide) (Nat.le_of_ble_eq_true rfl) rfl (fun X _ hX hR => sX7_nextRow (r := (τ, x)) hX hR h)
def fX7_readRow_L32 (q1_32 : Int32) (kx32 : St → Int32 → Option (St × Unit)) : Nat → St → Int32 → Option (St × Unit)
  | 0, _, _ => none
  | n32 + 1, σ, c2_32 =>
    (if ((2 : Int32) <<< (q1_32 &&& 31)) ≤ c2_32 then kx32 σ c2_32 else bnd (c2_32 - ((1 : Int32) <<< (q1_32 &&& 31))) fun (x3_5 : Int32) => chk (inb q1_32 4) (chk (inb x3_5 16) ((jp (fun (σ_6 : St)  (t_7 : Int32) => bnd t_7 fun (x4_8 : Int32) => chk (inb q1_32 4) (chk (inb x3_5 16) ((jp (fun (σ_9 : St)  (t_10 : Int32) => bnd t_10 fun (x5_11 : Int32) => chk (inb q1_32 4) (chk (inb x3_5 16) (bnd (if (σ_9.1 47 (ix x3_5)) < (σ_9.1 46 (ix q1_32)) then (σ_9.1 47 (ix x3_5)) else (σ_9.1 46 (ix q1_32))) fun (t_12 : Int32) => chk (inb c2_32 16) (bnd (sI σ_9 47 (ix c2_32) t_12) fun (σ_13 : St) => chk (inb c2_32 16) (bnd (sI σ_13 48 (ix c2_32) (x4_8 ||| x5_11)) fun (σ_14 : St) => bnd (c2_32 + (1 : Int32)) fun (x2_15 : Int32) => fX7_readRow_L32 q1_32 kx32 n32 σ_14 x2_15))))) fun j94 => (if (σ_6.1 46 (ix q1_32)) < (σ_6.1 47 (ix x3_5)) then j94 σ_6 (0 : Int32) else chk (inb x3_5 16) (j94 σ_6 (σ_6.1 48 (ix x3_5)))))))) fun j67 => (if (σ.1 47 (ix x3_5)) < (σ.1 46 (ix q1_32)) then j67 σ (0 : Int32) else j67 σ ((1 : Int32) <<< (q1_32 &&& 31)))))))
def fX7_readRow_L17  (kx17 : St → Int32 → Option (St × Unit)) : Nat → St → Int32 → Option (St × Unit)
  | 0, _, _ => none
  | n17 + 1, σ, c1_17 =>
    (if (σ.1 2 0) ≤ c1_17 then kx17 σ c1_17 else bnd ((1 : Int32) <<< (c1_17 &&& 31)) fun (x2_4 : Int32) => fX7_readRow_L32 c1_17 (fun (σ_16 : St) (x2_17 : Int32) => bnd (c1_17 + (1 : Int32)) fun (x1_18 : Int32) => fX7_readRow_L17 kx17 n17 σ_16 x1_18) FU σ x2_4)
def fX7_readRow (σ : St)  : Option (St × Unit) :=
  chk (inb (0 : Int32) 16) (bnd (sI σ 47 (ix (0 : Int32)) (8 : Int32)) fun (σ_1 : St) => chk (inb (0 : Int32) 16) (bnd (sI σ_1 48 (ix (0 : Int32)) (0 : Int32)) fun (σ_2 : St) => bnd (0 : Int32) fun (x1_3 : Int32) => fX7_readRow_L17  (fun (σ_19 : St) (x1_20 : Int32) => some (σ_19, ())) FU σ_2 x1_3))
set_option maxRecDepth 20000 in
set_option maxHeartbeats 4000000 in
theorem sX7_readRow_L32 {X : CX} {a : Nat → Nat} {D : va_G} {tI tJ tB tS : ClassId} {kK kV : Nat → Nat} {q1_32 : Int32} {kx32 : St → Int32 → Option (St × Unit)} {r : St × Unit} (hX : OKX X (vC a D tI tJ tB tS kK kV) cX7_readRow 6 RX7 1 21) (hR : ∀ (pc : Nat) (lv : List (Nat × Value)), decode cX7_readRow pc = .ok (.return_, 1) → G X (vC a D tI tJ tB tS kK kV) 6 r.1 pc lv []) (hkx32 : ∀ (σ : St) (e2_32 : Int32), kx32 σ e2_32 = some r → G X (vC a D tI tJ tB tS kK kV) 6 σ 134 [(0, .ref (a 43)), (1, .int q1_32)] []) : ∀ (n : Nat) (σ : St) (c2_32 : Int32), fX7_readRow_L32 q1_32 kx32 n σ c2_32 = some r → G X (vC a D tI tJ tB tS kK kV) 6 σ 32 [(0, .ref (a 43)), (1, .int q1_32), (2, .int c2_32)] [] := by
  intro n
  induction n with
  | zero => intro σ c2_32 h; rw [fX7_readRow_L32] at h; exact absurd h (by simp)
  | succ n32 ih32 =>
    intro σ c2_32 h
    rw [fX7_readRow_L32] at h
    refine g_iload_n hX 2 dX7_readRow_32 rfl rfl ?_
    refine g_iconst hX (2) dX7_readRow_33 (by decide) ?_
    refine g_iload_n hX 1 dX7_readRow_34 rfl rfl ?_
    refine g_ishl hX dX7_readRow_35 ?_
    refine g_icmp_ge hX 134 dX7_readRow_36 (by decide) h (fun h => ?_) (fun h => ?_)
    · exact g_sub [0, 1] rfl (hkx32 _ _ h)
    · refine g_iload_n hX 2 dX7_readRow_39 rfl rfl ?_
      refine g_iconst hX (1) dX7_readRow_40 (by decide) ?_
      refine g_iload_n hX 1 dX7_readRow_41 rfl rfl ?_
      refine g_ishl hX dX7_readRow_42 ?_
      refine g_isub hX dX7_readRow_43 ?_
      refine g_istore_n (lv' := fun x3_5 => [(3, .int x3_5), (0, .ref (a 43)), (1, .int q1_32), (2, .int c2_32)]) hX dX7_readRow_44 rfl (by decide) (fun _ => rfl) h (fun x3_5 h => ?_)
      refine g_aload_n hX 1 dX7_readRow_45 rfl rfl ?_
      refine gCX7_30_43 hX dX7_readRow_46 ?_
      refine g_iload_n hX 2 dX7_readRow_49 rfl rfl ?_
      refine alC_46 hX dX7_readRow_50 h (fun h => ?_)
      refine g_aload_n hX 1 dX7_readRow_51 rfl rfl ?_
      refine gCX7_33_43 hX dX7_readRow_52 ?_
      refine g_iload_n hX 0 dX7_readRow_55 rfl rfl ?_
      refine alC_47 hX dX7_readRow_56 h (fun h => ?_)
      refine jp_inv (P := fun f => ∀ (σ_6 : St)  (t_7 : Int32), f σ_6 t_7 = some r → G X (vC a D tI tJ tB tS kK kV) 6 σ_6 67 [(3, .int x3_5), (0, .ref (a 43)), (1, .int q1_32), (2, .int c2_32)] [.int t_7]) h (fun σ_6 t_7 h => ?_) (fun j67 hj67 h => ?_)
      · refine g_istore (lv' := fun x4_8 => [(4, .int x4_8), (3, .int x3_5), (0, .ref (a 43)), (1, .int q1_32), (2, .int c2_32)]) hX dX7_readRow_67 (by decide) (fun _ => rfl) h (fun x4_8 h => ?_)
        refine g_aload_n hX 2 dX7_readRow_69 rfl rfl ?_
        refine gCX7_30_43 hX dX7_readRow_70 ?_
        refine g_iload_n hX 3 dX7_readRow_73 rfl rfl ?_
        refine alC_46 hX dX7_readRow_74 h (fun h => ?_)
        refine g_aload_n hX 2 dX7_readRow_75 rfl rfl ?_
        refine gCX7_33_43 hX dX7_readRow_76 ?_
        refine g_iload_n hX 1 dX7_readRow_79 rfl rfl ?_
        refine alC_47 hX dX7_readRow_80 h (fun h => ?_)
        refine jp_inv (P := fun f => ∀ (σ_9 : St)  (t_10 : Int32), f σ_9 t_10 = some r → G X (vC a D tI tJ tB tS kK kV) 6 σ_9 94 [(4, .int x4_8), (3, .int x3_5), (0, .ref (a 43)), (1, .int q1_32), (2, .int c2_32)] [.int t_10]) h (fun σ_9 t_10 h => ?_) (fun j94 hj94 h => ?_)
        · refine g_istore (lv' := fun x5_11 => [(5, .int x5_11), (4, .int x4_8), (3, .int x3_5), (0, .ref (a 43)), (1, .int q1_32), (2, .int c2_32)]) hX dX7_readRow_94 (by decide) (fun _ => rfl) h (fun x5_11 h => ?_)
          refine g_aload_n hX 3 dX7_readRow_96 rfl rfl ?_
          refine gCX7_33_43 hX dX7_readRow_97 ?_
          refine g_iload_n hX 5 dX7_readRow_100 rfl rfl ?_
          refine g_aload_n hX 3 dX7_readRow_101 rfl rfl ?_
          refine gCX7_30_43 hX dX7_readRow_102 ?_
          refine g_iload_n hX 4 dX7_readRow_105 rfl rfl ?_
          refine alC_46 hX dX7_readRow_106 h (fun h => ?_)
          refine g_aload_n hX 3 dX7_readRow_107 rfl rfl ?_
          refine gCX7_33_43 hX dX7_readRow_108 ?_
          refine g_iload_n hX 2 dX7_readRow_111 rfl rfl ?_
          refine alC_47 hX dX7_readRow_112 h (fun h => ?_)
          refine g_mmin hX lkX7_176 mathS_minI mathI mathC_minI (by decide) (by decide) (Nat.le_of_ble_eq_true rfl) dX7_readRow_113 h (fun t_12 h => ?_)
          refine asC_47 hX dX7_readRow_116 h (fun σ_13 h => ?_)
          refine g_aload_n hX 3 dX7_readRow_117 rfl rfl ?_
          refine gCX7_36_43 hX dX7_readRow_118 ?_
          refine g_iload_n hX 5 dX7_readRow_121 rfl rfl ?_
          refine g_iload hX 1 dX7_readRow_122 rfl ?_
          refine g_iload hX 0 dX7_readRow_124 rfl ?_
          refine g_ior hX dX7_readRow_126 ?_
          refine asC_48 hX dX7_readRow_127 h (fun σ_14 h => ?_)
          refine g_iinc (y := (1)) (lv' := fun x2_15 => [(2, .int x2_15), (5, .int x5_11), (4, .int x4_8), (3, .int x3_5), (0, .ref (a 43)), (1, .int q1_32)]) hX 5 dX7_readRow_128 rfl (by decide) (by decide) (fun _ => rfl) h (fun x2_15 h => ?_)
          refine g_goto hX 32 dX7_readRow_131 (by decide) ?_
          exact g_sub [4, 5, 0] rfl (ih32 _ _ h)
        refine g_icmp_lt hX 93 dX7_readRow_81 (by decide) h (fun h => ?_) (fun h => ?_)
        · refine g_iconst hX (0) dX7_readRow_93 (by decide) ?_
          exact g_sub [0, 1, 2, 3, 4] rfl (hj94 _ _ h)
        · refine g_aload_n hX 2 dX7_readRow_84 rfl rfl ?_
          refine gCX7_36_43 hX dX7_readRow_85 ?_
          refine g_iload_n hX 1 dX7_readRow_88 rfl rfl ?_
          refine alC_48 hX dX7_readRow_89 h (fun h => ?_)
          refine g_goto hX 94 dX7_readRow_90 (by decide) ?_
          exact g_sub [0, 1, 2, 3, 4] rfl (hj94 _ _ h)
      refine g_icmp_gt hX 66 dX7_readRow_57 (by decide) h (fun h => ?_) (fun h => ?_)
      · refine g_iconst hX (0) dX7_readRow_66 (by decide) ?_
        exact g_sub [0, 1, 2, 3] rfl (hj67 _ _ h)
      · refine g_iconst hX (1) dX7_readRow_60 (by decide) ?_
        refine g_iload_n hX 2 dX7_readRow_61 rfl rfl ?_
        refine g_ishl hX dX7_readRow_62 ?_
        refine g_goto hX 67 dX7_readRow_63 (by decide) ?_
        exact g_sub [0, 1, 2, 3] rfl (hj67 _ _ h)
set_option maxRecDepth 20000 in
set_option maxHeartbeats 4000000 in
theorem sX7_readRow_L17 {X : CX} {a : Nat → Nat} {D : va_G} {tI tJ tB tS : ClassId} {kK kV : Nat → Nat}  {kx17 : St → Int32 → Option (St × Unit)} {r : St × Unit} (hX : OKX X (vC a D tI tJ tB tS kK kV) cX7_readRow 6 RX7 1 21) (hR : ∀ (pc : Nat) (lv : List (Nat × Value)), decode cX7_readRow pc = .ok (.return_, 1) → G X (vC a D tI tJ tB tS kK kV) 6 r.1 pc lv []) (hkx17 : ∀ (σ : St) (e1_17 : Int32), kx17 σ e1_17 = some r → G X (vC a D tI tJ tB tS kK kV) 6 σ 140 [] []) : ∀ (n : Nat) (σ : St) (c1_17 : Int32), fX7_readRow_L17 kx17 n σ c1_17 = some r → G X (vC a D tI tJ tB tS kK kV) 6 σ 17 [(0, .ref (a 43)), (1, .int c1_17)] [] := by
  intro n
  induction n with
  | zero => intro σ c1_17 h; rw [fX7_readRow_L17] at h; exact absurd h (by simp)
  | succ n17 ih17 =>
    intro σ c1_17 h
    rw [fX7_readRow_L17] at h
    refine g_iload_n hX 1 dX7_readRow_17 rfl rfl ?_
    refine g_aload_n hX 0 dX7_readRow_18 rfl rfl ?_
    refine gCX7_9_43 hX dX7_readRow_19 ?_
    refine gCX7_85_2 hX dX7_readRow_22 ?_
    refine g_icmp_ge hX 140 dX7_readRow_25 (by decide) h (fun h => ?_) (fun h => ?_)
    · exact g_sub [] rfl (hkx17 _ _ h)
    · refine g_iconst hX (1) dX7_readRow_28 (by decide) ?_
      refine g_iload_n hX 1 dX7_readRow_29 rfl rfl ?_
      refine g_ishl hX dX7_readRow_30 ?_
      refine g_istore_n (lv' := fun x2_4 => [(2, .int x2_4), (0, .ref (a 43)), (1, .int c1_17)]) hX dX7_readRow_31 rfl (by decide) (fun _ => rfl) h (fun x2_4 h => ?_)
      refine g_sub [1, 2, 0] rfl (sX7_readRow_L32 hX hR (fun σ_16 x2_17 h => ?_) FU _ _ h)
      refine g_iinc (y := (1)) (lv' := fun x1_18 => [(1, .int x1_18), (0, .ref (a 43))]) hX 1 dX7_readRow_134 rfl (by decide) (by decide) (fun _ => rfl) h (fun x1_18 h => ?_)
      refine g_goto hX 17 dX7_readRow_137 (by decide) ?_
      exact g_sub [1, 0] rfl (ih17 _ _ h)
set_option maxRecDepth 20000 in
set_option maxHeartbeats 4000000 in
theorem sX7_readRow {X : CX} {a : Nat → Nat} {D : va_G} {tI tJ tB tS : ClassId} {kK kV : Nat → Nat} {σ : St}   {r : St × Unit} (hX : OKX X (vC a D tI tJ tB tS kK kV) cX7_readRow 6 RX7 1 21) (hR : ∀ (pc : Nat) (lv : List (Nat × Value)), decode cX7_readRow pc = .ok (.return_, 1) → G X (vC a D tI tJ tB tS kK kV) 6 r.1 pc lv [])  (h : fX7_readRow σ  = some r) : G X (vC a D tI tJ tB tS kK kV) 6 σ 0 [(0, .ref (a 43))] [] := by
  unfold fX7_readRow at h
  refine g_aload_n hX 0 dX7_readRow_0 rfl rfl ?_
  refine gCX7_33_43 hX dX7_readRow_1 ?_
  refine g_iconst hX (0) dX7_readRow_4 (by decide) ?_
  refine g_bipush hX (8) dX7_readRow_5 (by decide) ?_
  refine asC_47 hX dX7_readRow_7 h (fun σ_1 h => ?_)
  refine g_aload_n hX 0 dX7_readRow_8 rfl rfl ?_
  refine gCX7_36_43 hX dX7_readRow_9 ?_
  refine g_iconst hX (0) dX7_readRow_12 (by decide) ?_
  refine g_iconst hX (0) dX7_readRow_13 (by decide) ?_
  refine asC_48 hX dX7_readRow_14 h (fun σ_2 h => ?_)
  refine g_iconst hX (0) dX7_readRow_15 (by decide) ?_
  refine g_istore_n (lv' := fun x1_3 => [(1, .int x1_3), (0, .ref (a 43))]) hX dX7_readRow_16 rfl (by decide) (fun _ => rfl) h (fun x1_3 h => ?_)
  refine g_sub [1, 0] rfl (sX7_readRow_L17 hX hR (fun σ_19 x1_20 h => ?_) FU _ _ h)
  exact g_retv hR h dX7_readRow_140
set_option maxRecDepth 20000 in
set_option maxHeartbeats 4000000 in
theorem kX7_readRow (l : Launch) {a : Nat → Nat} {D : va_G} {tI tJ tB tS : ClassId} {kK kV : Nat → Nat} {σ τ : St}   {x : Unit} (h : fX7_readRow σ  = some (τ, x)) : CtV l yX7_readRow cX7_readRow 6 none 1 21 (vC a D tI tJ tB tS kK kV) σ [.ref (a 43)] τ x := g_metV (by decide) (Nat.le_of_ble_eq_true rfl) rfl (fun X _ hX hR => sX7_readRow (r := (τ, x)) hX hR h)
def fJ7_fill_53178_i49_L5 (q1_5 : Int32) (q3_5 : Int32) (kx5 : St → Int32 → Option (St × Unit)) : Nat → St → Int32 → Option (St × Unit)
  | 0, _, _ => none
  | n5 + 1, σ, c2_5 =>
    (if q3_5 ≤ c2_5 then kx5 σ c2_5 else chk (inb c2_5 8) (bnd (sI σ 49 (ix c2_5) q1_5) fun (σ_3 : St) => bnd (c2_5 + (1 : Int32)) fun (x2_4 : Int32) => fJ7_fill_53178_i49_L5 q1_5 q3_5 kx5 n5 σ_3 x2_4))
def fJ7_fill_53178_i49 (σ : St) (p2 : Int32) : Option (St × Unit) :=
  bnd (0 : Int32) fun (x2_1 : Int32) => bnd (8 : Int32) fun (x3_2 : Int32) => fJ7_fill_53178_i49_L5 p2 x3_2 (fun (σ_5 : St) (x2_6 : Int32) => some (σ_5, ())) FU σ x2_1
set_option maxRecDepth 20000 in
set_option maxHeartbeats 4000000 in
theorem sJ7_fill_53178_i49_L5 {X : CX} {a : Nat → Nat} {D : va_G} {tI tJ tB tS : ClassId} {kK kV : Nat → Nat} {q1_5 : Int32} {q3_5 : Int32} {kx5 : St → Int32 → Option (St × Unit)} {r : St × Unit} (hX : OKX X (vC a D tI tJ tB tS kK kV) cJ7_fill_53178 4 RJ7 0 0) (hR : ∀ (pc : Nat) (lv : List (Nat × Value)), decode cJ7_fill_53178 pc = .ok (.return_, 1) → G X (vC a D tI tJ tB tS kK kV) 4 r.1 pc lv []) (hkx5 : ∀ (σ : St) (e2_5 : Int32), kx5 σ e2_5 = some r → G X (vC a D tI tJ tB tS kK kV) 4 σ 20 [] []) : ∀ (n : Nat) (σ : St) (c2_5 : Int32), fJ7_fill_53178_i49_L5 q1_5 q3_5 kx5 n σ c2_5 = some r → G X (vC a D tI tJ tB tS kK kV) 4 σ 5 [(0, .ref (a 49)), (1, .int q1_5), (3, .int q3_5), (2, .int c2_5)] [] := by
  intro n
  induction n with
  | zero => intro σ c2_5 h; rw [fJ7_fill_53178_i49_L5] at h; exact absurd h (by simp)
  | succ n5 ih5 =>
    intro σ c2_5 h
    rw [fJ7_fill_53178_i49_L5] at h
    refine g_iload_n hX 3 dJ7_fill_53178_5 rfl rfl ?_
    refine g_iload_n hX 2 dJ7_fill_53178_6 rfl rfl ?_
    refine g_icmp_ge hX 20 dJ7_fill_53178_7 (by decide) h (fun h => ?_) (fun h => ?_)
    · exact g_sub [] rfl (hkx5 _ _ h)
    · refine g_aload_n hX 0 dJ7_fill_53178_10 rfl rfl ?_
      refine g_iload_n hX 3 dJ7_fill_53178_11 rfl rfl ?_
      refine g_iload_n hX 1 dJ7_fill_53178_12 rfl rfl ?_
      refine asC_49 hX dJ7_fill_53178_13 h (fun σ_3 h => ?_)
      refine g_iinc (y := (1)) (lv' := fun x2_4 => [(2, .int x2_4), (0, .ref (a 49)), (1, .int q1_5), (3, .int q3_5)]) hX 3 dJ7_fill_53178_14 rfl (by decide) (by decide) (fun _ => rfl) h (fun x2_4 h => ?_)
      refine g_goto hX 5 dJ7_fill_53178_17 (by decide) ?_
      exact g_sub [1, 2, 3, 0] rfl (ih5 _ _ h)
set_option maxRecDepth 20000 in
set_option maxHeartbeats 4000000 in
theorem sJ7_fill_53178_i49 {X : CX} {a : Nat → Nat} {D : va_G} {tI tJ tB tS : ClassId} {kK kV : Nat → Nat} {σ : St}  {p2 : Int32} {r : St × Unit} (hX : OKX X (vC a D tI tJ tB tS kK kV) cJ7_fill_53178 4 RJ7 0 0) (hR : ∀ (pc : Nat) (lv : List (Nat × Value)), decode cJ7_fill_53178 pc = .ok (.return_, 1) → G X (vC a D tI tJ tB tS kK kV) 4 r.1 pc lv [])  (h : fJ7_fill_53178_i49 σ p2 = some r) : G X (vC a D tI tJ tB tS kK kV) 4 σ 0 [(0, .ref (a 49)), (1, .int p2)] [] := by
  unfold fJ7_fill_53178_i49 at h
  refine g_iconst hX (0) dJ7_fill_53178_0 (by decide) ?_
  refine g_istore_n (lv' := fun x2_1 => [(2, .int x2_1), (0, .ref (a 49)), (1, .int p2)]) hX dJ7_fill_53178_1 rfl (by decide) (fun _ => rfl) h (fun x2_1 h => ?_)
  refine g_aload_n hX 1 dJ7_fill_53178_2 rfl rfl ?_
  refine lenC_49 hX dJ7_fill_53178_3 ?_
  refine g_istore_n (lv' := fun x3_2 => [(3, .int x3_2), (2, .int x2_1), (0, .ref (a 49)), (1, .int p2)]) hX dJ7_fill_53178_4 rfl (by decide) (fun _ => rfl) h (fun x3_2 h => ?_)
  refine g_sub [2, 3, 0, 1] rfl (sJ7_fill_53178_i49_L5 hX hR (fun σ_5 x2_6 h => ?_) FU _ _ h)
  exact g_retv hR h dJ7_fill_53178_20
set_option maxRecDepth 20000 in
set_option maxHeartbeats 4000000 in
theorem kJ7_fill_53178_i49 (l : Launch) {a : Nat → Nat} {D : va_G} {tI tJ tB tS : ClassId} {kK kV : Nat → Nat} {σ τ : St}  {p2 : Int32} {x : Unit} (h : fJ7_fill_53178_i49 σ p2 = some (τ, x)) : CtV l yJ7_fill_53178 cJ7_fill_53178 4 none 0 0 (vC a D tI tJ tB tS kK kV) σ [.ref (a 49), .int p2] τ x := g_metV (by decide) (Nat.le_of_ble_eq_true rfl) rfl (fun X _ hX hR => sJ7_fill_53178_i49 (r := (τ, x)) hX hR h)
def fJ7_fill_53178_i50_L5 (q1_5 : Int32) (q3_5 : Int32) (kx5 : St → Int32 → Option (St × Unit)) : Nat → St → Int32 → Option (St × Unit)
  | 0, _, _ => none
  | n5 + 1, σ, c2_5 =>
    (if q3_5 ≤ c2_5 then kx5 σ c2_5 else chk (inb c2_5 8) (bnd (sI σ 50 (ix c2_5) q1_5) fun (σ_3 : St) => bnd (c2_5 + (1 : Int32)) fun (x2_4 : Int32) => fJ7_fill_53178_i50_L5 q1_5 q3_5 kx5 n5 σ_3 x2_4))
def fJ7_fill_53178_i50 (σ : St) (p2 : Int32) : Option (St × Unit) :=
  bnd (0 : Int32) fun (x2_1 : Int32) => bnd (8 : Int32) fun (x3_2 : Int32) => fJ7_fill_53178_i50_L5 p2 x3_2 (fun (σ_5 : St) (x2_6 : Int32) => some (σ_5, ())) FU σ x2_1
set_option maxRecDepth 20000 in
set_option maxHeartbeats 4000000 in
theorem sJ7_fill_53178_i50_L5 {X : CX} {a : Nat → Nat} {D : va_G} {tI tJ tB tS : ClassId} {kK kV : Nat → Nat} {q1_5 : Int32} {q3_5 : Int32} {kx5 : St → Int32 → Option (St × Unit)} {r : St × Unit} (hX : OKX X (vC a D tI tJ tB tS kK kV) cJ7_fill_53178 4 RJ7 0 0) (hR : ∀ (pc : Nat) (lv : List (Nat × Value)), decode cJ7_fill_53178 pc = .ok (.return_, 1) → G X (vC a D tI tJ tB tS kK kV) 4 r.1 pc lv []) (hkx5 : ∀ (σ : St) (e2_5 : Int32), kx5 σ e2_5 = some r → G X (vC a D tI tJ tB tS kK kV) 4 σ 20 [] []) : ∀ (n : Nat) (σ : St) (c2_5 : Int32), fJ7_fill_53178_i50_L5 q1_5 q3_5 kx5 n σ c2_5 = some r → G X (vC a D tI tJ tB tS kK kV) 4 σ 5 [(0, .ref (a 50)), (1, .int q1_5), (3, .int q3_5), (2, .int c2_5)] [] := by
  intro n
  induction n with
  | zero => intro σ c2_5 h; rw [fJ7_fill_53178_i50_L5] at h; exact absurd h (by simp)
  | succ n5 ih5 =>
    intro σ c2_5 h
    rw [fJ7_fill_53178_i50_L5] at h
    refine g_iload_n hX 3 dJ7_fill_53178_5 rfl rfl ?_
    refine g_iload_n hX 2 dJ7_fill_53178_6 rfl rfl ?_
    refine g_icmp_ge hX 20 dJ7_fill_53178_7 (by decide) h (fun h => ?_) (fun h => ?_)
    · exact g_sub [] rfl (hkx5 _ _ h)
    · refine g_aload_n hX 0 dJ7_fill_53178_10 rfl rfl ?_
      refine g_iload_n hX 3 dJ7_fill_53178_11 rfl rfl ?_
      refine g_iload_n hX 1 dJ7_fill_53178_12 rfl rfl ?_
      refine asC_50 hX dJ7_fill_53178_13 h (fun σ_3 h => ?_)
      refine g_iinc (y := (1)) (lv' := fun x2_4 => [(2, .int x2_4), (0, .ref (a 50)), (1, .int q1_5), (3, .int q3_5)]) hX 3 dJ7_fill_53178_14 rfl (by decide) (by decide) (fun _ => rfl) h (fun x2_4 h => ?_)
      refine g_goto hX 5 dJ7_fill_53178_17 (by decide) ?_
      exact g_sub [1, 2, 3, 0] rfl (ih5 _ _ h)
set_option maxRecDepth 20000 in
set_option maxHeartbeats 4000000 in
theorem sJ7_fill_53178_i50 {X : CX} {a : Nat → Nat} {D : va_G} {tI tJ tB tS : ClassId} {kK kV : Nat → Nat} {σ : St}  {p2 : Int32} {r : St × Unit} (hX : OKX X (vC a D tI tJ tB tS kK kV) cJ7_fill_53178 4 RJ7 0 0) (hR : ∀ (pc : Nat) (lv : List (Nat × Value)), decode cJ7_fill_53178 pc = .ok (.return_, 1) → G X (vC a D tI tJ tB tS kK kV) 4 r.1 pc lv [])  (h : fJ7_fill_53178_i50 σ p2 = some r) : G X (vC a D tI tJ tB tS kK kV) 4 σ 0 [(0, .ref (a 50)), (1, .int p2)] [] := by
  unfold fJ7_fill_53178_i50 at h
  refine g_iconst hX (0) dJ7_fill_53178_0 (by decide) ?_
  refine g_istore_n (lv' := fun x2_1 => [(2, .int x2_1), (0, .ref (a 50)), (1, .int p2)]) hX dJ7_fill_53178_1 rfl (by decide) (fun _ => rfl) h (fun x2_1 h => ?_)
  refine g_aload_n hX 1 dJ7_fill_53178_2 rfl rfl ?_
  refine lenC_50 hX dJ7_fill_53178_3 ?_
  refine g_istore_n (lv' := fun x3_2 => [(3, .int x3_2), (2, .int x2_1), (0, .ref (a 50)), (1, .int p2)]) hX dJ7_fill_53178_4 rfl (by decide) (fun _ => rfl) h (fun x3_2 h => ?_)
  refine g_sub [2, 3, 0, 1] rfl (sJ7_fill_53178_i50_L5 hX hR (fun σ_5 x2_6 h => ?_) FU _ _ h)
  exact g_retv hR h dJ7_fill_53178_20
set_option maxRecDepth 20000 in
set_option maxHeartbeats 4000000 in
theorem kJ7_fill_53178_i50 (l : Launch) {a : Nat → Nat} {D : va_G} {tI tJ tB tS : ClassId} {kK kV : Nat → Nat} {σ τ : St}  {p2 : Int32} {x : Unit} (h : fJ7_fill_53178_i50 σ p2 = some (τ, x)) : CtV l yJ7_fill_53178 cJ7_fill_53178 4 none 0 0 (vC a D tI tJ tB tS kK kV) σ [.ref (a 50), .int p2] τ x := g_metV (by decide) (Nat.le_of_ble_eq_true rfl) rfl (fun X _ hX hR => sJ7_fill_53178_i50 (r := (τ, x)) hX hR h)
def fX5_promises (σ : St) (p1 : Int32) : Option (St × Int32) :=
  (if (((σ.1 22 3) >>> (p1 &&& 31)) &&& (1 : Int32)) = 0 then some (σ, (0 : Int32)) else some (σ, (1 : Int32)))
set_option maxRecDepth 20000 in
set_option maxHeartbeats 4000000 in
theorem sX5_promises {X : CX} {a : Nat → Nat} {D : va_G} {tI tJ tB tS : ClassId} {kK kV : Nat → Nat} {σ : St}  {p1 : Int32} {r : St × Int32} (hX : OKX X (vC a D tI tJ tB tS kK kV) cX5_promises 2 RX5 0 0) (hR : (r.2 = 0 ∨ r.2 = 1) → ∀ (pc : Nat) (lv : List (Nat × Value)), decode cX5_promises pc = .ok (.ireturn, 1) → G X (vC a D tI tJ tB tS kK kV) 2 r.1 pc lv [.int r.2])  (h : fX5_promises σ p1 = some r) : G X (vC a D tI tJ tB tS kK kV) 2 σ 0 [(0, .ref (a 22)), (1, .int p1)] [] := by
  unfold fX5_promises at h
  refine g_aload_n hX 0 dX5_promises_0 rfl rfl ?_
  refine gCX5_21_22 hX dX5_promises_1 ?_
  refine g_iload_n hX 1 dX5_promises_4 rfl rfl ?_
  refine g_ishr hX dX5_promises_5 ?_
  refine g_iconst hX (1) dX5_promises_6 (by decide) ?_
  refine g_iand hX dX5_promises_7 ?_
  refine g_if_eq hX 15 dX5_promises_8 (by decide) h (fun h => ?_) (fun h => ?_)
  · refine g_iconst hX (0) dX5_promises_15 (by decide) ?_
    exact g_retz hR (by decide) h dX5_promises_16
  · refine g_iconst hX (1) dX5_promises_11 (by decide) ?_
    refine g_goto hX 16 dX5_promises_12 (by decide) ?_
    exact g_retz hR (by decide) h dX5_promises_16
set_option maxRecDepth 20000 in
set_option maxHeartbeats 4000000 in
theorem kX5_promises (l : Launch) {a : Nat → Nat} {D : va_G} {tI tJ tB tS : ClassId} {kK kV : Nat → Nat} {σ τ : St}  {p1 : Int32} {x : Int32} (h : fX5_promises σ p1 = some (τ, x)) : CtI l yX5_promises cX5_promises 2 (some .boolean) 0 0 (vC a D tI tJ tB tS kK kV) σ [.ref (a 22), .int p1] τ x := g_metZ (by decide) (Nat.le_of_ble_eq_true rfl) rfl (fun X _ hX hR => sX5_promises (r := (τ, x)) hX hR h)
def fX7_weigh_L125 (q1_125 : Int32) (q2_125 : Int32) (q3_125 : Int32) (q5_125 : Int32) (q7_125 : Int32) (q8_125 : Int32) (kx125 : St → Int32 → Option (St × Unit)) : Nat → St → Int32 → Option (St × Unit)
  | 0, _, _ => none
  | n125 + 1, σ, c9_125 =>
    (if (σ.1 2 2) ≤ c9_125 then kx125 σ c9_125 else (jp (fun (σ_23 : St)   => bnd (if q5_125 < c9_125 then q5_125 else c9_125) fun (t_24 : Int32) => bnd t_24 fun (x10_25 : Int32) => chk (inb ((q3_125 * (8 : Int32)) + x10_25) 128) ((jp (fun (σ_26 : St)  (t_27 : Int32) => bnd ((σ_23.1 44 (ix ((q3_125 * (8 : Int32)) + x10_25))) * t_27) fun (x11_28 : Int32) => chk (inb c9_125 8) (chk (inb c9_125 8) (bnd (sI σ_26 49 (ix c9_125) ((σ_26.1 49 (ix c9_125)) + x11_28)) fun (σ_29 : St) => chk (inb c9_125 8) (cl (fX6_price σ_29 x10_25) fun (σ_30 : St) (t_31 : Int32) => chk (inb c9_125 8) (bnd (sI σ_30 50 (ix c9_125) ((σ_29.1 50 (ix c9_125)) + (x11_28 * t_31))) fun (σ_32 : St) => bnd (c9_125 + (1 : Int32)) fun (x9_33 : Int32) => fX7_weigh_L125 q1_125 q2_125 q3_125 q5_125 q7_125 q8_125 kx125 n125 σ_32 x9_33))))) fun j183 => (if q5_125 ≤ c9_125 then j183 σ_23 q8_125 else j183 σ_23 q7_125)))) fun j148 => (if c9_125 ≤ q5_125 then j148 σ else (if q2_125 = 0 then kx125 σ c9_125 else j148 σ))))
def fX7_weigh_L29 (q1_29 : Int32) (q2_29 : Int32) (kx29 : St → Int32 → Option (St × Unit)) : Nat → St → Int32 → Option (St × Unit)
  | 0, _, _ => none
  | n29 + 1, σ, c3_29 =>
    cl (fX6_everyone σ ) fun (σ_9 : St) (t_10 : Int32) => (if t_10 < c3_29 then kx29 σ_9 c3_29 else (jp (fun (σ_11 : St)   => bnd (c3_29 + (1 : Int32)) fun (x3_12 : Int32) => fX7_weigh_L29 q1_29 q2_29 kx29 n29 σ_11 x3_12) fun j226 => (if ((c3_29 >>> (q1_29 &&& 31)) &&& (1 : Int32)) = 0 then j226 σ_9 else chk (inb (c3_29 * (8 : Int32)) 128) ((if (σ_9.1 44 (ix (c3_29 * (8 : Int32)))) ≤ 0 then j226 σ_9 else bnd (c3_29 &&& (((1 : Int32) <<< (q1_29 &&& 31)) ^^^ (-1 : Int32))) fun (x4_13 : Int32) => chk (inb x4_13 16) (bnd (σ_9.1 47 (ix x4_13)) fun (x5_14 : Int32) => bnd (x4_13 &&& (σ_9.1 22 3)) fun (x6_15 : Int32) => cl (fJ6_bitCount_0f7a4 σ_9 x6_15) fun (σ_16 : St) (t_17 : Int32) => chk (decide (¬ ((1 : Int32) + t_17) = 0)) (bnd ((12 : Int32) / ((1 : Int32) + t_17)) fun (x7_18 : Int32) => chk (inb x4_13 16) (cl (fJ6_bitCount_0f7a4 σ_16 (x6_15 ||| (σ_16.1 48 (ix x4_13)))) fun (σ_19 : St) (t_20 : Int32) => chk (decide (¬ ((1 : Int32) + t_20) = 0)) (bnd ((12 : Int32) / ((1 : Int32) + t_20)) fun (x8_21 : Int32) => bnd (0 : Int32) fun (x9_22 : Int32) => fX7_weigh_L125 q1_29 q2_29 c3_29 x5_14 x7_18 x8_21 (fun (σ_34 : St) (x9_35 : Int32) => j226 σ_34) FU σ_19 x9_22)))))))))
def fX7_weigh (σ : St) (p1 : Int32) : Option (St × Unit) :=
  cl (fJ7_fill_53178_i49 σ (0 : Int32)) fun (σ_1 : St) (t_2 : Unit) => cl (fJ7_fill_53178_i50 σ_1 (0 : Int32)) fun (σ_3 : St) (t_4 : Unit) => cl (fX5_promises σ_3 p1) fun (σ_5 : St) (t_6 : Int32) => bnd t_6 fun (x2_7 : Int32) => bnd ((1 : Int32) <<< (p1 &&& 31)) fun (x3_8 : Int32) => fX7_weigh_L29 p1 x2_7 (fun (σ_36 : St) (x3_37 : Int32) => some (σ_36, ())) FU σ_5 x3_8
set_option maxRecDepth 20000 in
set_option maxHeartbeats 4000000 in
theorem sX7_weigh_L125 {X : CX} {a : Nat → Nat} {D : va_G} {tI tJ tB tS : ClassId} {kK kV : Nat → Nat} {q1_125 : Int32} {q2_125 : Int32} {q3_125 : Int32} {q5_125 : Int32} {q7_125 : Int32} {q8_125 : Int32} {kx125 : St → Int32 → Option (St × Unit)} {r : St × Unit} (hX : OKX X (vC a D tI tJ tB tS kK kV) cX7_weigh 12 RX7 1 23) (hR : ∀ (pc : Nat) (lv : List (Nat × Value)), decode cX7_weigh pc = .ok (.return_, 1) → G X (vC a D tI tJ tB tS kK kV) 12 r.1 pc lv []) (hkx125 : ∀ (σ : St) (e9_125 : Int32), kx125 σ e9_125 = some r → G X (vC a D tI tJ tB tS kK kV) 12 σ 226 [(0, .ref (a 43)), (1, .int q1_125), (2, .int q2_125), (3, .int q3_125)] []) : ∀ (n : Nat) (σ : St) (c9_125 : Int32), fX7_weigh_L125 q1_125 q2_125 q3_125 q5_125 q7_125 q8_125 kx125 n σ c9_125 = some r → G X (vC a D tI tJ tB tS kK kV) 12 σ 125 [(0, .ref (a 43)), (1, .int q1_125), (2, .int q2_125), (3, .int q3_125), (5, .int q5_125), (7, .int q7_125), (8, .int q8_125), (9, .int c9_125)] [] := by
  intro n
  induction n with
  | zero => intro σ c9_125 h; rw [fX7_weigh_L125] at h; exact absurd h (by simp)
  | succ n125 ih125 =>
    intro σ c9_125 h
    rw [fX7_weigh_L125] at h
    refine g_iload hX 7 dX7_weigh_125 rfl ?_
    refine g_aload_n hX 0 dX7_weigh_127 rfl rfl ?_
    refine gCX7_9_43 hX dX7_weigh_128 ?_
    refine gCX7_106_2 hX dX7_weigh_131 ?_
    refine g_icmp_ge hX 226 dX7_weigh_134 (by decide) h (fun h => ?_) (fun h => ?_)
    · exact g_sub [0, 1, 2, 3] rfl (hkx125 _ _ h)
    · refine g_iload hX 7 dX7_weigh_137 rfl ?_
      refine g_iload hX 4 dX7_weigh_139 rfl ?_
      refine jp_inv (P := fun f => ∀ (σ_23 : St)  , f σ_23 = some r → G X (vC a D tI tJ tB tS kK kV) 12 σ_23 148 [(0, .ref (a 43)), (1, .int q1_125), (2, .int q2_125), (3, .int q3_125), (5, .int q5_125), (7, .int q7_125), (8, .int q8_125), (9, .int c9_125)] []) h (fun σ_23 h => ?_) (fun j148 hj148 h => ?_)
      · refine g_iload hX 7 dX7_weigh_148 rfl ?_
        refine g_iload hX 4 dX7_weigh_150 rfl ?_
        refine g_mmin hX lkX7_176 mathS_minI mathI mathC_minI (by decide) (by decide) (Nat.le_of_ble_eq_true rfl) dX7_weigh_152 h (fun t_24 h => ?_)
        refine g_istore (lv' := fun x10_25 => [(10, .int x10_25), (0, .ref (a 43)), (1, .int q1_125), (2, .int q2_125), (3, .int q3_125), (5, .int q5_125), (7, .int q7_125), (8, .int q8_125), (9, .int c9_125)]) hX dX7_weigh_155 (by decide) (fun _ => rfl) h (fun x10_25 h => ?_)
        refine g_aload_n hX 1 dX7_weigh_157 rfl rfl ?_
        refine gCX7_23_43 hX dX7_weigh_158 ?_
        refine g_iload_n hX 4 dX7_weigh_161 rfl rfl ?_
        refine g_bipush hX (8) dX7_weigh_162 (by decide) ?_
        refine g_imul hX dX7_weigh_164 ?_
        refine g_iload hX 0 dX7_weigh_165 rfl ?_
        refine g_iadd hX dX7_weigh_167 ?_
        refine alC_44 hX dX7_weigh_168 h (fun h => ?_)
        refine g_iload hX 8 dX7_weigh_169 rfl ?_
        refine g_iload hX 5 dX7_weigh_171 rfl ?_
        refine jp_inv (P := fun f => ∀ (σ_26 : St)  (t_27 : Int32), f σ_26 t_27 = some r → G X (vC a D tI tJ tB tS kK kV) 12 σ_26 183 [(10, .int x10_25), (0, .ref (a 43)), (1, .int q1_125), (2, .int q2_125), (3, .int q3_125), (5, .int q5_125), (7, .int q7_125), (8, .int q8_125), (9, .int c9_125)] [.int t_27, .int (σ_23.1 44 (ix ((q3_125 * (8 : Int32)) + x10_25)))]) h (fun σ_26 t_27 h => ?_) (fun j183 hj183 h => ?_)
        · refine g_imul hX dX7_weigh_183 ?_
          refine g_istore (lv' := fun x11_28 => [(11, .int x11_28), (10, .int x10_25), (0, .ref (a 43)), (1, .int q1_125), (2, .int q2_125), (3, .int q3_125), (5, .int q5_125), (7, .int q7_125), (8, .int q8_125), (9, .int c9_125)]) hX dX7_weigh_184 (by decide) (fun _ => rfl) h (fun x11_28 h => ?_)
          refine g_aload_n hX 2 dX7_weigh_186 rfl rfl ?_
          refine gCX7_39_43 hX dX7_weigh_187 ?_
          refine g_iload hX 9 dX7_weigh_190 rfl ?_
          refine g_dup2 hX dX7_weigh_192 rfl rfl ?_
          refine alC_49 hX dX7_weigh_193 h (fun h => ?_)
          refine g_iload hX 0 dX7_weigh_194 rfl ?_
          refine g_iadd hX dX7_weigh_196 ?_
          refine asC_49 hX dX7_weigh_197 h (fun σ_29 h => ?_)
          refine g_aload_n hX 2 dX7_weigh_198 rfl rfl ?_
          refine gCX7_42_43 hX dX7_weigh_199 ?_
          refine g_iload hX 9 dX7_weigh_202 rfl ?_
          refine g_dup2 hX dX7_weigh_204 rfl rfl ?_
          refine alC_50 hX dX7_weigh_205 h (fun h => ?_)
          refine g_iload hX 0 dX7_weigh_206 rfl ?_
          refine g_aload_n hX 2 dX7_weigh_208 rfl rfl ?_
          refine gCX7_9_43 hX dX7_weigh_209 ?_
          refine g_iload hX 1 dX7_weigh_212 rfl ?_
          refine g_callNI (As := [.int x10_25]) (rest := [.int x11_28, .int (σ_29.1 50 (ix c9_125)), .int c9_125, .ref (a 50)]) hX 2 (Nat.le_of_ble_eq_true rfl) rfl rfl miX6_price mvX6_price lkX7_151 (by decide) rfl (Nat.le_of_ble_eq_true rfl) rfl dX7_weigh_214 (fun τ x ho => kX6_price _ ho) h (fun σ_30 t_31 h => ?_)
          refine g_imul hX dX7_weigh_217 ?_
          refine g_iadd hX dX7_weigh_218 ?_
          refine asC_50 hX dX7_weigh_219 h (fun σ_32 h => ?_)
          refine g_iinc (y := (1)) (lv' := fun x9_33 => [(9, .int x9_33), (11, .int x11_28), (10, .int x10_25), (0, .ref (a 43)), (1, .int q1_125), (2, .int q2_125), (3, .int q3_125), (5, .int q5_125), (7, .int q7_125), (8, .int q8_125)]) hX 9 dX7_weigh_220 rfl (by decide) (by decide) (fun _ => rfl) h (fun x9_33 h => ?_)
          refine g_goto hX 125 dX7_weigh_223 (by decide) ?_
          exact g_sub [3, 4, 5, 6, 7, 8, 9, 0] rfl (ih125 _ _ h)
        refine g_icmp_ge hX 181 dX7_weigh_173 (by decide) h (fun h => ?_) (fun h => ?_)
        · refine g_iload hX 7 dX7_weigh_181 rfl ?_
          exact g_sub [0, 1, 2, 3, 4, 5, 6, 7, 8] rfl (hj183 _ _ h)
        · refine g_iload hX 6 dX7_weigh_176 rfl ?_
          refine g_goto hX 183 dX7_weigh_178 (by decide) ?_
          exact g_sub [0, 1, 2, 3, 4, 5, 6, 7, 8] rfl (hj183 _ _ h)
      refine g_icmp_le hX 148 dX7_weigh_141 (by decide) h (fun h => ?_) (fun h => ?_)
      · exact g_sub [0, 1, 2, 3, 4, 5, 6, 7] rfl (hj148 _ h)
      · refine g_iload_n hX 2 dX7_weigh_144 rfl rfl ?_
        refine g_if_eq hX 226 dX7_weigh_145 (by decide) h (fun h => ?_) (fun h => ?_)
        · exact g_sub [0, 1, 2, 3] rfl (hkx125 _ _ h)
        · exact g_sub [0, 1, 2, 3, 4, 5, 6, 7] rfl (hj148 _ h)
set_option maxRecDepth 20000 in
set_option maxHeartbeats 4000000 in
theorem sX7_weigh_L29 {X : CX} {a : Nat → Nat} {D : va_G} {tI tJ tB tS : ClassId} {kK kV : Nat → Nat} {q1_29 : Int32} {q2_29 : Int32} {kx29 : St → Int32 → Option (St × Unit)} {r : St × Unit} (hX : OKX X (vC a D tI tJ tB tS kK kV) cX7_weigh 12 RX7 1 23) (hR : ∀ (pc : Nat) (lv : List (Nat × Value)), decode cX7_weigh pc = .ok (.return_, 1) → G X (vC a D tI tJ tB tS kK kV) 12 r.1 pc lv []) (hkx29 : ∀ (σ : St) (e3_29 : Int32), kx29 σ e3_29 = some r → G X (vC a D tI tJ tB tS kK kV) 12 σ 232 [] []) : ∀ (n : Nat) (σ : St) (c3_29 : Int32), fX7_weigh_L29 q1_29 q2_29 kx29 n σ c3_29 = some r → G X (vC a D tI tJ tB tS kK kV) 12 σ 29 [(0, .ref (a 43)), (1, .int q1_29), (2, .int q2_29), (3, .int c3_29)] [] := by
  intro n
  induction n with
  | zero => intro σ c3_29 h; rw [fX7_weigh_L29] at h; exact absurd h (by simp)
  | succ n29 ih29 =>
    intro σ c3_29 h
    rw [fX7_weigh_L29] at h
    refine g_iload_n hX 3 dX7_weigh_29 rfl rfl ?_
    refine g_aload_n hX 0 dX7_weigh_30 rfl rfl ?_
    refine gCX7_9_43 hX dX7_weigh_31 ?_
    refine g_callNI (As := []) (rest := [.int c3_29]) hX 2 (Nat.le_of_ble_eq_true rfl) rfl rfl miX6_everyone mvX6_everyone lkX7_133 (by decide) rfl (Nat.le_of_ble_eq_true rfl) rfl dX7_weigh_34 (fun τ x ho => kX6_everyone _ ho) h (fun σ_9 t_10 h => ?_)
    refine g_icmp_gt hX 232 dX7_weigh_37 (by decide) h (fun h => ?_) (fun h => ?_)
    · exact g_sub [] rfl (hkx29 _ _ h)
    · refine g_iload_n hX 3 dX7_weigh_40 rfl rfl ?_
      refine g_iload_n hX 1 dX7_weigh_41 rfl rfl ?_
      refine g_ishr hX dX7_weigh_42 ?_
      refine g_iconst hX (1) dX7_weigh_43 (by decide) ?_
      refine g_iand hX dX7_weigh_44 ?_
      refine jp_inv (P := fun f => ∀ (σ_11 : St)  , f σ_11 = some r → G X (vC a D tI tJ tB tS kK kV) 12 σ_11 226 [(0, .ref (a 43)), (1, .int q1_29), (2, .int q2_29), (3, .int c3_29)] []) h (fun σ_11 h => ?_) (fun j226 hj226 h => ?_)
      · refine g_iinc (y := (1)) (lv' := fun x3_12 => [(3, .int x3_12), (0, .ref (a 43)), (1, .int q1_29), (2, .int q2_29)]) hX 3 dX7_weigh_226 rfl (by decide) (by decide) (fun _ => rfl) h (fun x3_12 h => ?_)
        refine g_goto hX 29 dX7_weigh_229 (by decide) ?_
        exact g_sub [1, 2, 3, 0] rfl (ih29 _ _ h)
      refine g_if_eq hX 226 dX7_weigh_45 (by decide) h (fun h => ?_) (fun h => ?_)
      · exact g_sub [0, 1, 2, 3] rfl (hj226 _ h)
      · refine g_aload_n hX 0 dX7_weigh_48 rfl rfl ?_
        refine gCX7_23_43 hX dX7_weigh_49 ?_
        refine g_iload_n hX 3 dX7_weigh_52 rfl rfl ?_
        refine g_bipush hX (8) dX7_weigh_53 (by decide) ?_
        refine g_imul hX dX7_weigh_55 ?_
        refine alC_44 hX dX7_weigh_56 h (fun h => ?_)
        refine g_if_le hX 226 dX7_weigh_57 (by decide) h (fun h => ?_) (fun h => ?_)
        · exact g_sub [0, 1, 2, 3] rfl (hj226 _ h)
        · refine g_iload_n hX 3 dX7_weigh_60 rfl rfl ?_
          refine g_iconst hX (1) dX7_weigh_61 (by decide) ?_
          refine g_iload_n hX 1 dX7_weigh_62 rfl rfl ?_
          refine g_ishl hX dX7_weigh_63 ?_
          refine g_iconst hX (-1) dX7_weigh_64 (by decide) ?_
          refine g_ixor hX dX7_weigh_65 ?_
          refine g_iand hX dX7_weigh_66 ?_
          refine g_istore (lv' := fun x4_13 => [(4, .int x4_13), (0, .ref (a 43)), (1, .int q1_29), (2, .int q2_29), (3, .int c3_29)]) hX dX7_weigh_67 (by decide) (fun _ => rfl) h (fun x4_13 h => ?_)
          refine g_aload_n hX 1 dX7_weigh_69 rfl rfl ?_
          refine gCX7_33_43 hX dX7_weigh_70 ?_
          refine g_iload hX 0 dX7_weigh_73 rfl ?_
          refine alC_47 hX dX7_weigh_75 h (fun h => ?_)
          refine g_istore (lv' := fun x5_14 => [(5, .int x5_14), (4, .int x4_13), (0, .ref (a 43)), (1, .int q1_29), (2, .int q2_29), (3, .int c3_29)]) hX dX7_weigh_76 (by decide) (fun _ => rfl) h (fun x5_14 h => ?_)
          refine g_iload hX 1 dX7_weigh_78 rfl ?_
          refine g_aload_n hX 2 dX7_weigh_80 rfl rfl ?_
          refine gCX7_15_43 hX dX7_weigh_81 ?_
          refine gCX7_184_22 hX dX7_weigh_84 ?_
          refine g_iand hX dX7_weigh_87 ?_
          refine g_istore (lv' := fun x6_15 => [(6, .int x6_15), (5, .int x5_14), (4, .int x4_13), (0, .ref (a 43)), (1, .int q1_29), (2, .int q2_29), (3, .int c3_29)]) hX dX7_weigh_88 (by decide) (fun _ => rfl) h (fun x6_15 h => ?_)
          refine g_bipush hX (12) dX7_weigh_90 (by decide) ?_
          refine g_iconst hX (1) dX7_weigh_92 (by decide) ?_
          refine g_iload hX 0 dX7_weigh_93 rfl ?_
          refine g_callSI (As := [.int x6_15]) (rest := [.int (1 : Int32), .int (12 : Int32)]) hX miJ6_bitCount_0f7a4 mvJ6_bitCount_0f7a4 lkX7_186 (by decide) rfl (Nat.le_of_ble_eq_true rfl) rfl dX7_weigh_95 (fun τ x ho => kJ6_bitCount_0f7a4 _ ho) h (fun σ_16 t_17 h => ?_)
          refine g_iadd hX dX7_weigh_98 ?_
          refine g_idiv hX dX7_weigh_99 h (fun h => ?_)
          refine g_istore (lv' := fun x7_18 => [(7, .int x7_18), (6, .int x6_15), (5, .int x5_14), (4, .int x4_13), (0, .ref (a 43)), (1, .int q1_29), (2, .int q2_29), (3, .int c3_29)]) hX dX7_weigh_100 (by decide) (fun _ => rfl) h (fun x7_18 h => ?_)
          refine g_bipush hX (12) dX7_weigh_102 (by decide) ?_
          refine g_iconst hX (1) dX7_weigh_104 (by decide) ?_
          refine g_iload hX 1 dX7_weigh_105 rfl ?_
          refine g_aload_n hX 4 dX7_weigh_107 rfl rfl ?_
          refine gCX7_36_43 hX dX7_weigh_108 ?_
          refine g_iload hX 3 dX7_weigh_111 rfl ?_
          refine alC_48 hX dX7_weigh_113 h (fun h => ?_)
          refine g_ior hX dX7_weigh_114 ?_
          refine g_callSI (As := [.int (x6_15 ||| (σ_16.1 48 (ix x4_13)))]) (rest := [.int (1 : Int32), .int (12 : Int32)]) hX miJ6_bitCount_0f7a4 mvJ6_bitCount_0f7a4 lkX7_186 (by decide) rfl (Nat.le_of_ble_eq_true rfl) rfl dX7_weigh_115 (fun τ x ho => kJ6_bitCount_0f7a4 _ ho) h (fun σ_19 t_20 h => ?_)
          refine g_iadd hX dX7_weigh_118 ?_
          refine g_idiv hX dX7_weigh_119 h (fun h => ?_)
          refine g_istore (lv' := fun x8_21 => [(8, .int x8_21), (7, .int x7_18), (6, .int x6_15), (5, .int x5_14), (4, .int x4_13), (0, .ref (a 43)), (1, .int q1_29), (2, .int q2_29), (3, .int c3_29)]) hX dX7_weigh_120 (by decide) (fun _ => rfl) h (fun x8_21 h => ?_)
          refine g_iconst hX (0) dX7_weigh_122 (by decide) ?_
          refine g_istore (lv' := fun x9_22 => [(9, .int x9_22), (8, .int x8_21), (7, .int x7_18), (6, .int x6_15), (5, .int x5_14), (4, .int x4_13), (0, .ref (a 43)), (1, .int q1_29), (2, .int q2_29), (3, .int c3_29)]) hX dX7_weigh_123 (by decide) (fun _ => rfl) h (fun x9_22 h => ?_)
          refine g_sub [6, 7, 8, 9, 4, 2, 1, 0] rfl (sX7_weigh_L125 hX hR (fun σ_34 x9_35 h => ?_) FU _ _ h)
          exact g_sub [0, 1, 2, 3] rfl (hj226 _ h)
set_option maxRecDepth 20000 in
set_option maxHeartbeats 4000000 in
theorem sX7_weigh {X : CX} {a : Nat → Nat} {D : va_G} {tI tJ tB tS : ClassId} {kK kV : Nat → Nat} {σ : St}  {p1 : Int32} {r : St × Unit} (hX : OKX X (vC a D tI tJ tB tS kK kV) cX7_weigh 12 RX7 1 23) (hR : ∀ (pc : Nat) (lv : List (Nat × Value)), decode cX7_weigh pc = .ok (.return_, 1) → G X (vC a D tI tJ tB tS kK kV) 12 r.1 pc lv [])  (h : fX7_weigh σ p1 = some r) : G X (vC a D tI tJ tB tS kK kV) 12 σ 0 [(0, .ref (a 43)), (1, .int p1)] [] := by
  unfold fX7_weigh at h
  refine g_aload_n hX 0 dX7_weigh_0 rfl rfl ?_
  refine gCX7_39_43 hX dX7_weigh_1 ?_
  refine g_iconst hX (0) dX7_weigh_4 (by decide) ?_
  refine g_callSV (As := [.ref (a 49), .int (0 : Int32)]) (rest := []) hX miJ7_fill_53178 mvJ7_fill_53178 lkX7_79 (by decide) rfl (Nat.le_of_ble_eq_true rfl) rfl dX7_weigh_5 (fun τ x ho => kJ7_fill_53178_i49 _ ho) h (fun σ_1 t_2 h => ?_)
  refine g_aload_n hX 0 dX7_weigh_8 rfl rfl ?_
  refine gCX7_42_43 hX dX7_weigh_9 ?_
  refine g_iconst hX (0) dX7_weigh_12 (by decide) ?_
  refine g_callSV (As := [.ref (a 50), .int (0 : Int32)]) (rest := []) hX miJ7_fill_53178 mvJ7_fill_53178 lkX7_79 (by decide) rfl (Nat.le_of_ble_eq_true rfl) rfl dX7_weigh_13 (fun τ x ho => kJ7_fill_53178_i50 _ ho) h (fun σ_3 t_4 h => ?_)
  refine g_aload_n hX 0 dX7_weigh_16 rfl rfl ?_
  refine gCX7_15_43 hX dX7_weigh_17 ?_
  refine g_iload_n hX 1 dX7_weigh_20 rfl rfl ?_
  refine g_callNI (As := [.int p1]) (rest := []) hX 22 (Nat.le_of_ble_eq_true rfl) rfl rfl miX5_promises mvX5_promises lkX7_181 (by decide) rfl (Nat.le_of_ble_eq_true rfl) rfl dX7_weigh_21 (fun τ x ho => kX5_promises _ ho) h (fun σ_5 t_6 h => ?_)
  refine g_istore_n (lv' := fun x2_7 => [(2, .int x2_7), (0, .ref (a 43)), (1, .int p1)]) hX dX7_weigh_24 rfl (by decide) (fun _ => rfl) h (fun x2_7 h => ?_)
  refine g_iconst hX (1) dX7_weigh_25 (by decide) ?_
  refine g_iload_n hX 2 dX7_weigh_26 rfl rfl ?_
  refine g_ishl hX dX7_weigh_27 ?_
  refine g_istore_n (lv' := fun x3_8 => [(3, .int x3_8), (2, .int x2_7), (0, .ref (a 43)), (1, .int p1)]) hX dX7_weigh_28 rfl (by decide) (fun _ => rfl) h (fun x3_8 h => ?_)
  refine g_sub [2, 3, 1, 0] rfl (sX7_weigh_L29 hX hR (fun σ_36 x3_37 h => ?_) FU _ _ h)
  exact g_retv hR h dX7_weigh_232
set_option maxRecDepth 20000 in
set_option maxHeartbeats 4000000 in
theorem kX7_weigh (l : Launch) {a : Nat → Nat} {D : va_G} {tI tJ tB tS : ClassId} {kK kV : Nat → Nat} {σ τ : St}  {p1 : Int32} {x : Unit} (h : fX7_weigh σ p1 = some (τ, x)) : CtV l yX7_weigh cX7_weigh 12 none 1 23 (vC a D tI tJ tB tS kK kV) σ [.ref (a 43), .int p1] τ x := g_metV (by decide) (Nat.le_of_ble_eq_true rfl) rfl (fun X _ hX hR => sX7_weigh (r := (τ, x)) hX hR h)
def fX7_survey_L58 (q1_58 : Int32) (q2_58 : Int32) (q3_58 : Int32) (q4_58 : Int64) (kx58 : St → Int32 → Option (St × Unit)) : Nat → St → Int32 → Option (St × Unit)
  | 0, _, _ => none
  | n58 + 1, σ, c6_58 =>
    (if (σ.1 2 2) ≤ c6_58 then kx58 σ c6_58 else chk (inb c6_58 8) (chk (inb c6_58 8) (chk (inb c6_58 8) (bnd (sL σ 51 (ix c6_58) ((σ.2 51 (ix c6_58)) + (q4_58 * (((σ.1 49 (ix c6_58))).toInt64)))) fun (σ_23 : St) => chk (inb c6_58 8) (chk (inb c6_58 8) (chk (inb c6_58 8) (bnd (sL σ_23 52 (ix c6_58) ((σ_23.2 52 (ix c6_58)) + (q4_58 * (((σ_23.1 50 (ix c6_58))).toInt64)))) fun (σ_24 : St) => bnd (c6_58 + (1 : Int32)) fun (x6_25 : Int32) => fX7_survey_L58 q1_58 q2_58 q3_58 q4_58 kx58 n58 σ_24 x6_25)))))))
def fX7_survey_L27 (q1_27 : Int32) (q2_27 : Int32) (kx27 : St → Int32 → Option (St × Unit)) : Nat → St → Int32 → Option (St × Unit)
  | 0, _, _ => none
  | n27 + 1, σ, c3_27 =>
    (if q2_27 ≤ c3_27 then kx27 σ c3_27 else cl (fX7_weightOfOthers σ q1_27) fun (σ_11 : St) (t_12 : Int64) => bnd t_12 fun (x4_13 : Int64) => (jp (fun (σ_14 : St)   => cl (fX7_nextRow σ_14 q1_27) fun (σ_15 : St) (t_16 : Unit) => bnd (c3_27 + (1 : Int32)) fun (x3_17 : Int32) => fX7_survey_L27 q1_27 q2_27 kx27 n27 σ_15 x3_17) fun j118 => (if (lg_cmp x4_13 (0 : Int64)) ≤ 0 then j118 σ_11 else cl (fX7_readRow σ_11 ) fun (σ_18 : St) (t_19 : Unit) => cl (fX7_weigh σ_18 q1_27) fun (σ_20 : St) (t_21 : Unit) => bnd (0 : Int32) fun (x6_22 : Int32) => fX7_survey_L58 q1_27 q2_27 c3_27 x4_13 (fun (σ_26 : St) (x6_27 : Int32) => j118 σ_26) FU σ_20 x6_22)))
def fX7_survey (σ : St) (p1 : Int32) : Option (St × Unit) :=
  cl (fJ7_fill_d0a16_i51 σ (0 : Int64)) fun (σ_1 : St) (t_2 : Unit) => cl (fJ7_fill_d0a16_i52 σ_1 (0 : Int64)) fun (σ_3 : St) (t_4 : Unit) => cl (fX7_rowsOfOthers σ_3 ) fun (σ_5 : St) (t_6 : Int32) => bnd t_6 fun (x2_7 : Int32) => cl (fX7_firstRow σ_5 ) fun (σ_8 : St) (t_9 : Unit) => bnd (0 : Int32) fun (x3_10 : Int32) => fX7_survey_L27 p1 x2_7 (fun (σ_28 : St) (x3_29 : Int32) => some (σ_28, ())) FU σ_8 x3_10
set_option maxRecDepth 20000 in
set_option maxHeartbeats 4000000 in
theorem sX7_survey_L58 {X : CX} {a : Nat → Nat} {D : va_G} {tI tJ tB tS : ClassId} {kK kV : Nat → Nat} {q1_58 : Int32} {q2_58 : Int32} {q3_58 : Int32} {q4_58 : Int64} {kx58 : St → Int32 → Option (St × Unit)} {r : St × Unit} (hX : OKX X (vC a D tI tJ tB tS kK kV) cX7_survey 7 RX7 2 54) (hR : ∀ (pc : Nat) (lv : List (Nat × Value)), decode cX7_survey pc = .ok (.return_, 1) → G X (vC a D tI tJ tB tS kK kV) 7 r.1 pc lv []) (hkx58 : ∀ (σ : St) (e6_58 : Int32), kx58 σ e6_58 = some r → G X (vC a D tI tJ tB tS kK kV) 7 σ 118 [(0, .ref (a 43)), (1, .int q1_58), (2, .int q2_58), (3, .int q3_58)] []) : ∀ (n : Nat) (σ : St) (c6_58 : Int32), fX7_survey_L58 q1_58 q2_58 q3_58 q4_58 kx58 n σ c6_58 = some r → G X (vC a D tI tJ tB tS kK kV) 7 σ 58 [(0, .ref (a 43)), (1, .int q1_58), (2, .int q2_58), (3, .int q3_58), (4, .long q4_58), (6, .int c6_58)] [] := by
  intro n
  induction n with
  | zero => intro σ c6_58 h; rw [fX7_survey_L58] at h; exact absurd h (by simp)
  | succ n58 ih58 =>
    intro σ c6_58 h
    rw [fX7_survey_L58] at h
    refine g_iload hX 5 dX7_survey_58 rfl ?_
    refine g_aload_n hX 0 dX7_survey_60 rfl rfl ?_
    refine gCX7_9_43 hX dX7_survey_61 ?_
    refine gCX7_106_2 hX dX7_survey_64 ?_
    refine g_icmp_ge hX 118 dX7_survey_67 (by decide) h (fun h => ?_) (fun h => ?_)
    · exact g_sub [0, 1, 2, 3] rfl (hkx58 _ _ h)
    · refine g_aload_n hX 0 dX7_survey_70 rfl rfl ?_
      refine gCX7_45_43 hX dX7_survey_71 ?_
      refine g_iload hX 5 dX7_survey_74 rfl ?_
      refine g_dup2 hX dX7_survey_76 rfl rfl ?_
      refine alC_51 hX dX7_survey_77 h (fun h => ?_)
      refine g_lload hX 4 dX7_survey_78 rfl ?_
      refine g_aload_n hX 0 dX7_survey_80 rfl rfl ?_
      refine gCX7_39_43 hX dX7_survey_81 ?_
      refine g_iload hX 5 dX7_survey_84 rfl ?_
      refine alC_49 hX dX7_survey_86 h (fun h => ?_)
      refine g_i2l hX dX7_survey_87 ?_
      refine g_lmul hX dX7_survey_88 ?_
      refine g_ladd hX dX7_survey_89 ?_
      refine asC_51 hX dX7_survey_90 h (fun σ_23 h => ?_)
      refine g_aload_n hX 0 dX7_survey_91 rfl rfl ?_
      refine gCX7_49_43 hX dX7_survey_92 ?_
      refine g_iload hX 5 dX7_survey_95 rfl ?_
      refine g_dup2 hX dX7_survey_97 rfl rfl ?_
      refine alC_52 hX dX7_survey_98 h (fun h => ?_)
      refine g_lload hX 4 dX7_survey_99 rfl ?_
      refine g_aload_n hX 0 dX7_survey_101 rfl rfl ?_
      refine gCX7_42_43 hX dX7_survey_102 ?_
      refine g_iload hX 5 dX7_survey_105 rfl ?_
      refine alC_50 hX dX7_survey_107 h (fun h => ?_)
      refine g_i2l hX dX7_survey_108 ?_
      refine g_lmul hX dX7_survey_109 ?_
      refine g_ladd hX dX7_survey_110 ?_
      refine asC_52 hX dX7_survey_111 h (fun σ_24 h => ?_)
      refine g_iinc (y := (1)) (lv' := fun x6_25 => [(6, .int x6_25), (0, .ref (a 43)), (1, .int q1_58), (2, .int q2_58), (3, .int q3_58), (4, .long q4_58)]) hX 5 dX7_survey_112 rfl (by decide) (by decide) (fun _ => rfl) h (fun x6_25 h => ?_)
      refine g_goto hX 58 dX7_survey_115 (by decide) ?_
      exact g_sub [1, 2, 3, 4, 5, 0] rfl (ih58 _ _ h)
set_option maxRecDepth 20000 in
set_option maxHeartbeats 4000000 in
theorem sX7_survey_L27 {X : CX} {a : Nat → Nat} {D : va_G} {tI tJ tB tS : ClassId} {kK kV : Nat → Nat} {q1_27 : Int32} {q2_27 : Int32} {kx27 : St → Int32 → Option (St × Unit)} {r : St × Unit} (hX : OKX X (vC a D tI tJ tB tS kK kV) cX7_survey 7 RX7 2 54) (hR : ∀ (pc : Nat) (lv : List (Nat × Value)), decode cX7_survey pc = .ok (.return_, 1) → G X (vC a D tI tJ tB tS kK kV) 7 r.1 pc lv []) (hkx27 : ∀ (σ : St) (e3_27 : Int32), kx27 σ e3_27 = some r → G X (vC a D tI tJ tB tS kK kV) 7 σ 129 [] []) : ∀ (n : Nat) (σ : St) (c3_27 : Int32), fX7_survey_L27 q1_27 q2_27 kx27 n σ c3_27 = some r → G X (vC a D tI tJ tB tS kK kV) 7 σ 27 [(0, .ref (a 43)), (1, .int q1_27), (2, .int q2_27), (3, .int c3_27)] [] := by
  intro n
  induction n with
  | zero => intro σ c3_27 h; rw [fX7_survey_L27] at h; exact absurd h (by simp)
  | succ n27 ih27 =>
    intro σ c3_27 h
    rw [fX7_survey_L27] at h
    refine g_iload_n hX 3 dX7_survey_27 rfl rfl ?_
    refine g_iload_n hX 2 dX7_survey_28 rfl rfl ?_
    refine g_icmp_ge hX 129 dX7_survey_29 (by decide) h (fun h => ?_) (fun h => ?_)
    · exact g_sub [] rfl (hkx27 _ _ h)
    · refine g_aload_n hX 0 dX7_survey_32 rfl rfl ?_
      refine g_iload_n hX 1 dX7_survey_33 rfl rfl ?_
      refine g_callVL (As := [.int q1_27]) (rest := []) hX 43 (Nat.le_of_ble_eq_true rfl) rfl rfl miX7_weightOfOthers mvX7_weightOfOthers lkX7_163 (by decide) rfl (Nat.le_of_ble_eq_true rfl) rfl dX7_survey_34 (fun τ x ho => kX7_weightOfOthers _ ho) h (fun σ_11 t_12 h => ?_)
      refine g_lstore (lv' := fun x4_13 => [(4, .long x4_13), (0, .ref (a 43)), (1, .int q1_27), (2, .int q2_27), (3, .int c3_27)]) hX dX7_survey_37 (by decide) (fun _ => rfl) h (fun x4_13 h => ?_)
      refine g_lload hX 0 dX7_survey_39 rfl ?_
      refine g_lconst hX (0) dX7_survey_41 (by decide) ?_
      refine g_lcmp hX dX7_survey_42 ?_
      refine jp_inv (P := fun f => ∀ (σ_14 : St)  , f σ_14 = some r → G X (vC a D tI tJ tB tS kK kV) 7 σ_14 118 [(0, .ref (a 43)), (1, .int q1_27), (2, .int q2_27), (3, .int c3_27)] []) h (fun σ_14 h => ?_) (fun j118 hj118 h => ?_)
      · refine g_aload_n hX 0 dX7_survey_118 rfl rfl ?_
        refine g_iload_n hX 1 dX7_survey_119 rfl rfl ?_
        refine g_callVV (As := [.int q1_27]) (rest := []) hX 43 (Nat.le_of_ble_eq_true rfl) rfl rfl miX7_nextRow mvX7_nextRow lkX7_173 (by decide) rfl (Nat.le_of_ble_eq_true rfl) rfl dX7_survey_120 (fun τ x ho => kX7_nextRow _ ho) h (fun σ_15 t_16 h => ?_)
        refine g_iinc (y := (1)) (lv' := fun x3_17 => [(3, .int x3_17), (0, .ref (a 43)), (1, .int q1_27), (2, .int q2_27)]) hX 3 dX7_survey_123 rfl (by decide) (by decide) (fun _ => rfl) h (fun x3_17 h => ?_)
        refine g_goto hX 27 dX7_survey_126 (by decide) ?_
        exact g_sub [1, 2, 3, 0] rfl (ih27 _ _ h)
      refine g_if_le hX 118 dX7_survey_43 (by decide) h (fun h => ?_) (fun h => ?_)
      · exact g_sub [1, 2, 3, 4] rfl (hj118 _ h)
      · refine g_aload_n hX 1 dX7_survey_46 rfl rfl ?_
        refine g_callVV (As := []) (rest := []) hX 43 (Nat.le_of_ble_eq_true rfl) rfl rfl miX7_readRow mvX7_readRow lkX7_167 (by decide) rfl (Nat.le_of_ble_eq_true rfl) rfl dX7_survey_47 (fun τ x ho => kX7_readRow _ ho) h (fun σ_18 t_19 h => ?_)
        refine g_aload_n hX 1 dX7_survey_50 rfl rfl ?_
        refine g_iload_n hX 2 dX7_survey_51 rfl rfl ?_
        refine g_callVV (As := [.int q1_27]) (rest := []) hX 43 (Nat.le_of_ble_eq_true rfl) rfl rfl miX7_weigh mvX7_weigh lkX7_170 (by decide) rfl (Nat.le_of_ble_eq_true rfl) rfl dX7_survey_52 (fun τ x ho => kX7_weigh _ ho) h (fun σ_20 t_21 h => ?_)
        refine g_iconst hX (0) dX7_survey_55 (by decide) ?_
        refine g_istore (lv' := fun x6_22 => [(6, .int x6_22), (4, .long x4_13), (0, .ref (a 43)), (1, .int q1_27), (2, .int q2_27), (3, .int c3_27)]) hX dX7_survey_56 (by decide) (fun _ => rfl) h (fun x6_22 h => ?_)
        refine g_sub [2, 3, 4, 5, 1, 0] rfl (sX7_survey_L58 hX hR (fun σ_26 x6_27 h => ?_) FU _ _ h)
        exact g_sub [0, 1, 2, 3] rfl (hj118 _ h)
set_option maxRecDepth 20000 in
set_option maxHeartbeats 4000000 in
theorem sX7_survey {X : CX} {a : Nat → Nat} {D : va_G} {tI tJ tB tS : ClassId} {kK kV : Nat → Nat} {σ : St}  {p1 : Int32} {r : St × Unit} (hX : OKX X (vC a D tI tJ tB tS kK kV) cX7_survey 7 RX7 2 54) (hR : ∀ (pc : Nat) (lv : List (Nat × Value)), decode cX7_survey pc = .ok (.return_, 1) → G X (vC a D tI tJ tB tS kK kV) 7 r.1 pc lv [])  (h : fX7_survey σ p1 = some r) : G X (vC a D tI tJ tB tS kK kV) 7 σ 0 [(0, .ref (a 43)), (1, .int p1)] [] := by
  unfold fX7_survey at h
  refine g_aload_n hX 0 dX7_survey_0 rfl rfl ?_
  refine gCX7_45_43 hX dX7_survey_1 ?_
  refine g_lconst hX (0) dX7_survey_4 (by decide) ?_
  refine g_callSV (As := [.ref (a 51), .long (0 : Int64)]) (rest := []) hX miJ7_fill_d0a16 mvJ7_fill_d0a16 lkX7_154 (by decide) rfl (Nat.le_of_ble_eq_true rfl) rfl dX7_survey_5 (fun τ x ho => kJ7_fill_d0a16_i51 _ ho) h (fun σ_1 t_2 h => ?_)
  refine g_aload_n hX 0 dX7_survey_8 rfl rfl ?_
  refine gCX7_49_43 hX dX7_survey_9 ?_
  refine g_lconst hX (0) dX7_survey_12 (by decide) ?_
  refine g_callSV (As := [.ref (a 52), .long (0 : Int64)]) (rest := []) hX miJ7_fill_d0a16 mvJ7_fill_d0a16 lkX7_154 (by decide) rfl (Nat.le_of_ble_eq_true rfl) rfl dX7_survey_13 (fun τ x ho => kJ7_fill_d0a16_i52 _ ho) h (fun σ_3 t_4 h => ?_)
  refine g_aload_n hX 0 dX7_survey_16 rfl rfl ?_
  refine g_callVI (As := []) (rest := []) hX 43 (Nat.le_of_ble_eq_true rfl) rfl rfl miX7_rowsOfOthers mvX7_rowsOfOthers lkX7_157 (by decide) rfl (Nat.le_of_ble_eq_true rfl) rfl dX7_survey_17 (fun τ x ho => kX7_rowsOfOthers _ ho) h (fun σ_5 t_6 h => ?_)
  refine g_istore_n (lv' := fun x2_7 => [(2, .int x2_7), (0, .ref (a 43)), (1, .int p1)]) hX dX7_survey_20 rfl (by decide) (fun _ => rfl) h (fun x2_7 h => ?_)
  refine g_aload_n hX 1 dX7_survey_21 rfl rfl ?_
  refine g_callVV (As := []) (rest := []) hX 43 (Nat.le_of_ble_eq_true rfl) rfl rfl miX7_firstRow mvX7_firstRow lkX7_160 (by decide) rfl (Nat.le_of_ble_eq_true rfl) rfl dX7_survey_22 (fun τ x ho => kX7_firstRow _ ho) h (fun σ_8 t_9 h => ?_)
  refine g_iconst hX (0) dX7_survey_25 (by decide) ?_
  refine g_istore_n (lv' := fun x3_10 => [(3, .int x3_10), (2, .int x2_7), (0, .ref (a 43)), (1, .int p1)]) hX dX7_survey_26 rfl (by decide) (fun _ => rfl) h (fun x3_10 h => ?_)
  refine g_sub [2, 3, 1, 0] rfl (sX7_survey_L27 hX hR (fun σ_28 x3_29 h => ?_) FU _ _ h)
  exact g_retv hR h dX7_survey_129
set_option maxRecDepth 20000 in
set_option maxHeartbeats 4000000 in
theorem kX7_survey (l : Launch) {a : Nat → Nat} {D : va_G} {tI tJ tB tS : ClassId} {kK kV : Nat → Nat} {σ τ : St}  {p1 : Int32} {x : Unit} (h : fX7_survey σ p1 = some (τ, x)) : CtV l yX7_survey cX7_survey 7 none 2 54 (vC a D tI tJ tB tS kK kV) σ [.ref (a 43), .int p1] τ x := g_metV (by decide) (Nat.le_of_ble_eq_true rfl) rfl (fun X _ hX hR => sX7_survey (r := (τ, x)) hX hR h)
def fX7_gainAt (σ : St) (p1 : Int32) (p2 : Int32) : Option (St × Int64) :=
  chk (inb p2 8) (chk (inb p1 4) (chk (inb p2 8) (some (σ, ((σ.2 52 (ix p2)) - ((((σ.1 25 (ix p1))).toInt64) * (σ.2 51 (ix p2))))))))
set_option maxRecDepth 20000 in
set_option maxHeartbeats 4000000 in
theorem sX7_gainAt {X : CX} {a : Nat → Nat} {D : va_G} {tI tJ tB tS : ClassId} {kK kV : Nat → Nat} {σ : St}  {p1 : Int32} {p2 : Int32} {r : St × Int64} (hX : OKX X (vC a D tI tJ tB tS kK kV) cX7_gainAt 3 RX7 0 0) (hR : ∀ (pc : Nat) (lv : List (Nat × Value)), decode cX7_gainAt pc = .ok (.lreturn, 1) → G X (vC a D tI tJ tB tS kK kV) 3 r.1 pc lv [.long r.2])  (h : fX7_gainAt σ p1 p2 = some r) : G X (vC a D tI tJ tB tS kK kV) 3 σ 0 [(0, .ref (a 43)), (1, .int p1), (2, .int p2)] [] := by
  unfold fX7_gainAt at h
  refine g_aload_n hX 0 dX7_gainAt_0 rfl rfl ?_
  refine gCX7_49_43 hX dX7_gainAt_1 ?_
  refine g_iload_n hX 2 dX7_gainAt_4 rfl rfl ?_
  refine alC_52 hX dX7_gainAt_5 h (fun h => ?_)
  refine g_aload_n hX 0 dX7_gainAt_6 rfl rfl ?_
  refine gCX7_15_43 hX dX7_gainAt_7 ?_
  refine gCX7_191_22 hX dX7_gainAt_10 ?_
  refine g_iload_n hX 1 dX7_gainAt_13 rfl rfl ?_
  refine alC_25 hX dX7_gainAt_14 h (fun h => ?_)
  refine g_i2l hX dX7_gainAt_15 ?_
  refine g_aload_n hX 0 dX7_gainAt_16 rfl rfl ?_
  refine gCX7_45_43 hX dX7_gainAt_17 ?_
  refine g_iload_n hX 2 dX7_gainAt_20 rfl rfl ?_
  refine alC_51 hX dX7_gainAt_21 h (fun h => ?_)
  refine g_lmul hX dX7_gainAt_22 ?_
  refine g_lsub hX dX7_gainAt_23 ?_
  exact g_retl hR h dX7_gainAt_24
set_option maxRecDepth 20000 in
set_option maxHeartbeats 4000000 in
theorem kX7_gainAt (l : Launch) {a : Nat → Nat} {D : va_G} {tI tJ tB tS : ClassId} {kK kV : Nat → Nat} {σ τ : St}  {p1 : Int32} {p2 : Int32} {x : Int64} (h : fX7_gainAt σ p1 p2 = some (τ, x)) : CtL l yX7_gainAt cX7_gainAt 3 (some .long) 0 0 (vC a D tI tJ tB tS kK kV) σ [.ref (a 43), .int p1, .int p2] τ x := g_metL (by decide) (Nat.le_of_ble_eq_true rfl) rfl (fun X _ hX hR => sX7_gainAt (r := (τ, x)) hX hR h)
def fX7_bestStep_L4 (q1_4 : Int32) (kx4 : St → Int32 → Int32 → Option (St × Int32)) : Nat → St → Int32 → Int32 → Option (St × Int32)
  | 0, _, _, _ => none
  | n4 + 1, σ, c2_4, c3_4 =>
    (if (σ.1 2 2) ≤ c3_4 then kx4 σ c2_4 c3_4 else cl (fX7_isFree σ c3_4) fun (σ_3 : St) (t_4 : Int32) => (jp (fun (σ_5 : St) (x2_6 : Int32)  => bnd (c3_4 + (1 : Int32)) fun (x3_7 : Int32) => fX7_bestStep_L4 q1_4 kx4 n4 σ_5 x2_6 x3_7) fun j46 => (if t_4 = 0 then j46 σ_3 c2_4 else (jp (fun (σ_8 : St)   => bnd c3_4 fun (x2_9 : Int32) => j46 σ_8 x2_9) fun j44 => (if c2_4 = (-1 : Int32) then j44 σ_3 else cl (fX7_gainAt σ_3 q1_4 c3_4) fun (σ_10 : St) (t_11 : Int64) => cl (fX7_gainAt σ_10 q1_4 c2_4) fun (σ_12 : St) (t_13 : Int64) => (if (lg_cmp t_11 t_13) ≤ 0 then j46 σ_12 c2_4 else j44 σ_12))))))
def fX7_bestStep (σ : St) (p1 : Int32) : Option (St × Int32) :=
  bnd (-1 : Int32) fun (x2_1 : Int32) => bnd (0 : Int32) fun (x3_2 : Int32) => fX7_bestStep_L4 p1 (fun (σ_14 : St) (x2_15 : Int32) (x3_16 : Int32) => some (σ_14, x2_15)) FU σ x2_1 x3_2
set_option maxRecDepth 20000 in
set_option maxHeartbeats 4000000 in
theorem sX7_bestStep_L4 {X : CX} {a : Nat → Nat} {D : va_G} {tI tJ tB tS : ClassId} {kK kV : Nat → Nat} {q1_4 : Int32} {kx4 : St → Int32 → Int32 → Option (St × Int32)} {r : St × Int32} (hX : OKX X (vC a D tI tJ tB tS kK kV) cX7_bestStep 4 RX7 1 22) (hR : ∀ (pc : Nat) (lv : List (Nat × Value)), decode cX7_bestStep pc = .ok (.ireturn, 1) → G X (vC a D tI tJ tB tS kK kV) 4 r.1 pc lv [.int r.2]) (hkx4 : ∀ (σ : St) (e2_4 : Int32) (e3_4 : Int32), kx4 σ e2_4 e3_4 = some r → G X (vC a D tI tJ tB tS kK kV) 4 σ 52 [(2, .int e2_4)] []) : ∀ (n : Nat) (σ : St) (c2_4 : Int32) (c3_4 : Int32), fX7_bestStep_L4 q1_4 kx4 n σ c2_4 c3_4 = some r → G X (vC a D tI tJ tB tS kK kV) 4 σ 4 [(0, .ref (a 43)), (1, .int q1_4), (2, .int c2_4), (3, .int c3_4)] [] := by
  intro n
  induction n with
  | zero => intro σ c2_4 c3_4 h; rw [fX7_bestStep_L4] at h; exact absurd h (by simp)
  | succ n4 ih4 =>
    intro σ c2_4 c3_4 h
    rw [fX7_bestStep_L4] at h
    refine g_iload_n hX 3 dX7_bestStep_4 rfl rfl ?_
    refine g_aload_n hX 0 dX7_bestStep_5 rfl rfl ?_
    refine gCX7_9_43 hX dX7_bestStep_6 ?_
    refine gCX7_106_2 hX dX7_bestStep_9 ?_
    refine g_icmp_ge hX 52 dX7_bestStep_12 (by decide) h (fun h => ?_) (fun h => ?_)
    · exact g_sub [2] rfl (hkx4 _ _ _ h)
    · refine g_aload_n hX 0 dX7_bestStep_15 rfl rfl ?_
      refine g_iload_n hX 3 dX7_bestStep_16 rfl rfl ?_
      refine g_callVI (As := [.int c3_4]) (rest := []) hX 43 (Nat.le_of_ble_eq_true rfl) rfl rfl miX7_isFree mvX7_isFree lkX7_116 (by decide) rfl (Nat.le_of_ble_eq_true rfl) rfl dX7_bestStep_17 (fun τ x ho => kX7_isFree _ ho) h (fun σ_3 t_4 h => ?_)
      refine jp_inv (P := fun f => ∀ (σ_5 : St) (x2_6 : Int32) , f σ_5 x2_6 = some r → G X (vC a D tI tJ tB tS kK kV) 4 σ_5 46 [(0, .ref (a 43)), (1, .int q1_4), (3, .int c3_4), (2, .int x2_6)] []) h (fun σ_5 x2_6 h => ?_) (fun j46 hj46 h => ?_)
      · refine g_iinc (y := (1)) (lv' := fun x3_7 => [(3, .int x3_7), (0, .ref (a 43)), (1, .int q1_4), (2, .int x2_6)]) hX 2 dX7_bestStep_46 rfl (by decide) (by decide) (fun _ => rfl) h (fun x3_7 h => ?_)
        refine g_goto hX 4 dX7_bestStep_49 (by decide) ?_
        exact g_sub [1, 2, 3, 0] rfl (ih4 _ _ _ h)
      refine g_if_eq hX 46 dX7_bestStep_20 (by decide) h (fun h => ?_) (fun h => ?_)
      · exact g_sub [0, 1, 3, 2] rfl (hj46 _ _ h)
      · refine g_iload_n hX 2 dX7_bestStep_23 rfl rfl ?_
        refine g_iconst hX (-1) dX7_bestStep_24 (by decide) ?_
        refine jp_inv (P := fun f => ∀ (σ_8 : St)  , f σ_8 = some r → G X (vC a D tI tJ tB tS kK kV) 4 σ_8 44 [(0, .ref (a 43)), (1, .int q1_4), (3, .int c3_4)] []) h (fun σ_8 h => ?_) (fun j44 hj44 h => ?_)
        · refine g_iload_n hX 2 dX7_bestStep_44 rfl rfl ?_
          refine g_istore_n (lv' := fun x2_9 => [(2, .int x2_9), (0, .ref (a 43)), (1, .int q1_4), (3, .int c3_4)]) hX dX7_bestStep_45 rfl (by decide) (fun _ => rfl) h (fun x2_9 h => ?_)
          exact g_sub [1, 2, 3, 0] rfl (hj46 _ _ h)
        refine g_icmp_eq hX 44 dX7_bestStep_25 (by decide) h (fun h => ?_) (fun h => ?_)
        · exact g_sub [0, 1, 3] rfl (hj44 _ h)
        · refine g_aload_n hX 0 dX7_bestStep_28 rfl rfl ?_
          refine g_iload_n hX 1 dX7_bestStep_29 rfl rfl ?_
          refine g_iload_n hX 3 dX7_bestStep_30 rfl rfl ?_
          refine g_callVL (As := [.int q1_4, .int c3_4]) (rest := []) hX 43 (Nat.le_of_ble_eq_true rfl) rfl rfl miX7_gainAt mvX7_gainAt lkX7_194 (by decide) rfl (Nat.le_of_ble_eq_true rfl) rfl dX7_bestStep_31 (fun τ x ho => kX7_gainAt _ ho) h (fun σ_10 t_11 h => ?_)
          refine g_aload_n hX 0 dX7_bestStep_34 rfl rfl ?_
          refine g_iload_n hX 1 dX7_bestStep_35 rfl rfl ?_
          refine g_iload_n hX 2 dX7_bestStep_36 rfl rfl ?_
          refine g_callVL (As := [.int q1_4, .int c2_4]) (rest := [.long t_11]) hX 43 (Nat.le_of_ble_eq_true rfl) rfl rfl miX7_gainAt mvX7_gainAt lkX7_194 (by decide) rfl (Nat.le_of_ble_eq_true rfl) rfl dX7_bestStep_37 (fun τ x ho => kX7_gainAt _ ho) h (fun σ_12 t_13 h => ?_)
          refine g_lcmp hX dX7_bestStep_40 ?_
          refine g_if_le hX 46 dX7_bestStep_41 (by decide) h (fun h => ?_) (fun h => ?_)
          · exact g_sub [0, 1, 3, 2] rfl (hj46 _ _ h)
          · exact g_sub [0, 1, 3] rfl (hj44 _ h)
set_option maxRecDepth 20000 in
set_option maxHeartbeats 4000000 in
theorem sX7_bestStep {X : CX} {a : Nat → Nat} {D : va_G} {tI tJ tB tS : ClassId} {kK kV : Nat → Nat} {σ : St}  {p1 : Int32} {r : St × Int32} (hX : OKX X (vC a D tI tJ tB tS kK kV) cX7_bestStep 4 RX7 1 22) (hR : ∀ (pc : Nat) (lv : List (Nat × Value)), decode cX7_bestStep pc = .ok (.ireturn, 1) → G X (vC a D tI tJ tB tS kK kV) 4 r.1 pc lv [.int r.2])  (h : fX7_bestStep σ p1 = some r) : G X (vC a D tI tJ tB tS kK kV) 4 σ 0 [(0, .ref (a 43)), (1, .int p1)] [] := by
  unfold fX7_bestStep at h
  refine g_iconst hX (-1) dX7_bestStep_0 (by decide) ?_
  refine g_istore_n (lv' := fun x2_1 => [(2, .int x2_1), (0, .ref (a 43)), (1, .int p1)]) hX dX7_bestStep_1 rfl (by decide) (fun _ => rfl) h (fun x2_1 h => ?_)
  refine g_iconst hX (0) dX7_bestStep_2 (by decide) ?_
  refine g_istore_n (lv' := fun x3_2 => [(3, .int x3_2), (2, .int x2_1), (0, .ref (a 43)), (1, .int p1)]) hX dX7_bestStep_3 rfl (by decide) (fun _ => rfl) h (fun x3_2 h => ?_)
  refine g_sub [2, 3, 1, 0] rfl (sX7_bestStep_L4 hX hR (fun σ_14 x2_15 x3_16 h => ?_) FU _ _ _ h)
  refine g_iload_n hX 0 dX7_bestStep_52 rfl rfl ?_
  exact g_reti hR h dX7_bestStep_53
set_option maxRecDepth 20000 in
set_option maxHeartbeats 4000000 in
theorem kX7_bestStep (l : Launch) {a : Nat → Nat} {D : va_G} {tI tJ tB tS : ClassId} {kK kV : Nat → Nat} {σ τ : St}  {p1 : Int32} {x : Int32} (h : fX7_bestStep σ p1 = some (τ, x)) : CtI l yX7_bestStep cX7_bestStep 4 (some .int) 1 22 (vC a D tI tJ tB tS kK kV) σ [.ref (a 43), .int p1] τ x := g_metI (by decide) (Nat.le_of_ble_eq_true rfl) rfl (fun X _ hX hR => sX7_bestStep (r := (τ, x)) hX hR h)
def fX7_makeSure_L2 (q1_2 : Int32) (q2_2 : Int32) (kx2 : St → Int32 → Option (St × Unit)) : Nat → St → Int32 → Option (St × Unit)
  | 0, _, _ => none
  | n2 + 1, σ, c3_2 =>
    (if (8 : Int32) ≤ c3_2 then kx2 σ c3_2 else (jp (fun (σ_2 : St)  (t_3 : Int32) => chk (inb ((q1_2 * (8 : Int32)) + c3_2) 32) (bnd (sI σ_2 45 (ix ((q1_2 * (8 : Int32)) + c3_2)) t_3) fun (σ_4 : St) => bnd (c3_2 + (1 : Int32)) fun (x3_5 : Int32) => fX7_makeSure_L2 q1_2 q2_2 kx2 n2 σ_4 x3_5)) fun j29 => (if c3_2 = q2_2 then j29 σ (100 : Int32) else j29 σ (0 : Int32))))
def fX7_makeSure (σ : St) (p1 : Int32) (p2 : Int32) : Option (St × Unit) :=
  bnd (0 : Int32) fun (x3_1 : Int32) => fX7_makeSure_L2 p1 p2 (fun (σ_6 : St) (x3_7 : Int32) => some (σ_6, ())) FU σ x3_1
set_option maxRecDepth 20000 in
set_option maxHeartbeats 4000000 in
theorem sX7_makeSure_L2 {X : CX} {a : Nat → Nat} {D : va_G} {tI tJ tB tS : ClassId} {kK kV : Nat → Nat} {q1_2 : Int32} {q2_2 : Int32} {kx2 : St → Int32 → Option (St × Unit)} {r : St × Unit} (hX : OKX X (vC a D tI tJ tB tS kK kV) cX7_makeSure 4 RX7 0 0) (hR : ∀ (pc : Nat) (lv : List (Nat × Value)), decode cX7_makeSure pc = .ok (.return_, 1) → G X (vC a D tI tJ tB tS kK kV) 4 r.1 pc lv []) (hkx2 : ∀ (σ : St) (e3_2 : Int32), kx2 σ e3_2 = some r → G X (vC a D tI tJ tB tS kK kV) 4 σ 36 [] []) : ∀ (n : Nat) (σ : St) (c3_2 : Int32), fX7_makeSure_L2 q1_2 q2_2 kx2 n σ c3_2 = some r → G X (vC a D tI tJ tB tS kK kV) 4 σ 2 [(0, .ref (a 43)), (1, .int q1_2), (2, .int q2_2), (3, .int c3_2)] [] := by
  intro n
  induction n with
  | zero => intro σ c3_2 h; rw [fX7_makeSure_L2] at h; exact absurd h (by simp)
  | succ n2 ih2 =>
    intro σ c3_2 h
    rw [fX7_makeSure_L2] at h
    refine g_iload_n hX 3 dX7_makeSure_2 rfl rfl ?_
    refine g_bipush hX (8) dX7_makeSure_3 (by decide) ?_
    refine g_icmp_ge hX 36 dX7_makeSure_5 (by decide) h (fun h => ?_) (fun h => ?_)
    · exact g_sub [] rfl (hkx2 _ _ h)
    · refine g_aload_n hX 0 dX7_makeSure_8 rfl rfl ?_
      refine gCX7_27_43 hX dX7_makeSure_9 ?_
      refine g_iload_n hX 1 dX7_makeSure_12 rfl rfl ?_
      refine g_bipush hX (8) dX7_makeSure_13 (by decide) ?_
      refine g_imul hX dX7_makeSure_15 ?_
      refine g_iload_n hX 3 dX7_makeSure_16 rfl rfl ?_
      refine g_iadd hX dX7_makeSure_17 ?_
      refine g_iload_n hX 3 dX7_makeSure_18 rfl rfl ?_
      refine g_iload_n hX 2 dX7_makeSure_19 rfl rfl ?_
      refine jp_inv (P := fun f => ∀ (σ_2 : St)  (t_3 : Int32), f σ_2 t_3 = some r → G X (vC a D tI tJ tB tS kK kV) 4 σ_2 29 [(0, .ref (a 43)), (1, .int q1_2), (2, .int q2_2), (3, .int c3_2)] [.int t_3, .int ((q1_2 * (8 : Int32)) + c3_2), .ref (a 45)]) h (fun σ_2 t_3 h => ?_) (fun j29 hj29 h => ?_)
      · refine asC_45 hX dX7_makeSure_29 h (fun σ_4 h => ?_)
        refine g_iinc (y := (1)) (lv' := fun x3_5 => [(3, .int x3_5), (0, .ref (a 43)), (1, .int q1_2), (2, .int q2_2)]) hX 3 dX7_makeSure_30 rfl (by decide) (by decide) (fun _ => rfl) h (fun x3_5 h => ?_)
        refine g_goto hX 2 dX7_makeSure_33 (by decide) ?_
        exact g_sub [1, 2, 3, 0] rfl (ih2 _ _ h)
      refine g_icmp_ne hX 28 dX7_makeSure_20 (by decide) h (fun h => ?_) (fun h => ?_)
      · refine g_iconst hX (0) dX7_makeSure_28 (by decide) ?_
        exact g_sub [0, 1, 2, 3] rfl (hj29 _ _ h)
      · refine g_bipush hX (100) dX7_makeSure_23 (by decide) ?_
        refine g_goto hX 29 dX7_makeSure_25 (by decide) ?_
        exact g_sub [0, 1, 2, 3] rfl (hj29 _ _ h)
set_option maxRecDepth 20000 in
set_option maxHeartbeats 4000000 in
theorem sX7_makeSure {X : CX} {a : Nat → Nat} {D : va_G} {tI tJ tB tS : ClassId} {kK kV : Nat → Nat} {σ : St}  {p1 : Int32} {p2 : Int32} {r : St × Unit} (hX : OKX X (vC a D tI tJ tB tS kK kV) cX7_makeSure 4 RX7 0 0) (hR : ∀ (pc : Nat) (lv : List (Nat × Value)), decode cX7_makeSure pc = .ok (.return_, 1) → G X (vC a D tI tJ tB tS kK kV) 4 r.1 pc lv [])  (h : fX7_makeSure σ p1 p2 = some r) : G X (vC a D tI tJ tB tS kK kV) 4 σ 0 [(0, .ref (a 43)), (1, .int p1), (2, .int p2)] [] := by
  unfold fX7_makeSure at h
  refine g_iconst hX (0) dX7_makeSure_0 (by decide) ?_
  refine g_istore_n (lv' := fun x3_1 => [(3, .int x3_1), (0, .ref (a 43)), (1, .int p1), (2, .int p2)]) hX dX7_makeSure_1 rfl (by decide) (fun _ => rfl) h (fun x3_1 h => ?_)
  refine g_sub [1, 2, 3, 0] rfl (sX7_makeSure_L2 hX hR (fun σ_6 x3_7 h => ?_) FU _ _ h)
  exact g_retv hR h dX7_makeSure_36
set_option maxRecDepth 20000 in
set_option maxHeartbeats 4000000 in
theorem kX7_makeSure (l : Launch) {a : Nat → Nat} {D : va_G} {tI tJ tB tS : ClassId} {kK kV : Nat → Nat} {σ τ : St}  {p1 : Int32} {p2 : Int32} {x : Unit} (h : fX7_makeSure σ p1 p2 = some (τ, x)) : CtV l yX7_makeSure cX7_makeSure 4 none 0 0 (vC a D tI tJ tB tS kK kV) σ [.ref (a 43), .int p1, .int p2] τ x := g_metV (by decide) (Nat.le_of_ble_eq_true rfl) rfl (fun X _ hX hR => sX7_makeSure (r := (τ, x)) hX hR h)
def fX7_answerAnew (σ : St)  : Option (St × Int32) :=
  cl (fX7_survey σ (σ.1 43 16)) fun (σ_1 : St) (t_2 : Unit) => cl (fX7_bestStep σ_1 (σ_1.1 43 16)) fun (σ_3 : St) (t_4 : Int32) => bnd t_4 fun (x1_5 : Int32) => (if x1_5 = (-1 : Int32) then some (σ_3, (0 : Int32)) else cl (fX7_makeSure σ_3 (σ_3.1 43 16) x1_5) fun (σ_6 : St) (t_7 : Unit) => some (σ_6, (1 : Int32)))
set_option maxRecDepth 20000 in
set_option maxHeartbeats 4000000 in
theorem sX7_answerAnew {X : CX} {a : Nat → Nat} {D : va_G} {tI tJ tB tS : ClassId} {kK kV : Nat → Nat} {σ : St}   {r : St × Int32} (hX : OKX X (vC a D tI tJ tB tS kK kV) cX7_answerAnew 2 RX7 3 80) (hR : (r.2 = 0 ∨ r.2 = 1) → ∀ (pc : Nat) (lv : List (Nat × Value)), decode cX7_answerAnew pc = .ok (.ireturn, 1) → G X (vC a D tI tJ tB tS kK kV) 2 r.1 pc lv [.int r.2])  (h : fX7_answerAnew σ  = some r) : G X (vC a D tI tJ tB tS kK kV) 2 σ 0 [(0, .ref (a 43))] [] := by
  unfold fX7_answerAnew at h
  refine g_aload_n hX 0 dX7_answerAnew_0 rfl rfl ?_
  refine g_aload_n hX 0 dX7_answerAnew_1 rfl rfl ?_
  refine gCX7_67_43 hX dX7_answerAnew_2 ?_
  refine g_callVV (As := [.int (σ.1 43 16)]) (rest := []) hX 43 (Nat.le_of_ble_eq_true rfl) rfl rfl miX7_survey mvX7_survey lkX7_119 (by decide) rfl (Nat.le_of_ble_eq_true rfl) rfl dX7_answerAnew_5 (fun τ x ho => kX7_survey _ ho) h (fun σ_1 t_2 h => ?_)
  refine g_aload_n hX 0 dX7_answerAnew_8 rfl rfl ?_
  refine g_aload_n hX 0 dX7_answerAnew_9 rfl rfl ?_
  refine gCX7_67_43 hX dX7_answerAnew_10 ?_
  refine g_callVI (As := [.int (σ_1.1 43 16)]) (rest := []) hX 43 (Nat.le_of_ble_eq_true rfl) rfl rfl miX7_bestStep mvX7_bestStep lkX7_122 (by decide) rfl (Nat.le_of_ble_eq_true rfl) rfl dX7_answerAnew_13 (fun τ x ho => kX7_bestStep _ ho) h (fun σ_3 t_4 h => ?_)
  refine g_istore_n (lv' := fun x1_5 => [(1, .int x1_5), (0, .ref (a 43))]) hX dX7_answerAnew_16 rfl (by decide) (fun _ => rfl) h (fun x1_5 h => ?_)
  refine g_iload_n hX 0 dX7_answerAnew_17 rfl rfl ?_
  refine g_iconst hX (-1) dX7_answerAnew_18 (by decide) ?_
  refine g_icmp_ne hX 24 dX7_answerAnew_19 (by decide) h (fun h => ?_) (fun h => ?_)
  · refine g_aload_n hX 1 dX7_answerAnew_24 rfl rfl ?_
    refine g_aload_n hX 1 dX7_answerAnew_25 rfl rfl ?_
    refine gCX7_67_43 hX dX7_answerAnew_26 ?_
    refine g_iload_n hX 0 dX7_answerAnew_29 rfl rfl ?_
    refine g_callVV (As := [.int (σ_3.1 43 16), .int x1_5]) (rest := []) hX 43 (Nat.le_of_ble_eq_true rfl) rfl rfl miX7_makeSure mvX7_makeSure lkX7_126 (by decide) rfl (Nat.le_of_ble_eq_true rfl) rfl dX7_answerAnew_30 (fun τ x ho => kX7_makeSure _ ho) h (fun σ_6 t_7 h => ?_)
    refine g_iconst hX (1) dX7_answerAnew_33 (by decide) ?_
    exact g_retz hR (by decide) h dX7_answerAnew_34
  · refine g_iconst hX (0) dX7_answerAnew_22 (by decide) ?_
    exact g_retz hR (by decide) h dX7_answerAnew_23
set_option maxRecDepth 20000 in
set_option maxHeartbeats 4000000 in
theorem kX7_answerAnew (l : Launch) {a : Nat → Nat} {D : va_G} {tI tJ tB tS : ClassId} {kK kV : Nat → Nat} {σ τ : St}   {x : Int32} (h : fX7_answerAnew σ  = some (τ, x)) : CtI l yX7_answerAnew cX7_answerAnew 2 (some .boolean) 3 80 (vC a D tI tJ tB tS kK kV) σ [.ref (a 43)] τ x := g_metZ (by decide) (Nat.le_of_ble_eq_true rfl) rfl (fun X _ hX hR => sX7_answerAnew (r := (τ, x)) hX hR h)
def fX7_settle_L26  (kx26 : St → Int32 → Option (St × Int32)) : Nat → St → Int32 → Option (St × Int32)
  | 0, _, _ => none
  | n26 + 1, σ, c1_26 =>
    (if (σ.1 2 0) ≤ c1_26 then kx26 σ c1_26 else chk (inb c1_26 4) ((jp (fun (σ_7 : St)   => bnd (c1_26 + (1 : Int32)) fun (x1_8 : Int32) => fX7_settle_L26 kx26 n26 σ_7 x1_8) fun j78 => (if (σ.1 23 (ix c1_26)) = (3 : Int32) then (if (σ.1 43 16) = (-1 : Int32) then bnd (sI σ 43 16 c1_26) fun (σ_11 : St) => j78 σ_11 else some (σ, (0 : Int32))) else cl (fX7_takeParts σ c1_26) fun (σ_9 : St) (t_10 : Int32) => (if t_10 = 0 then some (σ_9, (0 : Int32)) else j78 σ_9)))))
def fX7_settle (σ : St)  : Option (St × Int32) :=
  cl (fX7_open σ (σ.1 22 4)) fun (σ_1 : St) (t_2 : Unit) => bnd (sI σ_1 43 16 (-1 : Int32)) fun (σ_3 : St) => cl (fJ7_fill_53178_i45 σ_3 (0 : Int32)) fun (σ_4 : St) (t_5 : Unit) => bnd (0 : Int32) fun (x1_6 : Int32) => fX7_settle_L26  (fun (σ_12 : St) (x1_13 : Int32) => (if (σ_12.1 2 0) ≤ 0 then some (σ_12, (0 : Int32)) else (jp (fun (σ_14 : St)   => some (σ_14, (1 : Int32))) fun j109 => (if (σ_12.1 43 16) = (-1 : Int32) then j109 σ_12 else cl (fX7_answerAnew σ_12 ) fun (σ_15 : St) (t_16 : Int32) => (if t_16 = 0 then some (σ_15, (0 : Int32)) else j109 σ_15))))) FU σ_4 x1_6
set_option maxRecDepth 20000 in
set_option maxHeartbeats 4000000 in
theorem sX7_settle_L26 {X : CX} {a : Nat → Nat} {D : va_G} {tI tJ tB tS : ClassId} {kK kV : Nat → Nat}  {kx26 : St → Int32 → Option (St × Int32)} {r : St × Int32} (hX : OKX X (vC a D tI tJ tB tS kK kV) cX7_settle 2 RX7 5 111) (hR : (r.2 = 0 ∨ r.2 = 1) → ∀ (pc : Nat) (lv : List (Nat × Value)), decode cX7_settle pc = .ok (.ireturn, 1) → G X (vC a D tI tJ tB tS kK kV) 2 r.1 pc lv [.int r.2]) (hkx26 : ∀ (σ : St) (e1_26 : Int32), kx26 σ e1_26 = some r → G X (vC a D tI tJ tB tS kK kV) 2 σ 84 [(0, .ref (a 43))] []) : ∀ (n : Nat) (σ : St) (c1_26 : Int32), fX7_settle_L26 kx26 n σ c1_26 = some r → G X (vC a D tI tJ tB tS kK kV) 2 σ 26 [(0, .ref (a 43)), (1, .int c1_26)] [] := by
  intro n
  induction n with
  | zero => intro σ c1_26 h; rw [fX7_settle_L26] at h; exact absurd h (by simp)
  | succ n26 ih26 =>
    intro σ c1_26 h
    rw [fX7_settle_L26] at h
    refine g_iload_n hX 1 dX7_settle_26 rfl rfl ?_
    refine g_aload_n hX 0 dX7_settle_27 rfl rfl ?_
    refine gCX7_9_43 hX dX7_settle_28 ?_
    refine gCX7_85_2 hX dX7_settle_31 ?_
    refine g_icmp_ge hX 84 dX7_settle_34 (by decide) h (fun h => ?_) (fun h => ?_)
    · exact g_sub [0] rfl (hkx26 _ _ h)
    · refine g_aload_n hX 0 dX7_settle_37 rfl rfl ?_
      refine gCX7_15_43 hX dX7_settle_38 ?_
      refine gCX7_90_22 hX dX7_settle_41 ?_
      refine g_iload_n hX 1 dX7_settle_44 rfl rfl ?_
      refine alC_23 hX dX7_settle_45 h (fun h => ?_)
      refine g_iconst hX (3) dX7_settle_46 (by decide) ?_
      refine jp_inv (P := fun f => ∀ (σ_7 : St)  , f σ_7 = some r → G X (vC a D tI tJ tB tS kK kV) 2 σ_7 78 [(0, .ref (a 43)), (1, .int c1_26)] []) h (fun σ_7 h => ?_) (fun j78 hj78 h => ?_)
      · refine g_iinc (y := (1)) (lv' := fun x1_8 => [(1, .int x1_8), (0, .ref (a 43))]) hX 1 dX7_settle_78 rfl (by decide) (by decide) (fun _ => rfl) h (fun x1_8 h => ?_)
        refine g_goto hX 26 dX7_settle_81 (by decide) ?_
        exact g_sub [1, 0] rfl (ih26 _ _ h)
      refine g_icmp_ne hX 68 dX7_settle_47 (by decide) h (fun h => ?_) (fun h => ?_)
      · refine g_aload_n hX 0 dX7_settle_68 rfl rfl ?_
        refine g_iload_n hX 1 dX7_settle_69 rfl rfl ?_
        refine g_callVI (As := [.int c1_26]) (rest := []) hX 43 (Nat.le_of_ble_eq_true rfl) rfl rfl miX7_takeParts mvX7_takeParts lkX7_93 (by decide) rfl (Nat.le_of_ble_eq_true rfl) rfl dX7_settle_70 (fun τ x ho => kX7_takeParts _ ho) h (fun σ_9 t_10 h => ?_)
        refine g_if_ne hX 78 dX7_settle_73 (by decide) h (fun h => ?_) (fun h => ?_)
        · exact g_sub [0, 1] rfl (hj78 _ h)
        · refine g_iconst hX (0) dX7_settle_76 (by decide) ?_
          exact g_retz hR (by decide) h dX7_settle_77
      · refine g_aload_n hX 0 dX7_settle_50 rfl rfl ?_
        refine gCX7_67_43 hX dX7_settle_51 ?_
        refine g_iconst hX (-1) dX7_settle_54 (by decide) ?_
        refine g_icmp_eq hX 60 dX7_settle_55 (by decide) h (fun h => ?_) (fun h => ?_)
        · refine g_aload_n hX 0 dX7_settle_60 rfl rfl ?_
          refine g_iload_n hX 1 dX7_settle_61 rfl rfl ?_
          refine pCX7_67_43 hX dX7_settle_62 h (fun σ_11 h => ?_)
          refine g_goto hX 78 dX7_settle_65 (by decide) ?_
          exact g_sub [0, 1] rfl (hj78 _ h)
        · refine g_iconst hX (0) dX7_settle_58 (by decide) ?_
          exact g_retz hR (by decide) h dX7_settle_59
set_option maxRecDepth 20000 in
set_option maxHeartbeats 4000000 in
theorem sX7_settle {X : CX} {a : Nat → Nat} {D : va_G} {tI tJ tB tS : ClassId} {kK kV : Nat → Nat} {σ : St}   {r : St × Int32} (hX : OKX X (vC a D tI tJ tB tS kK kV) cX7_settle 2 RX7 5 111) (hR : (r.2 = 0 ∨ r.2 = 1) → ∀ (pc : Nat) (lv : List (Nat × Value)), decode cX7_settle pc = .ok (.ireturn, 1) → G X (vC a D tI tJ tB tS kK kV) 2 r.1 pc lv [.int r.2])  (h : fX7_settle σ  = some r) : G X (vC a D tI tJ tB tS kK kV) 2 σ 0 [(0, .ref (a 43))] [] := by
  unfold fX7_settle at h
  refine g_aload_n hX 0 dX7_settle_0 rfl rfl ?_
  refine g_aload_n hX 0 dX7_settle_1 rfl rfl ?_
  refine gCX7_15_43 hX dX7_settle_2 ?_
  refine gCX7_70_22 hX dX7_settle_5 ?_
  refine g_callVV (As := [.int (σ.1 22 4)]) (rest := []) hX 43 (Nat.le_of_ble_eq_true rfl) rfl rfl miX7_open mvX7_open lkX7_75 (by decide) rfl (Nat.le_of_ble_eq_true rfl) rfl dX7_settle_8 (fun τ x ho => kX7_open _ ho) h (fun σ_1 t_2 h => ?_)
  refine g_aload_n hX 0 dX7_settle_11 rfl rfl ?_
  refine g_iconst hX (-1) dX7_settle_12 (by decide) ?_
  refine pCX7_67_43 hX dX7_settle_13 h (fun σ_3 h => ?_)
  refine g_aload_n hX 0 dX7_settle_16 rfl rfl ?_
  refine gCX7_27_43 hX dX7_settle_17 ?_
  refine g_iconst hX (0) dX7_settle_20 (by decide) ?_
  refine g_callSV (As := [.ref (a 45), .int (0 : Int32)]) (rest := []) hX miJ7_fill_53178 mvJ7_fill_53178 lkX7_79 (by decide) rfl (Nat.le_of_ble_eq_true rfl) rfl dX7_settle_21 (fun τ x ho => kJ7_fill_53178_i45 _ ho) h (fun σ_4 t_5 h => ?_)
  refine g_iconst hX (0) dX7_settle_24 (by decide) ?_
  refine g_istore_n (lv' := fun x1_6 => [(1, .int x1_6), (0, .ref (a 43))]) hX dX7_settle_25 rfl (by decide) (fun _ => rfl) h (fun x1_6 h => ?_)
  refine g_sub [1, 0] rfl (sX7_settle_L26 hX hR (fun σ_12 x1_13 h => ?_) FU _ _ h)
  refine g_aload_n hX 0 dX7_settle_84 rfl rfl ?_
  refine gCX7_9_43 hX dX7_settle_85 ?_
  refine gCX7_85_2 hX dX7_settle_88 ?_
  refine g_if_le hX 113 dX7_settle_91 (by decide) h (fun h => ?_) (fun h => ?_)
  · refine g_iconst hX (0) dX7_settle_113 (by decide) ?_
    exact g_retz hR (by decide) h dX7_settle_114
  · refine g_aload_n hX 0 dX7_settle_94 rfl rfl ?_
    refine gCX7_67_43 hX dX7_settle_95 ?_
    refine g_iconst hX (-1) dX7_settle_98 (by decide) ?_
    refine jp_inv (P := fun f => ∀ (σ_14 : St)  , f σ_14 = some r → G X (vC a D tI tJ tB tS kK kV) 2 σ_14 109 [] []) h (fun σ_14 h => ?_) (fun j109 hj109 h => ?_)
    · refine g_iconst hX (1) dX7_settle_109 (by decide) ?_
      refine g_goto hX 114 dX7_settle_110 (by decide) ?_
      exact g_retz hR (by decide) h dX7_settle_114
    refine g_icmp_eq hX 109 dX7_settle_99 (by decide) h (fun h => ?_) (fun h => ?_)
    · exact g_sub [] rfl (hj109 _ h)
    · refine g_aload_n hX 0 dX7_settle_102 rfl rfl ?_
      refine g_callVI (As := []) (rest := []) hX 43 (Nat.le_of_ble_eq_true rfl) rfl rfl miX7_answerAnew mvX7_answerAnew lkX7_97 (by decide) rfl (Nat.le_of_ble_eq_true rfl) rfl dX7_settle_103 (fun τ x ho => kX7_answerAnew _ ho) h (fun σ_15 t_16 h => ?_)
      refine g_if_eq hX 113 dX7_settle_106 (by decide) h (fun h => ?_) (fun h => ?_)
      · refine g_iconst hX (0) dX7_settle_113 (by decide) ?_
        exact g_retz hR (by decide) h dX7_settle_114
      · exact g_sub [] rfl (hj109 _ h)
set_option maxRecDepth 20000 in
set_option maxHeartbeats 4000000 in
theorem kX7_settle (l : Launch) {a : Nat → Nat} {D : va_G} {tI tJ tB tS : ClassId} {kK kV : Nat → Nat} {σ τ : St}   {x : Int32} (h : fX7_settle σ  = some (τ, x)) : CtI l yX7_settle cX7_settle 2 (some .boolean) 5 111 (vC a D tI tJ tB tS kK kV) σ [.ref (a 43)] τ x := g_metZ (by decide) (Nat.le_of_ble_eq_true rfl) rfl (fun X _ hX hR => sX7_settle (r := (τ, x)) hX hR h)
def fX8_part (σ : St) (p1 : Int32) (p2 : Int32) : Option (St × Int32) :=
  cl (fX6_hasBaker σ p1) fun (σ_1 : St) (t_2 : Int32) => (if t_2 = 0 then some (σ_1, (-1 : Int32)) else cl (fX8_isAnyStep σ_1 p2) fun (σ_3 : St) (t_4 : Int32) => (if t_4 = 0 then some (σ_3, (-1 : Int32)) else cl (fX7_settle σ_3 ) fun (σ_5 : St) (t_6 : Int32) => (if t_6 = 0 then some (σ_5, (-1 : Int32)) else chk (inb ((p1 * (8 : Int32)) + p2) 32) (some (σ_5, (σ_5.1 45 (ix ((p1 * (8 : Int32)) + p2))))))))
set_option maxRecDepth 20000 in
set_option maxHeartbeats 4000000 in
theorem sX8_part {X : CX} {a : Nat → Nat} {D : va_G} {tI tJ tB tS : ClassId} {kK kV : Nat → Nat} {σ : St}  {p1 : Int32} {p2 : Int32} {r : St × Int32} (hX : OKX X (vC a D tI tJ tB tS kK kV) cX8_part 3 RX8 6 132) (hR : ∀ (pc : Nat) (lv : List (Nat × Value)), decode cX8_part pc = .ok (.ireturn, 1) → G X (vC a D tI tJ tB tS kK kV) 3 r.1 pc lv [.int r.2])  (h : fX8_part σ p1 p2 = some r) : G X (vC a D tI tJ tB tS kK kV) 3 σ 0 [(0, .ref (a 0)), (1, .int p1), (2, .int p2)] [] := by
  unfold fX8_part at h
  refine g_aload_n hX 0 dX8_part_0 rfl rfl ?_
  refine gCX8_27_0 hX dX8_part_1 ?_
  refine g_iload_n hX 1 dX8_part_4 rfl rfl ?_
  refine g_callNI (As := [.int p1]) (rest := []) hX 2 (Nat.le_of_ble_eq_true rfl) rfl rfl miX6_hasBaker mvX6_hasBaker lkX8_125 (by decide) rfl (Nat.le_of_ble_eq_true rfl) rfl dX8_part_5 (fun τ x ho => kX6_hasBaker _ ho) h (fun σ_1 t_2 h => ?_)
  refine g_if_eq hX 28 dX8_part_8 (by decide) h (fun h => ?_) (fun h => ?_)
  · refine g_iconst hX (-1) dX8_part_28 (by decide) ?_
    exact g_reti hR h dX8_part_29
  · refine g_iload_n hX 2 dX8_part_11 rfl rfl ?_
    refine g_callSI (As := [.int p2]) (rest := []) hX miX8_isAnyStep mvX8_isAnyStep lkX8_167 (by decide) rfl (Nat.le_of_ble_eq_true rfl) rfl dX8_part_12 (fun τ x ho => kX8_isAnyStep _ ho) h (fun σ_3 t_4 h => ?_)
    refine g_if_eq hX 28 dX8_part_15 (by decide) h (fun h => ?_) (fun h => ?_)
    · refine g_iconst hX (-1) dX8_part_28 (by decide) ?_
      exact g_reti hR h dX8_part_29
    · refine g_aload_n hX 0 dX8_part_18 rfl rfl ?_
      refine gCX8_55_0 hX dX8_part_19 ?_
      refine g_callNI (As := []) (rest := []) hX 43 (Nat.le_of_ble_eq_true rfl) rfl rfl miX7_settle mvX7_settle lkX8_173 (by decide) rfl (Nat.le_of_ble_eq_true rfl) rfl dX8_part_22 (fun τ x ho => kX7_settle _ ho) h (fun σ_5 t_6 h => ?_)
      refine g_if_ne hX 30 dX8_part_25 (by decide) h (fun h => ?_) (fun h => ?_)
      · refine g_aload_n hX 0 dX8_part_30 rfl rfl ?_
        refine gCX8_55_0 hX dX8_part_31 ?_
        refine gCX8_177_43 hX dX8_part_34 ?_
        refine g_iload_n hX 1 dX8_part_37 rfl rfl ?_
        refine g_bipush hX (8) dX8_part_38 (by decide) ?_
        refine g_imul hX dX8_part_40 ?_
        refine g_iload_n hX 2 dX8_part_41 rfl rfl ?_
        refine g_iadd hX dX8_part_42 ?_
        refine alC_45 hX dX8_part_43 h (fun h => ?_)
        exact g_reti hR h dX8_part_44
      · refine g_iconst hX (-1) dX8_part_28 (by decide) ?_
        exact g_reti hR h dX8_part_29
set_option maxRecDepth 20000 in
set_option maxHeartbeats 4000000 in
theorem kX8_part (l : Launch) {a : Nat → Nat} {D : va_G} {tI tJ tB tS : ClassId} {kK kV : Nat → Nat} {σ τ : St}  {p1 : Int32} {p2 : Int32} {x : Int32} (h : fX8_part σ p1 p2 = some (τ, x)) : CtI l yX8_part cX8_part 3 (some .int) 6 132 (vC a D tI tJ tB tS kK kV) σ [.ref (a 0), .int p1, .int p2] τ x := g_metI (by decide) (Nat.le_of_ble_eq_true rfl) rfl (fun X _ hX hR => sX8_part (r := (τ, x)) hX hR h)
def fX7_soldBy_L5 (q1_5 : Int32) (kx5 : St → Int64 → Int32 → Option (St × Int64)) : Nat → St → Int64 → Int32 → Option (St × Int64)
  | 0, _, _, _ => none
  | n5 + 1, σ, c2_5, c4_5 =>
    (if (σ.1 2 2) ≤ c4_5 then kx5 σ c2_5 c4_5 else chk (inb ((q1_5 * (8 : Int32)) + c4_5) 32) (chk (inb c4_5 8) (bnd (c2_5 + ((((σ.1 45 (ix ((q1_5 * (8 : Int32)) + c4_5)))).toInt64) * (σ.2 51 (ix c4_5)))) fun (x2_3 : Int64) => bnd (c4_5 + (1 : Int32)) fun (x4_4 : Int32) => fX7_soldBy_L5 q1_5 kx5 n5 σ x2_3 x4_4)))
def fX7_soldBy (σ : St) (p1 : Int32) : Option (St × Int64) :=
  bnd (0 : Int64) fun (x2_1 : Int64) => bnd (0 : Int32) fun (x4_2 : Int32) => fX7_soldBy_L5 p1 (fun (σ_5 : St) (x2_6 : Int64) (x4_7 : Int32) => some (σ_5, x2_6)) FU σ x2_1 x4_2
set_option maxRecDepth 20000 in
set_option maxHeartbeats 4000000 in
theorem sX7_soldBy_L5 {X : CX} {a : Nat → Nat} {D : va_G} {tI tJ tB tS : ClassId} {kK kV : Nat → Nat} {q1_5 : Int32} {kx5 : St → Int64 → Int32 → Option (St × Int64)} {r : St × Int64} (hX : OKX X (vC a D tI tJ tB tS kK kV) cX7_soldBy 5 RX7 0 0) (hR : ∀ (pc : Nat) (lv : List (Nat × Value)), decode cX7_soldBy pc = .ok (.lreturn, 1) → G X (vC a D tI tJ tB tS kK kV) 5 r.1 pc lv [.long r.2]) (hkx5 : ∀ (σ : St) (e2_5 : Int64) (e4_5 : Int32), kx5 σ e2_5 e4_5 = some r → G X (vC a D tI tJ tB tS kK kV) 5 σ 47 [(2, .long e2_5)] []) : ∀ (n : Nat) (σ : St) (c2_5 : Int64) (c4_5 : Int32), fX7_soldBy_L5 q1_5 kx5 n σ c2_5 c4_5 = some r → G X (vC a D tI tJ tB tS kK kV) 5 σ 5 [(0, .ref (a 43)), (1, .int q1_5), (2, .long c2_5), (4, .int c4_5)] [] := by
  intro n
  induction n with
  | zero => intro σ c2_5 c4_5 h; rw [fX7_soldBy_L5] at h; exact absurd h (by simp)
  | succ n5 ih5 =>
    intro σ c2_5 c4_5 h
    rw [fX7_soldBy_L5] at h
    refine g_iload hX 3 dX7_soldBy_5 rfl ?_
    refine g_aload_n hX 0 dX7_soldBy_7 rfl rfl ?_
    refine gCX7_9_43 hX dX7_soldBy_8 ?_
    refine gCX7_106_2 hX dX7_soldBy_11 ?_
    refine g_icmp_ge hX 47 dX7_soldBy_14 (by decide) h (fun h => ?_) (fun h => ?_)
    · exact g_sub [2] rfl (hkx5 _ _ _ h)
    · refine g_lload_n hX 2 dX7_soldBy_17 rfl rfl ?_
      refine g_aload_n hX 0 dX7_soldBy_18 rfl rfl ?_
      refine gCX7_27_43 hX dX7_soldBy_19 ?_
      refine g_iload_n hX 1 dX7_soldBy_22 rfl rfl ?_
      refine g_bipush hX (8) dX7_soldBy_23 (by decide) ?_
      refine g_imul hX dX7_soldBy_25 ?_
      refine g_iload hX 3 dX7_soldBy_26 rfl ?_
      refine g_iadd hX dX7_soldBy_28 ?_
      refine alC_45 hX dX7_soldBy_29 h (fun h => ?_)
      refine g_i2l hX dX7_soldBy_30 ?_
      refine g_aload_n hX 0 dX7_soldBy_31 rfl rfl ?_
      refine gCX7_45_43 hX dX7_soldBy_32 ?_
      refine g_iload hX 3 dX7_soldBy_35 rfl ?_
      refine alC_51 hX dX7_soldBy_37 h (fun h => ?_)
      refine g_lmul hX dX7_soldBy_38 ?_
      refine g_ladd hX dX7_soldBy_39 ?_
      refine g_lstore_n (lv' := fun x2_3 => [(2, .long x2_3), (0, .ref (a 43)), (1, .int q1_5), (4, .int c4_5)]) hX dX7_soldBy_40 rfl (by decide) (fun _ => rfl) h (fun x2_3 h => ?_)
      refine g_iinc (y := (1)) (lv' := fun x4_4 => [(4, .int x4_4), (2, .long x2_3), (0, .ref (a 43)), (1, .int q1_5)]) hX 3 dX7_soldBy_41 rfl (by decide) (by decide) (fun _ => rfl) h (fun x4_4 h => ?_)
      refine g_goto hX 5 dX7_soldBy_44 (by decide) ?_
      exact g_sub [2, 3, 1, 0] rfl (ih5 _ _ _ h)
set_option maxRecDepth 20000 in
set_option maxHeartbeats 4000000 in
theorem sX7_soldBy {X : CX} {a : Nat → Nat} {D : va_G} {tI tJ tB tS : ClassId} {kK kV : Nat → Nat} {σ : St}  {p1 : Int32} {r : St × Int64} (hX : OKX X (vC a D tI tJ tB tS kK kV) cX7_soldBy 5 RX7 0 0) (hR : ∀ (pc : Nat) (lv : List (Nat × Value)), decode cX7_soldBy pc = .ok (.lreturn, 1) → G X (vC a D tI tJ tB tS kK kV) 5 r.1 pc lv [.long r.2])  (h : fX7_soldBy σ p1 = some r) : G X (vC a D tI tJ tB tS kK kV) 5 σ 0 [(0, .ref (a 43)), (1, .int p1)] [] := by
  unfold fX7_soldBy at h
  refine g_lconst hX (0) dX7_soldBy_0 (by decide) ?_
  refine g_lstore_n (lv' := fun x2_1 => [(2, .long x2_1), (0, .ref (a 43)), (1, .int p1)]) hX dX7_soldBy_1 rfl (by decide) (fun _ => rfl) h (fun x2_1 h => ?_)
  refine g_iconst hX (0) dX7_soldBy_2 (by decide) ?_
  refine g_istore (lv' := fun x4_2 => [(4, .int x4_2), (2, .long x2_1), (0, .ref (a 43)), (1, .int p1)]) hX dX7_soldBy_3 (by decide) (fun _ => rfl) h (fun x4_2 h => ?_)
  refine g_sub [2, 3, 1, 0] rfl (sX7_soldBy_L5 hX hR (fun σ_5 x2_6 x4_7 h => ?_) FU _ _ _ h)
  refine g_lload_n hX 0 dX7_soldBy_47 rfl rfl ?_
  exact g_retl hR h dX7_soldBy_48
set_option maxRecDepth 20000 in
set_option maxHeartbeats 4000000 in
theorem kX7_soldBy (l : Launch) {a : Nat → Nat} {D : va_G} {tI tJ tB tS : ClassId} {kK kV : Nat → Nat} {σ τ : St}  {p1 : Int32} {x : Int64} (h : fX7_soldBy σ p1 = some (τ, x)) : CtL l yX7_soldBy cX7_soldBy 5 (some .long) 0 0 (vC a D tI tJ tB tS kK kV) σ [.ref (a 43), .int p1] τ x := g_metL (by decide) (Nat.le_of_ble_eq_true rfl) rfl (fun X _ hX hR => sX7_soldBy (r := (τ, x)) hX hR h)
def fX8_sold (σ : St) (p1 : Int32) : Option (St × Int64) :=
  cl (fX6_hasBaker σ p1) fun (σ_1 : St) (t_2 : Int32) => (if t_2 = 0 then some (σ_1, (-1 : Int64)) else cl (fX7_settle σ_1 ) fun (σ_3 : St) (t_4 : Int32) => (if t_4 = 0 then some (σ_3, (-1 : Int64)) else cl (fX7_survey σ_3 p1) fun (σ_5 : St) (t_6 : Unit) => cl (fX7_soldBy σ_5 p1) fun (σ_7 : St) (t_8 : Int64) => some (σ_7, t_8)))
set_option maxRecDepth 20000 in
set_option maxHeartbeats 4000000 in
theorem sX8_sold {X : CX} {a : Nat → Nat} {D : va_G} {tI tJ tB tS : ClassId} {kK kV : Nat → Nat} {σ : St}  {p1 : Int32} {r : St × Int64} (hX : OKX X (vC a D tI tJ tB tS kK kV) cX8_sold 2 RX8 6 132) (hR : ∀ (pc : Nat) (lv : List (Nat × Value)), decode cX8_sold pc = .ok (.lreturn, 1) → G X (vC a D tI tJ tB tS kK kV) 2 r.1 pc lv [.long r.2])  (h : fX8_sold σ p1 = some r) : G X (vC a D tI tJ tB tS kK kV) 2 σ 0 [(0, .ref (a 0)), (1, .int p1)] [] := by
  unfold fX8_sold at h
  refine g_aload_n hX 0 dX8_sold_0 rfl rfl ?_
  refine gCX8_27_0 hX dX8_sold_1 ?_
  refine g_iload_n hX 1 dX8_sold_4 rfl rfl ?_
  refine g_callNI (As := [.int p1]) (rest := []) hX 2 (Nat.le_of_ble_eq_true rfl) rfl rfl miX6_hasBaker mvX6_hasBaker lkX8_125 (by decide) rfl (Nat.le_of_ble_eq_true rfl) rfl dX8_sold_5 (fun τ x ho => kX6_hasBaker _ ho) h (fun σ_1 t_2 h => ?_)
  refine g_if_eq hX 21 dX8_sold_8 (by decide) h (fun h => ?_) (fun h => ?_)
  · refine g_ldc2 hX lkX8_178 dX8_sold_21 ?_
    exact g_retl hR h dX8_sold_24
  · refine g_aload_n hX 0 dX8_sold_11 rfl rfl ?_
    refine gCX8_55_0 hX dX8_sold_12 ?_
    refine g_callNI (As := []) (rest := []) hX 43 (Nat.le_of_ble_eq_true rfl) rfl rfl miX7_settle mvX7_settle lkX8_173 (by decide) rfl (Nat.le_of_ble_eq_true rfl) rfl dX8_sold_15 (fun τ x ho => kX7_settle _ ho) h (fun σ_3 t_4 h => ?_)
    refine g_if_ne hX 25 dX8_sold_18 (by decide) h (fun h => ?_) (fun h => ?_)
    · refine g_aload_n hX 0 dX8_sold_25 rfl rfl ?_
      refine gCX8_55_0 hX dX8_sold_26 ?_
      refine g_iload_n hX 1 dX8_sold_29 rfl rfl ?_
      refine g_callNV (As := [.int p1]) (rest := []) hX 43 (Nat.le_of_ble_eq_true rfl) rfl rfl miX7_survey mvX7_survey lkX8_180 (by decide) rfl (Nat.le_of_ble_eq_true rfl) rfl dX8_sold_30 (fun τ x ho => kX7_survey _ ho) h (fun σ_5 t_6 h => ?_)
      refine g_aload_n hX 0 dX8_sold_33 rfl rfl ?_
      refine gCX8_55_0 hX dX8_sold_34 ?_
      refine g_iload_n hX 1 dX8_sold_37 rfl rfl ?_
      refine g_callNL (As := [.int p1]) (rest := []) hX 43 (Nat.le_of_ble_eq_true rfl) rfl rfl miX7_soldBy mvX7_soldBy lkX8_183 (by decide) rfl (Nat.le_of_ble_eq_true rfl) rfl dX8_sold_38 (fun τ x ho => kX7_soldBy _ ho) h (fun σ_7 t_8 h => ?_)
      exact g_retl hR h dX8_sold_41
    · refine g_ldc2 hX lkX8_178 dX8_sold_21 ?_
      exact g_retl hR h dX8_sold_24
set_option maxRecDepth 20000 in
set_option maxHeartbeats 4000000 in
theorem kX8_sold (l : Launch) {a : Nat → Nat} {D : va_G} {tI tJ tB tS : ClassId} {kK kV : Nat → Nat} {σ τ : St}  {p1 : Int32} {x : Int64} (h : fX8_sold σ p1 = some (τ, x)) : CtL l yX8_sold cX8_sold 2 (some .long) 6 132 (vC a D tI tJ tB tS kK kV) σ [.ref (a 0), .int p1] τ x := g_metL (by decide) (Nat.le_of_ble_eq_true rfl) rfl (fun X _ hX hR => sX8_sold (r := (τ, x)) hX hR h)
def fX7_earnedBy_L5 (q1_5 : Int32) (kx5 : St → Int64 → Int32 → Option (St × Int64)) : Nat → St → Int64 → Int32 → Option (St × Int64)
  | 0, _, _, _ => none
  | n5 + 1, σ, c2_5, c4_5 =>
    (if (σ.1 2 2) ≤ c4_5 then kx5 σ c2_5 c4_5 else chk (inb ((q1_5 * (8 : Int32)) + c4_5) 32) (cl (fX7_gainAt σ q1_5 c4_5) fun (σ_3 : St) (t_4 : Int64) => bnd (c2_5 + ((((σ.1 45 (ix ((q1_5 * (8 : Int32)) + c4_5)))).toInt64) * t_4)) fun (x2_5 : Int64) => bnd (c4_5 + (1 : Int32)) fun (x4_6 : Int32) => fX7_earnedBy_L5 q1_5 kx5 n5 σ_3 x2_5 x4_6))
def fX7_earnedBy (σ : St) (p1 : Int32) : Option (St × Int64) :=
  bnd (0 : Int64) fun (x2_1 : Int64) => bnd (0 : Int32) fun (x4_2 : Int32) => fX7_earnedBy_L5 p1 (fun (σ_7 : St) (x2_8 : Int64) (x4_9 : Int32) => some (σ_7, x2_8)) FU σ x2_1 x4_2
set_option maxRecDepth 20000 in
set_option maxHeartbeats 4000000 in
theorem sX7_earnedBy_L5 {X : CX} {a : Nat → Nat} {D : va_G} {tI tJ tB tS : ClassId} {kK kV : Nat → Nat} {q1_5 : Int32} {kx5 : St → Int64 → Int32 → Option (St × Int64)} {r : St × Int64} (hX : OKX X (vC a D tI tJ tB tS kK kV) cX7_earnedBy 5 RX7 1 22) (hR : ∀ (pc : Nat) (lv : List (Nat × Value)), decode cX7_earnedBy pc = .ok (.lreturn, 1) → G X (vC a D tI tJ tB tS kK kV) 5 r.1 pc lv [.long r.2]) (hkx5 : ∀ (σ : St) (e2_5 : Int64) (e4_5 : Int32), kx5 σ e2_5 e4_5 = some r → G X (vC a D tI tJ tB tS kK kV) 5 σ 47 [(2, .long e2_5)] []) : ∀ (n : Nat) (σ : St) (c2_5 : Int64) (c4_5 : Int32), fX7_earnedBy_L5 q1_5 kx5 n σ c2_5 c4_5 = some r → G X (vC a D tI tJ tB tS kK kV) 5 σ 5 [(0, .ref (a 43)), (1, .int q1_5), (2, .long c2_5), (4, .int c4_5)] [] := by
  intro n
  induction n with
  | zero => intro σ c2_5 c4_5 h; rw [fX7_earnedBy_L5] at h; exact absurd h (by simp)
  | succ n5 ih5 =>
    intro σ c2_5 c4_5 h
    rw [fX7_earnedBy_L5] at h
    refine g_iload hX 3 dX7_earnedBy_5 rfl ?_
    refine g_aload_n hX 0 dX7_earnedBy_7 rfl rfl ?_
    refine gCX7_9_43 hX dX7_earnedBy_8 ?_
    refine gCX7_106_2 hX dX7_earnedBy_11 ?_
    refine g_icmp_ge hX 47 dX7_earnedBy_14 (by decide) h (fun h => ?_) (fun h => ?_)
    · exact g_sub [2] rfl (hkx5 _ _ _ h)
    · refine g_lload_n hX 2 dX7_earnedBy_17 rfl rfl ?_
      refine g_aload_n hX 0 dX7_earnedBy_18 rfl rfl ?_
      refine gCX7_27_43 hX dX7_earnedBy_19 ?_
      refine g_iload_n hX 1 dX7_earnedBy_22 rfl rfl ?_
      refine g_bipush hX (8) dX7_earnedBy_23 (by decide) ?_
      refine g_imul hX dX7_earnedBy_25 ?_
      refine g_iload hX 3 dX7_earnedBy_26 rfl ?_
      refine g_iadd hX dX7_earnedBy_28 ?_
      refine alC_45 hX dX7_earnedBy_29 h (fun h => ?_)
      refine g_i2l hX dX7_earnedBy_30 ?_
      refine g_aload_n hX 0 dX7_earnedBy_31 rfl rfl ?_
      refine g_iload_n hX 1 dX7_earnedBy_32 rfl rfl ?_
      refine g_iload hX 3 dX7_earnedBy_33 rfl ?_
      refine g_callVL (As := [.int q1_5, .int c4_5]) (rest := [.long (((σ.1 45 (ix ((q1_5 * (8 : Int32)) + c4_5)))).toInt64), .long c2_5]) hX 43 (Nat.le_of_ble_eq_true rfl) rfl rfl miX7_gainAt mvX7_gainAt lkX7_194 (by decide) rfl (Nat.le_of_ble_eq_true rfl) rfl dX7_earnedBy_35 (fun τ x ho => kX7_gainAt _ ho) h (fun σ_3 t_4 h => ?_)
      refine g_lmul hX dX7_earnedBy_38 ?_
      refine g_ladd hX dX7_earnedBy_39 ?_
      refine g_lstore_n (lv' := fun x2_5 => [(2, .long x2_5), (0, .ref (a 43)), (1, .int q1_5), (4, .int c4_5)]) hX dX7_earnedBy_40 rfl (by decide) (fun _ => rfl) h (fun x2_5 h => ?_)
      refine g_iinc (y := (1)) (lv' := fun x4_6 => [(4, .int x4_6), (2, .long x2_5), (0, .ref (a 43)), (1, .int q1_5)]) hX 3 dX7_earnedBy_41 rfl (by decide) (by decide) (fun _ => rfl) h (fun x4_6 h => ?_)
      refine g_goto hX 5 dX7_earnedBy_44 (by decide) ?_
      exact g_sub [2, 3, 1, 0] rfl (ih5 _ _ _ h)
set_option maxRecDepth 20000 in
set_option maxHeartbeats 4000000 in
theorem sX7_earnedBy {X : CX} {a : Nat → Nat} {D : va_G} {tI tJ tB tS : ClassId} {kK kV : Nat → Nat} {σ : St}  {p1 : Int32} {r : St × Int64} (hX : OKX X (vC a D tI tJ tB tS kK kV) cX7_earnedBy 5 RX7 1 22) (hR : ∀ (pc : Nat) (lv : List (Nat × Value)), decode cX7_earnedBy pc = .ok (.lreturn, 1) → G X (vC a D tI tJ tB tS kK kV) 5 r.1 pc lv [.long r.2])  (h : fX7_earnedBy σ p1 = some r) : G X (vC a D tI tJ tB tS kK kV) 5 σ 0 [(0, .ref (a 43)), (1, .int p1)] [] := by
  unfold fX7_earnedBy at h
  refine g_lconst hX (0) dX7_earnedBy_0 (by decide) ?_
  refine g_lstore_n (lv' := fun x2_1 => [(2, .long x2_1), (0, .ref (a 43)), (1, .int p1)]) hX dX7_earnedBy_1 rfl (by decide) (fun _ => rfl) h (fun x2_1 h => ?_)
  refine g_iconst hX (0) dX7_earnedBy_2 (by decide) ?_
  refine g_istore (lv' := fun x4_2 => [(4, .int x4_2), (2, .long x2_1), (0, .ref (a 43)), (1, .int p1)]) hX dX7_earnedBy_3 (by decide) (fun _ => rfl) h (fun x4_2 h => ?_)
  refine g_sub [2, 3, 1, 0] rfl (sX7_earnedBy_L5 hX hR (fun σ_7 x2_8 x4_9 h => ?_) FU _ _ _ h)
  refine g_lload_n hX 0 dX7_earnedBy_47 rfl rfl ?_
  exact g_retl hR h dX7_earnedBy_48
set_option maxRecDepth 20000 in
set_option maxHeartbeats 4000000 in
theorem kX7_earnedBy (l : Launch) {a : Nat → Nat} {D : va_G} {tI tJ tB tS : ClassId} {kK kV : Nat → Nat} {σ τ : St}  {p1 : Int32} {x : Int64} (h : fX7_earnedBy σ p1 = some (τ, x)) : CtL l yX7_earnedBy cX7_earnedBy 5 (some .long) 1 22 (vC a D tI tJ tB tS kK kV) σ [.ref (a 43), .int p1] τ x := g_metL (by decide) (Nat.le_of_ble_eq_true rfl) rfl (fun X _ hX hR => sX7_earnedBy (r := (τ, x)) hX hR h)
def fX8_earns (σ : St) (p1 : Int32) : Option (St × Int64) :=
  cl (fX6_hasBaker σ p1) fun (σ_1 : St) (t_2 : Int32) => (if t_2 = 0 then some (σ_1, (-1000000000000000000 : Int64)) else cl (fX7_settle σ_1 ) fun (σ_3 : St) (t_4 : Int32) => (if t_4 = 0 then some (σ_3, (-1000000000000000000 : Int64)) else cl (fX7_survey σ_3 p1) fun (σ_5 : St) (t_6 : Unit) => cl (fX7_earnedBy σ_5 p1) fun (σ_7 : St) (t_8 : Int64) => some (σ_7, t_8)))
set_option maxRecDepth 20000 in
set_option maxHeartbeats 4000000 in
theorem sX8_earns {X : CX} {a : Nat → Nat} {D : va_G} {tI tJ tB tS : ClassId} {kK kV : Nat → Nat} {σ : St}  {p1 : Int32} {r : St × Int64} (hX : OKX X (vC a D tI tJ tB tS kK kV) cX8_earns 2 RX8 6 132) (hR : ∀ (pc : Nat) (lv : List (Nat × Value)), decode cX8_earns pc = .ok (.lreturn, 1) → G X (vC a D tI tJ tB tS kK kV) 2 r.1 pc lv [.long r.2])  (h : fX8_earns σ p1 = some r) : G X (vC a D tI tJ tB tS kK kV) 2 σ 0 [(0, .ref (a 0)), (1, .int p1)] [] := by
  unfold fX8_earns at h
  refine g_aload_n hX 0 dX8_earns_0 rfl rfl ?_
  refine gCX8_27_0 hX dX8_earns_1 ?_
  refine g_iload_n hX 1 dX8_earns_4 rfl rfl ?_
  refine g_callNI (As := [.int p1]) (rest := []) hX 2 (Nat.le_of_ble_eq_true rfl) rfl rfl miX6_hasBaker mvX6_hasBaker lkX8_125 (by decide) rfl (Nat.le_of_ble_eq_true rfl) rfl dX8_earns_5 (fun τ x ho => kX6_hasBaker _ ho) h (fun σ_1 t_2 h => ?_)
  refine g_if_eq hX 21 dX8_earns_8 (by decide) h (fun h => ?_) (fun h => ?_)
  · refine g_ldc2 hX lkX8_187 dX8_earns_21 ?_
    exact g_retl hR h dX8_earns_24
  · refine g_aload_n hX 0 dX8_earns_11 rfl rfl ?_
    refine gCX8_55_0 hX dX8_earns_12 ?_
    refine g_callNI (As := []) (rest := []) hX 43 (Nat.le_of_ble_eq_true rfl) rfl rfl miX7_settle mvX7_settle lkX8_173 (by decide) rfl (Nat.le_of_ble_eq_true rfl) rfl dX8_earns_15 (fun τ x ho => kX7_settle _ ho) h (fun σ_3 t_4 h => ?_)
    refine g_if_ne hX 25 dX8_earns_18 (by decide) h (fun h => ?_) (fun h => ?_)
    · refine g_aload_n hX 0 dX8_earns_25 rfl rfl ?_
      refine gCX8_55_0 hX dX8_earns_26 ?_
      refine g_iload_n hX 1 dX8_earns_29 rfl rfl ?_
      refine g_callNV (As := [.int p1]) (rest := []) hX 43 (Nat.le_of_ble_eq_true rfl) rfl rfl miX7_survey mvX7_survey lkX8_180 (by decide) rfl (Nat.le_of_ble_eq_true rfl) rfl dX8_earns_30 (fun τ x ho => kX7_survey _ ho) h (fun σ_5 t_6 h => ?_)
      refine g_aload_n hX 0 dX8_earns_33 rfl rfl ?_
      refine gCX8_55_0 hX dX8_earns_34 ?_
      refine g_iload_n hX 1 dX8_earns_37 rfl rfl ?_
      refine g_callNL (As := [.int p1]) (rest := []) hX 43 (Nat.le_of_ble_eq_true rfl) rfl rfl miX7_earnedBy mvX7_earnedBy lkX8_189 (by decide) rfl (Nat.le_of_ble_eq_true rfl) rfl dX8_earns_38 (fun τ x ho => kX7_earnedBy _ ho) h (fun σ_7 t_8 h => ?_)
      exact g_retl hR h dX8_earns_41
    · refine g_ldc2 hX lkX8_187 dX8_earns_21 ?_
      exact g_retl hR h dX8_earns_24
set_option maxRecDepth 20000 in
set_option maxHeartbeats 4000000 in
theorem kX8_earns (l : Launch) {a : Nat → Nat} {D : va_G} {tI tJ tB tS : ClassId} {kK kV : Nat → Nat} {σ τ : St}  {p1 : Int32} {x : Int64} (h : fX8_earns σ p1 = some (τ, x)) : CtL l yX8_earns cX8_earns 2 (some .long) 6 132 (vC a D tI tJ tB tS kK kV) σ [.ref (a 0), .int p1] τ x := g_metL (by decide) (Nat.le_of_ble_eq_true rfl) rfl (fun X _ hX hR => sX8_earns (r := (τ, x)) hX hR h)
def fX7_earnedAt (σ : St) (p1 : Int32) (p2 : Int32) : Option (St × Int64) :=
  cl (fX7_gainAt σ p1 p2) fun (σ_1 : St) (t_2 : Int64) => some (σ_1, ((100 : Int64) * t_2))
set_option maxRecDepth 20000 in
set_option maxHeartbeats 4000000 in
theorem sX7_earnedAt {X : CX} {a : Nat → Nat} {D : va_G} {tI tJ tB tS : ClassId} {kK kV : Nat → Nat} {σ : St}  {p1 : Int32} {p2 : Int32} {r : St × Int64} (hX : OKX X (vC a D tI tJ tB tS kK kV) cX7_earnedAt 3 RX7 1 22) (hR : ∀ (pc : Nat) (lv : List (Nat × Value)), decode cX7_earnedAt pc = .ok (.lreturn, 1) → G X (vC a D tI tJ tB tS kK kV) 3 r.1 pc lv [.long r.2])  (h : fX7_earnedAt σ p1 p2 = some r) : G X (vC a D tI tJ tB tS kK kV) 3 σ 0 [(0, .ref (a 43)), (1, .int p1), (2, .int p2)] [] := by
  unfold fX7_earnedAt at h
  refine g_ldc2 hX lkX7_198 dX7_earnedAt_0 ?_
  refine g_aload_n hX 0 dX7_earnedAt_3 rfl rfl ?_
  refine g_iload_n hX 1 dX7_earnedAt_4 rfl rfl ?_
  refine g_iload_n hX 2 dX7_earnedAt_5 rfl rfl ?_
  refine g_callVL (As := [.int p1, .int p2]) (rest := [.long (100 : Int64)]) hX 43 (Nat.le_of_ble_eq_true rfl) rfl rfl miX7_gainAt mvX7_gainAt lkX7_194 (by decide) rfl (Nat.le_of_ble_eq_true rfl) rfl dX7_earnedAt_6 (fun τ x ho => kX7_gainAt _ ho) h (fun σ_1 t_2 h => ?_)
  refine g_lmul hX dX7_earnedAt_9 ?_
  exact g_retl hR h dX7_earnedAt_10
set_option maxRecDepth 20000 in
set_option maxHeartbeats 4000000 in
theorem kX7_earnedAt (l : Launch) {a : Nat → Nat} {D : va_G} {tI tJ tB tS : ClassId} {kK kV : Nat → Nat} {σ τ : St}  {p1 : Int32} {p2 : Int32} {x : Int64} (h : fX7_earnedAt σ p1 p2 = some (τ, x)) : CtL l yX7_earnedAt cX7_earnedAt 3 (some .long) 1 22 (vC a D tI tJ tB tS kK kV) σ [.ref (a 43), .int p1, .int p2] τ x := g_metL (by decide) (Nat.le_of_ble_eq_true rfl) rfl (fun X _ hX hR => sX7_earnedAt (r := (τ, x)) hX hR h)
def fX8_at (σ : St) (p1 : Int32) (p2 : Int32) : Option (St × Int64) :=
  cl (fX6_hasBaker σ p1) fun (σ_1 : St) (t_2 : Int32) => (if t_2 = 0 then some (σ_1, (-1000000000000000000 : Int64)) else cl (fX6_hasStep σ_1 p2) fun (σ_3 : St) (t_4 : Int32) => (if t_4 = 0 then some (σ_3, (-1000000000000000000 : Int64)) else cl (fX7_settle σ_3 ) fun (σ_5 : St) (t_6 : Int32) => (if t_6 = 0 then some (σ_5, (-1000000000000000000 : Int64)) else cl (fX7_survey σ_5 p1) fun (σ_7 : St) (t_8 : Unit) => cl (fX7_earnedAt σ_7 p1 p2) fun (σ_9 : St) (t_10 : Int64) => some (σ_9, t_10))))
set_option maxRecDepth 20000 in
set_option maxHeartbeats 4000000 in
theorem sX8_at {X : CX} {a : Nat → Nat} {D : va_G} {tI tJ tB tS : ClassId} {kK kV : Nat → Nat} {σ : St}  {p1 : Int32} {p2 : Int32} {r : St × Int64} (hX : OKX X (vC a D tI tJ tB tS kK kV) cX8_at 3 RX8 6 132) (hR : ∀ (pc : Nat) (lv : List (Nat × Value)), decode cX8_at pc = .ok (.lreturn, 1) → G X (vC a D tI tJ tB tS kK kV) 3 r.1 pc lv [.long r.2])  (h : fX8_at σ p1 p2 = some r) : G X (vC a D tI tJ tB tS kK kV) 3 σ 0 [(0, .ref (a 0)), (1, .int p1), (2, .int p2)] [] := by
  unfold fX8_at at h
  refine g_aload_n hX 0 dX8_at_0 rfl rfl ?_
  refine gCX8_27_0 hX dX8_at_1 ?_
  refine g_iload_n hX 1 dX8_at_4 rfl rfl ?_
  refine g_callNI (As := [.int p1]) (rest := []) hX 2 (Nat.le_of_ble_eq_true rfl) rfl rfl miX6_hasBaker mvX6_hasBaker lkX8_125 (by decide) rfl (Nat.le_of_ble_eq_true rfl) rfl dX8_at_5 (fun τ x ho => kX6_hasBaker _ ho) h (fun σ_1 t_2 h => ?_)
  refine g_if_eq hX 32 dX8_at_8 (by decide) h (fun h => ?_) (fun h => ?_)
  · refine g_ldc2 hX lkX8_187 dX8_at_32 ?_
    exact g_retl hR h dX8_at_35
  · refine g_aload_n hX 0 dX8_at_11 rfl rfl ?_
    refine gCX8_27_0 hX dX8_at_12 ?_
    refine g_iload_n hX 2 dX8_at_15 rfl rfl ?_
    refine g_callNI (As := [.int p2]) (rest := []) hX 2 (Nat.le_of_ble_eq_true rfl) rfl rfl miX6_hasStep mvX6_hasStep lkX8_157 (by decide) rfl (Nat.le_of_ble_eq_true rfl) rfl dX8_at_16 (fun τ x ho => kX6_hasStep _ ho) h (fun σ_3 t_4 h => ?_)
    refine g_if_eq hX 32 dX8_at_19 (by decide) h (fun h => ?_) (fun h => ?_)
    · refine g_ldc2 hX lkX8_187 dX8_at_32 ?_
      exact g_retl hR h dX8_at_35
    · refine g_aload_n hX 0 dX8_at_22 rfl rfl ?_
      refine gCX8_55_0 hX dX8_at_23 ?_
      refine g_callNI (As := []) (rest := []) hX 43 (Nat.le_of_ble_eq_true rfl) rfl rfl miX7_settle mvX7_settle lkX8_173 (by decide) rfl (Nat.le_of_ble_eq_true rfl) rfl dX8_at_26 (fun τ x ho => kX7_settle _ ho) h (fun σ_5 t_6 h => ?_)
      refine g_if_ne hX 36 dX8_at_29 (by decide) h (fun h => ?_) (fun h => ?_)
      · refine g_aload_n hX 0 dX8_at_36 rfl rfl ?_
        refine gCX8_55_0 hX dX8_at_37 ?_
        refine g_iload_n hX 1 dX8_at_40 rfl rfl ?_
        refine g_callNV (As := [.int p1]) (rest := []) hX 43 (Nat.le_of_ble_eq_true rfl) rfl rfl miX7_survey mvX7_survey lkX8_180 (by decide) rfl (Nat.le_of_ble_eq_true rfl) rfl dX8_at_41 (fun τ x ho => kX7_survey _ ho) h (fun σ_7 t_8 h => ?_)
        refine g_aload_n hX 0 dX8_at_44 rfl rfl ?_
        refine gCX8_55_0 hX dX8_at_45 ?_
        refine g_iload_n hX 1 dX8_at_48 rfl rfl ?_
        refine g_iload_n hX 2 dX8_at_49 rfl rfl ?_
        refine g_callNL (As := [.int p1, .int p2]) (rest := []) hX 43 (Nat.le_of_ble_eq_true rfl) rfl rfl miX7_earnedAt mvX7_earnedAt lkX8_192 (by decide) rfl (Nat.le_of_ble_eq_true rfl) rfl dX8_at_50 (fun τ x ho => kX7_earnedAt _ ho) h (fun σ_9 t_10 h => ?_)
        exact g_retl hR h dX8_at_53
      · refine g_ldc2 hX lkX8_187 dX8_at_32 ?_
        exact g_retl hR h dX8_at_35
set_option maxRecDepth 20000 in
set_option maxHeartbeats 4000000 in
theorem kX8_at (l : Launch) {a : Nat → Nat} {D : va_G} {tI tJ tB tS : ClassId} {kK kV : Nat → Nat} {σ τ : St}  {p1 : Int32} {p2 : Int32} {x : Int64} (h : fX8_at σ p1 p2 = some (τ, x)) : CtL l yX8_at cX8_at 3 (some .long) 6 132 (vC a D tI tJ tB tS kK kV) σ [.ref (a 0), .int p1, .int p2] τ x := g_metL (by decide) (Nat.le_of_ble_eq_true rfl) rfl (fun X _ hX hR => sX8_at (r := (τ, x)) hX hR h)
def fX8_best (σ : St) (p1 : Int32) : Option (St × Int32) :=
  cl (fX6_hasBaker σ p1) fun (σ_1 : St) (t_2 : Int32) => (if t_2 = 0 then some (σ_1, (-1 : Int32)) else cl (fX7_settle σ_1 ) fun (σ_3 : St) (t_4 : Int32) => (if t_4 = 0 then some (σ_3, (-1 : Int32)) else cl (fX7_survey σ_3 p1) fun (σ_5 : St) (t_6 : Unit) => cl (fX7_bestStep σ_5 p1) fun (σ_7 : St) (t_8 : Int32) => some (σ_7, t_8)))
set_option maxRecDepth 20000 in
set_option maxHeartbeats 4000000 in
theorem sX8_best {X : CX} {a : Nat → Nat} {D : va_G} {tI tJ tB tS : ClassId} {kK kV : Nat → Nat} {σ : St}  {p1 : Int32} {r : St × Int32} (hX : OKX X (vC a D tI tJ tB tS kK kV) cX8_best 2 RX8 6 132) (hR : ∀ (pc : Nat) (lv : List (Nat × Value)), decode cX8_best pc = .ok (.ireturn, 1) → G X (vC a D tI tJ tB tS kK kV) 2 r.1 pc lv [.int r.2])  (h : fX8_best σ p1 = some r) : G X (vC a D tI tJ tB tS kK kV) 2 σ 0 [(0, .ref (a 0)), (1, .int p1)] [] := by
  unfold fX8_best at h
  refine g_aload_n hX 0 dX8_best_0 rfl rfl ?_
  refine gCX8_27_0 hX dX8_best_1 ?_
  refine g_iload_n hX 1 dX8_best_4 rfl rfl ?_
  refine g_callNI (As := [.int p1]) (rest := []) hX 2 (Nat.le_of_ble_eq_true rfl) rfl rfl miX6_hasBaker mvX6_hasBaker lkX8_125 (by decide) rfl (Nat.le_of_ble_eq_true rfl) rfl dX8_best_5 (fun τ x ho => kX6_hasBaker _ ho) h (fun σ_1 t_2 h => ?_)
  refine g_if_eq hX 21 dX8_best_8 (by decide) h (fun h => ?_) (fun h => ?_)
  · refine g_iconst hX (-1) dX8_best_21 (by decide) ?_
    exact g_reti hR h dX8_best_22
  · refine g_aload_n hX 0 dX8_best_11 rfl rfl ?_
    refine gCX8_55_0 hX dX8_best_12 ?_
    refine g_callNI (As := []) (rest := []) hX 43 (Nat.le_of_ble_eq_true rfl) rfl rfl miX7_settle mvX7_settle lkX8_173 (by decide) rfl (Nat.le_of_ble_eq_true rfl) rfl dX8_best_15 (fun τ x ho => kX7_settle _ ho) h (fun σ_3 t_4 h => ?_)
    refine g_if_ne hX 23 dX8_best_18 (by decide) h (fun h => ?_) (fun h => ?_)
    · refine g_aload_n hX 0 dX8_best_23 rfl rfl ?_
      refine gCX8_55_0 hX dX8_best_24 ?_
      refine g_iload_n hX 1 dX8_best_27 rfl rfl ?_
      refine g_callNV (As := [.int p1]) (rest := []) hX 43 (Nat.le_of_ble_eq_true rfl) rfl rfl miX7_survey mvX7_survey lkX8_180 (by decide) rfl (Nat.le_of_ble_eq_true rfl) rfl dX8_best_28 (fun τ x ho => kX7_survey _ ho) h (fun σ_5 t_6 h => ?_)
      refine g_aload_n hX 0 dX8_best_31 rfl rfl ?_
      refine gCX8_55_0 hX dX8_best_32 ?_
      refine g_iload_n hX 1 dX8_best_35 rfl rfl ?_
      refine g_callNI (As := [.int p1]) (rest := []) hX 43 (Nat.le_of_ble_eq_true rfl) rfl rfl miX7_bestStep mvX7_bestStep lkX8_196 (by decide) rfl (Nat.le_of_ble_eq_true rfl) rfl dX8_best_36 (fun τ x ho => kX7_bestStep _ ho) h (fun σ_7 t_8 h => ?_)
      exact g_reti hR h dX8_best_39
    · refine g_iconst hX (-1) dX8_best_21 (by decide) ?_
      exact g_reti hR h dX8_best_22
set_option maxRecDepth 20000 in
set_option maxHeartbeats 4000000 in
theorem kX8_best (l : Launch) {a : Nat → Nat} {D : va_G} {tI tJ tB tS : ClassId} {kK kV : Nat → Nat} {σ τ : St}  {p1 : Int32} {x : Int32} (h : fX8_best σ p1 = some (τ, x)) : CtI l yX8_best cX8_best 2 (some .int) 6 132 (vC a D tI tJ tB tS kK kV) σ [.ref (a 0), .int p1] τ x := g_metI (by decide) (Nat.le_of_ble_eq_true rfl) rfl (fun X _ hX hR => sX8_best (r := (τ, x)) hX hR h)
def fX7_betterStep (σ : St) (p1 : Int32) : Option (St × Int32) :=
  cl (fX7_survey σ p1) fun (σ_1 : St) (t_2 : Unit) => cl (fX7_bestStep σ_1 p1) fun (σ_3 : St) (t_4 : Int32) => bnd t_4 fun (x2_5 : Int32) => (if x2_5 = (-1 : Int32) then some (σ_3, (-1 : Int32)) else cl (fX7_earnedAt σ_3 p1 x2_5) fun (σ_6 : St) (t_7 : Int64) => cl (fX7_earnedBy σ_6 p1) fun (σ_8 : St) (t_9 : Int64) => (if (lg_cmp t_7 t_9) ≤ 0 then some (σ_8, (-1 : Int32)) else some (σ_8, x2_5)))
set_option maxRecDepth 20000 in
set_option maxHeartbeats 4000000 in
theorem sX7_betterStep {X : CX} {a : Nat → Nat} {D : va_G} {tI tJ tB tS : ClassId} {kK kV : Nat → Nat} {σ : St}  {p1 : Int32} {r : St × Int32} (hX : OKX X (vC a D tI tJ tB tS kK kV) cX7_betterStep 3 RX7 3 80) (hR : ∀ (pc : Nat) (lv : List (Nat × Value)), decode cX7_betterStep pc = .ok (.ireturn, 1) → G X (vC a D tI tJ tB tS kK kV) 3 r.1 pc lv [.int r.2])  (h : fX7_betterStep σ p1 = some r) : G X (vC a D tI tJ tB tS kK kV) 3 σ 0 [(0, .ref (a 43)), (1, .int p1)] [] := by
  unfold fX7_betterStep at h
  refine g_aload_n hX 0 dX7_betterStep_0 rfl rfl ?_
  refine g_iload_n hX 1 dX7_betterStep_1 rfl rfl ?_
  refine g_callVV (As := [.int p1]) (rest := []) hX 43 (Nat.le_of_ble_eq_true rfl) rfl rfl miX7_survey mvX7_survey lkX7_119 (by decide) rfl (Nat.le_of_ble_eq_true rfl) rfl dX7_betterStep_2 (fun τ x ho => kX7_survey _ ho) h (fun σ_1 t_2 h => ?_)
  refine g_aload_n hX 0 dX7_betterStep_5 rfl rfl ?_
  refine g_iload_n hX 1 dX7_betterStep_6 rfl rfl ?_
  refine g_callVI (As := [.int p1]) (rest := []) hX 43 (Nat.le_of_ble_eq_true rfl) rfl rfl miX7_bestStep mvX7_bestStep lkX7_122 (by decide) rfl (Nat.le_of_ble_eq_true rfl) rfl dX7_betterStep_7 (fun τ x ho => kX7_bestStep _ ho) h (fun σ_3 t_4 h => ?_)
  refine g_istore_n (lv' := fun x2_5 => [(2, .int x2_5), (0, .ref (a 43)), (1, .int p1)]) hX dX7_betterStep_10 rfl (by decide) (fun _ => rfl) h (fun x2_5 h => ?_)
  refine g_iload_n hX 0 dX7_betterStep_11 rfl rfl ?_
  refine g_iconst hX (-1) dX7_betterStep_12 (by decide) ?_
  refine g_icmp_eq hX 35 dX7_betterStep_13 (by decide) h (fun h => ?_) (fun h => ?_)
  · refine g_iconst hX (-1) dX7_betterStep_35 (by decide) ?_
    exact g_reti hR h dX7_betterStep_36
  · refine g_aload_n hX 1 dX7_betterStep_16 rfl rfl ?_
    refine g_iload_n hX 2 dX7_betterStep_17 rfl rfl ?_
    refine g_iload_n hX 0 dX7_betterStep_18 rfl rfl ?_
    refine g_callVL (As := [.int p1, .int x2_5]) (rest := []) hX 43 (Nat.le_of_ble_eq_true rfl) rfl rfl miX7_earnedAt mvX7_earnedAt lkX7_200 (by decide) rfl (Nat.le_of_ble_eq_true rfl) rfl dX7_betterStep_19 (fun τ x ho => kX7_earnedAt _ ho) h (fun σ_6 t_7 h => ?_)
    refine g_aload_n hX 1 dX7_betterStep_22 rfl rfl ?_
    refine g_iload_n hX 2 dX7_betterStep_23 rfl rfl ?_
    refine g_callVL (As := [.int p1]) (rest := [.long t_7]) hX 43 (Nat.le_of_ble_eq_true rfl) rfl rfl miX7_earnedBy mvX7_earnedBy lkX7_203 (by decide) rfl (Nat.le_of_ble_eq_true rfl) rfl dX7_betterStep_24 (fun τ x ho => kX7_earnedBy _ ho) h (fun σ_8 t_9 h => ?_)
    refine g_lcmp hX dX7_betterStep_27 ?_
    refine g_if_le hX 35 dX7_betterStep_28 (by decide) h (fun h => ?_) (fun h => ?_)
    · refine g_iconst hX (-1) dX7_betterStep_35 (by decide) ?_
      exact g_reti hR h dX7_betterStep_36
    · refine g_iload_n hX 0 dX7_betterStep_31 rfl rfl ?_
      refine g_goto hX 36 dX7_betterStep_32 (by decide) ?_
      exact g_reti hR h dX7_betterStep_36
set_option maxRecDepth 20000 in
set_option maxHeartbeats 4000000 in
theorem kX7_betterStep (l : Launch) {a : Nat → Nat} {D : va_G} {tI tJ tB tS : ClassId} {kK kV : Nat → Nat} {σ τ : St}  {p1 : Int32} {x : Int32} (h : fX7_betterStep σ p1 = some (τ, x)) : CtI l yX7_betterStep cX7_betterStep 3 (some .int) 3 80 (vC a D tI tJ tB tS kK kV) σ [.ref (a 43), .int p1] τ x := g_metI (by decide) (Nat.le_of_ble_eq_true rfl) rfl (fun X _ hX hR => sX7_betterStep (r := (τ, x)) hX hR h)
def fX8_judge_L15  (kx15 : St → Int32 → Option (St × Int32)) : Nat → St → Int32 → Option (St × Int32)
  | 0, _, _ => none
  | n15 + 1, σ, c1_15 =>
    (if (σ.1 2 0) ≤ c1_15 then kx15 σ c1_15 else cl (fX7_betterStep σ c1_15) fun (σ_4 : St) (t_5 : Int32) => bnd t_5 fun (x2_6 : Int32) => (if x2_6 = (-1 : Int32) then bnd (c1_15 + (1 : Int32)) fun (x1_7 : Int32) => fX8_judge_L15 kx15 n15 σ_4 x1_7 else some (σ_4, (((10 : Int32) * c1_15) + x2_6))))
def fX8_judge (σ : St)  : Option (St × Int32) :=
  cl (fX7_settle σ ) fun (σ_1 : St) (t_2 : Int32) => (if t_2 = 0 then some (σ_1, (-2 : Int32)) else bnd (0 : Int32) fun (x1_3 : Int32) => fX8_judge_L15  (fun (σ_8 : St) (x1_9 : Int32) => some (σ_8, (-1 : Int32))) FU σ_1 x1_3)
set_option maxRecDepth 20000 in
set_option maxHeartbeats 4000000 in
theorem sX8_judge_L15 {X : CX} {a : Nat → Nat} {D : va_G} {tI tJ tB tS : ClassId} {kK kV : Nat → Nat}  {kx15 : St → Int32 → Option (St × Int32)} {r : St × Int32} (hX : OKX X (vC a D tI tJ tB tS kK kV) cX8_judge 3 RX8 6 132) (hR : ∀ (pc : Nat) (lv : List (Nat × Value)), decode cX8_judge pc = .ok (.ireturn, 1) → G X (vC a D tI tJ tB tS kK kV) 3 r.1 pc lv [.int r.2]) (hkx15 : ∀ (σ : St) (e1_15 : Int32), kx15 σ e1_15 = some r → G X (vC a D tI tJ tB tS kK kV) 3 σ 53 [] []) : ∀ (n : Nat) (σ : St) (c1_15 : Int32), fX8_judge_L15 kx15 n σ c1_15 = some r → G X (vC a D tI tJ tB tS kK kV) 3 σ 15 [(0, .ref (a 0)), (1, .int c1_15)] [] := by
  intro n
  induction n with
  | zero => intro σ c1_15 h; rw [fX8_judge_L15] at h; exact absurd h (by simp)
  | succ n15 ih15 =>
    intro σ c1_15 h
    rw [fX8_judge_L15] at h
    refine g_iload_n hX 1 dX8_judge_15 rfl rfl ?_
    refine g_aload_n hX 0 dX8_judge_16 rfl rfl ?_
    refine gCX8_27_0 hX dX8_judge_17 ?_
    refine gCX8_118_2 hX dX8_judge_20 ?_
    refine g_icmp_ge hX 53 dX8_judge_23 (by decide) h (fun h => ?_) (fun h => ?_)
    · exact g_sub [] rfl (hkx15 _ _ h)
    · refine g_aload_n hX 0 dX8_judge_26 rfl rfl ?_
      refine gCX8_55_0 hX dX8_judge_27 ?_
      refine g_iload_n hX 1 dX8_judge_30 rfl rfl ?_
      refine g_callNI (As := [.int c1_15]) (rest := []) hX 43 (Nat.le_of_ble_eq_true rfl) rfl rfl miX7_betterStep mvX7_betterStep lkX8_199 (by decide) rfl (Nat.le_of_ble_eq_true rfl) rfl dX8_judge_31 (fun τ x ho => kX7_betterStep _ ho) h (fun σ_4 t_5 h => ?_)
      refine g_istore_n (lv' := fun x2_6 => [(2, .int x2_6), (0, .ref (a 0)), (1, .int c1_15)]) hX dX8_judge_34 rfl (by decide) (fun _ => rfl) h (fun x2_6 h => ?_)
      refine g_iload_n hX 0 dX8_judge_35 rfl rfl ?_
      refine g_iconst hX (-1) dX8_judge_36 (by decide) ?_
      refine g_icmp_eq hX 47 dX8_judge_37 (by decide) h (fun h => ?_) (fun h => ?_)
      · refine g_iinc (y := (1)) (lv' := fun x1_7 => [(1, .int x1_7), (2, .int x2_6), (0, .ref (a 0))]) hX 2 dX8_judge_47 rfl (by decide) (by decide) (fun _ => rfl) h (fun x1_7 h => ?_)
        refine g_goto hX 15 dX8_judge_50 (by decide) ?_
        exact g_sub [2, 0] rfl (ih15 _ _ h)
      · refine g_bipush hX (10) dX8_judge_40 (by decide) ?_
        refine g_iload_n hX 2 dX8_judge_42 rfl rfl ?_
        refine g_imul hX dX8_judge_43 ?_
        refine g_iload_n hX 0 dX8_judge_44 rfl rfl ?_
        refine g_iadd hX dX8_judge_45 ?_
        exact g_reti hR h dX8_judge_46
set_option maxRecDepth 20000 in
set_option maxHeartbeats 4000000 in
theorem sX8_judge {X : CX} {a : Nat → Nat} {D : va_G} {tI tJ tB tS : ClassId} {kK kV : Nat → Nat} {σ : St}   {r : St × Int32} (hX : OKX X (vC a D tI tJ tB tS kK kV) cX8_judge 3 RX8 6 132) (hR : ∀ (pc : Nat) (lv : List (Nat × Value)), decode cX8_judge pc = .ok (.ireturn, 1) → G X (vC a D tI tJ tB tS kK kV) 3 r.1 pc lv [.int r.2])  (h : fX8_judge σ  = some r) : G X (vC a D tI tJ tB tS kK kV) 3 σ 0 [(0, .ref (a 0))] [] := by
  unfold fX8_judge at h
  refine g_aload_n hX 0 dX8_judge_0 rfl rfl ?_
  refine gCX8_55_0 hX dX8_judge_1 ?_
  refine g_callNI (As := []) (rest := []) hX 43 (Nat.le_of_ble_eq_true rfl) rfl rfl miX7_settle mvX7_settle lkX8_173 (by decide) rfl (Nat.le_of_ble_eq_true rfl) rfl dX8_judge_4 (fun τ x ho => kX7_settle _ ho) h (fun σ_1 t_2 h => ?_)
  refine g_if_ne hX 13 dX8_judge_7 (by decide) h (fun h => ?_) (fun h => ?_)
  · refine g_iconst hX (0) dX8_judge_13 (by decide) ?_
    refine g_istore_n (lv' := fun x1_3 => [(1, .int x1_3), (0, .ref (a 0))]) hX dX8_judge_14 rfl (by decide) (fun _ => rfl) h (fun x1_3 h => ?_)
    refine g_sub [1, 0] rfl (sX8_judge_L15 hX hR (fun σ_8 x1_9 h => ?_) FU _ _ h)
    refine g_iconst hX (-1) dX8_judge_53 (by decide) ?_
    exact g_reti hR h dX8_judge_54
  · refine g_bipush hX (-2) dX8_judge_10 (by decide) ?_
    exact g_reti hR h dX8_judge_12
set_option maxRecDepth 20000 in
set_option maxHeartbeats 4000000 in
theorem kX8_judge (l : Launch) {a : Nat → Nat} {D : va_G} {tI tJ tB tS : ClassId} {kK kV : Nat → Nat} {σ τ : St}   {x : Int32} (h : fX8_judge σ  = some (τ, x)) : CtI l yX8_judge cX8_judge 3 (some .int) 6 132 (vC a D tI tJ tB tS kK kV) σ [.ref (a 0)] τ x := g_metI (by decide) (Nat.le_of_ble_eq_true rfl) rfl (fun X _ hX hR => sX8_judge (r := (τ, x)) hX hR h)
def fX4_countRows_L7  (kx7 : St → Int32 → Option (St × Unit)) : Nat → St → Int32 → Option (St × Unit)
  | 0, _, _ => none
  | n7 + 1, σ, c1_7 =>
    (if (σ.1 2 0) ≤ c1_7 then kx7 σ c1_7 else chk (inb c1_7 4) (bnd (sI σ 55 (ix c1_7) (σ.1 53 8)) fun (σ_3 : St) => bnd (sI σ_3 53 8 ((σ_3.1 53 8) * (σ_3.1 2 2))) fun (σ_4 : St) => bnd (c1_7 + (1 : Int32)) fun (x1_5 : Int32) => fX4_countRows_L7 kx7 n7 σ_4 x1_5))
def fX4_countRows (σ : St)  : Option (St × Unit) :=
  bnd (sI σ 53 8 (1 : Int32)) fun (σ_1 : St) => bnd (0 : Int32) fun (x1_2 : Int32) => fX4_countRows_L7  (fun (σ_6 : St) (x1_7 : Int32) => chk (decide (0 ≤ σ_6.1 54 2147483648)) ((if (σ_6.1 53 8) ≤ (σ_6.1 54 2147483648) then some (σ_6, ()) else none))) FU σ_1 x1_2
set_option maxRecDepth 20000 in
set_option maxHeartbeats 4000000 in
theorem sX4_countRows_L7 {X : CX} {a : Nat → Nat} {D : va_G} {tI tJ tB tS : ClassId} {kK kV : Nat → Nat}  {kx7 : St → Int32 → Option (St × Unit)} {r : St × Unit} (hX : OKX X (vC a D tI tJ tB tS kK kV) cX4_countRows 2 RX4 0 0) (hR : ∀ (pc : Nat) (lv : List (Nat × Value)), decode cX4_countRows pc = .ok (.return_, 1) → G X (vC a D tI tJ tB tS kK kV) 2 r.1 pc lv []) (hkx7 : ∀ (σ : St) (e1_7 : Int32), kx7 σ e1_7 = some r → G X (vC a D tI tJ tB tS kK kV) 2 σ 50 [(0, .ref (a 53))] []) : ∀ (n : Nat) (σ : St) (c1_7 : Int32), fX4_countRows_L7 kx7 n σ c1_7 = some r → G X (vC a D tI tJ tB tS kK kV) 2 σ 7 [(0, .ref (a 53)), (1, .int c1_7)] [] := by
  intro n
  induction n with
  | zero => intro σ c1_7 h; rw [fX4_countRows_L7] at h; exact absurd h (by simp)
  | succ n7 ih7 =>
    intro σ c1_7 h
    rw [fX4_countRows_L7] at h
    refine g_iload_n hX 1 dX4_countRows_7 rfl rfl ?_
    refine g_aload_n hX 0 dX4_countRows_8 rfl rfl ?_
    refine gCX4_9_53 hX dX4_countRows_9 ?_
    refine gCX4_106_2 hX dX4_countRows_12 ?_
    refine g_icmp_ge hX 50 dX4_countRows_15 (by decide) h (fun h => ?_) (fun h => ?_)
    · exact g_sub [0] rfl (hkx7 _ _ h)
    · refine g_aload_n hX 0 dX4_countRows_18 rfl rfl ?_
      refine gCX4_31_53 hX dX4_countRows_19 ?_
      refine g_iload_n hX 1 dX4_countRows_22 rfl rfl ?_
      refine g_aload_n hX 0 dX4_countRows_23 rfl rfl ?_
      refine gCX4_40_53 hX dX4_countRows_24 ?_
      refine asC_55 hX dX4_countRows_27 h (fun σ_3 h => ?_)
      refine g_aload_n hX 0 dX4_countRows_28 rfl rfl ?_
      refine g_dup hX dX4_countRows_29 rfl ?_
      refine gCX4_40_53 hX dX4_countRows_30 ?_
      refine g_aload_n hX 0 dX4_countRows_33 rfl rfl ?_
      refine gCX4_9_53 hX dX4_countRows_34 ?_
      refine gCX4_92_2 hX dX4_countRows_37 ?_
      refine g_imul hX dX4_countRows_40 ?_
      refine pCX4_40_53 hX dX4_countRows_41 h (fun σ_4 h => ?_)
      refine g_iinc (y := (1)) (lv' := fun x1_5 => [(1, .int x1_5), (0, .ref (a 53))]) hX 1 dX4_countRows_44 rfl (by decide) (by decide) (fun _ => rfl) h (fun x1_5 h => ?_)
      refine g_goto hX 7 dX4_countRows_47 (by decide) ?_
      exact g_sub [1, 0] rfl (ih7 _ _ h)
set_option maxRecDepth 20000 in
set_option maxHeartbeats 4000000 in
theorem sX4_countRows {X : CX} {a : Nat → Nat} {D : va_G} {tI tJ tB tS : ClassId} {kK kV : Nat → Nat} {σ : St}   {r : St × Unit} (hX : OKX X (vC a D tI tJ tB tS kK kV) cX4_countRows 2 RX4 0 0) (hR : ∀ (pc : Nat) (lv : List (Nat × Value)), decode cX4_countRows pc = .ok (.return_, 1) → G X (vC a D tI tJ tB tS kK kV) 2 r.1 pc lv [])  (h : fX4_countRows σ  = some r) : G X (vC a D tI tJ tB tS kK kV) 2 σ 0 [(0, .ref (a 53))] [] := by
  unfold fX4_countRows at h
  refine g_aload_n hX 0 dX4_countRows_0 rfl rfl ?_
  refine g_iconst hX (1) dX4_countRows_1 (by decide) ?_
  refine pCX4_40_53 hX dX4_countRows_2 h (fun σ_1 h => ?_)
  refine g_iconst hX (0) dX4_countRows_5 (by decide) ?_
  refine g_istore_n (lv' := fun x1_2 => [(1, .int x1_2), (0, .ref (a 53))]) hX dX4_countRows_6 rfl (by decide) (fun _ => rfl) h (fun x1_2 h => ?_)
  refine g_sub [1, 0] rfl (sX4_countRows_L7 hX hR (fun σ_6 x1_7 h => ?_) FU _ _ h)
  refine g_aload_n hX 0 dX4_countRows_50 rfl rfl ?_
  refine gCX4_27_53 hX dX4_countRows_51 ?_
  refine lenC_54 hX dX4_countRows_54 h (fun h => ?_)
  refine g_aload_n hX 0 dX4_countRows_55 rfl rfl ?_
  refine gCX4_40_53 hX dX4_countRows_56 ?_
  refine g_icmp_ge hX 72 dX4_countRows_59 (by decide) h (fun h => ?_) (fun h => ?_)
  · exact g_retv hR h dX4_countRows_72
  · refine g_aload_n hX 0 dX4_countRows_62 rfl rfl ?_
    refine g_aload_n hX 0 dX4_countRows_63 rfl rfl ?_
    refine gCX4_40_53 hX dX4_countRows_64 ?_
    exact absurd h (by simp)
set_option maxRecDepth 20000 in
set_option maxHeartbeats 4000000 in
theorem kX4_countRows (l : Launch) {a : Nat → Nat} {D : va_G} {tI tJ tB tS : ClassId} {kK kV : Nat → Nat} {σ τ : St}   {x : Unit} (h : fX4_countRows σ  = some (τ, x)) : CtV l yX4_countRows cX4_countRows 2 none 0 0 (vC a D tI tJ tB tS kK kV) σ [.ref (a 53)] τ x := g_metV (by decide) (Nat.le_of_ble_eq_true rfl) rfl (fun X _ hX hR => sX4_countRows (r := (τ, x)) hX hR h)
def fJ7_fill_53178_i54_L5 (q1_5 : Int32) (q3_5 : Int32) (kx5 : St → Int32 → Option (St × Unit)) : Nat → St → Int32 → Option (St × Unit)
  | 0, _, _ => none
  | n5 + 1, σ, c2_5 =>
    (if q3_5 ≤ c2_5 then kx5 σ c2_5 else chk (inb c2_5 (ix (σ.1 54 2147483648))) (bnd (sI σ 54 (ix c2_5) q1_5) fun (σ_3 : St) => bnd (c2_5 + (1 : Int32)) fun (x2_4 : Int32) => fJ7_fill_53178_i54_L5 q1_5 q3_5 kx5 n5 σ_3 x2_4))
def fJ7_fill_53178_i54 (σ : St) (p2 : Int32) : Option (St × Unit) :=
  bnd (0 : Int32) fun (x2_1 : Int32) => chk (decide (0 ≤ σ.1 54 2147483648)) (bnd (σ.1 54 2147483648) fun (x3_2 : Int32) => fJ7_fill_53178_i54_L5 p2 x3_2 (fun (σ_5 : St) (x2_6 : Int32) => some (σ_5, ())) FU σ x2_1)
set_option maxRecDepth 20000 in
set_option maxHeartbeats 4000000 in
theorem sJ7_fill_53178_i54_L5 {X : CX} {a : Nat → Nat} {D : va_G} {tI tJ tB tS : ClassId} {kK kV : Nat → Nat} {q1_5 : Int32} {q3_5 : Int32} {kx5 : St → Int32 → Option (St × Unit)} {r : St × Unit} (hX : OKX X (vC a D tI tJ tB tS kK kV) cJ7_fill_53178 4 RJ7 0 0) (hR : ∀ (pc : Nat) (lv : List (Nat × Value)), decode cJ7_fill_53178 pc = .ok (.return_, 1) → G X (vC a D tI tJ tB tS kK kV) 4 r.1 pc lv []) (hkx5 : ∀ (σ : St) (e2_5 : Int32), kx5 σ e2_5 = some r → G X (vC a D tI tJ tB tS kK kV) 4 σ 20 [] []) : ∀ (n : Nat) (σ : St) (c2_5 : Int32), fJ7_fill_53178_i54_L5 q1_5 q3_5 kx5 n σ c2_5 = some r → G X (vC a D tI tJ tB tS kK kV) 4 σ 5 [(0, .ref (a 54)), (1, .int q1_5), (3, .int q3_5), (2, .int c2_5)] [] := by
  intro n
  induction n with
  | zero => intro σ c2_5 h; rw [fJ7_fill_53178_i54_L5] at h; exact absurd h (by simp)
  | succ n5 ih5 =>
    intro σ c2_5 h
    rw [fJ7_fill_53178_i54_L5] at h
    refine g_iload_n hX 3 dJ7_fill_53178_5 rfl rfl ?_
    refine g_iload_n hX 2 dJ7_fill_53178_6 rfl rfl ?_
    refine g_icmp_ge hX 20 dJ7_fill_53178_7 (by decide) h (fun h => ?_) (fun h => ?_)
    · exact g_sub [] rfl (hkx5 _ _ h)
    · refine g_aload_n hX 0 dJ7_fill_53178_10 rfl rfl ?_
      refine g_iload_n hX 3 dJ7_fill_53178_11 rfl rfl ?_
      refine g_iload_n hX 1 dJ7_fill_53178_12 rfl rfl ?_
      refine asC_54 hX dJ7_fill_53178_13 h (fun σ_3 h => ?_)
      refine g_iinc (y := (1)) (lv' := fun x2_4 => [(2, .int x2_4), (0, .ref (a 54)), (1, .int q1_5), (3, .int q3_5)]) hX 3 dJ7_fill_53178_14 rfl (by decide) (by decide) (fun _ => rfl) h (fun x2_4 h => ?_)
      refine g_goto hX 5 dJ7_fill_53178_17 (by decide) ?_
      exact g_sub [1, 2, 3, 0] rfl (ih5 _ _ h)
set_option maxRecDepth 20000 in
set_option maxHeartbeats 4000000 in
theorem sJ7_fill_53178_i54 {X : CX} {a : Nat → Nat} {D : va_G} {tI tJ tB tS : ClassId} {kK kV : Nat → Nat} {σ : St}  {p2 : Int32} {r : St × Unit} (hX : OKX X (vC a D tI tJ tB tS kK kV) cJ7_fill_53178 4 RJ7 0 0) (hR : ∀ (pc : Nat) (lv : List (Nat × Value)), decode cJ7_fill_53178 pc = .ok (.return_, 1) → G X (vC a D tI tJ tB tS kK kV) 4 r.1 pc lv [])  (h : fJ7_fill_53178_i54 σ p2 = some r) : G X (vC a D tI tJ tB tS kK kV) 4 σ 0 [(0, .ref (a 54)), (1, .int p2)] [] := by
  unfold fJ7_fill_53178_i54 at h
  refine g_iconst hX (0) dJ7_fill_53178_0 (by decide) ?_
  refine g_istore_n (lv' := fun x2_1 => [(2, .int x2_1), (0, .ref (a 54)), (1, .int p2)]) hX dJ7_fill_53178_1 rfl (by decide) (fun _ => rfl) h (fun x2_1 h => ?_)
  refine g_aload_n hX 1 dJ7_fill_53178_2 rfl rfl ?_
  refine lenC_54 hX dJ7_fill_53178_3 h (fun h => ?_)
  refine g_istore_n (lv' := fun x3_2 => [(3, .int x3_2), (2, .int x2_1), (0, .ref (a 54)), (1, .int p2)]) hX dJ7_fill_53178_4 rfl (by decide) (fun _ => rfl) h (fun x3_2 h => ?_)
  refine g_sub [2, 3, 0, 1] rfl (sJ7_fill_53178_i54_L5 hX hR (fun σ_5 x2_6 h => ?_) FU _ _ h)
  exact g_retv hR h dJ7_fill_53178_20
set_option maxRecDepth 20000 in
set_option maxHeartbeats 4000000 in
theorem kJ7_fill_53178_i54 (l : Launch) {a : Nat → Nat} {D : va_G} {tI tJ tB tS : ClassId} {kK kV : Nat → Nat} {σ τ : St}  {p2 : Int32} {x : Unit} (h : fJ7_fill_53178_i54 σ p2 = some (τ, x)) : CtV l yJ7_fill_53178 cJ7_fill_53178 4 none 0 0 (vC a D tI tJ tB tS kK kV) σ [.ref (a 54), .int p2] τ x := g_metV (by decide) (Nat.le_of_ble_eq_true rfl) rfl (fun X _ hX hR => sJ7_fill_53178_i54 (r := (τ, x)) hX hR h)
