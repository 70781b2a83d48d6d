/-! THE CLAIM OUT OF ONE WALK OF THE LAW'S BODY. Your part is whole_start (and what it stands on); all else here is the same for every law, but numbers. -/
def R_law : String := "LoafStreetLaw"
def lw_P (b : Addr) (xs : List Int32) (args : Array Value) (s : State) : Prop := args = #[.ref b] ∧ s.IntsAt b xs ∧ xs.length ≤ 3072 ∧ (Jvm.Cond.and given_1 narrow_1).before args s = true
def lw_Q (_ : Array Value) (s : State) (o : Outcome) (t : State) : Prop := o = .returned (some (.int 1)) ∧ Framed s o t [] 600000 7302250
def lw_Z (below : List Frame) (a : Array Value) (s : State) : State → Prop := fun t => ∃ o, t.status = .running ∧ Ended t below o ∧ lw_Q a s o t
/-- the law's own end, with 1 on the stack, nothing written that was there before, its room as the claim has it -/
theorem lw_ret {p : Program} {l : Launch} {e : Env} {s : State} {m : MethodId} {below : List Frame} {meth : Method} {c : Code} {b : Nat} (hx : p.tables.exec = Jvm.exec) (hb : c.code = code) (hr : meth.sig.returnType = ret) (hlocks : meth.locks = false) {pc : Nat} {H : Heap} {ls : Array Slot} (hdg : decode code pc = .ok (.ireturn, 1)) : W p l e room_1 s m #[Value.ref b] below meth c H [] 600000 7302250 (lw_Z below #[Value.ref b] s) (F0 m pc ls [.int 1]) := by
  intro T hT X
  obtain ⟨fs, hret, hrun, hended, hW, hframe⟩ := X.leave (v := some (.int 1)) (hlocks := hlocks) (fun h => by rw [hr] at h; cases h)
  have hmeth' : T.vm.method? m = some meth := X.method'
  refine ⟨T.setFrames fs, ?_, .returned (some (.int 1)), hrun, hended, rfl, ⟨_, rfl⟩, hW, hframe⟩
  jvm_step X.here [X.here.top, hx, hb, hdg, hmeth', hr, ret, narrow_b1]
  (try refine ⟨rfl, ?_⟩); (try refine ⟨rfl, ?_⟩)
  first | (intro acts; rw [hret _ acts rfl rfl rfl]) | rw [hret _ _ rfl rfl rfl]
  exact Steps.refl _
/-- what holds at the law's entry: the machine, the code, the tables' words (any of lw_tbl by 'hts w (by decide +kernel)'), the script of L ints xs at the cell b, what the Statement gives of the start (any of its parts by flat_of_before) -/
def lw_At (p : Program) (s : State) (m : MethodId) (meth : Method) (c : Code) (b L : Nat) (xs : Nat → Int32) : Prop :=
  p.tables.exec = Jvm.exec ∧ c.code = code ∧ meth.sig.returnType = ret ∧ c.maxLocals = 4 ∧ s.vm.findClass R_law = some m.cls ∧ (∀ w ∈ lw_tbl, w.before #[Value.ref b] s = true) ∧ va_X b L xs s s.heap ∧ b < s.heap.size ∧ meth.locks = false ∧ (Jvm.Cond.and given_1 narrow_1).before #[Value.ref b] s = true
-- the law from its entry, over the pure statements
set_option maxHeartbeats 4000000 in
set_option maxRecDepth 100000 in
theorem whole_open {I : St → St → Prop} (hI0 : I σC0 σM0) (hO : Ops I) {p : Program} {e : Env} {s : State} {m : MethodId} {below : List Frame} {meth : Method} {c : Code} (l : Launch) {b L : Nat} {xs : Nat → Int32} (hL : L ≤ 3072) (C0 : lw_At p s m meth c b L xs) : W p l e room_1 s m #[Value.ref b] below meth c s.heap [] 0 0 (lw_Z below #[Value.ref b] s) (entryFrame m ([Value.ref b] : List Value).toArray 4) := by
  obtain ⟨hx, hb, hr, hml, hown, hts, hXs, hbl, hlocks, hgv⟩ := id C0
  have hbA : ¬ (fun q : Nat => s.heap.size ≤ q) b := Nat.not_le.mpr hbl
  obtain ⟨c0, iS0, hKn0⟩ := u_known (C := RX0) (T := TX0) (N := 8) (n := 8) hts (fun w hw => wsAll_tbl (hinX0 w hw)) (hts _ (wsAll_tbl inst_X0))
  obtain ⟨c1, iS1, hKn1⟩ := u_known (C := RX1) (T := TX1) (N := 9) (n := 9) hts (fun w hw => wsAll_tbl (hinX1 w hw)) (hts _ (wsAll_tbl inst_X1))
  obtain ⟨c2, iS2, hKn2⟩ := u_known (C := RX2) (T := TX2) (N := 3) (n := 3) hts (fun w hw => wsAll_tbl (hinX2 w hw)) (hts _ (wsAll_tbl inst_X2))
  obtain ⟨c3, iS3, hKn3⟩ := u_known (C := RX3) (T := TX3) (N := 9) (n := 9) hts (fun w hw => wsAll_tbl (hinX3 w hw)) (hts _ (wsAll_tbl inst_X3))
  obtain ⟨c4, iS4, hKn4⟩ := u_known (C := RX4) (T := TX4) (N := 10) (n := 10) hts (fun w hw => wsAll_tbl (hinX4 w hw)) (hts _ (wsAll_tbl inst_X4))
  obtain ⟨c5, iS5, hKn5⟩ := u_known (C := RX5) (T := TX5) (N := 5) (n := 5) hts (fun w hw => wsAll_tbl (hinX5 w hw)) (hts _ (wsAll_tbl inst_X5))
  obtain ⟨c6, iS6, hKn6⟩ := u_known (C := RX6) (T := TX6) (N := 15) (n := 15) hts (fun w hw => wsAll_tbl (hinX6 w hw)) (hts _ (wsAll_tbl inst_X6))
  obtain ⟨c7, iS7, hKn7⟩ := u_known (C := RX7) (T := TX7) (N := 17) (n := 17) hts (fun w hw => wsAll_tbl (hinX7 w hw)) (hts _ (wsAll_tbl inst_X7))
  obtain ⟨c8, iS8, hKn8⟩ := u_known (C := RX8) (T := TX8) (N := 15) (n := 15) hts (fun w hw => wsAll_tbl (hinX8 w hw)) (hts _ (wsAll_tbl inst_X8))
  obtain ⟨c9, iS9, hKn9⟩ := u_known (C := RX9) (T := TX9) (N := 70) (n := 70) hts (fun w hw => wsAll_tbl (hinX9 w hw)) (hts _ (wsAll_tbl inst_X9))
  obtain ⟨dC, dI, hKc⟩ : ∃ (dC : Nat → ClassId) (dI : Nat → Nat → Nat), ∀ (k : Nat) (q : vw_C), vwCl[k]? = some q → u_Kn s q.1 q.2.1 q.2.2 (dC k) (dI k) := by
    refine ⟨fun k => if k = 0 then c0 else if k = 1 then c1 else if k = 2 then c2 else if k = 3 then c3 else if k = 4 then c4 else if k = 5 then c5 else if k = 6 then c6 else if k = 7 then c7 else if k = 8 then c8 else c9, fun k => if k = 0 then iS0 else if k = 1 then iS1 else if k = 2 then iS2 else if k = 3 then iS3 else if k = 4 then iS4 else if k = 5 then iS5 else if k = 6 then iS6 else if k = 7 then iS7 else if k = 8 then iS8 else iS9, ?_⟩
    intro k q hq
    match k, hq with
    | 0, hq => cases hq; exact hKn0
    | 1, hq => cases hq; exact hKn1
    | 2, hq => cases hq; exact hKn2
    | 3, hq => cases hq; exact hKn3
    | 4, hq => cases hq; exact hKn4
    | 5, hq => cases hq; exact hKn5
    | 6, hq => cases hq; exact hKn6
    | 7, hq => cases hq; exact hKn7
    | 8, hq => cases hq; exact hKn8
    | 9, hq => cases hq; exact hKn9
    | k + 10, hq => simp [vwCl] at hq
  obtain ⟨tI, hI1, hI2⟩ := arr_prim (ty := .int) rfl (hts _ (wsAll_tbl acl_int))
  obtain ⟨tJ, hJ1, hJ2⟩ := arr_prim (ty := .long) rfl (hts _ (wsAll_tbl acl_long))
  obtain ⟨tB, hB1, hB2⟩ := arr_prim (ty := .byte) rfl (hts _ (wsAll_tbl acl_byte))
  obtain ⟨tS, hS1, hS2⟩ := arr_obj (C := "LoafStreet$Stand") (hts _ ao_Stand)
  have hK : va_K (dC, dI) vwCl [(tI, .int), (tJ, .long), (tB, .byte), (tS, .object "LoafStreet$Stand")] s := by
    refine ⟨hKc, fun k q h => ?_⟩
    match k, h with
    | 0, h => cases h; exact ⟨hI1, hI2⟩
    | 1, h => cases h; exact ⟨hJ1, hJ2⟩
    | 2, h => cases h; exact ⟨hB1, hB2⟩
    | 3, h => cases h; exact ⟨hS1, hS2⟩
    | k + 4, h => simp at h
  obtain ⟨kK, kV, hE⟩ := ev_start (A := fun q : Nat => s.heap.size ≤ q) hts hgv (fun a h => Nat.not_le.mpr h)
  obtain ⟨X, eX⟩ : ∃ X : CX, X = (p, l, e, room_1, s, m, #[Value.ref b], below, meth, c, lw_Z below #[Value.ref b] s, (fun q : Nat => s.heap.size ≤ q), 0, 0) := ⟨_, rfl⟩
  have hRm : XR X = room_1 := by rw [eX]
  have hXK : OKK X (dC, dI) [(tI, .int), (tJ, .long), (tB, .byte), (tS, .object "LoafStreet$Stand")] code 4 RL 14 548 false := by
    rw [eX]
    exact ⟨hx, hb, hml, hown, fun w hw => hts w (wsAll_tbl hw), hK, fun _ h => h, Nat.le_refl _, Nat.le_refl _, fun w hw => wsNest_of hw (hts _ (wsNest_tbl hw)), fun h => absurd h (by decide), hts _ ao_Stand⟩
  have hXL : OKL X (dC, dI) [(tI, .int), (tJ, .long), (tB, .byte), (tS, .object "LoafStreet$Stand")] (zJS kK kV) b L xs := by
    rw [eX]
    exact ⟨hx, hb, hml, hown, fun w hw => hts w (wsAll_tbl hw), hK, fun _ h => h, rfl, hE, hXs, hbl, hbA⟩
  have hend : ∀ (am a : Nat → Nat) (σ τ : St) (n k : Nat) (c3 : Int32), n ≤ 600000 → k ≤ 7302250 → GL X (dC, dI) (vC a (dC, dI) tI tJ tB tS kK kV) (vM am (dC, dI) tI tJ tB (zJS kK kV)) σ τ n k 1159 [(3, .int c3), (2, .ref (am 0)), (1, .ref (a 0)), (0, .ref b)] [] := by
    intro am a σ τ n k c3 hn hk H locs ls h1 h2 h3 h4 h5 h6 hh
    rw [eX] at h6 ⊢
    refine va_forget (fun q hq => h6.2.2 q hq) ?_
    refine W.widen (k := 600000) (n := 7302250) hn hk ?_
    refine lv_iconst (v := 1) hx hb dL_law_1159 (by decide) ?_
    exact lw_ret hx hb hr hlocks dL_law_1160
  have hl := lv_entry ([.ref b]) (n := 4) (Nat.le_of_ble_eq_true rfl)
  rw [lg_entry_eq]
  have main : GK X (dC, dI) 4 [] 0 0 0 [(0, .ref b)] [] := by
    refine k_new (ci := 8) (fs := [.null, .null, .null, .null, .null, .null, .null, .null, .null, .null, .null, .int 0, .int 0, .int 0, .int 0]) hXK hinX8 tyX8_ok clk_L_7 inst_X8 miX8_init.2.1 rfl df_X8 (by rw [hRm]; exact Nat.le_of_ble_eq_true rfl) (by rw [hRm]; exact Nat.le_of_ble_eq_true rfl) dL_law_0 (fun q0 => ?_)
    show GK X (dC, dI) 4 [(q0, .inr (8, [.null, .null, .null, .null, .null, .null, .null, .null, .null, .null, .null, .int 0, .int 0, .int 0, .int 0]))] 1 15 3 [(0, .ref b)] [.ref q0]
    refine k_dup hXK dL_law_3 rfl ?_
    refine k_callI (As := []) (rest := [.ref q0]) (wr := []) hXK [0] [] (nX8_init (Xl X) kK kV q0) miX8_init rfl mwX8_init lkL_9 (by decide) rfl (Nat.le_of_ble_eq_true rfl) rfl rfl rfl rfl rfl rfl (by decide) ⟨(by rw [hRm]; exact Nat.le_of_ble_eq_true rfl), (by rw [hRm]; exact Nat.le_of_ble_eq_true rfl)⟩ dL_law_4 (fun u => ?_)
    show GK X (dC, dI) 4 (ww (vC (adC q0 u) (dC, dI) tI tJ tB tS kK kV) σC0) 62 1611 7 [(0, .ref b)] [.ref (adC q0 u 0)]
    generalize adC q0 u = a
    refine k_astore_n (lv' := [(1, .ref (a 0)), (0, .ref b)]) hXK dL_law_7 rfl (by decide) rfl ?_
    refine k_new (ci := 9) (fs := [.int 0, .int 0, .int 0, .int 0, .int 0, .int 0, .int 0, .int 0, .int 0, .null, .null, .null, .null, .null, .null, .int 0, .int 0, .int 0, .int 0, .int 0, .int 0, .int 0, .int 0, .null, .null, .null, .null, .null, .null, .int 0, .int 0, .int 0, .int 0, .null, .null, .int 0, .int 0, .int 0, .int 0, .int 0, .null, .null, .null, .null, .null, .null, .null, .long 0, .null, .null, .null, .null, .null, .null, .null, .long 0, .null, .int 0, .null, .null, .null, .null, .int 0, .int 0, .int 0, .int 0, .int 0, .long 0, .int 0, .null]) hXK hinX9 tyX9_ok clk_L_10 inst_X9 miX9_init.2.1 rfl df_X9 (by rw [hRm]; exact Nat.le_of_ble_eq_true rfl) (by rw [hRm]; exact Nat.le_of_ble_eq_true rfl) dL_law_8 (fun q1 => ?_)
    refine k_dup hXK dL_law_11 rfl ?_
    have hlen : (ww (vC a (dC, dI) tI tJ tB tS kK kV) σC0).length = 62 := by simp [ww]
    have at62 : (ww (vC a (dC, dI) tI tJ tB tS kK kV) σC0 ++ [(q1, .inr (9, [.int 0, .int 0, .int 0, .int 0, .int 0, .int 0, .int 0, .int 0, .int 0, .null, .null, .null, .null, .null, .null, .int 0, .int 0, .int 0, .int 0, .int 0, .int 0, .int 0, .int 0, .null, .null, .null, .null, .null, .null, .int 0, .int 0, .int 0, .int 0, .null, .null, .int 0, .int 0, .int 0, .int 0, .int 0, .null, .null, .null, .null, .null, .null, .null, .long 0, .null, .null, .null, .null, .null, .null, .null, .long 0, .null, .int 0, .null, .null, .null, .null, .int 0, .int 0, .int 0, .int 0, .int 0, .long 0, .int 0, .null]))])[62]? = some (q1, .inr (9, [.int 0, .int 0, .int 0, .int 0, .int 0, .int 0, .int 0, .int 0, .int 0, .null, .null, .null, .null, .null, .null, .int 0, .int 0, .int 0, .int 0, .int 0, .int 0, .int 0, .int 0, .null, .null, .null, .null, .null, .null, .int 0, .int 0, .int 0, .int 0, .null, .null, .int 0, .int 0, .int 0, .int 0, .int 0, .null, .null, .null, .null, .null, .null, .null, .long 0, .null, .null, .null, .null, .null, .null, .null, .long 0, .null, .int 0, .null, .null, .null, .null, .int 0, .int 0, .int 0, .int 0, .int 0, .long 0, .int 0, .null])) := by
      rw [List.getElem?_append_right (by rw [hlen]; exact Nat.le_refl _), hlen]
      rfl
    have hr1 := rg_left (ww (vC a (dC, dI) tI tJ tB tS kK kV) σC0) [(q1, .inr (9, [.int 0, .int 0, .int 0, .int 0, .int 0, .int 0, .int 0, .int 0, .int 0, .null, .null, .null, .null, .null, .null, .int 0, .int 0, .int 0, .int 0, .int 0, .int 0, .int 0, .int 0, .null, .null, .null, .null, .null, .null, .int 0, .int 0, .int 0, .int 0, .null, .null, .int 0, .int 0, .int 0, .int 0, .int 0, .null, .null, .null, .null, .null, .null, .null, .long 0, .null, .null, .null, .null, .null, .null, .null, .long 0, .null, .int 0, .null, .null, .null, .null, .int 0, .int 0, .int 0, .int 0, .int 0, .long 0, .int 0, .null]))]
    rw [hlen] at hr1
    refine k_callI (As := []) (rest := [.ref q1]) (wr := ww (vC a (dC, dI) tI tJ tB tS kK kV) σC0) hXK [62] (List.range 62) (nX9_init (Xl X) (zJS kK kV) q1) miX9_init rfl mwX9_init lkL_12 (by decide) rfl (Nat.le_of_ble_eq_true rfl) rfl (by rw [List.filterMap_cons, at62]; rfl) (by rw [List.map_cons, at62]; rfl) rfl hr1 rfl (by decide) ⟨(by rw [hRm]; exact Nat.le_of_ble_eq_true rfl), (by rw [hRm]; exact Nat.le_of_ble_eq_true rfl)⟩ dL_law_12 (fun u2 => ?_)
    show GK X (dC, dI) 4 (ww (vC a (dC, dI) tI tJ tB tS kK kV) σC0 ++ ww (vM (adC q1 u2) (dC, dI) tI tJ tB (zJS kK kV)) σM0) 97 22369 15 [(1, .ref (a 0)), (0, .ref b)] [.ref (adC q1 u2 0)]
    generalize adC q1 u2 = am
    refine k_astore_n (lv' := [(2, .ref (am 0)), (1, .ref (a 0)), (0, .ref b)]) hXK dL_law_15 rfl (by decide) rfl ?_
    refine k_iconst hXK 0 dL_law_16 (by decide) ?_
    refine k_istore_n (lv' := [(3, .int 0), (2, .ref (am 0)), (1, .ref (a 0)), (0, .ref b)]) hXK dL_law_17 rfl (by decide) rfl ?_
    intro H locs ls h1 h2 h3 hh
    exact law_loop hXL hL hO (hend am) 513 0 rfl (by omega) a σC0 σM0 97 22369 0 hI0 (by decide) (by omega) (by omega) H locs ls (va_P_left h1) (va_P_right h1) (va_D_left h2) (va_D_right h2) (va_D_apart h2) h3 hh
  rw [eX] at main
  exact main s.heap [] _ (fun k q h => by simp at h) ⟨fun i j p q h => by simp at h, fun k q h => by simp at h⟩ va_S.rf hl
