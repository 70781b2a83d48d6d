/-! contracts over a view, calls, a method's entry and end -/
def Pre (v : Vw) (σ : St) (sz : Nat) (U : State) : Prop := U.heap.size = sz ∧ va_P (vG v) vwCl (ww v σ) U.heap ∧ va_K (vG v) vwCl (vty v) U ∧ va_D (fun _ => True) (ww v σ) ∧ EV (vz v) (Av v sz) U U.heap
def AtW (v : Vw) (A : Nat → Prop) (σ : St) (t : State) : Prop := va_P (vG v) vwCl (ww v σ) t.heap ∧ va_K (vG v) vwCl (vty v) t ∧ va_D A (ww v σ)
def Rm (fr lo : Nat) : Room := { frames := fr, cells := 0, slots := 0, locals := lo }
def CtI (l : Launch) (y : MethodName) (cc : ByteArray) (nL : Nat) (ret : Option FieldType) (fr lo : Nat) (v : Vw) (σ : St) (vals : List Value) (τ : St) (x : Int32) : Prop := ∀ sz : Nat, Met l y (Cond.code y cc nL ret :: wsAll) (Rm fr lo) (va_Pc vals (Pre v σ sz)) (va_Qi (fun z (_ : Unit) => z = x) (fun _ t => AtW v (Av v sz) τ t) (Av v sz)) 0 0 (Av v sz)
def CtL (l : Launch) (y : MethodName) (cc : ByteArray) (nL : Nat) (ret : Option FieldType) (fr lo : Nat) (v : Vw) (σ : St) (vals : List Value) (τ : St) (x : Int64) : Prop := ∀ sz : Nat, Met l y (Cond.code y cc nL ret :: wsAll) (Rm fr lo) (va_Pc vals (Pre v σ sz)) (va_Ql (fun z (_ : Unit) => z = x) (fun _ t => AtW v (Av v sz) τ t) (Av v sz)) 0 0 (Av v sz)
def CtV (l : Launch) (y : MethodName) (cc : ByteArray) (nL : Nat) (ret : Option FieldType) (fr lo : Nat) (v : Vw) (σ : St) (vals : List Value) (τ : St) (_x : Unit) : Prop := ∀ sz : Nat, Met l y (Cond.code y cc nL ret :: wsAll) (Rm fr lo) (va_Pc vals (Pre v σ sz)) (va_Qv (fun (_ : Unit) => True) (fun _ t => AtW v (Av v sz) τ t) (Av v sz)) 0 0 (Av v sz)
theorem hMI {y : MethodName} {n : Nat} (h : (parseMethodDescriptor y.desc).map (fun d => d.parameters.length) = some n) : ∀ sig, parseMethodDescriptor y.desc = some sig → n = sig.parameters.length := fun sig hs => by
  rw [hs] at h
  exact (Option.some.inj h).symm
theorem pre_blind (v : Vw) (σ : St) (sz : Nat) (vals : List Value) : FrameBlind (va_Pc vals (Pre v σ sz)) := fun a U g mk q => ⟨q.1, q.2.1, q.2.2.1, va_K.moved (u := U) (U := U.calling g mk a) (Vm.Alike.refl U.vm) q.2.2.2.1, q.2.2.2.2.1, EV.same (U := U) rfl q.2.2.2.2.2⟩
theorem Av_mono {v : Vw} {σ : St} {A : Nat → Prop} {s : State} {H : Heap} {locs : List Loc} (hD : va_D A (ww v σ)) (hS : va_S A s.heap H locs) (hA : ∀ q : Nat, s.heap.size ≤ q → A q) : ∀ q, Av v H.size q → A q := by
  intro q h
  rcases h with ⟨k, hk, rfl⟩ | h
  · exact hD.2 k _ (ww_at v σ hk)
  · exact hA q (Nat.le_trans hS.1 h)
theorem va_D_weak {A B : Nat → Prop} {ws : va_W} (h : va_D A ws) (hAB : ∀ q, A q → B q) : va_D B ws := ⟨h.1, fun k q hk => hAB _ (h.2 k q hk)⟩
theorem pay_all {args : Array Value} {s : State} (hts : ∀ w ∈ wsAll, w.before args s = true) {y : MethodName} {bytes : ByteArray} {nL : Nat} {ret : Option FieldType} (hm : Cond.code y bytes nL ret ∈ wsAll) : ∀ w ∈ Cond.code y bytes nL ret :: wsAll, ∀ (a' : Array Value) (U : State), s.WarmedH U.vm → w.before a' U = true :=
  pay_in hts (fun w hw => by
    rcases List.mem_cons.mp hw with rfl | h
    · exact ⟨hm, wsAll_good _ hm⟩
    · exact ⟨h, wsAll_good _ h⟩)
section GCalls
variable {X : CX} {v : Vw} {cc : ByteArray} {nL fr lo : Nat} {own : String} {σ : St} {pc : Nat} {lv : List (Nat × Value)} {st : List Value} {β : Type} {r : β}
variable {y : MethodName} {bytes : ByteArray} {maxL fr' lo' i n : Nat} {ret : Option FieldType} {As rest : List Value}
theorem g_B (hX : OKX X v cc nL own fr lo) (hM : MIb y bytes maxL ret n) (hlk : Cond.methodLink own i y ∈ wsAll) (hroom : fr' + 1 ≤ fr ∧ 8 + (maxL + 11) + lo' ≤ lo) : CallB (XR X) (Xs X) (Xa X) own i y bytes maxL ret (Cond.code y bytes maxL ret :: wsAll) (Rm fr' lo') 0 0 n :=
  ⟨rfl, rfl, Nat.le_trans hroom.1 hX.2.2.2.2.2.2.2.1, Nat.le_trans hroom.2 hX.2.2.2.2.2.2.2.2.1, pay_all hX.2.2.2.2.1 hM.1, List.mem_cons_self, hX.2.2.2.2.1 _ hM.1, hX.2.2.2.2.1 _ hM.2.1, hM.2.2.1, hMI hM.2.2.2, hX.2.2.2.2.1 _ hlk⟩
theorem g_N (hX : OKX X v cc nL own fr lo) {host : String} (hM : MIb y bytes maxL ret n) (hlk : Cond.methodLinkNest own i y host ∈ wsNest) (hroom : fr' + 1 ≤ fr ∧ 8 + (maxL + 11) + lo' ≤ lo) : va_CN (XR X) (Xs X) (Xa X) own i y host bytes maxL ret (Cond.code y bytes maxL ret :: wsAll) (Rm fr' lo') 0 0 n :=
  ⟨⟨rfl, rfl, Nat.le_trans hroom.1 hX.2.2.2.2.2.2.2.1, Nat.le_trans hroom.2 hX.2.2.2.2.2.2.2.2.1, pay_all hX.2.2.2.2.1 hM.1, List.mem_cons_self⟩, hX.2.2.2.2.1 _ hM.1, hX.2.2.2.2.1 _ hM.2.1, hM.2.2.1, hMI hM.2.2.2, wsNest_use hlk (hX.2.2.2.2.2.2.2.2.2.2.2.2.2.2.2 _ hlk)⟩
theorem g_PV (hX : OKX X v cc nL own fr lo) {q ci : Nat} {C : String} {T : u_T} {N : Nat} {fs : List Value} {H : Heap} {locs : List Loc} (hw : Wd X v σ H locs) (hq : q < vn v) (he : vsh v q (σ.1 q) (σ.2 q) = .inr (ci, fs)) (hc : vwCl[ci]? = some (C, T, N)) : PreV (Xs X) H C (vad v q) (va_Pc (.ref (vad v q) :: As) (Pre v σ H.size)) As :=
  ⟨pre_blind v σ H.size _, va_recv hX.2.2.2.2.2.1 hw.1 hc (q0 := q) (by rw [ww_at v σ hq, he]), fun U hU hW => ⟨rfl, by rw [hU], by rw [hU]; exact hw.1, va_K.moved hW.alike hX.2.2.2.2.2.1, va_D_weak hw.2.1 (fun _ _ => trivial), by rw [hU]; exact ((hX.2.2.2.2.2.2.2.2.2.2.2.kept hw.2.2.2.1).narrow (Av_mono hw.2.1 hw.2.2 hX.2.2.2.2.2.2.1)).warm hW⟩⟩
theorem g_PS (hX : OKX X v cc nL own fr lo) {H : Heap} {locs : List Loc} (hw : Wd X v σ H locs) : PreS (Xs X) H (va_Pc As (Pre v σ H.size)) As :=
  ⟨pre_blind v σ H.size _, fun U hU hW => ⟨rfl, by rw [hU], by rw [hU]; exact hw.1, va_K.moved hW.alike hX.2.2.2.2.2.1, va_D_weak hw.2.1 (fun _ _ => trivial), by rw [hU]; exact ((hX.2.2.2.2.2.2.2.2.2.2.2.kept hw.2.2.2.1).narrow (Av_mono hw.2.1 hw.2.2 hX.2.2.2.2.2.2.1)).warm hW⟩⟩

theorem g_callVI (hX : OKX X v cc nL own fr lo) (q : Nat) {ci N : Nat} {C : String} {T : u_T} {fs : List Value} {o : Option (St × Int32)} {kf : St → Int32 → Option β} (hq : q < vn v) (he : vsh v q (σ.1 q) (σ.2 q) = .inr (ci, fs)) (hc : vwCl[ci]? = some (C, T, N)) (hM : MIb y bytes maxL ret n) (hV : MIv y C) (hlk : Cond.methodLink own i y ∈ wsAll) (hroom : fr' + 1 ≤ fr ∧ 8 + (maxL + 11) + lo' ≤ lo) (hn : As.length = n) (hcat : (rest.map fun v => v.category).sum ≤ 8) (hst : st = As.reverse ++ .ref (vad v q) :: rest) (hd : decode cc pc = .ok (.invokevirtual i, 3)) (hC : ∀ (τ : St) (x : Int32), o = some (τ, x) → CtI (Xl X) y bytes maxL ret fr' lo' v σ (.ref (vad v q) :: As) τ x) (h : cl o kf = some r) (kk : ∀ (τ : St) (x : Int32), kf τ x = some r → G X v nL τ (pc + 3) lv (.int x :: rest)) : G X v nL σ pc lv st := by
  subst hst
  intro H locs ls hw hh
  obtain ⟨τ, x, ho, hk⟩ := cl_inv h
  have hF := Av_mono hw.2.1 hw.2.2 hX.2.2.2.2.2.2.1
  refine va_calli (va_runV (As := As) (rest := rest) (Ts := wsAll) (own := own) ⟨hX.1, hX.2.1, hX.2.2.1, hX.2.2.2.1, hX.2.2.2.2.1⟩ (hC τ x ho H.size) ⟨g_B hX hM hlk hroom, hX.2.2.2.2.1 _ hV.1, hX.2.2.2.2.1 _ hV.2⟩ (g_PV hX hw hq he hc) rfl hn hh.1 rfl (lv_room hcat) hd ⟨hX.2.2.2.2.2.2.2.2.2.1, hX.2.2.2.2.2.2.2.2.2.2.1⟩) hw.2.2 (fun q _ h => hF q h) hF (fun r1 u t H1 locs1 ht hvm hw2 hB hz1 hk1 hS => ?_)
  have hw2 : r1 = x := hw2; rw [hw2]
  exact kk τ x hk H1 locs1 ls ⟨by rw [← ht]; exact hB.1, va_D_weak hB.2.2 hF, hS⟩ hh
theorem g_callNI (hX : OKX X v cc nL own fr lo) (q : Nat) {ci N : Nat} {C : String} {T : u_T} {fs : List Value} {host : String} {o : Option (St × Int32)} {kf : St → Int32 → Option β} (hq : q < vn v) (he : vsh v q (σ.1 q) (σ.2 q) = .inr (ci, fs)) (hc : vwCl[ci]? = some (C, T, N)) (hM : MIb y bytes maxL ret n) (hV : MIv y C) (hlk : Cond.methodLinkNest own i y host ∈ wsNest) (hroom : fr' + 1 ≤ fr ∧ 8 + (maxL + 11) + lo' ≤ lo) (hn : As.length = n) (hcat : (rest.map fun v => v.category).sum ≤ 8) (hst : st = As.reverse ++ .ref (vad v q) :: rest) (hd : decode cc pc = .ok (.invokevirtual i, 3)) (hC : ∀ (τ : St) (x : Int32), o = some (τ, x) → CtI (Xl X) y bytes maxL ret fr' lo' v σ (.ref (vad v q) :: As) τ x) (h : cl o kf = some r) (kk : ∀ (τ : St) (x : Int32), kf τ x = some r → G X v nL τ (pc + 3) lv (.int x :: rest)) : G X v nL σ pc lv st := by
  subst hst
  intro H locs ls hw hh
  obtain ⟨τ, x, ho, hk⟩ := cl_inv h
  have hF := Av_mono hw.2.1 hw.2.2 hX.2.2.2.2.2.2.1
  refine va_calli (va_runVN (As := As) (rest := rest) (Ts := wsAll) (own := own) ⟨hX.1, hX.2.1, hX.2.2.1, hX.2.2.2.1, hX.2.2.2.2.1⟩ (hC τ x ho H.size) ⟨g_N hX hM hlk hroom, hX.2.2.2.2.1 _ hV.1, hX.2.2.2.2.1 _ hV.2⟩ (g_PV hX hw hq he hc) rfl hn hh.1 rfl (lv_room hcat) hd ⟨hX.2.2.2.2.2.2.2.2.2.1, hX.2.2.2.2.2.2.2.2.2.2.1⟩) hw.2.2 (fun q _ h => hF q h) hF (fun r1 u t H1 locs1 ht hvm hw2 hB hz1 hk1 hS => ?_)
  have hw2 : r1 = x := hw2; rw [hw2]
  exact kk τ x hk H1 locs1 ls ⟨by rw [← ht]; exact hB.1, va_D_weak hB.2.2 hF, hS⟩ hh
theorem g_callSI (hX : OKX X v cc nL own fr lo) {o : Option (St × Int32)} {kf : St → Int32 → Option β} (hM : MIb y bytes maxL ret n) (hV : Cond.static y ∈ wsAll) (hlk : Cond.methodLink own i y ∈ wsAll) (hroom : fr' + 1 ≤ fr ∧ 8 + (maxL + 11) + lo' ≤ lo) (hn : As.length = n) (hcat : (rest.map fun v => v.category).sum ≤ 8) (hst : st = As.reverse ++ rest) (hd : decode cc pc = .ok (.invokestatic i, 3)) (hC : ∀ (τ : St) (x : Int32), o = some (τ, x) → CtI (Xl X) y bytes maxL ret fr' lo' v σ As τ x) (h : cl o kf = some r) (kk : ∀ (τ : St) (x : Int32), kf τ x = some r → G X v nL τ (pc + 3) lv (.int x :: rest)) : G X v nL σ pc lv st := by
  subst hst
  intro H locs ls hw hh
  obtain ⟨τ, x, ho, hk⟩ := cl_inv h
  have hF := Av_mono hw.2.1 hw.2.2 hX.2.2.2.2.2.2.1
  refine va_calli (va_runS (As := As) (rest := rest) (Ts := wsAll) (own := own) ⟨hX.1, hX.2.1, hX.2.2.1, hX.2.2.2.1, hX.2.2.2.2.1⟩ (hC τ x ho H.size) ⟨g_B hX hM hlk hroom, hX.2.2.2.2.1 _ hV⟩ (g_PS hX hw) rfl hn hh.1 rfl (lv_room hcat) hd ⟨hX.2.2.2.2.2.2.2.2.2.1, hX.2.2.2.2.2.2.2.2.2.2.1⟩) hw.2.2 (fun q _ h => hF q h) hF (fun r1 u t H1 locs1 ht hvm hw2 hB hz1 hk1 hS => ?_)
  have hw2 : r1 = x := hw2; rw [hw2]
  exact kk τ x hk H1 locs1 ls ⟨by rw [← ht]; exact hB.1, va_D_weak hB.2.2 hF, hS⟩ hh
theorem g_callSNI (hX : OKX X v cc nL own fr lo) {host : String} {o : Option (St × Int32)} {kf : St → Int32 → Option β} (hM : MIb y bytes maxL ret n) (hV : Cond.static y ∈ wsAll) (hlk : Cond.methodLinkNest own i y host ∈ wsNest) (hroom : fr' + 1 ≤ fr ∧ 8 + (maxL + 11) + lo' ≤ lo) (hn : As.length = n) (hcat : (rest.map fun v => v.category).sum ≤ 8) (hst : st = As.reverse ++ rest) (hd : decode cc pc = .ok (.invokestatic i, 3)) (hC : ∀ (τ : St) (x : Int32), o = some (τ, x) → CtI (Xl X) y bytes maxL ret fr' lo' v σ As τ x) (h : cl o kf = some r) (kk : ∀ (τ : St) (x : Int32), kf τ x = some r → G X v nL τ (pc + 3) lv (.int x :: rest)) : G X v nL σ pc lv st := by
  subst hst
  intro H locs ls hw hh
  obtain ⟨τ, x, ho, hk⟩ := cl_inv h
  have hF := Av_mono hw.2.1 hw.2.2 hX.2.2.2.2.2.2.1
  refine va_calli (va_runSN (As := As) (rest := rest) (Ts := wsAll) (own := own) ⟨hX.1, hX.2.1, hX.2.2.1, hX.2.2.2.1, hX.2.2.2.2.1⟩ (hC τ x ho H.size) ⟨g_N hX hM hlk hroom, hX.2.2.2.2.1 _ hV, trivial⟩ (g_PS hX hw) rfl hn hh.1 rfl (lv_room hcat) hd ⟨hX.2.2.2.2.2.2.2.2.2.1, hX.2.2.2.2.2.2.2.2.2.2.1⟩) hw.2.2 (fun q _ h => hF q h) hF (fun r1 u t H1 locs1 ht hvm hw2 hB hz1 hk1 hS => ?_)
  have hw2 : r1 = x := hw2; rw [hw2]
  exact kk τ x hk H1 locs1 ls ⟨by rw [← ht]; exact hB.1, va_D_weak hB.2.2 hF, hS⟩ hh
theorem g_callVL (hX : OKX X v cc nL own fr lo) (q : Nat) {ci N : Nat} {C : String} {T : u_T} {fs : List Value} {o : Option (St × Int64)} {kf : St → Int64 → Option β} (hq : q < vn v) (he : vsh v q (σ.1 q) (σ.2 q) = .inr (ci, fs)) (hc : vwCl[ci]? = some (C, T, N)) (hM : MIb y bytes maxL ret n) (hV : MIv y C) (hlk : Cond.methodLink own i y ∈ wsAll) (hroom : fr' + 1 ≤ fr ∧ 8 + (maxL + 11) + lo' ≤ lo) (hn : As.length = n) (hcat : (rest.map fun v => v.category).sum ≤ 8) (hst : st = As.reverse ++ .ref (vad v q) :: rest) (hd : decode cc pc = .ok (.invokevirtual i, 3)) (hC : ∀ (τ : St) (x : Int64), o = some (τ, x) → CtL (Xl X) y bytes maxL ret fr' lo' v σ (.ref (vad v q) :: As) τ x) (h : cl o kf = some r) (kk : ∀ (τ : St) (x : Int64), kf τ x = some r → G X v nL τ (pc + 3) lv (.long x :: rest)) : G X v nL σ pc lv st := by
  subst hst
  intro H locs ls hw hh
  obtain ⟨τ, x, ho, hk⟩ := cl_inv h
  have hF := Av_mono hw.2.1 hw.2.2 hX.2.2.2.2.2.2.1
  refine va_calll (va_runV (As := As) (rest := rest) (Ts := wsAll) (own := own) ⟨hX.1, hX.2.1, hX.2.2.1, hX.2.2.2.1, hX.2.2.2.2.1⟩ (hC τ x ho H.size) ⟨g_B hX hM hlk hroom, hX.2.2.2.2.1 _ hV.1, hX.2.2.2.2.1 _ hV.2⟩ (g_PV hX hw hq he hc) rfl hn hh.1 rfl (lv_room hcat) hd ⟨hX.2.2.2.2.2.2.2.2.2.1, hX.2.2.2.2.2.2.2.2.2.2.1⟩) hw.2.2 (fun q _ h => hF q h) hF (fun r1 u t H1 locs1 ht hvm hw2 hB hz1 hk1 hS => ?_)
  have hw2 : r1 = x := hw2; rw [hw2]
  exact kk τ x hk H1 locs1 ls ⟨by rw [← ht]; exact hB.1, va_D_weak hB.2.2 hF, hS⟩ hh
theorem g_callNL (hX : OKX X v cc nL own fr lo) (q : Nat) {ci N : Nat} {C : String} {T : u_T} {fs : List Value} {host : String} {o : Option (St × Int64)} {kf : St → Int64 → Option β} (hq : q < vn v) (he : vsh v q (σ.1 q) (σ.2 q) = .inr (ci, fs)) (hc : vwCl[ci]? = some (C, T, N)) (hM : MIb y bytes maxL ret n) (hV : MIv y C) (hlk : Cond.methodLinkNest own i y host ∈ wsNest) (hroom : fr' + 1 ≤ fr ∧ 8 + (maxL + 11) + lo' ≤ lo) (hn : As.length = n) (hcat : (rest.map fun v => v.category).sum ≤ 8) (hst : st = As.reverse ++ .ref (vad v q) :: rest) (hd : decode cc pc = .ok (.invokevirtual i, 3)) (hC : ∀ (τ : St) (x : Int64), o = some (τ, x) → CtL (Xl X) y bytes maxL ret fr' lo' v σ (.ref (vad v q) :: As) τ x) (h : cl o kf = some r) (kk : ∀ (τ : St) (x : Int64), kf τ x = some r → G X v nL τ (pc + 3) lv (.long x :: rest)) : G X v nL σ pc lv st := by
  subst hst
  intro H locs ls hw hh
  obtain ⟨τ, x, ho, hk⟩ := cl_inv h
  have hF := Av_mono hw.2.1 hw.2.2 hX.2.2.2.2.2.2.1
  refine va_calll (va_runVN (As := As) (rest := rest) (Ts := wsAll) (own := own) ⟨hX.1, hX.2.1, hX.2.2.1, hX.2.2.2.1, hX.2.2.2.2.1⟩ (hC τ x ho H.size) ⟨g_N hX hM hlk hroom, hX.2.2.2.2.1 _ hV.1, hX.2.2.2.2.1 _ hV.2⟩ (g_PV hX hw hq he hc) rfl hn hh.1 rfl (lv_room hcat) hd ⟨hX.2.2.2.2.2.2.2.2.2.1, hX.2.2.2.2.2.2.2.2.2.2.1⟩) hw.2.2 (fun q _ h => hF q h) hF (fun r1 u t H1 locs1 ht hvm hw2 hB hz1 hk1 hS => ?_)
  have hw2 : r1 = x := hw2; rw [hw2]
  exact kk τ x hk H1 locs1 ls ⟨by rw [← ht]; exact hB.1, va_D_weak hB.2.2 hF, hS⟩ hh
theorem g_callSL (hX : OKX X v cc nL own fr lo) {o : Option (St × Int64)} {kf : St → Int64 → Option β} (hM : MIb y bytes maxL ret n) (hV : Cond.static y ∈ wsAll) (hlk : Cond.methodLink own i y ∈ wsAll) (hroom : fr' + 1 ≤ fr ∧ 8 + (maxL + 11) + lo' ≤ lo) (hn : As.length = n) (hcat : (rest.map fun v => v.category).sum ≤ 8) (hst : st = As.reverse ++ rest) (hd : decode cc pc = .ok (.invokestatic i, 3)) (hC : ∀ (τ : St) (x : Int64), o = some (τ, x) → CtL (Xl X) y bytes maxL ret fr' lo' v σ As τ x) (h : cl o kf = some r) (kk : ∀ (τ : St) (x : Int64), kf τ x = some r → G X v nL τ (pc + 3) lv (.long x :: rest)) : G X v nL σ pc lv st := by
  subst hst
  intro H locs ls hw hh
  obtain ⟨τ, x, ho, hk⟩ := cl_inv h
  have hF := Av_mono hw.2.1 hw.2.2 hX.2.2.2.2.2.2.1
  refine va_calll (va_runS (As := As) (rest := rest) (Ts := wsAll) (own := own) ⟨hX.1, hX.2.1, hX.2.2.1, hX.2.2.2.1, hX.2.2.2.2.1⟩ (hC τ x ho H.size) ⟨g_B hX hM hlk hroom, hX.2.2.2.2.1 _ hV⟩ (g_PS hX hw) rfl hn hh.1 rfl (lv_room hcat) hd ⟨hX.2.2.2.2.2.2.2.2.2.1, hX.2.2.2.2.2.2.2.2.2.2.1⟩) hw.2.2 (fun q _ h => hF q h) hF (fun r1 u t H1 locs1 ht hvm hw2 hB hz1 hk1 hS => ?_)
  have hw2 : r1 = x := hw2; rw [hw2]
  exact kk τ x hk H1 locs1 ls ⟨by rw [← ht]; exact hB.1, va_D_weak hB.2.2 hF, hS⟩ hh
theorem g_callSNL (hX : OKX X v cc nL own fr lo) {host : String} {o : Option (St × Int64)} {kf : St → Int64 → Option β} (hM : MIb y bytes maxL ret n) (hV : Cond.static y ∈ wsAll) (hlk : Cond.methodLinkNest own i y host ∈ wsNest) (hroom : fr' + 1 ≤ fr ∧ 8 + (maxL + 11) + lo' ≤ lo) (hn : As.length = n) (hcat : (rest.map fun v => v.category).sum ≤ 8) (hst : st = As.reverse ++ rest) (hd : decode cc pc = .ok (.invokestatic i, 3)) (hC : ∀ (τ : St) (x : Int64), o = some (τ, x) → CtL (Xl X) y bytes maxL ret fr' lo' v σ As τ x) (h : cl o kf = some r) (kk : ∀ (τ : St) (x : Int64), kf τ x = some r → G X v nL τ (pc + 3) lv (.long x :: rest)) : G X v nL σ pc lv st := by
  subst hst
  intro H locs ls hw hh
  obtain ⟨τ, x, ho, hk⟩ := cl_inv h
  have hF := Av_mono hw.2.1 hw.2.2 hX.2.2.2.2.2.2.1
  refine va_calll (va_runSN (As := As) (rest := rest) (Ts := wsAll) (own := own) ⟨hX.1, hX.2.1, hX.2.2.1, hX.2.2.2.1, hX.2.2.2.2.1⟩ (hC τ x ho H.size) ⟨g_N hX hM hlk hroom, hX.2.2.2.2.1 _ hV, trivial⟩ (g_PS hX hw) rfl hn hh.1 rfl (lv_room hcat) hd ⟨hX.2.2.2.2.2.2.2.2.2.1, hX.2.2.2.2.2.2.2.2.2.2.1⟩) hw.2.2 (fun q _ h => hF q h) hF (fun r1 u t H1 locs1 ht hvm hw2 hB hz1 hk1 hS => ?_)
  have hw2 : r1 = x := hw2; rw [hw2]
  exact kk τ x hk H1 locs1 ls ⟨by rw [← ht]; exact hB.1, va_D_weak hB.2.2 hF, hS⟩ hh
theorem g_callVV (hX : OKX X v cc nL own fr lo) (q : Nat) {ci N : Nat} {C : String} {T : u_T} {fs : List Value} {o : Option (St × Unit)} {kf : St → Unit → Option β} (hq : q < vn v) (he : vsh v q (σ.1 q) (σ.2 q) = .inr (ci, fs)) (hc : vwCl[ci]? = some (C, T, N)) (hM : MIb y bytes maxL ret n) (hV : MIv y C) (hlk : Cond.methodLink own i y ∈ wsAll) (hroom : fr' + 1 ≤ fr ∧ 8 + (maxL + 11) + lo' ≤ lo) (hn : As.length = n) (hcat : (rest.map fun v => v.category).sum ≤ 8) (hst : st = As.reverse ++ .ref (vad v q) :: rest) (hd : decode cc pc = .ok (.invokevirtual i, 3)) (hC : ∀ (τ : St) (x : Unit), o = some (τ, x) → CtV (Xl X) y bytes maxL ret fr' lo' v σ (.ref (vad v q) :: As) τ x) (h : cl o kf = some r) (kk : ∀ (τ : St) (x : Unit), kf τ x = some r → G X v nL τ (pc + 3) lv (rest)) : G X v nL σ pc lv st := by
  subst hst
  intro H locs ls hw hh
  obtain ⟨τ, x, ho, hk⟩ := cl_inv h
  have hF := Av_mono hw.2.1 hw.2.2 hX.2.2.2.2.2.2.1
  refine va_callv (va_runV (As := As) (rest := rest) (Ts := wsAll) (own := own) ⟨hX.1, hX.2.1, hX.2.2.1, hX.2.2.2.1, hX.2.2.2.2.1⟩ (hC τ x ho H.size) ⟨g_B hX hM hlk hroom, hX.2.2.2.2.1 _ hV.1, hX.2.2.2.2.1 _ hV.2⟩ (g_PV hX hw hq he hc) rfl hn hh.1 rfl (lv_room hcat) hd ⟨hX.2.2.2.2.2.2.2.2.2.1, hX.2.2.2.2.2.2.2.2.2.2.1⟩) hw.2.2 (fun q _ h => hF q h) hF (fun u t H1 locs1 ht hvm hw2 hB hz1 hk1 hS => ?_)
  skip
  exact kk τ x hk H1 locs1 ls ⟨by rw [← ht]; exact hB.1, va_D_weak hB.2.2 hF, hS⟩ hh
theorem g_callNV (hX : OKX X v cc nL own fr lo) (q : Nat) {ci N : Nat} {C : String} {T : u_T} {fs : List Value} {host : String} {o : Option (St × Unit)} {kf : St → Unit → Option β} (hq : q < vn v) (he : vsh v q (σ.1 q) (σ.2 q) = .inr (ci, fs)) (hc : vwCl[ci]? = some (C, T, N)) (hM : MIb y bytes maxL ret n) (hV : MIv y C) (hlk : Cond.methodLinkNest own i y host ∈ wsNest) (hroom : fr' + 1 ≤ fr ∧ 8 + (maxL + 11) + lo' ≤ lo) (hn : As.length = n) (hcat : (rest.map fun v => v.category).sum ≤ 8) (hst : st = As.reverse ++ .ref (vad v q) :: rest) (hd : decode cc pc = .ok (.invokevirtual i, 3)) (hC : ∀ (τ : St) (x : Unit), o = some (τ, x) → CtV (Xl X) y bytes maxL ret fr' lo' v σ (.ref (vad v q) :: As) τ x) (h : cl o kf = some r) (kk : ∀ (τ : St) (x : Unit), kf τ x = some r → G X v nL τ (pc + 3) lv (rest)) : G X v nL σ pc lv st := by
  subst hst
  intro H locs ls hw hh
  obtain ⟨τ, x, ho, hk⟩ := cl_inv h
  have hF := Av_mono hw.2.1 hw.2.2 hX.2.2.2.2.2.2.1
  refine va_callv (va_runVN (As := As) (rest := rest) (Ts := wsAll) (own := own) ⟨hX.1, hX.2.1, hX.2.2.1, hX.2.2.2.1, hX.2.2.2.2.1⟩ (hC τ x ho H.size) ⟨g_N hX hM hlk hroom, hX.2.2.2.2.1 _ hV.1, hX.2.2.2.2.1 _ hV.2⟩ (g_PV hX hw hq he hc) rfl hn hh.1 rfl (lv_room hcat) hd ⟨hX.2.2.2.2.2.2.2.2.2.1, hX.2.2.2.2.2.2.2.2.2.2.1⟩) hw.2.2 (fun q _ h => hF q h) hF (fun u t H1 locs1 ht hvm hw2 hB hz1 hk1 hS => ?_)
  skip
  exact kk τ x hk H1 locs1 ls ⟨by rw [← ht]; exact hB.1, va_D_weak hB.2.2 hF, hS⟩ hh
theorem g_callSV (hX : OKX X v cc nL own fr lo) {o : Option (St × Unit)} {kf : St → Unit → Option β} (hM : MIb y bytes maxL ret n) (hV : Cond.static y ∈ wsAll) (hlk : Cond.methodLink own i y ∈ wsAll) (hroom : fr' + 1 ≤ fr ∧ 8 + (maxL + 11) + lo' ≤ lo) (hn : As.length = n) (hcat : (rest.map fun v => v.category).sum ≤ 8) (hst : st = As.reverse ++ rest) (hd : decode cc pc = .ok (.invokestatic i, 3)) (hC : ∀ (τ : St) (x : Unit), o = some (τ, x) → CtV (Xl X) y bytes maxL ret fr' lo' v σ As τ x) (h : cl o kf = some r) (kk : ∀ (τ : St) (x : Unit), kf τ x = some r → G X v nL τ (pc + 3) lv (rest)) : G X v nL σ pc lv st := by
  subst hst
  intro H locs ls hw hh
  obtain ⟨τ, x, ho, hk⟩ := cl_inv h
  have hF := Av_mono hw.2.1 hw.2.2 hX.2.2.2.2.2.2.1
  refine va_callv (va_runS (As := As) (rest := rest) (Ts := wsAll) (own := own) ⟨hX.1, hX.2.1, hX.2.2.1, hX.2.2.2.1, hX.2.2.2.2.1⟩ (hC τ x ho H.size) ⟨g_B hX hM hlk hroom, hX.2.2.2.2.1 _ hV⟩ (g_PS hX hw) rfl hn hh.1 rfl (lv_room hcat) hd ⟨hX.2.2.2.2.2.2.2.2.2.1, hX.2.2.2.2.2.2.2.2.2.2.1⟩) hw.2.2 (fun q _ h => hF q h) hF (fun u t H1 locs1 ht hvm hw2 hB hz1 hk1 hS => ?_)
  skip
  exact kk τ x hk H1 locs1 ls ⟨by rw [← ht]; exact hB.1, va_D_weak hB.2.2 hF, hS⟩ hh
theorem g_callSNV (hX : OKX X v cc nL own fr lo) {host : String} {o : Option (St × Unit)} {kf : St → Unit → Option β} (hM : MIb y bytes maxL ret n) (hV : Cond.static y ∈ wsAll) (hlk : Cond.methodLinkNest own i y host ∈ wsNest) (hroom : fr' + 1 ≤ fr ∧ 8 + (maxL + 11) + lo' ≤ lo) (hn : As.length = n) (hcat : (rest.map fun v => v.category).sum ≤ 8) (hst : st = As.reverse ++ rest) (hd : decode cc pc = .ok (.invokestatic i, 3)) (hC : ∀ (τ : St) (x : Unit), o = some (τ, x) → CtV (Xl X) y bytes maxL ret fr' lo' v σ As τ x) (h : cl o kf = some r) (kk : ∀ (τ : St) (x : Unit), kf τ x = some r → G X v nL τ (pc + 3) lv (rest)) : G X v nL σ pc lv st := by
  subst hst
  intro H locs ls hw hh
  obtain ⟨τ, x, ho, hk⟩ := cl_inv h
  have hF := Av_mono hw.2.1 hw.2.2 hX.2.2.2.2.2.2.1
  refine va_callv (va_runSN (As := As) (rest := rest) (Ts := wsAll) (own := own) ⟨hX.1, hX.2.1, hX.2.2.1, hX.2.2.2.1, hX.2.2.2.2.1⟩ (hC τ x ho H.size) ⟨g_N hX hM hlk hroom, hX.2.2.2.2.1 _ hV, trivial⟩ (g_PS hX hw) rfl hn hh.1 rfl (lv_room hcat) hd ⟨hX.2.2.2.2.2.2.2.2.2.1, hX.2.2.2.2.2.2.2.2.2.2.1⟩) hw.2.2 (fun q _ h => hF q h) hF (fun u t H1 locs1 ht hvm hw2 hB hz1 hk1 hS => ?_)
  skip
  exact kk τ x hk H1 locs1 ls ⟨by rw [← ht]; exact hB.1, va_D_weak hB.2.2 hF, hS⟩ hh
end GCalls
theorem g_metI {l : Launch} {y : MethodName} {cc : ByteArray} {nL fr lo : Nat} {v : Vw} {σ τ : St} {vals : List Value} {x : Int32} {lv : List (Nat × Value)} (hpl : plainName y.cls = true) (hle : (lg_sl vals).length ≤ nL) (hlv : lv_args 0 vals = lv)
    (body : ∀ X : CX, Xl X = l → OKX X v cc nL y.cls fr lo → (∀ (pc : Nat) (lv : List (Nat × Value)), decode cc pc = .ok (.ireturn, 1) → G X v nL τ pc lv [.int x]) → G X v nL σ 0 lv []) : CtI l y cc nL (some .int) fr lo v σ vals τ x := by
  intro sz
  refine Met.ofW (cc := cc) (maxL := nL) (ret := (some .int)) hpl rfl ?_
  intro p e s m args below meth c s₁ B hml hv
  obtain ⟨rfl, hsz, hP, hK, hD0, hE⟩ := hv
  have hts := atoms_spec (ws := Cond.code y cc nL (some .int) :: wsAll) B.pre
  have hlocks := B.notSynchronized
  subst hsz
  have hD : va_D (Av v s.heap.size) (ww v σ) := ⟨hD0.1, fun k q hk => by
    obtain ⟨h1, h2⟩ := ww_inv hk
    rw [h2]
    exact Or.inl ⟨k, h1, rfl⟩⟩
  have hX : OKX (p, l, e, Rm fr lo, s, m, vals.toArray, below, meth, c, MQ below (va_Qi (fun z (_ : Unit) => z = x) (fun _ t => AtW v (Av v s.heap.size) τ t) (Av v s.heap.size)) vals.toArray s 0 0 (Av v s.heap.size), Av v s.heap.size, 0, 0) v cc nL y.cls fr lo := ⟨B.exec, B.bytes, hml, findClass_of_methodNamed B.named, fun w hw => hts w (List.mem_cons_of_mem _ hw), hK, fun q h => Or.inr h, Nat.le_refl _, Nat.le_refl _, Nat.le_refl _, Nat.le_refl _, hE⟩
  have hl := lv_entry vals (n := nL) hle
  rw [hlv] at hl
  rw [lg_entry_eq]
  refine body _ rfl hX (fun pc lv hd H locs ls hw hh => ?_) s.heap [] _ ⟨hP, hD, va_S.rf⟩ hl
  exact W.iret hX.1 hX.2.1 B.returns (fun t ht hW => ⟨⟨x, (), rfl, rfl, by rw [ht]; exact hw.1, va_K.moved hW.alike hK, hw.2.1⟩, hw.2.2.F ht⟩) hw.2.2.2.2 hd
theorem g_metZ {l : Launch} {y : MethodName} {cc : ByteArray} {nL fr lo : Nat} {v : Vw} {σ τ : St} {vals : List Value} {x : Int32} {lv : List (Nat × Value)} (hpl : plainName y.cls = true) (hle : (lg_sl vals).length ≤ nL) (hlv : lv_args 0 vals = lv)
    (body : ∀ X : CX, Xl X = l → OKX X v cc nL y.cls fr lo → ((x = 0 ∨ x = 1) → ∀ (pc : Nat) (lv : List (Nat × Value)), decode cc pc = .ok (.ireturn, 1) → G X v nL τ pc lv [.int x]) → G X v nL σ 0 lv []) : CtI l y cc nL (some .boolean) fr lo v σ vals τ x := by
  intro sz
  refine Met.ofW (cc := cc) (maxL := nL) (ret := (some .boolean)) hpl rfl ?_
  intro p e s m args below meth c s₁ B hml hv
  obtain ⟨rfl, hsz, hP, hK, hD0, hE⟩ := hv
  have hts := atoms_spec (ws := Cond.code y cc nL (some .boolean) :: wsAll) B.pre
  have hlocks := B.notSynchronized
  subst hsz
  have hD : va_D (Av v s.heap.size) (ww v σ) := ⟨hD0.1, fun k q hk => by
    obtain ⟨h1, h2⟩ := ww_inv hk
    rw [h2]
    exact Or.inl ⟨k, h1, rfl⟩⟩
  have hX : OKX (p, l, e, Rm fr lo, s, m, vals.toArray, below, meth, c, MQ below (va_Qi (fun z (_ : Unit) => z = x) (fun _ t => AtW v (Av v s.heap.size) τ t) (Av v s.heap.size)) vals.toArray s 0 0 (Av v s.heap.size), Av v s.heap.size, 0, 0) v cc nL y.cls fr lo := ⟨B.exec, B.bytes, hml, findClass_of_methodNamed B.named, fun w hw => hts w (List.mem_cons_of_mem _ hw), hK, fun q h => Or.inr h, Nat.le_refl _, Nat.le_refl _, Nat.le_refl _, Nat.le_refl _, hE⟩
  have hl := lv_entry vals (n := nL) hle
  rw [hlv] at hl
  rw [lg_entry_eq]
  refine body _ rfl hX (fun hz pc lv hd H locs ls hw hh => ?_) s.heap [] _ ⟨hP, hD, va_S.rf⟩ hl
  exact W.zret hX.1 hX.2.1 B.returns (by rcases hz with rfl | rfl <;> rfl) (fun t ht hW => ⟨⟨x, (), rfl, rfl, by rw [ht]; exact hw.1, va_K.moved hW.alike hK, hw.2.1⟩, hw.2.2.F ht⟩) hw.2.2.2.2 hd
theorem g_metL {l : Launch} {y : MethodName} {cc : ByteArray} {nL fr lo : Nat} {v : Vw} {σ τ : St} {vals : List Value} {x : Int64} {lv : List (Nat × Value)} (hpl : plainName y.cls = true) (hle : (lg_sl vals).length ≤ nL) (hlv : lv_args 0 vals = lv)
    (body : ∀ X : CX, Xl X = l → OKX X v cc nL y.cls fr lo → (∀ (pc : Nat) (lv : List (Nat × Value)), decode cc pc = .ok (.lreturn, 1) → G X v nL τ pc lv [.long x]) → G X v nL σ 0 lv []) : CtL l y cc nL (some .long) fr lo v σ vals τ x := by
  intro sz
  refine Met.ofW (cc := cc) (maxL := nL) (ret := (some .long)) hpl rfl ?_
  intro p e s m args below meth c s₁ B hml hv
  obtain ⟨rfl, hsz, hP, hK, hD0, hE⟩ := hv
  have hts := atoms_spec (ws := Cond.code y cc nL (some .long) :: wsAll) B.pre
  have hlocks := B.notSynchronized
  subst hsz
  have hD : va_D (Av v s.heap.size) (ww v σ) := ⟨hD0.1, fun k q hk => by
    obtain ⟨h1, h2⟩ := ww_inv hk
    rw [h2]
    exact Or.inl ⟨k, h1, rfl⟩⟩
  have hX : OKX (p, l, e, Rm fr lo, s, m, vals.toArray, below, meth, c, MQ below (va_Ql (fun z (_ : Unit) => z = x) (fun _ t => AtW v (Av v s.heap.size) τ t) (Av v s.heap.size)) vals.toArray s 0 0 (Av v s.heap.size), Av v s.heap.size, 0, 0) v cc nL y.cls fr lo := ⟨B.exec, B.bytes, hml, findClass_of_methodNamed B.named, fun w hw => hts w (List.mem_cons_of_mem _ hw), hK, fun q h => Or.inr h, Nat.le_refl _, Nat.le_refl _, Nat.le_refl _, Nat.le_refl _, hE⟩
  have hl := lv_entry vals (n := nL) hle
  rw [hlv] at hl
  rw [lg_entry_eq]
  refine body _ rfl hX (fun pc lv hd H locs ls hw hh => ?_) s.heap [] _ ⟨hP, hD, va_S.rf⟩ hl
  exact W.lret hX.1 hX.2.1 B.returns (fun t ht hW => ⟨⟨x, (), rfl, rfl, by rw [ht]; exact hw.1, va_K.moved hW.alike hK, hw.2.1⟩, hw.2.2.F ht⟩) hw.2.2.2.2 hd
theorem g_metV {l : Launch} {y : MethodName} {cc : ByteArray} {nL fr lo : Nat} {v : Vw} {σ τ : St} {vals : List Value} {x : Unit} {lv : List (Nat × Value)} (hpl : plainName y.cls = true) (hle : (lg_sl vals).length ≤ nL) (hlv : lv_args 0 vals = lv)
    (body : ∀ X : CX, Xl X = l → OKX X v cc nL y.cls fr lo → (∀ (pc : Nat) (lv : List (Nat × Value)), decode cc pc = .ok (.return_, 1) → G X v nL τ pc lv []) → G X v nL σ 0 lv []) : CtV l y cc nL none fr lo v σ vals τ x := by
  intro sz
  refine Met.ofW (cc := cc) (maxL := nL) (ret := none) hpl rfl ?_
  intro p e s m args below meth c s₁ B hml hv
  obtain ⟨rfl, hsz, hP, hK, hD0, hE⟩ := hv
  have hts := atoms_spec (ws := Cond.code y cc nL none :: wsAll) B.pre
  have hlocks := B.notSynchronized
  subst hsz
  have hD : va_D (Av v s.heap.size) (ww v σ) := ⟨hD0.1, fun k q hk => by
    obtain ⟨h1, h2⟩ := ww_inv hk
    rw [h2]
    exact Or.inl ⟨k, h1, rfl⟩⟩
  have hX : OKX (p, l, e, Rm fr lo, s, m, vals.toArray, below, meth, c, MQ below (va_Qv (fun (_ : Unit) => True) (fun _ t => AtW v (Av v s.heap.size) τ t) (Av v s.heap.size)) vals.toArray s 0 0 (Av v s.heap.size), Av v s.heap.size, 0, 0) v cc nL y.cls fr lo := ⟨B.exec, B.bytes, hml, findClass_of_methodNamed B.named, fun w hw => hts w (List.mem_cons_of_mem _ hw), hK, fun q h => Or.inr h, Nat.le_refl _, Nat.le_refl _, Nat.le_refl _, Nat.le_refl _, hE⟩
  have hl := lv_entry vals (n := nL) hle
  rw [hlv] at hl
  rw [lg_entry_eq]
  refine body _ rfl hX (fun pc lv hd H locs ls hw hh => ?_) s.heap [] _ ⟨hP, hD, va_S.rf⟩ hl
  exact W.vret hX.1 hX.2.1 B.returns (fun t ht hW => ⟨⟨(), rfl, trivial, by rw [ht]; exact hw.1, va_K.moved hW.alike hK, hw.2.1⟩, hw.2.2.F ht⟩) hw.2.2.2.2 hd
theorem g_reti {X : CX} {v : Vw} {cc : ByteArray} {nL pc : Nat} {σ : St} {lv : List (Nat × Value)} {x : Int32} {r : St × Int32} (hR : ∀ (pc : Nat) (lv : List (Nat × Value)), decode cc pc = .ok (.ireturn, 1) → G X v nL r.1 pc lv [.int r.2]) (h : some (σ, x) = some r) (hd : decode cc pc = .ok (.ireturn, 1)) : G X v nL σ pc lv [.int x] := by
  cases h; exact hR pc lv hd
theorem g_retl {X : CX} {v : Vw} {cc : ByteArray} {nL pc : Nat} {σ : St} {lv : List (Nat × Value)} {x : Int64} {r : St × Int64} (hR : ∀ (pc : Nat) (lv : List (Nat × Value)), decode cc pc = .ok (.lreturn, 1) → G X v nL r.1 pc lv [.long r.2]) (h : some (σ, x) = some r) (hd : decode cc pc = .ok (.lreturn, 1)) : G X v nL σ pc lv [.long x] := by
  cases h; exact hR pc lv hd
theorem g_retz {X : CX} {v : Vw} {cc : ByteArray} {nL pc : Nat} {σ : St} {lv : List (Nat × Value)} {x : Int32} {r : St × Int32} (hR : (r.2 = 0 ∨ r.2 = 1) → ∀ (pc : Nat) (lv : List (Nat × Value)), decode cc pc = .ok (.ireturn, 1) → G X v nL r.1 pc lv [.int r.2]) (hz : x = 0 ∨ x = 1) (h : some (σ, x) = some r) (hd : decode cc pc = .ok (.ireturn, 1)) : G X v nL σ pc lv [.int x] := by
  cases h; exact hR hz pc lv hd
def isB (x : Int32) : Bool := decide (x = 0 ∨ x = 1)
theorem g_retzc {X : CX} {v : Vw} {cc : ByteArray} {nL pc : Nat} {σ : St} {lv : List (Nat × Value)} {x : Int32} {r : St × Int32} (hR : (r.2 = 0 ∨ r.2 = 1) → ∀ (pc : Nat) (lv : List (Nat × Value)), decode cc pc = .ok (.ireturn, 1) → G X v nL r.1 pc lv [.int r.2]) (h : chk (isB x) (some (σ, x)) = some r) (hd : decode cc pc = .ok (.ireturn, 1)) : G X v nL σ pc lv [.int x] := g_retz hR (of_decide_eq_true (chk_inv h).1) (chk_inv h).2 hd
theorem g_retv {X : CX} {v : Vw} {cc : ByteArray} {nL pc : Nat} {σ : St} {lv : List (Nat × Value)} {r : St × Unit} (hR : ∀ (pc : Nat) (lv : List (Nat × Value)), decode cc pc = .ok (.return_, 1) → G X v nL r.1 pc lv []) (h : some (σ, ()) = some r) (hd : decode cc pc = .ok (.return_, 1)) : G X v nL σ pc lv [] := by
  cases h; exact hR pc lv hd
