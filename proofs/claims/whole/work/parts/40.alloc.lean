/-! methods that may make the row of marks anew (cell 54) -/
def upA (a : Nat → Nat) (n : Nat) : Nat → Nat := fun q => if q = 54 then n else a q
theorem upA_self (a : Nat → Nat) : upA a (a 54) = a := by
  funext q
  unfold upA
  by_cases h : q = 54
  · rw [if_pos h, h]
  · rw [if_neg h]
def bmp (X : CX) : CX := (Xp X, Xl X, Xe X, XR X, Xs X, Xm X, Xa X, Xw X, Xt X, Xc X, XQ X, XA X, Xn X + 1, Xk X + 4096)
/-- a new row of n marks -/
abbrev nM (σ : St) (n : Int32) : St := (fun c => if c = 54 then (fun j => if j = 2147483648 then n else 0) else σ.1 c, σ.2)
def hB (X : CX) : Prop := Xn X + 1 ≤ (XR X).cells ∧ Xk X + 4096 ≤ (XR X).slots
def RmA (fr lo : Nat) : Room := { frames := fr, cells := 1, slots := 4096, locals := lo }
section GAlloc
variable {X : CX} {a : Nat → Nat} {D : va_G} {tI tJ tB tS : ClassId} {kK kV : Nat → Nat} {cc : ByteArray} {nL fr lo : Nat} {own : String} {σ : St} {pc : Nat} {lv : List (Nat × Value)} {st : List Value} {β : Type} {r : β}
theorem okx_bmp (hX : OKX X (vC a D tI tJ tB tS kK kV) cc nL own fr lo) (hb : hB X) (n : Nat) : OKX (bmp X) (vC (upA a n) D tI tJ tB tS kK kV) cc nL own fr lo :=
  ⟨hX.1, hX.2.1, hX.2.2.1, hX.2.2.2.1, hX.2.2.2.2.1, hX.2.2.2.2.2.1, hX.2.2.2.2.2.2.1, hX.2.2.2.2.2.2.2.1, hX.2.2.2.2.2.2.2.2.1, hb.1, hb.2, hX.2.2.2.2.2.2.2.2.2.2.2⟩
theorem cS_up (n : Nat) (I : Nat → Int32) (L : Nat → Int64) : ∀ k : Nat, k < 62 → k ≠ 53 → cS (upA a n) tI tJ tB tS k I L = cS a tI tJ tB tS k I L := by
  intro k hk h53
  have : ∀ k : Nat, k < 62 → k ≠ 53 → cS (upA a n) tI tJ tB tS k I L = cS a tI tJ tB tS k I L := by
    intro k hk h
    match k, hk, h with
    | 0, _, _ => rfl
    | 1, _, _ => rfl
    | 2, _, _ => rfl
    | 3, _, _ => rfl
    | 4, _, _ => rfl
    | 5, _, _ => rfl
    | 6, _, _ => rfl
    | 7, _, _ => rfl
    | 8, _, _ => rfl
    | 9, _, _ => rfl
    | 10, _, _ => rfl
    | 11, _, _ => rfl
    | 12, _, _ => rfl
    | 13, _, _ => rfl
    | 14, _, _ => rfl
    | 15, _, _ => rfl
    | 16, _, _ => rfl
    | 17, _, _ => rfl
    | 18, _, _ => rfl
    | 19, _, _ => rfl
    | 20, _, _ => rfl
    | 21, _, _ => rfl
    | 22, _, _ => rfl
    | 23, _, _ => rfl
    | 24, _, _ => rfl
    | 25, _, _ => rfl
    | 26, _, _ => rfl
    | 27, _, _ => rfl
    | 28, _, _ => rfl
    | 29, _, _ => rfl
    | 30, _, _ => rfl
    | 31, _, _ => rfl
    | 32, _, _ => rfl
    | 33, _, _ => rfl
    | 34, _, _ => rfl
    | 35, _, _ => rfl
    | 36, _, _ => rfl
    | 37, _, _ => rfl
    | 38, _, _ => rfl
    | 39, _, _ => rfl
    | 40, _, _ => rfl
    | 41, _, _ => rfl
    | 42, _, _ => rfl
    | 43, _, _ => rfl
    | 44, _, _ => rfl
    | 45, _, _ => rfl
    | 46, _, _ => rfl
    | 47, _, _ => rfl
    | 48, _, _ => rfl
    | 49, _, _ => rfl
    | 50, _, _ => rfl
    | 51, _, _ => rfl
    | 52, _, _ => rfl
    | 54, _, _ => rfl
    | 55, _, _ => rfl
    | 56, _, _ => rfl
    | 57, _, _ => rfl
    | 58, _, _ => rfl
    | 59, _, _ => rfl
    | 60, _, _ => rfl
    | 61, _, _ => rfl
    | 53, _, h => exact absurd rfl h
    | k + 62, hk, _ => exact absurd hk (by omega)
  exact this k hk h53
theorem tI_same {U : State} {tys : List (ClassId × FieldType)} {G0 : va_G} {c1 c2 : ClassId} {i j : Nat} (hK : va_K G0 vwCl tys U) (h1 : tys[i]? = some (c1, .int)) (h2 : tys[j]? = some (c2, .int)) : c1 = c2 := by
  have e1 : va_RA U c1 .int := (hK.2 i _ h1).2
  have e2 : va_RA U c2 .int := (hK.2 j _ h2).2
  exact Option.some.inj (e1.symm.trans e2)
theorem nM_cell (n : Int32) (cA : ClassId) : vp_cell cA (n.toNatClampNeg, .inl (fun j => if j = 2147483648 then n else 0)) = arrV cA n.toNatClampNeg (fun _ => defaultValue .int) := by
  rw [vp_cell_i]
  have ext : ∀ {f g : Nat → Value} {N : Nat}, (∀ j, j < N → f j = g j) → arrV cA N f = arrV cA N g := by
    intro f g N h
    unfold arrV
    have e : (fun j : Fin N => f j.val) = fun j : Fin N => g j.val := funext fun j => h j.val j.isLt
    rw [e]
  refine ext (fun j hj => ?_)
  have := Int32.toInt_lt n
  have hj2 : j ≠ 2147483648 := by unfold Int32.toNatClampNeg at hj; omega
  show Value.int (if j = 2147483648 then n else 0) = _
  rw [if_neg hj2]
  rfl
/-- newarray, putfield marks -/
theorem g_newMarks (hX : OKX X (vC a D tI tJ tB tS kK kV) cc nL RX4 fr lo) (hb : hB X) {n : Int32} {i : Nat} {K : St → Option β} (hlk : Cond.fieldLink RX4 i "LoafStreet$Rests" "marks" "[I" ∈ wsAll) (harr : Cond.arrayClass .int ∈ wsAll) (hd1 : decode cc pc = .ok (.newarray .int, 2)) (hd2 : decode cc (pc + 2) = .ok (.putfield i, 3)) (h : chk (decide (0 ≤ n ∧ n ≤ 4096)) (bnd (nM σ n) K) = some r) (kk : ∀ (m : Nat) (τ : St), K τ = some r → G (bmp X) (vC (upA a m) D tI tJ tB tS kK kV) nL τ (pc + 5) lv st) : G X (vC a D tI tJ tB tS kK kV) nL σ pc lv (.int n :: .ref (a 53) :: st) := by
  obtain ⟨h1, h2⟩ := chk_inv h
  obtain ⟨hn0, hn1⟩ := of_decide_eq_true h1
  have e0 : 0 ≤ n.toInt := Int32.le_iff_toInt_le.mp hn0
  have e1 : n.toInt ≤ 4096 := Int32.le_iff_toInt_le.mp hn1
  have eN : n.toNatClampNeg ≤ 4096 := by unfold Int32.toNatClampNeg; omega
  have hn : ¬ n < 0 := by
    intro q
    have := Int32.lt_iff_toInt_lt.mp q
    have z : (0 : Int32).toInt = 0 := by decide
    omega
  intro H locs ls hw hh
  refine va_newa (atype := .int) (a0 := (n.toNatClampNeg, .inl (fun j => if j = 2147483648 then n else 0))) hX.1 hX.2.1 (hX.2.2.2.2.1 _ harr) rfl hX.2.2.2.2.2.1 hw.1 hw.2.1 hw.2.2 hX.2.2.2.2.2.2.1 (fun cA => nM_cell n cA) hn rfl (Nat.le_trans (Nat.mul_le_mul_right _ eN) (by decide)) hb.1 (Nat.le_trans (Nat.add_le_add_left eN _) hb.2) hd1 (fun q cA H1 hK1 hP1 hD1 hS1 => ?_)
  have ec : cA = tI := (tI_same (i := 0) (j := 4) hK1 rfl rfl).symm
  subst ec
  refine W.widen (k := Xn X + 1) (n := Xk X + 4096) (Nat.le_refl _) (Nat.add_le_add_left eN _) ?_
  have hlen : (ww (vC a D cA tJ tB tS kK kV) σ).length = 62 := by simp [ww]
  have at53 : (ww (vC a D cA tJ tB tS kK kV) σ ++ [(q, Sum.inl (cA, n.toNatClampNeg, Sum.inl (fun j => if j = 2147483648 then n else 0)))])[53]? = some (a 53, cS a cA tJ tB tS 53 (σ.1 53) (σ.2 53)) := by
    rw [List.getElem?_append_left (by rw [hlen]; decide)]
    exact ww_at _ σ (q := 53) (Nat.le_of_ble_eq_true rfl)
  refine va_put (v := .ref q) (ty := .array .int) hX.1 hX.2.1 hX.2.2.2.2.1 hinX4 tyX4 tyX4_ok nmX4 hX.2.2.2.1 hX.2.2.2.2.2.1 hP1 hD1 hS1 53 at53 rfl 4 (by decide) (hX.2.2.2.2.1 _ hlk) (fun _ h => h) rfl (by decide +kernel) rfl rfl (Nat.le_of_ble_eq_true rfl) hd2 (fun H2 locs2 hP2 hD2 hS2 => ?_)
  refine kk q (nM σ n) h2 H2 locs2 ls ?_ hh
  have key : ∀ k : Nat, k < 62 → ∃ j : Nat, ((ww (vC a D cA tJ tB tS kK kV) σ ++ [(q, Sum.inl (cA, n.toNatClampNeg, Sum.inl (fun j => if j = 2147483648 then n else 0)))]).set 53 (a 53, Sum.inr (4, [.ref (a 2), .ref (a 22), .ref (a 19), .ref (a 43), .ref q, .ref (a 55), .ref (a 56), .ref (a 57), .int (σ.1 53 8), .int (σ.1 53 9)])))[j]? = some (upA a q k, cS (upA a q) cA tJ tB tS k ((nM σ n).1 k) ((nM σ n).2 k)) ∧ (k = 54 → j = 62) ∧ (k ≠ 54 → j = k) := by
    intro k hk
    by_cases h54 : k = 54
    · subst h54
      refine ⟨62, ?_, fun _ => rfl, fun h => absurd rfl h⟩
      rw [List.getElem?_set_ne (by decide), List.getElem?_append_right (by rw [hlen]; decide), hlen]
      show some (q, _) = some (q, cS (upA a q) cA tJ tB tS 54 (fun j => if j = 2147483648 then n else 0) (σ.2 54))
      rfl
    · refine ⟨k, ?_, fun h => absurd h h54, fun _ => rfl⟩
      have eu : upA a q k = a k := by unfold upA; rw [if_neg h54]
      have es1 : (nM σ n).1 k = σ.1 k := by show (if k = 54 then _ else _) = _; rw [if_neg h54]
      by_cases h53 : k = 53
      · subst h53
        rw [List.getElem?_set_self (by rw [List.length_append, hlen]; exact Nat.lt_of_lt_of_le (by decide) (Nat.le_add_right _ _)), eu, es1]
        rfl
      · rw [List.getElem?_set_ne (fun h => h53 h.symm), List.getElem?_append_left (by rw [hlen]; exact hk), eu, es1, cS_up q _ _ k hk h53]
        exact ww_at _ σ hk
  refine ⟨fun k x hx => ?_, ⟨fun i j x y hx hy hxy => ?_, fun k x hx => ?_⟩, hS2⟩
  · obtain ⟨hk, rfl⟩ := ww_inv hx
    obtain ⟨j, hj, -⟩ := key k hk
    exact hP2 j _ hj
  · obtain ⟨hi, rfl⟩ := ww_inv hx
    obtain ⟨hj, rfl⟩ := ww_inv hy
    obtain ⟨i', hi', ei, ei'⟩ := key i hi
    obtain ⟨j', hj', ej, ej'⟩ := key j hj
    have := hD2.1 i' j' _ _ hi' hj' hxy
    have hi2 : i < 62 := hi
    have hj2 : j < 62 := hj
    by_cases q1 : i = 54
    · by_cases q2 : j = 54
      · rw [q1, q2]
      · have := ei q1; have := ej' q2; omega
    · by_cases q2 : j = 54
      · have := ei' q1; have := ej q2; omega
      · have := ei' q1; have := ej' q2; omega
  · obtain ⟨hk, rfl⟩ := ww_inv hx
    obtain ⟨j, hj, -⟩ := key k hk
    exact hD2.2 j _ hj
end GAlloc
/-! contracts and calls of such methods -/
def CtVA (l : Launch) (y : MethodName) (cc : ByteArray) (nL : Nat) (ret : Option FieldType) (fr lo : Nat) (a : Nat → Nat) (D : va_G) (tI tJ tB tS : ClassId) (kK kV : Nat → Nat) (σ : St) (vals : List Value) (τ : St) (_x : Unit) : Prop := ∀ sz : Nat, Met l y (Cond.code y cc nL ret :: wsAll) (RmA fr lo) (va_Pc vals (Pre (vC a D tI tJ tB tS kK kV) σ sz)) (va_Qv (fun (_ : Nat) => True) (fun n t => AtW (vC (upA a n) D tI tJ tB tS kK kV) (Av (vC a D tI tJ tB tS kK kV) sz) τ t) (Av (vC a D tI tJ tB tS kK kV) sz)) 1 4096 (Av (vC a D tI tJ tB tS kK kV) sz)
def CtIA (l : Launch) (y : MethodName) (cc : ByteArray) (nL : Nat) (ret : Option FieldType) (fr lo : Nat) (a : Nat → Nat) (D : va_G) (tI tJ tB tS : ClassId) (kK kV : Nat → Nat) (σ : St) (vals : List Value) (τ : St) (x : Int32) : Prop := ∀ sz : Nat, Met l y (Cond.code y cc nL ret :: wsAll) (RmA fr lo) (va_Pc vals (Pre (vC a D tI tJ tB tS kK kV) σ sz)) (va_Qi (fun z (_ : Nat) => z = x) (fun n t => AtW (vC (upA a n) D tI tJ tB tS kK kV) (Av (vC a D tI tJ tB tS kK kV) sz) τ t) (Av (vC a D tI tJ tB tS kK kV) sz)) 1 4096 (Av (vC a D tI tJ tB tS kK kV) sz)
section GACalls
variable {X : CX} {a : Nat → Nat} {D : va_G} {tI tJ tB tS : ClassId} {kK kV : Nat → Nat} {cc : ByteArray} {nL fr lo : Nat} {own : String} {σ : St} {pc : Nat} {lv : List (Nat × Value)} {st : List Value} {β : Type} {r : β}
variable {y : MethodName} {bytes : ByteArray} {maxL fr' lo' i n : Nat} {ret : Option FieldType} {As rest : List Value}
theorem g_BA (hX : OKX X (vC a D tI tJ tB tS kK kV) cc nL own fr lo) (hM : MIb y bytes maxL ret n) (hlk : Cond.methodLink own i y ∈ wsAll) (hroom : fr' + 1 ≤ fr ∧ 8 + (maxL + 11) + lo' ≤ lo) : CallB (XR X) (Xs X) (Xa X) own i y bytes maxL ret (Cond.code y bytes maxL ret :: wsAll) (RmA fr' lo') 1 4096 n :=
  ⟨rfl, rfl, Nat.le_trans hroom.1 hX.2.2.2.2.2.2.2.1, Nat.le_trans hroom.2 hX.2.2.2.2.2.2.2.2.1, pay_all hX.2.2.2.2.1 hM.1, List.mem_cons_self, hX.2.2.2.2.1 _ hM.1, hX.2.2.2.2.1 _ hM.2.1, hM.2.2.1, hMI hM.2.2.2, hX.2.2.2.2.1 _ hlk⟩
theorem g_NA (hX : OKX X (vC a D tI tJ tB tS kK kV) cc nL own fr lo) {host : String} (hM : MIb y bytes maxL ret n) (hlk : Cond.methodLinkNest own i y host ∈ wsNest) (hroom : fr' + 1 ≤ fr ∧ 8 + (maxL + 11) + lo' ≤ lo) : va_CN (XR X) (Xs X) (Xa X) own i y host bytes maxL ret (Cond.code y bytes maxL ret :: wsAll) (RmA fr' lo') 1 4096 n :=
  ⟨⟨rfl, rfl, Nat.le_trans hroom.1 hX.2.2.2.2.2.2.2.1, Nat.le_trans hroom.2 hX.2.2.2.2.2.2.2.2.1, pay_all hX.2.2.2.2.1 hM.1, List.mem_cons_self⟩, hX.2.2.2.2.1 _ hM.1, hX.2.2.2.2.1 _ hM.2.1, hM.2.2.1, hMI hM.2.2.2, wsNest_use hlk (hX.2.2.2.2.2.2.2.2.2.2.2.2.2.2.2 _ hlk)⟩
theorem g_callAVV (hX : OKX X (vC a D tI tJ tB tS kK kV) cc nL own fr lo) (hb : hB X) (q : Nat) {ci N : Nat} {C : String} {T : u_T} {fs : List Value} {o : Option (St × Unit)} {kf : St → Unit → Option β} (hq : q < vn (vC a D tI tJ tB tS kK kV)) (he : vsh (vC a D tI tJ tB tS kK kV) q (σ.1 q) (σ.2 q) = .inr (ci, fs)) (hc : vwCl[ci]? = some (C, T, N)) (hM : MIb y bytes maxL ret n) (hV : MIv y C) (hlk : Cond.methodLink own i y ∈ wsAll) (hroom : fr' + 1 ≤ fr ∧ 8 + (maxL + 11) + lo' ≤ lo) (hn : As.length = n) (hcat : (rest.map fun v => v.category).sum ≤ 8) (hst : st = As.reverse ++ .ref (a q) :: rest) (hd : decode cc pc = .ok (.invokevirtual i, 3)) (hC : ∀ (τ : St) (x : Unit), o = some (τ, x) → CtVA (Xl X) y bytes maxL ret fr' lo' a D tI tJ tB tS kK kV σ (.ref (a q) :: As) τ x) (h : cl o kf = some r) (kk : ∀ (m : Nat) (τ : St) (x : Unit), kf τ x = some r → G (bmp X) (vC (upA a m) D tI tJ tB tS kK kV) nL τ (pc + 3) lv (rest)) : G X (vC a D tI tJ tB tS kK kV) nL σ pc lv st := by
  subst hst
  intro H locs ls hw hh
  obtain ⟨τ, x, ho, hk⟩ := cl_inv h
  have hF := Av_mono hw.2.1 hw.2.2 hX.2.2.2.2.2.2.1
  refine va_callv (va_runV (As := As) (rest := rest) (Ts := wsAll) (own := own) ⟨hX.1, hX.2.1, hX.2.2.1, hX.2.2.2.1, hX.2.2.2.2.1⟩ (hC τ x ho H.size) ⟨g_BA hX hM hlk hroom, hX.2.2.2.2.1 _ hV.1, hX.2.2.2.2.1 _ hV.2⟩ (g_PV (v := vC a D tI tJ tB tS kK kV) hX hw hq he hc) rfl hn hh.1 rfl (lv_room hcat) hd hb) hw.2.2 (fun q _ h => hF q h) hF (fun u t H1 locs1 ht hvm hw2 hB hz1 hk1 hS => ?_)
  skip
  exact kk u τ x hk H1 locs1 ls ⟨by rw [← ht]; exact hB.1, va_D_weak hB.2.2 hF, hS⟩ hh
theorem g_callANV (hX : OKX X (vC a D tI tJ tB tS kK kV) cc nL own fr lo) (hb : hB X) (q : Nat) {ci N : Nat} {C : String} {T : u_T} {fs : List Value} {host : String} {o : Option (St × Unit)} {kf : St → Unit → Option β} (hq : q < vn (vC a D tI tJ tB tS kK kV)) (he : vsh (vC a D tI tJ tB tS kK kV) q (σ.1 q) (σ.2 q) = .inr (ci, fs)) (hc : vwCl[ci]? = some (C, T, N)) (hM : MIb y bytes maxL ret n) (hV : MIv y C) (hlk : Cond.methodLinkNest own i y host ∈ wsNest) (hroom : fr' + 1 ≤ fr ∧ 8 + (maxL + 11) + lo' ≤ lo) (hn : As.length = n) (hcat : (rest.map fun v => v.category).sum ≤ 8) (hst : st = As.reverse ++ .ref (a q) :: rest) (hd : decode cc pc = .ok (.invokevirtual i, 3)) (hC : ∀ (τ : St) (x : Unit), o = some (τ, x) → CtVA (Xl X) y bytes maxL ret fr' lo' a D tI tJ tB tS kK kV σ (.ref (a q) :: As) τ x) (h : cl o kf = some r) (kk : ∀ (m : Nat) (τ : St) (x : Unit), kf τ x = some r → G (bmp X) (vC (upA a m) D tI tJ tB tS kK kV) nL τ (pc + 3) lv (rest)) : G X (vC a D tI tJ tB tS kK kV) nL σ pc lv st := by
  subst hst
  intro H locs ls hw hh
  obtain ⟨τ, x, ho, hk⟩ := cl_inv h
  have hF := Av_mono hw.2.1 hw.2.2 hX.2.2.2.2.2.2.1
  refine va_callv (va_runVN (As := As) (rest := rest) (Ts := wsAll) (own := own) ⟨hX.1, hX.2.1, hX.2.2.1, hX.2.2.2.1, hX.2.2.2.2.1⟩ (hC τ x ho H.size) ⟨g_NA hX hM hlk hroom, hX.2.2.2.2.1 _ hV.1, hX.2.2.2.2.1 _ hV.2⟩ (g_PV (v := vC a D tI tJ tB tS kK kV) hX hw hq he hc) rfl hn hh.1 rfl (lv_room hcat) hd hb) hw.2.2 (fun q _ h => hF q h) hF (fun u t H1 locs1 ht hvm hw2 hB hz1 hk1 hS => ?_)
  skip
  exact kk u τ x hk H1 locs1 ls ⟨by rw [← ht]; exact hB.1, va_D_weak hB.2.2 hF, hS⟩ hh
theorem g_callAVI (hX : OKX X (vC a D tI tJ tB tS kK kV) cc nL own fr lo) (hb : hB X) (q : Nat) {ci N : Nat} {C : String} {T : u_T} {fs : List Value} {o : Option (St × Int32)} {kf : St → Int32 → Option β} (hq : q < vn (vC a D tI tJ tB tS kK kV)) (he : vsh (vC a D tI tJ tB tS kK kV) q (σ.1 q) (σ.2 q) = .inr (ci, fs)) (hc : vwCl[ci]? = some (C, T, N)) (hM : MIb y bytes maxL ret n) (hV : MIv y C) (hlk : Cond.methodLink own i y ∈ wsAll) (hroom : fr' + 1 ≤ fr ∧ 8 + (maxL + 11) + lo' ≤ lo) (hn : As.length = n) (hcat : (rest.map fun v => v.category).sum ≤ 8) (hst : st = As.reverse ++ .ref (a q) :: rest) (hd : decode cc pc = .ok (.invokevirtual i, 3)) (hC : ∀ (τ : St) (x : Int32), o = some (τ, x) → CtIA (Xl X) y bytes maxL ret fr' lo' a D tI tJ tB tS kK kV σ (.ref (a q) :: As) τ x) (h : cl o kf = some r) (kk : ∀ (m : Nat) (τ : St) (x : Int32), kf τ x = some r → G (bmp X) (vC (upA a m) D tI tJ tB tS kK kV) nL τ (pc + 3) lv (.int x :: rest)) : G X (vC a D tI tJ tB tS kK kV) nL σ pc lv st := by
  subst hst
  intro H locs ls hw hh
  obtain ⟨τ, x, ho, hk⟩ := cl_inv h
  have hF := Av_mono hw.2.1 hw.2.2 hX.2.2.2.2.2.2.1
  refine va_calli (va_runV (As := As) (rest := rest) (Ts := wsAll) (own := own) ⟨hX.1, hX.2.1, hX.2.2.1, hX.2.2.2.1, hX.2.2.2.2.1⟩ (hC τ x ho H.size) ⟨g_BA hX hM hlk hroom, hX.2.2.2.2.1 _ hV.1, hX.2.2.2.2.1 _ hV.2⟩ (g_PV (v := vC a D tI tJ tB tS kK kV) hX hw hq he hc) rfl hn hh.1 rfl (lv_room hcat) hd hb) hw.2.2 (fun q _ h => hF q h) hF (fun r1 u t H1 locs1 ht hvm hw2 hB hz1 hk1 hS => ?_)
  have hw2 : r1 = x := hw2; rw [hw2]
  exact kk u τ x hk H1 locs1 ls ⟨by rw [← ht]; exact hB.1, va_D_weak hB.2.2 hF, hS⟩ hh
theorem g_callANI (hX : OKX X (vC a D tI tJ tB tS kK kV) cc nL own fr lo) (hb : hB X) (q : Nat) {ci N : Nat} {C : String} {T : u_T} {fs : List Value} {host : String} {o : Option (St × Int32)} {kf : St → Int32 → Option β} (hq : q < vn (vC a D tI tJ tB tS kK kV)) (he : vsh (vC a D tI tJ tB tS kK kV) q (σ.1 q) (σ.2 q) = .inr (ci, fs)) (hc : vwCl[ci]? = some (C, T, N)) (hM : MIb y bytes maxL ret n) (hV : MIv y C) (hlk : Cond.methodLinkNest own i y host ∈ wsNest) (hroom : fr' + 1 ≤ fr ∧ 8 + (maxL + 11) + lo' ≤ lo) (hn : As.length = n) (hcat : (rest.map fun v => v.category).sum ≤ 8) (hst : st = As.reverse ++ .ref (a q) :: rest) (hd : decode cc pc = .ok (.invokevirtual i, 3)) (hC : ∀ (τ : St) (x : Int32), o = some (τ, x) → CtIA (Xl X) y bytes maxL ret fr' lo' a D tI tJ tB tS kK kV σ (.ref (a q) :: As) τ x) (h : cl o kf = some r) (kk : ∀ (m : Nat) (τ : St) (x : Int32), kf τ x = some r → G (bmp X) (vC (upA a m) D tI tJ tB tS kK kV) nL τ (pc + 3) lv (.int x :: rest)) : G X (vC a D tI tJ tB tS kK kV) nL σ pc lv st := by
  subst hst
  intro H locs ls hw hh
  obtain ⟨τ, x, ho, hk⟩ := cl_inv h
  have hF := Av_mono hw.2.1 hw.2.2 hX.2.2.2.2.2.2.1
  refine va_calli (va_runVN (As := As) (rest := rest) (Ts := wsAll) (own := own) ⟨hX.1, hX.2.1, hX.2.2.1, hX.2.2.2.1, hX.2.2.2.2.1⟩ (hC τ x ho H.size) ⟨g_NA hX hM hlk hroom, hX.2.2.2.2.1 _ hV.1, hX.2.2.2.2.1 _ hV.2⟩ (g_PV (v := vC a D tI tJ tB tS kK kV) hX hw hq he hc) rfl hn hh.1 rfl (lv_room hcat) hd hb) hw.2.2 (fun q _ h => hF q h) hF (fun r1 u t H1 locs1 ht hvm hw2 hB hz1 hk1 hS => ?_)
  have hw2 : r1 = x := hw2; rw [hw2]
  exact kk u τ x hk H1 locs1 ls ⟨by rw [← ht]; exact hB.1, va_D_weak hB.2.2 hF, hS⟩ hh
end GACalls
theorem g_metVA {l : Launch} {y : MethodName} {cc : ByteArray} {nL fr lo : Nat} {a : Nat → Nat} {D : va_G} {tI tJ tB tS : ClassId} {kK kV : Nat → Nat} {σ τ : St} {vals : List Value} {x : Unit} {lv : List (Nat × Value)} (hpl : plainName y.cls = true) (hle : (lg_sl vals).length ≤ nL) (hlv : lv_args 0 vals = lv)
    (body : ∀ X : CX, Xl X = l → OKX X (vC a D tI tJ tB tS kK kV) cc nL y.cls fr lo → hB X → (∀ (pc : Nat) (lv : List (Nat × Value)), decode cc pc = .ok (.return_, 1) → G X (vC a D tI tJ tB tS kK kV) nL τ pc lv []) → (∀ (M pc : Nat) (lv : List (Nat × Value)), decode cc pc = .ok (.return_, 1) → G (bmp X) (vC (upA a M) D tI tJ tB tS kK kV) nL τ pc lv []) → G X (vC a D tI tJ tB tS kK kV) nL σ 0 lv []) : CtVA l y cc nL none fr lo a D tI tJ tB tS kK kV σ vals τ x := by
  intro sz
  refine Met.ofW (cc := cc) (maxL := nL) (ret := none) hpl rfl ?_
  intro p e s m args below meth c s₁ B hml hv
  obtain ⟨rfl, hsz, hP, hK, hD0, hE⟩ := hv
  have hts := atoms_spec (ws := Cond.code y cc nL none :: wsAll) B.pre
  have hlocks := B.notSynchronized
  subst hsz
  have hD : va_D (Av (vC a D tI tJ tB tS kK kV) s.heap.size) (ww (vC a D tI tJ tB tS kK kV) σ) := ⟨hD0.1, fun k q hk => by
    obtain ⟨h1, h2⟩ := ww_inv hk
    rw [h2]
    exact Or.inl ⟨k, h1, rfl⟩⟩
  have hX : OKX (p, l, e, RmA fr lo, s, m, vals.toArray, below, meth, c, MQ below (va_Qv (fun (_ : Nat) => True) (fun n t => AtW (vC (upA a n) D tI tJ tB tS kK kV) (Av (vC a D tI tJ tB tS kK kV) s.heap.size) τ t) (Av (vC a D tI tJ tB tS kK kV) s.heap.size)) vals.toArray s 1 4096 (Av (vC a D tI tJ tB tS kK kV) s.heap.size), Av (vC a D tI tJ tB tS kK kV) s.heap.size, 0, 0) (vC a D tI tJ tB tS kK kV) cc nL y.cls fr lo := ⟨B.exec, B.bytes, hml, findClass_of_methodNamed B.named, fun w hw => hts w (List.mem_cons_of_mem _ hw), hK, fun q h => Or.inr h, Nat.le_refl _, Nat.le_refl _, Nat.zero_le _, Nat.zero_le _, hE⟩
  have hl := lv_entry vals (n := nL) hle
  rw [hlv] at hl
  rw [lg_entry_eq]
  refine body _ rfl hX ⟨Nat.le_refl _, Nat.le_refl _⟩ (fun pc lv hd H locs ls hw hh => ?_) (fun M pc lv hd H locs ls hw hh => ?_) s.heap [] _ ⟨hP, hD, va_S.rf⟩ hl
  · refine W.widen (k := 1) (n := 4096) (Nat.zero_le _) (Nat.zero_le _) ?_
    exact W.vret hX.1 hX.2.1 B.returns (fun t ht hW => ⟨⟨a 54, rfl, trivial, by rw [upA_self, ht]; exact hw.1, va_K.moved hW.alike hK, by rw [upA_self]; exact hw.2.1⟩, hw.2.2.F ht⟩) hw.2.2.2.2 hd
  · exact W.vret hX.1 hX.2.1 B.returns (fun t ht hW => ⟨⟨M, rfl, trivial, by rw [ht]; exact hw.1, va_K.moved hW.alike hK, hw.2.1⟩, hw.2.2.F ht⟩) hw.2.2.2.2 hd
theorem g_metIA {l : Launch} {y : MethodName} {cc : ByteArray} {nL fr lo : Nat} {a : Nat → Nat} {D : va_G} {tI tJ tB tS : ClassId} {kK kV : Nat → Nat} {σ τ : St} {vals : List Value} {x : Int32} {lv : List (Nat × Value)} (hpl : plainName y.cls = true) (hle : (lg_sl vals).length ≤ nL) (hlv : lv_args 0 vals = lv)
    (body : ∀ X : CX, Xl X = l → OKX X (vC a D tI tJ tB tS kK kV) cc nL y.cls fr lo → hB X → (∀ (pc : Nat) (lv : List (Nat × Value)), decode cc pc = .ok (.ireturn, 1) → G X (vC a D tI tJ tB tS kK kV) nL τ pc lv [.int x]) → (∀ (M pc : Nat) (lv : List (Nat × Value)), decode cc pc = .ok (.ireturn, 1) → G (bmp X) (vC (upA a M) D tI tJ tB tS kK kV) nL τ pc lv [.int x]) → G X (vC a D tI tJ tB tS kK kV) nL σ 0 lv []) : CtIA l y cc nL (some .int) fr lo a D tI tJ tB tS kK kV σ vals τ x := by
  intro sz
  refine Met.ofW (cc := cc) (maxL := nL) (ret := (some .int)) hpl rfl ?_
  intro p e s m args below meth c s₁ B hml hv
  obtain ⟨rfl, hsz, hP, hK, hD0, hE⟩ := hv
  have hts := atoms_spec (ws := Cond.code y cc nL (some .int) :: wsAll) B.pre
  have hlocks := B.notSynchronized
  subst hsz
  have hD : va_D (Av (vC a D tI tJ tB tS kK kV) s.heap.size) (ww (vC a D tI tJ tB tS kK kV) σ) := ⟨hD0.1, fun k q hk => by
    obtain ⟨h1, h2⟩ := ww_inv hk
    rw [h2]
    exact Or.inl ⟨k, h1, rfl⟩⟩
  have hX : OKX (p, l, e, RmA fr lo, s, m, vals.toArray, below, meth, c, MQ below (va_Qi (fun z (_ : Nat) => z = x) (fun n t => AtW (vC (upA a n) D tI tJ tB tS kK kV) (Av (vC a D tI tJ tB tS kK kV) s.heap.size) τ t) (Av (vC a D tI tJ tB tS kK kV) s.heap.size)) vals.toArray s 1 4096 (Av (vC a D tI tJ tB tS kK kV) s.heap.size), Av (vC a D tI tJ tB tS kK kV) s.heap.size, 0, 0) (vC a D tI tJ tB tS kK kV) cc nL y.cls fr lo := ⟨B.exec, B.bytes, hml, findClass_of_methodNamed B.named, fun w hw => hts w (List.mem_cons_of_mem _ hw), hK, fun q h => Or.inr h, Nat.le_refl _, Nat.le_refl _, Nat.zero_le _, Nat.zero_le _, hE⟩
  have hl := lv_entry vals (n := nL) hle
  rw [hlv] at hl
  rw [lg_entry_eq]
  refine body _ rfl hX ⟨Nat.le_refl _, Nat.le_refl _⟩ (fun pc lv hd H locs ls hw hh => ?_) (fun M pc lv hd H locs ls hw hh => ?_) s.heap [] _ ⟨hP, hD, va_S.rf⟩ hl
  · refine W.widen (k := 1) (n := 4096) (Nat.zero_le _) (Nat.zero_le _) ?_
    exact W.iret hX.1 hX.2.1 B.returns (fun t ht hW => ⟨⟨x, a 54, rfl, rfl, by rw [upA_self, ht]; exact hw.1, va_K.moved hW.alike hK, by rw [upA_self]; exact hw.2.1⟩, hw.2.2.F ht⟩) hw.2.2.2.2 hd
  · exact W.iret hX.1 hX.2.1 B.returns (fun t ht hW => ⟨⟨x, M, rfl, rfl, by rw [ht]; exact hw.1, va_K.moved hW.alike hK, hw.2.1⟩, hw.2.2.F ht⟩) hw.2.2.2.2 hd

