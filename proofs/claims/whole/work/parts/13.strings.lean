/-! string constants and the JDK's two statics -/
def isC (x : Int32) : Bool := decide (x.toUInt32.toUInt16.toUInt32.toInt32 = x)
def isY (x : Int32) : Bool := decide (x.toInt8.toInt32 = x)
section GStr
variable {X : CX} {v : Vw} {cc : ByteArray} {nL fr lo : Nat} {own : String} {σ : St} {pc : Nat} {lv : List (Nat × Value)} {st : List Value} {β : Type} {r : β}
variable {y : MethodName} {bytes : ByteArray} {maxL fr' lo' i n : Nat} {ret : Option FieldType} {As rest : List Value}
theorem g_ldcS (hX : OKX X v cc nL own fr lo) (k : Nat) {tx : String} (hk : k < (vz v).1) (ht : (vz v).2.2.2.2.2 k = (own, i, tx)) (hd : decode cc pc = .ok (.ldc i, 2)) (kk : G X v nL σ (pc + 2) lv (.ref ((vz v).2.2.2.1 k) :: st)) : G X v nL σ pc lv st := fun H locs ls hw hh =>
  va_ldcS (tx := tx) hX.1 hX.2.1 hX.2.2.2.1 (by have h1 := hX.2.2.2.2.2.2.2.2.2.2.2.2.1 k hk; rw [ht] at h1; exact h1) hd (kk H locs ls hw hh)
theorem g_strV (hX : OKX X v cc nL own fr lo) {k : Nat} {K : Option β} {N : Nat} (hN : N = (vz v).1) (hlk : Cond.fieldLink own i "java/lang/String" "value" "[B" ∈ wsAll) (hd : decode cc pc = .ok (.getfield i, 3)) (h : chk (decide (k < N)) K = some r) (kk : K = some r → G X v nL σ (pc + 3) lv (.ref ((vz v).2.2.2.2.1 k) :: st)) : G X v nL σ pc lv (.ref ((vz v).2.2.2.1 k) :: st) := fun H locs ls hw hh =>
  vk_getf hX.1 hX.2.1 (hX.2.2.2.2.2.2.2.2.2.2.2.1.1 k (by rw [← hN]; exact of_decide_eq_true (chk_inv h).1)).2.2.1 hw.2.2 hX.2.2.2.1 (hX.2.2.2.2.1 _ hlk) (fun _ h => h) hd (kk (chk_inv h).2 H locs ls hw hh)
theorem g_strC (hX : OKX X v cc nL own fr lo) {k : Nat} {K : Option β} {N : Nat} (hN : N = (vz v).1) (hlk : Cond.fieldLink own i "java/lang/String" "coder" "B" ∈ wsAll) (hd : decode cc pc = .ok (.getfield i, 3)) (h : chk (decide (k < N)) K = some r) (kk : K = some r → G X v nL σ (pc + 3) lv (.int 0 :: st)) : G X v nL σ pc lv (.ref ((vz v).2.2.2.1 k) :: st) := fun H locs ls hw hh =>
  vk_getf hX.1 hX.2.1 (hX.2.2.2.2.2.2.2.2.2.2.2.1.1 k (by rw [← hN]; exact of_decide_eq_true (chk_inv h).1)).2.1 hw.2.2 hX.2.2.2.1 (hX.2.2.2.2.1 _ hlk) (fun _ h => h) hd (kk (chk_inv h).2 H locs ls hw hh)
theorem g_strL (hX : OKX X v cc nL own fr lo) {k : Nat} {K : Option β} {N : Nat} {le : List Nat} (hN : N = (vz v).1) (hl : le = (vz v).2.1) (hd : decode cc pc = .ok (.arraylength, 1)) (h : chk (decide (k < N)) K = some r) (kk : K = some r → G X v nL σ (pc + 1) lv (.int (Int32.ofNat (le.getD k 0)) :: st)) : G X v nL σ pc lv (.ref ((vz v).2.2.2.2.1 k) :: st) := fun H locs ls hw hh =>
  va_tlen hX.1 hX.2.1 (hX.2.2.2.2.2.2.2.2.2.2.2.1.1 k (by rw [← hN]; exact of_decide_eq_true (chk_inv h).1)).2.2.2 hw.2.2 (by rw [hl]) hd (kk (chk_inv h).2 H locs ls hw hh)
theorem g_strB (hX : OKX X v cc nL own fr lo) {k : Nat} {j : Int32} {K : Option β} {N : Nat} {le : List Nat} {by' : List (List Int32)} (hN : N = (vz v).1) (hl : le = (vz v).2.1) (hb : by' = (vz v).2.2.1) (hd : decode cc pc = .ok (.baload, 1)) (h : chk (decide (k < N)) (chk (inb j (le.getD k 0)) K) = some r) (kk : K = some r → G X v nL σ (pc + 1) lv (.int ((by'.getD k []).getD (ix j) 0) :: st)) : G X v nL σ pc lv (.int j :: .ref ((vz v).2.2.2.2.1 k) :: st) := fun H locs ls hw hh =>
  va_tb hX.1 hX.2.1 (hX.2.2.2.2.2.2.2.2.2.2.2.1.1 k (by rw [← hN]; exact of_decide_eq_true (chk_inv h).1)).2.2.2 hw.2.2 (by rw [← hl]; exact inb_in (chk_inv (chk_inv h).2).1) (by rw [hb]; rfl) hd (kk (chk_inv (chk_inv h).2).2 H locs ls hw hh)
theorem g_getsC (hX : OKX X v cc nL own fr lo) (hlk : Cond.fieldLink own i "java/lang/String" "COMPACT_STRINGS" "Z" ∈ wsAll) (hd : decode cc pc = .ok (.getstatic i, 3)) (kk : G X v nL σ (pc + 3) lv (.int 1 :: st)) : G X v nL σ pc lv st := fun H locs ls hw hh =>
  va_gets hX.1 hX.2.1 hX.2.2.2.2.2.2.2.2.2.2.2.2.2.1 hw.2.2 hX.2.2.2.1 (hX.2.2.2.2.1 _ hlk) (fun _ h => h) hd (kk H locs ls hw hh)
theorem g_getsF (hX : OKX X v cc nL own fr lo) (hlk : Cond.fieldLink own i "jdk/internal/util/Preconditions" "SIOOBE_FORMATTER" "Ljava/util/function/BiFunction;" ∈ wsAll) (hd : decode cc pc = .ok (.getstatic i, 3)) (k1 : G X v nL σ (pc + 3) lv (.null :: st)) (k2 : ∀ t : Nat, G X v nL σ (pc + 3) lv (.ref t :: st)) : G X v nL σ pc lv st := fun H locs ls hw hh => by
  rcases hX.2.2.2.2.2.2.2.2.2.2.2.2.2.2.1 with hz | ⟨t, hz⟩
  · exact va_gets hX.1 hX.2.1 hz hw.2.2 hX.2.2.2.1 (hX.2.2.2.2.1 _ hlk) (fun _ h => h) hd (k1 H locs ls hw hh)
  · exact va_gets hX.1 hX.2.1 hz hw.2.2 hX.2.2.2.1 (hX.2.2.2.2.1 _ hlk) (fun _ h => h) hd (k2 t H locs ls hw hh)
theorem g_callZI (hX : OKX X v cc nL own fr lo) (k : Nat) {o : Option (St × Int32)} {kf : St → Int32 → Option β} (hk : k < (vz v).1) (hM : MIb y bytes maxL ret n) (hV : MIv y "java/lang/String") (hlk : Cond.methodLink own i y ∈ wsAll) (hroom : fr' + 1 ≤ fr ∧ 8 + (maxL + 11) + lo' ≤ lo) (hn : As.length = n) (hcat : (rest.map fun v => v.category).sum ≤ 8) (hst : st = As.reverse ++ .ref ((vz v).2.2.2.1 k) :: rest) (hd : decode cc pc = .ok (.invokevirtual i, 3)) (hC : ∀ (τ : St) (x : Int32), o = some (τ, x) → CtI (Xl X) y bytes maxL ret fr' lo' v σ (.ref ((vz v).2.2.2.1 k) :: As) τ x) (h : cl o kf = some r) (kk : ∀ (τ : St) (x : Int32), kf τ x = some r → G X v nL τ (pc + 3) lv (.int x :: rest)) : G X v nL σ pc lv st := by
  subst hst
  intro H locs ls hw hh
  obtain ⟨τ, x, ho, hkf⟩ := cl_inv h
  have hF := Av_mono hw.2.1 hw.2.2 hX.2.2.2.2.2.2.1
  have hpre : PreV (Xs X) H "java/lang/String" ((vz v).2.2.2.1 k) (va_Pc (.ref ((vz v).2.2.2.1 k) :: As) (Pre v σ H.size)) As := ⟨pre_blind v σ H.size _, vk_recv hX.2.2.2.2.2.2.2.2.2.2.2.1 hk hw.2.2, (fun U hU hW => ⟨rfl, by rw [hU], by rw [hU]; exact hw.1, va_K.moved hW.alike hX.2.2.2.2.2.1, va_D_weak hw.2.1 (fun _ _ => trivial), by rw [hU]; exact ((hX.2.2.2.2.2.2.2.2.2.2.2.kept hw.2.2.2.1).narrow hF).warm hW⟩)⟩
  refine va_calli (va_runV (As := As) (rest := rest) (Ts := wsAll) (own := own) ⟨hX.1, hX.2.1, hX.2.2.1, hX.2.2.2.1, hX.2.2.2.2.1⟩ (hC τ x ho H.size) ⟨g_B hX hM hlk hroom, hX.2.2.2.2.1 _ hV.1, hX.2.2.2.2.1 _ hV.2⟩ hpre rfl hn hh.1 rfl (lv_room hcat) hd ⟨hX.2.2.2.2.2.2.2.2.2.1, hX.2.2.2.2.2.2.2.2.2.2.1⟩) hw.2.2 (fun q _ h => hF q h) hF (fun r1 u t H1 locs1 ht hvm hw2 hB hz1 hk1 hS => ?_)
  have hw2 : r1 = x := hw2
  rw [hw2]
  exact kk τ x hkf H1 locs1 ls ⟨by rw [← ht]; exact hB.1, va_D_weak hB.2.2 hF, hS⟩ hh
end GStr
theorem isC_narrow {x : Int32} (h : isC x = true) : narrow .char (.int x) = .int x := by
  have h := of_decide_eq_true h
  show Value.int _ = _
  rw [h]
theorem g_metC {l : Launch} {y : MethodName} {cc : ByteArray} {nL fr lo : Nat} {v : Vw} {σ τ : St} {vals : List Value} {x : Int32} {lv : List (Nat × Value)} (hpl : plainName y.cls = true) (hle : (lg_sl vals).length ≤ nL) (hlv : lv_args 0 vals = lv)
    (body : ∀ X : CX, Xl X = l → OKX X v cc nL y.cls fr lo → (isC x = true → ∀ (pc : Nat) (lv : List (Nat × Value)), decode cc pc = .ok (.ireturn, 1) → G X v nL τ pc lv [.int x]) → G X v nL σ 0 lv []) : CtI l y cc nL (some .char) fr lo v σ vals τ x := by
  intro sz
  refine Met.ofW (cc := cc) (maxL := nL) (ret := (some .char)) hpl rfl ?_
  intro p e s m args below meth c s₁ B hml hv
  obtain ⟨rfl, hsz, hP, hK, hD0, hE⟩ := hv
  have hts := atoms_spec (ws := Cond.code y cc nL (some .char) :: wsAll) B.pre
  have hlocks := B.notSynchronized
  subst hsz
  have hD : va_D (Av v s.heap.size) (ww v σ) := ⟨hD0.1, fun k q hk => by
    obtain ⟨h1, h2⟩ := ww_inv hk
    rw [h2]
    exact Or.inl ⟨k, h1, rfl⟩⟩
  have hX : OKX (p, l, e, Rm fr lo, s, m, vals.toArray, below, meth, c, MQ below (va_Qi (fun z (_ : Unit) => z = x) (fun _ t => AtW v (Av v s.heap.size) τ t) (Av v s.heap.size)) vals.toArray s 0 0 (Av v s.heap.size), Av v s.heap.size, 0, 0) v cc nL y.cls fr lo := ⟨B.exec, B.bytes, hml, findClass_of_methodNamed B.named, fun w hw => hts w (List.mem_cons_of_mem _ hw), hK, fun q h => Or.inr h, Nat.le_refl _, Nat.le_refl _, Nat.le_refl _, Nat.le_refl _, hE⟩
  have hl := lv_entry vals (n := nL) hle
  rw [hlv] at hl
  rw [lg_entry_eq]
  refine body _ rfl hX (fun hz pc lv hd H locs ls hw hh => ?_) s.heap [] _ ⟨hP, hD, va_S.rf⟩ hl
  exact W.zret hX.1 hX.2.1 B.returns (isC_narrow hz) (fun t ht hW => ⟨⟨x, (), rfl, rfl, by rw [ht]; exact hw.1, va_K.moved hW.alike hK, hw.2.1⟩, hw.2.2.F ht⟩) hw.2.2.2.2 hd
theorem g_retc {X : CX} {v : Vw} {cc : ByteArray} {nL pc : Nat} {σ : St} {lv : List (Nat × Value)} {x : Int32} {r : St × Int32} (hR : isC r.2 = true → ∀ (pc : Nat) (lv : List (Nat × Value)), decode cc pc = .ok (.ireturn, 1) → G X v nL r.1 pc lv [.int r.2]) (h : chk (isC x) (some (σ, x)) = some r) (hd : decode cc pc = .ok (.ireturn, 1)) : G X v nL σ pc lv [.int x] := by
  obtain ⟨h1, h2⟩ := chk_inv h
  cases h2; exact hR h1 pc lv hd
theorem isY_narrow {x : Int32} (h : isY x = true) : narrow .byte (.int x) = .int x := by
  have h := of_decide_eq_true h
  show Value.int _ = _
  rw [h]
theorem g_metY {l : Launch} {y : MethodName} {cc : ByteArray} {nL fr lo : Nat} {v : Vw} {σ τ : St} {vals : List Value} {x : Int32} {lv : List (Nat × Value)} (hpl : plainName y.cls = true) (hle : (lg_sl vals).length ≤ nL) (hlv : lv_args 0 vals = lv)
    (body : ∀ X : CX, Xl X = l → OKX X v cc nL y.cls fr lo → (isY x = true → ∀ (pc : Nat) (lv : List (Nat × Value)), decode cc pc = .ok (.ireturn, 1) → G X v nL τ pc lv [.int x]) → G X v nL σ 0 lv []) : CtI l y cc nL (some .byte) fr lo v σ vals τ x := by
  intro sz
  refine Met.ofW (cc := cc) (maxL := nL) (ret := (some .byte)) hpl rfl ?_
  intro p e s m args below meth c s₁ B hml hv
  obtain ⟨rfl, hsz, hP, hK, hD0, hE⟩ := hv
  have hts := atoms_spec (ws := Cond.code y cc nL (some .byte) :: wsAll) B.pre
  have hlocks := B.notSynchronized
  subst hsz
  have hD : va_D (Av v s.heap.size) (ww v σ) := ⟨hD0.1, fun k q hk => by
    obtain ⟨h1, h2⟩ := ww_inv hk
    rw [h2]
    exact Or.inl ⟨k, h1, rfl⟩⟩
  have hX : OKX (p, l, e, Rm fr lo, s, m, vals.toArray, below, meth, c, MQ below (va_Qi (fun z (_ : Unit) => z = x) (fun _ t => AtW v (Av v s.heap.size) τ t) (Av v s.heap.size)) vals.toArray s 0 0 (Av v s.heap.size), Av v s.heap.size, 0, 0) v cc nL y.cls fr lo := ⟨B.exec, B.bytes, hml, findClass_of_methodNamed B.named, fun w hw => hts w (List.mem_cons_of_mem _ hw), hK, fun q h => Or.inr h, Nat.le_refl _, Nat.le_refl _, Nat.le_refl _, Nat.le_refl _, hE⟩
  have hl := lv_entry vals (n := nL) hle
  rw [hlv] at hl
  rw [lg_entry_eq]
  refine body _ rfl hX (fun hz pc lv hd H locs ls hw hh => ?_) s.heap [] _ ⟨hP, hD, va_S.rf⟩ hl
  exact W.zret hX.1 hX.2.1 B.returns (isY_narrow hz) (fun t ht hW => ⟨⟨x, (), rfl, rfl, by rw [ht]; exact hw.1, va_K.moved hW.alike hK, hw.2.1⟩, hw.2.2.F ht⟩) hw.2.2.2.2 hd
theorem g_rety {X : CX} {v : Vw} {cc : ByteArray} {nL pc : Nat} {σ : St} {lv : List (Nat × Value)} {x : Int32} {r : St × Int32} (hR : isY r.2 = true → ∀ (pc : Nat) (lv : List (Nat × Value)), decode cc pc = .ok (.ireturn, 1) → G X v nL r.1 pc lv [.int r.2]) (h : chk (isY x) (some (σ, x)) = some r) (hd : decode cc pc = .ok (.ireturn, 1)) : G X v nL σ pc lv [.int x] := by
  obtain ⟨h1, h2⟩ := chk_inv h
  cases h2; exact hR h1 pc lv hd
