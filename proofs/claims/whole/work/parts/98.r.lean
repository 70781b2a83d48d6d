/-! street: list, door, sorts -/
section Stm2
variable {T : Nat → Int32} {N : Nat} {σ τ : St} {s a n m t : Nat}
theorem bakerFn (hN : N ≤ 800) (h : LX T N σ τ s a) (hd : DR T σ τ n m t) {set : Nat} (hset : set < 16) : ∃ (τ1 : St) (r : Option Nat), frm aPs noL τ τ1 ∧ LX T N σ τ1 s s ∧ fX3_knownBaker σ = some (σ, encN r) ∧ (((r = none ∨ ∃ b : Nat, r = some b ∧ b < n ∧ set.testBit b = true) ∧ fX9_baker τ (nI set) = some (τ1, -1)) ∨ (∃ b : Nat, r = some b ∧ b < n ∧ 0 < wl T N s ∧ ¬ set.testBit b = true ∧ fX9_baker τ (nI set) = some (sI τ1 0 31 (nI (s + wl T N s)), nI b))) := by
  obtain ⟨τ1, r, a1, a2, a3, a4, a5, a6, a7⟩ := nameS hN h hd
  have n4 := hd.1.2.2
  refine ⟨τ1, r, a2, a3, a5, ?_⟩
  unfold fX9_baker
  rw [a1, cl_some, a6, cl_some, bnd_eq]
  cases r with
  | none => rw [if_pos (show encN none = -1 from rfl)]; exact Or.inl ⟨Or.inl rfl, rfl⟩
  | some b =>
    have b7 := a7 b rfl
    rw [if_neg (show ¬ encN (some b) = -1 from nI_ne_m1 (by omega)), show encN (some b) = nI b from rfl, hasM τ1 hset (by omega), cl_some]
    by_cases w : set.testBit b = true
    · rw [if_pos w, if_neg one0]
      exact Or.inl ⟨Or.inr ⟨b, rfl, b7.1, w⟩, rfl⟩
    · rw [if_neg w, if_pos rfl, a4, bnd_eq]
      exact Or.inr ⟨b, rfl, b7.1, b7.2, w, rfl⟩
theorem listSt (hN : N ≤ 800) (h : LX T N σ τ s a) (hd : DR T σ τ n m t) : ∃ (τ1 : St) (y : Int32), fX9_listTold τ = some (τ1, y) ∧ StR T N σ τ (fX3_listing σ) τ1 y t := by
  obtain ⟨τ1, r, a1, a2, a3, a4⟩ := bakerFn hN h hd (set := 0) (by omega)
  have n4 := hd.1.2.2
  have d1 : DR T σ τ1 n m t := DR_fr (frm_refl _ _ _) a1 hd
  rcases a4 with ⟨c1, c2⟩ | ⟨b, c1, c2, c3, c4, c5⟩
  · have c2 : fX9_baker τ 0 = some (τ1, -1) := c2
    have rn : r = none := by
      rcases c1 with z | ⟨b, _, _, z⟩
      · exact z
      · rw [Nat.zero_testBit] at z; cases z
    have hM : fX9_listTold τ = some (τ1, 0) := by
      unfold fX9_listTold
      rw [c2, cl_some, bnd_eq, if_pos rfl]
    have hC : fX3_listing σ = some (σ, 0) := by
      unfold fX3_listing
      rw [a3, cl_some, bnd_eq, rn, if_pos (show encN none = -1 from rfl)]
    exact ⟨τ1, 0, hM, StR.no hC (frm_refl _ _ _) (frMd a1) a2⟩
  · have c5 : fX9_baker τ 0 = some (sI τ1 0 31 (nI (s + wl T N s)), nI b) := c5
    obtain ⟨l, l1, l2, l3⟩ := d1.2.2.2.2.2.2.1
    have p16 : 2 ^ n ≤ 16 := Nat.pow_le_pow_right (n := 2) (by decide) n4
    have pb := pow2b b (by omega)
    have lo := or_lt l3 c2
    have eo : nI l ||| ((1 : Int32) <<< (nI b &&& 31)) = nI (l ||| 2 ^ b) := by rw [(sh1 b (by omega)).1, (or16 l (by omega) (2 ^ b) (by omega)).1]
    have lx0 : LX T N (sI σ 10 6 (nI (l ||| 2 ^ b))) τ1 s s := a2
    obtain ⟨σ2, s2, e1, e2, e3⟩ := advS hN lx0 c3
    have d2 : DR T (sI σ 10 6 (nI (l ||| 2 ^ b))) (sI τ1 0 21 (nI (l ||| 2 ^ b))) n m t := DR_21 d1 lo
    have d3 : DR T σ2 (sI (sI τ1 0 31 (nI (s + wl T N s))) 0 21 (nI (l ||| 2 ^ b))) n m t := DR_fr e2 (frm_refl _ _ _) (show DR T (sI σ 10 6 (nI (l ||| 2 ^ b))) (sI (sI τ1 0 31 (nI (s + wl T N s))) 0 21 (nI (l ||| 2 ^ b))) n m t from d2)
    have lx3 : LX T N σ2 (sI (sI τ1 0 31 (nI (s + wl T N s))) 0 21 (nI (l ||| 2 ^ b))) s2 (s + wl T N s) := e3
    have hM : fX9_listTold τ = some (sI (sI τ1 0 31 (nI (s + wl T N s))) 0 21 (nI (l ||| 2 ^ b)), 1) := by
      unfold fX9_listTold
      rw [c5, cl_some, bnd_eq, if_neg (nI_ne_m1 (m := b) (by omega)), show (sI τ1 0 31 (nI (s + wl T N s))).1 0 21 = nI l from l2, eo, bnd_eq]
    have hC : fX3_listing σ = fX3_ended σ2 := by
      unfold fX3_listing
      rw [a3, cl_some, bnd_eq, c1, if_neg (show ¬ encN (some b) = -1 from nI_ne_m1 (by omega)), show encN (some b) = nI b from rfl, l1, eo, bnd_eq, e1, cl_some, (endW hN lx3).1]
    exact ⟨_, 1, hM, frm_trans (frMd a1) (frm_trans (frm_sI _ _ rfl) (frm_sI _ _ rfl)), Or.inr ⟨rfl, σ2, s2, _, n, m, hC, frm_trans (frm_sI _ _ rfl) (frCd e2), lx3, d3⟩⟩
theorem doorSt (hN : N ≤ 800) (h : LX T N σ τ s a) (hd : DR T σ τ n m t) : ∃ (τ1 : St) (y : Int32), (cl (fX9_takesNumber τ (0 : Int32) (99 : Int32)) fun (σ_21 : St) (t_22 : Int32) => (if t_22 = 0 then some (σ_21, (0 : Int32)) else bnd (sI σ_21 0 20 (σ_21.1 0 36)) fun (σ_23 : St) => some (σ_23, (1 : Int32)))) = some (τ1, y) ∧ StR T N σ τ (cl (fX3_number σ (0 : Int32) (99 : Int32)) fun (σ_21 : St) (t_22 : Int32) => bnd (sI σ_21 10 5 t_22) fun (σ_23 : St) => (if (σ_23.1 10 5) = (-1 : Int32) then some (σ_23, (0 : Int32)) else cl (fX3_ended σ_23 ) fun (σ_24 : St) (t_25 : Int32) => (if t_25 = 0 then some (σ_24, (0 : Int32)) else some (σ_24, (1 : Int32))))) τ1 y t := by
  have z99 : (99 : Int32).toInt = 99 := by decide
  rcases numberS hN h 0 99 with ⟨σ1, τ1, v, s1, a1, q1, q2, q3, q4, q5, q6, q7⟩ | ⟨τ1, q1, q2, q6, q7⟩
  · have v99 : v ≤ 99 := by have := q4.2.1; rw [z99] at this; omega
    have d1 : DR T (sI σ1 10 5 (nI v)) (sI τ1 0 20 (nI v)) n m t := DR_20 (DR_fr q5 q6 hd) v99
    have l1 : LX T N (sI σ1 10 5 (nI v)) (sI τ1 0 20 (nI v)) s1 a1 := q7
    refine ⟨sI τ1 0 20 (nI v), 1, by rw [q2, cl_some, if_neg one0, q3, bnd_eq], frm_trans (frMd q6) (frm_sI _ _ rfl), Or.inr ⟨rfl, sI σ1 10 5 (nI v), s1, a1, n, m, ?_, frm_trans (frCd q5) (frm_sI _ _ rfl), l1, d1⟩⟩
    rw [q1, cl_some, bnd_eq, if_neg (show ¬ (sI σ1 10 5 (nI v)).1 10 5 = -1 from nI_ne_m1 (by omega)), (endW hN l1).2]
  · refine ⟨τ1, 0, by rw [q2, cl_some, if_pos rfl], StR.no (σ := sI σ 10 5 (-1)) ?_ (frm_sI _ _ rfl) (frMd q6) (show LX T N (sI σ 10 5 (-1)) τ1 s s from q7)⟩
    rw [q1, cl_some, bnd_eq, if_pos (show (sI σ 10 5 (-1)).1 10 5 = -1 from rfl)]
theorem addSortC {x : St} {k w o r : Int32} (hm : m < 12) (h1 : x.1 10 1 = nI m) : fX6_addSort_i10 x k w o r = some (sI (sI (sI (sI (sI x 13 m k) 14 m w) 15 m o) 16 m r) 10 1 (nI (m + 1)), ()) := by
  have z12 : (12 : Int32).toInt = 12 := by decide
  unfold fX6_addSort_i10
  rw [h1, if_neg (by rw [le_i, z12, nI_toInt (by omega)]; omega), chk_t (inb_nI (by omega) (by decide)), ix_nI (m := m) (by omega), bnd_eq, show (sI x 13 m k).1 10 1 = nI m from h1, chk_t (inb_nI (by omega) (by decide)), ix_nI (m := m) (by omega), bnd_eq, show (sI (sI x 13 m k) 14 m w).1 10 1 = nI m from h1, chk_t (inb_nI (by omega) (by decide)), ix_nI (m := m) (by omega), bnd_eq, show (sI (sI (sI x 13 m k) 14 m w) 15 m o).1 10 1 = nI m from h1, chk_t (inb_nI (by omega) (by decide)), ix_nI (m := m) (by omega), bnd_eq, show (sI (sI (sI (sI x 13 m k) 14 m w) 15 m o) 16 m r).1 10 1 = nI m from h1, bnd_eq, nI_succ]
/-- the class's rest of a sort's statement, from "worth" on -/
def clsW (σ : St) (k w o : Int32) : Option (St × Int32) := cl (fX3_accept σ 12) fun (σ_7 : St) (t_8 : Int32) => (jp (fun (σ_9 : St)  (t_10 : Int32) => bnd t_10 fun (x4_11 : Int32) => (if x4_11 = (-1 : Int32) then some (σ_9, (0 : Int32)) else cl (fX6_addSort_i10 σ_9 k w o x4_11) fun (σ_12 : St) (t_13 : Unit) => cl (fX3_ended σ_12 ) fun (σ_14 : St) (t_15 : Int32) => chk (isB t_15) (some (σ_14, t_15)))) fun j97 => (if t_8 = 0 then j97 σ_7 (999 : Int32) else cl (fX3_number σ_7 (0 : Int32) (999 : Int32)) fun (σ_16 : St) (t_17 : Int32) => j97 σ_16 t_17))
theorem worthSt (hN : N ≤ 800) (h : LX T N σ τ s a) (hd : DR T σ τ n m t) (hm : m < 12) {k w o : Nat} (hk : k ≤ 2) (hw : 1 ≤ w ∧ w ≤ 99) (h9 : τ.1 9 m = nI k) (h10 : τ.1 10 m = nI w) (h11 : τ.1 11 m = nI o) (ho0 : k = 0 → 1 ≤ o ∧ o < 2 ^ n) (ho1 : k = 1 → 1 ≤ o ∧ o ≤ 4) (ho2 : k = 2 → o = 0) (ho : o < 100) : ∃ (τ1 : St) (y : Int32), (cl (fX9_worthTold τ ) fun (σ_8 : St) (t_9 : Int32) => chk (isB t_9) (some (σ_8, t_9))) = some (τ1, y) ∧ StR T N σ τ (clsW σ (nI k) (nI w) (nI o)) τ1 y t := by
  have z999 : (999 : Int32).toInt = 999 := by decide
  have i16 : τ.1 0 16 = nI m := hd.2.1.2.1
  have f0 : frm aD bD τ (sI τ 12 m 999) := frm_sI _ _ rfl
  have l0 : LX T N σ (sI τ 12 m 999) s a := h
  have d0 : DR T σ (sI τ 12 m 999) n m t := DR_wm hd (by omega) 999
  have v9 : (sI τ 12 m 999).1 9 m = nI k := h9
  have v10' : (sI τ 12 m 999).1 10 m = nI w := h10
  have v11 : (sI τ 12 m 999).1 11 m = nI o := h11
  have v12 : (sI τ 12 m 999).1 12 m = nI 999 := by rw [sI_at, if_pos rfl]; rfl
  unfold fX9_worthTold clsW
  rw [i16, chk_t (inb_nI (by omega) (by decide)), ix_nI (m := m) (by omega), bnd_eq]
  generalize sI τ 12 m 999 = τ0 at f0 l0 d0 v9 v10' v11 v12
  -- written at last
  have fin : ∀ (σ' τ' : St) (s' a' r : Nat), r ≤ 999 → LX T N σ' τ' s' a' → DR T σ' τ' n m t → τ'.1 9 m = nI k → τ'.1 10 m = nI w → τ'.1 11 m = nI o → τ'.1 12 m = nI r → frm (mk 10 18) mDL σ σ' → frm aD bD τ τ' → ∃ (τ1 : St) (y : Int32), (cl (bnd (sI τ' 0 16 ((τ'.1 0 16) + (1 : Int32))) fun (σ_5 : St) => some (σ_5, (1 : Int32))) fun (σ_8 : St) (t_9 : Int32) => chk (isB t_9) (some (σ_8, t_9))) = some (τ1, y) ∧ StR T N σ τ (bnd (nI r) fun (x4_11 : Int32) => (if x4_11 = (-1 : Int32) then some (σ', (0 : Int32)) else cl (fX6_addSort_i10 σ' (nI k) (nI w) (nI o) x4_11) fun (σ_12 : St) (t_13 : Unit) => cl (fX3_ended σ_12 ) fun (σ_14 : St) (t_15 : Int32) => chk (isB t_15) (some (σ_14, t_15)))) τ1 y t := by
    intro σ' τ' s' a' r hr hl hdd u9 u10 u11 u12 fC fM
    have d' := DR_sort hdd hm hk hw hr u9 u10 u11 u12 ho0 ho1 ho2 ho
    have l' : LX T N (sI (sI (sI (sI (sI σ' 13 m (nI k)) 14 m (nI w)) 15 m (nI o)) 16 m (nI r)) 10 1 (nI (m + 1))) (sI τ' 0 16 (nI (m + 1))) s' a' := hl
    refine ⟨sI τ' 0 16 (nI (m + 1)), 1, ?_, frm_trans fM (frm_sI _ _ rfl), Or.inr ⟨rfl, _, s', a', n, m + 1, ?_, ?_, l', d'⟩⟩
    · rw [hdd.2.1.2.1, ← nI_succ, bnd_eq, cl_some]; rfl
    · rw [bnd_eq, if_neg (nI_ne_m1 (m := r) (by omega)), addSortC hm hdd.2.1.1, cl_some, (endW hN l').1]
    · exact frm_trans fC (frm_trans (frm_sI _ _ rfl) (frm_trans (frm_sI _ _ rfl) (frm_trans (frm_sI _ _ rfl) (frm_trans (frm_sI _ _ rfl) (frm_sI _ _ rfl)))))
  rcases acceptS hN l0 (w := 12) (W := 512970880104) (by omega) (by omega) (by decide) with ⟨σ3, τ3, s3, a3, u1, u2, u3, u4, u5⟩ | ⟨τ3, u1, u2, u4, u5⟩
  · have i16' : τ3.1 0 16 = nI m := (DR_fr u3 u4 d0).2.1.2.1
    rw [u1, u2, cl_some, cl_some, jp_eq, jp_eq, if_neg one0, if_neg one0]
    rcases numberS hN u5 0 999 with ⟨σ4, τ4, v, s4, a4, q1, q2, q3, q4, q5, q6, q7⟩ | ⟨τ4, q1, q2, q6, q7⟩
    · have vv : v ≤ 999 := by have := q4.2.1; rw [z999] at this; omega
      have d4 : DR T σ4 τ4 n m t := DR_fr q5 q6 (DR_fr u3 u4 d0)
      rw [q1, q2, cl_some, cl_some, if_neg one0, d4.2.1.2.1, chk_t (inb_nI (by omega) (by decide)), ix_nI (m := m) (by omega), q3, bnd_eq]
      dsimp only
      have g9 : (sI τ4 12 m (nI v)).1 9 m = nI k := ((q6.1 9 m rfl).trans ((u4.1 9 m rfl).trans v9))
      have g10 : (sI τ4 12 m (nI v)).1 10 m = nI w := ((q6.1 10 m rfl).trans ((u4.1 10 m rfl).trans v10'))
      have g11 : (sI τ4 12 m (nI v)).1 11 m = nI o := ((q6.1 11 m rfl).trans ((u4.1 11 m rfl).trans v11))
      have g12 : (sI τ4 12 m (nI v)).1 12 m = nI v := by rw [sI_at, if_pos rfl]
      exact fin σ4 (sI τ4 12 m (nI v)) s4 a4 v vv q7 (DR_wm d4 (by omega) _) g9 g10 g11 g12 (frm_trans (frCd u3) (frCd q5)) (frm_trans f0 (frm_trans (frMd u4) (frm_trans (frMd q6) (frm_sI _ _ rfl))))
    · rw [q1, q2, cl_some, cl_some, if_pos rfl, cl_some]
      dsimp only
      rw [bnd_eq, if_pos rfl]
      exact ⟨τ4, 0, rfl, StR.no rfl (frCd u3) (frm_trans f0 (frm_trans (frMd u4) (frMd q6))) q7⟩
  · rw [u1, u2, cl_some, cl_some, jp_eq, jp_eq, if_pos rfl, if_pos rfl]
    dsimp only
    exact fin σ τ3 s s 999 (by omega) u5 (DR_fr (frm_refl _ _ _) u4 d0) ((u4.1 9 m rfl).trans v9) ((u4.1 10 m rfl).trans v10') ((u4.1 11 m rfl).trans v11) ((u4.1 12 m rfl).trans v12) (frm_refl _ _ _) (frm_trans f0 (frMd u4))
theorem popN_or : ∀ x : Nat, x < 16 → ∀ b : Nat, b < 4 → ¬ x.testBit b = true → popN 4 (x ||| 2 ^ b) = popN 4 x + 1 := by decide +kernel
theorem or_pos : ∀ x : Nat, x < 16 → ∀ b : Nat, b < 4 → 1 ≤ x ||| 2 ^ b := by decide +kernel
/-- NAMES with "and" between them -/
theorem askedSt (hN : N ≤ 800) (hm : m < 12) (kx : St → Option (St × Int32)) : ∀ (f i : Nat) (σ τ : St) (set s a : Nat), i + f = 5 → LX T N σ (sI τ 0 31 (τ.1 0 35)) s a → DR T σ τ n m t → τ.1 11 m = nI set → set < 2 ^ n → popN 4 set = i → ∀ nC nM : Nat, f < nC → f < nM → (∃ (σ' τ' : St) (q : Nat), fX3_asked_L4 (fun (σ_12 : St) (x1_13 : Int32) (x2_14 : Int32) => some (σ_12, (-1 : Int32))) nC σ (nI set) (nI i) = some (σ', -1) ∧ fX9_sortTold_L101 kx nM τ = some (τ', 0) ∧ frm m18 m18 σ σ' ∧ frm aD bD τ τ' ∧ LX T N σ' τ' q q) ∨ (∃ (σ' τ' : St) (set' s' : Nat), fX3_asked_L4 (fun (σ_12 : St) (x1_13 : Int32) (x2_14 : Int32) => some (σ_12, (-1 : Int32))) nC σ (nI set) (nI i) = some (σ', nI set') ∧ fX9_sortTold_L101 kx nM τ = kx τ' ∧ frm m18 m18 σ σ' ∧ frm aD bD τ τ' ∧ LX T N σ' τ' s' s' ∧ DR T σ' τ' n m t ∧ τ'.1 11 m = nI set' ∧ (1 ≤ set' ∧ set' < 2 ^ n) ∧ τ'.1 9 m = τ.1 9 m ∧ τ'.1 10 m = τ.1 10 m) := by
  intro f
  induction f with
  | zero =>
    intro i σ τ set s a hi _ hd _ hs hp
    exfalso
    have n4 := hd.1.2.2
    have p16 : 2 ^ n ≤ 16 := Nat.pow_le_pow_right (n := 2) (by decide) n4
    have := pop16 set (by omega)
    omega
  | succ f ih =>
    intro i σ τ set s a hi hl hd h11 hs hp nC nM hC hM
    have n4 := hd.1.2.2
    have p16 : 2 ^ n ≤ 16 := Nat.pow_le_pow_right (n := 2) (by decide) n4
    have pi := pop16 set (by omega)
    have z4 : (4 : Int32).toInt = 4 := by decide
    have i16 : (sI τ 0 31 (τ.1 0 35)).1 0 16 = nI m := hd.2.1.2.1
    have d0 : DR T σ (sI τ 0 31 (τ.1 0 35)) n m t := hd
    cases nC with
    | zero => omega
    | succ nC =>
    cases nM with
    | zero => omega
    | succ nM =>
    rw [fX3_asked_L4, fX9_sortTold_L101, bnd_eq, i16, chk_t (inb_nI (by omega) (by decide)), ix_nI (m := m) (by omega), show (sI τ 0 31 (τ.1 0 35)).1 11 m = nI set from h11, if_neg (show ¬ (4 : Int32) < nI i by rw [lt_i, z4, nI_toInt (by omega)]; omega)]
    have f0 : frm aD bD τ (sI τ 0 31 (τ.1 0 35)) := frm_sI _ _ rfl
    have v9 : (sI τ 0 31 (τ.1 0 35)).1 9 m = τ.1 9 m := rfl
    have v10' : (sI τ 0 31 (τ.1 0 35)).1 10 m = τ.1 10 m := rfl
    have v11 : (sI τ 0 31 (τ.1 0 35)).1 11 m = nI set := h11
    generalize sI τ 0 31 (τ.1 0 35) = τ0 at hl d0 f0 v9 v10' v11 i16
    obtain ⟨τ1, r, b1, b2, b3, b4⟩ := bakerFn hN hl d0 (set := set) (by omega)
    rw [b3, cl_some, bnd_eq]
    rcases b4 with ⟨c1, c2⟩ | ⟨b, c1, c2, c3, c4, c5⟩
    · left
      rcases c1 with rn | ⟨b, rb, bn, tb⟩
      · rw [rn, if_pos (show encN none = -1 from rfl), c2, cl_some, bnd_eq, if_pos (show (-1 : Int32) = -1 from rfl)]
        exact ⟨σ, τ1, s, rfl, rfl, frm_refl _ _ _, frm_trans f0 (frMd b1), b2⟩
      · rw [rb, if_neg (show ¬ encN (some b) = -1 from nI_ne_m1 (by omega)), show encN (some b) = nI b from rfl, if_neg (fun z => (bit0 set (by omega) b (by omega)).mp z tb), c2, cl_some, bnd_eq, if_pos (show (-1 : Int32) = -1 from rfl)]
        exact ⟨σ, τ1, s, rfl, rfl, frm_refl _ _ _, frm_trans f0 (frMd b1), b2⟩
    · obtain ⟨σ2, s2, e1, e2, e3⟩ := advS hN b2 c3
      have pb := pow2b b (by omega)
      have lo := or_lt hs c2
      have eo : nI set ||| ((1 : Int32) <<< (nI b &&& 31)) = nI (set ||| 2 ^ b) := by rw [(sh1 b (by omega)).1, (or16 set (by omega) (2 ^ b) (by omega)).1]
      have d1 : DR T σ2 (sI τ1 0 31 (nI (s + wl T N s))) n m t := DR_fr e2 (frm_trans b1 (frm_sI _ _ rfl)) d0
      have j16 : (sI τ1 0 31 (nI (s + wl T N s))).1 0 16 = nI m := d1.2.1.2.1
      have j11 : (sI τ1 0 31 (nI (s + wl T N s))).1 11 m = nI set := (b1.1 11 m rfl).trans v11
      rw [c1, if_neg (show ¬ encN (some b) = -1 from nI_ne_m1 (by omega)), show encN (some b) = nI b from rfl, if_pos ((bit0 set (by omega) b (by omega)).mpr c4), eo, bnd_eq, e1, cl_some, c5, cl_some, bnd_eq, if_neg (nI_ne_m1 (m := b) (by omega)), j16, chk_t (inb_nI (by omega) (by decide)), chk_t (inb_nI (by omega) (by decide)), ix_nI (m := m) (by omega), j11, eo, bnd_eq]
      have l2 : LX T N σ2 (sI (sI τ1 0 31 (nI (s + wl T N s))) 11 m (nI (set ||| 2 ^ b))) s2 (s + wl T N s) := e3
      have d2 : DR T σ2 (sI (sI τ1 0 31 (nI (s + wl T N s))) 11 m (nI (set ||| 2 ^ b))) n m t := DR_wm d1 (by omega) _
      have f2 : frm aD bD τ (sI (sI τ1 0 31 (nI (s + wl T N s))) 11 m (nI (set ||| 2 ^ b))) := frm_trans f0 (frm_trans (frMd b1) (frm_trans (frm_sI _ _ rfl) (frm_sI _ _ rfl)))
      have w9 : (sI (sI τ1 0 31 (nI (s + wl T N s))) 11 m (nI (set ||| 2 ^ b))).1 9 m = τ.1 9 m := (b1.1 9 m rfl).trans v9
      have w10 : (sI (sI τ1 0 31 (nI (s + wl T N s))) 11 m (nI (set ||| 2 ^ b))).1 10 m = τ.1 10 m := (b1.1 10 m rfl).trans v10'
      have w11 : (sI (sI τ1 0 31 (nI (s + wl T N s))) 11 m (nI (set ||| 2 ^ b))).1 11 m = nI (set ||| 2 ^ b) := by rw [sI_at, if_pos rfl]
      generalize sI (sI τ1 0 31 (nI (s + wl T N s))) 11 m (nI (set ||| 2 ^ b)) = τ2 at l2 d2 f2 w9 w10 w11
      obtain ⟨τ3, g1, g2, g3, g4⟩ := wordS hN l2
      have kb := kw_b 10 (by omega) (by omega)
      have eq : (lg_cmp (Int64.ofInt ((wv T N s2 : Nat) : Int)) 6385252 = 0) ↔ isW T N s2 10 := by
        rw [lgE, show (6385252 : Int64) = Int64.ofInt ((kw256 10 : Nat) : Int) from by decide, ofI_inj (wv_b T N s2) (by omega), isW_wv (by omega) (by omega)]
      rw [g1, cl_some]
      rcases acceptC hN l2.sl l2.2.2.2.2.2.1 l2.1 (w := 10) (by omega) (by omega) with ⟨k1, σ3, k2, k3, k4⟩ | ⟨k1, k2⟩
      · -- one more
        have wle : s2 + wl T N s2 ≤ N := rL_le l2.sl
        rw [k2, cl_some, if_neg one0, bnd_eq, ← nI_succ, if_pos (eq.mpr k1)]
        have l3 : LX T N σ3 (sI τ3 0 31 (τ3.1 0 35)) (skp T N (s2 + wl T N s2)) (s2 + wl T N s2) := l2.mk1 wle k3 (frm_trans g2 (frm_sI _ _ rfl)) k4 (by rw [g4]; rfl)
        have d3 : DR T σ3 τ3 n m t := DR_fr k3 g2 d2
        have x11 : τ3.1 11 m = nI (set ||| 2 ^ b) := (g2.1 11 m rfl).trans w11
        have pp := popN_or set (by omega) b (by omega) c4
        rcases ih (i + 1) σ3 τ3 (set ||| 2 ^ b) _ _ (by omega) l3 d3 x11 lo (by omega) nC nM (by omega) (by omega) with ⟨σ4, τ4, q, r1, r2, r3, r4, r5⟩ | ⟨σ4, τ4, set4, s4, r1, r2, r3, r4, r5, r6, r7, r8, r9, r10⟩
        · exact Or.inl ⟨σ4, τ4, q, r1, r2, frm_trans e2 (frm_trans k3 r3), frm_trans f2 (frm_trans (frMd g2) r4), r5⟩
        · exact Or.inr ⟨σ4, τ4, set4, s4, r1, r2, frm_trans e2 (frm_trans k3 r3), frm_trans f2 (frm_trans (frMd g2) r4), r5, r6, r7, r8, r9.trans ((g2.1 9 m rfl).trans w9), r10.trans ((g2.1 10 m rfl).trans w10)⟩
      · rw [k2, cl_some, if_pos rfl, if_neg (fun z => k1 (eq.mp z))]
        exact Or.inr ⟨σ2, τ3, set ||| 2 ^ b, s2, rfl, rfl, e2, frm_trans f2 (frMd g2), g3, DR_fr (frm_refl _ _ _) g2 d2, (g2.1 11 m rfl).trans w11, ⟨or_pos set (by omega) b (by omega), lo⟩, (g2.1 9 m rfl).trans w9, (g2.1 10 m rfl).trans w10⟩
end Stm2
