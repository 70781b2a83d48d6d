/-! street: the class's words -/
def lenS (w : Nat) : Nat := lenJS.getD w 0
def chS (w i : Nat) : Nat := ((bytJS.getD w []).getD i 0).toInt.toNat
theorem len_b : ∀ w : Nat, w < 15 → lenS w ≤ 71 ∧ 2 ≤ lenS w ∧ (w ≠ 1 → lenS w ≤ 7) := by decide +kernel
theorem chr_b : ∀ w : Nat, w < 15 → ∀ i : Nat, i < 71 → i < lenS w → ((((((bytJS.getD w []).getD i 0) &&& (255 : Int32))).toUInt32 % 65536).toInt32) = nI (chS w i) ∧ isC (nI (chS w i)) = true ∧ chS w i < 128 ∧ 1 ≤ chS w i := by decide +kernel
theorem chr_l : ∀ w : Nat, w < 15 → w ≠ 1 → ∀ i : Nat, i < 71 → i < lenS w → 97 ≤ chS w i ∧ chS w i ≤ 122 := by decide +kernel
theorem len_v : ∀ w : Nat, w < 15 → (Int32.ofNat (lenJS.getD w 0)) >>> ((0 : Int32) &&& 31) = nI (lenS w) := by decide +kernel
theorem lengthC (σ : St) {w : Nat} (hw : w < 15) : fJ0_length_8abf5 σ w = some (σ, nI (lenS w)) := by
  unfold fJ0_length_8abf5 fJ0_coder_7d493
  rw [chk_t (decide_eq_true hw), chk_t (decide_eq_true hw), chk_t (decide_eq_true hw), if_neg one0, chk_t (decide_eq_true hw), chk_t (by decide), cl_some, len_v w hw]
theorem charAtC (σ : St) {w i : Nat} (hw : w < 15) (hi : i < lenS w) : fJ0_charAt_5068e σ w (nI i) = some (σ, nI (chS w i)) := by
  have lb := len_b w hw
  have cb := chr_b w hw i (by omega) hi
  have el : Int32.ofNat (lenJS.getD w 0) = nI (lenS w) := rfl
  have ii : inb (nI i) (lenJS.getD w 0) = true := inb_nI (n := lenS w) hi (by omega)
  unfold fJ0_charAt_5068e fJ0_isLatin1_aae02 fJ1_charAt_3b067 fJ0_checkIndex_df160 fJ3_checkIndex_8e157_inull
  rw [chk_t (decide_eq_true hw), if_neg one0, chk_t (decide_eq_true hw), if_pos rfl, cl_some, if_neg one0, chk_t (decide_eq_true hw), chk_t (decide_eq_true hw), if_neg (by rw [lt_i, z_0, nI_toInt (by omega)]; omega), el, if_pos (by rw [lt_i, nI_toInt (by omega), nI_toInt (by omega)]; omega), cl_some, cl_some, chk_t (decide_eq_true hw), chk_t ii, ix_nI (m := i) (by omega), cb.1, chk_t cb.2.1, cl_some, chk_t cb.2.1]
theorem chr_t : ∀ t : Nat, t < 128 → ((nI t).toUInt32 % 65536).toInt32 = nI t := by decide +kernel
/-- the token is the word w -/
def isW (T : Nat → Int32) (N s w : Nat) : Prop := wl T N s = lenS w ∧ ∀ j : Nat, j < lenS w → lt T (s + j) = chS w j
theorem tk_w {T : Nat → Int32} {N s : Nat} : tkK T N s = 1 ↔ 0 < wl T N s := by
  unfold tkK
  by_cases w : 0 < wl T N s
  · rw [if_pos w]; exact ⟨fun _ => w, fun _ => rfl⟩
  · rw [if_neg w]
    refine ⟨fun q => ?_, fun q => absurd q w⟩
    by_cases d : 0 < dl T N s
    · rw [if_pos d] at q; omega
    · rw [if_neg d] at q
      by_cases e : s < N
      · rw [if_pos e] at q
        by_cases z : T s = 59
        · rw [if_pos z] at q; omega
        · rw [if_neg z] at q; omega
      · rw [if_neg e] at q; omega
theorem tk_d {T : Nat → Int32} {N s : Nat} : tkK T N s = 2 ↔ 0 < dl T N s := by
  have excl : 0 < wl T N s → ¬ 0 < dl T N s := fun w d => by
    have a := pL_iff.mp (rL_in (p := pL T) (N := N) (a := s) (j := 0) w).2
    have b := pD_iff.mp (rL_in (p := pD T) (N := N) (a := s) (j := 0) d).2
    omega
  unfold tkK
  by_cases w : 0 < wl T N s
  · rw [if_pos w]; exact ⟨fun q => by omega, fun q => absurd q (excl w)⟩
  · rw [if_neg w]
    by_cases d : 0 < dl T N s
    · rw [if_pos d]; exact ⟨fun _ => d, fun _ => rfl⟩
    · rw [if_neg d]
      refine ⟨fun q => ?_, fun q => absurd q d⟩
      by_cases e : s < N
      · rw [if_pos e] at q
        by_cases z : T s = 59
        · rw [if_pos z] at q; omega
        · rw [if_neg z] at q; omega
      · rw [if_neg e] at q; omega
theorem tk_s {T : Nat → Int32} {N s : Nat} : tkK T N s = 3 ↔ s < N ∧ T s = 59 := by
  have z59 : (59 : Int32).toInt = 59 := by decide
  constructor
  · intro q
    unfold tkK at q
    by_cases w : 0 < wl T N s
    · rw [if_pos w] at q; omega
    · rw [if_neg w] at q
      by_cases d : 0 < dl T N s
      · rw [if_pos d] at q; omega
      · rw [if_neg d] at q
        by_cases e : s < N
        · rw [if_pos e] at q
          by_cases z : T s = 59
          · exact ⟨e, z⟩
          · rw [if_neg z] at q; omega
        · rw [if_neg e] at q; omega
  · intro q
    have w : ¬ 0 < wl T N s := fun w => by
      have a := pL_iff.mp (rL_in (p := pL T) (N := N) (a := s) (j := 0) w).2
      rw [Nat.add_zero, q.2, z59] at a
      omega
    have d : ¬ 0 < dl T N s := fun d => by
      have a := pD_iff.mp (rL_in (p := pD T) (N := N) (a := s) (j := 0) d).2
      rw [Nat.add_zero, q.2, z59] at a
      omega
    unfold tkK
    rw [if_neg w, if_neg d, if_pos q.1, if_pos q.2]
theorem tkK_lt (T : Nat → Int32) (N s : Nat) : tkK T N s < 5 := by
  unfold tkK
  split
  · omega
  · split
    · omega
    · split
      · split <;> omega
      · omega
section Words
variable {σ : St} {T : Nat → Int32} {N s : Nat}
theorem spellsC (hN : N ≤ 800) (hs : s ≤ N) (hT : ∀ k : Nat, k < N → σ.1 1 k = T k) (ht : tok σ T N s) (hk : 0 < wl T N s) {w b : Nat} (hw : w < 15) (hb : b + wl T N s ≤ lenS w) : ∃ x : Int32, fX3_spells σ w (nI b) = some (σ, x) ∧ ((x = 1 ∧ ∀ j : Nat, j < wl T N s → chS w (b + j) = lt T (s + j)) ∨ (x = 0 ∧ ¬ ∀ j : Nat, j < wl T N s → chS w (b + j) = lt T (s + j))) := by
  have lb := len_b w hw
  have wle : s + wl T N s ≤ N := rL_le hs
  have ez : tkZ T N s = wl T N s := by unfold tkZ; rw [if_pos hk]
  have e6 : σ.1 18 6 = nI (wl T N s) := by rw [ht.2.2.2.1, ez]
  unfold fX3_spells
  rw [chk_t (decide_eq_true hw), lengthC σ hw, cl_some, e6, nI_plus (by omega), if_neg (by rw [lt_i, nI_toInt (by omega), nI_toInt (by omega)]; omega), ht.2.1, nI_plus (by omega), ht.1, if_pos (by rw [le_i, nI_toInt (by omega), nI_toInt (by omega)]; omega), bnd_eq]
  have key := loopX (S := Unit) (fun n _ m => fX3_spells_L33 w (nI b) (fun (σ_7 : St) (_ : Int32) => some (σ_7, (1 : Int32))) n σ (nI m)) (wl T N s) (fun m _ => ∀ j : Nat, j < m → chS w (b + j) = lt T (s + j)) (fun _ => some (σ, 1)) (fun res => res = some (σ, 0) ∧ ¬ ∀ j : Nat, j < wl T N s → chS w (b + j) = lt T (s + j)) (fun n _ hp => by
      show fX3_spells_L33 _ _ _ (n + 1) σ _ = _
      rw [fX3_spells_L33, e6, if_pos (by rw [le_i]; omega)]) (fun n m _ hm hp => by
      have inn := rL_in (p := pL T) (N := N) (a := s) (j := m) hm
      have d := pL_iff.mp inn.2
      have el : T (s + m) = nI (lt T (s + m)) := nI_mk (by omega)
      have lb2 : lt T (s + m) < 128 := by unfold lt; omega
      have cb := chr_b w hw (b + m) (by omega) (by omega)
      show (∃ s', _ ∧ fX3_spells_L33 _ _ _ (n + 1) σ _ = _) ∨ (fX3_spells_L33 _ _ _ (n + 1) σ _ = _ ∧ _)
      rw [fX3_spells_L33, e6, if_neg (by rw [le_i, nI_toInt (by omega), nI_toInt (by omega)]; omega), chk_t (decide_eq_true hw), nI_plus (by omega), charAtC σ hw (by omega), cl_some, ht.2.1, nI_plus (by omega), chk_t (inb_nI (by omega) (by decide)), ix_nI (m := s + m) (by omega), hT _ inn.1, el, chr_t _ lb2]
      by_cases q : chS w (b + m) = lt T (s + m)
      · rw [if_pos (by rw [q])]
        refine Or.inl ⟨(), fun j hj => ?_, by rw [bnd_eq, nI_succ]; all_goals rfl⟩
        by_cases e : j = m
        · subst e; exact q
        · exact hp j (by omega)
      · rw [if_neg (fun z => q ((ofNI (by omega) (by omega)).mp z))]
        exact Or.inr ⟨rfl, fun z => q (z m hm)⟩) FU 0 () (by omega) (by have : FU = 100000 := rfl; omega) (fun j hj => absurd hj (by omega))
  rcases key with ⟨_, hx, e⟩ | ⟨e, hx⟩
  · exact ⟨1, e, Or.inl ⟨rfl, hx⟩⟩
  · exact ⟨0, e, Or.inr ⟨rfl, hx⟩⟩
theorem acceptC (hN : N ≤ 800) (hs : s ≤ N) (hT : ∀ k : Nat, k < N → σ.1 1 k = T k) (ht : tok σ T N s) {w : Nat} (hw : w < 15) (hw1 : w ≠ 1) : (isW T N s w ∧ ∃ σ', fX3_accept σ w = some (σ', 1) ∧ frm m18 m18 σ σ' ∧ tok σ' T N (skp T N (s + wl T N s))) ∨ (¬ isW T N s w ∧ fX3_accept σ w = some (σ, 0)) := by
  have lb := len_b w hw
  have wle : s + wl T N s ≤ N := rL_le hs
  have tl := tkK_lt T N s
  unfold fX3_accept
  rw [ht.2.2.1]
  by_cases k1 : tkK T N s = 1
  · have hk := tk_w.mp k1
    have ez : tkZ T N s = wl T N s := by unfold tkZ; rw [if_pos hk]
    rw [if_pos (by rw [k1]; rfl), chk_t (decide_eq_true hw), lengthC σ hw, cl_some, ht.2.2.2.1, ez]
    by_cases k2 : wl T N s = lenS w
    · obtain ⟨x, a1, a2⟩ := spellsC hN hs hT ht hk (w := w) (b := 0) hw (by omega)
      have a1 : fX3_spells σ w 0 = some (σ, x) := a1
      rw [if_pos (by rw [k2]), a1, cl_some]
      rcases a2 with ⟨e, q⟩ | ⟨e, q⟩
      · obtain ⟨σ', b1, b2, b3⟩ := advC hN wle hT ht.1 (by rw [ht.2.2.2.2.1, ez])
        rw [if_neg (by rw [e]; exact one0), b1, cl_some]
        refine Or.inl ⟨⟨k2, fun j hj => ?_⟩, σ', rfl, b2, b3⟩
        have := q j (by omega)
        rw [Nat.zero_add] at this
        exact this.symm
      · rw [if_pos e]
        refine Or.inr ⟨fun z => q (fun j hj => ?_), rfl⟩
        rw [Nat.zero_add]
        exact (z.2 j (by omega)).symm
    · rw [if_neg (fun z => k2 ((ofNI (by omega) (by omega)).mp z))]
      exact Or.inr ⟨fun z => k2 z.1, rfl⟩
  · rw [if_neg (show ¬ nI (tkK T N s) = (1 : Int32) from fun z => k1 ((ofNI (b := 1) (by omega) (by omega)).mp z))]
    refine Or.inr ⟨fun z => k1 (tk_w.mpr ?_), rfl⟩
    rw [z.1]
    omega
theorem numberC (hN : N ≤ 800) (hs : s ≤ N) (hT : ∀ k : Nat, k < N → σ.1 1 k = T k) (ht : tok σ T N s) (lo hi : Int32) : ((1 ≤ dl T N s ∧ dl T N s ≤ 4 ∧ lo.toInt ≤ v10 T s (dl T N s) ∧ (v10 T s (dl T N s) : Int) ≤ hi.toInt) ∧ ∃ σ', fX3_number σ lo hi = some (σ', nI (v10 T s (dl T N s))) ∧ frm m18 m18 σ σ' ∧ tok σ' T N (skp T N (s + dl T N s))) ∨ (¬ (1 ≤ dl T N s ∧ dl T N s ≤ 4 ∧ lo.toInt ≤ v10 T s (dl T N s) ∧ (v10 T s (dl T N s) : Int) ≤ hi.toInt) ∧ fX3_number σ lo hi = some (σ, -1)) := by
  have dle : s + dl T N s ≤ N := rL_le hs
  have tl := tkK_lt T N s
  have z4 : (4 : Int32).toInt = 4 := by decide
  unfold fX3_number
  rw [ht.2.2.1]
  by_cases k1 : tkK T N s = 2
  · have hk := tk_d.mp k1
    have nw : ¬ 0 < wl T N s := fun z => by have := tk_w.mpr z; omega
    have ez : tkZ T N s = dl T N s := by unfold tkZ; rw [if_neg nw, if_pos hk]
    rw [if_pos (by rw [k1]; rfl), ht.2.2.2.1, ez]
    by_cases k2 : dl T N s ≤ 4
    · have dg : ∀ j : Nat, j < dl T N s → pD T (s + j) = true := fun j hj => (rL_in (p := pD T) (N := N) (a := s) (j := j) hj).2
      have vb := v10_lt (T := T) (s := s) (dl T N s) dg
      have p4 : 10 ^ (dl T N s) ≤ 10 ^ 4 := Nat.pow_le_pow_right (by decide) k2
      have e7 : σ.1 18 7 = nI (v10 T s (dl T N s)) := by rw [ht.2.2.2.2.2.1 k1, vS_v10 _ k2 dg]
      rw [if_neg (by rw [lt_i, z4, nI_toInt (by omega)]; omega), e7]
      by_cases k3 : lo.toInt ≤ v10 T s (dl T N s)
      · rw [if_neg (by rw [lt_i, nI_toInt (by omega)]; omega)]
        by_cases k4 : (v10 T s (dl T N s) : Int) ≤ hi.toInt
        · obtain ⟨σ', b1, b2, b3⟩ := advC hN dle hT ht.1 (by rw [ht.2.2.2.2.1, ez])
          rw [if_pos (by rw [le_i, nI_toInt (by omega)]; omega), bnd_eq, b1, cl_some]
          exact Or.inl ⟨⟨hk, k2, k3, k4⟩, σ', rfl, b2, b3⟩
        · rw [if_neg (by rw [le_i, nI_toInt (by omega)]; omega)]
          exact Or.inr ⟨fun z => k4 z.2.2.2, rfl⟩
      · rw [if_pos (by rw [lt_i, nI_toInt (by omega)]; omega)]
        exact Or.inr ⟨fun z => k3 z.2.2.1, rfl⟩
    · rw [if_pos (by rw [lt_i, z4, nI_toInt (by omega)]; omega)]
      exact Or.inr ⟨fun z => k2 z.2.1, rfl⟩
  · rw [if_neg (show ¬ nI (tkK T N s) = (2 : Int32) from fun z => k1 ((ofNI (b := 2) (by omega) (by omega)).mp z))]
    exact Or.inr ⟨fun z => k1 (tk_d.mpr z.1), rfl⟩
theorem endedC (hN : N ≤ 800) (hs : s ≤ N) (hT : ∀ k : Nat, k < N → σ.1 1 k = T k) (ht : tok σ T N s) : ((s < N ∧ T s = 59) ∧ ∃ σ', fX3_ended σ = some (σ', 1) ∧ frm m18 m18 σ σ' ∧ tok σ' T N (skp T N (s + 1))) ∨ (¬ (s < N ∧ T s = 59) ∧ fX3_ended σ = some (σ, 0)) := by
  have tl := tkK_lt T N s
  unfold fX3_ended
  rw [ht.2.2.1]
  by_cases k1 : tkK T N s = 3
  · have hk := tk_s.mp k1
    have nw : ¬ 0 < wl T N s := fun z => by have := tk_w.mpr z; omega
    have nd : ¬ 0 < dl T N s := fun z => by have := tk_d.mpr z; omega
    have ez : tkZ T N s = 1 := by unfold tkZ; rw [if_neg nw, if_neg nd, if_pos hk.1]
    obtain ⟨σ', b1, b2, b3⟩ := advC hN (show s + 1 ≤ N by omega) hT ht.1 (by rw [ht.2.2.2.2.1, ez])
    rw [if_pos (by rw [k1]; rfl), b1, cl_some]
    exact Or.inl ⟨hk, σ', rfl, b2, b3⟩
  · rw [if_neg (show ¬ nI (tkK T N s) = (3 : Int32) from fun z => k1 ((ofNI (b := 3) (by omega) (by omega)).mp z))]
    exact Or.inr ⟨fun z => k1 (tk_s.mpr z), rfl⟩
/-! the kept words -/
def bgN : Nat → Nat
  | 0 => 0
  | i + 1 => if chS 1 i = 32 then i + 1 else bgN i
def spW (i : Nat) : Nat := if i = 5 then 0 else if i = 10 then 2 else if i = 16 then 3 else if i = 21 then 4 else if i = 24 then 5 else if i = 29 then 6 else if i = 34 then 7 else if i = 40 then 8 else if i = 44 then 9 else if i = 48 then 10 else if i = 54 then 12 else if i = 59 then 13 else if i = 62 then 11 else 14
def spI (w : Nat) : Nat := if w = 0 then 5 else if w = 2 then 10 else if w = 3 then 16 else if w = 4 then 21 else if w = 5 then 24 else if w = 6 then 29 else if w = 7 then 34 else if w = 8 then 40 else if w = 9 then 44 else if w = 10 then 48 else if w = 12 then 54 else if w = 13 then 59 else if w = 11 then 62 else 70
theorem kw_fwd : ∀ i : Nat, i < 71 → chS 1 i = 32 → spW i < 15 ∧ spW i ≠ 1 ∧ lenS (spW i) = i - bgN i ∧ ∀ j : Nat, j < 8 → j < lenS (spW i) → chS 1 (bgN i + j) = chS (spW i) j := by decide +kernel
theorem kw_bwd : ∀ w : Nat, w < 15 → w ≠ 1 → spI w < 71 ∧ chS 1 (spI w) = 32 ∧ spI w - bgN (spI w) = lenS w ∧ ∀ j : Nat, j < 8 → j < lenS w → chS 1 (bgN (spI w) + j) = chS w j := by decide +kernel
theorem bg_le : ∀ i : Nat, i < 72 → bgN i ≤ i := by decide +kernel
def kept (T : Nat → Int32) (N s : Nat) : Prop := ∃ w : Nat, w < 15 ∧ w ≠ 1 ∧ isW T N s w
theorem keywordC (hN : N ≤ 800) (hs : s ≤ N) (hT : ∀ k : Nat, k < N → σ.1 1 k = T k) (ht : tok σ T N s) (hk : 0 < wl T N s) : (kept T N s ∧ fX3_isKeyword σ = some (σ, 1)) ∨ (¬ kept T N s ∧ fX3_isKeyword σ = some (σ, 0)) := by
  have wle : s + wl T N s ≤ N := rL_le hs
  have ez : tkZ T N s = wl T N s := by unfold tkZ; rw [if_pos hk]
  have e6 : σ.1 18 6 = nI (wl T N s) := by rw [ht.2.2.2.1, ez]
  have l71 : lenS 1 = 71 := by decide
  have z32 : (32 : Int32) = nI 32 := rfl
  have l1 := lengthC σ (w := 1) (by omega)
  rw [l71] at l1
  -- a match of the i-th
  have mtW : ∀ i : Nat, i < 71 → chS 1 i = 32 → ((i - bgN i = wl T N s ∧ ∀ j : Nat, j < wl T N s → chS 1 (bgN i + j) = lt T (s + j)) ↔ isW T N s (spW i)) := fun i hi hc => by
    obtain ⟨f1, f2, f3, f4⟩ := kw_fwd i hi hc
    have l7 := (len_b (spW i) f1).2.2 f2
    constructor
    · intro z
      refine ⟨by rw [f3, z.1], fun j hj => ?_⟩
      rw [← z.2 j (by omega), f4 j (by omega) hj]
    · intro z
      refine ⟨by rw [← f3, z.1], fun j hj => ?_⟩
      have := z.1
      rw [f4 j (by omega) (by omega), z.2 j (by omega)]
  unfold fX3_isKeyword
  rw [bnd_eq, bnd_eq]
  have key := loopX (S := Int32) (fun n x m => fX3_isKeyword_L4 (fun (σ_14 : St) (_ : Int32) (_ : Int32) => some (σ_14, (0 : Int32))) n σ x (nI m)) 71 (fun m x => x = nI (bgN m) ∧ ∀ i : Nat, i < m → chS 1 i = 32 → ¬ isW T N s (spW i)) (fun _ => some (σ, 0)) (fun res => res = some (σ, 1) ∧ kept T N s) (fun n x hp => by
      show fX3_isKeyword_L4 _ (n + 1) σ x _ = _
      rw [fX3_isKeyword_L4, chk_t (by decide), l1, cl_some, if_pos (by decide)]) (fun n m x hm hp => by
      have bl := bg_le m (by omega)
      have nx : bgN (m + 1) = if chS 1 m = 32 then m + 1 else bgN m := rfl
      have cb := chr_b 1 (by omega) m hm (by rw [l71]; exact hm)
      show (∃ x', _ ∧ fX3_isKeyword_L4 _ (n + 1) σ x _ = _) ∨ (fX3_isKeyword_L4 _ (n + 1) σ x _ = _ ∧ _)
      rw [fX3_isKeyword_L4, chk_t (by decide), l1, cl_some, if_neg (by rw [le_i, nI_toInt (by omega), nI_toInt (by omega)]; omega), chk_t (by decide), charAtC σ (w := 1) (by omega) (by rw [l71]; exact hm), cl_some, jp_eq, z32]
      by_cases c32 : chS 1 m = 32
      · rw [if_pos (by rw [c32]), jp_eq, hp.1]
        have sb : nI m - nI (bgN m) = nI (m - bgN m) := by
          rw [eq_i, i32_sub (by rw [nI_toInt (by omega), nI_toInt (by omega)]; omega) (by rw [nI_toInt (by omega), nI_toInt (by omega)]; omega), nI_toInt (by omega), nI_toInt (by omega), nI_toInt (by omega)]
          omega
        have cont : ¬ isW T N s (spW m) → ∃ x', (x' = nI (bgN (m + 1)) ∧ ∀ i : Nat, i < m + 1 → chS 1 i = 32 → ¬ isW T N s (spW i)) ∧ (bnd (nI m + (1 : Int32)) fun (x1_11 : Int32) => bnd (nI m + (1 : Int32)) fun (x2_9 : Int32) => fX3_isKeyword_L4 (fun (σ_14 : St) (_ : Int32) (_ : Int32) => some (σ_14, (0 : Int32))) n σ x1_11 x2_9) = fX3_isKeyword_L4 (fun (σ_14 : St) (_ : Int32) (_ : Int32) => some (σ_14, (0 : Int32))) n σ x' (nI (m + 1)) := fun no => by
          refine ⟨nI (m + 1), ⟨by rw [nx, if_pos c32], fun i hi hc => ?_⟩, by rw [bnd_eq, bnd_eq, nI_succ]⟩
          by_cases e : i = m
          · subst e; exact no
          · exact hp.2 i (by omega) hc
        rw [sb, e6]
        by_cases w1 : m - bgN m = wl T N s
        · obtain ⟨x2, a1, a2⟩ := spellsC hN hs hT ht hk (w := 1) (b := bgN m) (by omega) (by rw [l71]; omega)
          rw [if_pos (by rw [w1]), a1, cl_some]
          rcases a2 with ⟨e, q⟩ | ⟨e, q⟩
          · rw [if_neg (by rw [e]; exact one0)]
            obtain ⟨f1, f2, _⟩ := kw_fwd m hm c32
            exact Or.inr ⟨rfl, spW m, f1, f2, (mtW m hm c32).mp ⟨w1, q⟩⟩
          · rw [if_pos e]
            exact Or.inl (cont (fun z => q ((mtW m hm c32).mpr z).2))
        · rw [if_neg (fun z => w1 ((ofNI (by omega) (by omega)).mp z))]
          exact Or.inl (cont (fun z => w1 ((mtW m hm c32).mpr z).1))
      · rw [if_neg (fun z => c32 ((ofNI (by omega) (by omega)).mp z))]
        dsimp only
        refine Or.inl ⟨x, ⟨by rw [nx, if_neg c32]; exact hp.1, fun i hi hc => ?_⟩, by rw [bnd_eq, nI_succ]; all_goals rfl⟩
        by_cases e : i = m
        · subst e; exact absurd hc c32
        · exact hp.2 i (by omega) hc) FU 0 0 (by omega) (by have : FU = 100000 := rfl; omega) ⟨rfl, fun i hi => absurd hi (by omega)⟩
  rcases key with ⟨_, hx, e⟩ | ⟨e, hx⟩
  · refine Or.inr ⟨fun ⟨w, w1, w2, w3⟩ => ?_, e⟩
    obtain ⟨b1, b2, b3, b4⟩ := kw_bwd w w1 w2
    have l7 := (len_b w w1).2.2 w2
    refine hx.2 (spI w) b1 b2 ((mtW (spI w) b1 b2).mp ⟨by rw [b3, w3.1], fun j hj => ?_⟩)
    have := w3.1
    rw [b4 j (by omega) (by omega), w3.2 j (by omega)]
  · exact Or.inl ⟨hx, e⟩
end Words
