/-! street: both lexers in step -/
theorem lgE (x y : Int64) : (lg_cmp x y = 0) ↔ x = y := by
  have a := lg_cmp_le x y
  have b := lg_cmp_ge x y
  constructor
  · intro w
    rw [w] at a b
    have a' := a.mp (by decide)
    have b' := b.mp (by decide)
    rw [Int64.le_iff_toInt_le] at a' b'
    exact Int64.toInt_inj.mp (by omega)
  · intro w
    rw [w]
    have a' : lg_cmp y y ≤ 0 := (lg_cmp_le y y).mpr (by rw [Int64.le_iff_toInt_le]; omega)
    have b' : 0 ≤ lg_cmp y y := (lg_cmp_ge y y).mpr (by rw [Int64.le_iff_toInt_le]; omega)
    rw [le_i] at a' b'
    exact Int32.toInt_inj.mp (by omega)
def eF (f : Nat → Nat) : Nat → Nat
  | 0 => 0
  | l + 1 => eF f l * 256 + f l
theorem eF_same {f g : Nat → Nat} : ∀ l m : Nat, (∀ j : Nat, j < l → 1 ≤ f j ∧ f j < 256) → (∀ j : Nat, j < m → 1 ≤ g j ∧ g j < 256) → (eF f l = eF g m ↔ l = m ∧ ∀ j : Nat, j < l → f j = g j) := by
  intro l
  induction l with
  | zero =>
    intro m h1 h2
    cases m with
    | zero => exact ⟨fun _ => ⟨rfl, fun j hj => absurd hj (by omega)⟩, fun _ => rfl⟩
    | succ m =>
      have d := h2 m (by omega)
      refine ⟨fun e => ?_, fun e => absurd e.1 (by omega)⟩
      have e' : 0 = eF g m * 256 + g m := e
      omega
  | succ l ih =>
    intro m h1 h2
    have d1 := h1 l (by omega)
    cases m with
    | zero =>
      refine ⟨fun e => ?_, fun e => absurd e.1 (by omega)⟩
      have e' : eF f l * 256 + f l = 0 := e
      omega
    | succ m =>
      have d2 := h2 m (by omega)
      have ih' := ih m (fun j hj => h1 j (by omega)) (fun j hj => h2 j (by omega))
      rw [eF, eF]
      constructor
      · intro e
        have a := ih'.mp (by omega)
        refine ⟨by have := a.1; omega, fun j hj => ?_⟩
        have lm2 := a.1
        by_cases w : j = l
        · subst w; subst lm2; omega
        · exact a.2 j (by omega)
      · intro e
        have lm2 : l = m := by have := e.1; omega
        have a := ih'.mpr ⟨lm2, fun j hj => e.2 j (by omega)⟩
        have b := e.2 l (by omega)
        subst lm2
        omega
theorem e256_eF (T : Nat → Int32) (s : Nat) : ∀ l : Nat, e256 T s l = eF (fun j => lt T (s + j)) l := by
  intro l
  induction l with
  | zero => rfl
  | succ l ih => rw [e256, eF, ih]
def kw256 (w : Nat) : Nat := eF (chS w) (lenS w)
theorem kw_b : ∀ w : Nat, w < 15 → w ≠ 1 → 1 ≤ kw256 w ∧ kw256 w < 72057594037927936 := by decide +kernel
/-- the word at s as the model has it -/
def wv (T : Nat → Int32) (N s : Nat) : Nat := if wl T N s ≤ 8 then e256 T s (wl T N s) else 0
theorem wl_L {T : Nat → Int32} {N s : Nat} : ∀ j : Nat, j < wl T N s → pL T (s + j) = true := fun j hj => (rL_in (p := pL T) (N := N) (a := s) (j := j) hj).2
theorem lt_b {T : Nat → Int32} {k : Nat} (h : pL T k = true) : 1 ≤ lt T k ∧ lt T k < 256 := by
  have := pL_iff.mp h
  unfold lt
  omega
theorem wv_b (T : Nat → Int32) (N s : Nat) : wv T N s < 9223372036854775808 := by
  unfold wv
  by_cases w : wl T N s ≤ 8
  · rw [if_pos w]
    have a := e256_lt2 (T := T) (s := s) (wl T N s) wl_L
    have b : 256 ^ (wl T N s) ≤ 256 ^ 8 := Nat.pow_le_pow_right (by decide) w
    omega
  · rw [if_neg w]; decide
theorem isW_wv {T : Nat → Int32} {N s w : Nat} (hw : w < 15) (hw1 : w ≠ 1) : isW T N s w ↔ wv T N s = kw256 w := by
  have lb := (len_b w hw).2.2 hw1
  have kb := kw_b w hw hw1
  have cb : ∀ j : Nat, j < lenS w → 1 ≤ chS w j ∧ chS w j < 256 := fun j hj => by
    have := chr_b w hw j (by omega) hj
    omega
  unfold wv
  by_cases k : wl T N s ≤ 8
  · rw [if_pos k, e256_eF]
    have := eF_same (f := fun j => lt T (s + j)) (g := chS w) (wl T N s) (lenS w) (fun j hj => lt_b (wl_L j hj)) cb
    unfold kw256
    rw [this]
    constructor
    · intro z; exact ⟨z.1, fun j hj => z.2 j (by rw [← z.1]; exact hj)⟩
    · intro z; exact ⟨z.1, fun j hj => z.2 j (by rw [z.1]; exact hj)⟩
  · rw [if_neg k]
    constructor
    · intro z; have := z.1; omega
    · intro z; omega
theorem ofI_inj {a b : Nat} (ha : a < 9223372036854775808) (hb : b < 9223372036854775808) : Int64.ofInt (a : Int) = Int64.ofInt (b : Int) ↔ a = b := by
  constructor
  · intro q
    have := congrArg Int64.toInt q
    rw [i64o (by omega) (by omega), i64o (by omega) (by omega)] at this
    omega
  · intro q; rw [q]
/-- both read the same text, at the same token; the model's place is a -/
def LX (T : Nat → Int32) (N : Nat) (σ τ : St) (s a : Nat) : Prop := tok σ T N s ∧ τ.1 0 30 = nI N ∧ τ.1 0 31 = nI a ∧ a ≤ N ∧ skp T N a = s ∧ (∀ k : Nat, k < N → σ.1 1 k = T k) ∧ ∀ k : Nat, k < N → τ.1 14 k = T k
section Step
variable {T : Nat → Int32} {N : Nat} {σ τ : St} {s a : Nat}
theorem LX.sl (h : LX T N σ τ s a) : s ≤ N := by rw [← h.2.2.2.2.1]; exact skp_le h.2.2.2.1
theorem LX.at_s (h : LX T N σ τ s a) : skp T N s = s := by rw [← h.2.2.2.2.1, skp_skp]
theorem LX.mk1 {σ' τ' : St} {a' : Nat} (h : LX T N σ τ s a) (ha : a' ≤ N) (fC : frm m18 m18 σ σ') (fM : frm aPs noL τ τ') (ht : tok σ' T N (skp T N a')) (h31 : τ'.1 0 31 = nI a') : LX T N σ' τ' (skp T N a') a' := ⟨ht, (fM.1 0 30 rfl).trans h.2.1, h31, ha, rfl, fun k hk => (fC.1 1 k rfl).trans (h.2.2.2.2.2.1 k hk), fun k hk => (fM.1 14 k rfl).trans (h.2.2.2.2.2.2 k hk)⟩
theorem LX.mk0 {τ' : St} (h : LX T N σ τ s a) (fM : frm aPs noL τ τ') (h31 : τ'.1 0 31 = nI s) : LX T N σ τ' s s := ⟨h.1, (fM.1 0 30 rfl).trans h.2.1, h31, h.sl, h.at_s, h.2.2.2.2.2.1, fun k hk => (fM.1 14 k rfl).trans (h.2.2.2.2.2.2 k hk)⟩
theorem wordS (hN : N ≤ 800) (h : LX T N σ τ s a) : ∃ τ', fX9_word τ = some (τ', Int64.ofInt ((wv T N s : Nat) : Int)) ∧ frm aPs noL τ τ' ∧ LX T N σ τ' s s ∧ τ'.1 0 35 = nI (s + wl T N s) := by
  obtain ⟨τ', a1, a2, a3, a4⟩ := wordM hN h.2.2.2.1 h.2.2.2.2.2.2 h.2.1 h.2.2.1
  rw [h.2.2.2.2.1] at a1 a3 a4
  exact ⟨τ', a1, a2, h.mk0 a2 a3, a4⟩
theorem acceptS (hN : N ≤ 800) (h : LX T N σ τ s a) {w : Nat} (hw : w < 15) (hw1 : w ≠ 1) {W : Int64} (hW : W = Int64.ofInt ((kw256 w : Nat) : Int)) : (∃ (σ' τ' : St) (s' a' : Nat), fX3_accept σ w = some (σ', 1) ∧ fX9_takes τ W = some (τ', 1) ∧ frm m18 m18 σ σ' ∧ frm aPs noL τ τ' ∧ LX T N σ' τ' s' a') ∨ (∃ τ' : St, fX3_accept σ w = some (σ, 0) ∧ fX9_takes τ W = some (τ', 0) ∧ frm aPs noL τ τ' ∧ LX T N σ τ' s s) := by
  obtain ⟨τ1, b1, b2, b3, b4⟩ := wordS hN h
  have kb := kw_b w hw hw1
  have eq : (lg_cmp (Int64.ofInt ((wv T N s : Nat) : Int)) W = 0) ↔ isW T N s w := by
    rw [lgE, hW, ofI_inj (wv_b T N s) (by omega), isW_wv hw hw1]
  unfold fX9_takes
  rw [b1, cl_some]
  rcases acceptC hN h.sl h.2.2.2.2.2.1 h.1 hw hw1 with ⟨c1, σ', c2, c3, c4⟩ | ⟨c1, c2⟩
  · rw [if_pos (eq.mpr c1), b4, bnd_eq]
    have wle : s + wl T N s ≤ N := rL_le h.sl
    exact Or.inl ⟨σ', _, _, _, c2, rfl, c3, frm_trans b2 (frm_sI _ _ rfl), h.mk1 wle c3 (frm_trans b2 (frm_sI _ _ rfl)) c4 rfl⟩
  · rw [if_neg (fun z => c1 (eq.mp z))]
    exact Or.inr ⟨τ1, c2, rfl, b2, b3⟩
theorem numberS (hN : N ≤ 800) (h : LX T N σ τ s a) (lo hi : Int32) : (∃ (σ' τ' : St) (v s' a' : Nat), fX3_number σ lo hi = some (σ', nI v) ∧ fX9_takesNumber τ lo hi = some (τ', 1) ∧ τ'.1 0 36 = nI v ∧ (lo.toInt ≤ v ∧ (v : Int) ≤ hi.toInt ∧ v < 10000) ∧ frm m18 m18 σ σ' ∧ frm aPs noL τ τ' ∧ LX T N σ' τ' s' a') ∨ (∃ τ' : St, fX3_number σ lo hi = some (σ, -1) ∧ fX9_takesNumber τ lo hi = some (τ', 0) ∧ frm aPs noL τ τ' ∧ LX T N σ τ' s s) := by
  obtain ⟨τ1, b1, b2⟩ := numberM hN h.2.2.2.1 h.2.2.2.2.2.2 h.2.1 h.2.2.1 lo hi
  rw [h.2.2.2.2.1] at b2
  have dle : s + dl T N s ≤ N := rL_le h.sl
  rcases numberC hN h.sl h.2.2.2.2.2.1 h.1 lo hi with ⟨c1, σ', c2, c3, c4⟩ | ⟨c1, c2⟩
  · rcases b2 with ⟨d1, _, d3, d4⟩ | ⟨_, d2, _⟩
    · have vb := v10_lt (T := T) (s := s) (dl T N s) (fun j hj => (rL_in (p := pD T) (N := N) (a := s) (j := j) hj).2)
      have p4 : 10 ^ (dl T N s) ≤ 10 ^ 4 := Nat.pow_le_pow_right (by decide) c1.2.1
      exact Or.inl ⟨σ', τ1, _, _, _, c2, d1, d4, ⟨c1.2.2.1, c1.2.2.2, by omega⟩, c3, b1, h.mk1 dle c3 b1 c4 d3⟩
    · exact absurd c1 d2
  · rcases b2 with ⟨_, d2, _⟩ | ⟨d1, _, d3⟩
    · exact absurd d2 c1
    · exact Or.inr ⟨τ1, c2, d1, b1, h.mk0 b1 d3⟩
theorem signS (hN : N ≤ 800) (h : LX T N σ τ s a) : (∃ (σ' τ' : St) (s' a' : Nat), fX3_ended σ = some (σ', 1) ∧ fX9_takesSign τ 59 = some (τ', 1) ∧ frm m18 m18 σ σ' ∧ frm aPs noL τ τ' ∧ LX T N σ' τ' s' a') ∨ (∃ τ' : St, fX3_ended σ = some (σ, 0) ∧ fX9_takesSign τ 59 = some (τ', 0) ∧ frm aPs noL τ τ' ∧ LX T N σ τ' s s) := by
  obtain ⟨τ1, b1, b2⟩ := signM hN h.2.2.2.1 h.2.2.2.2.2.2 h.2.1 h.2.2.1
  rw [h.2.2.2.2.1] at b2
  rcases endedC hN h.sl h.2.2.2.2.2.1 h.1 with ⟨c1, σ', c2, c3, c4⟩ | ⟨c1, c2⟩
  · rcases b2 with ⟨d1, _, d3⟩ | ⟨_, d2, _⟩
    · exact Or.inl ⟨σ', τ1, _, _, c2, d1, c3, b1, h.mk1 (by omega) c3 b1 c4 d3⟩
    · exact absurd c1 d2
  · rcases b2 with ⟨_, d2, _⟩ | ⟨d1, _, d3⟩
    · exact absurd d2 c1
    · exact Or.inr ⟨τ1, c2, d1, b1, h.mk0 b1 d3⟩
theorem advS (hN : N ≤ 800) (h : LX T N σ τ s s) (hk : 0 < wl T N s) : ∃ (σ' : St) (s' : Nat), fX3_advance σ = some (σ', ()) ∧ frm m18 m18 σ σ' ∧ LX T N σ' (sI τ 0 31 (nI (s + wl T N s))) s' (s + wl T N s) := by
  have wle : s + wl T N s ≤ N := rL_le h.sl
  have ez : tkZ T N s = wl T N s := by unfold tkZ; rw [if_pos hk]
  obtain ⟨σ', b1, b2, b3⟩ := advC hN wle h.2.2.2.2.2.1 h.1.1 (by rw [h.1.2.2.2.2.1, ez])
  exact ⟨σ', _, b1, b2, h.mk1 wle b2 (frm_sI _ _ rfl) b3 rfl⟩
end Step
/-! the drafts -/
/-- a baker's name in both drafts -/
def nmR (T : Nat → Int32) (x y : Int64) : Prop := ∃ q l : Nat, 1 ≤ l ∧ l ≤ 8 ∧ (∀ j : Nat, j < l → pL T (q + j) = true) ∧ x = Int64.ofInt ((e32 T q l : Nat) : Int) ∧ y = Int64.ofInt ((e256 T q l : Nat) : Int)
/-- a sort in both drafts -/
def soR (σ τ : St) (n : Nat) (i : Nat) : Prop := σ.1 13 i = τ.1 9 i ∧ σ.1 14 i = τ.1 10 i ∧ σ.1 15 i = τ.1 11 i ∧ σ.1 16 i = τ.1 12 i ∧ rg (τ.1 9 i) 0 2 ∧ rg (τ.1 10 i) 1 99 ∧ rg (τ.1 12 i) 0 999 ∧ ((τ.1 9 i).toInt = 0 → 1 ≤ (τ.1 11 i).toInt ∧ (τ.1 11 i).toInt < 2 ^ n) ∧ ((τ.1 9 i).toInt = 1 → rg (τ.1 11 i) 1 4) ∧ ((τ.1 9 i).toInt = 2 → (τ.1 11 i).toInt = 0)
def DR (T : Nat → Int32) (σ τ : St) (n m t : Nat) : Prop := (σ.1 10 0 = nI n ∧ τ.1 0 15 = nI n ∧ n ≤ 4) ∧ (σ.1 10 1 = nI m ∧ τ.1 0 16 = nI m ∧ m ≤ 12) ∧ (σ.1 10 2 = τ.1 0 17 ∧ rg (τ.1 0 17) 1 8) ∧ (σ.1 10 3 = τ.1 0 18 ∧ rg (τ.1 0 18) 0 99) ∧ (σ.1 10 4 = τ.1 0 19 ∧ rg (τ.1 0 19) 1 20) ∧ (σ.1 10 5 = τ.1 0 20 ∧ rg (τ.1 0 20) 0 99) ∧ (∃ l : Nat, σ.1 10 6 = nI l ∧ τ.1 0 21 = nI l ∧ l < 2 ^ n) ∧ (σ.1 10 7 = nI t ∧ τ.1 0 22 = nI t ∧ t ≤ 24) ∧ (∀ b : Nat, b < n → σ.1 12 b = τ.1 8 b ∧ rg (τ.1 8 b) 0 99 ∧ nmR T (σ.2 11 b) (τ.2 7 b)) ∧ ∀ i : Nat, i < m → soR σ τ n i
def dCo (σ : St) : St := (fun c k => cond (Nat.beq c 18) 0 (σ.1 c k), fun c k => cond (Nat.beq c 18) 0 (σ.2 c k))
def dMo (τ : St) : St := (fun c k => cond (aPs c k) 0 (τ.1 c k), τ.2)
theorem DR_C (T : Nat → Int32) (σ τ : St) (n m t : Nat) : DR T (dCo σ) τ n m t = DR T σ τ n m t := rfl
theorem DR_M (T : Nat → Int32) (σ τ : St) (n m t : Nat) : DR T σ (dMo τ) n m t = DR T σ τ n m t := rfl
theorem DR_fr {T : Nat → Int32} {σ σ' τ τ' : St} {n m t : Nat} (hC : frm m18 m18 σ σ') (hM : frm aPs noL τ τ') (h : DR T σ τ n m t) : DR T σ' τ' n m t := by
  have e1 : dCo σ' = dCo σ := by
    refine St_ext (fun c k => ?_) (fun c k => ?_)
    · show cond (Nat.beq c 18) 0 (σ'.1 c k) = cond (Nat.beq c 18) 0 (σ.1 c k)
      cases q : Nat.beq c 18 with
      | true => rfl
      | false => exact hC.1 c k q
    · show cond (Nat.beq c 18) 0 (σ'.2 c k) = cond (Nat.beq c 18) 0 (σ.2 c k)
      cases q : Nat.beq c 18 with
      | true => rfl
      | false => exact hC.2 c k q
  have e2 : dMo τ' = dMo τ := by
    refine St_ext (fun c k => ?_) (fun c k => hM.2 c k rfl)
    show cond (aPs c k) 0 (τ'.1 c k) = cond (aPs c k) 0 (τ.1 c k)
    cases q : aPs c k with
    | true => rfl
    | false => exact hM.1 c k q
  rw [← DR_C, ← DR_M, e1, e2, DR_C, DR_M]
  exact h
