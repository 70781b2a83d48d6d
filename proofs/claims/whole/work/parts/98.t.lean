/-! street: reading -/
theorem tk_0 {T : Nat → Int32} {N s : Nat} : tkK T N s = 0 ↔ ¬ s < N := by
  constructor
  · intro q z
    unfold tkK at q
    by_cases w : 0 < wl T N s
    · rw [if_pos w] at q; omega
    · rw [if_neg w] at q
      by_cases d : 0 < dl T N s
      · rw [if_pos d] at q; omega
      · rw [if_neg d, if_pos z] at q
        by_cases e : T s = 59
        · rw [if_pos e] at q; omega
        · rw [if_neg e] at q; omega
  · intro q
    have w : ¬ 0 < wl T N s := fun w => q (by have := (rL_in (p := pL T) (N := N) (a := s) (j := 0) w).1; omega)
    have d : ¬ 0 < dl T N s := fun d => q (by have := (rL_in (p := pD T) (N := N) (a := s) (j := 0) d).1; omega)
    unfold tkK
    rw [if_neg w, if_neg d, if_neg q]
section Read
variable {T : Nat → Int32} {N : Nat}
theorem readLoop (hN : N ≤ 800) (K kx : St → Int32 → Option (St × Int32)) : ∀ (f i : Nat) (σ τ : St) (s n m : Nat), i + f = 25 → LX T N σ τ s s → DR T σ τ n m i → ∀ nC nM : Nat, f < nC → f + 1 < nM → (∃ (σ' τ' : St) (q : Nat), fX3_read_L31 K nC σ (nI i) = some (σ', nI q) ∧ fX9_reads_L86 kx nM τ 1 = kx τ' 0 ∧ frm (mk 10 18) mDL σ σ' ∧ frm aD bD τ τ' ∧ q ≤ N ∧ τ'.1 0 31 = nI q) ∨ (∃ (σ' τ' : St) (n' m' i' : Nat), fX3_read_L31 K nC σ (nI i) = K σ' (nI i') ∧ fX9_reads_L86 kx nM τ 1 = kx τ' 1 ∧ frm (mk 10 18) mDL σ σ' ∧ frm aD bD τ τ' ∧ τ'.1 0 31 = nI N ∧ σ'.1 18 2 = nI N ∧ DR T σ' τ' n' m' i') := by
  have z24 : (24 : Int32).toInt = 24 := by decide
  intro f
  induction f with
  | zero =>
    intro i σ τ s n m hi _ hd
    have := hd.2.2.2.2.2.2.2.1.2.2
    omega
  | succ f ih =>
    intro i σ τ s n m hi hl hd nC nM hC hM
    have sl := hl.sl
    have i24 := hd.2.2.2.2.2.2.2.1.2.2
    have tl := tkK_lt T N s
    cases nC with
    | zero => omega
    | succ nC =>
    cases nM with
    | zero => omega
    | succ nM =>
    cases nM with
    | zero => omega
    | succ nM =>
    have stop : ∀ x : St, fX9_reads_L86 kx (nM + 1) x 0 = kx x 0 := fun x => by rw [fX9_reads_L86, if_pos rfl]
    rw [fX3_read_L31, if_neg (show ¬ (24 : Int32) < nI i by rw [lt_i, z24, nI_toInt (by omega)]; omega), hl.1.2.2.1, fX9_reads_L86, if_neg one0, hl.2.1, hl.2.2.1]
    by_cases w : s < N
    case neg =>
      have sn : s = N := by omega
      rw [if_pos (show nI (tkK T N s) = 0 by rw [tk_0.mpr w]; rfl), if_pos (show nI N ≤ nI s by rw [sn, le_i]; omega)]
      exact Or.inr ⟨σ, τ, n, m, i, rfl, rfl, frm_refl _ _ _, frm_refl _ _ _, by rw [hl.2.2.1, sn], hl.1.1, hd⟩
    rw [if_neg (show ¬ nI (tkK T N s) = (0 : Int32) from fun z => (tk_0.mp ((ofNI (b := 0) (by omega) (by omega)).mp z)) w), if_neg (show ¬ nI N ≤ nI s by rw [le_i, nI_toInt (by omega), nI_toInt (by omega)]; omega), hd.2.2.2.2.2.2.2.1.1, hd.2.2.2.2.2.2.2.1.2.1, jp_eq, jp_eq]
    by_cases t24 : i = 24
    · rw [if_pos (show (24 : Int32) ≤ nI i by rw [t24]; decide), if_pos (show (24 : Int32) ≤ nI i by rw [t24]; decide)]
      dsimp only
      rw [bnd_eq, if_pos rfl, stop, hl.1.2.1]
      exact Or.inl ⟨σ, τ, s, rfl, rfl, frm_refl _ _ _, frm_refl _ _ _, sl, hl.2.2.1⟩
    rw [if_neg (show ¬ (24 : Int32) ≤ nI i by rw [le_i, z24, nI_toInt (by omega)]; omega), if_neg (show ¬ (24 : Int32) ≤ nI i by rw [le_i, z24, nI_toInt (by omega)]; omega)]
    obtain ⟨τ1, y, e1, e2, e3⟩ := statementSt hN hl hd
    rw [e1, cl_some]
    rcases e3 with ⟨y0, σ1, q, c1, c2, c3, c4, c5⟩ | ⟨y1, σ1, s1, a1, n1, m1, c1, c2, c3, c4⟩
    · rw [c1, cl_some, if_pos rfl, y0, if_pos rfl]
      dsimp only
      rw [bnd_eq, if_pos rfl, stop, c4]
      exact Or.inl ⟨σ1, τ1, q, rfl, rfl, c2, e2, c3, c5⟩
    · rw [c1, y1, if_neg one0]
      rcases signS hN c3 with ⟨σ2, τ2, s2, a2, g1, g2, g3, g4, g5⟩ | ⟨τ2, g1, g2, g4, g5⟩
      · have d2 : DR T σ2 τ2 n1 m1 i := DR_fr g3 g4 c4
        have i10 : σ2.1 10 7 = nI i := d2.2.2.2.2.2.2.2.1.1
        have i22 : τ2.1 0 22 = nI i := d2.2.2.2.2.2.2.2.1.2.1
        rw [g1, g2, cl_some, cl_some, if_neg one0, if_neg one0, i10]
        dsimp only
        rw [bnd_eq, bnd_eq, bnd_eq, if_neg one0, i22, bnd_eq, ← nI_succ]
        have l3 : LX T N (sI σ2 10 7 (nI (i + 1))) (sI τ2 0 22 (nI (i + 1))) s2 a2 := g5
        have d3 : DR T (sI σ2 10 7 (nI (i + 1))) (sI τ2 0 22 (nI (i + 1))) n1 m1 (i + 1) := DR_22 d2 (by omega)
        obtain ⟨τ3, b1, b2, b3, _⟩ := blanksM hN l3.2.2.2.1 l3.2.2.2.2.2.2 l3.2.1 l3.2.2.1
        rw [l3.2.2.2.2.1] at b3
        have l4 : LX T N (sI σ2 10 7 (nI (i + 1))) τ3 s2 s2 := l3.mk0 b2 b3
        have d4 : DR T (sI σ2 10 7 (nI (i + 1))) τ3 n1 m1 (i + 1) := DR_fr (frm_refl _ _ _) b2 d3
        rw [b1, cl_some]
        have fC : frm (mk 10 18) mDL σ (sI σ2 10 7 (nI (i + 1))) := frm_trans c2 (frm_trans (frCd g3) (frm_sI _ _ rfl))
        have fM : frm aD bD τ τ3 := frm_trans e2 (frm_trans (frMd g4) (frm_trans (frm_sI _ _ rfl) (frMd b2)))
        rcases ih (i + 1) (sI σ2 10 7 (nI (i + 1))) τ3 s2 n1 m1 (by omega) l4 d4 nC (nM + 1) (by omega) (by omega) with ⟨σ5, τ5, q, r1, r2, r3, r4, r5, r6⟩ | ⟨σ5, τ5, n5, m5, i5, r1, r2, r3, r4, r5, r6, r7⟩
        · exact Or.inl ⟨σ5, τ5, q, r1, r2, frm_trans fC r3, frm_trans fM r4, r5, r6⟩
        · exact Or.inr ⟨σ5, τ5, n5, m5, i5, r1, r2, frm_trans fC r3, frm_trans fM r4, r5, r6, r7⟩
      · rw [g1, g2, cl_some, cl_some, if_pos rfl, if_pos rfl]
        dsimp only
        rw [bnd_eq, if_pos rfl, stop, g5.1.2.1]
        exact Or.inl ⟨σ1, τ2, s1, rfl, rfl, c2, frm_trans e2 (frMd g4), g5.sl, g5.2.2.1⟩
end Read
