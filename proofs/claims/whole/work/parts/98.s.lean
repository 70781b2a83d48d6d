/-! street: a whole statement -/
section Stm3
variable {T : Nat → Int32} {N : Nat} {σ τ : St} {s a n m t : Nat}
theorem StR.tr {σ0 τ0 σ1 τ1 τf : St} {cls : Option (St × Int32)} {y : Int32} (fC : frm (mk 10 18) mDL σ0 σ1) (fM : frm aD bD τ0 τ1) (h : StR T N σ1 τ1 cls τf y t) : StR T N σ0 τ0 cls τf y t := by
  refine ⟨frm_trans fM h.1, ?_⟩
  rcases h.2 with ⟨y0, σ', q, c1, c2, c3⟩ | ⟨y1, σ2, s1, a1, n', m', c1, c2, c3⟩
  · exact Or.inl ⟨y0, σ', q, c1, frm_trans fC c2, c3⟩
  · exact Or.inr ⟨y1, σ2, s1, a1, n', m', c1, frm_trans fC c2, c3⟩
theorem StR.y01 {σ0 τ0 τf : St} {cls : Option (St × Int32)} {y : Int32} (h : StR T N σ0 τ0 cls τf y t) : (cl (some (τf, y)) fun (σ_8 : St) (t_9 : Int32) => chk (isB t_9) (some (σ_8, t_9))) = some (τf, y) ∧ (cl (some (τf, y)) fun (σ_8 : St) (t_9 : Int32) => (if t_9 = 0 then some (σ_8, (0 : Int32)) else some (σ_8, (1 : Int32)))) = some (τf, y) := by
  rcases h.2 with ⟨y0, _⟩ | ⟨y1, _⟩
  · rw [y0]; exact ⟨rfl, rfl⟩
  · rw [y1]; exact ⟨rfl, rfl⟩
theorem StR.w1 (hN : N ≤ 800) {σ0 τ0 τf : St} {cls : Option (St × Int32)} {y : Int32} (h : StR T N σ0 τ0 cls τf y t) : StR T N σ0 τ0 (cl cls fun (σ_8 : St) (t_9 : Int32) => chk (isB t_9) (some (σ_8, t_9))) τf y t := by
  refine ⟨h.1, ?_⟩
  rcases h.2 with ⟨y0, σ', q, c1, c2, c3⟩ | ⟨y1, σ2, s1, a1, n', m', c1, c2, c3, c4⟩
  · exact Or.inl ⟨y0, σ', q, by rw [c1]; rfl, c2, c3⟩
  · exact Or.inr ⟨y1, σ2, s1, a1, n', m', by rw [c1]; exact (endW hN c3).1, c2, c3, c4⟩
theorem StR.w2 (hN : N ≤ 800) {σ0 τ0 τf : St} {cls : Option (St × Int32)} {y : Int32} (h : StR T N σ0 τ0 cls τf y t) : StR T N σ0 τ0 (cl cls fun (σ_8 : St) (t_9 : Int32) => (if t_9 = 0 then some (σ_8, (0 : Int32)) else some (σ_8, (1 : Int32)))) τf y t := by
  refine ⟨h.1, ?_⟩
  rcases h.2 with ⟨y0, σ', q, c1, c2, c3⟩ | ⟨y1, σ2, s1, a1, n', m', c1, c2, c3, c4⟩
  · exact Or.inl ⟨y0, σ', q, by rw [c1]; rfl, c2, c3⟩
  · exact Or.inr ⟨y1, σ2, s1, a1, n', m', by rw [c1]; exact (endW hN c3).2, c2, c3, c4⟩
theorem sortSt (hN : N ≤ 800) (h : LX T N σ τ s a) (hd : DR T σ τ n m t) (hm : m < 12) {k : Nat} (hk : k ≤ 2) : ∃ (τ1 : St) (y : Int32), fX9_sortTold τ (nI k) = some (τ1, y) ∧ StR T N σ τ (fX3_sort σ (nI k)) τ1 y t := by
  have z99 : (99 : Int32).toInt = 99 := by decide
  have z4 : (4 : Int32).toInt = 4 := by decide
  rcases numberS hN h 1 99 with ⟨σ1, τ1, v, s1, a1, q1, q2, q3, q4, q5, q6, q7⟩ | ⟨τ1, q1, q2, q6, q7⟩
  case inr =>
    refine ⟨τ1, 0, ?_, StR.no (σ := σ) ?_ (frm_refl _ _ _) (frMd q6) q7⟩
    · unfold fX9_sortTold; rw [q2, cl_some, if_pos rfl]
    · unfold fX3_sort; rw [q1, cl_some, bnd_eq, if_pos rfl]
  have vb : 1 ≤ v ∧ v ≤ 99 := by have := q4.1; have := q4.2.1; rw [z_1] at *; rw [z99] at *; omega
  have d1 : DR T σ1 τ1 n m t := DR_fr q5 q6 hd
  have i16 : τ1.1 0 16 = nI m := d1.2.1.2.1
  have l2 : LX T N σ1 (sI (sI (sI τ1 9 m (nI k)) 10 m (nI v)) 11 m 0) s1 a1 := q7
  have d2 : DR T σ1 (sI (sI (sI τ1 9 m (nI k)) 10 m (nI v)) 11 m 0) n m t := DR_wm (DR_wm (DR_wm d1 (by omega) _) (by omega) _) (by omega) _
  have u9 : (sI (sI (sI τ1 9 m (nI k)) 10 m (nI v)) 11 m 0).1 9 m = nI k := by rw [sI_ne (by decide), sI_ne (by decide), sI_at, if_pos rfl]
  have u10 : (sI (sI (sI τ1 9 m (nI k)) 10 m (nI v)) 11 m 0).1 10 m = nI v := by rw [sI_ne (by decide), sI_at, if_pos rfl]
  have u11 : (sI (sI (sI τ1 9 m (nI k)) 10 m (nI v)) 11 m 0).1 11 m = nI 0 := by rw [sI_at, if_pos rfl]; rfl
  have f2 : frm aD bD τ (sI (sI (sI τ1 9 m (nI k)) 10 m (nI v)) 11 m 0) := frm_trans (frMd q6) (frm_trans (frm_sI _ _ rfl) (frm_trans (frm_sI _ _ rfl) (frm_sI _ _ rfl)))
  have fC := frCd q5
  have hM0 : fX9_sortTold τ (nI k) = (jp (fun (σ_6 : St)   => (jp (fun (σ_7 : St)   => cl (fX9_worthTold σ_7 ) fun (σ_8 : St) (t_9 : Int32) => chk (isB t_9) (some (σ_8, t_9))) fun j156 => (if nI k = 0 then cl (fX9_word σ_6 ) fun (σ_10 : St) (t_11 : Int64) => (if (lg_cmp t_11 (6386539 : Int64)) = 0 then fX9_sortTold_L101  (fun (σ_19 : St)  => j156 σ_19) FU σ_10  else some (σ_10, (0 : Int32))) else j156 σ_6))) fun j84 => (if nI k = (1 : Int32) then cl (fX9_takes (sI (sI (sI τ1 9 m (nI k)) 10 m (nI v)) 11 m 0) (28518 : Int64)) fun (σ_20 : St) (t_21 : Int32) => (if t_21 = 0 then some (σ_20, (0 : Int32)) else cl (fX9_takesNumber σ_20 (1 : Int32) (4 : Int32)) fun (σ_22 : St) (t_23 : Int32) => (if t_23 = 0 then some (σ_22, (0 : Int32)) else chk (inb (σ_22.1 0 16) 12) (bnd (sI σ_22 11 (ix (σ_22.1 0 16)) (σ_22.1 0 36)) fun (σ_24 : St) => j84 σ_24))) else j84 (sI (sI (sI τ1 9 m (nI k)) 10 m (nI v)) 11 m 0))) := by
    unfold fX9_sortTold
    rw [q2, cl_some, if_neg one0, i16, chk_t (inb_nI (by omega) (by decide)), ix_nI (m := m) (by omega), bnd_eq, show (sI τ1 9 m (nI k)).1 0 16 = nI m from i16, show (sI τ1 9 m (nI k)).1 0 36 = nI v from q3, chk_t (inb_nI (by omega) (by decide)), ix_nI (m := m) (by omega), bnd_eq, show (sI (sI τ1 9 m (nI k)) 10 m (nI v)).1 0 16 = nI m from i16, chk_t (inb_nI (by omega) (by decide)), ix_nI (m := m) (by omega), bnd_eq]
  generalize sI (sI (sI τ1 9 m (nI k)) 10 m (nI v)) 11 m 0 = τ2 at hM0 l2 d2 u9 u10 u11 f2
  have hC0 : fX3_sort σ (nI k) = (jp (fun (σ_5 : St) (x3_6 : Int32)  => (if x3_6 = (-1 : Int32) then some (σ_5, (0 : Int32)) else clsW σ_5 (nI k) (nI v) x3_6)) fun j67 => (if nI k = 0 then cl (fX3_accept σ1 9) fun (σ_25 : St) (t_26 : Int32) => (jp (fun (σ_27 : St)  (t_28 : Int32) => bnd t_28 fun (x3_29 : Int32) => j67 σ_27 x3_29) fun j38 => (if t_26 = 0 then j38 σ_25 (-1 : Int32) else cl (fX3_asked σ_25 ) fun (σ_30 : St) (t_31 : Int32) => j38 σ_30 t_31)) else (if nI k = (1 : Int32) then cl (fX3_accept σ1 11) fun (σ_18 : St) (t_19 : Int32) => (jp (fun (σ_20 : St)  (t_21 : Int32) => bnd t_21 fun (x3_22 : Int32) => j67 σ_20 x3_22) fun j66 => (if t_19 = 0 then j66 σ_18 (-1 : Int32) else cl (fX3_number σ_18 (1 : Int32) (4 : Int32)) fun (σ_23 : St) (t_24 : Int32) => j66 σ_23 t_24)) else j67 σ1 0))) := by
    unfold fX3_sort
    rw [q1, cl_some, bnd_eq, if_neg (nI_ne_m1 (m := v) (by omega)), bnd_eq]
    rfl
  have kc : k = 0 ∨ k = 1 ∨ k = 2 := by omega
  rcases kc with k0 | k1 | k2
  · subst k0
    -- women
    have m1 : ∀ x : Int32, (if x = (-1 : Int32) then some (σ1, (0 : Int32)) else clsW σ1 (nI 0) (nI v) x) = (if x = (-1 : Int32) then some (σ1, (0 : Int32)) else clsW σ1 (nI 0) (nI v) x) := fun _ => rfl
    rw [jp_eq, if_neg (show ¬ nI 0 = (1 : Int32) by decide)] at hM0
    rw [jp_eq, if_pos (show nI 0 = (0 : Int32) from rfl)] at hC0
    obtain ⟨τ3, g1, g2, g3, g4⟩ := wordS hN l2
    have kb := kw_b 9 (by omega) (by omega)
    have eq : (lg_cmp (Int64.ofInt ((wv T N s1 : Nat) : Int)) 6386539 = 0) ↔ isW T N s1 9 := by
      rw [lgE, show (6386539 : Int64) = Int64.ofInt ((kw256 9 : Nat) : Int) from by decide, ofI_inj (wv_b T N s1) (by omega), isW_wv (by omega) (by omega)]
    dsimp only at hM0
    rw [jp_eq, if_pos (show nI 0 = (0 : Int32) from rfl), g1, cl_some] at hM0
    rcases acceptC hN l2.sl l2.2.2.2.2.2.1 l2.1 (w := 9) (by omega) (by omega) with ⟨k1, σ3, k2, k3, k4⟩ | ⟨k1, k2⟩
    · have wle : s1 + wl T N s1 ≤ N := rL_le l2.sl
      rw [if_pos (eq.mpr k1)] at hM0
      rw [k2, cl_some, jp_eq, if_neg one0] at hC0
      have l3 : LX T N σ3 (sI τ3 0 31 (τ3.1 0 35)) (skp T N (s1 + wl T N s1)) (s1 + wl T N s1) := l2.mk1 wle k3 (frm_trans g2 (frm_sI _ _ rfl)) k4 (by rw [g4]; rfl)
      have d3 : DR T σ3 τ3 n m t := DR_fr k3 g2 d2
      have x11 : τ3.1 11 m = nI 0 := (g2.1 11 m rfl).trans u11
      have aux : fX3_asked σ3 = fX3_asked_L4 (fun (σ_12 : St) (x1_13 : Int32) (x2_14 : Int32) => some (σ_12, (-1 : Int32))) FU σ3 (nI 0) (nI 0) := rfl
      rcases askedSt hN hm (fun (σ_19 : St)  => cl (fX9_worthTold σ_19 ) fun (σ_8 : St) (t_9 : Int32) => chk (isB t_9) (some (σ_8, t_9))) 5 0 σ3 τ3 0 _ _ (by omega) l3 d3 x11 (Nat.pow_pos (by decide)) (by decide) FU FU (by have : FU = 100000 := rfl; omega) (by have : FU = 100000 := rfl; omega) with ⟨σ4, τ4, q, r1, r2, r3, r4, r5⟩ | ⟨σ4, τ4, set4, s4, r1, r2, r3, r4, r5, r6, r7, r8, r9, r10⟩
      · have hM1 : fX9_sortTold τ (nI 0) = some (τ4, 0) := hM0.trans r2
        rw [aux, r1, cl_some] at hC0
        dsimp only at hC0
        rw [bnd_eq, if_pos rfl] at hC0
        exact ⟨τ4, 0, hM1, StR.no hC0 (frm_trans fC (frm_trans (frCd k3) (frCd r3))) (frm_trans f2 (frm_trans (frMd g2) r4)) r5⟩
      · have n4 := r6.1.2.2
        have p16 : 2 ^ n ≤ 16 := Nat.pow_le_pow_right (n := 2) (by decide) n4
        have hM1 : fX9_sortTold τ (nI 0) = _ := hM0.trans r2
        rw [aux, r1, cl_some] at hC0
        dsimp only at hC0
        rw [bnd_eq, if_neg (nI_ne_m1 (m := set4) (by omega))] at hC0
        obtain ⟨τf, y, w1, w2⟩ := worthSt hN r5 r6 hm (k := 0) (w := v) (o := set4) (by omega) vb (r9.trans ((g2.1 9 m rfl).trans u9)) (r10.trans ((g2.1 10 m rfl).trans u10)) r7 (fun _ => r8) (fun z => by omega) (fun z => by omega) (by omega)
        refine ⟨τf, y, hM1.trans w1, ?_⟩
        rw [hC0]
        exact StR.tr (frm_trans fC (frm_trans (frCd k3) (frCd r3))) (frm_trans f2 (frm_trans (frMd g2) r4)) w2
    · rw [if_neg (fun z => k1 (eq.mp z))] at hM0
      rw [k2, cl_some, jp_eq, if_pos rfl] at hC0
      dsimp only at hC0
      rw [bnd_eq, if_pos rfl] at hC0
      exact ⟨τ3, 0, hM0, StR.no hC0 fC (frm_trans f2 (frMd g2)) g3⟩
  · subst k1
    -- each
    rw [jp_eq, if_pos (show nI 1 = (1 : Int32) from rfl)] at hM0
    rw [jp_eq, if_neg (show ¬ nI 1 = (0 : Int32) by decide), if_pos (show nI 1 = (1 : Int32) from rfl)] at hC0
    rcases acceptS hN l2 (w := 11) (W := 28518) (by omega) (by omega) (by decide) with ⟨σ3, τ3, s3, a3, e1, e2, e3, e4, e5⟩ | ⟨τ3, e1, e2, e4, e5⟩
    · rw [e2, cl_some, if_neg one0] at hM0
      rw [e1, cl_some, jp_eq, if_neg one0] at hC0
      rcases numberS hN e5 1 4 with ⟨σ4, τ4, o, s4, a4, p1, p2, p3, p4, p5, p6, p7⟩ | ⟨τ4, p1, p2, p6, p7⟩
      · have ob : 1 ≤ o ∧ o ≤ 4 := by have := p4.1; have := p4.2.1; rw [z_1] at *; rw [z4] at *; omega
        have d4 : DR T σ4 τ4 n m t := DR_fr p5 p6 (DR_fr e3 e4 d2)
        rw [p2, cl_some, if_neg one0, d4.2.1.2.1, chk_t (inb_nI (by omega) (by decide)), ix_nI (m := m) (by omega), p3, bnd_eq] at hM0
        have l5 : LX T N σ4 (sI τ4 11 m (nI o)) s4 a4 := p7
        have x9 : (sI τ4 11 m (nI o)).1 9 m = nI 1 := (p6.1 9 m rfl).trans ((e4.1 9 m rfl).trans u9)
        have x10 : (sI τ4 11 m (nI o)).1 10 m = nI v := (p6.1 10 m rfl).trans ((e4.1 10 m rfl).trans u10)
        have x11 : (sI τ4 11 m (nI o)).1 11 m = nI o := by rw [sI_at, if_pos rfl]
        dsimp only at hM0
        rw [jp_eq, if_neg (show ¬ nI 1 = (0 : Int32) by decide)] at hM0
        rw [p1, cl_some] at hC0
        dsimp only at hC0
        rw [bnd_eq, if_neg (nI_ne_m1 (m := o) (by omega))] at hC0
        obtain ⟨τf, y, w1, w2⟩ := worthSt hN l5 (DR_wm d4 (by omega) _) hm (k := 1) (w := v) (o := o) (by omega) vb x9 x10 x11 (fun z => by omega) (fun _ => ob) (fun z => by omega) (by omega)
        refine ⟨τf, y, hM0.trans w1, ?_⟩
        rw [hC0]
        exact StR.tr (frm_trans fC (frm_trans (frCd e3) (frCd p5))) (frm_trans f2 (frm_trans (frMd e4) (frm_trans (frMd p6) (frm_sI _ _ rfl)))) w2
      · rw [p2, cl_some, if_pos rfl] at hM0
        rw [p1, cl_some] at hC0
        dsimp only at hC0
        rw [bnd_eq, if_pos rfl] at hC0
        exact ⟨τ4, 0, hM0, StR.no hC0 (frm_trans fC (frCd e3)) (frm_trans f2 (frm_trans (frMd e4) (frMd p6))) p7⟩
    · rw [e2, cl_some, if_pos rfl] at hM0
      rw [e1, cl_some, jp_eq, if_pos rfl] at hC0
      dsimp only at hC0
      rw [bnd_eq, if_pos rfl] at hC0
      exact ⟨τ3, 0, hM0, StR.no hC0 fC (frm_trans f2 (frMd e4)) e5⟩
  · subst k2
    -- readers
    rw [jp_eq, if_neg (show ¬ nI 2 = (1 : Int32) by decide)] at hM0
    rw [jp_eq, if_neg (show ¬ nI 2 = (0 : Int32) by decide), if_neg (show ¬ nI 2 = (1 : Int32) by decide)] at hC0
    dsimp only at hM0 hC0
    rw [jp_eq, if_neg (show ¬ nI 2 = (0 : Int32) by decide)] at hM0
    rw [if_neg (show ¬ (0 : Int32) = -1 by decide)] at hC0
    obtain ⟨τf, y, w1, w2⟩ := worthSt hN l2 d2 hm (k := 2) (w := v) (o := 0) (by omega) vb u9 u10 u11 (fun z => by omega) (fun z => by omega) (fun _ => rfl) (by omega)
    refine ⟨τf, y, hM0.trans w1, ?_⟩
    rw [hC0]
    exact StR.tr fC f2 w2
theorem statementSt (hN : N ≤ 800) (h : LX T N σ τ s a) (hd : DR T σ τ n m t) : ∃ (τ1 : St) (y : Int32), fX9_statement τ = some (τ1, y) ∧ StR T N σ τ (fX3_statement σ) τ1 y t := by
  have z12 : (12 : Int32).toInt = 12 := by decide
  unfold fX9_statement fX3_statement
  -- baker
  rcases acceptS hN h (w := 0) (W := 422541223282) (by omega) (by omega) (by decide) with ⟨σ1, τ1, s1, a1, e1, e2, e3, e4, e5⟩ | ⟨τ1, e1, e2, e4, e5⟩
  · obtain ⟨τf, y, w1, w2⟩ := bakerSt hN e5 (DR_fr e3 e4 hd)
    rw [e1, e2, cl_some, cl_some, if_neg one0, if_neg one0, w1, w2.y01.1]
    exact ⟨τf, y, rfl, StR.tr (frCd e3) (frMd e4) (w2.w1 hN)⟩
  rw [e1, e2, cl_some, cl_some, if_pos rfl, if_pos rfl]
  have fM1 := frMd e4
  have d1 : DR T σ τ1 n m t := DR_fr (frm_refl _ _ _) e4 hd
  clear e1 e2 e4 h hd
  -- steps
  rcases acceptS hN e5 (w := 3) (W := 495874044019) (by omega) (by omega) (by decide) with ⟨σ2, τ2, s2, a2, e1, e2, e3, e4, e6⟩ | ⟨τ2, e1, e2, e4, e6⟩
  · obtain ⟨τf, y, w1, w2⟩ := stepsSt hN e6 (DR_fr e3 e4 d1)
    rw [e1, e2, cl_some, cl_some, if_neg one0, if_neg one0, w1, w2.y01.1]
    exact ⟨τf, y, rfl, StR.tr (frCd e3) (frm_trans fM1 (frMd e4)) (w2.w1 hN)⟩
  rw [e1, e2, cl_some, cl_some, if_pos rfl, if_pos rfl]
  have fM2 := frm_trans fM1 (frMd e4)
  have d2 : DR T σ τ2 n m t := DR_fr (frm_refl _ _ _) e4 d1
  clear e1 e2 e4 e5 d1 fM1
  -- list
  rcases acceptS hN e6 (w := 6) (W := 1818850164) (by omega) (by omega) (by decide) with ⟨σ3, τ3, s3, a3, e1, e2, e3, e4, e7⟩ | ⟨τ3, e1, e2, e4, e7⟩
  · obtain ⟨τf, y, w1, w2⟩ := listSt hN e7 (DR_fr e3 e4 d2)
    rw [e1, e2, cl_some, cl_some, if_neg one0, if_neg one0, w1, w2.y01.1]
    exact ⟨τf, y, rfl, StR.tr (frCd e3) (frm_trans fM2 (frMd e4)) (w2.w1 hN)⟩
  rw [e1, e2, cl_some, cl_some, if_pos rfl, if_pos rfl]
  have fM3 := frm_trans fM2 (frMd e4)
  have d3 : DR T σ τ3 n m t := DR_fr (frm_refl _ _ _) e4 d2
  clear e1 e2 e4 e6 d2 fM2
  -- door
  rcases acceptS hN e7 (w := 7) (W := 1685024626) (by omega) (by omega) (by decide) with ⟨σ4, τ4, s4, a4, e1, e2, e3, e4, e8⟩ | ⟨τ4, e1, e2, e4, e8⟩
  · obtain ⟨τf, y, w1, w2⟩ := doorSt hN e8 (DR_fr e3 e4 d3)
    rw [e1, e2, cl_some, cl_some, if_neg one0, if_neg one0, w1]
    exact ⟨τf, y, rfl, StR.tr (frCd e3) (frm_trans fM3 (frMd e4)) w2⟩
  rw [e1, e2, cl_some, cl_some, if_pos rfl, if_pos rfl]
  have fM4 := frm_trans fM3 (frMd e4)
  have d4 : DR T σ τ4 n m t := DR_fr (frm_refl _ _ _) e4 d3
  clear e1 e2 e4 e7 d3 fM3
  rw [d4.2.1.1, d4.2.1.2.1]
  have m12 := d4.2.1.2.2
  by_cases mm : m = 12
  · rw [if_pos (show nI m = 12 by rw [mm]; rfl), if_neg (show ¬ nI m < 12 by rw [lt_i, z12, nI_toInt (by omega)]; omega)]
    exact ⟨τ4, 0, rfl, StR.no rfl (frm_refl _ _ _) fM4 e8⟩
  rw [if_neg (show ¬ nI m = 12 from fun z => mm ((ofNI (b := 12) (by omega) (by omega)).mp z)), if_pos (show nI m < 12 by rw [lt_i, z12, nI_toInt (by omega)]; omega)]
  -- women
  rcases acceptS hN e8 (w := 8) (W := 512970548590) (by omega) (by omega) (by decide) with ⟨σ5, τ5, s5, a5, e1, e2, e3, e4, e9⟩ | ⟨τ5, e1, e2, e4, e9⟩
  · obtain ⟨τf, y, w1, w2⟩ := sortSt hN e9 (DR_fr e3 e4 d4) (by omega) (k := 0) (by omega)
    have w1 : fX9_sortTold τ5 0 = some (τf, y) := w1
    rw [e1, e2, cl_some, cl_some, if_neg one0, if_neg one0, w1, w2.y01.1]
    exact ⟨τf, y, rfl, StR.tr (frCd e3) (frm_trans fM4 (frMd e4)) (w2.w1 hN)⟩
  rw [e1, e2, cl_some, cl_some, if_pos rfl, if_pos rfl]
  have fM5 := frm_trans fM4 (frMd e4)
  have d5 : DR T σ τ5 n m t := DR_fr (frm_refl _ _ _) e4 d4
  clear e1 e2 e4 e8 d4 fM4
  -- each
  rcases acceptS hN e9 (w := 13) (W := 1700881256) (by omega) (by omega) (by decide) with ⟨σ6, τ6, s6, a6, e1, e2, e3, e4, e10⟩ | ⟨τ6, e1, e2, e4, e10⟩
  · obtain ⟨τf, y, w1, w2⟩ := sortSt hN e10 (DR_fr e3 e4 d5) (by omega) (k := 1) (by omega)
    have w1 : fX9_sortTold τ6 1 = some (τf, y) := w1
    rw [e1, e2, cl_some, cl_some, if_neg one0, if_neg one0, w1, w2.y01.1]
    exact ⟨τf, y, rfl, StR.tr (frCd e3) (frm_trans fM5 (frMd e4)) (w2.w1 hN)⟩
  rw [e1, e2, cl_some, cl_some, if_pos rfl, if_pos rfl]
  have fM6 := frm_trans fM5 (frMd e4)
  have d6 : DR T σ τ6 n m t := DR_fr (frm_refl _ _ _) e4 d5
  clear e1 e2 e4 e9 d5 fM5
  -- readers
  rcases acceptS hN e10 (w := 14) (W := 32199616315617907) (by omega) (by omega) (by decide) with ⟨σ7, τ7, s7, a7, e1, e2, e3, e4, e11⟩ | ⟨τ7, e1, e2, e4, e11⟩
  · obtain ⟨τf, y, w1, w2⟩ := sortSt hN e11 (DR_fr e3 e4 d6) (by omega) (k := 2) (by omega)
    have w1 : fX9_sortTold τ7 2 = some (τf, y) := w1
    rw [e1, e2, cl_some, cl_some, if_neg one0, if_neg one0, w1, w2.y01.2]
    exact ⟨τf, y, rfl, StR.tr (frCd e3) (frm_trans fM6 (frMd e4)) (w2.w2 hN)⟩
  rw [e1, e2, cl_some, cl_some, if_pos rfl, if_pos rfl]
  exact ⟨τ7, 0, rfl, StR.no rfl (frm_refl _ _ _) (frm_trans fM6 (frMd e4)) e11⟩
end Stm3
