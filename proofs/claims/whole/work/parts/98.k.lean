/-! best law, the class -/
theorem nthN_congr {f g : Nat → Bool} {k : Nat} : ∀ m : Nat, (∀ p : Nat, p < m → f p = g p) → cntN f m = cntN g m ∧ nthN f k m = nthN g k m := by
  intro m
  induction m with
  | zero => intro _; exact ⟨rfl, rfl⟩
  | succ m ih =>
    intro h
    have i1 := ih (fun p hp => h p (by omega))
    rw [cntN, cntN, nthN, nthN, i1.1, i1.2, h m (by omega)]
    exact ⟨rfl, rfl⟩
theorem shN_lI (τ : St) {m : Nat} (hm : m < 1000) : shN (lI τ m) ↔ shtF τ ((m : Int) - 1) := by
  show shtF (lI τ m) (frc (lI τ m)) ↔ _
  rw [frc_lI τ hm]
  exact Iff.rfl
theorem barN_lI (τ : St) {m : Nat} (hm : m < 1000) (k : Nat) : barN (lI τ m) k ↔ barF τ ((m : Int) - 1) k := by
  show barF (lI τ m) (frc (lI τ m)) k ↔ _
  rw [frc_lI τ hm]
  exact Iff.rfl
theorem muL_of {τ : St} (h : okM τ) {sh : Prop} [Decidable sh] {bar : Nat → Prop} {m i so : Nat} {f : Nat → Bool} (hsh : sh ↔ shN (lI τ m)) (hbar : ∀ k : Nat, bar k ↔ barN (lI τ m) k) (hf : ∀ p : Nat, p < nK τ ^ nB τ → (f p = true ↔ ∀ b : Nat, b < nB τ → okB τ sh (nmd τ) bar (csC τ none b i) b (rowAt (nK τ) p))) : mF τ sh so (nK τ) (nthN f 0 (nK τ ^ nB τ)) = muL τ so m := by
  have e1 : nthN f 0 (nK τ ^ nB τ) = nthN (rsK (lI τ m)) 0 (nK τ ^ nB τ) := (nthN_congr (nK τ ^ nB τ) (fun p hp => by
    have := (hf p hp).trans (lI_rest h hsh hbar)
    cases a : f p with
    | true => exact (this.mp a).symm
    | false => cases b : rsK (lI τ m) p with
      | true => have := this.mpr b; rw [a] at this; cases this
      | false => rfl)).2
  rw [e1, mF_sh hsh]
  rfl
theorem loud {τ : St} (h : okM τ) {i : Nat} (hi : shtF τ (i : Int)) (k : Nat) : ¬ barF τ (i : Int) k := fun z => by
  rcases z.2 with w | w
  · have := hi.2; omega
  · have := hi.2; omega
theorem muL_loud {τ : St} (h : okM τ) {so i j : Nat} (hi : shtF τ (i : Int)) (hj : shtF τ (j : Int)) (hi6 : i < 100) (hj6 : j < 100) : muL τ so (i + 1) = muL τ so (j + 1) := by
  have e : ∀ m : Nat, ((m + 1 : Nat) : Int) - 1 = (m : Int) := fun m => by omega
  have si := shN_lI τ (m := i + 1) (by omega)
  have sj := shN_lI τ (m := j + 1) (by omega)
  rw [e] at si sj
  have b1 : ∀ k : Nat, barN (lI τ (i + 1)) k ↔ barN (lI τ (j + 1)) k := fun k => by
    have bi := barN_lI τ (m := i + 1) (by omega) k
    have bj := barN_lI τ (m := j + 1) (by omega) k
    rw [e] at bi bj
    rw [bi, bj]
    exact ⟨fun z => absurd z (loud h hi k), fun z => absurd z (loud h hj k)⟩
  have s1 : shN (lI τ (i + 1)) ↔ shN (lI τ (j + 1)) := by
    rw [si, sj]
    exact ⟨fun _ => hj, fun _ => hi⟩
  have := muL_of h (i := 0) (so := so) (f := rsK (lI τ (i + 1))) s1 b1 (fun p hp => (lI_rest h (i := 0) Iff.rfl (fun _ => Iff.rfl)).symm)
  rw [← this]
  rfl
section BL
variable {τ : St} {so : Nat}
/-- the class while laws are tried -/
def blC (σ0 σ τ : St) : Prop := (∀ c k : Nat, scR c k = false → σ.1 c k = σ0.1 c k) ∧ rmk σ τ ∧ rg (σ.1 54 2147483648) 8 4096 ∧ σ.1 53 9 = 0
theorem blC.cls {σ0 σ : St} (h : blC σ0 σ τ) (c : clsR σ0 τ (nmd τ)) : clsR σ τ (nmd τ) := by
  have g : ∀ q k : Nat, (q < 10 ∨ 18 < q) ∧ q < 43 → σ.1 q k = σ0.1 q k := fun q k hq => h.1 q k (scR_f hq)
  refine ⟨⟨(g 2 0 (by omega)).trans c.1.1, (g 2 1 (by omega)).trans c.1.2.1, (g 2 2 (by omega)).trans c.1.2.2.1, (g 2 3 (by omega)).trans c.1.2.2.2.1, (g 2 4 (by omega)).trans c.1.2.2.2.2.1, (g 2 5 (by omega)).trans c.1.2.2.2.2.2.1, (g 2 6 (by omega)).trans c.1.2.2.2.2.2.2⟩, fun s hs => ?_, ⟨(g 22 3 (by omega)).trans c.st.1, (g 22 4 (by omega)).trans c.st.2.1, (g 19 0 (by omega)).trans c.st.2.2⟩, fun b hb => ?_, fun i hi => ⟨(g 20 i (by omega)).trans (c.law hi).1, (g 21 i (by omega)).trans (c.law hi).2⟩⟩
  · obtain ⟨q1, q2, q3, q4, q5⟩ := c.sort hs
    exact ⟨(g 5 s (by omega)).trans q1, (g 6 s (by omega)).trans q2, (g 7 s (by omega)).trans q3, (g 8 s (by omega)).trans q4, fun w => ⟨(g 9 s (by omega)).trans (q5 w).1, (q5 w).2⟩⟩
  · obtain ⟨q1, q2, q3⟩ := c.bk hb
    exact ⟨(g 25 b (by omega)).trans q1, (g 23 b (by omega)).trans q2, fun k hk => (g 24 _ (by omega)).trans (q3 k hk)⟩
theorem quietC {σ : St} (h : Inv σ τ) (hso : so < nS τ) : ∃ σ', fX4_tryQuietLawsA σ (nI so) = some (σ', ()) ∧ blC σ σ' τ ∧ ∀ j : Nat, j ≤ nL τ → ¬ shtF τ ((j : Int) - 1) → σ'.1 57 j = muL τ so j := by
  have hM := h.okM
  have h4 := hM.n4
  have h8 := hM.k8
  have nl := hM.nl
  have hR := h.2.2.2.2.2
  have zm : (-1 : Int32).toInt = -1 := by decide
  have c0 : clsR (sI σ 53 9 0) τ (nmd τ) := h.cls
  obtain ⟨σ1, a1, a2, a3⟩ := openC hM c0 (p := -1) (by rw [zm]; exact ⟨by omega, by omega⟩)
  rw [zm] at a3
  have c1 : clsR σ1 τ (nmd τ) := clsR_fr (coreC_frm a2 mOpn_43) c0
  unfold fX4_tryQuietLawsA
  rw [chk_t (by decide), bnd_eq, a1, cl_some, bnd_eq]
  obtain ⟨x, hx, e⟩ := loopK (S := St) (fun (k : St → Int32 → Option (St × Unit)) n x m => fX4_tryQuietLawsA_L15 (nI so) k n x (nI m)) (fun k x => k x (nI (nL τ + 1))) (nL τ + 1) (fun m x => frm (mk 56 56) noL σ1 x ∧ ∀ i : Nat, i < m → ∀ k : Nat, k < 8 → (frB (x.1 56 i) k ↔ k < nK τ ∧ ¬ barF τ ((i : Int) - 1) k)) (fun k n x hp => by
      have c2 := clsR_fr (coreC_frm hp.1 (mk43 (by omega))) c1
      rw [fX4_tryQuietLawsA_L15, c2.st.2.2, nl.2.2, if_pos (by rw [lt_i, nI_toInt (by omega), nI_toInt (by omega)]; omega)]) (fun n m x hm hp => by
      have c2 := clsR_fr (coreC_frm hp.1 (mk43 (by omega))) c1
      have fi := fL_i (m := m) (by omega)
      obtain ⟨v, f1, f2⟩ := freeC hM c2 (p := fL m) (by rw [fi]; exact ⟨by omega, by rw [nl.1]; omega⟩)
      rw [fi] at f2
      refine ⟨sI x 56 m v, ⟨frm_trans hp.1 (frm_sI _ _ rfl), fun i hi k hk => ?_⟩, fun k => ?_⟩
      · rw [sI_at]
        by_cases w : i = m
        · rw [if_pos w, w]; exact f2 k hk
        · rw [if_neg w]; exact hp.2 i (by omega) k hk
      · have f1 : fX2_free x (nI m - 1) (nI (nK τ)) = some (x, v) := f1
        rw [fX4_tryQuietLawsA_L15, c2.st.2.2, nl.2.2, if_neg (by rw [lt_i, nI_toInt (by omega), nI_toInt (by omega)]; omega), c2.nk hM, f1, cl_some, chk_t (inb_nI (by omega) (by decide)), ix_nI (m := m) (by omega), bnd_eq, bnd_eq, nI_succ]
        all_goals rfl) FU 0 σ1 (by omega) (by have : FU = 100000 := rfl; omega) ⟨frm_refl _ _ _, fun i hi => absurd hi (by omega)⟩
  have e : ∀ k : St → Int32 → Option (St × Unit), fX4_tryQuietLawsA_L15 (nI so) k FU σ1 0 = k x (nI (nL τ + 1)) := e
  have c2 := clsR_fr (coreC_frm hx.1 (mk43 (by omega))) c1
  have cr2 : crd x (crF τ (shtF τ (-1)) (nmd τ) (nS τ)) := fun t ht k hk => by rw [hx.1.1 44 _ rfl]; exact a3.2.2 t ht k hk
  have L2 : rg (x.1 54 2147483648) 8 4096 := by
    rw [hx.1.1 54 2147483648 rfl, a2.1 54 2147483648 rfl]
    exact hR.1
  obtain ⟨σ3, b1, b2, b3, b4, b5⟩ := searchC (sh := shtF τ (-1)) (cases := nL τ + 1) (dear := none) (bar := fun i k => barF τ ((i : Int) - 1) k) hM c2 cr2 L2 (by omega) (fun d q => by cases q) (fun i hi k hk => hx.2 i hi k hk)
  have b1 : fX4_searchA x (nI (nL τ + 1)) (-1) = some (σ3, ()) := b1
  have c3 := clsR_fr (coreC_frm b2 mSr_43) c2
  have e14 : σ3.1 43 14 = if shtF τ (-1) then 1 else 0 := by
    rw [b2.1 43 14 rfl, hx.1.1 43 14 rfl]
    exact a3.1
  have sc3 : ∀ c k : Nat, scR c k = false → σ3.1 c k = σ.1 c k := fun c k q => by
    have q2 := scR_lt q
    rw [b2.1 c k (scR_mSr c k q), hx.1.1 c k (scR_mk (by omega) c k q), a2.1 c k (scR_opn c k q), sI_ne (show c ≠ 53 by omega)]
  have k0 : σ3.1 53 9 = 0 := by
    rw [b2.1 53 9 rfl, hx.1.1 53 9 rfl, a2.1 53 9 rfl]
    rfl
  -- the means
  obtain ⟨y, hy, ey⟩ := loopG (S := St) (fun n y m => fX4_tryQuietLawsA_L71 (nI so) (fun (σ_18 : St) (_ : Int32) => some (σ_18, ())) n y (nI m)) (nL τ + 1) (fun m y => frm (fun c k => mk 45 45 c k || mk 57 57 c k) (mk 43 43) σ3 y ∧ ∀ j : Nat, j < m → ¬ shtF τ ((j : Int) - 1) → y.1 57 j = muL τ so j) (fun y => some (y, ())) (fun n y hp => by
      have e19 : y.1 19 0 = nI (nL τ) := by rw [hp.1.1 19 0 rfl, c3.st.2.2]; exact nl.2.2
      show fX4_tryQuietLawsA_L71 _ _ (n + 1) y _ = _
      rw [fX4_tryQuietLawsA_L71, e19, if_pos (by rw [lt_i, nI_toInt (by omega), nI_toInt (by omega)]; omega)]) (fun n m y hm hp => by
      obtain ⟨p1, p2⟩ := hp
      have e19 : y.1 19 0 = nI (nL τ) := by rw [p1.1 19 0 rfl, c3.st.2.2]; exact nl.2.2
      have s43 : ∀ c k : Nat, c < 43 → (mk 45 45 c k || mk 57 57 c k) = false := fun c k hc => by
        rw [mk43 (lo := 45) (hi := 45) (by omega) c k hc, mk43 (lo := 57) (hi := 57) (by omega) c k hc]
        rfl
      have cy := clsR_fr (coreC_frm p1 s43) c3
      have my : rmk y τ := ⟨by rw [p1.1 53 8 rfl]; exact b3.1, by rw [p1.1 54 2147483648 rfl]; exact b3.2.1, by rw [p1.1 54 2147483648 rfl]; exact b3.2.2.1, fun b hb => by rw [p1.1 55 b rfl]; exact b3.2.2.2 b hb⟩
      have fy : mrk y τ m (fun p => @decide (frB (σ3.1 54 p) m) (Classical.propDecidable _)) := fun p hp => by
        rw [p1.1 54 p rfl, @decide_eq_true_iff _ (Classical.propDecidable _)]
      obtain ⟨y2, d1, d2⟩ := meanFirstC (sh := shtF τ (-1)) hM cy my (i := m) (s := so) (by omega) hso fy (by rw [p1.1 43 14 rfl]; exact e14)
      generalize hv : mF τ (shtF τ (-1)) so (nK τ) (nthN (fun p => @decide (frB (σ3.1 54 p) m) (Classical.propDecidable _)) 0 (nK τ ^ nB τ)) = v at d1
      refine ⟨sI y2 57 m v, ⟨frm_trans p1 (frm_trans (frm_mono (fun _ _ q => (bf q).1) (fun _ _ q => q) d2) (frm_sI _ _ rfl)), fun j hj hq => ?_⟩, ?_⟩
      · rw [sI_at]
        by_cases w : j = m
        · rw [if_pos w, w, ← hv]
          rw [w] at hq
          refine muL_of hM (i := m) ?_ (fun k => (barN_lI τ (by omega) k).symm) (fun p hp => ?_)
          · rw [shN_lI τ (by omega)]
            exact ⟨fun z => absurd z.1 (by omega), fun z => absurd z hq⟩
          · rw [@decide_eq_true_iff _ (Classical.propDecidable _)]
            exact b5 p hp m (by omega)
        · rw [if_neg w, d2.1 57 j rfl]
          exact p2 j (by omega) hq
      · show fX4_tryQuietLawsA_L71 _ _ (n + 1) y _ = _
        rw [fX4_tryQuietLawsA_L71, e19, if_neg (by rw [lt_i, nI_toInt (by omega), nI_toInt (by omega)]; omega), d1, cl_some, chk_t (inb_nI (by omega) (by decide)), ix_nI (m := m) (by omega), bnd_eq, bnd_eq, nI_succ]
        all_goals rfl) FU 0 σ3 (by omega) (by have : FU = 100000 := rfl; omega) ⟨frm_refl _ _ _, fun j hj => absurd hj (by omega)⟩
  have ey : fX4_tryQuietLawsA_L71 (nI so) (fun (σ_18 : St) (_ : Int32) => some (σ_18, ())) FU σ3 0 = some (y, ()) := ey
  have e19 : x.1 19 0 + 1 = nI (nL τ + 1) := by rw [c2.st.2.2, nl.2.2, nI_succ]
  rw [e, e19, b1, cl_some, bnd_eq]
  refine ⟨y, ey, ⟨fun c k q => ?_, ⟨by rw [hy.1.1 53 8 rfl]; exact b3.1, by rw [hy.1.1 54 2147483648 rfl]; exact b3.2.1, by rw [hy.1.1 54 2147483648 rfl]; exact b3.2.2.1, fun b hb => by rw [hy.1.1 55 b rfl]; exact b3.2.2.2 b hb⟩, by rw [hy.1.1 54 2147483648 rfl]; exact b4, by rw [hy.1.1 53 9 rfl]; exact k0⟩, fun j hj hq => hy.2 j (by omega) hq⟩
  rw [hy.1.1 c k (by
    show (mk 45 45 c k || mk 57 57 c k) = false
    rw [scR_mk (lo := 45) (hi := 45) (by omega) c k q, scR_mk (lo := 57) (hi := 57) (by omega) c k q]
    rfl)]
  exact sc3 c k q
theorem shoutsAllC {σ0 σ : St} (hM : okM τ) (c0 : clsR σ0 τ (nmd τ)) (hb : blC σ0 σ τ) (hso : so < nS τ) (hq : ∀ j : Nat, j ≤ nL τ → ¬ shtF τ ((j : Int) - 1) → σ.1 57 j = muL τ so j) : ∃ σ', fX4_tryShouts σ (nI so) = some (σ', ()) ∧ blC σ0 σ' τ ∧ ∀ j : Nat, j ≤ nL τ → σ'.1 57 j = muL τ so j := by
  have h4 := hM.n4
  have h8 := hM.k8
  have nl := hM.nl
  have ej : ∀ m : Nat, ((m + 1 : Nat) : Int) - 1 = (m : Int) := fun m => by omega
  unfold fX4_tryShouts
  rw [bnd_eq, bnd_eq, bnd_eq]
  obtain ⟨s, hs, e⟩ := loopG (S := St × Int32 × Int32) (fun n s m => fX4_tryShouts_L7 (nI so) (fun (σ_23 : St) (_ : Int32) (_ : Int32) (_ : Int32) => some (σ_23, ())) n s.1 s.2.1 s.2.2 (nI m)) (nL τ) (fun m s => blC σ0 s.1 τ ∧ (∀ j : Nat, j ≤ nL τ → (¬ shtF τ ((j : Int) - 1) ∨ j ≤ m) → s.1.1 57 j = muL τ so j) ∧ ((s.2.1 = 0 ∧ ∀ i : Nat, i < m → ¬ shtF τ (i : Int)) ∨ (s.2.1 = 1 ∧ ∀ i : Nat, i < nL τ → shtF τ (i : Int) → s.2.2 = muL τ so (i + 1)))) (fun s => some (s.1, ())) (fun n s hp => by
      have c1 := hp.1.cls c0
      show fX4_tryShouts_L7 _ _ (n + 1) s.1 s.2.1 s.2.2 _ = _
      rw [fX4_tryShouts_L7, c1.st.2.2, nl.2.2, if_pos (by rw [le_i]; omega)]) (fun n m s hm hp => by
      obtain ⟨p1, p2, p3⟩ := hp
      have c1 := p1.cls c0
      have ml : lwOK τ (nI m).toInt := by rw [nI_toInt (by omega)]; exact ⟨by omega, by rw [nl.1]; omega⟩
      have sh := shoutsC hM c1 (p := nI m) ml
      rw [nI_toInt (by omega)] at sh
      show ∃ s' : St × Int32 × Int32, _ ∧ fX4_tryShouts_L7 _ _ (n + 1) s.1 s.2.1 s.2.2 _ = _
      rw [fX4_tryShouts_L7, c1.st.2.2, nl.2.2, if_neg (by rw [le_i, nI_toInt (by omega), nI_toInt (by omega)]; omega), sh, cl_some, jp_eq]
      by_cases w : shtF τ (m : Int)
      case neg =>
        rw [if_neg w, if_pos rfl]
        dsimp only
        refine ⟨(s.1, s.2.1, s.2.2), ⟨p1, fun j hj hor => p2 j hj ?_, ?_⟩, by rw [bnd_eq, nI_succ]; all_goals rfl⟩
        · rcases hor with z | z
          · exact Or.inl z
          · by_cases u : j = m + 1
            · refine Or.inl ?_
              rw [u, ej]
              exact w
            · exact Or.inr (by omega)
        · rcases p3 with ⟨z1, z2⟩ | z
          · refine Or.inl ⟨z1, fun i hi => ?_⟩
            by_cases u : i = m
            · rw [u]; exact w
            · exact z2 i (by omega)
          · exact Or.inr z
      rw [if_pos w, if_neg one0, jp_eq]
      -- the mean is written
      have wr : ∀ (x : St) (v : Int32), blC σ0 x τ → (∀ j : Nat, x.1 57 j = s.1.1 57 j) → v = muL τ so (m + 1) → blC σ0 (sI x 57 (m + 1) v) τ ∧ (∀ j : Nat, j ≤ nL τ → (¬ shtF τ ((j : Int) - 1) ∨ j ≤ m + 1) → (sI x 57 (m + 1) v).1 57 j = muL τ so j) := by
        intro x v hx h57 hv
        refine ⟨⟨fun c k q => ?_, hx.2.1, hx.2.2.1, hx.2.2.2⟩, fun j hj hor => ?_⟩
        · have q2 := scR_lt q
          rw [sI_ne (show c ≠ 57 by omega)]
          exact hx.1 c k q
        · rw [sI_at]
          by_cases u : j = m + 1
          · rw [if_pos u, u, hv]
          · rw [if_neg u, h57 j]
            exact p2 j hj (by
              rcases hor with z | z
              · exact Or.inl z
              · exact Or.inr (by omega))
      have en : nI m + 1 = nI (m + 1) := (nI_succ m).symm
      rcases p3 with ⟨z1, z2⟩ | ⟨z1, z2⟩
      · -- the search
        obtain ⟨x1, a1, a2, a3⟩ := openC hM c1 (p := nI m) ml
        rw [nI_toInt (by omega)] at a3
        have f2 : frm (fun c k => mOpn c k || Nat.beq c 56) noL s.1 (sI x1 56 0 (x1.1 43 15)) := frm_trans (frm_mono (fun _ _ q => (bf q).1) (fun _ _ q => q) a2) (frm_sI _ _ rfl)
        have s43 : ∀ c k : Nat, c < 43 → (mOpn c k || Nat.beq c 56) = false := fun c k hc => by
          rw [mOpn_43 c k hc]
          cases q : Nat.beq c 56 with
          | false => rfl
          | true => have := Nat.eq_of_beq_eq_true q; omega
        have c2 := clsR_fr (coreC_frm f2 s43) c1
        have cr2 : crd (sI x1 56 0 (x1.1 43 15)) (crF τ (shtF τ (m : Int)) (nmd τ) (nS τ)) := fun t ht k hk => a3.2.2 t ht k hk
        have e54 : (sI x1 56 0 (x1.1 43 15)).1 54 2147483648 = s.1.1 54 2147483648 := f2.1 54 2147483648 rfl
        have L2 : rg ((sI x1 56 0 (x1.1 43 15)).1 54 2147483648) 8 4096 := by rw [e54]; exact p1.2.2.1
        obtain ⟨x3, b1, b2, b3, b4, b5⟩ := searchC (sh := shtF τ (m : Int)) (cases := 1) (dear := none) (bar := fun _ k => barF τ (m : Int) k) hM c2 cr2 L2 (by omega) (fun d q => by cases q) (fun i hi k hk => by
          have : i = 0 := by omega
          subst this
          show frB (x1.1 43 15) k ↔ _
          exact a3.2.1 k hk)
        have b1 : fX4_search (sI x1 56 0 (x1.1 43 15)) 1 (-1) = some (x3, ()) := by
          rw [search_A hM c2 L2 (by rw [e54]; exact p1.2.1.2.1)]
          exact b1
        have c3 := clsR_fr (coreC_frm b2 mSr_43) c2
        have m3 : mrk x3 τ 0 (rsK (lI τ (m + 1))) := fun p hp => by
          rw [b5 p hp 0 (by omega)]
          refine lI_rest hM ?_ (fun k => ?_)
          · rw [shN_lI τ (by omega), ej]
          · rw [barN_lI τ (by omega), ej]
        obtain ⟨x4, d1, d2⟩ := meanFirstC (sh := shtF τ (m : Int)) hM c3 b3 (i := 0) (s := so) (by omega) hso m3 (by rw [b2.1 43 14 rfl]; exact a3.1)
        have d1 : fX4_meanByFirst x3 (nI so) 0 = some (x4, mF τ (shtF τ (m : Int)) so (nK τ) (nthN (rsK (lI τ (m + 1))) 0 (nK τ ^ nB τ))) := d1
        have emu : mF τ (shtF τ (m : Int)) so (nK τ) (nthN (rsK (lI τ (m + 1))) 0 (nK τ ^ nB τ)) = muL τ so (m + 1) := by
          rw [mF_sh (show shtF τ (m : Int) ↔ shN (lI τ (m + 1)) by rw [shN_lI τ (by omega), ej])]
          rfl
        rw [emu] at d1
        have bl4 : blC σ0 x4 τ := by
          refine ⟨fun c k q => ?_, ⟨by rw [d2.1 53 8 rfl]; exact b3.1, by rw [d2.1 54 2147483648 rfl]; exact b3.2.1, by rw [d2.1 54 2147483648 rfl]; exact b3.2.2.1, fun b hb => by rw [d2.1 55 b rfl]; exact b3.2.2.2 b hb⟩, by rw [d2.1 54 2147483648 rfl]; exact b4, ?_⟩
          · have q2 := scR_lt q
            rw [d2.1 c k (scR_mk (by omega) c k q), b2.1 c k (scR_mSr c k q), f2.1 c k (by
              show (mOpn c k || Nat.beq c 56) = false
              rw [scR_opn c k q]
              cases z : Nat.beq c 56 with
              | false => rfl
              | true => have := Nat.eq_of_beq_eq_true z; omega)]
            exact p1.1 c k q
          · rw [d2.1 53 9 rfl, b2.1 53 9 rfl, f2.1 53 9 rfl]
            exact p1.2.2.2
        have e57 : ∀ j : Nat, x4.1 57 j = s.1.1 57 j := fun j => by rw [d2.1 57 j rfl, b2.1 57 j rfl, f2.1 57 j rfl]
        obtain ⟨w1, w2⟩ := wr x4 (muL τ so (m + 1)) bl4 e57 rfl
        rw [if_pos z1, a1, cl_some, chk_t (by decide), show ix (0 : Int32) = 0 from rfl, bnd_eq, b1, cl_some, d1, cl_some, bnd_eq, bnd_eq]
        dsimp only
        rw [en, chk_t (inb_nI (by omega) (by decide)), ix_nI (m := m + 1) (by omega), bnd_eq]
        exact ⟨(sI x4 57 (m + 1) (muL τ so (m + 1)), 1, muL τ so (m + 1)), ⟨w1, w2, Or.inr ⟨rfl, fun i hi hsi => muL_loud hM w hsi (by omega) (by omega)⟩⟩, by rw [bnd_eq]⟩
      · obtain ⟨w1, w2⟩ := wr s.1 s.2.2 p1 (fun _ => rfl) (z2 m hm w)
        rw [if_neg (by rw [z1]; exact one0)]
        dsimp only
        rw [en, chk_t (inb_nI (by omega) (by decide)), ix_nI (m := m + 1) (by omega), bnd_eq]
        exact ⟨(sI s.1 57 (m + 1) s.2.2, s.2.1, s.2.2), ⟨w1, w2, Or.inr ⟨z1, z2⟩⟩, by rw [bnd_eq]⟩) FU 0 (σ, 0, -1) (by omega) (by have : FU = 100000 := rfl; omega) ⟨hb, fun j hj hor => by
      rcases hor with z | z
      · exact hq j hj z
      · have : j = 0 := by omega
        subst this
        exact hq 0 hj (fun z => absurd z.1 (by omega)), Or.inl ⟨rfl, fun i hi => absurd hi (by omega)⟩⟩
  refine ⟨s.1, e, hs.1, fun j hj => hs.2.1 j hj (Or.inr hj)⟩
theorem bestCaseC {σ : St} (hM : okM τ) (c : clsR σ τ (nmd τ)) (hq : ∀ j : Nat, j ≤ nL τ → σ.1 57 j = muL τ so j) : fX4_bestCase σ = some (σ, encN (bsL (muL τ so) (nL τ + 1))) := by
  have nl := hM.nl
  unfold fX4_bestCase
  rw [bnd_eq, bnd_eq]
  obtain ⟨x, hx, e⟩ := loopG (S := Int32) (fun n x m => fX4_bestCase_L4 (fun (σ_8 : St) (x1_9 : Int32) (_ : Int32) => some (σ_8, x1_9)) n σ x (nI m)) (nL τ + 1) (fun m x => x = encN (bsL (muL τ so) m)) (fun x => some (σ, x)) (fun n x hp => by
      show fX4_bestCase_L4 _ (n + 1) σ x _ = _
      rw [fX4_bestCase_L4, c.st.2.2, nl.2.2, if_pos (by rw [lt_i, nI_toInt (by omega), nI_toInt (by omega)]; omega)]) (fun n m x hm hp => by
      refine ⟨encN (bsL (muL τ so) (m + 1)), rfl, ?_⟩
      show fX4_bestCase_L4 _ (n + 1) σ x _ = fX4_bestCase_L4 _ n σ (encN (bsL (muL τ so) (m + 1))) _
      rw [fX4_bestCase_L4, c.st.2.2, nl.2.2, if_neg (by rw [lt_i, nI_toInt (by omega), nI_toInt (by omega)]; omega), chk_t (inb_nI (by omega) (by decide)), jp_eq, ix_nI (m := m) (by omega), hq m (by omega), hp]
      by_cases w : muL τ so m = -1
      · rw [if_pos w, bsL_x w]
        dsimp only
        rw [bnd_eq, nI_succ]
        all_goals rfl
      · rw [if_neg w, jp_eq]
        cases eb : bsL (muL τ so) m with
        | none =>
          rw [if_pos (show encN none = -1 from rfl), bsL_0 w eb]
          dsimp only
          rw [bnd_eq, bnd_eq, nI_succ]
          all_goals rfl
        | some j =>
          have jl := bsL_lt _ _ eb
          rw [if_neg (show ¬ encN (some j) = -1 from nI_ne_m1 (by omega)), show encN (some j) = nI j from rfl, chk_t (inb_nI (by omega) (by decide)), chk_t (inb_nI (by omega) (by decide)), ix_nI (m := j) (by omega), hq j (by omega), bsL_k w eb]
          by_cases w2 : muL τ so j ≤ muL τ so m
          · rw [if_pos w2, if_pos w2]
            dsimp only
            rw [bnd_eq, nI_succ]
            all_goals rfl
          · rw [if_neg w2, if_neg w2]
            dsimp only
            rw [bnd_eq, bnd_eq, nI_succ]
            all_goals rfl) FU 0 (-1) (by omega) (by have : FU = 100000 := rfl; omega) rfl
  refine e.trans ?_
  rw [hx]
end BL
theorem p_bestLaw : op_bestLaw Inv := by
  intro σ τ p q h
  have hM := h.okM
  have nl := hM.nl
  have z1 : (1 : Int32).toInt = 1 := by decide
  unfold fX8_bestLawA fX9_bestLaw
  rw [hasSort_eq, isSort_eq hM.hS, cl_some, cl_some]
  by_cases hb : 0 ≤ p.toInt ∧ p.toInt < (τ.1 0 1).toInt
  case neg =>
    rw [if_neg (fun w => hb ((hasSort2 h p).mp w)), if_neg hb, if_pos rfl, if_pos rfl]
    exact ⟨σ, τ, -1, rfl, rfl, h⟩
  rw [if_pos ((hasSort2 h p).mpr hb), if_pos hb, if_neg one0, if_neg one0, isIn_eq, cl_some, z_0, z1]
  by_cases hq : 0 ≤ q.toInt ∧ q.toInt ≤ 1
  case neg =>
    rw [if_neg hq, if_pos rfl]
    by_cases w0 : q < 0
    · rw [if_pos w0]; exact ⟨σ, τ, -1, rfl, rfl, h⟩
    · rw [if_neg w0, if_neg (show ¬ q ≤ 1 by rw [lt_i, z_0] at w0; rw [le_i, z1]; omega)]; exact ⟨σ, τ, -1, rfl, rfl, h⟩
  rw [if_pos hq, if_neg one0, if_neg (show ¬ q < 0 by rw [lt_i, z_0]; omega), if_pos (show q ≤ 1 by rw [le_i, z1]; omega)]
  obtain ⟨e1, e2⟩ := srt_nI hM hb
  clear hb
  generalize p.toInt.toNat = so at e1 e2
  subst e1
  obtain ⟨σ1, a1, a2, a3⟩ := quietC h e2
  obtain ⟨σ2, b1, b2, b3⟩ := shoutsAllC hM h.cls a2 e2 a3
  have bc := bestCaseC (so := so) hM (b2.cls h.cls) b3
  obtain ⟨τ2, c1, c2, c3, c4⟩ := asksM hM e2
  have hI : Inv σ2 τ2 := by
    rw [← Inv_coreM, c2, Inv_coreM]
    refine Inv_rs b2.1 rfl h ⟨b2.2.2.1, ?_, fun z => ?_⟩
    · rw [b2.2.2.2]; constructor <;> decide
    · rw [b2.2.2.2] at z; exact absurd z (by decide)
  rw [a1, cl_some, b1, cl_some, bc, cl_some, bnd_eq, c1, cl_some, c3, c4]
  cases eb : bsL (muL τ so) (nL τ + 1) with
  | none =>
    rw [if_pos (show encN none = -1 from rfl)]
    by_cases q0 : q = 0
    · rw [if_pos q0]; exact ⟨σ2, τ2, -1, rfl, rfl, hI⟩
    · rw [if_neg q0]; exact ⟨σ2, τ2, -1, rfl, rfl, hI⟩
  | some j =>
    have jl := bsL_lt _ _ eb
    rw [if_neg (show ¬ encN (some j) = -1 from nI_ne_m1 (by omega)), show encN (some j) = nI j from rfl]
    by_cases q0 : q = 0
    · rw [if_neg (show ¬ q = 1 from fun z => by rw [q0] at z; exact absurd z (by decide)), if_pos q0]
      cases j with
      | zero => rw [if_pos (show nI 0 = 0 from rfl)]; exact ⟨σ2, τ2, 9, rfl, rfl, hI⟩
      | succ j =>
        rw [if_neg (show ¬ nI (j + 1) = 0 from fun z => by rw [eq_i, z_0, nI_toInt (by omega)] at z; omega), dn1 (by omega)]
        exact ⟨σ2, τ2, nI j, rfl, rfl, hI⟩
    · have q1 : q = 1 := by
        rw [eq_i, z_0] at q0
        rw [eq_i, z1]
        omega
      rw [if_pos q1, if_neg q0, chk_t (inb_nI (by omega) (by decide)), ix_nI (m := j) (by omega), b3 j (by omega)]
      exact ⟨σ2, τ2, _, rfl, rfl, hI⟩
