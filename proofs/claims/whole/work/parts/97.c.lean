/-! judge -/
/-- what baker b earns by its ask -/
def eaR (τ : St) (dr : Nat → Nat) (P : Nat → Nat → Int) (b : Nat) : Int := ex 8 (nB τ) P (fun r => earnF τ (shN τ) dr b r)
/-- the best step, if baker b earns more by it than by its ask -/
def btr (τ : St) (dr : Nat → Nat) (P : Nat → Nat → Int) (b : Nat) : Option Nat := match bestN (barN τ) (atE τ dr P b) (nK τ) with
  | none => none
  | some k => if eaR τ dr P b < atE τ dr P b k then some k else none
theorem btr_none {τ : St} {dr : Nat → Nat} {P : Nat → Nat → Int} {b : Nat} (h : bestN (barN τ) (atE τ dr P b) (nK τ) = none) : btr τ dr P b = none := by unfold btr; rw [h]
theorem btr_some {τ : St} {dr : Nat → Nat} {P : Nat → Nat → Int} {b k : Nat} (h : bestN (barN τ) (atE τ dr P b) (nK τ) = some k) : btr τ dr P b = if eaR τ dr P b < atE τ dr P b k then some k else none := by unfold btr; rw [h]
theorem btr_best {τ : St} {dr : Nat → Nat} {P : Nat → Nat → Int} {b k : Nat} (h : btr τ dr P b = some k) : bestN (barN τ) (atE τ dr P b) (nK τ) = some k := by
  cases e : bestN (barN τ) (atE τ dr P b) (nK τ) with
  | none => rw [btr_none e] at h; cases h
  | some q =>
    rw [btr_some e] at h
    by_cases w : eaR τ dr P b < atE τ dr P b q
    · rw [if_pos w] at h; exact h
    · rw [if_neg w] at h; cases h
theorem eaR_b {τ : St} (h : okM τ) {P : Nat → Nat → Int} (hR : okR τ P) (dr : Nat → Nat) {b : Nat} (hb : b < nB τ) : -6842880000000000 ≤ eaR τ dr P b ∧ eaR τ dr P b ≤ 6842880000000000 := by
  have h4 := h.n4
  have a := ex_abs (K := 8) (P := P) (c := 100) (B := 68428800) (by omega) (by omega) (by omega) (nB τ) (fun r => earnF τ (shN τ) dr b r) (fun j hj => ⟨fun k hk => (hR.b hj hk).1, Int.le_of_eq (hR.2 j hj).2⟩) (fun r hr => earnF_b h (shN τ) dr hb hr)
  have hp : (100 : Int) ^ nB τ ≤ 100000000 := by
    have : nB τ = 0 ∨ nB τ = 1 ∨ nB τ = 2 ∨ nB τ = 3 ∨ nB τ = 4 := by omega
    rcases this with e | e | e | e | e <;> rw [e] <;> decide
  have hq : (100 : Int) ^ nB τ * 68428800 ≤ 100000000 * 68428800 := Int.mul_le_mul_of_nonneg_right hp (by omega)
  unfold eaR
  omega
theorem betterR {σ' τ' τ : St} {dr : Nat → Nat} {P : Nat → Nat → Int} (h : okM τ) (hr : rdSt σ' τ' τ dr P) {b : Nat} (hb : b < nB τ) : ∃ σ2, fX7_betterStep σ' (nI b) = some (σ2, encN (btr τ dr P b)) ∧ frm (mk 46 50) (mk 51 52) σ' σ2 ∧ rdSt σ2 τ' τ dr P := by
  have h8 := h.k8
  unfold fX7_betterStep
  obtain ⟨σ2, b1, b2, b3, b4⟩ := survR h hr hb
  have hs := bestStepC h b3.1 b3.2.1 hb (b3.hb b) b4
  rw [b1, cl_some, hs, cl_some, bnd_eq, ← best_gn h dr hb (hr.hz b)]
  refine ⟨σ2, ?_, b2, b3⟩
  cases e : bestN (barN τ) (atE τ dr P b) (nK τ) with
  | none => rw [if_pos (show encN none = -1 from rfl), btr_none e]; rfl
  | some k =>
    have hk := (bestN_lt _ _ e).1
    unfold fX7_earnedAt
    rw [if_neg (show ¬ encN (some k) = -1 from nI_ne_m1 (by omega)), show encN (some k) = nI k from rfl, gainAtC h b3.1 (shN τ) hb b4 hk, cl_some, cl_some, earnedByC h b3.1 (shN τ) b3.2.2.1 b3.2.2.2.2.2.2 hb b4, cl_some, btr_some e]
    have e1 : (100 : Int64) * Int64.ofInt (gnS τ (shN τ) dr P b k) = Int64.ofInt (atE τ dr P b k) := by
      rw [atE_gn h dr hb (by omega) (hr.hz b), Int64.ofInt_mul]
      rfl
    have bb1 := atE_b h dr (P := P) hb (hr.hb b) (s := k) (by omega)
    have bb2 := eaR_b h hr.2.2.2.2.2.2 dr hb
    have cmp : (lg_cmp (Int64.ofInt (atE τ dr P b k)) (Int64.ofInt (eaR τ dr P b)) ≤ 0) ↔ ¬ eaR τ dr P b < atE τ dr P b k := by
      rw [lg_cmp_le, Int64.le_iff_toInt_le, i64o (by omega) (by omega), i64o (by omega) (by omega)]
      omega
    rw [e1]
    show (if lg_cmp (Int64.ofInt (atE τ dr P b k)) (Int64.ofInt (eaR τ dr P b)) ≤ 0 then some (σ2, (-1 : Int32)) else some (σ2, nI k)) = _
    by_cases w : eaR τ dr P b < atE τ dr P b k
    · rw [if_neg (fun q => cmp.mp q w), if_pos w]; rfl
    · rw [if_pos (cmp.mpr w), if_neg w]; rfl
theorem aEarn_row : ∀ c k : Nat, aEarn c k = false → aRow c k = false := fun _ _ h => (bf h).1
theorem ratherR {σ' τ' τ : St} {dr : Nat → Nat} {P : Nat → Nat → Int} (h : okM τ) (hr : rdSt σ' τ' τ dr P) {b : Nat} (hb : b < nB τ) : ∃ τ2, fX9_wouldRather τ' (nI b) = some (τ2, if btr τ dr P b = none then 0 else 1) ∧ frm aEarn bBest τ' τ2 ∧ rdSt σ' τ2 τ dr P := by
  have h4 := h.n4
  have h8 := h.k8
  have hc := hr.2.2.2.1
  unfold fX9_wouldRather
  obtain ⟨τ1, c1, c2, c3⟩ := sellsM (okM_fr hc h) hr.2.2.2.2.2.1 hr.2.2.2.2.1
  have hr1 : rdSt σ' τ1 τ dr P := hr.fr (core_frm c2 aRow_sc) (fun i => c2.1 18 i rfl) (fun i => c2.1 27 i rfl) ⟨hr.1, hr.2.1, hr.2.2.1⟩
  obtain ⟨τ2, d1, d2, d3, d4⟩ := bestR h hr1 hb
  have ev : ex 8 (nB τ') P (fun r => earnM τ' dr r (nS τ') b) = eaR τ dr P b := fr (fun σ => ex 8 (nB σ) P (fun r => earnM σ dr r (nS σ) b)) (fun _ => rfl) hc
  have e23 : τ1.2 23 b = Int64.ofInt (eaR τ dr P b) := by rw [← ev]; exact (c3.1 b (by omega)).2
  refine ⟨τ2, ?_, frm_trans (frm_mono aEarn_row bBest_row c2) d2, d3⟩
  rw [c1, cl_some, chk_t (inb_nI (by omega) (by decide)), ix_nI (m := b) (by omega), e23, bnd_eq, d1, cl_some]
  cases e : bestN (barN τ) (atE τ dr P b) (nK τ) with
  | none => rw [if_pos (show encN none = -1 from rfl), btr_none e, if_pos rfl]
  | some k =>
    have hk := (bestN_lt _ _ e).1
    have bb1 := atE_b h dr (P := P) hb (hr.hb b) (s := k) (by omega)
    have bb2 := eaR_b h hr.2.2.2.2.2.2 dr hb
    have cmp : (lg_cmp (Int64.ofInt (atE τ dr P b k)) (Int64.ofInt (eaR τ dr P b)) ≤ 0) ↔ ¬ eaR τ dr P b < atE τ dr P b k := by
      rw [lg_cmp_le, Int64.le_iff_toInt_le, i64o (by omega) (by omega), i64o (by omega) (by omega)]
      omega
    rw [if_neg (show ¬ encN (some k) = -1 from nI_ne_m1 (by omega)), d4 k e, btr_some e]
    by_cases w : eaR τ dr P b < atE τ dr P b k
    · rw [if_neg (fun q => cmp.mp q w), if_pos w, if_neg (by intro q; cases q)]
    · rw [if_pos (cmp.mpr w), if_neg w, if_pos rfl]
/-- the first of the first n bakers that would rather ask otherwise -/
def fstB (τ : St) (dr : Nat → Nat) (P : Nat → Nat → Int) : Nat → Option (Nat × Nat)
  | 0 => none
  | n + 1 => match fstB τ dr P n with
    | some x => some x
    | none => match btr τ dr P n with
      | none => none
      | some k => some (n, k)
theorem fstB_some {τ : St} {dr : Nat → Nat} {P : Nat → Nat → Int} {x : Nat × Nat} : ∀ m n : Nat, m ≤ n → fstB τ dr P m = some x → fstB τ dr P n = some x := by
  intro m n
  induction n with
  | zero => intro h1 h2; have : m = 0 := by omega
            subst this; exact h2
  | succ n ih =>
    intro h1 h2
    by_cases e : m = n + 1
    · subst e; exact h2
    · rw [fstB, ih (by omega) h2]
theorem fstB_no {τ : St} {dr : Nat → Nat} {P : Nat → Nat → Int} {n : Nat} (h : fstB τ dr P n = none) (e : btr τ dr P n = none) : fstB τ dr P (n + 1) = none := by rw [fstB, h, e]
theorem fstB_yes {τ : St} {dr : Nat → Nat} {P : Nat → Nat → Int} {n k : Nat} (h : fstB τ dr P n = none) (e : btr τ dr P n = some k) : fstB τ dr P (n + 1) = some (n, k) := by rw [fstB, h, e]
def jdA (o : Option (Nat × Nat)) : Int32 := match o with
  | none => -1
  | some (b, k) => (10 : Int32) * nI b + nI k
theorem p_judge : op_judge Inv := by
  intro σ τ h
  have hM := h.okM
  have h4 := hM.n4
  have h8 := hM.k8
  unfold fX8_judge fX9_judge
  obtain ⟨σ', τ', x, a1, a2, a3, a4, a5, a6⟩ := ready2 h
  rw [a1, a2, cl_some, cl_some]
  rcases a6 with ⟨e, _⟩ | ⟨P, a, e, _, hr, _⟩
  · rw [if_pos e, if_pos e]
    exact ⟨σ', τ', -2, rfl, rfl, a3⟩
  · rw [if_neg (by rw [e]; exact one0), if_neg (by rw [e]; exact one0), bnd_eq, bnd_eq]
    have k1 := loopX (S := St) (fun n s m => fX8_judge_L15 (fun (σ_8 : St) (_ : Int32) => some (σ_8, (-1 : Int32))) n s (nI m)) (nB τ) (fun m s => frm (mk 46 50) (mk 51 52) σ' s ∧ rdSt s τ' τ (nmd τ) P ∧ fstB τ (nmd τ) P m = none) (fun s => some (s, -1)) (fun res => ∃ s : St, res = some (s, jdA (fstB τ (nmd τ) P (nB τ))) ∧ frm (mk 46 50) (mk 51 52) σ' s) (fun n s hp => by
        show fX8_judge_L15 _ (n + 1) s _ = _
        rw [fX8_judge_L15, hp.2.1.1.nb hM, if_pos (by rw [le_i]; omega)]) (fun n m s hm hp => by
        obtain ⟨p1, p2, p3⟩ := hp
        obtain ⟨s2, b1, b2, b3⟩ := betterR hM p2 hm
        show (∃ s' : St, _ ∧ fX8_judge_L15 _ (n + 1) s _ = _) ∨ (∃ s' : St, fX8_judge_L15 _ (n + 1) s _ = _ ∧ _)
        rw [fX8_judge_L15, p2.1.nb hM, if_neg (by rw [le_i, nI_toInt (by omega), nI_toInt (by omega)]; omega), b1, cl_some, bnd_eq]
        cases eb : btr τ (nmd τ) P m with
        | none =>
          rw [if_pos (show encN none = -1 from rfl)]
          exact Or.inl ⟨s2, ⟨frm_trans p1 b2, b3, fstB_no p3 eb⟩, by rw [nI_succ]; all_goals rfl⟩
        | some k =>
          have hk := (bestN_lt _ _ (btr_best eb)).1
          rw [if_neg (show ¬ encN (some k) = -1 from nI_ne_m1 (by omega))]
          refine Or.inr ⟨s2, ?_, frm_trans p1 b2⟩
          rw [fstB_some (m + 1) (nB τ) (by omega) (fstB_yes p3 eb)]
          rfl) FU 0 σ' (by omega) (by have : FU = 100000 := rfl; omega) ⟨frm_refl _ _ _, hr, rfl⟩
    have k2 := loopX (S := St) (fun n s m => fX9_judge_L12 (fun (σ_9 : St) (_ : Int32) => some (σ_9, (-1 : Int32))) n s (nI m)) (nB τ) (fun m s => frm aEarn bBest τ' s ∧ rdSt σ' s τ (nmd τ) P ∧ fstB τ (nmd τ) P m = none) (fun s => some (s, -1)) (fun res => ∃ s : St, res = some (s, jdA (fstB τ (nmd τ) P (nB τ))) ∧ frm aEarn bBest τ' s) (fun n s hp => by
        have en : s.1 0 0 = τ.1 0 0 := fr (fun σ => σ.1 0 0) (fun _ => rfl) hp.2.1.2.2.2.1
        show fX9_judge_L12 _ (n + 1) s _ = _
        rw [fX9_judge_L12, en, if_pos (by rw [le_i, hM.nb, nI_toInt (by omega)]; omega)]) (fun n m s hm hp => by
        obtain ⟨p1, p2, p3⟩ := hp
        have en : s.1 0 0 = τ.1 0 0 := fr (fun σ => σ.1 0 0) (fun _ => rfl) p2.2.2.2.1
        obtain ⟨s2, b1, b2, b3⟩ := ratherR hM p2 hm
        show (∃ s' : St, _ ∧ fX9_judge_L12 _ (n + 1) s _ = _) ∨ (∃ s' : St, fX9_judge_L12 _ (n + 1) s _ = _ ∧ _)
        rw [fX9_judge_L12, en, if_neg (by rw [le_i, hM.nb, nI_toInt (by omega)]; omega), b1, cl_some]
        cases eb : btr τ (nmd τ) P m with
        | none =>
          rw [if_pos rfl, if_pos rfl]
          exact Or.inl ⟨s2, ⟨frm_trans p1 b2, b3, fstB_no p3 eb⟩, by rw [nI_succ]; all_goals rfl⟩
        | some k =>
          obtain ⟨s3, d1, d2, _, _⟩ := bestR hM b3 hm
          rw [btr_best eb] at d1
          rw [if_neg (by intro q; cases q), d1, cl_some]
          refine Or.inr ⟨s3, ?_, frm_trans p1 (frm_trans b2 d2)⟩
          rw [fstB_some (m + 1) (nB τ) (by omega) (fstB_yes p3 eb)]
          rfl) FU 0 τ' (by omega) (by have : FU = 100000 := rfl; omega) ⟨frm_refl _ _ _, hr, rfl⟩
    have k1' : ∃ s : St, fX8_judge_L15 (fun (σ_8 : St) (_ : Int32) => some (σ_8, (-1 : Int32))) FU σ' 0 = some (s, jdA (fstB τ (nmd τ) P (nB τ))) ∧ frm (mk 46 50) (mk 51 52) σ' s := by
      rcases k1 with ⟨s, hs, e⟩ | q
      · refine ⟨s, e.trans ?_, hs.1⟩
        rw [hs.2.2]
        rfl
      · exact q
    have k2' : ∃ s : St, fX9_judge_L12 (fun (σ_9 : St) (_ : Int32) => some (σ_9, (-1 : Int32))) FU τ' 0 = some (s, jdA (fstB τ (nmd τ) P (nB τ))) ∧ frm aEarn bBest τ' s := by
      rcases k2 with ⟨s, hs, e⟩ | q
      · refine ⟨s, e.trans ?_, hs.1⟩
        rw [hs.2.2]
        rfl
      · exact q
    obtain ⟨s1, q1, q2⟩ := k1'
    obtain ⟨s2, q3, q4⟩ := k2'
    exact ⟨s1, s2, _, q1, q3, Inv_50 (by omega) (by omega) q2 (core_frm q4 aEarn_sc) a3⟩
