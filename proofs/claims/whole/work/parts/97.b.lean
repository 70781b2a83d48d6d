/-! both sides ready; part, sold, earns, at, best -/
theorem scI_50 {lo hi : Nat} (h1 : 43 ≤ lo) (h2 : hi ≤ 52) : ∀ c k : Nat, scI c k = false → mk lo hi c k = false := by
  intro c k h
  rw [mk_f]
  intro w
  have : scI c k = true := by
    unfold scI
    rw [Bool.or_eq_true, Bool.or_eq_true]
    refine Or.inl (Or.inr ?_)
    rw [Bool.and_eq_true, Nat.ble_eq, Nat.ble_eq]
    omega
  rw [this] at h
  cases h
/-- class and model stand ready with the parts P -/
def rdSt (σ' τ' τ : St) (dr : Nat → Nat) (P : Nat → Nat → Int) : Prop := clsR σ' τ dr ∧ opnd σ' τ (frc τ) dr ∧ ptC σ' (nB τ) P ∧ core τ' = core τ ∧ drOK τ' dr ∧ ptM τ' P ∧ okR τ P
theorem ready2 {σ τ : St} (h : Inv σ τ) : ∃ (σ' τ' : St) (x : Int32), fX7_settle σ = some (σ', x) ∧ fX9_areReady τ = some (τ', x) ∧ Inv σ' τ' ∧ core τ' = core τ ∧ frm (mk 43 50) (mk 51 52) σ σ' ∧ ((x = 0 ∧ rdy τ (nmd τ) = none) ∨ ∃ (P : Nat → Nat → Int) (a : Option Nat), x = 1 ∧ rdy τ (nmd τ) = some P ∧ rdSt σ' τ' τ (nmd τ) P ∧ scanW τ (nB τ) = some a ∧ σ'.1 43 16 = encN a) := by
  have hM := h.okM
  have hA := h.okA
  obtain ⟨σ', x, a1, a2, a3, a4, a5⟩ := settleC hM hA h.cls
  obtain ⟨τ', y, b1, b2, b3, b4, b5⟩ := readyM hM hA
  have hI : Inv σ' τ' := Inv_fr (fun c k q => a2.1 c k (scI_50 (by omega) (by omega) c k q)) b2 h
  rcases a5 with ⟨e1, e2⟩ | ⟨P, e1, e2, e3, a, e4, e5⟩
  · rcases b5 with ⟨d1, d2⟩ | ⟨Q, d1, d2, d3⟩
    · exact ⟨σ', τ', 0, by rw [a1, e1], by rw [b1, d1], hI, b2, a2, Or.inl ⟨rfl, e2⟩⟩
    · rw [e2] at d2; cases d2
  · rcases b5 with ⟨d1, d2⟩ | ⟨Q, d1, d2, d3⟩
    · rw [e2] at d2; cases d2
    · rw [e2] at d2
      cases d2
      exact ⟨σ', τ', 1, by rw [a1, e1], by rw [b1, d1], hI, b2, a2, Or.inr ⟨P, a, rfl, e2, ⟨a3, a4, e3, b2, b4, d3, rdy_ok hM hA e2⟩, e4, e5⟩⟩
theorem bkr2 {σ τ : St} (h : Inv σ τ) (p : Int32) : (0 ≤ p.toInt ∧ p.toInt < (σ.1 2 0).toInt) ↔ (0 ≤ p.toInt ∧ p.toInt < (τ.1 0 0).toInt) := by rw [h.1.1.1]
theorem bkr_nI {τ : St} (h : okM τ) {p : Int32} (hp : 0 ≤ p.toInt ∧ p.toInt < (τ.1 0 0).toInt) : p = nI p.toInt.toNat ∧ p.toInt.toNat < nB τ := by
  have := h.nb
  exact ⟨nI_mk hp.1, by omega⟩
theorem p_part : op_part Inv := by
  intro σ τ p q h
  have hM := h.okM
  have h4 := hM.n4
  unfold fX8_part fX9_part
  rw [hasBaker_eq, isBaker_eq hM.hB, cl_some, cl_some]
  by_cases hb : 0 ≤ p.toInt ∧ p.toInt < (τ.1 0 0).toInt
  · rw [if_pos ((bkr2 h p).mpr hb), if_pos hb, if_neg one0, if_neg one0, anyStep_eq, isIn_eq, cl_some, cl_some, z_0, z_7]
    by_cases hs : 0 ≤ q.toInt ∧ q.toInt ≤ 7
    · rw [if_pos hs, if_neg one0, if_neg one0]
      obtain ⟨σ', τ', x, a1, a2, a3, a4, a5, a6⟩ := ready2 h
      rw [a1, a2, cl_some, cl_some]
      rcases a6 with ⟨e, _⟩ | ⟨P, a, e, _, ⟨r1, r2, r3, r4, r5, r6, r7⟩, _⟩
      · rw [if_pos e, if_pos e]
        exact ⟨σ', τ', -1, rfl, rfl, a3⟩
      · obtain ⟨e1, e2⟩ := bkr_nI hM hb
        have e3 : q = nI q.toInt.toNat := nI_mk hs.1
        have e4 : q.toInt.toNat < 8 := by omega
        generalize p.toInt.toNat = b at e1 e2
        generalize q.toInt.toNat = k at e3 e4
        subst e1
        subst e3
        rw [if_neg (by rw [e]; exact one0), if_neg (by rw [e]; exact one0), ix8 b (by omega) k e4, ix8' b (by omega) k e4, chk_t (inb_nI (by omega) (by decide)), chk_t (inb_nI (by omega) (by decide)), ix_nI (m := 8 * b + k) (by omega), r3 b e2 k e4]
        have e5 := (r6 b (by rw [fr nB (fun _ => rfl) r4]; exact e2) k e4).1
        rw [e5]
        exact ⟨σ', τ', _, rfl, rfl, a3⟩
    · rw [if_neg hs, if_pos rfl, if_pos rfl]
      exact ⟨σ, τ, -1, rfl, rfl, h⟩
  · rw [if_neg (fun w => hb ((bkr2 h p).mp w)), if_neg hb, if_pos rfl, if_pos rfl]
    exact ⟨σ, τ, -1, rfl, rfl, h⟩
theorem ptC_b {σ : St} {τ : St} {P : Nat → Nat → Int} (hC : ptC σ (nB τ) P) (hR : okR τ P) (b : Nat) : ∀ j : Nat, j < nB τ → j ≠ b → ∀ k : Nat, k < 8 → σ.1 45 (8 * j + k) = Int32.ofInt (P j k) ∧ 0 ≤ P j k ∧ P j k ≤ 100 := fun j hj _ k hk => ⟨hC j hj k hk, hR.b hj hk⟩
/-- surveyed, nothing else changed -/
theorem survR {σ' τ' τ : St} {dr : Nat → Nat} {P : Nat → Nat → Int} (h : okM τ) (hr : rdSt σ' τ' τ dr P) {b : Nat} (hb : b < nB τ) : ∃ σ2, fX7_survey σ' (nI b) = some (σ2, ()) ∧ frm (mk 46 50) (mk 51 52) σ' σ2 ∧ rdSt σ2 τ' τ dr P ∧ svd σ2 τ (shN τ) dr P b := by
  obtain ⟨r1, r2, r3, r4, r5, r6, r7⟩ := hr
  obtain ⟨σ2, a1, a2, a3⟩ := surveyC h r1 (shN τ) r2.2.2 hb (ptC_b r3 r7 b)
  exact ⟨σ2, a1, a2, ⟨clsR_fr (coreC_frm a2 (mk43 (by omega))) r1, opnd_fr (a2.1 43 14 rfl) (a2.1 43 15 rfl) (fun i => a2.1 44 i rfl) r2, fun j hj k hk => by rw [a2.1 45 _ rfl]; exact r3 j hj k hk, r4, r5, r6, r7⟩, a3⟩
theorem ex_by {τ : St} (h : okM τ) {P : Nat → Nat → Int} (hR : okR τ P) (F : (Nat → Nat) → Int) {b : Nat} (hb : b < nB τ) : sumN (nK τ) (fun k => P b k * exO (nK τ) b (nB τ) P (fun r => F (upN r b k))) = ex 8 (nB τ) P F := by
  have h8 := h.k8
  rw [ex_tail (K := nK τ) (m := 8) (by omega) (nB τ) F (fun j hj k h1 h2 => hR.z hj h1 h2), ex_out (nB τ) F hb]
theorem soldByC {σ τ : St} {dr : Nat → Nat} (h : okM τ) (c : clsR σ τ dr) (sh : Prop) [Decidable sh] {P : Nat → Nat → Int} (hC : ptC σ (nB τ) P) (hR : okR τ P) {b : Nat} (hb : b < nB τ) (hv : svd σ τ sh dr P b) : fX7_soldBy σ (nI b) = some (σ, Int64.ofInt (ex 8 (nB τ) P (fun r => soldS τ sh dr b r))) := by
  have h4 := h.n4
  have h8 := h.k8
  unfold fX7_soldBy
  rw [bnd_eq, bnd_eq]
  obtain ⟨x, hx, e⟩ := loopG (S := Int64) (fun n x m => fX7_soldBy_L5 (nI b) (fun (σ_5 : St) (x2_6 : Int64) (_ : Int32) => some (σ_5, x2_6)) n σ x (nI m)) (nK τ) (fun m x => x = Int64.ofInt (sumN m (fun k => P b k * exO (nK τ) b (nB τ) P (fun r => soldS τ sh dr b (upN r b k))))) (fun x => some (σ, x)) (fun n x hp => by
      show fX7_soldBy_L5 _ _ (n + 1) σ x _ = _
      rw [fX7_soldBy_L5, c.nk h, if_pos (by rw [le_i]; omega)]) (fun n m x hm hp => by
      have hin : inb (nI (8 * b + m)) 32 = true := inb_nI (by omega) (by decide)
      have hin8 : inb (nI m) 8 = true := inb_nI (by omega) (by decide)
      have pb := hR.b hb (k := m) (by omega)
      have e1 := (hv m (by omega)).1
      rw [svS_full h sh dr P _ hb hm] at e1
      simp only [genS_1] at e1
      show ∃ x', _ ∧ fX7_soldBy_L5 _ _ (n + 1) σ x _ = _
      rw [fX7_soldBy_L5, c.nk h, if_neg (by rw [le_i, nI_toInt (by omega), nI_toInt (by omega)]; omega), ix8 b (by omega) m (by omega), chk_t hin, chk_t hin8, ix_nI (m := 8 * b + m) (by omega), ix_nI (m := m) (by omega), hC b hb m (by omega), i64_of, i32o (by omega) (by omega), e1, ← Int64.ofInt_mul, hp, ← Int64.ofInt_add]
      exact ⟨_, rfl, by rw [nI_succ]; all_goals rfl⟩) FU 0 0 (by omega) (by have : FU = 100000 := rfl; omega) rfl
  refine e.trans ?_
  rw [hx, ex_by h hR (fun r => soldS τ sh dr b r) hb]
theorem earnedByC {σ τ : St} {dr : Nat → Nat} (h : okM τ) (c : clsR σ τ dr) (sh : Prop) [Decidable sh] {P : Nat → Nat → Int} (hC : ptC σ (nB τ) P) (hR : okR τ P) {b : Nat} (hb : b < nB τ) (hv : svd σ τ sh dr P b) : fX7_earnedBy σ (nI b) = some (σ, Int64.ofInt (ex 8 (nB τ) P (fun r => earnF τ sh dr b r))) := by
  have h4 := h.n4
  have h8 := h.k8
  unfold fX7_earnedBy
  rw [bnd_eq, bnd_eq]
  obtain ⟨x, hx, e⟩ := loopG (S := Int64) (fun n x m => fX7_earnedBy_L5 (nI b) (fun (σ_7 : St) (x2_8 : Int64) (_ : Int32) => some (σ_7, x2_8)) n σ x (nI m)) (nK τ) (fun m x => x = Int64.ofInt (sumN m (fun k => P b k * gnS τ sh dr P b k))) (fun x => some (σ, x)) (fun n x hp => by
      show fX7_earnedBy_L5 _ _ (n + 1) σ x _ = _
      rw [fX7_earnedBy_L5, c.nk h, if_pos (by rw [le_i]; omega)]) (fun n m x hm hp => by
      have hin : inb (nI (8 * b + m)) 32 = true := inb_nI (by omega) (by decide)
      have pb := hR.b hb (k := m) (by omega)
      show ∃ x', _ ∧ fX7_earnedBy_L5 _ _ (n + 1) σ x _ = _
      rw [fX7_earnedBy_L5, c.nk h, if_neg (by rw [le_i, nI_toInt (by omega), nI_toInt (by omega)]; omega), ix8 b (by omega) m (by omega), chk_t hin, gainAtC h c sh hb hv hm, cl_some, ix_nI (m := 8 * b + m) (by omega), hC b hb m (by omega), i64_of, i32o (by omega) (by omega), ← Int64.ofInt_mul, hp, ← Int64.ofInt_add]
      exact ⟨_, rfl, by rw [nI_succ]; all_goals rfl⟩) FU 0 0 (by omega) (by have : FU = 100000 := rfl; omega) rfl
  refine e.trans ?_
  rw [hx]
  have := ex_by h hR (fun r => earnF τ sh dr b r) hb
  rw [← this]
  rfl
theorem rdSt.fr {σ2 σ' τ' τ : St} {dr : Nat → Nat} {P : Nat → Nat → Int} (hr : rdSt σ' τ' τ dr P) {τ2 : St} (hc : core τ2 = core τ') (h18 : ∀ i : Nat, τ2.1 18 i = τ'.1 18 i) (h27 : ∀ i : Nat, τ2.1 27 i = τ'.1 27 i) (hs : clsR σ2 τ dr ∧ opnd σ2 τ (frc τ) dr ∧ ptC σ2 (nB τ) P) : rdSt σ2 τ2 τ dr P := ⟨hs.1, hs.2.1, hs.2.2, hc.trans hr.2.2.2.1, drOK_fr hc h27 hr.2.2.2.2.1, ptM_fr hc h18 hr.2.2.2.2.2.1, hr.2.2.2.2.2.2⟩
theorem Inv_50 {σ σ' τ τ' : St} {lo hi : Nat} {b : Nat → Nat → Bool} (h1 : 43 ≤ lo) (h2 : hi ≤ 52) (hf : frm (mk lo hi) b σ σ') (hM : core τ' = core τ) (h : Inv σ τ) : Inv σ' τ' := Inv_fr (fun c k q => hf.1 c k (scI_50 h1 h2 c k q)) hM h
theorem p_sold : op_sold Inv := by
  intro σ τ p h
  have hM := h.okM
  have h4 := hM.n4
  unfold fX8_sold fX9_sold
  rw [hasBaker_eq, isBaker_eq hM.hB, cl_some, cl_some]
  by_cases hb : 0 ≤ p.toInt ∧ p.toInt < (τ.1 0 0).toInt
  · rw [if_pos ((bkr2 h p).mpr hb), if_pos hb, if_neg one0, if_neg one0]
    obtain ⟨σ', τ', x, a1, a2, a3, a4, a5, a6⟩ := ready2 h
    rw [a1, a2, cl_some, cl_some]
    rcases a6 with ⟨e, _⟩ | ⟨P, a, e, _, hr, _⟩
    · rw [if_pos e, if_pos e]
      exact ⟨σ', τ', -1, rfl, rfl, a3⟩
    · obtain ⟨e1, e2⟩ := bkr_nI hM hb
      generalize p.toInt.toNat = b at e1 e2
      subst e1
      obtain ⟨σ2, b1, b2, b3, b4⟩ := survR hM hr e2
      obtain ⟨τ2, c1, c2, c3⟩ := sellsM (okM_fr a4 hM) hr.2.2.2.2.2.1 hr.2.2.2.2.1
      have hc2 : core τ2 = core τ' := core_frm c2 aRow_sc
      rw [if_neg (by rw [e]; exact one0), if_neg (by rw [e]; exact one0), b1, cl_some, soldByC hM b3.1 (shN τ) b3.2.2.1 b3.2.2.2.2.2.2 e2 b4, cl_some, c1, cl_some, chk_t (inb_nI (by omega) (by decide)), ix_nI (m := b) (by omega), (c3.1 b (by omega)).1]
      have ev : ex 8 (nB τ') P (fun r => soldM τ' (nmd τ) r (nS τ') b) = ex 8 (nB τ) P (fun r => soldS τ (shN τ) (nmd τ) b r) := fr (fun σ => ex 8 (nB σ) P (fun r => soldM σ (nmd τ) r (nS σ) b)) (fun _ => rfl) a4
      dsimp only
      rw [ev]
      exact ⟨σ2, τ2, _, rfl, rfl, Inv_50 (by omega) (by omega) b2 hc2 a3⟩
  · rw [if_neg (fun w => hb ((bkr2 h p).mp w)), if_neg hb, if_pos rfl, if_pos rfl]
    exact ⟨σ, τ, -1, rfl, rfl, h⟩
theorem p_earns : op_earns Inv := by
  intro σ τ p h
  have hM := h.okM
  have h4 := hM.n4
  unfold fX8_earns fX9_earns
  rw [hasBaker_eq, isBaker_eq hM.hB, cl_some, cl_some]
  by_cases hb : 0 ≤ p.toInt ∧ p.toInt < (τ.1 0 0).toInt
  · rw [if_pos ((bkr2 h p).mpr hb), if_pos hb, if_neg one0, if_neg one0]
    obtain ⟨σ', τ', x, a1, a2, a3, a4, a5, a6⟩ := ready2 h
    rw [a1, a2, cl_some, cl_some]
    rcases a6 with ⟨e, _⟩ | ⟨P, a, e, _, hr, _⟩
    · rw [if_pos e, if_pos e]
      exact ⟨σ', τ', _, rfl, rfl, a3⟩
    · obtain ⟨e1, e2⟩ := bkr_nI hM hb
      generalize p.toInt.toNat = b at e1 e2
      subst e1
      obtain ⟨σ2, b1, b2, b3, b4⟩ := survR hM hr e2
      obtain ⟨τ2, c1, c2, c3⟩ := sellsM (okM_fr a4 hM) hr.2.2.2.2.2.1 hr.2.2.2.2.1
      have hc2 : core τ2 = core τ' := core_frm c2 aRow_sc
      rw [if_neg (by rw [e]; exact one0), if_neg (by rw [e]; exact one0), b1, cl_some, earnedByC hM b3.1 (shN τ) b3.2.2.1 b3.2.2.2.2.2.2 e2 b4, cl_some, c1, cl_some, chk_t (inb_nI (by omega) (by decide)), ix_nI (m := b) (by omega), (c3.1 b (by omega)).2]
      have ev : ex 8 (nB τ') P (fun r => earnM τ' (nmd τ) r (nS τ') b) = ex 8 (nB τ) P (fun r => earnF τ (shN τ) (nmd τ) b r) := fr (fun σ => ex 8 (nB σ) P (fun r => earnM σ (nmd τ) r (nS σ) b)) (fun _ => rfl) a4
      dsimp only
      rw [ev]
      exact ⟨σ2, τ2, _, rfl, rfl, Inv_50 (by omega) (by omega) b2 hc2 a3⟩
  · rw [if_neg (fun w => hb ((bkr2 h p).mp w)), if_neg hb, if_pos rfl, if_pos rfl]
    exact ⟨σ, τ, _, rfl, rfl, h⟩
theorem ptM_X {τ : St} {P : Nat → Nat → Int} (h : ptM τ P) (b : Nat) : ptX τ b P := fun j hj _ k hk => h j hj k hk
theorem p_at : op_at Inv := by
  intro σ τ p q h
  have hM := h.okM
  have h4 := hM.n4
  have h8 := hM.k8
  unfold fX8_at fX9_at
  rw [hasBaker_eq, isBaker_eq hM.hB, cl_some, cl_some]
  by_cases hb : 0 ≤ p.toInt ∧ p.toInt < (τ.1 0 0).toInt
  · rw [if_pos ((bkr2 h p).mpr hb), if_pos hb, if_neg one0, if_neg one0, hasStep_eq, isStep_eq hM.hK, cl_some, cl_some, h.1.1.2.2.1]
    by_cases hs : 0 ≤ q.toInt ∧ q.toInt < (τ.1 0 2).toInt
    · rw [if_pos hs, if_neg one0, if_neg one0]
      obtain ⟨σ', τ', x, a1, a2, a3, a4, a5, a6⟩ := ready2 h
      rw [a1, a2, cl_some, cl_some]
      rcases a6 with ⟨e, _⟩ | ⟨P, a, e, _, hr, _⟩
      · rw [if_pos e, if_pos e]
        exact ⟨σ', τ', _, rfl, rfl, a3⟩
      · obtain ⟨e1, e2⟩ := bkr_nI hM hb
        have e3 : q = nI q.toInt.toNat := nI_mk hs.1
        have e4 : q.toInt.toNat < nK τ := by have := hM.nk; omega
        generalize p.toInt.toNat = b at e1 e2
        generalize q.toInt.toNat = k at e3 e4
        subst e1
        subst e3
        have hz : ∀ j : Nat, j < nB τ → j ≠ b → ∀ k : Nat, nK τ ≤ k → k < 8 → P j k = 0 := fun j hj _ k h1 h2 => hr.2.2.2.2.2.2.z hj h1 h2
        obtain ⟨σ2, b1, b2, b3, b4⟩ := survR hM hr e2
        obtain ⟨τ2, c1, c2⟩ := earnsAtM (okM_fr a4 hM) hr.2.2.2.2.1 (b := b) (s := k) (by rw [fr nB (fun _ => rfl) a4]; exact e2) (ptM_X hr.2.2.2.2.2.1 b) (by omega)
        rw [if_neg (by rw [e]; exact one0), if_neg (by rw [e]; exact one0), b1, cl_some]
        unfold fX7_earnedAt
        rw [gainAtC hM b3.1 (shN τ) e2 b4 e4, cl_some, cl_some, c1, cl_some, atE_fr a4, atE_gn hM (nmd τ) e2 (by omega) hz]
        refine ⟨σ2, τ2, _, rfl, ?_, Inv_50 (by omega) (by omega) b2 (core_frm c2 aEarn_sc) a3⟩
        rw [Int64.ofInt_mul]
        rfl
    · rw [if_neg hs, if_pos rfl, if_pos rfl]
      exact ⟨σ, τ, _, rfl, rfl, h⟩
  · rw [if_neg (fun w => hb ((bkr2 h p).mp w)), if_neg hb, if_pos rfl, if_pos rfl]
    exact ⟨σ, τ, _, rfl, rfl, h⟩
theorem rdSt.hz {σ' τ' τ : St} {dr : Nat → Nat} {P : Nat → Nat → Int} (hr : rdSt σ' τ' τ dr P) (b : Nat) : ∀ j : Nat, j < nB τ → j ≠ b → ∀ k : Nat, nK τ ≤ k → k < 8 → P j k = 0 := fun _ hj _ _ h1 h2 => hr.2.2.2.2.2.2.z hj h1 h2
theorem rdSt.hb {σ' τ' τ : St} {dr : Nat → Nat} {P : Nat → Nat → Int} (hr : rdSt σ' τ' τ dr P) (b : Nat) : ∀ j : Nat, j < nB τ → j ≠ b → ∀ k : Nat, k < 8 → 0 ≤ P j k ∧ P j k ≤ 100 := fun _ hj _ _ h2 => hr.2.2.2.2.2.2.b hj h2
/-- the model's best step, in a ready state -/
theorem bestR {σ' τ' τ : St} {dr : Nat → Nat} {P : Nat → Nat → Int} (h : okM τ) (hr : rdSt σ' τ' τ dr P) {b : Nat} (hb : b < nB τ) : ∃ τ2, fX9_bestOf τ' (nI b) = some (τ2, encN (bestN (barN τ) (atE τ dr P b) (nK τ))) ∧ frm aEarn bBest τ' τ2 ∧ rdSt σ' τ2 τ dr P ∧ ∀ j : Nat, bestN (barN τ) (atE τ dr P b) (nK τ) = some j → τ2.2 0 55 = Int64.ofInt (atE τ dr P b j) := by
  have hc := hr.2.2.2.1
  obtain ⟨τ2, a1, a2, a3⟩ := bestOfM (okM_fr hc h) hr.2.2.2.2.1 (b := b) (by rw [fr nB (fun _ => rfl) hc]; exact hb) (ptM_X hr.2.2.2.2.2.1 b)
  have eb : bestN (barN τ') (atE τ' dr P b) (nK τ') = bestN (barN τ) (atE τ dr P b) (nK τ) := fr (fun σ => bestN (barN σ) (atE σ dr P b) (nK σ)) (fun _ => rfl) hc
  rw [eb] at a1 a3
  refine ⟨τ2, a1, a2, hr.fr (core_frm a2 aEarn_sc) (fun i => a2.1 18 i rfl) (fun i => a2.1 27 i rfl) ⟨hr.1, hr.2.1, hr.2.2.1⟩, fun j hj => ?_⟩
  rw [a3 j hj, atE_fr hc]
theorem p_best : op_best Inv := by
  intro σ τ p h
  have hM := h.okM
  have h4 := hM.n4
  unfold fX8_best fX9_best
  rw [hasBaker_eq, isBaker_eq hM.hB, cl_some, cl_some]
  by_cases hb : 0 ≤ p.toInt ∧ p.toInt < (τ.1 0 0).toInt
  · rw [if_pos ((bkr2 h p).mpr hb), if_pos hb, if_neg one0, if_neg one0]
    obtain ⟨σ', τ', x, a1, a2, a3, a4, a5, a6⟩ := ready2 h
    rw [a1, a2, cl_some, cl_some]
    rcases a6 with ⟨e, _⟩ | ⟨P, a, e, _, hr, _⟩
    · rw [if_pos e, if_pos e]
      exact ⟨σ', τ', _, rfl, rfl, a3⟩
    · obtain ⟨e1, e2⟩ := bkr_nI hM hb
      generalize p.toInt.toNat = b at e1 e2
      subst e1
      obtain ⟨σ2, b1, b2, b3, b4⟩ := survR hM hr e2
      obtain ⟨τ2, c1, c2, _, _⟩ := bestR hM hr e2
      have hs := bestStepC hM b3.1 b3.2.1 e2 (b3.hb b) b4
      rw [if_neg (by rw [e]; exact one0), if_neg (by rw [e]; exact one0), b1, cl_some, hs, cl_some, c1, cl_some, best_gn hM (nmd τ) e2 (hr.hz b)]
      exact ⟨σ2, τ2, _, rfl, rfl, Inv_50 (by omega) (by omega) b2 (core_frm c2 aEarn_sc) a3⟩
  · rw [if_neg (fun w => hb ((bkr2 h p).mp w)), if_neg hb, if_pos rfl, if_pos rfl]
    exact ⟨σ, τ, _, rfl, rfl, h⟩
