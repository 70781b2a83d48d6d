/-! run, the mornings -/
theorem loopK {S β κ : Type} (g : κ → Nat → S → Nat → β) (fin : κ → S → β) (N : Nat) (P : Nat → S → Prop) (hstop : ∀ k n s, P N s → g k (n + 1) s N = fin k s) (hstep : ∀ n m s, m < N → P m s → ∃ s', P (m + 1) s' ∧ ∀ k, g k (n + 1) s m = g k n s' (m + 1)) : ∀ (n m : Nat) (s : S), m ≤ N → N < m + n → P m s → ∃ s', P N s' ∧ ∀ k, g k n s m = fin k s' := by
  intro n
  induction n with
  | zero => intro m s h1 h2; exact absurd h2 (by omega)
  | succ n ih =>
    intro m s h1 h2 hp
    by_cases h : m = N
    · subst h
      exact ⟨s, hp, fun k => hstop k n s hp⟩
    · obtain ⟨s', hp', e⟩ := hstep n m s (by omega) hp
      obtain ⟨s2, hp2, e2⟩ := ih (m + 1) s' (by omega) (by omega) hp'
      exact ⟨s2, hp2, fun k => (e k).trans (e2 k)⟩
def zM (n : Nat) (z : Int64) : Nat → Int64
  | 0 => z
  | m + 1 => zN (zM n z m) n
theorem mornInC {σ τ : St} {dr : Nat → Nat} (h : okM τ) (c : clsR σ τ dr) {P : Nat → Nat → Int} (hC : ptC σ (nB τ) P) (hW : okW τ P) (z : Int64) (q2 q3 : Int32) (q6 : Int64) (q8 : Int32) : ∃ σ', (∀ k : St → Int64 → Int32 → Option (St × Int64), fX7_mornings_L19 q2 q3 q6 q8 k FU σ z 0 = k σ' (zN z (nB τ)) (nI (nB τ))) ∧ frm (mk 46 46) noL σ σ' ∧ rowC σ' (nB τ) (rowZ τ P z) := by
  have h4 := h.n4
  obtain ⟨s', hp, e⟩ := loopK (S := St × Int64) (fun (k : St → Int64 → Int32 → Option (St × Int64)) n s m => fX7_mornings_L19 q2 q3 q6 q8 k n s.1 s.2 (nI m)) (fun k s => k s.1 s.2 (nI (nB τ))) (nB τ) (fun m s => frm (mk 46 46) noL σ s.1 ∧ s.2 = zN z m ∧ ∀ j : Nat, j < m → s.1.1 46 j = nI (rowZ τ P z j)) (fun k n s hp => by
      have c1 := clsR_fr (coreC_frm hp.1 (mk43 (by omega))) c
      show fX7_mornings_L19 _ _ _ _ _ (n + 1) s.1 s.2 _ = _
      rw [fX7_mornings_L19, c1.nb h, if_pos (by rw [le_i]; omega)]) (fun n m s hm hp => by
      have c1 := clsR_fr (coreC_frm hp.1 (mk43 (by omega))) c
      have hC1 : ptC s.1 (nB τ) P := fun j hj k hk => by rw [hp.1.1 45 _ rfl]; exact hC j hj k hk
      have er : rowZ τ P z m = dw τ P m (vOf (zN z m * 6364136223846793005 + 1442695040888963407)) := by unfold rowZ; rw [if_pos hm]; rfl
      refine ⟨(sI s.1 46 m (nI (rowZ τ P z m)), zN z (m + 1)), ⟨frm_trans hp.1 (frm_sI _ _ rfl), rfl, fun j hj => ?_⟩, fun k => ?_⟩
      · show (sI s.1 46 m (nI (rowZ τ P z m))).1 46 j = _
        rw [sI_at]
        by_cases e : j = m
        · subst e; rw [if_pos rfl]
        · rw [if_neg e]; exact hp.2.2 j (by omega)
      · show fX7_mornings_L19 _ _ _ _ _ (n + 1) s.1 s.2 _ = fX7_mornings_L19 _ _ _ _ _ n (sI s.1 46 m (nI (rowZ τ P z m))) (zN z m * 6364136223846793005 + 1442695040888963407) _
        rw [fX7_mornings_L19, c1.nb h, if_neg (by rw [le_i, nI_toInt (by omega), nI_toInt (by omega)]; omega), hp.2.1, bnd_eq, chk_t (by decide), vOf_eq, drawnC h c1 hC1 hW hm (vOf_lt _), cl_some, chk_t (inb_nI (by omega) (by decide)), ix_nI (m := m) (by omega), bnd_eq, bnd_eq, er, nI_succ]
        all_goals rfl) FU 0 (σ, z) (by omega) (by have : FU = 100000 := rfl; omega) ⟨frm_refl _ _ _, rfl, fun j hj => absurd hj (by omega)⟩
  obtain ⟨p1, p2, p3⟩ := hp
  exact ⟨s'.1, fun k => (e k).trans (by rw [p2]), p1, p3⟩
theorem morningC {σ τ : St} {dr : Nat → Nat} (h : okM τ) (c : clsR σ τ dr) (hsh : σ.1 43 14 = if shN τ then 1 else 0) {r : Nat → Nat} (hr8 : ∀ j : Nat, r j < 8) (hw : rowC σ (nB τ) r) (hrd : ∀ set : Nat, set < 2 ^ nB τ → rdS σ (nB τ) r set) {p : Int32} (hp : okWh τ p.toInt) : fX7_morningOf σ p = some (σ, Int64.ofInt (mrn τ dr p.toInt r)) := by
  have h4 := h.n4
  have h12 := h.n12
  have h16 := h.p16
  have z10 : (10 : Int32).toInt = 10 := by decide
  have z20 : (20 : Int32).toInt = 20 := by decide
  have z30 : (30 : Int32).toInt = 30 := by decide
  have b0 : 10 ≤ p.toInt ∧ p.toInt < 100 := by unfold okWh at hp; omega
  have e10 : (p - 10).toInt = p.toInt - 10 := by rw [i32_sub (by rw [z10]; omega) (by rw [z10]; omega), z10]
  have e20 : (p - 20).toInt = p.toInt - 20 := by rw [i32_sub (by rw [z20]; omega) (by rw [z20]; omega), z20]
  have e30 : (p - 30).toInt = p.toInt - 30 := by rw [i32_sub (by rw [z30]; omega) (by rw [z30]; omega), z30]
  have nb : (σ.1 2 0).toInt = (nB τ : Int) := by rw [c.nb h, nI_toInt (by omega)]
  have nss : (σ.1 2 1).toInt = (nS τ : Int) := by rw [c.ns h, nI_toInt (by omega)]
  unfold fX7_morningOf
  rw [hasBaker_eq, cl_some, nb, e10]
  unfold okWh at hp
  rcases hp with w | w | w
  · have ep : p - 10 = nI (p.toInt - 10).toNat := by rw [← e10]; exact nI_mk (by omega)
    obtain ⟨q1, cc, q2, q3, q4⟩ := hrd (fullN τ) h.full
    have fl := h.full
    rw [if_pos (show 0 ≤ p.toInt - 10 ∧ p.toInt - 10 < (nB τ : Int) by omega), if_neg one0, everyoneC h c, cl_some, chk_t (inb_nI (by omega) (by decide)), ix_nI (m := fullN τ) (by omega), q2, ep]
    have hj : (p.toInt - 10).toNat < nB τ := by omega
    unfold mrn
    rw [if_pos (show p.toInt < 20 by omega)]
    generalize (p.toInt - 10).toNat = j at hj
    have fb : (fullN τ).testBit j = true := full_bit (nB τ) (by omega) j hj
    by_cases t : cc.testBit j = true
    · rw [(bit_eq cc q3 j (by omega)).mpr t, if_pos ((q4 j (by omega)).mp t).2]; rfl
    · rw [(bit0 cc q3 j (by omega)).mpr t, if_neg (fun e => t ((q4 j (by omega)).mpr ⟨fb, e⟩))]; rfl
  · have ep : p - 20 = nI (p.toInt - 20).toNat := by rw [← e20]; exact nI_mk (by omega)
    have hj : (p.toInt - 20).toNat < nB τ := by omega
    rw [if_neg (show ¬ (0 ≤ p.toInt - 10 ∧ p.toInt - 10 < (nB τ : Int)) by omega), if_pos rfl, hasBaker_eq, cl_some, nb, e20, if_pos (show 0 ≤ p.toInt - 20 ∧ p.toInt - 20 < (nB τ : Int) by omega), if_neg one0, ep]
    unfold mrn
    rw [if_neg (show ¬ p.toInt < 20 by omega), if_pos (show p.toInt < 30 by omega)]
    generalize (p.toInt - 20).toNat = j at hj
    have pb := prc_b h (l := r j) (by have := hr8 j; omega)
    rw [chk_t (inb_nI (by omega) (by decide)), ix_nI (m := j) (by omega), hw j hj, priceC h c (by have := hr8 j; omega), cl_some, i64_of, i32o (by omega) (by omega)]
  · have ep : p - 30 = nI (p.toInt - 30).toNat := by rw [← e30]; exact nI_mk (by omega)
    have hj : (p.toInt - 30).toNat < nS τ := by omega
    rw [if_neg (show ¬ (0 ≤ p.toInt - 10 ∧ p.toInt - 10 < (nB τ : Int)) by omega), if_pos rfl, hasBaker_eq, cl_some, nb, e20, if_neg (show ¬ (0 ≤ p.toInt - 20 ∧ p.toInt - 20 < (nB τ : Int)) by omega), if_pos rfl, hasSort_eq, cl_some, nss, e30, if_pos (show 0 ≤ p.toInt - 30 ∧ p.toInt - 30 < (nS τ : Int) by omega), if_neg one0, ep]
    unfold mrn
    rw [if_neg (show ¬ p.toInt < 20 by omega), if_neg (show ¬ p.toInt < 30 by omega)]
    rw [paidRowC h c hsh hr8 hrd hj, cl_some]
theorem rowZ_8 {τ : St} (h : okM τ) {P : Nat → Nat → Int} (hW : okW τ P) (z : Int64) (j : Nat) : rowZ τ P z j < 8 := by
  have := rowZ_lt h hW z j
  have := h.k8
  omega
theorem morningsC {σ τ : St} {dr : Nat → Nat} (h : okM τ) (c : clsR σ τ dr) (hsh : σ.1 43 14 = if shN τ then 1 else 0) {P : Nat → Nat → Int} (hC : ptC σ (nB τ) P) (hW : okW τ P) {p1 : Int32} {N : Nat} (hN : N ≤ 400) {p : Int32} (hp : okWh τ p.toInt) : ∃ σ', fX7_mornings σ p1 (nI N) p = some (σ', Int64.ofInt (sumN N (fun i => mrn τ dr p.toInt (rowZ τ P (zM (nB τ) p1.toInt64 i))))) ∧ frm (mk 46 48) noL σ σ' := by
  unfold fX7_mornings
  rw [bnd_eq, bnd_eq, bnd_eq]
  obtain ⟨s', hp', e⟩ := loopK (S := St × Int64 × Int64) (fun (k : St → Int64 → Int64 → Int32 → Option (St × Int64)) n s m => fX7_mornings_L10 (nI N) p k n s.1 s.2.1 s.2.2 (nI m)) (fun k s => k s.1 s.2.1 s.2.2 (nI N)) N (fun m s => frm (mk 46 48) noL σ s.1 ∧ s.2.1 = zM (nB τ) p1.toInt64 m ∧ s.2.2 = Int64.ofInt (sumN m (fun i => mrn τ dr p.toInt (rowZ τ P (zM (nB τ) p1.toInt64 i))))) (fun k n s hp => by
      show fX7_mornings_L10 _ _ _ (n + 1) s.1 s.2.1 s.2.2 _ = _
      rw [fX7_mornings_L10, if_pos (by rw [le_i]; omega)]) (fun n m s hm hs => by
      have c1 := clsR_fr (coreC_frm hs.1 (mk43 (by omega))) c
      have hC1 : ptC s.1 (nB τ) P := fun j hj k hk => by rw [hs.1.1 45 _ rfl]; exact hC j hj k hk
      obtain ⟨σ1, a1, a2, a3⟩ := mornInC h c1 hC1 hW (zM (nB τ) p1.toInt64 m) (nI N) p s.2.2 (nI m)
      have c2 := clsR_fr (coreC_frm a2 (mk43 (by omega))) c1
      have r8 := rowZ_8 h hW (zM (nB τ) p1.toInt64 m)
      obtain ⟨σ2, b1, b2, b3⟩ := readRowC h c2 r8 a3
      have c3 := clsR_fr (coreC_frm b2 (mk43 (by omega))) c2
      have hw2 : rowC σ2 (nB τ) (rowZ τ P (zM (nB τ) p1.toInt64 m)) := fun j hj => by rw [b2.1 46 _ rfl]; exact a3 j hj
      have hsh2 : σ2.1 43 14 = if shN τ then 1 else 0 := by rw [b2.1 43 14 rfl, a2.1 43 14 rfl, hs.1.1 43 14 rfl]; exact hsh
      have mo := morningC h c3 hsh2 r8 hw2 b3 hp
      refine ⟨(σ2, zM (nB τ) p1.toInt64 (m + 1), s.2.2 + Int64.ofInt (mrn τ dr p.toInt (rowZ τ P (zM (nB τ) p1.toInt64 m)))), ⟨frm_trans hs.1 (frm_trans (frm_mono (mk_mono (by omega) (by omega)) noL_any a2) (frm_mono (mk_mono (by omega) (by omega)) noL_any b2)), rfl, ?_⟩, fun k => ?_⟩
      · show s.2.2 + _ = _
        rw [hs.2.2, ← Int64.ofInt_add]
        rfl
      · show fX7_mornings_L10 _ _ _ (n + 1) s.1 s.2.1 s.2.2 _ = fX7_mornings_L10 _ _ _ n σ2 (zN (zM (nB τ) p1.toInt64 m) (nB τ)) (s.2.2 + Int64.ofInt (mrn τ dr p.toInt (rowZ τ P (zM (nB τ) p1.toInt64 m)))) _
        rw [fX7_mornings_L10, if_neg (by rw [le_i, nI_toInt (by omega), nI_toInt (by omega)]; omega), bnd_eq, hs.2.1, a1, b1, cl_some, mo, cl_some, bnd_eq, bnd_eq, nI_succ]
        all_goals rfl) FU 0 (σ, p1.toInt64, 0) (by omega) (by have : FU = 100000 := rfl; omega) ⟨frm_refl _ _ _, rfl, rfl⟩
  exact ⟨s'.1, (e _).trans (by rw [hp'.2.2]), hp'.1⟩
def b67 (c k : Nat) : Bool := Nat.beq c 0 && Nat.beq k 67
theorem runInM {τ2 τ : St} (h : okM τ) {P : Nat → Nat → Int} (hP : ptM τ2 P) (hc : core τ2 = core τ) (hW : okW τ P) {z : Int64} (hz : τ2.2 0 67 = z) (q2 q3 : Int32) (q5 : Int64) (q7 : Int32) : ∃ τ3, (∀ k : St → Int32 → Option (St × Int64), fX9_run_L123 q2 q3 q5 q7 k FU τ2 0 = k τ3 (nI (nB τ))) ∧ frm aRow b67 τ2 τ3 ∧ rowOK τ3 (rowZ τ P z) ∧ τ3.2 0 67 = zN z (nB τ) := by
  have h4 := h.n4
  obtain ⟨s', hp, e⟩ := loopK (S := St) (fun (k : St → Int32 → Option (St × Int64)) n s m => fX9_run_L123 q2 q3 q5 q7 k n s (nI m)) (fun k s => k s (nI (nB τ))) (nB τ) (fun m s => frm aRow b67 τ2 s ∧ (∀ b : Nat, b < m → s.1 21 b = nI (rowZ τ P z b) ∧ rowZ τ P z b < 8) ∧ s.2 0 67 = zN z m) (fun k n s hp => by
      have hcs : core s = core τ := (core_frm hp.1 aRow_sc).trans hc
      have e0 : s.1 0 0 = nI (nB τ) := by rw [fr (fun σ => σ.1 0 0) (fun _ => rfl) hcs]; exact (rgn h.hB (by decide)).1
      rw [fX9_run_L123, e0, if_pos (by rw [le_i]; omega)]) (fun n m s hm hp => by
      have hcs : core s = core τ := (core_frm hp.1 aRow_sc).trans hc
      have e0 : s.1 0 0 = nI (nB τ) := by rw [fr (fun σ => σ.1 0 0) (fun _ => rfl) hcs]; exact (rgn h.hB (by decide)).1
      have hPs : ptM s P := ptM_fr (hcs.trans hc.symm) (fun i => hp.1.1 18 i rfl) hP
      have er : rowZ τ P z m = dw τ P m (vOf (zN z m * 6364136223846793005 + 1442695040888963407)) := by unfold rowZ; rw [if_pos hm]; rfl
      refine ⟨sI (sL s 0 67 (zN z m * 6364136223846793005 + 1442695040888963407)) 21 m (nI (rowZ τ P z m)), ⟨frm_trans hp.1 (frm_trans (frm_sL _ _ rfl) (frm_sI _ _ rfl)), wr_row m (rowZ τ P z m) (rowZ_8 h hW z m) hp.2.1 rfl, ?_⟩, fun k => ?_⟩
      · show (sL s 0 67 _).2 0 67 = _
        rw [sL_at, if_pos rfl]
        rfl
      · rw [fX9_run_L123, e0, if_neg (by rw [le_i, nI_toInt (by omega), nI_toInt (by omega)]; omega), drawnM h hPs hcs hW hm hp.2.2, cl_some, chk_t (inb_nI (by omega) (by decide)), ix_nI (m := m) (by omega), bnd_eq, bnd_eq, er, nI_succ]
        all_goals rfl) FU 0 τ2 (by omega) (by have : FU = 100000 := rfl; omega) ⟨frm_refl _ _ _, fun b hb => absurd hb (by omega), hz⟩
  refine ⟨s', e, hp.1, ?_, hp.2.2⟩
  have eN : nB s' = nB τ := fr nB (fun _ => rfl) ((core_frm hp.1 aRow_sc).trans hc)
  unfold rowOK
  rw [eN]
  exact hp.2.1
theorem noI_sc : ∀ c k : Nat, (fun _ _ : Nat => false) c k = true → scM c k = true := fun _ _ h => Bool.noConfusion h
theorem runM {τ1 τ : St} (h : okM τ) (hc : core τ1 = core τ) {dr : Nat → Nat} (hd : drOK τ1 dr) {P : Nat → Nat → Int} (hP : ptM τ1 P) (hW : okW τ P) (hn : 0 < nB τ) {z : Int64} (h67 : τ1.2 0 67 = z) (h47 : τ1.2 0 47 = Int64.ofInt 1) (hs0 : sums τ1 (fun _ => 0) (fun _ => 0) (fun _ => 0) (fun _ => 0) (fun _ => 0)) {N : Nat} (hN : N ≤ 400) {p : Int32} (hp : okWh τ p.toInt) : ∃ (τ3 : St) (x : Int64), (∀ k : St → Int64 → Int32 → Option (St × Int64), fX9_run_L114 (nI N) p k FU τ1 0 0 = k τ3 x (nI N)) ∧ core τ3 = core τ ∧ (p.toInt < 30 → x = Int64.ofInt (sumN N (fun i => mrn τ dr p.toInt (rowZ τ P (zM (nB τ) z i))))) ∧ ∀ i : Nat, i < nS τ → τ3.2 24 i = Int64.ofInt (sumN N (fun t => payS τ dr (rowZ τ P (zM (nB τ) z t)) i)) := by
  have h4 := h.n4
  have h12 := h.n12
  have h16 := h.p16
  have fl := h.full
  have z10 : (10 : Int32).toInt = 10 := by decide
  have z20 : (20 : Int32).toInt = 20 := by decide
  have z30 : (30 : Int32).toInt = 30 := by decide
  have b0 : 10 ≤ p.toInt ∧ p.toInt < 100 := by unfold okWh at hp; omega
  have e10 : (p - 10).toInt = p.toInt - 10 := by rw [i32_sub (by rw [z10]; omega) (by rw [z10]; omega), z10]
  have e20 : (p - 20).toInt = p.toInt - 20 := by rw [i32_sub (by rw [z20]; omega) (by rw [z20]; omega), z20]
  obtain ⟨s', hp', e⟩ := loopK (S := St × Int64) (fun (k : St → Int64 → Int32 → Option (St × Int64)) n s m => fX9_run_L114 (nI N) p k n s.1 s.2 (nI m)) (fun k s => k s.1 s.2 (nI N)) N (fun m s => core s.1 = core τ ∧ drOK s.1 dr ∧ ptM s.1 P ∧ s.1.2 0 67 = zM (nB τ) z m ∧ s.1.2 0 47 = Int64.ofInt 1 ∧ (∃ so ea pa bo ho : Nat → Int, sums s.1 so ea pa bo ho ∧ ∀ i : Nat, i < nS τ → pa i = sumN m (fun t => payS τ dr (rowZ τ P (zM (nB τ) z t)) i)) ∧ (p.toInt < 30 → s.2 = Int64.ofInt (sumN m (fun t => mrn τ dr p.toInt (rowZ τ P (zM (nB τ) z t)))))) (fun k n s hp => by
      show fX9_run_L114 _ _ _ (n + 1) s.1 s.2 _ = _
      rw [fX9_run_L114, if_pos (by rw [le_i]; omega)]) (fun n m s hm hs => by
      obtain ⟨i1, i2, i3, i4, i5, ⟨so, ea, pa, bo, ho, i6, i7⟩, i8⟩ := hs
      obtain ⟨τ3, a1, a2, a3, a4⟩ := runInM h i3 i1 hW i4 (nI N) p s.2 (nI m)
      have hc3 : core τ3 = core τ := (core_frm a2 aRow_sc).trans i1
      have d3 : drOK τ3 dr := drOK_fr (hc3.trans i1.symm) (fun i => a2.1 27 i rfl) i2
      have s3 : sums τ3 so ea pa bo ho := sums_fr (fun c k _ _ => a2.2 c k (by
        have : Nat.beq c 0 = false := by cases c with
          | zero => omega
          | succ c => rfl
        unfold b67
        rw [this]; rfl)) i6
      have w3 : τ3.2 0 47 = Int64.ofInt 1 := by rw [a2.2 0 47 rfl]; exact i5
      have r8 := rowZ_8 h hW (zM (nB τ) z m)
      obtain ⟨τ4, b1, b2, b3⟩ := rowBuysS (okM_fr hc3 h) a3 d3 1 w3 s3
      have hc4 : core τ4 = core τ := (core_frm b2 noI_sc).trans hc3
      have hB4 : rg (τ4.1 0 0) 0 4 := (okM_fr hc4 h).hB
      have row4 : rowOK τ4 (rowZ τ P (zM (nB τ) z m)) := by
        intro b hb
        rw [fr nB (fun _ => rfl) hc4] at hb
        have := a3 b (by rw [fr nB (fun _ => rfl) hc3]; exact hb)
        rw [b2.1 21 b rfl]
        exact this
      have nb4 : nB τ4 = nB τ := fr nB (fun _ => rfl) hc4
      have full4 : fullN τ4 = fullN τ := fr fullN (fun _ => rfl) hc4
      have keep : ∀ x : Int64, (p.toInt < 30 → x = Int64.ofInt (sumN (m + 1) (fun t => mrn τ dr p.toInt (rowZ τ P (zM (nB τ) z t))))) → (core (τ4, x).1 = core τ ∧ drOK (τ4, x).1 dr ∧ ptM (τ4, x).1 P ∧ (τ4, x).1.2 0 67 = zM (nB τ) z (m + 1) ∧ (τ4, x).1.2 0 47 = Int64.ofInt 1 ∧ (∃ so ea pa bo ho : Nat → Int, sums (τ4, x).1 so ea pa bo ho ∧ ∀ i : Nat, i < nS τ → pa i = sumN (m + 1) (fun t => payS τ dr (rowZ τ P (zM (nB τ) z t)) i)) ∧ (p.toInt < 30 → (τ4, x).2 = Int64.ofInt (sumN (m + 1) (fun t => mrn τ dr p.toInt (rowZ τ P (zM (nB τ) z t)))))) := by
        intro x hx
        refine ⟨hc4, drOK_fr (hc4.trans hc3.symm) (fun i => b2.1 27 i rfl) d3, ptM_fr (hc4.trans i1.symm) (fun i => (b2.1 18 i rfl).trans (a2.1 18 i rfl)) i3, (b2.2 0 67 rfl).trans a4, (b2.2 0 47 rfl).trans w3, ⟨_, _, _, _, _, b3, fun i hi => ?_⟩, hx⟩
        unfold addP
        rw [if_pos (by rw [fr nS (fun _ => rfl) hc3]; exact hi)]
        dsimp only
        rw [i7 i hi, fr (fun σ => payS σ dr (rowZ τ P (zM (nB τ) z m)) i) (fun _ => rfl) hc3, Int.one_mul]
        rfl
      have unf : ∀ k : St → Int64 → Int32 → Option (St × Int64), fX9_run_L114 (nI N) p k (n + 1) s.1 s.2 (nI m) = _ := fun k => by
        rw [fX9_run_L114, if_neg (by rw [le_i, nI_toInt (by omega), nI_toInt (by omega)]; omega), bnd_eq, a1, b1, cl_some, jp_eq]
      have hp0 := hp
      unfold okWh at hp0
      rcases hp0 with w | w | w
      · have ep : p - 10 = nI (p.toInt - 10).toNat := by rw [← e10]; exact nI_mk (by omega)
        have hj : (p.toInt - 10).toNat < nB τ := by omega
        refine ⟨(τ4, s.2 + Int64.ofInt (mrn τ dr p.toInt (rowZ τ P (zM (nB τ) z m)))), keep _ (fun q => ?_), fun k => ?_⟩
        · rw [i8 q, ← Int64.ofInt_add]; rfl
        · refine (unf k).trans ?_
          show _ = fX9_run_L114 _ _ _ n τ4 (s.2 + Int64.ofInt (mrn τ dr p.toInt (rowZ τ P (zM (nB τ) z m)))) _
          have lm := leastM hB4 row4 (s := fullN τ) (by omega)
          have fb : (fullN τ).testBit (p.toInt - 10).toNat = true := full_bit (nB τ) (by omega) _ hj
          rw [nb4, lsO_get hj fb] at lm
          have em : mrn τ dr p.toInt (rowZ τ P (zM (nB τ) z m)) = if rowZ τ P (zM (nB τ) z m) (p.toInt - 10).toNat = lsO (nB τ) (fullN τ) (rowZ τ P (zM (nB τ) z m)) then 1 else 0 := by unfold mrn; rw [if_pos (by omega)]
          have rj := row4 (p.toInt - 10).toNat (by rw [nb4]; exact hj)
          have l8 := lsO_8 (n := nB τ) (s := fullN τ) r8
          rw [em, if_neg (show ¬ (20 : Int32) ≤ p by rw [le_i, z20]; omega), ep, chk_t (inb_nI (by omega) (by decide)), everyoneM hB4, full4, cl_some, lm, cl_some, jp_eq, ix_nI (m := (p.toInt - 10).toNat) (by omega), rj.1]
          by_cases w2 : rowZ τ P (zM (nB τ) z m) (p.toInt - 10).toNat = lsO (nB τ) (fullN τ) (rowZ τ P (zM (nB τ) z m))
          · rw [if_pos (show nI (rowZ τ P (zM (nB τ) z m) (p.toInt - 10).toNat) = encN (some _) by rw [w2]; rfl), if_pos w2]
            dsimp only
            rw [show fX9_one τ4 1 = some (τ4, 1) from rfl, cl_some, bnd_eq, bnd_eq, nI_succ]
            all_goals rfl
          · rw [if_neg (show ¬ nI (rowZ τ P (zM (nB τ) z m) (p.toInt - 10).toNat) = encN (some _) from fun q => w2 ((ofNI (by have := rj.2; omega) (by omega)).mp q)), if_neg w2]
            dsimp only
            rw [show fX9_one τ4 0 = some (τ4, 0) from rfl, cl_some, bnd_eq, bnd_eq, nI_succ]
            all_goals rfl
      · have ep : p - 20 = nI (p.toInt - 20).toNat := by rw [← e20]; exact nI_mk (by omega)
        have hj : (p.toInt - 20).toNat < nB τ := by omega
        refine ⟨(τ4, s.2 + Int64.ofInt (mrn τ dr p.toInt (rowZ τ P (zM (nB τ) z m)))), keep _ (fun q => ?_), fun k => ?_⟩
        · rw [i8 q, ← Int64.ofInt_add]; rfl
        · refine (unf k).trans ?_
          show _ = fX9_run_L114 _ _ _ n τ4 (s.2 + Int64.ofInt (mrn τ dr p.toInt (rowZ τ P (zM (nB τ) z m)))) _
          have em : mrn τ dr p.toInt (rowZ τ P (zM (nB τ) z m)) = prc τ (rowZ τ P (zM (nB τ) z m) (p.toInt - 20).toNat) := by unfold mrn; rw [if_neg (by omega), if_pos (by omega)]
          have rj := row4 (p.toInt - 20).toNat (by rw [nb4]; exact hj)
          have pm := priceM (okM_fr hc4 h).hF (okM_fr hc4 h).hY (k := rowZ τ P (zM (nB τ) z m) (p.toInt - 20).toNat) (by have := rj.2; omega)
          rw [em, if_pos (show (20 : Int32) ≤ p by rw [le_i, z20]; omega), if_neg (show ¬ (30 : Int32) ≤ p by rw [le_i, z30]; omega), ep, chk_t (inb_nI (by omega) (by decide)), ix_nI (m := (p.toInt - 20).toNat) (by omega), rj.1, pm.1, cl_some, i64_of, pm.2, fr (fun σ => prc σ (rowZ τ P (zM (nB τ) z m) (p.toInt - 20).toNat)) (fun _ => rfl) hc4, bnd_eq]
          dsimp only
          rw [bnd_eq, nI_succ]
          all_goals rfl
      · refine ⟨(τ4, s.2), keep _ (fun q => absurd q (by omega)), fun k => ?_⟩
        refine (unf k).trans ?_
        show _ = fX9_run_L114 _ _ _ n τ4 s.2 _
        rw [if_pos (show (20 : Int32) ≤ p by rw [le_i, z20]; omega), if_pos (show (30 : Int32) ≤ p by rw [le_i, z30]; omega)]
        dsimp only
        rw [bnd_eq, nI_succ]
        all_goals rfl) FU 0 (τ1, 0) (by omega) (by have : FU = 100000 := rfl; omega) ⟨hc, hd, hP, h67, h47, ⟨_, _, _, _, _, hs0, fun _ _ => rfl⟩, fun _ => rfl⟩
  obtain ⟨j1, j2, j3, j4, j5, ⟨so, ea, pa, bo, ho, j6, j7⟩, j8⟩ := hp'
  exact ⟨s'.1, s'.2, e, j1, j8, fun i hi => by rw [(j6.2 i (by omega)).1, j7 i hi]⟩
theorem p_run : op_run Inv := by
  intro σ τ p q w h
  have hM := h.okM
  have h4 := hM.n4
  have h12 := hM.n12
  have nb := hM.nb
  have ns := hM.ns
  have z1 : (1 : Int32).toInt = 1 := by decide
  have z9 : (9 : Int32).toInt = 9 := by decide
  have z10 : (10 : Int32).toInt = 10 := by decide
  have z19 : (19 : Int32).toInt = 19 := by decide
  have z20 : (20 : Int32).toInt = 20 := by decide
  have z29 : (29 : Int32).toInt = 29 := by decide
  have z30 : (30 : Int32).toInt = 30 := by decide
  have z4 : (400 : Int32).toInt = 400 := by decide
  have zM9 : (999999999 : Int32).toInt = 999999999 := by decide
  have a9 : ((9 : Int32) + τ.1 0 0).toInt = 9 + nB τ := by rw [i32_add (by rw [z9, nb]; omega) (by rw [z9, nb]; omega), z9, nb]
  have a19 : ((19 : Int32) + τ.1 0 0).toInt = 19 + nB τ := by rw [i32_add (by rw [z19, nb]; omega) (by rw [z19, nb]; omega), z19, nb]
  have a29 : ((29 : Int32) + τ.1 0 1).toInt = 29 + nS τ := by rw [i32_add (by rw [z29, ns]; omega) (by rw [z29, ns]; omega), z29, ns]
  have sb : (σ.1 2 0).toInt = (nB τ : Int) := by rw [h.1.1.1, nb]
  have ss : (σ.1 2 1).toInt = (nS τ : Int) := by rw [h.1.1.2.1, ns]
  -- a number near the bounds wraps: what it is then is nobody's
  have sub : ∀ (c : Int32) (k : Nat), (c.toInt = (k : Int)) → k ≤ 30 → ∀ m : Nat, m ≤ 12 → ((0 ≤ (w - c).toInt ∧ (w - c).toInt < (m : Int)) ↔ ((k : Int) ≤ w.toInt ∧ w.toInt < (k : Int) + m)) := by
    intro c k hc hk m hm
    have wl := Int32.le_toInt w
    have wh := Int32.toInt_lt w
    by_cases q : -2147483648 ≤ w.toInt - c.toInt
    · rw [i32_sub q (by omega), hc]; omega
    · have e : (w - c).toInt = (w.toInt - c.toInt).bmod (2 ^ 32) := Int32.toInt_sub w c
      have e2 : (w.toInt - c.toInt).bmod (2 ^ 32) = w.toInt - c.toInt + 2 ^ 32 := by
        rw [Int.bmod_def]
        omega
      rw [e, e2, hc]
      omega
  have s10 := sub 10 10 z10 (by omega) (nB τ) (by omega)
  have s20 := sub 20 20 z20 (by omega) (nB τ) (by omega)
  have s30 := sub 30 30 z30 (by omega) (nS τ) (by omega)
  unfold fX8_run fX9_run
  rw [isIn_eq, cl_some, jp_eq, jp_eq, z10, a9]
  by_cases ok : okWh τ w.toInt
  case neg =>
    have n1 : ¬ (10 ≤ w.toInt ∧ w.toInt ≤ 9 + (nB τ : Int)) := by unfold okWh at ok; omega
    have n2 : ¬ (20 ≤ w.toInt ∧ w.toInt ≤ 19 + (nB τ : Int)) := by unfold okWh at ok; omega
    have n3 : ¬ (30 ≤ w.toInt ∧ w.toInt ≤ 29 + (nS τ : Int)) := by unfold okWh at ok; omega
    have k1 : ¬ (0 ≤ (w - 10).toInt ∧ (w - 10).toInt < (nB τ : Int)) := fun q => by have := s10.mp q; omega
    have k2 : ¬ (0 ≤ (w - 20).toInt ∧ (w - 20).toInt < (nB τ : Int)) := fun q => by have := s20.mp q; omega
    have k3 : ¬ (0 ≤ (w - 30).toInt ∧ (w - 30).toInt < (nS τ : Int)) := fun q => by have := s30.mp q; omega
    rw [if_neg n1, if_pos rfl, isIn_eq, cl_some, z20, a19, if_neg n2, if_pos rfl, isIn_eq, cl_some, z30, a29, if_neg n3, if_pos rfl]
    dsimp only
    rw [bnd_eq, isIn_eq, cl_some, hasBaker_eq, cl_some, sb, if_neg k1, jp_eq, jp_eq, if_pos rfl, hasBaker_eq, cl_some, sb, if_neg k2, if_pos rfl, hasSort_eq, cl_some, ss, if_neg k3, if_pos rfl]
    dsimp only
    rw [bnd_eq, if_pos rfl]
    have fin : ∃ τ1 : St, Inv σ τ1 ∧ (if (if (0 : Int32).toInt ≤ p.toInt ∧ p.toInt ≤ (999999999 : Int32).toInt then (1 : Int32) else 0) = 0 then some (τ, (-1 : Int64)) else cl (fX9_isIn τ q 1 400) fun (σ_8 : St) (t_9 : Int32) => if t_9 = 0 then some (σ_8, (-1 : Int64)) else some (σ_8, (-1 : Int64))) = some (τ1, -1) := by
      refine ⟨τ, h, ?_⟩
      rw [isIn_eq, cl_some, ite_self, ite_self]
    obtain ⟨τ1, f1, f2⟩ := fin
    refine ⟨σ, τ1, -1, ?_, f2, f1⟩
    split
    · rfl
    · split
      · rfl
      · split
        · rfl
        · split <;> rfl
  have ok0 := ok
  unfold okWh at ok0
  rcases ok0 with w1 | w1 | w1
  all_goals first
    | rw [if_pos (show 10 ≤ w.toInt ∧ w.toInt ≤ 9 + (nB τ : Int) by omega), if_neg one0]
    | rw [if_neg (show ¬ (10 ≤ w.toInt ∧ w.toInt ≤ 9 + (nB τ : Int)) by omega), if_pos rfl, isIn_eq, cl_some, z20, a19, if_pos (show 20 ≤ w.toInt ∧ w.toInt ≤ 19 + (nB τ : Int) by omega), if_neg one0]
    | rw [if_neg (show ¬ (10 ≤ w.toInt ∧ w.toInt ≤ 9 + (nB τ : Int)) by omega), if_pos rfl, isIn_eq, cl_some, z20, a19, if_neg (show ¬ (20 ≤ w.toInt ∧ w.toInt ≤ 19 + (nB τ : Int)) by omega), if_pos rfl, isIn_eq, cl_some, z30, a29, if_pos (show 30 ≤ w.toInt ∧ w.toInt ≤ 29 + (nS τ : Int) by omega), if_neg one0]
  all_goals dsimp only
  all_goals rw [bnd_eq, hasBaker_eq, cl_some, sb, jp_eq, jp_eq]
  all_goals first
    | rw [if_pos (s10.mpr (by omega)), if_neg one0]
    | rw [if_neg (show ¬ (0 ≤ (w - 10).toInt ∧ (w - 10).toInt < (nB τ : Int)) from fun q => by have := s10.mp q; omega), if_pos rfl, hasBaker_eq, cl_some, sb, if_pos (s20.mpr (by omega)), if_neg one0]
    | rw [if_neg (show ¬ (0 ≤ (w - 10).toInt ∧ (w - 10).toInt < (nB τ : Int)) from fun q => by have := s10.mp q; omega), if_pos rfl, hasBaker_eq, cl_some, sb, if_neg (show ¬ (0 ≤ (w - 20).toInt ∧ (w - 20).toInt < (nB τ : Int)) from fun q => by have := s20.mp q; omega), if_pos rfl, hasSort_eq, cl_some, ss, if_pos (s30.mpr (by omega)), if_neg one0]
  all_goals dsimp only
  all_goals rw [bnd_eq, if_neg one0]
  all_goals
    rw [isIn_eq, cl_some, z_0, zM9]
    by_cases hp : 0 ≤ p.toInt ∧ p.toInt ≤ 999999999
    case neg =>
      rw [if_neg hp, if_pos rfl]
      by_cases w0 : p < 0
      · rw [if_pos w0]; exact ⟨σ, τ, -1, rfl, rfl, h⟩
      · rw [if_neg w0, if_pos (show (999999999 : Int32) < p by rw [lt_i, z_0] at w0; rw [lt_i, zM9]; omega)]; exact ⟨σ, τ, -1, rfl, rfl, h⟩
    rw [if_pos hp, if_neg one0, if_neg (show ¬ p < 0 by rw [lt_i, z_0]; omega), if_neg (show ¬ (999999999 : Int32) < p by rw [lt_i, zM9]; omega), isIn_eq, cl_some, z1, z4]
    by_cases hq : 1 ≤ q.toInt ∧ q.toInt ≤ 400
    case neg =>
      rw [if_neg hq, if_pos rfl]
      by_cases w0 : q < 1
      · rw [if_pos w0]; exact ⟨σ, τ, -1, rfl, rfl, h⟩
      · rw [if_neg w0, if_neg (show ¬ q ≤ (400 : Int32) by rw [lt_i, z1] at w0; rw [le_i, z4]; omega)]; exact ⟨σ, τ, -1, rfl, rfl, h⟩
    rw [if_pos hq, if_neg one0, if_neg (show ¬ q < 1 by rw [lt_i, z1]; omega), if_pos (show q ≤ (400 : Int32) by rw [le_i, z4]; omega), if_neg one0]
    obtain ⟨σ', τ', x, a1, a2, a3, a4, a5, a6⟩ := ready2 h
    rw [a1, a2, cl_some, cl_some]
    rcases a6 with ⟨e, _⟩ | ⟨P, a, e, _, hr, _⟩
    · rw [if_pos e, if_pos e]; exact ⟨σ', τ', -1, rfl, rfl, a3⟩
    · have x0 : ¬ x = 0 := by rw [e]; exact one0
      have hW := hr.2.2.2.2.2.2.w
      have hn := hr.2.2.2.2.2.2.1
      have eq : q = nI q.toInt.toNat := nI_mk (by omega)
      obtain ⟨σ2, b1, b2⟩ := morningsC hM hr.1 hr.2.1.1 hr.2.2.1 hW (p1 := p) (N := q.toInt.toNat) (by omega) ok
      rw [← eq] at b1
      obtain ⟨τ2, c1, c2, c3⟩ := clearsM (sL (sL τ' 0 67 p.toInt64) 0 47 1)
      have hc1 : core τ2 = core τ' := (core_frm c2 noI_sc).trans rfl
      have hc2 : core τ2 = core τ := hc1.trans a4
      have k67 : τ2.2 0 67 = p.toInt64 := by
        rw [c2.2 0 67 rfl, sL_at, if_neg (by decide), sL_at, if_pos rfl]
      have k47 : τ2.2 0 47 = Int64.ofInt 1 := by
        rw [c2.2 0 47 rfl, sL_at, if_pos rfl]
        decide
      obtain ⟨τ3, y, d1, d2, d3, d4⟩ := runM hM hc2 (drOK_fr hc1 (fun i => c2.1 27 i rfl) hr.2.2.2.2.1) (ptM_fr hc1 (fun i => c2.1 18 i rfl) hr.2.2.2.2.2.1) hW hn k67 k47 c3 (N := q.toInt.toNat) (by omega) ok
      rw [← eq] at d1
      have hI : Inv σ2 τ3 := Inv_50 (by omega) (by omega) b2 (d2.trans a4.symm) a3
      rw [if_neg x0, if_neg x0, b1, cl_some, bnd_eq, bnd_eq, c1, cl_some, bnd_eq, bnd_eq, d1]
      refine ⟨σ2, τ3, _, rfl, ?_, hI⟩
      by_cases w30 : w.toInt < 30
      · rw [if_neg (show ¬ (30 : Int32) ≤ w by rw [le_i, z30]; omega), d3 w30]
      · have hj : (w.toInt - 30).toNat < nS τ := by unfold okWh at ok; omega
        have ep : w - 30 = nI (w.toInt - 30).toNat := by
          have := nI_mk (p := w - 30) (by rw [i32_sub (by rw [z30]; omega) (by rw [z30]; omega), z30]; omega)
          rw [i32_sub (by rw [z30]; omega) (by have := Int32.toInt_lt w; rw [z30]; omega), z30] at this
          exact this
        have hj12 : (w.toInt - 30).toNat < 12 := by omega
        rw [if_pos (show (30 : Int32) ≤ w by rw [le_i, z30]; omega), ep, chk_t (inb_nI hj12 (by decide)), ix_nI (m := (w.toInt - 30).toNat) (by omega), d4 _ hj, sumN_congr q.toInt.toNat (fun i _ => show payS τ (nmd τ) (rowZ τ P (zM (nB τ) p.toInt64 i)) (w.toInt - 30).toNat = mrn τ (nmd τ) w.toInt (rowZ τ P (zM (nB τ) p.toInt64 i)) by unfold mrn; rw [if_neg (by omega), if_neg (by omega)])]
