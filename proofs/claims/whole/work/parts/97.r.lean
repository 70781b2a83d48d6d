/-! chase, the class's rounds -/
section ChaseC
variable {τ : St} {dr : Nat → Nat} {P0 : Nat → Nat → Int} {st : Nat → Option Nat} {cd : Nat → Nat} {mv : Nat → Bool}
def mGo (c k : Nat) : Bool := mk 45 50 c k || mk 58 60 c k
theorem mGo_Rn : ∀ c k : Nat, mGo c k = false → mRn c k = false := by
  intro c k h
  have h2 := (mk_f.mp (bf h).2)
  unfold mRn
  rw [(bf h).1]
  cases q : Nat.beq c 59 with
  | false => rfl
  | true => have := Nat.eq_of_beq_eq_true q; omega
theorem mGo_60 : ∀ c k : Nat, mGo c k = false → mk 58 60 c k = false := fun _ _ h => (bf h).2
theorem mGo_43 : ∀ c k : Nat, c < 43 → mGo c k = false := by
  intro c k hc
  unfold mGo
  rw [mk43 (lo := 45) (hi := 50) (by omega) c k hc, mk43 (lo := 58) (hi := 60) (by omega) c k hc]
  rfl
theorem rs_some {i j : Nat} (e : fnd cd i i = some j) : rsV cd i = i - j := by unfold rsV; rw [e]
theorem rs_none {i : Nat} (e : fnd cd i i = none) : rsV cd i = 0 := by unfold rsV; rw [e]
theorem goC (h : okM τ) (hk : okC τ P0 st) {σ0 : St} (c : clsR σ0 τ dr) (ho : opnd σ0 τ (frc τ) dr) {N : Nat} (hN : N ≤ 60) (hcd : ∀ i : Nat, cd i = cdN (stR τ dr P0 st i) (nB τ)) (hmv : ∀ i : Nat, mv i = mvR τ dr P0 st i) : ∀ (f i : Nat) (s : St), i + f = N → frm mGo (mk 51 52) σ0 s → ptC s (nB τ) (PS P0 (stR τ dr P0 st i)) → (∀ b : Nat, b < nB τ → s.1 59 b = encN (stR τ dr P0 st i b)) → (∀ j : Nat, j ≤ i → s.1 60 j = nI (cd j)) → s.1 58 6 = nI i → s.1 58 7 = 0 → ∀ n : Nat, f < n → ∃ s', fX0_go_L6 (nI N) (fun (σ_16 : St) (_ : Int32) => bnd (sI σ_16 58 5 (2 : Int32)) fun (σ_18 : St) => some (σ_18, ())) n s (nI (i + 1)) = some (s', ()) ∧ frm mGo (mk 51 52) σ0 s' ∧ s'.1 58 5 = nI (chR cd mv f i).1 ∧ s'.1 58 6 = nI (chR cd mv f i).2.1 ∧ s'.1 58 7 = nI (chR cd mv f i).2.2 ∧ ∀ b : Nat, b < nB τ → s'.1 59 b = encN (stR τ dr P0 st (chR cd mv f i).2.1 b) := by
  have h4 := h.n4
  have cdl : ∀ i : Nat, cd i < 7000 := fun i => by
    rw [hcd]
    have := cdN_lt (st := stR τ dr P0 st i) (nB τ) ((stR_ok h hk i).dg h)
    have := pow9 h4
    omega
  intro f
  induction f with
  | zero =>
    intro i s hi hf hC h59 h60 h6 h7 n hn
    cases n with
    | zero => omega
    | succ n =>
      rw [fX0_go_L6, if_pos (by rw [lt_i, nI_toInt (by omega), nI_toInt (by omega)]; omega), bnd_eq]
      exact ⟨sI s 58 5 2, rfl, frm_trans hf (frm_sI _ _ rfl), rfl, h6, h7, h59⟩
  | succ f ih =>
    intro i s hi hf hC h59 h60 h6 h7 n hn
    cases n with
    | zero => omega
    | succ n =>
      have z61 : (61 : Int32).toInt = 61 := by decide
      have f1 : frm mGo (mk 51 52) σ0 (sI s 58 6 (nI (i + 1))) := frm_trans hf (frm_sI _ _ rfl)
      have c1 := clsR_fr (coreC_frm f1 mGo_43) c
      have o1 : opnd (sI s 58 6 (nI (i + 1))) τ (frc τ) dr := opnd_fr (f1.1 43 14 rfl) (f1.1 43 15 rfl) (fun i => f1.1 44 i rfl) ho
      obtain ⟨s2, b1, b2, b3, b4⟩ := roundC h c1 o1 (stR_ok h hk i) (st := stR τ dr P0 st i) (P0 := P0) hC h59
      have f2 : frm mGo (mk 51 52) σ0 s2 := frm_trans f1 (frm_mono mGo_Rn (fun _ _ q => q) b2)
      have k6 : s2.1 58 6 = nI (i + 1) := b2.1 58 6 rfl
      have k7 : s2.1 58 7 = 0 := (b2.1 58 7 rfl).trans h7
      have emv : (rndI τ dr P0 (stR τ dr P0 st i) (nB τ)).2 = mv i := (hmv i).symm
      rw [fX0_go_L6, if_neg (by rw [lt_i, nI_toInt (by omega), nI_toInt (by omega)]; omega), if_neg (by rw [le_i, z61, nI_toInt (by omega)]; omega), bnd_eq, b1, cl_some, emv]
      cases hm : mv i with
      | false =>
        rw [if_pos (show b01 false = 0 from rfl), bnd_eq, chR_0 hm]
        exact ⟨sI s2 58 5 0, rfl, frm_trans f2 (frm_sI _ _ rfl), rfl, k6, k7, b4⟩
      | true =>
        have c2 := clsR_fr (coreC_frm f2 mGo_43) c
        have ec : cdN (stR τ dr P0 st (i + 1)) (nB τ) = cd (i + 1) := (hcd (i + 1)).symm
        have cc := codeC h c2 (st := stR τ dr P0 st (i + 1)) b4 ((stR_ok h hk (i + 1)).dg h)
        rw [ec] at cc
        have hist : ∀ j : Nat, j ≤ i + 1 → (sI s2 60 (i + 1) (nI (cd (i + 1)))).1 60 j = nI (cd j) ∧ cd j < 7000 := fun j hj => by
          refine ⟨?_, cdl j⟩
          rw [sI_at]
          by_cases w : j = i + 1
          · rw [if_pos w, w]
          · rw [if_neg w, b2.1 60 j rfl]
            exact h60 j (by omega)
        have sn := sinceC (σ := sI s2 60 (i + 1) (nI (cd (i + 1)))) (cd := cd) (i := i + 1) (by omega) hist
        rw [if_neg (show ¬ b01 true = 0 from one0), cc, cl_some, chk_t (inb_nI (by omega) (by decide)), ix_nI (m := i + 1) (by omega), bnd_eq, sn, cl_some, bnd_eq]
        have k7' : (sI (sI s2 60 (i + 1) (nI (cd (i + 1)))) 58 7 (nI (rsV cd (i + 1)))).1 58 7 = nI (rsV cd (i + 1)) := rfl
        have f3 : frm mGo (mk 51 52) σ0 (sI (sI s2 60 (i + 1) (nI (cd (i + 1)))) 58 7 (nI (rsV cd (i + 1)))) := frm_trans f2 (frm_trans (frm_sI _ _ rfl) (frm_sI _ _ rfl))
        rw [k7']
        cases ef : fnd cd (i + 1) (i + 1) with
        | some j =>
          have jl := (fnd_some _ ef).1
          have ers := rs_some ef
          rw [if_neg (by rw [le_i, z_0, nI_toInt (by omega)]; omega), bnd_eq, chR_1 hm ef]
          exact ⟨_, rfl, frm_trans f3 (frm_sI _ _ rfl), rfl, k6, by rw [← ers]; rfl, b4⟩
        | none =>
          have ers := rs_none ef
          rw [if_pos (by rw [le_i, z_0, ers, nI_toInt (by omega)]; omega), bnd_eq, chR_2 hm ef]
          obtain ⟨s', g1, g2⟩ := ih (i + 1) _ (by omega) f3 (fun j hj k hk => b3 j hj k hk) (fun b hb => b4 b hb) (fun j hj => (hist j hj).1) k6 (by rw [ers]; rfl) n (by omega)
          refine ⟨s', ?_, g2⟩
          rw [← g1, ← nI_succ]
end ChaseC
/-! chase, the model -/
def coreX (τ : St) : St := (fun c k => cond (Nat.beq c 15 || Nat.beq c 16) 0 ((core τ).1 c k), fun _ _ => 0)
theorem coreX_core {τ τ' : St} (h : core τ' = core τ) : coreX τ' = coreX τ := by unfold coreX; rw [h]
theorem frX {α : Type} {τ τ' : St} (G : St → α) (hG : ∀ τ : St, G (coreX τ) = G τ) (h : coreX τ' = coreX τ) : G τ' = G τ := by rw [← hG τ', h, hG]
theorem coreX_sI {s : St} {q k : Nat} (x : Int32) (hq : q = 15 ∨ q = 16) : coreX (sI s q k x) = coreX s := by
  refine St_ext (fun c j => ?_) (fun _ _ => rfl)
  show cond (Nat.beq c 15 || Nat.beq c 16) 0 ((core (sI s q k x)).1 c j) = cond (Nat.beq c 15 || Nat.beq c 16) 0 ((core s).1 c j)
  cases e : (Nat.beq c 15 || Nat.beq c 16) with
  | true => rfl
  | false =>
    have hc : c ≠ q := by
      intro w
      subst w
      rcases hq with w | w <;> subst w <;> exact absurd e (by decide)
    show cond (scM c j) 0 ((sI s q k x).1 c j) = cond (scM c j) 0 (s.1 c j)
    rw [sI_ne hc]
theorem bestX {s τ : St} {dr : Nat → Nat} {P : Nat → Nat → Int} (h : okM τ) (hx : coreX s = coreX τ) (hd : drOK s dr) (hP : ptM s P) {b : Nat} (hb : b < nB τ) : ∃ s2, fX9_bestOf s (nI b) = some (s2, encN (bestN (barN τ) (atE τ dr P b) (nK τ))) ∧ frm aEarn bBest s s2 ∧ ∀ j : Nat, bestN (barN τ) (atE τ dr P b) (nK τ) = some j → s2.2 0 55 = Int64.ofInt (atE τ dr P b j) := by
  have hs : okM s := (frX okM (fun _ => rfl) hx).mpr h
  obtain ⟨τ2, a1, a2, a3⟩ := bestOfM hs hd (b := b) (by rw [frX nB (fun _ => rfl) hx]; exact hb) (ptM_X hP b)
  have eb : bestN (barN s) (atE s dr P b) (nK s) = bestN (barN τ) (atE τ dr P b) (nK τ) := frX (fun σ => bestN (barN σ) (atE σ dr P b) (nK σ)) (fun _ => rfl) hx
  rw [eb] at a1 a3
  refine ⟨τ2, a1, a2, fun j hj => ?_⟩
  rw [a3 j hj, frX (fun σ => atE σ dr P b j) (fun _ => rfl) hx]
theorem ratherX {s τ : St} {dr : Nat → Nat} {P : Nat → Nat → Int} (h : okM τ) (hx : coreX s = coreX τ) (hd : drOK s dr) (hP : ptM s P) (hR : okR τ P) {b : Nat} (hb : b < nB τ) : ∃ s2, fX9_wouldRather s (nI b) = some (s2, if btr τ dr P b = none then 0 else 1) ∧ frm aEarn bBest s s2 := by
  have h4 := h.n4
  have h8 := h.k8
  have hs : okM s := (frX okM (fun _ => rfl) hx).mpr h
  have hB : ∀ j : Nat, j < nB τ → j ≠ b → ∀ k : Nat, k < 8 → 0 ≤ P j k ∧ P j k ≤ 100 := fun j hj _ k hk => hR.b hj hk
  unfold fX9_wouldRather
  obtain ⟨τ1, c1, c2, c3⟩ := sellsM hs hP hd
  have hc1 : core τ1 = core s := core_frm c2 aRow_sc
  obtain ⟨τ2, d1, d2, d4⟩ := bestX h ((coreX_core hc1).trans hx) (drOK_fr hc1 (fun i => c2.1 27 i rfl) hd) (ptM_fr hc1 (fun i => c2.1 18 i rfl) hP) hb
  have ev : ex 8 (nB s) P (fun r => earnM s dr r (nS s) b) = eaR τ dr P b := frX (fun σ => ex 8 (nB σ) P (fun r => earnM σ dr r (nS σ) b)) (fun _ => rfl) hx
  have e23 : τ1.2 23 b = Int64.ofInt (eaR τ dr P b) := by rw [← ev]; exact (c3.1 b (by omega)).2
  refine ⟨τ2, ?_, frm_trans (frm_mono aEarn_row bBest_row c2) d2⟩
  rw [c1, cl_some, chk_t (inb_nI (by omega) (by decide)), ix_nI (m := b) (by omega), e23, bnd_eq, d1, cl_some]
  cases e : bestN (barN τ) (atE τ dr P b) (nK τ) with
  | none => rw [if_pos (show encN none = -1 from rfl), btr_none e, if_pos rfl]
  | some k =>
    have hk := (bestN_lt _ _ e).1
    have bb1 := atE_b h dr (P := P) hb hB (s := k) (by omega)
    have bb2 := eaR_b h hR dr hb
    have cmp : (lg_cmp (Int64.ofInt (atE τ dr P b k)) (Int64.ofInt (eaR τ dr P b)) ≤ 0) ↔ ¬ eaR τ dr P b < atE τ dr P b k := by
      rw [lg_cmp_le, Int64.le_iff_toInt_le, i64o (by omega) (by omega), i64o (by omega) (by omega)]
      omega
    rw [if_neg (show ¬ encN (some k) = -1 from nI_ne_m1 (by omega)), d4 k e, btr_some e]
    by_cases w : eaR τ dr P b < atE τ dr P b k
    · rw [if_neg (fun q => cmp.mp q w), if_pos w, if_neg (by intro q; cases q)]
    · rw [if_pos (cmp.mpr w), if_neg w, if_pos rfl]
/-- the model within a chase -/
def chM (s τ : St) (dr : Nat → Nat) (P0 : Nat → Nat → Int) (st : Nat → Option Nat) : Prop := coreX s = coreX τ ∧ drOK s dr ∧ ptM s (PS P0 st) ∧ (∀ b : Nat, nB τ ≤ b → s.1 15 b = τ.1 15 b ∧ s.1 16 b = τ.1 16 b) ∧ ∀ b : Nat, b < nB τ → (st b = none → ¬ s.1 15 b = 1) ∧ ∀ k : Nat, st b = some k → s.1 15 b = 1 ∧ s.1 16 b = nI k
theorem chM_frm {a b : Nat → Nat → Bool} {s s2 τ : St} {dr : Nat → Nat} {P0 : Nat → Nat → Int} {st : Nat → Option Nat} (h : chM s τ dr P0 st) (hf : frm a b s s2) (ha : ∀ c k : Nat, a c k = true → scM c k = true) (h18 : ∀ k : Nat, a 18 k = false) (h27 : ∀ k : Nat, a 27 k = false) : chM s2 τ dr P0 st := by
  have hc : core s2 = core s := core_frm hf ha
  have h15 : ∀ k : Nat, s2.1 15 k = s.1 15 k := fun k => fr (fun σ => σ.1 15 k) (fun _ => rfl) hc
  have h16 : ∀ k : Nat, s2.1 16 k = s.1 16 k := fun k => fr (fun σ => σ.1 16 k) (fun _ => rfl) hc
  refine ⟨(coreX_core hc).trans h.1, drOK_fr hc (fun i => hf.1 27 i (h27 i)) h.2.1, ptM_fr hc (fun i => hf.1 18 i (h18 i)) h.2.2.1, fun b hb => ?_, fun b hb => ?_⟩
  · rw [h15, h16]; exact h.2.2.2.1 b hb
  · rw [h15, h16]; exact h.2.2.2.2 b hb
def aCh (c _k : Nat) : Bool := Nat.beq c 21 || Nat.beq c 28 || Nat.beq c 18 || Nat.beq c 15 || Nat.beq c 16
theorem aCh_earn : ∀ c k : Nat, aCh c k = false → aEarn c k = false := fun _ _ h => (bf (bf (bf h).1).1).1
theorem aCh_put : ∀ c k : Nat, aCh c k = false → aPut c k = false := fun _ _ h => (bf (bf (bf h).1).1).2
theorem drOK_X {τ τ' : St} {dr : Nat → Nat} (h : coreX τ' = coreX τ) (h27 : ∀ s : Nat, τ'.1 27 s = τ.1 27 s) (hd : drOK τ dr) : drOK τ' dr := by
  intro s hs hk
  rw [frX nS (fun _ => rfl) h] at hs
  rw [frX (fun σ => knd σ s) (fun _ => rfl) h] at hk
  rw [h27, frX nB (fun _ => rfl) h]
  exact hd s hs hk
theorem ptM_X2 {τ τ' : St} {P : Nat → Nat → Int} (h : coreX τ' = coreX τ) (h18 : ∀ s : Nat, τ'.1 18 s = τ.1 18 s) (hd : ptM τ P) : ptM τ' P := by
  intro b hb k hk
  rw [frX nB (fun _ => rfl) h] at hb
  rw [h18]
  exact hd b hb k hk
theorem roundM {s τ : St} {dr : Nat → Nat} {P0 : Nat → Nat → Int} {st : Nat → Option Nat} (h : okM τ) (hk : okC τ P0 st) (hs : chM s τ dr P0 st) (q1 : Int32) : ∃ s2, (∀ k : St → Int32 → Int32 → Option (St × Unit), fX9_chases_L40 q1 k FU s 0 0 = k s2 (b01 (rndI τ dr P0 st (nB τ)).2) (nI (nB τ))) ∧ chM s2 τ dr P0 (rndI τ dr P0 st (nB τ)).1 ∧ frm aCh bBest s s2 := by
  have h4 := h.n4
  have h8 := h.k8
  obtain ⟨s', hp, e⟩ := loopK (S := St × Int32) (fun (k : St → Int32 → Int32 → Option (St × Unit)) n s m => fX9_chases_L40 q1 k n s.1 s.2 (nI m)) (fun k s => k s.1 s.2 (nI (nB τ))) (nB τ) (fun m x => chM x.1 τ dr P0 (rndI τ dr P0 st m).1 ∧ frm aCh bBest s x.1 ∧ x.2 = b01 (rndI τ dr P0 st m).2) (fun k n x hp => by
      have e0 : x.1.1 0 0 = nI (nB τ) := by rw [frX (fun σ => σ.1 0 0) (fun _ => rfl) hp.1.1]; exact (rgn h.hB (by decide)).1
      show fX9_chases_L40 _ _ (n + 1) x.1 x.2 _ = _
      rw [fX9_chases_L40, e0, if_pos (by rw [le_i]; omega)]) (fun n m x hm hp => by
      obtain ⟨p1, p2, p3⟩ := hp
      have e0 : x.1.1 0 0 = nI (nB τ) := by rw [frX (fun σ => σ.1 0 0) (fun _ => rfl) p1.1]; exact (rgn h.hB (by decide)).1
      have ok1 := rndI_ok h (dr := dr) hk m
      obtain ⟨s2, b1, b2⟩ := ratherX h p1.1 p1.2.1 p1.2.2.1 ok1.1 hm
      have m2 : chM s2 τ dr P0 (rndI τ dr P0 st m).1 := chM_frm p1 b2 aEarn_sc (fun _ => rfl) (fun _ => rfl)
      have f2 : frm aCh bBest s s2 := frm_trans p2 (frm_mono aCh_earn (fun _ _ q => q) b2)
      cases eb : btr τ dr (PS P0 (rndI τ dr P0 st m).1) m with
      | none =>
        refine ⟨(s2, x.2), ⟨by rw [rndI_n eb]; exact m2, f2, by rw [rndI_n eb]; exact p3⟩, fun k => ?_⟩
        show fX9_chases_L40 _ _ (n + 1) x.1 x.2 _ = fX9_chases_L40 _ _ n s2 x.2 _
        rw [fX9_chases_L40, e0, if_neg (by rw [le_i, nI_toInt (by omega), nI_toInt (by omega)]; omega), b1, cl_some, jp_eq, eb, if_pos rfl, if_pos rfl]
        dsimp only
        rw [bnd_eq, nI_succ]
        all_goals rfl
      | some k0 =>
        have bl := bestN_lt _ _ (btr_best eb)
        have hx3 : coreX (sI s2 15 m 1) = coreX τ := (coreX_sI 1 (Or.inl rfl)).trans m2.1
        have d3 : drOK (sI s2 15 m 1) dr := drOK_X (hx3.trans m2.1.symm) (fun i => by rw [sI_ne (by decide)]) m2.2.1
        have t3 : ptM (sI s2 15 m 1) (PS P0 (rndI τ dr P0 st m).1) := ptM_X2 (hx3.trans m2.1.symm) (fun i => by rw [sI_ne (by decide)]) m2.2.2.1
        obtain ⟨s4, g1, g2, _⟩ := bestX h hx3 d3 t3 hm
        rw [btr_best eb] at g1
        have hc4 : core s4 = core (sI s2 15 m 1) := core_frm g2 aEarn_sc
        have hx5 : coreX (sI s4 16 m (nI k0)) = coreX τ := (coreX_sI (nI k0) (Or.inr rfl)).trans ((coreX_core hc4).trans hx3)
        have e16 : (sI s4 16 m (nI k0)).1 16 m = nI k0 := by rw [sI_at, if_pos rfl]
        obtain ⟨s6, i1, i2, i3⟩ := putsM (sI s4 16 m (nI k0)) (b := m) (s := k0) (by omega) (by omega)
        have hc6 : core s6 = core (sI s4 16 m (nI k0)) := core_frm i2 aPut_sc
        have hx6 : coreX s6 = coreX τ := (coreX_core hc6).trans hx5
        have t5 : ptM (sI s4 16 m (nI k0)) (PS P0 (rndI τ dr P0 st m).1) := ptM_X2 (hx5.trans hx3.symm) (fun i => by rw [sI_ne (by decide)]; exact g2.1 18 i rfl) t3
        have t6 : ptM s6 (PS P0 (upS (rndI τ dr P0 st m).1 m k0)) := by
          rw [PS_put]
          exact ptM_put t5 (fr nB (fun _ => rfl) hc6) i3
        have c15 : ∀ b : Nat, s6.1 15 b = if b = m then 1 else s2.1 15 b := fun b => by
          rw [fr (fun σ => σ.1 15 b) (fun _ => rfl) hc6]
          show (sI s4 16 m (nI k0)).1 15 b = _
          rw [sI_ne (by decide), fr (fun σ => σ.1 15 b) (fun _ => rfl) hc4]
          show (sI s2 15 m 1).1 15 b = _
          rw [sI_at]
        have c16 : ∀ b : Nat, s6.1 16 b = if b = m then nI k0 else s2.1 16 b := fun b => by
          rw [fr (fun σ => σ.1 16 b) (fun _ => rfl) hc6]
          show (sI s4 16 m (nI k0)).1 16 b = _
          rw [sI_at]
          by_cases w : b = m
          · rw [if_pos w, if_pos w]
          · rw [if_neg w, if_neg w, fr (fun σ => σ.1 16 b) (fun _ => rfl) hc4]
            show (sI s2 15 m 1).1 16 b = _
            rw [sI_ne (by decide)]
        have m6 : chM s6 τ dr P0 (upS (rndI τ dr P0 st m).1 m k0) := by
          refine ⟨hx6, drOK_X (hx6.trans hx3.symm) (fun i => by rw [i2.1 27 i rfl, sI_ne (by decide), g2.1 27 i rfl]) d3, t6, fun b hb => ?_, fun b hb => ?_⟩
          · rw [c15, c16, if_neg (by omega), if_neg (by omega)]
            exact m2.2.2.2.1 b hb
          · rw [c15, c16]
            by_cases w : b = m
            · subst w
              rw [upS_at, if_pos rfl, if_pos rfl]
              exact ⟨fun q => (by cases q), fun k q => (by cases q; exact ⟨rfl, rfl⟩)⟩
            · rw [upS_ne w, if_neg w, if_neg w]
              exact m2.2.2.2.2 b hb
        have f6 : frm aCh bBest s s6 := frm_trans f2 (frm_trans (frm_sI _ _ rfl) (frm_trans (frm_mono aCh_earn (fun _ _ q => q) g2) (frm_trans (frm_sI _ _ rfl) (frm_mono aCh_put noL_any i2))))
        refine ⟨(s6, 1), ⟨by rw [rndI_y eb]; exact m6, f6, by rw [rndI_y eb]; rfl⟩, fun k => ?_⟩
        show fX9_chases_L40 _ _ (n + 1) x.1 x.2 _ = fX9_chases_L40 _ _ n s6 1 _
        rw [fX9_chases_L40, e0, if_neg (by rw [le_i, nI_toInt (by omega), nI_toInt (by omega)]; omega), b1, cl_some, jp_eq, eb, if_neg (show ¬ some k0 = none by intro q; cases q), if_neg one0, chk_t (inb_nI (by omega) (by decide)), ix_nI (m := m) (by omega), bnd_eq, g1, cl_some, chk_t (inb_nI (by omega) (by decide)), show encN (some k0) = nI k0 from rfl, bnd_eq, chk_t (inb_nI (by omega) (by decide)), e16, i1, cl_some, bnd_eq]
        dsimp only
        rw [bnd_eq, nI_succ]
        all_goals rfl) FU 0 (s, 0) (by omega) (by have : FU = 100000 := rfl; omega) ⟨hs, frm_refl _ _ _, rfl⟩
  exact ⟨s'.1, fun k => (e k).trans (by rw [hp.2.2]), hp.1, hp.2.1⟩
def a32 (c _k : Nat) : Bool := Nat.beq c 32
theorem a32_sc : ∀ c k : Nat, a32 c k = true → scM c k = true := by
  intro c k h
  have := Nat.eq_of_beq_eq_true h
  subst this
  rfl
/-- what the model has seen of round i -/
def seen (s : St) (n i : Nat) (P0 : Nat → Nat → Int) (st : Nat → Option Nat) : Prop := ∀ b : Nat, b < n → s.1 32 (36 * i + 9 * b) = encN (st b) ∧ ∀ k : Nat, k < 8 → s.1 32 (36 * i + 9 * b + 1 + k) = Int32.ofInt (PS P0 st b k)
theorem ix36 : ∀ i : Nat, i < 61 → ∀ b : Nat, b < 4 → ((36 : Int32) * nI i) + ((9 : Int32) * nI b) = nI (36 * i + 9 * b) := by decide +kernel
theorem seesM {s τ : St} {dr : Nat → Nat} {P0 : Nat → Nat → Int} {st : Nat → Option Nat} (h : okM τ) (hs : chM s τ dr P0 st) {i : Nat} (hi : i ≤ 60) : ∃ s2, fX9_sees s (nI i) = some (s2, ()) ∧ frm a32 noL s s2 ∧ seen s2 (nB τ) i P0 st ∧ ∀ k : Nat, (k < 36 * i ∨ 36 * i + 36 ≤ k) → s2.1 32 k = s.1 32 k := by
  have h4 := h.n4
  unfold fX9_sees
  rw [bnd_eq]
  obtain ⟨s2, hp, e⟩ := loopG (S := St) (fun n x m => fX9_sees_L2 (nI i) (fun (σ_11 : St) (_ : Int32) => some (σ_11, ())) n x (nI m)) (nB τ) (fun m x => frm a32 noL s x ∧ seen x m i P0 st ∧ ∀ k : Nat, (k < 36 * i ∨ 36 * i + 36 ≤ k) → x.1 32 k = s.1 32 k) (fun x => some (x, ())) (fun n x hp => by
      have e0 : x.1 0 0 = nI (nB τ) := by rw [hp.1.1 0 0 rfl, frX (fun σ => σ.1 0 0) (fun _ => rfl) hs.1]; exact (rgn h.hB (by decide)).1
      rw [fX9_sees_L2, e0, if_pos (by rw [le_i]; omega)]) (fun n m x hm hp => by
      obtain ⟨p1, p2, p3⟩ := hp
      have e0 : x.1 0 0 = nI (nB τ) := by rw [p1.1 0 0 rfl, frX (fun σ => σ.1 0 0) (fun _ => rfl) hs.1]; exact (rgn h.hB (by decide)).1
      have j0 := ix36 i (by omega) m (by omega)
      have h15 := hs.2.2.2.2 m hm
      have e15 : x.1 15 m = s.1 15 m := p1.1 15 m rfl
      have e16 : x.1 16 m = s.1 16 m := p1.1 16 m rfl
      -- the inner loop
      obtain ⟨y, hy, ey⟩ := loopK (S := St) (fun (k : St → Int32 → Option (St × Unit)) n' y t => fX9_sees_L46 (nI i) (nI m) k n' y (nI t)) (fun k y => k y (nI 8)) 8 (fun t y => frm a32 noL (sI x 32 (36 * i + 9 * m) (encN (st m))) y ∧ (∀ k : Nat, k < t → y.1 32 (36 * i + 9 * m + 1 + k) = Int32.ofInt (PS P0 st m k)) ∧ ∀ k : Nat, (k < 36 * i + 9 * m + 1 ∨ 36 * i + 9 * m + 9 ≤ k) → y.1 32 k = (sI x 32 (36 * i + 9 * m) (encN (st m))).1 32 k) (fun k n' y hy => by
          rw [fX9_sees_L46, if_pos (by decide)]) (fun n' t y ht hy => by
          obtain ⟨y1, y2, y3⟩ := hy
          have e18 : y.1 18 (8 * m + t) = Int32.ofInt (PS P0 st m t) := by
            rw [y1.1 18 _ rfl, sI_ne (by decide), p1.1 18 _ rfl]
            exact (hs.2.2.1 m (by rw [frX nB (fun _ => rfl) hs.1]; exact hm) t ht).1
          have j1 : nI (36 * i + 9 * m) + 1 + nI t = nI (36 * i + 9 * m + 1 + t) := by
            rw [← nI_succ, nI_plus (by omega)]
          refine ⟨sI y 32 (36 * i + 9 * m + 1 + t) (Int32.ofInt (PS P0 st m t)), ⟨frm_trans y1 (frm_sI _ _ rfl), fun k hk => ?_, fun k hk => ?_⟩, fun k => ?_⟩
          · rw [sI_at]
            by_cases w : k = t
            · rw [if_pos (by omega), w]
            · rw [if_neg (by omega)]; exact y2 k (by omega)
          · rw [sI_at, if_neg (by omega)]; exact y3 k hk
          · rw [fX9_sees_L46, if_neg (by rw [le_i, z_8, nI_toInt (by omega)]; omega), ix8' m (by omega) t ht, chk_t (inb_nI (by omega) (by decide)), j0, j1, chk_t (inb_nI (by omega) (by decide)), ix_nI (m := 36 * i + 9 * m + 1 + t) (by omega), ix_nI (m := 8 * m + t) (by omega), e18, bnd_eq, bnd_eq, nI_succ]
            all_goals rfl) FU 0 (sI x 32 (36 * i + 9 * m) (encN (st m))) (by omega) (by have : FU = 100000 := rfl; omega) ⟨frm_refl _ _ _, fun k hk => absurd hk (by omega), fun _ _ => rfl⟩
      refine ⟨y, ⟨frm_trans p1 (frm_trans (frm_sI _ _ rfl) hy.1), fun b hb => ?_, fun k hk => ?_⟩, ?_⟩
      · by_cases w : b = m
        · subst w
          refine ⟨?_, hy.2.1⟩
          rw [hy.2.2 _ (by omega), sI_at, if_pos rfl]
        · have old := p2 b (by omega)
          refine ⟨?_, fun k hk => ?_⟩
          · rw [hy.2.2 _ (by omega), sI_at, if_neg (by omega)]; exact old.1
          · rw [hy.2.2 _ (by omega), sI_at, if_neg (by omega)]; exact old.2 k hk
      · rw [hy.2.2 _ (by omega), sI_at, if_neg (by omega)]
        exact p3 k hk
      · rw [fX9_sees_L2, e0, if_neg (by rw [le_i, nI_toInt (by omega), nI_toInt (by omega)]; omega), chk_t (inb_nI (by omega) (by decide)), jp_eq, ix_nI (m := m) (by omega), j0, e15, e16]
        cases q : st m with
        | none =>
          rw [q] at ey
          rw [if_neg (h15.1 q)]
          dsimp only
          rw [chk_t (inb_nI (by omega) (by decide)), ix_nI (m := 36 * i + 9 * m) (by omega), bnd_eq, bnd_eq]
          refine (ey _).trans ?_
          rw [bnd_eq, nI_succ]
          all_goals rfl
        | some k0 =>
          rw [q] at ey
          have w := h15.2 k0 q
          rw [if_pos w.1, chk_t (inb_nI (by omega) (by decide)), w.2]
          dsimp only
          rw [chk_t (inb_nI (by omega) (by decide)), ix_nI (m := 36 * i + 9 * m) (by omega), bnd_eq, bnd_eq]
          refine (ey _).trans ?_
          rw [bnd_eq, nI_succ]
          all_goals rfl) FU 0 s (by omega) (by have : FU = 100000 := rfl; omega) ⟨frm_refl _ _ _, fun b hb => absurd hb (by omega), fun _ _ => rfl⟩
  exact ⟨s2, e, hp⟩
def allE (f g : Nat → Int32) : Nat → Bool
  | 0 => true
  | m + 1 => allE f g m && decide (f m = g m)
theorem allE_iff {f g : Nat → Int32} : ∀ m : Nat, allE f g m = true ↔ ∀ k : Nat, k < m → f k = g k := by
  intro m
  induction m with
  | zero => exact ⟨fun _ k hk => absurd hk (by omega), fun _ => rfl⟩
  | succ m ih =>
    rw [allE, Bool.and_eq_true, decide_eq_true_iff, ih]
    refine ⟨fun q k hk => ?_, fun q => ⟨fun k hk => q k (by omega), q m (by omega)⟩⟩
    by_cases w : k = m
    · subst w; exact q.2
    · exact q.1 k (by omega)
theorem encN_inj {a b : Option Nat} (ha : ∀ k : Nat, a = some k → k < 100) (hb : ∀ k : Nat, b = some k → k < 100) (h : encN a = encN b) : a = b := by
  cases a with
  | none => cases b with
    | none => rfl
    | some k => exact absurd h.symm (nI_ne_m1 (by have := hb k rfl; omega))
  | some j => cases b with
    | none => exact absurd h (nI_ne_m1 (by have := ha j rfl; omega))
    | some k => rw [(ofNI (by have := ha j rfl; omega) (by have := hb k rfl; omega)).mp h]
theorem likeM {s τ : St} {P0 : Nat → Nat → Int} {sa sb : Nat → Option Nat} (h : okM τ) (hx : coreX s = coreX τ) {i j : Nat} (hi : i ≤ 60) (hj : j ≤ 60) (ha : seen s (nB τ) i P0 sa) (hb : seen s (nB τ) j P0 sb) (oa : ∀ b : Nat, b < nB τ → ∀ k : Nat, sa b = some k → k < 8) (ob : ∀ b : Nat, b < nB τ → ∀ k : Nat, sb b = some k → k < 8) : fX9_isLike s (nI i) (nI j) = some (s, b01 (decide (cdN sa (nB τ) = cdN sb (nB τ)))) := by
  have h4 := h.n4
  have e0 : s.1 0 0 = nI (nB τ) := by rw [frX (fun σ => σ.1 0 0) (fun _ => rfl) hx]; exact (rgn h.hB (by decide)).1
  have e9 : (9 : Int32) * nI (nB τ) = nI (9 * nB τ) := by
    have : ∀ n : Nat, n < 5 → (9 : Int32) * nI n = nI (9 * n) := by decide +kernel
    exact this _ (by omega)
  have j36 : ∀ t : Nat, t ≤ 60 → (36 : Int32) * nI t = nI (36 * t) := by
    have : ∀ t : Nat, t < 61 → (36 : Int32) * nI t = nI (36 * t) := by decide +kernel
    exact fun t ht => this t (by omega)
  unfold fX9_isLike
  rw [bnd_eq, bnd_eq]
  obtain ⟨x, hp, e⟩ := loopG (S := Int32) (fun n x m => fX9_isLike_L5 (nI i) (nI j) (fun (σ_8 : St) (x3_9 : Int32) (_ : Int32) => chk (isB x3_9) (some (σ_8, x3_9))) n s x (nI m)) (9 * nB τ) (fun m x => x = b01 (allE (fun k => s.1 32 (36 * i + k)) (fun k => s.1 32 (36 * j + k)) m)) (fun x => chk (isB x) (some (s, x))) (fun n x hp => by
      show fX9_isLike_L5 _ _ _ (n + 1) s x _ = _
      rw [fX9_isLike_L5, e0, e9, if_pos (by rw [le_i]; omega)]) (fun n m x hm hp => by
      refine ⟨b01 (allE (fun k => s.1 32 (36 * i + k)) (fun k => s.1 32 (36 * j + k)) (m + 1)), rfl, ?_⟩
      show fX9_isLike_L5 _ _ _ (n + 1) s x _ = fX9_isLike_L5 _ _ _ n s (b01 (allE (fun k => s.1 32 (36 * i + k)) (fun k => s.1 32 (36 * j + k)) (m + 1))) _
      rw [fX9_isLike_L5, e0, e9, if_neg (by rw [le_i, nI_toInt (by omega), nI_toInt (by omega)]; omega), jp_eq, jp_eq, allE]
      cases ea : allE (fun k => s.1 32 (36 * i + k)) (fun k => s.1 32 (36 * j + k)) m with
      | false =>
        rw [ea] at hp
        rw [if_pos (show x = 0 from hp)]
        dsimp only
        rw [bnd_eq, bnd_eq, nI_succ]
        all_goals rfl
      | true =>
        rw [ea] at hp
        rw [if_neg (by rw [show x = 1 from hp]; exact one0), j36 i hi, j36 j hj, nI_plus (by omega), nI_plus (by omega), chk_t (inb_nI (by omega) (by decide)), chk_t (inb_nI (by omega) (by decide)), ix_nI (m := 36 * i + m) (by omega), ix_nI (m := 36 * j + m) (by omega)]
        by_cases w : s.1 32 (36 * i + m) = s.1 32 (36 * j + m)
        · rw [if_pos w]
          dsimp only
          rw [bnd_eq, bnd_eq, decide_eq_true w, nI_succ]
          all_goals rfl
        · rw [if_neg w]
          dsimp only
          rw [bnd_eq, bnd_eq, decide_eq_false w, nI_succ]
          all_goals rfl) FU 0 1 (by omega) (by have : FU = 100000 := rfl; omega) rfl
  refine e.trans ?_
  have ev : allE (fun k => s.1 32 (36 * i + k)) (fun k => s.1 32 (36 * j + k)) (9 * nB τ) = decide (cdN sa (nB τ) = cdN sb (nB τ)) := by
    rw [Bool.eq_iff_iff, decide_eq_true_iff, allE_iff]
    constructor
    · intro q
      refine cdN_congr (nB τ) (fun b hb' => ?_)
      have := q (9 * b) (by omega)
      rw [(ha b hb').1, (hb b hb').1] at this
      exact encN_inj (fun k hk => by have := oa b hb' k hk; omega) (fun k hk => by have := ob b hb' k hk; omega) this
    · intro q k hk
      have dgl : ∀ (o : Nat → Option Nat), (∀ b : Nat, b < nB τ → ∀ k : Nat, o b = some k → k < 8) → ∀ b : Nat, b < nB τ → dg (o b) < 9 := fun o ho b hb => by
        cases e : o b with
        | none => exact (by decide : (0 : Nat) < 9)
        | some k => have := ho b hb k e
                    show k + 1 < 9
                    omega
      have eq := cdN_inj (nB τ) (dgl sa oa) (dgl sb ob) q
      have hb9 : k / 9 < nB τ := by omega
      have ee := eq (k / 9) hb9
      by_cases w : k % 9 = 0
      · have a1 := (ha (k / 9) hb9).1
        have a2 := (hb (k / 9) hb9).1
        rw [show 36 * i + 9 * (k / 9) = 36 * i + k by omega] at a1
        rw [show 36 * j + 9 * (k / 9) = 36 * j + k by omega] at a2
        show s.1 32 (36 * i + k) = s.1 32 (36 * j + k)
        rw [a1, a2, ee]
      · have a1 := (ha (k / 9) hb9).2 (k % 9 - 1) (by omega)
        have a2 := (hb (k / 9) hb9).2 (k % 9 - 1) (by omega)
        rw [show 36 * i + 9 * (k / 9) + 1 + (k % 9 - 1) = 36 * i + k by omega] at a1
        rw [show 36 * j + 9 * (k / 9) + 1 + (k % 9 - 1) = 36 * j + k by omega] at a2
        show s.1 32 (36 * i + k) = s.1 32 (36 * j + k)
        rw [a1, a2]
        congr 1
        cases e2 : sa (k / 9) with
        | none => rw [PS_none e2, PS_none (ee.symm.trans e2)]
        | some v => rw [PS_some e2, PS_some (ee.symm.trans e2)]
  rw [hp, ev]
  cases decide (cdN sa (nB τ) = cdN sb (nB τ)) <;> rfl
