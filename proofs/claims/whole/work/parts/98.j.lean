/-! best law -/
/-- the model with the law before m in force (0: none) -/
def fL (m : Nat) : Int32 := nI m - 1
def lI (τ : St) (m : Nat) : St := sI τ 0 39 (fL m)
def nL (τ : St) : Nat := (τ.1 0 38).toInt.toNat
theorem okM.nl {τ : St} (h : okM τ) : (τ.1 0 38).toInt = (nL τ : Int) ∧ nL τ ≤ 6 ∧ τ.1 0 38 = nI (nL τ) := by
  have := h.hl.1
  have := h.hl.2
  have e : (τ.1 0 38).toInt = (nL τ : Int) := by unfold nL; omega
  exact ⟨e, by unfold nL; omega, nI_mk (by omega)⟩
theorem fL_i {m : Nat} (hm : m < 1000) : (fL m).toInt = (m : Int) - 1 := by
  unfold fL
  rw [i32_sub (by rw [z_1, nI_toInt (by omega)]; omega) (by rw [z_1, nI_toInt (by omega)]; omega), z_1, nI_toInt (by omega)]
theorem fL_s (m : Nat) : fL m + 1 = fL (m + 1) := by
  unfold fL
  rw [nI_succ, Int32.sub_add_cancel, Int32.add_sub_cancel]
theorem frc_lI (τ : St) {m : Nat} (hm : m < 1000) : frc (lI τ m) = (m : Int) - 1 := fL_i hm
theorem lI_ok {τ : St} (h : okM τ) {m : Nat} (hm : m ≤ nL τ) : okM (lI τ m) := by
  have nl := h.nl
  have hf : -1 ≤ frc (lI τ m) ∧ frc (lI τ m) < ((lI τ m).1 0 38).toInt := by
    rw [frc_lI τ (by omega)]
    show _ ∧ _ < (τ.1 0 38).toInt
    omega
  exact ⟨h.hB, h.hS, h.hK, h.hF, h.hY, h.hD, h.hL, h.hs, h.hP, hf, h.hl, h.hlaw, h.hc⟩
theorem earnC_sh {τ : St} {sh sh' : Prop} [i1 : Decidable sh] [i2 : Decidable sh'] (e : sh ↔ sh') (dr : Nat → Nat) (cost : Int) (b : Nat) (r : Nat → Nat) : earnC τ sh dr cost b r = earnC τ sh' dr cost b r := by
  have := propext e
  subst this
  rw [Subsingleton.elim i1 i2]
theorem payG_sh {τ : St} {sh sh' : Prop} [i1 : Decidable sh] [i2 : Decidable sh'] (e : sh ↔ sh') (s : Nat) (r : Nat → Nat) : payG τ sh s r = payG τ sh' s r ∧ boG τ sh s r = boG τ sh' s r := by
  have := propext e
  subst this
  rw [Subsingleton.elim i1 i2]
  exact ⟨rfl, rfl⟩
theorem mF_sh {τ : St} {sh sh' : Prop} [Decidable sh] [Decidable sh'] (e : sh ↔ sh') (s K : Nat) (o : Option Nat) : mF τ sh s K o = mF τ sh' s K o := by
  unfold mF
  cases o with
  | none => rfl
  | some p =>
    have := payG_sh (τ := τ) e s (rowAt K p)
    show mnV (payG τ sh s (rowAt K p)) (boG τ sh s (rowAt K p)) = mnV (payG τ sh' s (rowAt K p)) (boG τ sh' s (rowAt K p))
    rw [this.1, this.2]
/-- the rests in a case are those by the law -/
theorem lI_rest {τ : St} (h : okM τ) {sh : Prop} [Decidable sh] {bar : Nat → Prop} {m p i : Nat} (hsh : sh ↔ shN (lI τ m)) (hbar : ∀ k : Nat, bar k ↔ barN (lI τ m) k) : (∀ b : Nat, b < nB τ → okB τ sh (nmd τ) bar (csC τ none b i) b (rowAt (nK τ) p)) ↔ rsK (lI τ m) p = true := by
  have h8 := h.k8
  have ec : ∀ b : Nat, csC τ none b i = cst τ b := fun b => by
    unfold csC
    rw [if_neg (by intro z; cases z), Int.add_zero]
  have ee : ∀ (b : Nat) (r : Nat → Nat), earnF (lI τ m) (shN (lI τ m)) (nmd (lI τ m)) b r = earnC τ sh (nmd τ) (csC τ none b i) b r := fun b r => by
    rw [ec, earnC_sh hsh]
    rfl
  rw [rsK_iff]
  show _ ↔ restF (lI τ m) (barN (lI τ m)) (shN (lI τ m)) (rowAt (nK τ) p)
  unfold restF
  constructor
  · intro q
    refine ⟨fun b hb => ⟨rowAt_lt (K := nK τ) (by omega), fun z => (q b hb).1 ((hbar _).mpr z)⟩, fun b hb k hk hb2 => ?_⟩
    rw [ee, ee]
    exact (q b hb).2 k hk (fun z => hb2 ((hbar k).mp z))
  · intro q b hb
    refine ⟨fun z => (q.1 b hb).2 ((hbar _).mp z), fun k hk hb2 => ?_⟩
    have := q.2 b hb k hk (fun z => hb2 ((hbar k).mpr z))
    rw [ee, ee] at this
    exact this
/-- what a sort pays by the first rest, with the law before m -/
noncomputable def muL (τ : St) (s m : Nat) : Int32 := mF (lI τ m) (shN (lI τ m)) s (nK τ) (nthN (rsK (lI τ m)) 0 (nK τ ^ nB τ))
/-- the best of the first n: the first one with the least mean -/
def bsL (μ : Nat → Int32) : Nat → Option Nat
  | 0 => none
  | m + 1 => if μ m = -1 then bsL μ m else match bsL μ m with
    | none => some m
    | some j => if μ j ≤ μ m then some j else some m
theorem bsL_x {μ : Nat → Int32} {m : Nat} (h : μ m = -1) : bsL μ (m + 1) = bsL μ m := by rw [bsL, if_pos h]
theorem bsL_0 {μ : Nat → Int32} {m : Nat} (h : ¬ μ m = -1) (e : bsL μ m = none) : bsL μ (m + 1) = some m := by rw [bsL, if_neg h, e]
theorem bsL_k {μ : Nat → Int32} {m j : Nat} (h : ¬ μ m = -1) (e : bsL μ m = some j) : bsL μ (m + 1) = if μ j ≤ μ m then some j else some m := by rw [bsL, if_neg h, e]
theorem bsL_lt {μ : Nat → Int32} : ∀ m j : Nat, bsL μ m = some j → j < m := by
  intro m
  induction m with
  | zero => intro j h; cases h
  | succ m ih =>
    intro j h
    by_cases w : μ m = -1
    · rw [bsL_x w] at h; have := ih j h; omega
    · cases e : bsL μ m with
      | none => rw [bsL_0 w e] at h; cases h; omega
      | some q =>
        have := ih q e
        rw [bsL_k w e] at h
        by_cases w2 : μ q ≤ μ m
        · rw [if_pos w2] at h; cases h; omega
        · rw [if_neg w2] at h; cases h; omega
def isE (o : Option Nat) : Int32 := match o with
  | none => -1
  | some 0 => 9
  | some (j + 1) => nI j
def mnE (μ : Nat → Int32) (o : Option Nat) : Int32 := match o with
  | none => -1
  | some j => μ j
theorem isE_m1 {o : Option Nat} (h : ∀ j : Nat, o = some j → j < 100) : (isE o = -1) ↔ o = none := by
  cases o with
  | none => exact ⟨fun _ => rfl, fun _ => rfl⟩
  | some j =>
    refine ⟨fun q => ?_, fun q => (by cases q)⟩
    cases j with
    | zero => exact absurd q (by decide)
    | succ j => exact absurd q (nI_ne_m1 (by have := h _ rfl; omega))
def relF (s τ : St) : Prop := ∀ x : Int32, core (sI s 0 39 x) = core (sI τ 0 39 x)
def a65 (c k : Nat) : Bool := Nat.beq c 0 && (Nat.ble 65 k && Nat.ble k 66)
theorem a65_sc : ∀ c k : Nat, a65 c k = true → scM c k = true := by
  intro c k h
  unfold a65 at h
  rw [Bool.and_eq_true, Bool.and_eq_true] at h
  have h1 := Nat.eq_of_beq_eq_true h.1
  have h2 := Nat.le_of_ble_eq_true h.2.1
  have h3 := Nat.le_of_ble_eq_true h.2.2
  subst h1
  have : k = 65 ∨ k = 66 := by omega
  rcases this with w | w <;> subst w <;> rfl
theorem relF_fr {s s' τ : St} (hc : core s' = core s) (h : relF s τ) : relF s' τ := fun x => (core_sI hc 0 39 x).trans (h x)
theorem relF_w {s τ : St} (y : Int32) (h : relF s τ) : relF (sI s 0 39 y) τ := fun x => by rw [sI_sI]; exact h x
/-- one law asked, in the model -/
theorem askM {s τ : St} (h : okM τ) (hr : relF s τ) (h27 : ∀ i : Nat, s.1 27 i = τ.1 27 i) (hdr : drOK τ (nmd τ)) {m : Nat} (hm : m ≤ nL τ) {so : Nat} (hso : so < nS τ) : ∃ (s2 : St) (n : Int32), fX9_countRests (sI s 0 39 (fL m)) = some (s2, n) ∧ core s2 = core (lI τ m) ∧ (∀ i : Nat, s2.1 27 i = τ.1 27 i) ∧ s2.1 0 65 = s.1 0 65 ∧ s2.1 0 66 = s.1 0 66 ∧ ((n = 0 ∧ muL τ so m = -1) ∨ (¬ n = 0 ∧ ∃ s3 s4 s5 : St, fX9_clears s2 = some (s3, ()) ∧ fX9_lays_ s3 (s3.1 0 57) 1 = some (s4, ()) ∧ fX9_rowBuys s4 = some (s5, ()) ∧ fX9_meanNow s5 (nI so) = some (s5, muL τ so m) ∧ core s5 = core (lI τ m) ∧ (∀ i : Nat, s5.1 27 i = τ.1 27 i) ∧ s5.1 0 65 = s.1 0 65 ∧ s5.1 0 66 = s.1 0 66)) := by
  have h4 := h.n4
  have h8 := h.k8
  have h12 := h.n12
  have p8 := pow8 h4
  have nl := h.nl
  have hc : core (sI s 0 39 (fL m)) = core (lI τ m) := hr (fL m)
  have okl := lI_ok h hm
  have hok := okM_fr hc okl
  have hN : nB (sI s 0 39 (fL m)) = nB τ := (fr nB (fun _ => rfl) hc).trans rfl
  have hnm : nmd (sI s 0 39 (fL m)) = nmd τ := (fr nmd (fun _ => rfl) hc).trans rfl
  have hdm : ∀ y : St, core y = core (lI τ m) → (∀ i : Nat, y.1 27 i = τ.1 27 i) → drOK y (nmd τ) := fun y hy h27y => by
    intro i hi hk
    rw [h27y i, show nB y = nB τ from (fr nB (fun _ => rfl) hy).trans rfl]
    rw [show nS y = nS τ from (fr nS (fun _ => rfl) hy).trans rfl] at hi
    rw [show knd y i = knd τ i from (fr (fun σ => knd σ i) (fun _ => rfl) hy).trans rfl] at hk
    exact hdr i hi hk
  obtain ⟨s2, b1, b2, b3, _⟩ := countM hok (by
    rw [hnm]
    exact hdm _ hc (fun i => by rw [sI_ne (by decide)]; exact h27 i))
  have hc2 : core s2 = core (lI τ m) := (core_frm b2 aCn_sc).trans hc
  have e27 : ∀ i : Nat, s2.1 27 i = τ.1 27 i := fun i => by
    rw [b2.1 27 i rfl, sI_ne (by decide)]
    exact h27 i
  rw [rs8_fr hc, hN] at b1 b3
  have ca : cntN (rs8 (lI τ m)) (8 ^ nB τ) = cntN (rsK (lI τ m)) (nK τ ^ nB τ) := cnt_all (n := nB τ) (K := nK τ) (by omega) h8.1 (rs_enc okl) (rs_dig (τ := lI τ m))
  have na : nthN (rs8 (lI τ m)) 0 (8 ^ nB τ) = (nthN (rsK (lI τ m)) 0 (nK τ ^ nB τ)).map (enc8 (nK τ) (nB τ)) := nth_enc (n := nB τ) (K := nK τ) (by omega) h8.1 (rs_enc okl) (rs_dig (τ := lI τ m))
  have u1 := cntN_ub (f := rs8 (lI τ m)) (8 ^ nB τ)
  have k65 : s2.1 0 65 = s.1 0 65 := b2.1 0 65 rfl
  have k66 : s2.1 0 66 = s.1 0 66 := b2.1 0 66 rfl
  refine ⟨s2, _, b1, hc2, e27, k65, k66, ?_⟩
  cases en : nthN (rsK (lI τ m)) 0 (nK τ ^ nB τ) with
  | none =>
    have z := nthN_none en
    left
    refine ⟨?_, ?_⟩
    · rw [show cntN (rs8 (lI τ m)) (8 ^ nB τ) = 0 by omega]; rfl
    · unfold muL; rw [en]; rfl
  | some p =>
    right
    have ps := nthN_some _ en
    have hp := ps.1
    rw [en] at na
    have na : nthN (rs8 (lI τ m)) 0 (8 ^ nB τ) = some (enc8 (nK τ) (nB τ) p) := na
    have pos : 0 < cntN (rs8 (lI τ m)) (8 ^ nB τ) := by
      cases z : cntN (rs8 (lI τ m)) (8 ^ nB τ) with
      | zero => rw [nthN_ge (by omega)] at na; cases na
      | succ z => omega
    refine ⟨fun z => ?_, ?_⟩
    · rw [eq_i, z_0, nI_toInt (by omega)] at z
      omega
    obtain ⟨s3, a1, a2, a3⟩ := clearsM s2
    have hc3 : core s3 = core (lI τ m) := (core_frm a2 noI_sc).trans hc2
    have e57 : s3.1 0 57 = nI (enc8 (nK τ) (nB τ) p) := by
      rw [a2.1 0 57 rfl, b3, na]
      rfl
    have el := enc8_lt (K := nK τ) (n := nB τ) (p := p) (by omega) h8.1
    have hN3 : nB s3 = nB τ := (fr nB (fun _ => rfl) hc3).trans rfl
    obtain ⟨s4, d1, d2, d3, d4⟩ := laysP (okM_fr hc3 okl) (c := enc8 (nK τ) (nB τ) p) (by rw [hN3]; exact el)
    have hc4 : core s4 = core (lI τ m) := (core_frm d2 aRow_sc).trans hc3
    rw [enc8_row (by omega) h8.1 hp] at d3
    have su4 : sums s4 (fun _ => 0) (fun _ => 0) (fun _ => 0) (fun _ => 0) (fun _ => 0) := sums_fr (fun c k c1 c2 => d2.2 c k (by
      have : Nat.beq c 0 = false := by cases c with
        | zero => omega
        | succ c => rfl
      show (Nat.beq c 0 && Nat.beq k 47) = false
      rw [this]; rfl)) a3
    have e27' : ∀ i : Nat, s4.1 27 i = τ.1 27 i := fun i => by rw [d2.1 27 i rfl, a2.1 27 i rfl]; exact e27 i
    obtain ⟨s5, g1, g2, g3⟩ := rowBuysS (okM_fr hc4 okl) d3 (hdm s4 hc4 e27') 1 d4 su4
    have hc5 : core s5 = core (lI τ m) := (core_frm g2 noI_sc).trans hc4
    have pS : payS s4 (nmd τ) (rowAt (nK τ) p) so = payG (lI τ m) (shN (lI τ m)) so (rowAt (nK τ) p) := fr (fun σ => payS σ (nmd τ) (rowAt (nK τ) p) so) (fun _ => rfl) hc4
    have bS : boS s4 (nmd τ) (rowAt (nK τ) p) so = boG (lI τ m) (shN (lI τ m)) so (rowAt (nK τ) p) := fr (fun σ => boS σ (nmd τ) (rowAt (nK τ) p) so) (fun _ => rfl) hc4
    have ns4 : nS s4 = nS τ := (fr nS (fun _ => rfl) hc4).trans rfl
    have q24 : s5.2 24 so = Int64.ofInt (payG (lI τ m) (shN (lI τ m)) so (rowAt (nK τ) p)) := by
      rw [(g3.2 so (by omega)).1]
      unfold addP
      rw [if_pos (by rw [ns4]; exact hso)]
      dsimp only
      rw [pS, Int.zero_add, Int.one_mul]
    have q25 : s5.2 25 so = Int64.ofInt (boG (lI τ m) (shN (lI τ m)) so (rowAt (nK τ) p)) := by
      rw [(g3.2 so (by omega)).2.1]
      unfold addP
      rw [if_pos (by rw [ns4]; exact hso)]
      dsimp only
      rw [bS, Int.zero_add, Int.one_mul]
    have bb := boG_b okl (shN (lI τ m)) (s := so) hso (rowAt (nK τ) p)
    have mm := meanNowM (τ := s5) (s := so) (by omega) q24 q25 (by omega)
    refine ⟨s3, s4, s5, a1, by rw [e57]; exact d1, g1, ?_, hc5, fun i => by rw [g2.1 27 i rfl]; exact e27' i, ?_, ?_⟩
    · rw [mm]
      unfold muL
      rw [en]
      rfl
    · rw [g2.1 0 65 rfl, d2.1 0 65 rfl, a2.1 0 65 rfl]; exact k65
    · rw [g2.1 0 66 rfl, d2.1 0 66 rfl, a2.1 0 66 rfl]; exact k66
theorem asksM {τ : St} (h : okM τ) {so : Nat} (hso : so < nS τ) : ∃ τ', fX9_asksLaws τ (nI so) = some (τ', ()) ∧ core τ' = core τ ∧ τ'.1 0 65 = isE (bsL (muL τ so) (nL τ + 1)) ∧ τ'.1 0 66 = mnE (muL τ so) (bsL (muL τ so) (nL τ + 1)) := by
  have nl := h.nl
  have f0 : core (sI (sI τ 0 65 (-1)) 0 66 (-1)) = core τ := core_frm (frm_trans (frm_sI (a := a65) (b := noL) _ _ rfl) (frm_sI (a := a65) (b := noL) _ _ rfl)) a65_sc
  have v65 : (sI (sI τ 0 65 (-1)) 0 66 (-1)).1 0 65 = -1 := rfl
  have v66 : (sI (sI τ 0 65 (-1)) 0 66 (-1)).1 0 66 = -1 := rfl
  unfold fX9_asksLaws
  rw [bnd_eq, bnd_eq, bnd_eq]
  generalize sI (sI τ 0 65 (-1)) 0 66 (-1) = τ0 at f0 v65 v66
  obtain ⟨τ1, k1, k2, k3, k4⟩ := knocksM (okM_fr f0 h)
  have hc1 : core τ1 = core τ := (core_frm k2 aKno_sc).trans f0
  have hM1 := okM_fr hc1 h
  have dr1 : drOK τ1 (nmd τ1) := by rw [fr nmd (fun _ => rfl) ((core_frm k2 aKno_sc) : core τ1 = core τ0)]; exact k4
  have nl1 : nL τ1 = nL τ := fr nL (fun _ => rfl) hc1
  have ns1 : nS τ1 = nS τ := fr nS (fun _ => rfl) hc1
  have emu : ∀ m : Nat, muL τ1 so m = muL τ so m := fun m => by
    have hl : core (lI τ1 m) = core (lI τ m) := core_sI hc1 0 39 (fL m)
    have e1 : rsK (lI τ1 m) = rsK (lI τ m) := by
      funext p
      have : restD (lI τ1 m) (frc (lI τ1 m)) (rowAt (nK (lI τ1 m)) p) = restD (lI τ m) (frc (lI τ m)) (rowAt (nK (lI τ m)) p) := fr (fun s => restD s (frc s) (rowAt (nK s) p)) (fun _ => rfl) hl
      unfold rsK
      congr 1
    unfold muL
    rw [e1, fr nK (fun _ => rfl) hc1, fr nB (fun _ => rfl) hc1]
    exact fr (fun s => mF s (shN s) so (nK τ) (nthN (rsK (lI τ m)) 0 (nK τ ^ nB τ))) (fun _ => rfl) hl
  have emu : muL τ1 so = muL τ so := funext emu
  rw [k1, cl_some, bnd_eq]
  obtain ⟨x, hx, e⟩ := loopK (S := St) (fun (k : St → Int32 → Option (St × Unit)) n s m => fX9_asksLaws_L21 (nI so) (τ.1 0 39) k n s (fL m)) (fun k s => k s (fL (nL τ + 1))) (nL τ + 1) (fun m s => relF s τ1 ∧ (∀ i : Nat, s.1 27 i = τ1.1 27 i) ∧ s.1 0 65 = isE (bsL (muL τ so) m) ∧ s.1 0 66 = mnE (muL τ so) (bsL (muL τ so) m)) (fun k n s hp => by
      have e38 : s.1 0 38 = nI (nL τ) := by
        have := hp.1 0
        have e1 : (sI s 0 39 0).1 0 38 = (sI τ1 0 39 0).1 0 38 := fr (fun σ => σ.1 0 38) (fun _ => rfl) this
        have e2 : s.1 0 38 = τ1.1 0 38 := e1
        rw [e2, ← nl1]
        exact hM1.nl.2.2
      rw [fX9_asksLaws_L21, e38, if_pos (by rw [le_i, nI_toInt (by omega), fL_i (by omega)]; omega)]) (fun n m s hm hp => by
      obtain ⟨p1, p2, p3, p4⟩ := hp
      have e38 : s.1 0 38 = nI (nL τ) := by
        have := p1 0
        have e1 : (sI s 0 39 0).1 0 38 = (sI τ1 0 39 0).1 0 38 := fr (fun σ => σ.1 0 38) (fun _ => rfl) this
        have e2 : s.1 0 38 = τ1.1 0 38 := e1
        rw [e2, ← nl1]
        exact hM1.nl.2.2
      obtain ⟨s2, n2, b1, b2, b3, b4, b5, b6⟩ := askM hM1 p1 p2 dr1 (m := m) (by rw [nl1]; omega) (so := so) (by rw [ns1]; exact hso)
      rw [emu] at b6
      have rel2 : relF s2 τ1 := fun x => by
        rw [core_sI b2 0 39 x]
        unfold lI
        rw [sI_sI]
      have go : ¬ nI (nL τ) ≤ fL m := by rw [le_i, nI_toInt (by omega), fL_i (by omega)]; omega
      rcases b6 with ⟨n0, mu⟩ | ⟨n0, s3, s4, s5, d1, d2, d3, d4, d5, d6, d7, d8⟩
      · refine ⟨s2, ⟨rel2, b3, by rw [b4, bsL_x mu]; exact p3, by rw [b5, bsL_x mu]; exact p4⟩, fun k => ?_⟩
        rw [fX9_asksLaws_L21, e38, if_neg go, bnd_eq, b1, cl_some, jp_eq, if_pos n0]
        dsimp only
        rw [bnd_eq, fL_s]
      · have rel5 : relF s5 τ1 := fun x => by
          rw [core_sI d5 0 39 x]
          unfold lI
          rw [sI_sI]
        have bl := bsL_lt (μ := muL τ so) m
        by_cases mu : muL τ so m = -1
        · refine ⟨s5, ⟨rel5, d6, by rw [d7, bsL_x mu]; exact p3, by rw [d8, bsL_x mu]; exact p4⟩, fun k => ?_⟩
          rw [fX9_asksLaws_L21, e38, if_neg go, bnd_eq, b1, cl_some, jp_eq, if_neg n0, d1, cl_some, d2, cl_some, d3, cl_some, d4, cl_some, bnd_eq, if_pos mu]
          dsimp only
          rw [bnd_eq, fL_s]
        · have take : bsL (muL τ so) (m + 1) = some m → ∃ s' : St, (relF s' τ1 ∧ (∀ i : Nat, s'.1 27 i = τ1.1 27 i) ∧ s'.1 0 65 = isE (bsL (muL τ so) (m + 1)) ∧ s'.1 0 66 = mnE (muL τ so) (bsL (muL τ so) (m + 1))) ∧ ∀ k : St → Int32 → Option (St × Unit), (if fL m = (-1 : Int32) then bnd (sI s5 0 65 9) fun (σ_24 : St) => bnd (sI σ_24 0 66 (muL τ so m)) fun (σ_25 : St) => bnd (fL m + (1 : Int32)) fun (x3_11 : Int32) => fX9_asksLaws_L21 (nI so) (τ.1 0 39) k n σ_25 x3_11 else bnd (sI s5 0 65 (fL m)) fun (σ_24 : St) => bnd (sI σ_24 0 66 (muL τ so m)) fun (σ_25 : St) => bnd (fL m + (1 : Int32)) fun (x3_11 : Int32) => fX9_asksLaws_L21 (nI so) (τ.1 0 39) k n σ_25 x3_11) = fX9_asksLaws_L21 (nI so) (τ.1 0 39) k n s' (fL (m + 1)) := by
            intro eb
            have cw : ∀ y : Int32, core (sI (sI s5 0 65 y) 0 66 (muL τ so m)) = core s5 := fun y => core_frm (frm_trans (frm_sI (a := a65) (b := noL) _ _ rfl) (frm_sI (a := a65) (b := noL) _ _ rfl)) a65_sc
            rw [eb]
            by_cases m0 : m = 0
            · subst m0
              refine ⟨sI (sI s5 0 65 9) 0 66 (muL τ so 0), ⟨relF_fr (cw 9) rel5, d6, rfl, rfl⟩, fun k => ?_⟩
              rw [if_pos (by decide), bnd_eq, bnd_eq, bnd_eq, fL_s]
            · have fm : fL m = nI (m - 1) := by
                rw [eq_i, fL_i (by omega), nI_toInt (by omega)]
                omega
              refine ⟨sI (sI s5 0 65 (fL m)) 0 66 (muL τ so m), ⟨relF_fr (cw _) rel5, d6, ?_, rfl⟩, fun k => ?_⟩
              · show fL m = _
                obtain ⟨j, hj⟩ : ∃ j : Nat, m = j + 1 := ⟨m - 1, by omega⟩
                subst hj
                rw [fm]
                rfl
              · rw [if_neg (by rw [fm]; exact nI_ne_m1 (by omega)), bnd_eq, bnd_eq, bnd_eq, fL_s]
          cases eb : bsL (muL τ so) m with
          | none =>
            obtain ⟨s', t1, t2⟩ := take (bsL_0 mu eb)
            refine ⟨s', t1, fun k => ?_⟩
            rw [fX9_asksLaws_L21, e38, if_neg go, bnd_eq, b1, cl_some, jp_eq, if_neg n0, d1, cl_some, d2, cl_some, d3, cl_some, d4, cl_some, bnd_eq, if_neg mu, jp_eq, d7, p3, eb, if_pos (show isE none = -1 from rfl)]
            exact t2 k
          | some j =>
            have jl := bl j eb
            have n65 : ¬ isE (some j) = -1 := fun z => by
              have := (isE_m1 (o := some j) (fun q hq => by cases hq; omega)).mp z
              cases this
            by_cases w : muL τ so j ≤ muL τ so m
            · have ek : bsL (muL τ so) (m + 1) = some j := by rw [bsL_k mu eb, if_pos w]
              refine ⟨s5, ⟨rel5, d6, by rw [d7, p3, ek, eb], by rw [d8, p4, ek, eb]⟩, fun k => ?_⟩
              rw [fX9_asksLaws_L21, e38, if_neg go, bnd_eq, b1, cl_some, jp_eq, if_neg n0, d1, cl_some, d2, cl_some, d3, cl_some, d4, cl_some, bnd_eq, if_neg mu, jp_eq, d7, p3, eb, if_neg n65, d8, p4, eb, if_neg (show ¬ muL τ so m < mnE (muL τ so) (some j) by
                show ¬ muL τ so m < muL τ so j
                rw [lt_i]
                rw [le_i] at w
                omega)]
              dsimp only
              rw [bnd_eq, fL_s]
            · obtain ⟨s', t1, t2⟩ := take (by rw [bsL_k mu eb, if_neg w])
              refine ⟨s', t1, fun k => ?_⟩
              rw [fX9_asksLaws_L21, e38, if_neg go, bnd_eq, b1, cl_some, jp_eq, if_neg n0, d1, cl_some, d2, cl_some, d3, cl_some, d4, cl_some, bnd_eq, if_neg mu, jp_eq, d7, p3, eb, if_neg n65, d8, p4, eb, if_pos (show muL τ so m < mnE (muL τ so) (some j) by
                show muL τ so m < muL τ so j
                rw [lt_i]
                rw [le_i] at w
                omega)]
              exact t2 k) FU 0 τ1 (by omega) (by have : FU = 100000 := rfl; omega) ⟨fun x => rfl, fun _ => rfl, (k2.1 0 65 rfl).trans v65, (k2.1 0 66 rfl).trans v66⟩
  have e : ∀ k : St → Int32 → Option (St × Unit), fX9_asksLaws_L21 (nI so) (τ.1 0 39) k FU τ1 (-1) = k x (fL (nL τ + 1)) := e
  rw [e, bnd_eq]
  refine ⟨sI x 0 39 (τ.1 0 39), rfl, ?_, hx.2.2.1, hx.2.2.2⟩
  rw [hx.1 (τ.1 0 39), core_sI hc1 0 39 (τ.1 0 39), sI_id τ 0 39 _ rfl]
