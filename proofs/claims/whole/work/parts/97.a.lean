/-! settle -/
theorem takePartsC {σ τ : St} {dr : Nat → Nat} (h : okM τ) (ha : okA τ) (c : clsR σ τ dr) (hfree : ∀ k : Nat, k < 8 → (frB (σ.1 43 15) k ↔ k < nK τ ∧ ¬ barN τ k)) {b : Nat} (hb : b < nB τ) : ∃ (σ' : St) (x : Int32), fX7_takeParts σ (nI b) = some (σ', x) ∧ frm (mk 45 45) noL σ σ' ∧ (∀ i : Nat, (i < 8 * b ∨ 8 * b + 8 ≤ i) → σ'.1 45 i = σ.1 45 i) ∧ ((x = 1 ∧ okLot τ b ∧ ∀ k : Nat, k < 8 → σ'.1 45 (8 * b + k) = Int32.ofInt (lotP τ b k)) ∨ (x = 0 ∧ ¬ okLot τ b)) := by
  have h4 := h.n4
  have h8 := h.k8
  unfold fX7_takeParts
  rw [bnd_eq, bnd_eq]
  have key := loopX (S := St × Int32) (fun n s m => fX7_takeParts_L4 (nI b) (fun (σ_10 : St) (x2_11 : Int32) (_ : Int32) => (if x2_11 = (100 : Int32) then some (σ_10, (1 : Int32)) else some (σ_10, (0 : Int32)))) n s.1 s.2 (nI m)) 8 (fun m s => frm (mk 45 45) noL σ s.1 ∧ (∀ i : Nat, (i < 8 * b ∨ 8 * b + 8 ≤ i) → s.1.1 45 i = σ.1 45 i) ∧ s.2 = Int32.ofInt (sumN m (lotP τ b)) ∧ (∀ k : Nat, k < m → letB τ b k ∧ s.1.1 45 (8 * b + k) = Int32.ofInt (lotP τ b k))) (fun s => (if s.2 = (100 : Int32) then some (s.1, (1 : Int32)) else some (s.1, (0 : Int32)))) (fun res => ∃ x : St, res = some (x, (0 : Int32)) ∧ frm (mk 45 45) noL σ x ∧ (∀ i : Nat, (i < 8 * b ∨ 8 * b + 8 ≤ i) → x.1 45 i = σ.1 45 i) ∧ ¬ okLot τ b) (fun n s hp => by
      show fX7_takeParts_L4 _ _ (n + 1) s.1 s.2 _ = _
      rw [fX7_takeParts_L4, if_pos (by decide)]) (fun n m s hm hp => by
      obtain ⟨p1, p2, p3, p4⟩ := hp
      have hin : inb (nI (8 * b + m)) 32 = true := inb_nI (by omega) (by decide)
      have cc : ¬ (8 : Int32) ≤ nI m := by rw [le_i, z_8, nI_toInt (by omega)]; omega
      have e24 : s.1.1 24 (8 * b + m) = Int32.ofInt (lotP τ b m) := by rw [p1.1 24 _ rfl]; exact (c.bk hb).2.2 m hm
      have lb := lotP_b ha hb hm
      have go : letB τ b m → ∃ s' : St × Int32, (frm (mk 45 45) noL σ s'.1 ∧ (∀ i : Nat, (i < 8 * b ∨ 8 * b + 8 ≤ i) → s'.1.1 45 i = σ.1 45 i) ∧ s'.2 = Int32.ofInt (sumN (m + 1) (lotP τ b)) ∧ (∀ k : Nat, k < m + 1 → letB τ b k ∧ s'.1.1 45 (8 * b + k) = Int32.ofInt (lotP τ b k))) ∧ (bnd (sI s.1 45 (8 * b + m) (Int32.ofInt (lotP τ b m))) fun (σ_5 : St) => bnd (s.2 + Int32.ofInt (lotP τ b m)) fun (x2_6 : Int32) => bnd (nI m + (1 : Int32)) fun (x3_7 : Int32) => fX7_takeParts_L4 (nI b) (fun (σ_10 : St) (x2_11 : Int32) (_ : Int32) => (if x2_11 = (100 : Int32) then some (σ_10, (1 : Int32)) else some (σ_10, (0 : Int32)))) n σ_5 x2_6 x3_7) = fX7_takeParts_L4 (nI b) (fun (σ_10 : St) (x2_11 : Int32) (_ : Int32) => (if x2_11 = (100 : Int32) then some (σ_10, (1 : Int32)) else some (σ_10, (0 : Int32)))) n s'.1 s'.2 (nI (m + 1)) := by
        intro hl
        refine ⟨(sI s.1 45 (8 * b + m) (Int32.ofInt (lotP τ b m)), s.2 + Int32.ofInt (lotP τ b m)), ⟨frm_trans p1 (frm_sI _ _ rfl), fun i hi => ?_, ?_, fun k hk => ?_⟩, ?_⟩
        · show (sI s.1 45 (8 * b + m) (Int32.ofInt (lotP τ b m))).1 45 i = _
          rw [sI_at, if_neg (by omega)]
          exact p2 i hi
        · show s.2 + Int32.ofInt (lotP τ b m) = _
          rw [p3, ← Int32.ofInt_add]
          rfl
        · show _ ∧ (sI s.1 45 (8 * b + m) (Int32.ofInt (lotP τ b m))).1 45 (8 * b + k) = _
          rw [sI_at]
          by_cases e : k = m
          · rw [e, if_pos rfl]; exact ⟨hl, rfl⟩
          · rw [if_neg (by omega)]; exact p4 k (by omega)
        · rw [bnd_eq, bnd_eq, bnd_eq, ← nI_succ]
      show (∃ s' : St × Int32, _ ∧ fX7_takeParts_L4 _ _ (n + 1) s.1 s.2 _ = _) ∨ (∃ x : St, fX7_takeParts_L4 _ _ (n + 1) s.1 s.2 _ = _ ∧ _)
      rw [fX7_takeParts_L4, if_neg cc, ix8 b (by omega) m hm, chk_t hin, ix_nI (m := 8 * b + m) (by omega), e24, bnd_eq, jp_eq]
      have hle : (Int32.ofInt (lotP τ b m) ≤ 0) ↔ lotP τ b m = 0 := by
        rw [le_i, i32o (by omega) (by omega), z_0]
        omega
      by_cases w : lotP τ b m = 0
      · rw [if_pos (hle.mpr w)]
        refine Or.inl (Exists.imp (fun s' q => ⟨q.1, Eq.trans ?_ q.2⟩) (go (Or.inl w)))
        exact chk_t hin _
      · rw [if_neg (fun q => w (hle.mp q)), isFreeC, cl_some, p1.1 43 15 rfl]
        by_cases w2 : frB (σ.1 43 15) m
        · rw [if_pos w2, if_neg one0]
          refine Or.inl (Exists.imp (fun s' q => ⟨q.1, Eq.trans ?_ q.2⟩) (go (Or.inr ((hfree m hm).mp w2))))
          exact chk_t hin _
        · rw [if_neg w2, if_pos rfl]
          refine Or.inr ⟨s.1, rfl, p1, p2, fun q => ?_⟩
          rcases q.1 m hm with z | z
          · exact w z
          · exact w2 ((hfree m hm).mpr z)) FU 0 (σ, 0) (by omega) (by have : FU = 100000 := rfl; omega) ⟨frm_refl _ _ _, fun _ _ => rfl, rfl, fun k hk => absurd hk (by omega)⟩
  rcases key with ⟨s, ⟨p1, p2, p3, p4⟩, e⟩ | ⟨x, e, p1, p2, p3⟩
  · have hsb : 0 ≤ sumN 8 (lotP τ b) ∧ sumN 8 (lotP τ b) ≤ 800 := by
      refine ⟨sumN_nn 8 (fun k hk => (lotP_b ha hb hk).1), ?_⟩
      exact Int.le_trans (sumN_ub (f := lotP τ b) 8 100 (fun k hk => (lotP_b ha hb hk).2)) (by decide)
    have e100 : s.2 = 100 ↔ sumN 8 (lotP τ b) = 100 := by
      rw [p3, eq_i, i32o (by omega) (by omega), z_100]
    by_cases w : sumN 8 (lotP τ b) = 100
    · refine ⟨s.1, 1, e.trans (by show (if s.2 = 100 then _ else _) = _; rw [if_pos (e100.mpr w)]), p1, p2, Or.inl ⟨rfl, ⟨fun k hk => (p4 k hk).1, w⟩, fun k hk => (p4 k hk).2⟩⟩
    · exact ⟨s.1, 0, e.trans (by show (if s.2 = 100 then _ else _) = _; rw [if_neg (fun q => w (e100.mp q))]), p1, p2, Or.inr ⟨rfl, fun q => w q.2⟩⟩
  · exact ⟨x, 0, e, p1, p2, Or.inr ⟨rfl, p3⟩⟩
theorem exO_tail {K m b : Nat} {P : Nat → Nat → Int} (h : K ≤ m) : ∀ (n : Nat) (F : (Nat → Nat) → Int), (∀ j : Nat, j < n → j ≠ b → ∀ k : Nat, K ≤ k → k < m → P j k = 0) → exO m b n P F = exO K b n P F := by
  intro n
  induction n with
  | zero => intro F _; rfl
  | succ n ih =>
    intro F hz
    rw [exO, exO]
    by_cases e : n = b
    · rw [if_pos e, if_pos e]
      exact ih F (fun j hj => hz j (by omega))
    · rw [if_neg e, if_neg e, sumN_tail h (fun k h1 h2 => by rw [hz n (by omega) e k h1 h2, Int.zero_mul])]
      exact sumN_congr _ (fun k _ => by rw [ih _ (fun j hj => hz j (by omega))])
/-- what the model's earnsAt answers, by the class's survey -/
theorem atE_gn {τ : St} (h : okM τ) (dr : Nat → Nat) {P : Nat → Nat → Int} {b s : Nat} (hb : b < nB τ) (hs : s < 8) (hz : ∀ j : Nat, j < nB τ → j ≠ b → ∀ k : Nat, nK τ ≤ k → k < 8 → P j k = 0) : atE τ dr P b s = 100 * gnS τ (shN τ) dr P b s := by
  have h8 := h.k8
  unfold atE gnS
  rw [ex_put _ hb hs, exO_tail (K := nK τ) (m := 8) (by omega) (nB τ) _ hz]
  rfl
theorem best_gn {τ : St} (h : okM τ) (dr : Nat → Nat) {P : Nat → Nat → Int} {b : Nat} (hb : b < nB τ) (hz : ∀ j : Nat, j < nB τ → j ≠ b → ∀ k : Nat, nK τ ≤ k → k < 8 → P j k = 0) : bestN (barN τ) (atE τ dr P b) (nK τ) = bestN (barF τ (frc τ)) (gnS τ (shN τ) dr P b) (nK τ) := by
  have h8 := h.k8
  refine bestN_congr _ (fun k _ => Iff.rfl) (fun j k hj hk => ?_)
  rw [atE_gn h dr hb (by omega) hz, atE_gn h dr hb (by omega) hz]
  omega
/-- parts as a whole ask lays them down -/
def okR (τ : St) (P : Nat → Nat → Int) : Prop := 0 < nB τ ∧ ∀ b : Nat, b < nB τ → (∀ k : Nat, k < 8 → 0 ≤ P b k ∧ P b k ≤ 100 ∧ (P b k = 0 ∨ k < nK τ ∧ ¬ barN τ k)) ∧ sumN 8 (P b) = 100
theorem okR.b {τ : St} {P : Nat → Nat → Int} (h : okR τ P) {b k : Nat} (hb : b < nB τ) (hk : k < 8) : 0 ≤ P b k ∧ P b k ≤ 100 := ⟨((h.2 b hb).1 k hk).1, ((h.2 b hb).1 k hk).2.1⟩
theorem okR.z {τ : St} {P : Nat → Nat → Int} (h : okR τ P) {b k : Nat} (hb : b < nB τ) (h1 : nK τ ≤ k) (hk : k < 8) : P b k = 0 := by
  rcases ((h.2 b hb).1 k hk).2.2 with w | w
  · exact w
  · omega
theorem okLot_P {τ : St} (ha : okA τ) {b : Nat} (hb : b < nB τ) (ho : okLot τ b) : (∀ k : Nat, k < 8 → 0 ≤ lotP τ b k ∧ lotP τ b k ≤ 100 ∧ (lotP τ b k = 0 ∨ k < nK τ ∧ ¬ barN τ k)) ∧ sumN 8 (lotP τ b) = 100 := ⟨fun k hk => ⟨(lotP_b ha hb hk).1, (lotP_b ha hb hk).2, ho.1 k hk⟩, ho.2⟩
theorem sum_put (s : Nat) (hs : s < 8) : sumN 8 (fun k => if k = s then (100 : Int) else 0) = 100 := by
  have := sumN_pick (fun _ => (100 : Int)) s 8
  rw [if_pos hs] at this
  exact this
theorem okR_put {τ : St} {P : Nat → Nat → Int} {a s : Nat} (hn : 0 < nB τ) (hP : ∀ b : Nat, b < nB τ → b ≠ a → (∀ k : Nat, k < 8 → 0 ≤ P b k ∧ P b k ≤ 100 ∧ (P b k = 0 ∨ k < nK τ ∧ ¬ barN τ k)) ∧ sumN 8 (P b) = 100) (hs8 : s < 8) (hs : s < nK τ ∧ ¬ barN τ s) : okR τ (putP P a s) := by
  refine ⟨hn, fun b hb => ?_⟩
  by_cases e : b = a
  · have ee : putP P a s b = fun k => if k = s then (100 : Int) else 0 := by funext k; unfold putP; rw [if_pos e]
    rw [ee]
    refine ⟨fun k hk => ?_, sum_put s hs8⟩
    show 0 ≤ (if k = s then (100 : Int) else 0) ∧ (if k = s then (100 : Int) else 0) ≤ 100 ∧ ((if k = s then (100 : Int) else 0) = 0 ∨ _)
    by_cases q : k = s
    · rw [if_pos q, q]; exact ⟨by omega, by omega, Or.inr hs⟩
    · rw [if_neg q]; exact ⟨by omega, by omega, Or.inl rfl⟩
  · have ee : putP P a s b = P b := by funext k; unfold putP; rw [if_neg e]
    rw [ee]
    exact hP b hb e
theorem rdy_ok {τ : St} (h : okM τ) (ha : okA τ) {dr : Nat → Nat} {P : Nat → Nat → Int} (hP : rdy τ dr = some P) : okR τ P := by
  have h8 := h.k8
  cases e : scanW τ (nB τ) with
  | none => rw [rdy_no e] at hP; cases hP
  | some a =>
    obtain ⟨s1, s2⟩ := scanW_a _ _ e
    cases a with
    | none =>
      rw [rdy_pl e] at hP
      by_cases w : 0 < nB τ
      · rw [if_pos w] at hP
        cases hP
        exact ⟨w, fun b hb => okLot_P ha hb (s2 b hb (by intro q; cases q))⟩
      · rw [if_neg w] at hP; cases hP
    | some q =>
      have hq := (s1 q rfl).1
      cases eb : bestN (barN τ) (atE τ dr (lotP τ) q) (nK τ) with
      | none => rw [rdy_an0 e eb] at hP; cases hP
      | some k =>
        rw [rdy_an1 e eb] at hP
        cases hP
        have hk := bestN_lt _ _ eb
        exact okR_put (by omega) (fun b hb hne => okLot_P ha hb (s2 b hb (by intro w; cases w; exact hne rfl))) (by omega) ⟨hk.1, hk.2.1⟩
theorem answerC {σ τ : St} {dr : Nat → Nat} (h : okM τ) (c : clsR σ τ dr) (ho : opnd σ τ (frc τ) dr) {a : Nat} (h16 : σ.1 43 16 = nI a) (hq : a < nB τ) {P : Nat → Nat → Int} (hP : ∀ j : Nat, j < nB τ → j ≠ a → ∀ k : Nat, k < 8 → σ.1 45 (8 * j + k) = Int32.ofInt (P j k) ∧ 0 ≤ P j k ∧ P j k ≤ 100) (hz : ∀ j : Nat, j < nB τ → j ≠ a → ∀ k : Nat, nK τ ≤ k → k < 8 → P j k = 0) : ∃ (σ' : St) (x : Int32), fX7_answerAnew σ = some (σ', x) ∧ frm (mk 45 50) (mk 51 52) σ σ' ∧ ((x = 0 ∧ bestN (barN τ) (atE τ dr P a) (nK τ) = none) ∨ ∃ k : Nat, x = 1 ∧ bestN (barN τ) (atE τ dr P a) (nK τ) = some k ∧ ptC σ' (nB τ) (putP P a k)) := by
  have h4 := h.n4
  have h8 := h.k8
  unfold fX7_answerAnew
  obtain ⟨σ1, a1, a2, a3⟩ := surveyC h c (shtF τ (frc τ)) ho.2.2 hq hP
  have c1 := clsR_fr (coreC_frm a2 (mk43 (by omega))) c
  have ho1 : opnd σ1 τ (frc τ) dr := ⟨by rw [a2.1 43 14 rfl]; exact ho.1, by rw [a2.1 43 15 rfl]; exact ho.2.1, fun t ht k hk => by rw [a2.1 44 _ rfl]; exact ho.2.2 t ht k hk⟩
  have hb := bestStepC h c1 ho1 hq (P := P) (fun j h1 h2 k h3 => (hP j h1 h2 k h3).2) a3
  rw [h16, a1, cl_some, a2.1 43 16 rfl, h16, hb, cl_some, bnd_eq, best_gn h dr hq hz]
  have f1 : frm (mk 45 50) (mk 51 52) σ σ1 := frm_mono (mk_mono (by omega) (by omega)) (fun _ _ w => w) a2
  cases e : bestN (barF τ (frc τ)) (gnS τ (shtF τ (frc τ)) dr P a) (nK τ) with
  | none => exact ⟨σ1, 0, by rw [if_pos (show encN none = -1 from rfl)], f1, Or.inl ⟨rfl, rfl⟩⟩
  | some k =>
    have hk := (bestN_lt _ _ e).1
    obtain ⟨σ2, b1, b2, b3⟩ := makeSureC σ1 (b := a) (s := k) (by omega) (by omega)
    refine ⟨σ2, 1, ?_, frm_trans f1 (frm_mono (mk_mono (by omega) (by omega)) noL_any b2), Or.inr ⟨k, rfl, rfl, fun j hj i hi => ?_⟩⟩
    · rw [if_neg (show ¬ encN (some k) = -1 from nI_ne_m1 (by omega)), show encN (some k) = nI k from rfl, a2.1 43 16 rfl, h16, b1, cl_some]
    · rw [b3]
      unfold putP
      by_cases e2 : j = a
      · rw [if_pos e2, if_pos (by omega)]
        by_cases e3 : i = k
        · rw [if_pos e3, if_pos (by omega)]; rfl
        · rw [if_neg e3, if_neg (by omega)]; rfl
      · rw [if_neg e2, if_neg (by omega), a2.1 45 _ rfl]
        exact (hP j hj e2 i hi).1
theorem opnd_fr {σ σ' τ : St} {f : Int} {dr : Nat → Nat} (h1 : σ'.1 43 14 = σ.1 43 14) (h2 : σ'.1 43 15 = σ.1 43 15) (h3 : ∀ i : Nat, σ'.1 44 i = σ.1 44 i) (ho : opnd σ τ f dr) : opnd σ' τ f dr := ⟨by rw [h1]; exact ho.1, by rw [h2]; exact ho.2.1, fun t ht k hk => by rw [h3]; exact ho.2.2 t ht k hk⟩
def mSt (c k : Nat) : Bool := Nat.beq c 45 || (Nat.beq c 43 && Nat.beq k 16)
theorem mSt_45 : ∀ c k : Nat, mSt c k = false → mk 45 45 c k = false := by
  intro c k h
  rw [mk_f]
  intro w
  have : c = 45 := by omega
  subst this
  exact absurd (show true = false from h) (by decide)
theorem mSt_43 : ∀ c k : Nat, c < 43 → mSt c k = false := by
  intro c k h
  cases e : mSt c k
  · rfl
  · exfalso
    unfold mSt at e
    rw [Bool.or_eq_true, Bool.and_eq_true] at e
    rcases e with e | e
    · have : c = 45 := Nat.eq_of_beq_eq_true e
      omega
    · have : c = 43 := Nat.eq_of_beq_eq_true e.1
      omega
theorem mSt_50 : ∀ c k : Nat, mk 43 50 c k = false → mSt c k = false := by
  intro c k h
  rw [mk_f] at h
  cases e : mSt c k
  · rfl
  · exfalso
    unfold mSt at e
    rw [Bool.or_eq_true, Bool.and_eq_true] at e
    rcases e with e | e
    · have : c = 45 := Nat.eq_of_beq_eq_true e
      omega
    · have : c = 43 := Nat.eq_of_beq_eq_true e.1
      omega
theorem mOpn_50 : ∀ c k : Nat, mk 43 50 c k = false → mOpn c k = false := by
  intro c k h
  rw [mk_f] at h
  cases e : mOpn c k
  · rfl
  · exfalso
    unfold mOpn at e
    rw [Bool.or_eq_true, Bool.and_eq_true] at e
    rcases e with e | e
    · have : c = 44 := Nat.eq_of_beq_eq_true e
      omega
    · have : c = 43 := Nat.eq_of_beq_eq_true e.1
      omega
theorem settleC {σ τ : St} {dr : Nat → Nat} (h : okM τ) (ha : okA τ) (c : clsR σ τ dr) : ∃ (σ' : St) (x : Int32), fX7_settle σ = some (σ', x) ∧ frm (mk 43 50) (mk 51 52) σ σ' ∧ clsR σ' τ dr ∧ opnd σ' τ (frc τ) dr ∧ ((x = 0 ∧ rdy τ dr = none) ∨ ∃ P : Nat → Nat → Int, x = 1 ∧ rdy τ dr = some P ∧ ptC σ' (nB τ) P ∧ ∃ a : Option Nat, scanW τ (nB τ) = some a ∧ σ'.1 43 16 = encN a) := by
  have h4 := h.n4
  have h8 := h.k8
  have hfl : σ.1 22 4 = τ.1 0 39 := c.st.2.1
  have hlw : lwOK τ (τ.1 0 39).toInt := h.hf
  unfold fX7_settle
  rw [hfl]
  obtain ⟨σ1, a1, a2, a3⟩ := openC h c hlw
  have a3' : opnd σ1 τ (frc τ) dr := a3
  rw [a1, cl_some, bnd_eq]
  have f1 : frm (mk 43 50) (mk 51 52) σ σ1 := frm_mono mOpn_50 noL_any a2
  have f2 : frm mSt noL σ1 (sI σ1 43 16 (-1)) := frm_sI _ _ rfl
  have v2 : (sI σ1 43 16 (-1)).1 43 16 = -1 := rfl
  generalize sI σ1 43 16 (-1) = σ2 at f2 v2
  obtain ⟨σ3, b1, b2, _⟩ := fill45 σ2
  rw [b1, cl_some, bnd_eq]
  have f3 : frm mSt noL σ1 σ3 := frm_trans f2 (frm_mono mSt_45 (fun _ _ w => w) b2)
  have c1 := clsR_fr (coreC_frm a2 mOpn_43) c
  have cx : ∀ x : St, frm mSt noL σ1 x → clsR x τ dr := fun x hx => clsR_fr (coreC_frm hx mSt_43) c1
  have ox : ∀ x : St, frm mSt noL σ1 x → opnd x τ (frc τ) dr := fun x hx => opnd_fr (hx.1 43 14 rfl) (hx.1 43 15 rfl) (fun i => hx.1 44 i rfl) a3'
  have key := loopX (S := St) (fun n s m => fX7_settle_L26 (fun (σ_12 : St) (_ : Int32) => (if (σ_12.1 2 0) ≤ 0 then some (σ_12, (0 : Int32)) else (jp (fun (σ_14 : St)   => some (σ_14, (1 : Int32))) fun j109 => (if (σ_12.1 43 16) = (-1 : Int32) then j109 σ_12 else cl (fX7_answerAnew σ_12 ) fun (σ_15 : St) (t_16 : Int32) => (if t_16 = 0 then some (σ_15, (0 : Int32)) else j109 σ_15))))) n s (nI m)) (nB τ) (fun m s => frm mSt noL σ1 s ∧ ∃ a : Option Nat, scanW τ m = some a ∧ s.1 43 16 = encN a ∧ ∀ j : Nat, j < m → a ≠ some j → ∀ k : Nat, k < 8 → s.1 45 (8 * j + k) = Int32.ofInt (lotP τ j k)) (fun s => (if (s.1 2 0) ≤ 0 then some (s, (0 : Int32)) else (jp (fun (σ_14 : St)   => some (σ_14, (1 : Int32))) fun j109 => (if (s.1 43 16) = (-1 : Int32) then j109 s else cl (fX7_answerAnew s ) fun (σ_15 : St) (t_16 : Int32) => (if t_16 = 0 then some (σ_15, (0 : Int32)) else j109 σ_15))))) (fun res => ∃ x : St, res = some (x, (0 : Int32)) ∧ frm mSt noL σ1 x ∧ scanW τ (nB τ) = none) (fun n s hp => by
      show fX7_settle_L26 _ (n + 1) s _ = _
      rw [fX7_settle_L26, (cx s hp.1).nb h, if_pos (by rw [le_i]; omega)]) (fun n m s hm hp => by
      obtain ⟨p1, a, p2, p3, p4⟩ := hp
      have cs := cx s p1
      have os := ox s p1
      have hin4 : inb (nI m) 4 = true := inb_nI (by omega) (by decide)
      show (∃ s' : St, _ ∧ fX7_settle_L26 _ (n + 1) s _ = _) ∨ (∃ x : St, fX7_settle_L26 _ (n + 1) s _ = _ ∧ _)
      rw [fX7_settle_L26, cs.nb h, if_neg (by rw [le_i, nI_toInt (by omega), nI_toInt (by omega)]; omega), chk_t hin4, jp_eq, ix_nI (m := m) (by omega), (cs.bk hm).2.1]
      by_cases w3 : τ.1 15 m = 3
      · have w3' : (τ.1 15 m).toInt = 3 := by rw [w3]; rfl
        rw [if_pos w3]
        cases a with
        | none =>
          rw [if_pos (show s.1 43 16 = -1 from p3)]
          refine Or.inl ⟨sI s 43 16 (nI m), ⟨frm_trans p1 (frm_sI _ _ rfl), some m, scanW_an0 p2 w3', rfl, fun j hj hne k hk => ?_⟩, ?_⟩
          · have hjm : j ≠ m := fun q => hne (by rw [q])
            rw [sI_ne (by decide)]
            exact p4 j (by omega) (by intro w; cases w) k hk
          · rw [nI_succ]; all_goals rfl
        | some q =>
          have hq := (scanW_a m (some q) p2).1 q rfl
          rw [if_neg (show ¬ s.1 43 16 = -1 by rw [p3]; exact nI_ne_m1 (by omega))]
          exact Or.inr ⟨s, rfl, p1, scanW_none (m + 1) (nB τ) (by omega) (scanW_an1 p2 w3')⟩
      · have w3' : ¬ (τ.1 15 m).toInt = 3 := fun q => w3 (Int32.toInt_inj.mp q)
        obtain ⟨τ2, x, q1, q2, q3, q4⟩ := takePartsC h ha cs os.2.1 hm
        rw [if_neg w3, q1, cl_some]
        have g2 : frm mSt noL σ1 τ2 := frm_trans p1 (frm_mono mSt_45 (fun _ _ w => w) q2)
        rcases q4 with ⟨e1, e2, e3⟩ | ⟨e1, e2⟩
        · rw [if_neg (by rw [e1]; exact one0)]
          refine Or.inl ⟨τ2, ⟨g2, a, scanW_ok p2 w3' e2, by rw [q2.1 43 16 rfl]; exact p3, fun j hj hne k hk => ?_⟩, ?_⟩
          · by_cases e : j = m
            · rw [e]; exact e3 k hk
            · rw [q3 _ (by omega)]
              exact p4 j (by omega) hne k hk
          · rw [nI_succ]; all_goals rfl
        · rw [if_pos e1]
          exact Or.inr ⟨τ2, rfl, g2, scanW_none (m + 1) (nB τ) (by omega) (scanW_no p2 w3' e2)⟩) FU 0 σ3 (by omega) (by have : FU = 100000 := rfl; omega) ⟨f3, none, rfl, by rw [b2.1 43 16 rfl]; exact v2, fun j hj => absurd hj (by omega)⟩
  rcases key with ⟨s, ⟨p1, a, p2, p3, p4⟩, e⟩ | ⟨x, e, p1, p2⟩
  · have cs := cx s p1
    have os := ox s p1
    have fs : frm (mk 43 50) (mk 51 52) σ s := frm_trans f1 (frm_mono mSt_50 noL_any p1)
    have hn0 : (s.1 2 0 ≤ 0) ↔ ¬ 0 < nB τ := by rw [cs.nb h, le_i, nI_toInt (by omega), z_0]; omega
    cases a with
    | none =>
      by_cases w : 0 < nB τ
      · refine ⟨s, 1, e.trans ?_, fs, cs, os, Or.inr ⟨lotP τ, rfl, by rw [rdy_pl p2, if_pos w], fun j hj k hk => p4 j hj (by intro q; cases q) k hk, none, p2, p3⟩⟩
        show (if s.1 2 0 ≤ 0 then _ else _) = _
        rw [if_neg (fun q => hn0.mp q w), jp_eq, if_pos (show s.1 43 16 = -1 from p3)]
      · refine ⟨s, 0, e.trans ?_, fs, cs, os, Or.inl ⟨rfl, by rw [rdy_pl p2, if_neg w]⟩⟩
        show (if s.1 2 0 ≤ 0 then _ else _) = _
        rw [if_pos (hn0.mpr w)]
    | some q =>
      obtain ⟨s1, s2⟩ := scanW_a _ _ p2
      have hq := (s1 q rfl).1
      have hPq : ∀ j : Nat, j < nB τ → j ≠ q → ∀ k : Nat, k < 8 → s.1 45 (8 * j + k) = Int32.ofInt (lotP τ j k) ∧ 0 ≤ lotP τ j k ∧ lotP τ j k ≤ 100 := fun j hj hne k hk => ⟨p4 j hj (by intro w; cases w; exact hne rfl) k hk, lotP_b ha hj hk⟩
      have hz : ∀ j : Nat, j < nB τ → j ≠ q → ∀ k : Nat, nK τ ≤ k → k < 8 → lotP τ j k = 0 := fun j hj hne k h1 hk => by
        rcases (s2 j hj (by intro w; cases w; exact hne rfl)).1 k hk with w | w
        · exact w
        · omega
      obtain ⟨σ4, x, d1, d2, d3⟩ := answerC h cs os p3 hq hPq hz
      have f4 : frm (mk 43 50) (mk 51 52) σ σ4 := frm_trans fs (frm_mono (mk_mono (by omega) (by omega)) (fun _ _ w => w) d2)
      have c4 := clsR_fr (coreC_frm d2 (mk43 (by omega))) cs
      have o4 := opnd_fr (d2.1 43 14 rfl) (d2.1 43 15 rfl) (fun i => d2.1 44 i rfl) os
      have hn : ¬ s.1 2 0 ≤ 0 := fun w => hn0.mp w (by omega)
      have hne : ¬ s.1 43 16 = -1 := by rw [p3]; exact nI_ne_m1 (by omega)
      rcases d3 with ⟨e1, e2⟩ | ⟨k, e1, e2, e3⟩
      · refine ⟨σ4, 0, e.trans ?_, f4, c4, o4, Or.inl ⟨rfl, rdy_an0 p2 e2⟩⟩
        show (if s.1 2 0 ≤ 0 then _ else _) = _
        rw [if_neg hn, jp_eq, if_neg hne, d1, cl_some, if_pos e1]
      · refine ⟨σ4, 1, e.trans ?_, f4, c4, o4, Or.inr ⟨_, rfl, rdy_an1 p2 e2, e3, some q, p2, by rw [d2.1 43 16 rfl]; exact p3⟩⟩
        show (if s.1 2 0 ≤ 0 then _ else _) = _
        rw [if_neg hn, jp_eq, if_neg hne, d1, cl_some, if_neg (by rw [e1]; exact one0)]
  · exact ⟨x, 0, e, frm_trans f1 (frm_mono mSt_50 noL_any p1), cx x p1, ox x p1, Or.inl ⟨rfl, rdy_no p2⟩⟩
