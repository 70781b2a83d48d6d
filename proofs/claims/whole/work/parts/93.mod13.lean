/-! the asks as parts: knocks, lays, areWhole, areReady -/
def aKno (c _k : Nat) : Bool := Nat.beq c 27
theorem aKno_sc : ∀ c k : Nat, aKno c k = true → scM c k = true := by
  intro c k h
  have : c = 27 := Nat.eq_of_beq_eq_true h
  subst this
  rfl
theorem knocksM {τ : St} (h : okM τ) : ∃ τ', fX9_knocks τ = some (τ', ()) ∧ frm aKno noL τ τ' ∧ (∀ s : Nat, s < nS τ → τ'.1 27 s = τ.1 5 s) ∧ drOK τ' (nmd τ) := by
  have h12 := h.n12
  unfold fX9_knocks
  rw [bnd_eq]
  obtain ⟨τ1, hp1, e1⟩ := loopG (S := St) (fun n s m => fX9_knocks_L2 (fun (σ_4 : St) (_ : Int32) => some (σ_4, ())) n s (nI m)) (nS τ) (fun m s => frm aKno noL τ s ∧ ∀ k : Nat, k < m → s.1 27 k = τ.1 5 k) (fun s => some (s, ())) (fun n s hp => by
      have cc : s.1 0 1 ≤ nI (nS τ) := by rw [hp.1.1 0 1 rfl, le_i, h.ns, nI_toInt (by omega)]; omega
      rw [fX9_knocks_L2, if_pos cc]) (fun n m s hm hp => by
      have cc : ¬ s.1 0 1 ≤ nI m := by rw [hp.1.1 0 1 rfl, le_i, h.ns, nI_toInt (by omega)]; omega
      have hin : inb (nI m) 12 = true := inb_nI (by omega) (by decide)
      refine ⟨sI s 27 m (τ.1 5 m), ⟨frm_trans hp.1 (frm_sI _ _ rfl), fun k hk => ?_⟩, ?_⟩
      · rw [sI_at]
        by_cases e : k = m
        · rw [if_pos e, e]
        · rw [if_neg e]; exact hp.2 k (by omega)
      · rw [fX9_knocks_L2, if_neg cc, chk_t hin, chk_t hin, bnd_eq, bnd_eq, ix_nI (m := m) (by omega), hp.1.1 5 m rfl, ← nI_succ]) FU 0 τ (by omega) (by have : FU = 100000 := rfl; omega) ⟨frm_refl _ _ _, fun k hk => absurd hk (by omega)⟩
  refine ⟨τ1, e1, hp1.1, hp1.2, ?_⟩
  have hc : core τ1 = core τ := core_frm hp1.1 aKno_sc
  intro s hs hk
  rw [fr nS (fun _ => rfl) hc] at hs
  rw [fr (fun τ => knd τ s) (fun _ => rfl) hc] at hk
  rw [fr nB (fun _ => rfl) hc, hp1.2 s hs]
  have w := (h.hs s hs).2.2.2.1 hk
  have : nB τ = (τ.1 0 0).toInt.toNat := rfl
  refine ⟨nI_mk (by omega), ?_⟩
  have w2 := w.2
  rw [p2i] at w2
  show (τ.1 5 s).toInt.toNat < 2 ^ (τ.1 0 0).toInt.toNat
  omega
/-- the asks as Inv has them -/
def okA (τ : St) : Prop := ∀ b : Nat, b < nB τ → rg (τ.1 15 b) 0 3 ∧ ((τ.1 15 b).toInt = 1 → 0 ≤ (τ.1 16 b).toInt ∧ (τ.1 16 b).toInt < (τ.1 0 2).toInt) ∧ ∀ k : Nat, k < 8 → (τ.1 15 b).toInt = 2 → rg (τ.1 17 (8 * b + k)) 0 100
/-- the parts that baker b's ask lays down, and whether they are whole -/
def lotP (τ : St) (b k : Nat) : Int := if (τ.1 15 b).toInt = 1 then (if (k : Int) = (τ.1 16 b).toInt then 100 else 0) else if (τ.1 15 b).toInt = 2 then (τ.1 17 (8 * b + k)).toInt else 0
def letB (τ : St) (b k : Nat) : Prop := lotP τ b k = 0 ∨ k < nK τ ∧ ¬ barN τ k
def okLot (τ : St) (b : Nat) : Prop := (∀ k : Nat, k < 8 → letB τ b k) ∧ sumN 8 (lotP τ b) = 100
theorem lotP_b {τ : St} (ha : okA τ) {b k : Nat} (hb : b < nB τ) (hk : k < 8) : 0 ≤ lotP τ b k ∧ lotP τ b k ≤ 100 := by
  obtain ⟨h1, h2, h3⟩ := ha b hb
  unfold lotP
  by_cases e1 : (τ.1 15 b).toInt = 1
  · rw [if_pos e1]
    by_cases e2 : (k : Int) = (τ.1 16 b).toInt
    · rw [if_pos e2]; omega
    · rw [if_neg e2]; omega
  · rw [if_neg e1]
    by_cases e2 : (τ.1 15 b).toInt = 2
    · rw [if_pos e2]; exact h3 k hk e2
    · rw [if_neg e2]; omega
theorem laysBM {τ : St} (h : okM τ) (ha : okA τ) {b : Nat} (hb : b < nB τ) : ∃ (τ' : St) (x : Int32), fX9_lays τ (nI b) = some (τ', x) ∧ frm aPut noL τ τ' ∧ (∀ i : Nat, τ'.1 18 i = if 8 * b ≤ i ∧ i < 8 * b + 8 then Int32.ofInt (lotP τ b (i - 8 * b)) else τ.1 18 i) ∧ ((x = 1 ∧ okLot τ b) ∨ (x = 0 ∧ ¬ okLot τ b)) := by
  have h4 := h.n4
  have h8 := h.k8
  unfold fX9_lays
  rw [bnd_eq, bnd_eq, bnd_eq]
  obtain ⟨s1, hp1, e1⟩ := loopG (S := St × Int32 × Int32) (fun n s m => fX9_lays_L7 (nI b) (fun (σ_19 : St) (x2_20 : Int32) (x3_21 : Int32) (_ : Int32) => (if x3_21 = 0 then some (σ_19, (0 : Int32)) else (if x2_20 = (100 : Int32) then some (σ_19, (1 : Int32)) else some (σ_19, (0 : Int32))))) n s.1 s.2.1 s.2.2 (nI m)) 8 (fun m s => frm aPut noL τ s.1 ∧ (∀ i : Nat, s.1.1 18 i = if 8 * b ≤ i ∧ i < 8 * b + m then Int32.ofInt (lotP τ b (i - 8 * b)) else τ.1 18 i) ∧ s.2.1 = Int32.ofInt (sumN m (lotP τ b)) ∧ ((s.2.2 = 1 ∧ ∀ k : Nat, k < m → letB τ b k) ∨ (s.2.2 = 0 ∧ ¬ ∀ k : Nat, k < m → letB τ b k))) (fun s => (if s.2.2 = 0 then some (s.1, (0 : Int32)) else (if s.2.1 = (100 : Int32) then some (s.1, (1 : Int32)) else some (s.1, (0 : Int32))))) (fun n s hp => by
      show fX9_lays_L7 _ _ (n + 1) s.1 s.2.1 s.2.2 _ = _
      rw [fX9_lays_L7, if_pos (by decide)]) (fun n m s hm hp => by
      obtain ⟨p1, p2, p3, p4⟩ := hp
      have hc : core s.1 = core τ := core_frm p1 aPut_sc
      have cc : ¬ (8 : Int32) ≤ nI m := by rw [le_i, z_8, nI_toInt (by omega)]; omega
      have hin : inb (nI (8 * b + m)) 32 = true := inb_nI (by omega) (by decide)
      have hin4 : inb (nI b) 4 = true := inb_nI (by omega) (by decide)
      have hlb := lotP_b ha hb hm
      have hsb : 0 ≤ sumN m (lotP τ b) ∧ sumN m (lotP τ b) ≤ 800 := by
        refine ⟨sumN_nn m (fun k hk => (lotP_b ha hb (by omega)).1), ?_⟩
        have := sumN_ub (f := lotP τ b) m 100 (fun k hk => (lotP_b ha hb (by omega)).2)
        omega
      -- what stands behind the choice of p
      have tail : ∀ p : Int32, p = Int32.ofInt (lotP τ b m) → ∃ s' : St × Int32 × Int32, (frm aPut noL τ s'.1 ∧ (∀ i : Nat, s'.1.1 18 i = if 8 * b ≤ i ∧ i < 8 * b + (m + 1) then Int32.ofInt (lotP τ b (i - 8 * b)) else τ.1 18 i) ∧ s'.2.1 = Int32.ofInt (sumN (m + 1) (lotP τ b)) ∧ ((s'.2.2 = 1 ∧ ∀ k : Nat, k < m + 1 → letB τ b k) ∨ (s'.2.2 = 0 ∧ ¬ ∀ k : Nat, k < m + 1 → letB τ b k))) ∧ (bnd p fun (x5_6 : Int32) => chk (inb (((8 : Int32) * (nI b)) + (nI m)) 32) (bnd (sI s.1 18 (ix (((8 : Int32) * (nI b)) + (nI m))) x5_6) fun (σ_7 : St) => bnd (s.2.1 + x5_6) fun (x2_8 : Int32) => (jp (fun (σ_9 : St)  (t_10 : Int32) => bnd t_10 fun (x3_11 : Int32) => bnd ((nI m) + (1 : Int32)) fun (x4_12 : Int32) => fX9_lays_L7 (nI b) (fun (σ_19 : St) (x2_20 : Int32) (x3_21 : Int32) (_ : Int32) => (if x3_21 = 0 then some (σ_19, (0 : Int32)) else (if x2_20 = (100 : Int32) then some (σ_19, (1 : Int32)) else some (σ_19, (0 : Int32))))) n σ_9 x2_8 x3_11 x4_12) fun j123 => jp (fun (σ_13 : St)   => j123 σ_13 (0 : Int32)) fun j122 => (if s.2.2 = 0 then j122 σ_7 else (jp (fun (σ_14 : St)   => j123 σ_14 (1 : Int32)) fun j118 => (if x5_6 = 0 then j118 σ_7 else cl (fX9_isStep σ_7 (nI m)) fun (σ_15 : St) (t_16 : Int32) => (if t_16 = 0 then j122 σ_15 else cl (fX9_isBarred σ_15 (nI m)) fun (σ_17 : St) (t_18 : Int32) => (if t_18 = 0 then j118 σ_17 else j122 σ_17))))))) = fX9_lays_L7 (nI b) (fun (σ_19 : St) (x2_20 : Int32) (x3_21 : Int32) (_ : Int32) => (if x3_21 = 0 then some (σ_19, (0 : Int32)) else (if x2_20 = (100 : Int32) then some (σ_19, (1 : Int32)) else some (σ_19, (0 : Int32))))) n s'.1 s'.2.1 s'.2.2 (nI (m + 1)) := by
        intro p hpp
        have f1 : frm aPut noL τ (sI s.1 18 (8 * b + m) p) := frm_trans p1 (frm_sI _ _ rfl)
        have hc1 : core (sI s.1 18 (8 * b + m) p) = core τ := core_frm f1 aPut_sc
        have e2 : s.2.1 + p = Int32.ofInt (sumN (m + 1) (lotP τ b)) := by
          rw [p3, hpp]
          exact (Int32.ofInt_add _ _).symm
        have ep : p.toInt = lotP τ b m := by rw [hpp, i32o (by omega) (by omega)]
        have e18 : ∀ i : Nat, (sI s.1 18 (8 * b + m) p).1 18 i = if 8 * b ≤ i ∧ i < 8 * b + (m + 1) then Int32.ofInt (lotP τ b (i - 8 * b)) else τ.1 18 i := by
          intro i
          rw [sI_at]
          by_cases e : i = 8 * b + m
          · rw [if_pos e, if_pos (show 8 * b ≤ i ∧ i < 8 * b + (m + 1) by omega), hpp, show i - 8 * b = m by omega]
          · rw [if_neg e, p2 i]
            by_cases e3 : 8 * b ≤ i ∧ i < 8 * b + m
            · rw [if_pos e3, if_pos (show 8 * b ≤ i ∧ i < 8 * b + (m + 1) by omega)]
            · rw [if_neg e3, if_neg (show ¬ (8 * b ≤ i ∧ i < 8 * b + (m + 1)) by omega)]
        have all1 : (∀ k : Nat, k < m + 1 → letB τ b k) ↔ (∀ k : Nat, k < m → letB τ b k) ∧ letB τ b m := by
          refine ⟨fun w => ⟨fun k hk => w k (by omega), w m (by omega)⟩, fun w k hk => ?_⟩
          by_cases e : k = m
          · subst e; exact w.2
          · exact w.1 k (by omega)
        generalize hσ7 : sI s.1 18 (8 * b + m) p = σ7 at f1 hc1 e18
        have fin : ∀ z : Int32, ((z = 1 ∧ ∀ k : Nat, k < m + 1 → letB τ b k) ∨ (z = 0 ∧ ¬ ∀ k : Nat, k < m + 1 → letB τ b k)) → ∃ s' : St × Int32 × Int32, (frm aPut noL τ s'.1 ∧ (∀ i : Nat, s'.1.1 18 i = if 8 * b ≤ i ∧ i < 8 * b + (m + 1) then Int32.ofInt (lotP τ b (i - 8 * b)) else τ.1 18 i) ∧ s'.2.1 = Int32.ofInt (sumN (m + 1) (lotP τ b)) ∧ ((s'.2.2 = 1 ∧ ∀ k : Nat, k < m + 1 → letB τ b k) ∨ (s'.2.2 = 0 ∧ ¬ ∀ k : Nat, k < m + 1 → letB τ b k))) ∧ (bnd z fun (x3_11 : Int32) => bnd ((nI m) + (1 : Int32)) fun (x4_12 : Int32) => fX9_lays_L7 (nI b) (fun (σ_19 : St) (x2_20 : Int32) (x3_21 : Int32) (_ : Int32) => (if x3_21 = 0 then some (σ_19, (0 : Int32)) else (if x2_20 = (100 : Int32) then some (σ_19, (1 : Int32)) else some (σ_19, (0 : Int32))))) n σ7 (s.2.1 + p) x3_11 x4_12) = fX9_lays_L7 (nI b) (fun (σ_19 : St) (x2_20 : Int32) (x3_21 : Int32) (_ : Int32) => (if x3_21 = 0 then some (σ_19, (0 : Int32)) else (if x2_20 = (100 : Int32) then some (σ_19, (1 : Int32)) else some (σ_19, (0 : Int32))))) n s'.1 s'.2.1 s'.2.2 (nI (m + 1)) := by
          intro z hz
          refine ⟨(σ7, s.2.1 + p, z), ⟨f1, e18, e2, hz⟩, ?_⟩
          rw [bnd_eq, bnd_eq, ← nI_succ]
        rw [bnd_eq, ix8' b (by omega) m hm, chk_t hin, ix_nI (m := 8 * b + m) (by omega), hσ7, bnd_eq, bnd_eq, jp_eq, jp_eq, jp_eq]
        rcases p4 with ⟨a1, a2⟩ | ⟨a1, a2⟩
        · rw [a1, if_neg one0]
          by_cases z0 : p = 0
          · rw [if_pos z0]
            refine fin 1 (Or.inl ⟨rfl, all1.mpr ⟨a2, Or.inl ?_⟩⟩)
            rw [← ep, z0]; rfl
          · have z0' : ¬ lotP τ b m = 0 := fun w => z0 (Int32.toInt_inj.mp (by rw [ep, w]; rfl))
            have hK : rg (σ7.1 0 2) 1 8 := by rw [f1.1 0 2 rfl]; exact h.hK
            have es : (0 ≤ (nI m).toInt ∧ (nI m).toInt < (σ7.1 0 2).toInt) ↔ m < nK τ := by
              rw [f1.1 0 2 rfl, h.nk, nI_toInt (by omega)]
              omega
            rw [if_neg z0, isStep_eq hK, cl_some]
            by_cases w1 : m < nK τ
            · rw [if_pos (es.mpr w1), if_neg one0, barredM (okM_fr hc1 h).law (by omega), cl_some]
              by_cases w2 : barN τ m
              · rw [if_pos (show barF σ7 (frc σ7) m from (barN_fr hc1 m).mpr w2), if_neg one0]
                refine fin 0 (Or.inr ⟨rfl, fun w => ?_⟩)
                rcases (all1.mp w).2 with q | q
                · exact z0' q
                · exact q.2 w2
              · rw [if_neg (show ¬ barF σ7 (frc σ7) m from fun w => w2 ((barN_fr hc1 m).mp w)), if_pos rfl]
                exact fin 1 (Or.inl ⟨rfl, all1.mpr ⟨a2, Or.inr ⟨w1, w2⟩⟩⟩)
            · rw [if_neg (fun w => w1 (es.mp w)), if_pos rfl]
              refine fin 0 (Or.inr ⟨rfl, fun w => ?_⟩)
              rcases (all1.mp w).2 with q | q
              · exact z0' q
              · exact w1 q.1
        · rw [a1, if_pos rfl]
          exact fin 0 (Or.inr ⟨rfl, fun w => a2 (all1.mp w).1⟩)
      show ∃ s' : St × Int32 × Int32, _ ∧ fX9_lays_L7 _ _ (n + 1) s.1 s.2.1 s.2.2 _ = _
      rw [fX9_lays_L7, if_neg cc, chk_t hin4, jp_eq, ix_nI (m := b) (by omega), p1.1 15 b rfl, p1.1 16 b rfl]
      by_cases w1 : τ.1 15 b = 1
      · have w1' : (τ.1 15 b).toInt = 1 := by rw [w1]; rfl
        rw [if_pos w1, chk_t hin4]
        by_cases w2 : nI m = τ.1 16 b
        · rw [if_pos w2]
          refine tail 100 ?_
          unfold lotP
          rw [if_pos w1', if_pos (by rw [← w2, nI_toInt (by omega)])]
          rfl
        · rw [if_neg w2]
          refine tail 0 ?_
          unfold lotP
          rw [if_pos w1', if_neg (fun q => w2 (Int32.toInt_inj.mp (by rw [nI_toInt (by omega)]; exact q)))]
          rfl
      · have w1' : ¬ (τ.1 15 b).toInt = 1 := fun q => w1 (Int32.toInt_inj.mp (q.trans z_1.symm))
        rw [if_neg w1, chk_t hin4]
        by_cases w2 : τ.1 15 b = 2
        · rw [if_pos w2, ix8' b (by omega) m hm, chk_t hin, ix_nI (m := 8 * b + m) (by omega), p1.1 17 _ rfl, ← ix8' b (by omega) m hm]
          refine tail _ ?_
          unfold lotP
          rw [if_neg w1', if_pos (eq2.mp w2)]
          exact (Int32.ofInt_toInt _).symm
        · rw [if_neg w2]
          refine tail 0 ?_
          unfold lotP
          rw [if_neg w1', if_neg (fun q => w2 (eq2.mpr q))]
          rfl) FU 0 (τ, 0, 1) (by omega) (by have : FU = 100000 := rfl; omega) ⟨frm_refl _ _ _, fun i => by rw [if_neg (by omega)], rfl, Or.inl ⟨rfl, fun k hk => absurd hk (by omega)⟩⟩
  obtain ⟨q1, q2, q3, q4⟩ := hp1
  have hsb : 0 ≤ sumN 8 (lotP τ b) ∧ sumN 8 (lotP τ b) ≤ 800 := by
    refine ⟨sumN_nn 8 (fun k hk => (lotP_b ha hb hk).1), ?_⟩
    exact Int.le_trans (sumN_ub (f := lotP τ b) 8 100 (fun k hk => (lotP_b ha hb hk).2)) (by decide)
  have e100 : s1.2.1 = 100 ↔ sumN 8 (lotP τ b) = 100 := by
    rw [q3, eq_i, i32o (by omega) (by omega), z_100]
  rcases q4 with ⟨a1, a2⟩ | ⟨a1, a2⟩
  · by_cases w : sumN 8 (lotP τ b) = 100
    · refine ⟨s1.1, 1, e1.trans ?_, q1, q2, Or.inl ⟨rfl, a2, w⟩⟩
      show (if s1.2.2 = 0 then _ else _) = _
      rw [a1, if_neg one0, if_pos (e100.mpr w)]
    · refine ⟨s1.1, 0, e1.trans ?_, q1, q2, Or.inr ⟨rfl, fun q => w q.2⟩⟩
      show (if s1.2.2 = 0 then _ else _) = _
      rw [a1, if_neg one0, if_neg (fun q => w (e100.mp q))]
  · refine ⟨s1.1, 0, e1.trans ?_, q1, q2, Or.inr ⟨rfl, fun q => a2 q.1⟩⟩
    show (if s1.2.2 = 0 then _ else _) = _
    rw [a1, if_pos rfl]
