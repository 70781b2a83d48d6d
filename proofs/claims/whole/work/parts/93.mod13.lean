/-! the asks as parts: knocks, lays, areWhole, areReady -/
def aKno (c _k : Nat) : Bool := Nat.beq c 27
theorem aKno_sc : ∀ c k : Nat, aKno c k = true → scM c k = true := by
  intro c k h
  have : c = 27 := Nat.eq_of_beq_eq_true h
  subst this
  rfl
theorem knocksM {τ : St} (h : okM τ) : ∃ τ', fX9_knocks τ = some (τ', ()) ∧ frm aKno noL τ τ' ∧ (∀ s : Nat, s < nS τ → τ'.1 27 s = τ.1 5 s) ∧ drOK τ' (nmd τ) := by
  have h12 := h.n12
  unfold fX9_knocks
  rw [bnd_eq]
  obtain ⟨τ1, hp1, e1⟩ := loopG (S := St) (fun n s m => fX9_knocks_L2 (fun (σ_4 : St) (_ : Int32) => some (σ_4, ())) n s (nI m)) (nS τ) (fun m s => frm aKno noL τ s ∧ ∀ k : Nat, k < m → s.1 27 k = τ.1 5 k) (fun s => some (s, ())) (fun n s hp => by
      have cc : s.1 0 1 ≤ nI (nS τ) := by rw [hp.1.1 0 1 rfl, le_i, h.ns, nI_toInt (by omega)]; omega
      rw [fX9_knocks_L2, if_pos cc]) (fun n m s hm hp => by
      have cc : ¬ s.1 0 1 ≤ nI m := by rw [hp.1.1 0 1 rfl, le_i, h.ns, nI_toInt (by omega)]; omega
      have hin : inb (nI m) 12 = true := inb_nI (by omega) (by decide)
      refine ⟨sI s 27 m (τ.1 5 m), ⟨frm_trans hp.1 (frm_sI _ _ rfl), fun k hk => ?_⟩, ?_⟩
      · rw [sI_at]
        by_cases e : k = m
        · rw [if_pos e, e]
        · rw [if_neg e]; exact hp.2 k (by omega)
      · rw [fX9_knocks_L2, if_neg cc, chk_t hin, chk_t hin, bnd_eq, bnd_eq, ix_nI (m := m) (by omega), hp.1.1 5 m rfl, ← nI_succ]) FU 0 τ (by omega) (by have : FU = 100000 := rfl; omega) ⟨frm_refl _ _ _, fun k hk => absurd hk (by omega)⟩
  refine ⟨τ1, e1, hp1.1, hp1.2, ?_⟩
  have hc : core τ1 = core τ := core_frm hp1.1 aKno_sc
  intro s hs hk
  rw [fr nS (fun _ => rfl) hc] at hs
  rw [fr (fun τ => knd τ s) (fun _ => rfl) hc] at hk
  rw [fr nB (fun _ => rfl) hc, hp1.2 s hs]
  have w := (h.hs s hs).2.2.2.1 hk
  have : nB τ = (τ.1 0 0).toInt.toNat := rfl
  refine ⟨nI_mk (by omega), ?_⟩
  have w2 := w.2
  rw [p2i] at w2
  show (τ.1 5 s).toInt.toNat < 2 ^ (τ.1 0 0).toInt.toNat
  omega
/-- the asks as Inv has them -/
def okA (τ : St) : Prop := ∀ b : Nat, b < nB τ → rg (τ.1 15 b) 0 3 ∧ ((τ.1 15 b).toInt = 1 → 0 ≤ (τ.1 16 b).toInt ∧ (τ.1 16 b).toInt < (τ.1 0 2).toInt) ∧ ∀ k : Nat, k < 8 → (τ.1 15 b).toInt = 2 → rg (τ.1 17 (8 * b + k)) 0 100
/-- the parts that baker b's ask lays down, and whether they are whole -/
def lotP (τ : St) (b k : Nat) : Int := if (τ.1 15 b).toInt = 1 then (if (k : Int) = (τ.1 16 b).toInt then 100 else 0) else if (τ.1 15 b).toInt = 2 then (τ.1 17 (8 * b + k)).toInt else 0
def letB (τ : St) (b k : Nat) : Prop := lotP τ b k = 0 ∨ k < nK τ ∧ ¬ barN τ k
def okLot (τ : St) (b : Nat) : Prop := (∀ k : Nat, k < 8 → letB τ b k) ∧ sumN 8 (lotP τ b) = 100
theorem lotP_b {τ : St} (ha : okA τ) {b k : Nat} (hb : b < nB τ) (hk : k < 8) : 0 ≤ lotP τ b k ∧ lotP τ b k ≤ 100 := by
  obtain ⟨h1, h2, h3⟩ := ha b hb
  unfold lotP
  by_cases e1 : (τ.1 15 b).toInt = 1
  · rw [if_pos e1]
    by_cases e2 : (k : Int) = (τ.1 16 b).toInt
    · rw [if_pos e2]; omega
    · rw [if_neg e2]; omega
  · rw [if_neg e1]
    by_cases e2 : (τ.1 15 b).toInt = 2
    · rw [if_pos e2]; exact h3 k hk e2
    · rw [if_neg e2]; omega
theorem laysBM {τ : St} (h : okM τ) (ha : okA τ) {b : Nat} (hb : b < nB τ) : ∃ (τ' : St) (x : Int32), fX9_lays τ (nI b) = some (τ', x) ∧ frm aPut noL τ τ' ∧ (∀ i : Nat, τ'.1 18 i = if 8 * b ≤ i ∧ i < 8 * b + 8 then Int32.ofInt (lotP τ b (i - 8 * b)) else τ.1 18 i) ∧ ((x = 1 ∧ okLot τ b) ∨ (x = 0 ∧ ¬ okLot τ b)) := by
  have h4 := h.n4
  have h8 := h.k8
  unfold fX9_lays
  rw [bnd_eq, bnd_eq, bnd_eq]
  obtain ⟨s1, hp1, e1⟩ := loopG (S := St × Int32 × Int32) (fun n s m => fX9_lays_L7 (nI b) (fun (σ_19 : St) (x2_20 : Int32) (x3_21 : Int32) (_ : Int32) => (if x3_21 = 0 then some (σ_19, (0 : Int32)) else (if x2_20 = (100 : Int32) then some (σ_19, (1 : Int32)) else some (σ_19, (0 : Int32))))) n s.1 s.2.1 s.2.2 (nI m)) 8 (fun m s => frm aPut noL τ s.1 ∧ (∀ i : Nat, s.1.1 18 i = if 8 * b ≤ i ∧ i < 8 * b + m then Int32.ofInt (lotP τ b (i - 8 * b)) else τ.1 18 i) ∧ s.2.1 = Int32.ofInt (sumN m (lotP τ b)) ∧ ((s.2.2 = 1 ∧ ∀ k : Nat, k < m → letB τ b k) ∨ (s.2.2 = 0 ∧ ¬ ∀ k : Nat, k < m → letB τ b k))) (fun s => (if s.2.2 = 0 then some (s.1, (0 : Int32)) else (if s.2.1 = (100 : Int32) then some (s.1, (1 : Int32)) else some (s.1, (0 : Int32))))) (fun n s hp => by
      show fX9_lays_L7 _ _ (n + 1) s.1 s.2.1 s.2.2 _ = _
      rw [fX9_lays_L7, if_pos (by decide)]) (fun n m s hm hp => by
      obtain ⟨p1, p2, p3, p4⟩ := hp
      have hc : core s.1 = core τ := core_frm p1 aPut_sc
      have cc : ¬ (8 : Int32) ≤ nI m := by rw [le_i, z_8, nI_toInt (by omega)]; omega
      have hin : inb (nI (8 * b + m)) 32 = true := inb_nI (by omega) (by decide)
      have hin4 : inb (nI b) 4 = true := inb_nI (by omega) (by decide)
      have hlb := lotP_b ha hb hm
      have hsb : 0 ≤ sumN m (lotP τ b) ∧ sumN m (lotP τ b) ≤ 800 := by
        refine ⟨sumN_nn m (fun k hk => (lotP_b ha hb (by omega)).1), ?_⟩
        have := sumN_ub (f := lotP τ b) m 100 (fun k hk => (lotP_b ha hb (by omega)).2)
        omega
      -- what stands behind the choice of p
      have tail : ∀ p : Int32, p = Int32.ofInt (lotP τ b m) → ∃ s' : St × Int32 × Int32, (frm aPut noL τ s'.1 ∧ (∀ i : Nat, s'.1.1 18 i = if 8 * b ≤ i ∧ i < 8 * b + (m + 1) then Int32.ofInt (lotP τ b (i - 8 * b)) else τ.1 18 i) ∧ s'.2.1 = Int32.ofInt (sumN (m + 1) (lotP τ b)) ∧ ((s'.2.2 = 1 ∧ ∀ k : Nat, k < m + 1 → letB τ b k) ∨ (s'.2.2 = 0 ∧ ¬ ∀ k : Nat, k < m + 1 → letB τ b k))) ∧ (bnd p fun (x5_6 : Int32) => chk (inb (((8 : Int32) * (nI b)) + (nI m)) 32) (bnd (sI s.1 18 (ix (((8 : Int32) * (nI b)) + (nI m))) x5_6) fun (σ_7 : St) => bnd (s.2.1 + x5_6) fun (x2_8 : Int32) => (jp (fun (σ_9 : St)  (t_10 : Int32) => bnd t_10 fun (x3_11 : Int32) => bnd ((nI m) + (1 : Int32)) fun (x4_12 : Int32) => fX9_lays_L7 (nI b) (fun (σ_19 : St) (x2_20 : Int32) (x3_21 : Int32) (_ : Int32) => (if x3_21 = 0 then some (σ_19, (0 : Int32)) else (if x2_20 = (100 : Int32) then some (σ_19, (1 : Int32)) else some (σ_19, (0 : Int32))))) n σ_9 x2_8 x3_11 x4_12) fun j123 => jp (fun (σ_13 : St)   => j123 σ_13 (0 : Int32)) fun j122 => (if s.2.2 = 0 then j122 σ_7 else (jp (fun (σ_14 : St)   => j123 σ_14 (1 : Int32)) fun j118 => (if x5_6 = 0 then j118 σ_7 else cl (fX9_isStep σ_7 (nI m)) fun (σ_15 : St) (t_16 : Int32) => (if t_16 = 0 then j122 σ_15 else cl (fX9_isBarred σ_15 (nI m)) fun (σ_17 : St) (t_18 : Int32) => (if t_18 = 0 then j118 σ_17 else j122 σ_17)))))))) = fX9_lays_L7 (nI b) (fun (σ_19 : St) (x2_20 : Int32) (x3_21 : Int32) (_ : Int32) => (if x3_21 = 0 then some (σ_19, (0 : Int32)) else (if x2_20 = (100 : Int32) then some (σ_19, (1 : Int32)) else some (σ_19, (0 : Int32))))) n s'.1 s'.2.1 s'.2.2 (nI (m + 1)) := by
        intro p hpp
        have f1 : frm aPut noL τ (sI s.1 18 (8 * b + m) p) := frm_trans p1 (frm_sI _ _ rfl)
        have hc1 : core (sI s.1 18 (8 * b + m) p) = core τ := core_frm f1 aPut_sc
        have e2 : s.2.1 + p = Int32.ofInt (sumN (m + 1) (lotP τ b)) := by
          rw [p3, hpp]
          exact (Int32.ofInt_add _ _).symm
        have ep : p.toInt = lotP τ b m := by rw [hpp, i32o (by omega) (by omega)]
        have e18 : ∀ i : Nat, (sI s.1 18 (8 * b + m) p).1 18 i = if 8 * b ≤ i ∧ i < 8 * b + (m + 1) then Int32.ofInt (lotP τ b (i - 8 * b)) else τ.1 18 i := by
          intro i
          rw [sI_at]
          by_cases e : i = 8 * b + m
          · rw [if_pos e, if_pos (show 8 * b ≤ i ∧ i < 8 * b + (m + 1) by omega), hpp, show i - 8 * b = m by omega]
          · rw [if_neg e, p2 i]
            by_cases e3 : 8 * b ≤ i ∧ i < 8 * b + m
            · rw [if_pos e3, if_pos (show 8 * b ≤ i ∧ i < 8 * b + (m + 1) by omega)]
            · rw [if_neg e3, if_neg (show ¬ (8 * b ≤ i ∧ i < 8 * b + (m + 1)) by omega)]
        have all1 : (∀ k : Nat, k < m + 1 → letB τ b k) ↔ (∀ k : Nat, k < m → letB τ b k) ∧ letB τ b m := by
          refine ⟨fun w => ⟨fun k hk => w k (by omega), w m (by omega)⟩, fun w k hk => ?_⟩
          by_cases e : k = m
          · subst e; exact w.2
          · exact w.1 k (by omega)
        generalize hσ7 : sI s.1 18 (8 * b + m) p = σ7 at f1 hc1 e18
        have fin : ∀ z : Int32, ((z = 1 ∧ ∀ k : Nat, k < m + 1 → letB τ b k) ∨ (z = 0 ∧ ¬ ∀ k : Nat, k < m + 1 → letB τ b k)) → ∃ s' : St × Int32 × Int32, (frm aPut noL τ s'.1 ∧ (∀ i : Nat, s'.1.1 18 i = if 8 * b ≤ i ∧ i < 8 * b + (m + 1) then Int32.ofInt (lotP τ b (i - 8 * b)) else τ.1 18 i) ∧ s'.2.1 = Int32.ofInt (sumN (m + 1) (lotP τ b)) ∧ ((s'.2.2 = 1 ∧ ∀ k : Nat, k < m + 1 → letB τ b k) ∨ (s'.2.2 = 0 ∧ ¬ ∀ k : Nat, k < m + 1 → letB τ b k))) ∧ (bnd z fun (x3_11 : Int32) => bnd ((nI m) + (1 : Int32)) fun (x4_12 : Int32) => fX9_lays_L7 (nI b) (fun (σ_19 : St) (x2_20 : Int32) (x3_21 : Int32) (_ : Int32) => (if x3_21 = 0 then some (σ_19, (0 : Int32)) else (if x2_20 = (100 : Int32) then some (σ_19, (1 : Int32)) else some (σ_19, (0 : Int32))))) n σ7 (s.2.1 + p) x3_11 x4_12) = fX9_lays_L7 (nI b) (fun (σ_19 : St) (x2_20 : Int32) (x3_21 : Int32) (_ : Int32) => (if x3_21 = 0 then some (σ_19, (0 : Int32)) else (if x2_20 = (100 : Int32) then some (σ_19, (1 : Int32)) else some (σ_19, (0 : Int32))))) n s'.1 s'.2.1 s'.2.2 (nI (m + 1)) := by
          intro z hz
          refine ⟨(σ7, s.2.1 + p, z), ⟨f1, e18, e2, hz⟩, ?_⟩
          rw [bnd_eq, bnd_eq, ← nI_succ]
        rw [bnd_eq, ix8' b (by omega) m hm, chk_t hin, ix_nI (m := 8 * b + m) (by omega), hσ7, bnd_eq, bnd_eq, jp_eq, jp_eq, jp_eq]
        rcases p4 with ⟨a1, a2⟩ | ⟨a1, a2⟩
        · rw [a1, if_neg one0]
          by_cases z0 : p = 0
          · rw [if_pos z0]
            refine fin 1 (Or.inl ⟨rfl, all1.mpr ⟨a2, Or.inl ?_⟩⟩)
            rw [← ep, z0]; rfl
          · have z0' : ¬ lotP τ b m = 0 := fun w => z0 (Int32.toInt_inj.mp (by rw [ep, w]; rfl))
            have hK : rg (σ7.1 0 2) 1 8 := by rw [f1.1 0 2 rfl]; exact h.hK
            have es : (0 ≤ (nI m).toInt ∧ (nI m).toInt < (σ7.1 0 2).toInt) ↔ m < nK τ := by
              rw [f1.1 0 2 rfl, h.nk, nI_toInt (by omega)]
              omega
            rw [if_neg z0, isStep_eq hK, cl_some]
            by_cases w1 : m < nK τ
            · rw [if_pos (es.mpr w1), if_neg one0, barredM (okM_fr hc1 h).law (by omega), cl_some]
              by_cases w2 : barN τ m
              · rw [if_pos (show barF σ7 (frc σ7) m from (barN_fr hc1 m).mpr w2), if_neg one0]
                refine fin 0 (Or.inr ⟨rfl, fun w => ?_⟩)
                rcases (all1.mp w).2 with q | q
                · exact z0' q
                · exact q.2 w2
              · rw [if_neg (show ¬ barF σ7 (frc σ7) m from fun w => w2 ((barN_fr hc1 m).mp w)), if_pos rfl]
                exact fin 1 (Or.inl ⟨rfl, all1.mpr ⟨a2, Or.inr ⟨w1, w2⟩⟩⟩)
            · rw [if_neg (fun w => w1 (es.mp w)), if_pos rfl]
              refine fin 0 (Or.inr ⟨rfl, fun w => ?_⟩)
              rcases (all1.mp w).2 with q | q
              · exact z0' q
              · exact w1 q.1
        · rw [a1, if_pos rfl]
          exact fin 0 (Or.inr ⟨rfl, fun w => a2 (all1.mp w).1⟩)
      show ∃ s' : St × Int32 × Int32, _ ∧ fX9_lays_L7 _ _ (n + 1) s.1 s.2.1 s.2.2 _ = _
      rw [fX9_lays_L7, if_neg cc, chk_t hin4, jp_eq, ix_nI (m := b) (by omega), p1.1 15 b rfl, p1.1 16 b rfl]
      by_cases w1 : τ.1 15 b = 1
      · have w1' : (τ.1 15 b).toInt = 1 := by rw [w1]; rfl
        rw [if_pos w1, chk_t hin4]
        by_cases w2 : nI m = τ.1 16 b
        · rw [if_pos w2]
          refine tail 100 ?_
          unfold lotP
          rw [if_pos w1', if_pos (by rw [← w2, nI_toInt (by omega)])]
          rfl
        · rw [if_neg w2]
          refine tail 0 ?_
          unfold lotP
          rw [if_pos w1', if_neg (fun q => w2 (Int32.toInt_inj.mp (by rw [nI_toInt (by omega)]; exact q)))]
          rfl
      · have w1' : ¬ (τ.1 15 b).toInt = 1 := fun q => w1 (Int32.toInt_inj.mp (q.trans z_1.symm))
        rw [if_neg w1, chk_t hin4]
        by_cases w2 : τ.1 15 b = 2
        · have hin' : inb ((8 : Int32) * nI b + nI m) 32 = true := by rw [ix8' b (by omega) m hm]; exact hin
          have e17 : s.1.1 17 (ix ((8 : Int32) * nI b + nI m)) = τ.1 17 (8 * b + m) := by rw [ix8' b (by omega) m hm, ix_nI (m := 8 * b + m) (by omega), p1.1 17 _ rfl]
          rw [if_pos w2, chk_t hin', e17]
          refine tail _ ?_
          unfold lotP
          rw [if_neg w1', if_pos (eq2.mp w2)]
          exact (Int32.ofInt_toInt _).symm
        · rw [if_neg w2]
          refine tail 0 ?_
          unfold lotP
          rw [if_neg w1', if_neg (fun q => w2 (eq2.mpr q))]
          rfl) FU 0 (τ, 0, 1) (by omega) (by have : FU = 100000 := rfl; omega) ⟨frm_refl _ _ _, fun i => by rw [if_neg (by omega)], rfl, Or.inl ⟨rfl, fun k hk => absurd hk (by omega)⟩⟩
  obtain ⟨q1, q2, q3, q4⟩ := hp1
  have hsb : 0 ≤ sumN 8 (lotP τ b) ∧ sumN 8 (lotP τ b) ≤ 800 := by
    refine ⟨sumN_nn 8 (fun k hk => (lotP_b ha hb hk).1), ?_⟩
    exact Int.le_trans (sumN_ub (f := lotP τ b) 8 100 (fun k hk => (lotP_b ha hb hk).2)) (by decide)
  have e100 : s1.2.1 = 100 ↔ sumN 8 (lotP τ b) = 100 := by
    rw [q3, eq_i, i32o (by omega) (by omega), z_100]
  rcases q4 with ⟨a1, a2⟩ | ⟨a1, a2⟩
  · by_cases w : sumN 8 (lotP τ b) = 100
    · refine ⟨s1.1, 1, e1.trans ?_, q1, q2, Or.inl ⟨rfl, a2, w⟩⟩
      show (if s1.2.2 = 0 then _ else _) = _
      rw [a1, if_neg one0, if_pos (e100.mpr w)]
    · refine ⟨s1.1, 0, e1.trans ?_, q1, q2, Or.inr ⟨rfl, fun q => w q.2⟩⟩
      show (if s1.2.2 = 0 then _ else _) = _
      rw [a1, if_neg one0, if_neg (fun q => w (e100.mp q))]
  · refine ⟨s1.1, 0, e1.trans ?_, q1, q2, Or.inr ⟨rfl, fun q => a2 q.1⟩⟩
    show (if s1.2.2 = 0 then _ else _) = _
    rw [a1, if_pos rfl]
theorem okA_fr {τ τ' : St} (h : core τ' = core τ) : okA τ → okA τ' := fun w => (fr okA (fun _ => rfl) h).mpr w
/-- the bakers one by one: none, they aren't whole; else who answers -/
noncomputable def scanW (τ : St) : Nat → Option (Option Nat)
  | 0 => some none
  | n + 1 => match scanW τ n with
    | none => none
    | some a => if (τ.1 15 n).toInt = 3 then (match a with
      | none => some (some n)
      | some _ => none) else @ite _ (okLot τ n) (Classical.propDecidable _) (some a) none
theorem scanW_none {τ : St} : ∀ (m n : Nat), m ≤ n → scanW τ m = none → scanW τ n = none := by
  intro m n
  induction n with
  | zero => intro h1 h2; have : m = 0 := by omega
            subst this; exact h2
  | succ n ih =>
    intro h1 h2
    by_cases e : m = n + 1
    · subst e; exact h2
    · rw [scanW, ih (by omega) h2]
theorem scanW_an0 {τ : St} {n : Nat} (h : scanW τ n = some none) (h3 : (τ.1 15 n).toInt = 3) : scanW τ (n + 1) = some (some n) := by
  rw [scanW, h]
  show (if (τ.1 15 n).toInt = 3 then _ else _) = _
  rw [if_pos h3]
theorem scanW_an1 {τ : St} {n q : Nat} (h : scanW τ n = some (some q)) (h3 : (τ.1 15 n).toInt = 3) : scanW τ (n + 1) = none := by
  rw [scanW, h]
  show (if (τ.1 15 n).toInt = 3 then _ else _) = _
  rw [if_pos h3]
theorem scanW_ok {τ : St} {n : Nat} {a : Option Nat} (h : scanW τ n = some a) (h3 : ¬ (τ.1 15 n).toInt = 3) (ho : okLot τ n) : scanW τ (n + 1) = some a := by
  rw [scanW, h]
  show (if (τ.1 15 n).toInt = 3 then _ else _) = _
  rw [if_neg h3, if_pos ho]
theorem scanW_no {τ : St} {n : Nat} {a : Option Nat} (h : scanW τ n = some a) (h3 : ¬ (τ.1 15 n).toInt = 3) (ho : ¬ okLot τ n) : scanW τ (n + 1) = none := by
  rw [scanW, h]
  show (if (τ.1 15 n).toInt = 3 then _ else _) = _
  rw [if_neg h3, if_neg ho]
theorem scanW_a {τ : St} : ∀ (n : Nat) (a : Option Nat), scanW τ n = some a → (∀ q : Nat, a = some q → q < n ∧ (τ.1 15 q).toInt = 3) ∧ ∀ b : Nat, b < n → a ≠ some b → okLot τ b := by
  intro n
  induction n with
  | zero => intro a h; cases h; exact ⟨fun q hq => (by cases hq), fun b hb => absurd hb (by omega)⟩
  | succ n ih =>
    intro a h
    cases e : scanW τ n with
    | none => rw [scanW_none n (n + 1) (by omega) e] at h; cases h
    | some a0 =>
      obtain ⟨i1, i2⟩ := ih a0 e
      by_cases h3 : (τ.1 15 n).toInt = 3
      · cases a0 with
        | none =>
          rw [scanW_an0 e h3] at h
          cases h
          refine ⟨fun q hq => by cases hq; exact ⟨by omega, h3⟩, fun b hb hne => ?_⟩
          by_cases e2 : b = n
          · subst e2; exact absurd rfl hne
          · exact i2 b (by omega) (by intro w; cases w)
        | some q => rw [scanW_an1 e h3] at h; cases h
      · by_cases ho : okLot τ n
        · rw [scanW_ok e h3 ho] at h
          cases h
          refine ⟨fun q hq => ⟨by have := (i1 q hq).1; omega, (i1 q hq).2⟩, fun b hb hne => ?_⟩
          by_cases e2 : b = n
          · subst e2; exact ho
          · exact i2 b (by omega) hne
        · rw [scanW_no e h3 ho] at h; cases h
theorem ofNI {a b : Nat} (ha : a < 2147483648) (hb : b < 2147483648) : (nI a = nI b) ↔ a = b := by
  rw [eq_i, nI_toInt (by omega), nI_toInt (by omega)]
  omega
/-- all that areReady finds: none, not whole; else each baker's parts -/
noncomputable def rdy (τ : St) (dr : Nat → Nat) : Option (Nat → Nat → Int) := match scanW τ (nB τ) with
  | none => none
  | some none => if 0 < nB τ then some (lotP τ) else none
  | some (some a) => match bestN (barN τ) (atE τ dr (lotP τ) a) (nK τ) with
    | none => none
    | some k => some (putP (lotP τ) a k)
theorem rdy_no {τ : St} {dr : Nat → Nat} (h : scanW τ (nB τ) = none) : rdy τ dr = none := by
  unfold rdy; rw [h]
theorem rdy_pl {τ : St} {dr : Nat → Nat} (h : scanW τ (nB τ) = some none) : rdy τ dr = if 0 < nB τ then some (lotP τ) else none := by
  unfold rdy; rw [h]
theorem rdy_an0 {τ : St} {dr : Nat → Nat} {a : Nat} (h : scanW τ (nB τ) = some (some a)) (e : bestN (barN τ) (atE τ dr (lotP τ) a) (nK τ) = none) : rdy τ dr = none := by
  unfold rdy; rw [h]
  show (match bestN (barN τ) (atE τ dr (lotP τ) a) (nK τ) with | none => none | some k => some (putP (lotP τ) a k)) = _
  rw [e]
theorem rdy_an1 {τ : St} {dr : Nat → Nat} {a k : Nat} (h : scanW τ (nB τ) = some (some a)) (e : bestN (barN τ) (atE τ dr (lotP τ) a) (nK τ) = some k) : rdy τ dr = some (putP (lotP τ) a k) := by
  unfold rdy; rw [h]
  show (match bestN (barN τ) (atE τ dr (lotP τ) a) (nK τ) with | none => none | some k => some (putP (lotP τ) a k)) = _
  rw [e]
theorem aPut_all : ∀ c k : Nat, aAll c k = false → aPut c k = false := fun _ _ h => (bf h).2
theorem aEarn_all : ∀ c k : Nat, aAll c k = false → aEarn c k = false := fun _ _ h => (bf h).1
theorem areWholeM {τ : St} (h : okM τ) (ha : okA τ) {dr : Nat → Nat} (hd : drOK τ dr) : ∃ (τ' : St) (x : Int32), fX9_areWhole τ = some (τ', x) ∧ frm aAll bBest τ τ' ∧ ((x = 0 ∧ rdy τ dr = none) ∨ ∃ P : Nat → Nat → Int, x = 1 ∧ rdy τ dr = some P ∧ ptM τ' P) := by
  have h4 := h.n4
  have h8 := h.k8
  unfold fX9_areWhole
  rw [bnd_eq, bnd_eq]
  have key := loopX (S := St × Int32) (fun n s m => fX9_areWhole_L4 (fun (σ_9 : St) (x1_10 : Int32) (_ : Int32) => (if x1_10 = (-1 : Int32) then (if (σ_9.1 0 0) ≤ 0 then some (σ_9, (0 : Int32)) else some (σ_9, (1 : Int32))) else cl (fX9_isAllBarred σ_9 ) fun (σ_12 : St) (t_13 : Int32) => (if t_13 = 0 then cl (fX9_bestOf σ_12 x1_10) fun (σ_14 : St) (t_15 : Int32) => cl (fX9_puts σ_14 x1_10 t_15) fun (σ_16 : St) (_ : Unit) => some (σ_16, (1 : Int32)) else some (σ_12, (0 : Int32))))) n s.1 s.2 (nI m)) (nB τ) (fun m s => frm aPut noL τ s.1 ∧ ∃ a : Option Nat, scanW τ m = some a ∧ s.2 = encN a ∧ ∀ j : Nat, j < m → a ≠ some j → ∀ k : Nat, k < 8 → s.1.1 18 (8 * j + k) = Int32.ofInt (lotP τ j k)) (fun s => (if s.2 = (-1 : Int32) then (if (s.1.1 0 0) ≤ 0 then some (s.1, (0 : Int32)) else some (s.1, (1 : Int32))) else cl (fX9_isAllBarred s.1 ) fun (σ_12 : St) (t_13 : Int32) => (if t_13 = 0 then cl (fX9_bestOf σ_12 s.2) fun (σ_14 : St) (t_15 : Int32) => cl (fX9_puts σ_14 s.2 t_15) fun (σ_16 : St) (_ : Unit) => some (σ_16, (1 : Int32)) else some (σ_12, (0 : Int32))))) (fun res => ∃ τ' : St, res = some (τ', (0 : Int32)) ∧ frm aPut noL τ τ' ∧ scanW τ (nB τ) = none) (fun n s hp => by
      have cc : s.1.1 0 0 ≤ nI (nB τ) := by rw [hp.1.1 0 0 rfl, le_i, h.nb, nI_toInt (by omega)]; omega
      show fX9_areWhole_L4 _ (n + 1) s.1 s.2 _ = _
      rw [fX9_areWhole_L4, if_pos cc]) (fun n m s hm hp => by
      obtain ⟨p1, a, p2, p3, p4⟩ := hp
      have hc : core s.1 = core τ := core_frm p1 aPut_sc
      have cc : ¬ s.1.1 0 0 ≤ nI m := by rw [p1.1 0 0 rfl, le_i, h.nb, nI_toInt (by omega)]; omega
      have hin4 : inb (nI m) 4 = true := inb_nI (by omega) (by decide)
      show (∃ s' : St × Int32, _ ∧ fX9_areWhole_L4 _ (n + 1) s.1 s.2 _ = _) ∨ (∃ τ' : St, fX9_areWhole_L4 _ (n + 1) s.1 s.2 _ = _ ∧ _)
      rw [fX9_areWhole_L4, if_neg cc, chk_t hin4, jp_eq, ix_nI (m := m) (by omega), p1.1 15 m rfl]
      by_cases w3 : τ.1 15 m = 3
      · have w3' : (τ.1 15 m).toInt = 3 := by rw [w3]; rfl
        rw [if_pos w3]
        cases a with
        | none =>
          rw [if_pos (show s.2 = -1 from p3)]
          refine Or.inl ⟨(s.1, nI m), ⟨p1, some m, scanW_an0 p2 w3', rfl, fun j hj hne k hk => ?_⟩, ?_⟩
          · have hjm : j ≠ m := fun q => hne (by rw [q])
            exact p4 j (by omega) (by intro w; cases w) k hk
          · rw [nI_succ]; all_goals rfl
        | some q =>
          have hq := (scanW_a m (some q) p2).1 q rfl
          rw [if_neg (show ¬ s.2 = -1 by rw [p3]; exact nI_ne_m1 (by omega))]
          exact Or.inr ⟨s.1, rfl, p1, scanW_none (m + 1) (nB τ) (by omega) (scanW_an1 p2 w3')⟩
      · have w3' : ¬ (τ.1 15 m).toInt = 3 := fun q => w3 (Int32.toInt_inj.mp q)
        obtain ⟨τ2, x, q1, q2, q3, q4⟩ := laysBM (okM_fr hc h) (okA_fr hc ha) (b := m) (by rw [fr nB (fun _ => rfl) hc]; exact hm)
        rw [fr (fun τ => lotP τ m) (fun _ => rfl) hc] at q3
        rw [fr (fun τ => okLot τ m) (fun _ => rfl) hc] at q4
        rw [if_neg w3, q1, cl_some]
        have f2 : frm aPut noL τ τ2 := frm_trans p1 q2
        rcases q4 with ⟨a1, a2⟩ | ⟨a1, a2⟩
        · rw [if_neg (by rw [a1]; exact one0)]
          refine Or.inl ⟨(τ2, s.2), ⟨f2, a, scanW_ok p2 w3' a2, p3, fun j hj hne k hk => ?_⟩, ?_⟩
          · show τ2.1 18 (8 * j + k) = _
            rw [q3]
            by_cases e : j = m
            · rw [if_pos (by omega), show 8 * j + k - 8 * m = k by omega, e]
            · rw [if_neg (by omega)]
              exact p4 j (by omega) hne k hk
          · rw [nI_succ]; all_goals rfl
        · rw [if_pos a1]
          exact Or.inr ⟨τ2, rfl, f2, scanW_none (m + 1) (nB τ) (by omega) (scanW_no p2 w3' a2)⟩) FU 0 (τ, -1) (by omega) (by have : FU = 100000 := rfl; omega) ⟨frm_refl _ _ _, none, rfl, rfl, fun j hj => absurd hj (by omega)⟩
  rcases key with ⟨s1, ⟨p1, a, p2, p3, p4⟩, e1⟩ | ⟨τ1, e1, p1, p2⟩
  · have hc : core s1.1 = core τ := core_frm p1 aPut_sc
    have hN : nB s1.1 = nB τ := fr nB (fun _ => rfl) hc
    cases a with
    | none =>
      have e0 : s1.2 = -1 := p3
      by_cases w : 0 < nB τ
      · refine ⟨s1.1, 1, e1.trans ?_, frm_mono aPut_all (fun _ _ _ => rfl) p1, Or.inr ⟨lotP τ, rfl, ?_, ?_⟩⟩
        · show (if s1.2 = -1 then _ else _) = _
          rw [if_pos e0, if_neg (by rw [p1.1 0 0 rfl, le_i, h.nb, z_0]; omega)]
        · rw [rdy_pl p2, if_pos w]
        · intro j hj k hk
          rw [hN] at hj
          exact ⟨p4 j hj (by intro w; cases w) k hk, lotP_b ha hj hk⟩
      · refine ⟨s1.1, 0, e1.trans ?_, frm_mono aPut_all (fun _ _ _ => rfl) p1, Or.inl ⟨rfl, ?_⟩⟩
        · show (if s1.2 = -1 then _ else _) = _
          rw [if_pos e0, if_pos (by rw [p1.1 0 0 rfl, le_i, h.nb, z_0]; omega)]
        · rw [rdy_pl p2, if_neg w]
    | some q =>
      have hq := ((scanW_a (nB τ) (some q) p2).1 q rfl).1
      have e0 : ¬ s1.2 = -1 := by rw [p3]; exact nI_ne_m1 (by omega)
      have hX : ptX s1.1 q (lotP τ) := by
        intro j hj hjq k hk
        rw [hN] at hj
        exact ⟨p4 j hj (by intro w; cases w; exact hjq rfl) k hk, lotP_b ha hj hk⟩
      have hall := allBarredM (okM_fr hc h) (atE τ dr (lotP τ) q)
      have eb : bestN (barN s1.1) (atE τ dr (lotP τ) q) (nK s1.1) = bestN (barN τ) (atE τ dr (lotP τ) q) (nK τ) := fr (fun σ => bestN (barN σ) (atE τ dr (lotP τ) q) (nK σ)) (fun _ => rfl) hc
      rw [eb] at hall
      obtain ⟨τ2, q1, q2, q3⟩ := bestOfM (okM_fr hc h) (P := lotP τ) (dr := dr) (drOK_fr hc (fun k => p1.1 27 k rfl) hd) (b := q) (by rw [hN]; exact hq) hX
      have eb2 : bestN (barN s1.1) (atE s1.1 dr (lotP τ) q) (nK s1.1) = bestN (barN τ) (atE τ dr (lotP τ) q) (nK τ) := fr (fun σ => bestN (barN σ) (atE σ dr (lotP τ) q) (nK σ)) (fun _ => rfl) hc
      rw [eb2] at q1
      cases e : bestN (barN τ) (atE τ dr (lotP τ) q) (nK τ) with
      | none =>
        refine ⟨s1.1, 0, e1.trans ?_, frm_mono aPut_all (fun _ _ _ => rfl) p1, Or.inl ⟨rfl, rdy_an0 p2 e⟩⟩
        show (if s1.2 = -1 then _ else _) = _
        rw [if_neg e0, hall, e, if_pos rfl, cl_some, if_neg one0]
      | some k =>
        have hk := (bestN_lt _ _ e).1
        rw [e] at q1
        obtain ⟨τ3, r1, r2, r3⟩ := putsM τ2 (b := q) (s := k) (by omega) (by omega)
        have f2 : frm aAll bBest τ τ2 := frm_trans (frm_mono aPut_all (fun _ _ _ => rfl) p1) (frm_mono aEarn_all (fun _ _ w => w) q2)
        have hc2 : core τ2 = core s1.1 := core_frm q2 aEarn_sc
        have hc3 : core τ3 = core τ := (core_frm r2 aPut_sc).trans (hc2.trans hc)
        refine ⟨τ3, 1, e1.trans ?_, frm_trans f2 (frm_mono aPut_all (fun _ _ _ => rfl) r2), Or.inr ⟨putP (lotP τ) q k, rfl, rdy_an1 p2 e, ?_⟩⟩
        · show (if s1.2 = -1 then _ else _) = _
          rw [if_neg e0, hall, e, if_neg (by intro w; cases w), cl_some, if_pos rfl, p3]
          show cl (fX9_bestOf s1.1 (nI q)) _ = _
          rw [q1, cl_some]
          show cl (fX9_puts τ2 (nI q) (nI k)) _ = _
          rw [r1, cl_some]
        · exact ptM_putX (ptX_fr hc2 (fun i => q2.1 18 i rfl) hX) (fr nB (fun _ => rfl) (core_frm r2 aPut_sc)) r3
  · exact ⟨τ1, 0, e1, frm_mono aPut_all (fun _ _ _ => rfl) p1, Or.inl ⟨rfl, rdy_no p2⟩⟩
theorem scanW_core (τ : St) : ∀ n : Nat, scanW (core τ) n = scanW τ n := by
  intro n
  induction n with
  | zero => rfl
  | succ n ih =>
    cases e : scanW τ n with
    | none => rw [scanW_none n (n + 1) (by omega) e, scanW_none n (n + 1) (by omega) (ih.trans e)]
    | some a =>
      have e' := ih.trans e
      by_cases h3 : (τ.1 15 n).toInt = 3
      · cases a with
        | none => rw [scanW_an0 e h3, scanW_an0 e' h3]
        | some q => rw [scanW_an1 e h3, scanW_an1 e' h3]
      · by_cases ho : okLot τ n
        · rw [scanW_ok e h3 ho, scanW_ok e' h3 ho]
        · rw [scanW_no e h3 ho, scanW_no e' h3 ho]
theorem rdy_core (dr : Nat → Nat) (τ : St) : rdy (core τ) dr = rdy τ dr := by
  unfold rdy
  rw [show nB (core τ) = nB τ from rfl, scanW_core]
  rfl
theorem rdy_fr {τ τ' : St} (h : core τ' = core τ) (dr : Nat → Nat) : rdy τ' dr = rdy τ dr := fr (fun σ => rdy σ dr) (rdy_core dr) h
def aRdy (c _k : Nat) : Bool := (Nat.beq c 21 || Nat.beq c 28 || Nat.beq c 18) || Nat.beq c 27
theorem aRdy_sc : ∀ c k : Nat, aRdy c k = true → scM c k = true := by
  intro c k h
  unfold aRdy at h
  rw [Bool.or_eq_true] at h
  rcases h with h | h
  · exact aAll_sc c k h
  · exact aKno_sc c k h
theorem readyM {τ : St} (h : okM τ) (ha : okA τ) : ∃ (τ' : St) (x : Int32), fX9_areReady τ = some (τ', x) ∧ core τ' = core τ ∧ frm aRdy bBest τ τ' ∧ drOK τ' (nmd τ) ∧ ((x = 0 ∧ rdy τ (nmd τ) = none) ∨ ∃ P : Nat → Nat → Int, x = 1 ∧ rdy τ (nmd τ) = some P ∧ ptM τ' P) := by
  unfold fX9_areReady
  obtain ⟨τ1, a1, a2, _, a4⟩ := knocksM h
  have hc1 : core τ1 = core τ := core_frm a2 aKno_sc
  obtain ⟨τ2, x, b1, b2, b3⟩ := areWholeM (okM_fr hc1 h) (okA_fr hc1 ha) a4
  have hc2 : core τ2 = core τ := (core_frm b2 aAll_sc).trans hc1
  rw [rdy_fr hc1] at b3
  refine ⟨τ2, x, ?_, hc2, frm_trans (frm_mono (fun _ _ w => (bf w).2) (fun _ _ _ => rfl) a2) (frm_mono (fun _ _ w => (bf w).1) (fun _ _ w => w) b2), drOK_fr (core_frm b2 aAll_sc) (fun k => b2.1 27 k rfl) a4, b3⟩
  rw [a1, cl_some, b1, cl_some]
  rcases b3 with ⟨e, _⟩ | ⟨P, e, _⟩
  · rw [e]; rfl
  · rw [e]; rfl
