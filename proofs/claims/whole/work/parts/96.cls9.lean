/-! the invariant over scratch; the class's best step -/
def scI (c _k : Nat) : Bool := (Nat.ble 10 c && Nat.ble c 18) || (Nat.ble 43 c && Nat.ble c 52) || Nat.ble 56 c
def coreI (σ : St) : St := (fun c k => cond (scI c k) 0 (σ.1 c k), fun _ _ => 0)
def InvA (σ τ : St) : Prop := iS σ τ ∧ iP σ τ ∧ iL σ τ ∧ iO σ τ ∧ iR σ τ
theorem InvA_core (σ τ : St) : InvA (coreI σ) τ = InvA σ τ := rfl
theorem Inv_coreM (σ τ : St) : Inv σ (core τ) = Inv σ τ := rfl
theorem scI_f {c k : Nat} (h : (c < 10 ∨ 18 < c) ∧ (c < 43 ∨ 52 < c) ∧ c < 56) : scI c k = false := by
  unfold scI
  have a : (Nat.ble 10 c && Nat.ble c 18) = false := by
    cases e : (Nat.ble 10 c && Nat.ble c 18)
    · rfl
    · rw [Bool.and_eq_true, Nat.ble_eq, Nat.ble_eq] at e; omega
  have b : (Nat.ble 43 c && Nat.ble c 52) = false := by
    cases e : (Nat.ble 43 c && Nat.ble c 52)
    · rfl
    · rw [Bool.and_eq_true, Nat.ble_eq, Nat.ble_eq] at e; omega
  have d : Nat.ble 56 c = false := by
    cases e : Nat.ble 56 c
    · rfl
    · rw [Nat.ble_eq] at e; omega
  rw [a, b, d]
  rfl
theorem Inv_fr {σ σ' τ τ' : St} (hC : ∀ c k : Nat, scI c k = false → σ'.1 c k = σ.1 c k) (hM : core τ' = core τ) (h : Inv σ τ) : Inv σ' τ' := by
  have h1 : Inv σ τ' := by rw [← Inv_coreM, hM, Inv_coreM]; exact h
  have e : coreI σ' = coreI σ := by
    unfold coreI
    congr 1
    funext c k
    cases q : scI c k
    · exact hC c k q
    · rfl
  have hA : InvA σ' τ' := by
    rw [← InvA_core, e, InvA_core]
    exact ⟨h1.1, h1.2.1, h1.2.2.2.1, h1.2.2.2.2.1, h1.2.2.2.2.2⟩
  have im := h1.2.2.1
  have hq : ∀ q : Nat, 19 ≤ q → q < 43 → σ'.1 q = σ.1 q := fun q h1 h2 => funext (fun k => hC q k (scI_f ⟨Or.inr (by omega), Or.inl h2, by omega⟩))
  refine ⟨hA.1, hA.2.1, ⟨?_, im.2.1, fun i hi => ?_⟩, hA.2.2.1, hA.2.2.2.1, hA.2.2.2.2⟩
  · rw [hC 0 14 rfl]; exact im.1
  · have := im.2.1.2
    have hi4 : i < 4 := by omega
    rw [hq (imC i + 1) (by unfold imC; omega) (by unfold imC; omega), hq (imC i + 2) (by unfold imC; omega) (by unfold imC; omega), hq (imC i + 3) (by unfold imC; omega) (by unfold imC; omega), hq (imC i) (by unfold imC; omega) (by unfold imC; omega)]
    exact im.2.2 i hi
theorem Inv.okM {σ τ : St} (h : Inv σ τ) : okM τ := by
  obtain ⟨⟨_, ⟨b0, b1, b2, b3, b4, b5, b6⟩, hs, _⟩, ⟨_, _, hp, hf, hb⟩, _, ⟨_, hl, hll⟩, _⟩ := h
  have n0 : ((nB τ : Nat) : Int) = (τ.1 0 0).toInt := by unfold nB; have := b0.1; omega
  have n1 : ((nS τ : Nat) : Int) = (τ.1 0 1).toInt := by unfold nS; have := b1.1; omega
  exact ⟨b0, b1, b2, b3, b4, b5, b6, fun s w => by
    obtain ⟨_, _, _, _, a1, a2, a3, a4, a5, _⟩ := hs s (by omega)
    exact ⟨a1, a2, a3, a4, a5⟩, hp, hf, hl, fun i hi => ⟨(hll i hi).2.2.1, (hll i hi).2.2.2⟩, fun b w => (hb b (by omega)).2.1⟩
theorem Inv.okA {σ τ : St} (h : Inv σ τ) : okA τ := by
  obtain ⟨⟨_, ⟨b0, _⟩, _⟩, ⟨_, _, _, _, hb⟩, _⟩ := h
  have n0 : ((nB τ : Nat) : Int) = (τ.1 0 0).toInt := by unfold nB; have := b0.1; omega
  intro b w
  obtain ⟨_, _, _, a1, a2, a3⟩ := hb b (by omega)
  exact ⟨a1, a2, fun k hk => (a3 k hk).2⟩
theorem Inv.cls {σ τ : St} (h : Inv σ τ) : clsR σ τ (nmd τ) := by
  have hM := h.okM
  obtain ⟨⟨⟨s0, s1, s2, s3, s4, s5, s6, _⟩, ⟨b0, b1, _⟩, hs, h9⟩, ⟨hp, hf, _, _, hb⟩, _, ⟨hl, _, hll⟩, _⟩ := h
  have n0 : ((nB τ : Nat) : Int) = (τ.1 0 0).toInt := by unfold nB; have := b0.1; omega
  have n1 : ((nS τ : Nat) : Int) = (τ.1 0 1).toInt := by unfold nS; have := b1.1; omega
  have h12 := hM.n12
  refine ⟨⟨s0, s1, s2, s3, s4, s5, s6⟩, fun s w => ?_, ⟨hp, hf, hl⟩, fun b w => ?_, fun i hi => ⟨(hll i hi).1, (hll i hi).2.1⟩⟩
  · obtain ⟨a1, a2, a3, a4, _, _, _, a8, _⟩ := hs s (by omega)
    refine ⟨a1, a2, a3, a4, fun hk => ?_⟩
    have w8 := a8 hk
    have w9 := w8.2
    rw [p2i] at w9
    have : nB τ = (τ.1 0 0).toInt.toNat := rfl
    refine ⟨?_, ?_⟩
    · rw [h9 s (by omega), a3]; exact nI_mk (by omega)
    · show (τ.1 5 s).toInt.toNat < 2 ^ (τ.1 0 0).toInt.toNat
      omega
  · obtain ⟨a1, _, a2, a3, a4, a5⟩ := hb b (by omega)
    refine ⟨a1, a2, fun k hk => ?_⟩
    rw [(a5 k hk).1]
    unfold lotP
    split
    · split <;> rfl
    · split
      · exact (Int32.ofInt_toInt _).symm
      · rfl
/-! what baker b gains at each step -/
theorem soldG_sub (τ : St) (G : Nat → Int) (c : Int) (s set b : Nat) (r : Nat → Nat) : soldG τ (fun l => G l - c) s set b r = soldG τ G s set b r - c * soldG τ (fun _ => 1) s set b r := by
  unfold soldG
  cases leastN (nB τ) set r with
  | none => show (0 : Int) = 0 - c * 0; omega
  | some l =>
    show soldF τ s set b r * (G l - c) = soldF τ s set b r * G l - c * (soldF τ s set b r * 1)
    rw [Int.mul_sub, Int.mul_one, Int.mul_comm c]
theorem setSum_sub (τ : St) (sh : Prop) [Decidable sh] (dr : Nat → Nat) (s : Nat) (F G : Nat → Int) (c : Int) : setSum τ sh dr s (fun set => F set - c * G set) = setSum τ sh dr s F - c * setSum τ sh dr s G := by
  unfold setSum
  split
  · rw [← sumN_mul, ← sumN_sub]
    refine sumN_congr _ (fun k _ => ?_)
    split
    · rfl
    · rw [Int.mul_zero]; rfl
  · rfl
theorem genS_sub (τ : St) (sh : Prop) [Decidable sh] (dr : Nat → Nat) (G : Nat → Int) (c : Int) (b : Nat) (r : Nat → Nat) : genS τ sh dr (fun l => G l - c) b r = genS τ sh dr G b r - c * genS τ sh dr (fun _ => 1) b r := by
  unfold genS
  rw [← sumN_mul, ← sumN_sub]
  refine sumN_congr _ (fun s _ => ?_)
  rw [setSum_congr (fun set => soldG_sub τ G c s set b r), setSum_sub, Int.mul_sub, Int.mul_left_comm]
theorem genS_earn (τ : St) (sh : Prop) [Decidable sh] (dr : Nat → Nat) (b : Nat) (r : Nat → Nat) : genS τ sh dr (fun l => prc τ l - cst τ b) b r = earnF τ sh dr b r := rfl
/-- what baker b gains at step k, times the others' weights -/
def gnS (τ : St) (sh : Prop) [Decidable sh] (dr : Nat → Nat) (P : Nat → Nat → Int) (b k : Nat) : Int := exO (nK τ) b (nB τ) P (fun r => earnF τ sh dr b (upN r b k))
theorem svS_full {τ : St} (h : okM τ) (sh : Prop) [Decidable sh] (dr : Nat → Nat) (P : Nat → Nat → Int) (G : Nat → Int) {b k : Nat} (hb : b < nB τ) (hk : k < nK τ) : svS τ sh dr P G b (nK τ ^ (nB τ - 1)) k = exO (nK τ) b (nB τ) P (fun r => genS τ sh dr G b (upN r b k)) := by
  have h8 := h.k8
  unfold svS
  rw [if_pos hk]
  exact exO_sum (by omega) hb (fun r => genS τ sh dr G b (upN r b k))
theorem gnS_eq {τ : St} (h : okM τ) (sh : Prop) [Decidable sh] (dr : Nat → Nat) (P : Nat → Nat → Int) {b k : Nat} (hb : b < nB τ) (hk : k < nK τ) : svS τ sh dr P (prc τ) b (nK τ ^ (nB τ - 1)) k - cst τ b * svS τ sh dr P (fun _ => 1) b (nK τ ^ (nB τ - 1)) k = gnS τ sh dr P b k := by
  have h8 := h.k8
  unfold gnS
  rw [← exO_sum (by omega) hb]
  unfold svS
  rw [if_pos hk, if_pos hk, ← sumN_mul, ← sumN_sub]
  refine sumN_congr _ (fun c _ => ?_)
  rw [← genS_earn, genS_sub, Int.mul_sub, Int.mul_left_comm]
theorem earnF_b {τ : St} (h : okM τ) (sh : Prop) [Decidable sh] (dr : Nat → Nat) {b : Nat} (hb : b < nB τ) {r : Nat → Nat} (hr : ∀ j : Nat, r j < 8) : -68428800 ≤ earnF τ sh dr b r ∧ earnF τ sh dr b r ≤ 68428800 := by
  refine genS_b h sh dr (G := fun l => prc τ l - cst τ b) (fun l hl => ?_) b hr
  have a := prc_b h (l := l) (by omega)
  have c := h.hc b hb
  have c1 := c.1
  have c2 := c.2
  show -300 ≤ prc τ l - (τ.1 2 b).toInt ∧ prc τ l - (τ.1 2 b).toInt ≤ 300
  omega
theorem exO_b {τ : St} (h : okM τ) {P : Nat → Nat → Int} {b : Nat} (hb : b < nB τ) (hP : ∀ j : Nat, j < nB τ → j ≠ b → ∀ k : Nat, k < 8 → 0 ≤ P j k ∧ P j k ≤ 100) {F : (Nat → Nat) → Int} (hF : ∀ r : Nat → Nat, (∀ j : Nat, r j < 8) → -68428800 ≤ F r ∧ F r ≤ 68428800) : -35035545600000000 ≤ exO (nK τ) b (nB τ) P F ∧ exO (nK τ) b (nB τ) P F ≤ 35035545600000000 := by
  have h4 := h.n4
  have h8 := h.k8
  have a := exO_abs (K := nK τ) (b := b) (P := P) (c := 800) (B := 68428800) (by omega) (by omega) (by omega) (nB τ) F (fun j hj hjb => ⟨fun k hk => (hP j hj hjb k (by omega)).1, by
    have := sumN_ub (f := P j) (nK τ) 100 (fun k hk => (hP j hj hjb k (by omega)).2)
    omega⟩) hF hb
  have hp : (800 : Int) ^ (nB τ - 1) ≤ 512000000 := by
    have : nB τ - 1 = 0 ∨ nB τ - 1 = 1 ∨ nB τ - 1 = 2 ∨ nB τ - 1 = 3 := by omega
    rcases this with e | e | e | e <;> rw [e] <;> decide
  have hq : (800 : Int) ^ (nB τ - 1) * 68428800 ≤ 512000000 * 68428800 := Int.mul_le_mul_of_nonneg_right hp (by omega)
  omega
theorem gnS_b {τ : St} (h : okM τ) (sh : Prop) [Decidable sh] (dr : Nat → Nat) {P : Nat → Nat → Int} {b k : Nat} (hb : b < nB τ) (hP : ∀ j : Nat, j < nB τ → j ≠ b → ∀ k : Nat, k < 8 → 0 ≤ P j k ∧ P j k ≤ 100) (hk : k < nK τ) : -35035545600000000 ≤ gnS τ sh dr P b k ∧ gnS τ sh dr P b k ≤ 35035545600000000 := by
  have h8 := h.k8
  exact exO_b h hb hP (fun r hr => earnF_b h sh dr hb (upN8 hr (by omega)))
/-- the latest survey was of baker b -/
def svd (σ τ : St) (sh : Prop) [Decidable sh] (dr : Nat → Nat) (P : Nat → Nat → Int) (b : Nat) : Prop := lacc σ (svS τ sh dr P (fun _ => 1) b (nK τ ^ (nB τ - 1))) (svS τ sh dr P (prc τ) b (nK τ ^ (nB τ - 1)))
theorem gainAtC {σ τ : St} {dr : Nat → Nat} (h : okM τ) (c : clsR σ τ dr) (sh : Prop) [Decidable sh] {b : Nat} (hb : b < nB τ) {P : Nat → Nat → Int} (hv : svd σ τ sh dr P b) {k : Nat} (hk : k < nK τ) : fX7_gainAt σ (nI b) (nI k) = some (σ, Int64.ofInt (gnS τ sh dr P b k)) := by
  have h4 := h.n4
  have h8 := h.k8
  unfold fX7_gainAt
  have hin : inb (nI k) 8 = true := inb_nI (by omega) (by decide)
  have hin4 : inb (nI b) 4 = true := inb_nI (by omega) (by decide)
  have e1 := (hv k (by omega)).1
  have e2 := (hv k (by omega)).2
  have ec : (σ.1 25 b).toInt64 = Int64.ofInt (cst τ b) := by rw [(c.bk hb).1, i64_of]; rfl
  rw [chk_t hin, chk_t hin4, chk_t hin, ix_nI (m := k) (by omega), ix_nI (m := b) (by omega), e1, e2, ec, ← Int64.ofInt_mul, ← Int64.ofInt_sub, gnS_eq h sh dr P hb hk]
theorem bestStepC {σ τ : St} {dr : Nat → Nat} (h : okM τ) (c : clsR σ τ dr) {f : Int} (ho : opnd σ τ f dr) {b : Nat} (hb : b < nB τ) {P : Nat → Nat → Int} (hP : ∀ j : Nat, j < nB τ → j ≠ b → ∀ k : Nat, k < 8 → 0 ≤ P j k ∧ P j k ≤ 100) (hv : svd σ τ (shtF τ f) dr P b) : fX7_bestStep σ (nI b) = some (σ, encN (bestN (barF τ f) (gnS τ (shtF τ f) dr P b) (nK τ))) := by
  have h4 := h.n4
  have h8 := h.k8
  unfold fX7_bestStep
  rw [bnd_eq, bnd_eq]
  obtain ⟨x, hx, e⟩ := loopG (S := Int32) (fun n x m => fX7_bestStep_L4 (nI b) (fun (σ_14 : St) (x2_15 : Int32) (_ : Int32) => some (σ_14, x2_15)) n σ x (nI m)) (nK τ) (fun m x => x = encN (bestN (barF τ f) (gnS τ (shtF τ f) dr P b) m)) (fun x => some (σ, x)) (fun n x hp => by
      show fX7_bestStep_L4 _ _ (n + 1) σ x _ = _
      rw [fX7_bestStep_L4, c.nk h, if_pos (by rw [le_i]; omega)]) (fun n m x hm hp => by
      show ∃ x', _ ∧ fX7_bestStep_L4 _ _ (n + 1) σ x _ = _
      have hfb := ho.2.1 m (by omega)
      rw [fX7_bestStep_L4, c.nk h, if_neg (by rw [le_i, nI_toInt (by omega), nI_toInt (by omega)]; omega), isFreeC, cl_some, jp_eq]
      by_cases hbm : barF τ f m
      · rw [if_neg (fun w => (hfb.mp w).2 hbm), if_pos rfl]
        exact ⟨x, by rw [hp, bestN_bar hbm], by rw [nI_succ]; all_goals rfl⟩
      · rw [if_pos (hfb.mpr ⟨hm, hbm⟩), if_neg one0, jp_eq]
        cases e : bestN (barF τ f) (gnS τ (shtF τ f) dr P b) m with
        | none =>
          rw [if_pos (show x = -1 by rw [hp, e]; rfl)]
          exact ⟨nI m, by rw [bestN_new hbm e]; rfl, by rw [nI_succ]; all_goals rfl⟩
        | some q =>
          have hq := (bestN_lt _ _ e).1
          have ex : x = nI q := by rw [hp, e]; rfl
          have b1 := gnS_b h (shtF τ f) dr hb hP hm
          have b2 := gnS_b h (shtF τ f) dr hb hP (k := q) (by omega)
          have cmp : (lg_cmp (Int64.ofInt (gnS τ (shtF τ f) dr P b m)) (Int64.ofInt (gnS τ (shtF τ f) dr P b q)) ≤ 0) ↔ ¬ gnS τ (shtF τ f) dr P b q < gnS τ (shtF τ f) dr P b m := by
            rw [lg_cmp_le, Int64.le_iff_toInt_le, i64o (by omega) (by omega), i64o (by omega) (by omega)]
            omega
          rw [if_neg (show ¬ x = -1 by rw [ex]; exact nI_ne_m1 (by omega)), gainAtC h c (shtF τ f) hb hv hm, cl_some, ex, gainAtC h c (shtF τ f) hb hv (k := q) (by omega), cl_some]
          by_cases w : gnS τ (shtF τ f) dr P b q < gnS τ (shtF τ f) dr P b m
          · rw [if_neg (fun z => cmp.mp z w)]
            exact ⟨nI m, by rw [bestN_old hbm e, if_pos w]; rfl, by rw [nI_succ]; all_goals rfl⟩
          · rw [if_pos (cmp.mpr w)]
            exact ⟨nI q, by rw [bestN_old hbm e, if_neg w]; rfl, by rw [nI_succ]; all_goals rfl⟩) FU 0 (-1) (by omega) (by have : FU = 100000 := rfl; omega) rfl
  refine e.trans ?_
  rw [hx]
theorem makeSureC (σ : St) {b s : Nat} (hb : b < 4) (hs : s < 8) : ∃ σ', fX7_makeSure σ (nI b) (nI s) = some (σ', ()) ∧ frm (mk 45 45) noL σ σ' ∧ ∀ i : Nat, σ'.1 45 i = if 8 * b ≤ i ∧ i < 8 * b + 8 then (if i = 8 * b + s then 100 else 0) else σ.1 45 i := by
  unfold fX7_makeSure
  rw [bnd_eq]
  obtain ⟨σ1, hp, e⟩ := loopG (S := St) (fun n s' m => fX7_makeSure_L2 (nI b) (nI s) (fun (σ_6 : St) (_ : Int32) => some (σ_6, ())) n s' (nI m)) 8 (fun m s' => frm (mk 45 45) noL σ s' ∧ ∀ i : Nat, s'.1 45 i = if 8 * b ≤ i ∧ i < 8 * b + m then (if i = 8 * b + s then 100 else 0) else σ.1 45 i) (fun s' => some (s', ())) (fun n s' hp => by
      rw [fX7_makeSure_L2, if_pos (by decide)]) (fun n m s' hm hp => by
      have cc : ¬ (8 : Int32) ≤ nI m := by rw [le_i, z_8, nI_toInt (by omega)]; omega
      have hin : inb (nI (8 * b + m)) 32 = true := inb_nI (by omega) (by decide)
      refine ⟨sI s' 45 (8 * b + m) (if m = s then 100 else 0), ⟨frm_trans hp.1 (frm_sI _ _ rfl), fun i => ?_⟩, ?_⟩
      · rw [sI_at]
        by_cases e : i = 8 * b + m
        · rw [if_pos e, if_pos (show 8 * b ≤ i ∧ i < 8 * b + (m + 1) by omega)]
          by_cases e2 : m = s
          · rw [if_pos e2, if_pos (by omega)]
          · rw [if_neg e2, if_neg (by omega)]
        · rw [if_neg e, hp.2 i]
          by_cases e3 : 8 * b ≤ i ∧ i < 8 * b + m
          · rw [if_pos e3, if_pos (show 8 * b ≤ i ∧ i < 8 * b + (m + 1) by omega)]
          · rw [if_neg e3, if_neg (show ¬ (8 * b ≤ i ∧ i < 8 * b + (m + 1)) by omega)]
      · rw [fX7_makeSure_L2, if_neg cc, jp_eq, ix8 b hb m hm]
        by_cases e2 : m = s
        · rw [if_pos ((ofNI (by omega) (by omega)).mpr e2), if_pos e2]
          refine (chk_t hin _).trans ?_
          rw [bnd_eq, bnd_eq, ix_nI (by omega), ← nI_succ]
        · rw [if_neg (fun w => e2 ((ofNI (by omega) (by omega)).mp w)), if_neg e2]
          refine (chk_t hin _).trans ?_
          rw [bnd_eq, bnd_eq, ix_nI (by omega), ← nI_succ]) FU 0 σ (by omega) (by have : FU = 100000 := rfl; omega) ⟨frm_refl _ _ _, fun i => by rw [if_neg (by omega)]⟩
  exact ⟨σ1, e, hp.1, hp.2⟩
