/-! run -/
def vOf (z : Int64) : Nat := (z.toUInt64 >>> 33).toNat % 100
theorem t33 : (((33 : Int32)).toInt64.toUInt64 &&& Int64.toUInt64 63) = 33 := by decide
theorem vOf_lt (z : Int64) : vOf z < 100 := Nat.mod_lt _ (by decide)
theorem vOf_eq (z : Int64) : ((((z).toUInt64 >>> (((33 : Int32)).toInt64.toUInt64 &&& Int64.toUInt64 63)).toInt64) - (((z).toUInt64 >>> (((33 : Int32)).toInt64.toUInt64 &&& Int64.toUInt64 63)).toInt64) / (100 : Int64) * (100 : Int64)).toInt32 = nI (vOf z) := by
  rw [t33]
  have hlt : (z.toUInt64 >>> 33).toNat < 2 ^ 31 := by
    have e : (z.toUInt64 >>> 33).toNat = z.toUInt64.toNat / 2 ^ 33 := by
      rw [UInt64.toNat_shiftRight]
      exact Nat.shiftRight_eq_div_pow _ _
    have hz : z.toUInt64.toNat < 2 ^ 64 := z.toUInt64.toNat_lt
    omega
  have ex : (z.toUInt64 >>> 33).toInt64 = Int64.ofInt (((z.toUInt64 >>> 33).toNat : Nat) : Int) := by
    apply Int64.toInt_inj.mp
    rw [i64o (by omega) (by omega)]
    show (z.toUInt64 >>> 33).toBitVec.toInt = _
    exact BitVec.toInt_eq_toNat_of_lt (by show 2 * (z.toUInt64 >>> 33).toNat < 2 ^ 64; omega)
  have v := vOf_lt z
  rw [ex, show (100 : Int64) = Int64.ofInt ((100 : Nat) : Int) from rfl, rem64 (by omega) (by omega) (by omega), Int64.toInt32_ofInt]
  exact (nI_ofI (by unfold vOf at v; omega)).symm
/-- the first step whose parts, with those before it, are more than v -/
def dwF (P : Nat → Nat → Int) (b v : Nat) : Nat → Option Nat
  | 0 => none
  | m + 1 => match dwF P b v m with
    | some k => some k
    | none => if (v : Int) < sumN (m + 1) (P b) then some m else none
theorem dwF_s {P : Nat → Nat → Int} {b v k : Nat} : ∀ m n : Nat, m ≤ n → dwF P b v m = some k → dwF P b v n = some k := by
  intro m n
  induction n with
  | zero => intro h1 h2; have : m = 0 := by omega
            subst this; exact h2
  | succ n ih =>
    intro h1 h2
    by_cases e : m = n + 1
    · subst e; exact h2
    · rw [dwF, ih (by omega) h2]
theorem dwF_y {P : Nat → Nat → Int} {b v m : Nat} (h : dwF P b v m = none) (q : (v : Int) < sumN (m + 1) (P b)) : dwF P b v (m + 1) = some m := by rw [dwF, h]; exact if_pos q
theorem dwF_n {P : Nat → Nat → Int} {b v m : Nat} (h : dwF P b v m = none) (q : ¬ (v : Int) < sumN (m + 1) (P b)) : dwF P b v (m + 1) = none := by rw [dwF, h]; exact if_neg q
theorem dwF_lt {P : Nat → Nat → Int} {b v k : Nat} : ∀ m : Nat, dwF P b v m = some k → k < m := by
  intro m
  induction m with
  | zero => intro h; cases h
  | succ m ih =>
    intro h
    cases e : dwF P b v m with
    | some q => rw [dwF_s m (m + 1) (by omega) e] at h; cases h; have := ih e; omega
    | none =>
      by_cases q : (v : Int) < sumN (m + 1) (P b)
      · rw [dwF_y e q] at h; cases h; omega
      · rw [dwF_n e q] at h; cases h
theorem dwF_all {P : Nat → Nat → Int} {b v : Nat} : ∀ m : Nat, 0 < m → (v : Int) < sumN m (P b) → ∃ k : Nat, dwF P b v m = some k := by
  intro m
  cases m with
  | zero => intro h; omega
  | succ m =>
    intro _ q
    cases e : dwF P b v m with
    | some k => exact ⟨k, dwF_s m (m + 1) (by omega) e⟩
    | none => exact ⟨m, dwF_y e q⟩
def dw (τ : St) (P : Nat → Nat → Int) (b v : Nat) : Nat := (dwF P b v (nK τ)).getD 0
theorem dw_some {τ : St} (h : okM τ) {P : Nat → Nat → Int} (hW : okW τ P) {b v : Nat} (hb : b < nB τ) (hv : v < 100) : dwF P b v (nK τ) = some (dw τ P b v) ∧ dw τ P b v < nK τ := by
  have h8 := h.k8
  have e : sumN (nK τ) (P b) = 100 := by
    rw [← (hW b hb).2]
    exact (sumN_tail (by omega) (fun k h1 h2 => ((hW b hb).1 k h2).2.2 h1)).symm
  obtain ⟨k, hk⟩ := dwF_all (P := P) (b := b) (v := v) (nK τ) (by omega) (by omega)
  have ed : dw τ P b v = k := by unfold dw; rw [hk]; rfl
  rw [ed]
  exact ⟨hk, dwF_lt _ hk⟩
theorem psum_b {τ : St} {P : Nat → Nat → Int} (hW : okW τ P) {b : Nat} (hb : b < nB τ) {m : Nat} (hm : m ≤ 8) : 0 ≤ sumN m (P b) ∧ sumN m (P b) ≤ 800 := by
  refine ⟨sumN_nn _ (fun k hk => ((hW b hb).1 k (by omega)).1), ?_⟩
  have := sumN_ub (f := P b) m 100 (fun k hk => ((hW b hb).1 k (by omega)).2.1)
  omega
theorem drawnC {σ τ : St} {dr : Nat → Nat} (h : okM τ) (c : clsR σ τ dr) {P : Nat → Nat → Int} (hC : ptC σ (nB τ) P) (hW : okW τ P) {b v : Nat} (hb : b < nB τ) (hv : v < 100) : fX7_drawnStep σ (nI b) (nI v) = some (σ, nI (dw τ P b v)) := by
  have h4 := h.n4
  have h8 := h.k8
  obtain ⟨d1, d2⟩ := dw_some h hW hb hv
  unfold fX7_drawnStep
  rw [bnd_eq, bnd_eq]
  have key := loopX (S := Int32) (fun n x m => fX7_drawnStep_L5 (nI b) (nI v) (fun (σ_5 : St) (_ : Int32) (_ : Int32) => some (σ_5, (0 : Int32))) n σ x (nI m)) (nK τ) (fun m x => x = Int32.ofInt (sumN m (P b)) ∧ dwF P b v m = none) (fun _ => some (σ, 0)) (fun res => res = some (σ, nI (dw τ P b v))) (fun n x hp => by
      show fX7_drawnStep_L5 _ _ _ (n + 1) σ x _ = _
      rw [fX7_drawnStep_L5, c.nk h, if_pos (by rw [le_i]; omega)]) (fun n m x hm hp => by
      have hin : inb (nI (8 * b + m)) 32 = true := inb_nI (by omega) (by decide)
      have pb := psum_b hW hb (m := m + 1) (by omega)
      have es : x + Int32.ofInt (P b m) = Int32.ofInt (sumN (m + 1) (P b)) := by rw [hp.1, ← Int32.ofInt_add]; rfl
      show (∃ x', _ ∧ fX7_drawnStep_L5 _ _ _ (n + 1) σ x _ = _) ∨ (fX7_drawnStep_L5 _ _ _ (n + 1) σ x _ = _)
      rw [fX7_drawnStep_L5, c.nk h, if_neg (by rw [le_i, nI_toInt (by omega), nI_toInt (by omega)]; omega), ix8 b (by omega) m (by omega), chk_t hin, ix_nI (m := 8 * b + m) (by omega), hC b hb m (by omega), es, bnd_eq]
      by_cases w : (v : Int) < sumN (m + 1) (P b)
      · rw [if_neg (by rw [le_i, i32o (by omega) (by omega), nI_toInt (by omega)]; omega)]
        have ek := dwF_s (m + 1) (nK τ) (by omega) (dwF_y hp.2 w)
        rw [d1] at ek
        cases ek
        exact Or.inr rfl
      · rw [if_pos (by rw [le_i, i32o (by omega) (by omega), nI_toInt (by omega)]; omega)]
        exact Or.inl ⟨_, ⟨rfl, dwF_n hp.2 w⟩, by rw [nI_succ]; all_goals rfl⟩) FU 0 0 (by omega) (by have : FU = 100000 := rfl; omega) ⟨rfl, rfl⟩
  rcases key with ⟨x, hx, _⟩ | e
  · rw [d1] at hx; exact absurd hx.2 (by intro q; cases q)
  · exact e
theorem drawnM {τ2 τ : St} (h : okM τ) {P : Nat → Nat → Int} (hP : ptM τ2 P) (hc : core τ2 = core τ) (hW : okW τ P) {b : Nat} (hb : b < nB τ) {z : Int64} (hz : τ2.2 0 67 = z) : fX9_drawn τ2 (nI b) = some (sL τ2 0 67 (z * 6364136223846793005 + 1442695040888963407), nI (dw τ P b (vOf (z * 6364136223846793005 + 1442695040888963407)))) := by
  have h4 := h.n4
  have h8 := h.k8
  have hv := vOf_lt (z * 6364136223846793005 + 1442695040888963407)
  have hb2 : b < nB τ2 := by rw [fr nB (fun _ => rfl) hc]; exact hb
  unfold fX9_drawn
  rw [hz, bnd_eq, chk_t (by decide)]
  have e67 : (sL τ2 0 67 (z * 6364136223846793005 + 1442695040888963407)).2 0 67 = z * 6364136223846793005 + 1442695040888963407 := by rw [sL_at, if_pos rfl]
  rw [e67, vOf_eq, bnd_eq, bnd_eq, bnd_eq]
  have e18 : ∀ i : Nat, (sL τ2 0 67 (z * 6364136223846793005 + 1442695040888963407)).1 18 i = τ2.1 18 i := fun _ => rfl
  generalize sL τ2 0 67 (z * 6364136223846793005 + 1442695040888963407) = τ3 at e18
  generalize vOf (z * 6364136223846793005 + 1442695040888963407) = v at hv
  obtain ⟨d1, d2⟩ := dw_some h hW hb hv
  have key := loopX (S := Int32) (fun n x m => fX9_drawn_L34 (nI b) (nI v) (fun (σ_7 : St) (_ : Int32) (_ : Int32) => some (σ_7, (7 : Int32))) n τ3 x (nI m)) 8 (fun m x => x = Int32.ofInt (sumN m (P b)) ∧ dwF P b v m = none) (fun _ => some (τ3, 7)) (fun res => res = some (τ3, nI (dw τ P b v))) (fun n x hp => by
      show fX9_drawn_L34 _ _ _ (n + 1) τ3 x _ = _
      rw [fX9_drawn_L34, if_pos (by decide)]) (fun n m x hm hp => by
      have hin : inb (nI (8 * b + m)) 32 = true := inb_nI (by omega) (by decide)
      have pb := psum_b hW hb (m := m + 1) (by omega)
      have es : x + Int32.ofInt (P b m) = Int32.ofInt (sumN (m + 1) (P b)) := by rw [hp.1, ← Int32.ofInt_add]; rfl
      show (∃ x', _ ∧ fX9_drawn_L34 _ _ _ (n + 1) τ3 x _ = _) ∨ (fX9_drawn_L34 _ _ _ (n + 1) τ3 x _ = _)
      rw [fX9_drawn_L34, if_neg (by rw [le_i, z_8, nI_toInt (by omega)]; omega), ix8' b (by omega) m hm, chk_t hin, ix_nI (m := 8 * b + m) (by omega), e18, (hP b hb2 m hm).1, es, bnd_eq]
      by_cases w : (v : Int) < sumN (m + 1) (P b)
      · rw [if_neg (by rw [le_i, i32o (by omega) (by omega), nI_toInt (by omega)]; omega)]
        have ek := dwF_s (m + 1) 8 (by omega) (dwF_y hp.2 w)
        have ek2 := dwF_s (nK τ) 8 (by omega) d1
        rw [ek2] at ek
        have ek3 := Option.some.inj ek
        rw [ek3]
        exact Or.inr rfl
      · rw [if_pos (by rw [le_i, i32o (by omega) (by omega), nI_toInt (by omega)]; omega)]
        exact Or.inl ⟨_, ⟨rfl, dwF_n hp.2 w⟩, by rw [nI_succ]; all_goals rfl⟩) FU 0 0 (by omega) (by have : FU = 100000 := rfl; omega) ⟨rfl, rfl⟩
  rcases key with ⟨x, hx, _⟩ | e
  · rw [dwF_s (nK τ) 8 (by omega) d1] at hx; exact absurd hx.2 (by intro q; cases q)
  · exact e
def zN (z : Int64) : Nat → Int64
  | 0 => z
  | m + 1 => zN z m * 6364136223846793005 + 1442695040888963407
def rowZ (τ : St) (P : Nat → Nat → Int) (z : Int64) (j : Nat) : Nat := if j < nB τ then dw τ P j (vOf (zN z (j + 1))) else 0
theorem rowZ_lt {τ : St} (h : okM τ) {P : Nat → Nat → Int} (hW : okW τ P) (z : Int64) (j : Nat) : rowZ τ P z j < nK τ := by
  have h8 := h.k8
  unfold rowZ
  split
  · rename_i hj
    exact (dw_some h hW hj (vOf_lt _)).2
  · omega
/-- what one morning counts for -/
def mrn (τ : St) (dr : Nat → Nat) (w : Int) (r : Nat → Nat) : Int := if w < 20 then (if r (w - 10).toNat = lsO (nB τ) (fullN τ) r then 1 else 0) else if w < 30 then prc τ (r (w - 20).toNat) else payS τ dr r (w - 30).toNat
def okWh (τ : St) (w : Int) : Prop := (10 ≤ w ∧ w < 10 + nB τ) ∨ (20 ≤ w ∧ w < 20 + nB τ) ∨ (30 ≤ w ∧ w < 30 + nS τ)
theorem paidRowC {σ τ : St} {dr : Nat → Nat} (h : okM τ) (c : clsR σ τ dr) (hsh : σ.1 43 14 = if shN τ then 1 else 0) {r : Nat → Nat} (hr8 : ∀ j : Nat, r j < 8) (hrd : ∀ set : Nat, set < 2 ^ nB τ → rdS σ (nB τ) r set) {s : Nat} (hs : s < nS τ) : fX7_paidInRow σ (nI s) = some (σ, Int64.ofInt (payS τ dr r s)) := by
  have h4 := h.n4
  have h12 := h.n12
  have h16 := h.p16
  have fs := full_s (τ := τ)
  unfold fX7_paidInRow
  rw [bnd_eq, bnd_eq]
  obtain ⟨x, hx, e⟩ := loopG (S := Int64) (fun n x m => fX7_paidInRow_L5 (nI s) (fun (σ_17 : St) (x2_18 : Int64) (_ : Int32) => chk (inb (nI s) 12) (some (σ_17, ((x2_18 * (((σ_17.1 6 (ix (nI s)))).toInt64)) * (12 : Int64))))) n σ x (nI m)) (2 ^ nB τ) (fun m x => 1 ≤ m ∧ ∃ y : Int, x = Int64.ofInt y ∧ 12 * y = sumN m (fun set => cntS τ (shN τ) dr s set * payF τ s set r)) (fun x => chk (inb (nI s) 12) (some (σ, ((x * (((σ.1 6 (ix (nI s)))).toInt64)) * (12 : Int64))))) (fun n x hp => by
      show fX7_paidInRow_L5 _ _ (n + 1) σ x _ = _
      rw [fX7_paidInRow_L5, everyoneC h c, cl_some, if_pos (by rw [lt_i, nI_toInt (by omega), nI_toInt (by omega)]; omega)]) (fun n m x hm hp => by
      obtain ⟨p1, y, p2, p3⟩ := hp
      have cb := cntS_b h (shN τ) dr s m
      obtain ⟨b, hb, hbs⟩ := hasBit hm (by omega)
      have el := lsO_get (r := r) hb hbs
      obtain ⟨q1, _⟩ := hrd m hm
      have l7 : lsO (nB τ) m r < 8 := by have := lsO_le (r := r) hb hbs; have := hr8 b; omega
      have pb := prc_b h (l := lsO (nB τ) m r) (by omega)
      have hle : (Int32.ofInt (cntS τ (shN τ) dr s m) ≤ 0) ↔ cntS τ (shN τ) dr s m = 0 := by
        rw [le_i, i32o (by omega) (by omega), z_0]
        omega
      have ep : payF τ s m r = if prc τ (lsO (nB τ) m r) ≤ wth τ s then 12 * prc τ (lsO (nB τ) m r) else 0 := by unfold payF; rw [el]
      have es : sumN (m + 1) (fun set => cntS τ (shN τ) dr s set * payF τ s set r) = sumN m (fun set => cntS τ (shN τ) dr s set * payF τ s set r) + cntS τ (shN τ) dr s m * payF τ s m r := rfl
      show ∃ x', _ ∧ fX7_paidInRow_L5 _ _ (n + 1) σ x _ = _
      rw [fX7_paidInRow_L5, everyoneC h c, cl_some, if_neg (by rw [lt_i, nI_toInt (by omega), nI_toInt (by omega)]; omega), hsh, setsLikeC h c (shN τ) hs hm, cl_some, bnd_eq, jp_eq]
      by_cases c0 : cntS τ (shN τ) dr s m = 0
      · rw [if_pos (hle.mpr c0)]
        refine ⟨x, ⟨by omega, y, p2, ?_⟩, by rw [nI_succ]; all_goals rfl⟩
        rw [es, c0, Int.zero_mul, Int.add_zero]
        exact p3
      · have cw : (τ.1 6 s < Int32.ofInt (prc τ (lsO (nB τ) m r))) ↔ ¬ prc τ (lsO (nB τ) m r) ≤ wth τ s := by
          rw [lt_i, i32o (by omega) (by omega)]
          show (τ.1 6 s).toInt < _ ↔ ¬ _ ≤ (τ.1 6 s).toInt
          omega
        have e8 : σ.1 8 (ix (nI s)) = τ.1 6 s := by rw [ix_nI (m := s) (by omega)]; exact (c.sort hs).2.2.2.1
        have mb := Int.mul_le_mul cb.2 pb.2 pb.1 (by omega)
        have mn := Int.mul_nonneg cb.1 pb.1
        rw [if_neg (fun q => c0 (hle.mp q)), chk_t (inb_nI (by omega) (by decide)), ix_nI (m := m) (by omega), q1, priceC h c (by omega), cl_some, bnd_eq, chk_t (inb_nI (by omega) (by decide)), e8, jp_eq]
        by_cases pw : prc τ (lsO (nB τ) m r) ≤ wth τ s
        · rw [if_neg (fun z => cw.mp z pw), ← Int32.ofInt_mul, i64_of, i32o (by omega) (by omega)]
          refine ⟨x + Int64.ofInt (cntS τ (shN τ) dr s m * prc τ (lsO (nB τ) m r)), ⟨by omega, y + cntS τ (shN τ) dr s m * prc τ (lsO (nB τ) m r), by rw [p2, ← Int64.ofInt_add], ?_⟩, by rw [nI_succ]; all_goals rfl⟩
          rw [es, ep, if_pos pw, ← p3, Int.mul_add, Int.mul_left_comm]
        · rw [if_pos (cw.mpr pw)]
          refine ⟨x + 0, ⟨by omega, y, by rw [p2, Int64.add_zero], ?_⟩, by rw [nI_succ]; all_goals rfl⟩
          rw [es, ep, if_neg pw, Int.mul_zero, Int.add_zero]
          exact p3) FU 1 0 (Nat.one_le_two_pow) (by have : FU = 100000 := rfl; omega) ⟨by omega, 0, rfl, by
      show (12 : Int) * 0 = 0 + cntS τ (shN τ) dr s 0 * payF τ s 0 r
      rw [payF_ls, lsF_0, Int.mul_zero, Int.mul_zero]
      rfl⟩
  obtain ⟨_, y, h2, h3⟩ := hx
  refine e.trans ?_
  rw [chk_t (inb_nI (by omega) (by decide)), ix_nI (m := s) (by omega), (c.sort hs).2.1, i64_of, h2, show (12 : Int64) = Int64.ofInt 12 from rfl, ← Int64.ofInt_mul, ← Int64.ofInt_mul]
  congr 3
  unfold payS
  rw [setSum_cnt h (shN τ) (fun hk => c.drB s hs hk), ← h3]
  show y * mny τ s * 12 = mny τ s * (12 * y)
  rw [Int.mul_comm y, Int.mul_assoc, Int.mul_comm y]
