/-! gap -/
def mnN (r : Nat → Nat) : Nat → Nat
  | 0 => r 0
  | m + 1 => min (mnN r m) (r m)
def mxN (r : Nat → Nat) : Nat → Nat
  | 0 => r 0
  | m + 1 => max (mxN r m) (r m)
theorem mnN_le {r : Nat → Nat} : ∀ n j : Nat, j < n → mnN r n ≤ r j := by
  intro n
  induction n with
  | zero => intro j hj; omega
  | succ n ih =>
    intro j hj
    rw [mnN]
    by_cases e : j = n
    · rw [e]; exact Nat.min_le_right _ _
    · exact Nat.le_trans (Nat.min_le_left _ _) (ih j (by omega))
theorem mxN_ge {r : Nat → Nat} : ∀ n j : Nat, j < n → r j ≤ mxN r n := by
  intro n
  induction n with
  | zero => intro j hj; omega
  | succ n ih =>
    intro j hj
    rw [mxN]
    by_cases e : j = n
    · rw [e]; exact Nat.le_max_right _ _
    · exact Nat.le_trans (ih j (by omega)) (Nat.le_max_left _ _)
theorem mnN_at {r : Nat → Nat} : ∀ n : Nat, 0 < n → ∃ j : Nat, j < n ∧ r j = mnN r n := by
  intro n
  induction n with
  | zero => intro h; omega
  | succ n ih =>
    intro _
    rw [mnN]
    by_cases e : n = 0
    · subst e
      exact ⟨0, by omega, by rw [mnN]; exact (Nat.min_self _).symm⟩
    · obtain ⟨j, hj, hr⟩ := ih (by omega)
      rcases Nat.le_total (mnN r n) (r n) with w | w
      · exact ⟨j, by omega, by rw [Nat.min_eq_left w]; exact hr⟩
      · exact ⟨n, by omega, by rw [Nat.min_eq_right w]⟩
theorem mxN_at {r : Nat → Nat} : ∀ n : Nat, 0 < n → ∃ j : Nat, j < n ∧ r j = mxN r n := by
  intro n
  induction n with
  | zero => intro h; omega
  | succ n ih =>
    intro _
    rw [mxN]
    by_cases e : n = 0
    · subst e
      exact ⟨0, by omega, by rw [mxN]; exact (Nat.max_self _).symm⟩
    · obtain ⟨j, hj, hr⟩ := ih (by omega)
      rcases Nat.le_total (mxN r n) (r n) with w | w
      · exact ⟨n, by omega, by rw [Nat.max_eq_right w]⟩
      · exact ⟨j, by omega, by rw [Nat.max_eq_left w]; exact hr⟩
def indB (n t : Nat) (r : Nat → Nat) : Int := prodN n (fun i => if r i < t then 1 else 0)
theorem ind_mn {n t : Nat} {r : Nat → Nat} (hn : 0 < n) (hs : ∀ i : Nat, i < n → (2 ^ n - 1).testBit i = true) : ind n (2 ^ n - 1) t r = if t ≤ mnN r n then 1 else 0 := by
  unfold ind
  by_cases w : t ≤ mnN r n
  · rw [if_pos w]
    refine prodN_1 n (fun i hi => ?_)
    rw [if_neg (fun q => ?_)]
    have := mnN_le (r := r) n i hi
    omega
  · rw [if_neg w]
    obtain ⟨j, hj, e⟩ := mnN_at (r := r) n hn
    exact prodN_0 (j := j) n hj (by rw [if_pos ⟨hs j hj, by omega⟩])
theorem indB_mx {n t : Nat} {r : Nat → Nat} (hn : 0 < n) : indB n t r = if mxN r n < t then 1 else 0 := by
  unfold indB
  by_cases w : mxN r n < t
  · rw [if_pos w]
    refine prodN_1 n (fun i hi => ?_)
    have := mxN_ge (r := r) n i hi
    rw [if_pos (by omega)]
  · rw [if_neg w]
    obtain ⟨j, hj, e⟩ := mxN_at (r := r) n hn
    exact prodN_0 (j := j) n hj (by rw [if_neg (by omega)])
theorem gap_sum : ∀ a : Nat, a < 8 → ∀ b : Nat, b < 8 → (b < a ∨ sumN 8 (fun t => 1 - (if t ≤ a then (1 : Int) else 0) - (if b < t then (1 : Int) else 0)) = (b : Int) - (a : Int)) := by decide +kernel
theorem full_bit : ∀ n : Nat, n < 5 → ∀ i : Nat, i < n → (2 ^ n - 1).testBit i = true := by decide +kernel
def belW (P : Nat → Nat → Int) (n t : Nat) : Int := prodN n (fun i => 100 - tailP P i t)
theorem ex_indB {n t : Nat} {P : Nat → Nat → Int} (hs : ∀ b : Nat, b < n → sumN 8 (P b) = 100) : ex 8 n P (indB n t) = belW P n t := by
  unfold indB belW
  rw [ex_prod (fun i x => if x < t then 1 else 0) n]
  refine prodN_congr n (fun i hi => ?_)
  unfold tailP
  rw [← hs i hi, ← sumN_sub]
  refine sumN_congr _ (fun k _ => ?_)
  by_cases q : t ≤ k
  · rw [if_pos q, if_neg (by omega), Int.mul_zero, Int.sub_self]
  · rw [if_neg q, if_pos (by omega), Int.mul_one, Int.sub_zero]
def gapT (P : Nat → Nat → Int) (n t : Nat) : Int := wF P n 0 0 - wF P n (2 ^ n - 1) t - belW P n t
theorem ex_gap {τ : St} (h : okM τ) {P : Nat → Nat → Int} (hW : okW τ P) (hn : 0 < nB τ) : ex 8 (nB τ) P (fun r => (mxN r (nB τ) : Int) - (mnN r (nB τ) : Int)) = sumN (nK τ) (gapT P (nB τ)) := by
  have h4 := h.n4
  have h8 := h.k8
  have hsum : ∀ b : Nat, b < nB τ → sumN 8 (P b) = 100 := fun b hb => (hW b hb).2
  have hfb := full_bit (nB τ) (by omega)
  have z : ∀ t : Nat, nK τ ≤ t → gapT P (nB τ) t = 0 := fun t ht => by
    have t0 : ∀ i : Nat, i < nB τ → tailP P i t = 0 := fun i hi => by
      refine sumN_zero _ (fun k hk => ?_)
      by_cases q : t ≤ k
      · rw [if_pos q]; exact ((hW i hi).1 k hk).2.2 (by omega)
      · rw [if_neg q]
    have e1 : wF P (nB τ) (2 ^ nB τ - 1) t = 0 := prodN_0 (j := 0) _ hn (by rw [if_pos (hfb 0 hn), t0 0 hn])
    have e2 : belW P (nB τ) t = wF P (nB τ) 0 0 := by
      unfold belW wF
      refine prodN_congr _ (fun i hi => ?_)
      rw [t0 i hi, if_neg (by rw [Nat.zero_testBit]; decide)]
      rfl
    unfold gapT
    rw [e1, e2]
    omega
  rw [← sumN_tail (K := nK τ) (m := 8) (by omega) (fun k h1 _ => z k h1)]
  have e1 : ex 8 (nB τ) P (fun r => (mxN r (nB τ) : Int) - (mnN r (nB τ) : Int)) = ex 8 (nB τ) P (fun r => sumN 8 (fun t => 1 - ind (nB τ) (2 ^ nB τ - 1) t r - indB (nB τ) t r)) := by
    refine ex_congr _ (fun r hr _ => ?_)
    obtain ⟨j, hj, ej⟩ := mnN_at (r := r) (nB τ) hn
    obtain ⟨i, hi, ei⟩ := mxN_at (r := r) (nB τ) hn
    have b1 := hr j hj
    have b2 := hr i hi
    have b3 := mnN_le (r := r) (nB τ) i hi
    rw [sumN_congr 8 (fun t _ => by rw [ind_mn hn hfb, indB_mx hn])]
    rcases gap_sum (mnN r (nB τ)) (by omega) (mxN r (nB τ)) (by omega) with w | w
    · omega
    · exact w.symm
  rw [e1, ex_sum (nB τ) (fun t r => 1 - ind (nB τ) (2 ^ nB τ - 1) t r - indB (nB τ) t r) 8]
  refine sumN_congr _ (fun t _ => ?_)
  unfold gapT
  rw [ex_sub (nB τ) (fun r => 1 - ind (nB τ) (2 ^ nB τ - 1) t r) (indB (nB τ) t), ex_sub (nB τ) (fun _ => 1) (ind (nB τ) (2 ^ nB τ - 1) t), wF_all hsum, ex_ind hsum, ex_indB hsum]
theorem weightBelowC {σ τ : St} {dr : Nat → Nat} (h : okM τ) (c : clsR σ τ dr) {P : Nat → Nat → Int} (hC : ptC σ (nB τ) P) (hW : okW τ P) {l : Nat} (hl : l ≤ nK τ) : fX7_weightBelow σ (nI l) = some (σ, Int64.ofInt (belW P (nB τ) l)) := by
  have h4 := h.n4
  unfold fX7_weightBelow
  rw [bnd_eq, bnd_eq]
  obtain ⟨x, hx, e⟩ := loopG (S := Int64) (fun n x m => fX7_weightBelow_L5 (nI l) (fun (σ_7 : St) (x2_8 : Int64) (_ : Int32) => some (σ_7, x2_8)) n σ x (nI m)) (nB τ) (fun m x => x = Int64.ofInt (belW P m l)) (fun x => some (σ, x)) (fun n x hp => by
      show fX7_weightBelow_L5 _ _ (n + 1) σ x _ = _
      rw [fX7_weightBelow_L5, c.nb h, if_pos (by rw [le_i]; omega)]) (fun n m x hm hp => by
      obtain ⟨a1, a2, a3⟩ := partsFromC h c hC hW hm hl
      have e100 : (100 : Int32) - Int32.ofInt (tailP P m l) = Int32.ofInt (100 - tailP P m l) := by
        rw [Int32.ofInt_sub]
        rfl
      show ∃ x', _ ∧ fX7_weightBelow_L5 _ _ (n + 1) σ x _ = _
      rw [fX7_weightBelow_L5, c.nb h, if_neg (by rw [le_i, nI_toInt (by omega), nI_toInt (by omega)]; omega), a1, cl_some, e100, i64_of, i32o (by omega) (by omega)]
      refine ⟨x * Int64.ofInt (100 - tailP P m l), ?_, by rw [nI_succ]; all_goals rfl⟩
      rw [hp, ← Int64.ofInt_mul]
      rfl) FU 0 1 (by omega) (by have : FU = 100000 := rfl; omega) rfl
  refine e.trans ?_
  rw [hx]
theorem spreadC {σ τ : St} {dr : Nat → Nat} (h : okM τ) (c : clsR σ τ dr) {P : Nat → Nat → Int} (hC : ptC σ (nB τ) P) (hW : okW τ P) (hn : 0 < nB τ) : fX7_spread σ = some (σ, Int64.ofInt (sumN (nK τ) (gapT P (nB τ)) * (τ.1 0 4).toInt)) := by
  have h4 := h.n4
  have h8 := h.k8
  have h16 := h.p16
  have hfb := full_bit (nB τ) (by omega)
  have w0 : ∀ x : St, x = σ → fX7_weightFrom x 0 0 = some (x, Int64.ofInt (wF P (nB τ) 0 0)) := fun x e => by subst e; exact weightFromC h c hC hW (set := 0) (l := 0) (by omega) (by omega)
  have fl : fullN τ < 2 ^ nB τ := h.full
  unfold fX7_spread
  rw [bnd_eq, bnd_eq]
  obtain ⟨x, hx, e⟩ := loopG (S := Int64) (fun n x m => fX7_spread_L4 (fun (σ_13 : St) (x1_14 : Int64) (_ : Int32) => some (σ_13, (x1_14 * (((σ_13.1 2 4)).toInt64)))) n σ x (nI m)) (nK τ) (fun m x => 1 ≤ m ∧ x = Int64.ofInt (sumN m (gapT P (nB τ)))) (fun x => some (σ, x * (σ.1 2 4).toInt64)) (fun n x hp => by
      show fX7_spread_L4 _ (n + 1) σ x _ = _
      rw [fX7_spread_L4, c.nk h, if_pos (by rw [le_i]; omega)]) (fun n m x hm hp => by
      show ∃ x', _ ∧ fX7_spread_L4 _ (n + 1) σ x _ = _
      rw [fX7_spread_L4]
      unfold fX7_weightInAll
      rw [c.nk h, if_neg (by rw [le_i, nI_toInt (by omega), nI_toInt (by omega)]; omega), w0 σ rfl, cl_some, cl_some, everyoneC h c, cl_some, weightFromC h c hC hW (set := fullN τ) (l := m) (by omega) (by omega), cl_some, weightBelowC h c hC hW (l := m) (by omega), cl_some, ← Int64.ofInt_sub, ← Int64.ofInt_sub]
      refine ⟨x + Int64.ofInt (gapT P (nB τ) m), ⟨by omega, ?_⟩, ?_⟩
      · rw [hp.2, ← Int64.ofInt_add]
        rfl
      · rw [bnd_eq, bnd_eq, nI_succ]
        rfl) FU 1 0 (by omega) (by have : FU = 100000 := rfl; omega) ⟨by omega, by
      have t0 : ∀ i : Nat, i < nB τ → tailP P i 0 = 100 := fun i hi => by
        rw [← (hW i hi).2]
        exact sumN_congr _ (fun k _ => by rw [if_pos (by omega)])
      have e1 : wF P (nB τ) (2 ^ nB τ - 1) 0 = wF P (nB τ) 0 0 := by
        unfold wF
        refine prodN_congr _ (fun i hi => ?_)
        rw [t0 i hi]
        split <;> split <;> rfl
      have e2 : belW P (nB τ) 0 = 0 := prodN_0 (j := 0) _ hn (by rw [t0 0 hn]; rfl)
      show (0 : Int64) = Int64.ofInt (0 + gapT P (nB τ) 0)
      unfold gapT
      rw [e1, e2, Int.sub_self]
      rfl⟩
  refine e.trans ?_
  show some (σ, x * (σ.1 2 4).toInt64) = _
  rw [hx.2, c.hy, i64_of, ← Int64.ofInt_mul]
def gapR (τ : St) (r : Nat → Nat) : Int := (τ.1 0 4).toInt * ((mxN r (nB τ) : Int) - (mnN r (nB τ) : Int))
theorem gapM {τ : St} (h : okM τ) (hn : 0 < nB τ) {P : Nat → Nat → Int} (hP : ptM τ P) : ∃ τ', fX9_gap_L15 (fun (σ_29 : St) (x1_30 : Int64) (_ : Int32) => some (σ_29, x1_30)) FU τ 0 0 = some (τ', Int64.ofInt (ex 8 (nB τ) P (gapR τ))) ∧ frm aRow b47 τ τ' := by
  have h4 := h.n4
  have p8 := pow8 h4
  obtain ⟨s, hs, e⟩ := loopG (S := St × Int64) (fun n s m => fX9_gap_L15 (fun (σ_29 : St) (x1_30 : Int64) (_ : Int32) => some (σ_29, x1_30)) n s.1 s.2 (nI m)) (8 ^ nB τ) (fun m s => frm aRow b47 τ s.1 ∧ s.2 = Int64.ofInt (sumN m (fun c => prodN (nB τ) (fun b => P b (rowAt 8 c b)) * gapR τ (rowAt 8 c)))) (fun s => some (s.1, s.2)) (fun n s hp => by
      have hc : core s.1 = core τ := core_frm hp.1 aRow_sc
      show fX9_gap_L15 _ (n + 1) s.1 s.2 _ = _
      rw [fX9_gap_L15, rowsM (okM_fr hc h), cl_some, fr nB (fun _ => rfl) hc, if_pos (by rw [le_i]; omega)]) (fun n m s hm hp => by
      have hc : core s.1 = core τ := core_frm hp.1 aRow_sc
      have hN : nB s.1 = nB τ := fr nB (fun _ => rfl) hc
      have hP1 : ptM s.1 P := ptM_fr hc (fun i => hp.1.1 18 i rfl) hP
      obtain ⟨τ2, a1, a2, a3, a4⟩ := laysM (okM_fr hc h) hP1 (c := m) (by rw [hN]; exact hm)
      have hc2 : core τ2 = core τ := (core_frm a2 aRow_sc).trans hc
      have h2 : okM τ2 := okM_fr hc2 h
      have hN2 : nB τ2 = nB τ := fr nB (fun _ => rfl) hc2
      have wb := wgt_b (okM_fr hc h) hP1 m
      unfold wgt at wb
      rw [hN] at a4 wb
      have f2 : frm aRow b47 τ τ2 := frm_trans hp.1 a2
      show ∃ s' : St × Int64, _ ∧ fX9_gap_L15 _ (n + 1) s.1 s.2 _ = _
      rw [fX9_gap_L15, rowsM (okM_fr hc h), cl_some, hN, if_neg (by rw [le_i, nI_toInt (by omega), nI_toInt (by omega)]; omega), a1, cl_some, a4, jp_eq]
      have es : sumN (m + 1) (fun c => prodN (nB τ) (fun b => P b (rowAt 8 c b)) * gapR τ (rowAt 8 c)) = sumN m (fun c => prodN (nB τ) (fun b => P b (rowAt 8 c b)) * gapR τ (rowAt 8 c)) + prodN (nB τ) (fun b => P b (rowAt 8 m b)) * gapR τ (rowAt 8 m) := rfl
      by_cases w : prodN (nB τ) (fun b => P b (rowAt 8 m b)) = 0
      · rw [if_pos ((lg0 _).mpr (by rw [w]; rfl))]
        refine ⟨(τ2, s.2), ⟨f2, ?_⟩, by rw [nI_succ]; all_goals rfl⟩
        rw [es, w, Int.zero_mul, Int.add_zero]
        exact hp.2
      · have wne : ¬ Int64.ofInt (prodN (nB τ) (fun b => P b (rowAt 8 m b))) = 0 := ofInt_ne0 wb.1 (by omega) w
        rw [if_neg (fun q => wne ((lg0 _).mp q)), chk_t (by decide), bnd_eq, chk_t (by decide), bnd_eq, bnd_eq]
        have r0 : ∀ j : Nat, j < nB τ → τ2.1 21 j = nI (rowAt 8 m j) := fun j hj => (a3 j (by rw [hN2]; exact hj)).1
        obtain ⟨y, hy, e2⟩ := loopG (S := Int32 × Int32) (fun n' y j => fX9_gap_L60 s.2 (nI m) (fun (σ_20 : St) (x4_21 : Int32) (x5_22 : Int32) (_ : Int32) => cl (fX9_price σ_20 x5_22) fun (σ_24 : St) (t_25 : Int32) => cl (fX9_price σ_24 x4_21) fun (σ_26 : St) (t_27 : Int32) => bnd (s.2 + ((σ_20.2 0 47) * (((t_25 - t_27)).toInt64))) fun (x1_28 : Int64) => bnd (nI m + (1 : Int32)) fun (x3_11 : Int32) => fX9_gap_L15 (fun (σ_29 : St) (x1_30 : Int64) (_ : Int32) => some (σ_29, x1_30)) n σ_26 x1_28 x3_11) n' τ2 y.1 y.2 (nI j)) (nB τ) (fun j y => 1 ≤ j ∧ y.1 = nI (mnN (rowAt 8 m) j) ∧ y.2 = nI (mxN (rowAt 8 m) j)) (fun y => cl (fX9_price τ2 y.2) fun (σ_24 : St) (t_25 : Int32) => cl (fX9_price σ_24 y.1) fun (σ_26 : St) (t_27 : Int32) => bnd (s.2 + ((τ2.2 0 47) * (((t_25 - t_27)).toInt64))) fun (x1_28 : Int64) => bnd (nI m + (1 : Int32)) fun (x3_11 : Int32) => fX9_gap_L15 (fun (σ_29 : St) (x1_30 : Int64) (_ : Int32) => some (σ_29, x1_30)) n σ_26 x1_28 x3_11) (fun n' y hy => by
            show fX9_gap_L60 _ _ _ (n' + 1) τ2 y.1 y.2 _ = _
            rw [fX9_gap_L60, if_pos (by rw [le_i, h2.nb, nI_toInt (by omega)]; omega)]) (fun n' j y hj hy => by
            obtain ⟨y1, y2, y3⟩ := hy
            have hin : inb (nI j) 4 = true := inb_nI (by omega) (by decide)
            have rj := rowAt8 m j
            have mn8 : mnN (rowAt 8 m) j < 8 := by
              obtain ⟨i, _, ei⟩ := mnN_at (r := rowAt 8 m) j (by omega)
              have := rowAt8 m i
              omega
            have mx8 : mxN (rowAt 8 m) j < 8 := by
              obtain ⟨i, _, ei⟩ := mxN_at (r := rowAt 8 m) j (by omega)
              have := rowAt8 m i
              omega
            show ∃ y' : Int32 × Int32, _ ∧ fX9_gap_L60 _ _ _ (n' + 1) τ2 y.1 y.2 _ = _
            rw [fX9_gap_L60, if_neg (by rw [le_i, h2.nb, nI_toInt (by omega)]; omega), chk_t hin, ix_nI (m := j) (by omega), r0 j hj, y2, y3, bnd_eq, bnd_eq, chk_t hin]
            refine ⟨(nI (mnN (rowAt 8 m) (j + 1)), nI (mxN (rowAt 8 m) (j + 1))), ⟨by omega, rfl, rfl⟩, ?_⟩
            have e4 : (if nI (rowAt 8 m j) < nI (mnN (rowAt 8 m) j) then nI (rowAt 8 m j) else nI (mnN (rowAt 8 m) j)) = nI (mnN (rowAt 8 m) (j + 1)) := by
              rw [mnN]
              by_cases q : rowAt 8 m j < mnN (rowAt 8 m) j
              · rw [if_pos (by rw [lt_i, nI_toInt (by omega), nI_toInt (by omega)]; omega), Nat.min_eq_right (by omega)]
              · rw [if_neg (by rw [lt_i, nI_toInt (by omega), nI_toInt (by omega)]; omega), Nat.min_eq_left (by omega)]
            have e5 : (if nI (mxN (rowAt 8 m) j) < nI (rowAt 8 m j) then nI (rowAt 8 m j) else nI (mxN (rowAt 8 m) j)) = nI (mxN (rowAt 8 m) (j + 1)) := by
              rw [mxN]
              by_cases q : mxN (rowAt 8 m) j < rowAt 8 m j
              · rw [if_pos (by rw [lt_i, nI_toInt (by omega), nI_toInt (by omega)]; omega), Nat.max_eq_right (by omega)]
              · rw [if_neg (by rw [lt_i, nI_toInt (by omega), nI_toInt (by omega)]; omega), Nat.max_eq_left (by omega)]
            rw [e4, e5, bnd_eq, bnd_eq, bnd_eq, nI_succ (n := j)]) FU 1 (nI (rowAt 8 m 0), nI (rowAt 8 m 0)) (by omega) (by have : FU = 100000 := rfl; omega) ⟨by omega, by
            show nI (rowAt 8 m 0) = nI (min (rowAt 8 m 0) (rowAt 8 m 0))
            rw [Nat.min_self], by
            show nI (rowAt 8 m 0) = nI (max (rowAt 8 m 0) (rowAt 8 m 0))
            rw [Nat.max_self]⟩
        obtain ⟨_, y2, y3⟩ := hy
        have mn8 : mnN (rowAt 8 m) (nB τ) < 8 := by
          obtain ⟨i, _, ei⟩ := mnN_at (r := rowAt 8 m) (nB τ) hn
          have := rowAt8 m i
          omega
        have mx8 : mxN (rowAt 8 m) (nB τ) < 8 := by
          obtain ⟨i, _, ei⟩ := mxN_at (r := rowAt 8 m) (nB τ) hn
          have := rowAt8 m i
          omega
        obtain ⟨q1, q2⟩ := priceM h2.hF h2.hY (k := mxN (rowAt 8 m) (nB τ)) (by omega)
        obtain ⟨q3, q4⟩ := priceM h2.hF h2.hY (k := mnN (rowAt 8 m) (nB τ)) (by omega)
        have pb1 := prc_b h2 (l := mxN (rowAt 8 m) (nB τ)) (by omega)
        have pb2 := prc_b h2 (l := mnN (rowAt 8 m) (nB τ)) (by omega)
        have ep : ∀ k : Nat, prc τ2 k = prc τ k := fun k => fr (fun σ => prc σ k) (fun _ => rfl) hc2
        refine ⟨(τ2, s.2 + Int64.ofInt (prodN (nB τ) (fun b => P b (rowAt 8 m b)) * gapR τ (rowAt 8 m))), ⟨f2, ?_⟩, ?_⟩
        · show s.2 + _ = _
          rw [es, hp.2, ← Int64.ofInt_add]
        · have e20 : τ2.1 21 (ix 0) = nI (rowAt 8 m 0) := r0 0 hn
          rw [e20]
          refine e2.trans ?_
          rw [y2, y3, q1, cl_some, q3, cl_some, a4, i64_of, i32_sub (by rw [q2, q4]; omega) (by rw [q2, q4]; omega), q2, q4, ep, ep, ← Int64.ofInt_mul, bnd_eq, bnd_eq, nI_succ]
          have eg : prc τ (mxN (rowAt 8 m) (nB τ)) - prc τ (mnN (rowAt 8 m) (nB τ)) = gapR τ (rowAt 8 m) := by
            unfold prc gapR
            rw [Int.mul_sub, Int.mul_comm (τ.1 0 4).toInt, Int.mul_comm (τ.1 0 4).toInt]
            omega
          rw [eg]) FU 0 (τ, 0) (Nat.zero_le _) (by have : FU = 100000 := rfl; omega) ⟨frm_refl _ _ _, rfl⟩
  refine ⟨s.1, e.trans ?_, hs.1⟩
  show some (s.1, s.2) = _
  rw [hs.2, ex_codes (by decide)]
theorem p_gap : op_gap Inv := by
  intro σ τ h
  have hM := h.okM
  unfold fX8_gap fX9_gap
  obtain ⟨σ', τ', x, a1, a2, a3, a4, a5, a6⟩ := ready2 h
  rw [a1, a2, cl_some, cl_some]
  rcases a6 with ⟨e, _⟩ | ⟨P, a, e, _, hr, _⟩
  · rw [if_pos e, if_pos e]
    exact ⟨σ', τ', -1, rfl, rfl, a3⟩
  · have hW := hr.2.2.2.2.2.2.w
    have hn := hr.2.2.2.2.2.2.1
    obtain ⟨τ2, b1, b2⟩ := gapM (okM_fr a4 hM) (by rw [fr nB (fun _ => rfl) a4]; exact hn) hr.2.2.2.2.2.1
    rw [if_neg (by rw [e]; exact one0), if_neg (by rw [e]; exact one0), spreadC hM hr.1 hr.2.2.1 hW hn, cl_some, bnd_eq, bnd_eq, b1]
    have ev : ex 8 (nB τ') P (gapR τ') = sumN (nK τ) (gapT P (nB τ)) * (τ.1 0 4).toInt := by
      rw [← ex_gap hM hW hn]
      have : ex 8 (nB τ') P (gapR τ') = ex 8 (nB τ) P (gapR τ) := fr (fun σ => ex 8 (nB σ) P (gapR σ)) (fun _ => rfl) a4
      rw [this, Int.mul_comm, ← ex_mul]
      rfl
    rw [ev]
    exact ⟨σ', τ2, _, rfl, rfl, Inv_fr (fun _ _ _ => rfl) (core_frm b2 aRow_sc) a3⟩
