/-! saves, would -/
def vaΦ (τ : St) (s l : Nat) : Int := if prc τ l < wth τ s then wth τ s - prc τ l else 0
def vaE (τ : St) (P : Nat → Nat → Int) (s set : Nat) : Int := ex 8 (nB τ) P (lsF (vaΦ τ s) (nB τ) set)
theorem wF_0 (P : Nat → Nat → Int) (n l : Nat) : wF P n 0 l = wF P n 0 0 := by
  unfold wF
  refine prodN_congr n (fun i _ => ?_)
  rw [if_neg (by rw [Nat.zero_testBit]; decide), if_neg (by rw [Nat.zero_testBit]; decide)]
theorem ex_least0 {τ : St} (h : okM τ) {P : Nat → Nat → Int} (hW : okW τ P) (Φ : Nat → Int) {set : Nat} (hs : set < 2 ^ nB τ) : ex 8 (nB τ) P (lsF Φ (nB τ) set) = sumN (nK τ) (fun l => (wF P (nB τ) set l - wF P (nB τ) set (l + 1)) * Φ l) := by
  by_cases w : set = 0
  · rw [w, sumN_zero _ (fun l _ => by rw [wF_0 P (nB τ) l, wF_0 P (nB τ) (l + 1), Int.sub_self, Int.zero_mul])]
    have e2 : lsF Φ (nB τ) 0 = fun r => (0 : Int) * 1 := by funext r; rw [lsF_0]; rfl
    rw [e2, ex_mul, Int.zero_mul]
  · obtain ⟨b, hb, hbs⟩ := hasBit hs w
    exact ex_least h hW Φ hb hbs
theorem valueC {σ τ : St} {dr : Nat → Nat} (h : okM τ) (c : clsR σ τ dr) {P : Nat → Nat → Int} (hC : ptC σ (nB τ) P) (hW : okW τ P) {s set : Nat} (hs : s < nS τ) (hset : set < 2 ^ nB τ) : fX7_valueOf σ (nI s) (nI set) = some (σ, Int64.ofInt (vaE τ P s set)) := by
  have h8 := h.k8
  have h12 := h.n12
  have h16 := h.p16
  unfold fX7_valueOf
  rw [bnd_eq, bnd_eq]
  obtain ⟨x, hx, e⟩ := loopG (S := Int64) (fun n x m => fX7_valueOf_L5 (nI s) (nI set) (fun (σ_14 : St) (x3_15 : Int64) (_ : Int32) => some (σ_14, x3_15)) n σ x (nI m)) (nK τ) (fun m x => x = Int64.ofInt (sumN m (fun l => (wF P (nB τ) set l - wF P (nB τ) set (l + 1)) * vaΦ τ s l))) (fun x => some (σ, x)) (fun n x hp => by
      show fX7_valueOf_L5 _ _ _ (n + 1) σ x _ = _
      rw [fX7_valueOf_L5, c.nk h, if_pos (by rw [le_i]; omega)]) (fun n m x hm hp => by
      have pb := prc_b h (l := m) (by omega)
      have wb := (h.hs s hs).2.2.1
      have w1 := wb.1
      have w2 := wb.2
      have e8 : σ.1 8 (ix (nI s)) = τ.1 6 s := by rw [ix_nI (m := s) (by omega)]; exact (c.sort hs).2.2.2.1
      have ew : (τ.1 6 s - Int32.ofInt (prc τ m)).toInt = wth τ s - prc τ m := by
        rw [i32_sub (by rw [i32o (by omega) (by omega)]; omega) (by rw [i32o (by omega) (by omega)]; omega), i32o (by omega) (by omega)]
        rfl
      have cw : (τ.1 6 s - Int32.ofInt (prc τ m) ≤ 0) ↔ ¬ prc τ m < wth τ s := by
        rw [le_i, ew, z_0]
        omega
      have es : sumN (m + 1) (fun l => (wF P (nB τ) set l - wF P (nB τ) set (l + 1)) * vaΦ τ s l) = sumN m (fun l => (wF P (nB τ) set l - wF P (nB τ) set (l + 1)) * vaΦ τ s l) + (wF P (nB τ) set m - wF P (nB τ) set (m + 1)) * vaΦ τ s m := rfl
      show ∃ x', _ ∧ fX7_valueOf_L5 _ _ _ (n + 1) σ x _ = _
      rw [fX7_valueOf_L5, c.nk h, if_neg (by rw [le_i, nI_toInt (by omega), nI_toInt (by omega)]; omega), chk_t (inb_nI (by omega) (by decide)), priceC h c (by omega), cl_some, e8, bnd_eq, jp_eq]
      by_cases q : prc τ m < wth τ s
      · rw [if_neg (fun z => cw.mp z q), weightFromC h c hC hW (by omega) (by omega), cl_some, ← nI_succ, weightFromC h c hC hW (by omega) (by omega), cl_some, i64_of, ew, ← Int64.ofInt_sub, ← Int64.ofInt_mul]
        refine ⟨x + Int64.ofInt ((wth τ s - prc τ m) * (wF P (nB τ) set m - wF P (nB τ) set (m + 1))), ?_, rfl⟩
        rw [es]
        unfold vaΦ
        rw [if_pos q, hp, ← Int64.ofInt_add, Int.mul_comm (wth τ s - prc τ m)]
        rfl
      · rw [if_pos (cw.mpr q)]
        refine ⟨x, ?_, by rw [nI_succ]; all_goals rfl⟩
        rw [es]
        unfold vaΦ
        rw [if_neg q, Int.mul_zero, Int.add_zero]
        exact hp) FU 0 0 (by omega) (by have : FU = 100000 := rfl; omega) rfl
  refine e.trans ?_
  rw [hx]
  unfold vaE
  rw [ex_least0 h hW _ hset]
/-- what one more door is worth -/
def svN (τ : St) (dr : Nat → Nat) (P : Nat → Nat → Int) (s d : Nat) : Int := vaE τ P s (dr s ||| 2 ^ d) - vaE τ P s (dr s)
theorem or_lt {n a d : Nat} (ha : a < 2 ^ n) (hd : d < n) : a ||| 2 ^ d < 2 ^ n := Nat.or_lt_two_pow ha (Nat.pow_lt_pow_right (by decide) hd)
theorem savedByC {σ τ : St} {dr : Nat → Nat} (h : okM τ) (c : clsR σ τ dr) {P : Nat → Nat → Int} (hC : ptC σ (nB τ) P) (hW : okW τ P) {s d : Nat} (hs : s < nS τ) (hk : knd τ s = 0) (hd : d < nB τ) : fX7_savedBy σ (nI s) (nI d) = some (σ, Int64.ofInt (svN τ dr P s d)) := by
  have h4 := h.n4
  have h12 := h.n12
  have h16 := h.p16
  obtain ⟨d1, d2⟩ := (c.sort hs).2.2.2.2 hk
  have pw := pow2b d (by omega)
  unfold fX7_savedBy
  rw [chk_t (inb_nI (by omega) (by decide)), ix_nI (m := s) (by omega), d1, bnd_eq, (sh1 d (by omega)).1, (or16 (dr s) (by omega) (2 ^ d) pw.1).1, valueC h c hC hW hs (or_lt d2 hd), cl_some, valueC h c hC hW hs d2, cl_some, ← Int64.ofInt_sub]
  rfl
theorem valueM {τ : St} (h : okM τ) {r : Nat → Nat} (hr : rowOK τ r) (hr8 : ∀ j : Nat, r j < 8) {s set : Nat} (hs : s < nS τ) (hset : set < 16) : ∃ x : Int32, fX9_valueOf τ (nI s) (nI set) = some (τ, x) ∧ x.toInt = lsF (vaΦ τ s) (nB τ) set r ∧ 0 ≤ x.toInt ∧ x.toInt ≤ 999 := by
  have h12 := h.n12
  unfold fX9_valueOf
  rw [leastM h.hB hr hset, cl_some, bnd_eq]
  cases e : leastN (nB τ) set r with
  | none =>
    have e0 : lsF (vaΦ τ s) (nB τ) set r = 0 := by unfold lsF; rw [e]
    refine ⟨0, by rw [if_pos (show encN none = -1 from rfl)], ?_, by decide, by decide⟩
    rw [e0]
    rfl
  | some l =>
    obtain ⟨j, _, _, hj⟩ := least_row _ _ e
    have hl : l < 8 := by have := hr8 j; omega
    have e0 : lsF (vaΦ τ s) (nB τ) set r = vaΦ τ s l := by unfold lsF; rw [e]
    obtain ⟨q1, q2⟩ := priceM h.hF h.hY (k := l) (by omega)
    have pb := prc_b h (l := l) (by omega)
    have wb := (h.hs s hs).2.2.1
    have w1 := wb.1
    have w2 := wb.2
    have ew : (τ.1 6 s - (τ.1 0 3 + nI l * τ.1 0 4)).toInt = wth τ s - prc τ l := by
      rw [i32_sub (by rw [q2]; omega) (by rw [q2]; omega), q2]
      rfl
    have hwt : wth τ s = (τ.1 6 s).toInt := rfl
    rw [if_neg (show ¬ encN (some l) = -1 from nI_ne_m1 (by omega)), chk_t (inb_nI (by omega) (by decide)), show encN (some l) = nI l from rfl, q1, cl_some, ix_nI (m := s) (by omega), bnd_eq, e0]
    unfold vaΦ
    by_cases q : prc τ l < wth τ s
    · refine ⟨_, by rw [if_pos (show (0 : Int32) < τ.1 6 s - (τ.1 0 3 + nI l * τ.1 0 4) by rw [lt_i, ew, z_0]; omega)], ?_, ?_, ?_⟩
      · rw [ew, if_pos q]
      · rw [ew]; omega
      · rw [ew]; omega
    · refine ⟨0, by rw [if_neg (show ¬ (0 : Int32) < τ.1 6 s - (τ.1 0 3 + nI l * τ.1 0 4) by rw [lt_i, ew, z_0]; omega)], ?_, by decide, by decide⟩
      rw [if_neg q]
      rfl
theorem savesNowM {τ : St} (h : okM τ) {P : Nat → Nat → Int} (hP : ptM τ P) {dr : Nat → Nat} (hd : drOK τ dr) {s d : Nat} (hs : s < nS τ) (hk : knd τ s = 0) (hdn : d < nB τ) : ∃ τ', fX9_savesNow τ (nI s) (nI d) = some (τ', Int64.ofInt (svN τ dr P s d)) ∧ frm aRow b47 τ τ' := by
  have h4 := h.n4
  have h12 := h.n12
  have h16 := h.p16
  have p8 := pow8 h4
  obtain ⟨d1, d2⟩ := hd s hs hk
  have pw := pow2b d (by omega)
  have ol := or_lt d2 hdn
  unfold fX9_savesNow
  rw [bnd_eq, bnd_eq]
  obtain ⟨x, hx, e⟩ := loopG (S := St × Int64) (fun n x m => fX9_savesNow_L5 (nI s) (nI d) (fun (σ_15 : St) (x3_16 : Int64) (_ : Int32) => some (σ_15, x3_16)) n x.1 x.2 (nI m)) (8 ^ nB τ) (fun m x => frm aRow b47 τ x.1 ∧ x.2 = Int64.ofInt (sumN m (fun c => prodN (nB τ) (fun b => P b (rowAt 8 c b)) * (lsF (vaΦ τ s) (nB τ) (dr s ||| 2 ^ d) (rowAt 8 c) - lsF (vaΦ τ s) (nB τ) (dr s) (rowAt 8 c))))) (fun x => some (x.1, x.2)) (fun n x hp => by
      have hc : core x.1 = core τ := core_frm hp.1 aRow_sc
      show fX9_savesNow_L5 _ _ _ (n + 1) x.1 x.2 _ = _
      rw [fX9_savesNow_L5, rowsM (okM_fr hc h), cl_some, fr nB (fun _ => rfl) hc, if_pos (by rw [le_i]; omega)]) (fun n m x hm hp => by
      have hc : core x.1 = core τ := core_frm hp.1 aRow_sc
      have hN : nB x.1 = nB τ := fr nB (fun _ => rfl) hc
      have hP1 : ptM x.1 P := ptM_fr hc (fun i => hp.1.1 18 i rfl) hP
      obtain ⟨τ2, a1, a2, a3, a4⟩ := laysM (okM_fr hc h) hP1 (c := m) (by rw [hN]; exact hm)
      have hc2 : core τ2 = core τ := (core_frm a2 aRow_sc).trans hc
      have h2 : okM τ2 := okM_fr hc2 h
      have hS2 : nS τ2 = nS τ := fr nS (fun _ => rfl) hc2
      have wb := wgt_b (okM_fr hc h) hP1 m
      unfold wgt at wb
      rw [hN] at a4 wb
      have f2 : frm aRow b47 τ τ2 := frm_trans hp.1 a2
      have e27 : τ2.1 27 (ix (nI s)) = nI (dr s) := by rw [ix_nI (m := s) (by omega), f2.1 27 s rfl]; exact d1
      have hin : inb (nI s) 12 = true := inb_nI (by omega) (by decide)
      have z0 : (0 : Int64).toInt = 0 := by decide
      have cmp : (lg_cmp (Int64.ofInt (prodN (nB τ) (fun b => P b (rowAt 8 m b)))) 0 ≤ 0) ↔ prodN (nB τ) (fun b => P b (rowAt 8 m b)) = 0 := by
        rw [lg_cmp_le, Int64.le_iff_toInt_le, i64o (by omega) (by omega), z0]
        omega
      show ∃ x' : St × Int64, _ ∧ fX9_savesNow_L5 _ _ _ (n + 1) x.1 x.2 _ = _
      rw [fX9_savesNow_L5, rowsM (okM_fr hc h), cl_some, hN, if_neg (by rw [le_i, nI_toInt (by omega), nI_toInt (by omega)]; omega), a1, cl_some, a4, jp_eq]
      have es : sumN (m + 1) (fun c => prodN (nB τ) (fun b => P b (rowAt 8 c b)) * (lsF (vaΦ τ s) (nB τ) (dr s ||| 2 ^ d) (rowAt 8 c) - lsF (vaΦ τ s) (nB τ) (dr s) (rowAt 8 c))) = sumN m (fun c => prodN (nB τ) (fun b => P b (rowAt 8 c b)) * (lsF (vaΦ τ s) (nB τ) (dr s ||| 2 ^ d) (rowAt 8 c) - lsF (vaΦ τ s) (nB τ) (dr s) (rowAt 8 c))) + prodN (nB τ) (fun b => P b (rowAt 8 m b)) * (lsF (vaΦ τ s) (nB τ) (dr s ||| 2 ^ d) (rowAt 8 m) - lsF (vaΦ τ s) (nB τ) (dr s) (rowAt 8 m)) := rfl
      by_cases w : prodN (nB τ) (fun b => P b (rowAt 8 m b)) = 0
      · rw [if_pos (cmp.mpr w)]
        refine ⟨(τ2, x.2), ⟨f2, ?_⟩, by rw [nI_succ]; all_goals rfl⟩
        rw [es, w, Int.zero_mul, Int.add_zero]
        exact hp.2
      · obtain ⟨x1, v1, v2, v3, v4⟩ := valueM h2 a3 (rowAt8 m) (s := s) (set := dr s ||| 2 ^ d) (by rw [hS2]; exact hs) (by omega)
        obtain ⟨x2, u1, u2, u3, u4⟩ := valueM h2 a3 (rowAt8 m) (s := s) (set := dr s) (by rw [hS2]; exact hs) (by omega)
        have ef : ∀ set : Nat, lsF (vaΦ τ2 s) (nB τ2) set (rowAt 8 m) = lsF (vaΦ τ s) (nB τ) set (rowAt 8 m) := fun set => fr (fun σ => lsF (vaΦ σ s) (nB σ) set (rowAt 8 m)) (fun _ => rfl) hc2
        rw [ef] at v2 u2
        rw [if_neg (fun q => w (cmp.mp q)), chk_t hin, e27, (sh1 d (by omega)).1, (or16 (dr s) (by omega) (2 ^ d) pw.1).1, v1, cl_some, chk_t hin, e27, u1, cl_some, i64_of, i32_sub (by omega) (by omega), v2, u2, ← Int64.ofInt_mul]
        refine ⟨(τ2, x.2 + Int64.ofInt (prodN (nB τ) (fun b => P b (rowAt 8 m b)) * (lsF (vaΦ τ s) (nB τ) (dr s ||| 2 ^ d) (rowAt 8 m) - lsF (vaΦ τ s) (nB τ) (dr s) (rowAt 8 m)))), ⟨f2, ?_⟩, by rw [nI_succ]; all_goals rfl⟩
        show x.2 + _ = _
        rw [es, hp.2, ← Int64.ofInt_add]) FU 0 (τ, 0) (Nat.zero_le _) (by have : FU = 100000 := rfl; omega) ⟨frm_refl _ _ _, rfl⟩
  refine ⟨x.1, e.trans ?_, hx.1⟩
  show some (x.1, x.2) = _
  rw [hx.2, ex_codes (by decide) (nB τ) (fun r => lsF (vaΦ τ s) (nB τ) (dr s ||| 2 ^ d) r - lsF (vaΦ τ s) (nB τ) (dr s) r), ex_sub]
  rfl
theorem vaE_b {τ : St} (h : okM τ) {P : Nat → Nat → Int} (hW : okW τ P) {s : Nat} (hs : s < nS τ) (set : Nat) : -99900000000 ≤ vaE τ P s set ∧ vaE τ P s set ≤ 99900000000 := by
  have h4 := h.n4
  have wb := (h.hs s hs).2.2.1
  have w1 := wb.1
  have w2 := wb.2
  have vb : ∀ r : Nat → Nat, (∀ j : Nat, r j < 8) → -999 ≤ lsF (vaΦ τ s) (nB τ) set r ∧ lsF (vaΦ τ s) (nB τ) set r ≤ 999 := fun r hr => by
    unfold lsF
    cases e : leastN (nB τ) set r with
    | none => show -999 ≤ (0 : Int) ∧ (0 : Int) ≤ 999; omega
    | some l =>
      obtain ⟨j, _, _, hj⟩ := least_row _ _ e
      have := hr j
      have pb := prc_b h (l := l) (by omega)
      show -999 ≤ vaΦ τ s l ∧ vaΦ τ s l ≤ 999
      unfold vaΦ
      have hwt : wth τ s = (τ.1 6 s).toInt := rfl
      split <;> omega
  have a := ex_abs (K := 8) (P := P) (c := 100) (B := 999) (by omega) (by omega) (by omega) (nB τ) (lsF (vaΦ τ s) (nB τ) set) (fun j hj => ⟨fun k hk => ((hW j hj).1 k hk).1, Int.le_of_eq (hW j hj).2⟩) vb
  have hp : (100 : Int) ^ nB τ ≤ 100000000 := by
    have : nB τ = 0 ∨ nB τ = 1 ∨ nB τ = 2 ∨ nB τ = 3 ∨ nB τ = 4 := by omega
    rcases this with e | e | e | e | e <;> rw [e] <;> decide
  have hq : (100 : Int) ^ nB τ * 999 ≤ 100000000 * 999 := Int.mul_le_mul_of_nonneg_right hp (by omega)
  unfold vaE
  omega
theorem svN_b {τ : St} (h : okM τ) {P : Nat → Nat → Int} (hW : okW τ P) (dr : Nat → Nat) {s : Nat} (hs : s < nS τ) (d : Nat) : -199800000000 ≤ svN τ dr P s d ∧ svN τ dr P s d ≤ 199800000000 := by
  have a := vaE_b h hW hs (dr s ||| 2 ^ d)
  have b := vaE_b h hW hs (dr s)
  unfold svN
  omega
/-- the door that is wished, and what it must be worth more than -/
def wdN (τ : St) (dr : Nat → Nat) (P : Nat → Nat → Int) (s : Nat) : Nat → Option Nat × Int
  | 0 => (none, (τ.1 0 5).toInt * wF P (nB τ) 0 0)
  | m + 1 => if (dr s).testBit m = true then wdN τ dr P s m else if (wdN τ dr P s m).2 < svN τ dr P s m then (some m, svN τ dr P s m) else wdN τ dr P s m
theorem wdN_core (τ : St) (dr : Nat → Nat) (P : Nat → Nat → Int) (s : Nat) : ∀ m : Nat, wdN (core τ) dr P s m = wdN τ dr P s m := by
  intro m
  induction m with
  | zero => rfl
  | succ m ih =>
    rw [wdN, wdN, ih]
    rfl
theorem wdN_fr {τ τ' : St} (h : core τ' = core τ) (dr : Nat → Nat) (P : Nat → Nat → Int) (s m : Nat) : wdN τ' dr P s m = wdN τ dr P s m := fr (fun σ => wdN σ dr P s m) (fun σ => wdN_core σ dr P s m) h
theorem wF00 {τ : St} (h : okM τ) (P : Nat → Nat → Int) : 0 ≤ wF P (nB τ) 0 0 ∧ wF P (nB τ) 0 0 ≤ 100000000 := by
  have h4 := h.n4
  have hb : ∀ i : Nat, i < nB τ → 0 ≤ (if (0 : Nat).testBit i = true then tailP P i 0 else 100) ∧ (if (0 : Nat).testBit i = true then tailP P i 0 else 100) ≤ 100 := fun i _ => by
    rw [if_neg (by rw [Nat.zero_testBit]; decide)]
    omega
  refine ⟨prodN_nn _ (fun i hi => (hb i hi).1), ?_⟩
  have := prodN_le (c := 100) (by omega) (nB τ) hb
  have hp : (100 : Int) ^ nB τ ≤ 100000000 := by
    have : nB τ = 0 ∨ nB τ = 1 ∨ nB τ = 2 ∨ nB τ = 3 ∨ nB τ = 4 := by omega
    rcases this with e | e | e | e | e <;> rw [e] <;> decide
  unfold wF
  omega
theorem wdN_b {τ : St} (h : okM τ) {P : Nat → Nat → Int} (hW : okW τ P) (dr : Nat → Nat) {s : Nat} (hs : s < nS τ) : ∀ m : Nat, -199800000000 ≤ (wdN τ dr P s m).2 ∧ (wdN τ dr P s m).2 ≤ 199800000000 := by
  intro m
  induction m with
  | zero =>
    have a := wF00 h P
    have d1 := h.hD.1
    have d2 := h.hD.2
    show -199800000000 ≤ (τ.1 0 5).toInt * wF P (nB τ) 0 0 ∧ (τ.1 0 5).toInt * wF P (nB τ) 0 0 ≤ 199800000000
    have b1 := Int.mul_nonneg d1 a.1
    have b2 := Int.mul_le_mul d2 a.2 a.1 (by omega)
    omega
  | succ m ih =>
    rw [wdN]
    split
    · exact ih
    · split
      · exact svN_b h hW dr hs m
      · exact ih
theorem wdN_lt {τ : St} {dr : Nat → Nat} {P : Nat → Nat → Int} {s d : Nat} : ∀ m : Nat, (wdN τ dr P s m).1 = some d → d < m := by
  intro m
  induction m with
  | zero => intro h; cases h
  | succ m ih =>
    rw [wdN]
    split
    · intro h; have := ih h; omega
    · split
      · intro h; cases h; omega
      · intro h; have := ih h; omega
theorem asksC {σ τ : St} {dr : Nat → Nat} (h : okM τ) (c : clsR σ τ dr) {s d : Nat} (hs : s < nS τ) (hk : knd τ s = 0) (hd : d < 4) : fX6_asks σ (nI s) (nI d) = some (σ, if (dr s).testBit d = true then 1 else 0) := by
  have h12 := h.n12
  have h16 := h.p16
  obtain ⟨d1, d2⟩ := (c.sort hs).2.2.2.2 hk
  unfold fX6_asks
  rw [hasSort_eq, cl_some, c.ns h, if_pos (show 0 ≤ (nI s).toInt ∧ (nI s).toInt < (nI (nS τ)).toInt by rw [nI_toInt (by omega), nI_toInt (by omega)]; omega), if_neg one0, chk_t (inb_nI (by omega) (by decide)), ix_nI (m := s) (by omega), d1]
  by_cases w : (dr s).testBit d = true
  · rw [if_neg (fun q => (bit0 (dr s) (by omega) d hd).mp q w), if_pos w]
  · rw [if_pos ((bit0 (dr s) (by omega) d hd).mpr w), if_neg w]
theorem wishedC {σ τ : St} {dr : Nat → Nat} (h : okM τ) (c : clsR σ τ dr) {P : Nat → Nat → Int} (hC : ptC σ (nB τ) P) (hW : okW τ P) {s : Nat} (hs : s < nS τ) (hk : knd τ s = 0) : fX7_wishedDoor σ (nI s) = some (σ, encN (wdN τ dr P s (nB τ)).1) := by
  have h4 := h.n4
  have w0 := weightFromC h c hC hW (set := 0) (l := 0) (by omega) (by omega)
  unfold fX7_wishedDoor fX7_weightInAll
  rw [bnd_eq, show fX7_weightFrom σ 0 0 = some (σ, Int64.ofInt (wF P (nB τ) 0 0)) from w0, cl_some, cl_some, c.hd, i64_of, ← Int64.ofInt_mul, bnd_eq, bnd_eq]
  obtain ⟨x, hx, e⟩ := loopG (S := Int32 × Int64) (fun n x m => fX7_wishedDoor_L19 (nI s) (fun (σ_17 : St) (x2_18 : Int32) (_ : Int64) (_ : Int32) => some (σ_17, x2_18)) n σ x.1 x.2 (nI m)) (nB τ) (fun m x => x.1 = encN (wdN τ dr P s m).1 ∧ x.2 = Int64.ofInt (wdN τ dr P s m).2) (fun x => some (σ, x.1)) (fun n x hp => by
      show fX7_wishedDoor_L19 _ _ (n + 1) σ x.1 x.2 _ = _
      rw [fX7_wishedDoor_L19, c.nb h, if_pos (by rw [le_i]; omega)]) (fun n m x hm hp => by
      have b1 := svN_b h hW dr hs m
      have b2 := wdN_b h hW dr hs m
      have cmp : (lg_cmp (Int64.ofInt (svN τ dr P s m)) (Int64.ofInt (wdN τ dr P s m).2) ≤ 0) ↔ ¬ (wdN τ dr P s m).2 < svN τ dr P s m := by
        rw [lg_cmp_le, Int64.le_iff_toInt_le, i64o (by omega) (by omega), i64o (by omega) (by omega)]
        omega
      show ∃ x' : Int32 × Int64, _ ∧ fX7_wishedDoor_L19 _ _ (n + 1) σ x.1 x.2 _ = _
      rw [fX7_wishedDoor_L19, c.nb h, if_neg (by rw [le_i, nI_toInt (by omega), nI_toInt (by omega)]; omega), asksC h c hs hk (by omega), cl_some, jp_eq]
      have ew : wdN τ dr P s (m + 1) = if (dr s).testBit m = true then wdN τ dr P s m else if (wdN τ dr P s m).2 < svN τ dr P s m then (some m, svN τ dr P s m) else wdN τ dr P s m := rfl
      by_cases w : (dr s).testBit m = true
      · rw [if_pos w, if_neg one0]
        refine ⟨x, ?_, by rw [nI_succ]; all_goals rfl⟩
        rw [ew, if_pos w]
        exact hp
      · rw [if_neg w, if_pos rfl, savedByC h c hC hW hs hk hm, cl_some, bnd_eq, hp.2]
        by_cases q : (wdN τ dr P s m).2 < svN τ dr P s m
        · rw [if_neg (fun z => cmp.mp z q)]
          refine ⟨(nI m, Int64.ofInt (svN τ dr P s m)), ?_, by rw [nI_succ]; all_goals rfl⟩
          rw [ew, if_neg w, if_pos q]
          exact ⟨rfl, rfl⟩
        · rw [if_pos (cmp.mpr q)]
          refine ⟨x, ?_, by rw [nI_succ, hp.2]; all_goals rfl⟩
          rw [ew, if_neg w, if_neg q]
          exact hp) FU 0 (-1, Int64.ofInt ((τ.1 0 5).toInt * wF P (nB τ) 0 0)) (by omega) (by have : FU = 100000 := rfl; omega) ⟨rfl, rfl⟩
  refine e.trans ?_
  rw [hx.1]
theorem wouldTakeM {τ : St} (h : okM τ) {P : Nat → Nat → Int} (hP : ptM τ P) (hW : okW τ P) {dr : Nat → Nat} (hd : drOK τ dr) {s : Nat} (hs : s < nS τ) (hk : knd τ s = 0) : ∃ τ', fX9_wouldTake τ (nI s) = some (τ', encN (wdN τ dr P s (nB τ)).1) ∧ frm aRow b47 τ τ' := by
  have h4 := h.n4
  have h12 := h.n12
  have h16 := h.p16
  obtain ⟨d1, d2⟩ := hd s hs hk
  unfold fX9_wouldTake
  rw [bnd_eq, bnd_eq, bnd_eq]
  obtain ⟨y, hy, e1⟩ := loopG (S := Int64) (fun n y m => fX9_wouldTake_L11 (nI s) (-1) (fun (σ_6 : St) (x3_7 : Int64) (_ : Int32) => bnd (0 : Int32) fun (x5_9 : Int32) => fX9_wouldTake_L35 (nI s) (fun (σ_21 : St) (x2_22 : Int32) (_ : Int64) (_ : Int32) => some (σ_21, x2_22)) FU σ_6 (-1) x3_7 x5_9) n τ y (nI m)) (nB τ) (fun m y => y = Int64.ofInt ((τ.1 0 5).toInt * prodN m (fun _ => 100))) (fun y => fX9_wouldTake_L35 (nI s) (fun (σ_21 : St) (x2_22 : Int32) (_ : Int64) (_ : Int32) => some (σ_21, x2_22)) FU τ (-1) y (nI 0)) (fun n y hp => by
      show fX9_wouldTake_L11 _ _ _ (n + 1) τ y _ = _
      rw [fX9_wouldTake_L11, if_pos (by rw [le_i, h.nb, nI_toInt (by omega)]; omega)]
      rfl) (fun n m y hm hp => by
      show ∃ y', _ ∧ fX9_wouldTake_L11 _ _ _ (n + 1) τ y _ = _
      rw [fX9_wouldTake_L11, if_neg (by rw [le_i, h.nb, nI_toInt (by omega)]; omega)]
      refine ⟨y * 100, ?_, by rw [nI_succ]; all_goals rfl⟩
      rw [hp, show (100 : Int64) = Int64.ofInt 100 from rfl, ← Int64.ofInt_mul, Int.mul_assoc]
      rfl) FU 0 (τ.1 0 5).toInt64 (by omega) (by have : FU = 100000 := rfl; omega) (by rw [i64_of]; show _ = Int64.ofInt ((τ.1 0 5).toInt * 1); rw [Int.mul_one])
  have ep : prodN (nB τ) (fun _ => (100 : Int)) = wF P (nB τ) 0 0 := prodN_congr _ (fun i _ => by rw [if_neg (by rw [Nat.zero_testBit]; decide)])
  rw [ep] at hy
  obtain ⟨x, hx, e⟩ := loopG (S := St × Int32 × Int64) (fun n x m => fX9_wouldTake_L35 (nI s) (fun (σ_21 : St) (x2_22 : Int32) (_ : Int64) (_ : Int32) => some (σ_21, x2_22)) n x.1 x.2.1 x.2.2 (nI m)) (nB τ) (fun m x => frm aRow b47 τ x.1 ∧ x.2.1 = encN (wdN τ dr P s m).1 ∧ x.2.2 = Int64.ofInt (wdN τ dr P s m).2) (fun x => some (x.1, x.2.1)) (fun n x hp => by
      show fX9_wouldTake_L35 _ _ (n + 1) x.1 x.2.1 x.2.2 _ = _
      rw [fX9_wouldTake_L35, hp.1.1 0 0 rfl, if_pos (by rw [le_i, h.nb, nI_toInt (by omega)]; omega)]) (fun n m x hm hp => by
      obtain ⟨p1, p2, p3⟩ := hp
      have hc : core x.1 = core τ := core_frm p1 aRow_sc
      have b1 := svN_b h hW dr hs m
      have b2 := wdN_b h hW dr hs m
      have cmp : (0 < lg_cmp (Int64.ofInt (svN τ dr P s m)) (Int64.ofInt (wdN τ dr P s m).2)) ↔ (wdN τ dr P s m).2 < svN τ dr P s m := by
        rw [lg_cmp_gt, Int64.lt_iff_toInt_lt, i64o (by omega) (by omega), i64o (by omega) (by omega)]
      have e27 : x.1.1 27 (ix (nI s)) = nI (dr s) := by rw [ix_nI (m := s) (by omega), p1.1 27 s rfl]; exact d1
      show ∃ x' : St × Int32 × Int64, _ ∧ fX9_wouldTake_L35 _ _ (n + 1) x.1 x.2.1 x.2.2 _ = _
      rw [fX9_wouldTake_L35, p1.1 0 0 rfl, if_neg (by rw [le_i, h.nb, nI_toInt (by omega)]; omega), chk_t (inb_nI (by omega) (by decide)), e27, hasM x.1 (by omega) (by omega), cl_some, jp_eq]
      have ew : wdN τ dr P s (m + 1) = if (dr s).testBit m = true then wdN τ dr P s m else if (wdN τ dr P s m).2 < svN τ dr P s m then (some m, svN τ dr P s m) else wdN τ dr P s m := rfl
      by_cases w : (dr s).testBit m = true
      · rw [if_pos w, if_neg one0]
        refine ⟨x, ?_, by rw [nI_succ]; all_goals rfl⟩
        rw [ew, if_pos w]
        exact ⟨p1, p2, p3⟩
      · obtain ⟨τ2, v1, v2⟩ := savesNowM (okM_fr hc h) (ptM_fr hc (fun i => p1.1 18 i rfl) hP) (drOK_fr hc (fun i => p1.1 27 i rfl) hd) (s := s) (d := m) (by rw [fr nS (fun _ => rfl) hc]; exact hs) (by rw [fr (fun σ => knd σ s) (fun _ => rfl) hc]; exact hk) (by rw [fr nB (fun _ => rfl) hc]; exact hm)
        rw [fr (fun σ => svN σ dr P s m) (fun _ => rfl) hc] at v1
        rw [if_neg w, if_pos rfl, v1, cl_some, bnd_eq, p3]
        by_cases q : (wdN τ dr P s m).2 < svN τ dr P s m
        · rw [if_pos (cmp.mpr q)]
          refine ⟨(τ2, nI m, Int64.ofInt (svN τ dr P s m)), ?_, by rw [nI_succ]; all_goals rfl⟩
          rw [ew, if_neg w, if_pos q]
          exact ⟨frm_trans p1 v2, rfl, rfl⟩
        · rw [if_neg (fun z => q (cmp.mp z))]
          refine ⟨(τ2, x.2.1, x.2.2), ?_, by rw [nI_succ, p3]; all_goals rfl⟩
          rw [ew, if_neg w, if_neg q]
          exact ⟨frm_trans p1 v2, p2, p3⟩) FU 0 (τ, -1, y) (by omega) (by have : FU = 100000 := rfl; omega) ⟨frm_refl _ _ _, rfl, hy⟩
  refine ⟨x.1, e1.trans (e.trans ?_), hx.1⟩
  show some (x.1, x.2.1) = _
  rw [hx.2.1]
theorem isWomenC {σ τ : St} {dr : Nat → Nat} (h : okM τ) (c : clsR σ τ dr) {p : Int32} : fX6_isWomen σ p = some (σ, if (0 ≤ p.toInt ∧ p.toInt < (τ.1 0 1).toInt) ∧ knd τ p.toInt.toNat = 0 then 1 else 0) := by
  have h12 := h.n12
  unfold fX6_isWomen
  rw [hasSort_eq, cl_some, c.1.2.1]
  by_cases hb : 0 ≤ p.toInt ∧ p.toInt < (τ.1 0 1).toInt
  · obtain ⟨e1, e2⟩ := srt_nI h hb
    generalize p.toInt.toNat = s at e1 e2
    subst e1
    rw [if_pos hb, if_neg one0, chk_t (inb_nI (by omega) (by decide)), ix_nI (m := s) (by omega), (c.sort e2).1]
    by_cases k0 : knd τ s = 0
    · rw [if_pos (Int32.toInt_inj.mp (k0.trans z_0.symm)), if_pos ⟨hb, k0⟩]
    · rw [if_neg (fun w => k0 (by unfold knd; rw [w]; rfl)), if_neg (fun w => k0 w.2)]
  · rw [if_neg hb, if_pos rfl, if_neg (fun w => hb w.1)]
theorem mayLookM {τ : St} (h : okM τ) {p : Int32} : fX9_mayLook τ p = some (τ, if ((0 ≤ p.toInt ∧ p.toInt < (τ.1 0 1).toInt) ∧ knd τ p.toInt.toNat = 0) ∧ ¬ shN τ then 1 else 0) := by
  have h12 := h.n12
  unfold fX9_mayLook
  rw [isSort_eq h.hS, cl_some]
  by_cases hb : 0 ≤ p.toInt ∧ p.toInt < (τ.1 0 1).toInt
  · obtain ⟨e1, e2⟩ := srt_nI h hb
    generalize p.toInt.toNat = s at e1 e2
    subst e1
    rw [if_pos hb, if_neg one0, chk_t (inb_nI (by omega) (by decide)), ix_nI (m := s) (by omega)]
    by_cases k0 : knd τ s = 0
    · rw [if_pos (Int32.toInt_inj.mp (k0.trans z_0.symm)), shoutedM h.law, cl_some]
      by_cases w : shN τ
      · rw [if_pos (show shtF τ (frc τ) from w), if_neg one0, if_neg (fun q => q.2 w)]
      · rw [if_neg (show ¬ shtF τ (frc τ) from w), if_pos rfl, if_pos ⟨⟨hb, k0⟩, w⟩]
    · rw [if_neg (fun w => k0 (by unfold knd; rw [w]; rfl)), if_neg (fun w => k0 w.1.2)]
  · rw [if_neg hb, if_pos rfl, if_neg (fun w => hb w.1.1)]
theorem p_saves : op_saves Inv := by
  intro σ τ p q h
  have hM := h.okM
  have h4 := hM.n4
  have h12 := hM.n12
  have h16 := hM.p16
  unfold fX8_saves fX9_saves
  rw [isWomenC hM h.cls, mayLookM hM, cl_some, cl_some]
  obtain ⟨σ', τ', x, a1, a2, a3, a4, a5, a6⟩ := ready2 h
  have hI1 : Inv σ' τ := Inv_50 (by omega) (by omega) a5 rfl h
  by_cases hw : (0 ≤ p.toInt ∧ p.toInt < (τ.1 0 1).toInt) ∧ knd τ p.toInt.toNat = 0
  · obtain ⟨hb, k0⟩ := hw
    obtain ⟨e1, e2⟩ := srt_nI hM hb
    rw [if_pos (show (0 ≤ p.toInt ∧ p.toInt < (τ.1 0 1).toInt) ∧ knd τ p.toInt.toNat = 0 from ⟨hb, k0⟩), if_neg one0, hasBaker_eq, cl_some]
    by_cases hq : 0 ≤ q.toInt ∧ q.toInt < (τ.1 0 0).toInt
    · obtain ⟨e3, e4⟩ := bkr_nI hM hq
      rw [if_pos ((bkr2 h q).mpr hq), if_neg one0]
      by_cases hs : shN τ
      · rw [if_neg (show ¬ (((0 ≤ p.toInt ∧ p.toInt < (τ.1 0 1).toInt) ∧ knd τ p.toInt.toNat = 0) ∧ ¬ shN τ) from fun w => w.2 hs), if_pos rfl]
        have ea : fX6_asks σ p q = some (σ, if (nmd τ p.toInt.toNat).testBit q.toInt.toNat = true then 1 else 0) := by
          have := asksC hM h.cls e2 k0 (d := q.toInt.toNat) (by omega)
          rwa [← e1, ← e3] at this
        rw [ea, cl_some]
        by_cases hbit : (nmd τ p.toInt.toNat).testBit q.toInt.toNat = true
        · rw [if_pos hbit, if_neg one0]; exact ⟨σ, τ, -1, rfl, rfl, h⟩
        · rw [if_neg hbit, if_pos rfl, a1, cl_some]
          rcases a6 with ⟨e, _⟩ | ⟨P, a, e, _, hr, _⟩
          · rw [if_pos e]; exact ⟨σ', τ, -1, rfl, rfl, hI1⟩
          · have v14 : σ'.1 43 14 = 1 := by rw [hr.2.1.1]; exact if_pos hs
            rw [if_neg (by rw [e]; exact one0), v14, if_neg one0]; exact ⟨σ', τ, -1, rfl, rfl, hI1⟩
      · rw [if_pos (show ((0 ≤ p.toInt ∧ p.toInt < (τ.1 0 1).toInt) ∧ knd τ p.toInt.toNat = 0) ∧ ¬ shN τ from ⟨⟨hb, k0⟩, hs⟩), if_neg one0, isBaker_eq hM.hB, cl_some, if_pos hq, if_neg one0]
        generalize p.toInt.toNat = s at e1 e2 k0
        generalize q.toInt.toNat = d at e3 e4
        subst e1
        subst e3
        have en : τ.1 5 s = nI (nmd τ s) ∧ nmd τ s < 2 ^ nB τ := by
          have w := (hM.hs s e2).2.2.2.1 k0
          have w2 := w.2
          rw [p2i] at w2
          exact ⟨nI_mk (by omega), by show (τ.1 5 s).toInt.toNat < 2 ^ (τ.1 0 0).toInt.toNat; omega⟩
        rw [asksC hM h.cls e2 k0 (by omega), cl_some, chk_t (inb_nI (by omega) (by decide)), ix_nI (m := s) (by omega), en.1, hasM τ (by omega) (by omega), cl_some]
        by_cases hbit : (nmd τ s).testBit d = true
        · rw [if_pos hbit, if_neg one0, if_neg one0]; exact ⟨σ, τ, -1, rfl, rfl, h⟩
        · rw [if_neg hbit, if_pos rfl, if_pos rfl, a1, a2, cl_some, cl_some]
          rcases a6 with ⟨e, _⟩ | ⟨P, a, e, _, hr, _⟩
          · rw [if_pos e, if_pos e]; exact ⟨σ', τ', -1, rfl, rfl, a3⟩
          · have v14 : σ'.1 43 14 = 0 := by rw [hr.2.1.1]; exact if_neg hs
            have hW := hr.2.2.2.2.2.2.w
            obtain ⟨τ2, b1, b2⟩ := savesNowM (okM_fr a4 hM) hr.2.2.2.2.2.1 hr.2.2.2.2.1 (s := s) (d := d) (by rw [fr nS (fun _ => rfl) a4]; exact e2) (by rw [fr (fun σ => knd σ s) (fun _ => rfl) a4]; exact k0) (by rw [fr nB (fun _ => rfl) a4]; exact e4)
            rw [fr (fun σ => svN σ (nmd τ) P s d) (fun _ => rfl) a4] at b1
            have x0 : ¬ x = 0 := by rw [e]; exact one0
            rw [if_neg x0, if_neg x0, v14, if_pos rfl, savedByC hM hr.1 hr.2.2.1 hW e2 k0 e4, cl_some, b1, cl_some]
            exact ⟨σ', τ2, _, rfl, rfl, Inv_fr (fun _ _ _ => rfl) (core_frm b2 aRow_sc) a3⟩
    · rw [if_neg (fun w => hq ((bkr2 h q).mp w)), if_pos rfl]
      by_cases hs : shN τ
      · rw [if_neg (show ¬ (((0 ≤ p.toInt ∧ p.toInt < (τ.1 0 1).toInt) ∧ knd τ p.toInt.toNat = 0) ∧ ¬ shN τ) from fun w => w.2 hs), if_pos rfl]; exact ⟨σ, τ, -1, rfl, rfl, h⟩
      · rw [if_pos (show ((0 ≤ p.toInt ∧ p.toInt < (τ.1 0 1).toInt) ∧ knd τ p.toInt.toNat = 0) ∧ ¬ shN τ from ⟨⟨hb, k0⟩, hs⟩), if_neg one0, isBaker_eq hM.hB, cl_some, if_neg hq, if_pos rfl]; exact ⟨σ, τ, -1, rfl, rfl, h⟩
  · rw [if_neg hw, if_pos rfl, if_neg (show ¬ (((0 ≤ p.toInt ∧ p.toInt < (τ.1 0 1).toInt) ∧ knd τ p.toInt.toNat = 0) ∧ ¬ shN τ) from fun w => hw w.1), if_pos rfl]
    exact ⟨σ, τ, -1, rfl, rfl, h⟩
theorem p_would : op_would Inv := by
  intro σ τ p h
  have hM := h.okM
  unfold fX8_would fX9_would
  rw [isWomenC hM h.cls, mayLookM hM, cl_some, cl_some]
  obtain ⟨σ', τ', x, a1, a2, a3, a4, a5, a6⟩ := ready2 h
  have hI1 : Inv σ' τ := Inv_50 (by omega) (by omega) a5 rfl h
  by_cases hw : (0 ≤ p.toInt ∧ p.toInt < (τ.1 0 1).toInt) ∧ knd τ p.toInt.toNat = 0
  · obtain ⟨hb, k0⟩ := hw
    obtain ⟨e1, e2⟩ := srt_nI hM hb
    rw [if_pos (show (0 ≤ p.toInt ∧ p.toInt < (τ.1 0 1).toInt) ∧ knd τ p.toInt.toNat = 0 from ⟨hb, k0⟩), if_neg one0, a1, cl_some]
    by_cases hs : shN τ
    · rw [if_neg (show ¬ (((0 ≤ p.toInt ∧ p.toInt < (τ.1 0 1).toInt) ∧ knd τ p.toInt.toNat = 0) ∧ ¬ shN τ) from fun w => w.2 hs), if_pos rfl]
      rcases a6 with ⟨e, _⟩ | ⟨P, a, e, _, hr, _⟩
      · rw [if_pos e]; exact ⟨σ', τ, -1, rfl, rfl, hI1⟩
      · have v14 : σ'.1 43 14 = 1 := by rw [hr.2.1.1]; exact if_pos hs
        rw [if_neg (by rw [e]; exact one0), v14, if_neg one0]; exact ⟨σ', τ, -1, rfl, rfl, hI1⟩
    · rw [if_pos (show ((0 ≤ p.toInt ∧ p.toInt < (τ.1 0 1).toInt) ∧ knd τ p.toInt.toNat = 0) ∧ ¬ shN τ from ⟨⟨hb, k0⟩, hs⟩), if_neg one0, a2, cl_some]
      rcases a6 with ⟨e, _⟩ | ⟨P, a, e, _, hr, _⟩
      · rw [if_pos e, if_pos e]; exact ⟨σ', τ', -1, rfl, rfl, a3⟩
      · generalize p.toInt.toNat = s at e1 e2 k0
        subst e1
        have v14 : σ'.1 43 14 = 0 := by rw [hr.2.1.1]; exact if_neg hs
        have hW := hr.2.2.2.2.2.2.w
        have hW' : okW τ' P := by rw [fr (fun σ => okW σ P) (fun _ => rfl) a4]; exact hW
        obtain ⟨τ2, b1, b2⟩ := wouldTakeM (okM_fr a4 hM) hr.2.2.2.2.2.1 hW' hr.2.2.2.2.1 (s := s) (by rw [fr nS (fun _ => rfl) a4]; exact e2) (by rw [fr (fun σ => knd σ s) (fun _ => rfl) a4]; exact k0)
        rw [wdN_fr a4, fr nB (fun _ => rfl) a4] at b1
        have x0 : ¬ x = 0 := by rw [e]; exact one0
        rw [if_neg x0, if_neg x0, v14, if_pos rfl, wishedC hM hr.1 hr.2.2.1 hW e2 k0, cl_some, b1, cl_some]
        exact ⟨σ', τ2, _, rfl, rfl, Inv_fr (fun _ _ _ => rfl) (core_frm b2 aRow_sc) a3⟩
  · rw [if_neg hw, if_pos rfl, if_neg (show ¬ (((0 ≤ p.toInt ∧ p.toInt < (τ.1 0 1).toInt) ∧ knd τ p.toInt.toNat = 0) ∧ ¬ shN τ) from fun w => hw w.1), if_pos rfl]
    exact ⟨σ, τ, -1, rfl, rfl, h⟩
