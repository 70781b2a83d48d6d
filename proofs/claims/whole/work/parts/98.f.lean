/-! rests -/
noncomputable def rsK (τ : St) (p : Nat) : Bool := @decide (restD τ (frc τ) (rowAt (nK τ) p)) (Classical.propDecidable _)
theorem rsK_iff {τ : St} {p : Nat} : rsK τ p = true ↔ restF τ (barN τ) (shN τ) (rowAt (nK τ) p) := by
  unfold rsK
  rw [@decide_eq_true_iff _ (Classical.propDecidable _)]
  exact restD_iff τ (frc τ) (rowAt (nK τ) p)
theorem rs_enc {τ : St} (h : okM τ) : ∀ p : Nat, p < nK τ ^ nB τ → rs8 τ (enc8 (nK τ) (nB τ) p) = rsK τ p := by
  intro p hp
  have h8 := h.k8
  unfold rs8 rsK
  rw [enc8_row (by omega) h8.1 hp]
theorem rs_dig {τ : St} : ∀ c : Nat, c < 8 ^ nB τ → rs8 τ c = true → ∀ b : Nat, b < nB τ → rowAt 8 c b < nK τ := fun _ _ hr b hb => ((rs8_iff.mp hr).1 b hb).1
theorem rest_okB {τ : St} (h : okM τ) {p : Nat} : (∀ b : Nat, b < nB τ → okB τ (shN τ) (nmd τ) (barN τ) (csC τ none b 0) b (rowAt (nK τ) p)) ↔ restF τ (barN τ) (shN τ) (rowAt (nK τ) p) := by
  have h8 := h.k8
  have ec : ∀ b : Nat, csC τ none b 0 = cst τ b := fun b => by
    unfold csC
    rw [if_neg (by intro z; cases z), Int.add_zero]
  constructor
  · intro q
    refine ⟨fun b hb => ⟨rowAt_lt (by omega), (q b hb).1⟩, fun b hb k hk hbar => ?_⟩
    have := (q b hb).2 k hk hbar
    rw [ec] at this
    exact this
  · intro q b hb
    refine ⟨(q.1 b hb).2, fun k hk hbar => ?_⟩
    rw [ec]
    exact q.2 b hb k hk hbar
/-- what the searches change, and the marks -/
def scR (c k : Nat) : Bool := scI c k || mk 53 55 c k
def coreR (σ : St) : St := (fun c k => cond (scR c k) 0 (σ.1 c k), fun _ _ => 0)
def InvB (σ τ : St) : Prop := iS σ τ ∧ iP σ τ ∧ iL σ τ ∧ iO σ τ
theorem InvB_core (σ τ : St) : InvB (coreR σ) τ = InvB σ τ := rfl
theorem scR_f {c k : Nat} (h : (c < 10 ∨ 18 < c) ∧ c < 43) : scR c k = false := by
  unfold scR
  rw [scI_f ⟨h.1, Or.inl h.2, by omega⟩, mk_f.mpr (by omega)]
  rfl
theorem Inv_rs {σ σ' τ τ' : St} (hC : ∀ c k : Nat, scR c k = false → σ'.1 c k = σ.1 c k) (hM : core τ' = core τ) (h : Inv σ τ) (hR : iR σ' τ') : Inv σ' τ' := by
  have h1 : Inv σ τ' := by rw [← Inv_coreM, hM, Inv_coreM]; exact h
  have e : coreR σ' = coreR σ := by
    unfold coreR
    congr 1
    funext c k
    cases q : scR c k
    · exact hC c k q
    · rfl
  have hA : InvB σ' τ' := by
    rw [← InvB_core, e, InvB_core]
    exact ⟨h1.1, h1.2.1, h1.2.2.2.1, h1.2.2.2.2.1⟩
  have im := h1.2.2.1
  have hq : ∀ q : Nat, 19 ≤ q → q < 43 → σ'.1 q = σ.1 q := fun q h1 h2 => funext (fun k => hC q k (scR_f ⟨Or.inr (by omega), h2⟩))
  refine ⟨hA.1, hA.2.1, ⟨?_, im.2.1, fun i hi => ?_⟩, hA.2.2.1, hA.2.2.2, hR⟩
  · rw [hC 0 14 rfl]; exact im.1
  · have := im.2.1.2
    have hi4 : i < 4 := by omega
    rw [hq (imC i + 1) (by unfold imC; omega) (by unfold imC; omega), hq (imC i + 2) (by unfold imC; omega) (by unfold imC; omega), hq (imC i + 3) (by unfold imC; omega) (by unfold imC; omega), hq (imC i) (by unfold imC; omega) (by unfold imC; omega)]
    exact im.2.2 i hi
theorem scR_lt {c k : Nat} (h : scR c k = false) : ¬ (43 ≤ c ∧ c ≤ 52) ∧ ¬ (53 ≤ c ∧ c ≤ 55) ∧ ¬ 56 ≤ c := by
  have h1 := bf h
  have h2 := bf h1.1
  have h3 := bf h2.1
  refine ⟨fun z => ?_, mk_f.mp h1.2, fun z => ?_⟩
  · have : (Nat.ble 43 c && Nat.ble c 52) = true := by rw [Bool.and_eq_true, Nat.ble_eq, Nat.ble_eq]; exact z
    rw [h3.2] at this; cases this
  · have : Nat.ble 56 c = true := by rw [Nat.ble_eq]; exact z
    rw [h2.2] at this; cases this
theorem scR_opn : ∀ c k : Nat, scR c k = false → mOpn c k = false := fun c k h => mOpn_50 c k (mk_f.mpr (by have := scR_lt h; omega))
theorem scR_mSr : ∀ c k : Nat, scR c k = false → mSr c k = false := fun c k h => by
  have := scR_lt h
  unfold mSr
  rw [mk_f.mpr (show ¬ (46 ≤ c ∧ c ≤ 50) by omega), mk_f.mpr (show ¬ (54 ≤ c ∧ c ≤ 55) by omega)]
  have e : Nat.beq c 53 = false := by
    cases q : Nat.beq c 53 with
    | false => rfl
    | true => have := Nat.eq_of_beq_eq_true q; omega
  rw [e]
  rfl
theorem scR_mk {lo hi : Nat} (h1 : 43 ≤ lo) : ∀ c k : Nat, scR c k = false → mk lo hi c k = false := fun c k h => mk_f.mpr (by have := scR_lt h; omega)
theorem frm_sc {a b : Nat → Nat → Bool} {σ σ' : St} (ha : ∀ c k : Nat, scR c k = false → a c k = false) (hf : frm a b σ σ') : ∀ c k : Nat, scR c k = false → σ'.1 c k = σ.1 c k := fun c k q => hf.1 c k (ha c k q)
/-- the marks tell the rests as all stands now -/
theorem RestP_of {σ τ : St} (h : okM τ) (hm : rmk σ τ) (hf : mrk σ τ 0 (rsK τ)) : RestP σ τ := by
  have h4 := h.n4
  have h8 := h.k8
  refine ⟨hm.1, hm.2.1, fun b hb => ?_, fun p hp => ?_⟩
  · have pb : nK τ ^ b ≤ 4096 := powK (by omega) (by omega)
    rw [hm.2.2.2 b hb, nI_toInt (by omega)]
  · rw [← frB_0, hf p hp, rsK_iff, restD_iff]
theorem of_RestP {σ τ : St} (h : okM τ) (hL : rg (σ.1 54 2147483648) 8 4096) (hR : RestP σ τ) : rmk σ τ ∧ mrk σ τ 0 (rsK τ) := by
  have h4 := h.n4
  have h8 := h.k8
  obtain ⟨r1, r2, r3, r4⟩ := hR
  refine ⟨⟨r1, r2, hL.2, fun b hb => ?_⟩, fun p hp => ?_⟩
  · have pb : nK τ ^ b ≤ 4096 := powK (by omega) (by omega)
    rw [eq_i, r3 b hb, nI_toInt (by omega)]
  · rw [frB_0, r4 p hp, rsK_iff, restD_iff]
theorem lw_now {σ τ : St} (h : Inv σ τ) : lwOK τ (σ.1 22 4).toInt ∧ (σ.1 22 4).toInt = frc τ := by
  have e : (σ.1 22 4).toInt = frc τ := by rw [h.2.1.2.1]; rfl
  rw [e]
  exact ⟨⟨h.okM.hf.1, h.okM.hf.2⟩, rfl⟩
theorem findC {σ τ : St} (h : Inv σ τ) : ∃ σ', fX4_findA σ = some (σ', ()) ∧ Inv σ' τ ∧ rmk σ' τ ∧ mrk σ' τ 0 (rsK τ) := by
  have hM := h.okM
  have hR := h.2.2.2.2.2
  unfold fX4_findA
  by_cases k0 : σ.1 53 9 = 0
  · obtain ⟨l1, l2⟩ := lw_now h
    obtain ⟨σ1, a1, a2, a3⟩ := openC hM h.cls l1
    rw [l2] at a3
    have f1 : frm (fun c k => mOpn c k || Nat.beq c 56) noL σ (sI σ1 56 0 (σ1.1 43 15)) := frm_trans (frm_mono (fun _ _ q => (bf q).1) (fun _ _ q => q) a2) (frm_sI _ _ rfl)
    have s43 : ∀ c k : Nat, c < 43 → (mOpn c k || Nat.beq c 56) = false := fun c k hc => by
      rw [mOpn_43 c k hc]
      cases q : Nat.beq c 56 with
      | false => rfl
      | true => have := Nat.eq_of_beq_eq_true q; omega
    have c1 := clsR_fr (coreC_frm f1 s43) h.cls
    have cr1 : crd (sI σ1 56 0 (σ1.1 43 15)) (crF τ (shN τ) (nmd τ) (nS τ)) := fun t ht k hk => a3.2.2 t ht k hk
    have L1 : rg ((sI σ1 56 0 (σ1.1 43 15)).1 54 2147483648) 8 4096 := by
      rw [f1.1 54 2147483648 rfl]
      exact hR.1
    obtain ⟨σ2, b1, b2, b3, b4, b5⟩ := searchC (sh := shN τ) (cases := 1) (dear := none) (bar := fun _ => barN τ) hM c1 cr1 L1 (by omega) (fun d q => by cases q) (fun i hi k hk => by
      have : i = 0 := by omega
      subst this
      show frB (σ1.1 43 15) k ↔ _
      exact a3.2.1 k hk)
    have b1 : fX4_searchA (sI σ1 56 0 (σ1.1 43 15)) 1 (-1) = some (σ2, ()) := b1
    have m2 : mrk σ2 τ 0 (rsK τ) := fun p hp => by
      rw [b5 p hp 0 (by omega), rest_okB hM, rsK_iff]
    rw [if_pos k0, a1, cl_some, chk_t (by decide), show ix (0 : Int32) = 0 from rfl, bnd_eq, b1, cl_some, chk_t (by decide), bnd_eq]
    have k3 : rmk (sI σ2 53 9 1) τ := b3
    have m3 : mrk (sI σ2 53 9 1) τ 0 (rsK τ) := m2
    refine ⟨sI σ2 53 9 1, rfl, Inv_rs (fun c k q => ?_) rfl h ⟨b4, (show rg (1 : Int32) 0 1 by constructor <;> decide), fun _ => RestP_of hM k3 m3⟩, k3, m3⟩
    have q2 := scR_lt q
    rw [sI_ne (show c ≠ 53 by omega), b2.1 c k (scR_mSr c k q), f1.1 c k (by
      show (mOpn c k || Nat.beq c 56) = false
      rw [scR_opn c k q]
      cases z : Nat.beq c 56 with
      | false => rfl
      | true => have := Nat.eq_of_beq_eq_true z; omega)]
  · rw [if_neg k0]
    have k1 : (σ.1 53 9).toInt = 1 := by
      have := hR.2.1.1
      have := hR.2.1.2
      rw [eq_i, z_0] at k0
      omega
    obtain ⟨q1, q2⟩ := of_RestP hM hR.1 (hR.2.2 k1)
    exact ⟨σ, rfl, h, q1, q2⟩
theorem restLoopM {x τ : St} (h : okM τ) (hcx : core x = core τ) (hs : surE x τ (8 ^ nB τ)) {p : Int32} (hp : 0 ≤ p.toInt) : fX9_rests_L35 p (nI (cntN (rs8 τ) (8 ^ nB τ))) (fun (σ_16 : St) (_ : Int32) (_ : Int32) => some (σ_16, (-1 : Int32))) FU x p 0 = some (x, encN (nthN (rs8 τ) p.toInt.toNat (8 ^ nB τ))) := by
  have h4 := h.n4
  have p8 := pow8 h4
  have hx := okM_fr hcx h
  have hN : nB x = nB τ := fr nB (fun _ => rfl) hcx
  have cu := cntN_ub (f := rs8 τ) (8 ^ nB τ)
  have hpl := Int32.toInt_lt p
  by_cases big : cntN (rs8 τ) (8 ^ nB τ) ≤ p.toInt.toNat
  · rw [nthN_ge big, show FU = 99999 + 1 from rfl, fX9_rests_L35, rowsM hx, cl_some]
    split
    · rfl
    · rw [if_pos (by rw [le_i, nI_toInt (by omega)]; omega)]
      rfl
  · have key := loopX (S := Int32) (fun n y m => fX9_rests_L35 p (nI (cntN (rs8 τ) (8 ^ nB τ))) (fun (σ_16 : St) (_ : Int32) (_ : Int32) => some (σ_16, (-1 : Int32))) n x y (nI m)) (8 ^ nB τ) (fun m y => y.toInt = p.toInt - cntN (rs8 τ) m ∧ 0 ≤ y.toInt ∧ nthN (rs8 τ) p.toInt.toNat m = none) (fun _ => some (x, -1)) (fun res => res = some (x, encN (nthN (rs8 τ) p.toInt.toNat (8 ^ nB τ)))) (fun n y hq => by
        show fX9_rests_L35 _ _ _ (n + 1) x y _ = _
        rw [fX9_rests_L35, rowsM hx, cl_some, hN, if_pos (by rw [le_i]; omega)]) (fun n m y hm hq => by
        obtain ⟨q1, q2, q3⟩ := hq
        have ir := isRestM h hcx hs hm
        show (∃ y', _ ∧ fX9_rests_L35 _ _ _ (n + 1) x y _ = _) ∨ (fX9_rests_L35 _ _ _ (n + 1) x y _ = _)
        rw [fX9_rests_L35, rowsM hx, cl_some, hN, if_neg (by rw [le_i, nI_toInt (by omega), nI_toInt (by omega)]; omega), if_neg (by rw [le_i, nI_toInt (by omega)]; omega), ir, cl_some, jp_eq]
        cases w : rs8 τ m with
        | false =>
          have wf : ¬ rs8 τ m = true := by rw [w]; intro z; cases z
          rw [if_pos (show b01 false = 0 from rfl)]
          dsimp only
          exact Or.inl ⟨y, ⟨by rw [cntN_n wf]; exact q1, q2, nthN_n q3 (fun z => wf z.1)⟩, by rw [bnd_eq, nI_succ]; all_goals rfl⟩
        | true =>
          rw [if_neg (show ¬ b01 true = 0 from one0)]
          by_cases y0 : y = 0
          · rw [if_pos y0]
            refine Or.inr ?_
            have : cntN (rs8 τ) m = p.toInt.toNat := by
              rw [y0, z_0] at q1
              omega
            rw [nthN_s (m + 1) _ (by omega) (nthN_y q3 ⟨w, this⟩)]
            rfl
          · rw [if_neg y0, bnd_eq]
            dsimp only
            have yp : 1 ≤ y.toInt := by
              rw [eq_i, z_0] at y0
              omega
            have ys : (y + (-1 : Int32)).toInt = y.toInt - 1 := by
              rw [dn2, i32_sub (by rw [z_1]; omega) (by rw [z_1]; have := Int32.toInt_lt y; omega), z_1]
            refine Or.inl ⟨y + (-1 : Int32), ⟨by rw [cntN_y w, ys]; omega, by rw [ys]; omega, nthN_n q3 (fun z => ?_)⟩, by rw [bnd_eq, nI_succ]; all_goals rfl⟩
            have := z.2
            omega) FU 0 p (Nat.zero_le _) (by have : FU = 100000 := rfl; omega) ⟨by show p.toInt = p.toInt - ((0 : Nat) : Int); omega, hp, rfl⟩
    rcases key with ⟨_, hq, e⟩ | e
    · rw [hq.2.2]; exact e
    · exact e
theorem p_rests : op_rests Inv := by
  intro σ τ p h
  have hM := h.okM
  have h4 := hM.n4
  have h8 := hM.k8
  have zm : (-1 : Int32).toInt = -1 := by decide
  have eb : σ.1 2 0 = τ.1 0 0 := h.1.1.1
  unfold fX8_restsA fX9_rests
  rw [eb]
  by_cases b0 : τ.1 0 0 = 0
  · rw [if_pos b0, if_pos b0]; exact ⟨σ, τ, -1, rfl, rfl, h⟩
  rw [if_neg b0, if_neg b0]
  by_cases pm : (-1 : Int32) ≤ p
  case neg => rw [if_neg pm, if_neg pm]; exact ⟨σ, τ, -1, rfl, rfl, h⟩
  rw [if_pos pm, if_pos pm]
  obtain ⟨σ', a1, a2, a3, a4⟩ := findC h
  obtain ⟨τ1, k1, k2, k3, k4⟩ := knocksM hM
  have hc1 : core τ1 = core τ := core_frm k2 aKno_sc
  have hM1 := okM_fr hc1 hM
  have en : nmd τ1 = nmd τ := fr nmd (fun _ => rfl) hc1
  obtain ⟨τ2, c1, c2, c3, c4⟩ := countM hM1 (by rw [en]; exact k4)
  have hc21 : core τ2 = core τ1 := core_frm c2 aCn_sc
  have hI : Inv σ' τ2 := by rw [← Inv_coreM, hc21, hc1, Inv_coreM]; exact a2
  have nbk : nB τ1 = nB τ := fr nB (fun _ => rfl) hc1
  have e8 : rs8 τ1 = rs8 τ := by
    funext c
    have : restD τ1 (frc τ1) (rowAt 8 c) = restD τ (frc τ) (rowAt 8 c) := fr (fun s => restD s (frc s) (rowAt 8 c)) (fun _ => rfl) hc1
    unfold rs8
    congr 1
  have ca := cnt_all (n := nB τ) (show 0 < nK τ by omega) h8.1 (rs_enc hM) rs_dig
  rw [a1, cl_some, k1, cl_some, c1, cl_some, bnd_eq, nbk, e8]
  by_cases pn : p = -1
  · rw [if_pos pn, if_pos pn, show (0 : Int32) = nI 0 from rfl, howManyC hM a3 (by omega) a4, cl_some, ca]
    exact ⟨σ', τ2, _, rfl, rfl, hI⟩
  · have p0 : 0 ≤ p.toInt := by
      rw [le_i, zm] at pm
      rw [eq_i, zm] at pn
      omega
    have lm := restLoopM hM1 hc21 c4 p0
    rw [nbk, e8] at lm
    rw [if_neg pn, if_neg pn, bnd_eq, bnd_eq, lm]
    have pl := placeC (i := 0) hM a3 (by omega) a4 p0
    have pl : fX4_place σ' 0 p = some (σ', encN (nthN (rsK τ) p.toInt.toNat (nK τ ^ nB τ))) := pl
    rw [pl, cl_some, codeOfC hM a2.cls a3 _ (fun q hq => (nthN_some _ hq).1), cl_some, ← nth_enc (show 0 < nK τ by omega) h8.1 (rs_enc hM) rs_dig]
    exact ⟨σ', τ2, _, rfl, rfl, hI⟩
