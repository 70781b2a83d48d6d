/-! lots, the model's four couples -/
def xK (lo hi k : Nat) : Nat := if 2 ≤ k then hi else lo
def yK (lo hi k : Nat) : Nat := if k % 2 = 0 then lo else hi
theorem coreL (s : St) (q k : Nat) (v : Int64) : core (sL s q k v) = core s := rfl
theorem lotsM {τ' τ : St} {dr : Nat → Nat} (h : okM τ) (hc0 : core τ' = core τ) (hd : drOK τ' dr) {P : Nat → Nat → Int} (hP : ptM τ' P) (hW : okW τ P) {a b lo hi : Nat} (ha : a < nB τ) (hb : b < nB τ) (hab : a ≠ b) (hlo : lo < nK τ) (hhi : hi < nK τ) (q5 : Int32) (kont : St → Option (St × Int64)) : ∃ τ2, fX9_lots_L85 (nI a) (nI b) (nI lo) (nI hi) q5 (fun (σ_31 : St) (_ : Int32) => kont σ_31) FU τ' 0 = kont τ2 ∧ core τ2 = core τ ∧ ∀ k : Nat, k < 4 → τ2.2 30 k = Int64.ofInt (100 * gA τ dr P a b (xK lo hi k) (yK lo hi k)) ∧ τ2.2 31 k = Int64.ofInt (100 * gB τ dr P a b (xK lo hi k) (yK lo hi k)) := by
  have h4 := h.n4
  have h8 := h.k8
  have z4 : (4 : Int32).toInt = 4 := by decide
  obtain ⟨τ2, hp, e⟩ := loopG (S := St) (fun n s m => fX9_lots_L85 (nI a) (nI b) (nI lo) (nI hi) q5 (fun (σ_31 : St) (_ : Int32) => kont σ_31) n s (nI m)) 4 (fun m s => core s = core τ ∧ drOK s dr ∧ (∃ Q : Nat → Nat → Int, ptM s Q ∧ ∀ x y : Nat, putP (putP Q a x) b y = putP (putP P a x) b y) ∧ ∀ k : Nat, k < m → s.2 30 k = Int64.ofInt (100 * gA τ dr P a b (xK lo hi k) (yK lo hi k)) ∧ s.2 31 k = Int64.ofInt (100 * gB τ dr P a b (xK lo hi k) (yK lo hi k))) (fun s => kont s) (fun n s hp => by
      show fX9_lots_L85 _ _ _ _ _ _ (n + 1) s _ = _
      rw [fX9_lots_L85, if_pos (by decide)]) (fun n m s hm hp => by
      obtain ⟨p1, p2, ⟨Q, p3, p4⟩, p5⟩ := hp
      obtain ⟨r1, r2⟩ := lots_r hm
      have hx : xK lo hi m < nK τ := by unfold xK; split <;> assumption
      have hy : yK lo hi m < nK τ := by unfold yK; split <;> assumption
      obtain ⟨s1, a1, a2, a3⟩ := putsM s (b := a) (s := xK lo hi m) (by omega) (by omega)
      obtain ⟨s2, b1, b2, b3⟩ := putsM s1 (b := b) (s := yK lo hi m) (by omega) (by omega)
      have hc1 : core s1 = core s := core_frm a2 aPut_sc
      have hc2 : core s2 = core s1 := core_frm b2 aPut_sc
      have hc2' : core s2 = core τ := hc2.trans (hc1.trans p1)
      have t1 : ptM s1 (putP Q a (xK lo hi m)) := ptM_put p3 (fr nB (fun _ => rfl) hc1) a3
      have t2 : ptM s2 (putP (putP P a (xK lo hi m)) b (yK lo hi m)) := by
        rw [← p4]
        exact ptM_put t1 (fr nB (fun _ => rfl) hc2) b3
      have d2 : drOK s2 dr := drOK_fr (hc2.trans hc1) (fun i => (b2.1 27 i rfl).trans (a2.1 27 i rfl)) p2
      obtain ⟨s3, c1, c2, c3⟩ := sellsM (okM_fr hc2' h) t2 d2
      have hc32 : core s3 = core s2 := core_frm c2 aRow_sc
      have hc3 : core s3 = core τ := (core_frm c2 aRow_sc).trans hc2'
      have zW : ∀ (Q : Nat → Nat → Int) (hQ : okW τ Q) (i : Nat), ∀ j : Nat, j < nB τ → j ≠ i → ∀ k : Nat, nK τ ≤ k → k < 8 → Q j k = 0 := fun Q hQ i j hj _ k h1 h2 => ((hQ j hj).1 k h2).2.2 h1
      have ev : ∀ i : Nat, ex 8 (nB s2) (putP (putP P a (xK lo hi m)) b (yK lo hi m)) (fun r => earnM s2 dr r (nS s2) i) = ex 8 (nB τ) (putP (putP P a (xK lo hi m)) b (yK lo hi m)) (fun r => earnM τ dr r (nS τ) i) := fun i => fr (fun σ => ex 8 (nB σ) (putP (putP P a (xK lo hi m)) b (yK lo hi m)) (fun r => earnM σ dr r (nS σ) i)) (fun _ => rfl) hc2'
      have e23b : s3.2 23 b = Int64.ofInt (100 * gB τ dr P a b (xK lo hi m) (yK lo hi m)) := by
        rw [(c3.1 b (by omega)).2]
        dsimp only
        rw [ev]
        congr 1
        exact atE_gn h dr hb (by omega) (zW _ (okW_put hW a (by omega) hx) b)
      have e23a : s3.2 23 a = Int64.ofInt (100 * gA τ dr P a b (xK lo hi m) (yK lo hi m)) := by
        rw [(c3.1 a (by omega)).2]
        dsimp only
        rw [ev, putP_comm P hab]
        congr 1
        exact atE_gn h dr ha (by omega) (zW _ (okW_put hW b (by omega) hy) a)
      have hin : inb (nI m) 4 = true := inb_nI (by omega) (by decide)
      have hina : inb (nI a) 4 = true := inb_nI (by omega) (by decide)
      have hinb : inb (nI b) 4 = true := inb_nI (by omega) (by decide)
      have keep : ∀ c k : Nat, (c = 30 ∨ c = 31) → s3.2 c k = s.2 c k := fun c k hck => by
        rcases hck with w | w <;> subst w
        · rw [c2.2 30 k rfl, b2.2 30 k rfl, a2.2 30 k rfl]
        · rw [c2.2 31 k rfl, b2.2 31 k rfl, a2.2 31 k rfl]
      have fin : ∃ s' : St, (core s' = core τ ∧ drOK s' dr ∧ (∃ Q : Nat → Nat → Int, ptM s' Q ∧ ∀ x y : Nat, putP (putP Q a x) b y = putP (putP P a x) b y) ∧ ∀ k : Nat, k < m + 1 → s'.2 30 k = Int64.ofInt (100 * gA τ dr P a b (xK lo hi k) (yK lo hi k)) ∧ s'.2 31 k = Int64.ofInt (100 * gB τ dr P a b (xK lo hi k) (yK lo hi k))) ∧ (cl (fX9_puts s (nI a) (nI (xK lo hi m))) fun (σ_20 : St) (_ : Unit) => cl (fX9_puts σ_20 (nI b) (nI (yK lo hi m))) fun (σ_24 : St) (_ : Unit) => cl (fX9_sells σ_24 ) fun (σ_26 : St) (_ : Unit) => chk (inb (nI a) 4) (chk (inb (nI m) 4) (bnd (sL σ_26 30 (ix (nI m)) (σ_26.2 23 (ix (nI a)))) fun (σ_28 : St) => chk (inb (nI b) 4) (chk (inb (nI m) 4) (bnd (sL σ_28 31 (ix (nI m)) (σ_28.2 23 (ix (nI b)))) fun (σ_29 : St) => bnd (nI m + (1 : Int32)) fun (x6_30 : Int32) => fX9_lots_L85 (nI a) (nI b) (nI lo) (nI hi) q5 (fun (σ_31 : St) (_ : Int32) => kont σ_31) n σ_29 x6_30))))) = fX9_lots_L85 (nI a) (nI b) (nI lo) (nI hi) q5 (fun (σ_31 : St) (_ : Int32) => kont σ_31) n s' (nI (m + 1)) := by
        rw [a1, cl_some, b1, cl_some, c1, cl_some, chk_t hina, chk_t hin, ix_nI (m := m) (by omega), ix_nI (m := a) (by omega), e23a, bnd_eq, chk_t hinb, chk_t hin, ix_nI (m := b) (by omega)]
        have v23 : (sL s3 30 m (Int64.ofInt (100 * gA τ dr P a b (xK lo hi m) (yK lo hi m)))).2 23 b = Int64.ofInt (100 * gB τ dr P a b (xK lo hi m) (yK lo hi m)) := by rw [sL_ne (by decide)]; exact e23b
        rw [v23]
        refine ⟨sL (sL s3 30 m (Int64.ofInt (100 * gA τ dr P a b (xK lo hi m) (yK lo hi m)))) 31 m (Int64.ofInt (100 * gB τ dr P a b (xK lo hi m) (yK lo hi m))), ⟨hc3, ?_, ⟨putP (putP P a (xK lo hi m)) b (yK lo hi m), ?_, fun x y => ?_⟩, fun k hk => ⟨?_, ?_⟩⟩, ?_⟩
        · exact drOK_fr (τ' := sL (sL s3 30 m (Int64.ofInt (100 * gA τ dr P a b (xK lo hi m) (yK lo hi m)))) 31 m (Int64.ofInt (100 * gB τ dr P a b (xK lo hi m) (yK lo hi m)))) hc32 (fun i => c2.1 27 i rfl) d2
        · exact ptM_fr (τ' := sL (sL s3 30 m (Int64.ofInt (100 * gA τ dr P a b (xK lo hi m) (yK lo hi m)))) 31 m (Int64.ofInt (100 * gB τ dr P a b (xK lo hi m) (yK lo hi m)))) hc32 (fun i => c2.1 18 i rfl) t2
        · rw [putP_comm P hab, putP_putP, putP_comm (putP P b (yK lo hi m)) hab, putP_putP, ← putP_comm P hab]
        · rw [sL_ne (by decide), sL_at]
          by_cases ek : k = m
          · rw [if_pos ek, ek]
          · rw [if_neg ek, keep 30 k (Or.inl rfl)]; exact (p5 k (by omega)).1
        · rw [sL_at, sL_ne (by decide)]
          by_cases ek : k = m
          · rw [if_pos ek, ek]
          · rw [if_neg ek, keep 31 k (Or.inr rfl)]; exact (p5 k (by omega)).2
        · rw [nI_succ]
          rfl
      show ∃ s' : St, _ ∧ fX9_lots_L85 _ _ _ _ _ _ (n + 1) s _ = _
      rw [fX9_lots_L85, if_neg (by rw [le_i, z4, nI_toInt (by omega)]; omega), jp_eq]
      have go : ∀ t u : Nat, t = xK lo hi m → u = yK lo hi m → (if (nI m - nI m / (2 : Int32) * (2 : Int32)) = 0 then nI lo else nI hi) = nI u → ∃ s' : St, (core s' = core τ ∧ drOK s' dr ∧ (∃ Q : Nat → Nat → Int, ptM s' Q ∧ ∀ x y : Nat, putP (putP Q a x) b y = putP (putP P a x) b y) ∧ ∀ k : Nat, k < m + 1 → s'.2 30 k = Int64.ofInt (100 * gA τ dr P a b (xK lo hi k) (yK lo hi k)) ∧ s'.2 31 k = Int64.ofInt (100 * gB τ dr P a b (xK lo hi k) (yK lo hi k))) ∧ (cl (fX9_puts s (nI a) (nI t)) fun (σ_20 : St) (_ : Unit) => chk (decide (¬ (2 : Int32) = 0)) ((jp (fun (σ_22 : St)  (t_23 : Int32) => cl (fX9_puts σ_22 (nI b) t_23) fun (σ_24 : St) (_ : Unit) => cl (fX9_sells σ_24 ) fun (σ_26 : St) (_ : Unit) => chk (inb (nI a) 4) (chk (inb (nI m) 4) (bnd (sL σ_26 30 (ix (nI m)) (σ_26.2 23 (ix (nI a)))) fun (σ_28 : St) => chk (inb (nI b) 4) (chk (inb (nI m) 4) (bnd (sL σ_28 31 (ix (nI m)) (σ_28.2 23 (ix (nI b)))) fun (σ_29 : St) => bnd (nI m + (1 : Int32)) fun (x6_30 : Int32) => fX9_lots_L85 (nI a) (nI b) (nI lo) (nI hi) q5 (fun (σ_31 : St) (_ : Int32) => kont σ_31) n σ_29 x6_30))))) fun j123 => (if (nI m - nI m / (2 : Int32) * (2 : Int32)) = 0 then j123 σ_20 (nI lo) else j123 σ_20 (nI hi))))) = fX9_lots_L85 (nI a) (nI b) (nI lo) (nI hi) q5 (fun (σ_31 : St) (_ : Int32) => kont σ_31) n s' (nI (m + 1)) := by
        intro t u ht hu hcond
        subst ht hu
        refine Exists.imp (fun s' q => ⟨q.1, Eq.trans ?_ q.2⟩) fin
        rw [a1, cl_some, cl_some, chk_t (by decide), jp_eq]
        by_cases m0 : (nI m - nI m / (2 : Int32) * (2 : Int32)) = 0
        · rw [if_pos m0] at hcond ⊢
          rw [hcond]
        · rw [if_neg m0] at hcond ⊢
          rw [hcond]
      have ey : (if (nI m - nI m / (2 : Int32) * (2 : Int32)) = 0 then nI lo else nI hi) = nI (yK lo hi m) := by
        unfold yK
        by_cases m0 : m % 2 = 0
        · rw [if_pos (r2.mpr m0), if_pos m0]
        · rw [if_neg (fun q => m0 (r2.mp q)), if_neg m0]
      by_cases w2 : 2 ≤ m
      · rw [if_pos (r1.mpr w2)]
        exact go hi (yK lo hi m) (by unfold xK; rw [if_pos w2]) rfl ey
      · rw [if_neg (fun q => w2 (r1.mp q))]
        exact go lo (yK lo hi m) (by unfold xK; rw [if_neg w2]) rfl ey) FU 0 τ' (by omega) (by have : FU = 100000 := rfl; omega) ⟨hc0, hd, ⟨P, hP, fun _ _ => rfl⟩, fun k hk => absurd hk (by omega)⟩
  exact ⟨τ2, e, hp.1, hp.2.2.2⟩
theorem shV100 (pt wh z : Int) : Int64.ofInt ((100 * z).tdiv (((Nat.gcd (100 * wh).natAbs (100 * pt).natAbs : Nat) : Int) * (if wh < 0 then -1 else 1))) = shV pt wh z := by
  unfold shV
  rw [Int.natAbs_mul, Int.natAbs_mul, show (100 : Int).natAbs = 100 from rfl, Nat.gcd_mul_left, Int.natCast_mul, Int.mul_assoc, show ((100 : Nat) : Int) = 100 from rfl, Int.mul_tdiv_mul_of_pos _ _ (by decide)]
theorem p_lots : op_lots Inv := by
  intro σ τ p q u v w h
  have hM := h.okM
  have h4 := hM.n4
  have h8 := hM.k8
  have z3 : (3 : Int32).toInt = 3 := by decide
  unfold fX8_lots fX9_lots
  rw [hasBaker_eq, isBaker_eq hM.hB, cl_some, cl_some]
  obtain ⟨σ', τ', x, a1, a2, a3, a4, a5, a6⟩ := ready2 h
  have hI1 : Inv σ' τ := Inv_50 (by omega) (by omega) a5 rfl h
  by_cases hp : 0 ≤ p.toInt ∧ p.toInt < (τ.1 0 0).toInt
  case neg =>
    rw [if_neg (fun z => hp ((bkr2 h p).mp z)), if_neg hp, if_pos rfl, if_pos rfl]
    exact ⟨σ, τ, -1, rfl, rfl, h⟩
  rw [if_pos ((bkr2 h p).mpr hp), if_pos hp, if_neg one0, if_neg one0, hasBaker_eq, isBaker_eq hM.hB, cl_some, cl_some]
  by_cases hq : 0 ≤ q.toInt ∧ q.toInt < (τ.1 0 0).toInt
  case neg =>
    rw [if_neg (fun z => hq ((bkr2 h q).mp z)), if_neg hq, if_pos rfl, if_pos rfl]
    exact ⟨σ, τ, -1, rfl, rfl, h⟩
  rw [if_pos ((bkr2 h q).mpr hq), if_pos hq, if_neg one0, if_neg one0]
  by_cases hpq : p = q
  · rw [if_pos hpq, if_pos hpq]; exact ⟨σ, τ, -1, rfl, rfl, h⟩
  rw [if_neg hpq, if_neg hpq, isStep_eq hM.hK, cl_some]
  -- the class's way from the steps on, where something refuses
  obtain ⟨e1, e2⟩ := bkr_nI hM hp
  obtain ⟨e3, e4⟩ := bkr_nI hM hq
  have st2 : ∀ y : Int32, (0 ≤ y.toInt ∧ y.toInt < (σ.1 2 2).toInt) = (0 ≤ y.toInt ∧ y.toInt < (τ.1 0 2).toInt) := fun y => by rw [h.1.1.2.2.1]
  by_cases hu : 0 ≤ u.toInt ∧ u.toInt < (τ.1 0 2).toInt
  case neg =>
    rw [if_neg hu, if_pos rfl]
    by_cases w0 : w < 0
    · rw [if_pos w0]; exact ⟨σ, τ, -1, rfl, rfl, h⟩
    · rw [if_neg w0]
      by_cases w3 : w ≤ 3
      · rw [if_pos w3, hasStep_eq, cl_some, if_neg (show ¬ (0 ≤ u.toInt ∧ u.toInt < (σ.1 2 2).toInt) by rw [st2]; exact hu), if_pos rfl]; exact ⟨σ, τ, -1, rfl, rfl, h⟩
      · rw [if_neg w3]; exact ⟨σ, τ, -1, rfl, rfl, h⟩
  rw [if_pos hu, if_neg one0, isStep_eq hM.hK, cl_some]
  by_cases hv : 0 ≤ v.toInt ∧ v.toInt < (τ.1 0 2).toInt
  case neg =>
    rw [if_neg hv, if_pos rfl]
    by_cases w0 : w < 0
    · rw [if_pos w0]; exact ⟨σ, τ, -1, rfl, rfl, h⟩
    · rw [if_neg w0]
      by_cases w3 : w ≤ 3
      · rw [if_pos w3, hasStep_eq, cl_some, if_pos (show (0 ≤ u.toInt ∧ u.toInt < (σ.1 2 2).toInt) by rw [st2]; exact hu), if_neg one0, hasStep_eq, cl_some, if_neg (show ¬ (0 ≤ v.toInt ∧ v.toInt < (σ.1 2 2).toInt) by rw [st2]; exact hv), if_pos rfl]; exact ⟨σ, τ, -1, rfl, rfl, h⟩
      · rw [if_neg w3]; exact ⟨σ, τ, -1, rfl, rfl, h⟩
  rw [if_pos hv, if_neg one0]
  by_cases huv : v ≤ u
  · rw [if_pos huv]
    by_cases w0 : w < 0
    · rw [if_pos w0]; exact ⟨σ, τ, -1, rfl, rfl, h⟩
    · rw [if_neg w0]
      by_cases w3 : w ≤ 3
      · rw [if_pos w3, hasStep_eq, cl_some, if_pos (show (0 ≤ u.toInt ∧ u.toInt < (σ.1 2 2).toInt) by rw [st2]; exact hu), if_neg one0, hasStep_eq, cl_some, if_pos (show (0 ≤ v.toInt ∧ v.toInt < (σ.1 2 2).toInt) by rw [st2]; exact hv), if_neg one0, if_pos huv]; exact ⟨σ, τ, -1, rfl, rfl, h⟩
      · rw [if_neg w3]; exact ⟨σ, τ, -1, rfl, rfl, h⟩
  rw [if_neg huv]
  have eu : u = nI u.toInt.toNat := nI_mk hu.1
  have euK : u.toInt.toNat < nK τ := by have := hM.nk; omega
  have evv : v = nI v.toInt.toNat := nI_mk hv.1
  have evK : v.toInt.toNat < nK τ := by have := hM.nk; omega
  have hus := (show (0 ≤ u.toInt ∧ u.toInt < (σ.1 2 2).toInt) by rw [st2]; exact hu)
  have hvs := (show (0 ≤ v.toInt ∧ v.toInt < (σ.1 2 2).toInt) by rw [st2]; exact hv)
  have habn : p.toInt.toNat ≠ q.toInt.toNat := fun z => hpq (by rw [e1, e3, z])
  clear hp hq st2 hpq
  rw [hasStep_eq, cl_some, if_pos hus, if_neg one0, hasStep_eq, cl_some, if_pos hvs, if_neg one0, if_neg huv]
  clear hus hvs hu hv huv
  generalize p.toInt.toNat = a at e1 e2 habn
  generalize q.toInt.toNat = b at e3 e4 habn
  generalize u.toInt.toNat = lo at eu euK
  generalize v.toInt.toNat = hi at evv evK
  subst e1 e3 eu evv
  have bl : fX9_isBarred τ (nI lo) = some (τ, if barN τ lo then 1 else 0) := barredM hM.law (by omega)
  have bh : fX9_isBarred τ (nI hi) = some (τ, if barN τ hi then 1 else 0) := barredM hM.law (by omega)
  rw [bl, cl_some]
  -- one of the steps is barred, or w is none of 0 to 3
  have refuse : (barN τ lo ∨ barN τ hi) → ∃ σ1 : St, Inv σ1 τ ∧ (if w < 0 then some (σ, (-1 : Int64)) else (if w ≤ (3 : Int32) then cl (fX7_settle σ ) fun (σ_9 : St) (t_10 : Int32) => (if t_10 = 0 then some (σ_9, (-1 : Int64)) else cl (fX7_isFree σ_9 (nI lo)) fun (σ_11 : St) (t_12 : Int32) => (if t_12 = 0 then some (σ_11, (-1 : Int64)) else cl (fX7_isFree σ_11 (nI hi)) fun (σ_13 : St) (t_14 : Int32) => (if t_14 = 0 then some (σ_13, (-1 : Int64)) else cl (fX1_fill σ_13 (nI a) (nI b) (nI lo) (nI hi)) fun (σ_15 : St) (_ : Unit) => cl (fX1_hasRest σ_15 ) fun (σ_17 : St) (t_18 : Int32) => (if t_18 = 0 then cl (fX1_share σ_17 w) fun (σ_19 : St) (t_20 : Int64) => some (σ_19, t_20) else some (σ_17, (-1 : Int64)))))) else some (σ, (-1 : Int64)))) = some (σ1, -1) := by
    intro hbar
    by_cases w0 : w < 0
    · exact ⟨σ, h, by rw [if_pos w0]⟩
    · rw [if_neg w0]
      by_cases w3 : w ≤ 3
      · rw [if_pos w3, a1, cl_some]
        rcases a6 with ⟨e, _⟩ | ⟨P, a, e, _, hr, _⟩
        · exact ⟨σ', hI1, by rw [if_pos e]⟩
        · have x0 : ¬ x = 0 := by rw [e]; exact one0
          rw [if_neg x0, isFreeC, cl_some]
          by_cases fl : frB (σ'.1 43 15) lo
          · rw [if_pos fl, if_neg one0, isFreeC, cl_some]
            have nl := (hr.2.1.2.1 lo (by omega)).mp fl
            have nh : ¬ frB (σ'.1 43 15) hi := fun z => by
              have := (hr.2.1.2.1 hi (by omega)).mp z
              rcases hbar with q | q
              · exact nl.2 q
              · exact this.2 q
            rw [if_neg nh, if_pos rfl]
            exact ⟨σ', hI1, rfl⟩
          · rw [if_neg fl, if_pos rfl]
            exact ⟨σ', hI1, rfl⟩
      · exact ⟨σ, h, by rw [if_neg w3]⟩
  by_cases nlo : barN τ lo
  · rw [if_pos nlo, if_neg one0]
    obtain ⟨σ1, i1, i2⟩ := refuse (Or.inl nlo)
    rw [i2]
    exact ⟨σ1, τ, -1, rfl, rfl, i1⟩
  rw [if_neg nlo, if_pos rfl, bh, cl_some]
  by_cases nhi : barN τ hi
  · rw [if_pos nhi, if_neg one0]
    obtain ⟨σ1, i1, i2⟩ := refuse (Or.inr nhi)
    rw [i2]
    exact ⟨σ1, τ, -1, rfl, rfl, i1⟩
  rw [if_neg nhi, if_pos rfl, isIn_eq, cl_some, z_0, z3]
  by_cases hw : 0 ≤ w.toInt ∧ w.toInt ≤ 3
  case neg =>
    rw [if_neg hw, if_pos rfl]
    by_cases w0 : w < 0
    · rw [if_pos w0]; exact ⟨σ, τ, -1, rfl, rfl, h⟩
    · rw [if_neg w0, if_neg (show ¬ w ≤ 3 by rw [lt_i, z_0] at w0; rw [le_i, z3]; omega)]; exact ⟨σ, τ, -1, rfl, rfl, h⟩
  rw [if_pos hw, if_neg one0, if_neg (show ¬ w < 0 by rw [lt_i, z_0]; omega), if_pos (show w ≤ 3 by rw [le_i, z3]; omega), a1, a2, cl_some, cl_some]
  have ew : w = nI w.toInt.toNat := nI_mk hw.1
  have ew4 : w.toInt.toNat < 4 := by omega
  clear hw refuse
  generalize w.toInt.toNat = ww at ew ew4
  subst ew
  rcases a6 with ⟨e, _⟩ | ⟨P, ans, e, _, hr, _⟩
  · rw [if_pos e, if_pos e]; exact ⟨σ', τ', -1, rfl, rfl, a3⟩
  have x0 : ¬ x = 0 := by rw [e]; exact one0
  have hW := hr.2.2.2.2.2.2.w
  have fl : frB (σ'.1 43 15) lo := (hr.2.1.2.1 lo (by omega)).mpr ⟨euK, nlo⟩
  have fh : frB (σ'.1 43 15) hi := (hr.2.1.2.1 hi (by omega)).mpr ⟨evK, nhi⟩
  obtain ⟨σ2, b1, b2, ⟨v1, v2, v3, v4⟩, v5, v6, v7, v8⟩ := fillC hM hr.1 hr.2.1 hr.2.2.1 hW e2 e4 habn euK evK
  have gAb : ∀ x y : Nat, x < nK τ → y < nK τ → bd (gA τ (nmd τ) P a b x y) := fun x y hx hy => gnS_bW hM (shN τ) (nmd τ) (okW_put hW b (by omega) hy) e2 hx
  have gBb : ∀ x y : Nat, x < nK τ → y < nK τ → bd (gB τ (nmd τ) P a b x y) := fun x y hx hy => gnS_bW hM (shN τ) (nmd τ) (okW_put hW a (by omega) hx) e4 hy
  have dA1 := gAb lo lo euK euK
  have dA2 := gAb lo hi euK evK
  have dA3 := gAb hi lo evK euK
  have dA4 := gAb hi hi evK evK
  have dB1 := gBb lo lo euK euK
  have dB2 := gBb lo hi euK evK
  have dB3 := gBb hi lo evK euK
  have dB4 := gBb hi hi evK evK
  have hI2 : ∀ τ2 : St, core τ2 = core τ → Inv σ2 τ2 := fun τ2 hc => Inv_50 (by omega) (by omega) b2 (hc.trans a4.symm) a3
  rw [if_neg x0, if_neg x0, isFreeC, cl_some, if_pos fl, if_neg one0, isFreeC, cl_some, if_pos fh, if_neg one0, b1, cl_some, hasRestC v1 v2 v3 v4 v5 v6 v7 v8 dA1 dA2 dA3 dA4 dB1 dB2 dB3 dB4, cl_some, bnd_eq]
  obtain ⟨τ2, c1, c2, c3⟩ := lotsM hM a4 hr.2.2.2.2.1 hr.2.2.2.2.2.1 hW e2 e4 habn euK evK (nI ww) (fun (σ_31 : St) => cl (fX9_isUnrest σ_31 ) fun (σ_33 : St) (t_34 : Int32) => (if t_34 = 0 then some (σ_33, (-1 : Int64)) else (jp (fun (σ_35 : St)  (t_36 : Int64) => bnd t_36 fun (x6_37 : Int64) => (jp (fun (σ_38 : St)  (t_39 : Int64) => bnd t_39 fun (x8_40 : Int64) => cl (fX9_divisor σ_38 x6_37 x8_40) fun (σ_41 : St) (t_42 : Int64) => (jp (fun (σ_43 : St)  (t_44 : Int64) => bnd (t_42 * t_44) fun (x10_45 : Int64) => chk (decide (¬ (2 : Int32) = 0)) ((if (nI ww - nI ww / (2 : Int32) * (2 : Int32)) = 0 then chk (decide (¬ x10_45 = 0)) (some (σ_43, (x6_37 / x10_45))) else chk (decide (¬ x10_45 = 0)) (some (σ_43, (x8_40 / x10_45)))))) fun j296 => (if 0 ≤ (lg_cmp x8_40 (0 : Int64)) then j296 σ_41 (1 : Int64) else j296 σ_41 (-1 : Int64)))) fun j273 => (if (2 : Int32) ≤ nI ww then chk (inb (0 : Int32) 4) (chk (inb (1 : Int32) 4) (chk (inb (2 : Int32) 4) (chk (inb (3 : Int32) 4) (j273 σ_35 ((((σ_35.2 30 (ix (0 : Int32))) - (σ_35.2 30 (ix (1 : Int32)))) - (σ_35.2 30 (ix (2 : Int32)))) + (σ_35.2 30 (ix (3 : Int32)))))))) else chk (inb (0 : Int32) 4) (chk (inb (1 : Int32) 4) (chk (inb (2 : Int32) 4) (chk (inb (3 : Int32) 4) (j273 σ_35 ((((σ_35.2 31 (ix (0 : Int32))) - (σ_35.2 31 (ix (1 : Int32)))) - (σ_35.2 31 (ix (2 : Int32)))) + (σ_35.2 31 (ix (3 : Int32))))))))))) fun j208 => (if (2 : Int32) ≤ nI ww then chk (inb (3 : Int32) 4) (chk (inb (1 : Int32) 4) (j208 σ_33 ((σ_33.2 30 (ix (3 : Int32))) - (σ_33.2 30 (ix (1 : Int32)))))) else chk (inb (3 : Int32) 4) (chk (inb (2 : Int32) 4) (j208 σ_33 ((σ_33.2 31 (ix (3 : Int32))) - (σ_33.2 31 (ix (2 : Int32)))))))))) 
  rw [c1]
  have k0 := c3 0 (by omega)
  have k1 := c3 1 (by omega)
  have k2 := c3 2 (by omega)
  have k3 := c3 3 (by omega)
  have un := unrestM (τ := τ2) (F := fun k => 100 * gA τ (nmd τ) P a b (xK lo hi k) (yK lo hi k)) (S := fun k => 100 * gB τ (nmd τ) P a b (xK lo hi k) (yK lo hi k)) c3 (fun k hk => by
    have hx : xK lo hi k < nK τ := by unfold xK; split <;> assumption
    have hy : yK lo hi k < nK τ := by unfold yK; split <;> assumption
    have q1 := gAb _ _ hx hy
    have q2 := gBb _ _ hx hy
    refine ⟨?_, ?_⟩ <;> omega)
  rw [un, cl_some]
  clear un c1 c3 b1
  have xs : xK lo hi 0 = lo ∧ xK lo hi 1 = lo ∧ xK lo hi 2 = hi ∧ xK lo hi 3 = hi ∧ yK lo hi 0 = lo ∧ yK lo hi 1 = hi ∧ yK lo hi 2 = lo ∧ yK lo hi 3 = hi := ⟨rfl, rfl, rfl, rfl, rfl, rfl, rfl, rfl⟩
  obtain ⟨X0, X1, X2, X3, Y0, Y1, Y2, Y3⟩ := xs
  rw [X0, Y0] at k0
  rw [X1, Y1] at k1
  rw [X2, Y2] at k2
  rw [X3, Y3] at k3
  have eun : allU (fun k => 100 * gA τ (nmd τ) P a b (xK lo hi k) (yK lo hi k)) (fun k => 100 * gB τ (nmd τ) P a b (xK lo hi k) (yK lo hi k)) 4 = decide (¬ rest2 (gA τ (nmd τ) P a b lo lo) (gA τ (nmd τ) P a b lo hi) (gA τ (nmd τ) P a b hi lo) (gA τ (nmd τ) P a b hi hi) (gB τ (nmd τ) P a b lo lo) (gB τ (nmd τ) P a b lo hi) (gB τ (nmd τ) P a b hi lo) (gB τ (nmd τ) P a b hi hi)) := by
    rw [Bool.eq_iff_iff, decide_eq_true_iff]
    show ((((true && (decide (100 * gA τ (nmd τ) P a b lo lo < 100 * gA τ (nmd τ) P a b hi lo) || decide (100 * gB τ (nmd τ) P a b lo lo < 100 * gB τ (nmd τ) P a b lo hi))) && (decide (100 * gA τ (nmd τ) P a b lo hi < 100 * gA τ (nmd τ) P a b hi hi) || decide (100 * gB τ (nmd τ) P a b lo hi < 100 * gB τ (nmd τ) P a b lo lo))) && (decide (100 * gA τ (nmd τ) P a b hi lo < 100 * gA τ (nmd τ) P a b lo lo) || decide (100 * gB τ (nmd τ) P a b hi lo < 100 * gB τ (nmd τ) P a b hi hi))) && (decide (100 * gA τ (nmd τ) P a b hi hi < 100 * gA τ (nmd τ) P a b lo hi) || decide (100 * gB τ (nmd τ) P a b hi hi < 100 * gB τ (nmd τ) P a b hi lo))) = true ↔ _
    simp only [Bool.and_eq_true, Bool.or_eq_true, decide_eq_true_iff, Bool.true_and]
    omega
  rw [eun]
  generalize gA τ (nmd τ) P a b lo lo = aLL at *
  generalize gA τ (nmd τ) P a b lo hi = aLH at *
  generalize gA τ (nmd τ) P a b hi lo = aHL at *
  generalize gA τ (nmd τ) P a b hi hi = aHH at *
  generalize gB τ (nmd τ) P a b lo lo = bLL at *
  generalize gB τ (nmd τ) P a b lo hi = bLH at *
  generalize gB τ (nmd τ) P a b hi lo = bHL at *
  generalize gB τ (nmd τ) P a b hi hi = bHH at *
  by_cases rs : rest2 aLL aLH aHL aHH bLL bLH bHL bHH
  · rw [if_pos rs, if_neg one0, decide_eq_false (fun z => z rs), if_pos (show b01 false = 0 from rfl)]
    exact ⟨σ2, τ2, -1, rfl, rfl, hI2 τ2 c2⟩
  · have n0 : ¬ (ptW ww aLH aHH bHL bHH = 0 ∧ whW ww aLL aLH aHL aHH bLL bLH bHL bHH = 0) := by
      unfold ptW whW
      split <;> omega
    rw [if_neg rs, if_pos rfl, shareC v1 v2 v3 v4 v5 v6 v7 v8 dA1 dA2 dA3 dA4 dB1 dB2 dB3 dB4 ew4 n0, cl_some, decide_eq_true rs, if_neg (show ¬ b01 true = 0 from one0), jp_eq]
    refine ⟨σ2, τ2, _, rfl, ?_, hI2 τ2 c2⟩
    obtain ⟨r1, r2⟩ := lots_r ew4
    have main : ∀ pt wh : Int, (-1000000000000000 ≤ pt ∧ pt ≤ 1000000000000000) → (-1000000000000000 ≤ wh ∧ wh ≤ 1000000000000000) → ¬ (pt = 0 ∧ wh = 0) → (bnd (Int64.ofInt (100 * wh)) fun (x8_40 : Int64) => cl (fX9_divisor τ2 (Int64.ofInt (100 * pt)) x8_40) fun (σ_41 : St) (t_42 : Int64) => (jp (fun (σ_43 : St)  (t_44 : Int64) => bnd (t_42 * t_44) fun (x10_45 : Int64) => chk (decide (¬ (2 : Int32) = 0)) ((if (nI ww - nI ww / (2 : Int32) * (2 : Int32)) = 0 then chk (decide (¬ x10_45 = 0)) (some (σ_43, (Int64.ofInt (100 * pt) / x10_45))) else chk (decide (¬ x10_45 = 0)) (some (σ_43, (x8_40 / x10_45)))))) fun j296 => (if 0 ≤ (lg_cmp x8_40 (0 : Int64)) then j296 σ_41 (1 : Int64) else j296 σ_41 (-1 : Int64)))) = some (τ2, shV pt wh (if ww % 2 = 0 then pt else wh)) := by
      intro pt wh bp bw nn
      have gl := gcd_le (x := 100 * pt) (y := 100 * wh) (B := 100000000000000000) (by omega) (by omega) (by omega)
      have cs : (0 ≤ lg_cmp (Int64.ofInt (100 * wh)) 0) ↔ 0 ≤ wh := by
        have := (i64_lt (x := 100 * wh) (y := 0) (by omega) (by omega)).2.2.2
        refine Iff.trans this ?_
        omega
      rw [bnd_eq, divM τ2 (by omega) (by omega), cl_some, jp_eq]
      have tail : ∀ s : Int, (s = 1 ∨ s = -1) → s = (if wh < 0 then -1 else 1) → (bnd (Int64.ofInt ((Nat.gcd (100 * wh).natAbs (100 * pt).natAbs : Nat) : Int) * Int64.ofInt s) fun (x10_45 : Int64) => chk (decide (¬ (2 : Int32) = 0)) ((if (nI ww - nI ww / (2 : Int32) * (2 : Int32)) = 0 then chk (decide (¬ x10_45 = 0)) (some (τ2, (Int64.ofInt (100 * pt) / x10_45))) else chk (decide (¬ x10_45 = 0)) (some (τ2, (Int64.ofInt (100 * wh) / x10_45)))))) = some (τ2, shV pt wh (if ww % 2 = 0 then pt else wh)) := by
        intro s hs hs2
        have hd : -3000000000000000000 ≤ ((Nat.gcd (100 * wh).natAbs (100 * pt).natAbs : Nat) : Int) * s ∧ ((Nat.gcd (100 * wh).natAbs (100 * pt).natAbs : Nat) : Int) * s ≤ 3000000000000000000 ∧ ((Nat.gcd (100 * wh).natAbs (100 * pt).natAbs : Nat) : Int) * s ≠ 0 := by
          rcases hs with w | w <;> subst w <;> omega
        have g0 : ¬ Int64.ofInt (((Nat.gcd (100 * wh).natAbs (100 * pt).natAbs : Nat) : Int) * s) = 0 := ne64i ⟨hd.1, hd.2.1⟩ hd.2.2
        rw [← Int64.ofInt_mul, bnd_eq, chk_t (by decide)]
        by_cases m0 : ww % 2 = 0
        · rw [if_pos (r2.mpr m0), if_pos m0, chk_t (decide_eq_true g0), tdiv64 (by omega) ⟨hd.1, hd.2.1⟩, hs2, shV100]
        · rw [if_neg (fun q => m0 (r2.mp q)), if_neg m0, chk_t (decide_eq_true g0), tdiv64 (by omega) ⟨hd.1, hd.2.1⟩, hs2, shV100]
      by_cases s0 : 0 ≤ wh
      · rw [if_pos (cs.mpr s0)]
        exact tail 1 (Or.inl rfl) (by rw [if_neg (by omega)])
      · rw [if_neg (fun q => s0 (cs.mp q))]
        exact tail (-1) (Or.inr rfl) (by rw [if_pos (by omega)])
    have ix0 : ix (0 : Int32) = 0 := by decide
    have ix1 : ix (1 : Int32) = 1 := by decide
    have ix2 : ix (2 : Int32) = 2 := by decide
    have ix3 : ix (3 : Int32) = 3 := by decide
    unfold ptW whW at n0 ⊢
    by_cases w2 : 2 ≤ ww
    · rw [if_pos w2, if_pos w2] at n0
      simp only [if_pos w2]
      rw [if_pos (r1.mpr w2), chk_t (by decide), chk_t (by decide), ix3, ix1, k3.1, k1.1, ← Int64.ofInt_sub, bnd_eq, jp_eq, if_pos (r1.mpr w2), chk_t (by decide), chk_t (by decide), chk_t (by decide), chk_t (by decide), ix0, ix2, k0.1, k2.1, ← Int64.ofInt_sub, ← Int64.ofInt_sub, ← Int64.ofInt_add]
      have em := main (aHH - aLH) (aLL - aLH - aHL + aHH) (by omega) (by omega) n0
      rw [show 100 * (aHH - aLH) = 100 * aHH - 100 * aLH by omega, show 100 * (aLL - aLH - aHL + aHH) = 100 * aLL - 100 * aLH - 100 * aHL + 100 * aHH by omega] at em
      exact em
    · rw [if_neg w2, if_neg w2] at n0
      simp only [if_neg w2]
      rw [if_neg (fun q => w2 (r1.mp q)), chk_t (by decide), chk_t (by decide), ix3, ix2, k3.2, k2.2, ← Int64.ofInt_sub, bnd_eq, jp_eq, if_neg (fun q => w2 (r1.mp q)), chk_t (by decide), chk_t (by decide), chk_t (by decide), chk_t (by decide), ix0, ix1, k0.2, k1.2, ← Int64.ofInt_sub, ← Int64.ofInt_sub, ← Int64.ofInt_add]
      have em := main (bHH - bHL) (bLL - bLH - bHL + bHH) (by omega) (by omega) n0
      rw [show 100 * (bHH - bHL) = 100 * bHH - 100 * bHL by omega, show 100 * (bLL - bLH - bHL + bHH) = 100 * bLL - 100 * bLH - 100 * bHL + 100 * bHH by omega] at em
      exact em
