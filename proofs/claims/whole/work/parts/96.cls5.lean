/-! fills, weigh -/
theorem fill45 (σ : St) : ∃ σ', fJ7_fill_53178_i45 σ 0 = some (σ', ()) ∧ frm (mk 45 45) noL σ σ' ∧ ∀ i : Nat, i < 32 → σ'.1 45 i = 0 := by
  unfold fJ7_fill_53178_i45
  rw [bnd_eq, bnd_eq]
  obtain ⟨σ1, hp1, e1⟩ := loopG (S := St) (fun n x m => fJ7_fill_53178_i45_L5 0 32 (fun (σ_5 : St) (_ : Int32) => some (σ_5, ())) n x (nI m)) 32 (fun m x => frm (mk 45 45) noL σ x ∧ ∀ i : Nat, i < m → x.1 45 i = 0) (fun x => some (x, ())) (fun n x hp => by
      show fJ7_fill_53178_i45_L5 _ _ _ (n + 1) x _ = _
      rw [fJ7_fill_53178_i45_L5, if_pos (by decide)]) (fun n m x hm hp => by
      show ∃ x', _ ∧ fJ7_fill_53178_i45_L5 _ _ _ (n + 1) x _ = _
      rw [fJ7_fill_53178_i45_L5, if_neg (by rw [le_i, nI_toInt (by omega), show (32 : Int32).toInt = 32 by decide]; omega), chk_t (inb_nI (by omega) (by decide)), ix_nI (m := m) (by omega)]
      refine ⟨sI x 45 m 0, ⟨frm_trans hp.1 (frm_sI _ _ rfl), fun i hi => ?_⟩, ?_⟩
      · rw [sI_at]
        by_cases e : i = m
        · rw [if_pos e]
        · rw [if_neg e]; exact hp.2 i (by omega)
      · rw [nI_succ]; all_goals rfl) FU 0 σ (by omega) (by have : FU = 100000 := rfl; omega) ⟨frm_refl _ _ _, fun i hi => absurd hi (by omega)⟩
  exact ⟨σ1, e1, hp1.1, hp1.2⟩
theorem fill46 (σ : St) : ∃ σ', fJ7_fill_53178_i46 σ 0 = some (σ', ()) ∧ frm (mk 46 46) noL σ σ' ∧ ∀ i : Nat, i < 4 → σ'.1 46 i = 0 := by
  unfold fJ7_fill_53178_i46
  rw [bnd_eq, bnd_eq]
  obtain ⟨σ1, hp1, e1⟩ := loopG (S := St) (fun n x m => fJ7_fill_53178_i46_L5 0 4 (fun (σ_5 : St) (_ : Int32) => some (σ_5, ())) n x (nI m)) 4 (fun m x => frm (mk 46 46) noL σ x ∧ ∀ i : Nat, i < m → x.1 46 i = 0) (fun x => some (x, ())) (fun n x hp => by
      show fJ7_fill_53178_i46_L5 _ _ _ (n + 1) x _ = _
      rw [fJ7_fill_53178_i46_L5, if_pos (by decide)]) (fun n m x hm hp => by
      show ∃ x', _ ∧ fJ7_fill_53178_i46_L5 _ _ _ (n + 1) x _ = _
      rw [fJ7_fill_53178_i46_L5, if_neg (by rw [le_i, nI_toInt (by omega), show (4 : Int32).toInt = 4 by decide]; omega), chk_t (inb_nI (by omega) (by decide)), ix_nI (m := m) (by omega)]
      refine ⟨sI x 46 m 0, ⟨frm_trans hp.1 (frm_sI _ _ rfl), fun i hi => ?_⟩, ?_⟩
      · rw [sI_at]
        by_cases e : i = m
        · rw [if_pos e]
        · rw [if_neg e]; exact hp.2 i (by omega)
      · rw [nI_succ]; all_goals rfl) FU 0 σ (by omega) (by have : FU = 100000 := rfl; omega) ⟨frm_refl _ _ _, fun i hi => absurd hi (by omega)⟩
  exact ⟨σ1, e1, hp1.1, hp1.2⟩
theorem fill49 (σ : St) : ∃ σ', fJ7_fill_53178_i49 σ 0 = some (σ', ()) ∧ frm (mk 49 49) noL σ σ' ∧ ∀ i : Nat, i < 8 → σ'.1 49 i = 0 := by
  unfold fJ7_fill_53178_i49
  rw [bnd_eq, bnd_eq]
  obtain ⟨σ1, hp1, e1⟩ := loopG (S := St) (fun n x m => fJ7_fill_53178_i49_L5 0 8 (fun (σ_5 : St) (_ : Int32) => some (σ_5, ())) n x (nI m)) 8 (fun m x => frm (mk 49 49) noL σ x ∧ ∀ i : Nat, i < m → x.1 49 i = 0) (fun x => some (x, ())) (fun n x hp => by
      show fJ7_fill_53178_i49_L5 _ _ _ (n + 1) x _ = _
      rw [fJ7_fill_53178_i49_L5, if_pos (by decide)]) (fun n m x hm hp => by
      show ∃ x', _ ∧ fJ7_fill_53178_i49_L5 _ _ _ (n + 1) x _ = _
      rw [fJ7_fill_53178_i49_L5, if_neg (by rw [le_i, nI_toInt (by omega), show (8 : Int32).toInt = 8 by decide]; omega), chk_t (inb_nI (by omega) (by decide)), ix_nI (m := m) (by omega)]
      refine ⟨sI x 49 m 0, ⟨frm_trans hp.1 (frm_sI _ _ rfl), fun i hi => ?_⟩, ?_⟩
      · rw [sI_at]
        by_cases e : i = m
        · rw [if_pos e]
        · rw [if_neg e]; exact hp.2 i (by omega)
      · rw [nI_succ]; all_goals rfl) FU 0 σ (by omega) (by have : FU = 100000 := rfl; omega) ⟨frm_refl _ _ _, fun i hi => absurd hi (by omega)⟩
  exact ⟨σ1, e1, hp1.1, hp1.2⟩
theorem fill50 (σ : St) : ∃ σ', fJ7_fill_53178_i50 σ 0 = some (σ', ()) ∧ frm (mk 50 50) noL σ σ' ∧ ∀ i : Nat, i < 8 → σ'.1 50 i = 0 := by
  unfold fJ7_fill_53178_i50
  rw [bnd_eq, bnd_eq]
  obtain ⟨σ1, hp1, e1⟩ := loopG (S := St) (fun n x m => fJ7_fill_53178_i50_L5 0 8 (fun (σ_5 : St) (_ : Int32) => some (σ_5, ())) n x (nI m)) 8 (fun m x => frm (mk 50 50) noL σ x ∧ ∀ i : Nat, i < m → x.1 50 i = 0) (fun x => some (x, ())) (fun n x hp => by
      show fJ7_fill_53178_i50_L5 _ _ _ (n + 1) x _ = _
      rw [fJ7_fill_53178_i50_L5, if_pos (by decide)]) (fun n m x hm hp => by
      show ∃ x', _ ∧ fJ7_fill_53178_i50_L5 _ _ _ (n + 1) x _ = _
      rw [fJ7_fill_53178_i50_L5, if_neg (by rw [le_i, nI_toInt (by omega), show (8 : Int32).toInt = 8 by decide]; omega), chk_t (inb_nI (by omega) (by decide)), ix_nI (m := m) (by omega)]
      refine ⟨sI x 50 m 0, ⟨frm_trans hp.1 (frm_sI _ _ rfl), fun i hi => ?_⟩, ?_⟩
      · rw [sI_at]
        by_cases e : i = m
        · rw [if_pos e]
        · rw [if_neg e]; exact hp.2 i (by omega)
      · rw [nI_succ]; all_goals rfl) FU 0 σ (by omega) (by have : FU = 100000 := rfl; omega) ⟨frm_refl _ _ _, fun i hi => absurd hi (by omega)⟩
  exact ⟨σ1, e1, hp1.1, hp1.2⟩
theorem fill51 (σ : St) : ∃ σ', fJ7_fill_d0a16_i51 σ 0 = some (σ', ()) ∧ frm noL (mk 51 51) σ σ' ∧ ∀ i : Nat, i < 8 → σ'.2 51 i = 0 := by
  unfold fJ7_fill_d0a16_i51
  rw [bnd_eq, bnd_eq]
  obtain ⟨σ1, hp1, e1⟩ := loopG (S := St) (fun n x m => fJ7_fill_d0a16_i51_L6 0 8 (fun (σ_5 : St) (_ : Int32) => some (σ_5, ())) n x (nI m)) 8 (fun m x => frm noL (mk 51 51) σ x ∧ ∀ i : Nat, i < m → x.2 51 i = 0) (fun x => some (x, ())) (fun n x hp => by
      show fJ7_fill_d0a16_i51_L6 _ _ _ (n + 1) x _ = _
      rw [fJ7_fill_d0a16_i51_L6, if_pos (by decide)]) (fun n m x hm hp => by
      show ∃ x', _ ∧ fJ7_fill_d0a16_i51_L6 _ _ _ (n + 1) x _ = _
      rw [fJ7_fill_d0a16_i51_L6, if_neg (by rw [le_i, nI_toInt (by omega), show (8 : Int32).toInt = 8 by decide]; omega), chk_t (inb_nI (by omega) (by decide)), ix_nI (m := m) (by omega)]
      refine ⟨sL x 51 m 0, ⟨frm_trans hp.1 (frm_sL _ _ rfl), fun i hi => ?_⟩, ?_⟩
      · rw [sL_at]
        by_cases e : i = m
        · rw [if_pos e]
        · rw [if_neg e]; exact hp.2 i (by omega)
      · rw [nI_succ]; all_goals rfl) FU 0 σ (by omega) (by have : FU = 100000 := rfl; omega) ⟨frm_refl _ _ _, fun i hi => absurd hi (by omega)⟩
  exact ⟨σ1, e1, hp1.1, hp1.2⟩
theorem fill52 (σ : St) : ∃ σ', fJ7_fill_d0a16_i52 σ 0 = some (σ', ()) ∧ frm noL (mk 52 52) σ σ' ∧ ∀ i : Nat, i < 8 → σ'.2 52 i = 0 := by
  unfold fJ7_fill_d0a16_i52
  rw [bnd_eq, bnd_eq]
  obtain ⟨σ1, hp1, e1⟩ := loopG (S := St) (fun n x m => fJ7_fill_d0a16_i52_L6 0 8 (fun (σ_5 : St) (_ : Int32) => some (σ_5, ())) n x (nI m)) 8 (fun m x => frm noL (mk 52 52) σ x ∧ ∀ i : Nat, i < m → x.2 52 i = 0) (fun x => some (x, ())) (fun n x hp => by
      show fJ7_fill_d0a16_i52_L6 _ _ _ (n + 1) x _ = _
      rw [fJ7_fill_d0a16_i52_L6, if_pos (by decide)]) (fun n m x hm hp => by
      show ∃ x', _ ∧ fJ7_fill_d0a16_i52_L6 _ _ _ (n + 1) x _ = _
      rw [fJ7_fill_d0a16_i52_L6, if_neg (by rw [le_i, nI_toInt (by omega), show (8 : Int32).toInt = 8 by decide]; omega), chk_t (inb_nI (by omega) (by decide)), ix_nI (m := m) (by omega)]
      refine ⟨sL x 52 m 0, ⟨frm_trans hp.1 (frm_sL _ _ rfl), fun i hi => ?_⟩, ?_⟩
      · rw [sL_at]
        by_cases e : i = m
        · rw [if_pos e]
        · rw [if_neg e]; exact hp.2 i (by omega)
      · rw [nI_succ]; all_goals rfl) FU 0 σ (by omega) (by have : FU = 100000 := rfl; omega) ⟨frm_refl _ _ _, fun i hi => absurd hi (by omega)⟩
  exact ⟨σ1, e1, hp1.1, hp1.2⟩
theorem nI_ofI {q : Nat} (h : q < 2147483648) : nI q = Int32.ofInt (q : Int) := by
  apply Int32.toInt_inj.mp
  rw [nI_toInt (by omega), i32o (by omega) (by omega)]
theorem bit0 : ∀ s : Nat, s < 16 → ∀ b : Nat, b < 4 → (((nI s >>> (nI b &&& 31)) &&& (1 : Int32)) = 0 ↔ ¬ s.testBit b = true) := by decide +kernel
theorem x8 : ∀ s : Nat, s < 16 → nI s * 8 = nI (8 * s) := by decide +kernel
theorem less_b : ∀ b : Nat, b < 4 → ∀ s : Nat, s < 16 → s.testBit b = true → nI s &&& (((1 : Int32) <<< (nI b &&& 31)) ^^^ (-1 : Int32)) = nI (s - 2 ^ b) ∧ (s - 2 ^ b).testBit b = false := by decide +kernel
theorem less_j : ∀ b : Nat, b < 4 → ∀ s : Nat, s < 16 → ∀ j : Nat, j < 4 → (s.testBit b = false ∨ (s.testBit j = true ↔ j = b ∨ (s - 2 ^ b).testBit j = true)) := by decide +kernel
theorem div12p : ∀ p : Nat, p < 5 → (12 : Int32) / ((1 : Int32) + nI p) = nI (12 / (p + 1)) ∧ decide (¬ ((1 : Int32) + nI p) = 0) = true := by decide +kernel
theorem popN_hi {M n : Nat} : ∀ m : Nat, n ≤ m → (∀ j : Nat, n ≤ j → j < m → M.testBit j = false) → popN m M = popN n M := by
  intro m
  induction m with
  | zero => intro h _; have : n = 0 := by omega
            rw [this]
  | succ m ih =>
    intro h hb
    by_cases e : n = m + 1
    · rw [e]
    · rw [popN, ih (by omega) (fun j h1 h2 => hb j h1 (by omega)), if_neg (by rw [hb m (by omega) (by omega)]; decide), Nat.add_zero]
theorem prm_c {σ τ : St} {dr : Nat → Nat} (h : okM τ) (c : clsR σ τ dr) : σ.1 22 3 = nI (prm τ) ∧ prm τ < 16 := by
  have hp := h.prm16
  refine ⟨c.st.1.trans (nI_mk hp.1), ?_⟩
  unfold prm
  omega
theorem promisesC {σ τ : St} {dr : Nat → Nat} (h : okM τ) (c : clsR σ τ dr) {b : Nat} (hb : b < 4) : fX5_promises σ (nI b) = some (σ, if (prm τ).testBit b = true then 1 else 0) := by
  unfold fX5_promises
  have hp := prm_c h c
  rw [hp.1]
  by_cases e : (prm τ).testBit b = true
  · rw [if_neg (fun w => (bit0 _ hp.2 b hb).mp w e), if_pos e]
  · rw [if_pos ((bit0 _ hp.2 b hb).mpr e), if_neg e]
theorem crF_b {τ : St} (h : okM τ) (sh : Prop) [Decidable sh] (dr : Nat → Nat) (m set k : Nat) (hm : m ≤ nS τ) : 0 ≤ crF τ sh dr m set k ∧ crF τ sh dr m set k ≤ crF τ sh dr m set 0 := by
  have h8 := h.k8
  unfold crF
  by_cases a : 1 ≤ set ∧ set < 2 ^ nB τ ∧ k < nK τ
  · rw [if_pos a, if_pos ⟨a.1, a.2.1, by omega⟩]
    have nn : ∀ s : Nat, s < m → 0 ≤ cntS τ sh dr s set * mny τ s := fun s hs => Int.mul_nonneg (cntS_b h sh dr s set).1 (mny_b h (by omega)).1
    refine ⟨sumN_nn _ (fun s hs => ?_), sumN_le _ (fun s hs => ?_)⟩
    · split
      · exact nn s hs
      · decide
    · have hp : prc τ 0 ≤ prc τ k := by
        unfold prc
        have := h.hY.1
        have := Int.mul_nonneg (Int.natCast_nonneg k) (show 0 ≤ (τ.1 0 4).toInt by omega)
        simp only [Int.natCast_zero, Int.zero_mul]
        omega
      have := nn s hs
      by_cases w : prc τ k ≤ wth τ s
      · rw [if_pos w, if_pos (by omega)]; omega
      · rw [if_neg w]
        split
        · exact this
        · decide
  · rw [if_neg a]
    by_cases a2 : 1 ≤ set ∧ set < 2 ^ nB τ ∧ 0 < nK τ
    · rw [if_pos a2]
      refine ⟨by omega, sumN_nn _ (fun s hs => ?_)⟩
      split
      · exact Int.mul_nonneg (cntS_b h sh dr s set).1 (mny_b h (by omega)).1
      · decide
    · rw [if_neg a2]; omega
/-- what the class adds to a step for a set -/
def ctr (τ : St) (sh : Prop) [Decidable sh] (dr : Nat → Nat) (set cheap al shd : Nat) (mt : Prop) [Decidable mt] (k : Nat) : Int := if k ≤ cheap ∨ mt then crF τ sh dr (nS τ) set (min k cheap) * (if k < cheap then (al : Int) else (shd : Int)) else 0
def acc (σ : St) (F G : Nat → Int) : Prop := ∀ k : Nat, k < 8 → σ.1 49 k = Int32.ofInt (F k) ∧ σ.1 50 k = Int32.ofInt (G k)
def upTo (m : Nat) (F H : Nat → Int) (k : Nat) : Int := if k < m then F k + H k else F k
theorem weighI {σ τ : St} {dr : Nat → Nat} (h : okM τ) (c : clsR σ τ dr) (sh : Prop) [Decidable sh] (hcr : crd σ (crF τ sh dr (nS τ))) {set cheap al shd : Nat} (hset : set < 16) (hch : cheap ≤ 8) (hal : al < 13) (hshd : shd < 13) (mt : Prop) [Decidable mt] (q1 : Int32) (kont : St → Option (St × Unit)) {F G : Nat → Int} (ha : acc σ F G) : ∃ σ', fX7_weigh_L125 q1 (if mt then 1 else 0) (nI set) (nI cheap) (nI al) (nI shd) (fun (σ_34 : St) (_ : Int32) => kont σ_34) FU σ 0 = kont σ' ∧ frm (mk 49 50) noL σ σ' ∧ acc σ' (upTo (nK τ) F (ctr τ sh dr set cheap al shd mt)) (upTo (nK τ) G (fun k => ctr τ sh dr set cheap al shd mt k * prc τ (min k cheap))) := by
  have h8 := h.k8
  have key := loopX (S := St) (fun n x m => fX7_weigh_L125 q1 (if mt then 1 else 0) (nI set) (nI cheap) (nI al) (nI shd) (fun (σ_34 : St) (_ : Int32) => kont σ_34) n x (nI m)) (nK τ) (fun m x => frm (mk 49 50) noL σ x ∧ acc x (upTo m F (ctr τ sh dr set cheap al shd mt)) (upTo m G (fun k => ctr τ sh dr set cheap al shd mt k * prc τ (min k cheap)))) (fun x => kont x) (fun res => ∃ x : St, res = kont x ∧ frm (mk 49 50) noL σ x ∧ acc x (upTo (nK τ) F (ctr τ sh dr set cheap al shd mt)) (upTo (nK τ) G (fun k => ctr τ sh dr set cheap al shd mt k * prc τ (min k cheap)))) (fun n x hp => by
      have c1 := clsR_fr (coreC_frm hp.1 (mk43 (by omega))) c
      show fX7_weigh_L125 _ _ _ _ _ _ _ (n + 1) x _ = _
      rw [fX7_weigh_L125, c1.nk h, if_pos (by rw [le_i]; omega)]) (fun n m x hm hp => by
      have c1 := clsR_fr (coreC_frm hp.1 (mk43 (by omega))) c
      show (∃ x', _ ∧ fX7_weigh_L125 _ _ _ _ _ _ _ (n + 1) x _ = _) ∨ (∃ x' : St, fX7_weigh_L125 _ _ _ _ _ _ _ (n + 1) x _ = _ ∧ _)
      rw [fX7_weigh_L125, c1.nk h, if_neg (by rw [le_i, nI_toInt (by omega), nI_toInt (by omega)]; omega), jp_eq]
      have le1 : (nI m ≤ nI cheap) ↔ m ≤ cheap := by rw [le_i, nI_toInt (by omega), nI_toInt (by omega)]; omega
      have lt1 : (nI cheap < nI m) ↔ cheap < m := by rw [lt_i, nI_toInt (by omega), nI_toInt (by omega)]; omega
      have le2 : (nI cheap ≤ nI m) ↔ cheap ≤ m := by rw [le_i, nI_toInt (by omega), nI_toInt (by omega)]; omega
      by_cases go : m ≤ cheap ∨ mt
      · have emin : (if nI cheap < nI m then nI cheap else nI m) = nI (min m cheap) := by
          by_cases w : cheap < m
          · rw [if_pos (lt1.mpr w), Nat.min_eq_right (by omega)]
          · rw [if_neg (fun q => w (lt1.mp q)), Nat.min_eq_left (by omega)]
        have hmin : min m cheap ≤ m := Nat.min_le_left _ _
        have hin : inb (nI (8 * set + min m cheap)) 128 = true := inb_nI (by omega) (by decide)
        have hinm : inb (nI m) 8 = true := inb_nI (by omega) (by decide)
        have ecr : x.1 44 (8 * set + min m cheap) = Int32.ofInt (crF τ sh dr (nS τ) set (min m cheap)) := by rw [hp.1.1 44 _ rfl]; exact hcr set hset _ (by omega)
        have ectr : ctr τ sh dr set cheap al shd mt m = crF τ sh dr (nS τ) set (min m cheap) * (if m < cheap then (al : Int) else (shd : Int)) := by unfold ctr; rw [if_pos go]
        -- behind the choice of the share
        have fin : ∀ t : Int32, t = Int32.ofInt (if m < cheap then (al : Int) else (shd : Int)) → ∃ x' : St, (frm (mk 49 50) noL σ x' ∧ acc x' (upTo (m + 1) F (ctr τ sh dr set cheap al shd mt)) (upTo (m + 1) G (fun k => ctr τ sh dr set cheap al shd mt k * prc τ (min k cheap)))) ∧ (bnd ((x.1 44 (ix ((nI set * (8 : Int32)) + nI (min m cheap)))) * t) fun (x11_28 : Int32) => chk (inb (nI m) 8) (chk (inb (nI m) 8) (bnd (sI x 49 (ix (nI m)) ((x.1 49 (ix (nI m))) + x11_28)) fun (σ_29 : St) => chk (inb (nI m) 8) (cl (fX6_price σ_29 (nI (min m cheap))) fun (σ_30 : St) (t_31 : Int32) => chk (inb (nI m) 8) (bnd (sI σ_30 50 (ix (nI m)) ((σ_29.1 50 (ix (nI m))) + (x11_28 * t_31))) fun (σ_32 : St) => bnd (nI m + (1 : Int32)) fun (x9_33 : Int32) => fX7_weigh_L125 q1 (if mt then 1 else 0) (nI set) (nI cheap) (nI al) (nI shd) (fun (σ_34 : St) (_ : Int32) => kont σ_34) n σ_32 x9_33))))) = fX7_weigh_L125 q1 (if mt then 1 else 0) (nI set) (nI cheap) (nI al) (nI shd) (fun (σ_34 : St) (_ : Int32) => kont σ_34) n x' (nI (m + 1)) := by
          intro t ht
          have e49 := (hp.2 m (by omega)).1
          have e50 := (hp.2 m (by omega)).2
          have v : Int32.ofInt (crF τ sh dr (nS τ) set (min m cheap)) * t = Int32.ofInt (ctr τ sh dr set cheap al shd mt m) := by rw [ectr, ht, ← Int32.ofInt_mul]
          rw [ix16 set hset _ (by omega), ix_nI (m := 8 * set + min m cheap) (by omega), ecr, v, bnd_eq, chk_t hinm, chk_t hinm, ix_nI (m := m) (by omega), bnd_eq, chk_t hinm]
          have f1 : frm (mk 49 50) noL σ (sI x 49 m (x.1 49 m + Int32.ofInt (ctr τ sh dr set cheap al shd mt m))) := frm_trans hp.1 (frm_sI _ _ rfl)
          have c2 := clsR_fr (coreC_frm f1 (mk43 (by omega))) c
          rw [priceC h c2 (by omega), cl_some, chk_t hinm]
          refine ⟨sI (sI x 49 m (x.1 49 m + Int32.ofInt (ctr τ sh dr set cheap al shd mt m))) 50 m ((sI x 49 m (x.1 49 m + Int32.ofInt (ctr τ sh dr set cheap al shd mt m))).1 50 m + Int32.ofInt (ctr τ sh dr set cheap al shd mt m) * Int32.ofInt (prc τ (min m cheap))), ⟨frm_trans f1 (frm_sI _ _ rfl), fun k hk => ⟨?_, ?_⟩⟩, ?_⟩
          · rw [sI_ne (by decide), sI_at, (hp.2 k hk).1, e49]
            unfold upTo
            by_cases e : k = m
            · subst e
              rw [if_pos rfl, if_neg (by omega), if_pos (by omega), Int32.ofInt_add]
            · rw [if_neg e]
              by_cases e2 : k < m
              · rw [if_pos e2, if_pos (by omega)]
              · rw [if_neg e2, if_neg (by omega)]
          · rw [sI_at, sI_ne (by decide), (hp.2 k hk).2, e50]
            unfold upTo
            by_cases e : k = m
            · subst e
              rw [if_pos rfl, if_neg (by omega), if_pos (by omega), Int32.ofInt_add, Int32.ofInt_mul]
            · rw [if_neg e]
              by_cases e2 : k < m
              · rw [if_pos e2, if_pos (by omega)]
              · rw [if_neg e2, if_neg (by omega)]
          · rw [nI_succ (n := m)]
            rfl
        refine Or.inl ?_
        have tail : ∃ x' : St, (frm (mk 49 50) noL σ x' ∧ acc x' (upTo (m + 1) F (ctr τ sh dr set cheap al shd mt)) (upTo (m + 1) G (fun k => ctr τ sh dr set cheap al shd mt k * prc τ (min k cheap)))) ∧ (bnd (if nI cheap < nI m then nI cheap else nI m) fun (t_24 : Int32) => bnd t_24 fun (x10_25 : Int32) => chk (inb ((nI set * (8 : Int32)) + x10_25) 128) ((jp (fun (σ_26 : St)  (t_27 : Int32) => bnd ((x.1 44 (ix ((nI set * (8 : Int32)) + x10_25))) * t_27) fun (x11_28 : Int32) => chk (inb (nI m) 8) (chk (inb (nI m) 8) (bnd (sI σ_26 49 (ix (nI m)) ((σ_26.1 49 (ix (nI m))) + x11_28)) fun (σ_29 : St) => chk (inb (nI m) 8) (cl (fX6_price σ_29 x10_25) fun (σ_30 : St) (t_31 : Int32) => chk (inb (nI m) 8) (bnd (sI σ_30 50 (ix (nI m)) ((σ_29.1 50 (ix (nI m))) + (x11_28 * t_31))) fun (σ_32 : St) => bnd (nI m + (1 : Int32)) fun (x9_33 : Int32) => fX7_weigh_L125 q1 (if mt then 1 else 0) (nI set) (nI cheap) (nI al) (nI shd) (fun (σ_34 : St) (_ : Int32) => kont σ_34) n σ_32 x9_33))))) fun j183 => (if nI cheap ≤ nI m then j183 x (nI shd) else j183 x (nI al))))) = fX7_weigh_L125 q1 (if mt then 1 else 0) (nI set) (nI cheap) (nI al) (nI shd) (fun (σ_34 : St) (_ : Int32) => kont σ_34) n x' (nI (m + 1)) := by
          rw [emin, bnd_eq, bnd_eq, ix16 set hset _ (by omega), chk_t hin, ← ix16 set hset _ (by omega), jp_eq]
          by_cases w : cheap ≤ m
          · rw [if_pos (le2.mpr w)]
            refine fin (nI shd) ?_
            rw [if_neg (by omega), nI_ofI (by omega)]
          · rw [if_neg (fun q => w (le2.mp q))]
            refine fin (nI al) ?_
            rw [if_pos (by omega), nI_ofI (by omega)]
        by_cases w : m ≤ cheap
        · rw [if_pos (le1.mpr w)]; exact tail
        · have hmt : mt := by rcases go with q | q
                              · exact absurd q w
                              · exact q
          rw [if_neg (fun q => w (le1.mp q)), if_neg (by rw [if_pos hmt]; exact one0)]; exact tail
      · have g1 : ¬ m ≤ cheap := fun q => go (Or.inl q)
        have g2 : ¬ mt := fun q => go (Or.inr q)
        rw [if_neg (fun q => g1 (le1.mp q)), if_pos (show (if mt then (1 : Int32) else 0) = 0 by rw [if_neg g2])]
        refine Or.inr ⟨x, rfl, hp.1, fun k hk => ?_⟩
        have z : ∀ k : Nat, m ≤ k → ctr τ sh dr set cheap al shd mt k = 0 := fun k hk => by unfold ctr; rw [if_neg (by intro q; rcases q with q | q; omega; exact g2 q)]
        rw [(hp.2 k hk).1, (hp.2 k hk).2]
        unfold upTo
        by_cases e : k < m
        · rw [if_pos e, if_pos e, if_pos (by omega), if_pos (by omega)]; exact ⟨rfl, rfl⟩
        · have zk := z k (by omega)
          rw [if_neg e, if_neg e]
          simp only [zk, Int.zero_mul, Int.add_zero]
          by_cases e2 : k < nK τ
          · exact ⟨by rw [if_pos e2], by rw [if_pos e2]⟩
          · exact ⟨by rw [if_neg e2], by rw [if_neg e2]⟩) FU 0 σ (by omega) (by have : FU = 100000 := rfl; omega) ⟨frm_refl _ _ _, fun k hk => by
        unfold upTo
        rw [if_neg (by omega), if_neg (by omega)]
        exact ha k hk⟩
  rcases key with ⟨x, hx, e⟩ | ⟨x, e, hx⟩
  · exact ⟨x, e, hx.1, hx.2⟩
  · exact ⟨x, e, hx.1, hx.2⟩
