/-! the class: laws, crowd, open -/
def lwOK (τ : St) (f : Int) : Prop := -1 ≤ f ∧ f < (τ.1 0 38).toInt
theorem hasLC {σ τ : St} {dr : Nat → Nat} (c : clsR σ τ dr) {p : Int32} (hf : lwOK τ p.toInt) : fX2_has σ p = some (σ, if 0 ≤ p.toInt then 1 else 0) := by
  unfold fX2_has
  have h2 := hf.2
  rw [c.st.2.2]
  by_cases e : 0 ≤ p.toInt
  · rw [if_neg (by rw [lt_i, z_0]; omega), if_neg (by rw [le_i]; omega), if_pos e]
  · rw [if_pos (by rw [lt_i, z_0]; omega), if_neg e]
theorem lw_in {τ : St} (h : okM τ) {p : Int32} (hf : lwOK τ p.toInt) (e : 0 ≤ p.toInt) : inb p 6 = true ∧ ix p = p.toInt.toNat ∧ (p.toInt.toNat : Int) < (τ.1 0 38).toInt := by
  have h2 := hf.2
  have h3 := h.hl.2
  refine ⟨inb_iff.mpr ⟨e, by omega⟩, ?_, by omega⟩
  have := ix_toInt e
  omega
theorem shoutsC {σ τ : St} {dr : Nat → Nat} (h : okM τ) (c : clsR σ τ dr) {p : Int32} (hf : lwOK τ p.toInt) : fX2_shouts σ p = some (σ, if shtF τ p.toInt then 1 else 0) := by
  unfold fX2_shouts
  rw [hasLC c hf, cl_some]
  by_cases e : 0 ≤ p.toInt
  · obtain ⟨a1, a2, a3⟩ := lw_in h hf e
    rw [if_pos e, if_neg one0, chk_t a1, a2, (c.law a3).1]
    by_cases q : τ.1 19 p.toInt.toNat = 2
    · rw [if_pos q, if_pos (show shtF τ p.toInt from ⟨e, eq2.mp q⟩)]
    · rw [if_neg q, if_neg (show ¬ shtF τ p.toInt from fun w => q (eq2.mpr w.2))]
  · rw [if_neg e, if_pos rfl, if_neg (show ¬ shtF τ p.toInt from fun w => e w.1)]
/-- bit k of a mask of steps -/
abbrev frB (x : Int32) (k : Nat) : Prop := ¬ ((x >>> (nI k &&& 31)) &&& (1 : Int32)) = 0
theorem fr_all : ∀ K : Nat, K < 9 → ∀ k : Nat, k < 8 → (frB (((1 : Int32) <<< (nI K &&& 31)) - 1) k ↔ k < K) := by decide +kernel
theorem fr_bel : ∀ K : Nat, K < 9 → ∀ t : Nat, t < 8 → ∀ k : Nat, k < 8 → (frB ((((1 : Int32) <<< (nI K &&& 31)) - 1) &&& ((((1 : Int32) <<< (nI t &&& 31)) - 1) ^^^ (-1 : Int32))) k ↔ k < K ∧ t ≤ k) := by decide +kernel
theorem fr_abv : ∀ K : Nat, K < 9 → ∀ t : Nat, t < 8 → ∀ k : Nat, k < 8 → (frB ((((1 : Int32) <<< (nI K &&& 31)) - 1) &&& ((((1 : Int32) <<< (nI t &&& 31)) - 1) * 2 + 1)) k ↔ k < K ∧ k ≤ t) := by decide +kernel
theorem freeC {σ τ : St} {dr : Nat → Nat} (h : okM τ) (c : clsR σ τ dr) {p : Int32} (hf : lwOK τ p.toInt) : ∃ x : Int32, fX2_free σ p (nI (nK τ)) = some (σ, x) ∧ ∀ k : Nat, k < 8 → (frB x k ↔ k < nK τ ∧ ¬ barF τ p.toInt k) := by
  have h8 := h.k8
  unfold fX2_free
  rw [bnd_eq, hasLC c hf, cl_some]
  by_cases e : 0 ≤ p.toInt
  · obtain ⟨a1, a2, a3⟩ := lw_in h hf e
    obtain ⟨l1, l2⟩ := h.hlaw _ a3
    obtain ⟨m1, m2⟩ := c.law a3
    have t1 := (rgn l2 (by decide)).1
    have t2 := (rgn l2 (by decide)).2
    have t3 := l2.2
    rw [if_pos e, if_neg one0, chk_t a1, a2, m1, m2, chk_t a1, bnd_eq, chk_t a1]
    by_cases q2 : τ.1 19 p.toInt.toNat = 2
    · have q := eq2.mp q2
      refine ⟨((1 : Int32) <<< (nI (nK τ) &&& 31)) - 1, by rw [if_pos q2], fun k hk => ?_⟩
      rw [fr_all _ (by omega) k hk]
      refine ⟨fun w => ⟨w, fun w2 => ?_⟩, fun w => w.1⟩
      rcases w2.2 with w3 | w3 <;> omega
    · have q : ¬ (τ.1 19 p.toInt.toNat).toInt = 2 := fun w => q2 (eq2.mpr w)
      rw [if_neg q2]
      by_cases q3 : τ.1 19 p.toInt.toNat = 1
      · have q1 : (τ.1 19 p.toInt.toNat).toInt = 1 := by rw [q3]; rfl
        refine ⟨_, by rw [if_pos q3], fun k hk => ?_⟩
        rw [t1, fr_bel _ (by omega) _ (by omega) k hk]
        refine ⟨fun w => ⟨w.1, fun w2 => ?_⟩, fun w => ⟨w.1, ?_⟩⟩
        · rcases w2.2 with w3 | w3 <;> omega
        · rcases Nat.lt_or_ge k (τ.1 20 p.toInt.toNat).toInt.toNat with w3 | w3
          · exact absurd ⟨e, Or.inr ⟨q1, by omega⟩⟩ w.2
          · exact w3
      · have q1 : ¬ (τ.1 19 p.toInt.toNat).toInt = 1 := fun w => q3 (Int32.toInt_inj.mp (w.trans z_1.symm))
        have q0 : (τ.1 19 p.toInt.toNat).toInt = 0 := by have := l1.1; have := l1.2; omega
        refine ⟨_, by rw [if_neg q3], fun k hk => ?_⟩
        rw [t1, fr_abv _ (by omega) _ (by omega) k hk]
        refine ⟨fun w => ⟨w.1, fun w2 => ?_⟩, fun w => ⟨w.1, ?_⟩⟩
        · rcases w2.2 with w3 | w3 <;> omega
        · rcases Nat.lt_or_ge (τ.1 20 p.toInt.toNat).toInt.toNat k with w3 | w3
          · exact absurd ⟨e, Or.inl ⟨q0, by omega⟩⟩ w.2
          · exact w3
  · refine ⟨((1 : Int32) <<< (nI (nK τ) &&& 31)) - 1, by rw [if_neg e, if_pos rfl], fun k hk => ?_⟩
    rw [fr_all _ (by omega) k hk]
    exact ⟨fun w => ⟨w, fun w2 => e w2.1⟩, fun w => w.1⟩
theorem isFreeC (σ : St) (k : Nat) : fX7_isFree σ (nI k) = some (σ, if frB (σ.1 43 15) k then 1 else 0) := by
  unfold fX7_isFree
  by_cases e : frB (σ.1 43 15) k
  · rw [if_neg e, if_pos e]
  · rw [if_pos (Classical.not_not.mp e), if_neg e]
theorem ix16 : ∀ b : Nat, b < 16 → ∀ m : Nat, m < 8 → nI b * 8 + nI m = nI (8 * b + m) := by decide +kernel
def crd (σ : St) (F : Nat → Nat → Int) : Prop := ∀ set : Nat, set < 16 → ∀ k : Nat, k < 8 → σ.1 44 (8 * set + k) = Int32.ofInt (F set k)
def addC (τ : St) (s set : Nat) (w : Int) (F : Nat → Nat → Int) (m t k : Nat) : Int := if t = set ∧ k < m ∧ prc τ k ≤ wth τ s then F t k + w else F t k
def midC (A B : Nat → Nat → Int) (j t k : Nat) : Int := if t < j then A t k else B t k
theorem addCrowdC {σ τ : St} {dr : Nat → Nat} (h : okM τ) (c : clsR σ τ dr) {set : Nat} (hset : set < 16) (w : Int) {s : Nat} (hs : s < nS τ) {F : Nat → Nat → Int} (hF : crd σ F) : ∃ σ', fX7_addCrowd σ (nI set) (Int32.ofInt w) (τ.1 6 s) = some (σ', ()) ∧ frm (mk 44 44) noL σ σ' ∧ crd σ' (addC τ s set w F (nK τ)) := by
  have h8 := h.k8
  unfold fX7_addCrowd
  rw [bnd_eq]
  obtain ⟨σ1, hp1, e1⟩ := loopG (S := St) (fun n x m => fX7_addCrowd_L3 (nI set) (Int32.ofInt w) (τ.1 6 s) (fun (σ_7 : St) (_ : Int32) => some (σ_7, ())) n x (nI m)) (nK τ) (fun m x => frm (mk 44 44) noL σ x ∧ crd x (addC τ s set w F m)) (fun x => some (x, ())) (fun n x hp => by
      have c1 := clsR_fr (coreC_frm hp.1 (mk43 (by omega))) c
      show fX7_addCrowd_L3 _ _ _ _ (n + 1) x _ = _
      rw [fX7_addCrowd_L3, c1.nk h, if_pos (by rw [le_i]; omega)]) (fun n m x hm hp => by
      have c1 := clsR_fr (coreC_frm hp.1 (mk43 (by omega))) c
      have hin : inb (nI (8 * set + m)) 128 = true := inb_nI (by omega) (by decide)
      have pb := prc_b h (l := m) (by omega)
      have cmp : (τ.1 6 s < Int32.ofInt (prc τ m)) ↔ ¬ prc τ m ≤ wth τ s := by
        rw [lt_i, i32o (by omega) (by omega)]
        show (τ.1 6 s).toInt < _ ↔ ¬ _ ≤ (τ.1 6 s).toInt
        omega
      show ∃ x', _ ∧ fX7_addCrowd_L3 _ _ _ _ (n + 1) x _ = _
      rw [fX7_addCrowd_L3, c1.nk h, if_neg (by rw [le_i, nI_toInt (by omega), nI_toInt (by omega)]; omega), priceC h c1 (by omega), cl_some, jp_eq]
      by_cases q : prc τ m ≤ wth τ s
      · rw [if_neg (fun w2 => cmp.mp w2 q), ix16 set hset m (by omega), chk_t hin, chk_t hin, ix_nI (m := 8 * set + m) (by omega)]
        refine ⟨sI x 44 (8 * set + m) (x.1 44 (8 * set + m) + Int32.ofInt w), ⟨frm_trans hp.1 (frm_sI _ _ rfl), fun t ht k hk => ?_⟩, ?_⟩
        · rw [sI_at, hp.2 t ht k hk, hp.2 set hset m (by omega)]
          unfold addC
          by_cases e : t = set ∧ k = m
          · obtain ⟨e1, e2⟩ := e
            subst e1 e2
            rw [if_pos rfl, if_neg (by omega), if_pos ⟨rfl, by omega, q⟩, Int32.ofInt_add]
          · rw [if_neg (show ¬ 8 * t + k = 8 * set + m by omega)]
            by_cases e2 : t = set ∧ k < m ∧ prc τ k ≤ wth τ s
            · rw [if_pos e2, if_pos ⟨e2.1, by omega, e2.2.2⟩]
            · rw [if_neg e2, if_neg (fun w2 => e2 ⟨w2.1, by omega, w2.2.2⟩)]
        · rw [nI_succ]; all_goals rfl
      · rw [if_pos (cmp.mpr q)]
        refine ⟨x, ⟨hp.1, fun t ht k hk => ?_⟩, ?_⟩
        · rw [hp.2 t ht k hk]
          unfold addC
          by_cases e2 : t = set ∧ k < m ∧ prc τ k ≤ wth τ s
          · rw [if_pos e2, if_pos ⟨e2.1, by omega, e2.2.2⟩]
          · rw [if_neg e2, if_neg (fun w2 => ?_)]
            by_cases e3 : k = m
            · subst e3; exact q w2.2.2
            · exact e2 ⟨w2.1, by omega, w2.2.2⟩
        · rw [nI_succ]; all_goals rfl) FU 0 σ (by omega) (by have : FU = 100000 := rfl; omega) ⟨frm_refl _ _ _, fun t ht k hk => by
        rw [hF t ht k hk]
        unfold addC
        rw [if_neg (by omega)]⟩
  exact ⟨σ1, e1, hp1.1, hp1.2⟩
/-- the crowd of the first m sorts -/
def crF (τ : St) (sh : Prop) [Decidable sh] (dr : Nat → Nat) (m set k : Nat) : Int := if 1 ≤ set ∧ set < 2 ^ nB τ ∧ k < nK τ then sumN m (fun s => if prc τ k ≤ wth τ s then cntS τ sh dr s set * mny τ s else 0) else 0
theorem gatherC {σ τ : St} {dr : Nat → Nat} (h : okM τ) (c : clsR σ τ dr) (sh : Prop) [Decidable sh] (hsh : σ.1 43 14 = if sh then 1 else 0) : ∃ σ', fX7_gather σ = some (σ', ()) ∧ frm (mk 44 44) noL σ σ' ∧ crd σ' (crF τ sh dr (nS τ)) := by
  have h12 := h.n12
  have h16 := h.p16
  have fs := full_s (τ := τ)
  unfold fX7_gather fJ7_fill_53178_i44
  rw [bnd_eq, bnd_eq]
  obtain ⟨σ1, hp1, e1⟩ := loopG (S := St) (fun n x m => fJ7_fill_53178_i44_L5 0 128 (fun (σ_5 : St) (_ : Int32) => some (σ_5, ())) n x (nI m)) 128 (fun m x => frm (mk 44 44) noL σ x ∧ ∀ i : Nat, i < m → x.1 44 i = 0) (fun x => some (x, ())) (fun n x hp => by
      show fJ7_fill_53178_i44_L5 _ _ _ (n + 1) x _ = _
      rw [fJ7_fill_53178_i44_L5, if_pos (by decide)]) (fun n m x hm hp => by
      show ∃ x', _ ∧ fJ7_fill_53178_i44_L5 _ _ _ (n + 1) x _ = _
      rw [fJ7_fill_53178_i44_L5, if_neg (by rw [le_i, nI_toInt (by omega), show (128 : Int32).toInt = 128 by decide]; omega), chk_t (inb_nI (by omega) (by decide)), ix_nI (m := m) (by omega)]
      refine ⟨sI x 44 m 0, ⟨frm_trans hp.1 (frm_sI _ _ rfl), fun i hi => ?_⟩, ?_⟩
      · rw [sI_at]
        by_cases e : i = m
        · rw [if_pos e]
        · rw [if_neg e]; exact hp.2 i (by omega)
      · rw [nI_succ]; all_goals rfl) FU 0 σ (by omega) (by have : FU = 100000 := rfl; omega) ⟨frm_refl _ _ _, fun i hi => absurd hi (by omega)⟩
  rw [show fJ7_fill_53178_i44_L5 0 128 (fun (σ_5 : St) (_ : Int32) => some (σ_5, ())) FU σ 0 = some (σ1, ()) from e1, cl_some, bnd_eq]
  have c1 := clsR_fr (coreC_frm hp1.1 (mk43 (by omega))) c
  obtain ⟨σ2, hp2, e2⟩ := loopG (S := St) (fun n x m => fX7_gather_L10 (fun (σ_17 : St) (_ : Int32) => some (σ_17, ())) n x (nI m)) (nS τ) (fun m x => frm (mk 44 44) noL σ x ∧ crd x (crF τ sh dr m)) (fun x => some (x, ())) (fun n x hp => by
      have c1 := clsR_fr (coreC_frm hp.1 (mk43 (by omega))) c
      show fX7_gather_L10 _ (n + 1) x _ = _
      rw [fX7_gather_L10, c1.ns h, if_pos (by rw [le_i]; omega)]) (fun n m x hm hp => by
      have c1 := clsR_fr (coreC_frm hp.1 (mk43 (by omega))) c
      show ∃ x', _ ∧ fX7_gather_L10 _ (n + 1) x _ = _
      rw [fX7_gather_L10, c1.ns h, if_neg (by rw [le_i, nI_toInt (by omega), nI_toInt (by omega)]; omega), bnd_eq]
      obtain ⟨x2, hq, eq⟩ := loopG (S := St) (fun n' y j => fX7_gather_L23 (nI m) (fun (σ_14 : St) (_ : Int32) => bnd (nI m + (1 : Int32)) fun (x1_16 : Int32) => fX7_gather_L10 (fun (σ_17 : St) (_ : Int32) => some (σ_17, ())) n σ_14 x1_16) n' y (nI j)) (2 ^ nB τ) (fun j y => 1 ≤ j ∧ frm (mk 44 44) noL σ y ∧ crd y (midC (crF τ sh dr (m + 1)) (crF τ sh dr m) j)) (fun y => fX7_gather_L10 (fun (σ_17 : St) (_ : Int32) => some (σ_17, ())) n y (nI (m + 1))) (fun n' y hy => by
          have c2 := clsR_fr (coreC_frm hy.2.1 (mk43 (by omega))) c
          show fX7_gather_L23 _ _ (n' + 1) y _ = _
          rw [fX7_gather_L23, everyoneC h c2, cl_some, if_pos (by rw [lt_i, nI_toInt (by omega), nI_toInt (by omega)]; omega), nI_succ]
          rfl) (fun n' j y hj hy => by
          obtain ⟨j1, y1, y2⟩ := hy
          have c2 := clsR_fr (coreC_frm y1 (mk43 (by omega))) c
          have hin : inb (nI m) 12 = true := inb_nI (by omega) (by decide)
          obtain ⟨d5, d6, d7, d8, d9⟩ := c2.sort hm
          have cb := cntS_b h sh dr m j
          have mb := mny_b h hm
          have m1 : 1 ≤ mny τ m := (h.hs m hm).2.1.1
          have em : τ.1 4 m = Int32.ofInt (mny τ m) := (Int32.ofInt_toInt _).symm
          have pb : 0 ≤ cntS τ sh dr m j * mny τ m ∧ cntS τ sh dr m j * mny τ m ≤ 16 * 99 := ⟨Int.mul_nonneg cb.1 mb.1, Int.mul_le_mul cb.2 mb.2 mb.1 (by omega)⟩
          show ∃ y', _ ∧ fX7_gather_L23 _ _ (n' + 1) y _ = _
          rw [fX7_gather_L23, everyoneC h c2, cl_some, if_neg (by rw [lt_i, nI_toInt (by omega), nI_toInt (by omega)]; omega), y1.1 43 14 rfl, hsh, setsLikeC h c2 sh hm hj, cl_some, chk_t hin, ix_nI (m := m) (by omega), d6, em, ← Int32.ofInt_mul, bnd_eq, jp_eq, d8]
          have hle : (Int32.ofInt (cntS τ sh dr m j * mny τ m) ≤ 0) ↔ cntS τ sh dr m j * mny τ m ≤ 0 := by rw [le_i, i32o (by omega) (by omega), z_0]
          have step : ∀ k : Nat, crF τ sh dr (m + 1) j k = if k < nK τ ∧ prc τ k ≤ wth τ m then crF τ sh dr m j k + cntS τ sh dr m j * mny τ m else crF τ sh dr m j k := by
            intro k
            unfold crF
            by_cases a : 1 ≤ j ∧ j < 2 ^ nB τ ∧ k < nK τ
            · rw [if_pos a, if_pos a]
              show _ + (if prc τ k ≤ wth τ m then cntS τ sh dr m j * mny τ m else 0) = _
              by_cases b : prc τ k ≤ wth τ m
              · rw [if_pos b, if_pos ⟨a.2.2, b⟩]
              · rw [if_neg b, if_neg (fun w => b w.2), Int.add_zero]
            · rw [if_neg a, if_neg a, if_neg (fun w => a ⟨j1, hj, w.1⟩)]
          by_cases q : cntS τ sh dr m j * mny τ m ≤ 0
          · have q0 : cntS τ sh dr m j * mny τ m = 0 := by omega
            rw [if_pos (hle.mpr q)]
            refine ⟨y, ⟨by omega, y1, fun t ht k hk => ?_⟩, ?_⟩
            · rw [y2 t ht k hk]
              unfold midC
              by_cases a : t < j
              · rw [if_pos a, if_pos (by omega)]
              · rw [if_neg a]
                by_cases b : t = j
                · rw [b, if_pos (by omega), step k, q0]
                  split
                  · rw [Int.add_zero]
                  · rfl
                · rw [if_neg (by omega)]
            · rw [nI_succ]; all_goals rfl
          · rw [if_neg (fun w => q (hle.mp w)), chk_t hin]
            obtain ⟨y3, b1, b2, b3⟩ := addCrowdC h c2 (set := j) (by omega) (cntS τ sh dr m j * mny τ m) hm y2
            rw [b1, cl_some]
            refine ⟨y3, ⟨by omega, frm_trans y1 b2, fun t ht k hk => ?_⟩, ?_⟩
            · rw [b3 t ht k hk]
              refine congrArg Int32.ofInt ?_
              unfold addC midC
              by_cases b : t = j
              · subst b
                rw [if_neg (show ¬ t < t by omega), if_pos (show t < t + 1 by omega), step k]
                by_cases e : k < nK τ ∧ prc τ k ≤ wth τ m
                · rw [if_pos e, if_pos ⟨rfl, e⟩]
                · rw [if_neg e, if_neg (fun w => e w.2)]
              · rw [if_neg (fun w => b w.1)]
                by_cases a : t < j
                · rw [if_pos a, if_pos (by omega)]
                · rw [if_neg a, if_neg (by omega)]
            · rw [nI_succ]; all_goals rfl) FU 1 x (by have := Nat.pow_pos (n := nB τ) (show 0 < 2 by decide); omega) (by have : FU = 100000 := rfl; omega) ⟨by omega, hp.1, fun t ht k hk => by
            rw [hp.2 t ht k hk]
            unfold midC
            by_cases a : t < 1
            · rw [if_pos a]
              unfold crF
              rw [if_neg (by omega), if_neg (by omega)]
            · rw [if_neg a]⟩
      refine ⟨x2, ⟨hq.2.1, fun t ht k hk => ?_⟩, eq⟩
      rw [hq.2.2 t ht k hk]
      unfold midC
      by_cases a : t < 2 ^ nB τ
      · rw [if_pos a]
      · rw [if_neg a]
        unfold crF
        rw [if_neg (by omega), if_neg (by omega)]) FU 0 σ1 (by omega) (by have : FU = 100000 := rfl; omega) ⟨hp1.1, fun t ht k hk => by
        rw [hp1.2 _ (by omega)]
        unfold crF
        split <;> rfl⟩
  exact ⟨σ2, e2, hp2.1, hp2.2⟩
/-- trade stands open for law f: who shouts, which steps are free, the crowd -/
def opnd (σ τ : St) (f : Int) (dr : Nat → Nat) : Prop := (σ.1 43 14 = if shtF τ f then 1 else 0) ∧ (∀ k : Nat, k < 8 → (frB (σ.1 43 15) k ↔ k < nK τ ∧ ¬ barF τ f k)) ∧ crd σ (crF τ (shtF τ f) dr (nS τ))
def mOpn (c k : Nat) : Bool := Nat.beq c 44 || (Nat.beq c 43 && (Nat.beq k 14 || Nat.beq k 15))
theorem mOpn_44 : ∀ c k : Nat, mOpn c k = false → mk 44 44 c k = false := by
  intro c k h
  rw [mk_f]
  intro w
  have : c = 44 := by omega
  subst this
  exact absurd (show true = false from h) (by decide)
theorem mOpn_43 : ∀ c k : Nat, c < 43 → mOpn c k = false := by
  intro c k h
  cases e : mOpn c k
  · rfl
  · exfalso
    unfold mOpn at e
    rw [Bool.or_eq_true, Bool.and_eq_true] at e
    rcases e with e | e
    · have : c = 44 := Nat.eq_of_beq_eq_true e
      omega
    · have : c = 43 := Nat.eq_of_beq_eq_true e.1
      omega
theorem openC {σ τ : St} {dr : Nat → Nat} (h : okM τ) (c : clsR σ τ dr) {p : Int32} (hf : lwOK τ p.toInt) : ∃ σ', fX7_open σ p = some (σ', ()) ∧ frm mOpn noL σ σ' ∧ opnd σ' τ p.toInt dr := by
  unfold fX7_open
  rw [shoutsC h c hf, cl_some, chk_t (isB01 _), bnd_eq]
  have f1 : frm mOpn noL σ (sI σ 43 14 (if shtF τ p.toInt then 1 else 0)) := frm_sI _ _ rfl
  have v1 : (sI σ 43 14 (if shtF τ p.toInt then 1 else 0)).1 43 14 = if shtF τ p.toInt then 1 else 0 := rfl
  generalize sI σ 43 14 (if shtF τ p.toInt then 1 else 0) = σ1 at f1 v1
  have c1 := clsR_fr (coreC_frm f1 mOpn_43) c
  obtain ⟨x, a1, a2⟩ := freeC h c1 hf
  rw [c1.nk h, a1, cl_some, bnd_eq]
  have f2 : frm mOpn noL σ (sI σ1 43 15 x) := frm_trans f1 (frm_sI _ _ rfl)
  have v2 : (sI σ1 43 15 x).1 43 14 = if shtF τ p.toInt then 1 else 0 := v1
  have v3 : (sI σ1 43 15 x).1 43 15 = x := rfl
  generalize sI σ1 43 15 x = σ2 at f2 v2 v3
  have c2 := clsR_fr (coreC_frm f2 mOpn_43) c
  obtain ⟨σ3, b1, b2, b3⟩ := gatherC h c2 (shtF τ p.toInt) v2
  rw [b1, cl_some]
  refine ⟨σ3, rfl, frm_trans f2 (frm_mono mOpn_44 (fun _ _ w => w) b2), ?_, ?_, b3⟩
  · rw [b2.1 43 14 rfl]; exact v2
  · rw [b2.1 43 15 rfl, v3]; exact a2
