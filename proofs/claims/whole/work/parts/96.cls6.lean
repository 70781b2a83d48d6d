/-! weigh -/
theorem setG_out {τ : St} (sh : Prop) [Decidable sh] (dr : Nat → Nat) (G : Nat → Int) {b set : Nat} (r : Nat → Nat) (h : ¬ set.testBit b = true) : setG τ sh dr G b r set = 0 := by
  unfold setG
  cases leastN (nB τ) set r with
  | none => rfl
  | some l =>
    show (if set.testBit b ∧ (r b = l ∨ (prm τ).testBit b) then _ else (0 : Int)) = 0
    rw [if_neg (fun w => h w.1)]
theorem setG_nil {τ : St} (h : okM τ) (sh : Prop) [Decidable sh] (dr : Nat → Nat) (G : Nat → Int) {b set : Nat} (r : Nat → Nat) (h0 : crF τ sh dr (nS τ) set 0 ≤ 0) : setG τ sh dr G b r set = 0 := by
  unfold setG
  cases leastN (nB τ) set r with
  | none => rfl
  | some l =>
    have := crF_b h sh dr (nS τ) set l (Nat.le_refl _)
    have e : crF τ sh dr (nS τ) set l = 0 := by omega
    show (if set.testBit b ∧ (r b = l ∨ (prm τ).testBit b) then crF τ sh dr (nS τ) set l * ((12 / sellN (nB τ) set (prm τ) r l : Nat) : Int) * G l else (0 : Int)) = 0
    rw [e, Int.zero_mul, Int.zero_mul]
    split <;> rfl
theorem setG_ctr {τ : St} (h : okM τ) (sh : Prop) [Decidable sh] (dr : Nat → Nat) (G : Nat → Int) {b set k cm : Nat} (hb : b < nB τ) (hset : set < 2 ^ nB τ) (hbs : set.testBit b = true) {r : Nat → Nat} (hr : ∀ j : Nat, r j < 8) (hk : k < 8) (hcm : ∀ j : Nat, j < 4 → (cm.testBit j = true ↔ (set - 2 ^ b).testBit j = true ∧ r j = lsO (nB τ) (set - 2 ^ b) r)) : setG τ sh dr G b (upN r b k) set = ctr τ sh dr set (lsO (nB τ) (set - 2 ^ b) r) (12 / (popN 4 ((set - 2 ^ b) &&& prm τ) + 1)) (12 / (popN 4 (((set - 2 ^ b) &&& prm τ) ||| cm) + 1)) ((prm τ).testBit b = true) k * G (min k (lsO (nB τ) (set - 2 ^ b) r)) := by
  have h4 := h.n4
  have h16 := h.p16
  have ho := (less_b b (by omega) set (by omega) hbs).2
  have hj : ∀ j : Nat, j < 4 → (set.testBit j = true ↔ j = b ∨ (set - 2 ^ b).testBit j = true) := fun j hj => by
    rcases less_j b (by omega) set (by omega) j hj with w | w
    · rw [hbs] at w; cases w
    · exact w
  have hhi : ∀ j : Nat, nB τ ≤ j → j < 4 → (set - 2 ^ b).testBit j = false := fun j h1 _ => by
    refine Nat.testBit_lt_two_pow (Nat.lt_of_lt_of_le (Nat.lt_of_le_of_lt (Nat.sub_le set (2 ^ b)) hset) (Nat.pow_le_pow_right (n := 2) (by decide) h1))
  have eL : lsO (nB τ) set (upN r b k) = min k (lsO (nB τ) (set - 2 ^ b) r) := lsO_up hr hk hb (fun j hj' => hj j (by omega)) ho
  have eG := lsO_get (r := upN r b k) hb hbs
  rw [eL] at eG
  have ub : upN r b k b = k := by unfold upN; rw [if_pos rfl]
  have uj : ∀ j : Nat, j ≠ b → upN r b k j = r j := fun j hj => by unfold upN; rw [if_neg hj]
  have hlow : ∀ j : Nat, j < nB τ → (set - 2 ^ b).testBit j = true → lsO (nB τ) (set - 2 ^ b) r ≤ r j := fun j hj hb => lsO_le hj hb
  generalize hch : lsO (nB τ) (set - 2 ^ b) r = cheap at *
  unfold setG ctr
  rw [eG]
  show (if set.testBit b ∧ (upN r b k b = min k cheap ∨ (prm τ).testBit b) then crF τ sh dr (nS τ) set (min k cheap) * ((12 / sellN (nB τ) set (prm τ) (upN r b k) (min k cheap) : Nat) : Int) * G (min k cheap) else (0 : Int)) = _
  rw [ub]
  have ek : k = min k cheap ↔ k ≤ cheap := by omega
  by_cases go : k ≤ cheap ∨ (prm τ).testBit b = true
  · have go2 : k = min k cheap ∨ (prm τ).testBit b = true := by rwa [ek]
    rw [if_pos ⟨hbs, go2⟩, if_pos go]
    by_cases w : k < cheap
    · have emin : min k cheap = k := Nat.min_eq_left (by omega)
      rw [if_pos w]
      have es : sellN (nB τ) set (prm τ) (upN r b k) (min k cheap) = popN 4 ((set - 2 ^ b) &&& prm τ) + 1 := by
        rw [sellN_pop (b := b) (M := (set - 2 ^ b) &&& prm τ) ⟨hbs, by rw [ub]; exact go2⟩ (nB τ) (fun j hj' => ?_), if_pos hb, popN_hi (n := nB τ) 4 h4 (fun j h1 h2 => by rw [Nat.testBit_and, hhi j h1 h2]; rfl)]
        rw [Nat.testBit_and, Bool.and_eq_true, emin]
        constructor
        · rintro ⟨a1, a2⟩
          have hne : j ≠ b := fun q => by rw [q, ho] at a1; cases a1
          exact ⟨hne, (hj j (by omega)).mpr (Or.inr a1), Or.inr a2⟩
        · rintro ⟨a1, a2, a3⟩
          have a4 : (set - 2 ^ b).testBit j = true := by
            rcases (hj j (by omega)).mp a2 with q | q
            · exact absurd q a1
            · exact q
          refine ⟨a4, ?_⟩
          rcases a3 with q | q
          · rw [uj j a1] at q
            have := hlow j hj' a4
            omega
          · exact q
      rw [es]
    · have emin : min k cheap = cheap := Nat.min_eq_right (by omega)
      rw [if_neg w]
      have es : sellN (nB τ) set (prm τ) (upN r b k) (min k cheap) = popN 4 (((set - 2 ^ b) &&& prm τ) ||| cm) + 1 := by
        rw [sellN_pop (b := b) (M := ((set - 2 ^ b) &&& prm τ) ||| cm) ⟨hbs, by rw [ub]; exact go2⟩ (nB τ) (fun j hj' => ?_), if_pos hb, popN_hi (n := nB τ) 4 h4 (fun j h1 h2 => ?_)]
        · cases q : (((set - 2 ^ b) &&& prm τ) ||| cm).testBit j with
          | false => rfl
          | true =>
            rw [Nat.testBit_or, Bool.or_eq_true, Nat.testBit_and, Bool.and_eq_true] at q
            rcases q with q | q
            · rw [hhi j h1 h2] at q; exact absurd q.1 (by decide)
            · have := ((hcm j h2).mp q).1
              rw [hhi j h1 h2] at this; cases this
        · rw [Nat.testBit_or, Bool.or_eq_true, Nat.testBit_and, Bool.and_eq_true, hcm j (by omega), emin]
          constructor
          · rintro (⟨a1, a2⟩ | ⟨a1, a2⟩)
            · have hne : j ≠ b := fun q => by rw [q, ho] at a1; cases a1
              exact ⟨hne, (hj j (by omega)).mpr (Or.inr a1), Or.inr a2⟩
            · have hne : j ≠ b := fun q => by rw [q, ho] at a1; cases a1
              exact ⟨hne, (hj j (by omega)).mpr (Or.inr a1), Or.inl (by rw [uj j hne]; exact a2)⟩
          · rintro ⟨a1, a2, a3⟩
            have a4 : (set - 2 ^ b).testBit j = true := by
              rcases (hj j (by omega)).mp a2 with q | q
              · exact absurd q a1
              · exact q
            rcases a3 with q | q
            · rw [uj j a1] at q
              exact Or.inr ⟨a4, q⟩
            · exact Or.inl ⟨a4, q⟩
      rw [es]
  · have go2 : ¬ (k = min k cheap ∨ (prm τ).testBit b = true) := by rwa [ek]
    rw [if_neg (fun q => go2 q.2), if_neg go, Int.zero_mul]
/-- up to set j -/
def wS (τ : St) (sh : Prop) [Decidable sh] (dr : Nat → Nat) (G : Nat → Int) (b : Nat) (r : Nat → Nat) (j k : Nat) : Int := if k < nK τ then sumN j (setG τ sh dr G b (upN r b k)) else 0
theorem acc_eq {σ : St} {F G F' G' : Nat → Int} (h1 : ∀ k : Nat, k < 8 → F k = F' k) (h2 : ∀ k : Nat, k < 8 → G k = G' k) (h : acc σ F G) : acc σ F' G' := fun k hk => by rw [← h1 k hk, ← h2 k hk]; exact h k hk
theorem wS_add {τ : St} (sh : Prop) [Decidable sh] (dr : Nat → Nat) (G : Nat → Int) (b : Nat) (r : Nat → Nat) (j k : Nat) : wS τ sh dr G b r (j + 1) k = if k < nK τ then wS τ sh dr G b r j k + setG τ sh dr G b (upN r b k) j else wS τ sh dr G b r j k := by
  unfold wS
  by_cases e : k < nK τ
  · rw [if_pos e, if_pos e, if_pos e]; rfl
  · rw [if_neg e, if_neg e, if_neg e]
theorem pop16' : ∀ s : Nat, s < 16 → 12 / (popN 4 s + 1) < 13 := by decide +kernel
theorem weighC {σ τ : St} {dr : Nat → Nat} (h : okM τ) (c : clsR σ τ dr) (sh : Prop) [Decidable sh] (hcr : crd σ (crF τ sh dr (nS τ))) {b : Nat} (hb : b < nB τ) {r : Nat → Nat} (hr : ∀ j : Nat, r j < nK τ) (hrd : ∀ set : Nat, set < 2 ^ nB τ → rdS σ (nB τ) r set) : ∃ σ', fX7_weigh σ (nI b) = some (σ', ()) ∧ frm (mk 49 50) noL σ σ' ∧ acc σ' (wS τ sh dr (fun _ => 1) b r (2 ^ nB τ)) (wS τ sh dr (prc τ) b r (2 ^ nB τ)) := by
  have h4 := h.n4
  have h8 := h.k8
  have h16 := h.p16
  have fs := full_s (τ := τ)
  have pw := pow2b b (by omega)
  have pwn : 2 ^ b < 2 ^ nB τ := Nat.pow_lt_pow_right (by decide) hb
  have hr8 : ∀ j : Nat, r j < 8 := fun j => by have := hr j; omega
  unfold fX7_weigh
  obtain ⟨σ1, a1, a2, a3⟩ := fill49 σ
  obtain ⟨σ2, b1, b2, b3⟩ := fill50 σ1
  have f1 : frm (mk 49 50) noL σ σ1 := frm_mono (mk_mono (by omega) (by omega)) noL_any a2
  have f2 : frm (mk 49 50) noL σ σ2 := frm_trans f1 (frm_mono (mk_mono (by omega) (by omega)) noL_any b2)
  have c2 := clsR_fr (coreC_frm f2 (mk43 (by omega))) c
  rw [a1, cl_some, b1, cl_some, promisesC h c2 (by omega), cl_some, bnd_eq, (sh1 b (by omega)).1, bnd_eq]
  have ac0 : acc σ2 (wS τ sh dr (fun _ => 1) b r (2 ^ b)) (wS τ sh dr (prc τ) b r (2 ^ b)) := by
    have z : ∀ (G : Nat → Int) (k : Nat), wS τ sh dr G b r (2 ^ b) k = 0 := by
      intro G k
      unfold wS
      split
      · exact sumN_zero _ (fun s hs => setG_out sh dr G _ (by rw [Nat.testBit_lt_two_pow hs]; decide))
      · rfl
    intro k hk
    rw [z, z, b3 k hk, b2.1 49 k rfl, a3 k hk]
    exact ⟨rfl, rfl⟩
  obtain ⟨σ3, hp3, e3⟩ := loopG (S := St) (fun n x m => fX7_weigh_L29 (nI b) (if (prm τ).testBit b = true then 1 else 0) (fun (σ_36 : St) (_ : Int32) => some (σ_36, ())) n x (nI m)) (2 ^ nB τ) (fun m x => 2 ^ b ≤ m ∧ frm (mk 49 50) noL σ x ∧ acc x (wS τ sh dr (fun _ => 1) b r m) (wS τ sh dr (prc τ) b r m)) (fun x => some (x, ())) (fun n x hp => by
      have c1 := clsR_fr (coreC_frm hp.2.1 (mk43 (by omega))) c
      show fX7_weigh_L29 _ _ _ (n + 1) x _ = _
      rw [fX7_weigh_L29, everyoneC h c1, cl_some, if_pos (by rw [lt_i, nI_toInt (by omega), nI_toInt (by omega)]; omega)]) (fun n m x hm hp => by
      obtain ⟨p1, p2, p3⟩ := hp
      have c1 := clsR_fr (coreC_frm p2 (mk43 (by omega))) c
      have m16 : m < 16 := by omega
      have hin : inb (nI (8 * m)) 128 = true := inb_nI (by omega) (by decide)
      have hcx : crd x (crF τ sh dr (nS τ)) := fun t ht k hk => by rw [p2.1 44 _ rfl]; exact hcr t ht k hk
      show ∃ x', _ ∧ fX7_weigh_L29 _ _ _ (n + 1) x _ = _
      rw [fX7_weigh_L29, everyoneC h c1, cl_some, if_neg (by rw [lt_i, nI_toInt (by omega), nI_toInt (by omega)]; omega), jp_eq]
      have keep : (∀ (G : Nat → Int) (k : Nat), k < 8 → setG τ sh dr G b (upN r b k) m = 0) → acc x (wS τ sh dr (fun _ => 1) b r (m + 1)) (wS τ sh dr (prc τ) b r (m + 1)) := fun z => by
        refine acc_eq (fun k hk => ?_) (fun k hk => ?_) p3
        · rw [wS_add, z _ k hk, Int.add_zero]; split <;> rfl
        · rw [wS_add, z _ k hk, Int.add_zero]; split <;> rfl
      by_cases hbm : m.testBit b = true
      · rw [if_neg (fun w => (bit0 m m16 b (by omega)).mp w hbm), x8 m m16, chk_t hin, ix_nI (m := 8 * m) (by omega)]
        have e0 := hcx m m16 0 (by omega)
        rw [Nat.add_zero] at e0
        have cb := crF_b h sh dr (nS τ) m 0 (Nat.le_refl _)
        have cbig : crF τ sh dr (nS τ) m 0 ≤ 12 * (16 * 99) := by
          unfold crF
          split
          · have := sumN_ub (f := fun s => if prc τ 0 ≤ wth τ s then cntS τ sh dr s m * mny τ s else 0) (nS τ) (16 * 99) (fun s hs => by
              show (if prc τ 0 ≤ wth τ s then cntS τ sh dr s m * mny τ s else 0) ≤ 16 * 99
              have cs := cntS_b h sh dr s m
              have mb := mny_b h hs
              have := Int.mul_le_mul cs.2 mb.2 mb.1 (by omega)
              split
              · exact this
              · decide)
            have := h.n12
            omega
          · decide
        have hle : (x.1 44 (8 * m) ≤ 0) ↔ crF τ sh dr (nS τ) m 0 ≤ 0 := by rw [e0, le_i, i32o (by omega) (by omega), z_0]
        by_cases hc0 : crF τ sh dr (nS τ) m 0 ≤ 0
        · rw [if_pos (hle.mpr hc0)]
          refine ⟨x, ⟨by omega, p2, keep (fun G k _ => setG_nil h sh dr G _ hc0)⟩, ?_⟩
          rw [nI_succ]; all_goals rfl
        · have hms : m - 2 ^ b ≤ m := Nat.sub_le _ _
          obtain ⟨q1, cm, q2, q3, q4⟩ := hrd (m - 2 ^ b) (by omega)
          have lb := less_b b (by omega) m m16 hbm
          have hino : inb (nI (m - 2 ^ b)) 16 = true := inb_nI (by omega) (by decide)
          have hpc := prm_c h c1
          have an := and16 (m - 2 ^ b) (by omega) (prm τ) hpc.2
          have orr := or16 ((m - 2 ^ b) &&& prm τ) an.2 cm q3
          have d1 := div12p (popN 4 ((m - 2 ^ b) &&& prm τ)) (pop16 _ an.2)
          have d2 := div12p (popN 4 (((m - 2 ^ b) &&& prm τ) ||| cm)) (pop16 _ orr.2)
          rw [if_neg (fun w => hc0 (hle.mp w)), lb.1, bnd_eq, chk_t hino, ix_nI (m := m - 2 ^ b) (by omega), p2.1 47 _ rfl, q1, bnd_eq, hpc.1, an.1, bnd_eq, bitC x an.2, cl_some, chk_t d1.2, d1.1, bnd_eq, chk_t hino, p2.1 48 _ rfl, q2, orr.1, bitC x orr.2, cl_some, chk_t d2.2, d2.1, bnd_eq, bnd_eq]
          obtain ⟨x', g1, g2, g3⟩ := weighI h c1 sh hcx (set := m) (cheap := lsO (nB τ) (m - 2 ^ b) r) (al := 12 / (popN 4 ((m - 2 ^ b) &&& prm τ) + 1)) (shd := 12 / (popN 4 (((m - 2 ^ b) &&& prm τ) ||| cm) + 1)) m16 (lsO_8 hr8) (pop16' _ an.2) (pop16' _ orr.2) ((prm τ).testBit b = true) (nI b) (fun y => fX7_weigh_L29 (nI b) (if (prm τ).testBit b = true then 1 else 0) (fun (σ_36 : St) (_ : Int32) => some (σ_36, ())) n y (nI (m + 1))) p3
          refine ⟨x', ⟨by omega, frm_trans p2 g2, acc_eq (fun k hk => ?_) (fun k hk => ?_) g3⟩, ?_⟩
          · rw [wS_add, setG_ctr h sh dr _ hb hm hbm hr8 hk q4, Int.mul_one]; rfl
          · rw [wS_add, setG_ctr h sh dr _ hb hm hbm hr8 hk q4]; rfl
          · refine Eq.trans ?_ g1
            rw [nI_succ]; all_goals rfl
      · rw [if_pos ((bit0 m m16 b (by omega)).mpr hbm)]
        refine ⟨x, ⟨by omega, p2, keep (fun G k _ => setG_out sh dr G _ hbm)⟩, ?_⟩
        rw [nI_succ]; all_goals rfl) FU (2 ^ b) σ2 (by omega) (by have : FU = 100000 := rfl; have := Nat.one_le_two_pow (n := b); omega) ⟨Nat.le_refl _, f2, ac0⟩
  exact ⟨σ3, e3, hp3.2.1, hp3.2.2⟩
theorem wS_gen {τ : St} (h : okM τ) (sh : Prop) [Decidable sh] {dr : Nat → Nat} (hd : ∀ s : Nat, s < nS τ → knd τ s = 0 → dr s < 2 ^ nB τ) (G : Nat → Int) (b : Nat) {r : Nat → Nat} (hr : ∀ j : Nat, r j < nK τ) {k : Nat} (hk : k < nK τ) : wS τ sh dr G b r (2 ^ nB τ) k = genS τ sh dr G b (upN r b k) := by
  unfold wS
  rw [if_pos hk, genS_sets h sh hd G b (fun j _ => by
    unfold upN
    split
    · exact hk
    · exact hr j)]
