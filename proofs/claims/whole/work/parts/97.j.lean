/-! look, the rounds -/
noncomputable def drR (τ : St) : Nat → (Nat → Nat)
  | 0 => nmd τ
  | i + 1 => (lkI τ (drR τ i) (nS τ)).1
noncomputable def tkR (τ : St) (i : Nat) : Bool := (lkI τ (drR τ i) (nS τ)).2
noncomputable def alR (τ : St) : Nat → Bool
  | 0 => true
  | m + 1 => alR τ m && tkR τ m
noncomputable def gnR (τ : St) : Nat → Nat
  | 0 => 0
  | m + 1 => if alR τ m = true then m + 1 else gnR τ m
theorem alR_0 {τ : St} {m : Nat} (h : alR τ m = false) : ∀ n : Nat, m ≤ n → alR τ n = false ∧ gnR τ n = gnR τ m := by
  intro n
  induction n with
  | zero => intro hn; have : m = 0 := by omega
            subst this; exact ⟨h, rfl⟩
  | succ n ih =>
    intro hn
    by_cases e : m = n + 1
    · subst e; exact ⟨h, rfl⟩
    · obtain ⟨i1, i2⟩ := ih (by omega)
      refine ⟨by rw [alR, i1]; rfl, ?_⟩
      rw [gnR, if_neg (by rw [i1]; decide), i2]
theorem alR_1 {τ : St} : ∀ m : Nat, alR τ m = true → gnR τ m = m := by
  intro m
  cases m with
  | zero => intro _; rfl
  | succ m =>
    intro h
    have : alR τ m = true := by
      cases e : alR τ m
      · rw [alR, e] at h; cases h
      · rfl
    rw [gnR, if_pos this]
section Look2
variable {σ' τ : St} {a : Option Nat} {P0 : Nat → Nat → Int}
theorem lookAroundC (h : okM τ) (ha : okA τ) (hs : ¬ shN τ) (hsc : scanW τ (nB τ) = some a) (h0 : rdy τ (nmd τ) = some P0) {σ : St} (hl : lkC σ' σ τ a (nmd τ)) {N : Nat} (hN : N ≤ 9) : ∃ σ2, fX7_lookAround σ (nI N) = some (σ2, nI (gnR τ N)) ∧ lkC σ' σ2 τ a (drR τ (gnR τ N)) := by
  unfold fX7_lookAround
  rw [bnd_eq]
  have key := loopX (S := St) (fun n s m => fX7_lookAround_L2 (nI N) (fun (σ_24 : St) (_ : Int32) => some (σ_24, nI N)) n s (nI (m + 1))) N (fun m s => lkC σ' s τ a (drR τ m) ∧ alR τ m = true) (fun s => some (s, nI N)) (fun res => ∃ s : St, res = some (s, nI (gnR τ N)) ∧ lkC σ' s τ a (drR τ (gnR τ N))) (fun n s hp => by
      show fX7_lookAround_L2 _ _ (n + 1) s _ = _
      rw [fX7_lookAround_L2, if_pos (by rw [lt_i, nI_toInt (by omega), nI_toInt (by omega)]; omega)]) (fun n m s hm hp => by
      obtain ⟨p1, p2⟩ := hp
      obtain ⟨s2, b1, b2⟩ := lookInC h ha hs hsc h0 p1 (nI N) (nI (m + 1)) (fun (σ_20 : St) (x3_21 : Int32) => (if x3_21 = 0 then some (σ_20, nI (m + 1)) else bnd (nI (m + 1) + (1 : Int32)) fun (x2_23 : Int32) => fX7_lookAround_L2 (nI N) (fun (σ_24 : St) (_ : Int32) => some (σ_24, nI N)) n σ_20 x2_23))
      show (∃ s' : St, _ ∧ fX7_lookAround_L2 _ _ (n + 1) s _ = _) ∨ (∃ s' : St, fX7_lookAround_L2 _ _ (n + 1) s _ = _ ∧ _)
      rw [fX7_lookAround_L2, if_neg (by rw [lt_i, nI_toInt (by omega), nI_toInt (by omega)]; omega), bnd_eq, bnd_eq]
      have e1 := b1
      cases et : tkR τ m with
      | true =>
        have et' : (lkI τ (drR τ m) (nS τ)).2 = true := et
        rw [et'] at e1
        refine Or.inl ⟨s2, ⟨b2, by rw [alR, p2, et]; rfl⟩, e1.trans ?_⟩
        show (if (1 : Int32) = 0 then _ else _) = _
        rw [if_neg one0, bnd_eq, ← nI_succ]
      | false =>
        have et' : (lkI τ (drR τ m) (nS τ)).2 = false := et
        rw [et'] at e1
        have a0 : alR τ (m + 1) = false := by rw [alR, et, Bool.and_false]
        have g1 : gnR τ N = m + 1 := by rw [(alR_0 a0 N (by omega)).2, gnR, if_pos p2]
        refine Or.inr ⟨s2, e1.trans ?_, by rw [g1]; exact b2⟩
        show (if (0 : Int32) = 0 then _ else _) = _
        rw [if_pos rfl, g1]) FU 0 σ (by omega) (by have : FU = 100000 := rfl; omega) ⟨hl, rfl⟩
  rcases key with ⟨s, ⟨p1, p2⟩, e⟩ | q
  · have g := alR_1 N p2
    exact ⟨s, by rw [g]; exact e, by rw [g]; exact p1⟩
  · exact q
theorem lookM (h : okM τ) (ha : okA τ) (h0 : rdy τ (nmd τ) = some P0) {τ2 : St} (hl : lkM τ2 τ (nmd τ)) {N : Nat} (hN : N ≤ 9) (q2 : Int32) (kont : St → Int32 → Option (St × Int32)) : ∃ τ3, fX9_look_L51 (nI N) q2 (fun (σ_29 : St) (x3_30 : Int32) (_ : Int32) => kont σ_29 x3_30) FU τ2 0 1 = kont τ3 (nI (gnR τ N)) ∧ lkM τ3 τ (drR τ (gnR τ N)) := by
  have key := loopX (S := St × Int32) (fun n s m => fX9_look_L51 (nI N) q2 (fun (σ_29 : St) (x3_30 : Int32) (_ : Int32) => kont σ_29 x3_30) n s.1 (nI m) s.2) N (fun m s => lkM s.1 τ (drR τ m) ∧ gnR τ m = m ∧ s.2 = b01 (alR τ m)) (fun s => kont s.1 (nI N)) (fun res => ∃ s : St, res = kont s (nI (gnR τ N)) ∧ lkM s τ (drR τ (gnR τ N))) (fun n s hp => by
      show fX9_look_L51 _ _ _ (n + 1) s.1 _ s.2 = _
      rw [fX9_look_L51]
      by_cases w : s.2 = 0
      · rw [if_pos w]
      · rw [if_neg w, if_pos (by rw [le_i]; omega)]) (fun n m s hm hp => by
      obtain ⟨p1, p2, p3⟩ := hp
      show (∃ s' : St × Int32, _ ∧ fX9_look_L51 _ _ _ (n + 1) s.1 _ s.2 = _) ∨ (∃ s' : St, fX9_look_L51 _ _ _ (n + 1) s.1 _ s.2 = _ ∧ _)
      rw [fX9_look_L51]
      cases ea : alR τ m with
      | false =>
        rw [ea] at p3
        have g1 : gnR τ N = m := by rw [(alR_0 ea N (by omega)).2, p2]
        rw [if_pos (show s.2 = 0 from p3)]
        exact Or.inr ⟨s.1, by rw [g1], by rw [g1]; exact p1⟩
      | true =>
        rw [ea] at p3
        obtain ⟨s2, b1, b2⟩ := lookInM h ha h0 p1 (nI N) q2 (nI m) (fun (σ_25 : St) (x4_26 : Int32) => bnd (nI m + (1 : Int32)) fun (x3_28 : Int32) => fX9_look_L51 (nI N) q2 (fun (σ_29 : St) (x3_30 : Int32) (_ : Int32) => kont σ_29 x3_30) n σ_25 x3_28 x4_26)
        have p3' : s.2 = 1 := p3
        rw [if_neg (by rw [p3']; exact one0), if_neg (by rw [le_i, nI_toInt (by omega), nI_toInt (by omega)]; omega), bnd_eq, bnd_eq]
        refine Or.inl ⟨(s2, b01 (lkI τ (drR τ m) (nS τ)).2), ⟨b2, by rw [gnR, if_pos ea], ?_⟩, b1.trans ?_⟩
        · show b01 (tkR τ m) = b01 (alR τ (m + 1))
          rw [alR, ea]
          rfl
        · rw [bnd_eq, ← nI_succ]) FU 0 (τ2, 1) (by omega) (by have : FU = 100000 := rfl; omega) ⟨hl, rfl, rfl⟩
  rcases key with ⟨s, ⟨p1, p2, p3⟩, e⟩ | q
  · exact ⟨s.1, by rw [p2]; exact e, by rw [p2]; exact p1⟩
  · exact q
end Look2
theorem Inv_shut {σ' σ τ τ3 : St} {b : Nat → Nat → Bool} (hI : Inv σ' τ) (hf : frm mLk b σ' σ) (hc : core τ3 = core τ) : Inv (cpI σ 7 9 0 0 12) τ3 := by
  have e : ∀ c k : Nat, scI c k = false → (sI (cpI σ 7 9 0 0 12) 60 0 0).1 c k = (cpI σ 7 9 0 0 12).1 c k := fun c k h => by
    rw [sI_ne (fun w => by subst w; cases h)]
  have h9 := hI.1.2.2.2
  -- first the state with the doors of before
  have hJ : Inv (sI σ' 60 0 0) τ3 := Inv_fr (fun c k h => by rw [sI_ne (fun w => by subst w; cases h)]) hc hI
  have hne : ∀ c k : Nat, scI c k = false → c ≠ 9 → (cpI σ 7 9 0 0 12).1 c k = σ'.1 c k := fun c k h hc => by
    rw [cpI_ne hc]
    refine hf.1 c k ?_
    have h50 := scI_50 (lo := 43) (hi := 50) (by omega) (by omega) c k h
    unfold mLk
    rw [h50, Bool.or_false]
    cases q : Nat.beq c 9
    · rfl
    · exact absurd (Nat.eq_of_beq_eq_true q) hc
  have hat : ∀ j : Nat, j < 12 → (cpI σ 7 9 0 0 12).1 9 j = σ'.1 9 j := fun j hj => by
    rw [cpI_at (n := 12) (by decide) hj, hf.1 7 j rfl, h9 j hj]
  have hM := Inv_fr (σ := σ') (σ' := σ') (fun _ _ _ => rfl) hc hI
  obtain ⟨⟨i1, i2, i3, i4⟩, i5, i6, i7, i8, i9⟩ := hM
  have n12 := i2.2.1.2
  have hq : ∀ q : Nat, 19 ≤ q → q < 43 → (cpI σ 7 9 0 0 12).1 q = σ'.1 q := fun q h1 h2 => funext (fun k => hne q k (scI_f ⟨Or.inr (by omega), Or.inl h2, by omega⟩) (by omega))
  have hA : coreI (sI (cpI σ 7 9 0 0 12) 9 0 0) = coreI (sI (cpI σ 7 9 0 0 12) 9 0 0) := rfl
  refine ⟨⟨?_, i2, fun s w => ?_, fun s w => ?_⟩, ?_, ⟨?_, i6.2.1, fun i hi => ?_⟩, ?_, ?_, ?_⟩
  · rw [hne 2 0 rfl (by decide), hne 2 1 rfl (by decide), hne 2 2 rfl (by decide), hne 2 3 rfl (by decide), hne 2 4 rfl (by decide), hne 2 5 rfl (by decide), hne 2 6 rfl (by decide), hne 2 7 rfl (by decide)]
    exact i1
  · rw [hne 5 s rfl (by decide), hne 6 s rfl (by decide), hne 7 s rfl (by decide), hne 8 s rfl (by decide)]
    exact i3 s w
  · rw [hat s w, hne 7 s rfl (by decide)]
    exact i4 s w
  · unfold iP
    rw [hq 22 (by omega) (by omega), hq 23 (by omega) (by omega), hq 24 (by omega) (by omega), hq 25 (by omega) (by omega)]
    exact i5
  · rw [hne 0 14 rfl (by decide)]; exact i6.1
  · have := i6.2.1.2
    have hi4 : i < 4 := by omega
    rw [hq (imC i + 1) (by unfold imC; omega) (by unfold imC; omega), hq (imC i + 2) (by unfold imC; omega) (by unfold imC; omega), hq (imC i + 3) (by unfold imC; omega) (by unfold imC; omega), hq (imC i) (by unfold imC; omega) (by unfold imC; omega)]
    exact i6.2.2 i hi
  · unfold iL
    rw [hq 19 (by omega) (by omega), hq 20 (by omega) (by omega), hq 21 (by omega) (by omega)]
    exact i7
  · obtain ⟨o1, o2, o3, o4, o5⟩ := i8
    refine ⟨by rw [hne 0 11 rfl (by decide)]; exact o1, o2, by rw [hne 0 12 rfl (by decide)]; exact o3, by rw [hne 0 13 rfl (by decide)]; exact o4, fun k hk => ?_⟩
    rw [hne 1 k rfl (by decide)]
    exact o5 k hk
  · obtain ⟨r1, r2, r3⟩ := i9
    have q54 : ∀ k : Nat, (cpI σ 7 9 0 0 12).1 54 k = σ'.1 54 k := fun k => hne 54 k rfl (by decide)
    have q55 : ∀ k : Nat, (cpI σ 7 9 0 0 12).1 55 k = σ'.1 55 k := fun k => hne 55 k rfl (by decide)
    have q53 : ∀ k : Nat, (cpI σ 7 9 0 0 12).1 53 k = σ'.1 53 k := fun k => hne 53 k rfl (by decide)
    refine ⟨by rw [q54]; exact r1, by rw [q53]; exact r2, fun w => ?_⟩
    rw [q53] at w
    obtain ⟨t1, t2, t3, t4⟩ := r3 w
    refine ⟨by rw [q53]; exact t1, by rw [q54]; exact t2, fun b hb => by rw [q55]; exact t3 b hb, fun p hp => by rw [q54]; exact t4 p hp⟩
theorem p_look : op_look Inv := by
  intro σ τ p q h
  have hM := h.okM
  have hA := h.okA
  have h12 := hM.n12
  have hns := hM.ns
  have z9 : (9 : Int32).toInt = 9 := by decide
  have z10 : (10 : Int32).toInt = 10 := by decide
  unfold fX8_look fX9_look
  rw [bnd_eq, isIn_eq, cl_some, z_1, z9]
  obtain ⟨σ', τ', x, a1, a2, a3, a4, a5, a6⟩ := ready2 h
  have hI1 : Inv σ' τ := Inv_50 (by omega) (by omega) a5 rfl h
  by_cases hp : 1 ≤ p.toInt ∧ p.toInt ≤ 9
  · rw [if_neg (show ¬ p < 1 by rw [lt_i, z_1]; omega), if_neg (show ¬ (9 : Int32) < p by rw [lt_i, z9]; omega), if_pos hp, if_neg one0, jp_eq, jp_eq]
    have ep : p = nI p.toInt.toNat := nI_mk (by omega)
    have ep9 : p.toInt.toNat ≤ 9 := by omega
    generalize p.toInt.toNat = N at ep ep9
    -- the class from settle on; the model from isShouted on
    have body : (q = 0 ∨ ∃ s : Nat, q - 10 = nI s ∧ s < nS τ) → (q = 0 ∨ ∃ s : Nat, q - 10 = nI s ∧ s < nS τ ∧ knd τ s = 0) → ∃ (σ1 τ1 : St) (y : Int32), (cl (fX7_settle σ ) fun (σ_3 : St) (t_4 : Int32) => (if t_4 = 0 then some (σ_3, (-1 : Int32)) else (if (σ_3.1 43 14) = 0 then cl (fX7_lookAround σ_3 p) fun (σ_5 : St) (t_6 : Int32) => bnd t_6 fun (x4_7 : Int32) => (jp (fun (σ_8 : St)  (t_9 : Int32) => bnd t_9 fun (x5_10 : Int32) => cl (fX6_shutDoors σ_8 ) fun (σ_11 : St) (_ : Unit) => some (σ_11, x5_10)) fun j83 => (if q = 0 then j83 σ_5 x4_7 else chk (inb (q - 10) 12) (j83 σ_5 (σ_5.1 9 (ix (q - 10)))))) else some (σ_3, (-1 : Int32))))) = some (σ1, y) ∧ (cl (fX9_isShouted τ ) fun (σ_4 : St) (t_5 : Int32) => (if t_5 = 0 then cl (fX9_areReady σ_4 ) fun (σ_6 : St) (t_7 : Int32) => (if t_7 = 0 then some (σ_6, (-1 : Int32)) else bnd (0 : Int32) fun (x3_8 : Int32) => bnd (1 : Int32) fun (x4_9 : Int32) => fX9_look_L51 p q (fun (σ_29 : St) (x3_30 : Int32) (_ : Int32) => (if q = 0 then some (σ_29, x3_30) else chk (inb (q - (10 : Int32)) 12) ((if (σ_29.1 3 (ix (q - (10 : Int32)))) = 0 then chk (inb (q - (10 : Int32)) 12) (some (σ_29, (σ_29.1 27 (ix (q - (10 : Int32)))))) else some (σ_29, (-1 : Int32)))))) FU σ_6 x3_8 x4_9) else some (σ_4, (-1 : Int32)))) = some (τ1, y) ∧ Inv σ1 τ1 := by
      intro _ hq
      rw [a1, cl_some, shoutedM hM.law, cl_some]
      by_cases hs : shN τ
      · rw [if_pos (show shtF τ (frc τ) from hs), if_neg one0]
        rcases a6 with ⟨e, _⟩ | ⟨P, a, e, _, hr, _⟩
        · rw [if_pos e]; exact ⟨σ', τ, -1, rfl, rfl, hI1⟩
        · have v14 : σ'.1 43 14 = 1 := by rw [hr.2.1.1]; exact if_pos hs
          rw [if_neg (show ¬ x = 0 by rw [e]; exact one0), v14, if_neg one0]; exact ⟨σ', τ, -1, rfl, rfl, hI1⟩
      · rw [if_neg (show ¬ shtF τ (frc τ) from hs), if_pos rfl, a2, cl_some]
        rcases a6 with ⟨e, _⟩ | ⟨P, a, e, h0, hr, hsc, h16⟩
        · rw [if_pos e, if_pos e]; exact ⟨σ', τ', -1, rfl, rfl, a3⟩
        · have v14 : σ'.1 43 14 = 0 := by rw [hr.2.1.1]; exact if_neg hs
          have x0 : ¬ x = 0 := by rw [e]; exact one0
          have hPd : Pd τ (nmd τ) = P := Pd_some h0
          have l1 : lkC σ' σ' τ a (nmd τ) := ⟨frm_refl _ _ _, hr.1, ⟨v14, hr.2.1.2.1, h16⟩, by rw [hPd]; exact hr.2.2.1⟩
          have l2 : lkM τ' τ (nmd τ) := ⟨a4, hr.2.2.2.2.1, by rw [hPd]; exact hr.2.2.2.2.2.1⟩
          obtain ⟨σ2, b1, b2⟩ := lookAroundC hM hA hs hsc h0 l1 ep9
          obtain ⟨τ3, c1, c2⟩ := lookM hM hA h0 l2 ep9 q (fun (σ_29 : St) (x3_30 : Int32) => (if q = 0 then some (σ_29, x3_30) else chk (inb (q - (10 : Int32)) 12) ((if (σ_29.1 3 (ix (q - (10 : Int32)))) = 0 then chk (inb (q - (10 : Int32)) 12) (some (σ_29, (σ_29.1 27 (ix (q - (10 : Int32)))))) else some (σ_29, (-1 : Int32))))))
          rw [if_neg x0, if_neg x0, v14, if_pos rfl, ep, b1, cl_some, bnd_eq, jp_eq, bnd_eq, bnd_eq, c1]
          have hI3 : Inv (cpI σ2 7 9 0 0 12) τ3 := Inv_shut hI1 b2.1 c2.1
          rcases hq with q0 | ⟨s, e1, e2, e3⟩
          · rw [if_pos q0, if_pos q0]
            exact ⟨cpI σ2 7 9 0 0 12, τ3, nI (gnR τ N), rfl, rfl, hI3⟩
          · by_cases q0 : q = 0
            · rw [if_pos q0, if_pos q0]
              exact ⟨cpI σ2 7 9 0 0 12, τ3, nI (gnR τ N), rfl, rfl, hI3⟩
            · have hin : inb (q - 10) 12 = true := by rw [e1]; exact inb_nI (by omega) (by decide)
              have eix : ix (q - 10) = s := by rw [e1]; exact ix_nI (by omega)
              have v9 := ((b2.2.1.sort e2).2.2.2.2 e3).1
              have v27 := (c2.2.1 s (by rw [fr nS (fun _ => rfl) c2.1]; exact e2) (by rw [fr (fun σ => knd σ s) (fun _ => rfl) c2.1]; exact e3)).1
              have v3 : τ3.1 3 s = 0 := by
                have : knd τ3 s = 0 := by rw [fr (fun σ => knd σ s) (fun _ => rfl) c2.1]; exact e3
                exact Int32.toInt_inj.mp (this.trans z_0.symm)
              rw [if_neg q0, if_neg q0, chk_t hin, chk_t hin, eix, v9, v3, if_pos rfl, chk_t hin, v27]
              exact ⟨cpI σ2 7 9 0 0 12, τ3, _, rfl, rfl, hI3⟩
    -- the model, where the sort isn't of women: it answers -1 in the end
    by_cases q0 : q = 0
    · rw [if_pos q0, if_pos q0]
      exact body (Or.inl q0) (Or.inl q0)
    · rw [if_neg q0, if_neg q0, isWomenC hM h.cls, cl_some, isIn_eq, cl_some, z10]
      have e9 : ((9 : Int32) + τ.1 0 1).toInt = 9 + nS τ := by rw [i32_add (by rw [z9]; omega) (by rw [z9]; omega), z9, hns]
      rw [e9]
      by_cases hw : (0 ≤ (q - 10).toInt ∧ (q - 10).toInt < (τ.1 0 1).toInt) ∧ knd τ (q - 10).toInt.toNat = 0
      · obtain ⟨e1, e2⟩ := srt_nI hM hw.1
        have eq : q.toInt = 10 + (q - 10).toInt := by
          have e3 : q = (q - 10) + 10 := by rw [Int32.sub_add_cancel]
          have e4 := congrArg Int32.toInt e3
          rw [i32_add (by rw [z10]; omega) (by rw [z10]; omega), z10] at e4
          omega
        rw [if_pos hw, if_neg one0, if_pos (show 10 ≤ q.toInt ∧ q.toInt ≤ 9 + (nS τ : Int) by omega), if_neg one0]
        exact body (Or.inr ⟨_, e1, e2⟩) (Or.inr ⟨_, e1, e2, hw.2⟩)
      · rw [if_neg hw, if_pos rfl]
        by_cases hi : 10 ≤ q.toInt ∧ q.toInt ≤ 9 + (nS τ : Int)
        · have eq : (q - 10).toInt = q.toInt - 10 := by rw [i32_sub (by rw [z10]; omega) (by rw [z10]; omega), z10]
          have hb : 0 ≤ (q - 10).toInt ∧ (q - 10).toInt < (τ.1 0 1).toInt := by rw [eq]; omega
          obtain ⟨e1, e2⟩ := srt_nI hM hb
          have hk : ¬ knd τ (q - 10).toInt.toNat = 0 := fun w => hw ⟨hb, w⟩
          generalize (q - 10).toInt.toNat = s at e1 e2 hk
          rw [if_pos hi, if_neg one0]
          dsimp only
          rw [shoutedM hM.law, cl_some]
          by_cases hs : shN τ
          · rw [if_pos (show shtF τ (frc τ) from hs), if_neg one0]; exact ⟨σ, τ, -1, rfl, rfl, h⟩
          · rw [if_neg (show ¬ shtF τ (frc τ) from hs), if_pos rfl, a2, cl_some]
            have hI2 : Inv σ τ' := Inv_fr (fun _ _ _ => rfl) a4 h
            rcases a6 with ⟨e, _⟩ | ⟨P, a, e, h0, hr, hsc, h16⟩
            · rw [if_pos e]; exact ⟨σ, τ', -1, rfl, rfl, hI2⟩
            · have x0 : ¬ x = 0 := by rw [e]; exact one0
              have hPd : Pd τ (nmd τ) = P := Pd_some h0
              have l2 : lkM τ' τ (nmd τ) := ⟨a4, hr.2.2.2.2.1, by rw [hPd]; exact hr.2.2.2.2.2.1⟩
              obtain ⟨τ3, c1, c2⟩ := lookM hM hA h0 l2 ep9 q (fun (σ_29 : St) (x3_30 : Int32) => (if q = 0 then some (σ_29, x3_30) else chk (inb (q - (10 : Int32)) 12) ((if (σ_29.1 3 (ix (q - (10 : Int32)))) = 0 then chk (inb (q - (10 : Int32)) 12) (some (σ_29, (σ_29.1 27 (ix (q - (10 : Int32)))))) else some (σ_29, (-1 : Int32))))))
              have hin : inb (q - 10) 12 = true := by rw [e1]; exact inb_nI (by omega) (by decide)
              have eix : ix (q - 10) = s := by rw [e1]; exact ix_nI (by omega)
              have v3 : ¬ τ3.1 3 s = 0 := fun w => hk (by
                rw [← fr (fun σ => knd σ s) (fun _ => rfl) c2.1]
                unfold knd
                rw [w]
                rfl)
              rw [if_neg x0, bnd_eq, bnd_eq, ep, c1, if_neg q0, chk_t hin, eix, if_neg v3]
              exact ⟨σ, τ3, -1, rfl, rfl, Inv_fr (fun _ _ _ => rfl) c2.1 h⟩
        · rw [if_neg hi, if_pos rfl]; exact ⟨σ, τ, -1, rfl, rfl, h⟩
  · rw [if_neg hp, if_pos rfl]
    by_cases p1 : p < 1
    · rw [if_pos p1]; exact ⟨σ, τ, -1, rfl, rfl, h⟩
    · rw [if_neg p1, if_pos (show (9 : Int32) < p by rw [lt_i, z_1] at p1; rw [lt_i, z9]; omega)]; exact ⟨σ, τ, -1, rfl, rfl, h⟩
