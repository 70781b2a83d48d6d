/-! readRow -/
def rowC (σ : St) (n : Nat) (r : Nat → Nat) : Prop := ∀ j : Nat, j < n → σ.1 46 j = nI (r j)
/-- a set's least step and those who ask it, as the class keeps them -/
def rdS (σ : St) (n : Nat) (r : Nat → Nat) (set : Nat) : Prop := σ.1 47 set = nI (lsO n set r) ∧ ∃ c : Nat, σ.1 48 set = nI c ∧ c < 16 ∧ ∀ j : Nat, j < 4 → (c.testBit j = true ↔ set.testBit j = true ∧ r j = lsO n set r)
theorem sh1 : ∀ i : Nat, i < 4 → ((1 : Int32) <<< (nI i &&& 31)) = nI (2 ^ i) ∧ ((2 : Int32) <<< (nI i &&& 31)) = nI (2 ^ (i + 1)) := by decide +kernel
theorem or16 : ∀ a : Nat, a < 16 → ∀ b : Nat, b < 16 → nI a ||| nI b = nI (a ||| b) ∧ (a ||| b) < 16 := by decide +kernel
theorem and16 : ∀ a : Nat, a < 16 → ∀ b : Nat, b < 16 → nI a &&& nI b = nI (a &&& b) ∧ (a &&& b) < 16 := by decide +kernel
theorem bitset : ∀ i : Nat, i < 4 → ∀ o : Nat, o < 2 ^ i → ∀ j : Nat, j < 4 → ((2 ^ i + o).testBit j = true ↔ j = i ∨ o.testBit j = true) := by decide +kernel
theorem bitlow : ∀ i : Nat, i < 4 → ∀ o : Nat, o < 2 ^ i → o.testBit i = false := by decide +kernel
theorem pow2b : ∀ i : Nat, i < 4 → 2 ^ i < 16 ∧ 2 ^ (i + 1) ≤ 16 ∧ 2 ^ (i + 1) = 2 ^ i + 2 ^ i := by decide +kernel
theorem pw_bit : ∀ i : Nat, i < 4 → ∀ j : Nat, j < 4 → ((2 ^ i).testBit j = true ↔ j = i) := by decide +kernel
theorem upN_self (r : Nat → Nat) (m : Nat) : upN r m (r m) = r := by
  funext i
  unfold upN
  by_cases w : i = m
  · rw [if_pos w, w]
  · rw [if_neg w]
theorem rdS_fr {σ σ' : St} {n : Nat} {r : Nat → Nat} {set : Nat} (h1 : σ'.1 47 set = σ.1 47 set) (h2 : σ'.1 48 set = σ.1 48 set) (h : rdS σ n r set) : rdS σ' n r set := by
  unfold rdS
  rw [h1, h2]
  exact h
theorem readRowC {σ τ : St} {dr : Nat → Nat} (h : okM τ) (c : clsR σ τ dr) {r : Nat → Nat} (hr : ∀ j : Nat, r j < 8) (hw : rowC σ (nB τ) r) : ∃ σ', fX7_readRow σ = some (σ', ()) ∧ frm (mk 47 48) noL σ σ' ∧ ∀ set : Nat, set < 2 ^ nB τ → rdS σ' (nB τ) r set := by
  have h4 := h.n4
  have h16 := h.p16
  unfold fX7_readRow
  rw [chk_t (by decide), bnd_eq, chk_t (by decide), bnd_eq, bnd_eq]
  have f0 : frm (mk 47 48) noL σ (sI (sI σ 47 (ix 0) 8) 48 (ix 0) 0) := frm_trans (frm_sI _ _ rfl) (frm_sI _ _ rfl)
  have r0 : rdS (sI (sI σ 47 (ix 0) 8) 48 (ix 0) 0) (nB τ) r 0 := by
    have e : lsO (nB τ) 0 r = 8 := lsO_char hr (fun j _ hb => by rw [Nat.zero_testBit] at hb; cases hb) (by omega) (Or.inl rfl)
    refine ⟨by rw [e]; rfl, 0, rfl, by omega, fun j hj => ?_⟩
    rw [Nat.zero_testBit]
    exact ⟨fun w => absurd w (by decide), fun w => absurd w.1 (by decide)⟩
  generalize sI (sI σ 47 (ix 0) 8) 48 (ix 0) 0 = σ0 at f0 r0
  obtain ⟨σ1, hp1, e1⟩ := loopG (S := St) (fun n x m => fX7_readRow_L17 (fun (σ_19 : St) (_ : Int32) => some (σ_19, ())) n x (nI m)) (nB τ) (fun m x => frm (mk 47 48) noL σ x ∧ ∀ set : Nat, set < 2 ^ m → rdS x (nB τ) r set) (fun x => some (x, ())) (fun n x hp => by
      have c1 := clsR_fr (coreC_frm hp.1 (mk43 (by omega))) c
      show fX7_readRow_L17 _ (n + 1) x _ = _
      rw [fX7_readRow_L17, c1.nb h, if_pos (by rw [le_i]; omega)]) (fun n m x hm hp => by
      have c1 := clsR_fr (coreC_frm hp.1 (mk43 (by omega))) c
      have pw := pow2b m (by omega)
      show ∃ x', _ ∧ fX7_readRow_L17 _ (n + 1) x _ = _
      rw [fX7_readRow_L17, c1.nb h, if_neg (by rw [le_i, nI_toInt (by omega), nI_toInt (by omega)]; omega), (sh1 m (by omega)).1, bnd_eq]
      obtain ⟨x2, hq, eq⟩ := loopG (S := St) (fun n' y j => fX7_readRow_L32 (nI m) (fun (σ_16 : St) (_ : Int32) => bnd (nI m + (1 : Int32)) fun (x1_18 : Int32) => fX7_readRow_L17 (fun (σ_19 : St) (_ : Int32) => some (σ_19, ())) n σ_16 x1_18) n' y (nI j)) (2 ^ (m + 1)) (fun j y => 2 ^ m ≤ j ∧ frm (mk 47 48) noL σ y ∧ ∀ set : Nat, set < j → rdS y (nB τ) r set) (fun y => fX7_readRow_L17 (fun (σ_19 : St) (_ : Int32) => some (σ_19, ())) n y (nI (m + 1))) (fun n' y hy => by
          show fX7_readRow_L32 _ _ (n' + 1) y _ = _
          rw [fX7_readRow_L32, (sh1 m (by omega)).2, if_pos (by rw [le_i]; omega), nI_succ]
          rfl) (fun n' j y hj hy => by
          obtain ⟨j1, y1, y2⟩ := hy
          have hin4 : inb (nI m) 4 = true := inb_nI (by omega) (by decide)
          have hino : inb (nI (j - 2 ^ m)) 16 = true := inb_nI (by omega) (by decide)
          have hinj : inb (nI j) 16 = true := inb_nI (by omega) (by decide)
          have esub : nI j - nI (2 ^ m) = nI (j - 2 ^ m) := by
            apply Int32.toInt_inj.mp
            rw [i32_sub (by rw [nI_toInt (by omega), nI_toInt (by omega)]; omega) (by rw [nI_toInt (by omega), nI_toInt (by omega)]; omega), nI_toInt (by omega), nI_toInt (by omega), nI_toInt (by omega)]
            omega
          obtain ⟨a1, cm, a2, a3, a4⟩ := y2 (j - 2 ^ m) (by omega)
          have ow : y.1 46 m = nI (r m) := by rw [y1.1 46 m rfl]; exact hw m hm
          have hrm := hr m
          have l8 := lsO_8 (n := nB τ) (s := j - 2 ^ m) hr
          have bs : ∀ i : Nat, i < 4 → (j.testBit i = true ↔ i = m ∨ (j - 2 ^ m).testBit i = true) := fun i hi => by
            have := bitset m (by omega) (j - 2 ^ m) (by omega) i hi
            rwa [show 2 ^ m + (j - 2 ^ m) = j by omega] at this
          have bl := bitlow m (by omega) (j - 2 ^ m) (by omega)
          have eL : lsO (nB τ) j r = min (r m) (lsO (nB τ) (j - 2 ^ m) r) := by
            have := lsO_up (n := nB τ) (b := m) (k := r m) (s := j) (o := j - 2 ^ m) hr (by omega) hm (fun i hi => bs i (by omega)) bl
            rwa [upN_self] at this
          have cl1 : (nI (lsO (nB τ) (j - 2 ^ m) r) < nI (r m)) ↔ lsO (nB τ) (j - 2 ^ m) r < r m := by
            rw [lt_i, nI_toInt (by omega), nI_toInt (by omega)]; omega
          have cl2 : (nI (r m) < nI (lsO (nB τ) (j - 2 ^ m) r)) ↔ r m < lsO (nB τ) (j - 2 ^ m) r := by
            rw [lt_i, nI_toInt (by omega), nI_toInt (by omega)]; omega
          -- the end of the round, with both masks
          have fin : ∀ A B : Nat, A < 16 → B < 16 → (∀ i : Nat, i < 4 → (A.testBit i = true ↔ i = m ∧ r m ≤ lsO (nB τ) (j - 2 ^ m) r)) → (∀ i : Nat, i < 4 → (B.testBit i = true ↔ cm.testBit i = true ∧ lsO (nB τ) (j - 2 ^ m) r ≤ r m)) → ∃ y' : St, (2 ^ m ≤ j + 1 ∧ frm (mk 47 48) noL σ y' ∧ ∀ set : Nat, set < j + 1 → rdS y' (nB τ) r set) ∧ (bnd (sI (sI y 47 j (nI (min (r m) (lsO (nB τ) (j - 2 ^ m) r)))) 48 j (nI A ||| nI B)) fun (σ_14 : St) => bnd (nI j + (1 : Int32)) fun (x2_15 : Int32) => fX7_readRow_L32 (nI m) (fun (σ_16 : St) (_ : Int32) => bnd (nI m + (1 : Int32)) fun (x1_18 : Int32) => fX7_readRow_L17 (fun (σ_19 : St) (_ : Int32) => some (σ_19, ())) n σ_16 x1_18) n' σ_14 x2_15) = fX7_readRow_L32 (nI m) (fun (σ_16 : St) (_ : Int32) => bnd (nI m + (1 : Int32)) fun (x1_18 : Int32) => fX7_readRow_L17 (fun (σ_19 : St) (_ : Int32) => some (σ_19, ())) n σ_16 x1_18) n' y' (nI (j + 1)) := by
            intro A B hA hB bA bB
            refine ⟨sI (sI y 47 j (nI (min (r m) (lsO (nB τ) (j - 2 ^ m) r)))) 48 j (nI A ||| nI B), ⟨by omega, frm_trans y1 (frm_trans (frm_sI _ _ rfl) (frm_sI _ _ rfl)), fun set hset => ?_⟩, ?_⟩
            · by_cases e : set = j
              · subst e
                have v47 : (sI (sI y 47 set (nI (min (r m) (lsO (nB τ) (set - 2 ^ m) r)))) 48 set (nI A ||| nI B)).1 47 set = nI (min (r m) (lsO (nB τ) (set - 2 ^ m) r)) := by
                  rw [sI_ne (by decide), sI_at, if_pos rfl]
                have v48 : (sI (sI y 47 set (nI (min (r m) (lsO (nB τ) (set - 2 ^ m) r)))) 48 set (nI A ||| nI B)).1 48 set = nI A ||| nI B := by
                  rw [sI_at, if_pos rfl]
                refine ⟨v47.trans (by rw [eL]), A ||| B, v48.trans (or16 A hA B hB).1, (or16 A hA B hB).2, fun i hi => ?_⟩
                rw [Nat.testBit_or, Bool.or_eq_true, bA i hi, bB i hi, eL, bs i hi, a4 i hi]
                constructor
                · rintro (w | w)
                  · refine ⟨Or.inl w.1, ?_⟩
                    rw [w.1, Nat.min_eq_left w.2]
                  · refine ⟨Or.inr w.1.1, ?_⟩
                    rw [w.1.2, Nat.min_eq_right w.2]
                · rintro ⟨w1, w2⟩
                  by_cases q : r m ≤ lsO (nB τ) (set - 2 ^ m) r
                  · rcases w1 with w1 | w1
                    · exact Or.inl ⟨w1, q⟩
                    · right
                      have hin : i < nB τ := by
                        rcases Nat.lt_or_ge i (nB τ) with z | z
                        · exact z
                        · exfalso
                          have : set - 2 ^ m < 2 ^ i := Nat.lt_of_lt_of_le (by omega) (Nat.pow_le_pow_right (n := 2) (by decide) (show m ≤ i by omega))
                          rw [Nat.testBit_lt_two_pow this] at w1
                          cases w1
                      have := lsO_le (r := r) hin w1
                      rw [Nat.min_eq_left q] at w2
                      exact ⟨⟨w1, by omega⟩, by omega⟩
                  · have q2 : lsO (nB τ) (set - 2 ^ m) r ≤ r m := by omega
                    rw [Nat.min_eq_right q2] at w2
                    rcases w1 with w1 | w1
                    · rw [w1] at w2; omega
                    · exact Or.inr ⟨⟨w1, w2⟩, q2⟩
              · refine rdS_fr ?_ ?_ (y2 set (by omega))
                · rw [sI_ne (by decide), sI_at, if_neg e]
                · rw [sI_at, if_neg e, sI_ne (by decide)]
            · rw [bnd_eq, bnd_eq, nI_succ (n := j)]
          show ∃ y', _ ∧ fX7_readRow_L32 _ _ (n' + 1) y _ = _
          rw [fX7_readRow_L32, (sh1 m (by omega)).2, if_neg (by rw [le_i, nI_toInt (by omega), nI_toInt (by omega)]; omega), (sh1 m (by omega)).1, esub, bnd_eq, chk_t hin4, chk_t hino, jp_eq, ix_nI (m := j - 2 ^ m) (by omega), ix_nI (m := m) (by omega), a1, ow]
          have emin : (if nI (lsO (nB τ) (j - 2 ^ m) r) < nI (r m) then nI (lsO (nB τ) (j - 2 ^ m) r) else nI (r m)) = nI (min (r m) (lsO (nB τ) (j - 2 ^ m) r)) := by
            by_cases w : lsO (nB τ) (j - 2 ^ m) r < r m
            · rw [if_pos (cl1.mpr w), Nat.min_eq_right (by omega)]
            · rw [if_neg (fun q => w (cl1.mp q)), Nat.min_eq_left (by omega)]
          by_cases w : lsO (nB τ) (j - 2 ^ m) r < r m
          · rw [if_pos (cl1.mpr w)]
            refine Exists.imp (fun y' w => ⟨w.1, Eq.trans ?_ w.2⟩) (fin 0 cm (by omega) a3 (fun i hi => ?_) (fun i hi => ?_))
            · dsimp only
              rw [bnd_eq, chk_t hin4, chk_t hino, jp_eq, a1, ow, if_neg (fun q => by have := cl2.mp q; omega), chk_t hino, a2]
              refine (bnd_eq _ _).trans ?_
              rw [chk_t hin4, chk_t hino, bnd_eq, chk_t hinj, bnd_eq, chk_t hinj, ix_nI (m := j) (by omega), a1, ow, emin]
              rfl
            · rw [Nat.zero_testBit]
              exact ⟨fun q => absurd q (by decide), fun q => by omega⟩
            · exact ⟨fun q => ⟨q, by omega⟩, fun q => q.1⟩
          · rw [if_neg (fun q => w (cl1.mp q))]
            by_cases w2 : r m < lsO (nB τ) (j - 2 ^ m) r
            · refine Exists.imp (fun y' w => ⟨w.1, Eq.trans ?_ w.2⟩) (fin (2 ^ m) 0 (by omega) (by omega) (fun i hi => ?_) (fun i hi => ?_))
              · dsimp only
                rw [bnd_eq, chk_t hin4, chk_t hino, jp_eq, a1, ow, if_pos (cl2.mpr w2)]
                refine (bnd_eq _ _).trans ?_
                rw [chk_t hin4, chk_t hino, bnd_eq, chk_t hinj, bnd_eq, chk_t hinj, ix_nI (m := j) (by omega), a1, ow, emin]
                rfl
              · rw [pw_bit m (by omega) i hi]
                exact ⟨fun q => ⟨q, by omega⟩, fun q => q.1⟩
              · rw [Nat.zero_testBit]
                exact ⟨fun q => absurd q (by decide), fun q => by omega⟩
            · refine Exists.imp (fun y' w => ⟨w.1, Eq.trans ?_ w.2⟩) (fin (2 ^ m) cm (by omega) a3 (fun i hi => ?_) (fun i hi => ?_))
              · dsimp only
                rw [bnd_eq, chk_t hin4, chk_t hino, jp_eq, a1, ow, if_neg (fun q => w2 (cl2.mp q)), chk_t hino, a2]
                refine (bnd_eq _ _).trans ?_
                rw [chk_t hin4, chk_t hino, bnd_eq, chk_t hinj, bnd_eq, chk_t hinj, ix_nI (m := j) (by omega), a1, ow, emin]
              · rw [pw_bit m (by omega) i hi]
                exact ⟨fun q => ⟨q, by omega⟩, fun q => q.1⟩
              · exact ⟨fun q => ⟨q, by omega⟩, fun q => q.1⟩) FU (2 ^ m) x (by rw [pw.2.2]; exact Nat.le_add_right _ _) (by have : FU = 100000 := rfl; omega) ⟨Nat.le_refl _, hp.1, hp.2⟩
      exact ⟨x2, ⟨hq.2.1, hq.2.2⟩, eq⟩) FU 0 σ0 (by omega) (by have : FU = 100000 := rfl; omega) ⟨f0, fun set hset => by
        have : set = 0 := by simpa using hset
        rw [this]; exact r0⟩
  exact ⟨σ1, e1, hp1.1, hp1.2⟩
