/-! rows: the least, who sells, sums over sets -/
def lsO (n s : Nat) (r : Nat → Nat) : Nat := match leastN n s r with
  | none => 8
  | some l => l
theorem leastN_le {r : Nat → Nat} {s : Nat} : ∀ n l : Nat, leastN n s r = some l → ∀ j : Nat, j < n → s.testBit j = true → l ≤ r j := by
  intro n
  induction n with
  | zero => intro l _ j hj; omega
  | succ n ih =>
    intro l h j hj hb
    rw [leastN] at h
    by_cases e : s.testBit n = true
    · rw [if_pos e] at h
      cases q : leastN n s r with
      | none =>
        rw [q] at h
        cases h
        by_cases w : j = n
        · subst w; exact Nat.le_refl _
        · exfalso
          have hn : ∀ n : Nat, leastN n s r = none → ∀ j : Nat, j < n → s.testBit j = true → False := by
            intro n
            induction n with
            | zero => intro _ j hj; omega
            | succ n ih2 =>
              intro hq j hj hb
              rw [leastN] at hq
              by_cases e2 : s.testBit n = true
              · rw [if_pos e2] at hq
                cases q2 : leastN n s r with
                | none => rw [q2] at hq; cases hq
                | some m => rw [q2] at hq; cases hq
              · rw [if_neg e2] at hq
                by_cases w2 : j = n
                · subst w2; exact e2 hb
                · exact ih2 hq j (by omega) hb
          exact hn n q j (by omega) hb
      | some m =>
        rw [q] at h
        cases h
        by_cases w : j = n
        · subst w; exact Nat.min_le_right _ _
        · exact Nat.le_trans (Nat.min_le_left _ _) (ih m q j (by omega) hb)
    · rw [if_neg e] at h
      by_cases w : j = n
      · subst w; exact absurd hb e
      · exact ih l h j (by omega) hb
theorem leastN_some {r : Nat → Nat} {s : Nat} : ∀ n j : Nat, j < n → s.testBit j = true → leastN n s r ≠ none := by
  intro n
  induction n with
  | zero => intro j hj; omega
  | succ n ih =>
    intro j hj hb
    rw [leastN]
    by_cases e : s.testBit n = true
    · rw [if_pos e]
      cases leastN n s r with
      | none => intro w; cases w
      | some m => intro w; cases w
    · rw [if_neg e]
      by_cases w : j = n
      · subst w; exact absurd hb e
      · exact ih j (by omega) hb
theorem lsO_none {n s : Nat} {r : Nat → Nat} (h : leastN n s r = none) : lsO n s r = 8 := by unfold lsO; rw [h]
theorem lsO_some {n s l : Nat} {r : Nat → Nat} (h : leastN n s r = some l) : lsO n s r = l := by unfold lsO; rw [h]
theorem lsO_le {n s : Nat} {r : Nat → Nat} {j : Nat} (hj : j < n) (hb : s.testBit j = true) : lsO n s r ≤ r j := by
  cases q : leastN n s r with
  | none => exact absurd q (leastN_some n j hj hb)
  | some l => rw [lsO_some q]; exact leastN_le n l q j hj hb
theorem lsO_at (n s : Nat) (r : Nat → Nat) : (lsO n s r = 8 ∧ leastN n s r = none) ∨ ∃ j : Nat, j < n ∧ s.testBit j = true ∧ r j = lsO n s r := by
  cases q : leastN n s r with
  | none => exact Or.inl ⟨lsO_none q, rfl⟩
  | some l =>
    rw [lsO_some q]
    exact Or.inr (least_row n l q)
theorem lsO_8 {n s : Nat} {r : Nat → Nat} (hr : ∀ j : Nat, r j < 8) : lsO n s r ≤ 8 := by
  rcases lsO_at n s r with h | ⟨j, _, _, h⟩
  · omega
  · have := hr j; omega
theorem lsO_char {n s x : Nat} {r : Nat → Nat} (hr : ∀ j : Nat, r j < 8) (h1 : ∀ j : Nat, j < n → s.testBit j = true → x ≤ r j) (h2 : x ≤ 8) (h3 : x = 8 ∨ ∃ j : Nat, j < n ∧ s.testBit j = true ∧ r j = x) : lsO n s r = x := by
  have a : x ≤ lsO n s r := by
    rcases lsO_at n s r with h | ⟨j, hj, hb, h⟩
    · omega
    · have := h1 j hj hb; omega
  have b : lsO n s r ≤ x := by
    rcases h3 with h | ⟨j, hj, hb, h⟩
    · rw [h]; exact lsO_8 hr
    · have := lsO_le (r := r) hj hb; omega
  omega
theorem lsO_get {n s j : Nat} {r : Nat → Nat} (hj : j < n) (hb : s.testBit j = true) : leastN n s r = some (lsO n s r) := by
  cases q : leastN n s r with
  | none => exact absurd q (leastN_some n j hj hb)
  | some l => rw [lsO_some q]
/-- a set and the same without baker b -/
theorem lsO_up {n b k s o : Nat} {r : Nat → Nat} (hr : ∀ j : Nat, r j < 8) (hk : k < 8) (hb : b < n) (hs : ∀ j : Nat, j < n → (s.testBit j = true ↔ j = b ∨ o.testBit j = true)) (ho : o.testBit b = false) : lsO n s (upN r b k) = min k (lsO n o r) := by
  have e : ∀ j : Nat, j ≠ b → upN r b k j = r j := fun j hj => by unfold upN; rw [if_neg hj]
  have eb : upN r b k b = k := by unfold upN; rw [if_pos rfl]
  refine lsO_char (upN8 hr hk) (fun j hj hjb => ?_) (by omega) ?_
  · rcases (hs j hj).mp hjb with w | w
    · rw [w, eb]; exact Nat.min_le_left _ _
    · have hne : j ≠ b := fun q => by rw [q, ho] at w; cases w
      rw [e j hne]
      exact Nat.le_trans (Nat.min_le_right _ _) (lsO_le hj w)
  · right
    rcases Nat.le_total k (lsO n o r) with w | w
    · exact ⟨b, hb, (hs b hb).mpr (Or.inl rfl), by rw [eb, Nat.min_eq_left w]⟩
    · rcases lsO_at n o r with q | ⟨j, hj, hjb, q⟩
      · omega
      · have hne : j ≠ b := fun q => by rw [q, ho] at hjb; cases hjb
        exact ⟨j, hj, (hs j hj).mpr (Or.inr hjb), by rw [e j hne, q, Nat.min_eq_right w]⟩
theorem sellN_pop {s p l b M : Nat} {r : Nat → Nat} (hb : s.testBit b = true ∧ (r b = l ∨ p.testBit b = true)) : ∀ n : Nat, (∀ j : Nat, j < n → (M.testBit j = true ↔ j ≠ b ∧ s.testBit j = true ∧ (r j = l ∨ p.testBit j = true))) → sellN n s p r l = popN n M + if b < n then 1 else 0 := by
  intro n
  induction n with
  | zero => intro _; rfl
  | succ n ih =>
    intro h
    rw [sellN, popN, ih (fun j hj => h j (by omega))]
    by_cases e : n = b
    · subst e
      have hM : ¬ M.testBit n = true := fun w => ((h n (by omega)).mp w).1 rfl
      rw [if_pos hb, if_neg hM, if_neg (by omega), if_pos (by omega)]
    · have hlt : (b < n + 1) ↔ b < n := by omega
      have ec : (s.testBit n = true ∧ (r n = l ∨ p.testBit n = true)) ↔ M.testBit n = true := by
        rw [h n (by omega)]
        exact ⟨fun w => ⟨e, w⟩, fun w => w.2⟩
      by_cases w : M.testBit n = true
      · rw [if_pos (ec.mpr w), if_pos w]
        by_cases q : b < n
        · rw [if_pos q, if_pos (by omega)]
        · rw [if_neg q, if_neg (by omega)]
      · rw [if_neg (fun q => w (ec.mp q)), if_neg w]
        by_cases q : b < n
        · rw [if_pos q, if_pos (by omega)]
        · rw [if_neg q, if_neg (by omega)]
/-! a sort's sets, one by one -/
theorem setSum_cnt {τ : St} (h : okM τ) (sh : Prop) [Decidable sh] {dr : Nat → Nat} {s : Nat} (hd : knd τ s = 0 → dr s < 2 ^ nB τ) (F : Nat → Int) : setSum τ sh dr s F = sumN (2 ^ nB τ) (fun set => cntS τ sh dr s set * F set) := by
  have hfull := h.full
  have hl := h.ls.2
  have pick : ∀ a : Nat, a < 2 ^ nB τ → ∀ c : Int, sumN (2 ^ nB τ) (fun set => (if set = a then c else 0) * F set) = c * F a := by
    intro a ha c
    have := sumN_pick (fun set => c * F set) a (2 ^ nB τ)
    rw [if_pos ha] at this
    rw [← this]
    refine sumN_congr _ (fun k _ => ?_)
    by_cases e : k = a
    · rw [if_pos e, if_pos e]
    · rw [if_neg e, if_neg e, Int.zero_mul]
  unfold setSum
  by_cases hsh : sh
  · have ec : ∀ set : Nat, cntS τ sh dr s set = if set = fullN τ then allS τ s else 0 := fun set => by unfold cntS; rw [if_pos hsh]
    simp only [ec, if_pos hsh]
    rw [pick _ hfull]
    unfold allS
    by_cases e : knd τ s = 1
    · rw [if_pos e, if_pos e, ← sumN_mulr]
      refine sumN_congr _ (fun k _ => ?_)
      by_cases q : popN (nB τ) k = nmd τ s
      · rw [if_pos q, if_pos q, Int.one_mul]
      · rw [if_neg q, if_neg q, Int.zero_mul]
    · rw [if_neg e, if_neg e, Int.one_mul]
  · simp only [if_neg hsh]
    by_cases e : knd τ s = 1
    · have ec : ∀ set : Nat, cntS τ sh dr s set = if popN (nB τ) set = nmd τ s then 1 else 0 := fun set => by unfold cntS; rw [if_neg hsh, if_neg (by omega), if_pos e]
      simp only [ec, if_pos e]
      refine sumN_congr _ (fun k _ => ?_)
      by_cases q : popN (nB τ) k = nmd τ s
      · rw [if_pos q, if_pos q, Int.one_mul]
      · rw [if_neg q, if_neg q, Int.zero_mul]
    · rw [if_neg e]
      by_cases e0 : knd τ s = 0
      · have ec : ∀ set : Nat, cntS τ sh dr s set = if set = dr s then 1 else 0 := fun set => by unfold cntS; rw [if_neg hsh, if_pos e0]
        simp only [ec, if_pos e0]
        rw [pick _ (hd e0), Int.one_mul]
      · have ec : ∀ set : Nat, cntS τ sh dr s set = if set = lsd τ then 1 else 0 := fun set => by unfold cntS; rw [if_neg hsh, if_neg e0, if_neg e]
        simp only [ec, if_neg e0]
        rw [pick _ hl, Int.one_mul]
/-- what a set's buyers leave with baker b by a row, times G of the least step -/
def setG (τ : St) (sh : Prop) [Decidable sh] (dr : Nat → Nat) (G : Nat → Int) (b : Nat) (r : Nat → Nat) (set : Nat) : Int := match leastN (nB τ) set r with
  | none => 0
  | some l => if set.testBit b ∧ (r b = l ∨ (prm τ).testBit b) then crF τ sh dr (nS τ) set l * ((12 / sellN (nB τ) set (prm τ) r l : Nat) : Int) * G l else 0
/-- soldF times G of the least step -/
def soldG (τ : St) (G : Nat → Int) (s set b : Nat) (r : Nat → Nat) : Int := match leastN (nB τ) set r with
  | none => 0
  | some l => soldF τ s set b r * G l
theorem soldG_1 (τ : St) (s set b : Nat) (r : Nat → Nat) : soldG τ (fun _ => 1) s set b r = soldF τ s set b r := by
  unfold soldG
  cases e : leastN (nB τ) set r with
  | none => unfold soldF; rw [e]
  | some l => show soldF τ s set b r * 1 = _; rw [Int.mul_one]
theorem soldG_gain (τ : St) (s set b : Nat) (r : Nat → Nat) : soldG τ (fun l => prc τ l - cst τ b) s set b r = gainF τ s set b r := rfl
def genS (τ : St) (sh : Prop) [Decidable sh] (dr : Nat → Nat) (G : Nat → Int) (b : Nat) (r : Nat → Nat) : Int := sumN (nS τ) (fun s => mny τ s * setSum τ sh dr s (fun set => soldG τ G s set b r))
theorem setSum_congr {τ : St} {sh : Prop} [Decidable sh] {dr : Nat → Nat} {s : Nat} {F G : Nat → Int} (h : ∀ set : Nat, F set = G set) : setSum τ sh dr s F = setSum τ sh dr s G := by
  have : F = G := funext h
  rw [this]
theorem genS_1 (τ : St) (sh : Prop) [Decidable sh] (dr : Nat → Nat) (b : Nat) (r : Nat → Nat) : genS τ sh dr (fun _ => 1) b r = soldS τ sh dr b r := by
  unfold genS soldS
  exact sumN_congr _ (fun s _ => by rw [setSum_congr (fun set => soldG_1 τ s set b r)])
theorem genS_sets {τ : St} (h : okM τ) (sh : Prop) [Decidable sh] {dr : Nat → Nat} (hd : ∀ s : Nat, s < nS τ → knd τ s = 0 → dr s < 2 ^ nB τ) (G : Nat → Int) (b : Nat) {r : Nat → Nat} (hr : ∀ j : Nat, j < nB τ → r j < nK τ) : genS τ sh dr G b r = sumN (2 ^ nB τ) (setG τ sh dr G b r) := by
  unfold genS
  have e1 : ∀ s : Nat, s < nS τ → mny τ s * setSum τ sh dr s (fun set => soldG τ G s set b r) = sumN (2 ^ nB τ) (fun set => mny τ s * (cntS τ sh dr s set * soldG τ G s set b r)) := by
    intro s hs
    rw [setSum_cnt h sh (hd s hs), sumN_mul]
  rw [sumN_congr _ e1, sumN_swap]
  refine sumN_congr _ (fun set hset => ?_)
  unfold setG soldG
  cases e : leastN (nB τ) set r with
  | none =>
    exact sumN_zero _ (fun s _ => by show mny τ s * (cntS τ sh dr s set * 0) = 0; rw [Int.mul_zero, Int.mul_zero])
  | some l =>
    show sumN (nS τ) (fun s => mny τ s * (cntS τ sh dr s set * (soldF τ s set b r * G l))) = _
    obtain ⟨j, hj, hjb, hjl⟩ := least_row _ _ e
    have hset1 : 1 ≤ set := by
      rcases Nat.eq_zero_or_pos set with w | w
      · subst w; rw [Nat.zero_testBit] at hjb; cases hjb
      · exact w
    have hl : l < nK τ := by
      have := hr j hj
      omega
    by_cases q : set.testBit b ∧ (r b = l ∨ (prm τ).testBit b)
    · show _ = if set.testBit b ∧ (r b = l ∨ (prm τ).testBit b) then crF τ sh dr (nS τ) set l * ((12 / sellN (nB τ) set (prm τ) r l : Nat) : Int) * G l else 0
      rw [if_pos q]
      unfold crF
      rw [if_pos ⟨hset1, hset, hl⟩, Int.mul_assoc, ← sumN_mulr]
      refine sumN_congr _ (fun s _ => ?_)
      unfold soldF
      rw [e]
      show mny τ s * (cntS τ sh dr s set * ((if prc τ l ≤ wth τ s ∧ set.testBit b ∧ (r b = l ∨ (prm τ).testBit b) then ((12 / sellN (nB τ) set (prm τ) r l : Nat) : Int) else 0) * G l)) = _
      by_cases w : prc τ l ≤ wth τ s
      · rw [if_pos ⟨w, q⟩, if_pos w, ← Int.mul_assoc, Int.mul_comm (mny τ s)]
      · rw [if_neg (fun w2 => w w2.1), if_neg w, Int.zero_mul, Int.mul_zero, Int.mul_zero, Int.zero_mul]
    · show _ = if set.testBit b ∧ (r b = l ∨ (prm τ).testBit b) then crF τ sh dr (nS τ) set l * ((12 / sellN (nB τ) set (prm τ) r l : Nat) : Int) * G l else 0
      rw [if_neg q]
      refine sumN_zero _ (fun s _ => ?_)
      unfold soldF
      rw [e]
      show mny τ s * (cntS τ sh dr s set * ((if prc τ l ≤ wth τ s ∧ set.testBit b ∧ (r b = l ∨ (prm τ).testBit b) then ((12 / sellN (nB τ) set (prm τ) r l : Nat) : Int) else 0) * G l)) = _
      rw [if_neg (fun w => q w.2), Int.zero_mul, Int.mul_zero, Int.mul_zero]
