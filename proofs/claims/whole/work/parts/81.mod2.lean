/-! the model's leastStep -/
def encN (o : Option Nat) : Int32 := match o with
  | none => -1
  | some l => nI l
/-- the row that lies in rowStep -/
def rowOK (τ : St) (r : Nat → Nat) : Prop := ∀ b : Nat, b < nB τ → τ.1 21 b = nI (r b) ∧ r b < 8
theorem leastN_lt {r : Nat → Nat} {s : Nat} : ∀ n : Nat, (∀ b : Nat, b < n → r b < 8) → ∀ l : Nat, leastN n s r = some l → l < 8 := by
  intro n
  induction n with
  | zero => intro _ l h; cases h
  | succ n ih =>
    intro hr l h
    unfold leastN at h
    by_cases hb : s.testBit n = true
    · rw [if_pos hb] at h
      cases e : leastN n s r with
      | none => rw [e] at h; have := Option.some.inj h; have := hr n (by omega); omega
      | some m => rw [e] at h; have h1 := Option.some.inj h; have := hr n (by omega); omega
    · rw [if_neg hb] at h
      exact ih (fun b hb => hr b (by omega)) l h
theorem least_L {τ : St} (hB : rg (τ.1 0 0) 0 4) {r : Nat → Nat} (hr : rowOK τ r) {s : Nat} (hs : s < 16) (kx : St → Int32 → Int32 → Option (St × Int32)) : ∀ (n m : Nat), m ≤ nB τ → nB τ < m + n → fX9_leastStep_L4 (nI s) kx n τ (encN (leastN m s r)) (nI m) = kx τ (encN (leastN (nB τ) s r)) (nI (nB τ)) := by
  have hB4 : nB τ ≤ 4 := by unfold nB; have := hB.2; omega
  have eB : (τ.1 0 0).toInt = (nB τ : Int) := by unfold nB; have := hB.1; omega
  intro n
  induction n with
  | zero => intro m h1 h2; exact absurd h2 (by omega)
  | succ n ih =>
    intro m h1 h2
    rw [fX9_leastStep_L4]
    have em : (nI m).toInt = (m : Int) := nI_toInt (by omega)
    by_cases h : m = nB τ
    · have hc : τ.1 0 0 ≤ nI m := by rw [le_i, eB, em]; omega
      rw [if_pos hc, h]
    · have hc : ¬ τ.1 0 0 ≤ nI m := by rw [le_i, eB, em]; omega
      have hlt : m < nB τ := by omega
      have hin : inb (nI m) 4 = true := inb_nI (by omega) (by decide)
      obtain ⟨hrow, hr8⟩ := hr m hlt
      have hixm : ix (nI m) = m := ix_nI (by omega)
      rw [if_neg hc, hasM τ hs (by omega), cl_some]
      simp only [jp_eq, bnd_eq, chk_t hin, hixm, hrow]
      rw [← nI_succ]
      by_cases hb : s.testBit m = true
      · rw [if_pos hb, if_neg one0]
        have hrm : (nI (r m)).toInt = (r m : Int) := nI_toInt (by omega)
        cases e : leastN m s r with
        | none =>
          have e2 : leastN (m + 1) s r = some (r m) := by
            show (if s.testBit m then _ else _) = _
            rw [if_pos hb, e]
          have := ih (m + 1) (by omega) (by omega)
          rw [e2] at this
          show (if (-1 : Int32) = -1 then _ else _) = _
          rw [if_pos rfl]
          exact this
        | some l =>
          have hl : l < 8 := leastN_lt m (fun b hb => (hr b (by omega)).2) l e
          have el : (nI l).toInt = (l : Int) := nI_toInt (by omega)
          have e2 : leastN (m + 1) s r = some (min l (r m)) := by
            show (if s.testBit m then _ else _) = _
            rw [if_pos hb, e]
          have := ih (m + 1) (by omega) (by omega)
          rw [e2] at this
          have hn1 : ¬ nI l = (-1 : Int32) := by rw [eq_i, el, z_m1]; omega
          show (if nI l = (-1 : Int32) then _ else _) = _
          rw [if_neg hn1]
          by_cases hle : l ≤ r m
          · have hc2 : nI l ≤ nI (r m) := by rw [le_i, el, hrm]; omega
            show (if nI l ≤ nI (r m) then _ else _) = _
            rw [if_pos hc2]
            rw [Nat.min_eq_left hle] at this
            exact this
          · have hc2 : ¬ nI l ≤ nI (r m) := by rw [le_i, el, hrm]; omega
            show (if nI l ≤ nI (r m) then _ else _) = _
            rw [if_neg hc2]
            rw [Nat.min_eq_right (by omega)] at this
            exact this
      · rw [if_neg hb, if_pos rfl]
        have e2 : leastN (m + 1) s r = leastN m s r := by
          show (if s.testBit m then _ else _) = _
          rw [if_neg hb]
        have := ih (m + 1) (by omega) (by omega)
        rw [e2] at this
        exact this
theorem leastM {τ : St} (hB : rg (τ.1 0 0) 0 4) {r : Nat → Nat} (hr : rowOK τ r) {s : Nat} (hs : s < 16) : fX9_leastStep τ (nI s) = some (τ, encN (leastN (nB τ) s r)) := by
  unfold fX9_leastStep
  rw [bnd_eq, bnd_eq]
  have hB4 : nB τ ≤ 4 := by unfold nB; have := hB.2; omega
  exact least_L hB hr hs _ FU 0 (by omega) (by have : FU = 100000 := rfl; omega)
