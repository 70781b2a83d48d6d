/-! the sellers of a row, as bits -/
def selB : Nat → (Nat → Bool) → Nat
  | 0, _ => 0
  | n + 1, c => selB n c + (if c n then 2 ^ n else 0)
def cntB : Nat → (Nat → Bool) → Nat
  | 0, _ => 0
  | n + 1, c => cntB n c + (if c n then 1 else 0)
def f4 (a b c d : Bool) : Nat → Bool := fun k => match k with
  | 0 => a
  | 1 => b
  | 2 => c
  | _ => d
theorem sel_fin : ∀ a b c d : Bool, ∀ n : Nat, n < 5 → popN 4 (selB n (f4 a b c d)) = cntB n (f4 a b c d) ∧ selB n (f4 a b c d) < 2 ^ n ∧ ∀ k : Nat, k < 4 → (selB n (f4 a b c d)).testBit k = (decide (k < n) && f4 a b c d k) := by decide +kernel
theorem selB_congr {c d : Nat → Bool} : ∀ n : Nat, (∀ k : Nat, k < n → c k = d k) → selB n c = selB n d ∧ cntB n c = cntB n d := by
  intro n
  induction n with
  | zero => intro _; exact ⟨rfl, rfl⟩
  | succ n ih =>
    intro h
    obtain ⟨h1, h2⟩ := ih (fun k hk => h k (by omega))
    unfold selB cntB
    rw [h1, h2, h n (by omega)]
    exact ⟨rfl, rfl⟩
theorem f4_of (c : Nat → Bool) : ∀ k : Nat, k < 4 → c k = f4 (c 0) (c 1) (c 2) (c 3) k := by
  intro k hk
  match k, hk with
  | 0, _ => rfl
  | 1, _ => rfl
  | 2, _ => rfl
  | 3, _ => rfl
theorem sel_all (c : Nat → Bool) {n : Nat} (hn : n < 5) : popN 4 (selB n c) = cntB n c ∧ selB n c < 2 ^ n ∧ ∀ k : Nat, k < 4 → (selB n c).testBit k = (decide (k < n) && c k) := by
  have h := sel_fin (c 0) (c 1) (c 2) (c 3) n hn
  obtain ⟨e1, e2⟩ := selB_congr (c := c) (d := f4 (c 0) (c 1) (c 2) (c 3)) n (fun k hk => f4_of c k (by omega))
  rw [e1, e2]
  refine ⟨h.1, h.2.1, fun k hk => ?_⟩
  rw [h.2.2 k hk, f4_of c k hk]
theorem or_sh : ∀ m : Nat, m < 4 → ∀ x : Nat, x < 2 ^ m → nI x ||| ((1 : Int32) <<< (nI m &&& 31)) = nI (x + 2 ^ m) := by decide +kernel
/-- baker b sells to the set at the least step l -/
def sellC (τ : St) (r : Nat → Nat) (s l : Nat) : Nat → Bool := fun b => s.testBit b && (decide (r b = l) || (prm τ).testBit b)
theorem cnt_sell (τ : St) (r : Nat → Nat) (s l : Nat) : ∀ n : Nat, cntB n (sellC τ r s l) = sellN n s (prm τ) r l := by
  intro n
  induction n with
  | zero => rfl
  | succ n ih =>
    have iff : sellC τ r s l n = true ↔ (s.testBit n = true ∧ (r n = l ∨ (prm τ).testBit n = true)) := by simp [sellC]
    show cntB n (sellC τ r s l) + (if sellC τ r s l n then 1 else 0) = sellN n s (prm τ) r l + (if s.testBit n = true ∧ (r n = l ∨ (prm τ).testBit n = true) then 1 else 0)
    rw [ih]
    by_cases h : s.testBit n = true ∧ (r n = l ∨ (prm τ).testBit n = true)
    · rw [if_pos h, if_pos (iff.mpr h)]
    · rw [if_neg h, if_neg (fun w => h (iff.mp w))]
theorem sell_L {τ : St} (hB : rg (τ.1 0 0) 0 4) (hp : 0 ≤ (τ.1 0 37).toInt ∧ (τ.1 0 37).toInt < 16) {r : Nat → Nat} (hr : rowOK τ r) {s l : Nat} (hs : s < 16) (hl : l < 8) (p1 : Int32) (p3 : Int64) (kx : St → Int32 → Int32 → Option (St × Unit)) : ∀ (n m : Nat), m ≤ nB τ → nB τ < m + n → fX9_buy_L49 p1 (nI s) p3 (nI l) kx n τ (nI (selB m (sellC τ r s l))) (nI m) = kx τ (nI (selB (nB τ) (sellC τ r s l))) (nI (nB τ)) := by
  have hB4 : nB τ ≤ 4 := by unfold nB; have := hB.2; omega
  have eB : (τ.1 0 0).toInt = (nB τ : Int) := by unfold nB; have := hB.1; omega
  have ep : τ.1 0 37 = nI (prm τ) := nI_mk hp.1
  have hp16 : prm τ < 16 := by unfold prm; omega
  intro n
  induction n with
  | zero => intro m h1 h2; exact absurd h2 (by omega)
  | succ n ih =>
    intro m h1 h2
    rw [fX9_buy_L49]
    have em : (nI m).toInt = (m : Int) := nI_toInt (by omega)
    by_cases h : m = nB τ
    · have hc : τ.1 0 0 ≤ nI m := by rw [le_i, eB, em]; omega
      rw [if_pos hc, h]
    · have hc : ¬ τ.1 0 0 ≤ nI m := by rw [le_i, eB, em]; omega
      have hlt : m < nB τ := by omega
      have hin : inb (nI m) 4 = true := inb_nI (by omega) (by decide)
      obtain ⟨hrow, hr8⟩ := hr m hlt
      have hixm : ix (nI m) = m := ix_nI (by omega)
      have hsel := (sel_all (sellC τ r s l) (n := m) (by omega)).2.1
      rw [if_neg hc, hasM τ hs (by omega), cl_some]
      simp only [jp_eq, bnd_eq, chk_t hin, hixm, hrow]
      rw [← nI_succ, or_sh m (by omega) _ hsel, ep, hasM τ hp16 (by omega), cl_some]
      have key := ih (m + 1) (by omega) (by omega)
      have eS : selB (m + 1) (sellC τ r s l) = selB m (sellC τ r s l) + (if sellC τ r s l m then 2 ^ m else 0) := rfl
      rw [eS] at key
      have erl : (nI (r m) = nI l) ↔ r m = l := by
        rw [eq_i, nI_toInt (by omega), nI_toInt (by omega)]
        omega
      by_cases hb : s.testBit m = true
      · rw [if_pos hb, if_neg one0]
        by_cases h5 : r m = l
        · have hq : sellC τ r s l m = true := by unfold sellC; simp [hb, h5]
          rw [if_pos hq] at key
          rw [if_pos (erl.mpr h5)]
          exact key
        · rw [if_neg (fun w => h5 (erl.mp w))]
          by_cases h6 : (prm τ).testBit m = true
          · have hq : sellC τ r s l m = true := by unfold sellC; simp [hb, h6]
            rw [if_pos hq] at key
            rw [if_pos h6, if_neg one0]
            exact key
          · have hq : ¬ sellC τ r s l m = true := by unfold sellC; simp [hb, h5, h6]
            rw [if_neg hq, Nat.add_zero] at key
            rw [if_neg h6, if_pos rfl]
            exact key
      · have hq : ¬ sellC τ r s l m = true := by unfold sellC; simp [hb]
        rw [if_neg hq, Nat.add_zero] at key
        rw [if_neg hb, if_pos rfl]
        exact key
