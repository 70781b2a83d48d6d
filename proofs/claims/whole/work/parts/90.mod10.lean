/-! bounds -/
theorem abs_mul {a b A B : Int} (h1 : 0 ≤ a) (h2 : a ≤ A) (h3 : -B ≤ b) (h4 : b ≤ B) : -(A * B) ≤ a * b ∧ a * b ≤ A * B := by
  have hB : 0 ≤ B := by omega
  have hA : a * B ≤ A * B := Int.mul_le_mul_of_nonneg_right h2 hB
  have x1 : a * b ≤ a * B := Int.mul_le_mul_of_nonneg_left h4 h1
  have x2 : a * (-B) ≤ a * b := Int.mul_le_mul_of_nonneg_left h3 h1
  rw [Int.mul_neg] at x2
  omega
theorem sum_abs {f : Nat → Int} {B : Int} (n : Nat) (h : ∀ k : Nat, k < n → -B ≤ f k ∧ f k ≤ B) : -(n * B) ≤ sumN n f ∧ sumN n f ≤ n * B := by
  have h1 := sumN_ub n B (fun k hk => (h k hk).2)
  have h2 := sumN_lb n (-B) (fun k hk => (h k hk).1)
  rw [Int.mul_neg] at h2
  omega
theorem wsum_abs {p f : Nat → Int} {c B : Int} (n : Nat) (hp : ∀ k : Nat, k < n → 0 ≤ p k) (hc : sumN n p ≤ c) (hB : 0 ≤ B) (h : ∀ k : Nat, k < n → -B ≤ f k ∧ f k ≤ B) : -(c * B) ≤ sumN n (fun k => p k * f k) ∧ sumN n (fun k => p k * f k) ≤ c * B := by
  have h1 : sumN n (fun k => p k * f k) ≤ sumN n (fun k => p k * B) := sumN_le n (fun k hk => Int.mul_le_mul_of_nonneg_left (h k hk).2 (hp k hk))
  have h2 : sumN n (fun k => p k * (-B)) ≤ sumN n (fun k => p k * f k) := sumN_le n (fun k hk => Int.mul_le_mul_of_nonneg_left (h k hk).1 (hp k hk))
  rw [sumN_mulr] at h1 h2
  have h3 : sumN n p * B ≤ c * B := Int.mul_le_mul_of_nonneg_right hc hB
  rw [Int.mul_neg] at h2
  omega
theorem upN8 {r : Nat → Nat} {n k : Nat} (hr : ∀ j : Nat, r j < 8) (hk : k < 8) : ∀ j : Nat, upN r n k j < 8 := fun j => by
  unfold upN
  split
  · exact hk
  · exact hr j
theorem ex_abs {K : Nat} {P : Nat → Nat → Int} {c B : Int} (hK : K ≤ 8) (hc0 : 0 ≤ c) (hB : 0 ≤ B) : ∀ (n : Nat) (F : (Nat → Nat) → Int), (∀ j : Nat, j < n → (∀ k : Nat, k < K → 0 ≤ P j k) ∧ sumN K (P j) ≤ c) → (∀ r : Nat → Nat, (∀ j : Nat, r j < 8) → -B ≤ F r ∧ F r ≤ B) → -(c ^ n * B) ≤ ex K n P F ∧ ex K n P F ≤ c ^ n * B := by
  intro n
  induction n with
  | zero => intro F _ h; rw [Int.pow_zero, Int.one_mul]; exact h _ (fun _ => by omega)
  | succ n ih =>
    intro F hP h
    have := wsum_abs (p := P n) (f := fun k => ex K n P (fun r => F (upN r n k))) (c := c) (B := c ^ n * B) K (hP n (by omega)).1 (hP n (by omega)).2 (Int.mul_nonneg (Int.pow_nonneg hc0) hB) (fun k hk => ih _ (fun j hj => hP j (by omega)) (fun r hr => h _ (upN8 hr (by omega))))
    rw [Int.pow_succ, Int.mul_comm (c ^ n) c, Int.mul_assoc]
    exact this
theorem exO_abs {K b : Nat} {P : Nat → Nat → Int} {c B : Int} (hK : K ≤ 8) (hc0 : 0 ≤ c) (hB : 0 ≤ B) : ∀ (n : Nat) (F : (Nat → Nat) → Int), (∀ j : Nat, j < n → j ≠ b → (∀ k : Nat, k < K → 0 ≤ P j k) ∧ sumN K (P j) ≤ c) → (∀ r : Nat → Nat, (∀ j : Nat, r j < 8) → -B ≤ F r ∧ F r ≤ B) → b < n → -(c ^ (n - 1) * B) ≤ exO K b n P F ∧ exO K b n P F ≤ c ^ (n - 1) * B := by
  intro n
  induction n with
  | zero => intro F _ _ hb; exact absurd hb (by omega)
  | succ n ih =>
    intro F hP h hb
    by_cases e : n = b
    · show _ ≤ (if n = b then _ else _) ∧ (if n = b then _ else _) ≤ _
      rw [if_pos e, exO_ge n F (by omega)]
      exact ex_abs hK hc0 hB n F (fun j hj => hP j (by omega) (by omega)) h
    · show _ ≤ (if n = b then _ else _) ∧ (if n = b then _ else _) ≤ _
      rw [if_neg e]
      have := wsum_abs (p := P n) (f := fun k => exO K b n P (fun r => F (upN r n k))) (c := c) (B := c ^ (n - 1) * B) K (hP n (by omega) e).1 (hP n (by omega) e).2 (Int.mul_nonneg (Int.pow_nonneg hc0) hB) (fun k hk => ih _ (fun j hj => hP j (by omega)) (fun r hr => h _ (upN8 hr (by omega))) (by omega))
      have e2 : n + 1 - 1 = (n - 1) + 1 := by omega
      rw [e2, Int.pow_succ, Int.mul_comm (c ^ (n - 1)) c, Int.mul_assoc]
      exact this
theorem soldF_b (τ : St) (s set b : Nat) (r : Nat → Nat) : 0 ≤ soldF τ s set b r ∧ soldF τ s set b r ≤ 12 := by
  unfold soldF
  split
  · omega
  · split
    · next l e _ =>
      exact ⟨Int.natCast_nonneg _, Int.ofNat_le.mpr (Nat.div_le_self 12 (sellN (nB τ) set (prm τ) r l))⟩
    · omega
theorem prc_b {τ : St} (h : okM τ) {l : Nat} (hl : l ≤ 8) : 0 ≤ prc τ l ∧ prc τ l ≤ 300 := by
  have := h.hF.1
  have := h.hF.2
  have := h.hY.1
  have := h.hY.2
  unfold prc
  have a1 : 0 ≤ (l : Int) * (τ.1 0 4).toInt := Int.mul_nonneg (by omega) (by omega)
  have a2 := Int.mul_le_mul (show (l : Int) ≤ 8 by omega) (show (τ.1 0 4).toInt ≤ 20 by omega) (by omega) (by omega)
  omega
theorem setSum_abs {τ : St} (h : okM τ) {dr : Nat → Nat} {s : Nat} {F : Nat → Int} {B : Int} (hB : 0 ≤ B) (hF : ∀ set : Nat, -B ≤ F set ∧ F set ≤ B) : -(16 * B) ≤ setSum τ (shN τ) dr s F ∧ setSum τ (shN τ) dr s F ≤ 16 * B := by
  unfold setSum
  split
  · have := sum_abs (f := fun set => if popN (nB τ) set = nmd τ s then F (if shN τ then fullN τ else set) else 0) (B := B) (2 ^ nB τ) (fun k _ => by
      split
      · exact hF _
      · omega)
    have h2 : ((2 ^ nB τ : Nat) : Int) * B ≤ 16 * B := Int.mul_le_mul_of_nonneg_right (by have := h.p16; omega) hB
    omega
  · have := hF (if shN τ then fullN τ else if knd τ s = 0 then dr s else lsd τ)
    omega
theorem mny_b {τ : St} (h : okM τ) {s : Nat} (hs : s < nS τ) : 0 ≤ mny τ s ∧ mny τ s ≤ 99 := by
  have q := (h.hs s hs).2.1
  have := q.1
  have := q.2
  unfold mny
  omega
theorem sumS_abs {τ : St} (h : okM τ) {dr : Nat → Nat} {F : Nat → Nat → Int} {B : Int} (hB : 0 ≤ B) (hF : ∀ s set : Nat, -B ≤ F s set ∧ F s set ≤ B) : -(12 * (99 * (16 * B))) ≤ sumN (nS τ) (fun s => mny τ s * setSum τ (shN τ) dr s (F s)) ∧ sumN (nS τ) (fun s => mny τ s * setSum τ (shN τ) dr s (F s)) ≤ 12 * (99 * (16 * B)) := by
  have := sum_abs (f := fun s => mny τ s * setSum τ (shN τ) dr s (F s)) (B := 99 * (16 * B)) (nS τ) (fun s hs => by
    have a := mny_b h hs
    have c := setSum_abs h (dr := dr) (s := s) hB (hF s)
    exact abs_mul a.1 a.2 c.1 c.2)
  have h2 : ((nS τ : Nat) : Int) * (99 * (16 * B)) ≤ 12 * (99 * (16 * B)) := Int.mul_le_mul_of_nonneg_right (by have := h.n12; omega) (by omega)
  omega
theorem least_row {r : Nat → Nat} {s : Nat} : ∀ n l : Nat, leastN n s r = some l → ∃ b : Nat, b < n ∧ s.testBit b = true ∧ r b = l := by
  intro n
  induction n with
  | zero => intro l h; cases h
  | succ n ih =>
    intro l h
    unfold leastN at h
    by_cases hb : s.testBit n = true
    · rw [if_pos hb] at h
      cases e : leastN n s r with
      | none => rw [e] at h; exact ⟨n, by omega, hb, Option.some.inj h⟩
      | some m =>
        rw [e] at h
        have h1 := Option.some.inj h
        by_cases q : r n ≤ m
        · exact ⟨n, by omega, hb, by omega⟩
        · obtain ⟨b, b1, b2, b3⟩ := ih m e
          exact ⟨b, by omega, b2, by omega⟩
    · rw [if_neg hb] at h
      obtain ⟨b, b1, b2, b3⟩ := ih l h
      exact ⟨b, by omega, b2, b3⟩
theorem gainF_b {τ : St} (h : okM τ) (s set : Nat) {b : Nat} (hb : b < nB τ) {r : Nat → Nat} (hr : ∀ j : Nat, r j < 8) : -3600 ≤ gainF τ s set b r ∧ gainF τ s set b r ≤ 3600 := by
  unfold gainF
  split
  · omega
  · next l e =>
    have hl : l ≤ 8 := by
      obtain ⟨b', _, _, e2⟩ := least_row _ _ e
      have := hr b'
      omega
    have a := soldF_b τ s set b r
    have p := prc_b h hl
    have c1 := (h.hc b hb).1
    have c2 := (h.hc b hb).2
    have cc : cst τ b = (τ.1 2 b).toInt := rfl
    have := abs_mul (A := 12) (B := 300) a.1 a.2 (b := prc τ l - cst τ b) (by omega) (by omega)
    omega
theorem earnM_b {τ : St} (h : okM τ) (dr : Nat → Nat) {b : Nat} (hb : b < nB τ) {r : Nat → Nat} (hr : ∀ j : Nat, r j < 8) : -68428800 ≤ earnM τ dr r (nS τ) b ∧ earnM τ dr r (nS τ) b ≤ 68428800 := by
  have := sumS_abs h (dr := dr) (F := fun s set => gainF τ s set b r) (B := 3600) (by decide) (fun s set => gainF_b h s set hb hr)
  unfold earnM
  omega
