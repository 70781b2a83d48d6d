theorem sell_pos {s p : Nat} {r : Nat → Nat} : ∀ (n l : Nat), leastN n s r = some l → 1 ≤ sellN n s p r l := by
  intro n
  induction n with
  | zero => intro l h; cases h
  | succ n ih =>
    intro l h
    have h' : (if s.testBit n then (match leastN n s r with | none => some (r n) | some m => some (min m (r n))) else leastN n s r) = some l := h
    show 1 ≤ sellN n s p r l + (if s.testBit n ∧ (r n = l ∨ p.testBit n) then 1 else 0)
    by_cases hb : s.testBit n = true
    · rw [if_pos hb] at h'
      cases e : leastN n s r with
      | none =>
        rw [e] at h'
        have e2 : r n = l := Option.some.inj h'
        rw [if_pos ⟨hb, Or.inl e2⟩]
        omega
      | some m =>
        rw [e] at h'
        have e2 : min m (r n) = l := Option.some.inj h'
        by_cases hm : r n ≤ m
        · have e3 : r n = l := by omega
          rw [if_pos ⟨hb, Or.inl e3⟩]
          omega
        · have e3 : m = l := by omega
          rw [e3] at e
          have := ih l e
          omega
    · rw [if_neg hb] at h'
      have := ih l h'
      omega
theorem sell_le {s p l : Nat} {r : Nat → Nat} : ∀ n : Nat, sellN n s p r l ≤ n := by
  intro n
  induction n with
  | zero => exact Nat.le_refl _
  | succ n ih =>
    show sellN n s p r l + (if s.testBit n ∧ (r n = l ∨ p.testBit n) then 1 else 0) ≤ n + 1
    split <;> omega
theorem div12 : ∀ c : Nat, c < 5 → 1 ≤ c → (12 : Int32) / nI c = nI (12 / c) ∧ ¬ nI c = 0 := by decide +kernel
def payF (τ : St) (s set : Nat) (r : Nat → Nat) : Int := match leastN (nB τ) set r with
  | none => 0
  | some l => if prc τ l ≤ wth τ s then 12 * prc τ l else 0
def boF (τ : St) (s set : Nat) (r : Nat → Nat) : Int := match leastN (nB τ) set r with
  | none => 0
  | some l => if prc τ l ≤ wth τ s then 12 else 0
theorem wrI_self (f : Nat → Int) (k : Nat) (x : Int) (h : x = 0) : wrI f k (f k + x) = f := by
  funext j
  unfold wrI
  by_cases e : j = k
  · rw [if_pos e, h, e]; omega
  · rw [if_neg e]
theorem i12 : (12 : Int64) = Int64.ofInt 12 := by decide
set_option maxHeartbeats 1000000 in
/-- BUY: w women of sort i with the doors of a set, by the row r -/
theorem buyM {τ : St} (hB : rg (τ.1 0 0) 0 4) (hf : rg (τ.1 0 3) 0 99) (hby : rg (τ.1 0 4) 1 20) (hcost : ∀ b : Nat, b < nB τ → rg (τ.1 2 b) 0 99) (hp : 0 ≤ (τ.1 0 37).toInt ∧ (τ.1 0 37).toInt < 16) {r : Nat → Nat} (hr : rowOK τ r) {i s : Nat} (hi : i < 12) (hs : s < 2 ^ nB τ) (w : Int) (so ea pa bo ho : Nat → Int) :
    fX9_buy (lg τ so ea pa bo ho) (nI i) (nI s) (Int64.ofInt w) = some (lg τ (fun b => so b + w * soldF τ i s b r) (fun b => ea b + w * gainF τ i s b r) (wrI pa i (pa i + w * payF τ i s r)) (wrI bo i (bo i + w * boF τ i s r)) (wrI ho i (ho i + w * (12 - boF τ i s r))), ()) := by
  have hB4 : nB τ ≤ 4 := by unfold nB; have := hB.2; omega
  have hp2 : (2 : Nat) ^ nB τ ≤ 2 ^ 4 := Nat.pow_le_pow_right (by decide) hB4
  have hs16 : s < 16 := by omega
  have hin : inb (nI i) 12 = true := inb_nI (by omega) (by decide)
  have hixi : ix (nI i) = i := ix_nI (by omega)
  have hrL : rowOK (lg τ so ea pa bo ho) r := hr
  have homeCase : ∀ (e1 : ∀ b : Nat, soldF τ i s b r = 0) (e2 : ∀ b : Nat, gainF τ i s b r = 0) (e3 : payF τ i s r = 0) (e4 : boF τ i s r = 0),
      (some (sL (lg τ so ea pa bo ho) 26 i ((lg τ so ea pa bo ho).2 26 i + Int64.ofInt w * (12 : Int64)), ()) : Option (St × Unit)) = some (lg τ (fun b => so b + w * soldF τ i s b r) (fun b => ea b + w * gainF τ i s b r) (wrI pa i (pa i + w * payF τ i s r)) (wrI bo i (bo i + w * boF τ i s r)) (wrI ho i (ho i + w * (12 - boF τ i s r))), ()) := by
    intro e1 e2 e3 e4
    have q : (lg τ so ea pa bo ho).2 26 i = Int64.ofInt (ho i) := rfl
    rw [q, i12, ← Int64.ofInt_mul, ← Int64.ofInt_add, lg_26, e3, e4, wrI_self pa i (w * 0) (by omega), wrI_self bo i (w * 0) (by omega)]
    have f1 : (fun b => so b + w * soldF τ i s b r) = so := by funext b; rw [e1]; omega
    have f2 : (fun b => ea b + w * gainF τ i s b r) = ea := by funext b; rw [e2]; omega
    rw [f1, f2]
    rfl
  unfold fX9_buy
  rw [leastM (τ := lg τ so ea pa bo ho) hB hrL hs16, cl_some, bnd_eq]
  simp only [jp_eq]
  have eN : nB (lg τ so ea pa bo ho) = nB τ := rfl
  rw [eN]
  cases e : leastN (nB τ) s r with
  | none =>
    have c1 : encN none = (-1 : Int32) := rfl
    rw [c1, if_pos rfl, chk_t hin, chk_t hin, bnd_eq, hixi]
    exact homeCase (fun b => by unfold soldF; rw [e]) (fun b => by unfold gainF; rw [e]) (by unfold payF; rw [e]) (by unfold boF; rw [e])
  | some l =>
    have hl : l < 8 := leastN_lt (nB τ) (fun b hb => (hr b hb).2) l e
    have c1 : encN (some l) = nI l := rfl
    have c2 : ¬ nI l = (-1 : Int32) := by rw [eq_i, nI_toInt (by omega), z_m1]; omega
    obtain ⟨q1, q2⟩ := priceM (τ := lg τ so ea pa bo ho) hf hby (k := l) (by omega)
    have q2' : ((lg τ so ea pa bo ho).1 0 3 + (nI l * (lg τ so ea pa bo ho).1 0 4)).toInt = prc τ l := q2
    rw [c1, if_neg c2, q1, cl_some, chk_t hin, hixi]
    by_cases hw : prc τ l ≤ wth τ i
    · have c3 : ((lg τ so ea pa bo ho).1 0 3 + (nI l * (lg τ so ea pa bo ho).1 0 4)) ≤ (lg τ so ea pa bo ho).1 6 i := by
        rw [le_i, q2']
        exact hw
      rw [if_pos c3, bnd_eq, bnd_eq]
      refine (sell_L (τ := lg τ so ea pa bo ho) hB hp hrL hs16 hl _ _ _ FU 0 (by omega) (by have : FU = 100000 := rfl; rw [eN]; omega)).trans ?_
      have eS : sellC (lg τ so ea pa bo ho) r s l = sellC τ r s l := rfl
      rw [eS, eN]
      obtain ⟨a1, a2, a3⟩ := sel_all (sellC τ r s l) (n := nB τ) (by omega)
      have a4 : selB (nB τ) (sellC τ r s l) < 16 := by omega
      have hc1 := sell_pos (p := prm τ) (nB τ) l e
      have hc2 := sell_le (s := s) (p := prm τ) (l := l) (r := r) (nB τ)
      obtain ⟨d1, d2⟩ := div12 (sellN (nB τ) s (prm τ) r l) (by omega) hc1
      rw [bitsM _ a4, cl_some, a1, cnt_sell, chk_t (by rw [decide_eq_true_eq]; exact d2), d1, bnd_eq, bnd_eq]
      refine (buy_L (τ := τ) hB hf hby hcost hl a4 (Nat.div_le_self _ _) w _ pa bo ho _ FU 0 so ea (by omega) (by have : FU = 100000 := rfl; omega)).trans ?_
      sorry
    · have c3 : ¬ ((lg τ so ea pa bo ho).1 0 3 + (nI l * (lg τ so ea pa bo ho).1 0 4)) ≤ (lg τ so ea pa bo ho).1 6 i := by
        rw [le_i, q2']
        exact hw
      rw [if_neg c3, chk_t hin, chk_t hin, bnd_eq]
      have z1 : ∀ b : Nat, soldF τ i s b r = 0 := fun b => by unfold soldF; rw [e]; dsimp only; rw [if_neg (fun q => hw q.1)]
      exact homeCase z1 (fun b => by unfold gainF; rw [e]; dsimp only; rw [z1]; omega) (by unfold payF; rw [e]; dsimp only; rw [if_neg hw]) (by unfold boF; rw [e]; dsimp only; rw [if_neg hw])
