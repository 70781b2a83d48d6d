theorem sell_pos {s p : Nat} {r : Nat → Nat} : ∀ (n l : Nat), leastN n s r = some l → 1 ≤ sellN n s p r l := by
  intro n
  induction n with
  | zero => intro l h; cases h
  | succ n ih =>
    intro l h
    have h' : (if s.testBit n then (match leastN n s r with | none => some (r n) | some m => some (min m (r n))) else leastN n s r) = some l := h
    show 1 ≤ sellN n s p r l + (if s.testBit n ∧ (r n = l ∨ p.testBit n) then 1 else 0)
    by_cases hb : s.testBit n = true
    · rw [if_pos hb] at h'
      cases e : leastN n s r with
      | none =>
        rw [e] at h'
        have e2 : r n = l := Option.some.inj h'
        rw [if_pos ⟨hb, Or.inl e2⟩]
        omega
      | some m =>
        rw [e] at h'
        have e2 : min m (r n) = l := Option.some.inj h'
        by_cases hm : r n ≤ m
        · have e3 : r n = l := by omega
          rw [if_pos ⟨hb, Or.inl e3⟩]
          omega
        · have e3 : m = l := by omega
          rw [e3] at e
          have := ih l e
          omega
    · rw [if_neg hb] at h'
      have := ih l h'
      omega
theorem sell_le {s p l : Nat} {r : Nat → Nat} : ∀ n : Nat, sellN n s p r l ≤ n := by
  intro n
  induction n with
  | zero => exact Nat.le_refl _
  | succ n ih =>
    show sellN n s p r l + (if s.testBit n ∧ (r n = l ∨ p.testBit n) then 1 else 0) ≤ n + 1
    split <;> omega
theorem div12 : ∀ c : Nat, c < 5 → 1 ≤ c → (12 : Int32) / nI c = nI (12 / c) ∧ ¬ nI c = 0 := by decide +kernel
def payF (τ : St) (s set : Nat) (r : Nat → Nat) : Int := match leastN (nB τ) set r with
  | none => 0
  | some l => if prc τ l ≤ wth τ s then 12 * prc τ l else 0
def boF (τ : St) (s set : Nat) (r : Nat → Nat) : Int := match leastN (nB τ) set r with
  | none => 0
  | some l => if prc τ l ≤ wth τ s then 12 else 0
theorem wrI_self (f : Nat → Int) (k : Nat) (x : Int) (h : x = 0) : wrI f k (f k + x) = f := by
  funext j
  unfold wrI
  by_cases e : j = k
  · rw [if_pos e, h, e]; omega
  · rw [if_neg e]
theorem i12 : (12 : Int64) = Int64.ofInt 12 := by decide
set_option maxHeartbeats 1000000 in
/-- BUY: w women of sort i with the doors of a set, by the row r -/
theorem buyM {τ : St} (hB : rg (τ.1 0 0) 0 4) (hf : rg (τ.1 0 3) 0 99) (hby : rg (τ.1 0 4) 1 20) (hcost : ∀ b : Nat, b < nB τ → rg (τ.1 2 b) 0 99) (hp : 0 ≤ (τ.1 0 37).toInt ∧ (τ.1 0 37).toInt < 16) {r : Nat → Nat} (hr : rowOK τ r) {i s : Nat} (hi : i < 12) (hs : s < 2 ^ nB τ) (w : Int) (so ea pa bo ho : Nat → Int) :
    fX9_buy (lg τ so ea pa bo ho) (nI i) (nI s) (Int64.ofInt w) = some (lg τ (fun b => so b + w * soldF τ i s b r) (fun b => ea b + w * gainF τ i s b r) (wrI pa i (pa i + w * payF τ i s r)) (wrI bo i (bo i + w * boF τ i s r)) (wrI ho i (ho i + w * (12 - boF τ i s r))), ()) := by
  have hB4 : nB τ ≤ 4 := by unfold nB; have := hB.2; omega
  have hp2 : (2 : Nat) ^ nB τ ≤ 2 ^ 4 := Nat.pow_le_pow_right (by decide) hB4
  have hs16 : s < 16 := by omega
  have hin : inb (nI i) 12 = true := inb_nI (by omega) (by decide)
  have hixi : ix (nI i) = i := ix_nI (by omega)
  have hrL : rowOK (lg τ so ea pa bo ho) r := hr
  have homeCase : ∀ (e1 : ∀ b : Nat, soldF τ i s b r = 0) (e2 : ∀ b : Nat, gainF τ i s b r = 0) (e3 : payF τ i s r = 0) (e4 : boF τ i s r = 0),
      (some (sL (lg τ so ea pa bo ho) 26 i ((lg τ so ea pa bo ho).2 26 i + Int64.ofInt w * (12 : Int64)), ()) : Option (St × Unit)) = some (lg τ (fun b => so b + w * soldF τ i s b r) (fun b => ea b + w * gainF τ i s b r) (wrI pa i (pa i + w * payF τ i s r)) (wrI bo i (bo i + w * boF τ i s r)) (wrI ho i (ho i + w * (12 - boF τ i s r))), ()) := by
    intro e1 e2 e3 e4
    have q : (lg τ so ea pa bo ho).2 26 i = Int64.ofInt (ho i) := rfl
    rw [q, i12, ← Int64.ofInt_mul, ← Int64.ofInt_add, lg_26, e3, e4, wrI_self pa i (w * 0) (by omega), wrI_self bo i (w * 0) (by omega)]
    have f1 : (fun b => so b + w * soldF τ i s b r) = so := by funext b; rw [e1]; omega
    have f2 : (fun b => ea b + w * gainF τ i s b r) = ea := by funext b; rw [e2]; omega
    rw [f1, f2]
    rfl
  unfold fX9_buy
  rw [leastM (τ := lg τ so ea pa bo ho) hB hrL hs16, cl_some, bnd_eq]
  simp only [jp_eq]
  have eN : nB (lg τ so ea pa bo ho) = nB τ := rfl
  rw [eN]
  cases e : leastN (nB τ) s r with
  | none =>
    have c1 : encN none = (-1 : Int32) := rfl
    rw [c1, if_pos rfl, chk_t hin, chk_t hin, bnd_eq, hixi]
    exact homeCase (fun b => by unfold soldF; rw [e]) (fun b => by unfold gainF; rw [e]) (by unfold payF; rw [e]) (by unfold boF; rw [e])
  | some l =>
    have hl : l < 8 := leastN_lt (nB τ) (fun b hb => (hr b hb).2) l e
    have c1 : encN (some l) = nI l := rfl
    have c2 : ¬ nI l = (-1 : Int32) := by rw [eq_i, nI_toInt (by omega), z_m1]; omega
    obtain ⟨q1, q2⟩ := priceM (τ := lg τ so ea pa bo ho) hf hby (k := l) (by omega)
    have q2' : ((lg τ so ea pa bo ho).1 0 3 + (nI l * (lg τ so ea pa bo ho).1 0 4)).toInt = prc τ l := q2
    rw [c1, if_neg c2, q1, cl_some, chk_t hin, hixi]
    by_cases hw : prc τ l ≤ wth τ i
    · have c3 : ((lg τ so ea pa bo ho).1 0 3 + (nI l * (lg τ so ea pa bo ho).1 0 4)) ≤ (lg τ so ea pa bo ho).1 6 i := by
        rw [le_i, q2']
        exact hw
      rw [if_pos c3, bnd_eq, bnd_eq]
      refine (sell_L (τ := lg τ so ea pa bo ho) hB hp hrL hs16 hl _ _ _ FU 0 (by omega) (by have : FU = 100000 := rfl; rw [eN]; omega)).trans ?_
      have eS : sellC (lg τ so ea pa bo ho) r s l = sellC τ r s l := rfl
      rw [eS, eN]
      obtain ⟨a1, a2, a3⟩ := sel_all (sellC τ r s l) (n := nB τ) (by omega)
      have a4 : selB (nB τ) (sellC τ r s l) < 16 := by omega
      have hc1 := sell_pos (p := prm τ) (nB τ) l e
      have hc2 := sell_le (s := s) (p := prm τ) (l := l) (r := r) (nB τ)
      obtain ⟨d1, d2⟩ := div12 (sellN (nB τ) s (prm τ) r l) (by omega) hc1
      rw [bitsM _ a4, cl_some, a1, cnt_sell, chk_t (by rw [decide_eq_true_eq]; exact d2), d1, bnd_eq, bnd_eq]
      refine (buy_L (τ := τ) hB hf hby hcost hl a4 (Nat.div_le_self _ _) w _ pa bo ho _ FU 0 so ea (by omega) (by have : FU = 100000 := rfl; omega)).trans ?_
      have hT : ∀ b : Nat, b < nB τ → ((selB (nB τ) (sellC τ r s l)).testBit b = true ↔ (s.testBit b = true ∧ (r b = l ∨ (prm τ).testBit b = true))) := by
        intro b hb
        rw [a3 b (by omega)]
        have : decide (b < nB τ) = true := decide_eq_true hb
        rw [this]
        simp [sellC]
      have hout : ∀ b : Nat, ¬ b < nB τ → ¬ s.testBit b = true := fun b hb w => by
        have h1 : s < 2 ^ b := Nat.lt_of_lt_of_le hs (Nat.pow_le_pow_right (by decide) (by omega))
        rw [Nat.testBit_lt_two_pow h1] at w
        exact absurd w (by decide)
      have f0 : ∀ b : Nat, soldF τ i s b r = if s.testBit b = true ∧ (r b = l ∨ (prm τ).testBit b = true) then ((12 / sellN (nB τ) s (prm τ) r l : Nat) : Int) else 0 := by
        intro b
        unfold soldF
        rw [e]
        dsimp only
        by_cases h : s.testBit b = true ∧ (r b = l ∨ (prm τ).testBit b = true)
        · rw [if_pos ⟨hw, h⟩, if_pos h]
        · rw [if_neg (fun q => h q.2), if_neg h]
      have fg : ∀ b : Nat, gainF τ i s b r = soldF τ i s b r * (prc τ l - cst τ b) := fun b => by unfold gainF; rw [e]
      have hA : ∀ (f g : Nat → Int), addS f g (selB (nB τ) (sellC τ r s l)) 0 (nB τ) = fun b => if s.testBit b = true ∧ (r b = l ∨ (prm τ).testBit b = true) then f b + g b else f b := by
        intro f g
        funext b
        unfold addS
        by_cases hb : b < nB τ
        · by_cases h : s.testBit b = true ∧ (r b = l ∨ (prm τ).testBit b = true)
          · rw [if_pos ⟨Nat.zero_le _, hb, (hT b hb).mpr h⟩, if_pos h]
          · rw [if_neg (fun q => h ((hT b hb).mp q.2.2)), if_neg h]
        · rw [if_neg (fun q => hb q.2.1), if_neg (fun q => hout b hb q.1)]
      rw [hA, hA]
      obtain ⟨p1, p2⟩ := priceM (τ := lg τ (fun b => if s.testBit b = true ∧ (r b = l ∨ (prm τ).testBit b = true) then so b + w * ((12 / sellN (nB τ) s (prm τ) r l : Nat) : Int) else so b) (fun b => if s.testBit b = true ∧ (r b = l ∨ (prm τ).testBit b = true) then ea b + w * ((12 / sellN (nB τ) s (prm τ) r l : Nat) : Int) * (prc τ l - cst τ b) else ea b) pa bo ho) hf hby (k := l) (by omega)
      rw [chk_t hin, p1, cl_some, chk_t hin]
      have w1 : ∀ so ea pa bo ho : Nat → Int, (lg τ so ea pa bo ho).2 24 i = Int64.ofInt (pa i) := fun _ _ _ _ _ => rfl
      have w2 : ∀ so ea pa bo ho : Nat → Int, (lg τ so ea pa bo ho).2 25 i = Int64.ofInt (bo i) := fun _ _ _ _ _ => rfl
      rw [i64_of, p2, w1, i12, ← Int64.ofInt_mul, ← Int64.ofInt_mul, ← Int64.ofInt_add, bnd_eq, lg_24, chk_t hin, chk_t hin, bnd_eq, w2, ← Int64.ofInt_add, lg_25]
      have ePay : payF τ i s r = 12 * prc τ l := by unfold payF; rw [e]; dsimp only; rw [if_pos hw]
      have eBo : boF τ i s r = 12 := by unfold boF; rw [e]; dsimp only; rw [if_pos hw]
      have f1 : (fun b => if s.testBit b = true ∧ (r b = l ∨ (prm τ).testBit b = true) then so b + w * ((12 / sellN (nB τ) s (prm τ) r l : Nat) : Int) else so b) = fun b => so b + w * soldF τ i s b r := by
        funext b
        rw [f0]
        split
        · rfl
        · omega
      have f2 : (fun b => if s.testBit b = true ∧ (r b = l ∨ (prm τ).testBit b = true) then ea b + w * ((12 / sellN (nB τ) s (prm τ) r l : Nat) : Int) * (prc τ l - cst τ b) else ea b) = fun b => ea b + w * gainF τ i s b r := by
        funext b
        rw [fg, f0]
        split
        · rw [Int.mul_assoc]
        · rw [Int.zero_mul]; omega
      have f3 : ∀ x : Int, prc (lg τ so ea pa bo ho) l = prc τ l := fun _ => rfl
      rw [f1, f2, ePay, eBo, wrI_self ho i (w * (12 - 12)) (by omega)]
      have f4 : w * 12 * prc τ l = w * (12 * prc τ l) := Int.mul_assoc _ _ _
      refine congrArg some (congrArg (fun q => (q, ())) ?_)
      rw [← f4]
      rfl
    · have c3 : ¬ ((lg τ so ea pa bo ho).1 0 3 + (nI l * (lg τ so ea pa bo ho).1 0 4)) ≤ (lg τ so ea pa bo ho).1 6 i := by
        rw [le_i, q2']
        exact hw
      rw [if_neg c3, chk_t hin, chk_t hin, bnd_eq]
      have z1 : ∀ b : Nat, soldF τ i s b r = 0 := fun b => by unfold soldF; rw [e]; dsimp only; rw [if_neg (fun q => hw q.1)]
      exact homeCase z1 (fun b => by unfold gainF; rw [e]; dsimp only; rw [z1]; omega) (by unfold payF; rw [e]; dsimp only; rw [if_neg hw]) (by unfold boF; rw [e]; dsimp only; rw [if_neg hw])
