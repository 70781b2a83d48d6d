/-! the model's buy: what it adds; longs as images of whole numbers -/
theorem i64_of (x : Int32) : x.toInt64 = Int64.ofInt x.toInt := by
  apply Int64.toInt_inj.mp
  have h1 := Int32.toInt_lt x
  have h2 := Int32.le_toInt x
  rw [Int32.toInt_toInt64, Int64.toInt_ofInt_of_le (by omega) (by omega)]
def lg (τ : St) (so ea pa bo ho : Nat → Int) : St := (τ.1, fun c => if c = 22 then (fun b => Int64.ofInt (so b)) else if c = 23 then (fun b => Int64.ofInt (ea b)) else if c = 24 then (fun b => Int64.ofInt (pa b)) else if c = 25 then (fun b => Int64.ofInt (bo b)) else if c = 26 then (fun b => Int64.ofInt (ho b)) else τ.2 c)
def wrI (f : Nat → Int) (k : Nat) (x : Int) : Nat → Int := fun j => if j = k then x else f j
theorem sL_ne {σ : St} {q k c : Nat} {x : Int64} (h : c ≠ q) : (sL σ q k x).2 c = σ.2 c := by
  show (if c = q then _ else _) = _
  rw [if_neg h]
theorem sL_at {σ : St} {q k : Nat} {x : Int64} (j : Nat) : (sL σ q k x).2 q j = if j = k then x else σ.2 q j := by
  show (if q = q then (fun j => if j = k then x else σ.2 q j) else σ.2 q) j = _
  rw [if_pos rfl]
theorem ofI_wr (f : Nat → Int) (k : Nat) (x : Int) (j : Nat) : (if j = k then Int64.ofInt x else Int64.ofInt (f j)) = Int64.ofInt (wrI f k x j) := by
  unfold wrI
  by_cases h : j = k
  · rw [if_pos h, if_pos h]
  · rw [if_neg h, if_neg h]
theorem lg_22 (τ : St) (so ea pa bo ho : Nat → Int) (k : Nat) (x : Int) : sL (lg τ so ea pa bo ho) 22 k (Int64.ofInt x) = lg τ (wrI so k x) ea pa bo ho := by
  refine St_ext (fun _ _ => rfl) (fun c j => ?_)
  by_cases h : c = 22
  · subst h; rw [sL_at]; exact ofI_wr so k x j
  · rw [sL_ne h]; unfold lg; dsimp only; rw [if_neg h, if_neg h]
theorem lg_23 (τ : St) (so ea pa bo ho : Nat → Int) (k : Nat) (x : Int) : sL (lg τ so ea pa bo ho) 23 k (Int64.ofInt x) = lg τ so (wrI ea k x) pa bo ho := by
  refine St_ext (fun _ _ => rfl) (fun c j => ?_)
  by_cases h : c = 23
  · subst h; rw [sL_at]; exact ofI_wr ea k x j
  · rw [sL_ne h]; unfold lg; dsimp only; rw [if_neg h, if_neg h]
theorem lg_24 (τ : St) (so ea pa bo ho : Nat → Int) (k : Nat) (x : Int) : sL (lg τ so ea pa bo ho) 24 k (Int64.ofInt x) = lg τ so ea (wrI pa k x) bo ho := by
  refine St_ext (fun _ _ => rfl) (fun c j => ?_)
  by_cases h : c = 24
  · subst h; rw [sL_at]; exact ofI_wr pa k x j
  · rw [sL_ne h]; unfold lg; dsimp only; rw [if_neg h, if_neg h]
theorem lg_25 (τ : St) (so ea pa bo ho : Nat → Int) (k : Nat) (x : Int) : sL (lg τ so ea pa bo ho) 25 k (Int64.ofInt x) = lg τ so ea pa (wrI bo k x) ho := by
  refine St_ext (fun _ _ => rfl) (fun c j => ?_)
  by_cases h : c = 25
  · subst h; rw [sL_at]; exact ofI_wr bo k x j
  · rw [sL_ne h]; unfold lg; dsimp only; rw [if_neg h, if_neg h]
theorem lg_26 (τ : St) (so ea pa bo ho : Nat → Int) (k : Nat) (x : Int) : sL (lg τ so ea pa bo ho) 26 k (Int64.ofInt x) = lg τ so ea pa bo (wrI ho k x) := by
  refine St_ext (fun _ _ => rfl) (fun c j => ?_)
  by_cases h : c = 26
  · subst h; rw [sL_at]; exact ofI_wr ho k x j
  · rw [sL_ne h]; unfold lg; dsimp only; rw [if_neg h, if_neg h]
/-- f, with g added for the sellers from m up to n -/
def addS (f g : Nat → Int) (S m n : Nat) : Nat → Int := fun b => if m ≤ b ∧ b < n ∧ S.testBit b = true then f b + g b else f b
theorem addS_end (f g : Nat → Int) (S n : Nat) : addS f g S n n = f := by
  funext b
  unfold addS
  rw [if_neg (by omega)]
theorem addS_yes (f g : Nat → Int) (S m n : Nat) (h : m < n) (hb : S.testBit m = true) : addS (wrI f m (f m + g m)) g S (m + 1) n = addS f g S m n := by
  funext b
  unfold addS wrI
  by_cases e : b = m
  · subst e
    rw [if_neg (by omega), if_pos rfl, if_pos ⟨Nat.le_refl _, h, hb⟩]
  · by_cases h1 : m ≤ b ∧ b < n ∧ S.testBit b = true
    · rw [if_pos ⟨by omega, h1.2⟩, if_neg e, if_pos h1]
    · rw [if_neg (fun w => h1 ⟨by omega, w.2⟩), if_neg e, if_neg h1]
theorem addS_no (f g : Nat → Int) (S m n : Nat) (hb : ¬ S.testBit m = true) : addS f g S (m + 1) n = addS f g S m n := by
  funext b
  unfold addS
  by_cases h1 : m ≤ b ∧ b < n ∧ S.testBit b = true
  · have : b ≠ m := fun e => hb (by rw [← e]; exact h1.2.2)
    rw [if_pos ⟨by omega, h1.2⟩, if_pos h1]
  · rw [if_neg (fun w => h1 ⟨by omega, w.2⟩), if_neg h1]
theorem buy_L {τ : St} (hB : rg (τ.1 0 0) 0 4) (hf : rg (τ.1 0 3) 0 99) (hby : rg (τ.1 0 4) 1 20) (hcost : ∀ b : Nat, b < nB τ → rg (τ.1 2 b) 0 99) {l S part : Nat} (hl : l < 8) (hS : S < 16) (hpart : part ≤ 12) (w : Int) (p1 : Int32) (pa bo ho : Nat → Int) (kx : St → Int32 → Option (St × Unit)) :
    ∀ (n m : Nat) (so ea : Nat → Int), m ≤ nB τ → nB τ < m + n → fX9_buy_L119 p1 (Int64.ofInt w) (nI l) (nI S) (nI part) kx n (lg τ so ea pa bo ho) (nI m) = kx (lg τ (addS so (fun _ => w * part) S m (nB τ)) (addS ea (fun b => w * part * (prc τ l - cst τ b)) S m (nB τ)) pa bo ho) (nI (nB τ)) := by
  have hB4 : nB τ ≤ 4 := by unfold nB; have := hB.2; omega
  have eB : (τ.1 0 0).toInt = (nB τ : Int) := by unfold nB; have := hB.1; omega
  intro n
  induction n with
  | zero => intro m so ea h1 h2; exact absurd h2 (by omega)
  | succ n ih =>
    intro m so ea h1 h2
    rw [fX9_buy_L119]
    have em : (nI m).toInt = (m : Int) := nI_toInt (by omega)
    have e00 : (lg τ so ea pa bo ho).1 0 0 = τ.1 0 0 := rfl
    by_cases h : m = nB τ
    · have hc : (lg τ so ea pa bo ho).1 0 0 ≤ nI m := by rw [e00, le_i, eB, em]; omega
      rw [if_pos hc, h, addS_end, addS_end]
    · have hc : ¬ (lg τ so ea pa bo ho).1 0 0 ≤ nI m := by rw [e00, le_i, eB, em]; omega
      have hlt : m < nB τ := by omega
      have hin : inb (nI m) 4 = true := inb_nI (by omega) (by decide)
      have hixm : ix (nI m) = m := ix_nI (by omega)
      rw [if_neg hc, hasM _ hS (by omega), cl_some]
      simp only [jp_eq]
      by_cases hb : S.testBit m = true
      · rw [if_pos hb, if_neg one0, chk_t hin, chk_t hin, bnd_eq, chk_t hin, hixm]
        have e1 : (lg τ so ea pa bo ho).2 22 m = Int64.ofInt (so m) := rfl
        have ep : (nI part).toInt64 = Int64.ofInt (part : Int) := by rw [i64_of, nI_toInt (by omega)]
        rw [e1, ep, ← Int64.ofInt_mul, ← Int64.ofInt_add, lg_22]
        obtain ⟨q1, q2⟩ := priceM (τ := lg τ (wrI so m (so m + w * part)) ea pa bo ho) hf hby (k := l) (by omega)
        rw [q1, cl_some, chk_t hin, chk_t hin, bnd_eq, bnd_eq]
        have e2 : (lg τ (wrI so m (so m + w * part)) ea pa bo ho).2 23 m = Int64.ofInt (ea m) := rfl
        have hcm := hcost m hlt
        have hc1 := hcm.1
        have hc2 := hcm.2
        have hpr : 0 ≤ prc τ l ∧ prc τ l ≤ 300 := by
          have := hf.1
          have := hf.2
          have := hby.1
          have := hby.2
          unfold prc
          have a1 : 0 ≤ (l : Int) * (τ.1 0 4).toInt := Int.mul_nonneg (by omega) (by omega)
          have a2 := Int.mul_le_mul (show (l : Int) ≤ 8 by omega) (show (τ.1 0 4).toInt ≤ 20 by omega) (by omega) (by omega)
          omega
        have q3 : ((lg τ (wrI so m (so m + w * part)) ea pa bo ho).1 0 3 + (nI l * (lg τ (wrI so m (so m + w * part)) ea pa bo ho).1 0 4)).toInt = prc τ l := q2
        have e3 : (((lg τ (wrI so m (so m + w * part)) ea pa bo ho).1 0 3 + (nI l * (lg τ (wrI so m (so m + w * part)) ea pa bo ho).1 0 4)) - (lg τ (wrI so m (so m + w * part)) ea pa bo ho).1 2 m).toInt64 = Int64.ofInt (prc τ l - cst τ m) := by
          have e4 : (lg τ (wrI so m (so m + w * part)) ea pa bo ho).1 2 m = τ.1 2 m := rfl
          rw [i64_of, i32_sub (by rw [q3, e4]; omega) (by rw [q3, e4]; omega), q3, e4]
          rfl
        rw [e2, e3, ← Int64.ofInt_mul, ← Int64.ofInt_add, lg_23, ← nI_succ, ih (m + 1) _ _ (by omega) (by omega)]
        rw [addS_yes so (fun _ => w * part) S m (nB τ) hlt hb, addS_yes ea (fun b => w * part * (prc τ l - cst τ b)) S m (nB τ) hlt hb]
      · rw [if_neg hb, if_pos rfl, bnd_eq, ← nI_succ, ih (m + 1) _ _ (by omega) (by omega), addS_no _ _ _ _ _ hb, addS_no _ _ _ _ _ hb]
