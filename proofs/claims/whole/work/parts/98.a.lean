/-! rests: places, codes, bits -/
def valN (B : Nat) : Nat → (Nat → Nat) → Nat
  | 0, _ => 0
  | n + 1, r => r n * B ^ n + valN B n r
theorem valN_congr {B : Nat} {r s : Nat → Nat} : ∀ n : Nat, (∀ b : Nat, b < n → r b = s b) → valN B n r = valN B n s := by
  intro n
  induction n with
  | zero => intro _; rfl
  | succ n ih => intro h; rw [valN, valN, ih (fun b hb => h b (by omega)), h n (by omega)]
theorem valN_lt {B : Nat} {r : Nat → Nat} : ∀ n : Nat, (∀ b : Nat, b < n → r b < B) → valN B n r < B ^ n := by
  intro n
  induction n with
  | zero => intro _; exact Nat.one_pos
  | succ n ih =>
    intro h
    have i1 := ih (fun b hb => h b (by omega))
    have i2 := h n (by omega)
    have : (r n + 1) * B ^ n ≤ B * B ^ n := Nat.mul_le_mul_right _ (by omega)
    rw [Nat.succ_mul] at this
    rw [valN, Nat.pow_succ']
    omega
theorem rowAt_val {B : Nat} {r : Nat → Nat} : ∀ n : Nat, (∀ b : Nat, b < n → r b < B) → ∀ b : Nat, b < n → rowAt B (valN B n r) b = r b := by
  intro n
  induction n with
  | zero => intro _ b hb; omega
  | succ n ih =>
    intro h b hb
    have i1 := valN_lt n (fun b hb => h b (by omega))
    rw [valN, rowAt_hi i1 (h n (by omega))]
    unfold upN
    by_cases e : b = n
    · rw [if_pos e, e]
    · rw [if_neg e]
      exact ih (fun b hb => h b (by omega)) b (by omega)
theorem val_rowAt {B : Nat} (hB : 0 < B) : ∀ (n c : Nat), c < B ^ n → valN B n (rowAt B c) = c := by
  intro n
  induction n with
  | zero => intro c hc; have : c < 1 := hc
            show 0 = c
            omega
  | succ n ih =>
    intro c hc
    have hp : 0 < B ^ n := Nat.pow_pos hB
    have d1 : c / B ^ n < B := by
      rw [Nat.div_lt_iff_lt_mul hp]
      rw [Nat.pow_succ'] at hc
      exact hc
    have e1 : c = c / B ^ n * B ^ n + c % B ^ n := by
      have := Nat.div_add_mod c (B ^ n)
      rw [Nat.mul_comm] at this
      omega
    have hm : c % B ^ n < B ^ n := Nat.mod_lt _ hp
    have er : rowAt B c = upN (rowAt B (c % B ^ n)) n (c / B ^ n) := by
      have := rowAt_hi (K := B) (n := n) hm d1
      rw [← e1] at this
      exact this
    rw [valN]
    have en : rowAt B c n = c / B ^ n := by rw [er]; unfold upN; rw [if_pos rfl]
    have ev : valN B n (rowAt B c) = c % B ^ n := (valN_congr n (fun b hb => by
      rw [er]
      unfold upN
      rw [if_neg (by omega)])).trans (ih (c % B ^ n) hm)
    rw [en, ev]
    omega
theorem valN_up {B b k : Nat} {r : Nat → Nat} : ∀ n : Nat, b < n → valN B n (upN r b k) + r b * B ^ b = valN B n r + k * B ^ b := by
  intro n
  induction n with
  | zero => intro h; omega
  | succ n ih =>
    intro h
    rw [valN, valN]
    by_cases e : b = n
    · subst e
      have e1 : upN r b k b = k := by unfold upN; rw [if_pos rfl]
      have e2 : valN B b (upN r b k) = valN B b r := valN_congr b (fun x hx => by unfold upN; rw [if_neg (by omega)])
      rw [e1, e2]
      omega
    · have e1 : upN r b k n = r n := by unfold upN; rw [if_neg (by omega)]
      have := ih (by omega)
      rw [e1]
      omega
/-- the order of rows is that of the last baker's steps first -/
theorem val_cmp {A B : Nat} {r s : Nat → Nat} : ∀ n : Nat, (∀ b : Nat, b < n → r b < A ∧ r b < B) → (∀ b : Nat, b < n → s b < A ∧ s b < B) → valN A n r < valN A n s → valN B n r < valN B n s := by
  intro n
  induction n with
  | zero => intro _ _ h; exact absurd h (Nat.lt_irrefl _)
  | succ n ih =>
    intro hr hs h
    rw [valN, valN] at h ⊢
    have rA := valN_lt (B := A) n (fun b hb => (hr b (by omega)).1)
    have sA := valN_lt (B := A) n (fun b hb => (hs b (by omega)).1)
    have rB := valN_lt (B := B) n (fun b hb => (hr b (by omega)).2)
    have sB := valN_lt (B := B) n (fun b hb => (hs b (by omega)).2)
    by_cases w : r n < s n
    · have : (r n + 1) * B ^ n ≤ s n * B ^ n := Nat.mul_le_mul_right _ w
      rw [Nat.succ_mul] at this
      omega
    · by_cases w2 : r n = s n
      · rw [w2] at h ⊢
        have := ih (fun b hb => hr b (by omega)) (fun b hb => hs b (by omega)) (by omega)
        omega
      · have : (s n + 1) * A ^ n ≤ r n * A ^ n := Nat.mul_le_mul_right _ (by omega)
        rw [Nat.succ_mul] at this
        omega
/-- the code of the row at a place -/
def enc8 (K n p : Nat) : Nat := valN 8 n (rowAt K p)
theorem enc8_row {K n p : Nat} (hK : 0 < K) (h8 : K ≤ 8) (hp : p < K ^ n) : rowAt 8 (enc8 K n p) = rowAt K p := by
  have d : ∀ b : Nat, b < n → rowAt K p b < 8 := fun b _ => Nat.lt_of_lt_of_le (rowAt_lt hK) h8
  funext b
  by_cases hb : b < n
  · exact rowAt_val n d b hb
  · show rowAt 8 (valN 8 n (rowAt K p)) b = _
    rw [rowAt_big hK hp (by omega), rowAt_big (p := b) (by decide) (valN_lt n d) (by omega)]
theorem enc8_lt {K n p : Nat} (hK : 0 < K) (h8 : K ≤ 8) : enc8 K n p < 8 ^ n := valN_lt n (fun _ _ => Nat.lt_of_lt_of_le (rowAt_lt hK) h8)
theorem enc8_mono {K n p q : Nat} (hK : 0 < K) (h8 : K ≤ 8) (hp : p < K ^ n) (hq : q < K ^ n) (h : p < q) : enc8 K n p < enc8 K n q := by
  have dd : ∀ x b : Nat, b < n → rowAt K x b < K ∧ rowAt K x b < 8 := fun x b _ => by
    have := rowAt_lt (K := K) (c := x) (b := b) hK
    omega
  exact val_cmp (A := K) (B := 8) n (dd p) (dd q) (by rw [val_rowAt hK n p hp, val_rowAt hK n q hq]; exact h)
theorem enc8_onto {K n c : Nat} (hK : 0 < K) (hc : c < 8 ^ n) (hd : ∀ b : Nat, b < n → rowAt 8 c b < K) : ∃ p : Nat, p < K ^ n ∧ enc8 K n p = c := by
  refine ⟨valN K n (rowAt 8 c), valN_lt n hd, ?_⟩
  unfold enc8
  rw [valN_congr n (fun b hb => rowAt_val n hd b hb)]
  exact val_rowAt (by decide) n c hc
def cntN (f : Nat → Bool) : Nat → Nat
  | 0 => 0
  | m + 1 => cntN f m + (if f m = true then 1 else 0)
def nthN (f : Nat → Bool) (k : Nat) : Nat → Option Nat
  | 0 => none
  | m + 1 => match nthN f k m with
    | some j => some j
    | none => if f m = true ∧ cntN f m = k then some m else none
theorem cntN_le {f : Nat → Bool} : ∀ m n : Nat, m ≤ n → cntN f m ≤ cntN f n := by
  intro m n
  induction n with
  | zero => intro h; have : m = 0 := by omega
            subst this; exact Nat.le_refl _
  | succ n ih =>
    intro h
    by_cases e : m = n + 1
    · subst e; exact Nat.le_refl _
    · have := ih (by omega)
      rw [cntN]
      omega
theorem cntN_ub {f : Nat → Bool} : ∀ m : Nat, cntN f m ≤ m := by
  intro m
  induction m with
  | zero => exact Nat.le_refl _
  | succ m ih => rw [cntN]; split <;> omega
theorem cntN_y {f : Nat → Bool} {m : Nat} (h : f m = true) : cntN f (m + 1) = cntN f m + 1 := by rw [cntN, if_pos h]
theorem cntN_n {f : Nat → Bool} {m : Nat} (h : ¬ f m = true) : cntN f (m + 1) = cntN f m := by rw [cntN, if_neg h]; rfl
theorem nthN_s {f : Nat → Bool} {k j : Nat} : ∀ m n : Nat, m ≤ n → nthN f k m = some j → nthN f k n = some j := by
  intro m n
  induction n with
  | zero => intro h1 h2; have : m = 0 := by omega
            subst this; exact h2
  | succ n ih =>
    intro h1 h2
    by_cases e : m = n + 1
    · subst e; exact h2
    · rw [nthN, ih (by omega) h2]
theorem nthN_y {f : Nat → Bool} {k m : Nat} (h : nthN f k m = none) (q : f m = true ∧ cntN f m = k) : nthN f k (m + 1) = some m := by rw [nthN, h]; exact if_pos q
theorem nthN_n {f : Nat → Bool} {k m : Nat} (h : nthN f k m = none) (q : ¬ (f m = true ∧ cntN f m = k)) : nthN f k (m + 1) = none := by rw [nthN, h]; exact if_neg q
theorem nthN_some {f : Nat → Bool} {k j : Nat} : ∀ m : Nat, nthN f k m = some j → j < m ∧ f j = true ∧ cntN f j = k := by
  intro m
  induction m with
  | zero => intro h; cases h
  | succ m ih =>
    intro h
    cases e : nthN f k m with
    | some q => rw [nthN_s m (m + 1) (by omega) e] at h; cases h; have := ih e; exact ⟨by omega, this.2⟩
    | none =>
      by_cases q : f m = true ∧ cntN f m = k
      · rw [nthN_y e q] at h; cases h; exact ⟨by omega, q⟩
      · rw [nthN_n e q] at h; cases h
theorem nthN_of {f : Nat → Bool} {k j m : Nat} (hj : j < m) (h1 : f j = true) (h2 : cntN f j = k) : nthN f k m = some j := by
  have key : nthN f k j = none := by
    cases e : nthN f k j with
    | none => rfl
    | some q =>
      have a := nthN_some j e
      have b := cntN_le (f := f) (q + 1) j (by omega)
      rw [cntN_y a.2.1] at b
      omega
  exact nthN_s (j + 1) m (by omega) (nthN_y key ⟨h1, h2⟩)
theorem nthN_none {f : Nat → Bool} {k : Nat} {m : Nat} (h : nthN f k m = none) : cntN f m ≤ k := by
  have gen : ∀ m : Nat, nthN f k m = none → cntN f m ≤ k := by
    intro m
    induction m with
    | zero => intro _; exact Nat.zero_le _
    | succ m ih =>
      intro h
      cases e : nthN f k m with
      | some q => rw [nthN_s m (m + 1) (by omega) e] at h; cases h
      | none =>
        have i1 := ih e
        by_cases w : f m = true
        · rw [cntN_y w]
          by_cases w2 : cntN f m = k
          · rw [nthN_y e ⟨w, w2⟩] at h; cases h
          · omega
        · rw [cntN_n w]; exact i1
  exact gen m h
theorem nthN_ge {f : Nat → Bool} {k m : Nat} (h : cntN f m ≤ k) : nthN f k m = none := by
  cases e : nthN f k m with
  | none => rfl
  | some j =>
    have a := nthN_some m e
    have b := cntN_le (f := f) (j + 1) m (by omega)
    rw [cntN_y a.2.1] at b
    omega
/-- counted by codes or by places: alike -/
theorem cnt_enc {K n : Nat} (hK : 0 < K) (h8 : K ≤ 8) {f8 fK : Nat → Bool} (h1 : ∀ p : Nat, p < K ^ n → f8 (enc8 K n p) = fK p) (h2 : ∀ c : Nat, c < 8 ^ n → f8 c = true → ∀ b : Nat, b < n → rowAt 8 c b < K) : ∀ p : Nat, p < K ^ n → cntN f8 (enc8 K n p) = cntN fK p := by
  have gap : ∀ a d : Nat, (∀ c : Nat, a ≤ c → c < a + d → ¬ f8 c = true) → cntN f8 (a + d) = cntN f8 a := by
    intro a d
    induction d with
    | zero => intro _; rfl
    | succ d ih =>
      intro h
      rw [show a + (d + 1) = (a + d) + 1 by omega, cntN_n (h (a + d) (by omega) (by omega))]
      exact ih (fun c c1 c2 => h c c1 (by omega))
  intro p
  induction p with
  | zero =>
    intro _
    have : enc8 K n 0 = 0 := by
      unfold enc8
      have z : ∀ m : Nat, valN 8 m (rowAt K 0) = 0 := by
        intro m
        induction m with
        | zero => rfl
        | succ m ih => rw [valN, ih]; unfold rowAt; rw [Nat.zero_div, Nat.zero_mod, Nat.zero_mul]
      exact z n
    rw [this]
    rfl
  | succ p ih =>
    intro hp
    have i1 := ih (by omega)
    have m1 := enc8_mono hK h8 (show p < K ^ n by omega) hp (by omega)
    have l1 := enc8_lt (K := K) (n := n) (p := p + 1) hK h8
    have g := gap (enc8 K n p + 1) (enc8 K n (p + 1) - (enc8 K n p + 1)) (fun c c1 c2 q => by
      obtain ⟨x, x1, x2⟩ := enc8_onto hK (show c < 8 ^ n by omega) (h2 c (by omega) q)
      by_cases u : x ≤ p
      · by_cases u2 : x = p
        · subst u2; omega
        · have := enc8_mono hK h8 x1 (show p < K ^ n by omega) (show x < p by omega)
          omega
      · by_cases u2 : x = p + 1
        · subst u2; omega
        · have := enc8_mono hK h8 hp x1 (show p + 1 < x by omega)
          omega)
    rw [show enc8 K n p + 1 + (enc8 K n (p + 1) - (enc8 K n p + 1)) = enc8 K n (p + 1) by omega] at g
    rw [g]
    rw [cntN, cntN, i1, h1 p (by omega)]
theorem cnt_all {K n : Nat} (hK : 0 < K) (h8 : K ≤ 8) {f8 fK : Nat → Bool} (h1 : ∀ p : Nat, p < K ^ n → f8 (enc8 K n p) = fK p) (h2 : ∀ c : Nat, c < 8 ^ n → f8 c = true → ∀ b : Nat, b < n → rowAt 8 c b < K) : cntN f8 (8 ^ n) = cntN fK (K ^ n) := by
  have hp : 0 < K ^ n := Nat.pow_pos hK
  have key := cnt_enc hK h8 h1 h2 (K ^ n - 1) (by omega)
  have l1 := enc8_lt (K := K) (n := n) (p := K ^ n - 1) hK h8
  have gap : ∀ d : Nat, enc8 K n (K ^ n - 1) + 1 + d ≤ 8 ^ n → cntN f8 (enc8 K n (K ^ n - 1) + 1 + d) = cntN f8 (enc8 K n (K ^ n - 1) + 1) := by
    intro d
    induction d with
    | zero => intro _; rfl
    | succ d ih =>
      intro h
      rw [← ih (by omega), show enc8 K n (K ^ n - 1) + 1 + (d + 1) = (enc8 K n (K ^ n - 1) + 1 + d) + 1 by omega]
      refine cntN_n (fun q => ?_)
      obtain ⟨x, x1, x2⟩ := enc8_onto hK (show enc8 K n (K ^ n - 1) + 1 + d < 8 ^ n by omega) (h2 _ (by omega) q)
      by_cases u2 : x = K ^ n - 1
      · subst u2; omega
      · have := enc8_mono hK h8 x1 (show K ^ n - 1 < K ^ n by omega) (show x < K ^ n - 1 by omega)
        omega
  have g := gap (8 ^ n - (enc8 K n (K ^ n - 1) + 1)) (by omega)
  rw [show enc8 K n (K ^ n - 1) + 1 + (8 ^ n - (enc8 K n (K ^ n - 1) + 1)) = 8 ^ n by omega] at g
  have e3 : cntN fK (K ^ n - 1 + 1) = cntN fK (K ^ n - 1) + (if fK (K ^ n - 1) = true then 1 else 0) := rfl
  rw [show K ^ n - 1 + 1 = K ^ n by omega] at e3
  rw [g, cntN, key, h1 (K ^ n - 1) (by omega), e3]
theorem nth_enc {K n k : Nat} (hK : 0 < K) (h8 : K ≤ 8) {f8 fK : Nat → Bool} (h1 : ∀ p : Nat, p < K ^ n → f8 (enc8 K n p) = fK p) (h2 : ∀ c : Nat, c < 8 ^ n → f8 c = true → ∀ b : Nat, b < n → rowAt 8 c b < K) : nthN f8 k (8 ^ n) = (nthN fK k (K ^ n)).map (enc8 K n) := by
  cases e : nthN fK k (K ^ n) with
  | none =>
    have := nthN_none e
    rw [← cnt_all hK h8 h1 h2] at this
    exact nthN_ge this
  | some p =>
    have a := nthN_some _ e
    exact nthN_of (enc8_lt hK h8) (by rw [h1 p a.1]; exact a.2.1) (by rw [cnt_enc hK h8 h1 h2 p a.1]; exact a.2.2)
/-! bits of a mark -/
theorem sh31 : ∀ k : Nat, k < 32 → ((nI k &&& 31 : Int32).toBitVec.smod 32).toNat = k := by decide +kernel
theorem frB_bit {x : Int32} {k : Nat} (hk : k < 32) : frB x k ↔ x.toBitVec.getLsbD k = true := by
  have e : ((x >>> (nI k &&& 31)) &&& (1 : Int32)).toBitVec = (x.toBitVec.sshiftRight k) &&& 1#32 := by
    rw [Int32.toBitVec_and, Int32.toBitVec_shiftRight, BitVec.sshiftRight_eq', sh31 k hk]
    rfl
  have e2 : (x.toBitVec.sshiftRight k).getLsbD 0 = x.toBitVec.getLsbD k := by
    rw [BitVec.getLsbD_sshiftRight, if_pos (by omega)]
    simp
  rw [BitVec.and_one_eq_setWidth_ofBool_getLsbD, e2] at e
  unfold frB
  constructor
  · intro q
    cases g : x.toBitVec.getLsbD k with
    | true => rfl
    | false =>
      rw [g] at e
      exact absurd (Int32.toBitVec_inj.mp (e.trans (by decide : _ = (0 : Int32).toBitVec))) q
  · intro q z
    rw [q, z] at e
    exact absurd e (by decide)
theorem frB_clr {x y : Int32} {k : Nat} (hk : k < 32) : frB (x &&& (y ^^^ (-1 : Int32))) k ↔ frB x k ∧ ¬ frB y k := by
  rw [frB_bit hk, frB_bit hk, frB_bit hk, Int32.toBitVec_and, Int32.toBitVec_xor, BitVec.getLsbD_and, BitVec.getLsbD_xor]
  have e : (-1 : Int32).toBitVec.getLsbD k = true := by
    have : ∀ k : Nat, k < 32 → (-1 : Int32).toBitVec.getLsbD k = true := by decide +kernel
    exact this k hk
  rw [e]
  cases x.toBitVec.getLsbD k <;> cases y.toBitVec.getLsbD k <;> decide
theorem frB_one : ∀ i : Nat, i < 22 → ∀ k : Nat, k < 22 → (frB ((1 : Int32) <<< (nI i &&& 31)) k ↔ k = i) := by decide +kernel
theorem frB_low : ∀ c : Nat, c < 22 → ∀ k : Nat, k < 22 → (frB (((1 : Int32) <<< (nI c &&& 31)) - 1) k ↔ k < c) := by decide +kernel
theorem frB_0 (x : Int32) : frB x 0 ↔ (x &&& 1).toInt = 1 := by
  rw [frB_bit (by omega)]
  have e : (x &&& (1 : Int32)).toBitVec = BitVec.setWidth 32 (BitVec.ofBool (x.toBitVec.getLsbD 0)) := by
    rw [Int32.toBitVec_and]
    exact BitVec.and_one_eq_setWidth_ofBool_getLsbD
  have e2 : (x &&& (1 : Int32)).toInt = (x &&& (1 : Int32)).toBitVec.toInt := rfl
  rw [e2, e]
  cases x.toBitVec.getLsbD 0 <;> decide
theorem frB_v {x : Int32} {k : Nat} (hk : k < 32) : ((x >>> (nI k &&& 31)) &&& (1 : Int32)) = if x.toBitVec.getLsbD k = true then 1 else 0 := by
  have e : ((x >>> (nI k &&& 31)) &&& (1 : Int32)).toBitVec = (x.toBitVec.sshiftRight k) &&& 1#32 := by
    rw [Int32.toBitVec_and, Int32.toBitVec_shiftRight, BitVec.sshiftRight_eq', sh31 k hk]
    rfl
  have e2 : (x.toBitVec.sshiftRight k).getLsbD 0 = x.toBitVec.getLsbD k := by
    rw [BitVec.getLsbD_sshiftRight, if_pos (by omega)]
    simp
  rw [BitVec.and_one_eq_setWidth_ofBool_getLsbD, e2] at e
  cases g : x.toBitVec.getLsbD k with
  | true => rw [g] at e; rw [if_pos rfl]; exact Int32.toBitVec_inj.mp (e.trans (by decide))
  | false => rw [g] at e; rw [if_neg (by decide)]; exact Int32.toBitVec_inj.mp (e.trans (by decide))
