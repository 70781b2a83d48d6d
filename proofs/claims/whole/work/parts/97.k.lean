/-! lots -/
theorem gnS_P {τ : St} (sh : Prop) [Decidable sh] (dr : Nat → Nat) {P Q : Nat → Nat → Int} {b : Nat} (k : Nat) (h : ∀ j : Nat, j < nB τ → j ≠ b → ∀ k : Nat, k < nK τ → P j k = Q j k) : gnS τ sh dr P b k = gnS τ sh dr Q b k := exO_P (nB τ) _ h
theorem gnS_bW {τ : St} (h : okM τ) (sh : Prop) [Decidable sh] (dr : Nat → Nat) {P : Nat → Nat → Int} (hW : okW τ P) {b k : Nat} (hb : b < nB τ) (hk : k < nK τ) : -68428800000000 ≤ gnS τ sh dr P b k ∧ gnS τ sh dr P b k ≤ 68428800000000 := by
  have h4 := h.n4
  have h8 := h.k8
  have a := exO_abs (K := nK τ) (b := b) (P := P) (c := 100) (B := 68428800) (by omega) (by omega) (by omega) (nB τ) (fun r => earnF τ sh dr b (upN r b k)) (fun j hj _ => ⟨fun k hk => ((hW j hj).1 k (by omega)).1, by
    have := sumN_tail (f := P j) (K := nK τ) (m := 8) (by omega) (fun k h1 h2 => ((hW j hj).1 k h2).2.2 h1)
    rw [← this, (hW j hj).2]
    omega⟩) (fun r hr => earnF_b h sh dr hb (upN8 hr (by omega))) hb
  have hp : (100 : Int) ^ (nB τ - 1) ≤ 1000000 := by
    have : nB τ - 1 = 0 ∨ nB τ - 1 = 1 ∨ nB τ - 1 = 2 ∨ nB τ - 1 = 3 := by omega
    rcases this with e | e | e | e <;> rw [e] <;> decide
  have hq : (100 : Int) ^ (nB τ - 1) * 68428800 ≤ 1000000 * 68428800 := Int.mul_le_mul_of_nonneg_right hp (by omega)
  unfold gnS
  omega
theorem okW_put {τ : St} {P : Nat → Nat → Int} (hW : okW τ P) (a : Nat) {s : Nat} (hs8 : s < 8) (hs : s < nK τ) : okW τ (putP P a s) := by
  intro b hb
  by_cases e : b = a
  · have ee : putP P a s b = fun k => if k = s then (100 : Int) else 0 := by funext k; unfold putP; rw [if_pos e]
    rw [ee]
    refine ⟨fun k hk => ?_, sum_put s hs8⟩
    show 0 ≤ (if k = s then (100 : Int) else 0) ∧ (if k = s then (100 : Int) else 0) ≤ 100 ∧ (nK τ ≤ k → (if k = s then (100 : Int) else 0) = 0)
    by_cases q : k = s
    · rw [if_pos q]; exact ⟨by omega, by omega, fun w => by omega⟩
    · rw [if_neg q]; exact ⟨by omega, by omega, fun _ => rfl⟩
  · have ee : putP P a s b = P b := by funext k; unfold putP; rw [if_neg e]
    rw [ee]
    exact hW b hb
theorem putP_comm (P : Nat → Nat → Int) {a b : Nat} (hab : a ≠ b) (x y : Nat) : putP (putP P a x) b y = putP (putP P b y) a x := by
  funext j k
  unfold putP
  by_cases e1 : j = a
  · subst e1
    rw [if_neg hab, if_pos rfl, if_pos rfl]
  · by_cases e2 : j = b
    · rw [if_pos e2, if_neg e1, if_pos e2]
    · rw [if_neg e2, if_neg e1, if_neg e1, if_neg e2]
theorem i64_lt {x y : Int} (hx : -4000000000000000000 ≤ x ∧ x ≤ 4000000000000000000) (hy : -4000000000000000000 ≤ y ∧ y ≤ 4000000000000000000) : (lg_cmp (Int64.ofInt x) (Int64.ofInt y) < 0 ↔ x < y) ∧ (lg_cmp (Int64.ofInt x) (Int64.ofInt y) ≤ 0 ↔ x ≤ y) ∧ (0 < lg_cmp (Int64.ofInt x) (Int64.ofInt y) ↔ y < x) ∧ (0 ≤ lg_cmp (Int64.ofInt x) (Int64.ofInt y) ↔ y ≤ x) := by
  refine ⟨?_, ?_, ?_, ?_⟩
  · rw [lg_cmp_lt, Int64.lt_iff_toInt_lt, i64o (by omega) (by omega), i64o (by omega) (by omega)]
  · rw [lg_cmp_le, Int64.le_iff_toInt_le, i64o (by omega) (by omega), i64o (by omega) (by omega)]
  · rw [lg_cmp_gt, Int64.lt_iff_toInt_lt, i64o (by omega) (by omega), i64o (by omega) (by omega)]
  · rw [lg_cmp_ge, Int64.le_iff_toInt_le, i64o (by omega) (by omega), i64o (by omega) (by omega)]
/-! Euclid -/
theorem rem64 {x y : Nat} (hx : x < 4000000000000000000) (hy : y < 4000000000000000000) (h0 : 0 < y) : Int64.ofInt (x : Int) - Int64.ofInt (x : Int) / Int64.ofInt (y : Int) * Int64.ofInt (y : Int) = Int64.ofInt ((x % y : Nat) : Int) := by
  have mx : Int64.maxValue.toInt = 9223372036854775807 := by decide
  have mn : Int64.minValue.toInt = -9223372036854775808 := by decide
  rw [← Int64.ofInt_tdiv (by rw [mn]; omega) (by rw [mx]; omega) (by rw [mn]; omega) (by rw [mx]; omega), ← Int64.ofInt_mul, ← Int64.ofInt_sub]
  congr 1
  rw [Int.tdiv_eq_ediv_of_nonneg (by omega)]
  have e := Int.mul_ediv_add_emod (x : Int) (y : Int)
  rw [Int.natCast_emod]
  rw [Int.mul_comm (y : Int)] at e
  omega
theorem half {x y : Nat} (hr : 0 < x % y) (hy : 0 < y) : 2 * (y % (x % y)) < y := by
  have h1 := Nat.mod_lt x hy
  have h2 := Nat.mod_lt y hr
  rcases Nat.lt_or_ge y (2 * (x % y)) with w | w
  · have : y % (x % y) = y - x % y := by
      rw [Nat.mod_eq_sub_mod (by omega), Nat.mod_eq_of_lt (by omega)]
    omega
  · omega
theorem ne64 {y : Nat} (hy : y < 4000000000000000000) (h0 : 0 < y) : ¬ Int64.ofInt (y : Int) = 0 := fun w => by
  have := congrArg Int64.toInt w
  rw [i64o (by omega) (by omega)] at this
  have z : (0 : Int64).toInt = 0 := by decide
  omega
theorem euclC (σ : St) : ∀ (t n x y c : Nat), 2 * t < n → y < 2 ^ t → x < 4000000000000000000 → y < 4000000000000000000 → c + 2 * t < 1000 → fX1_divisorOf_L9 (fun (σ_8 : St) (x4_9 : Int64) (_ : Int64) (_ : Int32) => some (σ_8, x4_9)) n σ (Int64.ofInt (x : Int)) (Int64.ofInt (y : Int)) (nI c) = some (σ, Int64.ofInt ((Nat.gcd y x : Nat) : Int)) := by
  have z1000 : (1000 : Int32).toInt = 1000 := by decide
  have zc : lg_cmp (Int64.ofInt ((0 : Nat) : Int)) 0 = 0 := (lg0 _).mpr rfl
  intro t
  induction t with
  | zero =>
    intro n x y c h1 h2 h3 h4 h5
    have y0 : y = 0 := by simpa using h2
    subst y0
    match n, h1 with
    | n + 1, _ =>
      rw [fX1_divisorOf_L9, if_neg (by rw [le_i, nI_toInt (by omega), z1000]; omega), if_pos zc, Nat.gcd_zero_left]
  | succ t ih =>
    intro n x y c h1 h2 h3 h4 h5
    match n, h1 with
    | n + 2, h1 =>
      rw [fX1_divisorOf_L9, if_neg (by rw [le_i, nI_toInt (by omega), z1000]; omega)]
      by_cases y0 : y = 0
      · subst y0
        rw [if_pos zc, Nat.gcd_zero_left]
      · have yp : 0 < y := by omega
        have hm := Nat.mod_lt x yp
        rw [if_neg (fun q => ne64 h4 yp ((lg0 _).mp q)), chk_t (decide_eq_true (ne64 h4 yp)), rem64 h3 h4 yp, bnd_eq, bnd_eq, bnd_eq, bnd_eq, ← nI_succ, fX1_divisorOf_L9, if_neg (by rw [le_i, nI_toInt (by omega), z1000]; omega)]
        by_cases r0 : x % y = 0
        · rw [r0, if_pos zc, Nat.gcd_rec, r0, Nat.gcd_zero_left]
        · have rp : 0 < x % y := by omega
          have hh := half rp yp
          have h2' : y < 2 ^ t * 2 := by rw [← Nat.pow_succ]; exact h2
          have hm2 := Nat.mod_lt y rp
          rw [if_neg (fun q => ne64 (by omega) rp ((lg0 _).mp q)), chk_t (decide_eq_true (ne64 (by omega) rp)), rem64 h4 (by omega) rp, bnd_eq, bnd_eq, bnd_eq, bnd_eq, ← nI_succ, ih n (x % y) (y % (x % y)) (c + 1 + 1) (by omega) (by omega) (by omega) (by omega) (by omega), Nat.gcd_rec y x, Nat.gcd_rec (x % y) y]
theorem euclM (σ : St) : ∀ (t n x y : Nat), 2 * t < n → y < 2 ^ t → x < 4000000000000000000 → y < 4000000000000000000 → fX9_divisor_L12 (fun (σ_8 : St) (x4_9 : Int64) (_ : Int64) => some (σ_8, x4_9)) n σ (Int64.ofInt (x : Int)) (Int64.ofInt (y : Int)) = some (σ, Int64.ofInt ((Nat.gcd y x : Nat) : Int)) := by
  have le0 : ∀ y : Nat, y < 4000000000000000000 → ((lg_cmp (Int64.ofInt (y : Int)) 0 ≤ 0) ↔ y = 0) := fun y hy => by
    have := (i64_lt (x := (y : Int)) (y := 0) (by omega) (by omega)).2.1
    rw [show Int64.ofInt 0 = 0 from rfl] at this
    rw [this]
    omega
  intro t
  induction t with
  | zero =>
    intro n x y h1 h2 h3 h4
    have y0 : y = 0 := by simpa using h2
    subst y0
    match n, h1 with
    | n + 1, _ =>
      rw [fX9_divisor_L12, if_pos ((le0 0 (by omega)).mpr rfl), Nat.gcd_zero_left]
  | succ t ih =>
    intro n x y h1 h2 h3 h4
    match n, h1 with
    | n + 2, h1 =>
      rw [fX9_divisor_L12]
      by_cases y0 : y = 0
      · subst y0
        rw [if_pos ((le0 0 (by omega)).mpr rfl), Nat.gcd_zero_left]
      · have yp : 0 < y := by omega
        have hm := Nat.mod_lt x yp
        rw [if_neg (fun q => y0 ((le0 y h4).mp q)), chk_t (decide_eq_true (ne64 h4 yp)), rem64 h3 h4 yp, bnd_eq, bnd_eq, bnd_eq, fX9_divisor_L12]
        by_cases r0 : x % y = 0
        · rw [r0, if_pos ((le0 0 (by omega)).mpr rfl), Nat.gcd_rec, r0, Nat.gcd_zero_left]
        · have rp : 0 < x % y := by omega
          have hh := half rp yp
          have h2' : y < 2 ^ t * 2 := by rw [← Nat.pow_succ]; exact h2
          have hm2 := Nat.mod_lt y rp
          rw [if_neg (fun q => r0 ((le0 _ (by omega)).mp q)), chk_t (decide_eq_true (ne64 (by omega) rp)), rem64 h4 (by omega) rp, bnd_eq, bnd_eq, bnd_eq, ih n (x % y) (y % (x % y)) (by omega) (by omega) (by omega) (by omega), Nat.gcd_rec y x, Nat.gcd_rec (x % y) y]
theorem abs64 {x : Int} (hx : -3000000000000000000 ≤ x ∧ x ≤ 3000000000000000000) : (if (0 : Int64) < Int64.ofInt x then Int64.ofInt x else -Int64.ofInt x) = Int64.ofInt ((x.natAbs : Nat) : Int) := by
  have z0 : (0 : Int64).toInt = 0 := by decide
  have c : ((0 : Int64) < Int64.ofInt x) ↔ 0 < x := by rw [Int64.lt_iff_toInt_lt, i64o (by omega) (by omega), z0]
  by_cases w : 0 < x
  · rw [if_pos (c.mpr w)]
    congr 1
    omega
  · rw [if_neg (fun q => w (c.mp q)), ← Int64.ofInt_neg]
    congr 1
    omega
theorem divC (σ : St) {x y : Int} (hx : -3000000000000000000 ≤ x ∧ x ≤ 3000000000000000000) (hy : -3000000000000000000 ≤ y ∧ y ≤ 3000000000000000000) : fX1_divisorOf σ (Int64.ofInt ((x.natAbs : Nat) : Int)) (Int64.ofInt ((y.natAbs : Nat) : Int)) = some (σ, Int64.ofInt ((Nat.gcd y.natAbs x.natAbs : Nat) : Int)) := by
  unfold fX1_divisorOf
  rw [bnd_eq, bnd_eq, bnd_eq]
  exact euclC σ 62 FU x.natAbs y.natAbs 0 (by decide) (by omega) (by omega) (by omega) (by omega)
theorem divM (σ : St) {x y : Int} (hx : -3000000000000000000 ≤ x ∧ x ≤ 3000000000000000000) (hy : -3000000000000000000 ≤ y ∧ y ≤ 3000000000000000000) : fX9_divisor σ (Int64.ofInt x) (Int64.ofInt y) = some (σ, Int64.ofInt ((Nat.gcd y.natAbs x.natAbs : Nat) : Int)) := by
  unfold fX9_divisor
  rw [abs64 hx, abs64 hy, bnd_eq, bnd_eq, bnd_eq, bnd_eq]
  exact euclM σ 62 FU x.natAbs y.natAbs (by decide) (by omega) (by omega) (by omega)
/-- what share answers: z of part and whole, by their divisor -/
def shV (pt wh z : Int) : Int64 := Int64.ofInt (z.tdiv (((Nat.gcd wh.natAbs pt.natAbs : Nat) : Int) * (if wh < 0 then -1 else 1)))
