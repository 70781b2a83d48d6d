/-! sums -/
theorem sumN_congr {f g : Nat → Int} : ∀ n : Nat, (∀ k : Nat, k < n → f k = g k) → sumN n f = sumN n g := by
  intro n
  induction n with
  | zero => intro _; rfl
  | succ n ih => intro h; show sumN n f + f n = sumN n g + g n; rw [ih (fun k hk => h k (by omega)), h n (by omega)]
theorem sumN_add (f g : Nat → Int) : ∀ n : Nat, sumN n (fun k => f k + g k) = sumN n f + sumN n g := by
  intro n
  induction n with
  | zero => rfl
  | succ n ih => show sumN n _ + (f n + g n) = (sumN n f + f n) + (sumN n g + g n); rw [ih]; omega
theorem sumN_sub (f g : Nat → Int) : ∀ n : Nat, sumN n (fun k => f k - g k) = sumN n f - sumN n g := by
  intro n
  induction n with
  | zero => rfl
  | succ n ih => show sumN n _ + (f n - g n) = (sumN n f + f n) - (sumN n g + g n); rw [ih]; omega
theorem sumN_mul (c : Int) (f : Nat → Int) : ∀ n : Nat, sumN n (fun k => c * f k) = c * sumN n f := by
  intro n
  induction n with
  | zero => show (0 : Int) = c * 0; omega
  | succ n ih => show sumN n _ + c * f n = c * (sumN n f + f n); rw [ih, Int.mul_add]
theorem sumN_mulr (c : Int) (f : Nat → Int) (n : Nat) : sumN n (fun k => f k * c) = sumN n f * c := by
  rw [Int.mul_comm, ← sumN_mul]
  exact sumN_congr n (fun k _ => Int.mul_comm _ _)
theorem sumN_zero {f : Nat → Int} (n : Nat) (h : ∀ k : Nat, k < n → f k = 0) : sumN n f = 0 := by
  induction n with
  | zero => rfl
  | succ n ih => show sumN n f + f n = 0; rw [ih (fun k hk => h k (by omega)), h n (by omega)]; rfl
theorem sumN_swap (f : Nat → Nat → Int) (m : Nat) : ∀ n : Nat, sumN n (fun i => sumN m (fun j => f i j)) = sumN m (fun j => sumN n (fun i => f i j)) := by
  intro n
  induction n with
  | zero => exact (sumN_zero m (fun _ _ => rfl)).symm
  | succ n ih =>
    show sumN n _ + sumN m (f n) = _
    rw [ih, ← sumN_add]
    rfl
theorem sumN_le {f g : Nat → Int} : ∀ n : Nat, (∀ k : Nat, k < n → f k ≤ g k) → sumN n f ≤ sumN n g := by
  intro n
  induction n with
  | zero => intro _; exact Int.le_refl _
  | succ n ih => intro h; have h1 := ih (fun k hk => h k (by omega)); have h2 := h n (by omega); show sumN n f + f n ≤ sumN n g + g n; omega
theorem sumN_const (c : Int) : ∀ n : Nat, sumN n (fun _ => c) = n * c := by
  intro n
  induction n with
  | zero => show (0 : Int) = ((0 : Nat) : Int) * c; simp
  | succ n ih => show sumN n _ + c = _; rw [ih, Int.natCast_add, Int.add_mul]; simp
theorem sumN_nn {f : Nat → Int} (n : Nat) (h : ∀ k : Nat, k < n → 0 ≤ f k) : 0 ≤ sumN n f := by
  have := sumN_le (f := fun _ => 0) (g := f) n h
  rwa [sumN_zero n (fun _ _ => rfl)] at this
theorem sumN_ub {f : Nat → Int} (n : Nat) (c : Int) (h : ∀ k : Nat, k < n → f k ≤ c) : sumN n f ≤ n * c := by
  have := sumN_le (f := f) (g := fun _ => c) n h
  rwa [sumN_const] at this
theorem sumN_lb {f : Nat → Int} (n : Nat) (c : Int) (h : ∀ k : Nat, k < n → c ≤ f k) : n * c ≤ sumN n f := by
  have := sumN_le (f := fun _ => c) (g := f) n h
  rwa [sumN_const] at this
theorem sumN_app (f : Nat → Int) (a : Nat) : ∀ b : Nat, sumN (a + b) f = sumN a f + sumN b (fun j => f (a + j)) := by
  intro b
  induction b with
  | zero => show sumN a f = sumN a f + 0; omega
  | succ b ih => show sumN (a + b) f + f (a + b) = sumN a f + (sumN b (fun j => f (a + j)) + f (a + b)); rw [ih]; omega
theorem sumN_split (b : Nat) (f : Nat → Int) : ∀ a : Nat, sumN (a * b) f = sumN a (fun i => sumN b (fun j => f (i * b + j))) := by
  intro a
  induction a with
  | zero => rw [Nat.zero_mul]; rfl
  | succ a ih => rw [Nat.succ_mul, sumN_app, ih]; rfl
theorem sumN_tail {f : Nat → Int} {K m : Nat} (h : K ≤ m) (hz : ∀ k : Nat, K ≤ k → k < m → f k = 0) : sumN m f = sumN K f := by
  have e : m = K + (m - K) := by omega
  rw [e, sumN_app, sumN_zero (m - K) (fun k hk => hz (K + k) (by omega) (by omega))]
  omega
theorem sumN_pick (f : Nat → Int) (a : Nat) : ∀ n : Nat, sumN n (fun k => if k = a then f k else 0) = if a < n then f a else 0 := by
  intro n
  induction n with
  | zero => rw [if_neg (by omega)]; rfl
  | succ n ih =>
    show sumN n _ + (if n = a then f n else 0) = _
    rw [ih]
    by_cases h : n = a
    · subst h
      rw [if_neg (by omega), if_pos rfl, if_pos (by omega)]
      omega
    · rw [if_neg h]
      by_cases h2 : a < n
      · rw [if_pos h2, if_pos (by omega)]
        omega
      · rw [if_neg h2, if_neg (by omega)]
        rfl
/-! products -/
def prodN : Nat → (Nat → Int) → Int
  | 0, _ => 1
  | n + 1, f => prodN n f * f n
theorem prodN_congr {f g : Nat → Int} : ∀ n : Nat, (∀ k : Nat, k < n → f k = g k) → prodN n f = prodN n g := by
  intro n
  induction n with
  | zero => intro _; rfl
  | succ n ih => intro h; show prodN n f * f n = prodN n g * g n; rw [ih (fun k hk => h k (by omega)), h n (by omega)]
theorem prodN_nn {f : Nat → Int} : ∀ n : Nat, (∀ k : Nat, k < n → 0 ≤ f k) → 0 ≤ prodN n f := by
  intro n
  induction n with
  | zero => intro _; exact (by decide : (0 : Int) ≤ 1)
  | succ n ih => intro h; exact Int.mul_nonneg (ih (fun k hk => h k (by omega))) (h n (by omega))
theorem prodN_le {f : Nat → Int} {c : Int} (hc : 0 ≤ c) : ∀ n : Nat, (∀ k : Nat, k < n → 0 ≤ f k ∧ f k ≤ c) → prodN n f ≤ c ^ n := by
  intro n
  induction n with
  | zero => intro _; rw [Int.pow_zero]; exact Int.le_refl _
  | succ n ih =>
    intro h
    show prodN n f * f n ≤ c ^ (n + 1)
    rw [Int.pow_succ]
    have h1 := ih (fun k hk => h k (by omega))
    have h2 := h n (by omega)
    exact Int.mul_le_mul h1 h2.2 h2.1 (Int.pow_nonneg hc)
/-! the mean over rows: baker b asks k with part P b k -/
def ex (K : Nat) : Nat → (Nat → Nat → Int) → ((Nat → Nat) → Int) → Int
  | 0, _, F => F (fun _ => 0)
  | n + 1, P, F => sumN K (fun k => P n k * ex K n P (fun r => F (upN r n k)))
theorem ex_congr {K : Nat} {P : Nat → Nat → Int} : ∀ (n : Nat) {F G : (Nat → Nat) → Int}, (∀ r : Nat → Nat, (∀ b : Nat, b < n → r b < K) → (∀ b : Nat, n ≤ b → r b = 0) → F r = G r) → ex K n P F = ex K n P G := by
  intro n
  induction n with
  | zero => intro F G h; exact h _ (fun b hb => absurd hb (by omega)) (fun _ _ => rfl)
  | succ n ih =>
    intro F G h
    refine sumN_congr K (fun k hk => ?_)
    rw [ih (fun r h1 h2 => h (upN r n k) (fun b hb => ?_) (fun b hb => ?_))]
    · unfold upN
      by_cases e : b = n
      · rw [if_pos e]; exact hk
      · rw [if_neg e]; exact h1 b (by omega)
    · unfold upN
      rw [if_neg (by omega)]
      exact h2 b (by omega)
theorem ex_P {K : Nat} {P Q : Nat → Nat → Int} : ∀ (n : Nat) (F : (Nat → Nat) → Int), (∀ b : Nat, b < n → ∀ k : Nat, k < K → P b k = Q b k) → ex K n P F = ex K n Q F := by
  intro n
  induction n with
  | zero => intro F _; rfl
  | succ n ih =>
    intro F h
    refine sumN_congr K (fun k hk => ?_)
    rw [ih _ (fun b hb k hk => h b (by omega) k hk), h n (by omega) k hk]
theorem ex_add {K : Nat} {P : Nat → Nat → Int} : ∀ (n : Nat) (F G : (Nat → Nat) → Int), ex K n P (fun r => F r + G r) = ex K n P F + ex K n P G := by
  intro n
  induction n with
  | zero => intro F G; rfl
  | succ n ih =>
    intro F G
    show sumN K _ = sumN K _ + sumN K _
    rw [← sumN_add]
    refine sumN_congr K (fun k _ => ?_)
    rw [ih, Int.mul_add]
theorem ex_mul {K : Nat} {P : Nat → Nat → Int} (c : Int) : ∀ (n : Nat) (F : (Nat → Nat) → Int), ex K n P (fun r => c * F r) = c * ex K n P F := by
  intro n
  induction n with
  | zero => intro F; rfl
  | succ n ih =>
    intro F
    show sumN K _ = c * sumN K _
    rw [← sumN_mul]
    refine sumN_congr K (fun k _ => ?_)
    rw [ih, Int.mul_left_comm]
theorem ex_sub {K : Nat} {P : Nat → Nat → Int} (n : Nat) (F G : (Nat → Nat) → Int) : ex K n P (fun r => F r - G r) = ex K n P F - ex K n P G := by
  have e : (fun r => F r - G r) = fun r => F r + (-1) * G r := by funext r; omega
  rw [e, ex_add, ex_mul]
  omega
theorem ex_sum {K : Nat} {P : Nat → Nat → Int} (n : Nat) (F : Nat → (Nat → Nat) → Int) : ∀ m : Nat, ex K n P (fun r => sumN m (fun i => F i r)) = sumN m (fun i => ex K n P (F i)) := by
  intro m
  induction m with
  | zero =>
    have := ex_mul (K := K) (P := P) 0 n (fun _ => 0)
    simp only [Int.zero_mul] at this
    exact this
  | succ m ih =>
    show ex K n P (fun r => sumN m (fun i => F i r) + F m r) = _
    rw [ex_add, ih]
    rfl
theorem ex_tail {K m : Nat} {P : Nat → Nat → Int} (h : K ≤ m) : ∀ (n : Nat) (F : (Nat → Nat) → Int), (∀ b : Nat, b < n → ∀ k : Nat, K ≤ k → k < m → P b k = 0) → ex m n P F = ex K n P F := by
  intro n
  induction n with
  | zero => intro F _; rfl
  | succ n ih =>
    intro F hz
    show sumN m _ = sumN K _
    rw [sumN_tail h (fun k h1 h2 => by rw [hz n (by omega) k h1 h2, Int.zero_mul])]
    refine sumN_congr K (fun k _ => ?_)
    rw [ih _ (fun b hb k h1 h2 => hz b (by omega) k h1 h2)]
theorem rowAt_hi {K : Nat} {n lo k : Nat} (hl : lo < K ^ n) (hk : k < K) : rowAt K (k * K ^ n + lo) = upN (rowAt K lo) n k := by
  have hKp : 0 < K := by omega
  funext b
  unfold rowAt upN
  by_cases e : b = n
  · subst e
    rw [if_pos rfl, Nat.mul_comm k, Nat.mul_add_div (Nat.pow_pos hKp), Nat.div_eq_of_lt hl, Nat.add_zero, Nat.mod_eq_of_lt hk]
  · rw [if_neg e]
    by_cases h : b < n
    · have e1 : K ^ n = K ^ b * (K * K ^ (n - b - 1)) := by
        rw [← Nat.pow_succ', ← Nat.pow_add]
        congr 1
        omega
      rw [e1, show k * (K ^ b * (K * K ^ (n - b - 1))) = K ^ b * (K * (k * K ^ (n - b - 1))) by rw [Nat.mul_left_comm, Nat.mul_left_comm k K], Nat.mul_add_div (Nat.pow_pos hKp), Nat.mul_add_mod]
    · have h1 : k * K ^ n + lo < K ^ (n + 1) := by
        have : (k + 1) * K ^ n ≤ K * K ^ n := Nat.mul_le_mul_right _ (by omega)
        rw [Nat.pow_succ']
        rw [Nat.succ_mul] at this
        omega
      have h2 : K ^ (n + 1) ≤ K ^ b := Nat.pow_le_pow_right hKp (by omega)
      have h3 : K ^ n ≤ K ^ b := Nat.pow_le_pow_right hKp (by omega)
      dsimp only
      rw [Nat.div_eq_of_lt (show k * K ^ n + lo < K ^ b by omega), Nat.div_eq_of_lt (show lo < K ^ b by omega)]
theorem ex_codes {K : Nat} (hK : 0 < K) {P : Nat → Nat → Int} : ∀ (n : Nat) (F : (Nat → Nat) → Int), sumN (K ^ n) (fun c => prodN n (fun b => P b (rowAt K c b)) * F (rowAt K c)) = ex K n P F := by
  intro n
  induction n with
  | zero =>
    intro F
    show 0 + 1 * F (rowAt K 0) = F (fun _ => 0)
    have : rowAt K 0 = fun _ => 0 := by funext b; unfold rowAt; rw [Nat.zero_div, Nat.zero_mod]
    rw [this]
    omega
  | succ n ih =>
    intro F
    rw [Nat.pow_succ', sumN_split]
    refine sumN_congr K (fun k hk => ?_)
    rw [← ih, ← sumN_mul]
    refine sumN_congr (K ^ n) (fun lo hl => ?_)
    rw [rowAt_hi hl hk]
    show prodN n (fun b => P b (upN (rowAt K lo) n k b)) * P n (upN (rowAt K lo) n k n) * F (upN (rowAt K lo) n k) = _
    have e1 : upN (rowAt K lo) n k n = k := by unfold upN; rw [if_pos rfl]
    have e2 : prodN n (fun b => P b (upN (rowAt K lo) n k b)) = prodN n (fun b => P b (rowAt K lo b)) := prodN_congr n (fun b hb => by unfold upN; rw [if_neg (by omega)])
    rw [e1, e2, Int.mul_comm (prodN n _) (P n k), Int.mul_assoc]
theorem rowAt_lt {K c b : Nat} (hK : 0 < K) : rowAt K c b < K := Nat.mod_lt _ hK
/-! one baker taken out -/
def exO (K : Nat) (b : Nat) : Nat → (Nat → Nat → Int) → ((Nat → Nat) → Int) → Int
  | 0, _, F => F (fun _ => 0)
  | n + 1, P, F => if n = b then exO K b n P F else sumN K (fun k => P n k * exO K b n P (fun r => F (upN r n k)))
theorem exO_ge {K b : Nat} {P : Nat → Nat → Int} : ∀ (n : Nat) (F : (Nat → Nat) → Int), n ≤ b → exO K b n P F = ex K n P F := by
  intro n
  induction n with
  | zero => intro F _; rfl
  | succ n ih =>
    intro F h
    show (if n = b then _ else _) = _
    rw [if_neg (by omega)]
    refine sumN_congr K (fun k _ => ?_)
    rw [ih _ (by omega)]
theorem upN_comm (r : Nat → Nat) {a b : Nat} (j k : Nat) (h : a ≠ b) : upN (upN r a j) b k = upN (upN r b k) a j := by
  funext i
  unfold upN
  by_cases h1 : i = b
  · rw [if_pos h1, if_neg (by omega), if_pos h1]
  · rw [if_neg h1]
    by_cases h2 : i = a
    · rw [if_pos h2, if_pos h2]
    · rw [if_neg h2, if_neg h2, if_neg h1]
theorem upN_up (r : Nat → Nat) (b j k : Nat) : upN (upN r b j) b k = upN r b k := by
  funext i
  unfold upN
  split <;> rfl
theorem ex_out {K b : Nat} {P : Nat → Nat → Int} : ∀ (n : Nat) (F : (Nat → Nat) → Int), b < n → ex K n P F = sumN K (fun s => P b s * exO K b n P (fun r => F (upN r b s))) := by
  intro n
  induction n with
  | zero => intro F h; exact absurd h (by omega)
  | succ n ih =>
    intro F h
    by_cases e : n = b
    · subst e
      refine sumN_congr K (fun s _ => ?_)
      show _ = P n s * (if n = n then _ else _)
      rw [if_pos rfl, exO_ge n _ (Nat.le_refl _)]
    · show sumN K (fun k => P n k * ex K n P (fun r => F (upN r n k))) = _
      have e1 : ∀ k : Nat, P n k * ex K n P (fun r => F (upN r n k)) = sumN K (fun s => P n k * (P b s * exO K b n P (fun r => F (upN (upN r b s) n k)))) := by
        intro k
        rw [ih _ (by omega), sumN_mul]
      rw [sumN_congr K (fun k _ => e1 k), sumN_swap]
      refine sumN_congr K (fun s _ => ?_)
      show _ = P b s * (if n = b then _ else _)
      rw [if_neg e, ← sumN_mul]
      refine sumN_congr K (fun k _ => ?_)
      rw [Int.mul_left_comm]
      congr 3
      funext r
      rw [upN_comm r s k (by omega)]
theorem exO_congr {K b : Nat} {P : Nat → Nat → Int} : ∀ (n : Nat) {F G : (Nat → Nat) → Int}, (∀ r : Nat → Nat, (∀ j : Nat, j < n → j ≠ b → r j < K) → (∀ j : Nat, n ≤ j ∨ j = b → r j = 0) → F r = G r) → exO K b n P F = exO K b n P G := by
  intro n
  induction n with
  | zero => intro F G h; exact h _ (fun j hj => absurd hj (by omega)) (fun _ _ => rfl)
  | succ n ih =>
    intro F G h
    show (if n = b then _ else _) = (if n = b then _ else _)
    by_cases e : n = b
    · rw [if_pos e, if_pos e]
      refine ih (fun r h1 h2 => h r (fun j hj hb => h1 j (by omega) hb) (fun j hj => h2 j ?_))
      omega
    · rw [if_neg e, if_neg e]
      refine sumN_congr K (fun k hk => ?_)
      rw [ih (fun r h1 h2 => h (upN r n k) (fun j hj hb => ?_) (fun j hj => ?_))]
      · unfold upN
        by_cases e2 : j = n
        · rw [if_pos e2]; exact hk
        · rw [if_neg e2]; exact h1 j (by omega) hb
      · unfold upN
        rw [if_neg (by omega)]
        exact h2 j (by omega)
theorem exO_P {K b : Nat} {P Q : Nat → Nat → Int} : ∀ (n : Nat) (F : (Nat → Nat) → Int), (∀ j : Nat, j < n → j ≠ b → ∀ k : Nat, k < K → P j k = Q j k) → exO K b n P F = exO K b n Q F := by
  intro n
  induction n with
  | zero => intro F _; rfl
  | succ n ih =>
    intro F h
    show (if n = b then _ else _) = (if n = b then _ else _)
    by_cases e : n = b
    · rw [if_pos e, if_pos e, ih _ (fun j hj hb => h j (by omega) hb)]
    · rw [if_neg e, if_neg e]
      refine sumN_congr K (fun k hk => ?_)
      rw [ih _ (fun j hj hb => h j (by omega) hb), h n (by omega) e k hk]
/-- baker b asks s for sure -/
def putP (P : Nat → Nat → Int) (b s : Nat) : Nat → Nat → Int := fun j k => if j = b then (if k = s then 100 else 0) else P j k
theorem ex_put {K b s n : Nat} {P : Nat → Nat → Int} (F : (Nat → Nat) → Int) (hb : b < n) (hs : s < K) : ex K n (putP P b s) F = 100 * exO K b n P (fun r => F (upN r b s)) := by
  rw [ex_out n F hb]
  have e : ∀ k : Nat, putP P b s b k * exO K b n (putP P b s) (fun r => F (upN r b k)) = if k = s then 100 * exO K b n P (fun r => F (upN r b k)) else 0 := by
    intro k
    have e2 : exO K b n (putP P b s) (fun r => F (upN r b k)) = exO K b n P (fun r => F (upN r b k)) := exO_P n _ (fun j _ hj k _ => by unfold putP; rw [if_neg hj])
    rw [e2]
    unfold putP
    rw [if_pos rfl]
    by_cases h : k = s
    · rw [if_pos h, if_pos h]
    · rw [if_neg h, if_neg h, Int.zero_mul]
  rw [sumN_congr K (fun k _ => e k), sumN_pick (fun k => 100 * exO K b n P (fun r => F (upN r b k))) s K, if_pos hs]
