/-! street: runs of letters, digits, blanks -/
def rn (p : Nat → Bool) (N : Nat) : Nat → Nat → Nat
  | 0, _ => 0
  | f + 1, a => if a < N ∧ p a = true then rn p N f (a + 1) + 1 else 0
theorem rn_facts {p : Nat → Bool} {N : Nat} : ∀ f a : Nat, (∀ j : Nat, j < rn p N f a → a + j < N ∧ p (a + j) = true) ∧ (N ≤ a + f → ¬ (a + rn p N f a < N ∧ p (a + rn p N f a) = true)) := by
  intro f
  induction f with
  | zero => intro a; exact ⟨fun j hj => absurd hj (by show ¬ j < 0; omega), fun h q => by have : a + 0 < N := q.1; omega⟩
  | succ f ih =>
    intro a
    obtain ⟨i1, i2⟩ := ih (a + 1)
    by_cases w : a < N ∧ p a = true
    · have e : rn p N (f + 1) a = rn p N f (a + 1) + 1 := by rw [rn, if_pos w]
      rw [e]
      refine ⟨fun j hj => ?_, fun h => ?_⟩
      · cases j with
        | zero => exact w
        | succ j =>
          have := i1 j (by omega)
          rw [show a + (j + 1) = a + 1 + j by omega]
          exact this
      · rw [show a + (rn p N f (a + 1) + 1) = a + 1 + rn p N f (a + 1) by omega]
        exact i2 (by omega)
    · have e : rn p N (f + 1) a = 0 := by rw [rn, if_neg w]
      rw [e]
      exact ⟨fun j hj => absurd hj (by omega), fun _ => w⟩
def rL (p : Nat → Bool) (N a : Nat) : Nat := rn p N N a
theorem rL_in {p : Nat → Bool} {N a j : Nat} (h : j < rL p N a) : a + j < N ∧ p (a + j) = true := (rn_facts N a).1 j h
theorem rL_out (p : Nat → Bool) (N a : Nat) : ¬ (a + rL p N a < N ∧ p (a + rL p N a) = true) := (rn_facts N a).2 (by omega)
theorem rL_le {p : Nat → Bool} {N a : Nat} (h : a ≤ N) : a + rL p N a ≤ N := by
  cases e : rL p N a with
  | zero => exact h
  | succ l =>
    have := rL_in (p := p) (N := N) (a := a) (j := l) (by omega)
    omega
theorem rL_0 {p : Nat → Bool} {N a : Nat} (h : ¬ (a < N ∧ p a = true)) : rL p N a = 0 := by
  cases e : rL p N a with
  | zero => rfl
  | succ l => exact absurd (rL_in (p := p) (N := N) (a := a) (j := 0) (by omega)) h
def pB (T : Nat → Int32) (k : Nat) : Bool := decide (T k = 32 ∨ T k = 10)
def pL (T : Nat → Int32) (k : Nat) : Bool := decide (97 ≤ (T k).toInt ∧ (T k).toInt ≤ 122)
def pD (T : Nat → Int32) (k : Nat) : Bool := decide (48 ≤ (T k).toInt ∧ (T k).toInt ≤ 57)
theorem pB_iff {T : Nat → Int32} {k : Nat} : pB T k = true ↔ T k = 32 ∨ T k = 10 := by unfold pB; rw [decide_eq_true_iff]
theorem pL_iff {T : Nat → Int32} {k : Nat} : pL T k = true ↔ 97 ≤ (T k).toInt ∧ (T k).toInt ≤ 122 := by unfold pL; rw [decide_eq_true_iff]
theorem pD_iff {T : Nat → Int32} {k : Nat} : pD T k = true ↔ 48 ≤ (T k).toInt ∧ (T k).toInt ≤ 57 := by unfold pD; rw [decide_eq_true_iff]
/-- behind the blanks -/
def skp (T : Nat → Int32) (N a : Nat) : Nat := a + rL (pB T) N a
theorem skp_le {T : Nat → Int32} {N a : Nat} (h : a ≤ N) : skp T N a ≤ N := rL_le h
theorem skp_skp (T : Nat → Int32) (N a : Nat) : skp T N (skp T N a) = skp T N a := by
  have : rL (pB T) N (skp T N a) = 0 := rL_0 (rL_out (pB T) N a)
  show skp T N a + rL (pB T) N (skp T N a) = _
  rw [this]
  rfl
def wl (T : Nat → Int32) (N s : Nat) : Nat := rL (pL T) N s
def dl (T : Nat → Int32) (N s : Nat) : Nat := rL (pD T) N s
def lt (T : Nat → Int32) (k : Nat) : Nat := (T k).toInt.toNat
/-- words as numbers -/
def e32 (T : Nat → Int32) (s : Nat) : Nat → Nat
  | 0 => 0
  | l + 1 => e32 T s l * 32 + (lt T (s + l) - 96)
def e256 (T : Nat → Int32) (s : Nat) : Nat → Nat
  | 0 => 0
  | l + 1 => e256 T s l * 256 + lt T (s + l)
def vS (T : Nat → Int32) (s : Nat) : Nat → Nat
  | 0 => 0
  | l + 1 => min (vS T s l * 10 + (lt T (s + l) - 48)) 10000
def v10 (T : Nat → Int32) (s : Nat) : Nat → Nat
  | 0 => 0
  | l + 1 => v10 T s l * 10 + (lt T (s + l) - 48)
theorem v10_lt {T : Nat → Int32} {s : Nat} : ∀ l : Nat, (∀ j : Nat, j < l → pD T (s + j) = true) → v10 T s l < 10 ^ l := by
  intro l
  induction l with
  | zero => intro _; exact Nat.one_pos
  | succ l ih =>
    intro h
    have i1 := ih (fun j hj => h j (by omega))
    have d := pD_iff.mp (h l (by omega))
    rw [v10, Nat.pow_succ]
    unfold lt
    omega
theorem vS_v10 {T : Nat → Int32} {s : Nat} : ∀ l : Nat, l ≤ 4 → (∀ j : Nat, j < l → pD T (s + j) = true) → vS T s l = v10 T s l := by
  intro l
  induction l with
  | zero => intro _ _; rfl
  | succ l ih =>
    intro hl h
    have i1 := ih (by omega) (fun j hj => h j (by omega))
    have b := v10_lt (T := T) (s := s) (l + 1) (fun j hj => h j (by omega))
    have p4 : 10 ^ (l + 1) ≤ 10 ^ 4 := Nat.pow_le_pow_right (by decide) hl
    have e : v10 T s (l + 1) = v10 T s l * 10 + (lt T (s + l) - 48) := rfl
    rw [vS, i1, ← e]
    exact Nat.min_eq_left (by omega)
theorem e256_lt {T : Nat → Int32} {s : Nat} : ∀ l : Nat, (∀ j : Nat, j < l → pL T (s + j) = true) → e256 T s l < 256 ^ l := by
  intro l
  induction l with
  | zero => intro _; exact Nat.one_pos
  | succ l ih =>
    intro h
    have i1 := ih (fun j hj => h j (by omega))
    have d := pL_iff.mp (h l (by omega))
    rw [e256, Nat.pow_succ]
    unfold lt
    omega
/-- two words are one -/
def same (T : Nat → Int32) (s l q m : Nat) : Prop := l = m ∧ ∀ j : Nat, j < l → lt T (s + j) = lt T (q + j)
theorem e32_same {T : Nat → Int32} {s q : Nat} : ∀ l m : Nat, (∀ j : Nat, j < l → pL T (s + j) = true) → (∀ j : Nat, j < m → pL T (q + j) = true) → (e32 T s l = e32 T q m ↔ same T s l q m) := by
  intro l
  induction l with
  | zero =>
    intro m h1 h2
    cases m with
    | zero => exact ⟨fun _ => ⟨rfl, fun j hj => absurd hj (by omega)⟩, fun _ => rfl⟩
    | succ m =>
      have d := pL_iff.mp (h2 m (by omega))
      refine ⟨fun e => ?_, fun e => absurd e.1 (by omega)⟩
      have e' : 0 = e32 T q m * 32 + (lt T (q + m) - 96) := e
      unfold lt at e'
      omega
  | succ l ih =>
    intro m h1 h2
    have d1 := pL_iff.mp (h1 l (by omega))
    cases m with
    | zero =>
      refine ⟨fun e => ?_, fun e => absurd e.1 (by omega)⟩
      have e' : e32 T s l * 32 + (lt T (s + l) - 96) = 0 := e
      unfold lt at e'
      omega
    | succ m =>
      have d2 := pL_iff.mp (h2 m (by omega))
      have ih' := ih m (fun j hj => h1 j (by omega)) (fun j hj => h2 j (by omega))
      have ll : lt T (s + l) = (T (s + l)).toInt.toNat := rfl
      have lm : lt T (q + m) = (T (q + m)).toInt.toNat := rfl
      rw [e32, e32]
      constructor
      · intro e
        have a := ih'.mp (by omega)
        refine ⟨by have := a.1; omega, fun j hj => ?_⟩
        have lm2 := a.1
        by_cases w : j = l
        · subst w; subst lm2; omega
        · exact a.2 j (by omega)
      · intro e
        have lm2 : l = m := by have := e.1; omega
        have a := ih'.mpr ⟨lm2, fun j hj => e.2 j (by omega)⟩
        have b := e.2 l (by omega)
        subst lm2
        omega
theorem e256_same {T : Nat → Int32} {s q : Nat} : ∀ l m : Nat, (∀ j : Nat, j < l → pL T (s + j) = true) → (∀ j : Nat, j < m → pL T (q + j) = true) → (e256 T s l = e256 T q m ↔ same T s l q m) := by
  intro l
  induction l with
  | zero =>
    intro m h1 h2
    cases m with
    | zero => exact ⟨fun _ => ⟨rfl, fun j hj => absurd hj (by omega)⟩, fun _ => rfl⟩
    | succ m =>
      have d := pL_iff.mp (h2 m (by omega))
      refine ⟨fun e => ?_, fun e => absurd e.1 (by omega)⟩
      have e' : 0 = e256 T q m * 256 + lt T (q + m) := e
      unfold lt at e'
      omega
  | succ l ih =>
    intro m h1 h2
    have d1 := pL_iff.mp (h1 l (by omega))
    cases m with
    | zero =>
      refine ⟨fun e => ?_, fun e => absurd e.1 (by omega)⟩
      have e' : e256 T s l * 256 + lt T (s + l) = 0 := e
      unfold lt at e'
      omega
    | succ m =>
      have d2 := pL_iff.mp (h2 m (by omega))
      have ih' := ih m (fun j hj => h1 j (by omega)) (fun j hj => h2 j (by omega))
      have ll : lt T (s + l) = (T (s + l)).toInt.toNat := rfl
      have lm : lt T (q + m) = (T (q + m)).toInt.toNat := rfl
      rw [e256, e256]
      constructor
      · intro e
        have a := ih'.mp (by omega)
        refine ⟨by have := a.1; omega, fun j hj => ?_⟩
        have lm2 := a.1
        by_cases w : j = l
        · subst w; subst lm2; omega
        · exact a.2 j (by omega)
      · intro e
        have lm2 : l = m := by have := e.1; omega
        have a := ih'.mpr ⟨lm2, fun j hj => e.2 j (by omega)⟩
        have b := e.2 l (by omega)
        subst lm2
        omega
/-! the class's token -/
def tkK (T : Nat → Int32) (N s : Nat) : Nat := if 0 < wl T N s then 1 else if 0 < dl T N s then 2 else if s < N then (if T s = 59 then 3 else 4) else 0
def tkZ (T : Nat → Int32) (N s : Nat) : Nat := if 0 < wl T N s then wl T N s else if 0 < dl T N s then dl T N s else if s < N then 1 else 0
theorem tkZ_le {T : Nat → Int32} {N s : Nat} (h : s ≤ N) : s + tkZ T N s ≤ N := by
  unfold tkZ
  have a : s + wl T N s ≤ N := rL_le h
  have b : s + dl T N s ≤ N := rL_le h
  split
  · exact a
  · split
    · exact b
    · split <;> omega
/-- the token at s has been read -/
def tok (σ : St) (T : Nat → Int32) (N s : Nat) : Prop := σ.1 18 2 = nI N ∧ σ.1 18 4 = nI s ∧ σ.1 18 5 = nI (tkK T N s) ∧ σ.1 18 6 = nI (tkZ T N s) ∧ σ.1 18 3 = nI (s + tkZ T N s) ∧ (tkK T N s = 2 → σ.1 18 7 = nI (vS T s (dl T N s))) ∧ (tkK T N s = 1 → σ.2 18 8 = Int64.ofInt ((e32 T s (wl T N s) : Nat) : Int))
def m18 (c _k : Nat) : Bool := Nat.beq c 18
theorem vS_le {T : Nat → Int32} {s : Nat} : ∀ l : Nat, vS T s l ≤ 10000 := by
  intro l
  cases l with
  | zero => exact Nat.zero_le _
  | succ l => exact Nat.min_le_right _ _
theorem advC {σ : St} {T : Nat → Int32} {N a : Nat} (hN : N ≤ 800) (ha : a ≤ N) (hT : ∀ k : Nat, k < N → σ.1 1 k = T k) (h2 : σ.1 18 2 = nI N) (h3 : σ.1 18 3 = nI a) : ∃ σ', fX3_advance σ = some (σ', ()) ∧ frm m18 m18 σ σ' ∧ tok σ' T N (skp T N a) := by
  have z32 : (32 : Int32).toInt = 32 := by decide
  have z97 : (97 : Int32).toInt = 97 := by decide
  have z122 : (122 : Int32).toInt = 122 := by decide
  have z48 : (48 : Int32).toInt = 48 := by decide
  have z57 : (57 : Int32).toInt = 57 := by decide
  have sl := skp_le (T := T) ha
  have rb : a + rL (pB T) N a ≤ N := rL_le ha
  -- blanks, the loop
  have bl : ∀ (m : Nat) (x : St), m ≤ rL (pB T) N a → frm m18 m18 σ x → x.1 18 2 = nI N → x.1 18 3 = nI (a + m) → ∃ y : St, (∀ k : St → Option (St × Unit), fX3_advance_L0 k FU x = k y) ∧ frm m18 m18 σ y ∧ y.1 18 2 = nI N ∧ y.1 18 3 = nI (skp T N a) := by
    intro m x hm hf q2 q3
    obtain ⟨y, hy, e⟩ := loopK (S := St) (fun (k : St → Option (St × Unit)) n y t => fX3_advance_L0 k n y) (fun k y => k y) (rL (pB T) N a) (fun t y => frm m18 m18 σ y ∧ y.1 18 2 = nI N ∧ y.1 18 3 = nI (a + t)) (fun k n y hy => by
        have out := rL_out (pB T) N a
        show fX3_advance_L0 k (n + 1) y = _
        rw [fX3_advance_L0, hy.2.1, hy.2.2]
        by_cases w : N ≤ a + rL (pB T) N a
        · rw [if_pos (by rw [le_i, nI_toInt (by omega), nI_toInt (by omega)]; omega)]
        · have np : ¬ (T (a + rL (pB T) N a) = 32 ∨ T (a + rL (pB T) N a) = 10) := fun z => out ⟨by omega, pB_iff.mpr z⟩
          have et : y.1 1 (a + rL (pB T) N a) = T (a + rL (pB T) N a) := (hy.1.1 1 _ rfl).trans (hT _ (by omega))
          rw [if_neg (by rw [le_i, nI_toInt (by omega), nI_toInt (by omega)]; omega), chk_t (inb_nI (by omega) (by decide)), jp_eq, ix_nI (m := a + rL (pB T) N a) (by omega), et, if_neg (fun z => np (Or.inl z)), chk_t (inb_nI (by omega) (by decide)), if_neg (fun z => np (Or.inr z))]) (fun n t y ht hy => by
        have inn := rL_in ht
        have et : y.1 1 (a + t) = T (a + t) := (hy.1.1 1 _ rfl).trans (hT _ inn.1)
        refine ⟨sI y 18 3 (nI (a + t + 1)), ⟨frm_trans hy.1 (frm_sI _ _ rfl), hy.2.1, rfl⟩, fun k => ?_⟩
        show fX3_advance_L0 k (n + 1) y = fX3_advance_L0 k n (sI y 18 3 (nI (a + t + 1)))
        have go : (bnd (sI y 18 3 ((y.1 18 3) + (1 : Int32))) fun (σ_25 : St) => fX3_advance_L0 k n σ_25) = fX3_advance_L0 k n (sI y 18 3 (nI (a + t + 1))) := by
          rw [bnd_eq, hy.2.2, nI_succ]
        rw [fX3_advance_L0, hy.2.1, hy.2.2, if_neg (by rw [le_i, nI_toInt (by omega), nI_toInt (by omega)]; omega), chk_t (inb_nI (by omega) (by decide)), jp_eq, ix_nI (m := a + t) (by omega), et]
        by_cases w : T (a + t) = 32
        · rw [if_pos w]; exact go
        · rw [if_neg w, chk_t (inb_nI (by omega) (by decide)), if_pos (by
            rcases pB_iff.mp inn.2 with z | z
            · exact absurd z w
            · exact z)]
          exact go) FU m x hm (by have : FU = 100000 := rfl; omega) ⟨hf, q2, q3⟩
    exact ⟨y, e, hy⟩
  -- letters
  have lw : ∀ (s : Nat) (x : St), s ≤ N → frm m18 m18 σ x → x.1 18 2 = nI N → x.1 18 3 = nI s → x.1 18 4 = nI s → x.1 18 7 = 0 → x.2 18 8 = 0 → ∃ y : St, (∀ k : St → Option (St × Unit), fX3_advance_L70 k FU x = k y) ∧ frm m18 m18 σ y ∧ y.1 18 2 = nI N ∧ y.1 18 3 = nI (s + wl T N s) ∧ y.1 18 4 = nI s ∧ y.1 18 7 = 0 ∧ y.2 18 8 = Int64.ofInt ((e32 T s (wl T N s) : Nat) : Int) := by
    intro s x hs hf q2 q3 q4 q7 q8
    obtain ⟨y, hy, e⟩ := loopK (S := St) (fun (k : St → Option (St × Unit)) n y t => fX3_advance_L70 k n y) (fun k y => k y) (wl T N s) (fun t y => frm m18 m18 σ y ∧ y.1 18 2 = nI N ∧ y.1 18 3 = nI (s + t) ∧ y.1 18 4 = nI s ∧ y.1 18 7 = 0 ∧ y.2 18 8 = Int64.ofInt ((e32 T s t : Nat) : Int)) (fun k n y hy => by
        have out := rL_out (pL T) N s
        have le := rL_le (p := pL T) hs
        show fX3_advance_L70 k (n + 1) y = _
        rw [fX3_advance_L70, hy.2.1, hy.2.2.1]
        by_cases w : N ≤ s + wl T N s
        · rw [if_pos (by rw [le_i, nI_toInt (by omega), nI_toInt (by unfold wl; omega)]; omega)]
        · have np : ¬ (97 ≤ (T (s + wl T N s)).toInt ∧ (T (s + wl T N s)).toInt ≤ 122) := fun z => out ⟨by unfold wl at w; omega, pL_iff.mpr z⟩
          have et : y.1 1 (s + wl T N s) = T (s + wl T N s) := (hy.1.1 1 _ rfl).trans (hT _ (by omega))
          rw [if_neg (by rw [le_i, nI_toInt (by omega), nI_toInt (by omega)]; omega), chk_t (inb_nI (by omega) (by decide)), ix_nI (m := s + wl T N s) (by omega), et]
          by_cases w2 : T (s + wl T N s) < 97
          · rw [if_pos w2]
          · rw [if_neg w2, chk_t (inb_nI (by omega) (by decide)), if_pos (by rw [lt_i, z97] at w2; rw [lt_i, z122]; omega)]) (fun n t y ht hy => by
        have inn := rL_in ht
        have d := pL_iff.mp inn.2
        have et : y.1 1 (s + t) = T (s + t) := (hy.1.1 1 _ rfl).trans (hT _ inn.1)
        have ex : (((T (s + t) - (97 : Int32)) + (1 : Int32))).toInt64 = Int64.ofInt (((lt T (s + t) - 96 : Nat)) : Int) := by
          rw [i64_of, i32_add (by rw [i32_sub (by rw [z97]; omega) (by rw [z97]; omega), z97, z_1]; omega) (by rw [i32_sub (by rw [z97]; omega) (by rw [z97]; omega), z97, z_1]; omega), i32_sub (by rw [z97]; omega) (by rw [z97]; omega), z97, z_1]
          congr 1
          unfold lt
          omega
        have e8 : y.2 18 8 * (32 : Int64) + (((T (s + t) - (97 : Int32)) + (1 : Int32))).toInt64 = Int64.ofInt ((e32 T s (t + 1) : Nat) : Int) := by
          rw [hy.2.2.2.2.2, ex, show (32 : Int64) = Int64.ofInt 32 from rfl, ← Int64.ofInt_mul, ← Int64.ofInt_add]
          congr 1
          all_goals (rw [e32]; omega)
        have v8 : (sL y 18 8 (Int64.ofInt ((e32 T s (t + 1) : Nat) : Int))).2 18 8 = Int64.ofInt ((e32 T s (t + 1) : Nat) : Int) := by rw [sL_at, if_pos rfl]
        refine ⟨sI (sL y 18 8 (Int64.ofInt ((e32 T s (t + 1) : Nat) : Int))) 18 3 (nI (s + t + 1)), ⟨frm_trans hy.1 (frm_trans (frm_sL _ _ rfl) (frm_sI _ _ rfl)), hy.2.1, rfl, hy.2.2.2.1, hy.2.2.2.2.1, v8⟩, fun k => ?_⟩
        show fX3_advance_L70 k (n + 1) y = fX3_advance_L70 k n (sI (sL y 18 8 (Int64.ofInt ((e32 T s (t + 1) : Nat) : Int))) 18 3 (nI (s + t + 1)))
        rw [fX3_advance_L70, hy.2.1, hy.2.2.1, if_neg (by rw [le_i, nI_toInt (by omega), nI_toInt (by omega)]; omega), chk_t (inb_nI (by omega) (by decide)), ix_nI (m := s + t) (by omega), et, if_neg (by rw [lt_i, z97]; omega), chk_t (inb_nI (by omega) (by decide)), if_neg (by rw [lt_i, z122]; omega), chk_t (inb_nI (by omega) (by decide)), e8, bnd_eq, show (sL y 18 8 (Int64.ofInt ((e32 T s (t + 1) : Nat) : Int))).1 18 3 = nI (s + t) from hy.2.2.1, bnd_eq, nI_succ]) FU 0 x (by omega) (by have : FU = 100000 := rfl; have := rL_le (p := pL T) hs; unfold wl; omega) ⟨hf, q2, q3, q4, q7, q8⟩
    exact ⟨y, e, hy⟩
  -- digits
  have dw' : ∀ (s : Nat) (x : St), s ≤ N → frm m18 m18 σ x → x.1 18 2 = nI N → x.1 18 3 = nI s → x.1 18 4 = nI s → x.1 18 7 = 0 → x.1 18 5 = 2 → ∃ y : St, (∀ k : St → Option (St × Unit), fX3_advance_L170 k FU x = k y) ∧ frm m18 m18 σ y ∧ y.1 18 2 = nI N ∧ y.1 18 3 = nI (s + dl T N s) ∧ y.1 18 4 = nI s ∧ y.1 18 7 = nI (vS T s (dl T N s)) ∧ y.1 18 5 = 2 ∧ y.2 18 8 = x.2 18 8 := by
    intro s x hs hf q2 q3 q4 q7 q5
    obtain ⟨y, hy, e⟩ := loopK (S := St) (fun (k : St → Option (St × Unit)) n y t => fX3_advance_L170 k n y) (fun k y => k y) (dl T N s) (fun t y => frm m18 m18 σ y ∧ y.1 18 2 = nI N ∧ y.1 18 3 = nI (s + t) ∧ y.1 18 4 = nI s ∧ y.1 18 7 = nI (vS T s t) ∧ y.1 18 5 = 2 ∧ y.2 18 8 = x.2 18 8) (fun k n y hy => by
        have out := rL_out (pD T) N s
        have le := rL_le (p := pD T) hs
        show fX3_advance_L170 k (n + 1) y = _
        rw [fX3_advance_L170, if_pos hy.2.2.2.2.2.1, hy.2.1, hy.2.2.1]
        by_cases w : N ≤ s + dl T N s
        · rw [if_pos (by rw [le_i, nI_toInt (by omega), nI_toInt (by unfold dl; omega)]; omega)]
        · have np : ¬ (48 ≤ (T (s + dl T N s)).toInt ∧ (T (s + dl T N s)).toInt ≤ 57) := fun z => out ⟨by unfold dl at w; omega, pD_iff.mpr z⟩
          have et : y.1 1 (s + dl T N s) = T (s + dl T N s) := (hy.1.1 1 _ rfl).trans (hT _ (by omega))
          rw [if_neg (by rw [le_i, nI_toInt (by omega), nI_toInt (by omega)]; omega), chk_t (inb_nI (by omega) (by decide)), ix_nI (m := s + dl T N s) (by omega), et]
          by_cases w2 : T (s + dl T N s) < 48
          · rw [if_pos w2]
          · rw [if_neg w2, chk_t (inb_nI (by omega) (by decide)), if_pos (by rw [lt_i, z48] at w2; rw [lt_i, z57]; omega)]) (fun n t y ht hy => by
        have inn := rL_in ht
        have d := pD_iff.mp inn.2
        have et : y.1 1 (s + t) = T (s + t) := (hy.1.1 1 _ rfl).trans (hT _ inn.1)
        have vl := vS_le (T := T) (s := s) t
        have z4 : (10000 : Int32).toInt = 10000 := by decide
        have ev : (nI (vS T s t) * (10 : Int32)) + (T (s + t) - (48 : Int32)) = nI (vS T s t * 10 + (lt T (s + t) - 48)) := by
          have e1 : T (s + t) - 48 = nI (lt T (s + t) - 48) := by
            rw [eq_i, i32_sub (by rw [z48]; omega) (by rw [z48]; omega), z48, nI_toInt (by unfold lt; omega)]
            unfold lt
            omega
          rw [e1, show (10 : Int32) = nI 10 from rfl, nI_mul2 (by omega) (by omega) (by omega), nI_plus (by unfold lt; omega)]
        have em : (if (10000 : Int32) < nI (vS T s t * 10 + (lt T (s + t) - 48)) then (10000 : Int32) else nI (vS T s t * 10 + (lt T (s + t) - 48))) = nI (vS T s (t + 1)) := by
          have lb : lt T (s + t) ≤ 57 := by unfold lt; omega
          rw [vS]
          by_cases q : 10000 < vS T s t * 10 + (lt T (s + t) - 48)
          · rw [if_pos (by rw [lt_i, z4, nI_toInt (by omega)]; omega), Nat.min_eq_right (by omega)]; rfl
          · rw [if_neg (by rw [lt_i, z4, nI_toInt (by omega)]; omega), Nat.min_eq_left (by omega)]
        refine ⟨sI (sI y 18 7 (nI (vS T s (t + 1)))) 18 3 (nI (s + t + 1)), ⟨frm_trans hy.1 (frm_trans (frm_sI _ _ rfl) (frm_sI _ _ rfl)), hy.2.1, rfl, hy.2.2.2.1, rfl, hy.2.2.2.2.2.1, hy.2.2.2.2.2.2⟩, fun k => ?_⟩
        show fX3_advance_L170 k (n + 1) y = fX3_advance_L170 k n (sI (sI y 18 7 (nI (vS T s (t + 1)))) 18 3 (nI (s + t + 1)))
        rw [fX3_advance_L170, if_pos hy.2.2.2.2.2.1, hy.2.1, hy.2.2.1, if_neg (by rw [le_i, nI_toInt (by omega), nI_toInt (by omega)]; omega), chk_t (inb_nI (by omega) (by decide)), ix_nI (m := s + t) (by omega), et, if_neg (by rw [lt_i, z48]; omega), chk_t (inb_nI (by omega) (by decide)), if_neg (by rw [lt_i, z57]; omega), chk_t (inb_nI (by omega) (by decide)), hy.2.2.2.2.1, ev, em, bnd_eq, bnd_eq, show (sI y 18 7 (nI (vS T s (t + 1)))).1 18 3 = nI (s + t) from hy.2.2.1, bnd_eq, nI_succ]) FU 0 x (by omega) (by have : FU = 100000 := rfl; have := rL_le (p := pD T) hs; unfold dl; omega) ⟨hf, q2, q3, q4, q7, q5, rfl⟩
    exact ⟨y, e, hy⟩
  -- from the token's start on
  have main : ∀ x : St, frm m18 m18 σ x → x.1 18 2 = nI N → x.1 18 3 = nI (skp T N a) → ∃ y : St, ((bnd (sI x 18 4 (x.1 18 3)) fun (σ_2 : St) => bnd (sI σ_2 18 7 (0 : Int32)) fun (σ_3 : St) => bnd (sL σ_3 18 8 (0 : Int64)) fun (σ_4 : St) => fX3_advance_L70  (fun (σ_7 : St)  => (jp (fun (σ_8 : St)  (t_9 : Int32) => bnd (sI σ_8 18 5 t_9) fun (σ_10 : St) => fX3_advance_L170  (fun (σ_14 : St)  => (jp (fun (σ_15 : St)   => bnd (sI σ_15 18 6 ((σ_15.1 18 3) - (σ_15.1 18 4))) fun (σ_16 : St) => some (σ_16, ())) fun j326 => (if (σ_14.1 18 3) = (σ_14.1 18 4) then (jp (fun (σ_17 : St)  (t_18 : Int32) => bnd (sI σ_17 18 5 t_18) fun (σ_19 : St) => bnd (if (σ_19.1 18 2) < ((σ_19.1 18 3) + (1 : Int32)) then (σ_19.1 18 2) else ((σ_19.1 18 3) + (1 : Int32))) fun (t_20 : Int32) => bnd (sI σ_19 18 3 t_20) fun (σ_21 : St) => j326 σ_21) fun j306 => (if (σ_14.1 18 3) < (σ_14.1 18 2) then chk (inb (σ_14.1 18 3) 800) ((if (σ_14.1 1 (ix (σ_14.1 18 3))) = (59 : Int32) then j306 σ_14 (3 : Int32) else j306 σ_14 (4 : Int32))) else j306 σ_14 (0 : Int32))) else j326 σ_14))) FU σ_10 ) fun j167 => (if (σ_7.1 18 3) ≤ (σ_7.1 18 4) then j167 σ_7 (2 : Int32) else j167 σ_7 (1 : Int32)))) FU σ_4 ) = some (y, ())) ∧ frm m18 m18 σ y ∧ tok y T N (skp T N a) := by
    intro x hf q2 q3
    generalize skp T N a = s at sl q3
    have sb : ∀ a b : Nat, a < 2000 → b ≤ a → nI a - nI b = nI (a - b) := fun a b ha hb => by
      rw [eq_i, i32_sub (by rw [nI_toInt (by omega), nI_toInt (by omega)]; omega) (by rw [nI_toInt (by omega), nI_toInt (by omega)]; omega), nI_toInt (by omega), nI_toInt (by omega), nI_toInt (by omega)]
      omega
    rw [bnd_eq, q3, bnd_eq, bnd_eq]
    have f4 : frm m18 m18 σ (sL (sI (sI x 18 4 (nI s)) 18 7 0) 18 8 0) := frm_trans hf (frm_trans (frm_sI _ _ rfl) (frm_trans (frm_sI _ _ rfl) (frm_sL _ _ rfl)))
    obtain ⟨y, y1, y2, y3, y4, y5, y6, y7⟩ := lw s (sL (sI (sI x 18 4 (nI s)) 18 7 0) 18 8 0) sl f4 q2 q3 rfl rfl (by rw [sL_at, if_pos rfl])
    have wle : s + wl T N s ≤ N := rL_le sl
    have dle : s + dl T N s ≤ N := rL_le sl
    rw [y1, jp_eq, y4, y5]
    by_cases w : 0 < wl T N s
    · -- a word
      have ek : tkK T N s = 1 := by unfold tkK; rw [if_pos w]
      have ez : tkZ T N s = wl T N s := by unfold tkZ; rw [if_pos w]
      rw [if_neg (by rw [le_i, nI_toInt (by omega), nI_toInt (by omega)]; omega)]
      have Y3 : (sI y 18 5 1).1 18 3 = nI (s + wl T N s) := y4
      have Y4 : (sI y 18 5 1).1 18 4 = nI s := y5
      have Y5 : (sI y 18 5 1).1 18 5 = 1 := rfl
      have fy : frm m18 m18 σ (sI y 18 5 1) := frm_trans y2 (frm_sI _ _ rfl)
      have Y2 : (sI y 18 5 1).1 18 2 = nI N := y3
      have Y8 : (sI y 18 5 1).2 18 8 = Int64.ofInt ((e32 T s (wl T N s) : Nat) : Int) := y7
      dsimp only
      rw [bnd_eq]
      generalize sI y 18 5 1 = z at Y2 Y3 Y4 Y5 Y8 fy
      rw [show FU = 99999 + 1 from rfl, fX3_advance_L170, if_neg (by rw [Y5]; decide), jp_eq, Y3, Y4, if_neg (fun q => by rw [eq_i, nI_toInt (by omega), nI_toInt (by omega)] at q; omega)]
      dsimp only
      rw [Y3, Y4, sb _ _ (by omega) (by omega), bnd_eq]
      refine ⟨_, rfl, frm_trans fy (frm_sI _ _ rfl), Y2, Y4, ?_, ?_, ?_, fun q => ?_, fun _ => Y8⟩
      · rw [ek]; exact Y5
      · rw [ez, show s + wl T N s - s = wl T N s by omega]; rfl
      · rw [ez]; exact Y3
      · rw [ek] at q; omega
    · have w0 : wl T N s = 0 := by omega
      rw [if_pos (by rw [le_i, nI_toInt (by omega), nI_toInt (by omega)]; omega)]
      have Y3 : (sI y 18 5 2).1 18 3 = nI s := by rw [w0] at y4; exact y4
      have Y4 : (sI y 18 5 2).1 18 4 = nI s := y5
      have Y5 : (sI y 18 5 2).1 18 5 = 2 := rfl
      have Y7 : (sI y 18 5 2).1 18 7 = 0 := y6
      have fy : frm m18 m18 σ (sI y 18 5 2) := frm_trans y2 (frm_sI _ _ rfl)
      have Y2 : (sI y 18 5 2).1 18 2 = nI N := y3
      dsimp only
      rw [bnd_eq]
      generalize sI y 18 5 2 = z0 at Y2 Y3 Y4 Y5 Y7 fy
      obtain ⟨z, z1, z2, z3, z4, z5, z6, z7, z8⟩ := dw' s z0 sl fy Y2 Y3 Y4 Y7 Y5
      rw [z1, jp_eq, z4, z5]
      by_cases d : 0 < dl T N s
      · have ek : tkK T N s = 2 := by unfold tkK; rw [if_neg w, if_pos d]
        have ez : tkZ T N s = dl T N s := by unfold tkZ; rw [if_neg w, if_pos d]
        rw [if_neg (fun q => by rw [eq_i, nI_toInt (by omega), nI_toInt (by omega)] at q; omega)]
        dsimp only
        rw [z4, z5, sb _ _ (by omega) (by omega), bnd_eq]
        refine ⟨_, rfl, frm_trans z2 (frm_sI _ _ rfl), z3, z5, ?_, ?_, ?_, fun _ => z6, fun q => ?_⟩
        · rw [ek]; exact z7
        · rw [ez, show s + dl T N s - s = dl T N s by omega]; rfl
        · rw [ez]; exact z4
        · rw [ek] at q; omega
      · have d0 : dl T N s = 0 := by omega
        have z4' : z.1 18 3 = nI s := by rw [d0] at z4; exact z4
        rw [if_pos (show nI (s + dl T N s) = nI s by rw [d0]; rfl), jp_eq, z3, show nI (s + dl T N s) = nI s by rw [d0]; rfl]
        have fin : ∀ t : Nat, t < 5 → tkK T N s = t → t ≠ 1 → t ≠ 2 → ∃ y : St, (bnd (sI z 18 5 (nI t)) fun (σ_19 : St) => bnd (if (σ_19.1 18 2) < ((σ_19.1 18 3) + (1 : Int32)) then (σ_19.1 18 2) else ((σ_19.1 18 3) + (1 : Int32))) fun (t_20 : Int32) => bnd (sI σ_19 18 3 t_20) fun (σ_21 : St) => bnd (sI σ_21 18 6 ((σ_21.1 18 3) - (σ_21.1 18 4))) fun (σ_16 : St) => some (σ_16, ())) = some (y, ()) ∧ frm m18 m18 σ y ∧ tok y T N s := by
          intro t ht ek n1 n2
          have E2 : (sI z 18 5 (nI t)).1 18 2 = nI N := z3
          have E3 : (sI z 18 5 (nI t)).1 18 3 = nI s := z4'
          have E4 : (sI z 18 5 (nI t)).1 18 4 = nI s := z5
          have E5 : (sI z 18 5 (nI t)).1 18 5 = nI t := rfl
          have fz : frm m18 m18 σ (sI z 18 5 (nI t)) := frm_trans z2 (frm_sI _ _ rfl)
          rw [bnd_eq]
          generalize sI z 18 5 (nI t) = v at E2 E3 E4 E5 fz
          have en : (if nI N < nI s + (1 : Int32) then nI N else nI s + (1 : Int32)) = nI (s + tkZ T N s) := by
            have ez : tkZ T N s = if s < N then 1 else 0 := by unfold tkZ; rw [if_neg w, if_neg d]
            rw [← nI_succ, ez]
            by_cases q : s < N
            · rw [if_neg (by rw [lt_i, nI_toInt (by omega), nI_toInt (by omega)]; omega), if_pos q]
            · rw [if_pos (by rw [lt_i, nI_toInt (by omega), nI_toInt (by omega)]; omega), if_neg q]
              congr 1
              omega
          have zle := tkZ_le (T := T) sl
          rw [E2, E3, en, bnd_eq, bnd_eq, show (sI v 18 3 (nI (s + tkZ T N s))).1 18 3 = nI (s + tkZ T N s) from rfl, show (sI v 18 3 (nI (s + tkZ T N s))).1 18 4 = nI s from E4, sb _ _ (by omega) (by omega), bnd_eq]
          refine ⟨_, rfl, frm_trans fz (frm_trans (frm_sI _ _ rfl) (frm_sI _ _ rfl)), E2, E4, ?_, ?_, rfl, fun q => ?_, fun q => ?_⟩
          · rw [ek]; exact E5
          · rw [show s + tkZ T N s - s = tkZ T N s by omega]; rfl
          · rw [ek] at q; omega
          · rw [ek] at q; omega
        by_cases q : s < N
        · have et : z.1 1 s = T s := (z2.1 1 _ rfl).trans (hT _ q)
          rw [if_pos (by rw [lt_i, nI_toInt (by omega), nI_toInt (by omega)]; omega), chk_t (inb_nI (by omega) (by decide)), ix_nI (m := s) (by omega), et]
          by_cases q2 : T s = 59
          · rw [if_pos q2]
            exact fin 3 (by omega) (by unfold tkK; rw [if_neg w, if_neg d, if_pos q, if_pos q2]) (by omega) (by omega)
          · rw [if_neg q2]
            exact fin 4 (by omega) (by unfold tkK; rw [if_neg w, if_neg d, if_pos q, if_neg q2]) (by omega) (by omega)
        · rw [if_neg (by rw [lt_i, nI_toInt (by omega), nI_toInt (by omega)]; omega)]
          exact fin 0 (by omega) (by unfold tkK; rw [if_neg w, if_neg d, if_neg q]) (by omega) (by omega)
  unfold fX3_advance
  rw [jp_eq, h2, h3]
  by_cases w : N ≤ a
  · have ea : skp T N a = a := by
      unfold skp
      rw [rL_0 (fun z => by omega)]
      rfl
    rw [if_pos (by rw [le_i, nI_toInt (by omega), nI_toInt (by omega)]; omega)]
    exact main σ (frm_refl _ _ _) h2 (by rw [ea]; exact h3)
  · rw [if_neg (by rw [le_i, nI_toInt (by omega), nI_toInt (by omega)]; omega), chk_t (inb_nI (by omega) (by decide)), jp_eq, ix_nI (m := a) (by omega), hT a (by omega)]
    have go : pB T a = true → ∃ y : St, (bnd (sI σ 18 3 ((σ.1 18 3) + (1 : Int32))) fun (σ_23 : St) => fX3_advance_L0  (fun (σ_26 : St)  => (bnd (sI σ_26 18 4 (σ_26.1 18 3)) fun (σ_2 : St) => bnd (sI σ_2 18 7 (0 : Int32)) fun (σ_3 : St) => bnd (sL σ_3 18 8 (0 : Int64)) fun (σ_4 : St) => fX3_advance_L70  (fun (σ_7 : St)  => (jp (fun (σ_8 : St)  (t_9 : Int32) => bnd (sI σ_8 18 5 t_9) fun (σ_10 : St) => fX3_advance_L170  (fun (σ_14 : St)  => (jp (fun (σ_15 : St)   => bnd (sI σ_15 18 6 ((σ_15.1 18 3) - (σ_15.1 18 4))) fun (σ_16 : St) => some (σ_16, ())) fun j326 => (if (σ_14.1 18 3) = (σ_14.1 18 4) then (jp (fun (σ_17 : St)  (t_18 : Int32) => bnd (sI σ_17 18 5 t_18) fun (σ_19 : St) => bnd (if (σ_19.1 18 2) < ((σ_19.1 18 3) + (1 : Int32)) then (σ_19.1 18 2) else ((σ_19.1 18 3) + (1 : Int32))) fun (t_20 : Int32) => bnd (sI σ_19 18 3 t_20) fun (σ_21 : St) => j326 σ_21) fun j306 => (if (σ_14.1 18 3) < (σ_14.1 18 2) then chk (inb (σ_14.1 18 3) 800) ((if (σ_14.1 1 (ix (σ_14.1 18 3))) = (59 : Int32) then j306 σ_14 (3 : Int32) else j306 σ_14 (4 : Int32))) else j306 σ_14 (0 : Int32))) else j326 σ_14))) FU σ_10 ) fun j167 => (if (σ_7.1 18 3) ≤ (σ_7.1 18 4) then j167 σ_7 (2 : Int32) else j167 σ_7 (1 : Int32)))) FU σ_4 )) FU σ_23 ) = some (y, ()) ∧ frm m18 m18 σ y ∧ tok y T N (skp T N a) := by
      intro hp
      have l1 : 1 ≤ rL (pB T) N a := by
        cases e : rL (pB T) N a with
        | zero => exact absurd (show a + 0 < N ∧ pB T (a + 0) = true from ⟨by omega, hp⟩) (by have := rL_out (pB T) N a; rw [e] at this; exact this)
        | succ l => omega
      obtain ⟨y, b1, b2, b3, b4⟩ := bl 1 (sI σ 18 3 (nI (a + 1))) l1 (frm_sI _ _ rfl) h2 rfl
      rw [bnd_eq, h3, ← nI_succ, b1]
      exact main y b2 b3 b4
    by_cases w1 : T a = 32
    · rw [if_pos w1]
      exact go (pB_iff.mpr (Or.inl w1))
    · rw [if_neg w1, chk_t (inb_nI (by omega) (by decide))]
      by_cases w2 : T a = 10
      · rw [if_pos w2]
        exact go (pB_iff.mpr (Or.inr w2))
      · have ea : skp T N a = a := by
          unfold skp
          rw [rL_0 (fun z => by
            rcases pB_iff.mp z.2 with q | q
            · exact w1 q
            · exact w2 q)]
          rfl
        rw [if_neg w2]
        exact main σ (frm_refl _ _ _) h2 (by rw [ea]; exact h3)
