/-! loops: an invariant P m over whatever the loop carries -/
theorem loopG {S β : Type} (g : Nat → S → Nat → β) (N : Nat) (P : Nat → S → Prop) (k : S → β) (hstop : ∀ n s, P N s → g (n + 1) s N = k s) (hstep : ∀ n m s, m < N → P m s → ∃ s', P (m + 1) s' ∧ g (n + 1) s m = g n s' (m + 1)) : ∀ (n m : Nat) (s : S), m ≤ N → N < m + n → P m s → ∃ s', P N s' ∧ g n s m = k s' := by
  intro n
  induction n with
  | zero => intro m s h1 h2; exact absurd h2 (by omega)
  | succ n ih =>
    intro m s h1 h2 hp
    by_cases h : m = N
    · subst h
      exact ⟨s, hp, hstop n s hp⟩
    · obtain ⟨s', hp', e⟩ := hstep n m s (by omega) hp
      obtain ⟨s2, hp2, e2⟩ := ih (m + 1) s' (by omega) (by omega) hp'
      exact ⟨s2, hp2, e.trans e2⟩
/-- with a way out -/
theorem loopX {S β : Type} (g : Nat → S → Nat → β) (N : Nat) (P : Nat → S → Prop) (k : S → β) (Q : β → Prop) (hstop : ∀ n s, P N s → g (n + 1) s N = k s) (hstep : ∀ n m s, m < N → P m s → (∃ s', P (m + 1) s' ∧ g (n + 1) s m = g n s' (m + 1)) ∨ Q (g (n + 1) s m)) : ∀ (n m : Nat) (s : S), m ≤ N → N < m + n → P m s → (∃ s', P N s' ∧ g n s m = k s') ∨ Q (g n s m) := by
  intro n
  induction n with
  | zero => intro m s h1 h2; exact absurd h2 (by omega)
  | succ n ih =>
    intro m s h1 h2 hp
    by_cases h : m = N
    · subst h
      exact Or.inl ⟨s, hp, hstop n s hp⟩
    · rcases hstep n m s (by omega) hp with ⟨s', hp', e⟩ | q
      · rw [e]
        exact ih (m + 1) s' (by omega) (by omega) hp'
      · exact Or.inr q
/-- what bounds the model's memory -/
def okM (τ : St) : Prop := rg (τ.1 0 0) 0 4 ∧
  rg (τ.1 0 1) 0 12 ∧
  rg (τ.1 0 2) 1 8 ∧
  rg (τ.1 0 3) 0 99 ∧
  rg (τ.1 0 4) 1 20 ∧
  rg (τ.1 0 5) 0 99 ∧
  (0 ≤ (τ.1 0 6).toInt ∧ (τ.1 0 6).toInt < 2 ^ (τ.1 0 0).toInt.toNat) ∧
  (∀ s : Nat, s < nS τ → rg (τ.1 3 s) 0 2 ∧ rg (τ.1 4 s) 1 99 ∧ rg (τ.1 6 s) 0 999 ∧ ((τ.1 3 s).toInt = 0 → 1 ≤ (τ.1 5 s).toInt ∧ (τ.1 5 s).toInt < 2 ^ (τ.1 0 0).toInt.toNat) ∧ ((τ.1 3 s).toInt = 1 → rg (τ.1 5 s) 1 4)) ∧
  (0 ≤ (τ.1 0 37).toInt ∧ (τ.1 0 37).toInt < 2 ^ (τ.1 0 0).toInt.toNat) ∧
  (-1 ≤ frc τ ∧ frc τ < (τ.1 0 38).toInt) ∧
  rg (τ.1 0 38) 0 6 ∧
  (∀ i : Nat, (i : Int) < (τ.1 0 38).toInt → rg (τ.1 19 i) 0 2 ∧ rg (τ.1 20 i) 0 7) ∧
  (∀ b : Nat, b < nB τ → rg (τ.1 2 b) 0 99)
theorem okM.hB {τ : St} (h : okM τ) : rg (τ.1 0 0) 0 4 := h.1
theorem okM.hS {τ : St} (h : okM τ) : rg (τ.1 0 1) 0 12 := h.2.1
theorem okM.hK {τ : St} (h : okM τ) : rg (τ.1 0 2) 1 8 := h.2.2.1
theorem okM.hF {τ : St} (h : okM τ) : rg (τ.1 0 3) 0 99 := h.2.2.2.1
theorem okM.hY {τ : St} (h : okM τ) : rg (τ.1 0 4) 1 20 := h.2.2.2.2.1
theorem okM.hD {τ : St} (h : okM τ) : rg (τ.1 0 5) 0 99 := h.2.2.2.2.2.1
theorem okM.hL {τ : St} (h : okM τ) : (0 ≤ (τ.1 0 6).toInt ∧ (τ.1 0 6).toInt < 2 ^ (τ.1 0 0).toInt.toNat) := h.2.2.2.2.2.2.1
theorem okM.hs {τ : St} (h : okM τ) : (∀ s : Nat, s < nS τ → rg (τ.1 3 s) 0 2 ∧ rg (τ.1 4 s) 1 99 ∧ rg (τ.1 6 s) 0 999 ∧ ((τ.1 3 s).toInt = 0 → 1 ≤ (τ.1 5 s).toInt ∧ (τ.1 5 s).toInt < 2 ^ (τ.1 0 0).toInt.toNat) ∧ ((τ.1 3 s).toInt = 1 → rg (τ.1 5 s) 1 4)) := h.2.2.2.2.2.2.2.1
theorem okM.hP {τ : St} (h : okM τ) : (0 ≤ (τ.1 0 37).toInt ∧ (τ.1 0 37).toInt < 2 ^ (τ.1 0 0).toInt.toNat) := h.2.2.2.2.2.2.2.2.1
theorem okM.hf {τ : St} (h : okM τ) : (-1 ≤ frc τ ∧ frc τ < (τ.1 0 38).toInt) := h.2.2.2.2.2.2.2.2.2.1
theorem okM.hl {τ : St} (h : okM τ) : rg (τ.1 0 38) 0 6 := h.2.2.2.2.2.2.2.2.2.2.1
theorem okM.hlaw {τ : St} (h : okM τ) : (∀ i : Nat, (i : Int) < (τ.1 0 38).toInt → rg (τ.1 19 i) 0 2 ∧ rg (τ.1 20 i) 0 7) := h.2.2.2.2.2.2.2.2.2.2.2.1
theorem okM.hc {τ : St} (h : okM τ) : (∀ b : Nat, b < nB τ → rg (τ.1 2 b) 0 99) := h.2.2.2.2.2.2.2.2.2.2.2.2
theorem p2i (n : Nat) : ((2 : Int) ^ n) = ((2 ^ n : Nat) : Int) := by
  induction n with
  | zero => rfl
  | succ n ih => rw [Int.pow_succ, ih, Nat.pow_succ]; omega
theorem okM.n4 {τ : St} (h : okM τ) : nB τ ≤ 4 := by unfold nB; have := h.hB.2; omega
theorem okM.nb {τ : St} (h : okM τ) : (τ.1 0 0).toInt = (nB τ : Int) := by unfold nB; have := h.hB.1; omega
theorem okM.n12 {τ : St} (h : okM τ) : nS τ ≤ 12 := by unfold nS; have := h.hS.2; omega
theorem okM.ns {τ : St} (h : okM τ) : (τ.1 0 1).toInt = (nS τ : Int) := by unfold nS; have := h.hS.1; omega
theorem okM.k8 {τ : St} (h : okM τ) : nK τ ≤ 8 ∧ 1 ≤ nK τ := by unfold nK; have := h.hK.2; have := h.hK.1; omega
theorem okM.nk {τ : St} (h : okM τ) : (τ.1 0 2).toInt = (nK τ : Int) := by unfold nK; have := h.hK.1; omega
theorem okM.p16 {τ : St} (h : okM τ) : 2 ^ nB τ ≤ 16 := Nat.pow_le_pow_right (n := 2) (by decide) h.n4
theorem okM.law {τ : St} (h : okM τ) : lawOK τ := ⟨h.hf.1, by have := h.hf.2; have := h.hl.2; omega⟩
theorem okM.prm16 {τ : St} (h : okM τ) : 0 ≤ (τ.1 0 37).toInt ∧ (τ.1 0 37).toInt < 16 := by
  have h1 := h.hP
  rw [p2i] at h1
  have h2 : (2 : Nat) ^ (τ.1 0 0).toInt.toNat ≤ 16 := h.p16
  omega
theorem okM.ls {τ : St} (h : okM τ) : τ.1 0 6 = nI (lsd τ) ∧ lsd τ < 2 ^ nB τ := by
  have h1 := h.hL
  rw [p2i] at h1
  refine ⟨nI_mk h1.1, ?_⟩
  unfold lsd nB
  omega
theorem okM.full {τ : St} (_ : okM τ) : fullN τ < 2 ^ nB τ := by
  unfold fullN
  have : 0 < 2 ^ nB τ := Nat.pow_pos (by decide)
  omega
/-- the model's doors -/
def drOK (τ : St) (dr : Nat → Nat) : Prop := ∀ s : Nat, s < nS τ → knd τ s = 0 → τ.1 27 s = nI (dr s) ∧ dr s < 2 ^ nB τ
abbrev shN (τ : St) : Prop := shtF τ (frc τ)
/-- a sum over sets below m, as "each" goes through them -/
def accE (τ : St) (i m : Nat) (F : Nat → Int) : Int := sumN m (fun set => if popN (nB τ) set = nmd τ i then F (if shN τ then fullN τ else set) else 0)
theorem wrI_wr (f : Nat → Int) (k : Nat) (x y : Int) : wrI (wrI f k x) k y = wrI f k y := by
  funext j
  unfold wrI
  split <;> rfl
theorem wrI_at (f : Nat → Int) (k : Nat) (x : Int) : wrI f k x k = x := by unfold wrI; rw [if_pos rfl]
theorem sortE_L {τ : St} (h : okM τ) {r : Nat → Nat} (hr : rowOK τ r) {i : Nat} (hi : i < 12) (hn : 0 ≤ (τ.1 5 i).toInt ∧ (τ.1 5 i).toInt ≤ 4) (w : Int) (so ea pa bo ho : Nat → Int) (kx : St → Int32 → Option (St × Unit)) :
    fX9_sortBuys_L91 (nI i) (Int64.ofInt w) kx FU (lg τ (fun b => so b + w * accE τ i 1 (fun s => soldF τ i s b r)) (fun b => ea b + w * accE τ i 1 (fun s => gainF τ i s b r)) (wrI pa i (pa i + w * accE τ i 1 (fun s => payF τ i s r))) (wrI bo i (bo i + w * accE τ i 1 (fun s => boF τ i s r))) (wrI ho i (ho i + w * accE τ i 1 (fun s => 12 - boF τ i s r)))) (nI 1) = kx (lg τ (fun b => so b + w * accE τ i (2 ^ nB τ) (fun s => soldF τ i s b r)) (fun b => ea b + w * accE τ i (2 ^ nB τ) (fun s => gainF τ i s b r)) (wrI pa i (pa i + w * accE τ i (2 ^ nB τ) (fun s => payF τ i s r))) (wrI bo i (bo i + w * accE τ i (2 ^ nB τ) (fun s => boF τ i s r))) (wrI ho i (ho i + w * accE τ i (2 ^ nB τ) (fun s => 12 - boF τ i s r)))) (nI (2 ^ nB τ)) := by
  have hp16 := h.p16
  have h1 : 1 ≤ 2 ^ nB τ := Nat.pow_pos (by decide)
  have hin : inb (nI i) 12 = true := inb_nI (by omega) (by decide)
  have hixi : ix (nI i) = i := ix_nI (by omega)
  have key := loopG (S := Unit) (fun n _ m => fX9_sortBuys_L91 (nI i) (Int64.ofInt w) kx n (lg τ (fun b => so b + w * accE τ i m (fun s => soldF τ i s b r)) (fun b => ea b + w * accE τ i m (fun s => gainF τ i s b r)) (wrI pa i (pa i + w * accE τ i m (fun s => payF τ i s r))) (wrI bo i (bo i + w * accE τ i m (fun s => boF τ i s r))) (wrI ho i (ho i + w * accE τ i m (fun s => 12 - boF τ i s r)))) (nI m)) (2 ^ nB τ) (fun m _ => 1 ≤ m)
    (fun _ => kx (lg τ (fun b => so b + w * accE τ i (2 ^ nB τ) (fun s => soldF τ i s b r)) (fun b => ea b + w * accE τ i (2 ^ nB τ) (fun s => gainF τ i s b r)) (wrI pa i (pa i + w * accE τ i (2 ^ nB τ) (fun s => payF τ i s r))) (wrI bo i (bo i + w * accE τ i (2 ^ nB τ) (fun s => boF τ i s r))) (wrI ho i (ho i + w * accE τ i (2 ^ nB τ) (fun s => 12 - boF τ i s r)))) (nI (2 ^ nB τ))) ?_ ?_ FU 1 () h1 (by have : FU = 100000 := rfl; omega) (Nat.le_refl _)
  · obtain ⟨_, _, e⟩ := key
    exact e
  · intro n _ _
    rw [fX9_sortBuys_L91, everyoneM (τ := lg τ _ _ _ _ _) h.hB, cl_some]
    have c : nI (fullN τ) < nI (2 ^ nB τ) := by
      rw [lt_i, nI_toInt (by have := h.full; omega), nI_toInt (by omega)]
      have := h.full
      omega
    have e0 : fullN (lg τ (fun b => so b + w * accE τ i (2 ^ nB τ) (fun s => soldF τ i s b r)) (fun b => ea b + w * accE τ i (2 ^ nB τ) (fun s => gainF τ i s b r)) (wrI pa i (pa i + w * accE τ i (2 ^ nB τ) (fun s => payF τ i s r))) (wrI bo i (bo i + w * accE τ i (2 ^ nB τ) (fun s => boF τ i s r))) (wrI ho i (ho i + w * accE τ i (2 ^ nB τ) (fun s => 12 - boF τ i s r)))) = fullN τ := rfl
    rw [e0, if_pos c]
  · intro n m _ hm hm1
    refine ⟨(), (by omega), ?_⟩
    rw [fX9_sortBuys_L91, everyoneM (τ := lg τ _ _ _ _ _) h.hB, cl_some]
    generalize hq1 : (fun b => so b + w * accE τ i m (fun s => soldF τ i s b r)) = so'
    generalize hq2 : (fun b => ea b + w * accE τ i m (fun s => gainF τ i s b r)) = ea'
    generalize hq3 : (wrI pa i (pa i + w * accE τ i m (fun s => payF τ i s r))) = pa'
    generalize hq4 : (wrI bo i (bo i + w * accE τ i m (fun s => boF τ i s r))) = bo'
    generalize hq5 : (wrI ho i (ho i + w * accE τ i m (fun s => 12 - boF τ i s r))) = ho'
    have c : ¬ nI (fullN τ) < nI m := by
      rw [lt_i, nI_toInt (by have := h.full; omega), nI_toInt (by omega)]
      unfold fullN
      omega
    have e0 : fullN (lg τ so' ea' pa' bo' ho') = fullN τ := rfl
    rw [e0, if_neg c, bitsM _ (by omega), cl_some, chk_t hin]
    simp only [jp_eq, bnd_eq, hixi]
    have e5 : (lg τ so' ea' pa' bo' ho').1 5 i = τ.1 5 i := rfl
    have hpop : popN 4 m = popN (nB τ) m := by rw [← pop4 m (by omega), pop_eq (nB τ) (by have := h.n4; omega) m (by omega)]
    have hpl : popN (nB τ) m ≤ 4 := by
      have : ∀ s : Nat, s < 16 → popN 4 s ≤ 4 := by decide +kernel
      rw [← hpop]
      exact this m (by omega)
    have hnm : τ.1 5 i = nI (nmd τ i) := nI_mk hn.1
    have hnm4 : nmd τ i ≤ 4 := by unfold nmd; omega
    have accS : ∀ F : Nat → Int, accE τ i (m + 1) F = accE τ i m F + (if popN (nB τ) m = nmd τ i then F (if shN τ then fullN τ else m) else 0) := fun _ => rfl
    rw [e5, hnm, hpop, ← nI_succ]
    by_cases hc : popN (nB τ) m = nmd τ i
    · have hc' : nI (popN (nB τ) m) = nI (nmd τ i) := by rw [hc]
      rw [if_pos hc', shoutedM (τ := lg τ so' ea' pa' bo' ho') h.law, cl_some]
      have fin : ∀ s : Nat, s < 2 ^ nB τ → s = (if shN τ then fullN τ else m) → cl (fX9_buy (lg τ so' ea' pa' bo' ho') (nI i) (nI s) (Int64.ofInt w)) (fun (σ_28 : St) (_ : Unit) => fX9_sortBuys_L91 (nI i) (Int64.ofInt w) kx n σ_28 (nI (m + 1))) = fX9_sortBuys_L91 (nI i) (Int64.ofInt w) kx n (lg τ (fun b => so b + w * accE τ i (m + 1) (fun s => soldF τ i s b r)) (fun b => ea b + w * accE τ i (m + 1) (fun s => gainF τ i s b r)) (wrI pa i (pa i + w * accE τ i (m + 1) (fun s => payF τ i s r))) (wrI bo i (bo i + w * accE τ i (m + 1) (fun s => boF τ i s r))) (wrI ho i (ho i + w * accE τ i (m + 1) (fun s => 12 - boF τ i s r)))) (nI (m + 1)) := by
        intro s hs2 es
        rw [buyM h.hB h.hF h.hY h.hc h.prm16 hr hi hs2 w, cl_some]
        simp only [accS, if_pos hc, ← es, Int.mul_add, ← Int.add_assoc]
        subst hq1 hq2 hq3 hq4 hq5
        simp only [wrI_wr, wrI_at, Int.mul_add, Int.add_assoc]
      have eS : shtF (lg τ so' ea' pa' bo' ho') (frc (lg τ so' ea' pa' bo' ho')) = shN τ := rfl
      by_cases hsh : shN τ
      · have : shtF (lg τ so' ea' pa' bo' ho') (frc (lg τ so' ea' pa' bo' ho')) := hsh
        rw [if_pos this, if_neg one0, everyoneM (τ := lg τ so' ea' pa' bo' ho') h.hB, cl_some]
        exact fin (fullN τ) h.full (by rw [if_pos hsh])
      · have : ¬ shtF (lg τ so' ea' pa' bo' ho') (frc (lg τ so' ea' pa' bo' ho')) := hsh
        rw [if_neg this, if_pos rfl]
        exact fin m hm (by rw [if_neg hsh])
    · have hc' : ¬ nI (popN (nB τ) m) = nI (nmd τ i) := fun w => hc (by
        have := congrArg Int32.toInt w
        rw [nI_toInt (by omega), nI_toInt (by omega)] at this
        omega)
      rw [if_neg hc']
      simp only [accS, if_neg hc, Int.add_zero]
      subst hq1 hq2 hq3 hq4 hq5
      rfl
