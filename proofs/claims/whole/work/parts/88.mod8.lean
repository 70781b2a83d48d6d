/-! what stays: masks -/
def frm (a b : Nat → Nat → Bool) (τ τ' : St) : Prop := (∀ c k : Nat, a c k = false → τ'.1 c k = τ.1 c k) ∧ (∀ c k : Nat, b c k = false → τ'.2 c k = τ.2 c k)
theorem frm_refl (a b : Nat → Nat → Bool) (τ : St) : frm a b τ τ := ⟨fun _ _ _ => rfl, fun _ _ _ => rfl⟩
theorem frm_trans {a b : Nat → Nat → Bool} {τ τ' τ2 : St} (h1 : frm a b τ τ') (h2 : frm a b τ' τ2) : frm a b τ τ2 := ⟨fun c k h => (h2.1 c k h).trans (h1.1 c k h), fun c k h => (h2.2 c k h).trans (h1.2 c k h)⟩
theorem frm_mono {a b a' b' : Nat → Nat → Bool} {τ τ' : St} (ha : ∀ c k : Nat, a' c k = false → a c k = false) (hb : ∀ c k : Nat, b' c k = false → b c k = false) (h : frm a b τ τ') : frm a' b' τ τ' := ⟨fun c k q => h.1 c k (ha c k q), fun c k q => h.2 c k (hb c k q)⟩
theorem frm_sI {a b : Nat → Nat → Bool} (τ : St) {q k : Nat} (x : Int32) (h : a q k = true) : frm a b τ (sI τ q k x) := by
  refine ⟨fun c j hj => ?_, fun _ _ _ => rfl⟩
  by_cases e : c = q
  · subst e
    rw [sI_at]
    by_cases e2 : j = k
    · subst e2; rw [h] at hj; exact absurd hj (by decide)
    · rw [if_neg e2]
  · rw [sI_ne e]
theorem frm_sL {a b : Nat → Nat → Bool} (τ : St) {q k : Nat} (x : Int64) (h : b q k = true) : frm a b τ (sL τ q k x) := by
  refine ⟨fun _ _ _ => rfl, fun c j hj => ?_⟩
  by_cases e : c = q
  · subst e
    rw [sL_at]
    by_cases e2 : j = k
    · subst e2; rw [h] at hj; exact absurd hj (by decide)
    · rw [if_neg e2]
  · rw [sL_ne e]
/-- the model's cells and slots that no answer rests on -/
def scM (c k : Nat) : Bool := Nat.beq c 1 || (Nat.ble 7 c && Nat.ble c 12) || Nat.beq c 14 || Nat.beq c 18 || (Nat.ble 21 c && Nat.ble c 33) || (Nat.beq c 0 && ((Nat.ble 15 k && Nat.ble k 22) || Nat.beq k 30 || Nat.beq k 31 || Nat.beq k 35 || Nat.beq k 36 || Nat.beq k 47 || Nat.beq k 55 || Nat.beq k 57 || (Nat.ble 62 k && Nat.ble k 67)))
def core (τ : St) : St := (fun c k => cond (scM c k) 0 (τ.1 c k), fun _ _ => 0)
theorem core_frm {a b : Nat → Nat → Bool} {τ τ' : St} (h : frm a b τ τ') (ha : ∀ c k : Nat, a c k = true → scM c k = true) : core τ' = core τ := by
  refine St_ext (fun c k => ?_) (fun _ _ => rfl)
  show cond (scM c k) 0 (τ'.1 c k) = cond (scM c k) 0 (τ.1 c k)
  cases e : scM c k
  · have : a c k = false := by
      cases e2 : a c k
      · rfl
      · rw [ha c k e2] at e; exact absurd e (by decide)
    show τ'.1 c k = τ.1 c k
    exact h.1 c k this
  · rfl
theorem fr {α : Type} {τ τ' : St} (G : St → α) (hG : ∀ τ : St, G (core τ) = G τ) (h : core τ' = core τ) : G τ' = G τ := by rw [← hG τ', h, hG]
theorem okM_fr {τ τ' : St} (h : core τ' = core τ) : okM τ → okM τ' := fun w => (fr okM (fun _ => rfl) h).mpr w
/-! masks of the model -/
def aRow (c _k : Nat) : Bool := Nat.beq c 21
def bRow (c k : Nat) : Bool := (Nat.ble 22 c && Nat.ble c 26) || (Nat.beq c 0 && Nat.beq k 47)
theorem aRow_sc : ∀ c k : Nat, aRow c k = true → scM c k = true := by
  intro c k h
  have : c = 21 := Nat.eq_of_beq_eq_true h
  subst this
  rfl
theorem rows_nat : ∀ n : Nat, n < 5 → ∀ m : Nat, m ≤ n → nI (8 ^ m) * 8 = nI (8 ^ (m + 1)) := by decide +kernel
theorem pow8 {n : Nat} (h : n ≤ 4) : 8 ^ n ≤ 4096 := Nat.pow_le_pow_right (n := 8) (by decide) h
theorem rowsM {τ : St} (h : okM τ) : fX9_rows τ = some (τ, nI (8 ^ nB τ)) := by
  have h4 := h.n4
  unfold fX9_rows
  rw [bnd_eq, bnd_eq]
  obtain ⟨_, _, e⟩ := loopG (S := Unit) (fun n _ m => fX9_rows_L4 (fun (σ_5 : St) (x1_6 : Int32) (_ : Int32) => some (σ_5, x1_6)) n τ (nI (8 ^ m)) (nI m)) (nB τ) (fun _ _ => True) (fun _ => some (τ, nI (8 ^ nB τ))) (fun n _ _ => by
      rw [fX9_rows_L4, if_pos (by rw [le_i, h.nb, nI_toInt (by omega)]; omega)]) (fun n m _ hm _ => ⟨(), trivial, by
      have c : ¬ τ.1 0 0 ≤ nI m := by rw [le_i, h.nb, nI_toInt (by omega)]; omega
      rw [fX9_rows_L4, if_neg c, bnd_eq, bnd_eq, rows_nat (nB τ) (by omega) m (by omega), ← nI_succ]⟩) FU 0 () (Nat.zero_le _) (by have : FU = 100000 := rfl; omega) trivial
  exact e
theorem code_bits2 : ∀ b : Nat, b < 4 → ∀ c : Nat, c < 64 → ∀ d : Nat, d < 64 → (nI (64 * c + d) >>> (((3 : Int32) * nI b) &&& 31)) &&& (7 : Int32) = nI ((64 * c + d) / 8 ^ b % 8) := by decide +kernel
theorem code_bits : ∀ b : Nat, b < 4 → ∀ c : Nat, c < 4096 → (nI c >>> (((3 : Int32) * nI b) &&& 31)) &&& (7 : Int32) = nI (c / 8 ^ b % 8) := by
  intro b hb c hc
  have := code_bits2 b hb (c / 64) (by omega) (c % 64) (by omega)
  rwa [show 64 * (c / 64) + c % 64 = c by omega] at this
/-- the parts of asks that lie in the model's memory -/
def ptM (τ : St) (P : Nat → Nat → Int) : Prop := ∀ b : Nat, b < nB τ → ∀ k : Nat, k < 8 → τ.1 18 (8 * b + k) = Int32.ofInt (P b k) ∧ 0 ≤ P b k ∧ P b k ≤ 100
theorem i32o {x : Int} (h1 : -2147483648 ≤ x) (h2 : x < 2147483648) : (Int32.ofInt x).toInt = x := Int32.toInt_ofInt_of_le (by omega) (by omega)
theorem wr_row {τ : St} {r : Nat → Nat} (m : Nat) (x : Nat) (hx : x < 8) (hr : ∀ b : Nat, b < m → τ.1 21 b = nI (r b) ∧ r b < 8) (hm : r m = x) : ∀ b : Nat, b < m + 1 → (sI τ 21 m (nI x)).1 21 b = nI (r b) ∧ r b < 8 := by
  intro b hb
  rw [sI_at]
  by_cases e : b = m
  · subst e; rw [if_pos rfl, hm]; exact ⟨rfl, hx⟩
  · rw [if_neg e]; exact hr b (by omega)
theorem laysM {τ : St} (h : okM τ) {P : Nat → Nat → Int} (hP : ptM τ P) {c : Nat} (hc : c < 8 ^ nB τ) : ∃ τ', fX9_lays_ τ (nI c) 0 = some (τ', ()) ∧ frm aRow (fun c k => Nat.beq c 0 && Nat.beq k 47) τ τ' ∧ rowOK τ' (rowAt 8 c) ∧ τ'.2 0 47 = Int64.ofInt (prodN (nB τ) (fun b => P b (rowAt 8 c b))) := by
  have h4 := h.n4
  have hc2 : c < 4096 := Nat.lt_of_lt_of_le hc (pow8 h4)
  unfold fX9_lays_
  rw [bnd_eq, bnd_eq]
  obtain ⟨τ', hp, e⟩ := loopG (S := St) (fun n s m => fX9_lays__L7 (nI c) 0 (fun (σ_8 : St) (_ : Int32) => some (σ_8, ())) n s (nI m)) (nB τ) (fun m s => frm aRow (fun c k => Nat.beq c 0 && Nat.beq k 47) τ s ∧ (∀ b : Nat, b < m → s.1 21 b = nI (rowAt 8 c b) ∧ rowAt 8 c b < 8) ∧ s.2 0 47 = Int64.ofInt (prodN m (fun b => P b (rowAt 8 c b)))) (fun s => some (s, ())) (fun n s hs => by
      have e0 : s.1 0 0 = τ.1 0 0 := hs.1.1 0 0 rfl
      rw [fX9_lays__L7, if_pos (by rw [le_i, e0, h.nb, nI_toInt (by omega)]; omega)]) (fun n m s hm hs => by
      have e0 : s.1 0 0 = τ.1 0 0 := hs.1.1 0 0 rfl
      have cc : ¬ s.1 0 0 ≤ nI m := by rw [le_i, e0, h.nb, nI_toInt (by omega)]; omega
      have hin : inb (nI m) 4 = true := inb_nI (by omega) (by decide)
      have hixm : ix (nI m) = m := ix_nI (by omega)
      have hd : rowAt 8 c m < 8 := rowAt_lt (by decide)
      have e1 : (nI c >>> (((3 : Int32) * nI m) &&& 31)) &&& (7 : Int32) = nI (rowAt 8 c m) := code_bits m (by omega) c hc2
      have e2 : (sI s 21 m (nI (rowAt 8 c m))).1 21 m = nI (rowAt 8 c m) := by rw [sI_at, if_pos rfl]
      have hin2 : inb (nI (8 * m + rowAt 8 c m)) 32 = true := inb_nI (by omega) (by decide)
      have e3 : (sI s 21 m (nI (rowAt 8 c m))).1 18 (8 * m + rowAt 8 c m) = Int32.ofInt (P m (rowAt 8 c m)) := by
        rw [sI_ne (by decide), hs.1.1 18 _ rfl]
        exact (hP m hm _ hd).1
      have e4 : (sI s 21 m (nI (rowAt 8 c m))).2 0 47 = s.2 0 47 := rfl
      have e5 : (Int32.ofInt (P m (rowAt 8 c m))).toInt64 = Int64.ofInt (P m (rowAt 8 c m)) := by
        have := (hP m hm _ hd).2
        rw [i64_of, i32o (by omega) (by omega)]
      refine ⟨sL (sI s 21 m (nI (rowAt 8 c m))) 0 47 (Int64.ofInt (prodN (m + 1) (fun b => P b (rowAt 8 c b)))), ⟨?_, ?_, ?_⟩, ?_⟩
      · exact frm_trans (frm_trans hs.1 (frm_sI s _ rfl)) (frm_sL _ _ rfl)
      · exact wr_row m (rowAt 8 c m) hd hs.2.1 rfl
      · rw [sL_at, if_pos rfl]
      · rw [fX9_lays__L7, if_neg cc, chk_t hin, bnd_eq, e1, hixm]
        rw [jp_eq, if_pos rfl, chk_t hin, e2, ix8' m (by omega) _ hd, chk_t hin2, ix_nI (by omega)]
        refine (bnd_eq _ _).trans ?_
        rw [bnd_eq, e3, e4, hs.2.2, e5, ← Int64.ofInt_mul, ← nI_succ]
        rfl) FU 0 (sL τ 0 47 1) (Nat.zero_le _) (by have : FU = 100000 := rfl; omega) ⟨frm_sL _ _ rfl, fun b hb => absurd hb (by omega), by rw [sL_at, if_pos rfl]; exact (by decide : (1 : Int64) = Int64.ofInt 1)⟩
  refine ⟨τ', e, hp.1, ?_, hp.2.2⟩
  have eN : nB τ' = nB τ := by unfold nB; rw [hp.1.1 0 0 rfl]
  unfold rowOK
  rw [eN]
  exact hp.2.1
/-- the same for a plain row: its weight is 1 -/
theorem laysP {τ : St} (h : okM τ) {c : Nat} (hc : c < 8 ^ nB τ) : ∃ τ', fX9_lays_ τ (nI c) 1 = some (τ', ()) ∧ frm aRow (fun c k => Nat.beq c 0 && Nat.beq k 47) τ τ' ∧ rowOK τ' (rowAt 8 c) ∧ τ'.2 0 47 = Int64.ofInt 1 := by
  have h4 := h.n4
  have hc2 : c < 4096 := Nat.lt_of_lt_of_le hc (pow8 h4)
  unfold fX9_lays_
  rw [bnd_eq, bnd_eq]
  obtain ⟨τ', hp, e⟩ := loopG (S := St) (fun n s m => fX9_lays__L7 (nI c) 1 (fun (σ_8 : St) (_ : Int32) => some (σ_8, ())) n s (nI m)) (nB τ) (fun m s => frm aRow (fun c k => Nat.beq c 0 && Nat.beq k 47) τ s ∧ (∀ b : Nat, b < m → s.1 21 b = nI (rowAt 8 c b) ∧ rowAt 8 c b < 8) ∧ s.2 0 47 = Int64.ofInt 1) (fun s => some (s, ())) (fun n s hs => by
      have e0 : s.1 0 0 = τ.1 0 0 := hs.1.1 0 0 rfl
      rw [fX9_lays__L7, if_pos (by rw [le_i, e0, h.nb, nI_toInt (by omega)]; omega)]) (fun n m s hm hs => by
      have e0 : s.1 0 0 = τ.1 0 0 := hs.1.1 0 0 rfl
      have cc : ¬ s.1 0 0 ≤ nI m := by rw [le_i, e0, h.nb, nI_toInt (by omega)]; omega
      have hin : inb (nI m) 4 = true := inb_nI (by omega) (by decide)
      have hixm : ix (nI m) = m := ix_nI (by omega)
      have hd : rowAt 8 c m < 8 := rowAt_lt (by decide)
      have e1 : (nI c >>> (((3 : Int32) * nI m) &&& 31)) &&& (7 : Int32) = nI (rowAt 8 c m) := code_bits m (by omega) c hc2
      have e4 : (sI s 21 m (nI (rowAt 8 c m))).2 0 47 = s.2 0 47 := rfl
      refine ⟨sL (sI s 21 m (nI (rowAt 8 c m))) 0 47 (Int64.ofInt 1), ⟨?_, ?_, ?_⟩, ?_⟩
      · exact frm_trans (frm_trans hs.1 (frm_sI s _ rfl)) (frm_sL _ _ rfl)
      · exact wr_row m (rowAt 8 c m) hd hs.2.1 rfl
      · rw [sL_at, if_pos rfl]
      · rw [fX9_lays__L7, if_neg cc, chk_t hin, bnd_eq, e1, hixm]
        simp only [jp_eq, bnd_eq]
        rw [if_neg one0, e4, hs.2.2, ← nI_succ]
        rfl) FU 0 (sL τ 0 47 1) (Nat.zero_le _) (by have : FU = 100000 := rfl; omega) ⟨frm_sL _ _ rfl, fun b hb => absurd hb (by omega), by rw [sL_at, if_pos rfl]; exact (by decide : (1 : Int64) = Int64.ofInt 1)⟩
  refine ⟨τ', e, hp.1, ?_, hp.2.2⟩
  have eN : nB τ' = nB τ := by unfold nB; rw [hp.1.1 0 0 rfl]
  unfold rowOK
  rw [eN]
  exact hp.2.1
def bSum (c _k : Nat) : Bool := Nat.ble 22 c && Nat.ble c 26
/-- the five sums, as far as they are read -/
def sums (τ : St) (so ea pa bo ho : Nat → Int) : Prop := (∀ b : Nat, b < 4 → τ.2 22 b = Int64.ofInt (so b) ∧ τ.2 23 b = Int64.ofInt (ea b)) ∧ ∀ s : Nat, s < 12 → τ.2 24 s = Int64.ofInt (pa s) ∧ τ.2 25 s = Int64.ofInt (bo s) ∧ τ.2 26 s = Int64.ofInt (ho s)
theorem clearsM (τ : St) : ∃ τ', fX9_clears τ = some (τ', ()) ∧ frm (fun _ _ => false) bSum τ τ' ∧ sums τ' (fun _ => 0) (fun _ => 0) (fun _ => 0) (fun _ => 0) (fun _ => 0) := by
  unfold fX9_clears
  rw [bnd_eq]
  obtain ⟨τ1, hp1, e1⟩ := loopG (S := St) (fun n s m => fX9_clears_L2 (fun (σ_5 : St) (_ : Int32) => bnd (0 : Int32) fun (x1_7 : Int32) => fX9_clears_L29 (fun (σ_12 : St) (_ : Int32) => some (σ_12, ())) FU σ_5 x1_7) n s (nI m)) 4 (fun m s => frm (fun _ _ => false) bSum τ s ∧ ∀ b : Nat, b < m → s.2 22 b = 0 ∧ s.2 23 b = 0) (fun s => bnd (0 : Int32) fun (x1_7 : Int32) => fX9_clears_L29 (fun (σ_12 : St) (_ : Int32) => some (σ_12, ())) FU s x1_7) (fun n s hs => by
      rw [fX9_clears_L2, if_pos (by decide)]) (fun n m s hm hs => by
      have cc : ¬ (4 : Int32) ≤ nI m := by rw [le_i, z_4, nI_toInt (by omega)]; omega
      have hin : inb (nI m) 4 = true := inb_nI (by omega) (by decide)
      refine ⟨sL (sL s 22 m 0) 23 m 0, ⟨frm_trans (frm_trans hs.1 (frm_sL _ _ rfl)) (frm_sL _ _ rfl), fun b hb => ?_⟩, ?_⟩
      · rw [sL_ne (by decide), sL_at, sL_at, sL_ne (by decide)]
        by_cases e : b = m
        · rw [if_pos e, if_pos e]; exact ⟨rfl, rfl⟩
        · rw [if_neg e, if_neg e]; exact hs.2 b (by omega)
      · rw [fX9_clears_L2, if_neg cc, chk_t hin, bnd_eq, chk_t hin, bnd_eq, bnd_eq, ix_nI (by omega), ← nI_succ]) FU 0 τ (by omega) (by have : FU = 100000 := rfl; omega) ⟨frm_refl _ _ _, fun b hb => absurd hb (by omega)⟩
  obtain ⟨τ2, hp2, e2⟩ := loopG (S := St) (fun n s m => fX9_clears_L29 (fun (σ_12 : St) (_ : Int32) => some (σ_12, ())) n s (nI m)) 12 (fun m s => frm (fun _ _ => false) bSum τ s ∧ (∀ b : Nat, b < 4 → s.2 22 b = 0 ∧ s.2 23 b = 0) ∧ ∀ b : Nat, b < m → s.2 24 b = 0 ∧ s.2 25 b = 0 ∧ s.2 26 b = 0) (fun s => some (s, ())) (fun n s hs => by
      rw [fX9_clears_L29, if_pos (by decide)]) (fun n m s hm hs => by
      have z12 : (12 : Int32).toInt = 12 := by decide
      have cc : ¬ (12 : Int32) ≤ nI m := by rw [le_i, z12, nI_toInt (by omega)]; omega
      have hin : inb (nI m) 12 = true := inb_nI (by omega) (by decide)
      refine ⟨sL (sL (sL s 24 m 0) 25 m 0) 26 m 0, ⟨frm_trans (frm_trans (frm_trans hs.1 (frm_sL _ _ rfl)) (frm_sL _ _ rfl)) (frm_sL _ _ rfl), hs.2.1, fun b hb => ?_⟩, ?_⟩
      · have q1 : (sL (sL (sL s 24 m 0) 25 m 0) 26 m 0).2 24 b = if b = m then 0 else s.2 24 b := by rw [sL_ne (by decide), sL_ne (by decide), sL_at]
        have q2 : (sL (sL (sL s 24 m 0) 25 m 0) 26 m 0).2 25 b = if b = m then 0 else s.2 25 b := by rw [sL_ne (by decide), sL_at, sL_ne (by decide)]
        have q3 : (sL (sL (sL s 24 m 0) 25 m 0) 26 m 0).2 26 b = if b = m then 0 else s.2 26 b := by rw [sL_at, sL_ne (by decide), sL_ne (by decide)]
        rw [q1, q2, q3]
        by_cases e : b = m
        · rw [if_pos e, if_pos e, if_pos e]; exact ⟨rfl, rfl, rfl⟩
        · rw [if_neg e, if_neg e, if_neg e]; exact hs.2.2 b (by omega)
      · rw [fX9_clears_L29, if_neg cc, chk_t hin, bnd_eq, chk_t hin, bnd_eq, chk_t hin, bnd_eq, bnd_eq, ix_nI (by omega), ← nI_succ]) FU 0 τ1 (by omega) (by have : FU = 100000 := rfl; omega) ⟨hp1.1, hp1.2, fun b hb => absurd hb (by omega)⟩
  exact ⟨τ2, e1.trans (by rw [bnd_eq]; exact e2), hp2.1, hp2.2.1, hp2.2.2⟩
theorem lg_self (τ : St) : lg τ (fun b => (τ.2 22 b).toInt) (fun b => (τ.2 23 b).toInt) (fun b => (τ.2 24 b).toInt) (fun b => (τ.2 25 b).toInt) (fun b => (τ.2 26 b).toInt) = τ := by
  refine St_ext (fun _ _ => rfl) (fun c k => ?_)
  unfold lg
  dsimp only
  by_cases h1 : c = 22
  · subst h1; rw [if_pos rfl]; exact Int64.ofInt_toInt _
  rw [if_neg h1]
  by_cases h2 : c = 23
  · subst h2; rw [if_pos rfl]; exact Int64.ofInt_toInt _
  rw [if_neg h2]
  by_cases h3 : c = 24
  · subst h3; rw [if_pos rfl]; exact Int64.ofInt_toInt _
  rw [if_neg h3]
  by_cases h4 : c = 25
  · subst h4; rw [if_pos rfl]; exact Int64.ofInt_toInt _
  rw [if_neg h4]
  by_cases h5 : c = 26
  · subst h5; rw [if_pos rfl]; exact Int64.ofInt_toInt _
  rw [if_neg h5]
theorem lg_frm (τ : St) (so ea pa bo ho : Nat → Int) : frm (fun _ _ => false) bSum τ (lg τ so ea pa bo ho) := by
  refine ⟨fun _ _ _ => rfl, fun c k h => ?_⟩
  have n22 : c ≠ 22 := fun e => by subst e; exact absurd (show true = false from h) (by decide)
  have n23 : c ≠ 23 := fun e => by subst e; exact absurd (show true = false from h) (by decide)
  have n24 : c ≠ 24 := fun e => by subst e; exact absurd (show true = false from h) (by decide)
  have n25 : c ≠ 25 := fun e => by subst e; exact absurd (show true = false from h) (by decide)
  have n26 : c ≠ 26 := fun e => by subst e; exact absurd (show true = false from h) (by decide)
  unfold lg
  dsimp only
  rw [if_neg n22, if_neg n23, if_neg n24, if_neg n25, if_neg n26]
/-- rowBuys on any memory -/
theorem rowBuysS {τ : St} (h : okM τ) {r : Nat → Nat} (hr : rowOK τ r) {dr : Nat → Nat} (hd : drOK τ dr) (w : Int) (hw : τ.2 0 47 = Int64.ofInt w) {so ea pa bo ho : Nat → Int} (hs : sums τ so ea pa bo ho) :
    ∃ τ', fX9_rowBuys τ = some (τ', ()) ∧ frm (fun _ _ => false) bSum τ τ' ∧ sums τ' (fun b => so b + w * soldM τ dr r (nS τ) b) (fun b => ea b + w * earnM τ dr r (nS τ) b) (addP pa (fun s => w * payS τ dr r s) (nS τ)) (addP bo (fun s => w * boS τ dr r s) (nS τ)) (addP ho (fun s => w * hoS τ dr r s) (nS τ)) := by
  have key := rowBuysM h hr hd w hw (fun b => (τ.2 22 b).toInt) (fun b => (τ.2 23 b).toInt) (fun b => (τ.2 24 b).toInt) (fun b => (τ.2 25 b).toInt) (fun b => (τ.2 26 b).toInt)
  rw [lg_self] at key
  refine ⟨_, key, lg_frm _ _ _ _ _ _, fun b hb => ?_, fun s hs2 => ?_⟩
  · have a := hs.1 b hb
    refine ⟨?_, ?_⟩
    · show Int64.ofInt ((τ.2 22 b).toInt + _) = _
      rw [Int64.ofInt_add, Int64.ofInt_toInt, a.1, ← Int64.ofInt_add]
    · show Int64.ofInt ((τ.2 23 b).toInt + _) = _
      rw [Int64.ofInt_add, Int64.ofInt_toInt, a.2, ← Int64.ofInt_add]
  · have a := hs.2 s hs2
    have gen : ∀ (f g G : Nat → Int), Int64.ofInt (f s) = Int64.ofInt (g s) → Int64.ofInt (addP f G (nS τ) s) = Int64.ofInt (addP g G (nS τ) s) := by
      intro f g G e
      unfold addP
      by_cases l : s < nS τ
      · rw [if_pos l, if_pos l, Int64.ofInt_add, e, ← Int64.ofInt_add]
      · rw [if_neg l, if_neg l, e]
    exact ⟨gen _ _ _ (by rw [Int64.ofInt_toInt, a.1]), gen _ _ _ (by rw [Int64.ofInt_toInt, a.2.1]), gen _ _ _ (by rw [Int64.ofInt_toInt, a.2.2])⟩
