/-! rests, the class: striking -/
/-- what the mark-keeping changes: cells 53 (rows, known), 54, 55 -/
theorem i32_lt {x y : Int} (hx : -2147483648 ≤ x ∧ x < 2147483648) (hy : -2147483648 ≤ y ∧ y < 2147483648) : (Int32.ofInt x < Int32.ofInt y ↔ x < y) ∧ (Int32.ofInt x ≤ Int32.ofInt y ↔ x ≤ y) := by
  rw [lt_i, le_i, i32o hx.1 hx.2, i32o hy.1 hy.2]
  exact ⟨Iff.rfl, Iff.rfl⟩
theorem nI_mul2 {a b : Nat} (ha : a < 2147483648) (hb : b < 2147483648) (h : a * b < 2147483648) : nI a * nI b = nI (a * b) := by
  rw [nI_ofI ha, nI_ofI hb, nI_ofI h, ← Int32.ofInt_mul, Int.natCast_mul]
/-- the greatest of the free steps' values, from the least number on -/
def mxF (F : Nat → Prop) [DecidablePred F] (V : Nat → Int) : Nat → Int
  | 0 => -2147483648
  | m + 1 => if F m then max (mxF F V m) (V m) else mxF F V m
theorem mxF_y {F : Nat → Prop} [DecidablePred F] {V : Nat → Int} {m : Nat} (h : F m) : mxF F V (m + 1) = max (mxF F V m) (V m) := by rw [mxF, if_pos h]
theorem mxF_n {F : Nat → Prop} [DecidablePred F] {V : Nat → Int} {m : Nat} (h : ¬ F m) : mxF F V (m + 1) = mxF F V m := by rw [mxF, if_neg h]
theorem mxF_b {F : Nat → Prop} [DecidablePred F] {V : Nat → Int} : ∀ m : Nat, (∀ k : Nat, k < m → -100000000 ≤ V k ∧ V k ≤ 100000000) → -2147483648 ≤ mxF F V m ∧ mxF F V m ≤ 100000000 := by
  intro m
  induction m with
  | zero => intro _; unfold mxF; omega
  | succ m ih =>
    intro h
    have i1 := ih (fun k hk => h k (by omega))
    have i2 := h m (by omega)
    by_cases w : F m
    · rw [mxF_y w]; omega
    · rw [mxF_n w]; exact i1
theorem mxF_le {F : Nat → Prop} [DecidablePred F] {V : Nat → Int} {x : Int} : ∀ m : Nat, -2147483648 ≤ x → (mxF F V m ≤ x ↔ ∀ k : Nat, k < m → F k → V k ≤ x) := by
  intro m
  induction m with
  | zero => intro hx; exact ⟨fun _ k hk => absurd hk (by omega), fun _ => hx⟩
  | succ m ih =>
    intro hx
    have i1 := ih hx
    by_cases w : F m
    · rw [mxF_y w]
      constructor
      · intro q k hk hF
        by_cases e : k = m
        · subst e; omega
        · exact i1.mp (by omega) k (by omega) hF
      · intro q
        have a := i1.mpr (fun k hk hF => q k (by omega) hF)
        have b := q m (by omega) w
        omega
    · rw [mxF_n w, i1]
      constructor
      · intro q k hk hF
        by_cases e : k = m
        · subst e; exact absurd hF w
        · exact q k (by omega) hF
      · intro q k hk hF
        exact q k (by omega) hF
/-- rows, strides and room of the marks -/
def rmk (σ τ : St) : Prop := (σ.1 53 8).toInt = ((nK τ ^ nB τ : Nat) : Int) ∧ ((nK τ ^ nB τ : Nat) : Int) ≤ (σ.1 54 2147483648).toInt ∧ (σ.1 54 2147483648).toInt ≤ 4096 ∧ ∀ b : Nat, b < nB τ → σ.1 55 b = nI (nK τ ^ b)
theorem rmk.len {σ τ : St} (h : rmk σ τ) : ∃ L : Nat, σ.1 54 2147483648 = nI L ∧ nK τ ^ nB τ ≤ L ∧ L ≤ 4096 := by
  refine ⟨(σ.1 54 2147483648).toInt.toNat, nI_mk (by have := h.2.1; omega), ?_, ?_⟩
  · have := h.2.1; omega
  · have := h.2.2.1; omega
def m54 (c _k : Nat) : Bool := Nat.beq c 54
/-- at the place of the row with baker b's step k -/
theorem valN_out {K n b : Nat} {r : Nat → Nat} (hb : b < n) (k : Nat) : valN K n (upN r b k) = valN K n (upN r b 0) + k * K ^ b := by
  have a := valN_up (B := K) (b := b) (k := k) (r := upN r b 0) n hb
  have e1 : upN r b 0 b = 0 := by unfold upN; rw [if_pos rfl]
  rw [e1, upN_up, Nat.zero_mul] at a
  omega
theorem base_L {K b : Nat} {r : Nat → Nat} : ∀ m : Nat, valN K (m + 1) (upN r b 0) = valN K m (upN r b 0) + (if m = b then 0 else r m * K ^ m) := by
  intro m
  rw [valN]
  unfold upN
  by_cases e : m = b
  · rw [if_pos e, if_pos e, Nat.zero_mul]; omega
  · rw [if_neg e, if_neg e]; omega
section Strike
variable {σ τ : St} {dr : Nat → Nat} {b : Nat} {r : Nat → Nat} {S T : Nat → Int} {cost : Int} {fs bits : Int32}
def vV (S T : Nat → Int) (cost : Int) (k : Nat) : Int := T k - cost * S k
/-- step k is a best free one -/
def okV (τ : St) (fs : Int32) (V : Nat → Int) (k : Nat) : Prop := frB fs k ∧ ∀ j : Nat, j < nK τ → frB fs j → V j ≤ V k
theorem strikeC (h : okM τ) (c : clsR σ τ dr) (hm : rmk σ τ) (hb : b < nB τ) (hr : ∀ j : Nat, r j < nK τ) (hw : rowC σ (nB τ) r) (hac : acc σ S T) (hV : ∀ k : Nat, k < nK τ → -100000000 ≤ vV S T cost k ∧ vV S T cost k ≤ 100000000) : ∃ σ', fX4_strike σ (nI b) bits fs (Int32.ofInt cost) = some (σ', ()) ∧ frm m54 noL σ σ' ∧ σ'.1 54 2147483648 = σ.1 54 2147483648 ∧ (∀ p : Nat, p < nK τ ^ nB τ → ((∀ x : Nat, x < nB τ → x ≠ b → rowAt (nK τ) p x = r x) → (okV τ fs (vV S T cost) (rowAt (nK τ) p b) → σ'.1 54 p = σ.1 54 p) ∧ (¬ okV τ fs (vV S T cost) (rowAt (nK τ) p b) → σ'.1 54 p = σ.1 54 p &&& (bits ^^^ (-1 : Int32)))) ∧ (¬ (∀ x : Nat, x < nB τ → x ≠ b → rowAt (nK τ) p x = r x) → σ'.1 54 p = σ.1 54 p)) := by
  have h4 := h.n4
  have h8 := h.k8
  have hK : 0 < nK τ := by omega
  obtain ⟨L, l1, l2, l3⟩ := hm.len
  have pK : nK τ ^ nB τ ≤ 4096 := powK (by omega) h4
  have dU : ∀ k : Nat, k < nK τ → ∀ x : Nat, upN r b k x < nK τ := fun k hk x => by
    unfold upN
    by_cases w : x = b
    · rw [if_pos w]; exact hk
    · rw [if_neg w]; exact hr x
  have vlt : ∀ k : Nat, k < nK τ → valN (nK τ) (nB τ) (upN r b k) < nK τ ^ nB τ := fun k hk => valN_lt _ (fun x _ => dU k hk x)
  have e5 : ∀ k : Nat, k < nK τ → (σ.1 50 k) - (Int32.ofInt cost * (σ.1 49 k)) = Int32.ofInt (vV S T cost k) := fun k hk => by
    rw [(hac k (by omega)).1, (hac k (by omega)).2, ← Int32.ofInt_mul, ← Int32.ofInt_sub]
    rfl
  unfold fX4_strike
  rw [bnd_eq, bnd_eq]
  -- the place without the baker's own step
  obtain ⟨x5, hx5, e6⟩ := loopK (S := Int32) (fun (k : St → Int32 → Int32 → Option (St × Unit)) n x m => fX4_strike_L6 (nI b) bits fs (Int32.ofInt cost) k n σ x (nI m)) (fun k x => k σ x (nI (nB τ))) (nB τ) (fun m x => x = nI (valN (nK τ) m (upN r b 0))) (fun k n x hp => by
      show fX4_strike_L6 _ _ _ _ _ (n + 1) σ x _ = _
      rw [fX4_strike_L6, c.nb h, if_pos (by rw [le_i]; omega)]) (fun n m x hm' hp => by
      have pm : nK τ ^ m ≤ 4096 := powK (by omega) (by omega)
      have vm := valN_lt (B := nK τ) m (fun x _ => dU 0 hK x)
      have rm := hr m
      refine ⟨nI (valN (nK τ) (m + 1) (upN r b 0)), rfl, fun k => ?_⟩
      show fX4_strike_L6 _ _ _ _ _ (n + 1) σ x _ = fX4_strike_L6 _ _ _ _ _ n σ (nI (valN (nK τ) (m + 1) (upN r b 0))) _
      rw [fX4_strike_L6, c.nb h, if_neg (by rw [le_i, nI_toInt (by omega), nI_toInt (by omega)]; omega), jp_eq, base_L, hp]
      by_cases e : m = b
      · rw [if_pos (by rw [e]), if_pos e]
        dsimp only
        rw [show (0 : Int32) = nI 0 from rfl, nI_plus (by omega), bnd_eq, bnd_eq, nI_succ]
        all_goals rfl
      · have mul : r m * nK τ ^ m < 65536 := by
          have : r m * nK τ ^ m ≤ 7 * 4096 := Nat.mul_le_mul (by omega) pm
          omega
        have em : nI (r m) * nI (nK τ ^ m) = nI (r m * nK τ ^ m) := by
          exact nI_mul2 (by omega) (by omega) (by omega)
        rw [if_neg (fun q => e ((ofNI (by omega) (by omega)).mp q)), if_neg e, chk_t (inb_nI (by omega) (by decide)), chk_t (inb_nI (by omega) (by decide)), ix_nI (m := m) (by omega), hw m hm', hm.2.2.2 m hm', em]
        dsimp only
        rw [nI_plus (by omega), bnd_eq, bnd_eq, nI_succ]
        all_goals rfl) FU 0 0 (by omega) (by have : FU = 100000 := rfl; omega) rfl
  have e6 : ∀ k : St → Int32 → Int32 → Option (St × Unit), fX4_strike_L6 (nI b) bits fs (Int32.ofInt cost) k FU σ 0 0 = k σ x5 (nI (nB τ)) := e6
  rw [e6, hx5, bnd_eq, bnd_eq]
  -- the greatest value
  obtain ⟨x6, hx6, e7⟩ := loopK (S := Int32) (fun (k : St → Int32 → Int32 → Option (St × Unit)) n x m => fX4_strike_L64 (nI b) bits fs (Int32.ofInt cost) (nI (valN (nK τ) (nB τ) (upN r b 0))) k n σ x (nI m)) (fun k x => k σ x (nI (nK τ))) (nK τ) (fun m x => x = Int32.ofInt (mxF (frB fs) (vV S T cost) m)) (fun k n x hp => by
      show fX4_strike_L64 _ _ _ _ _ _ (n + 1) σ x _ = _
      rw [fX4_strike_L64, c.nk h, if_pos (by rw [le_i]; omega)]) (fun n m x hm' hp => by
      have mb := mxF_b (F := frB fs) (V := vV S T cost) m (fun k hk => hV k (by omega))
      have vb := hV m hm'
      refine ⟨Int32.ofInt (mxF (frB fs) (vV S T cost) (m + 1)), rfl, fun k => ?_⟩
      show fX4_strike_L64 _ _ _ _ _ _ (n + 1) σ x _ = fX4_strike_L64 _ _ _ _ _ _ n σ (Int32.ofInt (mxF (frB fs) (vV S T cost) (m + 1))) _
      rw [fX4_strike_L64, c.nk h, if_neg (by rw [le_i, nI_toInt (by omega), nI_toInt (by omega)]; omega), jp_eq, hp]
      by_cases w : frB fs m
      · rw [if_neg w, mxF_y w, chk_t (inb_nI (by omega) (by decide)), chk_t (inb_nI (by omega) (by decide)), ix_nI (m := m) (by omega), e5 m hm', bnd_eq, bnd_eq]
        dsimp only
        have ci := (i32_lt (x := mxF (frB fs) (vV S T cost) m) (y := vV S T cost m) (by omega) (by omega)).1
        by_cases q : mxF (frB fs) (vV S T cost) m < vV S T cost m
        · rw [if_pos (ci.mpr q), bnd_eq, nI_succ, Int.max_eq_right (by omega)]
          all_goals rfl
        · rw [if_neg (fun z => q (ci.mp z)), bnd_eq, nI_succ, Int.max_eq_left (by omega)]
          all_goals rfl
      · rw [if_pos (Decidable.not_not.mp w), mxF_n w]
        dsimp only
        rw [bnd_eq, nI_succ]
        all_goals rfl) FU 0 (-2147483648) (by omega) (by have : FU = 100000 := rfl; omega) (show (-2147483648 : Int32) = Int32.ofInt (-2147483648) by decide)
  have e7 : ∀ k : St → Int32 → Int32 → Option (St × Unit), fX4_strike_L64 (nI b) bits fs (Int32.ofInt cost) (nI (valN (nK τ) (nB τ) (upN r b 0))) k FU σ (-2147483648) 0 = k σ x6 (nI (nK τ)) := e7
  rw [e7, hx6, bnd_eq]
  have mb := mxF_b (F := frB fs) (V := vV S T cost) (nK τ) hV
  have okIff : ∀ k : Nat, k < nK τ → (okV τ fs (vV S T cost) k ↔ frB fs k ∧ mxF (frB fs) (vV S T cost) (nK τ) ≤ vV S T cost k) := fun k hk => by
    have := hV k hk
    unfold okV
    rw [mxF_le (nK τ) (by omega)]
  -- the strokes
  obtain ⟨σ', hp', e8⟩ := loopK (S := St) (fun (k : St → Int32 → Option (St × Unit)) n x m => fX4_strike_L125 (nI b) bits fs (Int32.ofInt cost) (nI (valN (nK τ) (nB τ) (upN r b 0))) (Int32.ofInt (mxF (frB fs) (vV S T cost) (nK τ))) k n x (nI m)) (fun k x => k x (nI (nK τ))) (nK τ) (fun m x => frm m54 noL σ x ∧ x.1 54 2147483648 = σ.1 54 2147483648 ∧ ∀ p : Nat, p < 4096 → (∀ k : Nat, k < m → p = valN (nK τ) (nB τ) (upN r b k) → (okV τ fs (vV S T cost) k → x.1 54 p = σ.1 54 p) ∧ (¬ okV τ fs (vV S T cost) k → x.1 54 p = σ.1 54 p &&& (bits ^^^ (-1 : Int32)))) ∧ ((∀ k : Nat, k < m → p ≠ valN (nK τ) (nB τ) (upN r b k)) → x.1 54 p = σ.1 54 p)) (fun k n x hp => by
      have c1 := clsR_fr (coreC_frm hp.1 (fun c k hc => by
        cases q : m54 c k with
        | false => rfl
        | true => have := Nat.eq_of_beq_eq_true q; omega)) c
      rw [fX4_strike_L125, c1.nk h, if_pos (by rw [le_i]; omega)]) (fun n m x hm' hp => by
      obtain ⟨p1, p2, p3⟩ := hp
      have c1 := clsR_fr (coreC_frm p1 (fun c k hc => by
        cases q : m54 c k with
        | false => rfl
        | true => have := Nat.eq_of_beq_eq_true q; omega)) c
      have vl := vlt m hm'
      have vo := valN_out (K := nK τ) (r := r) hb m
      have pb : nK τ ^ b ≤ 4096 := powK (by omega) (by omega)
      have em : nI m * nI (nK τ ^ b) = nI (m * nK τ ^ b) := by
        have : m * nK τ ^ b ≤ 7 * 4096 := Nat.mul_le_mul (by omega) pb
        exact nI_mul2 (by omega) (by omega) (by omega)
      have ep : nI (valN (nK τ) (nB τ) (upN r b 0)) + nI m * nI (nK τ ^ b) = nI (valN (nK τ) (nB τ) (upN r b m)) := by
        rw [em, nI_plus (by omega), vo]
      have eL : x.1 54 2147483648 = nI L := p2.trans l1
      have e55 : x.1 55 b = nI (nK τ ^ b) := (p1.1 55 b rfl).trans (hm.2.2.2 b hb)
      have e50 : x.1 50 m - Int32.ofInt cost * x.1 49 m = Int32.ofInt (vV S T cost m) := by
        rw [p1.1 50 m rfl, p1.1 49 m rfl]
        exact e5 m hm'
      have vb := hV m hm'
      have inj : ∀ k : Nat, k < nK τ → valN (nK τ) (nB τ) (upN r b k) = valN (nK τ) (nB τ) (upN r b m) → k = m := fun k hk e => by
        have a := rowAt_val (B := nK τ) (nB τ) (fun y _ => dU k hk y) b hb
        have a2 := rowAt_val (B := nK τ) (nB τ) (fun y _ => dU m hm' y) b hb
        rw [e, a2] at a
        unfold upN at a
        rw [if_pos rfl, if_pos rfl] at a
        exact a.symm
      have big : valN (nK τ) (nB τ) (upN r b m) ≠ 2147483648 := by omega
      have stay : okV τ fs (vV S T cost) m → (frm m54 noL σ x ∧ x.1 54 2147483648 = σ.1 54 2147483648 ∧ ∀ p : Nat, p < 4096 → (∀ k : Nat, k < m + 1 → p = valN (nK τ) (nB τ) (upN r b k) → (okV τ fs (vV S T cost) k → x.1 54 p = σ.1 54 p) ∧ (¬ okV τ fs (vV S T cost) k → x.1 54 p = σ.1 54 p &&& (bits ^^^ (-1 : Int32)))) ∧ ((∀ k : Nat, k < m + 1 → p ≠ valN (nK τ) (nB τ) (upN r b k)) → x.1 54 p = σ.1 54 p)) := by
        intro ok
        refine ⟨p1, p2, fun p hp => ⟨fun k hk e => ?_, fun q => (p3 p hp).2 (fun k hk => q k (by omega))⟩⟩
        by_cases w : k = m
        · subst w
          refine ⟨fun _ => (p3 p hp).2 (fun j hj e2 => ?_), fun q => absurd ok q⟩
          have := inj j (by omega) (e2.symm.trans e)
          omega
        · exact (p3 p hp).1 k (by omega) e
      have hit : ¬ okV τ fs (vV S T cost) m → (frm m54 noL σ (sI x 54 (valN (nK τ) (nB τ) (upN r b m)) (x.1 54 (valN (nK τ) (nB τ) (upN r b m)) &&& (bits ^^^ (-1 : Int32)))) ∧ (sI x 54 (valN (nK τ) (nB τ) (upN r b m)) (x.1 54 (valN (nK τ) (nB τ) (upN r b m)) &&& (bits ^^^ (-1 : Int32)))).1 54 2147483648 = σ.1 54 2147483648 ∧ ∀ p : Nat, p < 4096 → (∀ k : Nat, k < m + 1 → p = valN (nK τ) (nB τ) (upN r b k) → (okV τ fs (vV S T cost) k → (sI x 54 (valN (nK τ) (nB τ) (upN r b m)) (x.1 54 (valN (nK τ) (nB τ) (upN r b m)) &&& (bits ^^^ (-1 : Int32)))).1 54 p = σ.1 54 p) ∧ (¬ okV τ fs (vV S T cost) k → (sI x 54 (valN (nK τ) (nB τ) (upN r b m)) (x.1 54 (valN (nK τ) (nB τ) (upN r b m)) &&& (bits ^^^ (-1 : Int32)))).1 54 p = σ.1 54 p &&& (bits ^^^ (-1 : Int32)))) ∧ ((∀ k : Nat, k < m + 1 → p ≠ valN (nK τ) (nB τ) (upN r b k)) → (sI x 54 (valN (nK τ) (nB τ) (upN r b m)) (x.1 54 (valN (nK τ) (nB τ) (upN r b m)) &&& (bits ^^^ (-1 : Int32)))).1 54 p = σ.1 54 p)) := by
        intro nok
        have old : x.1 54 (valN (nK τ) (nB τ) (upN r b m)) = σ.1 54 (valN (nK τ) (nB τ) (upN r b m)) := (p3 _ (by omega)).2 (fun j hj e2 => by
          have := inj j (by omega) e2.symm
          omega)
        refine ⟨frm_trans p1 (frm_sI _ _ rfl), by rw [sI_at, if_neg (fun z => big z.symm)]; exact p2, fun p hp => ?_⟩
        rw [sI_at]
        refine ⟨fun k hk e => ?_, fun q => ?_⟩
        · by_cases w : k = m
          · subst w
            rw [if_pos e, old, e]
            exact ⟨fun q => absurd q nok, fun _ => rfl⟩
          · rw [if_neg (fun e2 => w (inj k (by omega) (e.symm.trans e2)))]
            exact (p3 p hp).1 k (by omega) e
        · rw [if_neg (q m (by omega))]
          exact (p3 p hp).2 (fun k hk => q k (by omega))
      have oi := okIff m hm'
      have ci := (i32_lt (x := mxF (frB fs) (vV S T cost) (nK τ)) (y := vV S T cost m) (by omega) (by omega)).2
      have zL : decide (0 ≤ nI L) = true := decide_eq_true (by rw [le_i, z_0, nI_toInt (by omega)]; omega)
      have pl : ¬ nI L ≤ nI (valN (nK τ) (nB τ) (upN r b m)) := by rw [le_i, nI_toInt (by omega), nI_toInt (by omega)]; omega
      by_cases w : frB fs m
      · by_cases q : mxF (frB fs) (vV S T cost) (nK τ) ≤ vV S T cost m
        · refine ⟨x, stay (oi.mpr ⟨w, q⟩), fun k => ?_⟩
          rw [fX4_strike_L125, c1.nk h, if_neg (by rw [le_i, nI_toInt (by omega), nI_toInt (by omega)]; omega), jp_eq, if_neg w]
          dsimp only
          rw [bnd_eq, chk_t (inb_nI (by omega) (by decide)), ix_nI (m := b) (by omega), e55, ep, bnd_eq, eL, chk_t zL, jp_eq, if_neg pl, jp_eq, if_neg one0, chk_t (inb_nI (by omega) (by decide)), chk_t (inb_nI (by omega) (by decide)), ix_nI (m := m) (by omega), e50, if_pos (ci.mpr q)]
          dsimp only
          rw [bnd_eq, nI_succ]
          all_goals rfl
        · refine ⟨_, hit (fun z => q (oi.mp z).2), fun k => ?_⟩
          rw [fX4_strike_L125, c1.nk h, if_neg (by rw [le_i, nI_toInt (by omega), nI_toInt (by omega)]; omega), jp_eq, if_neg w]
          dsimp only
          rw [bnd_eq, chk_t (inb_nI (by omega) (by decide)), ix_nI (m := b) (by omega), e55, ep, bnd_eq, eL, chk_t zL, jp_eq, if_neg pl, jp_eq, if_neg one0, chk_t (inb_nI (by omega) (by decide)), chk_t (inb_nI (by omega) (by decide)), ix_nI (m := m) (by omega), e50, if_neg (fun z => q (ci.mp z))]
          dsimp only
          rw [eL, ix_nI (m := L) (by omega), chk_t (inb_nI (by omega) (by omega)), chk_t (inb_nI (by omega) (by omega)), ix_nI (m := valN (nK τ) (nB τ) (upN r b m)) (by omega), bnd_eq, bnd_eq, nI_succ]
          all_goals rfl
      · refine ⟨_, hit (fun z => w (oi.mp z).1), fun k => ?_⟩
        rw [fX4_strike_L125, c1.nk h, if_neg (by rw [le_i, nI_toInt (by omega), nI_toInt (by omega)]; omega), jp_eq, if_pos (Decidable.not_not.mp w)]
        dsimp only
        rw [bnd_eq, chk_t (inb_nI (by omega) (by decide)), ix_nI (m := b) (by omega), e55, ep, bnd_eq, eL, chk_t zL, jp_eq, if_neg pl, jp_eq, if_pos rfl]
        dsimp only
        rw [eL, ix_nI (m := L) (by omega), chk_t (inb_nI (by omega) (by omega)), chk_t (inb_nI (by omega) (by omega)), ix_nI (m := valN (nK τ) (nB τ) (upN r b m)) (by omega), bnd_eq, bnd_eq, nI_succ]
        all_goals rfl) FU 0 σ (by omega) (by have : FU = 100000 := rfl; omega) ⟨frm_refl _ _ _, rfl, fun p hp => ⟨fun k hk => absurd hk (by omega), fun _ => rfl⟩⟩
  refine ⟨σ', e8 _, hp'.1, hp'.2.1, fun p hp => ⟨fun hit => ?_, fun no => ?_⟩⟩
  · have kb : rowAt (nK τ) p b < nK τ := rowAt_lt hK
    have e : p = valN (nK τ) (nB τ) (upN r b (rowAt (nK τ) p b)) := by
      rw [← val_rowAt hK (nB τ) p hp]
      refine valN_congr (nB τ) (fun x hx => ?_)
      rw [val_rowAt hK (nB τ) p hp]
      unfold upN
      by_cases w : x = b
      · rw [if_pos w, w]
      · rw [if_neg w]; exact hit x hx w
    exact (hp'.2.2 p (by omega)).1 _ kb e
  · refine (hp'.2.2 p (by omega)).2 (fun k hk e => no (fun x hx hne => ?_))
    rw [e, rowAt_val (nB τ) (fun y _ => dU k hk y) x hx]
    unfold upN
    rw [if_neg hne]
end Strike
