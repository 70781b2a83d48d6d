/-! best law: pure, and the class's means -/
def rrN (n : Nat) (r : Nat → Nat) : Nat → Nat := fun j => if j < n then r j else 0
theorem ex_sure {K : Nat} {P : Nat → Nat → Int} {r : Nat → Nat} : ∀ (n : Nat) (F : (Nat → Nat) → Int), (∀ b : Nat, b < n → r b < K ∧ ∀ k : Nat, k < K → P b k = if k = r b then 100 else 0) → ex K n P F = 100 ^ n * F (rrN n r) := by
  intro n
  induction n with
  | zero =>
    intro F _
    have : rrN 0 r = fun _ => 0 := by funext j; unfold rrN; rw [if_neg (by omega)]
    rw [this, Int.pow_zero, Int.one_mul]
    rfl
  | succ n ih =>
    intro F hP
    have hn := hP n (by omega)
    have e1 : ex K (n + 1) P F = sumN K (fun k => if k = r n then (100 * ex K n P (fun r' => F (upN r' n k))) else 0) := by
      show sumN K (fun k => P n k * ex K n P (fun r' => F (upN r' n k))) = _
      refine sumN_congr K (fun k hk => ?_)
      rw [hn.2 k hk]
      by_cases w : k = r n
      · rw [if_pos w, if_pos w]
      · rw [if_neg w, if_neg w, Int.zero_mul]
    have e2 := sumN_pick (fun k => 100 * ex K n P (fun r' => F (upN r' n k))) (r n) K
    rw [e1, e2, if_pos hn.1, ih _ (fun b hb => hP b (by omega))]
    have e3 : upN (rrN n r) n (r n) = rrN (n + 1) r := by
      funext j
      unfold upN rrN
      by_cases w : j = n
      · rw [if_pos w, if_pos (by omega), w]
      · rw [if_neg w]
        by_cases w2 : j < n
        · rw [if_pos w2, if_pos (by omega)]
        · rw [if_neg w2, if_neg (by omega)]
    rw [e3, Int.pow_succ, ← Int.mul_assoc, Int.mul_comm 100 (100 ^ n)]
theorem rrN_row {K n p : Nat} (hK : 0 < K) (hp : p < K ^ n) : rrN n (rowAt K p) = rowAt K p := by
  funext j
  unfold rrN
  by_cases w : j < n
  · rw [if_pos w]
  · rw [if_neg w, rowAt_big hK hp (by omega)]
def payG (τ : St) (sh : Prop) [Decidable sh] (s : Nat) (r : Nat → Nat) : Int := mny τ s * setSum τ sh (nmd τ) s (fun set => payF τ s set r)
def boG (τ : St) (sh : Prop) [Decidable sh] (s : Nat) (r : Nat → Nat) : Int := mny τ s * setSum τ sh (nmd τ) s (fun set => boF τ s set r)
theorem boG_b {τ : St} (h : okM τ) (sh : Prop) [Decidable sh] {s : Nat} (hs : s < nS τ) (r : Nat → Nat) : 0 ≤ boG τ sh s r ∧ boG τ sh s r ≤ 19008 := by
  have mb := mny_b h hs
  have s1 := setSum_nn (τ := τ) sh (nmd τ) s (F := fun set => boF τ s set r) (fun set => (boF_b τ s set r).1)
  have s2 := (setSumA h sh (dr := nmd τ) (s := s) (F := fun set => boF τ s set r) (B := 12) (by omega) (fun set => by have := boF_b τ s set r; omega)).2
  unfold boG
  refine ⟨Int.mul_nonneg mb.1 s1, ?_⟩
  have := Int.mul_le_mul mb.2 s2 s1 (by omega)
  omega
theorem payF_b {τ : St} (h : okM τ) (s set : Nat) {r : Nat → Nat} (hr : ∀ j : Nat, r j < 8) : 0 ≤ payF τ s set r ∧ payF τ s set r ≤ 3600 := by
  unfold payF
  cases e : leastN (nB τ) set r with
  | none => exact ⟨Int.le_refl _, (by decide : (0 : Int) ≤ 3600)⟩
  | some l =>
    have l8 := leastN_lt (nB τ) (fun b _ => hr b) l e
    have pb := prc_b h (l := l) (by omega)
    dsimp only
    split <;> omega
theorem payG_b {τ : St} (h : okM τ) (sh : Prop) [Decidable sh] {s : Nat} (hs : s < nS τ) {r : Nat → Nat} (hr : ∀ j : Nat, r j < 8) : 0 ≤ payG τ sh s r ∧ payG τ sh s r ≤ 5702400 := by
  have mb := mny_b h hs
  have s1 := setSum_nn (τ := τ) sh (nmd τ) s (F := fun set => payF τ s set r) (fun set => (payF_b h s set hr).1)
  have s2 := (setSumA h sh (dr := nmd τ) (s := s) (F := fun set => payF τ s set r) (B := 3600) (by omega) (fun set => by have := payF_b h s set hr; omega)).2
  unfold payG
  refine ⟨Int.mul_nonneg mb.1 s1, ?_⟩
  have := Int.mul_le_mul mb.2 s2 s1 (by omega)
  omega
theorem mnV_mul {c pa bo : Int} (hc : 1 ≤ c ∧ c ≤ 100000000) (hp : 0 ≤ pa ∧ pa ≤ 5702400) (hb : 0 ≤ bo ∧ bo ≤ 19008) : mnV (c * pa) (c * bo) = mnV pa bo := by
  unfold mnV
  have m1 := Int.mul_le_mul hc.2 hp.2 hp.1 (by omega)
  have m2 := Int.mul_le_mul hc.2 hb.2 hb.1 (by omega)
  have m3 := Int.mul_nonneg (show 0 ≤ c by omega) hp.1
  have m4 := Int.mul_nonneg (show 0 ≤ c by omega) hb.1
  by_cases w : bo = 0
  · rw [if_pos w, if_pos (by rw [w, Int.mul_zero])]
  · have w2 : c * bo ≠ 0 := Int.mul_ne_zero (by omega) w
    rw [if_neg w, if_neg w2, show (1000 : Int64) = Int64.ofInt 1000 from rfl, ← Int64.ofInt_mul, ← Int64.ofInt_mul, tdiv64 (by omega) (by omega), tdiv64 (by omega) (by omega), Int.mul_assoc, Int.mul_tdiv_mul_of_pos _ _ (show 0 < c by omega)]
section Mean
variable {σ τ : St} {dr : Nat → Nat}
def mF (τ : St) (sh : Prop) [Decidable sh] (s K : Nat) (o : Option Nat) : Int32 := match o with
  | none => -1
  | some p => mnV (payG τ sh s (rowAt K p)) (boG τ sh s (rowAt K p))
theorem meanFirstC {sh : Prop} [Decidable sh] {f : Nat → Bool} (h : okM τ) (c : clsR σ τ (nmd τ)) (hm : rmk σ τ) {i s : Nat} (hi : i < 21) (hs : s < nS τ) (hf : mrk σ τ i f) (hsh : σ.1 43 14 = if sh then 1 else 0) : ∃ σ', fX4_meanByFirst σ (nI s) (nI i) = some (σ', mF τ sh s (nK τ) (nthN f 0 (nK τ ^ nB τ))) ∧ frm (mk 45 45) (mk 43 43) σ σ' := by
  have h4 := h.n4
  have h8 := h.k8
  have hK : 0 < nK τ := by omega
  have pK : nK τ ^ nB τ ≤ 4096 := powK (by omega) h4
  have pl := placeC (p := 0) h hm hi hf (by decide)
  have pl : fX4_place σ (nI i) 0 = some (σ, encN (nthN f 0 (nK τ ^ nB τ))) := pl
  unfold fX4_meanByFirst
  rw [pl, cl_some, bnd_eq]
  cases en : nthN f 0 (nK τ ^ nB τ) with
  | none =>
    rw [if_pos (show encN none = -1 from rfl)]
    exact ⟨σ, rfl, frm_refl _ _ _⟩
  | some p =>
    have hp := (nthN_some _ en).1
    have r8 : ∀ j : Nat, rowAt (nK τ) p j < 8 := fun j => Nat.lt_of_lt_of_le (rowAt_lt hK) h8.1
    rw [if_neg (show ¬ encN (some p) = -1 from nI_ne_m1 (by omega)), show encN (some p) = nI p from rfl, bnd_eq]
    obtain ⟨x, hx, e⟩ := loopK (S := St) (fun (k : St → Int32 → Option (St × Int32)) n x m => fX4_meanByFirst_L17 (nI s) (nI p) k n x (nI m)) (fun k x => k x (nI (nB τ))) (nB τ) (fun m x => frm (mk 45 45) noL σ x ∧ ∀ b : Nat, b < m → ∀ k : Nat, k < 8 → x.1 45 (8 * b + k) = if k = rowAt (nK τ) p b then 100 else 0) (fun k n x hq => by
        have c1 := clsR_fr (coreC_frm hq.1 (mk43 (by omega))) c
        rw [fX4_meanByFirst_L17, c1.nb h, if_pos (by rw [le_i]; omega)]) (fun n m x hm' hq => by
        have c1 := clsR_fr (coreC_frm hq.1 (mk43 (by omega))) c
        have m1 : rmk x τ := ⟨by rw [hq.1.1 53 8 rfl]; exact hm.1, by rw [hq.1.1 54 2147483648 rfl]; exact hm.2.1, by rw [hq.1.1 54 2147483648 rfl]; exact hm.2.2.1, fun b hb => by rw [hq.1.1 55 b rfl]; exact hm.2.2.2 b hb⟩
        obtain ⟨y, d1, d2, d3⟩ := makeSureC x (b := m) (s := rowAt (nK τ) p m) (by omega) (r8 m)
        refine ⟨y, ⟨frm_trans hq.1 d2, fun b hb k hk => ?_⟩, fun k => ?_⟩
        · rw [d3]
          by_cases w : b = m
          · subst w
            rw [if_pos (by omega)]
            by_cases w2 : k = rowAt (nK τ) p b
            · rw [if_pos (by omega), if_pos w2]
            · rw [if_neg (by omega), if_neg w2]
          · rw [if_neg (by omega)]
            exact hq.2 b (by omega) k hk
        · rw [fX4_meanByFirst_L17, c1.nb h, if_neg (by rw [le_i, nI_toInt (by omega), nI_toInt (by omega)]; omega), stepInC h c1 m1 hm' hp, cl_some, d1, cl_some, bnd_eq, nI_succ]
          all_goals rfl) FU 0 σ (by omega) (by have : FU = 100000 := rfl; omega) ⟨frm_refl _ _ _, fun b hb => absurd hb (by omega)⟩
    have e : ∀ k : St → Int32 → Option (St × Int32), fX4_meanByFirst_L17 (nI s) (nI p) k FU σ 0 = k x (nI (nB τ)) := e
    have c1 := clsR_fr (coreC_frm hx.1 (mk43 (by omega))) c
    have hC : ptC x (nB τ) (fun b k => if k = rowAt (nK τ) p b then 100 else 0) := fun b hb k hk => by
      rw [hx.2 b hb k hk]
      by_cases w : k = rowAt (nK τ) p b
      · rw [if_pos w]; show (100 : Int32) = Int32.ofInt (if k = rowAt (nK τ) p b then 100 else 0); rw [if_pos w]; rfl
      · rw [if_neg w]; show (0 : Int32) = Int32.ofInt (if k = rowAt (nK τ) p b then 100 else 0); rw [if_neg w]; rfl
    have hW : okW τ (fun b k => if k = rowAt (nK τ) p b then 100 else 0) := fun b hb => by
      refine ⟨fun k hk => ?_, sum_put (rowAt (nK τ) p b) (r8 b)⟩
      have rl := rowAt_lt (K := nK τ) (c := p) (b := b) hK
      by_cases w : k = rowAt (nK τ) p b
      · show 0 ≤ (if k = rowAt (nK τ) p b then (100 : Int) else 0) ∧ (if k = rowAt (nK τ) p b then (100 : Int) else 0) ≤ 100 ∧ _
        rw [if_pos w]
        exact ⟨by decide, by decide, fun q => absurd q (by omega)⟩
      · show 0 ≤ (if k = rowAt (nK τ) p b then (100 : Int) else 0) ∧ (if k = rowAt (nK τ) p b then (100 : Int) else 0) ≤ 100 ∧ (_ → (if k = rowAt (nK τ) p b then (100 : Int) else 0) = 0)
        rw [if_neg w]
        exact ⟨by decide, by decide, fun _ => rfl⟩
    have exS : ∀ F : (Nat → Nat) → Int, ex 8 (nB τ) (fun b k => if k = rowAt (nK τ) p b then 100 else 0) F = 100 ^ nB τ * F (rowAt (nK τ) p) := fun F => by
      rw [ex_sure (r := rowAt (nK τ) p) (nB τ) F (fun b _ => ⟨r8 b, fun _ _ => rfl⟩), rrN_row hK hp]
    have hd := c.drB
    have ep : paB τ sh (nmd τ) (fun b k => if k = rowAt (nK τ) p b then 100 else 0) s = 100 ^ nB τ * payG τ sh s (rowAt (nK τ) p) := by
      unfold paB
      rw [← ex_bill h sh hW (hd s hs) (paΦ τ s), exS]
      rfl
    have eb : boB τ sh (nmd τ) (fun b k => if k = rowAt (nK τ) p b then 100 else 0) s = 100 ^ nB τ * boG τ sh s (rowAt (nK τ) p) := by
      unfold boB
      rw [← ex_bill h sh hW (hd s hs) (boΦ τ s), exS]
      rfl
    have p100 : (1 : Int) ≤ 100 ^ nB τ ∧ (100 : Int) ^ nB τ ≤ 100000000 := by
      have : ∀ n : Nat, n < 5 → (1 : Int) ≤ 100 ^ n ∧ (100 : Int) ^ n ≤ 100000000 := by decide
      exact this _ (by omega)
    have bb := boG_b h sh hs (rowAt (nK τ) p)
    have pb := payG_b h sh hs r8
    have bm := Int.mul_le_mul p100.2 bb.2 bb.1 (by omega)
    have bn := Int.mul_nonneg (show (0 : Int) ≤ 100 ^ nB τ by omega) bb.1
    obtain ⟨y, g1, g2⟩ := meanOfC h c1 sh (by rw [hx.1.1 43 14 rfl]; exact hsh) hC hW hs (by rw [eb]; omega)
    refine ⟨y, ?_, frm_trans (frm_mono (fun _ _ q => q) noL_any hx.1) (frm_mono noL_any (fun _ _ q => q) g2)⟩
    rw [e, g1, cl_some, ep, eb, mnV_mul p100 pb bb]
    rfl
end Mean
theorem search_L48 (q1 q2 q3 q4 : Int32) (k : St → Int32 → Option (St × Unit)) : ∀ (n : Nat) (σ : St) (c : Int32), fX4_search_L48 q1 q2 q3 q4 k n σ c = fX4_searchA_L48 q1 q2 q3 q4 k n σ c := by
  intro n
  induction n with
  | zero => intro σ c; rfl
  | succ n ih =>
    intro σ c
    rw [fX4_search_L48, fX4_searchA_L48]
    simp only [ih]
theorem search_L18 (q1 q2 : Int32) (k : St → Int32 → Option (St × Unit)) : ∀ (n : Nat) (σ : St) (c : Int32), fX4_search_L18 q1 q2 k n σ c = fX4_searchA_L18 q1 q2 k n σ c := by
  intro n
  induction n with
  | zero => intro σ c; rfl
  | succ n ih =>
    intro σ c
    rw [fX4_search_L18, fX4_searchA_L18]
    simp only [ih, search_L48]
theorem countRows_L7 (k : St → Int32 → Option (St × Unit)) : ∀ (n : Nat) (σ : St) (c : Int32), fX4_countRows_L7 k n σ c = fX4_countRowsA_L7 k n σ c := by
  intro n
  induction n with
  | zero => intro σ c; rfl
  | succ n ih =>
    intro σ c
    rw [fX4_countRows_L7, fX4_countRowsA_L7]
    simp only [ih]
/-- with room enough nothing is made anew -/
theorem search_A {σ τ : St} {dr : Nat → Nat} (h : okM τ) (c : clsR σ τ dr) (hL : rg (σ.1 54 2147483648) 8 4096) (hr : ((nK τ ^ nB τ : Nat) : Int) ≤ (σ.1 54 2147483648).toInt) (p q : Int32) : fX4_search σ p q = fX4_searchA σ p q := by
  have h4 := h.n4
  have h8 := h.k8
  have pK : nK τ ^ nB τ ≤ 4096 := powK (by omega) h4
  have eq : fX4_countRows σ = fX4_countRowsA σ := by
    unfold fX4_countRows fX4_countRowsA
    rw [bnd_eq, bnd_eq, bnd_eq, bnd_eq, countRows_L7]
    obtain ⟨x, hx, e⟩ := loopK (S := St) (fun (k : St → Int32 → Option (St × Unit)) n x m => fX4_countRowsA_L7 k n x (nI m)) (fun k x => k x (nI (nB τ))) (nB τ) (fun m x => frm (fun c k => Nat.beq c 55 || (Nat.beq c 53 && Nat.beq k 8)) noL σ x ∧ x.1 53 8 = nI (nK τ ^ m)) (fun k n x hp => by
        have e2 : x.1 2 0 = nI (nB τ) := (hp.1.1 2 0 rfl).trans (c.nb h)
        rw [fX4_countRowsA_L7, e2, if_pos (by rw [le_i]; omega)]) (fun n m x hm hp => by
        have e2 : x.1 2 0 = nI (nB τ) := (hp.1.1 2 0 rfl).trans (c.nb h)
        have e3 : (sI x 55 m (nI (nK τ ^ m))).1 2 2 = nI (nK τ) := (hp.1.1 2 2 rfl).trans (c.nk h)
        have e4 : (sI x 55 m (nI (nK τ ^ m))).1 53 8 = nI (nK τ ^ m) := hp.2
        have pm1 : nK τ ^ (m + 1) ≤ 4096 := powK (by omega) (by omega)
        have pm : nK τ ^ m ≤ 4096 := powK (by omega) (by omega)
        have em : nI (nK τ ^ m) * nI (nK τ) = nI (nK τ ^ (m + 1)) := by
          rw [Nat.pow_succ] at pm1 ⊢
          exact nI_mul2 (by omega) (by omega) (by omega)
        refine ⟨sI (sI x 55 m (nI (nK τ ^ m))) 53 8 (nI (nK τ ^ (m + 1))), ⟨frm_trans hp.1 (frm_trans (frm_sI _ _ rfl) (frm_sI _ _ rfl)), rfl⟩, fun k => ?_⟩
        rw [fX4_countRowsA_L7, e2, if_neg (by rw [le_i, nI_toInt (by omega), nI_toInt (by omega)]; omega), chk_t (inb_nI (by omega) (by decide)), ix_nI (m := m) (by omega), hp.2, bnd_eq, e3, e4, em, bnd_eq, bnd_eq, nI_succ]
        all_goals rfl) FU 0 (sI σ 53 8 1) (by omega) (by have : FU = 100000 := rfl; omega) ⟨frm_sI _ _ rfl, rfl⟩
    have e : ∀ k : St → Int32 → Option (St × Unit), fX4_countRowsA_L7 k FU (sI σ 53 8 1) 0 = k x (nI (nB τ)) := e
    have w : x.1 53 8 ≤ x.1 54 2147483648 := by
      rw [hx.2, hx.1.1 54 2147483648 rfl, le_i, nI_toInt (by omega)]
      exact hr
    rw [e, e, if_pos w, if_pos w]
  unfold fX4_search fX4_searchA
  rw [eq]
  simp only [search_L18]
