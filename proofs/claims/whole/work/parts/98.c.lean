/-! rests, the class: the search -/
def earnC (τ : St) (sh : Prop) [Decidable sh] (dr : Nat → Nat) (cost : Int) (b : Nat) (r : Nat → Nat) : Int := genS τ sh dr (fun l => prc τ l - cost) b r
/-- baker b's step in row r is free and none that is free is better -/
def okB (τ : St) (sh : Prop) [Decidable sh] (dr : Nat → Nat) (bar : Nat → Prop) (cost : Int) (b : Nat) (r : Nat → Nat) : Prop := ¬ bar (r b) ∧ ∀ j : Nat, j < nK τ → ¬ bar j → earnC τ sh dr cost b (upN r b j) ≤ earnC τ sh dr cost b r
def csC (τ : St) (dear : Option Nat) (b i : Nat) : Int := cst τ b + (if dear = some b then (i : Int) else 0)
theorem earnC_b {τ : St} (h : okM τ) (sh : Prop) [Decidable sh] (dr : Nat → Nat) {cost : Int} (hc : 0 ≤ cost ∧ cost ≤ 130) (b : Nat) {r : Nat → Nat} (hr : ∀ j : Nat, r j < 8) : -68428800 ≤ earnC τ sh dr cost b r ∧ earnC τ sh dr cost b r ≤ 68428800 := genS_b h sh dr (fun l hl => by have := prc_b h (l := l) (by omega); omega) b hr
theorem m54_43 : ∀ c k : Nat, c < 43 → m54 c k = false := fun c k hc => by
  cases q : m54 c k with
  | false => rfl
  | true => have := Nat.eq_of_beq_eq_true q; omega
theorem rmk_54 {σ σ' τ : St} (hf : frm m54 noL σ σ') (hl : σ'.1 54 2147483648 = σ.1 54 2147483648) (h : rmk σ τ) : rmk σ' τ := by
  unfold rmk
  rw [hl, hf.1 53 8 rfl]
  exact ⟨h.1, h.2.1, h.2.2.1, fun b hb => by rw [hf.1 55 b rfl]; exact h.2.2.2 b hb⟩
section Search
variable {τ : St} {dr : Nat → Nat} {cases : Nat} {dear : Option Nat} {bar : Nat → Nat → Prop}
/-- the row at a place is that of the others with the baker's own step -/
theorem row_up {K n p b : Nat} {r : Nat → Nat} (hK : 0 < K) (hp : p < K ^ n) (hr0 : ∀ x : Nat, n ≤ x → r x = 0) (hb : b < n) (hm : ∀ x : Nat, x < n → x ≠ b → rowAt K p x = r x) : upN r b (rowAt K p b) = rowAt K p := by
  funext x
  unfold upN
  by_cases e : x = b
  · rw [if_pos e, e]
  · rw [if_neg e]
    by_cases hx : x < n
    · exact (hm x hx e).symm
    · rw [hr0 x (by omega), rowAt_big hK hp (by omega)]
/-- one case's stroke -/
theorem stroke {sh : Prop} [Decidable sh] {σ : St} (h : okM τ) (c : clsR σ τ dr) (hm : rmk σ τ) {b : Nat} (hb : b < nB τ) {r : Nat → Nat} (hr : ∀ j : Nat, r j < nK τ) (hr0 : ∀ x : Nat, nB τ ≤ x → r x = 0) (hw : rowC σ (nB τ) r) (hac : acc σ (wS τ sh dr (fun _ => 1) b r (2 ^ nB τ)) (wS τ sh dr (prc τ) b r (2 ^ nB τ))) {bits fs : Int32} {cost : Int} (hc : 0 ≤ cost ∧ cost ≤ 130) {br : Nat → Prop} (hfs : ∀ k : Nat, k < 8 → (frB fs k ↔ k < nK τ ∧ ¬ br k)) : ∃ σ', fX4_strike σ (nI b) bits fs (Int32.ofInt cost) = some (σ', ()) ∧ frm m54 noL σ σ' ∧ σ'.1 54 2147483648 = σ.1 54 2147483648 ∧ ∀ p : Nat, p < nK τ ^ nB τ → ∀ i : Nat, i < 32 → (frB (σ'.1 54 p) i ↔ frB (σ.1 54 p) i ∧ (frB bits i → (∀ x : Nat, x < nB τ → x ≠ b → rowAt (nK τ) p x = r x) → okB τ sh dr br cost b (rowAt (nK τ) p))) := by
  have h8 := h.k8
  have hK : 0 < nK τ := by omega
  have hd := c.drB
  have u8 : ∀ k : Nat, k < nK τ → ∀ j : Nat, upN r b k j < 8 := fun k hk j => by
    have := hr j
    unfold upN
    by_cases w : j = b
    · rw [if_pos w]; omega
    · rw [if_neg w]; omega
  have eV : ∀ k : Nat, k < nK τ → vV (wS τ sh dr (fun _ => 1) b r (2 ^ nB τ)) (wS τ sh dr (prc τ) b r (2 ^ nB τ)) cost k = earnC τ sh dr cost b (upN r b k) := fun k hk => by
    unfold vV earnC
    rw [wS_gen h sh hd _ b hr hk, wS_gen h sh hd _ b hr hk, genS_sub]
  obtain ⟨σ', a1, a2, a3, a4⟩ := strikeC (bits := bits) (fs := fs) h c hm hb hr hw hac (cost := cost) (fun k hk => by
    rw [eV k hk]
    have := earnC_b h sh dr hc b (u8 k hk)
    omega)
  refine ⟨σ', a1, a2, a3, fun p hp i hi => ?_⟩
  have q := a4 p hp
  by_cases mt : ∀ x : Nat, x < nB τ → x ≠ b → rowAt (nK τ) p x = r x
  · have kb : rowAt (nK τ) p b < nK τ := rowAt_lt hK
    have er := row_up hK hp hr0 hb mt
    have ok : okV τ fs (vV (wS τ sh dr (fun _ => 1) b r (2 ^ nB τ)) (wS τ sh dr (prc τ) b r (2 ^ nB τ)) cost) (rowAt (nK τ) p b) ↔ okB τ sh dr br cost b (rowAt (nK τ) p) := by
      unfold okV okB
      rw [hfs _ (by omega), eV _ kb, er]
      have eu : ∀ j : Nat, upN (rowAt (nK τ) p) b j = upN r b j := fun j => by rw [← er, upN_up]
      constructor
      · intro w
        refine ⟨w.1.2, fun j hj hbr => ?_⟩
        have := w.2 j hj ((hfs j (by omega)).mpr ⟨hj, hbr⟩)
        rw [eV j hj] at this
        rw [eu]
        exact this
      · intro w
        refine ⟨⟨kb, w.1⟩, fun j hj hf => ?_⟩
        have := w.2 j hj ((hfs j (by omega)).mp hf).2
        rw [eu] at this
        rw [eV j hj]
        exact this
    by_cases o : okB τ sh dr br cost b (rowAt (nK τ) p)
    · rw [(q.1 mt).1 (ok.mpr o)]
      exact ⟨fun z => ⟨z, fun _ _ => o⟩, fun z => z.1⟩
    · rw [(q.1 mt).2 (fun z => o (ok.mp z)), frB_clr hi]
      exact ⟨fun z => ⟨z.1, fun z2 => absurd z2 z.2⟩, fun z => ⟨z.1, fun z2 => o (z.2 z2 mt)⟩⟩
  · rw [q.2 mt]
    exact ⟨fun z => ⟨z, fun _ w => absurd w mt⟩, fun z => z.1⟩
theorem casesC {sh : Prop} [Decidable sh] {σ : St} (h : okM τ) (c : clsR σ τ dr) (hm : rmk σ τ) {b : Nat} (hb : b < nB τ) {r : Nat → Nat} (hr : ∀ j : Nat, r j < nK τ) (hr0 : ∀ x : Nat, nB τ ≤ x → r x = 0) (hw : rowC σ (nB τ) r) (hac : acc σ (wS τ sh dr (fun _ => 1) b r (2 ^ nB τ)) (wS τ sh dr (prc τ) b r (2 ^ nB τ))) (hcs : 1 ≤ cases ∧ cases ≤ 21) (hde : ∀ d : Nat, dear = some d → d < nB τ ∧ ∀ i : Nat, i < cases → ∀ k : Nat, bar i k ↔ bar 0 k) (hfs : ∀ i : Nat, i < cases → ∀ k : Nat, k < 8 → (frB (σ.1 56 i) k ↔ k < nK τ ∧ ¬ bar i k)) : ∃ σ', fX4_strikeCases σ (nI b) (nI cases) (encN dear) = some (σ', ()) ∧ frm m54 noL σ σ' ∧ σ'.1 54 2147483648 = σ.1 54 2147483648 ∧ ∀ p : Nat, p < nK τ ^ nB τ → ∀ i : Nat, i < cases → (frB (σ'.1 54 p) i ↔ frB (σ.1 54 p) i ∧ ((∀ x : Nat, x < nB τ → x ≠ b → rowAt (nK τ) p x = r x) → okB τ sh dr (bar i) (csC τ dear b i) b (rowAt (nK τ) p))) := by
  have h4 := h.n4
  have cb := h.hc b hb
  have ecb : Int32.ofInt (cst τ b) = τ.1 2 b := Int32.ofInt_toInt _
  have c25 := (c.bk hb).1
  have cbd : 0 ≤ cst τ b ∧ cst τ b ≤ 99 := by unfold cst; exact ⟨cb.1, cb.2⟩
  unfold fX4_strikeCases
  rw [jp_eq]
  -- all at once, or one by one
  by_cases one : dear = none ∨ dear = some b
  · have go : (if encN dear = (-1 : Int32) then (fun (σ_1 : St) => bnd (0 : Int32) fun (x4_2 : Int32) => fX4_strikeCases_L39 (nI b) (nI cases) (encN dear) (fun (σ_8 : St) (x4_9 : Int32) => some (σ_8, ())) FU σ_1 x4_2) σ else (if encN dear = nI b then (fun (σ_1 : St) => bnd (0 : Int32) fun (x4_2 : Int32) => fX4_strikeCases_L39 (nI b) (nI cases) (encN dear) (fun (σ_8 : St) (x4_9 : Int32) => some (σ_8, ())) FU σ_1 x4_2) σ else chk (inb (0 : Int32) 21) (chk (inb (nI b) 4) (cl (fX4_strike σ (nI b) (((1 : Int32) <<< (nI cases &&& 31)) - (1 : Int32)) (σ.1 56 (ix (0 : Int32))) (σ.1 25 (ix (nI b)))) fun (σ_10 : St) (t_11 : Unit) => some (σ_10, ()))))) = fX4_strikeCases_L39 (nI b) (nI cases) (encN dear) (fun (σ_8 : St) (x4_9 : Int32) => some (σ_8, ())) FU σ 0 := by
      rcases one with w | w
      · rw [w, if_pos (show encN none = -1 from rfl)]; rfl
      · rw [w, if_neg (show ¬ encN (some b) = -1 from nI_ne_m1 (by omega)), if_pos (show encN (some b) = nI b from rfl)]; rfl
    rw [go]
    obtain ⟨x, hx, e⟩ := loopG (S := St) (fun n x m => fX4_strikeCases_L39 (nI b) (nI cases) (encN dear) (fun (σ_8 : St) (x4_9 : Int32) => some (σ_8, ())) n x (nI m)) cases (fun m x => frm m54 noL σ x ∧ x.1 54 2147483648 = σ.1 54 2147483648 ∧ ∀ p : Nat, p < nK τ ^ nB τ → ∀ i : Nat, i < cases → (frB (x.1 54 p) i ↔ frB (σ.1 54 p) i ∧ (i < m → (∀ x : Nat, x < nB τ → x ≠ b → rowAt (nK τ) p x = r x) → okB τ sh dr (bar i) (csC τ dear b i) b (rowAt (nK τ) p)))) (fun x => some (x, ())) (fun n x hp => by
        show fX4_strikeCases_L39 _ _ _ _ (n + 1) x _ = _
        rw [fX4_strikeCases_L39, if_pos (by rw [le_i]; omega)]) (fun n m x hm' hp => by
        obtain ⟨p1, p2, p3⟩ := hp
        have c1 := clsR_fr (coreC_frm p1 m54_43) c
        have ct : 0 ≤ csC τ dear b m ∧ csC τ dear b m ≤ 130 := by
          unfold csC
          by_cases w : dear = some b
          · rw [if_pos w]; omega
          · rw [if_neg w]; omega
        obtain ⟨x', a1, a2, a3, a4⟩ := stroke (sh := sh) (bits := (1 : Int32) <<< (nI m &&& 31)) (fs := σ.1 56 m) (br := bar m) h c1 (rmk_54 p1 p2 hm) hb hr hr0 (fun j hj => by rw [p1.1 46 j rfl]; exact hw j hj) (fun k hk => by rw [p1.1 49 k rfl, p1.1 50 k rfl]; exact hac k hk) ct (hfs m hm')
        have ect : (if dear = some b then Int32.ofInt (cst τ b) + nI m else Int32.ofInt (cst τ b) + 0) = Int32.ofInt (csC τ dear b m) := by
          unfold csC
          by_cases w : dear = some b
          · rw [if_pos w, if_pos w, nI_ofI (by omega), ← Int32.ofInt_add]
          · rw [if_neg w, if_neg w, Int.add_zero, Int32.add_zero]
        refine ⟨x', ⟨frm_trans p1 a2, a3.trans p2, fun p hp i hi => ?_⟩, ?_⟩
        · rw [a4 p hp i (by omega), p3 p hp i hi, frB_one m (by omega) i (by omega)]
          constructor
          · intro z
            refine ⟨z.1.1, fun z1 z2 => ?_⟩
            by_cases w : i = m
            · have := z.2 w z2
              rw [w]
              exact this
            · exact z.1.2 (by omega) z2
          · intro z
            refine ⟨⟨z.1, fun z1 z2 => z.2 (by omega) z2⟩, fun w z2 => ?_⟩
            have := z.2 (by omega) z2
            rw [w] at this
            exact this
        · show fX4_strikeCases_L39 _ _ _ _ (n + 1) x _ = _
          rw [fX4_strikeCases_L39, if_neg (by rw [le_i, nI_toInt (by omega), nI_toInt (by omega)]; omega), chk_t (inb_nI (by omega) (by decide)), chk_t (inb_nI (by omega) (by decide)), jp_eq, ix_nI (m := m) (by omega), ix_nI (m := b) (by omega), p1.1 56 m rfl, p1.1 25 b rfl, c25, ← ecb]
          by_cases w : dear = some b
          · rw [if_pos w] at ect
            rw [if_pos (show encN dear = nI b by rw [w]; rfl)]
            dsimp only
            rw [ect, a1, cl_some, bnd_eq, nI_succ]
            all_goals rfl
          · have w2 : dear = none := by
              rcases one with u | u
              · exact u
              · exact absurd u w
            rw [if_neg w] at ect
            rw [if_neg (show ¬ encN dear = nI b by rw [w2]; exact fun z => nI_ne_m1 (m := b) (by omega) z.symm)]
            dsimp only
            rw [ect, a1, cl_some, bnd_eq, nI_succ]
            all_goals rfl) FU 0 σ (by omega) (by have : FU = 100000 := rfl; omega) ⟨frm_refl _ _ _, rfl, fun p hp i hi => ⟨fun z => ⟨z, fun w => absurd w (by omega)⟩, fun z => z.1⟩⟩
    refine ⟨x, e, hx.1, hx.2.1, fun p hp i hi => ?_⟩
    rw [hx.2.2 p hp i hi]
    exact ⟨fun z => ⟨z.1, z.2 hi⟩, fun z => ⟨z.1, fun _ => z.2⟩⟩
  · cases ed : dear with
    | none => exact absurd (Or.inl ed) one
    | some d =>
      have dn := hde d ed
      have db : ¬ d = b := fun z => one (Or.inr (by rw [ed, z]))
      obtain ⟨x', a1, a2, a3, a4⟩ := stroke (sh := sh) (bits := ((1 : Int32) <<< (nI cases &&& 31)) - (1 : Int32)) (fs := σ.1 56 0) (br := bar 0) (cost := cst τ b) h c hm hb hr hr0 hw hac (by omega) (hfs 0 (by omega))
      rw [ecb] at a1
      rw [if_neg (show ¬ encN (some d) = -1 from nI_ne_m1 (by omega)), if_neg (show ¬ encN (some d) = nI b from fun z => db ((ofNI (by omega) (by omega)).mp z)), chk_t (by decide), chk_t (inb_nI (by omega) (by decide)), ix_nI (m := b) (by omega), c25, show ix (0 : Int32) = 0 from rfl, a1, cl_some]
      refine ⟨x', rfl, a2, a3, fun p hp i hi => ?_⟩
      rw [a4 p hp i (by omega), frB_low cases (by omega) i (by omega)]
      have eo : okB τ sh dr (bar 0) (cst τ b) b (rowAt (nK τ) p) ↔ okB τ sh dr (bar i) (csC τ (some d) b i) b (rowAt (nK τ) p) := by
        have ec : csC τ (some d) b i = cst τ b := by
          unfold csC
          rw [if_neg (fun z => db (Option.some.inj z)), Int.add_zero]
        rw [ec]
        unfold okB
        rw [dn.2 i hi]
        constructor
        · intro z; exact ⟨z.1, fun j hj hbr => z.2 j hj (fun w => hbr ((dn.2 i hi j).mpr w))⟩
        · intro z; exact ⟨z.1, fun j hj hbr => z.2 j hj (fun w => hbr ((dn.2 i hi j).mp w))⟩
      rw [eo]
      exact ⟨fun z => ⟨z.1, z.2 hi⟩, fun z => ⟨z.1, fun _ => z.2⟩⟩
/-- rows counted -/
def mCr (c k : Nat) : Bool := mk 54 55 c k || (Nat.beq c 53 && Nat.beq k 8)
theorem mCr_43 : ∀ c k : Nat, c < 43 → mCr c k = false := by
  intro c k hc
  unfold mCr
  rw [mk43 (lo := 54) (hi := 55) (by omega) c k hc]
  have : Nat.beq c 53 = false := by
    cases q : Nat.beq c 53 with
    | false => rfl
    | true => have := Nat.eq_of_beq_eq_true q; omega
  rw [this]
  rfl
theorem countRowsC {σ : St} (h : okM τ) (c : clsR σ τ dr) (hL : rg (σ.1 54 2147483648) 8 4096) : ∃ σ', fX4_countRowsA σ = some (σ', ()) ∧ frm mCr noL σ σ' ∧ rmk σ' τ ∧ rg (σ'.1 54 2147483648) 8 4096 := by
  have h4 := h.n4
  have h8 := h.k8
  have pK : nK τ ^ nB τ ≤ 4096 := powK (by omega) h4
  unfold fX4_countRowsA
  rw [bnd_eq, bnd_eq]
  obtain ⟨x, hx, e⟩ := loopK (S := St) (fun (k : St → Int32 → Option (St × Unit)) n x m => fX4_countRowsA_L7 k n x (nI m)) (fun k x => k x (nI (nB τ))) (nB τ) (fun m x => frm (fun c k => Nat.beq c 55 || (Nat.beq c 53 && Nat.beq k 8)) noL σ x ∧ x.1 53 8 = nI (nK τ ^ m) ∧ ∀ b : Nat, b < m → x.1 55 b = nI (nK τ ^ b)) (fun k n x hp => by
      have e2 : x.1 2 0 = nI (nB τ) := (hp.1.1 2 0 rfl).trans (c.nb h)
      rw [fX4_countRowsA_L7, e2, if_pos (by rw [le_i]; omega)]) (fun n m x hm hp => by
      have e2 : x.1 2 0 = nI (nB τ) := (hp.1.1 2 0 rfl).trans (c.nb h)
      have e3 : (sI x 55 m (nI (nK τ ^ m))).1 2 2 = nI (nK τ) := (hp.1.1 2 2 rfl).trans (c.nk h)
      have e4 : (sI x 55 m (nI (nK τ ^ m))).1 53 8 = nI (nK τ ^ m) := hp.2.1
      have pm : nK τ ^ m ≤ 4096 := powK (by omega) (by omega)
      have pm1 : nK τ ^ (m + 1) ≤ 4096 := powK (by omega) (by omega)
      have em : nI (nK τ ^ m) * nI (nK τ) = nI (nK τ ^ (m + 1)) := by
        rw [Nat.pow_succ] at pm1 ⊢
        exact nI_mul2 (by omega) (by omega) (by omega)
      refine ⟨sI (sI x 55 m (nI (nK τ ^ m))) 53 8 (nI (nK τ ^ (m + 1))), ⟨frm_trans hp.1 (frm_trans (frm_sI _ _ rfl) (frm_sI _ _ rfl)), rfl, fun b hb => ?_⟩, fun k => ?_⟩
      · rw [sI_ne (by decide), sI_at]
        by_cases w : b = m
        · rw [if_pos w, w]
        · rw [if_neg w]; exact hp.2.2 b (by omega)
      · rw [fX4_countRowsA_L7, e2, if_neg (by rw [le_i, nI_toInt (by omega), nI_toInt (by omega)]; omega), chk_t (inb_nI (by omega) (by decide)), ix_nI (m := m) (by omega), hp.2.1, bnd_eq, e3, e4, em, bnd_eq, bnd_eq, nI_succ]
        all_goals rfl) FU 0 (sI σ 53 8 1) (by omega) (by have : FU = 100000 := rfl; omega) ⟨frm_sI _ _ rfl, rfl, fun b hb => absurd hb (by omega)⟩
  have e : ∀ k : St → Int32 → Option (St × Unit), fX4_countRowsA_L7 k FU (sI σ 53 8 1) 0 = k x (nI (nB τ)) := e
  have eL : x.1 54 2147483648 = σ.1 54 2147483648 := hx.1.1 54 2147483648 rfl
  have f1 : frm mCr noL σ x := frm_mono (fun c k q => by
    have q1 := bf q
    have : Nat.beq c 55 = false := by
      cases w : Nat.beq c 55 with
      | false => rfl
      | true => have := Nat.eq_of_beq_eq_true w; have := mk_f.mp q1.1; omega
    show (Nat.beq c 55 || (Nat.beq c 53 && Nat.beq k 8)) = false
    rw [this, q1.2]
    rfl) (fun _ _ q => q) hx.1
  have h0 : decide (0 ≤ σ.1 54 2147483648) = true := decide_eq_true (by rw [le_i, z_0]; have := hL.1; omega)
  rw [e, eL, chk_t h0, hx.2.1]
  by_cases w : nI (nK τ ^ nB τ) ≤ σ.1 54 2147483648
  · rw [if_pos w]
    rw [le_i, nI_toInt (by omega)] at w
    refine ⟨x, rfl, f1, ⟨by rw [hx.2.1, nI_toInt (by omega)], by rw [eL]; exact w, by rw [eL]; exact hL.2, hx.2.2⟩, by rw [eL]; exact hL⟩
  · rw [if_neg w, chk_t (decide_eq_true ⟨by rw [le_i, z_0, nI_toInt (by omega)]; omega, by rw [le_i, nI_toInt (by omega), show (4096 : Int32).toInt = 4096 by decide]; omega⟩), bnd_eq]
    rw [le_i, nI_toInt (by omega)] at w
    have l1 := hL.1
    have nl : (nM x (nI (nK τ ^ nB τ))).1 54 2147483648 = nI (nK τ ^ nB τ) := rfl
    refine ⟨nM x (nI (nK τ ^ nB τ)), rfl, frm_trans f1 ⟨fun c k q => ?_, fun _ _ _ => rfl⟩, ⟨?_, ?_, ?_, hx.2.2⟩, ?_, ?_⟩
    · have : c ≠ 54 := fun z => by
        have := mk_f.mp (bf q).1
        omega
      show (if c = 54 then _ else x.1 c) k = _
      rw [if_neg this]
    · show (x.1 53 8).toInt = _
      rw [hx.2.1, nI_toInt (by omega)]
    · rw [nl, nI_toInt (by omega)]; omega
    · rw [nl, nI_toInt (by omega)]; omega
    · rw [nl, nI_toInt (by omega)]; omega
    · rw [nl, nI_toInt (by omega)]; omega
theorem fill54 {σ : St} (hL : rg (σ.1 54 2147483648) 8 4096) (v : Int32) : ∃ σ', fJ7_fill_53178_i54 σ v = some (σ', ()) ∧ frm m54 noL σ σ' ∧ σ'.1 54 2147483648 = σ.1 54 2147483648 ∧ ∀ p : Nat, (p : Int) < (σ.1 54 2147483648).toInt → σ'.1 54 p = v := by
  have l1 := hL.1
  have l2 := hL.2
  have eL : σ.1 54 2147483648 = nI (σ.1 54 2147483648).toInt.toNat := nI_mk (by omega)
  have h0 : decide (0 ≤ σ.1 54 2147483648) = true := decide_eq_true (by rw [le_i, z_0]; omega)
  unfold fJ7_fill_53178_i54
  rw [bnd_eq, chk_t h0, bnd_eq]
  have tn : ((σ.1 54 2147483648).toInt.toNat : Int) = (σ.1 54 2147483648).toInt := by omega
  generalize (σ.1 54 2147483648).toInt.toNat = L at eL tn
  rw [← tn, eL]
  obtain ⟨x, hx, e⟩ := loopG (S := St) (fun n x m => fJ7_fill_53178_i54_L5 v (nI L) (fun (σ_5 : St) (_ : Int32) => some (σ_5, ())) n x (nI m)) L (fun m x => frm m54 noL σ x ∧ x.1 54 2147483648 = nI L ∧ ∀ p : Nat, p < m → x.1 54 p = v) (fun x => some (x, ())) (fun n x hp => by
      show fJ7_fill_53178_i54_L5 _ _ _ (n + 1) x _ = _
      rw [fJ7_fill_53178_i54_L5, if_pos (by rw [le_i]; omega)]) (fun n m x hm hp => by
      refine ⟨sI x 54 m v, ⟨frm_trans hp.1 (frm_sI _ _ rfl), ?_, fun p hp' => ?_⟩, ?_⟩
      · rw [sI_at, if_neg (by omega)]; exact hp.2.1
      · rw [sI_at]
        by_cases w : p = m
        · rw [if_pos w]
        · rw [if_neg w]; exact hp.2.2 p (by omega)
      · show fJ7_fill_53178_i54_L5 _ _ _ (n + 1) x _ = _
        rw [fJ7_fill_53178_i54_L5, if_neg (by rw [le_i, nI_toInt (by omega), nI_toInt (by omega)]; omega), hp.2.1, ix_nI (m := L) (by omega), chk_t (inb_nI (by omega) (by omega)), ix_nI (m := m) (by omega), bnd_eq, bnd_eq, nI_succ]
        all_goals rfl) FU 0 σ (by omega) (by have : FU = 100000 := rfl; omega) ⟨frm_refl _ _ _, eL, fun p hp => absurd hp (by omega)⟩
  exact ⟨x, e, hx.1, hx.2.1, fun p hp => hx.2.2 p (by omega)⟩
end Search
