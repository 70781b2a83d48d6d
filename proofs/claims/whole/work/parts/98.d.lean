/-! rests, the class: all rows, all bakers -/
def mSr (c k : Nat) : Bool := mk 46 50 c k || (mk 54 55 c k || (Nat.beq c 53 && Nat.beq k 8))
theorem mSr_43 : ∀ c k : Nat, c < 43 → mSr c k = false := by
  intro c k hc
  unfold mSr
  rw [mk43 (lo := 46) (hi := 50) (by omega) c k hc]
  exact mCr_43 c k hc
theorem mSr_cr : ∀ c k : Nat, mSr c k = false → mCr c k = false := fun _ _ h => (bf h).2
theorem mSr_50 {lo hi : Nat} (h1 : 46 ≤ lo) (h2 : hi ≤ 50) : ∀ c k : Nat, mSr c k = false → mk lo hi c k = false := fun c k h => mk_mono h1 h2 c k (bf h).1
theorem mSr_54 : ∀ c k : Nat, mSr c k = false → m54 c k = false := by
  intro c k h
  have := mk_f.mp (bf (bf h).2).1
  cases q : m54 c k with
  | false => rfl
  | true => have := Nat.eq_of_beq_eq_true q; omega
/-- the others' row of a place -/
def othI (K m n : Nat) (r : Nat → Nat) : Nat := valN K (n - 1) (fun y => if y < m then r y else r (y + 1))
theorem othI_row {K m n : Nat} {r : Nat → Nat} (hr : ∀ x : Nat, r x < K) (hm : m < n) : othI K m n r < K ^ (n - 1) ∧ ∀ x : Nat, x < n → x ≠ m → r x = rowO K m (othI K m n r) x := by
  have d : ∀ y : Nat, y < n - 1 → (fun y => if y < m then r y else r (y + 1)) y < K := fun y _ => by
    dsimp only
    by_cases w : y < m
    · rw [if_pos w]; exact hr y
    · rw [if_neg w]; exact hr (y + 1)
  refine ⟨valN_lt (n - 1) d, fun x hx hne => ?_⟩
  unfold rowO othI
  rw [if_neg hne]
  unfold posB
  by_cases w : x < m
  · rw [if_pos w, rowAt_val (n - 1) d x (by omega)]
    rw [if_pos w]
  · rw [if_neg w, rowAt_val (n - 1) d (x - 1) (by omega)]
    rw [if_neg (by omega), show x - 1 + 1 = x by omega]
section Search2
variable {τ : St} {dr : Nat → Nat} {cases : Nat} {dear : Option Nat} {bar : Nat → Nat → Prop}
theorem searchIn {sh : Prop} [Decidable sh] {σ : St} (h : okM τ) (c : clsR σ τ dr) (hcr : crd σ (crF τ sh dr (nS τ))) (hm : rmk σ τ) {b : Nat} (hb : b < nB τ) (hcs : 1 ≤ cases ∧ cases ≤ 21) (hde : ∀ d : Nat, dear = some d → d < nB τ ∧ ∀ i : Nat, i < cases → ∀ k : Nat, bar i k ↔ bar 0 k) (hfs : ∀ i : Nat, i < cases → ∀ k : Nat, k < 8 → (frB (σ.1 56 i) k ↔ k < nK τ ∧ ¬ bar i k)) (hw : rowC σ (nB τ) (rowO (nK τ) b 0)) (hM : ∀ p : Nat, p < nK τ ^ nB τ → ∀ i : Nat, i < cases → (frB (σ.1 54 p) i ↔ ∀ b' : Nat, b' < b → okB τ sh dr (bar i) (csC τ dear b' i) b' (rowAt (nK τ) p))) : ∃ σ', (∀ k : St → Int32 → Option (St × Unit), fX4_searchA_L48 (nI cases) (encN dear) (nI b) (nI (nK τ ^ (nB τ - 1))) k FU σ 0 = k σ' (nI (nK τ ^ (nB τ - 1)))) ∧ frm mSr noL σ σ' ∧ σ'.1 54 2147483648 = σ.1 54 2147483648 ∧ rmk σ' τ ∧ ∀ p : Nat, p < nK τ ^ nB τ → ∀ i : Nat, i < cases → (frB (σ'.1 54 p) i ↔ ∀ b' : Nat, b' < b + 1 → okB τ sh dr (bar i) (csC τ dear b' i) b' (rowAt (nK τ) p)) := by
  have h4 := h.n4
  have h8 := h.k8
  have hK : 0 < nK τ := by omega
  have pK := powK3 (K := nK τ) (m := nB τ - 1) (by omega) (by omega)
  obtain ⟨x, hx, e⟩ := loopK (S := St) (fun (k : St → Int32 → Option (St × Unit)) n x m => fX4_searchA_L48 (nI cases) (encN dear) (nI b) (nI (nK τ ^ (nB τ - 1))) k n x (nI m)) (fun k x => k x (nI (nK τ ^ (nB τ - 1)))) (nK τ ^ (nB τ - 1)) (fun m x => frm mSr noL σ x ∧ x.1 54 2147483648 = σ.1 54 2147483648 ∧ rmk x τ ∧ rowC x (nB τ) (rowO (nK τ) b m) ∧ ∀ p : Nat, p < nK τ ^ nB τ → ∀ i : Nat, i < cases → (frB (x.1 54 p) i ↔ (∀ b' : Nat, b' < b → okB τ sh dr (bar i) (csC τ dear b' i) b' (rowAt (nK τ) p)) ∧ ((∃ j : Nat, j < m ∧ ∀ x : Nat, x < nB τ → x ≠ b → rowAt (nK τ) p x = rowO (nK τ) b j x) → okB τ sh dr (bar i) (csC τ dear b i) b (rowAt (nK τ) p)))) (fun k n x hp => by
      rw [fX4_searchA_L48, if_pos (by rw [le_i]; omega)]) (fun n m x hm' hp => by
      obtain ⟨p1, p2, p3, p4, p5⟩ := hp
      have c1 := clsR_fr (coreC_frm p1 mSr_43) c
      have rK : ∀ j : Nat, rowO (nK τ) b m j < nK τ := fun j => rowO_lt hK j
      have r8 : ∀ j : Nat, rowO (nK τ) b m j < 8 := fun j => by have := rK j; omega
      have r0 : ∀ y : Nat, nB τ ≤ y → rowO (nK τ) b m y = 0 := fun y hy => by
        unfold rowO posB
        rw [if_neg (by omega), if_neg (by omega)]
        exact rowAt_big hK hm' (by omega)
      obtain ⟨x1, a1, a2, a3⟩ := readRowC h c1 r8 p4
      have c2 := clsR_fr (coreC_frm a2 (mk43 (by omega))) c1
      have cr2 : crd x1 (crF τ sh dr (nS τ)) := fun t ht k hk => by
        rw [a2.1 44 _ rfl, p1.1 44 _ rfl]
        exact hcr t ht k hk
      obtain ⟨x2, b1, b2, b3⟩ := weighC h c2 sh cr2 hb rK a3
      have c3 := clsR_fr (coreC_frm b2 (mk43 (by omega))) c2
      have w3 : rowC x2 (nB τ) (rowO (nK τ) b m) := fun j hj => by rw [b2.1 46 _ rfl, a2.1 46 _ rfl]; exact p4 j hj
      have k3 : rmk x2 τ := ⟨by rw [b2.1 53 8 rfl, a2.1 53 8 rfl]; exact p3.1, by rw [b2.1 54 2147483648 rfl, a2.1 54 2147483648 rfl]; exact p3.2.1, by rw [b2.1 54 2147483648 rfl, a2.1 54 2147483648 rfl]; exact p3.2.2.1, fun y hy => by rw [b2.1 55 y rfl, a2.1 55 y rfl]; exact p3.2.2.2 y hy⟩
      have f3 : ∀ i : Nat, i < cases → ∀ k : Nat, k < 8 → (frB (x2.1 56 i) k ↔ k < nK τ ∧ ¬ bar i k) := fun i hi k hk => by
        rw [b2.1 56 i rfl, a2.1 56 i rfl, p1.1 56 i rfl]
        exact hfs i hi k hk
      obtain ⟨x3, d1, d2, d3, d4⟩ := casesC (sh := sh) h c3 k3 hb rK r0 w3 b3 hcs hde f3
      have c4 := clsR_fr (coreC_frm d2 m54_43) c3
      have w4 : rowC x3 (nB τ) (rowO (nK τ) b m) := fun j hj => by rw [d2.1 46 _ rfl]; exact w3 j hj
      obtain ⟨x4, g1, g2, g3⟩ := nextRowC h c4 hb w4
      have e54 : ∀ p : Nat, x4.1 54 p = x3.1 54 p := fun p => g2.1 54 p rfl
      have e54' : ∀ p : Nat, x2.1 54 p = x.1 54 p := fun p => (b2.1 54 p rfl).trans (a2.1 54 p rfl)
      have k4 := rmk_54 d2 d3 k3
      refine ⟨x4, ⟨?_, ?_, ⟨by rw [g2.1 53 8 rfl]; exact k4.1, by rw [g2.1 54 2147483648 rfl]; exact k4.2.1, by rw [g2.1 54 2147483648 rfl]; exact k4.2.2.1, fun y hy => by rw [g2.1 55 y rfl]; exact k4.2.2.2 y hy⟩, g3, fun p hp i hi => ?_⟩, fun k => ?_⟩
      · exact frm_trans p1 (frm_trans (frm_mono (mSr_50 (by omega) (by omega)) noL_any a2) (frm_trans (frm_mono (mSr_50 (by omega) (by omega)) noL_any b2) (frm_trans (frm_mono mSr_54 (fun _ _ q => q) d2) (frm_mono (mSr_50 (by omega) (by omega)) noL_any g2))))
      · rw [e54, d3, e54']; exact p2
      · rw [e54, d4 p hp i hi, e54', p5 p hp i hi]
        constructor
        · intro z
          refine ⟨z.1.1, fun ⟨j, j1, j2⟩ => ?_⟩
          by_cases w : j = m
          · subst w; exact z.2 j2
          · exact z.1.2 ⟨j, by omega, j2⟩
        · intro z
          exact ⟨⟨z.1, fun ⟨j, j1, j2⟩ => z.2 ⟨j, by omega, j2⟩⟩, fun q => z.2 ⟨m, by omega, q⟩⟩
      · rw [fX4_searchA_L48, if_neg (by rw [le_i, nI_toInt (by omega), nI_toInt (by omega)]; omega), a1, cl_some, b1, cl_some, d1, cl_some, g1, cl_some, bnd_eq, nI_succ]
        all_goals rfl) FU 0 σ (by omega) (by have : FU = 100000 := rfl; omega) ⟨frm_refl _ _ _, rfl, hm, hw, fun p hp i hi => by
      rw [hM p hp i hi]
      exact ⟨fun z => ⟨z, fun ⟨j, j1, _⟩ => absurd j1 (by omega)⟩, fun z => z.1⟩⟩
  obtain ⟨q1, q2, q3, q4, q5⟩ := hx
  refine ⟨x, e, q1, q2, q3, fun p hp i hi => ?_⟩
  rw [q5 p hp i hi]
  have oi := othI_row (K := nK τ) (m := b) (n := nB τ) (r := rowAt (nK τ) p) (fun _ => rowAt_lt hK) hb
  constructor
  · intro z b' hb'
    by_cases w : b' = b
    · subst w; exact z.2 ⟨_, oi⟩
    · exact z.1 b' (by omega)
  · intro z
    exact ⟨fun b' hb' => z b' (by omega), fun _ => z b (by omega)⟩
theorem searchC {sh : Prop} [Decidable sh] {σ : St} (h : okM τ) (c : clsR σ τ dr) (hcr : crd σ (crF τ sh dr (nS τ))) (hL : rg (σ.1 54 2147483648) 8 4096) (hcs : 1 ≤ cases ∧ cases ≤ 21) (hde : ∀ d : Nat, dear = some d → d < nB τ ∧ ∀ i : Nat, i < cases → ∀ k : Nat, bar i k ↔ bar 0 k) (hfs : ∀ i : Nat, i < cases → ∀ k : Nat, k < 8 → (frB (σ.1 56 i) k ↔ k < nK τ ∧ ¬ bar i k)) : ∃ σ', fX4_searchA σ (nI cases) (encN dear) = some (σ', ()) ∧ frm mSr noL σ σ' ∧ rmk σ' τ ∧ rg (σ'.1 54 2147483648) 8 4096 ∧ ∀ p : Nat, p < nK τ ^ nB τ → ∀ i : Nat, i < cases → (frB (σ'.1 54 p) i ↔ ∀ b : Nat, b < nB τ → okB τ sh dr (bar i) (csC τ dear b i) b (rowAt (nK τ) p)) := by
  have h4 := h.n4
  have h8 := h.k8
  obtain ⟨σ1, a1, a2, a3, a4⟩ := countRowsC h c hL
  obtain ⟨σ2, b1, b2, b3, b4⟩ := fill54 a4 (((1 : Int32) <<< (nI cases &&& 31)) - (1 : Int32))
  have f2 : frm mSr noL σ σ2 := frm_trans (frm_mono mSr_cr (fun _ _ q => q) a2) (frm_mono mSr_54 (fun _ _ q => q) b2)
  have k2 : rmk σ2 τ := rmk_54 b2 b3 a3
  unfold fX4_searchA
  rw [a1, cl_some, b1, cl_some, bnd_eq]
  obtain ⟨x, hx, e⟩ := loopG (S := St) (fun n x m => fX4_searchA_L18 (nI cases) (encN dear) (fun (σ_24 : St) (_ : Int32) => some (σ_24, ())) n x (nI m)) (nB τ) (fun m x => frm mSr noL σ x ∧ x.1 54 2147483648 = σ2.1 54 2147483648 ∧ rmk x τ ∧ ∀ p : Nat, p < nK τ ^ nB τ → ∀ i : Nat, i < cases → (frB (x.1 54 p) i ↔ ∀ b : Nat, b < m → okB τ sh dr (bar i) (csC τ dear b i) b (rowAt (nK τ) p))) (fun x => some (x, ())) (fun n x hp => by
      have c1 := clsR_fr (coreC_frm hp.1 mSr_43) c
      show fX4_searchA_L18 _ _ _ (n + 1) x _ = _
      rw [fX4_searchA_L18, c1.nb h, if_pos (by rw [le_i]; omega)]) (fun n m x hm hp => by
      obtain ⟨p1, p2, p3, p4⟩ := hp
      have c1 := clsR_fr (coreC_frm p1 mSr_43) c
      obtain ⟨x1, d1, d2, d3⟩ := fill46 x
      have c2 := clsR_fr (coreC_frm d2 (mk43 (by omega))) c1
      have row0 : rowC x1 (nB τ) (rowO (nK τ) m 0) := fun j hj => by
        rw [d3 j (by omega)]
        unfold rowO rowAt
        rw [Nat.zero_div, Nat.zero_mod]
        split <;> rfl
      have k1 : rmk x1 τ := ⟨by rw [d2.1 53 8 rfl]; exact p3.1, by rw [d2.1 54 2147483648 rfl]; exact p3.2.1, by rw [d2.1 54 2147483648 rfl]; exact p3.2.2.1, fun y hy => by rw [d2.1 55 y rfl]; exact p3.2.2.2 y hy⟩
      have cr1 : crd x1 (crF τ sh dr (nS τ)) := fun t ht k hk => by
        rw [d2.1 44 _ rfl, p1.1 44 _ rfl]
        exact hcr t ht k hk
      obtain ⟨x2, g1, g2, g3, g4, g5⟩ := searchIn (sh := sh) (cases := cases) (dear := dear) (bar := bar) h c2 cr1 k1 hm hcs hde (fun i hi k hk => by rw [d2.1 56 i rfl, p1.1 56 i rfl]; exact hfs i hi k hk) row0 (fun p hp i hi => by rw [d2.1 54 p rfl]; exact p4 p hp i hi)
      refine ⟨x2, ⟨frm_trans p1 (frm_trans (frm_mono (mSr_50 (by omega) (by omega)) noL_any d2) g2), by rw [g3, d2.1 54 2147483648 rfl]; exact p2, g4, g5⟩, ?_⟩
      show fX4_searchA_L18 _ _ _ (n + 1) x _ = _
      have d1' : fX7_firstRow x = some (x1, ()) := by unfold fX7_firstRow; rw [d1]; rfl
      rw [fX4_searchA_L18, c1.nb h, if_neg (by rw [le_i, nI_toInt (by omega), nI_toInt (by omega)]; omega), rowsC h c1 (by omega), cl_some, bnd_eq, d1', cl_some, bnd_eq, g1, bnd_eq, nI_succ]
      all_goals rfl) FU 0 σ2 (by omega) (by have : FU = 100000 := rfl; omega) ⟨f2, rfl, k2, fun p hp i hi => by
      rw [b4 p (by have := a3.2.1; omega), frB_low cases (by omega) i (by omega)]
      exact ⟨fun _ b hb => absurd hb (by omega), fun _ => hi⟩⟩
  refine ⟨x, e, hx.1, hx.2.2.1, ?_, hx.2.2.2⟩
  rw [hx.2.1, b3]
  exact a4
end Search2
/-! counting and finding the marks -/
section Marks
variable {σ τ : St} {dr : Nat → Nat} {i : Nat} {f : Nat → Bool}
def mrk (σ τ : St) (i : Nat) (f : Nat → Bool) : Prop := ∀ p : Nat, p < nK τ ^ nB τ → (frB (σ.1 54 p) i ↔ f p = true)
theorem mrk_v {x : Int32} {v : Bool} (hi : i < 32) (h : frB x i ↔ v = true) : ((x >>> (nI i &&& 31)) &&& (1 : Int32)) = if v = true then 1 else 0 := by
  rw [frB_v hi]
  rw [frB_bit hi] at h
  cases q : v with
  | true => rw [if_pos (h.mpr q), if_pos rfl]
  | false => rw [if_neg (fun z => by have := h.mp z; rw [q] at this; cases this), if_neg (by intro z; cases z)]
theorem howManyC (h : okM τ) (hm : rmk σ τ) (hi : i < 21) (hf : mrk σ τ i f) : fX4_howMany σ (nI i) = some (σ, nI (cntN f (nK τ ^ nB τ))) := by
  have h4 := h.n4
  have h8 := h.k8
  have pK : nK τ ^ nB τ ≤ 4096 := powK (by omega) h4
  obtain ⟨L, l1, l2, l3⟩ := hm.len
  have e8 : σ.1 53 8 = nI (nK τ ^ nB τ) := by rw [eq_i, hm.1, nI_toInt (by omega)]
  have zL : decide (0 ≤ nI L) = true := decide_eq_true (by rw [le_i, z_0, nI_toInt (by omega)]; omega)
  unfold fX4_howMany
  rw [bnd_eq, bnd_eq]
  obtain ⟨x, hx, e⟩ := loopG (S := Int32) (fun n x m => fX4_howMany_L4 (nI i) (fun (σ_5 : St) (x2_6 : Int32) (_ : Int32) => some (σ_5, x2_6)) n σ x (nI m)) (nK τ ^ nB τ) (fun m x => x = nI (cntN f m)) (fun x => some (σ, x)) (fun n x hp => by
      show fX4_howMany_L4 _ _ (n + 1) σ x _ = _
      rw [fX4_howMany_L4, e8, if_pos (by rw [le_i]; omega)]) (fun n m x hm' hp => by
      have cu := cntN_ub (f := f) m
      refine ⟨nI (cntN f (m + 1)), rfl, ?_⟩
      show fX4_howMany_L4 _ _ (n + 1) σ x _ = fX4_howMany_L4 _ _ n σ (nI (cntN f (m + 1))) _
      rw [fX4_howMany_L4, e8, if_neg (by rw [le_i, nI_toInt (by omega), nI_toInt (by omega)]; omega), l1, chk_t zL, if_neg (by rw [le_i, nI_toInt (by omega), nI_toInt (by omega)]; omega), ix_nI (m := L) (by omega), chk_t (inb_nI (by omega) (by omega)), ix_nI (m := m) (by omega), mrk_v (by omega) (hf m hm'), bnd_eq, hp]
      by_cases w : f m = true
      · rw [if_pos w, cntN_y w, bnd_eq, nI_succ, nI_succ]
        all_goals rfl
      · rw [if_neg w, cntN_n w, bnd_eq, nI_succ, Int32.add_zero]
        all_goals rfl) FU 0 0 (by omega) (by have : FU = 100000 := rfl; omega) rfl
  refine e.trans ?_
  rw [hx]
theorem placeC (h : okM τ) (hm : rmk σ τ) (hi : i < 21) (hf : mrk σ τ i f) {p : Int32} (hp : 0 ≤ p.toInt) : fX4_place σ (nI i) p = some (σ, encN (nthN f p.toInt.toNat (nK τ ^ nB τ))) := by
  have h4 := h.n4
  have h8 := h.k8
  have pK : nK τ ^ nB τ ≤ 4096 := powK (by omega) h4
  obtain ⟨L, l1, l2, l3⟩ := hm.len
  have e8 : σ.1 53 8 = nI (nK τ ^ nB τ) := by rw [eq_i, hm.1, nI_toInt (by omega)]
  have zL : decide (0 ≤ nI L) = true := decide_eq_true (by rw [le_i, z_0, nI_toInt (by omega)]; omega)
  unfold fX4_place
  rw [bnd_eq, bnd_eq]
  have key := loopX (S := Int32) (fun n x m => fX4_place_L5 (nI i) p (fun (σ_7 : St) (_ : Int32) (_ : Int32) => some (σ_7, (-1 : Int32))) n σ x (nI m)) (nK τ ^ nB τ) (fun m x => x = nI (cntN f m) ∧ nthN f p.toInt.toNat m = none) (fun x => some (σ, -1)) (fun res => res = some (σ, encN (nthN f p.toInt.toNat (nK τ ^ nB τ)))) (fun n x hp => by
      show fX4_place_L5 _ _ _ (n + 1) σ x _ = _
      rw [fX4_place_L5, e8, if_pos (by rw [le_i]; omega)]) (fun n m x hm' hq => by
      have cu := cntN_ub (f := f) m
      have eqk : (nI (cntN f m) = p) ↔ cntN f m = p.toInt.toNat := by
        rw [eq_i, nI_toInt (by omega)]
        omega
      show (∃ x', _ ∧ fX4_place_L5 _ _ _ (n + 1) σ x _ = _) ∨ (fX4_place_L5 _ _ _ (n + 1) σ x _ = _)
      rw [fX4_place_L5, e8, if_neg (by rw [le_i, nI_toInt (by omega), nI_toInt (by omega)]; omega), l1, chk_t zL, if_neg (by rw [le_i, nI_toInt (by omega), nI_toInt (by omega)]; omega), ix_nI (m := L) (by omega), chk_t (inb_nI (by omega) (by omega)), ix_nI (m := m) (by omega), jp_eq, mrk_v (by omega) (hf m hm'), hq.1]
      by_cases w : f m = true
      · rw [if_pos w, if_neg one0]
        by_cases w2 : cntN f m = p.toInt.toNat
        · rw [if_pos (eqk.mpr w2)]
          refine Or.inr ?_
          rw [nthN_s (m + 1) _ (by omega) (nthN_y hq.2 ⟨w, w2⟩)]
          rfl
        · rw [if_neg (fun z => w2 (eqk.mp z)), bnd_eq]
          dsimp only
          exact Or.inl ⟨nI (cntN f (m + 1)), ⟨rfl, nthN_n hq.2 (fun z => w2 z.2)⟩, by rw [bnd_eq, cntN_y w, nI_succ, nI_succ]; all_goals rfl⟩
      · rw [if_neg w, if_pos rfl]
        dsimp only
        exact Or.inl ⟨nI (cntN f (m + 1)), ⟨rfl, nthN_n hq.2 (fun z => w z.1)⟩, by rw [bnd_eq, cntN_n w, nI_succ]; all_goals rfl⟩) FU 0 0 (by omega) (by have : FU = 100000 := rfl; omega) ⟨rfl, rfl⟩
  rcases key with ⟨x, hx, e⟩ | e
  · rw [hx.2]; exact e
  · exact e
theorem stepInC (h : okM τ) (c : clsR σ τ dr) (hm : rmk σ τ) {b p : Nat} (hb : b < nB τ) (hp : p < nK τ ^ nB τ) : fX4_stepIn σ (nI p) (nI b) = some (σ, nI (rowAt (nK τ) p b)) := by
  have h4 := h.n4
  have h8 := h.k8
  have pK : nK τ ^ nB τ ≤ 4096 := powK (by omega) h4
  have pb : nK τ ^ b ≤ 4096 := powK (by omega) (by omega)
  have pp : 0 < nK τ ^ b := Nat.pow_pos (by omega)
  have dv : ∀ a d : Nat, a < 5000 → d < 5000 → 0 < d → nI a / nI d = nI (a / d) := fun a d ha hd h0 => by
    have mx : Int32.maxValue.toInt = 2147483647 := by decide
    have mn : Int32.minValue.toInt = -2147483648 := by decide
    rw [nI_ofI (q := a) (by omega), nI_ofI (q := d) (by omega), ← Int32.ofInt_tdiv (by rw [mn]; omega) (by rw [mx]; omega) (by rw [mn]; omega) (by rw [mx]; omega), nI_ofI (by have := Nat.div_le_self a d; omega)]
    congr 1
  have dl := Nat.div_le_self p (nK τ ^ b)
  have ml : p / nK τ ^ b / nK τ * nK τ ≤ p / nK τ ^ b := Nat.div_mul_le_self _ _
  have em : p / nK τ ^ b % nK τ = p / nK τ ^ b - p / nK τ ^ b / nK τ * nK τ := by
    have := Nat.div_add_mod (p / nK τ ^ b) (nK τ)
    rw [Nat.mul_comm] at this
    omega
  have dl2 := Nat.div_le_self (p / nK τ ^ b) (nK τ)
  have sb : ∀ a d : Nat, a < 5000 → d ≤ a → nI a - nI d = nI (a - d) := fun a d ha hd => by
    rw [eq_i, i32_sub (by rw [nI_toInt (by omega), nI_toInt (by omega)]; omega) (by rw [nI_toInt (by omega), nI_toInt (by omega)]; omega), nI_toInt (by omega), nI_toInt (by omega), nI_toInt (by omega)]
    omega
  have n0 : ∀ d : Nat, d < 5000 → 0 < d → ¬ nI d ≤ 0 ∧ decide (¬ nI d = 0) = true := fun d hd h0 => by
    refine ⟨by rw [le_i, z_0, nI_toInt (by omega)]; omega, decide_eq_true (fun z => ?_)⟩
    rw [eq_i, z_0, nI_toInt (by omega)] at z
    omega
  unfold fX4_stepIn
  rw [chk_t (inb_nI (by omega) (by decide)), ix_nI (m := b) (by omega), hm.2.2.2 b hb, c.nk h, if_neg (n0 _ (by omega) pp).1, if_neg (n0 _ (by omega) (by omega)).1, chk_t (inb_nI (by omega) (by decide)), chk_t (n0 _ (by omega) pp).2, chk_t (n0 _ (by omega) (by omega)).2, dv p _ (by omega) (by omega) pp, dv _ _ (by omega) (by omega) (by omega), nI_mul2 (by omega) (by omega) (by omega), sb _ _ (by omega) ml, ← em]
  rfl
theorem shl3 : ∀ b : Nat, b < 4 → ∀ k : Nat, k < 8 → nI k <<< (((3 : Int32) * nI b) &&& 31) = nI (k * 8 ^ b) := by decide +kernel
theorem codeOfC (h : okM τ) (c : clsR σ τ dr) (hm : rmk σ τ) (o : Option Nat) (ho : ∀ p : Nat, o = some p → p < nK τ ^ nB τ) : fX4_codeOf σ (encN o) = some (σ, encN (o.map (enc8 (nK τ) (nB τ)))) := by
  have h4 := h.n4
  have h8 := h.k8
  have hK : 0 < nK τ := by omega
  have pK : nK τ ^ nB τ ≤ 4096 := powK (by omega) h4
  unfold fX4_codeOf
  cases q : o with
  | none => rw [if_pos (show encN none = -1 from rfl)]; rfl
  | some p =>
    have hp := ho p q
    rw [if_neg (show ¬ encN (some p) = -1 from nI_ne_m1 (by omega)), bnd_eq, bnd_eq]
    obtain ⟨x, hx, e⟩ := loopG (S := Int32) (fun n x m => fX4_codeOf_L11 (nI p) (fun (σ_7 : St) (x2_8 : Int32) (_ : Int32) => some (σ_7, x2_8)) n σ x (nI m)) (nB τ) (fun m x => x = nI (valN 8 m (rowAt (nK τ) p))) (fun x => some (σ, x)) (fun n x hp => by
        show fX4_codeOf_L11 _ _ (n + 1) σ x _ = _
        rw [fX4_codeOf_L11, c.nb h, if_pos (by rw [le_i]; omega)]) (fun n m x hm' hq => by
        have r8 : rowAt (nK τ) p m < 8 := Nat.lt_of_lt_of_le (rowAt_lt hK) h8.1
        have vl := valN_lt (B := 8) (r := rowAt (nK τ) p) (m + 1) (fun y _ => Nat.lt_of_lt_of_le (rowAt_lt hK) h8.1)
        have p8 : 8 ^ (m + 1) ≤ 4096 := pow8 (by omega)
        have ev : valN 8 (m + 1) (rowAt (nK τ) p) = rowAt (nK τ) p m * 8 ^ m + valN 8 m (rowAt (nK τ) p) := rfl
        refine ⟨nI (valN 8 (m + 1) (rowAt (nK τ) p)), rfl, ?_⟩
        show fX4_codeOf_L11 _ _ (n + 1) σ x _ = fX4_codeOf_L11 _ _ n σ (nI (valN 8 (m + 1) (rowAt (nK τ) p))) _
        rw [fX4_codeOf_L11, c.nb h, if_neg (by rw [le_i, nI_toInt (by omega), nI_toInt (by omega)]; omega), stepInC h c hm hm' hp, cl_some, shl3 m (by omega) _ r8, hq, nI_plus (by omega), Nat.add_comm (valN 8 m _), ← ev, bnd_eq, bnd_eq, nI_succ]
        all_goals rfl) FU 0 0 (by omega) (by have : FU = 100000 := rfl; omega) rfl
    refine e.trans ?_
    rw [hx]
    rfl
end Marks
