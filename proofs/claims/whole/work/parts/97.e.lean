/-! how the least step of a set is spread: weightFrom, bill -/
theorem ex_prod {K : Nat} {P : Nat → Nat → Int} (f : Nat → Nat → Int) : ∀ n : Nat, ex K n P (fun r => prodN n (fun i => f i (r i))) = prodN n (fun i => sumN K (fun k => P i k * f i k)) := by
  intro n
  induction n with
  | zero => rfl
  | succ n ih =>
    show sumN K (fun k => P n k * ex K n P (fun r => prodN n (fun i => f i (upN r n k i)) * f n (upN r n k n))) = prodN n (fun i => sumN K (fun k => P i k * f i k)) * sumN K (fun k => P n k * f n k)
    rw [← ih, ← sumN_mul]
    refine sumN_congr _ (fun k _ => ?_)
    have e1 : ex K n P (fun r => prodN n (fun i => f i (upN r n k i)) * f n (upN r n k n)) = ex K n P (fun r => f n k * prodN n (fun i => f i (r i))) := by
      congr 1
      funext r
      have e2 : upN r n k n = k := by unfold upN; rw [if_pos rfl]
      rw [e2, prodN_congr n (fun i hi => by unfold upN; rw [if_neg (show ¬ i = n by omega)]), Int.mul_comm]
    rw [e1, ex_mul, ← Int.mul_assoc, Int.mul_comm]
def ind (n set l : Nat) (r : Nat → Nat) : Int := prodN n (fun i => if set.testBit i = true ∧ r i < l then 0 else 1)
theorem prodN_1 {f : Nat → Int} : ∀ n : Nat, (∀ i : Nat, i < n → f i = 1) → prodN n f = 1 := by
  intro n
  induction n with
  | zero => intro _; rfl
  | succ n ih => intro h; rw [prodN, ih (fun i hi => h i (by omega)), h n (by omega)]; rfl
theorem prodN_0 {f : Nat → Int} {j : Nat} : ∀ n : Nat, j < n → f j = 0 → prodN n f = 0 := by
  intro n
  induction n with
  | zero => intro h; omega
  | succ n ih =>
    intro h e
    rw [prodN]
    by_cases w : j = n
    · rw [← w, e, Int.mul_zero]
    · rw [ih (by omega) e, Int.zero_mul]
theorem ind_least {n set l m : Nat} {r : Nat → Nat} (h : leastN n set r = some m) : ind n set l r = if l ≤ m then 1 else 0 := by
  unfold ind
  by_cases w : l ≤ m
  · rw [if_pos w]
    refine prodN_1 n (fun i hi => ?_)
    rw [if_neg (fun q => ?_)]
    have := leastN_le n m h i hi q.1
    omega
  · rw [if_neg w]
    obtain ⟨j, hj, hb, e⟩ := least_row n m h
    exact prodN_0 (j := j) n hj (by rw [if_pos ⟨hb, by omega⟩])
def lsF (Φ : Nat → Int) (n set : Nat) (r : Nat → Nat) : Int := match leastN n set r with
  | none => 0
  | some l => Φ l
def tailP (P : Nat → Nat → Int) (i l : Nat) : Int := sumN 8 (fun k => if l ≤ k then P i k else 0)
def wF (P : Nat → Nat → Int) (n set l : Nat) : Int := prodN n (fun i => if set.testBit i = true then tailP P i l else 100)
/-- parts of 100, none beyond the steps told -/
def okW (τ : St) (P : Nat → Nat → Int) : Prop := ∀ b : Nat, b < nB τ → (∀ k : Nat, k < 8 → 0 ≤ P b k ∧ P b k ≤ 100 ∧ (nK τ ≤ k → P b k = 0)) ∧ sumN 8 (P b) = 100
theorem okR.w {τ : St} {P : Nat → Nat → Int} (h : okR τ P) : okW τ P := fun b hb => ⟨fun _ hk => ⟨(h.b hb hk).1, (h.b hb hk).2, fun h1 => h.z hb h1 hk⟩, (h.2 b hb).2⟩
theorem ex_ind {n set l : Nat} {P : Nat → Nat → Int} (hs : ∀ b : Nat, b < n → sumN 8 (P b) = 100) : ex 8 n P (ind n set l) = wF P n set l := by
  unfold ind wF
  rw [ex_prod (fun i x => if set.testBit i = true ∧ x < l then 0 else 1) n]
  refine prodN_congr n (fun i hi => ?_)
  by_cases w : set.testBit i = true
  · rw [if_pos w]
    unfold tailP
    refine sumN_congr _ (fun k _ => ?_)
    by_cases q : l ≤ k
    · rw [if_pos q, if_neg (by omega), Int.mul_one]
    · rw [if_neg q, if_pos ⟨w, by omega⟩, Int.mul_zero]
  · rw [if_neg w, ← hs i hi]
    refine sumN_congr _ (fun k _ => ?_)
    rw [if_neg (fun q => w q.1), Int.mul_one]
theorem ex_least {τ : St} (h : okM τ) {P : Nat → Nat → Int} (hW : okW τ P) (Φ : Nat → Int) {set b : Nat} (hb : b < nB τ) (hs : set.testBit b = true) : ex 8 (nB τ) P (lsF Φ (nB τ) set) = sumN (nK τ) (fun l => (wF P (nB τ) set l - wF P (nB τ) set (l + 1)) * Φ l) := by
  have h8 := h.k8
  have hsum : ∀ b : Nat, b < nB τ → sumN 8 (P b) = 100 := fun b hb => (hW b hb).2
  have z : ∀ l : Nat, nK τ ≤ l → wF P (nB τ) set l = 0 := fun l hl => by
    refine prodN_0 (j := b) _ hb ?_
    rw [if_pos hs]
    refine sumN_zero _ (fun k hk => ?_)
    by_cases q : l ≤ k
    · rw [if_pos q]; exact ((hW b hb).1 k hk).2.2 (by omega)
    · rw [if_neg q]
  have t : sumN 8 (fun l => (wF P (nB τ) set l - wF P (nB τ) set (l + 1)) * Φ l) = sumN (nK τ) (fun l => (wF P (nB τ) set l - wF P (nB τ) set (l + 1)) * Φ l) := sumN_tail (by omega) (fun k h1 _ => by rw [z k h1, z (k + 1) (by omega), Int.sub_self, Int.zero_mul])
  rw [← t]
  have e1 : ex 8 (nB τ) P (lsF Φ (nB τ) set) = ex 8 (nB τ) P (fun r => sumN 8 (fun l => (ind (nB τ) set l r - ind (nB τ) set (l + 1) r) * Φ l)) := by
    refine ex_congr _ (fun r hr _ => ?_)
    cases e : leastN (nB τ) set r with
    | none => exact absurd e (leastN_some _ b hb hs)
    | some m =>
      obtain ⟨j, hj, _, hjm⟩ := least_row _ _ e
      have hm : m < 8 := by have := hr j hj; omega
      have : lsF Φ (nB τ) set r = Φ m := by unfold lsF; rw [e]
      rw [this]
      have pk := sumN_pick Φ m 8
      rw [if_pos hm] at pk
      rw [← pk]
      refine sumN_congr _ (fun l _ => ?_)
      rw [ind_least e, ind_least e]
      by_cases a : l = m
      · rw [if_pos a, if_pos (show l ≤ m by omega), if_neg (show ¬ l + 1 ≤ m by omega)]
        rw [Int.sub_zero, Int.one_mul]
      · rw [if_neg a]
        by_cases c : l ≤ m
        · rw [if_pos c, if_pos (show l + 1 ≤ m by omega), Int.sub_self, Int.zero_mul]
        · rw [if_neg c, if_neg (show ¬ l + 1 ≤ m by omega), Int.sub_self, Int.zero_mul]
  rw [e1, ex_sum (nB τ) (fun l r => (ind (nB τ) set l r - ind (nB τ) set (l + 1) r) * Φ l) 8]
  refine sumN_congr _ (fun l _ => ?_)
  have e2 : (fun r => (ind (nB τ) set l r - ind (nB τ) set (l + 1) r) * Φ l) = fun r => Φ l * (ind (nB τ) set l r - ind (nB τ) set (l + 1) r) := by funext r; rw [Int.mul_comm]
  rw [e2, ex_mul, ex_sub, ex_ind hsum, ex_ind hsum, Int.mul_comm]
theorem partsFromC {σ τ : St} {dr : Nat → Nat} (h : okM τ) (c : clsR σ τ dr) {P : Nat → Nat → Int} (hC : ptC σ (nB τ) P) (hW : okW τ P) {b l : Nat} (hb : b < nB τ) (hl : l ≤ nK τ) : fX7_partsFrom σ (nI b) (nI l) = some (σ, Int32.ofInt (tailP P b l)) ∧ 0 ≤ tailP P b l ∧ tailP P b l ≤ 800 := by
  have h4 := h.n4
  have h8 := h.k8
  refine ⟨?_, sumN_nn _ (fun k hk => ?_), ?_⟩
  · unfold fX7_partsFrom
    rw [bnd_eq, bnd_eq]
    obtain ⟨x, hx, e⟩ := loopG (S := Int32) (fun n x m => fX7_partsFrom_L5 (nI b) (fun (σ_5 : St) (x3_6 : Int32) (_ : Int32) => some (σ_5, x3_6)) n σ x (nI m)) (nK τ) (fun m x => l ≤ m ∧ x = Int32.ofInt (sumN m (fun k => if l ≤ k then P b k else 0))) (fun x => some (σ, x)) (fun n x hp => by
        show fX7_partsFrom_L5 _ _ (n + 1) σ x _ = _
        rw [fX7_partsFrom_L5, c.nk h, if_pos (by rw [le_i]; omega)]) (fun n m x hm hp => by
        show ∃ x', _ ∧ fX7_partsFrom_L5 _ _ (n + 1) σ x _ = _
        rw [fX7_partsFrom_L5, c.nk h, if_neg (by rw [le_i, nI_toInt (by omega), nI_toInt (by omega)]; omega), ix8 b (by omega) m (by omega), chk_t (inb_nI (by omega) (by decide)), ix_nI (m := 8 * b + m) (by omega), hC b hb m (by omega)]
        refine ⟨x + Int32.ofInt (P b m), ⟨by omega, ?_⟩, by rw [nI_succ]; all_goals rfl⟩
        rw [hp.2, ← Int32.ofInt_add]
        show _ = Int32.ofInt (sumN m (fun k => if l ≤ k then P b k else 0) + (if l ≤ m then P b m else 0))
        rw [if_pos hp.1]) FU l 0 hl (by have : FU = 100000 := rfl; omega) ⟨Nat.le_refl _, by
        rw [sumN_zero l (fun k hk => by rw [if_neg (by omega)])]
        rfl⟩
    refine e.trans ?_
    rw [hx.2]
    unfold tailP
    rw [sumN_tail (K := nK τ) (m := 8) (by omega) (fun k h1 h2 => by
      rw [((hW b hb).1 k h2).2.2 h1]
      split <;> rfl)]
  · split
    · exact ((hW b hb).1 k hk).1
    · decide
  · have := sumN_ub (f := fun k => if l ≤ k then P b k else 0) 8 100 (fun k hk => by
      show (if l ≤ k then P b k else 0) ≤ 100
      split
      · exact ((hW b hb).1 k hk).2.1
      · decide)
    exact Int.le_trans this (by decide)
theorem weightFromC {σ τ : St} {dr : Nat → Nat} (h : okM τ) (c : clsR σ τ dr) {P : Nat → Nat → Int} (hC : ptC σ (nB τ) P) (hW : okW τ P) {set l : Nat} (hs : set < 16) (hl : l ≤ nK τ) : fX7_weightFrom σ (nI set) (nI l) = some (σ, Int64.ofInt (wF P (nB τ) set l)) := by
  have h4 := h.n4
  unfold fX7_weightFrom
  rw [bnd_eq, bnd_eq]
  obtain ⟨x, hx, e⟩ := loopG (S := Int64) (fun n x m => fX7_weightFrom_L5 (nI set) (nI l) (fun (σ_9 : St) (x3_10 : Int64) (_ : Int32) => some (σ_9, x3_10)) n σ x (nI m)) (nB τ) (fun m x => x = Int64.ofInt (wF P m set l)) (fun x => some (σ, x)) (fun n x hp => by
      show fX7_weightFrom_L5 _ _ _ (n + 1) σ x _ = _
      rw [fX7_weightFrom_L5, c.nb h, if_pos (by rw [le_i]; omega)]) (fun n m x hm hp => by
      show ∃ x', _ ∧ fX7_weightFrom_L5 _ _ _ (n + 1) σ x _ = _
      rw [fX7_weightFrom_L5, c.nb h, if_neg (by rw [le_i, nI_toInt (by omega), nI_toInt (by omega)]; omega), jp_eq]
      have es : wF P (m + 1) set l = wF P m set l * (if set.testBit m = true then tailP P m l else 100) := rfl
      by_cases w : set.testBit m = true
      · obtain ⟨a1, a2, a3⟩ := partsFromC h c hC hW hm hl
        rw [if_neg (fun q => (bit0 set hs m (by omega)).mp q w), a1, cl_some, i64_of, i32o (by omega) (by omega)]
        refine ⟨x * Int64.ofInt (tailP P m l), ?_, by rw [nI_succ]; all_goals rfl⟩
        rw [es, if_pos w, hp, ← Int64.ofInt_mul]
      · rw [if_pos ((bit0 set hs m (by omega)).mpr w)]
        refine ⟨x * 100, ?_, by rw [nI_succ]; all_goals rfl⟩
        rw [es, if_neg w, hp, Int64.ofInt_mul]
        rfl) FU 0 1 (by omega) (by have : FU = 100000 := rfl; omega) rfl
  refine e.trans ?_
  rw [hx]
/-- what one woman of a sort, asking a set, pays and buys -/
def paΦ (τ : St) (s l : Nat) : Int := if prc τ l ≤ wth τ s then 12 * prc τ l else 0
def boΦ (τ : St) (s l : Nat) : Int := if prc τ l ≤ wth τ s then 12 else 0
theorem payF_ls (τ : St) (s set : Nat) (r : Nat → Nat) : payF τ s set r = lsF (paΦ τ s) (nB τ) set r := rfl
theorem boF_ls (τ : St) (s set : Nat) (r : Nat → Nat) : boF τ s set r = lsF (boΦ τ s) (nB τ) set r := rfl
/-- a sum over the sets, of the means -/
def bilS (τ : St) (sh : Prop) [Decidable sh] (dr : Nat → Nat) (P : Nat → Nat → Int) (s : Nat) (Φ : Nat → Int) (m : Nat) : Int := sumN m (fun set => if set = 0 then 0 else cntS τ sh dr s set * mny τ s * sumN (nK τ) (fun l => (wF P (nB τ) set l - wF P (nB τ) set (l + 1)) * Φ l))
theorem hasBit {n set : Nat} (h : set < 2 ^ n) (h1 : set ≠ 0) : ∃ b : Nat, b < n ∧ set.testBit b = true := by
  rcases Classical.em (∃ b : Nat, b < n ∧ set.testBit b = true) with w | w
  · exact w
  · exfalso
    apply h1
    refine Nat.eq_of_testBit_eq (fun i => ?_)
    rw [Nat.zero_testBit]
    cases e : set.testBit i with
    | false => rfl
    | true =>
      rcases Nat.lt_or_ge i n with q | q
      · exact absurd ⟨i, q, e⟩ w
      · have : set < 2 ^ i := Nat.lt_of_lt_of_le h (Nat.pow_le_pow_right (n := 2) (by decide) q)
        rw [Nat.testBit_lt_two_pow this] at e
        cases e
theorem lsF_0 (Φ : Nat → Int) (n : Nat) (r : Nat → Nat) : lsF Φ n 0 r = 0 := by
  have : leastN n 0 r = none := by
    induction n with
    | zero => rfl
    | succ n ih => rw [leastN, if_neg (by rw [Nat.zero_testBit]; decide), ih]
  unfold lsF
  rw [this]
theorem ex_bill {τ : St} (h : okM τ) (sh : Prop) [Decidable sh] {dr : Nat → Nat} {P : Nat → Nat → Int} (hW : okW τ P) {s : Nat} (hd : knd τ s = 0 → dr s < 2 ^ nB τ) (Φ : Nat → Int) : ex 8 (nB τ) P (fun r => mny τ s * setSum τ sh dr s (fun set => lsF Φ (nB τ) set r)) = bilS τ sh dr P s Φ (2 ^ nB τ) := by
  rw [ex_mul]
  have e1 : (fun r => setSum τ sh dr s (fun set => lsF Φ (nB τ) set r)) = fun r => sumN (2 ^ nB τ) (fun set => cntS τ sh dr s set * lsF Φ (nB τ) set r) := by
    funext r
    exact setSum_cnt h sh hd _
  rw [e1, ex_sum (nB τ) (fun set r => cntS τ sh dr s set * lsF Φ (nB τ) set r), ← sumN_mul]
  unfold bilS
  refine sumN_congr _ (fun set hset => ?_)
  rw [ex_mul]
  by_cases w : set = 0
  · rw [if_pos w, w]
    have : ex 8 (nB τ) P (lsF Φ (nB τ) 0) = 0 := by
      have e2 : lsF Φ (nB τ) 0 = fun r => (0 : Int) * 1 := by funext r; rw [lsF_0]; rfl
      rw [e2, ex_mul, Int.zero_mul]
    show mny τ s * (cntS τ sh dr s 0 * ex 8 (nB τ) P (lsF Φ (nB τ) 0)) = 0
    rw [this, Int.mul_zero, Int.mul_zero]
  · obtain ⟨b, hb, hbs⟩ := hasBit hset w
    rw [if_neg w, ← ex_least h hW Φ hb hbs, ← Int.mul_assoc, Int.mul_comm (mny τ s)]
def bl (σ : St) (pa bo : Int) : Prop := σ.2 43 12 = Int64.ofInt pa ∧ σ.2 43 13 = Int64.ofInt bo
def bpar (τ : St) (P : Nat → Nat → Int) (set : Nat) (w : Int) (Φ : Nat → Int) (m : Nat) : Int := w * sumN m (fun l => (wF P (nB τ) set l - wF P (nB τ) set (l + 1)) * Φ l)
theorem billI {σ τ : St} {dr : Nat → Nat} (h : okM τ) (c : clsR σ τ dr) {P : Nat → Nat → Int} (hC : ptC σ (nB τ) P) (hW : okW τ P) {s set : Nat} (hs : s < nS τ) (hset : set < 16) (w : Int) (hw : 0 ≤ w ∧ w ≤ 100000) (kont : St → Option (St × Unit)) {pa bo : Int} (hb : bl σ pa bo) : ∃ σ', fX7_bill_L51 (nI s) (nI set) (Int64.ofInt w) (fun (σ_23 : St) (_ : Int32) => kont σ_23) FU σ 0 = kont σ' ∧ frm noL (mk 43 43) σ σ' ∧ bl σ' (pa + bpar τ P set w (paΦ τ s) (nK τ)) (bo + bpar τ P set w (boΦ τ s) (nK τ)) := by
  have h8 := h.k8
  have h12 := h.n12
  have z0 : (0 : Int64).toInt = 0 := by decide
  have cmp : (lg_cmp (Int64.ofInt w) 0 ≤ 0) ↔ w = 0 := by
    rw [lg_cmp_le, Int64.le_iff_toInt_le, i64o (by omega) (by omega), z0]
    omega
  by_cases w0 : w = 0
  · refine ⟨σ, ?_, frm_refl _ _ _, ?_⟩
    · rw [show FU = 99999 + 1 from rfl, fX7_bill_L51]
      by_cases q : σ.1 2 2 ≤ 0
      · rw [if_pos q]
      · rw [if_neg q, if_pos (cmp.mpr w0)]
    · unfold bpar
      rw [w0, Int.zero_mul, Int.zero_mul, Int.add_zero, Int.add_zero]
      exact hb
  · obtain ⟨σ1, hp1, e1⟩ := loopG (S := St) (fun n x m => fX7_bill_L51 (nI s) (nI set) (Int64.ofInt w) (fun (σ_23 : St) (_ : Int32) => kont σ_23) n x (nI m)) (nK τ) (fun m x => frm noL (mk 43 43) σ x ∧ bl x (pa + bpar τ P set w (paΦ τ s) m) (bo + bpar τ P set w (boΦ τ s) m)) (fun x => kont x) (fun n x hp => by
        have c1 := clsR_fr (coreC_frm hp.1 (fun _ _ _ => rfl)) c
        show fX7_bill_L51 _ _ _ _ (n + 1) x _ = _
        rw [fX7_bill_L51, c1.nk h, if_pos (by rw [le_i]; omega)]) (fun n m x hm hp => by
        have c1 := clsR_fr (coreC_frm hp.1 (fun _ _ _ => rfl)) c
        have hCx : ptC x (nB τ) P := fun j hj k hk => by rw [hp.1.1 45 _ rfl]; exact hC j hj k hk
        have pb := prc_b h (l := m) (by omega)
        have wb := (h.hs s hs).2.2.1
        have cw : (τ.1 6 s < Int32.ofInt (prc τ m)) ↔ ¬ prc τ m ≤ wth τ s := by
          rw [lt_i, i32o (by omega) (by omega)]
          show (τ.1 6 s).toInt < _ ↔ ¬ _ ≤ (τ.1 6 s).toInt
          omega
        have step : ∀ Φ : Nat → Int, bpar τ P set w Φ (m + 1) = bpar τ P set w Φ m + w * ((wF P (nB τ) set m - wF P (nB τ) set (m + 1)) * Φ m) := fun Φ => by
          unfold bpar
          rw [← Int.mul_add]
          rfl
        show ∃ x', _ ∧ fX7_bill_L51 _ _ _ _ (n + 1) x _ = _
        rw [fX7_bill_L51, c1.nk h, if_neg (by rw [le_i, nI_toInt (by omega), nI_toInt (by omega)]; omega), if_neg (fun q => w0 (cmp.mp q)), priceC h c1 (by omega), cl_some, chk_t (inb_nI (by omega) (by decide)), jp_eq, ix_nI (m := s) (by omega), (c1.sort hs).2.2.2.1]
        by_cases q : prc τ m ≤ wth τ s
        · rw [if_neg (fun z => cw.mp z q), weightFromC h c1 hCx hW hset (by omega), cl_some, ← nI_succ, weightFromC h c1 hCx hW hset (by omega), cl_some]
          have ev : (Int64.ofInt (wF P (nB τ) set m) - Int64.ofInt (wF P (nB τ) set (m + 1))) * Int64.ofInt w * 12 = Int64.ofInt (w * ((wF P (nB τ) set m - wF P (nB τ) set (m + 1)) * 12)) := by
            rw [← Int64.ofInt_sub, ← Int64.ofInt_mul, show (12 : Int64) = Int64.ofInt 12 from rfl, ← Int64.ofInt_mul]
            congr 1
            rw [Int.mul_comm _ w, Int.mul_assoc]
          rw [ev, bnd_eq]
          have f1 : frm noL (mk 43 43) σ (sL x 43 13 (x.2 43 13 + Int64.ofInt (w * ((wF P (nB τ) set m - wF P (nB τ) set (m + 1)) * 12)))) := frm_trans hp.1 (frm_sL _ _ rfl)
          have c2 := clsR_fr (coreC_frm f1 (fun _ _ _ => rfl)) c
          rw [bnd_eq, priceC h c2 (by omega), cl_some]
          refine ⟨sL (sL x 43 13 (x.2 43 13 + Int64.ofInt (w * ((wF P (nB τ) set m - wF P (nB τ) set (m + 1)) * 12)))) 43 12 ((sL x 43 13 (x.2 43 13 + Int64.ofInt (w * ((wF P (nB τ) set m - wF P (nB τ) set (m + 1)) * 12)))).2 43 12 + Int64.ofInt (w * ((wF P (nB τ) set m - wF P (nB τ) set (m + 1)) * 12)) * (Int32.ofInt (prc τ m)).toInt64), ⟨frm_trans f1 (frm_sL _ _ rfl), ⟨?_, ?_⟩⟩, ?_⟩
          · rw [sL_at, if_pos rfl, sL_at, if_neg (by decide), hp.2.1, i64_of, i32o (by omega) (by omega), ← Int64.ofInt_mul, ← Int64.ofInt_add, step, ← Int.add_assoc]
            unfold paΦ
            rw [if_pos q, Int.mul_assoc, Int.mul_assoc]
          · rw [sL_at, if_neg (by decide), sL_at, if_pos rfl, hp.2.2, ← Int64.ofInt_add, step, ← Int.add_assoc]
            unfold boΦ
            rw [if_pos q]
          · rfl
        · rw [if_pos (cw.mpr q)]
          refine ⟨x, ⟨hp.1, ?_⟩, by rw [nI_succ]; all_goals rfl⟩
          rw [step, step]
          unfold paΦ boΦ
          rw [if_neg q, if_neg q, Int.mul_zero, Int.mul_zero, Int.add_zero, Int.add_zero]
          exact hp.2) FU 0 σ (by omega) (by have : FU = 100000 := rfl; omega) ⟨frm_refl _ _ _, by
        unfold bpar
        show bl σ (pa + w * 0) (bo + w * 0)
        rw [Int.mul_zero, Int.add_zero, Int.add_zero]
        exact hb⟩
    exact ⟨σ1, e1, hp1.1, hp1.2⟩
theorem billC {σ τ : St} {dr : Nat → Nat} (h : okM τ) (c : clsR σ τ dr) (sh : Prop) [Decidable sh] (hsh : σ.1 43 14 = if sh then 1 else 0) {P : Nat → Nat → Int} (hC : ptC σ (nB τ) P) (hW : okW τ P) {s : Nat} (hs : s < nS τ) : ∃ σ', fX7_bill σ (nI s) = some (σ', ()) ∧ frm noL (mk 43 43) σ σ' ∧ bl σ' (bilS τ sh dr P s (paΦ τ s) (2 ^ nB τ)) (bilS τ sh dr P s (boΦ τ s) (2 ^ nB τ)) := by
  have h12 := h.n12
  have h16 := h.p16
  have fs := full_s (τ := τ)
  unfold fX7_bill
  rw [bnd_eq, bnd_eq, bnd_eq]
  have f0 : frm noL (mk 43 43) σ (sL (sL σ 43 12 0) 43 13 0) := frm_trans (frm_sL _ _ rfl) (frm_sL _ _ rfl)
  have b0 : bl (sL (sL σ 43 12 0) 43 13 0) 0 0 := ⟨rfl, rfl⟩
  generalize sL (sL σ 43 12 0) 43 13 0 = σ0 at f0 b0
  obtain ⟨σ1, hp1, e1⟩ := loopG (S := St) (fun n x m => fX7_bill_L12 (nI s) (fun (σ_26 : St) (_ : Int32) => some (σ_26, ())) n x (nI m)) (2 ^ nB τ) (fun m x => 1 ≤ m ∧ frm noL (mk 43 43) σ x ∧ bl x (bilS τ sh dr P s (paΦ τ s) m) (bilS τ sh dr P s (boΦ τ s) m)) (fun x => some (x, ())) (fun n x hp => by
      have c1 := clsR_fr (coreC_frm hp.2.1 (fun _ _ _ => rfl)) c
      show fX7_bill_L12 _ _ (n + 1) x _ = _
      rw [fX7_bill_L12, everyoneC h c1, cl_some, if_pos (by rw [lt_i, nI_toInt (by omega), nI_toInt (by omega)]; omega)]) (fun n m x hm hp => by
      obtain ⟨p1, p2, p3⟩ := hp
      have c1 := clsR_fr (coreC_frm p2 (fun _ _ _ => rfl)) c
      have hCx : ptC x (nB τ) P := fun j hj k hk => by rw [p2.1 45 _ rfl]; exact hC j hj k hk
      have cb := cntS_b h sh dr s m
      have mb := mny_b h hs
      have em : τ.1 4 s = Int32.ofInt (mny τ s) := (Int32.ofInt_toInt _).symm
      have pb : 0 ≤ cntS τ sh dr s m * mny τ s ∧ cntS τ sh dr s m * mny τ s ≤ 16 * 99 := ⟨Int.mul_nonneg cb.1 mb.1, Int.mul_le_mul cb.2 mb.2 mb.1 (by omega)⟩
      show ∃ x', _ ∧ fX7_bill_L12 _ _ (n + 1) x _ = _
      rw [fX7_bill_L12, everyoneC h c1, cl_some, if_neg (by rw [lt_i, nI_toInt (by omega), nI_toInt (by omega)]; omega), p2.1 43 14 rfl, hsh, setsLikeC h c1 sh hs hm, cl_some, chk_t (inb_nI (by omega) (by decide)), (show x.1 6 (ix (nI s)) = τ.1 4 s by rw [ix_nI (m := s) (by omega)]; exact (c1.sort hs).2.1), em, ← Int32.ofInt_mul, i64_of, i32o (by omega) (by omega), bnd_eq, bnd_eq]
      obtain ⟨x2, a1, a2, a3⟩ := billI h c1 hCx hW hs (set := m) (by omega) (cntS τ sh dr s m * mny τ s) ⟨pb.1, by omega⟩ (fun y => fX7_bill_L12 (nI s) (fun (σ_26 : St) (_ : Int32) => some (σ_26, ())) n y (nI (m + 1))) p3
      refine ⟨x2, ⟨by omega, frm_trans p2 a2, ?_⟩, ?_⟩
      · have st : ∀ Φ : Nat → Int, bilS τ sh dr P s Φ (m + 1) = bilS τ sh dr P s Φ m + bpar τ P m (cntS τ sh dr s m * mny τ s) Φ (nK τ) := fun Φ => by
          show bilS τ sh dr P s Φ m + (if m = 0 then 0 else cntS τ sh dr s m * mny τ s * sumN (nK τ) (fun l => (wF P (nB τ) m l - wF P (nB τ) m (l + 1)) * Φ l)) = _
          rw [if_neg (by omega)]
          rfl
        rw [st, st]
        exact a3
      · refine Eq.trans ?_ a1
        rw [nI_succ]
        rfl) FU 1 σ0 (Nat.one_le_two_pow) (by have : FU = 100000 := rfl; omega) ⟨by omega, f0, b0⟩
  exact ⟨σ1, e1, hp1.2.1, hp1.2.2⟩
