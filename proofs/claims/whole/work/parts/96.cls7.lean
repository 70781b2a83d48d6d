/-! the others' rows, one by one -/
def posB (b j : Nat) : Nat := if j < b then j else j - 1
def rowO (K b i j : Nat) : Nat := if j = b then 0 else rowAt K i (posB b j)
def prodO (b n : Nat) (f : Nat → Int) : Int := prodN n (fun j => if j = b then 1 else f j)
theorem prodO_congr {b : Nat} {f g : Nat → Int} (n : Nat) (h : ∀ j : Nat, j < n → j ≠ b → f j = g j) : prodO b n f = prodO b n g := by
  unfold prodO
  refine prodN_congr n (fun j hj => ?_)
  by_cases e : j = b
  · rw [if_pos e, if_pos e]
  · rw [if_neg e, if_neg e, h j hj e]
theorem rowO_lt {K b i : Nat} (hK : 0 < K) (j : Nat) : rowO K b i j < K := by
  unfold rowO
  split
  · exact hK
  · exact rowAt_lt hK
theorem rowAt_big {K i p : Nat} (hK : 0 < K) {m : Nat} (hi : i < K ^ m) (hp : m ≤ p) : rowAt K i p = 0 := by
  unfold rowAt
  rw [Nat.div_eq_of_lt (Nat.lt_of_lt_of_le hi (Nat.pow_le_pow_right hK hp)), Nat.zero_mod]
theorem exO_codes {K b : Nat} (hK : 0 < K) {P : Nat → Nat → Int} : ∀ (m : Nat) (F : (Nat → Nat) → Int), sumN (K ^ (b + m)) (fun i => prodO b (b + m + 1) (fun j => P j (rowO K b i j)) * F (rowO K b i)) = exO K b (b + m + 1) P F := by
  intro m
  induction m with
  | zero =>
    intro F
    rw [Nat.add_zero, exO, if_pos rfl, exO_ge b F (Nat.le_refl _), ← ex_codes hK]
    refine sumN_congr _ (fun i hi => ?_)
    have er : rowO K b i = rowAt K i := by
      funext j
      unfold rowO posB
      by_cases e : j = b
      · rw [if_pos e, rowAt_big hK hi (by omega)]
      · rw [if_neg e]
        by_cases e2 : j < b
        · rw [if_pos e2]
        · rw [if_neg e2, rowAt_big hK hi (by omega), rowAt_big hK hi (by omega)]
    rw [er]
    unfold prodO
    show prodN b (fun j => if j = b then 1 else P j (rowAt K i j)) * (if b = b then 1 else P b (rowAt K i b)) * F (rowAt K i) = _
    rw [if_pos rfl, Int.mul_one, prodN_congr b (fun j hj => by rw [if_neg (show ¬ j = b by omega)])]
  | succ m ih =>
    intro F
    have en : b + (m + 1) + 1 = (b + m + 1) + 1 := by omega
    rw [en, exO, if_neg (show ¬ b + m + 1 = b by omega), show b + (m + 1) = (b + m) + 1 by omega, Nat.pow_succ', sumN_split]
    refine sumN_congr K (fun k hk => ?_)
    rw [← ih, ← sumN_mul]
    refine sumN_congr _ (fun lo hl => ?_)
    have er : rowO K b (k * K ^ (b + m) + lo) = upN (rowO K b lo) (b + m + 1) k := by
      funext j
      unfold rowO posB upN
      rw [rowAt_hi hl hk]
      unfold upN
      dsimp only
      by_cases e : j = b
      · rw [if_pos e, if_neg (show ¬ j = b + m + 1 by omega), if_pos e]
      · rw [if_neg e]
        by_cases e2 : j = b + m + 1
        · rw [if_pos e2, if_neg (show ¬ j < b by omega), if_pos (show j - 1 = b + m by omega)]
        · rw [if_neg e2, if_neg e]
          by_cases e3 : j < b
          · rw [if_pos e3, if_neg (show ¬ j = b + m by omega)]
          · rw [if_neg e3, if_neg (show ¬ j - 1 = b + m by omega)]
    rw [er]
    show prodN (b + m + 1) (fun j => if j = b then 1 else P j (upN (rowO K b lo) (b + m + 1) k j)) * (if b + m + 1 = b then 1 else P (b + m + 1) (upN (rowO K b lo) (b + m + 1) k (b + m + 1))) * F (upN (rowO K b lo) (b + m + 1) k) = _
    have e1 : upN (rowO K b lo) (b + m + 1) k (b + m + 1) = k := by unfold upN; rw [if_pos rfl]
    have e2 : prodN (b + m + 1) (fun j => if j = b then 1 else P j (upN (rowO K b lo) (b + m + 1) k j)) = prodO b (b + m + 1) (fun j => P j (rowO K b lo j)) := prodN_congr _ (fun j hj => by unfold upN; rw [if_neg (show ¬ j = b + m + 1 by omega)])
    rw [e1, e2, if_neg (show ¬ b + m + 1 = b by omega), Int.mul_comm (prodO b _ _) (P (b + m + 1) k), Int.mul_assoc]
theorem exO_sum {K b n : Nat} (hK : 0 < K) (hb : b < n) {P : Nat → Nat → Int} (F : (Nat → Nat) → Int) : sumN (K ^ (n - 1)) (fun i => prodO b n (fun j => P j (rowO K b i j)) * F (rowO K b i)) = exO K b n P F := by
  have := exO_codes (b := b) hK (P := P) (n - 1 - b) F
  rwa [show b + (n - 1 - b) + 1 = n by omega, show b + (n - 1 - b) = n - 1 by omega] at this
/-- the next number's digits -/
theorem carry {K p i : Nat} (hK : 0 < K) (hc : (i + 1) % K ^ p = 0) : (rowAt K i p + 1 < K → rowAt K (i + 1) p = rowAt K i p + 1 ∧ ∀ q : Nat, p < q → rowAt K (i + 1) q = rowAt K i q) ∧ (¬ rowAt K i p + 1 < K → rowAt K (i + 1) p = 0 ∧ (i + 1) % K ^ (p + 1) = 0) := by
  have hm : 0 < K ^ p := Nat.pow_pos hK
  obtain ⟨q0, hq0⟩ := Nat.dvd_of_mod_eq_zero hc
  have hq : 1 ≤ q0 := by
    rcases Nat.eq_zero_or_pos q0 with w | w
    · rw [w, Nat.mul_zero] at hq0; omega
    · exact w
  obtain ⟨t, ht⟩ : ∃ t : Nat, q0 = t + 1 := ⟨q0 - 1, by omega⟩
  rw [ht] at hq0
  have hi : i = K ^ p * t + (K ^ p - 1) := by
    rw [Nat.mul_add, Nat.mul_one] at hq0
    omega
  have d1 : i / K ^ p = t := by
    rw [hi, Nat.mul_add_div hm, Nat.div_eq_of_lt (by omega), Nat.add_zero]
  have d2 : (i + 1) / K ^ p = t + 1 := by
    rw [hq0, Nat.mul_div_cancel_left _ hm]
  have dm := Nat.div_add_mod t K
  have hlt := Nat.mod_lt t hK
  unfold rowAt
  rw [d1, d2]
  refine ⟨fun w => ?_, fun w => ?_⟩
  · have e1 : t + 1 = K * (t / K) + (t % K + 1) := by omega
    have m1 : (t + 1) % K = t % K + 1 := by rw [e1, Nat.mul_add_mod, Nat.mod_eq_of_lt w]
    have v1 : (t + 1) / K = t / K := by rw [e1, Nat.mul_add_div hK, Nat.div_eq_of_lt w, Nat.add_zero]
    refine ⟨m1, fun q hq => ?_⟩
    have e2 : K ^ q = K ^ p * (K * K ^ (q - p - 1)) := by
      rw [← Nat.pow_succ', ← Nat.pow_add]
      congr 1
      omega
    rw [e2, ← Nat.div_div_eq_div_mul (i + 1) (K ^ p), ← Nat.div_div_eq_div_mul i (K ^ p), d1, d2, ← Nat.div_div_eq_div_mul (t + 1) K, ← Nat.div_div_eq_div_mul t K, v1]
  · have e0 : t % K + 1 = K := by omega
    have e1 : t + 1 = K * (t / K + 1) := by rw [Nat.mul_add, Nat.mul_one]; omega
    refine ⟨by rw [e1, Nat.mul_mod_right], ?_⟩
    rw [hq0, e1, Nat.pow_succ, ← Nat.mul_assoc, Nat.mul_mod_right]
def carP (b m : Nat) : Nat := if m ≤ b then m else m - 1
def rowD (σ σ' : St) (n b : Nat) : Prop := ∀ j : Nat, (n ≤ j ∨ j = b) → σ'.1 46 j = σ.1 46 j
theorem nextRowC {σ τ : St} {dr : Nat → Nat} (h : okM τ) (c : clsR σ τ dr) {b : Nat} (hb : b < nB τ) {i : Nat} (hw : rowC σ (nB τ) (rowO (nK τ) b i)) : ∃ σ', fX7_nextRow σ (nI b) = some (σ', ()) ∧ frm (mk 46 46) noL σ σ' ∧ rowC σ' (nB τ) (rowO (nK τ) b (i + 1)) := by
  have h4 := h.n4
  have h8 := h.k8
  unfold fX7_nextRow
  rw [bnd_eq]
  have key := loopX (S := St) (fun n x m => fX7_nextRow_L2 (nI b) (fun (σ_6 : St) (_ : Int32) => some (σ_6, ())) n x (nI m)) (nB τ) (fun m x => frm (mk 46 46) noL σ x ∧ (i + 1) % nK τ ^ carP b m = 0 ∧ (∀ j : Nat, j < m → x.1 46 j = nI (rowO (nK τ) b (i + 1) j)) ∧ (∀ j : Nat, m ≤ j → j < nB τ → x.1 46 j = nI (rowO (nK τ) b i j))) (fun x => some (x, ())) (fun res => ∃ x : St, res = some (x, ()) ∧ frm (mk 46 46) noL σ x ∧ rowC x (nB τ) (rowO (nK τ) b (i + 1))) (fun n x hp => by
      have c1 := clsR_fr (coreC_frm hp.1 (mk43 (by omega))) c
      show fX7_nextRow_L2 _ _ (n + 1) x _ = _
      rw [fX7_nextRow_L2, c1.nb h, if_pos (by rw [le_i]; omega)]) (fun n m x hm hp => by
      obtain ⟨p1, p2, p3, p4⟩ := hp
      have c1 := clsR_fr (coreC_frm p1 (mk43 (by omega))) c
      have hin : inb (nI m) 4 = true := inb_nI (by omega) (by decide)
      show (∃ x', _ ∧ fX7_nextRow_L2 _ _ (n + 1) x _ = _) ∨ (∃ x' : St, fX7_nextRow_L2 _ _ (n + 1) x _ = _ ∧ _)
      rw [fX7_nextRow_L2, c1.nb h, if_neg (by rw [le_i, nI_toInt (by omega), nI_toInt (by omega)]; omega), jp_eq]
      by_cases e : m = b
      · rw [if_pos ((ofNI (by omega) (by omega)).mpr e)]
        refine Or.inl ⟨x, ⟨p1, ?_, fun j hj => ?_, fun j hj hj2 => p4 j (by omega) hj2⟩, ?_⟩
        · unfold carP at p2 ⊢
          rw [if_neg (by omega)]
          rw [if_pos (by omega)] at p2
          rwa [show m + 1 - 1 = m by omega]
        · by_cases e2 : j = m
          · rw [e2, p4 m (by omega) hm]
            unfold rowO
            rw [if_pos e, if_pos e]
          · exact p3 j (by omega)
        · rw [nI_succ]; all_goals rfl
      · have ep : carP b m = posB b m := by
          unfold carP posB
          by_cases w : m < b
          · rw [if_pos (show m ≤ b by omega), if_pos w]
          · rw [if_neg (show ¬ m ≤ b by omega), if_neg w]
        have ep2 : carP b (m + 1) = posB b m + 1 := by
          unfold carP posB
          by_cases w : m < b
          · rw [if_pos (show m + 1 ≤ b by omega), if_pos w]
          · rw [if_neg (show ¬ m + 1 ≤ b by omega), if_neg w]
            omega
        rw [ep] at p2
        obtain ⟨ca, cb⟩ := carry (show 0 < nK τ by omega) p2
        have e46 : x.1 46 m = nI (rowAt (nK τ) i (posB b m)) := by
          rw [p4 m (by omega) hm]
          unfold rowO
          rw [if_neg e]
        have rl := rowAt_lt (K := nK τ) (c := i) (b := posB b m) (by omega)
        rw [if_neg (fun w => e ((ofNI (by omega) (by omega)).mp w)), chk_t hin, chk_t hin, ix_nI (m := m) (by omega), e46, ← nI_succ, bnd_eq, chk_t hin]
        have f1 : frm (mk 46 46) noL σ (sI x 46 m (nI (rowAt (nK τ) i (posB b m) + 1))) := frm_trans p1 (frm_sI _ _ rfl)
        have c2 := clsR_fr (coreC_frm f1 (mk43 (by omega))) c
        have v : (sI x 46 m (nI (rowAt (nK τ) i (posB b m) + 1))).1 46 m = nI (rowAt (nK τ) i (posB b m) + 1) := by rw [sI_at, if_pos rfl]
        rw [c2.nk h, v]
        by_cases w : rowAt (nK τ) i (posB b m) + 1 < nK τ
        · obtain ⟨a1, a2⟩ := ca w
          rw [if_neg (by rw [le_i, nI_toInt (by omega), nI_toInt (by omega)]; omega)]
          refine Or.inr ⟨_, rfl, f1, fun j hj => ?_⟩
          rw [sI_at]
          by_cases e2 : j = m
          · rw [if_pos e2, e2]
            unfold rowO
            rw [if_neg e, a1]
          · rw [if_neg e2]
            by_cases e3 : j < m
            · exact p3 j e3
            · rw [p4 j (by omega) hj]
              unfold rowO
              by_cases e4 : j = b
              · rw [if_pos e4, if_pos e4]
              · rw [if_neg e4, if_neg e4, a2 _ (by unfold posB; split <;> split <;> omega)]
        · obtain ⟨a1, a2⟩ := cb w
          rw [if_pos (by rw [le_i, nI_toInt (by omega), nI_toInt (by omega)]; omega), chk_t hin]
          refine Or.inl ⟨sI (sI x 46 m (nI (rowAt (nK τ) i (posB b m) + 1))) 46 m 0, ⟨frm_trans f1 (frm_sI _ _ rfl), by rw [ep2]; exact a2, fun j hj => ?_, fun j hj hj2 => ?_⟩, ?_⟩
          · rw [sI_at, sI_at]
            by_cases e2 : j = m
            · rw [if_pos e2, e2]
              unfold rowO
              rw [if_neg e, a1]
              rfl
            · rw [if_neg e2, if_neg e2]
              exact p3 j (by omega)
          · rw [sI_at, sI_at, if_neg (by omega), if_neg (by omega)]
            exact p4 j (by omega) hj2
          · rw [nI_succ (n := m)]; all_goals rfl) FU 0 σ (by omega) (by have : FU = 100000 := rfl; omega) ⟨frm_refl _ _ _, by unfold carP; rw [if_pos (by omega), Nat.pow_zero, Nat.mod_one], fun j hj => absurd hj (by omega), fun j _ hj => hw j hj⟩
  rcases key with ⟨x, hx, e⟩ | ⟨x, e, hx⟩
  · exact ⟨x, e, hx.1, fun j hj => hx.2.2.1 j hj⟩
  · exact ⟨x, e, hx.1, hx.2⟩
def ptC (σ : St) (n : Nat) (P : Nat → Nat → Int) : Prop := ∀ b : Nat, b < n → ∀ k : Nat, k < 8 → σ.1 45 (8 * b + k) = Int32.ofInt (P b k)
def okP (n : Nat) (P : Nat → Nat → Int) : Prop := ∀ b : Nat, b < n → ∀ k : Nat, k < 8 → 0 ≤ P b k ∧ P b k ≤ 100
theorem prodO_b {b n : Nat} {P : Nat → Nat → Int} {r : Nat → Nat} (hP : ∀ j : Nat, j < n → j ≠ b → ∀ k : Nat, k < 8 → 0 ≤ P j k ∧ P j k ≤ 100) (hr : ∀ j : Nat, r j < 8) (hn : n ≤ 4) : ∀ m : Nat, m ≤ n → 0 ≤ prodO b m (fun j => P j (r j)) ∧ prodO b m (fun j => P j (r j)) ≤ 100000000 := by
  intro m hm
  have hb : ∀ j : Nat, j < m → 0 ≤ (if j = b then (1 : Int) else P j (r j)) ∧ (if j = b then (1 : Int) else P j (r j)) ≤ 100 := fun j hj => by
    by_cases e : j = b
    · rw [if_pos e]; omega
    · rw [if_neg e]; exact hP j (by omega) e _ (hr j)
  refine ⟨prodN_nn m (fun j hj => (hb j hj).1), ?_⟩
  have := prodN_le (c := 100) (by omega) m hb
  have h2 : (100 : Int) ^ m ≤ 100000000 := by
    have : m = 0 ∨ m = 1 ∨ m = 2 ∨ m = 3 ∨ m = 4 := by omega
    rcases this with e | e | e | e | e <;> rw [e] <;> decide
  show prodN m (fun j => if j = b then 1 else P j (r j)) ≤ _
  omega
theorem prodO_0 {b : Nat} {f : Nat → Int} {m : Nat} (h : prodO b m f = 0) : ∀ n : Nat, m ≤ n → prodO b n f = 0 := by
  intro n
  induction n with
  | zero => intro hn; have : m = 0 := by omega
            rw [← this]; exact h
  | succ n ih =>
    intro hn
    by_cases e : m = n + 1
    · rw [← e]; exact h
    · have := ih (by omega)
      unfold prodO at this ⊢
      rw [prodN, this, Int.zero_mul]
theorem weightC {σ τ : St} {dr : Nat → Nat} (h : okM τ) (c : clsR σ τ dr) {b : Nat} (hb : b < nB τ) {P : Nat → Nat → Int} (hP : ∀ j : Nat, j < nB τ → j ≠ b → ∀ k : Nat, k < 8 → σ.1 45 (8 * j + k) = Int32.ofInt (P j k) ∧ 0 ≤ P j k ∧ P j k ≤ 100) {r : Nat → Nat} (hr : ∀ j : Nat, r j < 8) (hw : rowC σ (nB τ) r) : fX7_weightOfOthers σ (nI b) = some (σ, Int64.ofInt (prodO b (nB τ) (fun j => P j (r j)))) := by
  have h4 := h.n4
  have hPb : ∀ j : Nat, j < nB τ → j ≠ b → ∀ k : Nat, k < 8 → 0 ≤ P j k ∧ P j k ≤ 100 := fun j h1 h2 k h3 => (hP j h1 h2 k h3).2
  unfold fX7_weightOfOthers
  rw [bnd_eq, bnd_eq]
  have key := loopX (S := Int64) (fun n x m => fX7_weightOfOthers_L5 (nI b) (fun (σ_7 : St) (x2_8 : Int64) (_ : Int32) => some (σ_7, x2_8)) n σ x (nI m)) (nB τ) (fun m x => x = Int64.ofInt (prodO b m (fun j => P j (r j)))) (fun x => some (σ, x)) (fun res => res = some (σ, Int64.ofInt (prodO b (nB τ) (fun j => P j (r j))))) (fun n x hp => by
      show fX7_weightOfOthers_L5 _ _ (n + 1) σ x _ = _
      rw [fX7_weightOfOthers_L5, c.nb h, if_pos (by rw [le_i]; omega)]) (fun n m x hm hp => by
      have pb := prodO_b hPb hr h4 m (by omega)
      show (∃ x', _ ∧ fX7_weightOfOthers_L5 _ _ (n + 1) σ x _ = _) ∨ (fX7_weightOfOthers_L5 _ _ (n + 1) σ x _ = _)
      rw [fX7_weightOfOthers_L5, c.nb h, if_neg (by rw [le_i, nI_toInt (by omega), nI_toInt (by omega)]; omega), jp_eq, hp]
      have z0 : (0 : Int64).toInt = 0 := by decide
      have cmp : (lg_cmp (Int64.ofInt (prodO b m (fun j => P j (r j)))) 0 ≤ 0) ↔ prodO b m (fun j => P j (r j)) ≤ 0 := by
        rw [lg_cmp_le, Int64.le_iff_toInt_le, i64o (by omega) (by omega), z0]
      by_cases w : prodO b m (fun j => P j (r j)) ≤ 0
      · rw [if_pos (cmp.mpr w)]
        right
        have e0 : prodO b m (fun j => P j (r j)) = 0 := by omega
        rw [prodO_0 e0 (nB τ) (by omega), e0]
      · rw [if_neg (fun q => w (cmp.mp q))]
        left
        by_cases e : m = b
        · rw [if_pos ((ofNI (by omega) (by omega)).mpr e)]
          refine ⟨_, ?_, by rw [nI_succ]; all_goals rfl⟩
          unfold prodO
          rw [prodN, if_pos e, Int.mul_one]
        · obtain ⟨q1, q2⟩ := hP m hm e (r m) (hr m)
          have hrm := hr m
          have hin : inb (nI m) 4 = true := inb_nI (by omega) (by decide)
          have hin2 : inb (nI (8 * m + r m)) 32 = true := inb_nI (by omega) (by decide)
          rw [if_neg (fun q => e ((ofNI (by omega) (by omega)).mp q)), chk_t hin, ix_nI (m := m) (by omega), hw m hm, ix8 m (by omega) (r m) (hr m), chk_t hin2, ix_nI (m := 8 * m + r m) (by omega), q1, i64_of, i32o (by omega) (by omega), ← Int64.ofInt_mul]
          refine ⟨_, ?_, by rw [nI_succ]; all_goals rfl⟩
          unfold prodO
          rw [prodN, if_neg e]) FU 0 1 (by omega) (by have : FU = 100000 := rfl; omega) rfl
  rcases key with ⟨x, hx, e⟩ | e
  · refine e.trans ?_
    rw [hx]
  · exact e
