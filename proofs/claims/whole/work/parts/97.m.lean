/-! lots, the answer -/
theorem lots_r {w : Nat} (hw : w < 4) : ((2 : Int32) ≤ nI w ↔ 2 ≤ w) ∧ ((nI w - nI w / (2 : Int32) * (2 : Int32)) = 0 ↔ w % 2 = 0) := by
  have : ∀ w : Nat, w < 4 → ((2 : Int32) ≤ nI w ↔ 2 ≤ w) ∧ ((nI w - nI w / (2 : Int32) * (2 : Int32)) = 0 ↔ w % 2 = 0) := by decide +kernel
  exact this w hw
abbrev bd (x : Int) : Prop := -68428800000000 ≤ x ∧ x ≤ 68428800000000
/-- a rest of two -/
abbrev rest2 (aLL aLH aHL aHH bLL bLH bHL bHH : Int) : Prop := (aHL ≤ aLL ∧ bLH ≤ bLL) ∨ (aHH ≤ aLH ∧ bLL ≤ bLH) ∨ (aLL ≤ aHL ∧ bHH ≤ bHL) ∨ (aLH ≤ aHH ∧ bHL ≤ bHH)
theorem hasRestC {σ : St} {aLL aLH aHL aHH bLL bLH bHL bHH : Int} (h1 : σ.2 61 1 = Int64.ofInt aLL) (h2 : σ.2 61 2 = Int64.ofInt aLH) (h3 : σ.2 61 3 = Int64.ofInt aHL) (h4 : σ.2 61 4 = Int64.ofInt aHH) (h5 : σ.2 61 5 = Int64.ofInt bLL) (h6 : σ.2 61 6 = Int64.ofInt bLH) (h7 : σ.2 61 7 = Int64.ofInt bHL) (h8 : σ.2 61 8 = Int64.ofInt bHH) (d1 : bd aLL) (d2 : bd aLH) (d3 : bd aHL) (d4 : bd aHH) (d5 : bd bLL) (d6 : bd bLH) (d7 : bd bHL) (d8 : bd bHH) : fX1_hasRest σ = some (σ, if rest2 aLL aLH aHL aHH bLL bLH bHL bHH then 1 else 0) := by
  have e1 := i64_lt (x := aLL) (y := aHL) (by omega) (by omega)
  have e2 := i64_lt (x := bLL) (y := bLH) (by omega) (by omega)
  have e3 := i64_lt (x := aLH) (y := aHH) (by omega) (by omega)
  have e4 := i64_lt (x := bLH) (y := bLL) (by omega) (by omega)
  have e5 := i64_lt (x := aHL) (y := aLL) (by omega) (by omega)
  have e6 := i64_lt (x := bHL) (y := bHH) (by omega) (by omega)
  have e7 := i64_lt (x := aHH) (y := aLH) (by omega) (by omega)
  have e8 := i64_lt (x := bHH) (y := bHL) (by omega) (by omega)
  unfold fX1_hasRest
  simp only [jp_eq, h1, h2, h3, h4, h5, h6, h7, h8, e1.1, e2.2.2.2, e3.1, e4.2.2.2, e5.1, e6.2.2.2, e7.1, e8.1]
  by_cases q1 : aLL < aHL
  · rw [if_pos q1]
    by_cases q3 : aLH < aHH
    · rw [if_pos q3]
      by_cases q5 : aHL < aLL
      · omega
      · rw [if_neg q5]
        by_cases q6 : bHH ≤ bHL
        · rw [if_pos q6, if_pos (show rest2 aLL aLH aHL aHH bLL bLH bHL bHH from by omega)]
        · rw [if_neg q6]
          by_cases q7 : aHH < aLH
          · omega
          · rw [if_neg q7]
            by_cases q8 : bHH < bHL
            · omega
            · rw [if_neg q8, if_pos (show rest2 aLL aLH aHL aHH bLL bLH bHL bHH from by omega)]
    · rw [if_neg q3]
      by_cases q4 : bLL ≤ bLH
      · rw [if_pos q4, if_pos (show rest2 aLL aLH aHL aHH bLL bLH bHL bHH from by omega)]
      · rw [if_neg q4]
        by_cases q5 : aHL < aLL
        · omega
        · rw [if_neg q5]
          by_cases q6 : bHH ≤ bHL
          · rw [if_pos q6, if_pos (show rest2 aLL aLH aHL aHH bLL bLH bHL bHH from by omega)]
          · rw [if_neg q6]
            by_cases q7 : aHH < aLH
            · rw [if_pos q7, if_neg (show ¬ rest2 aLL aLH aHL aHH bLL bLH bHL bHH from by omega)]
            · rw [if_neg q7]
              by_cases q8 : bHH < bHL
              · omega
              · rw [if_neg q8, if_pos (show rest2 aLL aLH aHL aHH bLL bLH bHL bHH from by omega)]
  · rw [if_neg q1]
    by_cases q2 : bLH ≤ bLL
    · rw [if_pos q2, if_pos (show rest2 aLL aLH aHL aHH bLL bLH bHL bHH from by omega)]
    · rw [if_neg q2]
      by_cases q3 : aLH < aHH
      · rw [if_pos q3]
        by_cases q5 : aHL < aLL
        · rw [if_pos q5]
          by_cases q7 : aHH < aLH
          · omega
          · rw [if_neg q7]
            by_cases q8 : bHH < bHL
            · rw [if_pos q8, if_neg (show ¬ rest2 aLL aLH aHL aHH bLL bLH bHL bHH from by omega)]
            · rw [if_neg q8, if_pos (show rest2 aLL aLH aHL aHH bLL bLH bHL bHH from by omega)]
        · rw [if_neg q5]
          by_cases q6 : bHH ≤ bHL
          · rw [if_pos q6, if_pos (show rest2 aLL aLH aHL aHH bLL bLH bHL bHH from by omega)]
          · rw [if_neg q6]
            by_cases q7 : aHH < aLH
            · omega
            · rw [if_neg q7]
              by_cases q8 : bHH < bHL
              · omega
              · rw [if_neg q8, if_pos (show rest2 aLL aLH aHL aHH bLL bLH bHL bHH from by omega)]
      · rw [if_neg q3]
        by_cases q4 : bLL ≤ bLH
        · rw [if_pos q4, if_pos (show rest2 aLL aLH aHL aHH bLL bLH bHL bHH from by omega)]
        · omega
def ptW (w : Nat) (aLH aHH bHL bHH : Int) : Int := if 2 ≤ w then aHH - aLH else bHH - bHL
def whW (w : Nat) (aLL aLH aHL aHH bLL bLH bHL bHH : Int) : Int := if 2 ≤ w then aLL - aLH - aHL + aHH else bLL - bLH - bHL + bHH
theorem tdiv64 {x d : Int} (hx : -3000000000000000000 ≤ x ∧ x ≤ 3000000000000000000) (hd : -3000000000000000000 ≤ d ∧ d ≤ 3000000000000000000) : Int64.ofInt x / Int64.ofInt d = Int64.ofInt (x.tdiv d) := by
  have mx : Int64.maxValue.toInt = 9223372036854775807 := by decide
  have mn : Int64.minValue.toInt = -9223372036854775808 := by decide
  exact (Int64.ofInt_tdiv (by rw [mn]; omega) (by rw [mx]; omega) (by rw [mn]; omega) (by rw [mx]; omega)).symm
theorem ne64i {d : Int} (hd : -3000000000000000000 ≤ d ∧ d ≤ 3000000000000000000) (h0 : d ≠ 0) : ¬ Int64.ofInt d = 0 := fun w => h0 (by
  have := congrArg Int64.toInt w
  rw [i64o (by omega) (by omega)] at this
  exact this)
theorem gcd_le {x y : Int} {B : Nat} (hx : x.natAbs ≤ B) (hy : y.natAbs ≤ B) (h0 : ¬ (x = 0 ∧ y = 0)) : 0 < Nat.gcd y.natAbs x.natAbs ∧ Nat.gcd y.natAbs x.natAbs ≤ B := by
  by_cases w : x = 0
  · have hy0 : 0 < y.natAbs := by omega
    exact ⟨Nat.gcd_pos_of_pos_left _ hy0, Nat.le_trans (Nat.gcd_le_left _ hy0) hy⟩
  · have hx0 : 0 < x.natAbs := by omega
    exact ⟨Nat.gcd_pos_of_pos_right _ hx0, Nat.le_trans (Nat.gcd_le_right _ hx0) hx⟩
theorem shareC {σ : St} {aLL aLH aHL aHH bLL bLH bHL bHH : Int} (h1 : σ.2 61 1 = Int64.ofInt aLL) (h2 : σ.2 61 2 = Int64.ofInt aLH) (h3 : σ.2 61 3 = Int64.ofInt aHL) (h4 : σ.2 61 4 = Int64.ofInt aHH) (h5 : σ.2 61 5 = Int64.ofInt bLL) (h6 : σ.2 61 6 = Int64.ofInt bLH) (h7 : σ.2 61 7 = Int64.ofInt bHL) (h8 : σ.2 61 8 = Int64.ofInt bHH) (d1 : bd aLL) (d2 : bd aLH) (d3 : bd aHL) (d4 : bd aHH) (d5 : bd bLL) (d6 : bd bLH) (d7 : bd bHL) (d8 : bd bHH) {w : Nat} (hw : w < 4) (h0 : ¬ (ptW w aLH aHH bHL bHH = 0 ∧ whW w aLL aLH aHL aHH bLL bLH bHL bHH = 0)) : fX1_share σ (nI w) = some (σ, shV (ptW w aLH aHH bHL bHH) (whW w aLL aLH aHL aHH bLL bLH bHL bHH) (if w % 2 = 0 then ptW w aLH aHH bHL bHH else whW w aLL aLH aHL aHH bLL bLH bHL bHH)) := by
  obtain ⟨r1, r2⟩ := lots_r hw
  have main : ∀ pt wh : Int, (-1000000000000000 ≤ pt ∧ pt ≤ 1000000000000000) → (-1000000000000000 ≤ wh ∧ wh ≤ 1000000000000000) → ¬ (pt = 0 ∧ wh = 0) → (bnd (if (0 : Int64) < Int64.ofInt pt then Int64.ofInt pt else -Int64.ofInt pt) fun (t_7 : Int64) => bnd (if (0 : Int64) < Int64.ofInt wh then Int64.ofInt wh else -Int64.ofInt wh) fun (t_8 : Int64) => cl (fX1_divisorOf σ t_7 t_8) fun (σ_9 : St) (t_10 : Int64) => bnd t_10 fun (x6_11 : Int64) => (if (lg_cmp x6_11 (0 : Int64)) = 0 then some (σ_9, (-1 : Int64)) else (jp (fun (σ_12 : St) (x6_13 : Int64)  => chk (decide (¬ (2 : Int32) = 0)) ((if (nI w - nI w / (2 : Int32) * (2 : Int32)) = 0 then chk (decide (¬ x6_13 = 0)) (some (σ_12, (Int64.ofInt pt / x6_13))) else chk (decide (¬ x6_13 = 0)) (some (σ_12, (Int64.ofInt wh / x6_13)))))) fun j112 => (if 0 ≤ (lg_cmp (Int64.ofInt wh) (0 : Int64)) then j112 σ_9 x6_11 else bnd (-x6_11) fun (x6_14 : Int64) => j112 σ_9 x6_14)))) = some (σ, shV pt wh (if w % 2 = 0 then pt else wh)) := by
    intro pt wh bp bw n0
    have gl := gcd_le (x := pt) (y := wh) (B := 1000000000000000) (by omega) (by omega) n0
    have g0 : ¬ Int64.ofInt ((Nat.gcd wh.natAbs pt.natAbs : Nat) : Int) = 0 := ne64i (by omega) (by omega)
    rw [abs64 (by omega), abs64 (by omega), bnd_eq, bnd_eq, divC σ (by omega) (by omega), cl_some, bnd_eq, if_neg (fun q => g0 ((lg0 _).mp q)), jp_eq]
    have cs : (0 ≤ lg_cmp (Int64.ofInt wh) 0) ↔ 0 ≤ wh := by
      have := (i64_lt (x := wh) (y := 0) (by omega) (by omega)).2.2.2
      exact this
    unfold shV
    by_cases s0 : 0 ≤ wh
    · rw [if_pos (cs.mpr s0), if_neg (show ¬ wh < 0 by omega), Int.mul_one]
      refine (chk_t (by decide) _).trans ?_
      by_cases m0 : w % 2 = 0
      · rw [if_pos (r2.mpr m0), if_pos m0, chk_t (decide_eq_true g0), tdiv64 (by omega) (by omega)]
      · rw [if_neg (fun q => m0 (r2.mp q)), if_neg m0, chk_t (decide_eq_true g0), tdiv64 (by omega) (by omega)]
    · have en : -Int64.ofInt ((Nat.gcd wh.natAbs pt.natAbs : Nat) : Int) = Int64.ofInt (((Nat.gcd wh.natAbs pt.natAbs : Nat) : Int) * -1) := by
        rw [← Int64.ofInt_neg]
        congr 1
        omega
      have g1 : ¬ Int64.ofInt (((Nat.gcd wh.natAbs pt.natAbs : Nat) : Int) * -1) = 0 := ne64i (by omega) (by omega)
      rw [if_neg (fun q => s0 (cs.mp q)), en, if_pos (show wh < 0 by omega)]
      refine (chk_t (by decide) _).trans ?_
      by_cases m0 : w % 2 = 0
      · rw [if_pos (r2.mpr m0), if_pos m0, chk_t (decide_eq_true g1), tdiv64 (by omega) (by omega)]
      · rw [if_neg (fun q => m0 (r2.mp q)), if_neg m0, chk_t (decide_eq_true g1), tdiv64 (by omega) (by omega)]
  unfold fX1_share
  rw [jp_eq, h2, h4, h7, h8]
  unfold ptW whW at h0 ⊢
  by_cases w2 : 2 ≤ w
  · rw [if_pos w2, if_pos w2] at h0
    simp only [if_pos w2]
    rw [if_pos (r1.mpr w2)]
    rw [bnd_eq, jp_eq, if_pos (r1.mpr w2), h1, h2, h3, h4]
    refine (bnd_eq _ _).trans ?_
    rw [← Int64.ofInt_sub, ← Int64.ofInt_sub, ← Int64.ofInt_sub, ← Int64.ofInt_add]
    exact main _ _ (by omega) (by omega) h0
  · rw [if_neg w2, if_neg w2] at h0
    simp only [if_neg w2]
    rw [if_neg (fun q => w2 (r1.mp q))]
    rw [bnd_eq, jp_eq, if_neg (fun q => w2 (r1.mp q)), h5, h6, h7, h8]
    refine (bnd_eq _ _).trans ?_
    rw [← Int64.ofInt_sub, ← Int64.ofInt_sub, ← Int64.ofInt_sub, ← Int64.ofInt_add]
    exact main _ _ (by omega) (by omega) h0
def unB (F S : Nat → Int) (k : Nat) : Bool := decide (F k < F (k ^^^ 2)) || decide (S k < S (k ^^^ 1))
def allU (F S : Nat → Int) : Nat → Bool
  | 0 => true
  | m + 1 => allU F S m && unB F S m
theorem xor4 : ∀ m : Nat, m < 4 → nI m ^^^ (2 : Int32) = nI (m ^^^ 2) ∧ nI m ^^^ (1 : Int32) = nI (m ^^^ 1) ∧ m ^^^ 2 < 4 ∧ m ^^^ 1 < 4 := by decide +kernel
theorem unrestM {τ : St} {F S : Nat → Int} (h1 : ∀ k : Nat, k < 4 → τ.2 30 k = Int64.ofInt (F k) ∧ τ.2 31 k = Int64.ofInt (S k)) (hF : ∀ k : Nat, k < 4 → (-4000000000000000000 ≤ F k ∧ F k ≤ 4000000000000000000) ∧ (-4000000000000000000 ≤ S k ∧ S k ≤ 4000000000000000000)) : fX9_isUnrest τ = some (τ, b01 (allU F S 4)) := by
  have z4 : (4 : Int32).toInt = 4 := by decide
  unfold fX9_isUnrest
  rw [bnd_eq, bnd_eq]
  obtain ⟨x, hx, e⟩ := loopG (S := Int32) (fun n x m => fX9_isUnrest_L4 (fun (σ_9 : St) (x1_10 : Int32) (_ : Int32) => chk (isB x1_10) (some (σ_9, x1_10))) n τ x (nI m)) 4 (fun m x => x = b01 (allU F S m)) (fun x => chk (isB x) (some (τ, x))) (fun n x hp => by
      show fX9_isUnrest_L4 _ (n + 1) τ x _ = _
      rw [fX9_isUnrest_L4, if_pos (by decide)]) (fun n m x hm hp => by
      obtain ⟨x1, x2, x3, x4⟩ := xor4 m hm
      have c1 := (i64_lt (hF (m ^^^ 2) x3).1 (hF m hm).1).2.2.1
      have c2 := (i64_lt (hF (m ^^^ 1) x4).2 (hF m hm).2).2.1
      show ∃ x', _ ∧ fX9_isUnrest_L4 _ (n + 1) τ x _ = _
      rw [fX9_isUnrest_L4, if_neg (by rw [le_i, z4, nI_toInt (by omega)]; omega), jp_eq, jp_eq]
      refine ⟨b01 (allU F S (m + 1)), rfl, ?_⟩
      cases ea : allU F S m with
      | false =>
        rw [ea] at hp
        rw [if_pos (show x = 0 from hp), allU, ea, nI_succ]
        rfl
      | true =>
        rw [ea] at hp
        have hp' : x = 1 := hp
        rw [if_neg (by rw [hp']; exact one0), x1, x2, chk_t (inb_nI (by omega) (by decide)), chk_t (inb_nI (by omega) (by decide)), jp_eq, ix_nI (m := m ^^^ 2) (by omega), ix_nI (m := m) (by omega), (h1 (m ^^^ 2) x3).1, (h1 m hm).1]
        by_cases w1 : F m < F (m ^^^ 2)
        · have eu : unB F S m = true := by unfold unB; rw [decide_eq_true w1]; rfl
          rw [if_pos (c1.mpr w1), allU, ea, eu, nI_succ]
          rfl
        · rw [if_neg (fun q => w1 (c1.mp q)), chk_t (inb_nI (by omega) (by decide)), chk_t (inb_nI (by omega) (by decide)), ix_nI (m := m ^^^ 1) (by omega), (h1 (m ^^^ 1) x4).2, (h1 m hm).2]
          by_cases w2 : S (m ^^^ 1) ≤ S m
          · have eu : unB F S m = false := by unfold unB; rw [decide_eq_false w1, decide_eq_false (by omega)]; rfl
            rw [if_pos (c2.mpr w2), allU, ea, eu, nI_succ]
            rfl
          · have eu : unB F S m = true := by unfold unB; rw [decide_eq_false w1, decide_eq_true (show S m < S (m ^^^ 1) by omega)]; rfl
            rw [if_neg (fun q => w2 (c2.mp q)), allU, ea, eu, nI_succ]
            rfl) FU 0 1 (by omega) (by have : FU = 100000 := rfl; omega) rfl
  refine e.trans ?_
  rw [hx]
  cases allU F S 4 <;> rfl
