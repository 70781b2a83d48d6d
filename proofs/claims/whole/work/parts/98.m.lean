/-! street: the model's words, numbers, signs -/
def aPs (c k : Nat) : Bool := Nat.beq c 0 && (Nat.beq k 31 || Nat.beq k 35 || Nat.beq k 36)
theorem blanksM {τ : St} {T : Nat → Int32} {N a : Nat} (hN : N ≤ 800) (ha : a ≤ N) (hT : ∀ k : Nat, k < N → τ.1 14 k = T k) (h30 : τ.1 0 30 = nI N) (h31 : τ.1 0 31 = nI a) : ∃ τ', fX9_blanks τ = some (τ', ()) ∧ frm aPs noL τ τ' ∧ τ'.1 0 31 = nI (skp T N a) ∧ τ'.1 0 35 = τ.1 0 35 ∧ τ'.1 0 36 = τ.1 0 36 := by
  have rb : a + rL (pB T) N a ≤ N := rL_le ha
  have bl : ∀ (m : Nat) (x : St), m ≤ rL (pB T) N a → frm aPs noL τ x → x.1 0 31 = nI (a + m) → (x.1 0 35 = τ.1 0 35 ∧ x.1 0 36 = τ.1 0 36) → ∃ y : St, (∀ k : St → Option (St × Unit), fX9_blanks_L0 k FU x = k y) ∧ frm aPs noL τ y ∧ y.1 0 31 = nI (skp T N a) ∧ y.1 0 35 = τ.1 0 35 ∧ y.1 0 36 = τ.1 0 36 := by
    intro m x hm hf q3 q5
    obtain ⟨y, hy, e⟩ := loopK (S := St) (fun (k : St → Option (St × Unit)) n y t => fX9_blanks_L0 k n y) (fun k y => k y) (rL (pB T) N a) (fun t y => frm aPs noL τ y ∧ y.1 0 31 = nI (a + t) ∧ y.1 0 35 = τ.1 0 35 ∧ y.1 0 36 = τ.1 0 36) (fun k n y hy => by
        have out := rL_out (pB T) N a
        have e30 : y.1 0 30 = nI N := (hy.1.1 0 30 rfl).trans h30
        show fX9_blanks_L0 k (n + 1) y = _
        rw [fX9_blanks_L0, e30, hy.2.1]
        by_cases w : N ≤ a + rL (pB T) N a
        · rw [if_pos (by rw [le_i, nI_toInt (by omega), nI_toInt (by omega)]; omega)]
        · have np : ¬ (T (a + rL (pB T) N a) = 32 ∨ T (a + rL (pB T) N a) = 10) := fun z => out ⟨by omega, pB_iff.mpr z⟩
          have et : y.1 14 (a + rL (pB T) N a) = T (a + rL (pB T) N a) := (hy.1.1 14 _ rfl).trans (hT _ (by omega))
          rw [if_neg (by rw [le_i, nI_toInt (by omega), nI_toInt (by omega)]; omega), chk_t (inb_nI (by omega) (by decide)), jp_eq, ix_nI (m := a + rL (pB T) N a) (by omega), et, if_neg (fun z => np (Or.inl z)), chk_t (inb_nI (by omega) (by decide)), if_neg (fun z => np (Or.inr z))]) (fun n t y ht hy => by
        have inn := rL_in ht
        have e30 : y.1 0 30 = nI N := (hy.1.1 0 30 rfl).trans h30
        have et : y.1 14 (a + t) = T (a + t) := (hy.1.1 14 _ rfl).trans (hT _ inn.1)
        refine ⟨sI y 0 31 (nI (a + t + 1)), ⟨frm_trans hy.1 (frm_sI _ _ rfl), rfl, hy.2.2⟩, fun k => ?_⟩
        show fX9_blanks_L0 k (n + 1) y = fX9_blanks_L0 k n (sI y 0 31 (nI (a + t + 1)))
        have go : (bnd (sI y 0 31 ((y.1 0 31) + (1 : Int32))) fun (σ_4 : St) => fX9_blanks_L0 k n σ_4) = fX9_blanks_L0 k n (sI y 0 31 (nI (a + t + 1))) := by
          rw [bnd_eq, hy.2.1, nI_succ]
        rw [fX9_blanks_L0, e30, hy.2.1, if_neg (by rw [le_i, nI_toInt (by omega), nI_toInt (by omega)]; omega), chk_t (inb_nI (by omega) (by decide)), jp_eq, ix_nI (m := a + t) (by omega), et]
        by_cases w : T (a + t) = 32
        · rw [if_pos w]; exact go
        · rw [if_neg w, chk_t (inb_nI (by omega) (by decide)), if_pos (by
            rcases pB_iff.mp inn.2 with z | z
            · exact absurd z w
            · exact z)]
          exact go) FU m x hm (by have : FU = 100000 := rfl; omega) ⟨hf, q3, q5⟩
    exact ⟨y, e, hy⟩
  unfold fX9_blanks
  rw [h30, h31]
  by_cases w : N ≤ a
  · have ea : skp T N a = a := by
      unfold skp
      rw [rL_0 (fun z => by omega)]
      rfl
    rw [if_pos (by rw [le_i, nI_toInt (by omega), nI_toInt (by omega)]; omega), ea]
    exact ⟨τ, rfl, frm_refl _ _ _, h31, rfl, rfl⟩
  · rw [if_neg (by rw [le_i, nI_toInt (by omega), nI_toInt (by omega)]; omega), chk_t (inb_nI (by omega) (by decide)), jp_eq, ix_nI (m := a) (by omega), hT a (by omega)]
    have go : pB T a = true → ∃ τ' : St, (bnd (sI τ 0 31 ((τ.1 0 31) + (1 : Int32))) fun (σ_2 : St) => fX9_blanks_L0  (fun (σ_5 : St)  => some (σ_5, ())) FU σ_2 ) = some (τ', ()) ∧ frm aPs noL τ τ' ∧ τ'.1 0 31 = nI (skp T N a) ∧ τ'.1 0 35 = τ.1 0 35 ∧ τ'.1 0 36 = τ.1 0 36 := by
      intro hp
      have l1 : 1 ≤ rL (pB T) N a := by
        cases e : rL (pB T) N a with
        | zero => exact absurd (show a + 0 < N ∧ pB T (a + 0) = true from ⟨by omega, hp⟩) (by have := rL_out (pB T) N a; rw [e] at this; exact this)
        | succ l => omega
      obtain ⟨y, b1, b2⟩ := bl 1 (sI τ 0 31 (nI (a + 1))) l1 (frm_sI _ _ rfl) rfl ⟨rfl, rfl⟩
      rw [bnd_eq, h31, ← nI_succ, b1]
      exact ⟨y, rfl, b2⟩
    by_cases w1 : T a = 32
    · rw [if_pos w1]
      exact go (pB_iff.mpr (Or.inl w1))
    · rw [if_neg w1, chk_t (inb_nI (by omega) (by decide))]
      by_cases w2 : T a = 10
      · rw [if_pos w2]
        exact go (pB_iff.mpr (Or.inr w2))
      · have ea : skp T N a = a := by
          unfold skp
          rw [rL_0 (fun z => by
            rcases pB_iff.mp z.2 with q | q
            · exact w1 q
            · exact w2 q)]
          rfl
        rw [if_neg w2, ea]
        exact ⟨τ, rfl, frm_refl _ _ _, h31, rfl, rfl⟩
theorem nat_or : ∀ c x : Nat, x < 256 → (c * 256) ||| x = c * 256 + x := fun c x hx => by
  have := Nat.shiftLeft_add_eq_or_of_lt (i := 8) (b := x) hx c
  rw [Nat.shiftLeft_eq] at this
  exact this.symm
theorem or256 {c x : Nat} (hc : c < 36028797018963968) (hx : x < 128) : ((Int64.ofInt (c : Int)) <<< (((8 : Int32)).toInt64 &&& 63)) ||| (nI x).toInt64 = Int64.ofInt ((c * 256 + x : Nat) : Int) := by
  have e1 : (nI x).toInt64 = Int64.ofInt (x : Int) := by rw [i64_of, nI_toInt (by omega)]
  have t : ∀ y : Nat, y < 9223372036854775808 → (Int64.ofInt (y : Int)).toBitVec.toNat = y := fun y hy => by
    show (BitVec.ofInt 64 (y : Int)).toNat = y
    rw [BitVec.toNat_ofInt]
    omega
  rw [e1]
  apply Int64.toBitVec_inj.mp
  apply BitVec.eq_of_toNat_eq
  rw [Int64.toBitVec_or, Int64.toBitVec_shiftLeft, BitVec.toNat_or, t x (by omega), t (c * 256 + x) (by omega)]
  have e2 : (((8 : Int32).toInt64 &&& 63 : Int64).toBitVec.smod 64) = 8#64 := by decide
  rw [e2, BitVec.shiftLeft_eq', BitVec.toNat_shiftLeft, t c (by omega), Nat.shiftLeft_eq]
  show c * 2 ^ 8 % 2 ^ 64 ||| x = _
  rw [Nat.mod_eq_of_lt (by omega)]
  exact nat_or c x (by omega)
theorem e256_lt2 {T : Nat → Int32} {s : Nat} : ∀ l : Nat, (∀ j : Nat, j < l → pL T (s + j) = true) → 2 * e256 T s l < 256 ^ l := by
  intro l
  induction l with
  | zero => intro _; exact Nat.one_pos
  | succ l ih =>
    intro h
    have i1 := ih (fun j hj => h j (by omega))
    have d := pL_iff.mp (h l (by omega))
    rw [e256, Nat.pow_succ]
    unfold lt
    omega
theorem wordM {τ : St} {T : Nat → Int32} {N a : Nat} (hN : N ≤ 800) (ha : a ≤ N) (hT : ∀ k : Nat, k < N → τ.1 14 k = T k) (h30 : τ.1 0 30 = nI N) (h31 : τ.1 0 31 = nI a) : ∃ τ', fX9_word τ = some (τ', Int64.ofInt ((if wl T N (skp T N a) ≤ 8 then e256 T (skp T N a) (wl T N (skp T N a)) else 0 : Nat) : Int)) ∧ frm aPs noL τ τ' ∧ τ'.1 0 31 = nI (skp T N a) ∧ τ'.1 0 35 = nI (skp T N a + wl T N (skp T N a)) := by
  have z97 : (97 : Int32).toInt = 97 := by decide
  have z122 : (122 : Int32).toInt = 122 := by decide
  obtain ⟨τ1, a1, a2, a3, a4, a5⟩ := blanksM hN ha hT h30 h31
  have sl := skp_le (T := T) ha
  generalize skp T N a = s at sl a3
  have wle : s + wl T N s ≤ N := rL_le sl
  unfold fX9_word
  rw [a1, cl_some, bnd_eq, bnd_eq, a3]
  have sb : ∀ a b : Nat, a < 2000 → b ≤ a → nI a - nI b = nI (a - b) := fun a b ha hb => by
    rw [eq_i, i32_sub (by rw [nI_toInt (by omega), nI_toInt (by omega)]; omega) (by rw [nI_toInt (by omega), nI_toInt (by omega)]; omega), nI_toInt (by omega), nI_toInt (by omega), nI_toInt (by omega)]
    omega
  obtain ⟨y, hy, e⟩ := loopK (S := St × Int64) (fun (k : St → Int64 → Option (St × Int64)) n y t => fX9_word_L14 k n y.1 y.2) (fun k y => k y.1 y.2) (wl T N s) (fun t y => frm aPs noL τ y.1 ∧ y.1.1 0 31 = nI s ∧ y.1.1 0 35 = nI (s + t) ∧ y.2 = Int64.ofInt ((if t ≤ 8 then e256 T s t else 0 : Nat) : Int)) (fun k n y hy => by
      have out := rL_out (pL T) N s
      have e30 : y.1.1 0 30 = nI N := (hy.1.1 0 30 rfl).trans h30
      show fX9_word_L14 k (n + 1) y.1 y.2 = _
      rw [fX9_word_L14, e30, hy.2.2.1]
      by_cases w : N ≤ s + wl T N s
      · rw [if_pos (by rw [le_i, nI_toInt (by omega), nI_toInt (by omega)]; omega)]
      · have np : ¬ (97 ≤ (T (s + wl T N s)).toInt ∧ (T (s + wl T N s)).toInt ≤ 122) := fun z => out ⟨by unfold wl at w; omega, pL_iff.mpr z⟩
        have et : y.1.1 14 (s + wl T N s) = T (s + wl T N s) := (hy.1.1 14 _ rfl).trans (hT _ (by omega))
        rw [if_neg (by rw [le_i, nI_toInt (by omega), nI_toInt (by omega)]; omega), chk_t (inb_nI (by omega) (by decide)), ix_nI (m := s + wl T N s) (by omega), et]
        by_cases w2 : T (s + wl T N s) < 97
        · rw [if_pos w2]
        · rw [if_neg w2, chk_t (inb_nI (by omega) (by decide)), if_pos (by rw [lt_i, z97] at w2; rw [lt_i, z122]; omega)]) (fun n t y ht hy => by
      have inn := rL_in ht
      have d := pL_iff.mp inn.2
      have e30 : y.1.1 0 30 = nI N := (hy.1.1 0 30 rfl).trans h30
      have et : y.1.1 14 (s + t) = T (s + t) := (hy.1.1 14 _ rfl).trans (hT _ inn.1)
      have el : T (s + t) = nI (lt T (s + t)) := nI_mk (by omega)
      have lb : lt T (s + t) < 128 := by unfold lt; omega
      refine ⟨(sI y.1 0 35 (nI (s + t + 1)), Int64.ofInt ((if t + 1 ≤ 8 then e256 T s (t + 1) else 0 : Nat) : Int)), ⟨frm_trans hy.1 (frm_sI _ _ rfl), hy.2.1, rfl, rfl⟩, fun k => ?_⟩
      show fX9_word_L14 k (n + 1) y.1 y.2 = fX9_word_L14 k n (sI y.1 0 35 (nI (s + t + 1))) (Int64.ofInt ((if t + 1 ≤ 8 then e256 T s (t + 1) else 0 : Nat) : Int))
      rw [fX9_word_L14, e30, hy.2.2.1, if_neg (by rw [le_i, nI_toInt (by omega), nI_toInt (by omega)]; omega), chk_t (inb_nI (by omega) (by decide)), ix_nI (m := s + t) (by omega), et, if_neg (by rw [lt_i, z97]; omega), chk_t (inb_nI (by omega) (by decide)), if_neg (by rw [lt_i, z122]; omega), jp_eq, hy.2.1, sb _ _ (by omega) (by omega)]
      by_cases w : t < 8
      · have eb := e256_lt2 (T := T) (s := s) t (fun j hj => (rL_in (p := pL T) (N := N) (a := s) (j := j) (by unfold wl at ht; omega)).2)
        have p7 : 256 ^ t ≤ 256 ^ 7 := Nat.pow_le_pow_right (by decide) (by omega)
        rw [if_neg (by rw [le_i, z_8, nI_toInt (by omega)]; omega), chk_t (inb_nI (by omega) (by decide)), hy.2.2.2, if_pos (show t ≤ 8 by omega), el, or256 (by omega) lb, if_pos (show t + 1 ≤ 8 by omega)]
        dsimp only
        rw [bnd_eq, hy.2.2.1, bnd_eq, nI_succ]
        all_goals rfl
      · rw [if_pos (by rw [le_i, z_8, nI_toInt (by omega)]; omega), if_neg (show ¬ t + 1 ≤ 8 by omega)]
        dsimp only
        rw [bnd_eq, hy.2.2.1, bnd_eq, nI_succ]
        all_goals rfl) FU 0 (sI τ1 0 35 (nI s), 0) (by omega) (by have : FU = 100000 := rfl; omega) ⟨frm_trans a2 (frm_sI _ _ rfl), a3, rfl, rfl⟩
  have e : ∀ k : St → Int64 → Option (St × Int64), fX9_word_L14 k FU (sI τ1 0 35 (nI s)) 0 = k y.1 y.2 := e
  rw [e, hy.2.1, hy.2.2.1, sb _ _ (by omega) (by omega), hy.2.2.2]
  by_cases w : wl T N s ≤ 8
  · rw [if_pos (by rw [le_i, z_8, nI_toInt (by omega)]; omega)]
    exact ⟨y.1, rfl, hy.1, hy.2.1, hy.2.2.1⟩
  · rw [if_neg (by rw [le_i, z_8, nI_toInt (by omega)]; omega), if_neg w]
    exact ⟨y.1, rfl, hy.1, hy.2.1, hy.2.2.1⟩
theorem numberM {τ : St} {T : Nat → Int32} {N a : Nat} (hN : N ≤ 800) (ha : a ≤ N) (hT : ∀ k : Nat, k < N → τ.1 14 k = T k) (h30 : τ.1 0 30 = nI N) (h31 : τ.1 0 31 = nI a) (lo hi : Int32) : ∃ τ', frm aPs noL τ τ' ∧ ((fX9_takesNumber τ lo hi = some (τ', 1) ∧ (1 ≤ dl T N (skp T N a) ∧ dl T N (skp T N a) ≤ 4 ∧ lo.toInt ≤ v10 T (skp T N a) (dl T N (skp T N a)) ∧ (v10 T (skp T N a) (dl T N (skp T N a)) : Int) ≤ hi.toInt) ∧ τ'.1 0 31 = nI (skp T N a + dl T N (skp T N a)) ∧ τ'.1 0 36 = nI (v10 T (skp T N a) (dl T N (skp T N a)))) ∨ (fX9_takesNumber τ lo hi = some (τ', 0) ∧ ¬ (1 ≤ dl T N (skp T N a) ∧ dl T N (skp T N a) ≤ 4 ∧ lo.toInt ≤ v10 T (skp T N a) (dl T N (skp T N a)) ∧ (v10 T (skp T N a) (dl T N (skp T N a)) : Int) ≤ hi.toInt) ∧ τ'.1 0 31 = nI (skp T N a))) := by
  have z48 : (48 : Int32).toInt = 48 := by decide
  have z57 : (57 : Int32).toInt = 57 := by decide
  have z4 : (4 : Int32).toInt = 4 := by decide
  obtain ⟨τ1, a1, a2, a3, a4, a5⟩ := blanksM hN ha hT h30 h31
  have sl := skp_le (T := T) ha
  generalize skp T N a = s at sl a3
  have dle : s + dl T N s ≤ N := rL_le sl
  unfold fX9_takesNumber
  rw [a1, cl_some, bnd_eq, bnd_eq, a3]
  have sb : ∀ a b : Nat, a < 2000 → b ≤ a → nI a - nI b = nI (a - b) := fun a b ha hb => by
    rw [eq_i, i32_sub (by rw [nI_toInt (by omega), nI_toInt (by omega)]; omega) (by rw [nI_toInt (by omega), nI_toInt (by omega)]; omega), nI_toInt (by omega), nI_toInt (by omega), nI_toInt (by omega)]
    omega
  obtain ⟨y, hy, e⟩ := loopK (S := St) (fun (k : St → Int32 → Option (St × Int32)) n y t => fX9_takesNumber_L14 lo hi k n y (nI (s + t))) (fun k y => k y (nI (s + dl T N s))) (dl T N s) (fun t y => frm aPs noL τ y ∧ y.1 0 31 = nI s ∧ (t ≤ 4 → y.1 0 36 = nI (v10 T s t))) (fun k n y hy => by
      have out := rL_out (pD T) N s
      have e30 : y.1 0 30 = nI N := (hy.1.1 0 30 rfl).trans h30
      show fX9_takesNumber_L14 lo hi k (n + 1) y _ = _
      rw [fX9_takesNumber_L14, e30]
      by_cases w : N ≤ s + dl T N s
      · rw [if_pos (by rw [le_i, nI_toInt (by omega), nI_toInt (by omega)]; omega)]
      · have np : ¬ (48 ≤ (T (s + dl T N s)).toInt ∧ (T (s + dl T N s)).toInt ≤ 57) := fun z => out ⟨by unfold dl at w; omega, pD_iff.mpr z⟩
        have et : y.1 14 (s + dl T N s) = T (s + dl T N s) := (hy.1.1 14 _ rfl).trans (hT _ (by omega))
        rw [if_neg (by rw [le_i, nI_toInt (by omega), nI_toInt (by omega)]; omega), chk_t (inb_nI (by omega) (by decide)), ix_nI (m := s + dl T N s) (by omega), et]
        by_cases w2 : T (s + dl T N s) < 48
        · rw [if_pos w2]
        · rw [if_neg w2, chk_t (inb_nI (by omega) (by decide)), if_pos (by rw [lt_i, z48] at w2; rw [lt_i, z57]; omega)]) (fun n t y ht hy => by
      have inn := rL_in ht
      have d := pD_iff.mp inn.2
      have e30 : y.1 0 30 = nI N := (hy.1.1 0 30 rfl).trans h30
      have et : y.1 14 (s + t) = T (s + t) := (hy.1.1 14 _ rfl).trans (hT _ inn.1)
      have head : ∀ k : St → Int32 → Option (St × Int32), fX9_takesNumber_L14 lo hi k (n + 1) y (nI (s + t)) = (if (4 : Int32) ≤ nI t then fX9_takesNumber_L14 lo hi k n y (nI (s + t + 1)) else fX9_takesNumber_L14 lo hi k n (sI y 0 36 ((((10 : Int32) * (y.1 0 36)) + T (s + t)) - (48 : Int32))) (nI (s + t + 1))) := fun k => by
        rw [fX9_takesNumber_L14, e30, if_neg (by rw [le_i, nI_toInt (by omega), nI_toInt (by omega)]; omega), chk_t (inb_nI (by omega) (by decide)), ix_nI (m := s + t) (by omega), et, if_neg (by rw [lt_i, z48]; omega), chk_t (inb_nI (by omega) (by decide)), if_neg (by rw [lt_i, z57]; omega), jp_eq, hy.2.1, sb _ _ (by omega) (by omega), show s + t - s = t by omega, chk_t (inb_nI (by omega) (by decide)), bnd_eq]
        dsimp only
        rw [bnd_eq, bnd_eq, ← nI_succ]
      by_cases w : t < 4
      · have vb := v10_lt (T := T) (s := s) t (fun j hj => (rL_in (p := pD T) (N := N) (a := s) (j := j) (by unfold dl at ht; omega)).2)
        have p4 : 10 ^ t ≤ 10 ^ 4 := Nat.pow_le_pow_right (by decide) (by omega)
        have lb : 48 ≤ lt T (s + t) ∧ lt T (s + t) ≤ 57 := by unfold lt; omega
        have el : T (s + t) = nI (lt T (s + t)) := nI_mk (by omega)
        have ev : (((10 : Int32) * nI (v10 T s t)) + T (s + t)) - (48 : Int32) = nI (v10 T s (t + 1)) := by
          rw [el, show (10 : Int32) = nI 10 from rfl, nI_mul2 (by omega) (by omega) (by omega), nI_plus (by omega), eq_i, i32_sub (by rw [z48, nI_toInt (by omega)]; omega) (by rw [z48, nI_toInt (by omega)]; omega), z48, nI_toInt (by omega), v10, nI_toInt (by omega)]
          omega
        refine ⟨sI y 0 36 (nI (v10 T s (t + 1))), ⟨frm_trans hy.1 (frm_sI _ _ rfl), hy.2.1, fun _ => rfl⟩, fun k => ?_⟩
        rw [head k, if_neg (by rw [le_i, z4, nI_toInt (by omega)]; omega), hy.2.2 (by omega), ev]
        all_goals rfl
      · refine ⟨y, ⟨hy.1, hy.2.1, fun q => absurd q (by omega)⟩, fun k => ?_⟩
        rw [head k, if_pos (by rw [le_i, z4, nI_toInt (by omega)]; omega)]
        all_goals rfl) FU 0 (sI τ1 0 36 0) (by omega) (by have : FU = 100000 := rfl; omega) ⟨frm_trans a2 (frm_sI _ _ rfl), a3, fun _ => rfl⟩
  have e : ∀ k : St → Int32 → Option (St × Int32), fX9_takesNumber_L14 lo hi k FU (sI τ1 0 36 0) (nI s) = k y (nI (s + dl T N s)) := e
  rw [e, hy.2.1]
  by_cases w : dl T N s = 0
  · refine ⟨y, hy.1, Or.inr ⟨?_, fun z => by omega, hy.2.1⟩⟩
    rw [if_pos (by rw [w]; rfl)]
  · rw [if_neg (fun z => w (by have := (ofNI (by omega) (by omega)).mp z; omega)), sb _ _ (by omega) (by omega), show s + dl T N s - s = dl T N s by omega]
    by_cases w2 : 4 < dl T N s
    · refine ⟨y, hy.1, Or.inr ⟨?_, fun z => by omega, hy.2.1⟩⟩
      rw [if_pos (by rw [lt_i, z4, nI_toInt (by omega)]; omega)]
    · have vb := v10_lt (T := T) (s := s) (dl T N s) (fun j hj => (rL_in (p := pD T) (N := N) (a := s) (j := j) hj).2)
      have p4 : 10 ^ (dl T N s) ≤ 10 ^ 4 := Nat.pow_le_pow_right (by decide) (by omega)
      have e36 := hy.2.2 (by omega)
      rw [if_neg (by rw [lt_i, z4, nI_toInt (by omega)]; omega), e36, isIn_eq, cl_some, nI_toInt (by omega)]
      by_cases w3 : lo.toInt ≤ (v10 T s (dl T N s) : Int) ∧ (v10 T s (dl T N s) : Int) ≤ hi.toInt
      · refine ⟨sI y 0 31 (nI (s + dl T N s)), frm_trans hy.1 (frm_sI _ _ rfl), Or.inl ⟨?_, ⟨by omega, by omega, w3.1, w3.2⟩, rfl, e36⟩⟩
        rw [if_pos w3, if_neg one0, bnd_eq]
      · refine ⟨y, hy.1, Or.inr ⟨?_, fun z => w3 z.2.2, hy.2.1⟩⟩
        rw [if_neg w3, if_pos rfl]
theorem signM {τ : St} {T : Nat → Int32} {N a : Nat} (hN : N ≤ 800) (ha : a ≤ N) (hT : ∀ k : Nat, k < N → τ.1 14 k = T k) (h30 : τ.1 0 30 = nI N) (h31 : τ.1 0 31 = nI a) : ∃ τ', frm aPs noL τ τ' ∧ ((fX9_takesSign τ 59 = some (τ', 1) ∧ (skp T N a < N ∧ T (skp T N a) = 59) ∧ τ'.1 0 31 = nI (skp T N a + 1)) ∨ (fX9_takesSign τ 59 = some (τ', 0) ∧ ¬ (skp T N a < N ∧ T (skp T N a) = 59) ∧ τ'.1 0 31 = nI (skp T N a))) := by
  obtain ⟨τ1, a1, a2, a3, a4, a5⟩ := blanksM hN ha hT h30 h31
  have sl := skp_le (T := T) ha
  generalize skp T N a = s at sl a3
  have e30 : τ1.1 0 30 = nI N := (a2.1 0 30 rfl).trans h30
  unfold fX9_takesSign
  rw [a1, cl_some, a3, e30]
  by_cases w : s = N
  · refine ⟨τ1, a2, Or.inr ⟨?_, fun z => by omega, a3⟩⟩
    rw [if_pos (by rw [w])]
  · have et : τ1.1 14 s = T s := (a2.1 14 _ rfl).trans (hT _ (by omega))
    rw [if_neg (fun z => w ((ofNI (by omega) (by omega)).mp z)), chk_t (inb_nI (by omega) (by decide)), ix_nI (m := s) (by omega), et]
    by_cases w2 : T s = 59
    · refine ⟨sI τ1 0 31 (nI (s + 1)), frm_trans a2 (frm_sI _ _ rfl), Or.inl ⟨?_, ⟨by omega, w2⟩, rfl⟩⟩
      rw [if_pos w2, ← nI_succ, bnd_eq]
    · refine ⟨τ1, a2, Or.inr ⟨?_, fun z => w2 z.2, a3⟩⟩
      rw [if_neg w2]
