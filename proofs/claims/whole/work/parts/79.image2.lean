/-- the class: the stand copied into the image whose cells begin at c -/
def imS (σ : St) (c : Nat) : St := sI (sI (cpI (cpI (cpI σ 23 (c + 1) 0 0 4) 24 (c + 2) 0 0 32) 25 (c + 3) 0 0 4) c 3 (σ.1 22 3)) c 4 (σ.1 22 4)
theorem cpI_ne {σ : St} {q0 q1 c : Nat} {x y z : Int32} (h : c ≠ q1) : (cpI σ q0 q1 x y z).1 c = σ.1 c := by
  show (if c = q1 then _ else _) = _
  rw [if_neg h]
theorem ix4 : ix (4 : Int32) = 4 := by decide
theorem ix32 : ix (32 : Int32) = 32 := by decide
theorem ix0 : ix (0 : Int32) = 0 := by decide
theorem cpI_at {σ : St} {q0 q1 n j : Nat} {z : Int32} (hz : ix z = n) (h : j < n) : (cpI σ q0 q1 0 0 z).1 q1 j = σ.1 q0 j := by
  show (if q1 = q1 then va_cpy (σ.1 q0) (σ.1 q1) (ix 0) (ix 0) (ix z) else σ.1 q1) j = _
  rw [if_pos rfl, hz, ix0]
  unfold va_cpy
  rw [if_pos (by omega), show 0 + (j - 0) = j by omega]
theorem imS_ne {σ : St} {c q : Nat} (h0 : q ≠ c) (h1 : q ≠ c + 1) (h2 : q ≠ c + 2) (h3 : q ≠ c + 3) : (imS σ c).1 q = σ.1 q := by
  unfold imS
  rw [sI_ne h0, sI_ne h0, cpI_ne h3, cpI_ne h2, cpI_ne h1]
theorem imS_3 {σ : St} {c : Nat} : (imS σ c).1 c 3 = σ.1 22 3 := by
  unfold imS
  rw [sI_at, if_neg (by decide), sI_at, if_pos rfl]
theorem imS_4 {σ : St} {c : Nat} : (imS σ c).1 c 4 = σ.1 22 4 := by
  unfold imS
  rw [sI_at, if_pos rfl]
theorem imS_k {σ : St} {c b : Nat} (hc : 27 ≤ c) (h : b < 4) : (imS σ c).1 (c + 1) b = σ.1 23 b := by
  unfold imS
  rw [sI_ne (by omega), sI_ne (by omega), cpI_ne (by omega), cpI_ne (by omega), cpI_at ix4 h]
theorem imS_p {σ : St} {c b : Nat} (hc : 27 ≤ c) (h : b < 32) : (imS σ c).1 (c + 2) b = σ.1 24 b := by
  unfold imS
  rw [sI_ne (by omega), sI_ne (by omega), cpI_ne (by omega), cpI_at ix32 h, cpI_ne (by omega)]
theorem imS_c {σ : St} {c b : Nat} (hc : 27 ≤ c) (h : b < 4) : (imS σ c).1 (c + 3) b = σ.1 25 b := by
  unfold imS
  rw [sI_ne (by omega), sI_ne (by omega), cpI_at ix4 h, cpI_ne (by omega), cpI_ne (by omega)]
theorem imgC (σ : St) (i : Nat) (hi : i < 4) (h14 : σ.1 0 14 = nI i) (hb : ¬ σ.1 2 0 = 0) : fX8_image σ = some (sI (imS σ (imC i)) 0 14 (nI i + 1), nI i + 1 - 1) := by
  unfold fX8_image
  have h4 : nI i < 4 := by
    rw [lt_i, nI_toInt (by omega), z_4]
    omega
  rw [if_neg hb, h14, if_pos h4, chk_t (inb_nI hi (by decide))]
  match i, hi, h14 with
  | 0, _, h14 =>
    rw [if_pos (by decide)]
    show some (sI (imS σ 27) 0 14 (σ.1 0 14 + 1), σ.1 0 14 + 1 - 1) = _
    rw [h14]
    rfl
  | 1, _, h14 =>
    rw [if_neg (by decide), if_pos (by decide)]
    show some (sI (imS σ 31) 0 14 (σ.1 0 14 + 1), σ.1 0 14 + 1 - 1) = _
    rw [h14]
    rfl
  | 2, _, h14 =>
    rw [if_neg (by decide), if_neg (by decide), if_pos (by decide)]
    show some (sI (imS σ 35) 0 14 (σ.1 0 14 + 1), σ.1 0 14 + 1 - 1) = _
    rw [h14]
    rfl
  | 3, _, h14 =>
    rw [if_neg (by decide), if_neg (by decide), if_neg (by decide)]
    show some (sI (imS σ 39) 0 14 (σ.1 0 14 + 1), σ.1 0 14 + 1 - 1) = _
    rw [h14]
    rfl
/-- the relation goes over to what is alike where it is looked at -/
theorem iT_congr {ck cp cc ck' cp' cc' : Nat → Int32} {cpr cf : Int32} {mw ms ml mc mw' ms' ml' mc' : Nat → Int32} {mpr mf : Int32} {nb ns nl : Int} (hnb : nb ≤ 4) (h : iT ck cp cc cpr cf mw ms ml mc mpr mf nb ns nl)
    (e : ∀ b : Nat, b < 4 → ck' b = ck b ∧ cc' b = cc b ∧ mw' b = mw b ∧ ms' b = ms b ∧ mc' b = mc b) (e2 : ∀ k : Nat, k < 32 → cp' k = cp k ∧ ml' k = ml k) : iT ck' cp' cc' cpr cf mw' ms' ml' mc' mpr mf nb ns nl := by
  refine ⟨h.1, h.2.1, h.2.2.1, h.2.2.2.1, fun b hb => ?_⟩
  obtain ⟨a1, a2, a3, a4, a5⟩ := e b (by omega)
  obtain ⟨q1, q2, q3, q4, q5, q6⟩ := h.2.2.2.2 b hb
  refine ⟨by rw [a2, a5]; exact q1, by rw [a5]; exact q2, by rw [a1, a3]; exact q3, by rw [a3]; exact q4, by rw [a3, a4]; exact q5, fun k hk => ?_⟩
  obtain ⟨b1, b2⟩ := e2 (8 * b + k) (by omega)
  rw [b1, b2, a3, a4]
  exact q6 k hk
theorem imT_old (τ : St) (i j : Nat) (h : j < 57 * i) : imT τ i j = τ.1 34 j := by
  unfold imT imL im3 wrt
  rw [if_neg (by omega), if_neg (by omega), if_neg (by omega), if_neg (by omega), if_neg (by omega), if_neg (by omega)]
theorem p_image : op_image Inv := by
  intro σ τ hI
  have hm := hI.2.2.1
  have hb := hI.1.2.1.1
  have e0 : σ.1 2 0 = τ.1 0 0 := hI.1.1.1
  have h68 := hm.2.1
  have e68 : τ.1 0 68 = nI (τ.1 0 68).toInt.toNat := nI_mk h68.1
  by_cases h0 : τ.1 0 0 = 0
  · refine ⟨σ, τ, -1, ?_, ?_, hI⟩
    · unfold fX8_image
      rw [if_pos (by rw [e0]; exact h0)]
    · unfold fX9_image
      by_cases h4 : τ.1 0 68 = 4
      · rw [if_pos h4]
      · rw [if_neg h4, if_pos h0]
  · by_cases h4 : τ.1 0 68 = 4
    · refine ⟨σ, τ, -1, ?_, ?_, hI⟩
      · unfold fX8_image
        rw [if_neg (by rw [e0]; exact h0), hm.1, h4, if_neg (by decide)]
      · unfold fX9_image
        rw [if_pos h4]
    · obtain ⟨i, hi⟩ : ∃ i : Nat, i = (τ.1 0 68).toInt.toNat := ⟨_, rfl⟩
      rw [← hi] at e68
      have hi4 : i < 4 := by
        have w : (τ.1 0 68).toInt ≠ 4 := fun w => h4 (Int32.toInt_inj.mp (by rw [w, z_4]))
        have := h68.2
        omega
      have e1 : (nI i + 1).toInt = (i : Int) + 1 := by rw [← nI_succ, nI_toInt (by omega)]; omega
      refine ⟨_, _, _, imgC σ i hi4 (by rw [hm.1]; exact e68) (by rw [e0]; exact h0), imgM τ i hi4 e68 h0, ?_⟩
      have hc27 : 27 ≤ imC i := by unfold imC; omega
      have hc39 : imC i ≤ 39 := by unfold imC; omega
      have cN : ∀ q : Nat, q < 27 ∨ 42 < q → (imS σ (imC i)).1 q = σ.1 q := fun q hq => imS_ne (by omega) (by omega) (by omega) (by omega)
      have c2 := cN 2 (by omega)
      have c0 := cN 0 (by omega)
      refine ⟨?_, ?_, ⟨rfl, ⟨?_, ?_⟩, fun j hj => ?_⟩, ?_, ?_, ?_⟩
      · have : iS (imS σ (imC i)) τ := by
          unfold iS
          rw [cN 2 (by omega), cN 5 (by omega), cN 6 (by omega), cN 7 (by omega), cN 8 (by omega), cN 9 (by omega)]
          exact hI.1
        exact this
      · have : iP (imS σ (imC i)) τ := by
          unfold iP
          rw [cN 22 (by omega), cN 23 (by omega), cN 24 (by omega), cN 25 (by omega)]
          exact hI.2.1
        exact this
      · show 0 ≤ (nI i + 1).toInt
        omega
      · show (nI i + 1).toInt ≤ 4
        omega
      · have hj' : (j : Int) < (nI i + 1).toInt := hj
        have hjc : imC j ≠ 0 := by unfold imC; omega
        have hjc1 : imC j + 1 ≠ 0 := by omega
        have hjc2 : imC j + 2 ≠ 0 := by omega
        have hjc3 : imC j + 3 ≠ 0 := by omega
        rw [sI_ne hjc, sI_ne hjc1, sI_ne hjc2, sI_ne hjc3]
        have e34 : (sI (s34 τ (imT τ i)) 0 68 (nI i + 1)).1 34 = imT τ i := rfl
        rw [e34]
        show iT _ _ _ _ _ _ _ _ _ _ _ (τ.1 0 0).toInt (τ.1 0 2).toInt (τ.1 0 38).toInt
        by_cases hji : j = i
        · subst hji
          rw [imS_3, imS_4]
          have m0 : imT τ j (57 * j) = τ.1 0 39 := by
            unfold imT imL im3 wrt
            rw [if_neg (by omega), if_neg (by omega), if_neg (by omega), if_neg (by omega), if_neg (by omega), if_pos rfl]
          have m1 : imT τ j (57 * j + 1) = τ.1 0 37 := by
            unfold imT imL im3 wrt
            rw [if_neg (by omega), if_neg (by omega), if_neg (by omega), if_neg (by omega), if_pos rfl]
          rw [m0, m1]
          refine iT_congr hb.2 hI.2.1 (fun b hb4 => ⟨imS_k hc27 hb4, imS_c hc27 hb4, ?_, ?_, ?_⟩) (fun k hk => ⟨imS_p hc27 hk, ?_⟩)
          · unfold imT imL im3
            rw [if_neg (by omega), if_neg (by omega), if_pos (by omega), show 57 * j + 6 + b - (57 * j + 6) = b by omega]
          · unfold imT imL im3
            rw [if_neg (by omega), if_neg (by omega), if_neg (by omega), if_pos (by omega), show 57 * j + 10 + b - (57 * j + 10) = b by omega]
          · unfold imT imL im3
            rw [if_neg (by omega), if_pos (by omega), show 57 * j + 2 + b - (57 * j + 2) = b by omega]
          · unfold imT imL
            rw [if_pos (by omega), show 57 * j + 14 + k - (57 * j + 14) = k by omega]
        · have hjl : j < i := by omega
          have d0 : imC j + 3 < imC i := by unfold imC; omega
          rw [imS_ne (q := imC j) (by omega) (by omega) (by omega) (by omega), imS_ne (q := imC j + 1) (by omega) (by omega) (by omega) (by omega), imS_ne (q := imC j + 2) (by omega) (by omega) (by omega) (by omega), imS_ne (q := imC j + 3) (by omega) (by omega) (by omega) (by omega), imT_old τ i (57 * j) (by omega), imT_old τ i (57 * j + 1) (by omega)]
          refine iT_congr hb.2 (hm.2.2 j (by omega)) (fun b hb4 => ⟨rfl, rfl, imT_old τ i _ (by omega), imT_old τ i _ (by omega), imT_old τ i _ (by omega)⟩) (fun k hk => ⟨rfl, imT_old τ i _ (by omega)⟩)
      · have : iL (imS σ (imC i)) τ := by
          unfold iL
          rw [cN 19 (by omega), cN 20 (by omega), cN 21 (by omega)]
          exact hI.2.2.2.1
        exact this
      · have : iO (imS σ (imC i)) τ := by
          unfold iO
          rw [c0, cN 1 (by omega)]
          exact hI.2.2.2.2.1
        exact this
      · have : iR (imS σ (imC i)) τ := by
          unfold iR RestP
          rw [cN 53 (by omega), cN 54 (by omega), cN 55 (by omega)]
          exact hI.2.2.2.2.2
        exact this
