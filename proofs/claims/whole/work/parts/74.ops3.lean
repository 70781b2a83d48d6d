/-! sure, lot, law -/
theorem anyStep_eq (σ : St) (p : Int32) : fX8_isAnyStep σ p = some (σ, if 0 ≤ p.toInt ∧ p.toInt ≤ 7 then 1 else 0) := by
  unfold fX8_isAnyStep
  simp only [lt_i, le_i, z_0, z_8]
  split
  · rw [if_neg (by omega)]
  · split
    · rw [if_neg (by omega)]
    · rw [if_pos (by omega)]
theorem ixp {p : Int32} (h0 : 0 ≤ p.toInt) : p = nI (ix p) := by
  have e := ix_toInt h0
  rw [show ix p = p.toInt.toNat by omega]
  exact nI_mk h0
theorem p_sure : op_sure Inv := by
  intro σ τ p q hI
  have hb := hI.1.2.1.1
  have hs := hI.1.2.1.2.2.1
  have e0 : σ.1 2 0 = τ.1 0 0 := hI.1.1.1
  have e2 : σ.1 2 2 = τ.1 0 2 := hI.1.1.2.2.1
  by_cases h : 0 ≤ p.toInt ∧ p.toInt < (τ.1 0 0).toInt
  · have h4 : p.toInt < 4 := by have := hb.2; omega
    have hin : inb p 4 = true := inb_iff.mpr ⟨h.1, h4⟩
    by_cases hq : 0 ≤ q.toInt ∧ q.toInt < (τ.1 0 2).toInt
    · have hp8 : ix p < 4 := by have := ix_toInt h.1; omega
      have hq8 : ix q < 8 := by have := ix_toInt hq.1; have := hs.2; omega
      have eix : p * 8 + q = nI (8 * ix p + ix q) := by
        have := ix8 (ix p) hp8 (ix q) hq8
        rw [← ixp h.1, ← ixp hq.1] at this
        exact this
      refine ⟨sI (zr (sI σ 23 (ix p) 1) 24 (8 * ix p) (8 * ix p + 8)) 24 (8 * ix p + ix q) 100, sI (sI τ 15 (ix p) 1) 16 (ix p) q, 1, ?_, ?_, ?_⟩
      · unfold fX8_sure
        rw [hasBaker_eq, cl_some, e0, if_pos h, if_neg one0, hasStep_eq, cl_some, e2, if_pos hq, if_neg one0, tell_eq σ p 1 h.1 h4, cl_some, eix, chk_t (inb_nI (by omega) (by decide)), bnd_eq, ix_nI (by omega)]
      · unfold fX9_sure
        rw [isBaker_eq hb, cl_some, if_pos h, if_neg one0, isStep_eq hs, cl_some, if_pos hq, if_neg one0, chk_t hin, bnd_eq, chk_t hin, bnd_eq]
      · refine ⟨hI.1, iT_ask hI.2.1 (ix p) (fun i hi => ⟨?_, ?_, ?_⟩) (fun i hi k hk => ⟨?_, rfl⟩) ⟨?_, ?_, ?_, fun k hk => ⟨?_, ?_⟩⟩, iM_congr (σ := σ) (τ := τ) (fun c h1 h2 => by rw [sI_ne (by omega), zr_ne (by omega), sI_ne (by omega)]) rfl rfl rfl rfl rfl rfl hI.2.2.1, hI.2.2.2.1, hI.2.2.2.2.1, hI.2.2.2.2.2⟩
        · rw [sI_ne (by decide), zr_ne (by decide), sI_at, if_neg hi]
        · rw [sI_ne (by decide), sI_at, if_neg hi]
        · rw [sI_at, if_neg hi]; rfl
        · rw [sI_at, if_neg (by omega), zr_out (by omega)]; rfl
        · rw [sI_ne (by decide), zr_ne (by decide), sI_at, if_pos rfl, sI_ne (by decide), sI_at, if_pos rfl]
        · rw [sI_ne (by decide), sI_at, if_pos rfl]; constructor <;> decide
        · intro _; rw [sI_at, if_pos rfl]; exact hq
        · have w1 : ((sI (sI τ 15 (ix p) 1) 16 (ix p) q).1 15 (ix p)).toInt = 1 := by rw [sI_ne (by decide), sI_at, if_pos rfl]; decide
          have w2 : (sI (sI τ 15 (ix p) 1) 16 (ix p) q).1 16 (ix p) = q := by rw [sI_at, if_pos rfl]
          rw [if_pos w1, w2, sI_at]
          have := ix_toInt hq.1
          by_cases hk2 : k = ix q
          · rw [if_pos (by omega), if_pos (by omega)]
          · rw [if_neg (by omega), if_neg (by omega), zr_in (by omega)]
        · intro w; rw [sI_ne (by decide), sI_at, if_pos rfl] at w; exact absurd w (by decide)
    · refine ⟨σ, τ, 0, ?_, ?_, hI⟩
      · unfold fX8_sure
        rw [hasBaker_eq, cl_some, e0, if_pos h, if_neg one0, hasStep_eq, cl_some, e2, if_neg hq, if_pos rfl]
      · unfold fX9_sure
        rw [isBaker_eq hb, cl_some, if_pos h, if_neg one0, isStep_eq hs, cl_some, if_neg hq, if_pos rfl]
  · refine ⟨σ, τ, 0, ?_, ?_, hI⟩
    · unfold fX8_sure
      rw [hasBaker_eq, cl_some, e0, if_neg h, if_pos rfl]
    · unfold fX9_sure
      rw [isBaker_eq hb, cl_some, if_neg h, if_pos rfl]
theorem lot_L (b : Nat) (hb : b < 4) (q2 q3 : Int32) (kx : St → Int32 → Option (St × Int32)) : ∀ (n m : Nat) (τ : St), m ≤ 8 → 8 < m + n → ¬ τ.1 15 b = 2 → fX9_lot_L33 (nI b) q2 q3 kx n τ (nI m) = kx (zr τ 17 (8 * b + m) (8 * b + 8)) (nI 8) := by
  intro n
  induction n with
  | zero => intro m σ h1 h2; exact absurd h2 (by omega)
  | succ n ih =>
    intro m τ h1 h2 hw
    rw [fX9_lot_L33]
    by_cases h : m = 8
    · subst h
      rw [if_pos (by decide), zr_self]
    · have hlt : m < 8 := by omega
      have hc : ¬ (8 : Int32) ≤ nI m := by
        rw [le_i, z_8, nI_toInt (by omega)]
        omega
      rw [if_neg hc, chk_t (inb_nI (by omega) (by decide)), ix_nI (by omega), if_neg hw, ix8' b hb m hlt, chk_t (inb_nI (by omega) (by decide)), bnd_eq, bnd_eq, ← nI_succ, ix_nI (by omega), ih (m + 1) (sI τ 17 (8 * b + m) 0) (by omega) (by omega) hw]
      congr 1
      exact zr_step τ 17 (8 * b + m) (8 * b + 8) (by omega)
theorem eq2 {x : Int32} : x = 2 ↔ x.toInt = 2 := by rw [eq_i, z_2]
theorem p_lot : op_lot Inv := by
  intro σ τ p q c hI
  have hb := hI.1.2.1.1
  have e0 : σ.1 2 0 = τ.1 0 0 := hI.1.1.1
  by_cases h : 0 ≤ p.toInt ∧ p.toInt < (τ.1 0 0).toInt
  · have h4 : p.toInt < 4 := by have := hb.2; omega
    have hin : inb p 4 = true := inb_iff.mpr ⟨h.1, h4⟩
    by_cases hq : 0 ≤ q.toInt ∧ q.toInt ≤ 7
    · by_cases hc : 0 ≤ c.toInt ∧ c.toInt ≤ 100
      · have hp8 : ix p < 4 := by have := ix_toInt h.1; omega
        have hq8 : ix q < 8 := by have := ix_toInt hq.1; omega
        have eix : p * 8 + q = nI (8 * ix p + ix q) := by
          have := ix8 (ix p) hp8 (ix q) hq8
          rw [← ixp h.1, ← ixp hq.1] at this
          exact this
        have eix' : (8 : Int32) * p + q = nI (8 * ix p + ix q) := by
          have := ix8' (ix p) hp8 (ix q) hq8
          rw [← ixp h.1, ← ixp hq.1] at this
          exact this
        obtain ⟨k1, k2, k3, k4, k5, k6⟩ := hI.2.1.2.2.2.2 (ix p) (by rw [ix_toInt h.1]; exact h.2)
        have hc1 : ¬ c.toInt < 0 := by omega
        by_cases hw : τ.1 15 (ix p) = 2
        · have hk : σ.1 23 (ix p) = 2 := by rw [k3]; exact hw
          refine ⟨sI σ 24 (8 * ix p + ix q) c, sI (sI τ 15 (ix p) 2) 17 (8 * ix p + ix q) c, 1, ?_, ?_, ?_⟩
          · unfold fX8_lot
            simp only [jp_eq, lt_i, le_i, z_0, z_100]
            rw [hasBaker_eq, cl_some, e0, if_pos h, if_neg one0, anyStep_eq, cl_some, if_pos hq, if_neg one0, if_neg hc1, if_pos hc.2, chk_t hin, if_pos hk, eix, chk_t (inb_nI (by omega) (by decide)), bnd_eq, ix_nI (by omega)]
          · unfold fX9_lot
            rw [isBaker_eq hb, cl_some, if_pos h, if_neg one0, isIn_eq, cl_some, z_0, z_7, if_pos hq, if_neg one0, isIn_eq, cl_some, z_0, z_100, if_pos hc, if_neg one0, bnd_eq]
            show fX9_lot_L33 p q c _ (99999 + 1) τ 0 = _
            rw [fX9_lot_L33, if_neg (by decide), chk_t hin, if_pos hw, chk_t hin, bnd_eq, eix', chk_t (inb_nI (by omega) (by decide)), bnd_eq, ix_nI (by omega)]
          · have wb : (sI (sI τ 15 (ix p) 2) 17 (8 * ix p + ix q) c).1 15 (ix p) = 2 := by rw [sI_ne (by decide), sI_at, if_pos rfl]
            refine ⟨hI.1, iT_ask hI.2.1 (ix p) (fun i hi => ⟨rfl, ?_, rfl⟩) (fun i hi k hk => ⟨?_, ?_⟩) ⟨?_, ?_, ?_, fun k hk2 => ⟨?_, ?_⟩⟩, iM_congr (σ := σ) (τ := τ) (fun c h1 h2 => by rw [sI_ne (by omega)]) rfl rfl rfl rfl rfl rfl hI.2.2.1, hI.2.2.2.1, hI.2.2.2.2.1, hI.2.2.2.2.2⟩
            · rw [sI_ne (by decide), sI_at, if_neg hi]
            · rw [sI_at, if_neg (by omega)]
            · rw [sI_at, if_neg (by omega)]; rfl
            · rw [wb]; exact hk
            · rw [wb]; constructor <;> decide
            · intro w; rw [wb] at w; exact absurd w (by decide)
            · rw [wb, if_neg (by decide), if_pos (by decide), sI_at, sI_at]
              by_cases hk3 : k = ix q
              · rw [if_pos (by omega), if_pos (by omega)]
              · rw [if_neg (by omega), if_neg (by omega)]
                have := (k6 k hk2).1
                rw [eq2.mp hw, if_neg (by decide), if_pos rfl] at this
                exact this
            · intro _
              rw [sI_at]
              by_cases hk3 : k = ix q
              · rw [if_pos (by omega)]; exact hc
              · rw [if_neg (by omega)]; exact (k6 k hk2).2 (eq2.mp hw)
        · have hk : ¬ σ.1 23 (ix p) = 2 := by rw [k3]; exact hw
          refine ⟨sI (zr (sI σ 23 (ix p) 2) 24 (8 * ix p) (8 * ix p + 8)) 24 (8 * ix p + ix q) c, sI (sI (zr τ 17 (8 * ix p) (8 * ix p + 8)) 15 (ix p) 2) 17 (8 * ix p + ix q) c, 1, ?_, ?_, ?_⟩
          · unfold fX8_lot
            simp only [jp_eq, lt_i, le_i, z_0, z_100]
            rw [hasBaker_eq, cl_some, e0, if_pos h, if_neg one0, anyStep_eq, cl_some, if_pos hq, if_neg one0, if_neg hc1, if_pos hc.2, chk_t hin, if_neg hk, tell_eq σ p 2 h.1 h4, cl_some, eix, chk_t (inb_nI (by omega) (by decide)), bnd_eq, ix_nI (by omega)]
          · unfold fX9_lot
            rw [isBaker_eq hb, cl_some, if_pos h, if_neg one0, isIn_eq, cl_some, z_0, z_7, if_pos hq, if_neg one0, isIn_eq, cl_some, z_0, z_100, if_pos hc, if_neg one0, bnd_eq]
            have := lot_L (ix p) hp8 q c (fun σ_10 _ => chk (inb p 4) (bnd (sI σ_10 15 (ix p) (2 : Int32)) fun (σ_12 : St) => chk (inb (((8 : Int32) * p) + q) 32) (bnd (sI σ_12 17 (ix (((8 : Int32) * p) + q)) c) fun (σ_13 : St) => some (σ_13, (1 : Int32))))) FU 0 τ (by omega) (by decide) hw
            rw [← ixp h.1] at this
            refine this.trans ?_
            rw [chk_t hin, bnd_eq, eix', chk_t (inb_nI (by omega) (by decide)), bnd_eq, ix_nI (by omega)]
            rfl
          · have wb : (sI (sI (zr τ 17 (8 * ix p) (8 * ix p + 8)) 15 (ix p) 2) 17 (8 * ix p + ix q) c).1 15 (ix p) = 2 := by rw [sI_ne (by decide), sI_at, if_pos rfl]
            refine ⟨hI.1, iT_ask hI.2.1 (ix p) (fun i hi => ⟨?_, ?_, rfl⟩) (fun i hi k hk => ⟨?_, ?_⟩) ⟨?_, ?_, ?_, fun k hk2 => ⟨?_, ?_⟩⟩, iM_congr (σ := σ) (τ := τ) (fun c h1 h2 => by rw [sI_ne (by omega), zr_ne (by omega), sI_ne (by omega)]) rfl rfl rfl rfl rfl rfl hI.2.2.1, hI.2.2.2.1, hI.2.2.2.2.1, hI.2.2.2.2.2⟩
            · rw [sI_ne (by decide), zr_ne (by decide), sI_at, if_neg hi]
            · rw [sI_ne (by decide), sI_at, if_neg hi]; rfl
            · rw [sI_at, if_neg (by omega), zr_out (by omega)]; rfl
            · rw [sI_at, if_neg (by omega), sI_ne (by decide), zr_out (by omega)]
            · rw [wb, sI_ne (by decide), zr_ne (by decide), sI_at, if_pos rfl]
            · rw [wb]; constructor <;> decide
            · intro w; rw [wb] at w; exact absurd w (by decide)
            · rw [wb, if_neg (by decide), if_pos (by decide), sI_at, sI_at]
              by_cases hk3 : k = ix q
              · rw [if_pos (by omega), if_pos (by omega)]
              · rw [if_neg (by omega), if_neg (by omega), zr_in (by omega), sI_ne (by decide), zr_in (by omega)]
            · intro _
              rw [sI_at]
              by_cases hk3 : k = ix q
              · rw [if_pos (by omega)]; exact hc
              · rw [if_neg (by omega), sI_ne (by decide), zr_in (by omega)]; constructor <;> decide
      · refine ⟨σ, τ, 0, ?_, ?_, hI⟩
        · unfold fX8_lot
          simp only [jp_eq, lt_i, le_i, z_0, z_100]
          rw [hasBaker_eq, cl_some, e0, if_pos h, if_neg one0, anyStep_eq, cl_some, if_pos hq, if_neg one0]
          by_cases h1 : c.toInt < 0
          · rw [if_pos h1]
          · have h2 : ¬ c.toInt ≤ 100 := fun w => hc ⟨by omega, w⟩
            rw [if_neg h1, if_neg h2]
        · unfold fX9_lot
          rw [isBaker_eq hb, cl_some, if_pos h, if_neg one0, isIn_eq, cl_some, z_0, z_7, if_pos hq, if_neg one0, isIn_eq, cl_some, z_0, z_100, if_neg hc, if_pos rfl]
    · refine ⟨σ, τ, 0, ?_, ?_, hI⟩
      · unfold fX8_lot
        rw [hasBaker_eq, cl_some, e0, if_pos h, if_neg one0, anyStep_eq, cl_some, if_neg hq, if_pos rfl]
      · unfold fX9_lot
        rw [isBaker_eq hb, cl_some, if_pos h, if_neg one0, isIn_eq, cl_some, z_0, z_7, if_neg hq, if_pos rfl]
  · refine ⟨σ, τ, 0, ?_, ?_, hI⟩
    · unfold fX8_lot
      rw [hasBaker_eq, cl_some, e0, if_neg h, if_pos rfl]
    · unfold fX9_lot
      rw [isBaker_eq hb, cl_some, if_neg h, if_pos rfl]
