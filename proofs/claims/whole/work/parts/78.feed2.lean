theorem putC_step (σ : St) (T : Nat → Int32) (m : Nat) (p s : Int32) (kx : St → Int32 → Option (St × Unit)) (n : Nat) (hm : m < 800) (hs : ¬ s < 0) : fX8_putNumber_L3 p kx (n + 1) (fdC σ T (nI m)) s = fX8_putNumber_L3 p kx n (fdC σ (wrt T m (bC p s)) (nI (m + 1))) (s + (-8)) := by
  rw [fX8_putNumber_L3, if_neg hs, jp_eq]
  have e : (fdC σ T (nI m)).1 0 11 = nI m := rfl
  have hc : ¬ (800 : Int32) ≤ nI m := by
    rw [le_i, nI_toInt (by omega)]
    have : (800 : Int32).toInt = 800 := by decide
    omega
  rw [e, if_neg hc, chk_t (inb_nI hm (by decide)), bnd_eq, bnd_eq, ix_nI (by omega)]
  have e2 : (sI (fdC σ T (nI m)) 1 m (bC p s)).1 0 11 = nI m := rfl
  show fX8_putNumber_L3 p kx n (sI (sI (fdC σ T (nI m)) 1 m (bC p s)) 0 11 ((sI (fdC σ T (nI m)) 1 m (bC p s)).1 0 11 + 1)) (s + (-8)) = _
  rw [e2, fdC_put, ← nI_succ]
theorem putM_step (τ : St) (T : Nat → Int32) (m : Nat) (p s : Int32) (kx : St → Int32 → Option (St × Unit)) (n : Nat) (hm : m < 800) (hs : ¬ s < 0) : fX9_four_L3 p kx (n + 1) (fdM τ T (nI m)) s = fX9_four_L3 p kx n (fdM τ (wrt T m (bM p s)) (nI (m + 1))) (s + (-8)) := by
  rw [fX9_four_L3, if_neg hs]
  have e : (fdM τ T (nI m)).1 0 29 = nI m := rfl
  rw [e, chk_t (inb_nI hm (by decide)), bnd_eq, bnd_eq, bnd_eq, ix_nI (by omega)]
  have e2 : (sI (fdM τ T (nI m)) 13 m (bM p s)).1 0 29 = nI m := rfl
  show fX9_four_L3 p kx n (sI (sI (fdM τ T (nI m)) 13 m (bM p s)) 0 29 ((sI (fdM τ T (nI m)) 13 m (bM p s)).1 0 29 + 1)) (s + (-8)) = _
  rw [e2, fdM_put, ← nI_succ]
def w4 (T : Nat → Int32) (m : Nat) (p : Int32) : Nat → Int32 := wrt (wrt (wrt (wrt T m (bC p 24)) (m + 1) (bC p 16)) (m + 2) (bC p 8)) (m + 3) (bC p 0)
theorem s24 : (24 : Int32) + (-8) = 16 := by decide
theorem s16 : (16 : Int32) + (-8) = 8 := by decide
theorem s8 : (8 : Int32) + (-8) = 0 := by decide
theorem s0 : (0 : Int32) + (-8) = -8 := by decide
theorem putC (σ : St) (T : Nat → Int32) (m : Nat) (p : Int32) (hm : m + 4 ≤ 800) : fX8_putNumber (fdC σ T (nI m)) p = some (fdC σ (w4 T m p) (nI (m + 4)), ()) := by
  unfold fX8_putNumber
  rw [bnd_eq]
  show fX8_putNumber_L3 p _ (99995 + 1 + 1 + 1 + 1 + 1) (fdC σ T (nI m)) 24 = _
  rw [putC_step σ T m p 24 _ _ (by omega) (by decide), s24, putC_step σ _ (m + 1) p 16 _ _ (by omega) (by decide), s16, putC_step σ _ (m + 1 + 1) p 8 _ _ (by omega) (by decide), s8, putC_step σ _ (m + 1 + 1 + 1) p 0 _ _ (by omega) (by decide), s0, fX8_putNumber_L3, if_pos (by decide)]
  rfl
theorem putM (τ : St) (T : Nat → Int32) (m : Nat) (p : Int32) (hm : m + 4 ≤ 800) : fX9_four (fdM τ T (nI m)) p = some (fdM τ (w4 T m p) (nI (m + 4)), ()) := by
  unfold fX9_four
  rw [bnd_eq]
  show fX9_four_L3 p _ (99995 + 1 + 1 + 1 + 1 + 1) (fdM τ T (nI m)) 24 = _
  rw [putM_step τ T m p 24 _ _ (by omega) (by decide), s24, putM_step τ _ (m + 1) p 16 _ _ (by omega) (by decide), s16, putM_step τ _ (m + 1 + 1) p 8 _ _ (by omega) (by decide), s8, putM_step τ _ (m + 1 + 1 + 1) p 0 _ _ (by omega) (by decide), s0, fX9_four_L3, if_pos (by decide), ← byte24, ← byte16, ← byte8, ← byte0]
  rfl
theorem w4_eq {T U : Nat → Int32} {m : Nat} (p : Int32) (h : ∀ k : Nat, k < m → T k = U k) : ∀ k : Nat, k < m + 4 → w4 T m p k = w4 U m p k := by
  intro k hk
  unfold w4 wrt
  by_cases h3 : k = m + 3
  · rw [if_pos h3, if_pos h3]
  by_cases h2 : k = m + 2
  · rw [if_neg h3, if_neg h3, if_pos h2, if_pos h2]
  by_cases h1 : k = m + 1
  · rw [if_neg h3, if_neg h3, if_neg h2, if_neg h2, if_pos h1, if_pos h1]
  by_cases h0 : k = m
  · rw [if_neg h3, if_neg h3, if_neg h2, if_neg h2, if_neg h1, if_neg h1, if_pos h0, if_pos h0]
  · rw [if_neg h3, if_neg h3, if_neg h2, if_neg h2, if_neg h1, if_neg h1, if_neg h0, if_neg h0]
    exact h k (by omega)
theorem nar_nar (x : Int32) : vp_nar .byte (vp_nar .byte x) = vp_nar .byte x := by
  show (x.toInt8.toInt32).toInt8.toInt32 = x.toInt8.toInt32
  rw [Int8.toInt8_toInt32]
theorem w4_nar {T : Nat → Int32} {m : Nat} (p : Int32) (h : ∀ k : Nat, k < m → vp_nar .byte (T k) = T k) : ∀ k : Nat, k < m + 4 → vp_nar .byte (w4 T m p k) = w4 T m p k := by
  intro k hk
  unfold w4 wrt
  by_cases h3 : k = m + 3
  · rw [if_pos h3]; exact nar_nar _
  by_cases h2 : k = m + 2
  · rw [if_neg h3, if_pos h2]; exact nar_nar _
  by_cases h1 : k = m + 1
  · rw [if_neg h3, if_neg h2, if_pos h1]; exact nar_nar _
  by_cases h0 : k = m
  · rw [if_neg h3, if_neg h2, if_neg h1, if_pos h0]; exact nar_nar _
  · rw [if_neg h3, if_neg h2, if_neg h1, if_neg h0]
    exact h k (by omega)
theorem fdC_ne (σ : St) (T : Nat → Int32) (v : Int32) {c : Nat} (h1 : c ≠ 1) (h0 : c ≠ 0) : (fdC σ T v).1 c = σ.1 c := by
  unfold fdC
  dsimp only
  split
  · exact absurd rfl h1
  · exact absurd rfl h0
  · rfl
theorem p_feed : op_feed Inv := by
  intro σ τ a b c d e hI
  have ho := hI.2.2.2.2.1.2.1
  have eo : σ.1 0 11 = τ.1 0 29 := hI.2.2.2.2.1.1
  have ht := hI.2.2.2.2.1.2.2.2.2
  have z20 : (20 : Int32).toInt = 20 := by decide
  have z800 : (800 : Int32).toInt = 800 := by decide
  have ho1 := ho.1
  have ho2 := ho.2
  have e20 : (τ.1 0 29 + 20).toInt = (τ.1 0 29).toInt + 20 := by
    rw [i32_add (by rw [z20]; omega) (by rw [z20]; omega), z20]
  by_cases h : (τ.1 0 29).toInt + 20 ≤ 800
  · have hc : τ.1 0 29 + 20 ≤ 800 := by rw [le_i, e20, z800]; exact h
    obtain ⟨m, em⟩ : ∃ m : Nat, m = (τ.1 0 29).toInt.toNat := ⟨_, rfl⟩
    have hm : τ.1 0 29 = nI m := by rw [em]; exact nI_mk ho.1
    have hm2 : m + 20 ≤ 800 := by omega
    have hσ : fdC σ (σ.1 1) (nI m) = σ := by rw [← hm, ← eo]; exact fdC_self σ
    have hτ : fdM τ (τ.1 13) (nI m) = τ := by rw [← hm]; exact fdM_self τ
    have h1 := putC σ (σ.1 1) m a (by omega)
    rw [hσ] at h1
    have g1 := putM τ (τ.1 13) m a (by omega)
    rw [hτ] at g1
    refine ⟨fdC σ (w4 (w4 (w4 (w4 (w4 (σ.1 1) m a) (m + 4) b) (m + 4 + 4) c) (m + 4 + 4 + 4) d) (m + 4 + 4 + 4 + 4) e) (nI (m + 4 + 4 + 4 + 4 + 4)), fdM τ (w4 (w4 (w4 (w4 (w4 (τ.1 13) m a) (m + 4) b) (m + 4 + 4) c) (m + 4 + 4 + 4) d) (m + 4 + 4 + 4 + 4) e) (nI (m + 4 + 4 + 4 + 4 + 4)), nI (m + 4 + 4 + 4 + 4 + 4), ?_, ?_, ?_⟩
    · unfold fX8_feed
      rw [eo, if_pos hc, h1, cl_some, putC σ _ (m + 4) b (by omega), cl_some, putC σ _ (m + 4 + 4) c (by omega), cl_some, putC σ _ (m + 4 + 4 + 4) d (by omega), cl_some, putC σ _ (m + 4 + 4 + 4 + 4) e (by omega), cl_some]
      rfl
    · unfold fX9_feed
      rw [if_pos hc, g1, cl_some, putM τ _ (m + 4) b (by omega), cl_some, putM τ _ (m + 4 + 4) c (by omega), cl_some, putM τ _ (m + 4 + 4 + 4) d (by omega), cl_some, putM τ _ (m + 4 + 4 + 4 + 4) e (by omega), cl_some]
      rfl
    · have ev : (nI (m + 4 + 4 + 4 + 4 + 4)).toInt = ((m + 4 + 4 + 4 + 4 + 4 : Nat) : Int) := nI_toInt (by omega)
      refine ⟨hI.1, hI.2.1, iM_congr (σ := σ) (τ := τ) (fun c h1 h2 => fdC_ne _ _ _ (by omega) (by omega)) rfl rfl rfl rfl rfl rfl hI.2.2.1, hI.2.2.2.1, ⟨rfl, ⟨?_, ?_⟩, hI.2.2.2.2.1.2.2.1, hI.2.2.2.2.1.2.2.2.1, fun k hk => ?_⟩, hI.2.2.2.2.2⟩
      · show 0 ≤ (nI (m + 4 + 4 + 4 + 4 + 4)).toInt
        omega
      · show (nI (m + 4 + 4 + 4 + 4 + 4)).toInt ≤ 800
        omega
      · have hk2 : (k : Int) < (nI (m + 4 + 4 + 4 + 4 + 4)).toInt := hk
        have ht2 : ∀ k : Nat, k < m → σ.1 1 k = τ.1 13 k := fun k hk => (ht k (by omega)).1
        have ht3 : ∀ k : Nat, k < m → vp_nar .byte (τ.1 13 k) = τ.1 13 k := fun k hk => (ht k (by omega)).2
        exact ⟨w4_eq e (w4_eq d (w4_eq c (w4_eq b (w4_eq a ht2)))) k (by omega), w4_nar e (w4_nar d (w4_nar c (w4_nar b (w4_nar a ht3)))) k (by omega)⟩
  · have hc : ¬ τ.1 0 29 + 20 ≤ 800 := by rw [le_i, e20, z800]; exact h
    refine ⟨σ, τ, -1, ?_, ?_, hI⟩
    · unfold fX8_feed
      rw [eo, if_neg hc]
    · unfold fX9_feed
      rw [if_neg hc]
