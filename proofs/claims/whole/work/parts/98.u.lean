/-! street: the text read on both sides -/
theorem aD_sc : ∀ c k : Nat, aD c k = true → scM c k = true := by
  intro c k h
  cases e0 : Nat.beq c 0 with
  | true =>
    have c0 := Nat.eq_of_beq_eq_true e0
    subst c0
    unfold aD aPs at h
    have e7 : (Nat.ble 7 0 && Nat.ble 0 12) = false := rfl
    rw [e7, Bool.or_false, Bool.or_eq_true, Bool.and_eq_true, Bool.and_eq_true, Bool.or_eq_true, Bool.or_eq_true, Bool.and_eq_true] at h
    have : k = 31 ∨ k = 35 ∨ k = 36 ∨ (15 ≤ k ∧ k ≤ 22) := by
      rcases h with ⟨_, (z | z) | z⟩ | ⟨_, z1, z2⟩
      · exact Or.inl (Nat.eq_of_beq_eq_true z)
      · exact Or.inr (Or.inl (Nat.eq_of_beq_eq_true z))
      · exact Or.inr (Or.inr (Or.inl (Nat.eq_of_beq_eq_true z)))
      · exact Or.inr (Or.inr (Or.inr ⟨Nat.le_of_ble_eq_true z1, Nat.le_of_ble_eq_true z2⟩))
    have : k = 31 ∨ k = 35 ∨ k = 36 ∨ k = 15 ∨ k = 16 ∨ k = 17 ∨ k = 18 ∨ k = 19 ∨ k = 20 ∨ k = 21 ∨ k = 22 := by omega
    rcases this with z | z | z | z | z | z | z | z | z | z | z <;> subst z <;> rfl
  | false =>
    unfold aD aPs at h
    rw [e0, Bool.false_and, Bool.false_and, Bool.false_or, Bool.false_or, Bool.and_eq_true] at h
    have h1 := Nat.le_of_ble_eq_true h.1
    have h2 := Nat.le_of_ble_eq_true h.2
    have : c = 7 ∨ c = 8 ∨ c = 9 ∨ c = 10 ∨ c = 11 ∨ c = 12 := by omega
    rcases this with z | z | z | z | z | z <;> subst z <;> rfl
def a14 (c _k : Nat) : Bool := Nat.beq c 14
theorem a14_sc : ∀ c k : Nat, a14 c k = true → scM c k = true := by
  intro c k h
  have := Nat.eq_of_beq_eq_true h
  subst this
  rfl
theorem core_sc (y : St) {k : Nat} (x : Int32) (hk : scM 0 k = true) : core (sI y 0 k x) = core y := core_frm (frm_sI (a := fun c j => Nat.beq c 0 && Nat.beq j k) (b := noL) y x (by
  show (Nat.beq 0 0 && Nat.beq k k) = true
  rw [Nat.beq_refl k]
  rfl)) (fun c j h => by
  rw [Bool.and_eq_true] at h
  have h1 := Nat.eq_of_beq_eq_true h.1
  have h2 := Nat.eq_of_beq_eq_true h.2
  subst h1 h2
  exact hk)
theorem emptyC (σ : St) : ∃ σ', fX6_empty_i10 σ = some (σ', ()) ∧ frm (mk 10 18) mDL σ σ' ∧ σ'.1 10 0 = 0 ∧ σ'.1 10 1 = 0 ∧ σ'.1 10 2 = 4 ∧ σ'.1 10 3 = 5 ∧ σ'.1 10 4 = 5 ∧ σ'.1 10 5 = 0 ∧ σ'.1 10 6 = 0 ∧ σ'.1 10 7 = 0 := by
  unfold fX6_empty_i10
  rw [bnd_eq, bnd_eq, bnd_eq, bnd_eq, bnd_eq, bnd_eq, bnd_eq, bnd_eq]
  exact ⟨_, rfl, frm_trans (frm_sI _ _ rfl) (frm_trans (frm_sI _ _ rfl) (frm_trans (frm_sI _ _ rfl) (frm_trans (frm_sI _ _ rfl) (frm_trans (frm_sI _ _ rfl) (frm_trans (frm_sI _ _ rfl) (frm_trans (frm_sI _ _ rfl) (frm_sI _ _ rfl))))))), rfl, rfl, rfl, rfl, rfl, rfl, rfl, rfl⟩
theorem copyTextM {τ : St} {T : Nat → Int32} {N : Nat} (hN : N ≤ 800) (hT : ∀ k : Nat, k < N → vp_nar .byte (τ.1 13 k) = T k) : ∃ τ', (∀ k : St → Int32 → Option (St × Int32), fX9_reads_L2 (nI N) k FU τ 0 = k τ' (nI N)) ∧ frm a14 noL τ τ' ∧ ∀ k : Nat, k < N → τ'.1 14 k = T k := by
  obtain ⟨x, hx, e⟩ := loopK (S := St) (fun (k : St → Int32 → Option (St × Int32)) n x i => fX9_reads_L2 (nI N) k n x (nI i)) (fun k x => k x (nI N)) N (fun i x => frm a14 noL τ x ∧ ∀ k : Nat, k < i → x.1 14 k = T k) (fun k n x hp => by
      rw [fX9_reads_L2, if_pos (by rw [le_i]; omega)]) (fun n i x hi hp => by
      refine ⟨sI x 14 i (T i), ⟨frm_trans hp.1 (frm_sI _ _ rfl), fun k hk => ?_⟩, fun k => ?_⟩
      · rw [sI_at]
        by_cases w : k = i
        · rw [if_pos w, w]
        · rw [if_neg w]; exact hp.2 k (by omega)
      · rw [fX9_reads_L2, if_neg (by rw [le_i, nI_toInt (by omega), nI_toInt (by omega)]; omega), chk_t (inb_nI (by omega) (by decide)), chk_t (inb_nI (by omega) (by decide)), ix_nI (m := i) (by omega), hp.1.1 13 i rfl, hT i hi, bnd_eq, bnd_eq, nI_succ]
        all_goals rfl) FU 0 τ (by omega) (by have : FU = 100000 := rfl; omega) ⟨frm_refl _ _ _, fun k hk => absurd hk (by omega)⟩
  exact ⟨x, e, hx.1, hx.2⟩
theorem readBoth {σ τ : St} {T : Nat → Int32} {N : Nat} (hN : N ≤ 800) (h1 : ∀ k : Nat, k < N → σ.1 1 k = T k) (h13 : ∀ k : Nat, k < N → vp_nar .byte (τ.1 13 k) = T k) : (∃ (σ' τ' : St) (q : Nat), fX3_read σ (nI N) = some (σ', nI q) ∧ fX9_reads τ (nI N) = some (τ', 0) ∧ frm (mk 10 18) mDL σ σ' ∧ core τ' = core (sI (sI τ 0 29 0) 0 32 (nI q)) ∧ q ≤ 800) ∨ (∃ (σ' τ' : St) (n m t : Nat), fX3_read σ (nI N) = some (σ', -1) ∧ fX9_reads τ (nI N) = some (τ', 1) ∧ frm (mk 10 18) mDL σ σ' ∧ core τ' = core (sI (sI τ 0 29 0) 0 32 (-1)) ∧ DR T σ' τ' n m t ∧ 1 ≤ n) := by
  have z800 : (800 : Int32).toInt = 800 := by decide
  -- the class, to its first token
  obtain ⟨σ1, a1, a2, i0, i1, i2, i3, i4, i5, i6, i7⟩ := emptyC σ
  have f5 : frm (mk 10 18) mDL σ (sI (sI σ1 18 2 (nI N)) 18 3 0) := frm_trans a2 (frm_trans (frm_sI _ _ rfl) (frm_sI _ _ rfl))
  have t5 : ∀ k : Nat, k < N → (sI (sI σ1 18 2 (nI N)) 18 3 0).1 1 k = T k := fun k hk => (f5.1 1 k rfl).trans (h1 k hk)
  obtain ⟨σ6, b1, b2, b3⟩ := advC hN (Nat.zero_le N) t5 rfl (show (sI (sI σ1 18 2 (nI N)) 18 3 0).1 18 3 = nI 0 from rfl)
  have f6 : frm (mk 10 18) mDL σ σ6 := frm_trans f5 (frCd b2)
  have hC : ∀ K : St → Int32 → Option (St × Int32), K = (fun (σ_13 : St) (x2_14 : Int32) => (if (σ_13.1 10 0) ≤ 0 then some (σ_13, (σ_13.1 18 2)) else some (σ_13, (-1 : Int32)))) → fX3_read σ (nI N) = fX3_read_L31 K FU σ6 (nI 0) := fun K hK => by
    unfold fX3_read
    rw [a1, cl_some, if_neg (show ¬ (800 : Int32) < nI N by rw [lt_i, z800, nI_toInt (by omega)]; omega), bnd_eq, bnd_eq, bnd_eq, b1, cl_some, bnd_eq, hK]
    rfl
  -- the model
  obtain ⟨τ1, c1, c2, c3⟩ := copyTextM (τ := τ) (T := T) hN h13
  have k1 : core τ1 = core τ := core_frm c2 a14_sc
  have k2 : core (sI τ1 0 30 (nI N)) = core τ := (core_sc τ1 _ rfl).trans k1
  have k3 : core (sI (sI τ1 0 30 (nI N)) 0 29 0) = core (sI τ 0 29 0) := core_sI k2 0 29 0
  obtain ⟨y, hy⟩ : ∃ y : St, y = sI (sI (sI (sI (sI (sI (sI (sI (sI (sI (sI τ1 0 30 (nI N)) 0 29 0) 0 31 0) 0 15 0) 0 16 0) 0 17 4) 0 18 5) 0 19 5) 0 20 0) 0 21 0) 0 22 0 := ⟨_, rfl⟩
  have ky : core y = core (sI τ 0 29 0) := by
    rw [hy, core_sc _ _ rfl, core_sc _ _ rfl, core_sc _ _ rfl, core_sc _ _ rfl, core_sc _ _ rfl, core_sc _ _ rfl, core_sc _ _ rfl, core_sc _ _ rfl, core_sc _ _ rfl]
    exact k3
  have y30 : y.1 0 30 = nI N := by rw [hy]; rfl
  have y31 : y.1 0 31 = nI 0 := by rw [hy]; rfl
  have yT : ∀ k : Nat, k < N → y.1 14 k = T k := fun k hk => by rw [hy]; exact c3 k hk
  have y15 : y.1 0 15 = 0 ∧ y.1 0 16 = 0 ∧ y.1 0 17 = 4 ∧ y.1 0 18 = 5 ∧ y.1 0 19 = 5 ∧ y.1 0 20 = 0 ∧ y.1 0 21 = 0 ∧ y.1 0 22 = 0 := by rw [hy]; exact ⟨rfl, rfl, rfl, rfl, rfl, rfl, rfl, rfl⟩
  obtain ⟨τ3, d1, d2, d3, _⟩ := blanksM hN (Nat.zero_le N) yT y30 y31
  have k4 : core τ3 = core (sI τ 0 29 0) := (core_frm (frMd d2) aD_sc).trans ky
  have lx : LX T N σ6 τ3 (skp T N 0) (skp T N 0) := ⟨b3, (d2.1 0 30 rfl).trans y30, d3, skp_le (Nat.zero_le N), skp_skp T N 0, fun k hk => (f6.1 1 k rfl).trans (h1 k hk), fun k hk => (d2.1 14 k rfl).trans (yT k hk)⟩
  have dr0 : DR T (sI (sI σ1 18 2 (nI N)) 18 3 0) y 0 0 0 := by
    refine ⟨⟨i0, y15.1, by omega⟩, ⟨i1, y15.2.1, by omega⟩, ⟨?_, ?_⟩, ⟨?_, ?_⟩, ⟨?_, ?_⟩, ⟨?_, ?_⟩, ⟨0, i6, y15.2.2.2.2.2.2.1, by decide⟩, ⟨i7, y15.2.2.2.2.2.2.2, by omega⟩, fun b hb => absurd hb (by omega), fun i hi => absurd hi (by omega)⟩
    · rw [y15.2.2.1]; exact i2
    · rw [y15.2.2.1]; constructor <;> decide
    · rw [y15.2.2.2.1]; exact i3
    · rw [y15.2.2.2.1]; constructor <;> decide
    · rw [y15.2.2.2.2.1]; exact i4
    · rw [y15.2.2.2.2.1]; constructor <;> decide
    · rw [y15.2.2.2.2.2.1]; exact i5
    · rw [y15.2.2.2.2.2.1]; constructor <;> decide
  have dr : DR T σ6 τ3 0 0 0 := DR_fr b2 d2 dr0
  obtain ⟨kx, hkx⟩ : ∃ kx : St → Int32 → Option (St × Int32), kx = (fun (σ_31 : St) (x2_32 : Int32) => (jp (fun (σ_33 : St)  (t_34 : Int32) => bnd t_34 fun (x2_35 : Int32) => (jp (fun (σ_36 : St)  (t_37 : Int32) => bnd (sI σ_36 0 32 t_37) fun (σ_38 : St) => chk (isB x2_35) (some (σ_38, x2_35))) fun j186 => (if x2_35 = 0 then j186 σ_33 (σ_33.1 0 31) else j186 σ_33 (-1 : Int32)))) fun j172 => jp (fun (σ_39 : St)   => j172 σ_39 (0 : Int32)) fun j171 => (if x2_32 = 0 then j171 σ_31 else (if (σ_31.1 0 15) ≤ 0 then j171 σ_31 else j172 σ_31 (1 : Int32))))) := ⟨_, rfl⟩
  have hMr : fX9_reads τ (nI N) = fX9_reads_L86 kx FU τ3 1 := by
    unfold fX9_reads
    rw [bnd_eq, c1, bnd_eq, bnd_eq, bnd_eq, bnd_eq, bnd_eq, bnd_eq, bnd_eq, bnd_eq, bnd_eq, bnd_eq, bnd_eq, bnd_eq, ← hy, d1, cl_some, hkx]
  have kx0 : ∀ x : St, kx x 0 = some (sI x 0 32 (x.1 0 31), 0) := fun x => by rw [hkx]; rfl
  have kx1 : ∀ x : St, kx x 1 = if x.1 0 15 ≤ 0 then some (sI x 0 32 (x.1 0 31), 0) else some (sI x 0 32 (-1), 1) := fun x => by rw [hkx]; rfl
  rcases readLoop hN (fun (σ_13 : St) (x2_14 : Int32) => (if (σ_13.1 10 0) ≤ 0 then some (σ_13, (σ_13.1 18 2)) else some (σ_13, (-1 : Int32)))) kx 25 0 σ6 τ3 (skp T N 0) 0 0 (by omega) lx dr FU FU (by have : FU = 100000 := rfl; omega) (by have : FU = 100000 := rfl; omega) with ⟨σ7, τ7, q, r1, r2, r3, r4, r5, r6⟩ | ⟨σ7, τ7, n, m, t, r1, r2, r3, r4, r5, r6, r7⟩
  · have k7 : core τ7 = core (sI τ 0 29 0) := (core_frm r4 aD_sc).trans k4
    refine Or.inl ⟨σ7, sI τ7 0 32 (nI q), q, (hC _ rfl).trans r1, ?_, frm_trans f6 r3, core_sI k7 0 32 (nI q), by omega⟩
    rw [hMr, r2, kx0, r6]
  · have k7 : core τ7 = core (sI τ 0 29 0) := (core_frm r4 aD_sc).trans k4
    have n4 := r7.1.2.2
    have hC2 := (hC _ rfl).trans r1
    have hM2 := (hMr.trans r2).trans (kx1 τ7)
    rw [r7.1.2.1] at hM2
    rw [r7.1.1] at hC2
    by_cases n0 : n = 0
    · rw [if_pos (show nI n ≤ 0 by rw [n0]; decide), r6] at hC2
      rw [if_pos (show nI n ≤ 0 by rw [n0]; decide), r5] at hM2
      exact Or.inl ⟨σ7, sI τ7 0 32 (nI N), N, hC2, hM2, frm_trans f6 r3, core_sI k7 0 32 (nI N), hN⟩
    · rw [if_neg (show ¬ nI n ≤ 0 by rw [le_i, z_0, nI_toInt (by omega)]; omega)] at hC2 hM2
      exact Or.inr ⟨σ7, sI τ7 0 32 (-1), n, m, t, hC2, hM2, frm_trans f6 r3, core_sI k7 0 32 (-1), r7, by omega⟩
theorem fill23 (σ : St) : ∃ σ', fJ7_fill_53178_i23 σ 0 = some (σ', ()) ∧ frm (mk 23 23) noL σ σ' ∧ ∀ i : Nat, i < 4 → σ'.1 23 i = 0 := by
  unfold fJ7_fill_53178_i23
  rw [bnd_eq, bnd_eq]
  obtain ⟨σ1, hp1, e1⟩ := loopG (S := St) (fun n x m => fJ7_fill_53178_i23_L5 0 4 (fun (σ_5 : St) (_ : Int32) => some (σ_5, ())) n x (nI m)) 4 (fun m x => frm (mk 23 23) noL σ x ∧ ∀ i : Nat, i < m → x.1 23 i = 0) (fun x => some (x, ())) (fun n x hp => by
      show fJ7_fill_53178_i23_L5 _ _ _ (n + 1) x _ = _
      rw [fJ7_fill_53178_i23_L5, if_pos (by decide)]) (fun n m x hm hp => by
      show ∃ x', _ ∧ fJ7_fill_53178_i23_L5 _ _ _ (n + 1) x _ = _
      rw [fJ7_fill_53178_i23_L5, if_neg (by rw [le_i, nI_toInt (by omega), show (4 : Int32).toInt = 4 by decide]; omega), chk_t (inb_nI (by omega) (by decide)), ix_nI (m := m) (by omega)]
      refine ⟨sI x 23 m 0, ⟨frm_trans hp.1 (frm_sI _ _ rfl), fun i hi => ?_⟩, ?_⟩
      · rw [sI_at]
        by_cases e : i = m
        · rw [if_pos e]
        · rw [if_neg e]; exact hp.2 i (by omega)
      · rw [nI_succ]; all_goals rfl) FU 0 σ (by omega) (by have : FU = 100000 := rfl; omega) ⟨frm_refl _ _ _, fun i hi => absurd hi (by omega)⟩
  exact ⟨σ1, e1, hp1.1, hp1.2⟩
theorem fill24 (σ : St) : ∃ σ', fJ7_fill_53178_i24 σ 0 = some (σ', ()) ∧ frm (mk 24 24) noL σ σ' ∧ ∀ i : Nat, i < 32 → σ'.1 24 i = 0 := by
  unfold fJ7_fill_53178_i24
  rw [bnd_eq, bnd_eq]
  obtain ⟨σ1, hp1, e1⟩ := loopG (S := St) (fun n x m => fJ7_fill_53178_i24_L5 0 32 (fun (σ_5 : St) (_ : Int32) => some (σ_5, ())) n x (nI m)) 32 (fun m x => frm (mk 24 24) noL σ x ∧ ∀ i : Nat, i < m → x.1 24 i = 0) (fun x => some (x, ())) (fun n x hp => by
      show fJ7_fill_53178_i24_L5 _ _ _ (n + 1) x _ = _
      rw [fJ7_fill_53178_i24_L5, if_pos (by decide)]) (fun n m x hm hp => by
      show ∃ x', _ ∧ fJ7_fill_53178_i24_L5 _ _ _ (n + 1) x _ = _
      rw [fJ7_fill_53178_i24_L5, if_neg (by rw [le_i, nI_toInt (by omega), show (32 : Int32).toInt = 32 by decide]; omega), chk_t (inb_nI (by omega) (by decide)), ix_nI (m := m) (by omega)]
      refine ⟨sI x 24 m 0, ⟨frm_trans hp.1 (frm_sI _ _ rfl), fun i hi => ?_⟩, ?_⟩
      · rw [sI_at]
        by_cases e : i = m
        · rw [if_pos e]
        · rw [if_neg e]; exact hp.2 i (by omega)
      · rw [nI_succ]; all_goals rfl) FU 0 σ (by omega) (by have : FU = 100000 := rfl; omega) ⟨frm_refl _ _ _, fun i hi => absurd hi (by omega)⟩
  exact ⟨σ1, e1, hp1.1, hp1.2⟩
