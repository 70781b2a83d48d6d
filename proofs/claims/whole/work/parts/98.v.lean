/-! street: taken -/
theorem copyC (σ : St) : ∃ σ', fX6_copyFrom_i10 σ = some (σ', ()) ∧ (σ'.1 2 0 = σ.1 10 0 ∧ σ'.1 2 1 = σ.1 10 1 ∧ σ'.1 2 2 = σ.1 10 2 ∧ σ'.1 2 3 = σ.1 10 3 ∧ σ'.1 2 4 = σ.1 10 4 ∧ σ'.1 2 5 = σ.1 10 5 ∧ σ'.1 2 6 = σ.1 10 6 ∧ σ'.1 2 7 = σ.1 10 7) ∧ (∀ k : Nat, k < 4 → σ'.1 4 k = σ.1 12 k) ∧ (∀ i : Nat, i < 12 → σ'.1 5 i = σ.1 13 i ∧ σ'.1 6 i = σ.1 14 i ∧ σ'.1 7 i = σ.1 15 i ∧ σ'.1 8 i = σ.1 16 i ∧ σ'.1 9 i = σ.1 15 i) ∧ ∀ c k : Nat, (c < 2 ∨ 9 < c) → σ'.1 c k = σ.1 c k := by
  have i4 : ix (4 : Int32) = 4 := by decide
  have i12 : ix (12 : Int32) = 12 := by decide
  unfold fX6_copyFrom_i10 fX6_shutDoors
  rw [bnd_eq, bnd_eq, bnd_eq, bnd_eq, bnd_eq, bnd_eq, bnd_eq, bnd_eq, bnd_eq, bnd_eq, bnd_eq, bnd_eq, bnd_eq, bnd_eq, cl_some]
  -- the eight numbers
  obtain ⟨x, hx⟩ : ∃ x : St, x = sI (sI (sI (sI (sI (sI (sI (sI σ 2 0 (σ.1 10 0)) 2 1 (σ.1 10 1)) 2 2 (σ.1 10 2)) 2 3 (σ.1 10 3)) 2 4 (σ.1 10 4)) 2 5 (σ.1 10 5)) 2 6 (σ.1 10 6)) 2 7 (σ.1 10 7) := ⟨_, rfl⟩
  have xv : x.1 2 0 = σ.1 10 0 ∧ x.1 2 1 = σ.1 10 1 ∧ x.1 2 2 = σ.1 10 2 ∧ x.1 2 3 = σ.1 10 3 ∧ x.1 2 4 = σ.1 10 4 ∧ x.1 2 5 = σ.1 10 5 ∧ x.1 2 6 = σ.1 10 6 ∧ x.1 2 7 = σ.1 10 7 := by rw [hx]; exact ⟨rfl, rfl, rfl, rfl, rfl, rfl, rfl, rfl⟩
  have xe : ∀ c k : Nat, c ≠ 2 → x.1 c k = σ.1 c k := fun c k hc => by rw [hx, sI_ne hc, sI_ne hc, sI_ne hc, sI_ne hc, sI_ne hc, sI_ne hc, sI_ne hc, sI_ne hc]
  refine ⟨cpI (cpI (cpI (cpI (cpI (cpI x 12 4 0 0 4) 13 5 0 0 12) 14 6 0 0 12) 15 7 0 0 12) 16 8 0 0 12) 7 9 0 0 12, by rw [hx]; rfl, ?_, fun k hk => ?_, fun i hi => ⟨?_, ?_, ?_, ?_, ?_⟩, fun c k hc => ?_⟩
  · exact xv
  · rw [cpI_ne (by decide), cpI_ne (by decide), cpI_ne (by decide), cpI_ne (by decide), cpI_ne (by decide), cpI_at i4 hk]
    exact xe 12 k (by decide)
  · rw [cpI_ne (by decide), cpI_ne (by decide), cpI_ne (by decide), cpI_ne (by decide), cpI_at i12 hi, cpI_ne (by decide)]
    exact xe 13 i (by decide)
  · rw [cpI_ne (by decide), cpI_ne (by decide), cpI_ne (by decide), cpI_at i12 hi, cpI_ne (by decide), cpI_ne (by decide)]
    exact xe 14 i (by decide)
  · rw [cpI_ne (by decide), cpI_ne (by decide), cpI_at i12 hi, cpI_ne (by decide), cpI_ne (by decide), cpI_ne (by decide)]
    exact xe 15 i (by decide)
  · rw [cpI_ne (by decide), cpI_at i12 hi, cpI_ne (by decide), cpI_ne (by decide), cpI_ne (by decide), cpI_ne (by decide)]
    exact xe 16 i (by decide)
  · rw [cpI_at i12 hi, cpI_ne (by decide), cpI_at i12 hi, cpI_ne (by decide), cpI_ne (by decide), cpI_ne (by decide)]
    exact xe 15 i (by decide)
  · rw [cpI_ne (by omega), cpI_ne (by omega), cpI_ne (by omega), cpI_ne (by omega), cpI_ne (by omega), cpI_ne (by omega)]
    exact xe c k (by omega)
theorem beginStC (σ : St) : ∃ σ', fX5_begin_i2 σ = some (σ', ()) ∧ (∀ i : Nat, i < 4 → σ'.1 23 i = 0) ∧ (∀ i : Nat, i < 32 → σ'.1 24 i = 0) ∧ (∀ k : Nat, k < 4 → σ'.1 25 k = σ.1 4 k) ∧ σ'.1 22 3 = 0 ∧ σ'.1 22 4 = -1 ∧ ∀ c k : Nat, (c < 22 ∨ 25 < c) → σ'.1 c k = σ.1 c k := by
  have i4 : ix (4 : Int32) = 4 := by decide
  obtain ⟨σ1, a1, a2, a3⟩ := fill23 σ
  obtain ⟨σ2, b1, b2, b3⟩ := fill24 σ1
  unfold fX5_begin_i2
  rw [a1, cl_some, b1, cl_some, bnd_eq, bnd_eq, bnd_eq]
  refine ⟨sI (sI (cpI σ2 4 25 0 0 4) 22 3 0) 22 4 (-1), rfl, fun i hi => ?_, fun i hi => ?_, fun k hk => ?_, rfl, rfl, fun c k hc => ?_⟩
  · rw [sI_ne (by decide), sI_ne (by decide), cpI_ne (by decide), b2.1 23 i rfl]
    exact a3 i hi
  · rw [sI_ne (by decide), sI_ne (by decide), cpI_ne (by decide)]
    exact b3 i hi
  · rw [sI_ne (by decide), sI_ne (by decide), cpI_at i4 hk, b2.1 4 k rfl, a2.1 4 k rfl]
  · rw [sI_ne (by omega), sI_ne (by omega), cpI_ne (by omega), b2.1 c k (mk_f.mpr (by omega)), a2.1 c k (mk_f.mpr (by omega))]
theorem copyM {τ : St} {n m : Nat} (hn : n ≤ 4) (hm : m ≤ 12) (h0 : τ.1 0 0 = nI n) (h1 : τ.1 0 1 = nI m) : ∃ τ', (∀ k : St → Int32 → Option (St × Int32), fX9_street_L91 (fun (σ_18 : St) (x2_19 : Int32) => bnd (0 : Int32) fun (x2_20 : Int32) => fX9_street_L138 k FU σ_18 x2_20) FU τ 0 = k τ' (nI m)) ∧ (∀ b : Nat, b < n → τ'.1 2 b = τ.1 8 b ∧ τ'.1 15 b = 0) ∧ (∀ i : Nat, i < m → τ'.1 3 i = τ.1 9 i ∧ τ'.1 4 i = τ.1 10 i ∧ τ'.1 5 i = τ.1 11 i ∧ τ'.1 6 i = τ.1 12 i) ∧ ∀ c k : Nat, c ≠ 2 → c ≠ 15 → (c < 3 ∨ 6 < c) → τ'.1 c k = τ.1 c k := by
  obtain ⟨x, hx, e⟩ := loopK (S := St) (fun (k : St → Int32 → Option (St × Int32)) f x i => fX9_street_L91 k f x (nI i)) (fun k x => k x (nI n)) n (fun i x => (∀ b : Nat, b < i → x.1 2 b = τ.1 8 b ∧ x.1 15 b = 0) ∧ ∀ c k : Nat, c ≠ 2 → c ≠ 15 → x.1 c k = τ.1 c k) (fun k f x hp => by
      rw [fX9_street_L91, hp.2 0 0 (by decide) (by decide), h0, if_pos (by rw [le_i]; omega)]) (fun f i x hi hp => by
      refine ⟨sI (sI (sL x 1 i (x.2 7 i)) 2 i (τ.1 8 i)) 15 i 0, ⟨fun b hb => ?_, fun c k hc1 hc2 => ?_⟩, fun k => ?_⟩
      · rw [sI_ne (by decide), sI_at, sI_at, sI_ne (by decide)]
        by_cases w : b = i
        · rw [if_pos w, if_pos w, w]; exact ⟨rfl, rfl⟩
        · rw [if_neg w, if_neg w]; exact hp.1 b (by omega)
      · rw [sI_ne hc2, sI_ne hc1]; exact hp.2 c k hc1 hc2
      · rw [fX9_street_L91, hp.2 0 0 (by decide) (by decide), h0, if_neg (by rw [le_i, nI_toInt (by omega), nI_toInt (by omega)]; omega), chk_t (inb_nI (by omega) (by decide)), chk_t (inb_nI (by omega) (by decide)), ix_nI (m := i) (by omega), bnd_eq, chk_t (inb_nI (by omega) (by decide)), chk_t (inb_nI (by omega) (by decide)), show (sL x 1 i (x.2 7 i)).1 8 i = τ.1 8 i from hp.2 8 i (by decide) (by decide), bnd_eq, chk_t (inb_nI (by omega) (by decide)), bnd_eq, bnd_eq, nI_succ]
        all_goals rfl) FU 0 τ (by omega) (by have : FU = 100000 := rfl; omega) ⟨fun b hb => absurd hb (by omega), fun _ _ _ _ => rfl⟩
  have e : ∀ k : St → Int32 → Option (St × Int32), fX9_street_L91 k FU τ 0 = k x (nI n) := e
  obtain ⟨y, hy, e2⟩ := loopK (S := St) (fun (k : St → Int32 → Option (St × Int32)) f y i => fX9_street_L138 k f y (nI i)) (fun k y => k y (nI m)) m (fun i y => (∀ j : Nat, j < i → y.1 3 j = τ.1 9 j ∧ y.1 4 j = τ.1 10 j ∧ y.1 5 j = τ.1 11 j ∧ y.1 6 j = τ.1 12 j) ∧ ∀ c k : Nat, (c < 3 ∨ 6 < c) → y.1 c k = x.1 c k) (fun k f y hp => by
      rw [fX9_street_L138, hp.2 0 1 (by omega), hx.2 0 1 (by decide) (by decide), h1, if_pos (by rw [le_i]; omega)]) (fun f i y hi hp => by
      refine ⟨sI (sI (sI (sI y 3 i (τ.1 9 i)) 4 i (τ.1 10 i)) 5 i (τ.1 11 i)) 6 i (τ.1 12 i), ⟨fun j hj => ?_, fun c k hc => ?_⟩, fun k => ?_⟩
      · have a3 : (sI (sI (sI (sI y 3 i (τ.1 9 i)) 4 i (τ.1 10 i)) 5 i (τ.1 11 i)) 6 i (τ.1 12 i)).1 3 j = if j = i then τ.1 9 i else y.1 3 j := by rw [sI_ne (by decide), sI_ne (by decide), sI_ne (by decide), sI_at]
        have a4 : (sI (sI (sI (sI y 3 i (τ.1 9 i)) 4 i (τ.1 10 i)) 5 i (τ.1 11 i)) 6 i (τ.1 12 i)).1 4 j = if j = i then τ.1 10 i else y.1 4 j := by rw [sI_ne (by decide), sI_ne (by decide), sI_at, sI_ne (by decide)]
        have a5 : (sI (sI (sI (sI y 3 i (τ.1 9 i)) 4 i (τ.1 10 i)) 5 i (τ.1 11 i)) 6 i (τ.1 12 i)).1 5 j = if j = i then τ.1 11 i else y.1 5 j := by rw [sI_ne (by decide), sI_at, sI_ne (by decide), sI_ne (by decide)]
        have a6 : (sI (sI (sI (sI y 3 i (τ.1 9 i)) 4 i (τ.1 10 i)) 5 i (τ.1 11 i)) 6 i (τ.1 12 i)).1 6 j = if j = i then τ.1 12 i else y.1 6 j := by rw [sI_at, sI_ne (by decide), sI_ne (by decide), sI_ne (by decide)]
        rw [a3, a4, a5, a6]
        by_cases w : j = i
        · rw [if_pos w, if_pos w, if_pos w, if_pos w, w]; exact ⟨rfl, rfl, rfl, rfl⟩
        · rw [if_neg w, if_neg w, if_neg w, if_neg w]; exact hp.1 j (by omega)
      · rw [sI_ne (by omega), sI_ne (by omega), sI_ne (by omega), sI_ne (by omega)]; exact hp.2 c k hc
      · have g : ∀ c : Nat, 9 ≤ c → c ≤ 12 → y.1 c i = τ.1 c i := fun c c1 c2 => (hp.2 c i (by omega)).trans (hx.2 c i (by omega) (by omega))
        rw [fX9_street_L138, hp.2 0 1 (by omega), hx.2 0 1 (by decide) (by decide), h1, if_neg (by rw [le_i, nI_toInt (by omega), nI_toInt (by omega)]; omega), chk_t (inb_nI (by omega) (by decide)), chk_t (inb_nI (by omega) (by decide)), ix_nI (m := i) (by omega), g 9 (by omega) (by omega), bnd_eq, chk_t (inb_nI (by omega) (by decide)), chk_t (inb_nI (by omega) (by decide)), show (sI y 3 i (τ.1 9 i)).1 10 i = τ.1 10 i from g 10 (by omega) (by omega), bnd_eq, chk_t (inb_nI (by omega) (by decide)), chk_t (inb_nI (by omega) (by decide)), show (sI (sI y 3 i (τ.1 9 i)) 4 i (τ.1 10 i)).1 11 i = τ.1 11 i from g 11 (by omega) (by omega), bnd_eq, chk_t (inb_nI (by omega) (by decide)), chk_t (inb_nI (by omega) (by decide)), show (sI (sI (sI y 3 i (τ.1 9 i)) 4 i (τ.1 10 i)) 5 i (τ.1 11 i)).1 12 i = τ.1 12 i from g 12 (by omega) (by omega), bnd_eq, bnd_eq, nI_succ]
        all_goals rfl) FU 0 x (by omega) (by have : FU = 100000 := rfl; omega) ⟨fun b hb => absurd hb (by omega), fun _ _ _ => rfl⟩
  have e2 : ∀ k : St → Int32 → Option (St × Int32), fX9_street_L138 k FU x 0 = k y (nI m) := e2
  refine ⟨y, fun k => ?_, fun b hb => ?_, hy.1, fun c k c1 c2 c3 => (hy.2 c k c3).trans (hx.2 c k c1 c2)⟩
  · rw [e, bnd_eq, e2]
  · rw [hy.2 2 b (by omega), hy.2 15 b (by omega)]
    exact hx.1 b hb
theorem p_street : op_street Inv := by
  intro σ τ p hI
  have ho := hI.2.2.2.2.1.2.1
  have eo : σ.1 0 11 = τ.1 0 29 := hI.2.2.2.2.1.1
  have ht := hI.2.2.2.2.1.2.2.2.2
  have hR := hI.2.2.2.2.2
  have ho1 := ho.1
  have ho2 := ho.2
  unfold fX8_street fX9_street
  rw [isIn_eq, cl_some, z_0, eo]
  by_cases hp : 0 ≤ p.toInt ∧ p.toInt ≤ (τ.1 0 29).toInt
  case neg =>
    rw [if_neg hp, if_pos rfl]
    by_cases w0 : p < 0
    · rw [if_pos w0]; exact ⟨σ, τ, -2, rfl, rfl, hI⟩
    · rw [if_neg w0, if_neg (show ¬ p ≤ τ.1 0 29 by rw [lt_i, z_0] at w0; rw [le_i]; omega)]; exact ⟨σ, τ, -2, rfl, rfl, hI⟩
  rw [if_pos hp, if_neg one0, if_neg (show ¬ p < 0 by rw [lt_i, z_0]; omega), if_pos (show p ≤ τ.1 0 29 by rw [le_i]; omega), bnd_eq]
  have ep : p = nI p.toInt.toNat := nI_mk hp.1
  have hN : p.toInt.toNat ≤ 800 := by omega
  have hN2 : ((p.toInt.toNat : Nat) : Int) ≤ (τ.1 0 29).toInt := by omega
  clear hp
  generalize p.toInt.toNat = N at ep hN hN2
  subst ep
  have t1 : ∀ k : Nat, k < N → (sI σ 0 11 0).1 1 k = τ.1 13 k := fun k hk => (ht k (by omega)).1
  have t2 : ∀ k : Nat, k < N → vp_nar .byte (τ.1 13 k) = τ.1 13 k := fun k hk => (ht k (by omega)).2
  rcases readBoth hN t1 t2 with ⟨σ1, τ1, q, r1, r2, r3, r4, r5⟩ | ⟨σ1, τ1, n, m, t, r1, r2, r3, r4, r5, r6⟩
  · -- a fault
    rw [r1, r2, cl_some, cl_some, if_pos rfl, bnd_eq, if_neg (show ¬ (sI σ1 0 12 (nI q)).1 0 12 = -1 from nI_ne_m1 (by omega))]
    have hb : Inv (sI (sI σ 0 11 0) 0 12 (nI q)) (sI (sI τ 0 29 0) 0 32 (nI q)) := ⟨hI.1, hI.2.1, iM_congr (σ := σ) (τ := τ) (fun c h1 h2 => by rw [sI_ne (by omega), sI_ne (by omega)]) rfl rfl rfl rfl rfl rfl hI.2.2.1, hI.2.2.2.1, ⟨rfl, (show rg (0 : Int32) 0 800 by constructor <;> decide), rfl, hI.2.2.2.2.1.2.2.2.1, fun k hk => absurd (show (k : Int) < (0 : Int32).toInt from hk) (by rw [z_0]; omega)⟩, hR⟩
    refine ⟨sI σ1 0 12 (nI q), τ1, -1, rfl, rfl, Inv_fr (fun c k w => ?_) r4 hb⟩
    have e1 : σ1.1 c k = (sI σ 0 11 0).1 c k := r3.1 c k (by
      refine mk_f.mpr (fun z => ?_)
      have : scI c k = true := by
        have : c = 10 ∨ c = 11 ∨ c = 12 ∨ c = 13 ∨ c = 14 ∨ c = 15 ∨ c = 16 ∨ c = 17 ∨ c = 18 := by omega
        rcases this with u | u | u | u | u | u | u | u | u <;> subst u <;> rfl
      rw [this] at w; cases w)
    by_cases c0 : c = 0
    · subst c0
      rw [sI_at, sI_at, e1]
    · rw [sI_ne c0, sI_ne c0, e1]
  · -- taken
    rw [r1, r2, cl_some, cl_some, if_neg one0]
    obtain ⟨dN, dM, d2, d3, d4, d5, ⟨l, l1, l2, l3⟩, d7, dB, dS⟩ := r5
    have n4 := dN.2.2
    have m12 := dM.2.2
    -- the class
    obtain ⟨σ3, a1, a2, a3, a4, a5⟩ := copyC (sI σ1 0 12 (-1))
    obtain ⟨σ4, b1, b2, b3, b4, b5, b6, b7⟩ := beginStC σ3
    have fg : fX2_forget σ4 = some (sI σ4 19 0 0, ()) := rfl
    have fr4 : fX4_forget (sI σ4 19 0 0) = some (sI (sI σ4 19 0 0) 53 9 0, ()) := forget_eq
    -- what stays
    have keep : ∀ c k : Nat, (c < 2 ∨ 18 < c) → ¬ (22 ≤ c ∧ c ≤ 25) → c ≠ 0 → σ4.1 c k = σ.1 c k := fun c k h1 h2 h3 => by
      rw [b7 c k (by omega), a5 c k (by omega), sI_ne h3, r3.1 c k (mk_f.mpr (by omega)), sI_ne h3]
    have keep0 : ∀ k : Nat, k ≠ 11 → k ≠ 12 → σ4.1 0 k = σ.1 0 k := fun k h1 h2 => by
      rw [b7 0 k (by omega), a5 0 k (by omega), sI_at, if_neg h2, r3.1 0 k rfl, sI_at, if_neg h1]
    have k11 : σ4.1 0 11 = 0 := by
      rw [b7 0 11 (by omega), a5 0 11 (by omega), sI_at, if_neg (by decide), r3.1 0 11 rfl, sI_at, if_pos rfl]
    have k12 : σ4.1 0 12 = -1 := by
      rw [b7 0 12 (by omega), a5 0 12 (by omega), sI_at, if_pos rfl]
    have hC : (bnd (sI σ1 0 12 (-1 : Int32)) fun (σ_4 : St) => (if (σ_4.1 0 12) = (-1 : Int32) then cl (fX6_copyFrom_i10 σ_4 ) fun (σ_5 : St) (t_6 : Unit) => cl (fX5_begin_i2 σ_5 ) fun (σ_7 : St) (t_8 : Unit) => cl (fX2_forget σ_7 ) fun (σ_9 : St) (t_10 : Unit) => cl (fX4_forget σ_9 ) fun (σ_11 : St) (t_12 : Unit) => bnd (sI σ_11 0 14 (0 : Int32)) fun (σ_13 : St) => bnd (sI σ_13 0 13 ((σ_13.1 0 13) + (1 : Int32))) fun (σ_14 : St) => some (σ_14, (σ_14.1 2 0)) else some (σ_4, (-1 : Int32)))) = some (sI (sI (sI (sI σ4 19 0 0) 53 9 0) 0 14 0) 0 13 (σ.1 0 13 + 1), nI n) := by
      rw [bnd_eq, if_pos (show (sI σ1 0 12 (-1)).1 0 12 = -1 from rfl), a1, cl_some, b1, cl_some, fg, cl_some, fr4, cl_some, bnd_eq, show (sI (sI (sI σ4 19 0 0) 53 9 0) 0 14 0).1 0 13 = σ.1 0 13 from keep0 13 (by decide) (by decide), bnd_eq]
      have e20 : (sI (sI (sI (sI σ4 19 0 0) 53 9 0) 0 14 0) 0 13 (σ.1 0 13 + 1)).1 2 0 = nI n := by
        show σ4.1 2 0 = nI n
        rw [b7 2 0 (by omega), a2.1]
        exact dN.1
      rw [e20]
    rw [hC]
    -- the model
    obtain ⟨y, hy⟩ : ∃ y : St, y = sI (sI (sI (sI (sI (sI (sI (sI τ1 0 0 (τ1.1 0 15)) 0 1 (τ1.1 0 16)) 0 2 (τ1.1 0 17)) 0 3 (τ1.1 0 18)) 0 4 (τ1.1 0 19)) 0 5 (τ1.1 0 20)) 0 6 (τ1.1 0 21)) 0 7 (τ1.1 0 22) := ⟨_, rfl⟩
    have yv : y.1 0 0 = τ1.1 0 15 ∧ y.1 0 1 = τ1.1 0 16 ∧ y.1 0 2 = τ1.1 0 17 ∧ y.1 0 3 = τ1.1 0 18 ∧ y.1 0 4 = τ1.1 0 19 ∧ y.1 0 5 = τ1.1 0 20 ∧ y.1 0 6 = τ1.1 0 21 ∧ y.1 0 7 = τ1.1 0 22 := by rw [hy]; exact ⟨rfl, rfl, rfl, rfl, rfl, rfl, rfl, rfl⟩
    have ye : ∀ c k : Nat, c ≠ 0 → y.1 c k = τ1.1 c k := fun c k hc => by rw [hy, sI_ne hc, sI_ne hc, sI_ne hc, sI_ne hc, sI_ne hc, sI_ne hc, sI_ne hc, sI_ne hc]
    have y0 : y.1 0 8 = τ1.1 0 8 ∧ y.1 0 29 = τ1.1 0 29 ∧ y.1 0 32 = τ1.1 0 32 := by rw [hy]; exact ⟨rfl, rfl, rfl⟩
    obtain ⟨z, c1, c2, c3, c4⟩ := copyM (τ := y) n4 m12 (yv.1.trans dN.2.1) (yv.2.1.trans dM.2.1)
    have z0 : ∀ k : Nat, z.1 0 k = y.1 0 k := fun k => c4 0 k (by decide) (by decide) (by omega)
    -- of the model's core
    have g29 : τ1.1 0 29 = 0 := by
      have := fr (fun s => s.1 0 29) (fun _ => rfl) r4
      exact this
    have g32 : τ1.1 0 32 = -1 := by
      have := fr (fun s => s.1 0 32) (fun _ => rfl) r4
      exact this
    have g8 : τ1.1 0 8 = τ.1 0 8 := by
      have := fr (fun s => s.1 0 8) (fun _ => rfl) r4
      exact this
    have hM : (bnd (sI τ1 0 0 (τ1.1 0 15)) fun (σ_5 : St) => bnd (sI σ_5 0 1 (σ_5.1 0 16)) fun (σ_6 : St) => bnd (sI σ_6 0 2 (σ_6.1 0 17)) fun (σ_7 : St) => bnd (sI σ_7 0 3 (σ_7.1 0 18)) fun (σ_8 : St) => bnd (sI σ_8 0 4 (σ_8.1 0 19)) fun (σ_9 : St) => bnd (sI σ_9 0 5 (σ_9.1 0 20)) fun (σ_10 : St) => bnd (sI σ_10 0 6 (σ_10.1 0 21)) fun (σ_11 : St) => bnd (sI σ_11 0 7 (σ_11.1 0 22)) fun (σ_12 : St) => bnd (0 : Int32) fun (x2_13 : Int32) => fX9_street_L91  (fun (σ_18 : St) (x2_19 : Int32) => bnd (0 : Int32) fun (x2_20 : Int32) => fX9_street_L138  (fun (σ_26 : St) (x2_27 : Int32) => bnd (sI σ_26 0 37 (0 : Int32)) fun (σ_28 : St) => bnd (sI σ_28 0 38 (0 : Int32)) fun (σ_29 : St) => bnd (sI σ_29 0 39 (-1 : Int32)) fun (σ_30 : St) => bnd (sI σ_30 0 68 (0 : Int32)) fun (σ_31 : St) => bnd (sI σ_31 0 8 ((σ_31.1 0 8) + (1 : Int32))) fun (σ_32 : St) => some (σ_32, (σ_32.1 0 0))) FU σ_18 x2_20) FU σ_12 x2_13) = some (sI (sI (sI (sI (sI z 0 37 0) 0 38 0) 0 39 (-1)) 0 68 0) 0 8 (σ.1 0 13 + 1), nI n) := by
      rw [bnd_eq, bnd_eq, bnd_eq, bnd_eq, bnd_eq, bnd_eq, bnd_eq, bnd_eq, bnd_eq]
      have ey : (sI (sI (sI (sI (sI (sI (sI (sI τ1 0 0 (τ1.1 0 15)) 0 1 ((sI τ1 0 0 (τ1.1 0 15)).1 0 16)) 0 2 (τ1.1 0 17)) 0 3 (τ1.1 0 18)) 0 4 (τ1.1 0 19)) 0 5 (τ1.1 0 20)) 0 6 (τ1.1 0 21)) 0 7 (τ1.1 0 22)) = y := hy.symm
      refine Eq.trans (show _ = fX9_street_L91  (fun (σ_18 : St) (x2_19 : Int32) => bnd (0 : Int32) fun (x2_20 : Int32) => fX9_street_L138  (fun (σ_26 : St) (x2_27 : Int32) => bnd (sI σ_26 0 37 (0 : Int32)) fun (σ_28 : St) => bnd (sI σ_28 0 38 (0 : Int32)) fun (σ_29 : St) => bnd (sI σ_29 0 39 (-1 : Int32)) fun (σ_30 : St) => bnd (sI σ_30 0 68 (0 : Int32)) fun (σ_31 : St) => bnd (sI σ_31 0 8 ((σ_31.1 0 8) + (1 : Int32))) fun (σ_32 : St) => some (σ_32, (σ_32.1 0 0))) FU σ_18 x2_20) FU y 0 from by rw [hy]; rfl) ?_
      rw [c1, bnd_eq, bnd_eq, bnd_eq, bnd_eq]
      have e8 : (sI (sI (sI (sI z 0 37 0) 0 38 0) 0 39 (-1)) 0 68 0).1 0 8 = σ.1 0 13 := by
        show z.1 0 8 = _
        rw [z0, y0.1, g8]
        exact hI.2.2.2.2.1.2.2.2.1.symm
      rw [e8, bnd_eq]
      have e0 : (sI (sI (sI (sI (sI z 0 37 0) 0 38 0) 0 39 (-1)) 0 68 0) 0 8 (σ.1 0 13 + 1)).1 0 0 = nI n := by
        show z.1 0 0 = _
        rw [z0, yv.1]
        exact dN.2.1
      rw [e0]
    rw [hM]
    refine ⟨_, _, nI n, rfl, rfl, ?_⟩
    -- the numbers of the new street
    have n0 : (nI n).toInt = (n : Int) := nI_toInt (by omega)
    have m0 : (nI m).toInt = (m : Int) := nI_toInt (by omega)
    have t0 : ((nI n).toInt.toNat : Nat) = n := by omega
    have p2 : ∀ x : Nat, x < 2 ^ n → ((x : Nat) : Int) < 2 ^ n := fun x hx => by rw [p2i]; exact_mod_cast hx
    have F00 : (sI (sI (sI (sI (sI z 0 37 0) 0 38 0) 0 39 (-1)) 0 68 0) 0 8 (σ.1 0 13 + 1)).1 0 0 = nI n := by show z.1 0 0 = _; rw [z0, yv.1]; exact dN.2.1
    have F01 : (sI (sI (sI (sI (sI z 0 37 0) 0 38 0) 0 39 (-1)) 0 68 0) 0 8 (σ.1 0 13 + 1)).1 0 1 = nI m := by show z.1 0 1 = _; rw [z0, yv.2.1]; exact dM.2.1
    have F02 : (sI (sI (sI (sI (sI z 0 37 0) 0 38 0) 0 39 (-1)) 0 68 0) 0 8 (σ.1 0 13 + 1)).1 0 2 = τ1.1 0 17 := by show z.1 0 2 = _; rw [z0, yv.2.2.1]
    have F03 : (sI (sI (sI (sI (sI z 0 37 0) 0 38 0) 0 39 (-1)) 0 68 0) 0 8 (σ.1 0 13 + 1)).1 0 3 = τ1.1 0 18 := by show z.1 0 3 = _; rw [z0, yv.2.2.2.1]
    have F04 : (sI (sI (sI (sI (sI z 0 37 0) 0 38 0) 0 39 (-1)) 0 68 0) 0 8 (σ.1 0 13 + 1)).1 0 4 = τ1.1 0 19 := by show z.1 0 4 = _; rw [z0, yv.2.2.2.2.1]
    have F05 : (sI (sI (sI (sI (sI z 0 37 0) 0 38 0) 0 39 (-1)) 0 68 0) 0 8 (σ.1 0 13 + 1)).1 0 5 = τ1.1 0 20 := by show z.1 0 5 = _; rw [z0, yv.2.2.2.2.2.1]
    have F06 : (sI (sI (sI (sI (sI z 0 37 0) 0 38 0) 0 39 (-1)) 0 68 0) 0 8 (σ.1 0 13 + 1)).1 0 6 = nI l := by show z.1 0 6 = _; rw [z0, yv.2.2.2.2.2.2.1]; exact l2
    have F07 : (sI (sI (sI (sI (sI z 0 37 0) 0 38 0) 0 39 (-1)) 0 68 0) 0 8 (σ.1 0 13 + 1)).1 0 7 = nI t := by show z.1 0 7 = _; rw [z0, yv.2.2.2.2.2.2.2]; exact d7.2.1
    have F29 : (sI (sI (sI (sI (sI z 0 37 0) 0 38 0) 0 39 (-1)) 0 68 0) 0 8 (σ.1 0 13 + 1)).1 0 29 = 0 := by show z.1 0 29 = _; rw [z0, y0.2.1]; exact g29
    have F32 : (sI (sI (sI (sI (sI z 0 37 0) 0 38 0) 0 39 (-1)) 0 68 0) 0 8 (σ.1 0 13 + 1)).1 0 32 = -1 := by show z.1 0 32 = _; rw [z0, y0.2.2]; exact g32
    have Fc : ∀ c k : Nat, c ≠ 0 → (sI (sI (sI (sI (sI z 0 37 0) 0 38 0) 0 39 (-1)) 0 68 0) 0 8 (σ.1 0 13 + 1)).1 c k = z.1 c k := fun c k hc => by rw [sI_ne hc, sI_ne hc, sI_ne hc, sI_ne hc, sI_ne hc]
    have F37 : (sI (sI (sI (sI (sI z 0 37 0) 0 38 0) 0 39 (-1)) 0 68 0) 0 8 (σ.1 0 13 + 1)).1 0 37 = 0 := rfl
    have F38 : (sI (sI (sI (sI (sI z 0 37 0) 0 38 0) 0 39 (-1)) 0 68 0) 0 8 (σ.1 0 13 + 1)).1 0 38 = 0 := rfl
    have F39 : (sI (sI (sI (sI (sI z 0 37 0) 0 38 0) 0 39 (-1)) 0 68 0) 0 8 (σ.1 0 13 + 1)).1 0 39 = -1 := rfl
    have F68 : (sI (sI (sI (sI (sI z 0 37 0) 0 38 0) 0 39 (-1)) 0 68 0) 0 8 (σ.1 0 13 + 1)).1 0 68 = 0 := rfl
    have F8 : (sI (sI (sI (sI (sI z 0 37 0) 0 38 0) 0 39 (-1)) 0 68 0) 0 8 (σ.1 0 13 + 1)).1 0 8 = σ.1 0 13 + 1 := rfl
    generalize sI (sI (sI (sI (sI z 0 37 0) 0 38 0) 0 39 (-1)) 0 68 0) 0 8 (σ.1 0 13 + 1) = τF at F00 F01 F02 F03 F04 F05 F06 F07 F29 F32 Fc F37 F38 F39 F68 F8
    have G : ∀ c k : Nat, c ≠ 0 → c ≠ 19 → c ≠ 53 → (sI (sI (sI (sI σ4 19 0 0) 53 9 0) 0 14 0) 0 13 (σ.1 0 13 + 1)).1 c k = σ4.1 c k := fun c k h1 h2 h3 => by rw [sI_ne h1, sI_ne h1, sI_ne h3, sI_ne h2]
    have G11 : (sI (sI (sI (sI σ4 19 0 0) 53 9 0) 0 14 0) 0 13 (σ.1 0 13 + 1)).1 0 11 = 0 := k11
    have G12 : (sI (sI (sI (sI σ4 19 0 0) 53 9 0) 0 14 0) 0 13 (σ.1 0 13 + 1)).1 0 12 = -1 := k12
    have G13 : (sI (sI (sI (sI σ4 19 0 0) 53 9 0) 0 14 0) 0 13 (σ.1 0 13 + 1)).1 0 13 = σ.1 0 13 + 1 := rfl
    have G14 : (sI (sI (sI (sI σ4 19 0 0) 53 9 0) 0 14 0) 0 13 (σ.1 0 13 + 1)).1 0 14 = 0 := rfl
    have G19 : (sI (sI (sI (sI σ4 19 0 0) 53 9 0) 0 14 0) 0 13 (σ.1 0 13 + 1)).1 19 0 = 0 := rfl
    have G53 : (sI (sI (sI (sI σ4 19 0 0) 53 9 0) 0 14 0) 0 13 (σ.1 0 13 + 1)).1 53 9 = 0 := rfl
    generalize sI (sI (sI (sI σ4 19 0 0) 53 9 0) 0 14 0) 0 13 (σ.1 0 13 + 1) = σF at G G11 G12 G13 G14 G19 G53
    have H2 : ∀ j : Nat, σF.1 2 j = σ3.1 2 j := fun j => (G 2 j (by decide) (by decide) (by decide)).trans (b7 2 j (by omega))
    have Hs : ∀ c j : Nat, 4 ≤ c → c ≤ 9 → σF.1 c j = σ3.1 c j := fun c j h1 h2 => (G c j (by omega) (by omega) (by omega)).trans (b7 c j (by omega))
    have e10 : ∀ c k : Nat, c ≠ 0 → (sI σ1 0 12 (-1)).1 c k = σ1.1 c k := fun c k hc => by rw [sI_ne hc]
    have zc : ∀ c k : Nat, c ≠ 2 → c ≠ 15 → (c < 3 ∨ 6 < c) → c ≠ 0 → z.1 c k = τ1.1 c k := fun c k h1 h2 h3 h4 => (c4 c k h1 h2 h3).trans (ye c k h4)
    refine ⟨⟨⟨?_, ?_, ?_, ?_, ?_, ?_, ?_, ?_⟩, ⟨?_, ?_, ?_, ?_, ?_, ?_, ?_⟩, fun i hi => ?_, fun i hi => ?_⟩, ⟨?_, ?_, ?_, ?_, fun b hb => ?_⟩, ⟨?_, ?_, fun i hi => ?_⟩, ⟨?_, ?_, fun i hi => ?_⟩, ⟨?_, ?_, ?_, ?_, fun k hk => ?_⟩, ?_, ?_, fun w => ?_⟩
    · rw [H2, a2.1, F00]; exact dN.1
    · rw [H2, a2.2.1, F01]; exact dM.1
    · rw [H2, a2.2.2.1, F02]; exact d2.1
    · rw [H2, a2.2.2.2.1, F03]; exact d3.1
    · rw [H2, a2.2.2.2.2.1, F04]; exact d4.1
    · rw [H2, a2.2.2.2.2.2.1, F05]; exact d5.1
    · rw [H2, a2.2.2.2.2.2.2.1, F06]; exact l1
    · rw [H2, a2.2.2.2.2.2.2.2, F07]; exact d7.1
    · rw [F00]; constructor <;> rw [n0] <;> omega
    · rw [F01]; constructor <;> rw [m0] <;> omega
    · rw [F02]; exact d2.2
    · rw [F03]; exact d3.2
    · rw [F04]; exact d4.2
    · rw [F05]; exact d5.2
    · have p16 : 2 ^ n ≤ 16 := Nat.pow_le_pow_right (n := 2) (by decide) n4
      rw [F06, F00, t0, nI_toInt (by omega)]
      exact ⟨by omega, p2 l l3⟩
    · rw [F01, m0] at hi
      have im : i < m := by omega
      have so := dS i im
      have cc := c3 i im
      have aa := a4 i (by omega)
      rw [Hs 5 i (by omega) (by omega), Hs 6 i (by omega) (by omega), Hs 7 i (by omega) (by omega), Hs 8 i (by omega) (by omega), aa.1, aa.2.1, aa.2.2.1, aa.2.2.2.1, e10 13 i (by decide), e10 14 i (by decide), e10 15 i (by decide), e10 16 i (by decide), Fc 3 i (by decide), Fc 4 i (by decide), Fc 5 i (by decide), Fc 6 i (by decide), cc.1, cc.2.1, cc.2.2.1, cc.2.2.2, ye 9 i (by decide), ye 10 i (by decide), ye 11 i (by decide), ye 12 i (by decide), F00, t0]
      exact so
    · rw [Hs 9 i (by omega) (by omega), Hs 7 i (by omega) (by omega), (a4 i hi).2.2.2.2, (a4 i hi).2.2.1]
    · rw [G 22 3 (by decide) (by decide) (by decide), b5, F37]
    · rw [G 22 4 (by decide) (by decide) (by decide), b6, F39]
    · rw [F37, F00, z_0]
      exact ⟨by omega, by rw [p2i]; exact_mod_cast Nat.pow_pos (by decide)⟩
    · rw [F39, F38]
      exact ⟨by decide, by decide⟩
    · rw [F00, n0] at hb
      have bn : b < n := by omega
      have cc := c2 b bn
      have bb := dB b bn
      have e25 : σF.1 25 b = τF.1 2 b := by
        rw [G 25 b (by decide) (by decide) (by decide), b4 b (by omega), a3 b (by omega), e10 12 b (by decide), bb.1, Fc 2 b (by decide), cc.1, ye 8 b (by decide)]
      have e2b : τF.1 2 b = τ1.1 8 b := by rw [Fc 2 b (by decide), cc.1, ye 8 b (by decide)]
      have e15 : τF.1 15 b = 0 := by rw [Fc 15 b (by decide)]; exact cc.2
      have e23 : σF.1 23 b = 0 := by rw [G 23 b (by decide) (by decide) (by decide)]; exact b2 b (by omega)
      refine ⟨e25, by rw [e2b]; exact bb.2.1, by rw [e23, e15], by rw [e15]; constructor <;> decide, fun w => ?_, fun k hk => ⟨?_, fun w => ?_⟩⟩
      · rw [e15] at w; exact absurd w (by decide)
      · rw [e15, if_neg (by decide), if_neg (by decide), G 24 _ (by decide) (by decide) (by decide)]
        exact b3 _ (by omega)
      · rw [e15] at w; exact absurd w (by decide)
    · rw [G14, F68]
    · rw [F68]; constructor <;> decide
    · rw [F68, z_0] at hi; omega
    · rw [G19, F38]
    · rw [F38]; constructor <;> decide
    · rw [F38, z_0] at hi; omega
    · rw [G11, F29]
    · rw [F29]; constructor <;> decide
    · rw [G12, F32]
    · rw [G13, F8]
    · rw [F29, z_0] at hk; omega
    · have e54 : σF.1 54 2147483648 = σ.1 54 2147483648 := (G 54 _ (by decide) (by decide) (by decide)).trans (keep 54 _ (by omega) (by omega) (by decide))
      rw [e54]
      exact hR.1
    · rw [G53]; constructor <;> decide
    · rw [G53] at w; exact absurd w (by decide)
