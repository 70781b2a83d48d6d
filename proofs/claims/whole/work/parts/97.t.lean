/-! chase -/
theorem p_chase : op_chase Inv := by
  intro σ τ p w h
  have hM := h.okM
  have hA := h.okA
  have h4 := hM.n4
  have h8 := hM.k8
  have nb := hM.nb
  have z1 : (1 : Int32).toInt = 1 := by decide
  have z2 : (2 : Int32).toInt = 2 := by decide
  have z9 : (9 : Int32).toInt = 9 := by decide
  have z10 : (10 : Int32).toInt = 10 := by decide
  have z60 : (60 : Int32).toInt = 60 := by decide
  have a9 : ((9 : Int32) + τ.1 0 0).toInt = 9 + nB τ := by rw [i32_add (by rw [z9, nb]; omega) (by rw [z9, nb]; omega), z9, nb]
  have sb : (σ.1 2 0).toInt = (nB τ : Int) := by rw [h.1.1.1, nb]
  have s10 : (0 ≤ (w - 10).toInt ∧ (w - 10).toInt < (nB τ : Int)) ↔ (10 ≤ w.toInt ∧ w.toInt < 10 + (nB τ : Int)) := by
    have wl := Int32.le_toInt w
    have wh := Int32.toInt_lt w
    by_cases q : -2147483648 ≤ w.toInt - (10 : Int32).toInt
    · rw [i32_sub q (by omega), z10]; omega
    · have e : (w - 10).toInt = (w.toInt - (10 : Int32).toInt).bmod (2 ^ 32) := Int32.toInt_sub w 10
      have e2 : (w.toInt - (10 : Int32).toInt).bmod (2 ^ 32) = w.toInt - (10 : Int32).toInt + 2 ^ 32 := by
        rw [Int.bmod_def]
        omega
      rw [e, e2, z10]
      omega
  unfold fX8_chase fX9_chase
  rw [hasBaker_eq, cl_some, sb, bnd_eq, isIn_eq, cl_some, z1, z60]
  by_cases hp : 1 ≤ p.toInt ∧ p.toInt ≤ 60
  case neg =>
    rw [if_neg hp, if_pos rfl]
    by_cases w0 : p < 1
    · rw [if_pos w0]; exact ⟨σ, τ, -1, rfl, rfl, h⟩
    · rw [if_neg w0, if_pos (show (60 : Int32) < p by rw [lt_i, z1] at w0; rw [lt_i, z60]; omega)]; exact ⟨σ, τ, -1, rfl, rfl, h⟩
  rw [if_pos hp, if_neg one0, if_neg (show ¬ p < 1 by rw [lt_i, z1]; omega), if_neg (show ¬ (60 : Int32) < p by rw [lt_i, z60]; omega), isIn_eq, cl_some, z_0, z2, jp_eq, jp_eq]
  -- what is asked
  by_cases ok : (0 ≤ w.toInt ∧ w.toInt ≤ 2) ∨ (10 ≤ w.toInt ∧ w.toInt < 10 + (nB τ : Int))
  case neg =>
    rw [if_neg (show ¬ (0 ≤ w.toInt ∧ w.toInt ≤ 2) by omega), if_pos rfl, isIn_eq, cl_some, z10, a9, if_neg (show ¬ (10 ≤ w.toInt ∧ w.toInt ≤ 9 + (nB τ : Int)) by omega), if_pos rfl, if_neg (show ¬ (0 ≤ (w - 10).toInt ∧ (w - 10).toInt < (nB τ : Int)) from fun q => by have := s10.mp q; omega), if_pos rfl]
    by_cases w0 : w < 0
    · rw [if_pos w0]; exact ⟨σ, τ, -1, rfl, rfl, h⟩
    · rw [if_neg w0, if_neg (show ¬ w ≤ 2 by rw [lt_i, z_0] at w0; rw [le_i, z2]; omega)]; exact ⟨σ, τ, -1, rfl, rfl, h⟩
  obtain ⟨x3, hx3, ex3⟩ : ∃ x3 : Int32, (if 0 ≤ (w - 10).toInt ∧ (w - 10).toInt < (nB τ : Int) then (1 : Int32) else 0) = x3 ∧ ((x3 = 1 ∧ 10 ≤ w.toInt ∧ w.toInt < 10 + (nB τ : Int)) ∨ (x3 = 0 ∧ 0 ≤ w.toInt ∧ w.toInt ≤ 2)) := by
    refine ⟨_, rfl, ?_⟩
    by_cases q : 10 ≤ w.toInt ∧ w.toInt < 10 + (nB τ : Int)
    · rw [if_pos (s10.mpr q)]; exact Or.inl ⟨rfl, q⟩
    · rw [if_neg (fun z => q (s10.mp z))]; exact Or.inr ⟨rfl, by omega⟩
  rw [hx3]
  have eN : p = nI p.toInt.toNat := nI_mk (by omega)
  have eN60 : p.toInt.toNat ≤ 60 := by omega
  -- both go on alike
  obtain ⟨σ', τ', x, a1, a2, a3, a4, a5, a6⟩ := ready2 h
  have hI1 : Inv σ' τ := Inv_50 (by omega) (by omega) a5 rfl h
  have cls : ∀ K : Option (St × Int32), (if x3 = 0 then (if w < 0 then some (σ, (-1 : Int32)) else (if w ≤ (2 : Int32) then K else some (σ, (-1 : Int32)))) else K) = K := by
    intro K
    rcases ex3 with ⟨e, q⟩ | ⟨e, q⟩
    · rw [if_neg (by rw [e]; exact one0)]
    · rw [if_pos e, if_neg (show ¬ w < 0 by rw [lt_i, z_0]; omega), if_pos (show w ≤ 2 by rw [le_i, z2]; omega)]
  have mdl : ∀ K : St → Option (St × Int32), (if (if 0 ≤ w.toInt ∧ w.toInt ≤ 2 then (1 : Int32) else 0) = 0 then cl (fX9_isIn τ w (10 : Int32) ((9 : Int32) + (τ.1 0 0))) fun (σ_31 : St) (t_32 : Int32) => (if t_32 = 0 then some (σ_31, (-1 : Int32)) else K σ_31) else K τ) = K τ := by
    intro K
    by_cases q : 0 ≤ w.toInt ∧ w.toInt ≤ 2
    · rw [if_pos q, if_neg one0]
    · rw [if_neg q, if_pos rfl, isIn_eq, cl_some, z10, a9, if_pos (show 10 ≤ w.toInt ∧ w.toInt ≤ 9 + (nB τ : Int) by omega), if_neg one0]
  rw [cls]
  rw [mdl]
  dsimp only
  rw [allBarredM hM (fun _ => 0), cl_some, a1, cl_some]
  have free : (∃ P : Nat → Nat → Int, okR τ P) → ¬ bestN (barN τ) (fun _ => 0) (nK τ) = none := fun ⟨P, hR⟩ e => by
    obtain ⟨k, k1, k2⟩ := okR_free hR
    exact k2 (bestN_free _ e k k1)
  -- the class says no
  have clsNo : (∃ b : Nat, b < nB τ ∧ (τ.1 15 b).toInt = 3) → ∀ K : Option (St × Int32), ((if x = 0 then some (σ', (-1 : Int32)) else (if (σ'.1 43 16) = (-1 : Int32) then K else some (σ', (-1 : Int32)))) = some (σ', -1)) := by
    intro ⟨b, b1, b2⟩ K
    rcases a6 with ⟨e, _⟩ | ⟨P, a, e, _, hr, sc, an⟩
    · rw [if_pos e]
    · rw [if_neg (by rw [e]; exact one0)]
      cases a with
      | none => exact absurd b2 (scanW_nn _ sc b b1)
      | some q =>
        have := ((scanW_a _ _ sc).1 q rfl).1
        rw [if_neg (by rw [an]; exact nI_ne_m1 (by omega))]
  by_cases ab : bestN (barN τ) (fun _ => 0) (nK τ) = none
  · rw [if_pos ab, if_neg one0]
    rcases a6 with ⟨e, _⟩ | ⟨P, a, e, _, hr, sc, an⟩
    · rw [if_pos e]; exact ⟨σ', τ, -1, rfl, rfl, hI1⟩
    · exact absurd ab (free ⟨P, hr.2.2.2.2.2.2⟩)
  rw [if_neg ab, if_pos rfl, bnd_eq]
  rcases ansM hM p w (fun (σ_10 : St) (_ : Int32) => cl (fX9_areReady σ_10 ) fun (σ_12 : St) (t_13 : Int32) => (if t_13 = 0 then some (σ_12, (-1 : Int32)) else bnd (0 : Int32) fun (x3_14 : Int32) => fX9_chase_L83 p w (fun (σ_18 : St) (x3_19 : Int32) => cl (fX9_chases σ_18 p) fun (σ_20 : St) (t_21 : Unit) => (jp (fun (σ_22 : St)  (t_23 : Int32) => bnd t_23 fun (x3_24 : Int32) => bnd (0 : Int32) fun (x4_25 : Int32) => fX9_chase_L193 x3_24 (fun (σ_29 : St) (x4_30 : Int32) => some (σ_29, x3_24)) FU σ_22 x4_25) fun j189 => (if w = 0 then j189 σ_20 (σ_20.1 0 63) else (if w = (1 : Int32) then j189 σ_20 (σ_20.1 0 62) else (if w = (2 : Int32) then j189 σ_20 (σ_20.1 0 64) else chk (inb (w - (10 : Int32)) 4) ((if (σ_20.1 15 (ix (w - (10 : Int32)))) = (1 : Int32) then chk (inb (w - (10 : Int32)) 4) (j189 σ_20 (σ_20.1 16 (ix (w - (10 : Int32))))) else j189 σ_20 (-1 : Int32)))))))) FU σ_12 x3_14)) with ⟨no3, e46⟩ | ⟨e46, yes3⟩
  case inr =>
    rw [e46, clsNo yes3]
    exact ⟨σ', τ, -1, rfl, rfl, hI1⟩
  rw [e46, a2, cl_some]
  rcases a6 with ⟨e, _⟩ | ⟨P, a, e, ry, hr, sc, an⟩
  · rw [if_pos e, if_pos e]; exact ⟨σ', τ', -1, rfl, rfl, a3⟩
  have x0 : ¬ x = 0 := by rw [e]; exact one0
  cases a with
  | some q => exact absurd ((scanW_a _ _ sc).1 q rfl).2 (no3 q ((scanW_a _ _ sc).1 q rfl).1)
  | none =>
    rw [rdy_pl sc, if_pos hr.2.2.2.2.2.2.1] at ry
    have eP : lotP τ = P := Option.some.inj ry
    rw [← eP] at hr
    have hR := hr.2.2.2.2.2.2
    obtain ⟨σ2, g1, g2, g3, g4, g5, g6⟩ := go2C hM hA hr.1 hr.2.1 hr.2.2.1 hR eN60 (fun _ => rfl) (fun _ => rfl)
    obtain ⟨τ2, k1, k2, k3⟩ := saveM hM a4 p w
    have hc2 : core τ2 = core τ := (core_frm k2 a33_sc).trans a4
    have C2 : chM τ2 τ (nmd τ) (lotP τ) (st0 τ) := by
      have e15 : ∀ b : Nat, τ2.1 15 b = τ.1 15 b := fun b => fr (fun σ => σ.1 15 b) (fun _ => rfl) hc2
      have e16 : ∀ b : Nat, τ2.1 16 b = τ.1 16 b := fun b => fr (fun σ => σ.1 16 b) (fun _ => rfl) hc2
      refine ⟨coreX_core hc2, drOK_fr (hc2.trans a4.symm) (fun i => k2.1 27 i rfl) hr.2.2.2.2.1, fun b hb k hk => ?_, fun b _ => ⟨e15 b, e16 b⟩, fun b hb => ?_⟩
      · have hb' : b < nB τ := by rw [fr nB (fun _ => rfl) hc2] at hb; exact hb
        rw [PS_st0 hA hb', k2.1 18 _ rfl]
        exact hr.2.2.2.2.2.1 b (by rw [fr nB (fun _ => rfl) a4]; exact hb') k hk
      · rw [e15, e16]
        unfold st0
        by_cases q : (τ.1 15 b).toInt = 1
        · rw [if_pos q]
          refine ⟨fun z => (by cases z), fun k z => ?_⟩
          cases z
          exact ⟨by rw [eq_i, z1]; exact q, nI_mk ((hA b hb).2.1 q).1⟩
        · rw [if_neg q]
          exact ⟨fun _ z => q (by rw [z, z1]), fun k z => (by cases z)⟩
    obtain ⟨τ3, m1, m2, m3, m4, m5, m6⟩ := chases2M hM hA C2 k3 hR eN60 (fun _ => rfl) (fun _ => rfl)
    rw [← eN] at g1 m1
    have hI2 : ∀ s : St, core s = core τ → Inv σ2 s := fun s hc => Inv_fr (fun c k q => g2.1 c k (by
      unfold mGo
      have : ¬ (45 ≤ c ∧ c ≤ 50) ∧ ¬ (58 ≤ c ∧ c ≤ 60) := by
        refine ⟨fun z => ?_, fun z => ?_⟩
        · have e1 : scI c k = true := by
            have : c = 45 ∨ c = 46 ∨ c = 47 ∨ c = 48 ∨ c = 49 ∨ c = 50 := by omega
            rcases this with u | u | u | u | u | u <;> subst u <;> rfl
          rw [e1] at q; cases q
        · have e1 : scI c k = true := by
            have : c = 58 ∨ c = 59 ∨ c = 60 := by omega
            rcases this with u | u | u <;> subst u <;> rfl
          rw [e1] at q; cases q
      rw [mk_f.mpr this.1, mk_f.mpr this.2]
      rfl)) (hc.trans a4.symm) a3
    rw [if_neg x0, if_neg x0, if_pos (show σ'.1 43 16 = -1 by rw [an]; rfl), g1, cl_some, bnd_eq, k1, m1, cl_some, jp_eq]
    rcases ex3 with ⟨e1, q⟩ | ⟨e1, q⟩
    · have ew : w - 10 = nI (w.toInt - 10).toNat := by
        have := nI_mk (p := w - 10) (by rw [i32_sub (by rw [z10]; omega) (by rw [z10]; omega), z10]; omega)
        rw [i32_sub (by rw [z10]; omega) (by rw [z10]; omega), z10] at this
        exact this
      have hb : (w.toInt - 10).toNat < nB τ := by omega
      rw [if_neg (by rw [e1]; exact one0), if_neg (show ¬ w = 0 from fun z => by rw [z, z_0] at q; omega), if_neg (show ¬ w = 1 from fun z => by rw [z, z1] at q; omega), if_neg (show ¬ w = 2 from fun z => by rw [z, z2] at q; omega), ew]
      generalize (w.toInt - 10).toNat = b at hb
      rw [chk_t (inb_nI (by omega) (by decide)), ix_nI (m := b) (by omega), g6 b hb, chk_t (inb_nI (by omega) (by decide))]
      have cm := m2.2.2.2.2 b hb
      cases es : stR τ (nmd τ) (lotP τ) (st0 τ) (chR (fun i => cdN (stR τ (nmd τ) (lotP τ) (st0 τ) i) (nB τ)) (fun i => mvR τ (nmd τ) (lotP τ) (st0 τ) i) p.toInt.toNat 0).2.1 b with
      | none =>
        rw [if_neg (cm.1 es)]
        dsimp only
        obtain ⟨τ4, b1, b2⟩ := chBackM hM m2 m3 (-1)
        rw [bnd_eq, bnd_eq, b1]
        exact ⟨σ2, τ4, -1, rfl, rfl, hI2 τ4 b2⟩
      | some k =>
        rw [if_pos (cm.2 k es).1, (cm.2 k es).2, chk_t (inb_nI (m := b) (n := 4) (by omega) (by decide))]
        dsimp only
        obtain ⟨τ4, b1, b2⟩ := chBackM hM m2 m3 (nI k)
        rw [bnd_eq, bnd_eq, b1]
        exact ⟨σ2, τ4, nI k, rfl, rfl, hI2 τ4 b2⟩
    · rw [if_pos e1]
      by_cases w0 : w = 0
      · rw [if_pos w0, if_pos w0, m4, g3]
        dsimp only
        obtain ⟨τ4, b1, b2⟩ := chBackM hM m2 m3 (nI (chR (fun i => cdN (stR τ (nmd τ) (lotP τ) (st0 τ) i) (nB τ)) (fun i => mvR τ (nmd τ) (lotP τ) (st0 τ) i) p.toInt.toNat 0).1)
        rw [bnd_eq, bnd_eq, b1]
        exact ⟨σ2, τ4, _, rfl, rfl, hI2 τ4 b2⟩
      · rw [if_neg w0, if_neg w0]
        by_cases w1 : w = 1
        · rw [if_pos w1, if_pos w1, m5, g4]
          dsimp only
          obtain ⟨τ4, b1, b2⟩ := chBackM hM m2 m3 (nI (chR (fun i => cdN (stR τ (nmd τ) (lotP τ) (st0 τ) i) (nB τ)) (fun i => mvR τ (nmd τ) (lotP τ) (st0 τ) i) p.toInt.toNat 0).2.1)
          rw [bnd_eq, bnd_eq, b1]
          exact ⟨σ2, τ4, _, rfl, rfl, hI2 τ4 b2⟩
        · have w2 : w = 2 := by
            rw [eq_i, z_0] at w0
            rw [eq_i, z1] at w1
            rw [eq_i, z2]
            omega
          rw [if_neg w1, if_neg w1, if_pos w2, m6, g5]
          dsimp only
          obtain ⟨τ4, b1, b2⟩ := chBackM hM m2 m3 (nI (chR (fun i => cdN (stR τ (nmd τ) (lotP τ) (st0 τ) i) (nB τ)) (fun i => mvR τ (nmd τ) (lotP τ) (st0 τ) i) p.toInt.toNat 0).2.2)
          rw [bnd_eq, bnd_eq, b1]
          exact ⟨σ2, τ4, _, rfl, rfl, hI2 τ4 b2⟩
