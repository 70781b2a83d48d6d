/-! puts, earnsAt, bestOf -/
def aPut (c _k : Nat) : Bool := Nat.beq c 18
def noL (_c _k : Nat) : Bool := false
theorem aPut_sc : ∀ c k : Nat, aPut c k = true → scM c k = true := by
  intro c k h
  have : c = 18 := Nat.eq_of_beq_eq_true h
  subst this
  rfl
theorem putsM (τ : St) {b s : Nat} (hb : b < 4) (hs : s < 8) : ∃ τ', fX9_puts τ (nI b) (nI s) = some (τ', ()) ∧ frm aPut noL τ τ' ∧ ∀ i : Nat, τ'.1 18 i = if 8 * b ≤ i ∧ i < 8 * b + 8 then (if i = 8 * b + s then 100 else 0) else τ.1 18 i := by
  unfold fX9_puts
  rw [bnd_eq]
  obtain ⟨τ', hp, e⟩ := loopG (S := St) (fun n s' m => fX9_puts_L2 (nI b) (nI s) (fun (σ_6 : St) (_ : Int32) => some (σ_6, ())) n s' (nI m)) 8 (fun m s' => frm aPut noL τ s' ∧ ∀ i : Nat, s'.1 18 i = if 8 * b ≤ i ∧ i < 8 * b + m then (if i = 8 * b + s then 100 else 0) else τ.1 18 i) (fun s' => some (s', ())) (fun n s' hp => by
      rw [fX9_puts_L2, if_pos (by decide)]) (fun n m s' hm hp => by
      have cc : ¬ (8 : Int32) ≤ nI m := by rw [le_i, z_8, nI_toInt (by omega)]; omega
      have hin : inb (nI (8 * b + m)) 32 = true := inb_nI (by omega) (by decide)
      have e1 : (nI m = nI s) = (m = s) := by
        rw [eq_i, nI_toInt (by omega), nI_toInt (by omega)]
        exact propext ⟨fun w => by omega, fun w => by omega⟩
      refine ⟨sI s' 18 (8 * b + m) (if m = s then 100 else 0), ⟨frm_trans hp.1 (frm_sI _ _ rfl), fun i => ?_⟩, ?_⟩
      · rw [sI_at]
        by_cases e : i = 8 * b + m
        · rw [if_pos e, if_pos (show 8 * b ≤ i ∧ i < 8 * b + (m + 1) by omega)]
          by_cases e2 : m = s
          · rw [if_pos e2, if_pos (by omega)]
          · rw [if_neg e2, if_neg (by omega)]
        · rw [if_neg e, hp.2 i]
          by_cases e3 : 8 * b ≤ i ∧ i < 8 * b + m
          · rw [if_pos e3, if_pos (show 8 * b ≤ i ∧ i < 8 * b + (m + 1) by omega)]
          · rw [if_neg e3, if_neg (show ¬ (8 * b ≤ i ∧ i < 8 * b + (m + 1)) by omega)]
      · rw [fX9_puts_L2, if_neg cc, jp_eq, ix8' b hb m hm]
        by_cases e2 : m = s
        · rw [if_pos (by rw [e1]; exact e2), if_pos e2]
          refine (chk_t hin _).trans ?_
          rw [bnd_eq, bnd_eq, ix_nI (by omega), ← nI_succ]
        · rw [if_neg (by rw [e1]; exact e2), if_neg e2]
          refine (chk_t hin _).trans ?_
          rw [bnd_eq, bnd_eq, ix_nI (by omega), ← nI_succ]) FU 0 τ (by omega) (by have : FU = 100000 := rfl; omega) ⟨frm_refl _ _ _, fun i => by rw [if_neg (by omega)]⟩
  exact ⟨τ', e, hp.1, hp.2⟩
theorem ptM_put {τ τ' : St} {P : Nat → Nat → Int} (hP : ptM τ P) {b s : Nat} (hN : nB τ' = nB τ) (h : ∀ i : Nat, τ'.1 18 i = if 8 * b ≤ i ∧ i < 8 * b + 8 then (if i = 8 * b + s then 100 else 0) else τ.1 18 i) : ptM τ' (putP P b s) := by
  intro j hj k hk
  rw [hN] at hj
  rw [h]
  unfold putP
  by_cases e : j = b
  · rw [if_pos e, if_pos (by omega)]
    by_cases e2 : k = s
    · rw [if_pos e2, if_pos (by omega)]; exact ⟨rfl, by decide, by decide⟩
    · rw [if_neg e2, if_neg (by omega)]; exact ⟨rfl, by decide, by decide⟩
  · rw [if_neg e, if_neg (by omega)]
    exact hP j hj k hk
/-- only baker b's parts may be others -/
def ptX (τ : St) (b : Nat) (P : Nat → Nat → Int) : Prop := ∀ j : Nat, j < nB τ → j ≠ b → ∀ k : Nat, k < 8 → τ.1 18 (8 * j + k) = Int32.ofInt (P j k) ∧ 0 ≤ P j k ∧ P j k ≤ 100
theorem ptM_putX {τ τ' : St} {P : Nat → Nat → Int} {b s : Nat} (hP : ptX τ b P) (hN : nB τ' = nB τ) (h : ∀ i : Nat, τ'.1 18 i = if 8 * b ≤ i ∧ i < 8 * b + 8 then (if i = 8 * b + s then 100 else 0) else τ.1 18 i) : ptM τ' (putP P b s) := by
  intro j hj k hk
  rw [hN] at hj
  rw [h]
  unfold putP
  by_cases e : j = b
  · rw [if_pos e, if_pos (by omega)]
    by_cases e2 : k = s
    · rw [if_pos e2, if_pos (by omega)]; exact ⟨rfl, by decide, by decide⟩
    · rw [if_neg e2, if_neg (by omega)]; exact ⟨rfl, by decide, by decide⟩
  · rw [if_neg e, if_neg (by omega)]
    exact hP j hj e k hk
def aEarn (c _k : Nat) : Bool := Nat.beq c 21 || Nat.beq c 28
theorem aEarn_sc : ∀ c k : Nat, aEarn c k = true → scM c k = true := by
  intro c k h
  unfold aEarn at h
  rw [Bool.or_eq_true] at h
  rcases h with h | h
  · have : c = 21 := Nat.eq_of_beq_eq_true h
    subst this
    rfl
  · have : c = 28 := Nat.eq_of_beq_eq_true h
    subst this
    rfl
def aAll (c _k : Nat) : Bool := Nat.beq c 21 || Nat.beq c 28 || Nat.beq c 18
theorem aAll_sc : ∀ c k : Nat, aAll c k = true → scM c k = true := by
  intro c k h
  unfold aAll at h
  rw [Bool.or_eq_true, Bool.or_eq_true] at h
  rcases h with (h | h) | h
  · have : c = 21 := Nat.eq_of_beq_eq_true h
    subst this
    rfl
  · have : c = 28 := Nat.eq_of_beq_eq_true h
    subst this
    rfl
  · have : c = 18 := Nat.eq_of_beq_eq_true h
    subst this
    rfl
theorem bf {a b : Bool} (h : (a || b) = false) : a = false ∧ b = false := by
  cases a <;> cases b <;> first | exact ⟨rfl, rfl⟩ | exact absurd h (by decide)
/-- what baker b earns if it asks s for sure -/
def atE (τ : St) (dr : Nat → Nat) (P : Nat → Nat → Int) (b s : Nat) : Int := ex 8 (nB τ) (putP P b s) (fun r => earnM τ dr r (nS τ) b)
theorem earnsAtM {τ : St} (h : okM τ) {P : Nat → Nat → Int} {dr : Nat → Nat} (hd : drOK τ dr) {b s : Nat} (hb : b < nB τ) (hP : ptX τ b P) (hs : s < 8) : ∃ τ', fX9_earnsAt τ (nI b) (nI s) = some (τ', Int64.ofInt (atE τ dr P b s)) ∧ frm aEarn bRow τ τ' := by
  have h4 := h.n4
  unfold fX9_earnsAt
  rw [bnd_eq]
  obtain ⟨τ1, hp1, e1⟩ := loopG (S := St) (fun n s' m => fX9_earnsAt_L2 (nI b) (nI s) (fun (σ_4 : St) (_ : Int32) => cl (fX9_puts σ_4 (nI b) (nI s)) fun (σ_6 : St) (_ : Unit) => cl (fX9_sells σ_6) fun (σ_8 : St) (_ : Unit) => bnd (0 : Int32) fun (x3_10 : Int32) => fX9_earnsAt_L43 (nI b) (fun (σ_13 : St) (_ : Int32) => chk (inb (nI b) 4) (some (σ_13, (σ_13.2 23 (ix (nI b)))))) FU σ_8 x3_10) n s' (nI m)) 8 (fun m s' => frm aEarn noL τ s' ∧ ∀ k : Nat, k < m → s'.1 28 k = τ.1 18 (8 * b + k)) (fun s' => cl (fX9_puts s' (nI b) (nI s)) fun (σ_6 : St) (_ : Unit) => cl (fX9_sells σ_6) fun (σ_8 : St) (_ : Unit) => bnd (0 : Int32) fun (x3_10 : Int32) => fX9_earnsAt_L43 (nI b) (fun (σ_13 : St) (_ : Int32) => chk (inb (nI b) 4) (some (σ_13, (σ_13.2 23 (ix (nI b)))))) FU σ_8 x3_10) (fun n s' hp => by
      rw [fX9_earnsAt_L2, if_pos (by decide)]) (fun n m s' hm hp => by
      have cc : ¬ (8 : Int32) ≤ nI m := by rw [le_i, z_8, nI_toInt (by omega)]; omega
      have hin : inb (nI (8 * b + m)) 32 = true := inb_nI (by omega) (by decide)
      have hin2 : inb (nI m) 8 = true := inb_nI (by omega) (by decide)
      refine ⟨sI s' 28 m (τ.1 18 (8 * b + m)), ⟨frm_trans hp.1 (frm_sI _ _ rfl), fun k hk => ?_⟩, ?_⟩
      · rw [sI_at]
        by_cases e : k = m
        · rw [if_pos e, e]
        · rw [if_neg e]; exact hp.2 k (by omega)
      · rw [fX9_earnsAt_L2, if_neg cc, ix8' b (by omega) m hm, chk_t hin, chk_t hin2, bnd_eq, bnd_eq, ix_nI (m := m) (by omega), ix_nI (m := 8 * b + m) (by omega), hp.1.1 18 _ rfl, ← nI_succ]) FU 0 τ (by omega) (by have : FU = 100000 := rfl; omega) ⟨frm_refl _ _ _, fun k hk => absurd hk (by omega)⟩
  have hc1 : core τ1 = core τ := core_frm hp1.1 aEarn_sc
  obtain ⟨τ2, p1, p2, p3⟩ := putsM τ1 (b := b) (s := s) (by omega) hs
  have hc2 : core τ2 = core τ := (core_frm p2 aPut_sc).trans hc1
  have hN1 : nB τ1 = nB τ := fr nB (fun _ => rfl) hc1
  have hN2 : nB τ2 = nB τ := fr nB (fun _ => rfl) hc2
  have hX1 : ptX τ1 b P := by
    intro j hj hjb k hk
    rw [hN1] at hj
    rw [hp1.1.1 18 _ rfl]
    exact hP j hj hjb k hk
  have hP2 : ptM τ2 (putP P b s) := ptM_putX hX1 (hN2.trans hN1.symm) p3
  obtain ⟨τ3, s1, s2, s3⟩ := sellsM (okM_fr hc2 h) hP2 (drOK_fr (dr := dr) hc2 (fun k => (p2.1 27 k rfl).trans (hp1.1.1 27 k rfl)) hd)
  obtain ⟨τ4, hp4, e4⟩ := loopG (S := St) (fun n s' m => fX9_earnsAt_L43 (nI b) (fun (σ_13 : St) (_ : Int32) => chk (inb (nI b) 4) (some (σ_13, (σ_13.2 23 (ix (nI b)))))) n s' (nI m)) 8 (fun m s' => frm aPut noL τ3 s' ∧ ∀ i : Nat, s'.1 18 i = if 8 * b ≤ i ∧ i < 8 * b + m then τ.1 18 i else τ3.1 18 i) (fun s' => chk (inb (nI b) 4) (some (s', (s'.2 23 (ix (nI b)))))) (fun n s' hp => by
      rw [fX9_earnsAt_L43, if_pos (by decide)]) (fun n m s' hm hp => by
      have cc : ¬ (8 : Int32) ≤ nI m := by rw [le_i, z_8, nI_toInt (by omega)]; omega
      have hin : inb (nI (8 * b + m)) 32 = true := inb_nI (by omega) (by decide)
      have hin2 : inb (nI m) 8 = true := inb_nI (by omega) (by decide)
      have e28 : s'.1 28 m = τ.1 18 (8 * b + m) := by
        rw [hp.1.1 28 m rfl, s2.1 28 m rfl, p2.1 28 m rfl]
        exact hp1.2 m hm
      refine ⟨sI s' 18 (8 * b + m) (τ.1 18 (8 * b + m)), ⟨frm_trans hp.1 (frm_sI _ _ rfl), fun i => ?_⟩, ?_⟩
      · rw [sI_at]
        by_cases e : i = 8 * b + m
        · rw [if_pos e, if_pos (show 8 * b ≤ i ∧ i < 8 * b + (m + 1) by omega), e]
        · rw [if_neg e, hp.2 i]
          by_cases e3 : 8 * b ≤ i ∧ i < 8 * b + m
          · rw [if_pos e3, if_pos (show 8 * b ≤ i ∧ i < 8 * b + (m + 1) by omega)]
          · rw [if_neg e3, if_neg (show ¬ (8 * b ≤ i ∧ i < 8 * b + (m + 1)) by omega)]
      · rw [fX9_earnsAt_L43, if_neg cc, ix8' b (by omega) m hm, chk_t hin2, chk_t hin, bnd_eq, bnd_eq, ix_nI (m := 8 * b + m) (by omega), ix_nI (m := m) (by omega), e28, ← nI_succ]) FU 0 τ3 (by omega) (by have : FU = 100000 := rfl; omega) ⟨frm_refl _ _ _, fun i => by rw [if_neg (by omega)]⟩
  have hinb : inb (nI b) 4 = true := inb_nI (by omega) (by decide)
  refine ⟨τ4, ?_, ?_⟩
  · refine e1.trans ?_
    rw [p1, cl_some, s1, cl_some, bnd_eq]
    refine e4.trans ?_
    rw [chk_t hinb, ix_nI (by omega)]
    have e23 : τ4.2 23 b = Int64.ofInt (atE τ dr P b s) := by
      rw [hp4.1.2 23 b rfl, (s3.1 b (by omega)).2, hN2]
      unfold atE
      show Int64.ofInt (ex 8 (nB τ) (putP P b s) (fun r => earnM τ2 dr r (nS τ2) b)) = _
      rw [fr (fun τ => fun r => earnM τ dr r (nS τ) b) (fun _ => rfl) hc2]
    rw [e23]
  · refine ⟨fun c k q => ?_, fun c k q => ?_⟩
    · by_cases hc : c = 18
      · subst hc
        rw [hp4.2 k]
        by_cases e3 : 8 * b ≤ k ∧ k < 8 * b + 8
        · rw [if_pos e3]
        · rw [if_neg e3, s2.1 18 k rfl, p3 k, if_neg e3, hp1.1.1 18 k rfl]
      · have hcb : aPut c k = false := by
          cases e : aPut c k
          · rfl
          · exact absurd (Nat.eq_of_beq_eq_true e) hc
        rw [hp4.1.1 c k hcb, s2.1 c k (bf q).1, p2.1 c k hcb, hp1.1.1 c k q]
    · rw [hp4.1.2 c k rfl, s2.2 c k q, p2.2 c k rfl, hp1.1.2 c k rfl]
