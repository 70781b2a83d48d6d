/-! chase, the model's rounds -/
theorem dn1 {r : Nat} (h : r < 1000) : nI (r + 1) - 1 = nI r := by
  rw [eq_i, i32_sub (by rw [z_1, nI_toInt (by omega)]; omega) (by rw [z_1, nI_toInt (by omega)]; omega), z_1, nI_toInt (by omega), nI_toInt (by omega)]
  omega
theorem dn2 (x : Int32) : x + (-1 : Int32) = x - 1 := by
  rw [Int32.sub_eq_add_neg]
  all_goals rfl
def rgS (s : St) (cd : Nat → Nat) (i r : Nat) : St := match lstE cd (i + 1) r with
  | none => s
  | some j => sI (sI s 0 63 1) 0 64 (nI (i + 1 - j))
theorem rgS_n {s : St} {cd : Nat → Nat} {i r : Nat} (e : lstE cd (i + 1) r = none) : rgS s cd i r = s := by unfold rgS; rw [e]
theorem rgS_s {s : St} {cd : Nat → Nat} {i r j : Nat} (e : lstE cd (i + 1) r = some j) : rgS s cd i r = sI (sI s 0 63 1) 0 64 (nI (i + 1 - j)) := by unfold rgS; rw [e]
section ChaseM
variable {τ : St} {dr : Nat → Nat} {P0 : Nat → Nat → Int} {st : Nat → Option Nat} {cd : Nat → Nat} {mv : Nat → Bool}
theorem ringM (h : okM τ) (hk : okC τ P0 st) (hcd : ∀ i : Nat, cd i = cdN (stR τ dr P0 st i) (nB τ)) {s : St} (hx : coreX s = coreX τ) {i : Nat} (hi : i + 1 ≤ 60) (h62 : s.1 0 62 = nI (i + 1)) (h63 : s.1 0 63 = 2) (hs : ∀ j : Nat, j ≤ i + 1 → seen s (nB τ) j P0 (stR τ dr P0 st j)) (q1 : Int32) (kx : St → Option (St × Unit)) : ∀ r : Nat, r ≤ i + 1 → ∀ n : Nat, r < n → fX9_chases_L130 q1 (fun (x : St) (_ : Int32) => kx x) n s (nI r - 1) = kx (rgS s cd i r) := by
  have h8 := h.k8
  have o8 : ∀ j b : Nat, b < nB τ → ∀ k : Nat, stR τ dr P0 st j b = some k → k < 8 := fun j b hb k e => by
    have := (stR_ok h hk j (dr := dr)).2 b hb k e
    omega
  intro r
  induction r with
  | zero =>
    intro _ n hn
    cases n with
    | zero => omega
    | succ n =>
      rw [fX9_chases_L130, if_pos (by decide), rgS_n rfl]
  | succ r ih =>
    intro hr n hn
    cases n with
    | zero => omega
    | succ n =>
      have lk := likeM h hx (i := r) (j := i + 1) (by omega) hi (hs r (by omega)) (hs (i + 1) (by omega)) (o8 r) (o8 (i + 1))
      rw [← hcd, ← hcd] at lk
      rw [dn1 (by omega), fX9_chases_L130, if_neg (by rw [lt_i, z_0, nI_toInt (by omega)]; omega), if_pos h63, h62, lk, cl_some, jp_eq]
      by_cases w : cd r = cd (i + 1)
      · have el : lstE cd (i + 1) (r + 1) = some r := by rw [lstE, if_pos w]
        rw [decide_eq_true w, if_neg (show ¬ b01 true = 0 from one0), bnd_eq, bnd_eq, rgS_s el]
        dsimp only
        have e2 : (sI s 0 63 1).1 0 62 - nI r = nI (i + 1 - r) := by
          show s.1 0 62 - nI r = _
          rw [h62, eq_i, i32_sub (by rw [nI_toInt (by omega), nI_toInt (by omega)]; omega) (by rw [nI_toInt (by omega), nI_toInt (by omega)]; omega), nI_toInt (by omega), nI_toInt (by omega), nI_toInt (by omega)]
          omega
        rw [e2, bnd_eq]
        cases n with
        | zero => omega
        | succ n =>
          rw [fX9_chases_L130]
          split
          · rfl
          · rw [if_neg (show ¬ (sI (sI s 0 63 1) 0 64 (nI (i + 1 - r))).1 0 63 = 2 from (by decide : ¬ (1 : Int32) = 2))]
      · have el : lstE cd (i + 1) (r + 1) = lstE cd (i + 1) r := by rw [lstE, if_neg w]
        have er : rgS s cd i (r + 1) = rgS s cd i r := by unfold rgS; rw [el]
        rw [decide_eq_false w, if_pos (show b01 false = 0 from rfl)]
        dsimp only
        rw [bnd_eq, dn2, er]
        exact ih (by omega) n (by omega)
def a62 (c k : Nat) : Bool := Nat.beq c 0 && (Nat.ble 62 k && Nat.ble k 64)
theorem a62_sc : ∀ c k : Nat, a62 c k = true → scM c k = true := by
  intro c k h
  unfold a62 at h
  rw [Bool.and_eq_true, Bool.and_eq_true] at h
  have h1 := Nat.eq_of_beq_eq_true h.1
  have h2 := Nat.le_of_ble_eq_true h.2.1
  have h3 := Nat.le_of_ble_eq_true h.2.2
  subst h1
  have : k = 62 ∨ k = 63 ∨ k = 64 := by omega
  rcases this with w | w | w <;> subst w <;> rfl
def hadM (s τ : St) : Prop := ∀ b : Nat, b < nB τ → s.1 33 b = τ.1 15 b ∧ s.1 33 (4 + b) = τ.1 16 b
theorem chM_62 {s : St} {st' : Nat → Option Nat} (h : chM s τ dr P0 st') {k : Nat} (x : Int32) (hk : a62 0 k = true) : chM (sI s 0 k x) τ dr P0 st' := chM_frm h (frm_sI (b := noL) s x hk) a62_sc (fun _ => rfl) (fun _ => rfl)
theorem chasesM (h : okM τ) (hk : okC τ P0 st) {N : Nat} (hN : N ≤ 60) (hcd : ∀ i : Nat, cd i = cdN (stR τ dr P0 st i) (nB τ)) (hmv : ∀ i : Nat, mv i = mvR τ dr P0 st i) : ∀ (f i : Nat) (s : St), i + f = N → chM s τ dr P0 (stR τ dr P0 st i) → hadM s τ → (∀ j : Nat, j ≤ i → seen s (nB τ) j P0 (stR τ dr P0 st j)) → (∀ j : Nat, j ≤ i → fnd cd j j = none) → s.1 0 62 = nI i → s.1 0 63 = 2 → s.1 0 64 = 0 → ∀ n : Nat, f < n → ∃ s', fX9_chases_L20 (nI N) (fun (σ_37 : St) => some (σ_37, ())) n s = some (s', ()) ∧ chM s' τ dr P0 (stR τ dr P0 st (chR cd mv f i).2.1) ∧ hadM s' τ ∧ s'.1 0 63 = nI (chR cd mv f i).1 ∧ s'.1 0 62 = nI (chR cd mv f i).2.1 ∧ s'.1 0 64 = nI (chR cd mv f i).2.2 := by
  have h4 := h.n4
  intro f
  induction f with
  | zero =>
    intro i s hi hC hH hS hF h62 h63 h64 n hn
    cases n with
    | zero => omega
    | succ n =>
      rw [fX9_chases_L20, if_pos h63, h62, if_pos (by rw [le_i, nI_toInt (by omega), nI_toInt (by omega)]; omega)]
      exact ⟨s, rfl, hC, hH, h63, h62, h64⟩
  | succ f ih =>
    intro i s hi hC hH hS hF h62 h63 h64 n hn
    cases n with
    | zero => omega
    | succ n =>
      obtain ⟨s2, b1, b2, b3⟩ := roundM h (stR_ok h hk i) hC (nI N)
      have k62 : s2.1 0 62 = nI i := (b3.1 0 62 rfl).trans h62
      have k63 : s2.1 0 63 = 2 := (b3.1 0 63 rfl).trans h63
      have k64 : s2.1 0 64 = 0 := (b3.1 0 64 rfl).trans h64
      have e62 : s2.1 0 62 + 1 = nI (i + 1) := by rw [k62, nI_succ]
      have m3 : chM (sI s2 0 62 (nI (i + 1))) τ dr P0 (stR τ dr P0 st (i + 1)) := chM_62 b2 _ rfl
      obtain ⟨s4, d1, d2, d3, d4⟩ := seesM h m3 (i := i + 1) (by omega)
      have m4 : chM s4 τ dr P0 (stR τ dr P0 st (i + 1)) := chM_frm m3 d2 a32_sc (fun _ => rfl) (fun _ => rfl)
      have H4 : hadM s4 τ := fun b hb => by
        rw [d2.1 33 _ rfl, d2.1 33 _ rfl]
        show s2.1 33 b = _ ∧ s2.1 33 (4 + b) = _
        rw [b3.1 33 _ rfl, b3.1 33 _ rfl]
        exact hH b hb
      have S4 : ∀ j : Nat, j ≤ i + 1 → seen s4 (nB τ) j P0 (stR τ dr P0 st j) := fun j hj => by
        by_cases w : j = i + 1
        · subst w; exact d3
        · intro b hb
          have old := hS j (by omega) b hb
          refine ⟨?_, fun k hk => ?_⟩
          · rw [d4 _ (by omega)]
            show s2.1 32 _ = _
            rw [b3.1 32 _ rfl]
            exact old.1
          · rw [d4 _ (by omega)]
            show s2.1 32 _ = _
            rw [b3.1 32 _ rfl]
            exact old.2 k hk
      have g62 : s4.1 0 62 = nI (i + 1) := (d2.1 0 62 rfl).trans rfl
      have g63 : s4.1 0 63 = 2 := (d2.1 0 63 rfl).trans k63
      have g64 : s4.1 0 64 = 0 := (d2.1 0 64 rfl).trans k64
      have emv : (rndI τ dr P0 (stR τ dr P0 st i) (nB τ)).2 = mv i := (hmv i).symm
      rw [fX9_chases_L20, if_pos h63, h62, if_neg (by rw [le_i, nI_toInt (by omega), nI_toInt (by omega)]; omega), bnd_eq, bnd_eq, b1, e62, bnd_eq, show (sI s2 0 62 (nI (i + 1))).1 0 62 = nI (i + 1) from rfl, d1, cl_some, jp_eq, emv]
      cases hm : mv i with
      | false =>
        rw [if_pos (show b01 false = 0 from rfl), bnd_eq]
        have G62 : (sI s4 0 63 0).1 0 62 = nI (i + 1) := g62
        have G63 : (sI s4 0 63 0).1 0 63 = nI 0 := rfl
        have G64 : (sI s4 0 63 0).1 0 64 = 0 := g64
        have M5 : chM (sI s4 0 63 0) τ dr P0 (stR τ dr P0 st (i + 1)) := chM_62 m4 _ rfl
        have H5 : hadM (sI s4 0 63 0) τ := H4
        generalize sI s4 0 63 0 = s5 at G62 G63 G64 M5 H5
        have N63 : ¬ s5.1 0 63 = 2 := by rw [G63]; decide
        dsimp only
        rw [bnd_eq, G62, dn1 (by omega), show FU = 99999 + 1 from rfl, fX9_chases_L130, if_neg (by rw [lt_i, z_0, nI_toInt (by omega)]; omega), if_neg N63]
        cases n with
        | zero => omega
        | succ n =>
          rw [fX9_chases_L20, if_neg N63, chR_0 hm]
          exact ⟨s5, rfl, M5, H5, G63, G62, G64⟩
      | true =>
        rw [if_neg (show ¬ b01 true = 0 from one0)]
        dsimp only
        rw [bnd_eq, g62, ringM h hk hcd m4.1 (by omega) g62 g63 S4 (nI N) (fun (σ_34 : St) => fX9_chases_L20 (nI N) (fun (σ_37 : St) => some (σ_37, ())) n σ_34) (i + 1) (Nat.le_refl _) FU (by have : FU = 100000 := rfl; omega)]
        have ell := lst_fnd hF
        cases ef : fnd cd (i + 1) (i + 1) with
        | some j =>
          rw [rgS_s (ell.trans ef)]
          cases n with
          | zero => omega
          | succ n =>
            rw [fX9_chases_L20, if_neg (show ¬ (sI (sI s4 0 63 1) 0 64 (nI (i + 1 - j))).1 0 63 = 2 from (by decide : ¬ (1 : Int32) = 2)), chR_1 hm ef]
            exact ⟨_, rfl, chM_62 (chM_62 m4 _ rfl) _ rfl, H4, rfl, g62, rfl⟩
        | none =>
          rw [rgS_n (ell.trans ef), chR_2 hm ef]
          exact ih (i + 1) s4 (by omega) m4 H4 S4 (fun j hj => by
            by_cases w : j = i + 1
            · subst w; exact ef
            · exact hF j (by omega)) g62 g63 g64 n (by omega)
end ChaseM
def a33 (c _k : Nat) : Bool := Nat.beq c 33
theorem a33_sc : ∀ c k : Nat, a33 c k = true → scM c k = true := by
  intro c k h
  have := Nat.eq_of_beq_eq_true h
  subst this
  rfl
theorem nI4 {m : Nat} (h : m < 1000) : (4 : Int32) + nI m = nI (4 + m) := by
  rw [show (4 : Int32) = nI 4 from rfl, nI_plus (by omega)]
theorem saveM {τ' τ : St} (h : okM τ) (hc : core τ' = core τ) (q1 q2 : Int32) : ∃ s, (∀ k : St → Int32 → Option (St × Int32), fX9_chase_L83 q1 q2 k FU τ' 0 = k s (nI (nB τ))) ∧ frm a33 noL τ' s ∧ hadM s τ := by
  have h4 := h.n4
  obtain ⟨s, hp, e⟩ := loopK (S := St) (fun (k : St → Int32 → Option (St × Int32)) n s m => fX9_chase_L83 q1 q2 k n s (nI m)) (fun k s => k s (nI (nB τ))) (nB τ) (fun m s => frm a33 noL τ' s ∧ ∀ b : Nat, b < m → s.1 33 b = τ.1 15 b ∧ s.1 33 (4 + b) = τ.1 16 b) (fun k n s hp => by
      have hcs : core s = core τ := (core_frm hp.1 a33_sc).trans hc
      have e0 : s.1 0 0 = nI (nB τ) := by rw [fr (fun σ => σ.1 0 0) (fun _ => rfl) hcs]; exact (rgn h.hB (by decide)).1
      rw [fX9_chase_L83, e0, if_pos (by rw [le_i]; omega)]) (fun n m s hm hp => by
      have hcs : core s = core τ := (core_frm hp.1 a33_sc).trans hc
      have e0 : s.1 0 0 = nI (nB τ) := by rw [fr (fun σ => σ.1 0 0) (fun _ => rfl) hcs]; exact (rgn h.hB (by decide)).1
      have e15 : s.1 15 m = τ.1 15 m := fr (fun σ => σ.1 15 m) (fun _ => rfl) hcs
      have e16 : (sI s 33 m (τ.1 15 m)).1 16 m = τ.1 16 m := by rw [sI_ne (by decide)]; exact fr (fun σ => σ.1 16 m) (fun _ => rfl) hcs
      refine ⟨sI (sI s 33 m (τ.1 15 m)) 33 (4 + m) (τ.1 16 m), ⟨frm_trans hp.1 (frm_trans (frm_sI _ _ rfl) (frm_sI _ _ rfl)), fun b hb => ?_⟩, fun k => ?_⟩
      · rw [sI_at, sI_at, sI_at, sI_at]
        by_cases w : b = m
        · rw [if_neg (by omega), if_pos w, if_pos (by omega), w]
          exact ⟨rfl, rfl⟩
        · rw [if_neg (by omega), if_neg w, if_neg (by omega), if_neg (by omega)]
          exact hp.2 b (by omega)
      · rw [fX9_chase_L83, e0, if_neg (by rw [le_i, nI_toInt (by omega), nI_toInt (by omega)]; omega), chk_t (inb_nI (by omega) (by decide)), chk_t (inb_nI (by omega) (by decide)), ix_nI (m := m) (by omega), e15, bnd_eq, chk_t (inb_nI (by omega) (by decide)), nI4 (by omega), chk_t (inb_nI (by omega) (by decide)), ix_nI (m := 4 + m) (by omega), e16, bnd_eq, bnd_eq, nI_succ]
        all_goals rfl) FU 0 τ' (by omega) (by have : FU = 100000 := rfl; omega) ⟨frm_refl _ _ _, fun b hb => absurd hb (by omega)⟩
  exact ⟨s, e, hp.1, hp.2⟩
theorem chBackM {s τ : St} {dr : Nat → Nat} {P0 : Nat → Nat → Int} {st : Nat → Option Nat} (h : okM τ) (hC : chM s τ dr P0 st) (hH : hadM s τ) (q : Int32) : ∃ s2, (∀ k : St → Int32 → Option (St × Int32), fX9_chase_L193 q k FU s 0 = k s2 (nI (nB τ))) ∧ core s2 = core τ := by
  have h4 := h.n4
  obtain ⟨s2, hp, e⟩ := loopK (S := St) (fun (k : St → Int32 → Option (St × Int32)) n s m => fX9_chase_L193 q k n s (nI m)) (fun k s => k s (nI (nB τ))) (nB τ) (fun m x => coreX x = coreX τ ∧ (∀ b : Nat, (b < m ∨ nB τ ≤ b) → x.1 15 b = τ.1 15 b ∧ x.1 16 b = τ.1 16 b) ∧ hadM x τ) (fun k n x hp => by
      have e0 : x.1 0 0 = nI (nB τ) := by rw [frX (fun σ => σ.1 0 0) (fun _ => rfl) hp.1]; exact (rgn h.hB (by decide)).1
      rw [fX9_chase_L193, e0, if_pos (by rw [le_i]; omega)]) (fun n m x hm hp => by
      have e0 : x.1 0 0 = nI (nB τ) := by rw [frX (fun σ => σ.1 0 0) (fun _ => rfl) hp.1]; exact (rgn h.hB (by decide)).1
      have h33 := hp.2.2 m hm
      refine ⟨sI (sI x 15 m (τ.1 15 m)) 16 m (τ.1 16 m), ⟨(coreX_sI _ (Or.inr rfl)).trans ((coreX_sI _ (Or.inl rfl)).trans hp.1), fun b hb => ?_, fun b hb => hp.2.2 b hb⟩, fun k => ?_⟩
      · have a15 : (sI (sI x 15 m (τ.1 15 m)) 16 m (τ.1 16 m)).1 15 b = if b = m then τ.1 15 m else x.1 15 b := by rw [sI_ne (by decide), sI_at]
        have a16 : (sI (sI x 15 m (τ.1 15 m)) 16 m (τ.1 16 m)).1 16 b = if b = m then τ.1 16 m else x.1 16 b := by rw [sI_at, sI_ne (by decide)]
        rw [a15, a16]
        by_cases w : b = m
        · rw [if_pos w, if_pos w, w]; exact ⟨rfl, rfl⟩
        · rw [if_neg w, if_neg w]; exact hp.2.1 b (by omega)
      · rw [fX9_chase_L193, e0, if_neg (by rw [le_i, nI_toInt (by omega), nI_toInt (by omega)]; omega), chk_t (inb_nI (by omega) (by decide)), chk_t (inb_nI (by omega) (by decide)), ix_nI (m := m) (by omega), h33.1, bnd_eq, nI4 (by omega), chk_t (inb_nI (by omega) (by decide)), chk_t (inb_nI (by omega) (by decide)), ix_nI (m := 4 + m) (by omega), show (sI x 15 m (τ.1 15 m)).1 33 (4 + m) = τ.1 16 m from h33.2, bnd_eq, bnd_eq, nI_succ]
        all_goals rfl) FU 0 s (by omega) (by have : FU = 100000 := rfl; omega) ⟨hC.1, fun b hb => hC.2.2.2.1 b (by omega), hH⟩
  refine ⟨s2, e, St_ext (fun c j => ?_) (fun _ _ => rfl)⟩
  have ex : (coreX s2).1 c j = (coreX τ).1 c j := by rw [hp.1]
  have ex2 : cond (Nat.beq c 15 || Nat.beq c 16) 0 ((core s2).1 c j) = cond (Nat.beq c 15 || Nat.beq c 16) 0 ((core τ).1 c j) := ex
  cases q15 : Nat.beq c 15 with
  | true =>
    have := Nat.eq_of_beq_eq_true q15
    subst this
    exact (hp.2.1 j (by omega)).1
  | false =>
    cases q16 : Nat.beq c 16 with
    | true =>
      have := Nat.eq_of_beq_eq_true q16
      subst this
      exact (hp.2.1 j (by omega)).2
    | false =>
      rw [q15, q16] at ex2
      exact ex2
theorem ansM {τ : St} (h : okM τ) (p1 p2 : Int32) (k : St → Int32 → Option (St × Int32)) : ((∀ b : Nat, b < nB τ → ¬ (τ.1 15 b).toInt = 3) ∧ fX9_chase_L46 p1 p2 k FU τ 0 = k τ (nI (nB τ))) ∨ (fX9_chase_L46 p1 p2 k FU τ 0 = some (τ, -1) ∧ ∃ b : Nat, b < nB τ ∧ (τ.1 15 b).toInt = 3) := by
  have h4 := h.n4
  have z3 : (3 : Int32).toInt = 3 := by decide
  have e0 : τ.1 0 0 = nI (nB τ) := (rgn h.hB (by decide)).1
  have key := loopX (S := Unit) (fun n _ m => fX9_chase_L46 p1 p2 k n τ (nI m)) (nB τ) (fun m _ => ∀ b : Nat, b < m → ¬ (τ.1 15 b).toInt = 3) (fun _ => k τ (nI (nB τ))) (fun res => res = some (τ, -1) ∧ ∃ b : Nat, b < nB τ ∧ (τ.1 15 b).toInt = 3) (fun n s hp => by
      show fX9_chase_L46 _ _ _ (n + 1) τ _ = _
      rw [fX9_chase_L46, e0, if_pos (by rw [le_i]; omega)]) (fun n m s hm hp => by
      show (∃ s', _ ∧ fX9_chase_L46 _ _ _ (n + 1) τ _ = _) ∨ (fX9_chase_L46 _ _ _ (n + 1) τ _ = _ ∧ _)
      rw [fX9_chase_L46, e0, if_neg (by rw [le_i, nI_toInt (by omega), nI_toInt (by omega)]; omega), chk_t (inb_nI (by omega) (by decide)), ix_nI (m := m) (by omega)]
      by_cases w : (τ.1 15 m).toInt = 3
      · rw [if_pos (show τ.1 15 m = 3 by rw [eq_i, z3]; exact w)]
        exact Or.inr ⟨rfl, m, hm, w⟩
      · rw [if_neg (show ¬ τ.1 15 m = 3 from fun q => w (by rw [q, z3]))]
        refine Or.inl ⟨(), fun b hb => ?_, by rw [bnd_eq, nI_succ]; all_goals rfl⟩
        by_cases e : b = m
        · subst e; exact w
        · exact hp b (by omega)) FU 0 () (by omega) (by have : FU = 100000 := rfl; omega) (fun b hb => absurd hb (by omega))
  rcases key with ⟨_, hx, e⟩ | e
  · exact Or.inl ⟨hx, e⟩
  · exact Or.inr e
theorem scanW_nn {τ : St} : ∀ n : Nat, scanW τ n = some none → ∀ b : Nat, b < n → ¬ (τ.1 15 b).toInt = 3 := by
  intro n
  induction n with
  | zero => intro _ b hb; omega
  | succ n ih =>
    intro h b hb
    cases e : scanW τ n with
    | none => rw [scanW_none n (n + 1) (by omega) e] at h; cases h
    | some a0 =>
      by_cases h3 : (τ.1 15 n).toInt = 3
      · cases a0 with
        | none => rw [scanW_an0 e h3] at h; cases h
        | some q => rw [scanW_an1 e h3] at h; cases h
      · by_cases ho : okLot τ n
        · rw [scanW_ok e h3 ho] at h
          cases h
          by_cases w : b = n
          · subst w; exact h3
          · exact ih e b (by omega)
        · rw [scanW_no e h3 ho] at h; cases h
theorem bestN_free {bar : Nat → Prop} [DecidablePred bar] {v : Nat → Int} : ∀ n : Nat, bestN bar v n = none → ∀ k : Nat, k < n → bar k := by
  intro n
  induction n with
  | zero => intro _ k hk; omega
  | succ n ih =>
    intro h k hk
    by_cases w : bar n
    · rw [bestN_bar w] at h
      by_cases e : k = n
      · subst e; exact w
      · exact ih h k (by omega)
    · cases e : bestN bar v n with
      | none => rw [bestN_new w e] at h; cases h
      | some m =>
        rw [bestN_old w e] at h
        by_cases q : v m < v n
        · rw [if_pos q] at h; cases h
        · rw [if_neg q] at h; cases h
theorem okR_free {τ : St} {P : Nat → Nat → Int} (hR : okR τ P) : ∃ k : Nat, k < nK τ ∧ ¬ barN τ k := by
  apply Classical.byContradiction
  intro no
  have z : ∀ k : Nat, k < 8 → P 0 k = 0 := fun k hk => by
    rcases ((hR.2 0 hR.1).1 k hk).2.2 with w | w
    · exact w
    · exact absurd ⟨k, w⟩ no
  have := (hR.2 0 hR.1).2
  rw [sumN_zero 8 z] at this
  exact absurd this (by decide)
theorem go2C {σ τ : St} {dr : Nat → Nat} (h : okM τ) (ha : okA τ) (c : clsR σ τ dr) (ho : opnd σ τ (frc τ) dr) (hC : ptC σ (nB τ) (lotP τ)) (hR : okR τ (lotP τ)) {N : Nat} (hN : N ≤ 60) {cd : Nat → Nat} {mv : Nat → Bool} (hcd : ∀ i : Nat, cd i = cdN (stR τ dr (lotP τ) (st0 τ) i) (nB τ)) (hmv : ∀ i : Nat, mv i = mvR τ dr (lotP τ) (st0 τ) i) : ∃ σ2, fX0_go σ (nI N) = some (σ2, ()) ∧ frm mGo (mk 51 52) σ σ2 ∧ σ2.1 58 5 = nI (chR cd mv N 0).1 ∧ σ2.1 58 6 = nI (chR cd mv N 0).2.1 ∧ σ2.1 58 7 = nI (chR cd mv N 0).2.2 ∧ ∀ b : Nat, b < nB τ → σ2.1 59 b = encN (stR τ dr (lotP τ) (st0 τ) (chR cd mv N 0).2.1 b) := by
  have hk := okC_0 ha hR
  obtain ⟨σ1, a1, a2, a3, a4, a5, a6⟩ := beginC h ha c hC hR
  have c1 := clsR_fr (coreC_frm a2 (mk43 (by omega))) c
  have o1 : opnd σ1 τ (frc τ) dr := opnd_fr (a2.1 43 14 rfl) (a2.1 43 15 rfl) (fun i => a2.1 44 i rfl) ho
  have C1 : ptC σ1 (nB τ) (PS (lotP τ) (st0 τ)) := fun j hj k hk => by rw [a2.1 45 _ rfl, PS_st0 ha hj]; exact hC j hj k hk
  have h0 : ∀ j : Nat, j ≤ 0 → σ1.1 60 j = nI (cd j) := fun j hj => by
    have : j = 0 := by omega
    subst this
    rw [hcd]
    exact a4
  obtain ⟨σ2, b1, b2, b3⟩ := goC h hk c1 o1 hN hcd hmv N 0 σ1 (by omega) (frm_refl _ _ _) C1 a3 h0 a5 a6 FU (by have : FU = 100000 := rfl; omega)
  refine ⟨σ2, ?_, frm_trans (frm_mono mGo_60 noL_any a2) b2, b3⟩
  unfold fX0_go
  rw [a1, cl_some, bnd_eq]
  exact b1
theorem chases2M {τ' τ : St} {dr : Nat → Nat} (h : okM τ) (ha : okA τ) (hC : chM τ' τ dr (lotP τ) (st0 τ)) (hH : hadM τ' τ) (hR : okR τ (lotP τ)) {N : Nat} (hN : N ≤ 60) {cd : Nat → Nat} {mv : Nat → Bool} (hcd : ∀ i : Nat, cd i = cdN (stR τ dr (lotP τ) (st0 τ) i) (nB τ)) (hmv : ∀ i : Nat, mv i = mvR τ dr (lotP τ) (st0 τ) i) : ∃ s', fX9_chases τ' (nI N) = some (s', ()) ∧ chM s' τ dr (lotP τ) (stR τ dr (lotP τ) (st0 τ) (chR cd mv N 0).2.1) ∧ hadM s' τ ∧ s'.1 0 63 = nI (chR cd mv N 0).1 ∧ s'.1 0 62 = nI (chR cd mv N 0).2.1 ∧ s'.1 0 64 = nI (chR cd mv N 0).2.2 := by
  have hk := okC_0 ha hR
  have m3 : chM (sI (sI (sI τ' 0 62 0) 0 63 2) 0 64 0) τ dr (lotP τ) (st0 τ) := chM_62 (chM_62 (chM_62 hC _ rfl) _ rfl) _ rfl
  obtain ⟨s4, d1, d2, d3, d4⟩ := seesM h m3 (i := 0) (by omega)
  have m4 : chM s4 τ dr (lotP τ) (st0 τ) := chM_frm m3 d2 a32_sc (fun _ => rfl) (fun _ => rfl)
  have H4 : hadM s4 τ := fun b hb => by
    rw [d2.1 33 _ rfl, d2.1 33 _ rfl]
    exact hH b hb
  have S4 : ∀ j : Nat, j ≤ 0 → seen s4 (nB τ) j (lotP τ) (stR τ dr (lotP τ) (st0 τ) j) := fun j hj => by
    have : j = 0 := by omega
    subst this
    exact d3
  have F4 : ∀ j : Nat, j ≤ 0 → fnd cd j j = none := fun j hj => by
    have : j = 0 := by omega
    subst this
    rfl
  unfold fX9_chases
  rw [bnd_eq, bnd_eq, bnd_eq, show (0 : Int32) = nI 0 from rfl]
  rw [show nI 0 = (0 : Int32) from rfl] at d1 ⊢
  rw [d1, cl_some]
  exact chasesM h hk hN hcd hmv N 0 s4 (by omega) m4 H4 S4 F4 (d2.1 0 62 rfl) (d2.1 0 63 rfl) (d2.1 0 64 rfl) FU (by have : FU = 100000 := rfl; omega)
