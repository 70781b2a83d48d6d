/-! look -/
theorem bestN_nn {bar : Nat → Prop} [DecidablePred bar] {v v' : Nat → Int} : ∀ n : Nat, bestN bar v n = none → bestN bar v' n = none := by
  intro n
  induction n with
  | zero => intro _; rfl
  | succ n ih =>
    intro h
    by_cases hb : bar n
    · rw [bestN_bar hb] at h ⊢
      exact ih h
    · cases e : bestN bar v n with
      | none => rw [bestN_new hb e] at h; cases h
      | some m =>
        rw [bestN_old hb e] at h
        by_cases w : v m < v n
        · rw [if_pos w] at h; cases h
        · rw [if_neg w] at h; cases h
theorem rdy_any {τ : St} {dr dr' : Nat → Nat} (h : rdy τ dr' = none) : rdy τ dr = none := by
  cases e : scanW τ (nB τ) with
  | none => exact rdy_no e
  | some a =>
    cases a with
    | none => rw [rdy_pl e] at h ⊢; exact h
    | some q =>
      cases eb : bestN (barN τ) (atE τ dr' (lotP τ) q) (nK τ) with
      | none => exact rdy_an0 e (bestN_nn _ eb)
      | some k => rw [rdy_an1 e eb] at h; cases h
noncomputable def Pd (τ : St) (dr : Nat → Nat) : Nat → Nat → Int := match rdy τ dr with
  | none => lotP τ
  | some P => P
theorem Pd_some {τ : St} {dr : Nat → Nat} {P : Nat → Nat → Int} (h : rdy τ dr = some P) : Pd τ dr = P := by unfold Pd; rw [h]
theorem rdy_Pd {τ : St} {dr0 : Nat → Nat} {P0 : Nat → Nat → Int} (h : rdy τ dr0 = some P0) (dr : Nat → Nat) : rdy τ dr = some (Pd τ dr) := by
  cases e : rdy τ dr with
  | none => rw [rdy_any (dr := dr0) e] at h; cases h
  | some P => rw [Pd_some e]
def opn (dr : Nat → Nat) (s d : Nat) : Nat → Nat := fun j => if j = s then dr s ||| 2 ^ d else dr j
theorem putP_putP (P : Nat → Nat → Int) (a k s : Nat) : putP (putP P a k) a s = putP P a s := by
  funext j i
  unfold putP
  by_cases e : j = a
  · rw [if_pos e, if_pos e]
  · rw [if_neg e, if_neg e, if_neg e]
theorem atE_put (τ : St) (dr : Nat → Nat) (P : Nat → Nat → Int) (a k : Nat) : atE τ dr (putP P a k) a = atE τ dr P a := by
  funext s
  unfold atE
  rw [putP_putP]
def mLk (c k : Nat) : Bool := Nat.beq c 9 || mk 43 50 c k
theorem mLk_50 {lo hi : Nat} (h1 : 43 ≤ lo) (h2 : hi ≤ 50) : ∀ c k : Nat, mLk c k = false → mk lo hi c k = false := fun c k h => mk_mono h1 h2 c k (bf h).2
/-- the class while women look -/
def lkC (σ' σ τ : St) (a : Option Nat) (dr : Nat → Nat) : Prop := frm mLk (mk 51 52) σ' σ ∧ clsR σ τ dr ∧ (σ.1 43 14 = 0 ∧ (∀ k : Nat, k < 8 → (frB (σ.1 43 15) k ↔ k < nK τ ∧ ¬ barF τ (frc τ) k)) ∧ σ.1 43 16 = encN a) ∧ ptC σ (nB τ) (Pd τ dr)
def lkM (τ2 τ : St) (dr : Nat → Nat) : Prop := core τ2 = core τ ∧ drOK τ2 dr ∧ ptM τ2 (Pd τ dr)
theorem clsR_open {σ τ : St} {dr : Nat → Nat} (c : clsR σ τ dr) {s d : Nat} (hd : d < nB τ) (x : Int32) (hx : x = nI (dr s ||| 2 ^ d)) : clsR (sI σ 9 s x) τ (opn dr s d) := by
  refine ⟨c.1, fun j hj => ?_, c.2.2.1, c.2.2.2.1, c.2.2.2.2⟩
  obtain ⟨a1, a2, a3, a4, a5⟩ := c.2.1 j hj
  refine ⟨a1, a2, a3, a4, fun hk => ?_⟩
  obtain ⟨b1, b2⟩ := a5 hk
  rw [sI_at]
  unfold opn
  by_cases e : j = s
  · rw [if_pos e, if_pos e, hx]
    rw [← e]
    exact ⟨rfl, or_lt b2 hd⟩
  · rw [if_neg e, if_neg e]
    exact ⟨b1, b2⟩
def b01 (b : Bool) : Int32 := cond b 1 0
noncomputable def lkI (τ : St) (dr0 : Nat → Nat) : Nat → (Nat → Nat) × Bool
  | 0 => (dr0, false)
  | m + 1 => if knd τ m = 0 then (match (wdN τ (lkI τ dr0 m).1 (Pd τ (lkI τ dr0 m).1) m (nB τ)).1 with
    | none => lkI τ dr0 m
    | some d => (opn (lkI τ dr0 m).1 m d, true)) else lkI τ dr0 m
theorem lkI_no {τ : St} {dr0 : Nat → Nat} {m : Nat} (h : ¬ knd τ m = 0) : lkI τ dr0 (m + 1) = lkI τ dr0 m := by rw [lkI, if_neg h]
theorem lkI_nd {τ : St} {dr0 : Nat → Nat} {m : Nat} (h : knd τ m = 0) (e : (wdN τ (lkI τ dr0 m).1 (Pd τ (lkI τ dr0 m).1) m (nB τ)).1 = none) : lkI τ dr0 (m + 1) = lkI τ dr0 m := by rw [lkI, if_pos h, e]
theorem lkI_d {τ : St} {dr0 : Nat → Nat} {m d : Nat} (h : knd τ m = 0) (e : (wdN τ (lkI τ dr0 m).1 (Pd τ (lkI τ dr0 m).1) m (nB τ)).1 = some d) : lkI τ dr0 (m + 1) = (opn (lkI τ dr0 m).1 m d, true) := by rw [lkI, if_pos h, e]
section Look
variable {σ' τ : St} {a : Option Nat} {P0 : Nat → Nat → Int}
theorem openStep (h : okM τ) (ha : okA τ) (hs : ¬ shN τ) (hsc : scanW τ (nB τ) = some a) (h0 : rdy τ (nmd τ) = some P0) {σ : St} {dr : Nat → Nat} (hl : lkC σ' σ τ a dr) {s d : Nat} (hsn : s < nS τ) (hk : knd τ s = 0) (hd : d < nB τ) (kont : St → Int32 → Option (St × Int32)) : ∃ σ2, lkC σ' σ2 τ a (opn dr s d) ∧ (chk (inb (nI s) 12) (chk (inb (nI s) 12) (bnd (sI σ 9 (ix (nI s)) ((σ.1 9 (ix (nI s))) ||| ((1 : Int32) <<< (nI d &&& 31)))) fun (σ_12 : St) => bnd (1 : Int32) fun (x3_13 : Int32) => (if (σ_12.1 43 16) = (-1 : Int32) then kont σ_12 x3_13 else cl (fX7_gather σ_12 ) fun (σ_14 : St) (_ : Unit) => cl (fX7_answerAnew σ_14 ) fun (σ_16 : St) (_ : Int32) => kont σ_16 x3_13)))) = kont σ2 1 := by
  have h4 := h.n4
  have h8 := h.k8
  have h12 := h.n12
  have h16 := h.p16
  obtain ⟨l1, l2, ⟨l3, l4, l5⟩, l6⟩ := hl
  have pw := pow2b d (by omega)
  have hin : inb (nI s) 12 = true := inb_nI (by omega) (by decide)
  obtain ⟨d1, d2⟩ := (l2.sort hsn).2.2.2.2 hk
  have ex : σ.1 9 (ix (nI s)) ||| ((1 : Int32) <<< (nI d &&& 31)) = nI (dr s ||| 2 ^ d) := by
    rw [ix_nI (m := s) (by omega), d1, (sh1 d (by omega)).1, (or16 (dr s) (by omega) (2 ^ d) pw.1).1]
  rw [chk_t hin, chk_t hin, ex, ix_nI (m := s) (by omega), bnd_eq, bnd_eq]
  have f1 : frm mLk (mk 51 52) σ' (sI σ 9 s (nI (dr s ||| 2 ^ d))) := frm_trans l1 (frm_sI _ _ rfl)
  have c1 := clsR_open l2 (s := s) hd (nI (dr s ||| 2 ^ d)) rfl
  have v14 : (sI σ 9 s (nI (dr s ||| 2 ^ d))).1 43 14 = 0 := l3
  have v15 : (sI σ 9 s (nI (dr s ||| 2 ^ d))).1 43 15 = σ.1 43 15 := rfl
  have v16 : (sI σ 9 s (nI (dr s ||| 2 ^ d))).1 43 16 = encN a := l5
  have v45 : ∀ i : Nat, (sI σ 9 s (nI (dr s ||| 2 ^ d))).1 45 i = σ.1 45 i := fun i => rfl
  generalize sI σ 9 s (nI (dr s ||| 2 ^ d)) = σ1 at f1 c1 v14 v15 v16 v45
  have hr0 := rdy_Pd h0 dr
  have hr1 := rdy_Pd h0 (opn dr s d)
  cases a with
  | none =>
    rw [v16, if_pos (show encN none = -1 from rfl)]
    refine ⟨σ1, ⟨f1, c1, ⟨v14, by rw [v15]; exact l4, v16⟩, fun j hj k hkk => ?_⟩, rfl⟩
    have e : Pd τ (opn dr s d) = Pd τ dr := by
      rw [rdy_pl hsc] at hr0 hr1
      rw [hr0] at hr1
      exact (Option.some.inj hr1).symm
    rw [v45, e]
    exact l6 j hj k hkk
  | some q =>
    obtain ⟨s1, s2⟩ := scanW_a _ _ hsc
    have hq := (s1 q rfl).1
    rw [v16, if_neg (show ¬ encN (some q) = -1 from nI_ne_m1 (by omega))]
    obtain ⟨σ2, g1, g2, g3⟩ := gatherC h c1 (shN τ) (by rw [v14, if_neg hs])
    have c2 := clsR_fr (coreC_frm g2 (mk43 (by omega))) c1
    have o2 : opnd σ2 τ (frc τ) (opn dr s d) := ⟨by rw [g2.1 43 14 rfl, v14]; exact (if_neg hs).symm, by rw [g2.1 43 15 rfl, v15]; exact l4, g3⟩
    -- the parts of the others are as they were told
    obtain ⟨k0, ek0, eP⟩ : ∃ k0 : Nat, bestN (barN τ) (atE τ dr (lotP τ) q) (nK τ) = some k0 ∧ Pd τ dr = putP (lotP τ) q k0 := by
      cases eb : bestN (barN τ) (atE τ dr (lotP τ) q) (nK τ) with
      | none => rw [rdy_an0 hsc eb] at hr0; cases hr0
      | some k => rw [rdy_an1 hsc eb] at hr0; exact ⟨k, rfl, (Option.some.inj hr0).symm⟩
    have hjP : ∀ j : Nat, j ≠ q → Pd τ dr j = lotP τ j := fun j hj => by rw [eP]; funext i; unfold putP; rw [if_neg hj]
    have hPq : ∀ j : Nat, j < nB τ → j ≠ q → ∀ k : Nat, k < 8 → σ2.1 45 (8 * j + k) = Int32.ofInt (Pd τ dr j k) ∧ 0 ≤ Pd τ dr j k ∧ Pd τ dr j k ≤ 100 := fun j hj hne k hkk => by
      rw [g2.1 45 _ rfl, v45]
      refine ⟨l6 j hj k hkk, ?_⟩
      rw [hjP j hne]
      exact lotP_b ha hj hkk
    have hz : ∀ j : Nat, j < nB τ → j ≠ q → ∀ k : Nat, nK τ ≤ k → k < 8 → Pd τ dr j k = 0 := fun j hj hne k h1 hkk => by
      rw [hjP j hne]
      rcases (s2 j hj (by intro w; cases w; exact hne rfl)).1 k hkk with w | w
      · exact w
      · omega
    obtain ⟨σ3, x, d3, d4, d5⟩ := answerC h c2 o2 (by rw [g2.1 43 16 rfl]; exact v16) hq hPq hz
    rw [g1, cl_some, d3, cl_some]
    have f3 : frm mLk (mk 51 52) σ' σ3 := frm_trans f1 (frm_trans (frm_mono (mLk_50 (by omega) (by omega)) noL_any g2) (frm_mono (mLk_50 (by omega) (by omega)) (fun _ _ w => w) d4))
    have c3 := clsR_fr (coreC_frm d4 (mk43 (by omega))) c2
    have e2 : bestN (barN τ) (atE τ (opn dr s d) (Pd τ dr) q) (nK τ) = bestN (barN τ) (atE τ (opn dr s d) (lotP τ) q) (nK τ) := by rw [eP, atE_put]
    rw [e2] at d5
    refine ⟨σ3, ⟨f3, c3, ⟨by rw [d4.1 43 14 rfl, g2.1 43 14 rfl]; exact v14, by rw [d4.1 43 15 rfl, g2.1 43 15 rfl, v15]; exact l4, by rw [d4.1 43 16 rfl, g2.1 43 16 rfl]; exact v16⟩, ?_⟩, rfl⟩
    rcases d5 with ⟨_, w⟩ | ⟨k, _, w, w2⟩
    · rw [rdy_an0 hsc w] at hr1; cases hr1
    · rw [rdy_an1 hsc w] at hr1
      have e3 : Pd τ (opn dr s d) = putP (lotP τ) q k := (Option.some.inj hr1).symm
      rw [e3]
      rw [eP, putP_putP] at w2
      exact w2
theorem lookInC (h : okM τ) (ha : okA τ) (hs : ¬ shN τ) (hsc : scanW τ (nB τ) = some a) (h0 : rdy τ (nmd τ) = some P0) {σ : St} {dr : Nat → Nat} (hl : lkC σ' σ τ a dr) (q1 q2 : Int32) (kont : St → Int32 → Option (St × Int32)) : ∃ σ2, fX7_lookAround_L12 q1 q2 (fun (σ_20 : St) (x3_21 : Int32) (_ : Int32) => kont σ_20 x3_21) FU σ 0 0 = kont σ2 (b01 (lkI τ dr (nS τ)).2) ∧ lkC σ' σ2 τ a (lkI τ dr (nS τ)).1 := by
  have h12 := h.n12
  have h4 := h.n4
  obtain ⟨s, hp, e⟩ := loopG (S := St × Int32) (fun n s m => fX7_lookAround_L12 q1 q2 (fun (σ_20 : St) (x3_21 : Int32) (_ : Int32) => kont σ_20 x3_21) n s.1 s.2 (nI m)) (nS τ) (fun m s => lkC σ' s.1 τ a (lkI τ dr m).1 ∧ s.2 = b01 (lkI τ dr m).2) (fun s => kont s.1 s.2) (fun n s hp => by
      show fX7_lookAround_L12 _ _ _ (n + 1) s.1 s.2 _ = _
      rw [fX7_lookAround_L12, hp.1.2.1.ns h, if_pos (by rw [le_i]; omega)]) (fun n m s hm hp => by
      obtain ⟨p1, p2⟩ := hp
      have c1 := p1.2.1
      have hW : okW τ (Pd τ (lkI τ dr m).1) := (rdy_ok h ha (rdy_Pd h0 (lkI τ dr m).1)).w
      have hb : 0 ≤ (nI m).toInt ∧ (nI m).toInt < (τ.1 0 1).toInt := by rw [nI_toInt (by omega), h.ns]; omega
      have em : (nI m).toInt.toNat = m := by rw [nI_toInt (by omega)]; omega
      show ∃ s' : St × Int32, _ ∧ fX7_lookAround_L12 _ _ _ (n + 1) s.1 s.2 _ = _
      rw [fX7_lookAround_L12, c1.ns h, if_neg (by rw [le_i, nI_toInt (by omega), nI_toInt (by omega)]; omega), isWomenC h c1, cl_some, em, jp_eq]
      by_cases hk : knd τ m = 0
      · rw [if_pos (show (0 ≤ (nI m).toInt ∧ (nI m).toInt < (τ.1 0 1).toInt) ∧ knd τ m = 0 from ⟨hb, hk⟩), if_neg one0, wishedC h c1 p1.2.2.2 hW hm hk, cl_some]
        cases ew : (wdN τ (lkI τ dr m).1 (Pd τ (lkI τ dr m).1) m (nB τ)).1 with
        | none =>
          rw [lkI_nd hk ew]
          refine ⟨s, ⟨p1, p2⟩, ?_⟩
          refine (bnd_eq _ _).trans ?_
          refine (jp_eq _ _).trans ?_
          rw [if_pos (show encN none = -1 from rfl), nI_succ]
          rfl
        | some d =>
          have hd := wdN_lt _ ew
          obtain ⟨σ2, o1, o2⟩ := openStep h ha hs hsc h0 p1 hm hk hd (fun y z => fX7_lookAround_L12 q1 q2 (fun (σ_20 : St) (x3_21 : Int32) (_ : Int32) => kont σ_20 x3_21) n y z (nI (m + 1)))
          rw [lkI_d hk ew]
          refine ⟨(σ2, 1), ⟨o1, rfl⟩, Eq.trans ?_ o2⟩
          refine (bnd_eq _ _).trans ?_
          refine (jp_eq _ _).trans ?_
          rw [if_neg (show ¬ encN (some d) = -1 from nI_ne_m1 (by omega)), show encN (some d) = nI d from rfl, nI_succ]
          rfl
      · rw [if_neg (show ¬ ((0 ≤ (nI m).toInt ∧ (nI m).toInt < (τ.1 0 1).toInt) ∧ knd τ m = 0) from fun w => hk w.2), if_pos rfl, lkI_no hk]
        refine ⟨s, ⟨p1, p2⟩, ?_⟩
        refine (bnd_eq _ _).trans ?_
        refine (jp_eq _ _).trans ?_
        rw [if_pos rfl, nI_succ]
        rfl) FU 0 (σ, 0) (by omega) (by have : FU = 100000 := rfl; omega) ⟨hl, rfl⟩
  refine ⟨s.1, e.trans ?_, hp.1⟩
  show kont s.1 s.2 = _
  rw [hp.2]
theorem lookInM (h : okM τ) (ha : okA τ) (h0 : rdy τ (nmd τ) = some P0) {τ2 : St} {dr : Nat → Nat} (hl : lkM τ2 τ dr) (q1 q2 q3 : Int32) (kont : St → Int32 → Option (St × Int32)) : ∃ τ3, fX9_look_L67 q1 q2 q3 (fun (σ_25 : St) (x4_26 : Int32) (_ : Int32) => kont σ_25 x4_26) FU τ2 0 0 = kont τ3 (b01 (lkI τ dr (nS τ)).2) ∧ lkM τ3 τ (lkI τ dr (nS τ)).1 := by
  have h12 := h.n12
  have h4 := h.n4
  have h16 := h.p16
  obtain ⟨s, hp, e⟩ := loopG (S := St × Int32) (fun n s m => fX9_look_L67 q1 q2 q3 (fun (σ_25 : St) (x4_26 : Int32) (_ : Int32) => kont σ_25 x4_26) n s.1 s.2 (nI m)) (nS τ) (fun m s => lkM s.1 τ (lkI τ dr m).1 ∧ s.2 = b01 (lkI τ dr m).2) (fun s => kont s.1 s.2) (fun n s hp => by
      have hS : s.1.1 0 1 = τ.1 0 1 := fr (fun σ => σ.1 0 1) (fun _ => rfl) hp.1.1
      show fX9_look_L67 _ _ _ _ (n + 1) s.1 s.2 _ = _
      rw [fX9_look_L67, hS, if_pos (by rw [le_i, h.ns, nI_toInt (by omega)]; omega)]) (fun n m s hm hp => by
      obtain ⟨⟨p1, p2, p3⟩, p4⟩ := hp
      have hS : s.1.1 0 1 = τ.1 0 1 := fr (fun σ => σ.1 0 1) (fun _ => rfl) p1
      have hW : okW s.1 (Pd τ (lkI τ dr m).1) := by
        rw [fr (fun σ => okW σ (Pd τ (lkI τ dr m).1)) (fun _ => rfl) p1]
        exact (rdy_ok h ha (rdy_Pd h0 (lkI τ dr m).1)).w
      have hin : inb (nI m) 12 = true := inb_nI (by omega) (by decide)
      have e3 : s.1.1 3 (ix (nI m)) = τ.1 3 m := by rw [ix_nI (m := m) (by omega)]; exact fr (fun σ => σ.1 3 m) (fun _ => rfl) p1
      show ∃ s' : St × Int32, _ ∧ fX9_look_L67 _ _ _ _ (n + 1) s.1 s.2 _ = _
      rw [fX9_look_L67, hS, if_neg (by rw [le_i, h.ns, nI_toInt (by omega)]; omega), chk_t hin, e3, jp_eq]
      by_cases hk : knd τ m = 0
      · have hk' : knd s.1 m = 0 := by rw [fr (fun σ => knd σ m) (fun _ => rfl) p1]; exact hk
        obtain ⟨τ4, w1, w2⟩ := wouldTakeM (okM_fr p1 h) p3 hW p2 (s := m) (by rw [fr nS (fun _ => rfl) p1]; exact hm) hk'
        rw [wdN_fr p1, fr nB (fun _ => rfl) p1] at w1
        have hc4 : core τ4 = core τ := (core_frm w2 aRow_sc).trans p1
        rw [if_pos (show τ.1 3 m = 0 from Int32.toInt_inj.mp (hk.trans z_0.symm)), w1, cl_some]
        cases ew : (wdN τ (lkI τ dr m).1 (Pd τ (lkI τ dr m).1) m (nB τ)).1 with
        | none =>
          rw [lkI_nd hk ew]
          refine ⟨(τ4, s.2), ⟨⟨hc4, drOK_fr (core_frm w2 aRow_sc) (fun i => w2.1 27 i rfl) p2, ptM_fr (core_frm w2 aRow_sc) (fun i => w2.1 18 i rfl) p3⟩, p4⟩, ?_⟩
          refine (bnd_eq _ _).trans ?_
          refine (jp_eq _ _).trans ?_
          rw [if_pos (show encN none = -1 from rfl), nI_succ]
          rfl
        | some d =>
          have hd := wdN_lt _ ew
          have pw := pow2b d (by omega)
          obtain ⟨d1, d2⟩ := p2 m (by rw [fr nS (fun _ => rfl) p1]; exact hm) hk'
          rw [fr nB (fun _ => rfl) p1] at d2
          have ex : τ4.1 27 (ix (nI m)) ||| ((1 : Int32) <<< (nI d &&& 31)) = nI ((lkI τ dr m).1 m ||| 2 ^ d) := by
            rw [ix_nI (m := m) (by omega), w2.1 27 m rfl, d1, (sh1 d (by omega)).1, (or16 ((lkI τ dr m).1 m) (by omega) (2 ^ d) pw.1).1]
          have f5 : frm aKno noL τ4 (sI τ4 27 m (nI ((lkI τ dr m).1 m ||| 2 ^ d))) := frm_sI _ _ rfl
          have hc5 : core (sI τ4 27 m (nI ((lkI τ dr m).1 m ||| 2 ^ d))) = core τ := (core_frm f5 aKno_sc).trans hc4
          have hd5 : drOK (sI τ4 27 m (nI ((lkI τ dr m).1 m ||| 2 ^ d))) (opn (lkI τ dr m).1 m d) := by
            intro j hj hkj
            rw [fr nS (fun _ => rfl) hc5] at hj
            rw [fr (fun σ => knd σ j) (fun _ => rfl) hc5] at hkj
            rw [fr nB (fun _ => rfl) hc5, sI_at]
            unfold opn
            by_cases ej : j = m
            · rw [if_pos ej, if_pos ej]
              exact ⟨rfl, or_lt d2 hd⟩
            · obtain ⟨b1, b2⟩ := p2 j (by rw [fr nS (fun _ => rfl) p1]; exact hj) (by rw [fr (fun σ => knd σ j) (fun _ => rfl) p1]; exact hkj)
              rw [fr nB (fun _ => rfl) p1] at b2
              rw [if_neg ej, if_neg ej, w2.1 27 j rfl]
              exact ⟨b1, b2⟩
          obtain ⟨τ6, x, v1, v2, v3⟩ := areWholeM (okM_fr hc5 h) (okA_fr hc5 ha) hd5
          rw [rdy_fr hc5] at v3
          have hc6 : core τ6 = core τ := (core_frm v2 aAll_sc).trans hc5
          have hP6 : ptM τ6 (Pd τ (opn (lkI τ dr m).1 m d)) := by
            have hr := rdy_Pd h0 (opn (lkI τ dr m).1 m d)
            rcases v3 with ⟨_, q⟩ | ⟨P, _, q, q2⟩
            · rw [hr] at q; cases q
            · rw [hr] at q; cases q; exact q2
          rw [lkI_d hk ew]
          refine ⟨(τ6, 1), ⟨⟨hc6, drOK_fr (core_frm v2 aAll_sc) (fun i => v2.1 27 i rfl) hd5, hP6⟩, rfl⟩, ?_⟩
          refine (bnd_eq _ _).trans ?_
          refine (jp_eq _ _).trans ?_
          rw [if_neg (show ¬ encN (some d) = -1 from nI_ne_m1 (by omega)), show encN (some d) = nI d from rfl, chk_t hin, chk_t hin, ex, ix_nI (m := m) (by omega), bnd_eq, bnd_eq, v1, cl_some, bnd_eq, nI_succ]
          rfl
      · rw [if_neg (show ¬ τ.1 3 m = 0 from fun w => hk (by unfold knd; rw [w]; rfl)), lkI_no hk]
        refine ⟨s, ⟨⟨p1, p2, p3⟩, p4⟩, ?_⟩
        refine (bnd_eq _ _).trans ?_
        refine (jp_eq _ _).trans ?_
        rw [if_pos rfl, nI_succ]
        rfl) FU 0 (τ2, 0) (by omega) (by have : FU = 100000 := rfl; omega) ⟨hl, rfl⟩
  refine ⟨s.1, e.trans ?_, hp.1⟩
  show kont s.1 s.2 = _
  rw [hp.2]
end Look
