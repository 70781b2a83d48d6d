/-! edge -/
theorem fill56 (σ : St) (v : Int32) : ∃ σ', fJ7_fill_53178_i56 σ v = some (σ', ()) ∧ frm (mk 56 56) noL σ σ' ∧ ∀ i : Nat, i < 21 → σ'.1 56 i = v := by
  unfold fJ7_fill_53178_i56
  rw [bnd_eq, bnd_eq]
  obtain ⟨σ1, hp1, e1⟩ := loopG (S := St) (fun n x m => fJ7_fill_53178_i56_L5 v 21 (fun (σ_5 : St) (_ : Int32) => some (σ_5, ())) n x (nI m)) 21 (fun m x => frm (mk 56 56) noL σ x ∧ ∀ i : Nat, i < m → x.1 56 i = v) (fun x => some (x, ())) (fun n x hp => by
      show fJ7_fill_53178_i56_L5 _ _ _ (n + 1) x _ = _
      rw [fJ7_fill_53178_i56_L5, if_pos (by decide)]) (fun n m x hm hp => by
      show ∃ x', _ ∧ fJ7_fill_53178_i56_L5 _ _ _ (n + 1) x _ = _
      rw [fJ7_fill_53178_i56_L5, if_neg (by rw [le_i, nI_toInt (by omega), show (21 : Int32).toInt = 21 by decide]; omega), chk_t (inb_nI (by omega) (by decide)), ix_nI (m := m) (by omega)]
      refine ⟨sI x 56 m v, ⟨frm_trans hp.1 (frm_sI _ _ rfl), fun i hi => ?_⟩, ?_⟩
      · rw [sI_at]
        by_cases e : i = m
        · rw [if_pos e]
        · rw [if_neg e]; exact hp.2 i (by omega)
      · rw [nI_succ]; all_goals rfl) FU 0 σ (by omega) (by have : FU = 100000 := rfl; omega) ⟨frm_refl _ _ _, fun i hi => absurd hi (by omega)⟩
  exact ⟨σ1, e1, hp1.1, hp1.2⟩
theorem sI_sI (s : St) (q k : Nat) (x y : Int32) : sI (sI s q k y) q k x = sI s q k x := by
  refine St_ext (fun c j => ?_) (fun _ _ => rfl)
  by_cases e : c = q
  · subst e
    rw [sI_at, sI_at, sI_at]
    by_cases w : j = k
    · rw [if_pos w, if_pos w]
    · rw [if_neg w, if_neg w, if_neg w]
  · rw [sI_ne e, sI_ne e, sI_ne e]
theorem sI_id (s : St) (q k : Nat) (x : Int32) (h : s.1 q k = x) : sI s q k x = s := by
  refine St_ext (fun c j => ?_) (fun _ _ => rfl)
  by_cases e : c = q
  · subst e
    rw [sI_at]
    by_cases w : j = k
    · rw [if_pos w, w, h]
    · rw [if_neg w]
  · rw [sI_ne e]
theorem core_sI {a b : St} (h : core a = core b) (q k : Nat) (x : Int32) : core (sI a q k x) = core (sI b q k x) := by
  refine St_ext (fun c j => ?_) (fun _ _ => rfl)
  have e1 : cond (scM c j) 0 (a.1 c j) = cond (scM c j) 0 (b.1 c j) := by
    have : (core a).1 c j = (core b).1 c j := by rw [h]
    exact this
  show cond (scM c j) 0 ((sI a q k x).1 c j) = cond (scM c j) 0 ((sI b q k x).1 c j)
  cases s : scM c j with
  | true => rfl
  | false =>
    rw [s] at e1
    show (sI a q k x).1 c j = (sI b q k x).1 c j
    by_cases e : c = q
    · subst e
      rw [sI_at, sI_at]
      by_cases w : j = k
      · rw [if_pos w, if_pos w]
      · rw [if_neg w, if_neg w]; exact e1
    · rw [sI_ne e, sI_ne e]; exact e1
theorem rs8_fr {τ τ' : St} (h : core τ' = core τ) : rs8 τ' = rs8 τ := by
  funext c
  have : restD τ' (frc τ') (rowAt 8 c) = restD τ (frc τ) (rowAt 8 c) := fr (fun s => restD s (frc s) (rowAt 8 c)) (fun _ => rfl) h
  unfold rs8
  congr 1
def fstG (g : Nat → Bool) : Nat → Option Nat
  | 0 => none
  | m + 1 => match fstG g m with
    | some j => some j
    | none => if g m = true then some m else none
theorem fstG_s {g : Nat → Bool} {j : Nat} : ∀ m n : Nat, m ≤ n → fstG g m = some j → fstG g n = some j := by
  intro m n
  induction n with
  | zero => intro h1 h2; have : m = 0 := by omega
            subst this; exact h2
  | succ n ih =>
    intro h1 h2
    by_cases e : m = n + 1
    · subst e; exact h2
    · rw [fstG, ih (by omega) h2]
theorem fstG_y {g : Nat → Bool} {m : Nat} (h : fstG g m = none) (q : g m = true) : fstG g (m + 1) = some m := by rw [fstG, h]; exact if_pos q
theorem fstG_n {g : Nat → Bool} {m : Nat} (h : fstG g m = none) (q : ¬ g m = true) : fstG g (m + 1) = none := by rw [fstG, h]; exact if_neg q
theorem fstG_none {g : Nat → Bool} : ∀ m : Nat, (∀ i : Nat, i < m → g i = false) → fstG g m = none := by
  intro m
  induction m with
  | zero => intro _; rfl
  | succ m ih => intro h; exact fstG_n (ih (fun i hi => h i (by omega))) (by rw [h m (by omega)]; intro z; cases z)
def edA (c0 : Nat) (o : Option Nat) : Int32 := match o with
  | none => -1
  | some i => nI (c0 + i)
section Edge
variable {τ : St} {d c0 : Nat}
/-- with the baker's cost more by i -/
def cI (τ : St) (d c0 i : Nat) : St := sI τ 2 d (nI (c0 + i))
theorem cI_ok (h : okM τ) {i : Nat} (hi : c0 + i ≤ 99) : okM (cI τ d c0 i) := by
  have hc : ∀ b : Nat, b < nB τ → rg ((cI τ d c0 i).1 2 b) 0 99 := fun b hb => by
    show rg ((sI τ 2 d (nI (c0 + i))).1 2 b) 0 99
    rw [sI_at]
    by_cases w : b = d
    · rw [if_pos w]
      constructor <;> rw [nI_toInt (by omega)] <;> omega
    · rw [if_neg w]; exact h.hc b hb
  exact ⟨h.hB, h.hS, h.hK, h.hF, h.hY, h.hD, h.hL, h.hs, h.hP, h.hf, h.hl, h.hlaw, hc⟩
theorem cI_cst (h0 : τ.1 2 d = nI c0) {i b : Nat} (hi : c0 + i < 1000) : cst (cI τ d c0 i) b = csC τ (some d) b i := by
  unfold csC
  show ((sI τ 2 d (nI (c0 + i))).1 2 b).toInt = (τ.1 2 b).toInt + _
  rw [sI_at]
  by_cases w : b = d
  · subst w
    rw [if_pos rfl, if_pos rfl, h0, nI_toInt (by omega), nI_toInt (by omega)]
    omega
  · rw [if_neg w, if_neg (fun z => w (Option.some.inj z).symm), Int.add_zero]
theorem cI_rest (h : okM τ) (h0 : τ.1 2 d = nI c0) {i p : Nat} (hi : c0 + i ≤ 99) : (∀ b : Nat, b < nB τ → okB τ (shN τ) (nmd τ) (barN τ) (csC τ (some d) b i) b (rowAt (nK τ) p)) ↔ rsK (cI τ d c0 i) p = true := by
  have h8 := h.k8
  have ee : ∀ (b : Nat) (r : Nat → Nat), earnF (cI τ d c0 i) (shN (cI τ d c0 i)) (nmd (cI τ d c0 i)) b r = earnC τ (shN τ) (nmd τ) (csC τ (some d) b i) b r := fun b r => by
    rw [← cI_cst h0 (by omega)]
    rfl
  rw [rsK_iff]
  show _ ↔ restF (cI τ d c0 i) (barN (cI τ d c0 i)) (shN (cI τ d c0 i)) (rowAt (nK τ) p)
  unfold restF
  constructor
  · intro q
    refine ⟨fun b hb => ⟨rowAt_lt (K := nK τ) (by omega), (q b hb).1⟩, fun b hb k hk hbar => ?_⟩
    rw [ee, ee]
    exact (q b hb).2 k hk hbar
  · intro q b hb
    refine ⟨(q.1 b hb).2, fun k hk hbar => ?_⟩
    have := q.2 b hb k hk hbar
    rw [ee, ee] at this
    exact this
theorem enc8_inj {K n p q : Nat} (hK : 0 < K) (h8 : K ≤ 8) (hp : p < K ^ n) (hq : q < K ^ n) (h : enc8 K n p = enc8 K n q) : p = q := by
  by_cases w : p < q
  · have := enc8_mono hK h8 hp hq w; omega
  · by_cases w2 : q < p
    · have := enc8_mono hK h8 hq hp w2; omega
    · omega
theorem encN_inj2 {a b : Option Nat} (ha : ∀ k : Nat, a = some k → k < 10000) (hb : ∀ k : Nat, b = some k → k < 10000) : (encN a = encN b) ↔ a = b := by
  constructor
  · intro h
    cases a with
    | none => cases b with
      | none => rfl
      | some k => exact absurd h.symm (nI_ne_m1 (by have := hb k rfl; omega))
    | some j => cases b with
      | none => exact absurd h (nI_ne_m1 (by have := ha j rfl; omega))
      | some k => rw [(ofNI (by have := ha j rfl; omega) (by have := hb k rfl; omega)).mp h]
  · intro h; rw [h]
/-- the rests differ from those with the cost as it is -/
noncomputable def difE (τ : St) (d c0 i : Nat) : Bool := !(decide (cntN (rs8 (cI τ d c0 i)) (8 ^ nB τ) = cntN (rs8 (cI τ d c0 0)) (8 ^ nB τ)) && decide (nthN (rs8 (cI τ d c0 i)) 0 (8 ^ nB τ) = nthN (rs8 (cI τ d c0 0)) 0 (8 ^ nB τ)))
theorem difE_0 : difE τ d c0 0 = false := by
  unfold difE
  rw [decide_eq_true rfl, decide_eq_true rfl]
  rfl
theorem difE_f {i : Nat} : difE τ d c0 i = false ↔ cntN (rs8 (cI τ d c0 i)) (8 ^ nB τ) = cntN (rs8 (cI τ d c0 0)) (8 ^ nB τ) ∧ nthN (rs8 (cI τ d c0 i)) 0 (8 ^ nB τ) = nthN (rs8 (cI τ d c0 0)) 0 (8 ^ nB τ) := by
  unfold difE
  rw [Bool.not_eq_false', Bool.and_eq_true, decide_eq_true_iff, decide_eq_true_iff]
theorem edgeC {σ : St} {cases : Nat} (h : okM τ) (hcs : ∀ i : Nat, i < cases → c0 + i ≤ 99) (hcs1 : 1 ≤ cases ∧ cases ≤ 21) (hd : d < nB τ) (hm : rmk σ τ) (h25 : σ.1 25 d = nI c0) (hf : ∀ i : Nat, i < cases → mrk σ τ i (rsK (cI τ d c0 i))) : fX4_changingCostA_L76 (nI d) (nI cases) (nI (cntN (rs8 (cI τ d c0 0)) (8 ^ nB τ))) (encN (nthN (rsK (cI τ d c0 0)) 0 (nK τ ^ nB τ))) (fun (σ_23 : St) (_ : Int32) => some (σ_23, (-1 : Int32))) FU σ 1 = some (σ, edA c0 (fstG (difE τ d c0) cases)) := by
  have h4 := h.n4
  have h8 := h.k8
  have p8 := pow8 h4
  have pK : nK τ ^ nB τ ≤ 4096 := powK (by omega) h4
  have ca : ∀ i : Nat, i < cases → cntN (rs8 (cI τ d c0 i)) (8 ^ nB τ) = cntN (rsK (cI τ d c0 i)) (nK τ ^ nB τ) := fun i hi => cnt_all (n := nB τ) (K := nK τ) (by omega) h8.1 (rs_enc (cI_ok h (hcs i hi))) (rs_dig (τ := cI τ d c0 i))
  have na : ∀ i : Nat, i < cases → nthN (rs8 (cI τ d c0 i)) 0 (8 ^ nB τ) = (nthN (rsK (cI τ d c0 i)) 0 (nK τ ^ nB τ)).map (enc8 (nK τ) (nB τ)) := fun i hi => nth_enc (n := nB τ) (K := nK τ) (by omega) h8.1 (rs_enc (cI_ok h (hcs i hi))) (rs_dig (τ := cI τ d c0 i))
  have nl : ∀ i : Nat, ∀ k : Nat, nthN (rsK (cI τ d c0 i)) 0 (nK τ ^ nB τ) = some k → k < nK τ ^ nB τ := fun i k hk => (nthN_some _ hk).1
  have nq : ∀ i : Nat, i < cases → ((nthN (rsK (cI τ d c0 i)) 0 (nK τ ^ nB τ) = nthN (rsK (cI τ d c0 0)) 0 (nK τ ^ nB τ)) ↔ nthN (rs8 (cI τ d c0 i)) 0 (8 ^ nB τ) = nthN (rs8 (cI τ d c0 0)) 0 (8 ^ nB τ)) := fun i hi => by
    rw [na i hi, na 0 (by omega)]
    constructor
    · intro q; rw [q]
    · intro q
      cases ea : nthN (rsK (cI τ d c0 i)) 0 (nK τ ^ nB τ) with
      | none => cases eb : nthN (rsK (cI τ d c0 0)) 0 (nK τ ^ nB τ) with
        | none => rfl
        | some y => rw [ea, eb] at q; cases q
      | some x => cases eb : nthN (rsK (cI τ d c0 0)) 0 (nK τ ^ nB τ) with
        | none => rw [ea, eb] at q; cases q
        | some y =>
          rw [ea, eb] at q
          have := enc8_inj (by omega) h8.1 (nl i x ea) (nl 0 y eb) (Option.some.inj q)
          rw [this]
  have key := loopX (S := Unit) (fun n _ m => fX4_changingCostA_L76 (nI d) (nI cases) (nI (cntN (rs8 (cI τ d c0 0)) (8 ^ nB τ))) (encN (nthN (rsK (cI τ d c0 0)) 0 (nK τ ^ nB τ))) (fun (σ_23 : St) (_ : Int32) => some (σ_23, (-1 : Int32))) n σ (nI m)) cases (fun m _ => 1 ≤ m ∧ fstG (difE τ d c0) m = none) (fun _ => some (σ, -1)) (fun res => res = some (σ, edA c0 (fstG (difE τ d c0) cases))) (fun n s hp => by
      show fX4_changingCostA_L76 _ _ _ _ _ (n + 1) σ _ = _
      rw [fX4_changingCostA_L76, if_pos (by rw [le_i]; omega)]) (fun n m s hm' hp => by
      have b1 := cntN_ub (f := rsK (cI τ d c0 m)) (nK τ ^ nB τ)
      have b2 := cntN_ub (f := rs8 (cI τ d c0 0)) (8 ^ nB τ)
      have hit : difE τ d c0 m = true → some (σ, nI c0 + nI m) = some (σ, edA c0 (fstG (difE τ d c0) cases)) := fun q => by
        rw [fstG_s (m + 1) cases (by omega) (fstG_y hp.2 q), nI_plus (by have := hcs m hm'; omega)]
        rfl
      have pl := placeC (p := 0) h hm (show m < 21 by omega) (hf m hm') (by decide)
      have pl : fX4_place σ (nI m) 0 = some (σ, encN (nthN (rsK (cI τ d c0 m)) 0 (nK τ ^ nB τ))) := pl
      show (∃ s', _ ∧ fX4_changingCostA_L76 _ _ _ _ _ (n + 1) σ _ = _) ∨ (fX4_changingCostA_L76 _ _ _ _ _ (n + 1) σ _ = _)
      rw [fX4_changingCostA_L76, if_neg (by rw [le_i, nI_toInt (by omega), nI_toInt (by omega)]; omega), howManyC h hm (by omega) (hf m hm'), cl_some, jp_eq]
      by_cases w : cntN (rsK (cI τ d c0 m)) (nK τ ^ nB τ) = cntN (rs8 (cI τ d c0 0)) (8 ^ nB τ)
      · rw [if_pos (by rw [w]), pl, cl_some]
        by_cases w2 : nthN (rsK (cI τ d c0 m)) 0 (nK τ ^ nB τ) = nthN (rsK (cI τ d c0 0)) 0 (nK τ ^ nB τ)
        · rw [if_pos (by rw [w2])]
          have df : difE τ d c0 m = false := difE_f.mpr ⟨(ca m hm').trans w, (nq m hm').mp w2⟩
          exact Or.inl ⟨(), ⟨by omega, fstG_n hp.2 (by rw [df]; intro z; cases z)⟩, by rw [bnd_eq, nI_succ]; all_goals rfl⟩
        · rw [if_neg (fun z => w2 ((encN_inj2 (fun k hk => by have := nl m k hk; omega) (fun k hk => by have := nl 0 k hk; omega)).mp z))]
          dsimp only
          rw [chk_t (inb_nI (by omega) (by decide)), ix_nI (m := d) (by omega), h25]
          refine Or.inr (hit ?_)
          cases q : difE τ d c0 m with
          | true => rfl
          | false => exact absurd ((nq m hm').mpr (difE_f.mp q).2) w2
      · rw [if_neg (fun z => w ((ofNI (by omega) (by omega)).mp z))]
        dsimp only
        rw [chk_t (inb_nI (by omega) (by decide)), ix_nI (m := d) (by omega), h25]
        refine Or.inr (hit ?_)
        cases q : difE τ d c0 m with
        | true => rfl
        | false => exact absurd ((ca m hm').symm.trans (difE_f.mp q).1) w) FU 1 () (by omega) (by have : FU = 100000 := rfl; omega) ⟨by omega, fstG_n rfl (by rw [difE_0]; intro z; cases z)⟩
  rcases key with ⟨_, hq, e⟩ | e
  · rw [hq.2]; exact e
  · exact e
def relD (s τ : St) (d : Nat) : Prop := ∀ x : Int32, core (sI s 2 d x) = core (sI τ 2 d x)
theorem edgeM {cases : Nat} (h : okM τ) (hcs : ∀ i : Nat, i < cases → c0 + i ≤ 99) (hhi : (if (nI c0 + (20 : Int32)) < (99 : Int32) then (nI c0 + (20 : Int32)) else (99 : Int32)) = nI (c0 + cases - 1)) (hd : d < nB τ) (kont : St → Int32 → Option (St × Int32)) : ∀ (f m : Nat) (s : St), m + f = cases → 1 ≤ m → relD s τ d → (∀ i : Nat, s.1 27 i = τ.1 27 i) → drOK τ (nmd τ) → fstG (difE τ d c0) m = none → ∀ n : Nat, f < n → ∃ s', relD s' τ d ∧ fX9_edge_L40 (nI d) (nI c0) (nI (cntN (rs8 (cI τ d c0 0)) (8 ^ nB τ))) (encN (nthN (rs8 (cI τ d c0 0)) 0 (8 ^ nB τ))) (fun (σ_21 : St) (x5_22 : Int32) (_ : Int32) => kont σ_21 x5_22) n s (-1) (nI (c0 + m)) = kont s' (edA c0 (fstG (difE τ d c0) cases)) := by
  have h4 := h.n4
  have p8 := pow8 h4
  intro f
  induction f with
  | zero =>
    intro m s hm h1 hs h27 hdr hno n hn
    cases n with
    | zero => omega
    | succ n =>
      have := hcs (cases - 1) (by omega)
      have em : m = cases := by omega
      subst em
      refine ⟨s, hs, ?_⟩
      rw [fX9_edge_L40, hhi, bnd_eq, if_pos (by rw [lt_i, nI_toInt (by omega), nI_toInt (by omega)]; omega), hno]
      rfl
  | succ f ih =>
    intro m s hm h1 hs h27 hdr hno n hn
    cases n with
    | zero => omega
    | succ n =>
      have c99 := hcs (cases - 1) (by omega)
      have cm := hcs m (by omega)
      have hc : core (sI s 2 d (nI (c0 + m))) = core (cI τ d c0 m) := hs (nI (c0 + m))
      have okc := cI_ok (d := d) h cm
      have hN : nB (sI s 2 d (nI (c0 + m))) = nB τ := (fr nB (fun _ => rfl) hc).trans rfl
      obtain ⟨s2, b1, b2, b3, _⟩ := countM (okM_fr hc okc) (by
        intro i hi hk
        have e27 : (sI s 2 d (nI (c0 + m))).1 27 i = τ.1 27 i := by rw [sI_ne (by decide)]; exact h27 i
        have en : nmd (sI s 2 d (nI (c0 + m))) = nmd τ := (fr nmd (fun _ => rfl) hc).trans rfl
        rw [e27, en, hN]
        rw [show nS (sI s 2 d (nI (c0 + m))) = nS τ from (fr nS (fun _ => rfl) hc).trans rfl] at hi
        rw [show knd (sI s 2 d (nI (c0 + m))) i = knd τ i from (fr (fun σ => knd σ i) (fun _ => rfl) hc).trans rfl] at hk
        exact hdr i hi hk)
      have hc2 : core s2 = core (sI s 2 d (nI (c0 + m))) := core_frm b2 aCn_sc
      have rel2 : relD s2 τ d := fun x => by
        rw [core_sI hc2 2 d x, sI_sI]
        exact hs x
      have h272 : ∀ i : Nat, s2.1 27 i = τ.1 27 i := fun i => by
        rw [b2.1 27 i rfl, sI_ne (by decide)]
        exact h27 i
      rw [rs8_fr hc, hN] at b1 b3
      have u1 := cntN_ub (f := rs8 (cI τ d c0 m)) (8 ^ nB τ)
      have u2 := cntN_ub (f := rs8 (cI τ d c0 0)) (8 ^ nB τ)
      have nl : ∀ i : Nat, ∀ k : Nat, nthN (rs8 (cI τ d c0 i)) 0 (8 ^ nB τ) = some k → k < 10000 := fun i k hk => by
        have := (nthN_some _ hk).1
        omega
      have stop : difE τ d c0 m = true → ∃ s', relD s' τ d ∧ fX9_edge_L40 (nI d) (nI c0) (nI (cntN (rs8 (cI τ d c0 0)) (8 ^ nB τ))) (encN (nthN (rs8 (cI τ d c0 0)) 0 (8 ^ nB τ))) (fun (σ_21 : St) (x5_22 : Int32) (_ : Int32) => kont σ_21 x5_22) n s2 (nI (c0 + m)) (nI (c0 + m) + 1) = kont s' (edA c0 (fstG (difE τ d c0) cases)) := fun q => by
        cases n with
        | zero => omega
        | succ n =>
          refine ⟨s2, rel2, ?_⟩
          rw [fX9_edge_L40, hhi, bnd_eq, fstG_s (m + 1) cases (by omega) (fstG_y hno q), if_neg (nI_ne_m1 (m := c0 + m) (by omega))]
          split <;> rfl
      rw [fX9_edge_L40, hhi, bnd_eq, if_neg (by rw [lt_i, nI_toInt (by omega), nI_toInt (by omega)]; omega), if_pos rfl, chk_t (inb_nI (by omega) (by decide)), ix_nI (m := d) (by omega), bnd_eq, b1, cl_some, jp_eq, jp_eq, b3]
      by_cases w : cntN (rs8 (cI τ d c0 m)) (8 ^ nB τ) = cntN (rs8 (cI τ d c0 0)) (8 ^ nB τ)
      · rw [if_pos (by rw [w])]
        by_cases w2 : nthN (rs8 (cI τ d c0 m)) 0 (8 ^ nB τ) = nthN (rs8 (cI τ d c0 0)) 0 (8 ^ nB τ)
        · rw [if_pos (by rw [w2])]
          dsimp only
          rw [bnd_eq, ← nI_succ]
          exact ih (m + 1) s2 (by omega) (by omega) rel2 h272 hdr (fstG_n hno (by rw [difE_f.mpr ⟨w, w2⟩]; intro z; cases z)) n (by omega)
        · rw [if_neg (fun z => w2 ((encN_inj2 (nl m) (nl 0)).mp z))]
          dsimp only
          rw [bnd_eq, bnd_eq]
          refine stop ?_
          cases q : difE τ d c0 m with
          | true => rfl
          | false => exact absurd (difE_f.mp q).2 w2
      · rw [if_neg (fun z => w ((ofNI (by omega) (by omega)).mp z))]
        dsimp only
        rw [bnd_eq, bnd_eq]
        refine stop ?_
        cases q : difE τ d c0 m with
        | true => rfl
        | false => exact absurd (difE_f.mp q).1 w
end Edge
