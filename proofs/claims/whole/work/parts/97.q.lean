/-! chase: the pure picture -/
def PS (P0 : Nat → Nat → Int) (st : Nat → Option Nat) : Nat → Nat → Int := fun b k => match st b with
  | none => P0 b k
  | some j => if k = j then 100 else 0
theorem PS_some {P0 : Nat → Nat → Int} {st : Nat → Option Nat} {b k : Nat} (h : st b = some k) (i : Nat) : PS P0 st b i = if i = k then 100 else 0 := by unfold PS; rw [h]
theorem PS_none {P0 : Nat → Nat → Int} {st : Nat → Option Nat} {b : Nat} (h : st b = none) (i : Nat) : PS P0 st b i = P0 b i := by unfold PS; rw [h]
def upS (st : Nat → Option Nat) (b k : Nat) : Nat → Option Nat := fun j => if j = b then some k else st j
theorem upS_at (st : Nat → Option Nat) (b k : Nat) : upS st b k b = some k := by unfold upS; rw [if_pos rfl]
theorem upS_ne {st : Nat → Option Nat} {b k j : Nat} (h : j ≠ b) : upS st b k j = st j := by unfold upS; rw [if_neg h]
theorem PS_put (P0 : Nat → Nat → Int) (st : Nat → Option Nat) (b k : Nat) : PS P0 (upS st b k) = putP (PS P0 st) b k := by
  funext j i
  unfold putP
  by_cases e : j = b
  · subst e
    rw [PS_some (upS_at st j k), if_pos rfl]
  · rw [if_neg e]
    cases q : st j with
    | none => rw [PS_none ((upS_ne e).trans q), PS_none q]
    | some v => rw [PS_some ((upS_ne e).trans q), PS_some q]
def rndI (τ : St) (dr : Nat → Nat) (P0 : Nat → Nat → Int) (st : Nat → Option Nat) : Nat → (Nat → Option Nat) × Bool
  | 0 => (st, false)
  | m + 1 => match btr τ dr (PS P0 (rndI τ dr P0 st m).1) m with
    | none => rndI τ dr P0 st m
    | some k => (upS (rndI τ dr P0 st m).1 m k, true)
theorem rndI_n {τ : St} {dr : Nat → Nat} {P0 : Nat → Nat → Int} {st : Nat → Option Nat} {m : Nat} (e : btr τ dr (PS P0 (rndI τ dr P0 st m).1) m = none) : rndI τ dr P0 st (m + 1) = rndI τ dr P0 st m := by rw [rndI, e]
theorem rndI_y {τ : St} {dr : Nat → Nat} {P0 : Nat → Nat → Int} {st : Nat → Option Nat} {m k : Nat} (e : btr τ dr (PS P0 (rndI τ dr P0 st m).1) m = some k) : rndI τ dr P0 st (m + 1) = (upS (rndI τ dr P0 st m).1 m k, true) := by rw [rndI, e]
def stR (τ : St) (dr : Nat → Nat) (P0 : Nat → Nat → Int) (st : Nat → Option Nat) : Nat → (Nat → Option Nat)
  | 0 => st
  | i + 1 => (rndI τ dr P0 (stR τ dr P0 st i) (nB τ)).1
def mvR (τ : St) (dr : Nat → Nat) (P0 : Nat → Nat → Int) (st : Nat → Option Nat) (i : Nat) : Bool := (rndI τ dr P0 (stR τ dr P0 st i) (nB τ)).2
def okC (τ : St) (P0 : Nat → Nat → Int) (st : Nat → Option Nat) : Prop := okR τ (PS P0 st) ∧ ∀ b : Nat, b < nB τ → ∀ k : Nat, st b = some k → k < nK τ
theorem okC_up {τ : St} (h : okM τ) {dr : Nat → Nat} {P0 : Nat → Nat → Int} {st : Nat → Option Nat} (ho : okC τ P0 st) {m k : Nat} (e : btr τ dr (PS P0 st) m = some k) : okC τ P0 (upS st m k) := by
  have h8 := h.k8
  have bl := bestN_lt _ _ (btr_best e)
  refine ⟨?_, fun b hb q hq => ?_⟩
  · rw [PS_put]
    exact okR_put ho.1.1 (fun b hb _ => ho.1.2 b hb) (by omega) ⟨bl.1, bl.2.1⟩
  · by_cases w : b = m
    · subst w
      rw [upS_at] at hq
      cases hq
      exact bl.1
    · rw [upS_ne w] at hq
      exact ho.2 b hb q hq
theorem rndI_ok {τ : St} (h : okM τ) {dr : Nat → Nat} {P0 : Nat → Nat → Int} {st : Nat → Option Nat} (ho : okC τ P0 st) : ∀ m : Nat, okC τ P0 (rndI τ dr P0 st m).1 := by
  intro m
  induction m with
  | zero => exact ho
  | succ m ih =>
    cases e : btr τ dr (PS P0 (rndI τ dr P0 st m).1) m with
    | none => rw [rndI_n e]; exact ih
    | some k => rw [rndI_y e]; exact okC_up h ih e
theorem stR_ok {τ : St} (h : okM τ) {dr : Nat → Nat} {P0 : Nat → Nat → Int} {st : Nat → Option Nat} (ho : okC τ P0 st) : ∀ i : Nat, okC τ P0 (stR τ dr P0 st i) := by
  intro i
  induction i with
  | zero => exact ho
  | succ i ih => exact rndI_ok h ih (nB τ)
def dg (o : Option Nat) : Nat := match o with
  | none => 0
  | some k => k + 1
theorem dg_inj {a b : Option Nat} (h : dg a = dg b) : a = b := by
  cases a with
  | none => cases b with
    | none => rfl
    | some k => exact absurd h (by show ¬ 0 = k + 1; omega)
  | some j => cases b with
    | none => exact absurd h (by show ¬ j + 1 = 0; omega)
    | some k => have : j + 1 = k + 1 := h
                have : j = k := by omega
                rw [this]
def cdN (st : Nat → Option Nat) : Nat → Nat
  | 0 => 0
  | m + 1 => cdN st m * 9 + dg (st m)
theorem cdN_lt {st : Nat → Option Nat} : ∀ m : Nat, (∀ b : Nat, b < m → dg (st b) < 9) → cdN st m < 9 ^ m := by
  intro m
  induction m with
  | zero => intro _; exact Nat.one_pos
  | succ m ih =>
    intro hd
    have i1 := ih (fun b hb => hd b (by omega))
    have i2 := hd m (by omega)
    rw [cdN, Nat.pow_succ]
    omega
theorem cdN_inj {st st' : Nat → Option Nat} : ∀ m : Nat, (∀ b : Nat, b < m → dg (st b) < 9) → (∀ b : Nat, b < m → dg (st' b) < 9) → cdN st m = cdN st' m → ∀ b : Nat, b < m → st b = st' b := by
  intro m
  induction m with
  | zero => intro _ _ _ b hb; omega
  | succ m ih =>
    intro h1 h2 e b hb
    have d1 := h1 m (by omega)
    have d2 := h2 m (by omega)
    rw [cdN, cdN] at e
    by_cases w : b = m
    · subst w
      exact dg_inj (by omega)
    · exact ih (fun b hb => h1 b (by omega)) (fun b hb => h2 b (by omega)) (by omega) b (by omega)
theorem cdN_congr {st st' : Nat → Option Nat} : ∀ m : Nat, (∀ b : Nat, b < m → st b = st' b) → cdN st m = cdN st' m := by
  intro m
  induction m with
  | zero => intro _; rfl
  | succ m ih => intro h; rw [cdN, cdN, ih (fun b hb => h b (by omega)), h m (by omega)]
theorem okC.dg {τ : St} (h : okM τ) {P0 : Nat → Nat → Int} {st : Nat → Option Nat} (ho : okC τ P0 st) : ∀ b : Nat, b < nB τ → dg (st b) < 9 := by
  intro b hb
  have h8 := h.k8
  cases e : st b with
  | none => exact (by decide : (0 : Nat) < 9)
  | some k => have := ho.2 b hb k e
              show k + 1 < 9
              omega
theorem pow9 {n : Nat} (h : n ≤ 4) : 9 ^ n ≤ 6561 := Nat.pow_le_pow_right (n := 9) (by decide) h
/-- the first of the first m that is like the i-th -/
def fnd (cd : Nat → Nat) (i : Nat) : Nat → Option Nat
  | 0 => none
  | m + 1 => match fnd cd i m with
    | some j => some j
    | none => if cd m = cd i then some m else none
theorem fnd_s {cd : Nat → Nat} {i j : Nat} : ∀ m n : Nat, m ≤ n → fnd cd i m = some j → fnd cd i n = some j := by
  intro m n
  induction n with
  | zero => intro h1 h2; have : m = 0 := by omega
            subst this; exact h2
  | succ n ih =>
    intro h1 h2
    by_cases e : m = n + 1
    · subst e; exact h2
    · rw [fnd, ih (by omega) h2]
theorem fnd_y {cd : Nat → Nat} {i m : Nat} (h : fnd cd i m = none) (q : cd m = cd i) : fnd cd i (m + 1) = some m := by rw [fnd, h]; exact if_pos q
theorem fnd_n {cd : Nat → Nat} {i m : Nat} (h : fnd cd i m = none) (q : ¬ cd m = cd i) : fnd cd i (m + 1) = none := by rw [fnd, h]; exact if_neg q
theorem fnd_some {cd : Nat → Nat} {i j : Nat} : ∀ m : Nat, fnd cd i m = some j → j < m ∧ cd j = cd i := by
  intro m
  induction m with
  | zero => intro h; cases h
  | succ m ih =>
    intro h
    cases e : fnd cd i m with
    | some q => rw [fnd_s m (m + 1) (by omega) e] at h; cases h; have := ih e; exact ⟨by omega, this.2⟩
    | none =>
      by_cases q : cd m = cd i
      · rw [fnd_y e q] at h; cases h; exact ⟨by omega, q⟩
      · rw [fnd_n e q] at h; cases h
theorem fnd_none {cd : Nat → Nat} {i : Nat} : ∀ m : Nat, fnd cd i m = none → ∀ j : Nat, j < m → ¬ cd j = cd i := by
  intro m
  induction m with
  | zero => intro _ j hj; omega
  | succ m ih =>
    intro h j hj
    cases e : fnd cd i m with
    | some q => rw [fnd_s m (m + 1) (by omega) e] at h; cases h
    | none =>
      by_cases w : j = m
      · subst w; intro q; rw [fnd_y e q] at h; cases h
      · exact ih e j (by omega)
def lstE (cd : Nat → Nat) (i : Nat) : Nat → Option Nat
  | 0 => none
  | r + 1 => if cd r = cd i then some r else lstE cd i r
theorem lst_fnd {cd : Nat → Nat} {i : Nat} (h : ∀ j : Nat, j ≤ i → fnd cd j j = none) : lstE cd (i + 1) (i + 1) = fnd cd (i + 1) (i + 1) := by
  have up : ∀ r : Nat, r ≤ i + 1 → lstE cd (i + 1) r = fnd cd (i + 1) r := by
    intro r
    induction r with
    | zero => intro _; rfl
    | succ r ih =>
      intro hr
      rw [lstE]
      by_cases w : cd r = cd (i + 1)
      · rw [if_pos w]
        cases e : fnd cd (i + 1) r with
        | none => rw [fnd_y e w]
        | some j =>
          have a := fnd_some r e
          exact absurd (a.2.trans w.symm) (fnd_none r (h r (by omega)) j a.1)
      · rw [if_neg w, ih (by omega)]
        cases e : fnd cd (i + 1) r with
        | none => rw [fnd_n e w]
        | some j => rw [fnd_s r (r + 1) (by omega) e]
  exact up (i + 1) (Nat.le_refl _)
/-- from i rounds on, f rounds left: how it ends, rounds gone, the ring -/
def chR (cd : Nat → Nat) (mv : Nat → Bool) : Nat → Nat → Nat × Nat × Nat
  | 0, i => (2, i, 0)
  | f + 1, i => if mv i = false then (0, i + 1, 0) else match fnd cd (i + 1) (i + 1) with
    | some j => (1, i + 1, i + 1 - j)
    | none => chR cd mv f (i + 1)
theorem chR_0 {cd : Nat → Nat} {mv : Nat → Bool} {f i : Nat} (h : mv i = false) : chR cd mv (f + 1) i = (0, i + 1, 0) := by rw [chR, if_pos h]
theorem chR_1 {cd : Nat → Nat} {mv : Nat → Bool} {f i j : Nat} (h : mv i = true) (e : fnd cd (i + 1) (i + 1) = some j) : chR cd mv (f + 1) i = (1, i + 1, i + 1 - j) := by
  rw [chR, if_neg (by rw [h]; intro q; cases q), e]
theorem chR_2 {cd : Nat → Nat} {mv : Nat → Bool} {f i : Nat} (h : mv i = true) (e : fnd cd (i + 1) (i + 1) = none) : chR cd mv (f + 1) i = chR cd mv f (i + 1) := by
  rw [chR, if_neg (by rw [h]; intro q; cases q), e]
theorem chR_le {cd : Nat → Nat} {mv : Nat → Bool} : ∀ f i : Nat, (chR cd mv f i).2.1 ≤ i + f := by
  intro f
  induction f with
  | zero => intro i; exact Nat.le_refl _
  | succ f ih =>
    intro i
    cases hm : mv i with
    | false => rw [chR_0 hm]; show i + 1 ≤ _; omega
    | true =>
      cases e : fnd cd (i + 1) (i + 1) with
      | some j => rw [chR_1 hm e]; show i + 1 ≤ _; omega
      | none => rw [chR_2 hm e]; have := ih (i + 1); omega
/-! chase, the class -/
theorem cd_step {c d : Nat} (hc : c * 9 + (d + 1) < 2147483648) : nI c * 9 + nI d + 1 = nI (c * 9 + (d + 1)) := by
  rw [nI_ofI (q := c) (by omega), nI_ofI (q := d) (by omega), nI_ofI hc, show (9 : Int32) = Int32.ofInt 9 from rfl, show (1 : Int32) = Int32.ofInt 1 from rfl, ← Int32.ofInt_mul, ← Int32.ofInt_add, ← Int32.ofInt_add]
  congr 1
  all_goals omega
theorem cd_stepN {c : Nat} (hc : c * 9 < 2147483648) : nI c * 9 + (-1 : Int32) + 1 = nI (c * 9 + 0) := by
  rw [nI_ofI (q := c) (by omega), nI_ofI (by omega), show (9 : Int32) = Int32.ofInt 9 from rfl, show (-1 : Int32) = Int32.ofInt (-1) from by decide, show (1 : Int32) = Int32.ofInt 1 from rfl, ← Int32.ofInt_mul, ← Int32.ofInt_add, ← Int32.ofInt_add]
  congr 1
  all_goals omega
theorem codeC {σ τ : St} {dr : Nat → Nat} (h : okM τ) (c : clsR σ τ dr) {st : Nat → Option Nat} (hs : ∀ b : Nat, b < nB τ → σ.1 59 b = encN (st b)) (hd : ∀ b : Nat, b < nB τ → dg (st b) < 9) : fX0_code σ = some (σ, nI (cdN st (nB τ))) := by
  have h4 := h.n4
  unfold fX0_code
  rw [bnd_eq, bnd_eq]
  obtain ⟨x, hx, e⟩ := loopG (S := Int32) (fun n x m => fX0_code_L4 (fun (σ_5 : St) (x1_6 : Int32) (_ : Int32) => some (σ_5, x1_6)) n σ x (nI m)) (nB τ) (fun m x => x = nI (cdN st m)) (fun x => some (σ, x)) (fun n x hp => by
      show fX0_code_L4 _ (n + 1) σ x _ = _
      rw [fX0_code_L4, c.nb h, if_pos (by rw [le_i]; omega)]) (fun n m x hm hp => by
      have lt := cdN_lt (st := st) m (fun b hb => hd b (by omega))
      have p9 : 9 ^ m ≤ 6561 := pow9 (by omega)
      have dm := hd m hm
      refine ⟨nI (cdN st (m + 1)), rfl, ?_⟩
      show fX0_code_L4 _ (n + 1) σ x _ = fX0_code_L4 _ n σ (nI (cdN st m * 9 + dg (st m))) _
      rw [fX0_code_L4, c.nb h, if_neg (by rw [le_i, nI_toInt (by omega), nI_toInt (by omega)]; omega), chk_t (inb_nI (by omega) (by decide)), bnd_eq, ix_nI (m := m) (by omega), hs m hm, hp]
      have es : nI (cdN st m) * 9 + encN (st m) + 1 = nI (cdN st m * 9 + dg (st m)) := by
        cases q : st m with
        | none => exact cd_stepN (by omega)
        | some k =>
          rw [q] at dm
          have dm' : k + 1 < 9 := dm
          exact cd_step (by omega)
      rw [es, bnd_eq, nI_succ]
      all_goals rfl) FU 0 0 (by omega) (by have : FU = 100000 := rfl; omega) rfl
  refine e.trans ?_
  rw [hx]
theorem ptC_put {σ σ' : St} {n : Nat} {P : Nat → Nat → Int} {b s : Nat} (hC : ptC σ n P) (h : ∀ i : Nat, σ'.1 45 i = if 8 * b ≤ i ∧ i < 8 * b + 8 then (if i = 8 * b + s then 100 else 0) else σ.1 45 i) : ptC σ' n (putP P b s) := by
  intro j hj k hk
  rw [h]
  unfold putP
  by_cases e : j = b
  · subst e
    rw [if_pos (by omega), if_pos rfl]
    by_cases w : k = s
    · subst w; rw [if_pos rfl, if_pos rfl]; rfl
    · rw [if_neg (by omega), if_neg w]; rfl
  · rw [if_neg (by omega), if_neg e]
    exact hC j hj k hk
theorem betterC {σ τ : St} {dr : Nat → Nat} {P : Nat → Nat → Int} (h : okM τ) (c : clsR σ τ dr) (ho : opnd σ τ (frc τ) dr) (hC : ptC σ (nB τ) P) (hR : okR τ P) {b : Nat} (hb : b < nB τ) : ∃ σ2, fX7_betterStep σ (nI b) = some (σ2, encN (btr τ dr P b)) ∧ frm (mk 46 50) (mk 51 52) σ σ2 := by
  have h8 := h.k8
  have hB : ∀ j : Nat, j < nB τ → j ≠ b → ∀ k : Nat, k < 8 → 0 ≤ P j k ∧ P j k ≤ 100 := fun j hj _ k hk => hR.b hj hk
  have hz : ∀ j : Nat, j < nB τ → j ≠ b → ∀ k : Nat, nK τ ≤ k → k < 8 → P j k = 0 := fun j hj _ k h1 h2 => hR.z hj h1 h2
  unfold fX7_betterStep
  obtain ⟨σ2, b1, b2, b4⟩ := surveyC h c (shN τ) ho.2.2 hb (ptC_b hC hR b)
  have c2 : clsR σ2 τ dr := clsR_fr (coreC_frm b2 (mk43 (by omega))) c
  have o2 : opnd σ2 τ (frc τ) dr := opnd_fr (b2.1 43 14 rfl) (b2.1 43 15 rfl) (fun i => b2.1 44 i rfl) ho
  have C2 : ptC σ2 (nB τ) P := fun j hj k hk => by rw [b2.1 45 _ rfl]; exact hC j hj k hk
  have hs := bestStepC h c2 o2 hb hB b4
  rw [b1, cl_some, hs, cl_some, bnd_eq, ← best_gn h dr hb hz]
  refine ⟨σ2, ?_, b2⟩
  cases e : bestN (barN τ) (atE τ dr P b) (nK τ) with
  | none => rw [if_pos (show encN none = -1 from rfl), btr_none e]; rfl
  | some k =>
    have hk := (bestN_lt _ _ e).1
    unfold fX7_earnedAt
    rw [if_neg (show ¬ encN (some k) = -1 from nI_ne_m1 (by omega)), show encN (some k) = nI k from rfl, gainAtC h c2 (shN τ) hb b4 hk, cl_some, cl_some, earnedByC h c2 (shN τ) C2 hR hb b4, cl_some, btr_some e]
    have e1 : (100 : Int64) * Int64.ofInt (gnS τ (shN τ) dr P b k) = Int64.ofInt (atE τ dr P b k) := by
      rw [atE_gn h dr hb (by omega) hz, Int64.ofInt_mul]
      rfl
    have bb1 := atE_b h dr (P := P) hb hB (s := k) (by omega)
    have bb2 := eaR_b h hR dr hb
    have cmp : (lg_cmp (Int64.ofInt (atE τ dr P b k)) (Int64.ofInt (eaR τ dr P b)) ≤ 0) ↔ ¬ eaR τ dr P b < atE τ dr P b k := by
      rw [lg_cmp_le, Int64.le_iff_toInt_le, i64o (by omega) (by omega), i64o (by omega) (by omega)]
      omega
    rw [e1]
    show (if lg_cmp (Int64.ofInt (atE τ dr P b k)) (Int64.ofInt (eaR τ dr P b)) ≤ 0 then some (σ2, (-1 : Int32)) else some (σ2, nI k)) = _
    by_cases w : eaR τ dr P b < atE τ dr P b k
    · rw [if_neg (fun q => cmp.mp q w), if_pos w]; rfl
    · rw [if_pos (cmp.mpr w), if_neg w]; rfl
def mRn (c k : Nat) : Bool := mk 45 50 c k || Nat.beq c 59
theorem mRn_50 {lo hi : Nat} (h1 : 45 ≤ lo) (h2 : hi ≤ 50) : ∀ c k : Nat, mRn c k = false → mk lo hi c k = false := fun c k h => mk_mono h1 h2 c k (bf h).1
theorem mRn_43 : ∀ c k : Nat, c < 43 → mRn c k = false := by
  intro c k hc
  unfold mRn
  rw [mk43 (lo := 45) (hi := 50) (by omega) c k hc]
  have : Nat.beq c 59 = false := by
    cases q : Nat.beq c 59 with
    | false => rfl
    | true => have := Nat.eq_of_beq_eq_true q; omega
  rw [this]
  rfl
/-- the class within a chase: what has changed, the parts, the steps -/
def chC (σ0 σ τ : St) (P0 : Nat → Nat → Int) (st : Nat → Option Nat) : Prop := frm mRn (mk 51 52) σ0 σ ∧ ptC σ (nB τ) (PS P0 st) ∧ ∀ b : Nat, b < nB τ → σ.1 59 b = encN (st b)
theorem roundC {σ τ : St} {dr : Nat → Nat} (h : okM τ) (c : clsR σ τ dr) (ho : opnd σ τ (frc τ) dr) {P0 : Nat → Nat → Int} {st : Nat → Option Nat} (hk : okC τ P0 st) (hC : ptC σ (nB τ) (PS P0 st)) (h59 : ∀ b : Nat, b < nB τ → σ.1 59 b = encN (st b)) : ∃ σ2, fX0_round σ = some (σ2, b01 (rndI τ dr P0 st (nB τ)).2) ∧ chC σ σ2 τ P0 (rndI τ dr P0 st (nB τ)).1 := by
  have h4 := h.n4
  have h8 := h.k8
  unfold fX0_round
  rw [bnd_eq, bnd_eq]
  obtain ⟨s', hp, e⟩ := loopG (S := St × Int32) (fun n s m => fX0_round_L4 (fun (σ_13 : St) (x1_14 : Int32) (_ : Int32) => chk (isB x1_14) (some (σ_13, x1_14))) n s.1 s.2 (nI m)) (nB τ) (fun m s => chC σ s.1 τ P0 (rndI τ dr P0 st m).1 ∧ s.2 = b01 (rndI τ dr P0 st m).2) (fun s => chk (isB s.2) (some (s.1, s.2))) (fun n s hp => by
      have c1 := clsR_fr (coreC_frm hp.1.1 mRn_43) c
      show fX0_round_L4 _ (n + 1) s.1 s.2 _ = _
      rw [fX0_round_L4, c1.nb h, if_pos (by rw [le_i]; omega)]) (fun n m s hm hp => by
      obtain ⟨⟨p1, p2, p3⟩, p4⟩ := hp
      have c1 := clsR_fr (coreC_frm p1 mRn_43) c
      have o1 : opnd s.1 τ (frc τ) dr := opnd_fr (p1.1 43 14 rfl) (p1.1 43 15 rfl) (fun i => p1.1 44 i rfl) ho
      have ok1 := rndI_ok h (dr := dr) hk m
      obtain ⟨s2, b1, b2⟩ := betterC h c1 o1 p2 ok1.1 hm
      have f2 : frm mRn (mk 51 52) σ s2 := frm_trans p1 (frm_mono (mRn_50 (by omega) (by omega)) (fun _ _ q => q) b2)
      have C2 : ptC s2 (nB τ) (PS P0 (rndI τ dr P0 st m).1) := fun j hj k hk => by rw [b2.1 45 _ rfl]; exact p2 j hj k hk
      have S2 : ∀ b : Nat, b < nB τ → s2.1 59 b = encN ((rndI τ dr P0 st m).1 b) := fun b hb => by rw [b2.1 59 _ rfl]; exact p3 b hb
      show ∃ s' : St × Int32, _ ∧ fX0_round_L4 _ (n + 1) s.1 s.2 _ = _
      rw [fX0_round_L4, c1.nb h, if_neg (by rw [le_i, nI_toInt (by omega), nI_toInt (by omega)]; omega), b1, cl_some, bnd_eq, jp_eq]
      cases eb : btr τ dr (PS P0 (rndI τ dr P0 st m).1) m with
      | none =>
        rw [if_pos (show encN none = -1 from rfl)]
        exact ⟨(s2, s.2), ⟨⟨f2, by rw [rndI_n eb]; exact C2, by rw [rndI_n eb]; exact S2⟩, by rw [rndI_n eb]; exact p4⟩, by dsimp only; rw [bnd_eq, nI_succ]; all_goals rfl⟩
      | some k =>
        have hk8 := (bestN_lt _ _ (btr_best eb)).1
        obtain ⟨s3, d1, d2, d3⟩ := makeSureC s2 (b := m) (s := k) (by omega) (by omega)
        rw [if_neg (show ¬ encN (some k) = -1 from nI_ne_m1 (by omega)), show encN (some k) = nI k from rfl, d1, cl_some, chk_t (inb_nI (by omega) (by decide)), ix_nI (m := m) (by omega), bnd_eq, bnd_eq]
        refine ⟨(sI s3 59 m (nI k), 1), ⟨⟨frm_trans f2 (frm_trans (frm_mono (mRn_50 (by omega) (by omega)) noL_any d2) (frm_sI _ _ rfl)), ?_, ?_⟩, ?_⟩, by dsimp only; rw [bnd_eq, nI_succ]; all_goals rfl⟩
        · rw [rndI_y eb]
          show ptC _ _ (PS P0 (upS _ m k))
          rw [PS_put]
          have := ptC_put C2 d3
          exact fun j hj i hi => (this j hj i hi)
        · rw [rndI_y eb]
          intro b hb
          show (sI s3 59 m (nI k)).1 59 b = encN (upS (rndI τ dr P0 st m).1 m k b)
          rw [sI_at]
          by_cases w : b = m
          · subst w; rw [if_pos rfl, upS_at]; rfl
          · rw [if_neg w, upS_ne w, d2.1 59 _ rfl]; exact S2 b hb
        · rw [rndI_y eb]; rfl) FU 0 (σ, 0) (by omega) (by have : FU = 100000 := rfl; omega) ⟨⟨frm_refl _ _ _, hC, h59⟩, rfl⟩
  refine ⟨s'.1, e.trans ?_, hp.1⟩
  rw [hp.2]
  cases (rndI τ dr P0 st (nB τ)).2 <;> rfl
def rsV (cd : Nat → Nat) (i : Nat) : Nat := match fnd cd i i with
  | none => 0
  | some j => i - j
theorem sinceC {σ : St} {cd : Nat → Nat} {i : Nat} (hi : i ≤ 60) (hc : ∀ j : Nat, j ≤ i → σ.1 60 j = nI (cd j) ∧ cd j < 7000) : fX0_roundsSince σ (nI i) = some (σ, nI (rsV cd i)) := by
  unfold fX0_roundsSince
  rw [bnd_eq]
  have key := loopX (S := Unit) (fun n _ m => fX0_roundsSince_L2 (nI i) (fun (σ_3 : St) (_ : Int32) => some (σ_3, (0 : Int32))) n σ (nI m)) i (fun m _ => fnd cd i m = none) (fun _ => some (σ, 0)) (fun res => res = some (σ, nI (rsV cd i))) (fun n s hp => by
      show fX0_roundsSince_L2 _ _ (n + 1) σ _ = _
      rw [fX0_roundsSince_L2, if_pos (by rw [le_i]; omega)]) (fun n m s hm hp => by
      have cm := hc m (by omega)
      have ci := hc i (by omega)
      show (∃ s', _ ∧ fX0_roundsSince_L2 _ _ (n + 1) σ _ = _) ∨ (fX0_roundsSince_L2 _ _ (n + 1) σ _ = _)
      rw [fX0_roundsSince_L2, if_neg (by rw [le_i, nI_toInt (by omega), nI_toInt (by omega)]; omega), chk_t (inb_nI (by omega) (by decide)), chk_t (inb_nI (by omega) (by decide)), ix_nI (m := m) (by omega), ix_nI (m := i) (by omega), cm.1, ci.1]
      by_cases w : cd m = cd i
      · rw [if_pos (by rw [w])]
        refine Or.inr ?_
        have ef := fnd_s (m + 1) i (by omega) (fnd_y hp w)
        have er : rsV cd i = i - m := by unfold rsV; rw [ef]
        have e2 : nI i - nI m = nI (i - m) := by
          rw [eq_i, i32_sub (by rw [nI_toInt (by omega), nI_toInt (by omega)]; omega) (by rw [nI_toInt (by omega), nI_toInt (by omega)]; omega), nI_toInt (by omega), nI_toInt (by omega), nI_toInt (by omega)]
          omega
        rw [er, e2]
      · rw [if_neg (fun q => w ((ofNI (by omega) (by omega)).mp q))]
        exact Or.inl ⟨(), fnd_n hp w, by rw [bnd_eq, nI_succ]; all_goals rfl⟩) FU 0 () (by omega) (by have : FU = 100000 := rfl; omega) rfl
  rcases key with ⟨_, hx, e⟩ | e
  · have er : rsV cd i = 0 := by unfold rsV; rw [hx]
    rw [er]
    exact e
  · exact e
theorem dwF_sure {P : Nat → Nat → Int} {b k : Nat} (hP : ∀ j : Nat, j < 8 → P b j = if j = k then 100 else 0) : ∀ m : Nat, m ≤ 8 → dwF P b 0 m = if k < m then some k else none := by
  intro m
  induction m with
  | zero => intro _; rw [if_neg (by omega)]; rfl
  | succ m ih =>
    intro hm
    have i1 := ih (by omega)
    have es : sumN (m + 1) (P b) = if k < m + 1 then 100 else 0 := by
      rw [sumN_congr (g := fun j => if j = k then (fun _ => (100 : Int)) j else 0) (m + 1) (fun j hj => hP j (by omega))]
      exact sumN_pick (fun _ => (100 : Int)) k (m + 1)
    by_cases w : k < m
    · rw [if_pos w] at i1
      rw [dwF_s m (m + 1) (by omega) i1, if_pos (by omega)]
    · rw [if_neg w] at i1
      by_cases w2 : k < m + 1
      · rw [if_pos w2] at es
        rw [if_pos w2, dwF_y i1 (by rw [es]; decide)]
        congr 1
        omega
      · rw [if_neg w2] at es
        rw [if_neg w2, dwF_n i1 (by rw [es]; decide)]
def st0 (τ : St) (b : Nat) : Option Nat := if (τ.1 15 b).toInt = 1 then some (τ.1 16 b).toInt.toNat else none
theorem PS_st0 {τ : St} (ha : okA τ) {b : Nat} (hb : b < nB τ) (k : Nat) : PS (lotP τ) (st0 τ) b k = lotP τ b k := by
  by_cases w : (τ.1 15 b).toInt = 1
  · have e : st0 τ b = some (τ.1 16 b).toInt.toNat := by unfold st0; rw [if_pos w]
    have := (ha b hb).2.1 w
    rw [PS_some e]
    unfold lotP
    rw [if_pos w]
    by_cases q : k = (τ.1 16 b).toInt.toNat
    · rw [if_pos q, if_pos (by omega)]
    · rw [if_neg q, if_neg (by omega)]
  · have e : st0 τ b = none := by unfold st0; rw [if_neg w]
    rw [PS_none e]
theorem okC_0 {τ : St} (ha : okA τ) (hR : okR τ (lotP τ)) : okC τ (lotP τ) (st0 τ) := by
  refine ⟨⟨hR.1, fun b hb => ⟨fun k hk => ?_, ?_⟩⟩, fun b hb k e => ?_⟩
  · rw [PS_st0 ha hb]
    exact (hR.2 b hb).1 k hk
  · rw [sumN_congr 8 (fun k _ => PS_st0 ha hb k)]
    exact (hR.2 b hb).2
  · unfold st0 at e
    by_cases w : (τ.1 15 b).toInt = 1
    · rw [if_pos w] at e
      cases e
      have := (ha b hb).2.1 w
      unfold nK
      omega
    · rw [if_neg w] at e
      cases e
theorem beginC {σ τ : St} {dr : Nat → Nat} (h : okM τ) (ha : okA τ) (c : clsR σ τ dr) (hC : ptC σ (nB τ) (lotP τ)) (hR : okR τ (lotP τ)) : ∃ σ2, fX0_begin σ = some (σ2, ()) ∧ frm (mk 58 60) noL σ σ2 ∧ (∀ b : Nat, b < nB τ → σ2.1 59 b = encN (st0 τ b)) ∧ σ2.1 60 0 = nI (cdN (st0 τ) (nB τ)) ∧ σ2.1 58 6 = 0 ∧ σ2.1 58 7 = 0 := by
  have h4 := h.n4
  have h8 := h.k8
  have ok0 := okC_0 ha hR
  unfold fX0_begin
  rw [bnd_eq]
  obtain ⟨s, hp, e⟩ := loopK (S := St) (fun (k : St → Int32 → Option (St × Unit)) n s m => fX0_begin_L2 k n s (nI m)) (fun k s => k s (nI (nB τ))) (nB τ) (fun m s => frm (mk 59 59) noL σ s ∧ ∀ b : Nat, b < m → s.1 59 b = encN (st0 τ b)) (fun k n s hp => by
      have c1 := clsR_fr (coreC_frm hp.1 (mk43 (by omega))) c
      rw [fX0_begin_L2, c1.nb h, if_pos (by rw [le_i]; omega)]) (fun n m s hm hp => by
      have c1 := clsR_fr (coreC_frm hp.1 (mk43 (by omega))) c
      have C1 : ptC s (nB τ) (lotP τ) := fun j hj k hk => by rw [hp.1.1 45 _ rfl]; exact hC j hj k hk
      refine ⟨sI s 59 m (encN (st0 τ m)), ⟨frm_trans hp.1 (frm_sI _ _ rfl), fun b hb => ?_⟩, fun k => ?_⟩
      · rw [sI_at]
        by_cases w : b = m
        · subst w; rw [if_pos rfl]
        · rw [if_neg w]; exact hp.2 b (by omega)
      · rw [fX0_begin_L2, c1.nb h, if_neg (by rw [le_i, nI_toInt (by omega), nI_toInt (by omega)]; omega), chk_t (inb_nI (by omega) (by decide)), jp_eq, ix_nI (m := m) (by omega), (c1.bk hm).2.1]
        by_cases w : (τ.1 15 m).toInt = 1
        · have e0 : st0 τ m = some (τ.1 16 m).toInt.toNat := by unfold st0; rw [if_pos w]
          have ks := ok0.2 m hm _ e0
          have dd := drawnC h c1 C1 hR.w hm (v := 0) (by omega)
          have ed : dw τ (lotP τ) m 0 = (τ.1 16 m).toInt.toNat := by
            unfold dw
            rw [dwF_sure (k := (τ.1 16 m).toInt.toNat) (fun j _ => by rw [← PS_st0 ha hm, PS_some e0]) (nK τ) (by omega), if_pos ks]
            rfl
          rw [if_pos (show τ.1 15 m = 1 by rw [eq_i, z_1]; exact w), show (0 : Int32) = nI 0 from rfl, dd, cl_some]
          dsimp only
          rw [chk_t (inb_nI (by omega) (by decide)), bnd_eq, bnd_eq, ed, e0, nI_succ]
          all_goals rfl
        · have e0 : st0 τ m = none := by unfold st0; rw [if_neg w]
          rw [if_neg (show ¬ τ.1 15 m = 1 from fun q => w (by rw [q, z_1]))]
          dsimp only
          rw [chk_t (inb_nI (by omega) (by decide)), bnd_eq, bnd_eq, e0, nI_succ]
          all_goals rfl) FU 0 σ (by omega) (by have : FU = 100000 := rfl; omega) ⟨frm_refl _ _ _, fun b hb => absurd hb (by omega)⟩
  have c1 := clsR_fr (coreC_frm hp.1 (mk43 (by omega))) c
  refine ⟨sI (sI (sI s 60 0 (nI (cdN (st0 τ) (nB τ)))) 58 6 0) 58 7 0, ?_, ?_, fun b hb => hp.2 b hb, rfl, rfl, rfl⟩
  · refine (e _).trans ?_
    rw [codeC h c1 hp.2 (ok0.dg h), cl_some, chk_t (by decide), bnd_eq, bnd_eq, bnd_eq]
    rfl
  · exact frm_trans (frm_mono (mk_mono (by omega) (by omega)) (fun _ _ q => q) hp.1) (frm_trans (frm_sI _ _ rfl) (frm_trans (frm_sI _ _ rfl) (frm_sI _ _ rfl)))
