/-! sure, lot, answer -/
/-- ints of one cell from lo up to hi are 0 -/
def zr (σ : St) (q lo hi : Nat) : St := (fun c => if c = q then (fun j => if lo ≤ j ∧ j < hi then 0 else σ.1 q j) else σ.1 c, σ.2)
theorem St_ext {σ τ : St} (h1 : ∀ c j : Nat, σ.1 c j = τ.1 c j) (h2 : ∀ c j : Nat, σ.2 c j = τ.2 c j) : σ = τ := Prod.ext (funext fun c => funext fun j => h1 c j) (funext fun c => funext fun j => h2 c j)
theorem zr_self (σ : St) (q n : Nat) : zr σ q n n = σ := by
  refine St_ext (fun c j => ?_) (fun _ _ => rfl)
  show (if c = q then (fun j => if n ≤ j ∧ j < n then 0 else σ.1 q j) else σ.1 c) j = _
  by_cases h : c = q
  · rw [if_pos h, h, if_neg (by omega)]
  · rw [if_neg h]
theorem zr_step (σ : St) (q lo hi : Nat) (h : lo < hi) : zr (sI σ q lo 0) q (lo + 1) hi = zr σ q lo hi := by
  refine St_ext (fun c j => ?_) (fun _ _ => rfl)
  show (if c = q then (fun j => if lo + 1 ≤ j ∧ j < hi then 0 else (sI σ q lo 0).1 q j) else (sI σ q lo 0).1 c) j = (if c = q then (fun j => if lo ≤ j ∧ j < hi then 0 else σ.1 q j) else σ.1 c) j
  by_cases hc : c = q
  · rw [if_pos hc, if_pos hc]
    have e : (sI σ q lo 0).1 q j = if j = lo then 0 else σ.1 q j := by
      show (if q = q then (fun j => if j = lo then 0 else σ.1 q j) else σ.1 q) j = _
      rw [if_pos rfl]
    rw [e]
    by_cases h1 : lo + 1 ≤ j ∧ j < hi
    · rw [if_pos h1, if_pos (by omega)]
    · rw [if_neg h1]
      by_cases h2 : j = lo
      · rw [if_pos h2, if_pos (by omega)]
      · rw [if_neg h2, if_neg (by omega)]
  · rw [if_neg hc, if_neg hc]
    exact congrFun (sI_ne hc) j
theorem ix8 : ∀ b : Nat, b < 4 → ∀ m : Nat, m < 8 → nI b * 8 + nI m = nI (8 * b + m) := by decide +kernel
theorem ix8' : ∀ b : Nat, b < 4 → ∀ m : Nat, m < 8 → (8 : Int32) * nI b + nI m = nI (8 * b + m) := by decide +kernel
theorem inb_nI {m n : Nat} (h : m < n) (hn : n < 2 ^ 31) : inb (nI m) n = true := inb_iff.mpr ⟨by rw [nI_toInt (by omega)]; omega, by rw [nI_toInt (by omega)]; omega⟩
theorem ix_nI {m : Nat} (h : m < 2 ^ 31) : ix (nI m) = m := nI_clamp h
theorem tell_L (b : Nat) (hb : b < 4) (kx : St → Int32 → Option (St × Unit)) : ∀ (n m : Nat) (σ : St), m ≤ 8 → 8 < m + n → fX5_tellAnew_L9 (nI b) kx n σ (nI m) = kx (zr σ 24 (8 * b + m) (8 * b + 8)) (nI 8) := by
  intro n
  induction n with
  | zero => intro m σ h1 h2; exact absurd h2 (by omega)
  | succ n ih =>
    intro m σ h1 h2
    rw [fX5_tellAnew_L9]
    by_cases h : m = 8
    · subst h
      rw [if_pos (by decide), zr_self]
    · have hlt : m < 8 := by omega
      have hc : ¬ (8 : Int32) ≤ nI m := by
        rw [le_i, z_8, nI_toInt (by omega)]
        omega
      rw [if_neg hc, ix8 b hb m hlt, chk_t (inb_nI (by omega) (by decide)), bnd_eq, bnd_eq, ← nI_succ, ix_nI (by omega), ih (m + 1) _ (by omega) (by omega)]
      congr 1
      exact zr_step σ 24 (8 * b + m) (8 * b + 8) (by omega)
theorem tell_eq (σ : St) (p k : Int32) (h0 : 0 ≤ p.toInt) (h1 : p.toInt < 4) : fX5_tellAnew σ p k = some (zr (sI σ 23 (ix p) k) 24 (8 * ix p) (8 * ix p + 8), ()) := by
  have hb : ix p < 4 := by have := ix_toInt h0; omega
  have hp : p = nI (ix p) := by
    have := nI_mk h0
    have e := ix_toInt h0
    rw [show ix p = p.toInt.toNat by omega]
    exact this
  unfold fX5_tellAnew
  rw [chk_t (inb_iff.mpr ⟨h0, h1⟩), bnd_eq, bnd_eq]
  have := tell_L (ix p) hb (fun σ_5 _ => some (σ_5, ())) FU 0 (sI σ 23 (ix p) k) (by omega) (by decide)
  rw [← hp] at this
  exact this
/-- a stand's relation, with one baker's ask told anew -/
theorem iT_ask {ck cp cc ck' cp' : Nat → Int32} {cpr cf : Int32} {mw ms ml mc mw' ms' ml' : Nat → Int32} {mpr mf : Int32} {nb ns nl : Int} (h : iT ck cp cc cpr cf mw ms ml mc mpr mf nb ns nl) (b : Nat)
    (e1 : ∀ i : Nat, i ≠ b → ck' i = ck i ∧ mw' i = mw i ∧ ms' i = ms i) (e2 : ∀ i : Nat, i ≠ b → ∀ k : Nat, k < 8 → cp' (8 * i + k) = cp (8 * i + k) ∧ ml' (8 * i + k) = ml (8 * i + k))
    (hb : ck' b = mw' b ∧ rg (mw' b) 0 3 ∧ ((mw' b).toInt = 1 → 0 ≤ (ms' b).toInt ∧ (ms' b).toInt < ns) ∧
      ∀ k : Nat, k < 8 → cp' (8 * b + k) = (if (mw' b).toInt = 1 then (if (k : Int) = (ms' b).toInt then 100 else 0) else if (mw' b).toInt = 2 then ml' (8 * b + k) else 0) ∧ ((mw' b).toInt = 2 → rg (ml' (8 * b + k)) 0 100)) :
    iT ck' cp' cc cpr cf mw' ms' ml' mc mpr mf nb ns nl := by
  refine ⟨h.1, h.2.1, h.2.2.1, h.2.2.2.1, fun i hi => ?_⟩
  obtain ⟨q1, q2, q3, q4, q5, q6⟩ := h.2.2.2.2 i hi
  by_cases e : i = b
  · subst e
    exact ⟨q1, q2, hb⟩
  · obtain ⟨a1, a2, a3⟩ := e1 i e
    refine ⟨q1, q2, by rw [a1, a2]; exact q3, by rw [a2]; exact q4, by rw [a2, a3]; exact q5, fun k hk => ?_⟩
    obtain ⟨b1, b2⟩ := e2 i e k hk
    rw [b1, b2, a2, a3]
    exact q6 k hk
theorem zr_ne {σ : St} {q lo hi c : Nat} (h : c ≠ q) : (zr σ q lo hi).1 c = σ.1 c := by
  show (if c = q then _ else _) = _
  rw [if_neg h]
theorem zr_out {σ : St} {q lo hi j : Nat} (h : ¬ (lo ≤ j ∧ j < hi)) : (zr σ q lo hi).1 q j = σ.1 q j := by
  show (if q = q then (fun j => if lo ≤ j ∧ j < hi then 0 else σ.1 q j) else σ.1 q) j = _
  rw [if_pos rfl, if_neg h]
theorem zr_in {σ : St} {q lo hi j : Nat} (h : lo ≤ j ∧ j < hi) : (zr σ q lo hi).1 q j = 0 := by
  show (if q = q then (fun j => if lo ≤ j ∧ j < hi then 0 else σ.1 q j) else σ.1 q) j = _
  rw [if_pos rfl, if_pos h]
theorem sI_at {σ : St} {q k : Nat} {x : Int32} (j : Nat) : (sI σ q k x).1 q j = if j = k then x else σ.1 q j := by
  show (if q = q then (fun j => if j = k then x else σ.1 q j) else σ.1 q) j = _
  rw [if_pos rfl]
theorem p_answer : op_answer Inv := by
  intro σ τ p hI
  have hb := hI.1.2.1.1
  have e0 : σ.1 2 0 = τ.1 0 0 := hI.1.1.1
  by_cases h : 0 ≤ p.toInt ∧ p.toInt < (τ.1 0 0).toInt
  · have h4 : p.toInt < 4 := by have := hb.2; omega
    have hin : inb p 4 = true := inb_iff.mpr ⟨h.1, h4⟩
    refine ⟨zr (sI σ 23 (ix p) 3) 24 (8 * ix p) (8 * ix p + 8), sI τ 15 (ix p) 3, 1, ?_, ?_, ?_⟩
    · unfold fX8_answer
      rw [hasBaker_eq, cl_some, e0, if_pos h, if_neg one0, tell_eq σ p 3 h.1 h4, cl_some]
    · unfold fX9_answer
      rw [isBaker_eq hb, cl_some, if_pos h, if_neg one0, chk_t hin, bnd_eq]
    · refine ⟨hI.1, iT_ask hI.2.1 (ix p) (fun i hi => ⟨?_, ?_, rfl⟩) (fun i hi k hk => ⟨?_, rfl⟩) ⟨?_, ?_, ?_, fun k hk => ⟨?_, ?_⟩⟩, iM_congr (σ := σ) (τ := τ) (fun c h1 h2 => by rw [zr_ne (by omega), sI_ne (by omega)]) rfl rfl rfl rfl rfl rfl hI.2.2.1, hI.2.2.2.1, hI.2.2.2.2.1, hI.2.2.2.2.2⟩
      · rw [zr_ne (by decide), sI_at, if_neg hi]
      · rw [sI_at, if_neg hi]
      · rw [zr_out (by omega)]; rfl
      · rw [zr_ne (by decide), sI_at, sI_at, if_pos rfl, if_pos rfl]
      · rw [sI_at, if_pos rfl]; constructor <;> decide
      · intro q; rw [sI_at, if_pos rfl] at q; exact absurd q (by decide)
      · rw [zr_in (by omega), sI_at, if_pos rfl, if_neg (by decide), if_neg (by decide)]
      · intro q; rw [sI_at, if_pos rfl] at q; exact absurd q (by decide)
  · refine ⟨σ, τ, 0, ?_, ?_, hI⟩
    · unfold fX8_answer
      rw [hasBaker_eq, cl_some, e0, if_neg h, if_pos rfl]
    · unfold fX9_answer
      rw [isBaker_eq hb, cl_some, if_neg h, if_pos rfl]
