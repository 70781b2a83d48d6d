/-! sortBuys, rowBuys -/
theorem popN_0 : ∀ n : Nat, popN n 0 = 0 := by
  intro n
  induction n with
  | zero => rfl
  | succ n ih => show popN n 0 + _ = 0; rw [ih]; simp
theorem sortM {τ : St} (h : okM τ) {r : Nat → Nat} (hr : rowOK τ r) {dr : Nat → Nat} (hd : drOK τ dr) {i : Nat} (hi : i < nS τ) (w : Int) (so ea pa bo ho : Nat → Int) :
    fX9_sortBuys (lg τ so ea pa bo ho) (nI i) (Int64.ofInt w) = some (lg τ (fun b => so b + w * setSum τ (shN τ) dr i (fun s => soldF τ i s b r)) (fun b => ea b + w * setSum τ (shN τ) dr i (fun s => gainF τ i s b r)) (wrI pa i (pa i + w * setSum τ (shN τ) dr i (fun s => payF τ i s r))) (wrI bo i (bo i + w * setSum τ (shN τ) dr i (fun s => boF τ i s r))) (wrI ho i (ho i + w * setSum τ (shN τ) dr i (fun s => 12 - boF τ i s r))), ()) := by
  have h12 := h.n12
  have hin : inb (nI i) 12 = true := inb_nI (by omega) (by decide)
  have hixi : ix (nI i) = i := ix_nI (by omega)
  obtain ⟨g1, g2, g3, g4, g5⟩ := h.hs i hi
  have fin : ∀ s : Nat, s < 2 ^ nB τ → (∀ F : Nat → Int, setSum τ (shN τ) dr i F = F s) → cl (fX9_buy (lg τ so ea pa bo ho) (nI i) (nI s) (Int64.ofInt w)) (fun (σ_5 : St) (_ : Unit) => some (σ_5, ())) = some (lg τ (fun b => so b + w * setSum τ (shN τ) dr i (fun s => soldF τ i s b r)) (fun b => ea b + w * setSum τ (shN τ) dr i (fun s => gainF τ i s b r)) (wrI pa i (pa i + w * setSum τ (shN τ) dr i (fun s => payF τ i s r))) (wrI bo i (bo i + w * setSum τ (shN τ) dr i (fun s => boF τ i s r))) (wrI ho i (ho i + w * setSum τ (shN τ) dr i (fun s => 12 - boF τ i s r))), ()) := by
    intro s hs2 es
    rw [buyM h.hB h.hF h.hY h.hc h.prm16 hr (by omega) hs2 w, cl_some]
    simp only [es]
  unfold fX9_sortBuys
  have e3 : (lg τ so ea pa bo ho).1 3 i = τ.1 3 i := rfl
  have e27 : (lg τ so ea pa bo ho).1 27 i = τ.1 27 i := rfl
  have e6 : (lg τ so ea pa bo ho).1 0 6 = τ.1 0 6 := rfl
  rw [chk_t hin, hixi, e3]
  simp only [jp_eq]
  have hk : knd τ i = (τ.1 3 i).toInt := rfl
  have g11 := g1.1
  have g12 := g1.2
  by_cases k0 : τ.1 3 i = 0
  · have k0' : knd τ i = 0 := by rw [hk, k0]; rfl
    obtain ⟨d1, d2⟩ := hd i hi k0'
    rw [if_pos k0, shoutedM (τ := lg τ so ea pa bo ho) h.law, cl_some]
    by_cases hsh : shN τ
    · have : shtF (lg τ so ea pa bo ho) (frc (lg τ so ea pa bo ho)) := hsh
      rw [if_pos this, if_neg one0, everyoneM (τ := lg τ so ea pa bo ho) h.hB, cl_some]
      exact fin (fullN τ) h.full (fun F => by unfold setSum; rw [if_neg (by omega), if_pos hsh])
    · have : ¬ shtF (lg τ so ea pa bo ho) (frc (lg τ so ea pa bo ho)) := hsh
      rw [if_neg this, if_pos rfl, chk_t hin, e27, d1]
      exact fin (dr i) d2 (fun F => by unfold setSum; rw [if_neg (by omega), if_neg hsh, if_pos k0'])
  · have k0' : ¬ knd τ i = 0 := fun w => k0 (Int32.toInt_inj.mp w)
    rw [if_neg k0]
    by_cases k2 : τ.1 3 i = 2
    · have k2' : knd τ i = 2 := by rw [hk, k2]; rfl
      obtain ⟨d1, d2⟩ := h.ls
      rw [if_pos k2, shoutedM (τ := lg τ so ea pa bo ho) h.law, cl_some]
      by_cases hsh : shN τ
      · have : shtF (lg τ so ea pa bo ho) (frc (lg τ so ea pa bo ho)) := hsh
        rw [if_pos this, if_neg one0, everyoneM (τ := lg τ so ea pa bo ho) h.hB, cl_some]
        exact fin (fullN τ) h.full (fun F => by unfold setSum; rw [if_neg (by omega), if_pos hsh])
      · have : ¬ shtF (lg τ so ea pa bo ho) (frc (lg τ so ea pa bo ho)) := hsh
        rw [if_neg this, if_pos rfl, e6, d1]
        exact fin (lsd τ) d2 (fun F => by unfold setSum; rw [if_neg (by omega), if_neg hsh, if_neg k0'])
    · have k2' : ¬ knd τ i = 2 := fun w => k2 (Int32.toInt_inj.mp w)
      have k1 : knd τ i = 1 := by omega
      obtain ⟨n1, n2⟩ := g5 k1
      rw [if_neg k2, bnd_eq]
      have z : ∀ F : Nat → Int, accE τ i 1 F = 0 := fun F => by
        show 0 + (if popN (nB τ) 0 = nmd τ i then _ else (0 : Int)) = 0
        rw [popN_0, if_neg (by unfold nmd; omega)]
        rfl
      have all : ∀ F : Nat → Int, setSum τ (shN τ) dr i F = accE τ i (2 ^ nB τ) F := fun F => by unfold setSum; rw [if_pos k1]; rfl
      have := sortE_L h hr (i := i) (by omega) ⟨by omega, n2⟩ w so ea pa bo ho (fun (σ_32 : St) (_ : Int32) => some (σ_32, ()))
      simp only [z, Int.mul_zero, Int.add_zero] at this
      have q1 : wrI pa i (pa i) = pa := by have := wrI_self pa i 0 rfl; rwa [Int.add_zero] at this
      have q2 : wrI bo i (bo i) = bo := by have := wrI_self bo i 0 rfl; rwa [Int.add_zero] at this
      have q3 : wrI ho i (ho i) = ho := by have := wrI_self ho i 0 rfl; rwa [Int.add_zero] at this
      rw [q1, q2, q3] at this
      simp only [all]
      exact this
def addP (f G : Nat → Int) (m : Nat) : Nat → Int := fun j => if j < m then f j + G j else f j
theorem addP_0 (f G : Nat → Int) : addP f G 0 = f := by funext j; unfold addP; rw [if_neg (by omega)]
theorem addP_s (f G : Nat → Int) (m : Nat) : wrI (addP f G m) m (addP f G m m + G m) = addP f G (m + 1) := by
  funext j
  unfold addP wrI
  by_cases e : j = m
  · subst e
    rw [if_pos rfl, if_neg (by omega), if_pos (by omega)]
  · rw [if_neg e]
    dsimp only
    by_cases l : j < m
    · rw [if_pos l, if_pos (by omega)]
    · rw [if_neg l, if_neg (by omega)]
/-- what a row's sales come to -/
def payS (τ : St) (dr : Nat → Nat) (r : Nat → Nat) (s : Nat) : Int := mny τ s * setSum τ (shN τ) dr s (fun set => payF τ s set r)
def boS (τ : St) (dr : Nat → Nat) (r : Nat → Nat) (s : Nat) : Int := mny τ s * setSum τ (shN τ) dr s (fun set => boF τ s set r)
def hoS (τ : St) (dr : Nat → Nat) (r : Nat → Nat) (s : Nat) : Int := mny τ s * setSum τ (shN τ) dr s (fun set => 12 - boF τ s set r)
def soldM (τ : St) (dr : Nat → Nat) (r : Nat → Nat) (m b : Nat) : Int := sumN m (fun s => mny τ s * setSum τ (shN τ) dr s (fun set => soldF τ s set b r))
def earnM (τ : St) (dr : Nat → Nat) (r : Nat → Nat) (m b : Nat) : Int := sumN m (fun s => mny τ s * setSum τ (shN τ) dr s (fun set => gainF τ s set b r))
theorem rowBuysM {τ : St} (h : okM τ) {r : Nat → Nat} (hr : rowOK τ r) {dr : Nat → Nat} (hd : drOK τ dr) (w : Int) (hw : τ.2 0 47 = Int64.ofInt w) (so ea pa bo ho : Nat → Int) :
    fX9_rowBuys (lg τ so ea pa bo ho) = some (lg τ (fun b => so b + w * soldM τ dr r (nS τ) b) (fun b => ea b + w * earnM τ dr r (nS τ) b) (addP pa (fun s => w * payS τ dr r s) (nS τ)) (addP bo (fun s => w * boS τ dr r s) (nS τ)) (addP ho (fun s => w * hoS τ dr r s) (nS τ)), ()) := by
  have h12 := h.n12
  unfold fX9_rowBuys
  rw [bnd_eq]
  have key := loopG (S := Unit) (fun n _ m => fX9_rowBuys_L2 (fun (σ_5 : St) (_ : Int32) => some (σ_5, ())) n (lg τ (fun b => so b + w * soldM τ dr r m b) (fun b => ea b + w * earnM τ dr r m b) (addP pa (fun s => w * payS τ dr r s) m) (addP bo (fun s => w * boS τ dr r s) m) (addP ho (fun s => w * hoS τ dr r s) m)) (nI m)) (nS τ) (fun _ _ => True)
    (fun _ => some (lg τ (fun b => so b + w * soldM τ dr r (nS τ) b) (fun b => ea b + w * earnM τ dr r (nS τ) b) (addP pa (fun s => w * payS τ dr r s) (nS τ)) (addP bo (fun s => w * boS τ dr r s) (nS τ)) (addP ho (fun s => w * hoS τ dr r s) (nS τ)), ())) ?_ ?_ FU 0 () (Nat.zero_le _) (by have : FU = 100000 := rfl; omega) trivial
  · obtain ⟨_, _, e⟩ := key
    refine Eq.trans ?_ e
    have z1 : (fun b => so b + w * soldM τ dr r 0 b) = so := by funext b; show so b + w * 0 = so b; omega
    have z2 : (fun b => ea b + w * earnM τ dr r 0 b) = ea := by funext b; show ea b + w * 0 = ea b; omega
    simp only [addP_0, z1, z2]
    rfl
  · intro n _ _
    have c : τ.1 0 1 ≤ nI (nS τ) := by rw [le_i, h.ns, nI_toInt (by omega)]; omega
    rw [fX9_rowBuys_L2]
    exact if_pos c
  · intro n m _ hm _
    refine ⟨(), trivial, ?_⟩
    have c : ¬ τ.1 0 1 ≤ nI m := by rw [le_i, h.ns, nI_toInt (by omega)]; omega
    have hin : inb (nI m) 12 = true := inb_nI (by omega) (by decide)
    have hixi : ix (nI m) = m := ix_nI (by omega)
    rw [fX9_rowBuys_L2]
    refine (if_neg c).trans ?_
    rw [chk_t hin, hixi]
    have e1 : ∀ so ea pa bo ho : Nat → Int, (lg τ so ea pa bo ho).2 0 47 * ((lg τ so ea pa bo ho).1 4 m).toInt64 = Int64.ofInt (w * mny τ m) := by
      intro so ea pa bo ho
      have e2 : (lg τ so ea pa bo ho).2 0 47 = τ.2 0 47 := rfl
      rw [e2, hw, i64_of, ← Int64.ofInt_mul]
      rfl
    rw [e1, sortM h hr hd hm, cl_some, bnd_eq, ← nI_succ]
    have a1 := addP_s pa (fun s => w * payS τ dr r s) m
    have a2 := addP_s bo (fun s => w * boS τ dr r s) m
    have a3 := addP_s ho (fun s => w * hoS τ dr r s) m
    have b1 : ∀ x : Int, w * mny τ m * x = w * (mny τ m * x) := fun x => Int.mul_assoc _ _ _
    simp only [b1, Int.add_assoc, ← Int.mul_add]
    unfold payS at a1
    unfold boS at a2
    unfold hoS at a3
    unfold payS boS hoS
    rw [a1, a2, a3]
    rfl
