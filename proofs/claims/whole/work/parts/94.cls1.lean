/-! THE CLASS'S SIDE: what it reads, the crowd -/
def mk (lo hi c _k : Nat) : Bool := Nat.ble lo c && Nat.ble c hi
theorem mk_t {lo hi c k : Nat} : mk lo hi c k = true ↔ lo ≤ c ∧ c ≤ hi := by
  unfold mk
  rw [Bool.and_eq_true, Nat.ble_eq, Nat.ble_eq]
theorem mk_f {lo hi c k : Nat} : mk lo hi c k = false ↔ ¬ (lo ≤ c ∧ c ≤ hi) := by
  rw [← mk_t (k := k)]
  cases mk lo hi c k <;> decide
theorem mk_mono {lo hi lo' hi' : Nat} (h1 : lo' ≤ lo) (h2 : hi ≤ hi') : ∀ c k : Nat, mk lo' hi' c k = false → mk lo hi c k = false := by
  intro c k h
  rw [mk_f] at h ⊢
  omega
theorem noL_any {b : Nat → Nat → Bool} : ∀ c k : Nat, b c k = false → noL c k = false := fun _ _ _ => rfl
def coreC (σ : St) : St := (fun c k => cond (Nat.ble 43 c) 0 (σ.1 c k), fun _ _ => 0)
theorem coreC_frm {a b : Nat → Nat → Bool} {σ σ' : St} (h : frm a b σ σ') (ha : ∀ c k : Nat, c < 43 → a c k = false) : coreC σ' = coreC σ := by
  unfold coreC
  congr 1
  funext c k
  cases e : Nat.ble 43 c
  · have : c < 43 := by
      rcases Nat.lt_or_ge c 43 with w | w
      · exact w
      · rw [Nat.ble_eq_true_of_le w] at e; cases e
    exact h.1 c k (ha c k this)
  · rfl
theorem mk43 {lo hi : Nat} (h : 43 ≤ lo) : ∀ c k : Nat, c < 43 → mk lo hi c k = false := fun c k hc => by rw [mk_f]; omega
theorem frC {α : Type} {σ σ' : St} (G : St → α) (hG : ∀ σ : St, G (coreC σ) = G σ) (h : coreC σ' = coreC σ) : G σ' = G σ := by rw [← hG σ', h, hG]
/-- the class reads what the model reads; dr: the doors that "women" ask now -/
def clsR (σ τ : St) (dr : Nat → Nat) : Prop :=
  (σ.1 2 0 = τ.1 0 0 ∧ σ.1 2 1 = τ.1 0 1 ∧ σ.1 2 2 = τ.1 0 2 ∧ σ.1 2 3 = τ.1 0 3 ∧ σ.1 2 4 = τ.1 0 4 ∧ σ.1 2 5 = τ.1 0 5 ∧ σ.1 2 6 = τ.1 0 6) ∧
  (∀ s : Nat, s < nS τ → σ.1 5 s = τ.1 3 s ∧ σ.1 6 s = τ.1 4 s ∧ σ.1 7 s = τ.1 5 s ∧ σ.1 8 s = τ.1 6 s ∧ (knd τ s = 0 → σ.1 9 s = nI (dr s) ∧ dr s < 2 ^ nB τ)) ∧
  (σ.1 22 3 = τ.1 0 37 ∧ σ.1 22 4 = τ.1 0 39 ∧ σ.1 19 0 = τ.1 0 38) ∧
  (∀ b : Nat, b < nB τ → σ.1 25 b = τ.1 2 b ∧ σ.1 23 b = τ.1 15 b ∧ ∀ k : Nat, k < 8 → σ.1 24 (8 * b + k) = Int32.ofInt (lotP τ b k)) ∧
  (∀ i : Nat, (i : Int) < (τ.1 0 38).toInt → σ.1 20 i = τ.1 19 i ∧ σ.1 21 i = τ.1 20 i)
theorem clsR_fr {σ σ' τ : St} {dr : Nat → Nat} (h : coreC σ' = coreC σ) : clsR σ τ dr → clsR σ' τ dr := fun w => (frC (fun σ => clsR σ τ dr) (fun _ => rfl) h).mpr w
theorem clsR.nb {σ τ : St} {dr : Nat → Nat} (c : clsR σ τ dr) (h : okM τ) : σ.1 2 0 = nI (nB τ) := c.1.1.trans (rgn h.hB (by decide)).1
theorem clsR.ns {σ τ : St} {dr : Nat → Nat} (c : clsR σ τ dr) (h : okM τ) : σ.1 2 1 = nI (nS τ) := c.1.2.1.trans (rgn h.hS (by decide)).1
theorem clsR.nk {σ τ : St} {dr : Nat → Nat} (c : clsR σ τ dr) (h : okM τ) : σ.1 2 2 = nI (nK τ) := c.1.2.2.1.trans (rgn h.hK (by decide)).1
theorem clsR.hf {σ τ : St} {dr : Nat → Nat} (c : clsR σ τ dr) : σ.1 2 3 = τ.1 0 3 := c.1.2.2.2.1
theorem clsR.hy {σ τ : St} {dr : Nat → Nat} (c : clsR σ τ dr) : σ.1 2 4 = τ.1 0 4 := c.1.2.2.2.2.1
theorem clsR.hd {σ τ : St} {dr : Nat → Nat} (c : clsR σ τ dr) : σ.1 2 5 = τ.1 0 5 := c.1.2.2.2.2.2.1
theorem clsR.hl {σ τ : St} {dr : Nat → Nat} (c : clsR σ τ dr) : σ.1 2 6 = τ.1 0 6 := c.1.2.2.2.2.2.2
theorem clsR.sort {σ τ : St} {dr : Nat → Nat} (c : clsR σ τ dr) {s : Nat} (hs : s < nS τ) : σ.1 5 s = τ.1 3 s ∧ σ.1 6 s = τ.1 4 s ∧ σ.1 7 s = τ.1 5 s ∧ σ.1 8 s = τ.1 6 s ∧ (knd τ s = 0 → σ.1 9 s = nI (dr s) ∧ dr s < 2 ^ nB τ) := c.2.1 s hs
theorem clsR.st {σ τ : St} {dr : Nat → Nat} (c : clsR σ τ dr) : σ.1 22 3 = τ.1 0 37 ∧ σ.1 22 4 = τ.1 0 39 ∧ σ.1 19 0 = τ.1 0 38 := c.2.2.1
theorem clsR.bk {σ τ : St} {dr : Nat → Nat} (c : clsR σ τ dr) {b : Nat} (hb : b < nB τ) : σ.1 25 b = τ.1 2 b ∧ σ.1 23 b = τ.1 15 b ∧ ∀ k : Nat, k < 8 → σ.1 24 (8 * b + k) = Int32.ofInt (lotP τ b k) := c.2.2.2.1 b hb
theorem clsR.law {σ τ : St} {dr : Nat → Nat} (c : clsR σ τ dr) {i : Nat} (hi : (i : Int) < (τ.1 0 38).toInt) : σ.1 20 i = τ.1 19 i ∧ σ.1 21 i = τ.1 20 i := c.2.2.2.2 i hi
theorem everyoneC {σ τ : St} {dr : Nat → Nat} (h : okM τ) (c : clsR σ τ dr) : fX6_everyone σ = some (σ, nI (fullN τ)) := by
  unfold fX6_everyone
  have h4 := h.n4
  rw [c.nb h, ev_sh _ (by omega)]
  rfl
theorem bc16 : ∀ s : Nat, s < 16 → (fJ6_bitCount_0f7a4 (fun _ _ => 0, fun _ _ => 0) (nI s)).map (fun p => p.2) = some (nI (popN 4 s)) := by decide +kernel
theorem bitC (σ : St) {s : Nat} (hs : s < 16) : fJ6_bitCount_0f7a4 σ (nI s) = some (σ, nI (popN 4 s)) := by
  have e : fJ6_bitCount_0f7a4 σ (nI s) = ((fJ6_bitCount_0f7a4 (fun _ _ => 0, fun _ _ => 0) (nI s)).map (fun p => p.2)).map (fun x => (σ, x)) := rfl
  rw [e, bc16 s hs]
  rfl
theorem pop4n {n s : Nat} (hn : n ≤ 4) (hs : s < 2 ^ n) : popN 4 s = popN n s := by
  have h16 : 2 ^ n ≤ 16 := Nat.pow_le_pow_right (n := 2) (by decide) hn
  rw [← pop4 s (by omega), pop_eq n (by omega) s hs]
theorem full_s {τ : St} : fullN τ + 1 = 2 ^ nB τ := by
  unfold fullN
  have := Nat.pow_pos (n := nB τ) (show 0 < 2 by decide)
  omega
/-- how many sets sort s has -/
def allS (τ : St) (s : Nat) : Int := if knd τ s = 1 then sumN (2 ^ nB τ) (fun set => if popN (nB τ) set = nmd τ s then 1 else 0) else 1
/-- how many of its sets are just these doors -/
def cntS (τ : St) (sh : Prop) [Decidable sh] (dr : Nat → Nat) (s set : Nat) : Int :=
  if sh then (if set = fullN τ then allS τ s else 0)
  else if knd τ s = 0 then (if set = dr s then 1 else 0) else if knd τ s = 1 then (if popN (nB τ) set = nmd τ s then 1 else 0) else (if set = lsd τ then 1 else 0)
theorem allS_b {τ : St} (h : okM τ) (s : Nat) : 0 ≤ allS τ s ∧ allS τ s ≤ 16 := by
  unfold allS
  have h16 := h.p16
  by_cases e : knd τ s = 1
  · rw [if_pos e]
    refine ⟨sumN_nn _ (fun k _ => ?_), ?_⟩
    · split <;> decide
    · have := sumN_ub (f := fun set => if popN (nB τ) set = nmd τ s then 1 else 0) (2 ^ nB τ) 1 (fun k _ => by show (if _ then (1 : Int) else 0) ≤ 1; split <;> decide)
      omega
  · rw [if_neg e]; decide
theorem cntS_b {τ : St} (h : okM τ) (sh : Prop) [Decidable sh] (dr : Nat → Nat) (s set : Nat) : 0 ≤ cntS τ sh dr s set ∧ cntS τ sh dr s set ≤ 16 := by
  unfold cntS
  have := allS_b h s
  split
  · split
    · exact this
    · decide
  · split
    · split <;> decide
    · split
      · split <;> decide
      · split <;> decide
theorem nmd_eq {τ : St} (h : okM τ) {s : Nat} (hs : s < nS τ) (hk : knd τ s = 1) {a : Nat} (ha : a < 100) : (nI a = τ.1 5 s) ↔ a = nmd τ s := by
  have w := (h.hs s hs).2.2.2.2 hk
  have w1 := w.1
  rw [eq_i, nI_toInt (by omega)]
  unfold nmd
  omega
theorem pop16 : ∀ s : Nat, s < 16 → popN 4 s < 5 := by decide +kernel
theorem pw_sh : ∀ n : Nat, n < 5 → (1 : Int32) <<< (nI n &&& 31) = nI (2 ^ n) := by decide +kernel
theorem setsInAllC {σ τ : St} {dr : Nat → Nat} (h : okM τ) (c : clsR σ τ dr) {s : Nat} (hs : s < nS τ) : fX6_setsInAll σ (nI s) = some (σ, Int32.ofInt (allS τ s)) := by
  have h12 := h.n12
  have h16 := h.p16
  have h4 := h.n4
  have hin : inb (nI s) 12 = true := inb_nI (by omega) (by decide)
  obtain ⟨c5, c6, c7, c8, c9⟩ := c.sort hs
  unfold fX6_setsInAll allS
  rw [chk_t hin, ix_nI (m := s) (by omega), c5]
  by_cases e : knd τ s = 1
  · have e' : τ.1 3 s = 1 := Int32.toInt_inj.mp (e.trans z_1.symm)
    rw [if_pos e', if_pos e, bnd_eq, bnd_eq]
    obtain ⟨s1, hp1, e1⟩ := loopG (S := Int32) (fun n x m => fX6_setsInAll_L16 (nI s) (fun (σ_11 : St) (x2_12 : Int32) (_ : Int32) => some (σ_11, x2_12)) n σ x (nI m)) (2 ^ nB τ) (fun m x => x = Int32.ofInt (sumN m (fun set => if popN (nB τ) set = nmd τ s then 1 else 0))) (fun x => some (σ, x)) (fun n x hp => by
        show fX6_setsInAll_L16 _ _ (n + 1) σ x _ = _
        rw [fX6_setsInAll_L16, c.nb h, pw_sh _ (by omega), if_pos (le_i.mpr (Int.le_refl _))]) (fun n m x hm hp => by
        have hp5 := pop16 m (by omega)
        have en : (nI (popN 4 m) = τ.1 5 s) ↔ popN (nB τ) m = nmd τ s := by
          rw [nmd_eq h hs e (by omega), pop4n h4 hm]
        show ∃ x', _ ∧ fX6_setsInAll_L16 _ _ (n + 1) σ x _ = _
        rw [fX6_setsInAll_L16, c.nb h, pw_sh _ (by omega), if_neg (by rw [le_i, nI_toInt (by omega), nI_toInt (by omega)]; omega), bitC σ (by omega), cl_some, chk_t hin, jp_eq, ix_nI (m := s) (by omega), c7]
        refine ⟨Int32.ofInt (sumN (m + 1) (fun set => if popN (nB τ) set = nmd τ s then 1 else 0)), rfl, ?_⟩
        by_cases q : popN (nB τ) m = nmd τ s
        · have es : sumN (m + 1) (fun set => if popN (nB τ) set = nmd τ s then (1 : Int) else 0) = sumN m (fun set => if popN (nB τ) set = nmd τ s then 1 else 0) + 1 := by
            show _ + (if popN (nB τ) m = nmd τ s then (1 : Int) else 0) = _
            rw [if_pos q]
          rw [if_pos (en.mpr q), es, Int32.ofInt_add, hp, nI_succ]
          rfl
        · have es : sumN (m + 1) (fun set => if popN (nB τ) set = nmd τ s then (1 : Int) else 0) = sumN m (fun set => if popN (nB τ) set = nmd τ s then 1 else 0) := by
            show _ + (if popN (nB τ) m = nmd τ s then (1 : Int) else 0) = _
            rw [if_neg q, Int.add_zero]
          rw [if_neg (fun w => q (en.mp w)), es, hp, nI_succ]
          rfl) FU 0 0 (Nat.zero_le _) (by have : FU = 100000 := rfl; omega) rfl
    refine e1.trans ?_
    rw [hp1]
  · have e' : ¬ τ.1 3 s = 1 := fun w => e (by unfold knd; rw [w]; rfl)
    rw [if_neg e', if_neg e]
    rfl
theorem setsLikeC {σ τ : St} {dr : Nat → Nat} (h : okM τ) (c : clsR σ τ dr) (sh : Prop) [Decidable sh] {s set : Nat} (hs : s < nS τ) (hset : set < 2 ^ nB τ) : fX6_setsLike σ (nI s) (nI set) (if sh then 1 else 0) = some (σ, Int32.ofInt (cntS τ sh dr s set)) := by
  have h12 := h.n12
  have h16 := h.p16
  have h4 := h.n4
  have hin : inb (nI s) 12 = true := inb_nI (by omega) (by decide)
  obtain ⟨c5, c6, c7, c8, c9⟩ := c.sort hs
  have fs := full_s (τ := τ)
  unfold fX6_setsLike cntS
  by_cases hsh : sh
  · rw [if_pos hsh, if_pos hsh, if_neg one0, everyoneC h c, cl_some]
    by_cases e : set = fullN τ
    · rw [if_pos ((ofNI (by omega) (by omega)).mpr e), if_pos e, setsInAllC h c hs, cl_some]
    · rw [if_neg (fun w => e ((ofNI (by omega) (by omega)).mp w)), if_neg e]
      rfl
  · rw [if_neg hsh, if_neg hsh, if_pos rfl, chk_t hin, jp_eq, ix_nI (m := s) (by omega), c5]
    by_cases e0 : knd τ s = 0
    · have e0' : τ.1 3 s = 0 := Int32.toInt_inj.mp (e0.trans z_0.symm)
      obtain ⟨d1, d2⟩ := c9 e0
      rw [if_pos e0', if_pos e0, chk_t hin, jp_eq, d1]
      by_cases q : set = dr s
      · rw [if_pos ((ofNI (by omega) (by omega)).mpr q), if_pos q]; rfl
      · rw [if_neg (fun w => q ((ofNI (by omega) (by omega)).mp w)), if_neg q]; rfl
    · have e0' : ¬ τ.1 3 s = 0 := fun w => e0 (by unfold knd; rw [w]; rfl)
      rw [if_neg e0', if_neg e0, chk_t hin]
      by_cases e : knd τ s = 1
      · have e' : τ.1 3 s = 1 := Int32.toInt_inj.mp (e.trans z_1.symm)
        have hp5 := pop16 set (by omega)
        have en : (nI (popN 4 set) = τ.1 5 s) ↔ popN (nB τ) set = nmd τ s := by
          rw [nmd_eq h hs e (by omega), pop4n h4 hset]
        rw [if_pos e', if_pos e, bitC σ (by omega), cl_some, chk_t hin, jp_eq, c7]
        by_cases q : popN (nB τ) set = nmd τ s
        · rw [if_pos (en.mpr q), if_pos q]; rfl
        · rw [if_neg (fun w => q (en.mp w)), if_neg q]; rfl
      · have e' : ¬ τ.1 3 s = 1 := fun w => e (by unfold knd; rw [w]; rfl)
        have hl := h.ls
        rw [if_neg e', if_neg e, jp_eq, c.hl, hl.1]
        by_cases q : set = lsd τ
        · rw [if_pos ((ofNI (by omega) (by omega)).mpr q), if_pos q]; rfl
        · rw [if_neg (fun w => q ((ofNI (by omega) (by omega)).mp w)), if_neg q]; rfl
theorem priceC {σ τ : St} {dr : Nat → Nat} (h : okM τ) (c : clsR σ τ dr) {k : Nat} (hk : k ≤ 8) : fX6_price σ (nI k) = some (σ, Int32.ofInt (prc τ k)) := by
  have e := (priceM h.hF h.hY hk).2
  unfold fX6_price
  rw [c.hf, c.hy]
  congr 2
  exact Int32.toInt_inj.mp (e.trans (i32o (by have := prc_b h hk; omega) (by have := prc_b h hk; omega)).symm)
