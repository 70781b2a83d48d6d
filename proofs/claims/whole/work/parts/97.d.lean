/-! count -/
theorem ex_one {K : Nat} {P : Nat → Nat → Int} : ∀ n : Nat, ex K n P (fun _ => 1) = prodN n (fun b => sumN K (P b)) := by
  intro n
  induction n with
  | zero => rfl
  | succ n ih =>
    show sumN K (fun k => P n k * ex K n P (fun _ => 1)) = prodN n (fun b => sumN K (P b)) * sumN K (P n)
    rw [sumN_mulr, ih, Int.mul_comm]
theorem prodN_pos {f : Nat → Int} : ∀ n : Nat, (∀ j : Nat, j < n → 0 ≤ f j) → (if 0 < prodN n f then (1 : Int) else 0) = prodN n (fun j => if 0 < f j then (1 : Int) else 0) := by
  intro n
  induction n with
  | zero => intro _; rfl
  | succ n ih =>
    intro h
    have h1 := ih (fun j hj => h j (by omega))
    have p0 := prodN_nn n (fun j hj => h j (Nat.lt_succ_of_lt hj))
    have f0 := h n (by omega)
    rw [prodN, prodN, ← h1]
    by_cases a : 0 < prodN n f
    · by_cases b : 0 < f n
      · rw [if_pos (Int.mul_pos a b), if_pos a, if_pos b]; rfl
      · have : f n = 0 := by omega
        rw [this, Int.mul_zero, if_neg (show ¬ (0 : Int) < 0 by omega), Int.mul_zero]
    · have : prodN n f = 0 := by omega
      rw [this, Int.zero_mul, if_neg (show ¬ (0 : Int) < 0 by omega), Int.zero_mul]
def posP (P : Nat → Nat → Int) (b k : Nat) : Int := if 0 < P b k then 1 else 0
theorem rowAt8 (c j : Nat) : rowAt 8 c j < 8 := rowAt_lt (by decide)
def b47 (c k : Nat) : Bool := Nat.beq c 0 && Nat.beq k 47
theorem weighedM {τ : St} (h : okM τ) {P : Nat → Nat → Int} (hP : ptM τ P) : ∃ τ', fX9_weighed_L13 (fun (σ_15 : St) (x1_16 : Int32) (_ : Int32) => some (σ_15, x1_16)) FU τ 0 0 = some (τ', Int32.ofInt (prodN (nB τ) (fun b => sumN 8 (posP P b)))) ∧ frm aRow b47 τ τ' := by
  have h4 := h.n4
  have p8 := pow8 h4
  obtain ⟨s, hs, e⟩ := loopG (S := St × Int32) (fun n s m => fX9_weighed_L13 (fun (σ_15 : St) (x1_16 : Int32) (_ : Int32) => some (σ_15, x1_16)) n s.1 s.2 (nI m)) (8 ^ nB τ) (fun m s => frm aRow b47 τ s.1 ∧ s.2 = Int32.ofInt (sumN m (fun c => prodN (nB τ) (fun b => posP P b (rowAt 8 c b))))) (fun s => some (s.1, s.2)) (fun n s hp => by
      have hc : core s.1 = core τ := core_frm hp.1 aRow_sc
      show fX9_weighed_L13 _ (n + 1) s.1 s.2 _ = _
      rw [fX9_weighed_L13, rowsM (okM_fr hc h), cl_some, fr nB (fun _ => rfl) hc, if_pos (by rw [le_i]; omega)]) (fun n m s hm hp => by
      have hc : core s.1 = core τ := core_frm hp.1 aRow_sc
      have hN : nB s.1 = nB τ := fr nB (fun _ => rfl) hc
      have hP1 : ptM s.1 P := ptM_fr hc (fun i => hp.1.1 18 i rfl) hP
      obtain ⟨τ2, a1, a2, a3, a4⟩ := laysM (okM_fr hc h) hP1 (c := m) (by rw [hN]; exact hm)
      have wb := wgt_b (okM_fr hc h) hP1 m
      unfold wgt at wb
      rw [hN] at a4 wb
      have z0 : (0 : Int64).toInt = 0 := by decide
      have cmp : (lg_cmp (Int64.ofInt (prodN (nB τ) (fun b => P b (rowAt 8 m b)))) 0 ≤ 0) ↔ ¬ 0 < prodN (nB τ) (fun b => P b (rowAt 8 m b)) := by
        rw [lg_cmp_le, Int64.le_iff_toInt_le, i64o (by omega) (by omega), z0]
        omega
      have ep := prodN_pos (f := fun b => P b (rowAt 8 m b)) (nB τ) (fun j hj => (hP j hj _ (rowAt8 m j)).2.1)
      show ∃ s' : St × Int32, _ ∧ fX9_weighed_L13 _ (n + 1) s.1 s.2 _ = _
      rw [fX9_weighed_L13, rowsM (okM_fr hc h), cl_some, hN, if_neg (by rw [le_i, nI_toInt (by omega), nI_toInt (by omega)]; omega), a1, cl_some, a4, jp_eq]
      have fin : ∀ t : Int32, t = Int32.ofInt (prodN (nB τ) (fun b => posP P b (rowAt 8 m b))) → ∃ s' : St × Int32, (frm aRow b47 τ s'.1 ∧ s'.2 = Int32.ofInt (sumN (m + 1) (fun c => prodN (nB τ) (fun b => posP P b (rowAt 8 c b))))) ∧ (bnd (s.2 + t) fun (x1_13 : Int32) => bnd (nI m + (1 : Int32)) fun (x2_14 : Int32) => fX9_weighed_L13 (fun (σ_15 : St) (x1_16 : Int32) (_ : Int32) => some (σ_15, x1_16)) n τ2 x1_13 x2_14) = fX9_weighed_L13 (fun (σ_15 : St) (x1_16 : Int32) (_ : Int32) => some (σ_15, x1_16)) n s'.1 s'.2 (nI (m + 1)) := by
        intro t ht
        refine ⟨(τ2, s.2 + t), ⟨frm_trans hp.1 a2, ?_⟩, by rw [bnd_eq, bnd_eq, ← nI_succ]⟩
        show s.2 + t = _
        rw [ht, hp.2, ← Int32.ofInt_add]
        rfl
      by_cases w : 0 < prodN (nB τ) (fun b => P b (rowAt 8 m b))
      · rw [if_neg (fun q => cmp.mp q w)]
        rw [if_pos w] at ep
        refine Exists.imp (fun s' q => ⟨q.1, Eq.trans ?_ q.2⟩) (fin 1 ?_)
        · rfl
        · show (1 : Int32) = Int32.ofInt (prodN (nB τ) (fun j => if 0 < P j (rowAt 8 m j) then (1 : Int) else 0))
          rw [← ep]
          rfl
      · rw [if_pos (cmp.mpr w)]
        rw [if_neg w] at ep
        refine Exists.imp (fun s' q => ⟨q.1, Eq.trans ?_ q.2⟩) (fin 0 ?_)
        · rfl
        · show (0 : Int32) = Int32.ofInt (prodN (nB τ) (fun j => if 0 < P j (rowAt 8 m j) then (1 : Int) else 0))
          rw [← ep]
          rfl) FU 0 (τ, 0) (Nat.zero_le _) (by have : FU = 100000 := rfl; omega) ⟨frm_refl _ _ _, rfl⟩
  refine ⟨s.1, e.trans ?_, hs.1⟩
  show some (s.1, s.2) = _
  have := ex_codes (K := 8) (by decide) (P := posP P) (nB τ) (fun _ => 1)
  rw [ex_one] at this
  rw [hs.2, ← this]
  rw [sumN_congr _ (fun c _ => (Int.mul_one (prodN (nB τ) (fun b => posP P b (rowAt 8 c b)))).symm)]
theorem likelyC {σ τ : St} {dr : Nat → Nat} (h : okM τ) (c : clsR σ τ dr) {P : Nat → Nat → Int} (hC : ptC σ (nB τ) P) (hR : okR τ P) : fX7_likelyRows σ = some (σ, Int32.ofInt (prodN (nB τ) (fun b => sumN 8 (posP P b)))) := by
  have h4 := h.n4
  have h8 := h.k8
  unfold fX7_likelyRows
  rw [bnd_eq, bnd_eq]
  obtain ⟨x, hx, e⟩ := loopG (S := Int32) (fun n x m => fX7_likelyRows_L4 (fun (σ_14 : St) (x1_15 : Int32) (_ : Int32) => some (σ_14, x1_15)) n σ x (nI m)) (nB τ) (fun m x => x = Int32.ofInt (prodN m (fun b => sumN 8 (posP P b)))) (fun x => some (σ, x)) (fun n x hp => by
      show fX7_likelyRows_L4 _ (n + 1) σ x _ = _
      rw [fX7_likelyRows_L4, c.nb h, if_pos (by rw [le_i]; omega)]) (fun n m x hm hp => by
      show ∃ x', _ ∧ fX7_likelyRows_L4 _ (n + 1) σ x _ = _
      rw [fX7_likelyRows_L4, c.nb h, if_neg (by rw [le_i, nI_toInt (by omega), nI_toInt (by omega)]; omega), bnd_eq, bnd_eq]
      obtain ⟨y, hy, e2⟩ := loopG (S := Int32) (fun n' y j => fX7_likelyRows_L20 x (nI m) (fun (σ_9 : St) (x3_10 : Int32) (_ : Int32) => bnd (x * x3_10) fun (x1_12 : Int32) => bnd (nI m + (1 : Int32)) fun (x2_13 : Int32) => fX7_likelyRows_L4 (fun (σ_14 : St) (x1_15 : Int32) (_ : Int32) => some (σ_14, x1_15)) n σ_9 x1_12 x2_13) n' σ y (nI j)) (nK τ) (fun j y => y = Int32.ofInt (sumN j (posP P m))) (fun y => fX7_likelyRows_L4 (fun (σ_14 : St) (x1_15 : Int32) (_ : Int32) => some (σ_14, x1_15)) n σ (x * y) (nI (m + 1))) (fun n' y hy => by
          show fX7_likelyRows_L20 _ _ _ (n' + 1) σ y _ = _
          rw [fX7_likelyRows_L20, c.nk h, if_pos (by rw [le_i]; omega), nI_succ]
          rfl) (fun n' j y hj hy => by
          have hin : inb (nI (8 * m + j)) 32 = true := inb_nI (by omega) (by decide)
          have pb := hR.b hm (k := j) (by omega)
          have hle : (Int32.ofInt (P m j) ≤ 0) ↔ ¬ 0 < P m j := by rw [le_i, i32o (by omega) (by omega), z_0]; omega
          show ∃ y', _ ∧ fX7_likelyRows_L20 _ _ _ (n' + 1) σ y _ = _
          rw [fX7_likelyRows_L20, c.nk h, if_neg (by rw [le_i, nI_toInt (by omega), nI_toInt (by omega)]; omega), ix8 m (by omega) j (by omega), chk_t hin, jp_eq, ix_nI (m := 8 * m + j) (by omega), hC m hm j (by omega)]
          have es : Int32.ofInt (sumN (j + 1) (posP P m)) = y + Int32.ofInt (posP P m j) := by rw [hy, ← Int32.ofInt_add]; rfl
          by_cases w : 0 < P m j
          · rw [if_neg (fun q => hle.mp q w)]
            refine ⟨y + 1, ?_, by rw [nI_succ]; all_goals rfl⟩
            rw [es]
            unfold posP
            rw [if_pos w]
            rfl
          · rw [if_pos (hle.mpr w)]
            refine ⟨y + 0, ?_, by rw [nI_succ]; all_goals rfl⟩
            rw [es]
            unfold posP
            rw [if_neg w]
            rfl) FU 0 0 (by omega) (by have : FU = 100000 := rfl; omega) rfl
      refine ⟨x * y, ?_, e2⟩
      rw [hp, hy, ← Int32.ofInt_mul]
      have : sumN 8 (posP P m) = sumN (nK τ) (posP P m) := sumN_tail (by omega) (fun k h1 h2 => by unfold posP; rw [hR.z hm h1 h2, if_neg (by omega)])
      show _ = Int32.ofInt (prodN m (fun b => sumN 8 (posP P b)) * sumN 8 (posP P m))
      rw [this]) FU 0 1 (by omega) (by have : FU = 100000 := rfl; omega) rfl
  refine e.trans ?_
  rw [hx]
theorem womenC {σ τ : St} {dr : Nat → Nat} (h : okM τ) (c : clsR σ τ dr) : fX6_womenInAll σ = some (σ, Int32.ofInt (sumN (nS τ) (fun s => mny τ s * allS τ s))) := by
  have h12 := h.n12
  unfold fX6_womenInAll
  rw [bnd_eq, bnd_eq]
  obtain ⟨x, hx, e⟩ := loopG (S := Int32) (fun n x m => fX6_womenInAll_L4 (fun (σ_7 : St) (x1_8 : Int32) (_ : Int32) => some (σ_7, x1_8)) n σ x (nI m)) (nS τ) (fun m x => x = Int32.ofInt (sumN m (fun s => mny τ s * allS τ s))) (fun x => some (σ, x)) (fun n x hp => by
      show fX6_womenInAll_L4 _ (n + 1) σ x _ = _
      rw [fX6_womenInAll_L4, c.ns h, if_pos (by rw [le_i]; omega)]) (fun n m x hm hp => by
      obtain ⟨d5, d6, d7, d8, d9⟩ := c.sort hm
      have em : τ.1 4 m = Int32.ofInt (mny τ m) := (Int32.ofInt_toInt _).symm
      show ∃ x', _ ∧ fX6_womenInAll_L4 _ (n + 1) σ x _ = _
      rw [fX6_womenInAll_L4, c.ns h, if_neg (by rw [le_i, nI_toInt (by omega), nI_toInt (by omega)]; omega), chk_t (inb_nI (by omega) (by decide)), setsInAllC h c hm, cl_some, ix_nI (m := m) (by omega), d6, em, ← Int32.ofInt_mul, hp, ← Int32.ofInt_add]
      exact ⟨_, rfl, by rw [nI_succ]; all_goals rfl⟩) FU 0 0 (by omega) (by have : FU = 100000 := rfl; omega) rfl
  refine e.trans ?_
  rw [hx]
theorem womenM {τ : St} (h : okM τ) : fX9_womenMany τ = some (τ, Int32.ofInt (sumN (nS τ) (fun s => mny τ s * allS τ s))) := by
  have h12 := h.n12
  have h16 := h.p16
  have h4 := h.n4
  have fs := full_s (τ := τ)
  unfold fX9_womenMany
  rw [bnd_eq, bnd_eq]
  obtain ⟨x, hx, e⟩ := loopG (S := Int32) (fun n x m => fX9_womenMany_L4 (fun (σ_24 : St) (x1_25 : Int32) (_ : Int32) => some (σ_24, x1_25)) n τ x (nI m)) (nS τ) (fun m x => x = Int32.ofInt (sumN m (fun s => mny τ s * allS τ s))) (fun x => some (τ, x)) (fun n x hp => by
      show fX9_womenMany_L4 _ (n + 1) τ x _ = _
      rw [fX9_womenMany_L4, if_pos (by rw [le_i, h.ns, nI_toInt (by omega)]; omega)]) (fun n m x hm hp => by
      have hin : inb (nI m) 12 = true := inb_nI (by omega) (by decide)
      have em : τ.1 4 m = Int32.ofInt (mny τ m) := (Int32.ofInt_toInt _).symm
      have fin : ∀ y : Int32, y = Int32.ofInt (allS τ m) → ∃ x', (x' = Int32.ofInt (sumN (m + 1) (fun s => mny τ s * allS τ s))) ∧ (chk (inb (nI m) 12) (bnd (x + (y * (τ.1 4 (ix (nI m))))) fun (x1_22 : Int32) => bnd (nI m + (1 : Int32)) fun (x2_23 : Int32) => fX9_womenMany_L4 (fun (σ_24 : St) (x1_25 : Int32) (_ : Int32) => some (σ_24, x1_25)) n τ x1_22 x2_23)) = fX9_womenMany_L4 (fun (σ_24 : St) (x1_25 : Int32) (_ : Int32) => some (σ_24, x1_25)) n τ x' (nI (m + 1)) := by
        intro y hy
        rw [chk_t hin, ix_nI (m := m) (by omega), em, hy, ← Int32.ofInt_mul, hp, ← Int32.ofInt_add, Int.mul_comm (allS τ m)]
        exact ⟨_, rfl, by rw [bnd_eq, bnd_eq, ← nI_succ]; rfl⟩
      show ∃ x', _ ∧ fX9_womenMany_L4 _ (n + 1) τ x _ = _
      have e3 : τ.1 3 (ix (nI m)) = τ.1 3 m := by rw [ix_nI (m := m) (by omega)]
      rw [fX9_womenMany_L4, if_neg (by rw [le_i, h.ns, nI_toInt (by omega)]; omega), chk_t hin, jp_eq, e3]
      by_cases k1 : knd τ m = 1
      · have k1' : τ.1 3 m = 1 := Int32.toInt_inj.mp (k1.trans z_1.symm)
        rw [if_pos k1']
        obtain ⟨y, hy, e2⟩ := loopG (S := Int32) (fun n' y j => fX9_womenMany_L34 x (nI m) (fun (σ_19 : St) (x3_20 : Int32) (_ : Int32) => chk (inb (nI m) 12) (bnd (x + (x3_20 * (σ_19.1 4 (ix (nI m))))) fun (x1_22 : Int32) => bnd (nI m + (1 : Int32)) fun (x2_23 : Int32) => fX9_womenMany_L4 (fun (σ_24 : St) (x1_25 : Int32) (_ : Int32) => some (σ_24, x1_25)) n σ_19 x1_22 x2_23)) n' τ y (nI j)) (2 ^ nB τ) (fun j y => 1 ≤ j ∧ y = Int32.ofInt (sumN j (fun set => if popN (nB τ) set = nmd τ m then 1 else 0))) (fun y => chk (inb (nI m) 12) (bnd (x + (y * (τ.1 4 (ix (nI m))))) fun (x1_22 : Int32) => bnd (nI m + (1 : Int32)) fun (x2_23 : Int32) => fX9_womenMany_L4 (fun (σ_24 : St) (x1_25 : Int32) (_ : Int32) => some (σ_24, x1_25)) n τ x1_22 x2_23)) (fun n' y hy => by
            show fX9_womenMany_L34 _ _ _ (n' + 1) τ y _ = _
            rw [fX9_womenMany_L34, everyoneM h.hB, cl_some, if_pos (by rw [lt_i, nI_toInt (by omega), nI_toInt (by omega)]; omega)]) (fun n' j y hj hy => by
            have hp5 := pop16 j (by omega)
            have en : (nI (popN 4 j) = τ.1 5 m) ↔ popN (nB τ) j = nmd τ m := by
              rw [nmd_eq h hm k1 (by omega), pop4n h4 hj]
            show ∃ y', _ ∧ fX9_womenMany_L34 _ _ _ (n' + 1) τ y _ = _
            rw [fX9_womenMany_L34, everyoneM h.hB, cl_some, if_neg (by rw [lt_i, nI_toInt (by omega), nI_toInt (by omega)]; omega), chk_t hin, ix_nI (m := m) (by omega), if_pos k1', bitsM τ (by omega), cl_some, chk_t hin, jp_eq]
            have es : Int32.ofInt (sumN (j + 1) (fun set => if popN (nB τ) set = nmd τ m then (1 : Int) else 0)) = y + Int32.ofInt (if popN (nB τ) j = nmd τ m then (1 : Int) else 0) := by rw [hy.2, ← Int32.ofInt_add]; rfl
            by_cases w : popN (nB τ) j = nmd τ m
            · rw [if_pos (en.mpr w)]
              refine ⟨y + 1, ⟨by omega, ?_⟩, by rw [nI_succ]; all_goals rfl⟩
              rw [es, if_pos w]
              rfl
            · rw [if_neg (fun q => w (en.mp q))]
              refine ⟨y + 0, ⟨by omega, ?_⟩, by rw [nI_succ]; all_goals rfl⟩
              rw [es, if_neg w]
              rfl) FU 1 0 (Nat.one_le_two_pow) (by have : FU = 100000 := rfl; omega) ⟨by omega, by
            have hn1 : 1 ≤ (τ.1 5 m).toInt := ((h.hs m hm).2.2.2.2 k1).1
            show (0 : Int32) = Int32.ofInt (0 + (if popN (nB τ) 0 = nmd τ m then (1 : Int) else 0))
            rw [if_neg (by rw [popN_0]; unfold nmd; omega)]
            rfl⟩
        refine Exists.imp (fun x' q => ⟨q.1, Eq.trans ?_ q.2⟩) (fin y ?_)
        · refine Eq.trans ?_ e2
          have o0 : fX9_one τ 0 = some (τ, 0) := rfl
          dsimp only
          rw [o0, cl_some, bnd_eq, bnd_eq]
          all_goals rfl
        · rw [hy.2]
          unfold allS
          rw [if_pos k1]
      · have k1' : ¬ τ.1 3 m = 1 := fun w => k1 (by unfold knd; rw [w]; rfl)
        rw [if_neg k1']
        refine Exists.imp (fun x' q => ⟨q.1, Eq.trans ?_ q.2⟩) (fin 1 ?_)
        · have o1 : fX9_one τ 1 = some (τ, 1) := rfl
          dsimp only
          rw [o1, cl_some, bnd_eq, bnd_eq, show FU = 99999 + 1 from rfl, fX9_womenMany_L34, everyoneM h.hB, cl_some]
          by_cases w : nI (fullN τ) < 1
          · rw [if_pos w]
          · rw [if_neg w]
            refine (chk_t hin _).trans ?_
            rw [e3, if_neg k1']
        · unfold allS
          rw [if_neg k1]
          rfl) FU 0 0 (by omega) (by have : FU = 100000 := rfl; omega) rfl
  refine e.trans ?_
  rw [hx]
theorem p_count : op_count Inv := by
  intro σ τ p h
  have hM := h.okM
  unfold fX8_count fX9_count
  have hI := h
  obtain ⟨⟨⟨s0, s1, s2, s3, s4, s5, s6, s7⟩, _⟩, ⟨pp, pf, _⟩, ⟨im, _⟩, ⟨ll, _⟩, ⟨o1, o2, o3, o4, o5⟩, _⟩ := h
  by_cases e0 : p = 0
  · rw [if_pos e0, if_pos e0, o4]; exact ⟨σ, τ, _, rfl, rfl, hI⟩
  rw [if_neg e0, if_neg e0]
  by_cases e1 : p = 1
  · rw [if_pos e1, if_pos e1, o1]; exact ⟨σ, τ, _, rfl, rfl, hI⟩
  rw [if_neg e1, if_neg e1]
  by_cases e2 : p = 2
  · rw [if_pos e2, if_pos e2, ll]; exact ⟨σ, τ, _, rfl, rfl, hI⟩
  rw [if_neg e2, if_neg e2]
  by_cases e3 : p = 3
  · rw [if_pos e3, if_pos e3, pf]; exact ⟨σ, τ, _, rfl, rfl, hI⟩
  rw [if_neg e3, if_neg e3]
  by_cases e4 : p = 4
  · rw [if_pos e4, if_pos e4, im]; exact ⟨σ, τ, _, rfl, rfl, hI⟩
  rw [if_neg e4, if_neg e4]
  by_cases e5 : p = 5
  · rw [if_pos e5, if_pos e5, pp]; exact ⟨σ, τ, _, rfl, rfl, hI⟩
  rw [if_neg e5, if_neg e5]
  by_cases e6 : p = 6
  · rw [if_pos e6, if_pos e6]
    obtain ⟨σ', τ', x, a1, a2, a3, a4, a5, a6⟩ := ready2 hI
    rw [a1, a2, cl_some, cl_some]
    unfold fX9_one
    rcases a6 with ⟨e, _⟩ | ⟨P, a, e, _⟩
    · rw [if_pos e, if_pos e]
      exact ⟨σ', τ', 0, rfl, rfl, a3⟩
    · rw [if_neg (by rw [e]; exact one0), if_neg (by rw [e]; exact one0)]
      exact ⟨σ', τ', 1, rfl, rfl, a3⟩
  rw [if_neg e6, if_neg e6]
  by_cases e7 : p = 7
  · rw [if_pos e7, if_pos e7]
    unfold fX9_weighed
    obtain ⟨σ', τ', x, a1, a2, a3, a4, a5, a6⟩ := ready2 hI
    rw [a1, a2, cl_some, cl_some]
    rcases a6 with ⟨e, _⟩ | ⟨P, a, e, _, hr, _⟩
    · rw [if_pos e, if_pos e]
      exact ⟨σ', τ', 0, rfl, rfl, a3⟩
    · obtain ⟨τ2, b1, b2⟩ := weighedM (okM_fr a4 hM) hr.2.2.2.2.2.1
      rw [if_neg (by rw [e]; exact one0), if_neg (by rw [e]; exact one0), likelyC hM hr.1 hr.2.2.1 hr.2.2.2.2.2.2, cl_some, bnd_eq, bnd_eq, b1, cl_some, fr nB (fun _ => rfl) a4]
      exact ⟨σ', τ2, _, rfl, rfl, Inv_fr (fun _ _ _ => rfl) (core_frm b2 aRow_sc) a3⟩
  rw [if_neg e7, if_neg e7]
  by_cases e8 : p = 8
  · rw [if_pos e8, if_pos e8, womenC hM hI.cls, womenM hM, cl_some, cl_some]
    exact ⟨σ, τ, _, rfl, rfl, hI⟩
  rw [if_neg e8, if_neg e8]
  exact ⟨σ, τ, _, rfl, rfl, hI⟩
