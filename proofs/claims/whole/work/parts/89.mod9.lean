/-! sells, puts, earnsAt, bestOf -/
theorem drOK_fr {τ τ' : St} {dr : Nat → Nat} (h : core τ' = core τ) (h27 : ∀ s : Nat, τ'.1 27 s = τ.1 27 s) (hd : drOK τ dr) : drOK τ' dr := by
  intro s hs hk
  rw [fr nS (fun _ => rfl) h] at hs
  rw [fr (fun τ => knd τ s) (fun _ => rfl) h] at hk
  rw [h27, fr nB (fun _ => rfl) h]
  exact hd s hs hk
theorem ptM_fr {τ τ' : St} {P : Nat → Nat → Int} (h : core τ' = core τ) (h18 : ∀ s : Nat, τ'.1 18 s = τ.1 18 s) (hd : ptM τ P) : ptM τ' P := by
  intro b hb k hk
  rw [fr nB (fun _ => rfl) h] at hb
  rw [h18]
  exact hd b hb k hk
theorem sums_fr {τ τ' : St} {so ea pa bo ho : Nat → Int} (h : ∀ c k : Nat, 22 ≤ c → c ≤ 26 → τ'.2 c k = τ.2 c k) (hs : sums τ so ea pa bo ho) : sums τ' so ea pa bo ho := by
  refine ⟨fun b hb => ?_, fun s hs2 => ?_⟩
  · rw [h 22 b (by omega) (by omega), h 23 b (by omega) (by omega)]; exact hs.1 b hb
  · rw [h 24 s (by omega) (by omega), h 25 s (by omega) (by omega), h 26 s (by omega) (by omega)]; exact hs.2 s hs2
theorem sums_eq {τ : St} {so ea pa bo ho so' ea' pa' bo' ho' : Nat → Int} (hs : sums τ so ea pa bo ho) (h1 : ∀ b : Nat, so b = so' b) (h2 : ∀ b : Nat, ea b = ea' b) (h3 : ∀ b : Nat, pa b = pa' b) (h4 : ∀ b : Nat, bo b = bo' b) (h5 : ∀ b : Nat, ho b = ho' b) : sums τ so' ea' pa' bo' ho' := by
  have e1 := funext h1
  have e2 := funext h2
  have e3 := funext h3
  have e4 := funext h4
  have e5 := funext h5
  subst e1 e2 e3 e4 e5
  exact hs
def wgt (τ : St) (P : Nat → Nat → Int) (c : Nat) : Int := prodN (nB τ) (fun b => P b (rowAt 8 c b))
theorem wgt_b {τ : St} (h : okM τ) {P : Nat → Nat → Int} (hP : ptM τ P) (c : Nat) : 0 ≤ wgt τ P c ∧ wgt τ P c ≤ 100000000 := by
  have hq : ∀ b : Nat, b < nB τ → 0 ≤ P b (rowAt 8 c b) ∧ P b (rowAt 8 c b) ≤ 100 := fun b hb => (hP b hb _ (rowAt_lt (by decide))).2
  refine ⟨prodN_nn _ (fun b hb => (hq b hb).1), ?_⟩
  have h1 := prodN_le (c := 100) (by decide) (nB τ) hq
  have h2 : (100 : Int) ^ nB τ ≤ 100 ^ 4 := by
    have h4 := h.n4
    generalize nB τ = n at h4
    have : ∀ n : Nat, n < 5 → (100 : Int) ^ n ≤ 100 ^ 4 := by decide
    exact this n (by omega)
  have h3 : (100 : Int) ^ 4 = 100000000 := by decide
  unfold wgt
  omega
theorem i64o {x : Int} (h1 : -9223372036854775808 ≤ x) (h2 : x < 9223372036854775808) : (Int64.ofInt x).toInt = x := Int64.toInt_ofInt_of_le (by omega) (by omega)
theorem addP_q (f G H : Nat → Int) (m : Nat) (x : Nat) : addP (addP f G m) H m x = addP f (fun s => G s + H s) m x := by
  unfold addP
  by_cases h : x < m
  · rw [if_pos h, if_pos h, if_pos h]; exact Int.add_assoc _ _ _
  · rw [if_neg h, if_neg h, if_neg h]
theorem sellsM {τ : St} (h : okM τ) {P : Nat → Nat → Int} (hP : ptM τ P) {dr : Nat → Nat} (hd : drOK τ dr) : ∃ τ', fX9_sells τ = some (τ', ()) ∧ frm aRow bRow τ τ' ∧ sums τ' (fun b => ex 8 (nB τ) P (fun r => soldM τ dr r (nS τ) b)) (fun b => ex 8 (nB τ) P (fun r => earnM τ dr r (nS τ) b)) (addP (fun _ => 0) (fun s => ex 8 (nB τ) P (fun r => payS τ dr r s)) (nS τ)) (addP (fun _ => 0) (fun s => ex 8 (nB τ) P (fun r => boS τ dr r s)) (nS τ)) (addP (fun _ => 0) (fun s => ex 8 (nB τ) P (fun r => hoS τ dr r s)) (nS τ)) := by
  have h4 := h.n4
  have h8 := pow8 h4
  have mono : ∀ {s s' : St}, frm (fun _ _ => false) bSum s s' → frm aRow bRow s s' := fun w => frm_mono (fun _ _ _ => rfl) (fun c k q => by
    unfold bRow at q
    unfold bSum
    cases e : (Nat.ble 22 c && Nat.ble c 26)
    · rfl
    · rw [e] at q; exact absurd q (by simp)) w
  obtain ⟨τ0, c1, c2, c3⟩ := clearsM τ
  unfold fX9_sells
  rw [c1, cl_some, bnd_eq]
  have key := loopG (S := St) (fun n s m => fX9_sells_L6 (fun (σ_12 : St) (_ : Int32) => some (σ_12, ())) n s (nI m)) (8 ^ nB τ) (fun m s => frm aRow bRow τ s ∧ sums s (fun b => sumN m (fun c => wgt τ P c * soldM τ dr (rowAt 8 c) (nS τ) b)) (fun b => sumN m (fun c => wgt τ P c * earnM τ dr (rowAt 8 c) (nS τ) b)) (addP (fun _ => 0) (fun s => sumN m (fun c => wgt τ P c * payS τ dr (rowAt 8 c) s)) (nS τ)) (addP (fun _ => 0) (fun s => sumN m (fun c => wgt τ P c * boS τ dr (rowAt 8 c) s)) (nS τ)) (addP (fun _ => 0) (fun s => sumN m (fun c => wgt τ P c * hoS τ dr (rowAt 8 c) s)) (nS τ))) (fun s => some (s, ())) ?_ ?_ FU 0 τ0 (Nat.zero_le _) (by have : FU = 100000 := rfl; omega) ⟨mono c2, sums_eq c3 (fun _ => rfl) (fun _ => rfl) (fun x => by unfold addP; split <;> rfl) (fun x => by unfold addP; split <;> rfl) (fun x => by unfold addP; split <;> rfl)⟩
  · obtain ⟨τ', hp, e⟩ := key
    refine ⟨τ', e, hp.1, sums_eq hp.2 (fun b => ?_) (fun b => ?_) (fun x => ?_) (fun x => ?_) (fun x => ?_)⟩
    · exact ex_codes (by decide) (nB τ) (fun r => soldM τ dr r (nS τ) b)
    · exact ex_codes (by decide) (nB τ) (fun r => earnM τ dr r (nS τ) b)
    · exact congrFun (congrArg (fun G => addP (fun _ => 0) G (nS τ)) (funext fun s => ex_codes (by decide) (nB τ) (fun r => payS τ dr r s))) x
    · exact congrFun (congrArg (fun G => addP (fun _ => 0) G (nS τ)) (funext fun s => ex_codes (by decide) (nB τ) (fun r => boS τ dr r s))) x
    · exact congrFun (congrArg (fun G => addP (fun _ => 0) G (nS τ)) (funext fun s => ex_codes (by decide) (nB τ) (fun r => hoS τ dr r s))) x
  · intro n s hs
    have hcs : core s = core τ := core_frm hs.1 aRow_sc
    have eN : nB s = nB τ := fr nB (fun _ => rfl) hcs
    have cc : nI (8 ^ nB τ) ≤ nI (8 ^ nB τ) := by rw [le_i]; omega
    rw [fX9_sells_L6, rowsM (okM_fr hcs h), cl_some, eN, if_pos cc]
  · intro n m s hm hs
    have hcs : core s = core τ := core_frm hs.1 aRow_sc
    have eN : nB s = nB τ := fr nB (fun _ => rfl) hcs
    have cc : ¬ nI (8 ^ nB τ) ≤ nI m := by rw [le_i, nI_toInt (by omega), nI_toInt (by omega)]; omega
    have hoks := okM_fr hcs h
    have hPs : ptM s P := ptM_fr hcs (fun k => hs.1.1 18 k rfl) hP
    obtain ⟨s1, l1, l2, l3, l4⟩ := laysM hoks hPs (c := m) (by rw [eN]; exact hm)
    have l2' : frm aRow bRow s s1 := frm_mono (fun _ _ q => q) (fun c k q => by
      cases e : (Nat.beq c 0 && Nat.beq k 47)
      · rfl
      · unfold bRow at q; rw [e] at q; exact absurd q (by simp)) l2
    have hf1 := frm_trans hs.1 l2'
    have hcs1 : core s1 = core τ := core_frm hf1 aRow_sc
    have hoks1 := okM_fr hcs1 h
    have hs1 := sums_fr (τ' := s1) (fun c k a b => l2.2 c k (by
      have : Nat.beq c 0 = false := by
        cases e : Nat.beq c 0
        · rfl
        · have := Nat.eq_of_beq_eq_true e; omega
      show (Nat.beq c 0 && Nat.beq k 47) = false
      rw [this]; rfl)) hs.2
    have hw : s1.2 0 47 = Int64.ofInt (wgt τ P m) := by rw [l4, eN]; rfl
    have hwb := wgt_b h hP m
    rw [fX9_sells_L6, rowsM hoks, cl_some, eN, if_neg cc, l1, cl_some, jp_eq, hw]
    have z0 : (0 : Int64).toInt = 0 := by decide
    have hcmp : (lg_cmp (Int64.ofInt (wgt τ P m)) 0 ≤ 0) = (wgt τ P m ≤ 0) := by
      rw [propext (lg_cmp_le _ _), propext Int64.le_iff_toInt_le, i64o (by omega) (by omega), z0]
    by_cases hz : wgt τ P m ≤ 0
    · have hz0 : wgt τ P m = 0 := by omega
      rw [if_pos (by rw [hcmp]; exact hz)]
      refine ⟨s1, ⟨hf1, ?_⟩, ?_⟩
      · refine sums_eq hs1 (fun b => ?_) (fun b => ?_) (fun x => ?_) (fun x => ?_) (fun x => ?_)
        · show _ = sumN m _ + wgt τ P m * _; rw [hz0, Int.zero_mul, Int.add_zero]
        · show _ = sumN m _ + wgt τ P m * _; rw [hz0, Int.zero_mul, Int.add_zero]
        · unfold addP; show (if x < nS τ then _ else _) = (if x < nS τ then 0 + (sumN m _ + wgt τ P m * _) else _); rw [hz0, Int.zero_mul, Int.add_zero]
        · unfold addP; show (if x < nS τ then _ else _) = (if x < nS τ then 0 + (sumN m _ + wgt τ P m * _) else _); rw [hz0, Int.zero_mul, Int.add_zero]
        · unfold addP; show (if x < nS τ then _ else _) = (if x < nS τ then 0 + (sumN m _ + wgt τ P m * _) else _); rw [hz0, Int.zero_mul, Int.add_zero]
      · rw [nI_succ]; rfl
    · rw [if_neg (by rw [hcmp]; exact hz)]
      obtain ⟨s2, r1, r2, r3⟩ := rowBuysS hoks1 l3 (drOK_fr (dr := dr) hcs1 (fun k => hf1.1 27 k rfl) hd) (wgt τ P m) hw hs1
      rw [r1, cl_some]
      refine ⟨s2, ⟨frm_trans hf1 (mono r2), sums_eq r3 (fun b => ?_) (fun b => ?_) (fun x => ?_) (fun x => ?_) (fun x => ?_)⟩, ?_⟩
      · rw [fr (fun τ => soldM τ dr (rowAt 8 m) (nS τ) b) (fun _ => rfl) hcs1]; rfl
      · rw [fr (fun τ => earnM τ dr (rowAt 8 m) (nS τ) b) (fun _ => rfl) hcs1]; rfl
      · rw [fr nS (fun _ => rfl) hcs1, addP_q, fr (fun τ => payS τ dr (rowAt 8 m)) (fun _ => rfl) hcs1]; rfl
      · rw [fr nS (fun _ => rfl) hcs1, addP_q, fr (fun τ => boS τ dr (rowAt 8 m)) (fun _ => rfl) hcs1]; rfl
      · rw [fr nS (fun _ => rfl) hcs1, addP_q, fr (fun τ => hoS τ dr (rowAt 8 m)) (fun _ => rfl) hcs1]; rfl
      · rw [nI_succ]; rfl
