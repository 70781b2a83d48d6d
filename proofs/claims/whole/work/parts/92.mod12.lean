/-! the best step: bestOf, isAllBarred -/
/-- the first of those that are worth most among the first n steps that aren't barred -/
def bestN (bar : Nat → Prop) [DecidablePred bar] (v : Nat → Int) : Nat → Option Nat
  | 0 => none
  | n + 1 => if bar n then bestN bar v n else (match bestN bar v n with
    | none => some n
    | some m => if v m < v n then some n else some m)
theorem bestN_bar {bar : Nat → Prop} [DecidablePred bar] {v : Nat → Int} {n : Nat} (h : bar n) : bestN bar v (n + 1) = bestN bar v n := by
  rw [bestN, if_pos h]
theorem bestN_new {bar : Nat → Prop} [DecidablePred bar] {v : Nat → Int} {n : Nat} (h : ¬ bar n) (e : bestN bar v n = none) : bestN bar v (n + 1) = some n := by
  rw [bestN, if_neg h, e]
theorem bestN_old {bar : Nat → Prop} [DecidablePred bar] {v : Nat → Int} {n m : Nat} (h : ¬ bar n) (e : bestN bar v n = some m) : bestN bar v (n + 1) = if v m < v n then some n else some m := by
  rw [bestN, if_neg h, e]
theorem bestN_lt {bar : Nat → Prop} [DecidablePred bar] {v : Nat → Int} : ∀ n m : Nat, bestN bar v n = some m → m < n ∧ ¬ bar m ∧ ∀ k : Nat, k < n → ¬ bar k → v k ≤ v m ∧ (k < m → v k < v m) := by
  intro n
  induction n with
  | zero => intro m h; exact absurd h (by intro w; cases w)
  | succ n ih =>
    intro m h
    by_cases hb : bar n
    · rw [bestN_bar hb] at h
      obtain ⟨a, b, c⟩ := ih m h
      refine ⟨by omega, b, fun k hk hkb => ?_⟩
      by_cases e : k = n
      · subst e; exact absurd hb hkb
      · exact c k (by omega) hkb
    · cases e : bestN bar v n with
      | none =>
        rw [bestN_new hb e] at h
        cases h
        refine ⟨by omega, hb, fun k hk hkb => ?_⟩
        by_cases e2 : k = n
        · subst e2; exact ⟨Int.le_refl _, fun w => absurd w (by omega)⟩
        · exfalso
          have hn : ∀ j : Nat, bestN bar v j = none → ∀ k : Nat, k < j → bar k := by
            intro j
            induction j with
            | zero => intro _ k hk; omega
            | succ j ihj =>
              intro hj k hk
              by_cases hbj : bar j
              · rw [bestN_bar hbj] at hj
                by_cases e3 : k = j
                · subst e3; exact hbj
                · exact ihj hj k (by omega)
              · exfalso
                cases e4 : bestN bar v j with
                | none => rw [bestN_new hbj e4] at hj; cases hj
                | some q =>
                  rw [bestN_old hbj e4] at hj
                  by_cases e5 : v q < v j
                  · rw [if_pos e5] at hj; cases hj
                  · rw [if_neg e5] at hj; cases hj
          exact hkb (hn n e k (by omega))
      | some q =>
        rw [bestN_old hb e] at h
        obtain ⟨a, b, c⟩ := ih q e
        by_cases e5 : v q < v n
        · rw [if_pos e5] at h
          cases h
          refine ⟨by omega, hb, fun k hk hkb => ?_⟩
          by_cases e2 : k = n
          · subst e2; exact ⟨Int.le_refl _, fun w => absurd w (by omega)⟩
          · have := (c k (by omega) hkb).1
            exact ⟨by omega, fun _ => by omega⟩
        · rw [if_neg e5] at h
          cases h
          refine ⟨by omega, b, fun k hk hkb => ?_⟩
          by_cases e2 : k = n
          · subst e2; exact ⟨by omega, fun w => absurd w (by omega)⟩
          · exact c k (by omega) hkb
theorem bestN_congr {bar bar' : Nat → Prop} [DecidablePred bar] [DecidablePred bar'] {v v' : Nat → Int} : ∀ n : Nat, (∀ k : Nat, k < n → (bar k ↔ bar' k)) → (∀ j k : Nat, j < n → k < n → (v j < v k ↔ v' j < v' k)) → bestN bar v n = bestN bar' v' n := by
  intro n
  induction n with
  | zero => intro _ _; rfl
  | succ n ih =>
    intro hb hv
    have e := ih (fun k hk => hb k (by omega)) (fun j k hj hk => hv j k (by omega) (by omega))
    by_cases h : bar n
    · rw [bestN_bar h, bestN_bar ((hb n (by omega)).mp h), e]
    · have h' : ¬ bar' n := fun w => h ((hb n (by omega)).mpr w)
      cases q : bestN bar v n with
      | none => rw [bestN_new h q, bestN_new h' (e.symm.trans q)]
      | some m =>
        have hm := (bestN_lt n m q).1
        rw [bestN_old h q, bestN_old h' (e.symm.trans q)]
        by_cases w : v m < v n
        · rw [if_pos w, if_pos ((hv m n (by omega) (by omega)).mp w)]
        · rw [if_neg w, if_neg (fun w2 => w ((hv m n (by omega) (by omega)).mpr w2))]
abbrev barN (τ : St) (k : Nat) : Prop := barF τ (frc τ) k
theorem barN_fr {τ τ' : St} (h : core τ' = core τ) (k : Nat) : barN τ' k = barN τ k := fr (fun τ => barN τ k) (fun _ => rfl) h
theorem nI_ne_m1 {m : Nat} (h : m < 2147483648) : ¬ nI m = (-1 : Int32) := fun w => by
  have := congrArg Int32.toInt w
  rw [nI_toInt (by omega), z_m1] at this
  omega
theorem atE_b {τ : St} (h : okM τ) (dr : Nat → Nat) {P : Nat → Nat → Int} {b s : Nat} (hb : b < nB τ) (hP : ∀ j : Nat, j < nB τ → j ≠ b → ∀ k : Nat, k < 8 → 0 ≤ P j k ∧ P j k ≤ 100) (hs : s < 8) : -3503554560000000000 ≤ atE τ dr P b s ∧ atE τ dr P b s ≤ 3503554560000000000 := by
  unfold atE
  rw [ex_put _ hb hs]
  have h4 := h.n4
  have a := exO_abs (K := 8) (b := b) (P := P) (c := 800) (B := 68428800) (by omega) (by omega) (by omega) (nB τ) (fun r => earnM τ dr (upN r b s) (nS τ) b) (fun j hj hjb => ⟨fun k hk => (hP j hj hjb k hk).1, by
    have := sumN_ub (f := P j) 8 100 (fun k hk => (hP j hj hjb k hk).2)
    exact Int.le_trans this (by decide)⟩) (fun r hr => earnM_b h dr hb (upN8 hr hs)) hb
  have hp : (800 : Int) ^ (nB τ - 1) ≤ 512000000 := by
    have : nB τ - 1 = 0 ∨ nB τ - 1 = 1 ∨ nB τ - 1 = 2 ∨ nB τ - 1 = 3 := by omega
    rcases this with e | e | e | e <;> rw [e] <;> decide
  have hq : (800 : Int) ^ (nB τ - 1) * 68428800 ≤ 512000000 * 68428800 := Int.mul_le_mul_of_nonneg_right hp (by omega)
  omega
def bBest (c k : Nat) : Bool := (Nat.ble 22 c && Nat.ble c 26) || (Nat.beq c 0 && Nat.beq k 47) || (Nat.beq c 0 && Nat.beq k 55)
theorem bBest_row : ∀ c k : Nat, bBest c k = false → bRow c k = false := by
  intro c k h
  unfold bBest at h
  exact (bf h).1
theorem ptX_fr {τ τ' : St} {b : Nat} {P : Nat → Nat → Int} (h : core τ' = core τ) (h18 : ∀ s : Nat, τ'.1 18 s = τ.1 18 s) (hd : ptX τ b P) : ptX τ' b P := by
  intro j hj
  rw [fr nB (fun _ => rfl) h] at hj
  intro hjb k hk
  rw [h18]
  exact hd j hj hjb k hk
theorem atE_fr {τ τ' : St} (h : core τ' = core τ) (dr : Nat → Nat) (P : Nat → Nat → Int) (b s : Nat) : atE τ' dr P b s = atE τ dr P b s := fr (fun τ => atE τ dr P b s) (fun _ => rfl) h
theorem bestOfM {τ : St} (h : okM τ) {P : Nat → Nat → Int} {dr : Nat → Nat} (hd : drOK τ dr) {b : Nat} (hb : b < nB τ) (hP : ptX τ b P) : ∃ τ', fX9_bestOf τ (nI b) = some (τ', encN (bestN (barN τ) (atE τ dr P b) (nK τ))) ∧ frm aEarn bBest τ τ' ∧ ∀ j : Nat, bestN (barN τ) (atE τ dr P b) (nK τ) = some j → τ'.2 0 55 = Int64.ofInt (atE τ dr P b j) := by
  have h4 := h.n4
  have h8 := h.k8
  unfold fX9_bestOf
  rw [bnd_eq, bnd_eq, bnd_eq]
  obtain ⟨s1, hp1, e1⟩ := loopG (S := St × Int32) (fun n s m => fX9_bestOf_L9 (nI b) (fun (σ_15 : St) (x2_16 : Int32) (_ : Int32) => some (σ_15, x2_16)) n s.1 s.2 (nI m)) (nK τ) (fun m s => frm aEarn bBest τ s.1 ∧ s.2 = encN (bestN (barN τ) (atE τ dr P b) m) ∧ ∀ j : Nat, bestN (barN τ) (atE τ dr P b) m = some j → s.1.2 0 55 = Int64.ofInt (atE τ dr P b j)) (fun s => some (s.1, s.2)) (fun n s hp => by
      have cc : s.1.1 0 2 ≤ nI (nK τ) := by rw [hp.1.1 0 2 rfl, le_i, h.nk, nI_toInt (by omega)]; omega
      show fX9_bestOf_L9 _ _ (n + 1) s.1 s.2 _ = _
      rw [fX9_bestOf_L9, if_pos cc]) (fun n m s hm hp => by
      have hc : core s.1 = core τ := core_frm hp.1 aEarn_sc
      have cc : ¬ s.1.1 0 2 ≤ nI m := by rw [hp.1.1 0 2 rfl, le_i, h.nk, nI_toInt (by omega)]; omega
      have hl : lawOK s.1 := (okM_fr hc h).law
      show ∃ s', _ ∧ fX9_bestOf_L9 _ _ (n + 1) s.1 s.2 _ = _
      rw [fX9_bestOf_L9, if_neg cc, barredM hl (by omega), cl_some]
      by_cases hbm : barN τ m
      · have hbm' : barF s.1 (frc s.1) m := by
          have := barN_fr hc m
          exact this.mpr hbm
        rw [if_pos hbm', jp_eq, if_neg one0]
        refine ⟨s, ⟨hp.1, ?_, ?_⟩, ?_⟩
        · rw [bestN_bar hbm]; exact hp.2.1
        · rw [bestN_bar hbm]; exact hp.2.2
        · rw [nI_succ]; all_goals rfl
      · have hbm' : ¬ barF s.1 (frc s.1) m := by
          have := barN_fr hc m
          exact fun w => hbm (this.mp w)
        obtain ⟨τ2, q1, q2⟩ := earnsAtM (okM_fr hc h) (P := P) (dr := dr) (drOK_fr hc (fun k => hp.1.1 27 k rfl) hd) (b := b) (s := m) (by rw [fr nB (fun _ => rfl) hc]; exact hb) (ptX_fr hc (fun k => hp.1.1 18 k rfl) hP) (by omega)
        rw [atE_fr hc] at q1
        rw [if_neg hbm', jp_eq, if_pos rfl, q1, cl_some, bnd_eq, jp_eq]
        have f2 : frm aEarn bBest τ τ2 := frm_trans hp.1 (frm_mono (fun _ _ w => w) bBest_row q2)
        cases e : bestN (barN τ) (atE τ dr P b) m with
        | none =>
          have es : s.2 = -1 := by rw [hp.2.1, e]; rfl
          rw [if_pos es]
          refine ⟨(sL τ2 0 55 (Int64.ofInt (atE τ dr P b m)), nI m), ⟨frm_trans f2 (frm_sL _ _ rfl), ?_, ?_⟩, ?_⟩
          · rw [bestN_new hbm e]; rfl
          · intro j hj
            rw [bestN_new hbm e] at hj
            cases hj
            rfl
          · rw [nI_succ]; all_goals rfl
        | some q =>
          have hq := (bestN_lt _ _ e).1
          have es : ¬ s.2 = -1 := by rw [hp.2.1, e]; exact nI_ne_m1 (by omega)
          rw [if_neg es]
          have v0 : τ2.2 0 55 = Int64.ofInt (atE τ dr P b q) := by
            rw [q2.2 0 55 rfl]
            exact hp.2.2 q e
          have hPb : ∀ j : Nat, j < nB τ → j ≠ b → ∀ k : Nat, k < 8 → 0 ≤ P j k ∧ P j k ≤ 100 := fun j hj hjb k hk => (hP j hj hjb k hk).2
          have b1 := atE_b h dr (P := P) hb hPb (s := m) (by omega)
          have b2 := atE_b h dr (P := P) hb hPb (s := q) (by omega)
          have cmp : (0 < lg_cmp (Int64.ofInt (atE τ dr P b m)) (τ2.2 0 55)) ↔ atE τ dr P b q < atE τ dr P b m := by
            rw [v0, lg_cmp_gt, Int64.lt_iff_toInt_lt, i64o (by omega) (by omega), i64o (by omega) (by omega)]
          by_cases w : atE τ dr P b q < atE τ dr P b m
          · rw [if_pos (cmp.mpr w)]
            refine ⟨(sL τ2 0 55 (Int64.ofInt (atE τ dr P b m)), nI m), ⟨frm_trans f2 (frm_sL _ _ rfl), ?_, ?_⟩, ?_⟩
            · rw [bestN_old hbm e, if_pos w]; rfl
            · intro j hj
              rw [bestN_old hbm e, if_pos w] at hj
              cases hj
              rfl
            · rw [nI_succ]; all_goals rfl
          · rw [if_neg (fun w2 => w (cmp.mp w2))]
            refine ⟨(τ2, s.2), ⟨f2, ?_, ?_⟩, ?_⟩
            · rw [bestN_old hbm e, if_neg w, hp.2.1, e]
            · intro j hj
              rw [bestN_old hbm e, if_neg w] at hj
              cases hj
              exact v0
            · rw [nI_succ]; all_goals rfl) FU 0 (sL τ 0 55 0, -1) (by omega) (by have : FU = 100000 := rfl; omega) ⟨frm_sL _ _ rfl, rfl, fun j hj => absurd hj (by intro w; cases w)⟩
  refine ⟨s1.1, e1.trans ?_, hp1.1, hp1.2.2⟩
  show some (s1.1, s1.2) = _
  rw [hp1.2.1]
theorem allBarredM {τ : St} (h : okM τ) (v : Nat → Int) : fX9_isAllBarred τ = some (τ, if bestN (barN τ) v (nK τ) = none then 1 else 0) := by
  have h8 := h.k8
  unfold fX9_isAllBarred
  rw [bnd_eq, bnd_eq]
  obtain ⟨s1, hp1, e1⟩ := loopG (S := Int32) (fun n s m => fX9_isAllBarred_L4 (fun (σ_10 : St) (x1_11 : Int32) (_ : Int32) => chk (isB x1_11) (some (σ_10, x1_11))) n τ s (nI m)) (nK τ) (fun m s => s = if bestN (barN τ) v m = none then 1 else 0) (fun s => chk (isB s) (some (τ, s))) (fun n s hp => by
      have cc : τ.1 0 2 ≤ nI (nK τ) := by rw [le_i, h.nk, nI_toInt (by omega)]; omega
      show fX9_isAllBarred_L4 _ (n + 1) τ s _ = _
      rw [fX9_isAllBarred_L4, if_pos cc]) (fun n m s hm hp => by
      have cc : ¬ τ.1 0 2 ≤ nI m := by rw [le_i, h.nk, nI_toInt (by omega)]; omega
      show ∃ s', _ ∧ fX9_isAllBarred_L4 _ (n + 1) τ s _ = _
      rw [fX9_isAllBarred_L4, if_neg cc, jp_eq, jp_eq, barredM h.law (by omega), cl_some]
      refine ⟨if bestN (barN τ) v (m + 1) = none then 1 else 0, rfl, ?_⟩
      cases e : bestN (barN τ) v m with
      | none =>
        rw [e, if_pos rfl] at hp
        subst hp
        rw [if_neg one0]
        by_cases hb : barN τ m
        · rw [if_pos (show barF τ (frc τ) m from hb), if_neg one0, bestN_bar hb, e, if_pos rfl]
          refine (bnd_eq _ _).trans ?_
          rw [bnd_eq, ← nI_succ]
        · rw [if_neg (show ¬ barF τ (frc τ) m from hb), if_pos rfl, bestN_new hb e, if_neg (by intro w; cases w)]
          refine (bnd_eq _ _).trans ?_
          rw [bnd_eq, ← nI_succ]
      | some q =>
        rw [e, if_neg (by intro w; cases w)] at hp
        subst hp
        rw [if_pos rfl]
        have e2 : ¬ bestN (barN τ) v (m + 1) = none := by
          by_cases hb : barN τ m
          · rw [bestN_bar hb, e]; intro w; cases w
          · rw [bestN_old hb e]
            intro w
            by_cases w2 : v q < v m
            · rw [if_pos w2] at w; cases w
            · rw [if_neg w2] at w; cases w
        rw [if_neg e2]
        refine (bnd_eq _ _).trans ?_
        rw [bnd_eq, ← nI_succ]) FU 0 1 (by omega) (by have : FU = 100000 := rfl; omega) rfl
  refine e1.trans ?_
  rw [hp1, chk_t (isB01 _)]
