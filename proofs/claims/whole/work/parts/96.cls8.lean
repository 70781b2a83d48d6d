/-! survey -/
theorem setSumA {τ : St} (h : okM τ) (sh : Prop) [Decidable sh] {dr : Nat → Nat} {s : Nat} {F : Nat → Int} {B : Int} (hB : 0 ≤ B) (hF : ∀ set : Nat, -B ≤ F set ∧ F set ≤ B) : -(16 * B) ≤ setSum τ sh dr s F ∧ setSum τ sh dr s F ≤ 16 * B := by
  unfold setSum
  split
  · have := sum_abs (f := fun set => if popN (nB τ) set = nmd τ s then F (if sh then fullN τ else set) else 0) (B := B) (2 ^ nB τ) (fun k _ => by
      split
      · exact hF _
      · omega)
    have h2 : ((2 ^ nB τ : Nat) : Int) * B ≤ 16 * B := Int.mul_le_mul_of_nonneg_right (by have := h.p16; omega) hB
    omega
  · have := hF (if sh then fullN τ else if knd τ s = 0 then dr s else lsd τ)
    omega
theorem sumSA {τ : St} (h : okM τ) (sh : Prop) [Decidable sh] {dr : Nat → Nat} {F : Nat → Nat → Int} {B : Int} (hB : 0 ≤ B) (hF : ∀ s set : Nat, -B ≤ F s set ∧ F s set ≤ B) : -(12 * (99 * (16 * B))) ≤ sumN (nS τ) (fun s => mny τ s * setSum τ sh dr s (F s)) ∧ sumN (nS τ) (fun s => mny τ s * setSum τ sh dr s (F s)) ≤ 12 * (99 * (16 * B)) := by
  have := sum_abs (f := fun s => mny τ s * setSum τ sh dr s (F s)) (B := 99 * (16 * B)) (nS τ) (fun s hs => by
    have a := mny_b h hs
    have c := setSumA h sh (dr := dr) (s := s) hB (hF s)
    exact abs_mul a.1 a.2 c.1 c.2)
  have h2 : ((nS τ : Nat) : Int) * (99 * (16 * B)) ≤ 12 * (99 * (16 * B)) := Int.mul_le_mul_of_nonneg_right (by have := h.n12; omega) (by omega)
  omega
theorem soldG_b (τ : St) {G : Nat → Int} (hG : ∀ l : Nat, l < 8 → -300 ≤ G l ∧ G l ≤ 300) (s set b : Nat) {r : Nat → Nat} (hr : ∀ j : Nat, r j < 8) : -3600 ≤ soldG τ G s set b r ∧ soldG τ G s set b r ≤ 3600 := by
  unfold soldG
  cases e : leastN (nB τ) set r with
  | none => show -3600 ≤ (0 : Int) ∧ (0 : Int) ≤ 3600; omega
  | some l =>
    obtain ⟨j, _, _, hj⟩ := least_row _ _ e
    have := hr j
    have a := soldF_b τ s set b r
    have g := hG l (by omega)
    exact abs_mul a.1 a.2 g.1 g.2
theorem genS_b {τ : St} (h : okM τ) (sh : Prop) [Decidable sh] (dr : Nat → Nat) {G : Nat → Int} (hG : ∀ l : Nat, l < 8 → -300 ≤ G l ∧ G l ≤ 300) (b : Nat) {r : Nat → Nat} (hr : ∀ j : Nat, r j < 8) : -68428800 ≤ genS τ sh dr G b r ∧ genS τ sh dr G b r ≤ 68428800 := by
  have := sumSA h sh (dr := dr) (F := fun s set => soldG τ G s set b r) (B := 3600) (by omega) (fun s set => soldG_b τ hG s set b hr)
  unfold genS
  omega
theorem G1_b : ∀ l : Nat, l < 8 → -300 ≤ (fun _ : Nat => (1 : Int)) l ∧ (fun _ : Nat => (1 : Int)) l ≤ 300 := fun _ _ => by
  show -300 ≤ (1 : Int) ∧ (1 : Int) ≤ 300
  decide
theorem Gp_b {τ : St} (h : okM τ) : ∀ l : Nat, l < 8 → -300 ≤ prc τ l ∧ prc τ l ≤ 300 := fun l hl => by have := prc_b h (l := l) (by omega); omega
def lacc (σ : St) (F G : Nat → Int) : Prop := ∀ k : Nat, k < 8 → σ.2 51 k = Int64.ofInt (F k) ∧ σ.2 52 k = Int64.ofInt (G k)
theorem surveyI {σ τ : St} {dr : Nat → Nat} (h : okM τ) (c : clsR σ τ dr) (w : Int) (q1 q2 q3 : Int32) (kont : St → Option (St × Unit)) {S T F G : Nat → Int} (hac : acc σ S T) (hST : ∀ k : Nat, k < nK τ → (-68428800 ≤ S k ∧ S k ≤ 68428800) ∧ (-68428800 ≤ T k ∧ T k ≤ 68428800)) (ha : lacc σ F G) : ∃ σ', fX7_survey_L58 q1 q2 q3 (Int64.ofInt w) (fun (σ_26 : St) (_ : Int32) => kont σ_26) FU σ 0 = kont σ' ∧ frm noL (mk 51 52) σ σ' ∧ lacc σ' (upTo (nK τ) F (fun k => w * S k)) (upTo (nK τ) G (fun k => w * T k)) := by
  have h8 := h.k8
  obtain ⟨σ1, hp1, e1⟩ := loopG (S := St) (fun n x m => fX7_survey_L58 q1 q2 q3 (Int64.ofInt w) (fun (σ_26 : St) (_ : Int32) => kont σ_26) n x (nI m)) (nK τ) (fun m x => frm noL (mk 51 52) σ x ∧ lacc x (upTo m F (fun k => w * S k)) (upTo m G (fun k => w * T k))) (fun x => kont x) (fun n x hp => by
      have c1 := clsR_fr (coreC_frm hp.1 (fun _ _ _ => rfl)) c
      show fX7_survey_L58 _ _ _ _ _ (n + 1) x _ = _
      rw [fX7_survey_L58, c1.nk h, if_pos (by rw [le_i]; omega)]) (fun n m x hm hp => by
      have c1 := clsR_fr (coreC_frm hp.1 (fun _ _ _ => rfl)) c
      have hin : inb (nI m) 8 = true := inb_nI (by omega) (by decide)
      obtain ⟨b1, b2⟩ := hST m hm
      have e49 : x.1 49 m = Int32.ofInt (S m) := by rw [hp.1.1 49 m rfl]; exact (hac m (by omega)).1
      have e50 : x.1 50 m = Int32.ofInt (T m) := by rw [hp.1.1 50 m rfl]; exact (hac m (by omega)).2
      have e51 := (hp.2 m (by omega)).1
      have e52 := (hp.2 m (by omega)).2
      show ∃ x', _ ∧ fX7_survey_L58 _ _ _ _ _ (n + 1) x _ = _
      rw [fX7_survey_L58, c1.nk h, if_neg (by rw [le_i, nI_toInt (by omega), nI_toInt (by omega)]; omega), chk_t hin, chk_t hin, chk_t hin, ix_nI (m := m) (by omega), e49, i64_of, i32o (by omega) (by omega), ← Int64.ofInt_mul, bnd_eq, chk_t hin, chk_t hin, chk_t hin]
      refine ⟨sL (sL x 51 m (x.2 51 m + Int64.ofInt (w * S m))) 52 m (x.2 52 m + Int64.ofInt (w * T m)), ⟨frm_trans hp.1 (frm_trans (frm_sL _ _ rfl) (frm_sL _ _ rfl)), fun k hk => ⟨?_, ?_⟩⟩, ?_⟩
      · rw [sL_ne (by decide), sL_at, (hp.2 k hk).1, e51]
        unfold upTo
        by_cases e : k = m
        · subst e
          rw [if_pos rfl, if_neg (by omega), if_pos (by omega), Int64.ofInt_add]
        · rw [if_neg e]
          by_cases e2 : k < m
          · rw [if_pos e2, if_pos (by omega)]
          · rw [if_neg e2, if_neg (by omega)]
      · rw [sL_at, sL_ne (by decide), (hp.2 k hk).2, e52]
        unfold upTo
        by_cases e : k = m
        · subst e
          rw [if_pos rfl, if_neg (by omega), if_pos (by omega), Int64.ofInt_add]
        · rw [if_neg e]
          by_cases e2 : k < m
          · rw [if_pos e2, if_pos (by omega)]
          · rw [if_neg e2, if_neg (by omega)]
      · have v52 : (sL x 51 m (x.2 51 m + Int64.ofInt (w * S m))).2 52 m = x.2 52 m := by rw [sL_ne (by decide)]
        have v50 : (sL x 51 m (x.2 51 m + Int64.ofInt (w * S m))).1 50 m = Int32.ofInt (T m) := e50
        rw [v52, v50, i64_of, i32o (by omega) (by omega), ← Int64.ofInt_mul, nI_succ (n := m)]
        rfl) FU 0 σ (by omega) (by have : FU = 100000 := rfl; omega) ⟨frm_refl _ _ _, fun k hk => by
        unfold upTo
        rw [if_neg (by omega), if_neg (by omega)]
        exact ha k hk⟩
  exact ⟨σ1, e1, hp1.1, hp1.2⟩
theorem powK {K m : Nat} (hK : K ≤ 8) (hm : m ≤ 4) : K ^ m ≤ 4096 := Nat.le_trans (Nat.pow_le_pow_left hK m) (pow8 hm)
theorem powK3 {K m : Nat} (hK : K ≤ 8) (hm : m ≤ 3) : K ^ m ≤ 512 := Nat.le_trans (Nat.pow_le_pow_left hK m) (Nat.pow_le_pow_right (n := 8) (by decide) hm)
theorem nI_mul {a b : Nat} (ha : a < 65536) (hb : b < 1000) : nI a * nI b = nI (a * b) := by
  have h0 : a * b ≤ 65536 * 1000 := Nat.mul_le_mul (by omega) (by omega)
  have h1 : ((a : Int) * (b : Int)) = ((a * b : Nat) : Int) := (Int.natCast_mul a b).symm
  apply Int32.toInt_inj.mp
  rw [i32_mul (by rw [nI_toInt (by omega), nI_toInt (by omega), h1]; omega) (by rw [nI_toInt (by omega), nI_toInt (by omega), h1]; omega), nI_toInt (by omega), nI_toInt (by omega), nI_toInt (by omega), h1]
theorem rowsC {σ τ : St} {dr : Nat → Nat} (h : okM τ) (c : clsR σ τ dr) (hn : 0 < nB τ) : fX7_rowsOfOthers σ = some (σ, nI (nK τ ^ (nB τ - 1))) := by
  have h4 := h.n4
  have h8 := h.k8
  unfold fX7_rowsOfOthers
  rw [bnd_eq, bnd_eq]
  obtain ⟨x, hx, e⟩ := loopG (S := Int32) (fun n x m => fX7_rowsOfOthers_L4 (fun (σ_5 : St) (x1_6 : Int32) (_ : Int32) => some (σ_5, x1_6)) n σ x (nI m)) (nB τ) (fun m x => 1 ≤ m ∧ x = nI (nK τ ^ (m - 1))) (fun x => some (σ, x)) (fun n x hp => by
      show fX7_rowsOfOthers_L4 _ (n + 1) σ x _ = _
      rw [fX7_rowsOfOthers_L4, c.nb h, if_pos (by rw [le_i]; omega)]) (fun n m x hm hp => by
      show ∃ x', _ ∧ fX7_rowsOfOthers_L4 _ (n + 1) σ x _ = _
      have p3 := powK3 (K := nK τ) (m := m - 1) (by omega) (by omega)
      rw [fX7_rowsOfOthers_L4, c.nb h, if_neg (by rw [le_i, nI_toInt (by omega), nI_toInt (by omega)]; omega), c.nk h, hp.2, nI_mul (by omega) (by omega), ← Nat.pow_succ, show (m - 1).succ = m + 1 - 1 by omega]
      exact ⟨_, ⟨by omega, rfl⟩, by rw [nI_succ]; all_goals rfl⟩) FU 1 1 (by omega) (by have : FU = 100000 := rfl; omega) ⟨by omega, rfl⟩
  refine e.trans ?_
  rw [hx.2]
/-- what baker b sells or takes at step k, with the others as in the first i rows -/
def svS (τ : St) (sh : Prop) [Decidable sh] (dr : Nat → Nat) (P : Nat → Nat → Int) (G : Nat → Int) (b i k : Nat) : Int := if k < nK τ then sumN i (fun c => prodO b (nB τ) (fun j => P j (rowO (nK τ) b c j)) * genS τ sh dr G b (upN (rowO (nK τ) b c) b k)) else 0
theorem svS_add {τ : St} (sh : Prop) [Decidable sh] (dr : Nat → Nat) (P : Nat → Nat → Int) (G : Nat → Int) (b i k : Nat) : svS τ sh dr P G b (i + 1) k = if k < nK τ then svS τ sh dr P G b i k + prodO b (nB τ) (fun j => P j (rowO (nK τ) b i j)) * genS τ sh dr G b (upN (rowO (nK τ) b i) b k) else svS τ sh dr P G b i k := by
  unfold svS
  by_cases e : k < nK τ
  · rw [if_pos e, if_pos e, if_pos e]; rfl
  · rw [if_neg e, if_neg e, if_neg e]
theorem lacc_eq {σ : St} {F G F' G' : Nat → Int} (h1 : ∀ k : Nat, k < 8 → F k = F' k) (h2 : ∀ k : Nat, k < 8 → G k = G' k) (h : lacc σ F G) : lacc σ F' G' := fun k hk => by rw [← h1 k hk, ← h2 k hk]; exact h k hk
def drB (τ : St) (dr : Nat → Nat) : Prop := ∀ s : Nat, s < nS τ → knd τ s = 0 → dr s < 2 ^ nB τ
theorem clsR.drB {σ τ : St} {dr : Nat → Nat} (c : clsR σ τ dr) : drB τ dr := fun _ hs hk => ((c.sort hs).2.2.2.2 hk).2
theorem surveyC {σ τ : St} {dr : Nat → Nat} (h : okM τ) (c : clsR σ τ dr) (sh : Prop) [Decidable sh] (hcr : crd σ (crF τ sh dr (nS τ))) {b : Nat} (hb : b < nB τ) {P : Nat → Nat → Int} (hP : ∀ j : Nat, j < nB τ → j ≠ b → ∀ k : Nat, k < 8 → σ.1 45 (8 * j + k) = Int32.ofInt (P j k) ∧ 0 ≤ P j k ∧ P j k ≤ 100) : ∃ σ', fX7_survey σ (nI b) = some (σ', ()) ∧ frm (mk 46 50) (mk 51 52) σ σ' ∧ lacc σ' (svS τ sh dr P (fun _ => 1) b (nK τ ^ (nB τ - 1))) (svS τ sh dr P (prc τ) b (nK τ ^ (nB τ - 1))) := by
  have h4 := h.n4
  have h8 := h.k8
  have hPb : ∀ j : Nat, j < nB τ → j ≠ b → ∀ k : Nat, k < 8 → 0 ≤ P j k ∧ P j k ≤ 100 := fun j h1 h2 k h3 => (hP j h1 h2 k h3).2
  have pK := powK3 (K := nK τ) (m := nB τ - 1) (by omega) (by omega)
  unfold fX7_survey fX7_firstRow
  obtain ⟨σ1, a1, a2, a3⟩ := fill51 σ
  obtain ⟨σ2, b1, b2, b3⟩ := fill52 σ1
  have f2 : frm (mk 46 50) (mk 51 52) σ σ2 := frm_trans (frm_mono noL_any (mk_mono (by omega) (by omega)) a2) (frm_mono noL_any (mk_mono (by omega) (by omega)) b2)
  have c2 := clsR_fr (coreC_frm f2 (mk43 (by omega))) c
  obtain ⟨σ3, d1, d2, d3⟩ := fill46 σ2
  have f3 : frm (mk 46 50) (mk 51 52) σ σ3 := frm_trans f2 (frm_mono (mk_mono (by omega) (by omega)) noL_any d2)
  rw [a1, cl_some, b1, cl_some, rowsC h c2 (by omega), cl_some, bnd_eq, d1, cl_some, cl_some, bnd_eq]
  have row0 : rowC σ3 (nB τ) (rowO (nK τ) b 0) := fun j hj => by
    rw [d3 j (by omega)]
    unfold rowO rowAt
    rw [Nat.zero_div, Nat.zero_mod]
    split <;> rfl
  have ac0 : lacc σ3 (svS τ sh dr P (fun _ => 1) b 0) (svS τ sh dr P (prc τ) b 0) := fun k hk => by
    have z : ∀ G : Nat → Int, svS τ sh dr P G b 0 k = 0 := fun G => by unfold svS; split <;> rfl
    rw [z, z, d2.2 51 k rfl, d2.2 52 k rfl, b3 k hk, b2.2 51 k rfl, a3 k hk]
    exact ⟨rfl, rfl⟩
  obtain ⟨σ4, hp4, e4⟩ := loopG (S := St) (fun n x m => fX7_survey_L27 (nI b) (nI (nK τ ^ (nB τ - 1))) (fun (σ_28 : St) (_ : Int32) => some (σ_28, ())) n x (nI m)) (nK τ ^ (nB τ - 1)) (fun m x => frm (mk 46 50) (mk 51 52) σ x ∧ rowC x (nB τ) (rowO (nK τ) b m) ∧ lacc x (svS τ sh dr P (fun _ => 1) b m) (svS τ sh dr P (prc τ) b m)) (fun x => some (x, ())) (fun n x hp => by
      show fX7_survey_L27 _ _ _ (n + 1) x _ = _
      rw [fX7_survey_L27, if_pos (by rw [le_i]; omega)]) (fun n m x hm hp => by
      obtain ⟨p1, p2, p3⟩ := hp
      have c1 := clsR_fr (coreC_frm p1 (mk43 (by omega))) c
      have hr8 : ∀ j : Nat, rowO (nK τ) b m j < 8 := fun j => by have := rowO_lt (K := nK τ) (b := b) (i := m) (by omega) j; omega
      have hwt := weightC h c1 hb (P := P) (fun j h1 h2 k h3 => by rw [p1.1 45 _ rfl]; exact hP j h1 h2 k h3) hr8 p2
      have wb := prodO_b hPb hr8 h4 (nB τ) (Nat.le_refl _)
      have z0 : (0 : Int64).toInt = 0 := by decide
      have cmp : (lg_cmp (Int64.ofInt (prodO b (nB τ) (fun j => P j (rowO (nK τ) b m j)))) 0 ≤ 0) ↔ prodO b (nB τ) (fun j => P j (rowO (nK τ) b m j)) ≤ 0 := by
        rw [lg_cmp_le, Int64.le_iff_toInt_le, i64o (by omega) (by omega), z0]
      -- the next row, with the sums grown
      have fin : ∀ y : St, frm (mk 46 50) (mk 51 52) σ y → rowC y (nB τ) (rowO (nK τ) b m) → lacc y (svS τ sh dr P (fun _ => 1) b (m + 1)) (svS τ sh dr P (prc τ) b (m + 1)) → ∃ x' : St, (frm (mk 46 50) (mk 51 52) σ x' ∧ rowC x' (nB τ) (rowO (nK τ) b (m + 1)) ∧ lacc x' (svS τ sh dr P (fun _ => 1) b (m + 1)) (svS τ sh dr P (prc τ) b (m + 1))) ∧ (cl (fX7_nextRow y (nI b)) fun (σ_15 : St) (_ : Unit) => bnd (nI m + (1 : Int32)) fun (x3_17 : Int32) => fX7_survey_L27 (nI b) (nI (nK τ ^ (nB τ - 1))) (fun (σ_28 : St) (_ : Int32) => some (σ_28, ())) n σ_15 x3_17) = fX7_survey_L27 (nI b) (nI (nK τ ^ (nB τ - 1))) (fun (σ_28 : St) (_ : Int32) => some (σ_28, ())) n x' (nI (m + 1)) := by
        intro y y1 y2 y3
        have cy := clsR_fr (coreC_frm y1 (mk43 (by omega))) c
        obtain ⟨y', g1, g2, g3⟩ := nextRowC h cy hb y2
        refine ⟨y', ⟨frm_trans y1 (frm_mono (mk_mono (by omega) (by omega)) noL_any g2), g3, fun k hk => ?_⟩, ?_⟩
        · rw [g2.2 51 k rfl, g2.2 52 k rfl]; exact y3 k hk
        · rw [g1, cl_some, bnd_eq, ← nI_succ]
      show ∃ x', _ ∧ fX7_survey_L27 _ _ _ (n + 1) x _ = _
      rw [fX7_survey_L27, if_neg (by rw [le_i, nI_toInt (by omega), nI_toInt (by omega)]; omega), hwt, cl_some, bnd_eq, jp_eq]
      by_cases w : prodO b (nB τ) (fun j => P j (rowO (nK τ) b m j)) ≤ 0
      · have w0 : prodO b (nB τ) (fun j => P j (rowO (nK τ) b m j)) = 0 := by omega
        rw [if_pos (cmp.mpr w)]
        refine fin x p1 p2 (lacc_eq (fun k hk => ?_) (fun k hk => ?_) p3)
        · rw [svS_add, w0, Int.zero_mul, Int.add_zero]; split <;> rfl
        · rw [svS_add, w0, Int.zero_mul, Int.add_zero]; split <;> rfl
      · rw [if_neg (fun q => w (cmp.mp q))]
        obtain ⟨x1, r1, r2, r3⟩ := readRowC h c1 hr8 p2
        have cx1 := clsR_fr (coreC_frm r2 (mk43 (by omega))) c1
        have hcx : crd x1 (crF τ sh dr (nS τ)) := fun t ht k hk => by rw [r2.1 44 _ rfl, p1.1 44 _ rfl]; exact hcr t ht k hk
        obtain ⟨x2, s1, s2, s3⟩ := weighC h cx1 sh hcx hb (r := rowO (nK τ) b m) (fun j => rowO_lt (by omega) j) r3
        have cx2 := clsR_fr (coreC_frm s2 (mk43 (by omega))) cx1
        have f12 : frm (mk 46 50) (mk 51 52) σ x2 := frm_trans p1 (frm_trans (frm_mono (mk_mono (by omega) (by omega)) noL_any r2) (frm_mono (mk_mono (by omega) (by omega)) noL_any s2))
        have hrow2 : rowC x2 (nB τ) (rowO (nK τ) b m) := fun j hj => by rw [s2.1 46 j rfl, r2.1 46 j rfl]; exact p2 j hj
        have hl2 : lacc x2 (svS τ sh dr P (fun _ => 1) b m) (svS τ sh dr P (prc τ) b m) := fun k hk => by rw [s2.2 51 k rfl, s2.2 52 k rfl, r2.2 51 k rfl, r2.2 52 k rfl]; exact p3 k hk
        rw [r1, cl_some, s1, cl_some, bnd_eq]
        have hrK : ∀ j : Nat, rowO (nK τ) b m j < nK τ := fun j => rowO_lt (by omega) j
        obtain ⟨x3, t1, t2, t3⟩ := surveyI h cx2 (prodO b (nB τ) (fun j => P j (rowO (nK τ) b m j))) (nI b) (nI (nK τ ^ (nB τ - 1))) (nI m) (fun y => cl (fX7_nextRow y (nI b)) fun (σ_15 : St) (_ : Unit) => bnd (nI m + (1 : Int32)) fun (x3_17 : Int32) => fX7_survey_L27 (nI b) (nI (nK τ ^ (nB τ - 1))) (fun (σ_28 : St) (_ : Int32) => some (σ_28, ())) n σ_15 x3_17) s3 (fun k hk => by
          rw [wS_gen h sh c.drB _ b hrK hk, wS_gen h sh c.drB _ b hrK hk]
          exact ⟨genS_b h sh dr G1_b b (upN8 hr8 (by omega)), genS_b h sh dr (Gp_b h) b (upN8 hr8 (by omega))⟩) hl2
        refine Exists.imp (fun x' q => ⟨q.1, Eq.trans t1 q.2⟩) (fin x3 (frm_trans f12 (frm_mono noL_any (fun _ _ q => q) t2)) (fun j hj => by rw [t2.1 46 j rfl]; exact hrow2 j hj) (lacc_eq (fun k hk => ?_) (fun k hk => ?_) t3))
        · rw [svS_add]
          unfold upTo
          by_cases q : k < nK τ
          · rw [if_pos q, if_pos q]
            dsimp only
            rw [wS_gen h sh c.drB _ b hrK q]
          · rw [if_neg q, if_neg q]
        · rw [svS_add]
          unfold upTo
          by_cases q : k < nK τ
          · rw [if_pos q, if_pos q]
            dsimp only
            rw [wS_gen h sh c.drB _ b hrK q]
          · rw [if_neg q, if_neg q]) FU 0 σ3 (Nat.zero_le _) (by have : FU = 100000 := rfl; omega) ⟨f3, row0, ac0⟩
  exact ⟨σ4, e4, hp4.1, hp4.2.2⟩
