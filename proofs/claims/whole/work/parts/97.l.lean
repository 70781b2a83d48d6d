/-! lots: both sides -/
/-- one baker made sure, another surveyed -/
theorem duelS {σ τ : St} {dr : Nat → Nat} (h : okM τ) (c : clsR σ τ dr) (ho : opnd σ τ (frc τ) dr) {Q : Nat → Nat → Int} (hC : ptC σ (nB τ) Q) (hW : okW τ Q) {x y u : Nat} (hx : x < nB τ) (hy : y < nB τ) (hu : u < nK τ) : ∃ σ1 σ2, fX7_makeSure σ (nI x) (nI u) = some (σ1, ()) ∧ fX7_survey σ1 (nI y) = some (σ2, ()) ∧ frm (mk 45 50) (mk 51 52) σ σ2 ∧ clsR σ2 τ dr ∧ opnd σ2 τ (frc τ) dr ∧ ptC σ2 (nB τ) (putP Q x u) ∧ svd σ2 τ (shN τ) dr (putP Q x u) y := by
  have h4 := h.n4
  have h8 := h.k8
  obtain ⟨σ1, a1, a2, a3⟩ := makeSureC σ (b := x) (s := u) (by omega) (by omega)
  have c1 := clsR_fr (coreC_frm a2 (mk43 (by omega))) c
  have o1 := opnd_fr (a2.1 43 14 rfl) (a2.1 43 15 rfl) (fun i => a2.1 44 i rfl) ho
  have hW1 := okW_put hW x (s := u) (by omega) hu
  have hC1 : ptC σ1 (nB τ) (putP Q x u) := fun j hj k hk => by
    rw [a3]
    unfold putP
    by_cases e2 : j = x
    · rw [if_pos e2, if_pos (by omega)]
      by_cases e3 : k = u
      · rw [if_pos e3, if_pos (by omega)]; rfl
      · rw [if_neg e3, if_neg (by omega)]; rfl
    · rw [if_neg e2, if_neg (by omega)]
      exact hC j hj k hk
  obtain ⟨σ2, b1, b2, b3⟩ := surveyC h c1 (shN τ) o1.2.2 hy (P := putP Q x u) (fun j hj _ k hk => ⟨hC1 j hj k hk, ((hW1 j hj).1 k hk).1, ((hW1 j hj).1 k hk).2.1⟩)
  exact ⟨σ1, σ2, a1, b1, frm_trans (frm_mono (mk_mono (by omega) (by omega)) noL_any a2) (frm_mono (mk_mono (by omega) (by omega)) (fun _ _ w => w) b2), clsR_fr (coreC_frm b2 (mk43 (by omega))) c1, opnd_fr (b2.1 43 14 rfl) (b2.1 43 15 rfl) (fun i => b2.1 44 i rfl) o1, fun j hj k hk => by rw [b2.1 45 _ rfl]; exact hC1 j hj k hk, b3⟩
/-- writes into the duel leave all else -/
theorem clsR_sL {σ τ : St} {dr : Nat → Nat} (c : clsR σ τ dr) (q k : Nat) (v : Int64) : clsR (sL σ q k v) τ dr := c
theorem opnd_sL {σ τ : St} {f : Int} {dr : Nat → Nat} (c : opnd σ τ f dr) (q k : Nat) (v : Int64) : opnd (sL σ q k v) τ f dr := c
theorem ptC_sL {σ : St} {n : Nat} {P : Nat → Nat → Int} (c : ptC σ n P) (q k : Nat) (v : Int64) : ptC (sL σ q k v) n P := c
theorem svd_sL {σ τ : St} {sh : Prop} [Decidable sh] {dr : Nat → Nat} {P : Nat → Nat → Int} {b : Nat} (c : svd σ τ sh dr P b) (k : Nat) (v : Int64) : svd (sL σ 61 k v) τ sh dr P b := fun i hi => by
  rw [sL_ne (by decide), sL_ne (by decide)]
  exact c i hi
def gA (τ : St) (dr : Nat → Nat) (P : Nat → Nat → Int) (a b x y : Nat) : Int := gnS τ (shN τ) dr (putP P b y) a x
def gB (τ : St) (dr : Nat → Nat) (P : Nat → Nat → Int) (a b x y : Nat) : Int := gnS τ (shN τ) dr (putP P a x) b y
theorem fillC {σ τ : St} {dr : Nat → Nat} (h : okM τ) (c : clsR σ τ dr) (ho : opnd σ τ (frc τ) dr) {P : Nat → Nat → Int} (hC : ptC σ (nB τ) P) (hW : okW τ P) {a b lo hi : Nat} (ha : a < nB τ) (hb : b < nB τ) (hab : a ≠ b) (hlo : lo < nK τ) (hhi : hi < nK τ) : ∃ σ2, fX1_fill σ (nI a) (nI b) (nI lo) (nI hi) = some (σ2, ()) ∧ frm (mk 45 50) (mk 51 61) σ σ2 ∧ (σ2.2 61 1 = Int64.ofInt (gA τ dr P a b lo lo) ∧ σ2.2 61 2 = Int64.ofInt (gA τ dr P a b lo hi) ∧ σ2.2 61 3 = Int64.ofInt (gA τ dr P a b hi lo) ∧ σ2.2 61 4 = Int64.ofInt (gA τ dr P a b hi hi)) ∧ (σ2.2 61 5 = Int64.ofInt (gB τ dr P a b lo lo) ∧ σ2.2 61 6 = Int64.ofInt (gB τ dr P a b lo hi) ∧ σ2.2 61 7 = Int64.ofInt (gB τ dr P a b hi lo) ∧ σ2.2 61 8 = Int64.ofInt (gB τ dr P a b hi hi)) := by
  have h8 := h.k8
  have m61 : ∀ c k : Nat, mk 51 61 c k = false → mk 51 52 c k = false := mk_mono (by omega) (by omega)
  unfold fX1_fill
  -- a low
  obtain ⟨s1, s2, a1, a2, a3, a4, a5, a6, a7⟩ := duelS h c ho hC hW (x := a) (y := b) (u := lo) ha hb hlo
  rw [a1, cl_some, a2, cl_some, gainAtC h a4 (shN τ) hb a7 hlo, cl_some, bnd_eq, gainAtC h (clsR_sL a4 61 5 _) (shN τ) hb (svd_sL a7 5 _) hhi, cl_some, bnd_eq]
  have f1 : frm (mk 45 50) (mk 51 61) σ (sL (sL s2 61 5 (Int64.ofInt (gnS τ (shN τ) dr (putP P a lo) b lo))) 61 6 (Int64.ofInt (gnS τ (shN τ) dr (putP P a lo) b hi))) := frm_trans (frm_mono (fun _ _ w => w) m61 a3) (frm_trans (frm_sL _ _ rfl) (frm_sL _ _ rfl))
  have v5 : (sL (sL s2 61 5 (Int64.ofInt (gnS τ (shN τ) dr (putP P a lo) b lo))) 61 6 (Int64.ofInt (gnS τ (shN τ) dr (putP P a lo) b hi))).2 61 5 = Int64.ofInt (gB τ dr P a b lo lo) := rfl
  have v6 : (sL (sL s2 61 5 (Int64.ofInt (gnS τ (shN τ) dr (putP P a lo) b lo))) 61 6 (Int64.ofInt (gnS τ (shN τ) dr (putP P a lo) b hi))).2 61 6 = Int64.ofInt (gB τ dr P a b lo hi) := rfl
  have c1 := clsR_sL (clsR_sL a4 61 5 (Int64.ofInt (gnS τ (shN τ) dr (putP P a lo) b lo))) 61 6 (Int64.ofInt (gnS τ (shN τ) dr (putP P a lo) b hi))
  have o1 := opnd_sL (opnd_sL a5 61 5 (Int64.ofInt (gnS τ (shN τ) dr (putP P a lo) b lo))) 61 6 (Int64.ofInt (gnS τ (shN τ) dr (putP P a lo) b hi))
  have t1 := ptC_sL (ptC_sL a6 61 5 (Int64.ofInt (gnS τ (shN τ) dr (putP P a lo) b lo))) 61 6 (Int64.ofInt (gnS τ (shN τ) dr (putP P a lo) b hi))
  generalize sL (sL s2 61 5 (Int64.ofInt (gnS τ (shN τ) dr (putP P a lo) b lo))) 61 6 (Int64.ofInt (gnS τ (shN τ) dr (putP P a lo) b hi)) = σ1 at f1 v5 v6 c1 o1 t1
  have hW1 := okW_put hW a (s := lo) (by omega) hlo
  -- a high
  obtain ⟨s3, s4, b1, b2, b3, b4, b5, b6, b7⟩ := duelS h c1 o1 t1 hW1 (x := a) (y := b) (u := hi) ha hb hhi
  rw [putP_putP] at b6 b7
  rw [b1, cl_some, b2, cl_some, gainAtC h b4 (shN τ) hb b7 hlo, cl_some, bnd_eq, gainAtC h (clsR_sL b4 61 7 _) (shN τ) hb (svd_sL b7 7 _) hhi, cl_some, bnd_eq]
  have f2 : frm (mk 45 50) (mk 51 61) σ (sL (sL s4 61 7 (Int64.ofInt (gnS τ (shN τ) dr (putP P a hi) b lo))) 61 8 (Int64.ofInt (gnS τ (shN τ) dr (putP P a hi) b hi))) := frm_trans f1 (frm_trans (frm_mono (fun _ _ w => w) m61 b3) (frm_trans (frm_sL _ _ rfl) (frm_sL _ _ rfl)))
  have w5 : (sL (sL s4 61 7 (Int64.ofInt (gnS τ (shN τ) dr (putP P a hi) b lo))) 61 8 (Int64.ofInt (gnS τ (shN τ) dr (putP P a hi) b hi))).2 61 5 = Int64.ofInt (gB τ dr P a b lo lo) := (b3.2 61 5 rfl).trans v5
  have w6 : (sL (sL s4 61 7 (Int64.ofInt (gnS τ (shN τ) dr (putP P a hi) b lo))) 61 8 (Int64.ofInt (gnS τ (shN τ) dr (putP P a hi) b hi))).2 61 6 = Int64.ofInt (gB τ dr P a b lo hi) := (b3.2 61 6 rfl).trans v6
  have w7 : (sL (sL s4 61 7 (Int64.ofInt (gnS τ (shN τ) dr (putP P a hi) b lo))) 61 8 (Int64.ofInt (gnS τ (shN τ) dr (putP P a hi) b hi))).2 61 7 = Int64.ofInt (gB τ dr P a b hi lo) := rfl
  have w8 : (sL (sL s4 61 7 (Int64.ofInt (gnS τ (shN τ) dr (putP P a hi) b lo))) 61 8 (Int64.ofInt (gnS τ (shN τ) dr (putP P a hi) b hi))).2 61 8 = Int64.ofInt (gB τ dr P a b hi hi) := rfl
  have c2 := clsR_sL (clsR_sL b4 61 7 (Int64.ofInt (gnS τ (shN τ) dr (putP P a hi) b lo))) 61 8 (Int64.ofInt (gnS τ (shN τ) dr (putP P a hi) b hi))
  have o2 := opnd_sL (opnd_sL b5 61 7 (Int64.ofInt (gnS τ (shN τ) dr (putP P a hi) b lo))) 61 8 (Int64.ofInt (gnS τ (shN τ) dr (putP P a hi) b hi))
  have t2 := ptC_sL (ptC_sL b6 61 7 (Int64.ofInt (gnS τ (shN τ) dr (putP P a hi) b lo))) 61 8 (Int64.ofInt (gnS τ (shN τ) dr (putP P a hi) b hi))
  generalize sL (sL s4 61 7 (Int64.ofInt (gnS τ (shN τ) dr (putP P a hi) b lo))) 61 8 (Int64.ofInt (gnS τ (shN τ) dr (putP P a hi) b hi)) = σ2 at f2 w5 w6 w7 w8 c2 o2 t2
  have hW2 := okW_put hW a (s := hi) (by omega) hhi
  -- b low: what a asks makes no difference
  have same : ∀ x y : Nat, gnS τ (shN τ) dr (putP (putP P a hi) b y) a x = gA τ dr P a b x y := fun x y => gnS_P (shN τ) dr x (fun j _ hj k _ => by
    unfold putP
    by_cases e : j = b
    · rw [if_pos e, if_pos e]
    · rw [if_neg e, if_neg e, if_neg hj])
  have same2 : ∀ x y y' : Nat, gnS τ (shN τ) dr (putP (putP (putP P a hi) b y') b y) a x = gA τ dr P a b x y := fun x y y' => by rw [putP_putP]; exact same x y
  obtain ⟨s5, s6, d1, d2, d3, d4, d5, d6, d7⟩ := duelS h c2 o2 t2 hW2 (x := b) (y := a) (u := lo) hb ha hlo
  rw [d1, cl_some, d2, cl_some, gainAtC h d4 (shN τ) ha d7 hlo, cl_some, bnd_eq, gainAtC h (clsR_sL d4 61 1 _) (shN τ) ha (svd_sL d7 1 _) hhi, cl_some, bnd_eq, same, same]
  have f3 : frm (mk 45 50) (mk 51 61) σ (sL (sL s6 61 1 (Int64.ofInt (gA τ dr P a b lo lo))) 61 3 (Int64.ofInt (gA τ dr P a b hi lo))) := frm_trans f2 (frm_trans (frm_mono (fun _ _ w => w) m61 d3) (frm_trans (frm_sL _ _ rfl) (frm_sL _ _ rfl)))
  have x1 : (sL (sL s6 61 1 (Int64.ofInt (gA τ dr P a b lo lo))) 61 3 (Int64.ofInt (gA τ dr P a b hi lo))).2 61 1 = Int64.ofInt (gA τ dr P a b lo lo) := rfl
  have x3 : (sL (sL s6 61 1 (Int64.ofInt (gA τ dr P a b lo lo))) 61 3 (Int64.ofInt (gA τ dr P a b hi lo))).2 61 3 = Int64.ofInt (gA τ dr P a b hi lo) := rfl
  have x5 : (sL (sL s6 61 1 (Int64.ofInt (gA τ dr P a b lo lo))) 61 3 (Int64.ofInt (gA τ dr P a b hi lo))).2 61 5 = Int64.ofInt (gB τ dr P a b lo lo) := (d3.2 61 5 rfl).trans w5
  have x6 : (sL (sL s6 61 1 (Int64.ofInt (gA τ dr P a b lo lo))) 61 3 (Int64.ofInt (gA τ dr P a b hi lo))).2 61 6 = Int64.ofInt (gB τ dr P a b lo hi) := (d3.2 61 6 rfl).trans w6
  have x7 : (sL (sL s6 61 1 (Int64.ofInt (gA τ dr P a b lo lo))) 61 3 (Int64.ofInt (gA τ dr P a b hi lo))).2 61 7 = Int64.ofInt (gB τ dr P a b hi lo) := (d3.2 61 7 rfl).trans w7
  have x8 : (sL (sL s6 61 1 (Int64.ofInt (gA τ dr P a b lo lo))) 61 3 (Int64.ofInt (gA τ dr P a b hi lo))).2 61 8 = Int64.ofInt (gB τ dr P a b hi hi) := (d3.2 61 8 rfl).trans w8
  have c3 := clsR_sL (clsR_sL d4 61 1 (Int64.ofInt (gA τ dr P a b lo lo))) 61 3 (Int64.ofInt (gA τ dr P a b hi lo))
  have o3 := opnd_sL (opnd_sL d5 61 1 (Int64.ofInt (gA τ dr P a b lo lo))) 61 3 (Int64.ofInt (gA τ dr P a b hi lo))
  have t3 := ptC_sL (ptC_sL d6 61 1 (Int64.ofInt (gA τ dr P a b lo lo))) 61 3 (Int64.ofInt (gA τ dr P a b hi lo))
  generalize sL (sL s6 61 1 (Int64.ofInt (gA τ dr P a b lo lo))) 61 3 (Int64.ofInt (gA τ dr P a b hi lo)) = σ3 at f3 x1 x3 x5 x6 x7 x8 c3 o3 t3
  have hW3 := okW_put hW2 b (s := lo) (by omega) hlo
  obtain ⟨s7, s8, g1, g2, g3, g4, g5, g6, g7⟩ := duelS h c3 o3 t3 hW3 (x := b) (y := a) (u := hi) hb ha hhi
  rw [g1, cl_some, g2, cl_some, gainAtC h g4 (shN τ) ha g7 hlo, cl_some, bnd_eq, gainAtC h (clsR_sL g4 61 2 _) (shN τ) ha (svd_sL g7 2 _) hhi, cl_some, bnd_eq, same2, same2]
  refine ⟨_, rfl, frm_trans f3 (frm_trans (frm_mono (fun _ _ w => w) m61 g3) (frm_trans (frm_sL _ _ rfl) (frm_sL _ _ rfl))), ⟨?_, rfl, ?_, rfl⟩, ?_, ?_, ?_, ?_⟩
  · exact (g3.2 61 1 rfl).trans x1
  · exact (g3.2 61 3 rfl).trans x3
  · exact (g3.2 61 5 rfl).trans x5
  · exact (g3.2 61 6 rfl).trans x6
  · exact (g3.2 61 7 rfl).trans x7
  · exact (g3.2 61 8 rfl).trans x8
