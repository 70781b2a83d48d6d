/-! edge, both sides -/
def csN (c0 : Nat) : Nat := 1 + min 20 (99 - c0)
theorem edge_nums : ∀ c0 : Nat, c0 < 100 → ((1 : Int32) + (if ((99 : Int32) - nI c0) < (20 : Int32) then ((99 : Int32) - nI c0) else (20 : Int32))) = nI (csN c0) ∧ (if (nI c0 + (20 : Int32)) < (99 : Int32) then (nI c0 + (20 : Int32)) else (99 : Int32)) = nI (c0 + csN c0 - 1) ∧ 1 ≤ csN c0 ∧ csN c0 ≤ 21 ∧ c0 + csN c0 ≤ 100 := by decide +kernel
theorem p_edge : op_edge Inv := by
  intro σ τ p h
  have hM := h.okM
  have h4 := hM.n4
  have h8 := hM.k8
  have hR := h.2.2.2.2.2
  unfold fX8_edgeA fX9_edge
  rw [hasBaker_eq, isBaker_eq hM.hB, cl_some, cl_some]
  by_cases hb : 0 ≤ p.toInt ∧ p.toInt < (τ.1 0 0).toInt
  case neg =>
    rw [if_neg (fun w => hb ((bkr2 h p).mp w)), if_neg hb, if_pos rfl, if_pos rfl]
    exact ⟨σ, τ, -1, rfl, rfl, h⟩
  rw [if_pos ((bkr2 h p).mpr hb), if_pos hb, if_neg one0, if_neg one0]
  obtain ⟨e1, e2⟩ := bkr_nI hM hb
  clear hb
  generalize p.toInt.toNat = d at e1 e2
  subst e1
  -- the cost as it is
  have cb := hM.hc d e2
  have h0 : τ.1 2 d = nI (τ.1 2 d).toInt.toNat := nI_mk cb.1
  have c99 : (τ.1 2 d).toInt.toNat < 100 := by have := cb.2; omega
  generalize (τ.1 2 d).toInt.toNat = c0 at h0 c99
  obtain ⟨n1, n2, n3, n4, n5⟩ := edge_nums c0 c99
  generalize csN c0 = cases at n1 n2 n3 n4 n5
  have hcs : ∀ i : Nat, i < cases → c0 + i ≤ 99 := fun i hi => by omega
  have id0 : cI τ d c0 0 = τ := sI_id τ 2 d (nI c0) h0
  have h25 : σ.1 25 d = nI c0 := (h.cls.bk e2).1.trans h0
  -- the class
  obtain ⟨l1, l2⟩ := lw_now h
  obtain ⟨σ1, a1, a2, a3⟩ := openC hM h.cls l1
  rw [l2] at a3
  obtain ⟨σ2, g1, g2, g3⟩ := fill56 σ1 (σ1.1 43 15)
  have c2 : clsR σ2 τ (nmd τ) := clsR_fr (coreC_frm g2 (mk43 (by omega))) (clsR_fr (coreC_frm a2 mOpn_43) h.cls)
  have cr2 : crd σ2 (crF τ (shN τ) (nmd τ) (nS τ)) := fun t ht k hk => by rw [g2.1 44 _ rfl]; exact a3.2.2 t ht k hk
  have L2 : rg (σ2.1 54 2147483648) 8 4096 := by
    rw [g2.1 54 2147483648 rfl, a2.1 54 2147483648 rfl]
    exact hR.1
  obtain ⟨σ3, b1, b2, b3, b4, b5⟩ := searchC (sh := shN τ) (cases := cases) (dear := some d) (bar := fun _ => barN τ) hM c2 cr2 L2 ⟨n3, n4⟩ (fun x q => by cases q; exact ⟨e2, fun _ _ _ => Iff.rfl⟩) (fun i hi k hk => by
    rw [g3 i (by omega)]
    exact a3.2.1 k hk)
  have b1 : fX4_searchA σ2 (nI cases) (nI d) = some (σ3, ()) := b1
  have mk3 : ∀ i : Nat, i < cases → mrk σ3 τ i (rsK (cI τ d c0 i)) := fun i hi q hq => by
    rw [b5 q hq i hi]
    exact cI_rest hM h0 (hcs i hi)
  have k4 : rmk (sI σ3 53 9 1) τ := b3
  have mk4 : ∀ i : Nat, i < cases → mrk (sI σ3 53 9 1) τ i (rsK (cI τ d c0 i)) := mk3
  have h25' : (sI σ3 53 9 1).1 25 d = nI c0 := by
    show σ3.1 25 d = _
    rw [b2.1 25 d rfl, g2.1 25 d rfl, a2.1 25 d rfl]
    exact h25
  have ca := cnt_all (n := nB τ) (K := nK τ) (by omega) h8.1 (rs_enc hM) (rs_dig (τ := τ))
  have lc := edgeC hM hcs ⟨n3, n4⟩ e2 k4 h25' mk4
  have hm := howManyC hM k4 (show 0 < 21 by omega) (mk4 0 (by omega))
  have hp := placeC (p := 0) hM k4 (show 0 < 21 by omega) (mk4 0 (by omega)) (by decide)
  have hm : fX4_howMany (sI σ3 53 9 1) 0 = some (sI σ3 53 9 1, nI (cntN (rsK (cI τ d c0 0)) (nK τ ^ nB τ))) := hm
  have hp : fX4_place (sI σ3 53 9 1) 0 0 = some (sI σ3 53 9 1, encN (nthN (rsK (cI τ d c0 0)) 0 (nK τ ^ nB τ))) := hp
  rw [id0, ← ca] at hm
  rw [id0] at hp lc
  have hI : Inv (sI σ3 53 9 1) τ := by
    refine Inv_rs (fun c k q => ?_) rfl h ⟨b4, (show rg (1 : Int32) 0 1 by constructor <;> decide), fun _ => RestP_of hM k4 (by have := mk4 0 (by omega); rw [id0] at this; exact this)⟩
    have q2 := scR_lt q
    rw [sI_ne (show c ≠ 53 by omega), b2.1 c k (scR_mSr c k q), g2.1 c k (scR_mk (by omega) c k q), a2.1 c k (scR_opn c k q)]
  have cls : fX4_changingCostA σ (nI d) = some (sI σ3 53 9 1, edA c0 (fstG (difE τ d c0) cases)) := by
    unfold fX4_changingCostA
    rw [chk_t (inb_nI (by omega) (by decide)), ix_nI (m := d) (by omega), h25, bnd_eq, n1, bnd_eq, a1, cl_some, g1, cl_some, b1, cl_some, chk_t (by decide), bnd_eq, hm, cl_some, bnd_eq, hp, cl_some, bnd_eq, bnd_eq]
    exact lc
  rw [cls, cl_some]
  -- the model
  obtain ⟨τ1, k1, k2, k3, k4'⟩ := knocksM hM
  have hc1 : core τ1 = core τ := core_frm k2 aKno_sc
  have hM1 := okM_fr hc1 hM
  have nbk : nB τ1 = nB τ := fr nB (fun _ => rfl) hc1
  have dr1 : drOK τ1 (nmd τ1) := by rw [fr nmd (fun _ => rfl) hc1]; exact k4'
  have e12 : τ1.1 2 d = nI c0 := (fr (fun s => s.1 2 d) (fun _ => rfl) hc1).trans h0
  have id1 : cI τ1 d c0 0 = τ1 := sI_id τ1 2 d (nI c0) e12
  have edif : difE τ1 d c0 = difE τ d c0 := by
    funext i
    unfold difE
    have ei : ∀ j : Nat, rs8 (cI τ1 d c0 j) = rs8 (cI τ d c0 j) := fun j => rs8_fr (core_sI hc1 2 d (nI (c0 + j)))
    rw [ei i, ei 0, nbk]
  obtain ⟨τ2, m1, m2, m3, _⟩ := countM hM1 dr1
  have hc2 : core τ2 = core τ1 := core_frm m2 aCn_sc
  have rel2 : relD τ2 τ1 d := fun x => core_sI hc2 2 d x
  obtain ⟨τ3, r1, r2⟩ := edgeM hM1 hcs n2 (by rw [nbk]; exact e2) (fun (σ_21 : St) (x5_22 : Int32) => chk (inb (nI d) 4) (bnd (sI σ_21 2 (ix (nI d)) (nI c0)) fun (σ_24 : St) => some (σ_24, x5_22))) (cases - 1) 1 τ2 (by omega) (by omega) rel2 (fun i => m2.1 27 i rfl) dr1 (fstG_n rfl (by rw [difE_0]; intro z; cases z)) FU (by have : FU = 100000 := rfl; omega)
  rw [id1] at r2
  have hcf : core (sI τ3 2 d (nI c0)) = core τ := by
    rw [r1 (nI c0), sI_id τ1 2 d (nI c0) e12]
    exact hc1
  rw [k1, cl_some, chk_t (inb_nI (by omega) (by decide)), ix_nI (m := d) (by omega), e12, bnd_eq, m1, cl_some, bnd_eq, m3, bnd_eq, bnd_eq, ← nI_succ, bnd_eq]
  refine ⟨sI σ3 53 9 1, sI τ3 2 d (nI c0), _, rfl, ?_, ?_⟩
  · rw [ix_nI (m := d) (by omega)] at r2
    refine r2.trans ?_
    rw [chk_t (inb_nI (by omega) (by decide)), bnd_eq, edif]
  · rw [← Inv_coreM, hcf, Inv_coreM]; exact hI
