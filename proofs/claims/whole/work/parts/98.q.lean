/-! street: the drafts written -/
section Drafts
variable {T : Nat → Int32} {N : Nat} {σ τ : St} {s a n m t : Nat}
theorem DR_17 (h : DR T σ τ n m t) {v : Nat} (h1 : 1 ≤ v) (h2 : v ≤ 8) : DR T (sI σ 10 2 (nI v)) (sI τ 0 17 (nI v)) n m t := ⟨h.1, h.2.1, ⟨rfl, show rg (nI v) 1 8 by constructor <;> rw [nI_toInt (by omega)] <;> omega⟩, h.2.2.2⟩
theorem DR_18 (h : DR T σ τ n m t) {v : Nat} (h2 : v ≤ 99) : DR T (sI σ 10 3 (nI v)) (sI τ 0 18 (nI v)) n m t := ⟨h.1, h.2.1, h.2.2.1, ⟨rfl, show rg (nI v) 0 99 by constructor <;> rw [nI_toInt (by omega)] <;> omega⟩, h.2.2.2.2⟩
theorem DR_19 (h : DR T σ τ n m t) {v : Nat} (h1 : 1 ≤ v) (h2 : v ≤ 20) : DR T (sI σ 10 4 (nI v)) (sI τ 0 19 (nI v)) n m t := ⟨h.1, h.2.1, h.2.2.1, h.2.2.2.1, ⟨rfl, show rg (nI v) 1 20 by constructor <;> rw [nI_toInt (by omega)] <;> omega⟩, h.2.2.2.2.2⟩
theorem DR_20 (h : DR T σ τ n m t) {v : Nat} (h2 : v ≤ 99) : DR T (sI σ 10 5 (nI v)) (sI τ 0 20 (nI v)) n m t := ⟨h.1, h.2.1, h.2.2.1, h.2.2.2.1, h.2.2.2.2.1, ⟨rfl, show rg (nI v) 0 99 by constructor <;> rw [nI_toInt (by omega)] <;> omega⟩, h.2.2.2.2.2.2⟩
theorem DR_21 (h : DR T σ τ n m t) {l : Nat} (h2 : l < 2 ^ n) : DR T (sI σ 10 6 (nI l)) (sI τ 0 21 (nI l)) n m t := ⟨h.1, h.2.1, h.2.2.1, h.2.2.2.1, h.2.2.2.2.1, h.2.2.2.2.2.1, ⟨l, rfl, rfl, h2⟩, h.2.2.2.2.2.2.2⟩
theorem DR_22 (h : DR T σ τ n m t) (ht : t < 24) : DR T (sI σ 10 7 (nI (t + 1))) (sI τ 0 22 (nI (t + 1))) n m (t + 1) := ⟨h.1, h.2.1, h.2.2.1, h.2.2.2.1, h.2.2.2.2.1, h.2.2.2.2.2.1, h.2.2.2.2.2.2.1, ⟨rfl, rfl, by omega⟩, h.2.2.2.2.2.2.2.2⟩
/-- the model writes ahead, where no sort is yet -/
theorem DR_wm (h : DR T σ τ n m t) {c : Nat} (hc : c = 9 ∨ c = 10 ∨ c = 11 ∨ c = 12) (x : Int32) : DR T σ (sI τ c m x) n m t := by
  have e : ∀ q j : Nat, (q ≠ c ∨ j < m) → (sI τ c m x).1 q j = τ.1 q j := fun q j hq => by
    by_cases w : q = c
    · subst w
      rw [sI_at, if_neg (by omega)]
    · rw [sI_ne w]
  have e0 : ∀ j : Nat, (sI τ c m x).1 0 j = τ.1 0 j := fun j => e 0 j (Or.inl (by omega))
  unfold DR
  rw [e0, e0, e0, e0, e0, e0, e0, e0]
  refine ⟨h.1, h.2.1, h.2.2.1, h.2.2.2.1, h.2.2.2.2.1, h.2.2.2.2.2.1, h.2.2.2.2.2.2.1, h.2.2.2.2.2.2.2.1, fun b hb => ?_, fun i hi => ?_⟩
  · rw [e 8 b (Or.inl (by omega))]
    exact h.2.2.2.2.2.2.2.2.1 b hb
  · unfold soR
    rw [e 9 i (Or.inr hi), e 10 i (Or.inr hi), e 11 i (Or.inr hi), e 12 i (Or.inr hi)]
    exact h.2.2.2.2.2.2.2.2.2 i hi
theorem DR_w7 (h : DR T σ τ n m t) (x : Int64) : DR T σ (sL τ 7 n x) n m t := by
  refine ⟨h.1, h.2.1, h.2.2.1, h.2.2.2.1, h.2.2.2.2.1, h.2.2.2.2.2.1, h.2.2.2.2.2.2.1, h.2.2.2.2.2.2.2.1, fun b hb => ?_, h.2.2.2.2.2.2.2.2.2⟩
  have := h.2.2.2.2.2.2.2.2.1 b hb
  rw [sL_at, if_neg (by omega)]
  exact this
theorem DR_baker (h : DR T σ τ n m t) (hn : n < 4) {v : Nat} (hv : v ≤ 99) {x : Int64} (hx : nmR T x (τ.2 7 n)) : DR T (sI (sI (sL σ 11 n x) 12 n (nI v)) 10 0 (nI (n + 1))) (sI (sI τ 8 n (nI v)) 0 15 (nI (n + 1))) (n + 1) m t := by
  have p2 : 2 ^ n ≤ 2 ^ (n + 1) := Nat.pow_le_pow_right (by decide) (by omega)
  refine ⟨⟨rfl, rfl, by omega⟩, h.2.1, h.2.2.1, h.2.2.2.1, h.2.2.2.2.1, h.2.2.2.2.2.1, ?_, h.2.2.2.2.2.2.2.1, fun b hb => ?_, fun i hi => ?_⟩
  · obtain ⟨l, l1, l2, l3⟩ := h.2.2.2.2.2.2.1
    exact ⟨l, l1, l2, by omega⟩
  · show (sI (sL σ 11 n x) 12 n (nI v)).1 12 b = (sI τ 8 n (nI v)).1 8 b ∧ rg ((sI τ 8 n (nI v)).1 8 b) 0 99 ∧ nmR T ((sL σ 11 n x).2 11 b) (τ.2 7 b)
    rw [sI_at, sI_at, sL_at]
    by_cases w : b = n
    · subst w
      rw [if_pos rfl, if_pos rfl, if_pos rfl]
      exact ⟨rfl, by constructor <;> rw [nI_toInt (by omega)] <;> omega, hx⟩
    · rw [if_neg w, if_neg w, if_neg w]
      exact h.2.2.2.2.2.2.2.2.1 b (by omega)
  · have o := h.2.2.2.2.2.2.2.2.2 i hi
    refine ⟨o.1, o.2.1, o.2.2.1, o.2.2.2.1, o.2.2.2.2.1, o.2.2.2.2.2.1, o.2.2.2.2.2.2.1, fun z => ?_, o.2.2.2.2.2.2.2.2⟩
    have := o.2.2.2.2.2.2.2.1 z
    refine ⟨this.1, ?_⟩
    have q := this.2
    rw [p2i] at q ⊢
    exact Int.lt_of_lt_of_le q (by exact_mod_cast p2)
theorem DR_sort (h : DR T σ τ n m t) (hm : m < 12) {k w o r : Nat} (hk : k ≤ 2) (hw : 1 ≤ w ∧ w ≤ 99) (hr : r ≤ 999) (h9 : τ.1 9 m = nI k) (h10 : τ.1 10 m = nI w) (h11 : τ.1 11 m = nI o) (h12 : τ.1 12 m = nI r) (ho0 : k = 0 → 1 ≤ o ∧ o < 2 ^ n) (ho1 : k = 1 → 1 ≤ o ∧ o ≤ 4) (ho2 : k = 2 → o = 0) (ho : o < 100) : DR T (sI (sI (sI (sI (sI σ 13 m (nI k)) 14 m (nI w)) 15 m (nI o)) 16 m (nI r)) 10 1 (nI (m + 1))) (sI τ 0 16 (nI (m + 1))) n (m + 1) t := by
  refine ⟨h.1, ⟨rfl, rfl, by omega⟩, h.2.2.1, h.2.2.2.1, h.2.2.2.2.1, h.2.2.2.2.2.1, h.2.2.2.2.2.2.1, h.2.2.2.2.2.2.2.1, h.2.2.2.2.2.2.2.2.1, fun i hi => ?_⟩
  have g13 : (sI (sI (sI (sI (sI σ 13 m (nI k)) 14 m (nI w)) 15 m (nI o)) 16 m (nI r)) 10 1 (nI (m + 1))).1 13 i = if i = m then nI k else σ.1 13 i := by
    rw [sI_ne (by decide), sI_ne (by decide), sI_ne (by decide), sI_ne (by decide), sI_at]
  have g14 : (sI (sI (sI (sI (sI σ 13 m (nI k)) 14 m (nI w)) 15 m (nI o)) 16 m (nI r)) 10 1 (nI (m + 1))).1 14 i = if i = m then nI w else σ.1 14 i := by
    rw [sI_ne (by decide), sI_ne (by decide), sI_ne (by decide), sI_at, sI_ne (by decide)]
  have g15 : (sI (sI (sI (sI (sI σ 13 m (nI k)) 14 m (nI w)) 15 m (nI o)) 16 m (nI r)) 10 1 (nI (m + 1))).1 15 i = if i = m then nI o else σ.1 15 i := by
    rw [sI_ne (by decide), sI_ne (by decide), sI_at, sI_ne (by decide), sI_ne (by decide)]
  have g16 : (sI (sI (sI (sI (sI σ 13 m (nI k)) 14 m (nI w)) 15 m (nI o)) 16 m (nI r)) 10 1 (nI (m + 1))).1 16 i = if i = m then nI r else σ.1 16 i := by
    rw [sI_ne (by decide), sI_at, sI_ne (by decide), sI_ne (by decide), sI_ne (by decide)]
  unfold soR
  rw [g13, g14, g15, g16]
  show _ = τ.1 9 i ∧ _ = τ.1 10 i ∧ _ = τ.1 11 i ∧ _ = τ.1 12 i ∧ rg (τ.1 9 i) 0 2 ∧ rg (τ.1 10 i) 1 99 ∧ rg (τ.1 12 i) 0 999 ∧ ((τ.1 9 i).toInt = 0 → 1 ≤ (τ.1 11 i).toInt ∧ (τ.1 11 i).toInt < 2 ^ n) ∧ ((τ.1 9 i).toInt = 1 → rg (τ.1 11 i) 1 4) ∧ ((τ.1 9 i).toInt = 2 → (τ.1 11 i).toInt = 0)
  by_cases e : i = m
  · subst e
    rw [if_pos rfl, if_pos rfl, if_pos rfl, if_pos rfl, h9, h10, h11, h12, nI_toInt (by omega), nI_toInt (by omega)]
    refine ⟨rfl, rfl, rfl, rfl, ?_, ?_, ?_, fun z => ?_, fun z => ?_, fun z => ?_⟩
    · constructor <;> rw [nI_toInt (by omega)] <;> omega
    · constructor <;> rw [nI_toInt (by omega)] <;> omega
    · constructor <;> rw [nI_toInt (by omega)] <;> omega
    · have := ho0 (by omega)
      rw [p2i]
      omega
    · have := ho1 (by omega)
      constructor <;> rw [nI_toInt (by omega)] <;> omega
    · have := ho2 (by omega)
      omega
  · rw [if_neg e, if_neg e, if_neg e, if_neg e]
    exact h.2.2.2.2.2.2.2.2.2 i (by omega)
end Drafts
/-! statements -/
section Stm
variable {T : Nat → Int32} {N : Nat} {σ τ : St} {s a n m t : Nat}
theorem bakerSt (hN : N ≤ 800) (h : LX T N σ τ s a) (hd : DR T σ τ n m t) : ∃ (τ1 : St) (y : Int32), fX9_bakerTold τ = some (τ1, y) ∧ StR T N σ τ (fX3_baker σ) τ1 y t := by
  obtain ⟨τ1, r, a1, a2, a3, a4, a5, a6, a7⟩ := nameS hN h hd
  have hd1 : DR T σ τ1 n m t := DR_fr (frm_refl _ _ _) a2 hd
  have n4 := hd.1.2.2
  unfold fX9_bakerTold fX3_baker
  rw [a1, cl_some, bnd_eq]
  have no : ∀ cls : Option (St × Int32), cls = some (σ, 0) → ∃ (τ2 : St) (y : Int32), some (τ1, (0 : Int32)) = some (τ2, y) ∧ StR T N σ τ cls τ2 y t := fun cls hc => ⟨τ1, 0, rfl, StR.no hc (frm_refl _ _ _) (frMd a2) a3⟩
  have w0 : (lg_cmp (Int64.ofInt ((wv T N s : Nat) : Int)) 0 = 0) ↔ ¬ (0 < wl T N s ∧ wl T N s ≤ 8) := by
    rw [lgE, show (0 : Int64) = Int64.ofInt ((0 : Nat) : Int) from rfl, ofI_inj (wv_b T N s) (by omega)]
    unfold wv
    by_cases k : wl T N s ≤ 8
    · rw [if_pos k]
      by_cases k0 : 0 < wl T N s
      · have := e256_pos (T := T) (s := s) k0 wl_L
        exact ⟨fun z => by omega, fun z => absurd ⟨k0, k⟩ z⟩
      · have : wl T N s = 0 := by omega
        rw [this]
        exact ⟨fun _ z => by omega, fun _ => rfl⟩
    · rw [if_neg k]
      exact ⟨fun _ z => k z.2, fun _ => rfl⟩
  rcases isNameC hN h with ⟨c1, c2⟩ | ⟨c1, c2⟩
  · rw [c2, cl_some, if_neg one0, if_neg (fun z => w0.mp z ⟨c1.1, c1.2.1⟩)]
    rcases keptM (T := T) (N := N) (s := s) τ1 with ⟨d1, d2⟩ | ⟨d1, d2⟩
    · exact absurd d1 c1.2.2
    · rw [d2, cl_some, if_pos rfl, a5, a6, cl_some, cl_some]
      cases r with
      | some b =>
        have := a7 b rfl
        rw [if_neg (show ¬ encN (some b) = -1 from nI_ne_m1 (by omega)), if_neg (show ¬ encN (some b) = -1 from nI_ne_m1 (by omega))]
        exact no _ rfl
      | none =>
        rw [if_pos (show encN none = -1 from rfl), if_pos (show encN none = -1 from rfl), hd.1.1, hd1.1.2.1]
        by_cases b4 : n = 4
        · rw [if_neg (show ¬ nI n < 4 by rw [b4]; decide), if_pos (show nI n = 4 by rw [b4]; rfl)]
          exact no _ rfl
        · have z4 : (4 : Int32).toInt = 4 := by decide
          obtain ⟨σ2, s2, e1, e2, e3⟩ := advS hN a3 c1.1
          have i15 : (sI τ1 0 31 (nI (s + wl T N s))).1 0 15 = nI n := hd1.1.2.1
          rw [if_pos (show nI n < 4 by rw [lt_i, z4, nI_toInt (by omega)]; omega), if_neg (show ¬ nI n = 4 from fun z => b4 ((ofNI (b := 4) (by omega) (by omega)).mp z)), bnd_eq, a4, i15, chk_t (inb_nI (by omega) (by decide)), ix_nI (m := n) (by omega), bnd_eq, bnd_eq, e1, cl_some]
          have f2M : frm aD bD τ (sL (sI τ1 0 31 (nI (s + wl T N s))) 7 n (Int64.ofInt ((wv T N s : Nat) : Int))) := frm_trans (frMd a2) (frm_trans (frm_sI _ _ rfl) (frm_sL _ _ rfl))
          have e3' : LX T N σ2 (sL (sI τ1 0 31 (nI (s + wl T N s))) 7 n (Int64.ofInt ((wv T N s : Nat) : Int))) s2 (s + wl T N s) := e3
          have hd2 : DR T σ2 (sL (sI τ1 0 31 (nI (s + wl T N s))) 7 n (Int64.ofInt ((wv T N s : Nat) : Int))) n m t := DR_w7 (DR_fr e2 (frm_sI _ _ rfl) hd1) _
          have v7 : (sL (sI τ1 0 31 (nI (s + wl T N s))) 7 n (Int64.ofInt ((wv T N s : Nat) : Int))).2 7 n = Int64.ofInt ((wv T N s : Nat) : Int) := by rw [sL_at, if_pos rfl]
          generalize sL (sI τ1 0 31 (nI (s + wl T N s))) 7 n (Int64.ofInt ((wv T N s : Nat) : Int)) = τ2 at f2M e3' hd2 v7
          rcases acceptS hN e3' (w := 2) (W := 1668248436) (by omega) (by omega) (by decide) with ⟨σ3, τ3, s3, a3', g1, g2, g3, g4, g5⟩ | ⟨τ3, g1, g2, g4, g5⟩
          · rw [g1, g2, cl_some, cl_some, if_neg one0, if_neg one0]
            rcases numberS hN g5 0 99 with ⟨σ4, τ4, v, s4, a4', q1, q2, q3, q4, q5, q6, q7⟩ | ⟨τ4, q1, q2, q6, q7⟩
            · have z99 : (99 : Int32).toInt = 99 := by decide
              have v99 : v ≤ 99 := by have := q4.2.1; rw [z99] at this; omega
              have hd4 : DR T σ4 τ4 n m t := DR_fr q5 q6 (DR_fr g3 g4 hd2)
              have v7' : τ4.2 7 n = Int64.ofInt ((wv T N s : Nat) : Int) := by rw [q6.2 7 n rfl, g4.2 7 n rfl]; exact v7
              have e8 := h.1.2.2.2.2.2.2 (tk_w.mpr c1.1)
              have hx : nmR T (σ.2 18 8) (τ4.2 7 n) := ⟨s, wl T N s, c1.1, c1.2.1, wl_L, e8, by rw [v7']; unfold wv; rw [if_pos c1.2.1]⟩
              have nd := DR_baker hd4 (show n < 4 by omega) v99 hx
              have lx : LX T N (sI (sI (sL σ4 11 n (σ.2 18 8)) 12 n (nI v)) 10 0 (nI (n + 1))) (sI (sI τ4 8 n (nI v)) 0 15 (nI (n + 1))) s4 a4' := q7
              have i15' : τ4.1 0 15 = nI n := hd4.1.2.1
              have i10' : σ4.1 10 0 = nI n := hd4.1.1
              have ab : fX6_addBaker_i10 σ4 (σ.2 18 8) (nI v) = some (sI (sI (sL σ4 11 n (σ.2 18 8)) 12 n (nI v)) 10 0 (nI (n + 1)), ()) := by
                unfold fX6_addBaker_i10
                rw [i10', if_neg (show ¬ (4 : Int32) ≤ nI n by rw [le_i, z4, nI_toInt (by omega)]; omega), chk_t (inb_nI (by omega) (by decide)), ix_nI (m := n) (by omega), bnd_eq, show (sL σ4 11 n (σ.2 18 8)).1 10 0 = nI n from i10', chk_t (inb_nI (by omega) (by decide)), ix_nI (m := n) (by omega), bnd_eq, show (sI (sL σ4 11 n (σ.2 18 8)) 12 n (nI v)).1 10 0 = nI n from i10', bnd_eq, nI_succ]
              rw [q1, q2, cl_some, cl_some, if_neg one0, i15', chk_t (inb_nI (by omega) (by decide)), ix_nI (m := n) (by omega), q3, bnd_eq, show (sI τ4 8 n (nI v)).1 0 15 = nI n from i15', ← nI_succ, bnd_eq, bnd_eq, if_neg (show ¬ nI v = -1 from nI_ne_m1 (by omega)), ab, cl_some, (endW hN lx).1]
              refine ⟨_, 1, rfl, frm_trans f2M (frm_trans (frMd g4) (frm_trans (frMd q6) (frm_trans (frm_sI _ _ rfl) (frm_sI _ _ rfl)))), Or.inr ⟨rfl, _, s4, a4', _, _, rfl, frm_trans (frCd e2) (frm_trans (frCd g3) (frm_trans (frCd q5) (frm_trans (frm_sL _ _ rfl) (frm_trans (frm_sI _ _ rfl) (frm_sI _ _ rfl))))), lx, nd⟩⟩
            · rw [q1, q2, cl_some, cl_some, if_pos rfl, bnd_eq, if_pos rfl]
              exact ⟨τ4, 0, rfl, StR.no rfl (frm_trans (frCd e2) (frCd g3)) (frm_trans f2M (frm_trans (frMd g4) (frMd q6))) q7⟩
          · rw [g1, g2, cl_some, cl_some, if_pos rfl, if_pos rfl]
            exact ⟨τ3, 0, rfl, StR.no rfl (frCd e2) (frm_trans f2M (frMd g4)) g5⟩
  · rw [c2, cl_some, if_pos rfl]
    by_cases k : 0 < wl T N s ∧ wl T N s ≤ 8
    · rw [if_neg (fun z => w0.mp z k)]
      rcases keptM (T := T) (N := N) (s := s) τ1 with ⟨d1, d2⟩ | ⟨d1, d2⟩
      · rw [d2, cl_some, if_neg one0]
        exact no _ rfl
      · exact absurd ⟨k.1, k.2, d1⟩ c1
    · rw [if_pos (w0.mpr k)]
      exact no _ rfl
theorem stepsSt (hN : N ≤ 800) (h : LX T N σ τ s a) (hd : DR T σ τ n m t) : ∃ (τ1 : St) (y : Int32), fX9_stepsTold τ = some (τ1, y) ∧ StR T N σ τ (fX3_steps σ) τ1 y t := by
  have z8 : (8 : Int32).toInt = 8 := by decide
  have z20 : (20 : Int32).toInt = 20 := by decide
  have z99 : (99 : Int32).toInt = 99 := by decide
  unfold fX9_stepsTold fX3_steps
  rcases numberS hN h 1 8 with ⟨σ1, τ1, v, s1, a1, q1, q2, q3, q4, q5, q6, q7⟩ | ⟨τ1, q1, q2, q6, q7⟩
  case inr =>
    rw [q1, q2, cl_some, cl_some, if_pos rfl, bnd_eq, if_pos (show (sI σ 10 2 (-1)).1 10 2 = -1 from rfl)]
    exact ⟨τ1, 0, rfl, StR.no (σ := sI σ 10 2 (-1)) rfl (frm_sI _ _ rfl) (frMd q6) (show LX T N (sI σ 10 2 (-1)) τ1 s s from q7)⟩
  have b1 : 1 ≤ v ∧ v ≤ 8 := by have := q4.1; have := q4.2.1; rw [z_1] at *; rw [z8] at *; omega
  rw [q1, q2, cl_some, cl_some, if_neg one0, bnd_eq, bnd_eq, if_neg (show ¬ (sI σ1 10 2 (nI v)).1 10 2 = -1 from nI_ne_m1 (by omega)), q3]
  have d1 : DR T (sI σ1 10 2 (nI v)) (sI τ1 0 17 (nI v)) n m t := DR_17 (DR_fr q5 q6 hd) b1.1 b1.2
  have l1 : LX T N (sI σ1 10 2 (nI v)) (sI τ1 0 17 (nI v)) s1 a1 := q7
  have f1 : frm (mk 10 18) mDL σ (sI σ1 10 2 (nI v)) := frm_trans (frCd q5) (frm_sI _ _ rfl)
  have g1 : frm aD bD τ (sI τ1 0 17 (nI v)) := frm_trans (frMd q6) (frm_sI _ _ rfl)
  generalize sI σ1 10 2 (nI v) = σ2 at d1 l1 f1
  generalize sI τ1 0 17 (nI v) = τ2 at d1 l1 g1
  clear q1 q2 q3 q4 q5 q6 q7
  rcases acceptS hN l1 (w := 4) (W := 1718775661) (by omega) (by omega) (by decide) with ⟨σ3, τ3, s3, a3, u1, u2, u3, u4, u5⟩ | ⟨τ3, u1, u2, u4, u5⟩
  case inr =>
    rw [u1, u2, cl_some, cl_some, if_pos rfl, if_pos rfl]
    exact ⟨τ3, 0, rfl, StR.no rfl f1 (frm_trans g1 (frMd u4)) u5⟩
  rw [u1, u2, cl_some, cl_some, if_neg one0, if_neg one0]
  rcases numberS hN u5 0 99 with ⟨σ4, τ4, v4, s4, a4, q1, q2, q3, q4, q5, q6, q7⟩ | ⟨τ4, q1, q2, q6, q7⟩
  case inr =>
    rw [q1, q2, cl_some, cl_some, if_pos rfl, bnd_eq, if_pos (show (sI σ3 10 3 (-1)).1 10 3 = -1 from rfl)]
    exact ⟨τ4, 0, rfl, StR.no (σ := sI σ3 10 3 (-1)) rfl (frm_trans f1 (frm_trans (frCd u3) (frm_sI _ _ rfl))) (frm_trans g1 (frm_trans (frMd u4) (frMd q6))) (show LX T N (sI σ3 10 3 (-1)) τ4 s3 s3 from q7)⟩
  have b4 : v4 ≤ 99 := by have := q4.2.1; rw [z99] at this; omega
  rw [q1, q2, cl_some, cl_some, if_neg one0, bnd_eq, bnd_eq, if_neg (show ¬ (sI σ4 10 3 (nI v4)).1 10 3 = -1 from nI_ne_m1 (by omega)), q3]
  have d5 : DR T (sI σ4 10 3 (nI v4)) (sI τ4 0 18 (nI v4)) n m t := DR_18 (DR_fr q5 q6 (DR_fr u3 u4 d1)) b4
  have l5 : LX T N (sI σ4 10 3 (nI v4)) (sI τ4 0 18 (nI v4)) s4 a4 := q7
  have f5 : frm (mk 10 18) mDL σ (sI σ4 10 3 (nI v4)) := frm_trans f1 (frm_trans (frCd u3) (frm_trans (frCd q5) (frm_sI _ _ rfl)))
  have g5 : frm aD bD τ (sI τ4 0 18 (nI v4)) := frm_trans g1 (frm_trans (frMd u4) (frm_trans (frMd q6) (frm_sI _ _ rfl)))
  generalize sI σ4 10 3 (nI v4) = σ5 at d5 l5 f5
  generalize sI τ4 0 18 (nI v4) = τ5 at d5 l5 g5
  clear q1 q2 q3 q4 q5 q6 q7 u1 u2 u3 u4 u5
  rcases acceptS hN l5 (w := 5) (W := 25209) (by omega) (by omega) (by decide) with ⟨σ6, τ6, s6, a6, u1, u2, u3, u4, u5⟩ | ⟨τ6, u1, u2, u4, u5⟩
  case inr =>
    rw [u1, u2, cl_some, cl_some, if_pos rfl, if_pos rfl]
    exact ⟨τ6, 0, rfl, StR.no rfl f5 (frm_trans g5 (frMd u4)) u5⟩
  rw [u1, u2, cl_some, cl_some, if_neg one0, if_neg one0]
  rcases numberS hN u5 1 20 with ⟨σ7, τ7, v7, s7, a7, q1, q2, q3, q4, q5, q6, q7⟩ | ⟨τ7, q1, q2, q6, q7⟩
  case inr =>
    rw [q1, q2, cl_some, cl_some, if_pos rfl, bnd_eq, if_pos (show (sI σ6 10 4 (-1)).1 10 4 = -1 from rfl)]
    exact ⟨τ7, 0, rfl, StR.no (σ := sI σ6 10 4 (-1)) rfl (frm_trans f5 (frm_trans (frCd u3) (frm_sI _ _ rfl))) (frm_trans g5 (frm_trans (frMd u4) (frMd q6))) (show LX T N (sI σ6 10 4 (-1)) τ7 s6 s6 from q7)⟩
  have b7 : 1 ≤ v7 ∧ v7 ≤ 20 := by have := q4.1; have := q4.2.1; rw [z_1] at *; rw [z20] at *; omega
  have d8 : DR T (sI σ7 10 4 (nI v7)) (sI τ7 0 19 (nI v7)) n m t := DR_19 (DR_fr q5 q6 (DR_fr u3 u4 d5)) b7.1 b7.2
  have l8 : LX T N (sI σ7 10 4 (nI v7)) (sI τ7 0 19 (nI v7)) s7 a7 := q7
  rw [q1, q2, cl_some, cl_some, if_neg one0, bnd_eq, bnd_eq, if_neg (show ¬ (sI σ7 10 4 (nI v7)).1 10 4 = -1 from nI_ne_m1 (by omega)), q3, (endW hN l8).2]
  exact ⟨_, 1, rfl, frm_trans g5 (frm_trans (frMd u4) (frm_trans (frMd q6) (frm_sI _ _ rfl))), Or.inr ⟨rfl, _, s7, a7, n, m, rfl, frm_trans f5 (frm_trans (frCd u3) (frm_trans (frCd q5) (frm_sI _ _ rfl))), l8, d8⟩⟩
end Stm
