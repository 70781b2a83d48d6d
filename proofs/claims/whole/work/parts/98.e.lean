/-! rests, the model -/
theorem restD_iff (τ : St) (f : Int) (r : Nat → Nat) : restD τ f r ↔ restF τ (barF τ f) (shtF τ f) r := by
  unfold restD
  rw [Subsingleton.elim (Classical.propDecidable (shtF τ f)) inferInstance]
def lt8 (τ : St) (c : Nat) : Nat → Bool
  | 0 => true
  | m + 1 => lt8 τ c m && decide (rowAt 8 c m < nK τ ∧ ¬ barN τ (rowAt 8 c m))
theorem lt8_iff {τ : St} {c : Nat} : ∀ m : Nat, lt8 τ c m = true ↔ ∀ b : Nat, b < m → rowAt 8 c b < nK τ ∧ ¬ barN τ (rowAt 8 c b) := by
  intro m
  induction m with
  | zero => exact ⟨fun _ b hb => absurd hb (by omega), fun _ => rfl⟩
  | succ m ih =>
    rw [lt8, Bool.and_eq_true, decide_eq_true_iff, ih]
    refine ⟨fun q k hk => ?_, fun q => ⟨fun k hk => q k (by omega), q m (by omega)⟩⟩
    by_cases w : k = m
    · subst w; exact q.2
    · exact q.1 k (by omega)
theorem lt8_core (τ : St) (c : Nat) : ∀ m : Nat, lt8 (core τ) c m = lt8 τ c m := by
  intro m
  induction m with
  | zero => rfl
  | succ m ih => rw [lt8, lt8, ih]; rfl
theorem isLetM {τ : St} (h : okM τ) {c : Nat} (hc : c < 8 ^ nB τ) : fX9_isLet τ (nI c) = some (τ, b01 (lt8 τ c (nB τ))) := by
  have h4 := h.n4
  have hc2 : c < 4096 := Nat.lt_of_lt_of_le hc (pow8 h4)
  have e0 : τ.1 0 0 = nI (nB τ) := (rgn h.hB (by decide)).1
  unfold fX9_isLet
  rw [bnd_eq, bnd_eq]
  obtain ⟨x, hx, e⟩ := loopG (S := Int32) (fun n x m => fX9_isLet_L4 (nI c) (fun (σ_12 : St) (x2_13 : Int32) (_ : Int32) => chk (isB x2_13) (some (σ_12, x2_13))) n τ x (nI m)) (nB τ) (fun m x => x = b01 (lt8 τ c m)) (fun x => chk (isB x) (some (τ, x))) (fun n x hp => by
      show fX9_isLet_L4 _ _ (n + 1) τ x _ = _
      rw [fX9_isLet_L4, e0, if_pos (by rw [le_i]; omega)]) (fun n m x hm hp => by
      have r8 : rowAt 8 c m < 8 := rowAt_lt (by decide)
      have cb : (nI c >>> (((3 : Int32) * nI m) &&& 31)) &&& (7 : Int32) = nI (rowAt 8 c m) := code_bits m (by omega) c hc2
      refine ⟨b01 (lt8 τ c (m + 1)), rfl, ?_⟩
      show fX9_isLet_L4 _ _ (n + 1) τ x _ = fX9_isLet_L4 _ _ n τ (b01 (lt8 τ c (m + 1))) _
      rw [fX9_isLet_L4, e0, if_neg (by rw [le_i, nI_toInt (by omega), nI_toInt (by omega)]; omega), jp_eq, jp_eq, cb, lt8]
      cases ea : lt8 τ c m with
      | false =>
        rw [ea] at hp
        rw [if_pos (show x = 0 from hp)]
        dsimp only
        rw [bnd_eq, bnd_eq, nI_succ]
        all_goals rfl
      | true =>
        rw [ea] at hp
        rw [if_neg (by rw [show x = 1 from hp]; exact one0), isStep_eq h.hK, cl_some, nI_toInt (by omega), h.nk]
        by_cases w : rowAt 8 c m < nK τ
        · have bm : fX9_isBarred τ (nI (rowAt 8 c m)) = some (τ, if barN τ (rowAt 8 c m) then 1 else 0) := barredM h.law (by omega)
          rw [if_pos (show 0 ≤ ((rowAt 8 c m : Nat) : Int) ∧ ((rowAt 8 c m : Nat) : Int) < ((nK τ : Nat) : Int) by omega), if_neg one0, bm, cl_some]
          by_cases w2 : barN τ (rowAt 8 c m)
          · rw [if_pos w2, if_neg one0, decide_eq_false (fun z => z.2 w2)]
            dsimp only
            rw [bnd_eq, bnd_eq, nI_succ]
            all_goals rfl
          · rw [if_neg w2, if_pos rfl, decide_eq_true ⟨w, w2⟩]
            dsimp only
            rw [bnd_eq, bnd_eq, nI_succ]
            all_goals rfl
        · rw [if_neg (show ¬ (0 ≤ ((rowAt 8 c m : Nat) : Int) ∧ ((rowAt 8 c m : Nat) : Int) < ((nK τ : Nat) : Int)) by omega), if_pos rfl, decide_eq_false (fun z => w z.1)]
          dsimp only
          rw [bnd_eq, bnd_eq, nI_succ]
          all_goals rfl) FU 0 1 (by omega) (by have : FU = 100000 := rfl; omega) rfl
  refine e.trans ?_
  rw [hx]
  cases lt8 τ c (nB τ) <;> rfl
def bPl (c k : Nat) : Bool := bRow c k || Nat.beq c 29
theorem bPl_row : ∀ c k : Nat, bPl c k = false → bRow c k = false := fun _ _ h => (bf h).1
theorem bRow_sum : ∀ c k : Nat, bRow c k = false → bSum c k = false := fun _ _ h => (bf h).1
theorem bPl_sum : ∀ c k : Nat, bPl c k = false → bSum c k = false := fun c k h => bRow_sum c k (bPl_row c k h)
theorem bPl_47 : ∀ c k : Nat, bPl c k = false → (fun c k => Nat.beq c 0 && Nat.beq k 47) c k = false := fun _ _ h => (bf (bf h).1).2
theorem ix4c {c b : Nat} (hc : c < 4096) (hb : b < 4) : ((4 : Int32) * nI c) + nI b = nI (4 * c + b) := by
  rw [show (4 : Int32) = nI 4 from rfl, nI_mul2 (by omega) (by omega) (by omega), nI_plus (by omega)]
/-- what the model keeps of each row that is let: what each baker earns -/
def surE (x τ : St) (m : Nat) : Prop := ∀ c : Nat, c < m → lt8 τ c (nB τ) = true → ∀ b : Nat, b < nB τ → x.2 29 (4 * c + b) = Int64.ofInt (earnF τ (shN τ) (nmd τ) b (rowAt 8 c))
theorem playsM {τ : St} (h : okM τ) (hd : drOK τ (nmd τ)) : ∃ τ', fX9_plays τ = some (τ', ()) ∧ frm aRow bPl τ τ' ∧ surE τ' τ (8 ^ nB τ) := by
  have h4 := h.n4
  have p8 := pow8 h4
  unfold fX9_plays
  rw [bnd_eq]
  obtain ⟨x, hx, e⟩ := loopG (S := St) (fun n x m => fX9_plays_L2 (fun (σ_19 : St) (_ : Int32) => some (σ_19, ())) n x (nI m)) (8 ^ nB τ) (fun m x => frm aRow bPl τ x ∧ surE x τ m) (fun x => some (x, ())) (fun n x hp => by
      have hc : core x = core τ := core_frm hp.1 aRow_sc
      show fX9_plays_L2 _ (n + 1) x _ = _
      rw [fX9_plays_L2, rowsM (okM_fr hc h), cl_some, fr nB (fun _ => rfl) hc, if_pos (by rw [le_i]; omega)]) (fun n m x hm hp => by
      obtain ⟨p1, p2⟩ := hp
      have hc : core x = core τ := core_frm p1 aRow_sc
      have hN : nB x = nB τ := fr nB (fun _ => rfl) hc
      have il := isLetM (okM_fr hc h) (c := m) (by rw [hN]; exact hm)
      have el : lt8 x m (nB x) = lt8 τ m (nB τ) := by
        rw [hN, ← lt8_core x, hc, lt8_core]
      rw [el] at il
      show ∃ x', _ ∧ fX9_plays_L2 _ (n + 1) x _ = _
      rw [fX9_plays_L2, rowsM (okM_fr hc h), cl_some, hN, if_neg (by rw [le_i, nI_toInt (by omega), nI_toInt (by omega)]; omega), il, cl_some, jp_eq]
      cases lt : lt8 τ m (nB τ) with
      | false =>
        rw [if_pos (show b01 false = 0 from rfl)]
        dsimp only
        refine ⟨x, ⟨p1, fun c hcm hl b hb => ?_⟩, by rw [bnd_eq, nI_succ]; all_goals rfl⟩
        by_cases w : c = m
        · subst w; rw [lt] at hl; cases hl
        · exact p2 c (by omega) hl b hb
      | true =>
        obtain ⟨y1, a1, a2, a3⟩ := clearsM x
        have c1 : core y1 = core τ := (core_frm a2 noI_sc).trans hc
        obtain ⟨y2, b1, b2, b3, b4⟩ := laysP (okM_fr c1 h) (c := m) (by rw [fr nB (fun _ => rfl) c1]; exact hm)
        have c2 : core y2 = core τ := (core_frm b2 aRow_sc).trans c1
        have s2 : sums y2 (fun _ => 0) (fun _ => 0) (fun _ => 0) (fun _ => 0) (fun _ => 0) := sums_fr (fun c k c1 c2 => b2.2 c k (by
          have : Nat.beq c 0 = false := by cases c with
            | zero => omega
            | succ c => rfl
          show (Nat.beq c 0 && Nat.beq k 47) = false
          rw [this]; rfl)) a3
        have d2 : drOK y2 (nmd τ) := drOK_fr c2 (fun i => (b2.1 27 i rfl).trans ((a2.1 27 i rfl).trans (p1.1 27 i rfl))) hd
        obtain ⟨y3, g1, g2, g3⟩ := rowBuysS (okM_fr c2 h) b3 d2 1 b4 s2
        have c3 : core y3 = core τ := (core_frm g2 noI_sc).trans c2
        have e23 : ∀ b : Nat, b < nB τ → y3.2 23 b = Int64.ofInt (earnF τ (shN τ) (nmd τ) b (rowAt 8 m)) := fun b hb => by
          rw [(g3.1 b (by omega)).2]
          have ee : earnM y2 (nmd τ) (rowAt 8 m) (nS y2) b = earnF τ (shN τ) (nmd τ) b (rowAt 8 m) := fr (fun σ => earnM σ (nmd τ) (rowAt 8 m) (nS σ) b) (fun _ => rfl) c2
          dsimp only
          rw [ee, Int.zero_add, Int.one_mul]
        have f3 : frm aRow bPl τ y3 := frm_trans p1 (frm_trans (frm_mono (fun _ _ _ => rfl) bPl_sum a2) (frm_trans (frm_mono (fun _ _ q => q) bPl_47 b2) (frm_mono (fun _ _ _ => rfl) bPl_sum g2)))
        have o29 : ∀ k : Nat, y3.2 29 k = x.2 29 k := fun k => (g2.2 29 k rfl).trans ((b2.2 29 k rfl).trans (a2.2 29 k rfl))
        obtain ⟨y4, hy, ey⟩ := loopK (S := St) (fun (k : St → Int32 → Option (St × Unit)) n' y t => fX9_plays_L37 (nI m) k n' y (nI t)) (fun k y => k y (nI (nB τ))) (nB τ) (fun t y => frm (fun _ _ => false) (fun c _ => Nat.beq c 29) y3 y ∧ (∀ b : Nat, b < t → y.2 29 (4 * m + b) = Int64.ofInt (earnF τ (shN τ) (nmd τ) b (rowAt 8 m))) ∧ ∀ k : Nat, k < 4 * m → y.2 29 k = y3.2 29 k) (fun k n' y hy => by
            have e0 : y.1 0 0 = nI (nB τ) := by rw [hy.1.1 0 0 rfl, fr (fun σ => σ.1 0 0) (fun _ => rfl) c3]; exact (rgn h.hB (by decide)).1
            rw [fX9_plays_L37, e0, if_pos (by rw [le_i]; omega)]) (fun n' t y ht hy => by
            have e0 : y.1 0 0 = nI (nB τ) := by rw [hy.1.1 0 0 rfl, fr (fun σ => σ.1 0 0) (fun _ => rfl) c3]; exact (rgn h.hB (by decide)).1
            have e2 : y.2 23 t = Int64.ofInt (earnF τ (shN τ) (nmd τ) t (rowAt 8 m)) := (hy.1.2 23 t rfl).trans (e23 t ht)
            refine ⟨sL y 29 (4 * m + t) (Int64.ofInt (earnF τ (shN τ) (nmd τ) t (rowAt 8 m))), ⟨frm_trans hy.1 (frm_sL _ _ rfl), fun b hb => ?_, fun k hk => ?_⟩, fun k => ?_⟩
            · rw [sL_at]
              by_cases w : b = t
              · rw [if_pos (by omega), w]
              · rw [if_neg (by omega)]; exact hy.2.1 b (by omega)
            · rw [sL_at, if_neg (by omega)]; exact hy.2.2 k hk
            · rw [fX9_plays_L37, e0, if_neg (by rw [le_i, nI_toInt (by omega), nI_toInt (by omega)]; omega), chk_t (inb_nI (by omega) (by decide)), ix4c (by omega) (by omega), chk_t (inb_nI (by omega) (by decide)), ix_nI (m := 4 * m + t) (by omega), ix_nI (m := t) (by omega), e2, bnd_eq, bnd_eq, nI_succ]
              all_goals rfl) FU 0 y3 (by omega) (by have : FU = 100000 := rfl; omega) ⟨frm_refl _ _ _, fun b hb => absurd hb (by omega), fun _ _ => rfl⟩
        have ey : ∀ k : St → Int32 → Option (St × Unit), fX9_plays_L37 (nI m) k FU y3 0 = k y4 (nI (nB τ)) := ey
        rw [if_neg (show ¬ b01 true = 0 from one0), a1, cl_some, b1, cl_some, g1, cl_some, bnd_eq, ey]
        dsimp only
        refine ⟨y4, ⟨frm_trans f3 (frm_mono (fun _ _ _ => rfl) (fun _ _ q => (bf q).2) hy.1), fun c hcm hl b hb => ?_⟩, by rw [bnd_eq, nI_succ]; all_goals rfl⟩
        by_cases w : c = m
        · subst w; exact hy.2.1 b hb
        · rw [hy.2.2 _ (by omega), o29]
          exact p2 c (by omega) hl b hb) FU 0 τ (Nat.zero_le _) (by have : FU = 100000 := rfl; omega) ⟨frm_refl _ _ _, fun c hc => absurd hc (by omega)⟩
  exact ⟨x, e, hx.1, hx.2⟩
theorem shl3d : ∀ b : Nat, b < 4 → ∀ k : Nat, k < 8 → ∀ d : Nat, d < 8 → (nI k - nI d) <<< (((3 : Int32) * nI b) &&& 31) = Int32.ofInt (((k : Int) - (d : Int)) * ((8 ^ b : Nat) : Int)) := by decide +kernel
theorem oth8 {n c b k : Nat} (hn : n ≤ 4) (hc : c < 8 ^ n) (hb : b < n) (hk : k < 8) : nI c + ((nI k - ((nI c >>> (((3 : Int32) * nI b) &&& 31)) &&& (7 : Int32))) <<< (((3 : Int32) * nI b) &&& 31)) = nI (valN 8 n (upN (rowAt 8 c) b k)) ∧ valN 8 n (upN (rowAt 8 c) b k) < 8 ^ n ∧ rowAt 8 (valN 8 n (upN (rowAt 8 c) b k)) = upN (rowAt 8 c) b k := by
  have p8 : 8 ^ n ≤ 4096 := pow8 hn
  have d8 : ∀ x : Nat, upN (rowAt 8 c) b k x < 8 := fun x => upN8 (fun j => rowAt_lt (by decide)) hk x
  have vl := valN_lt (B := 8) n (fun x _ => d8 x)
  have cb : (nI c >>> (((3 : Int32) * nI b) &&& 31)) &&& (7 : Int32) = nI (rowAt 8 c b) := code_bits b (by omega) c (by omega)
  have r8 : rowAt 8 c b < 8 := rowAt_lt (by decide)
  refine ⟨?_, vl, ?_⟩
  · have vu := valN_up (B := 8) (b := b) (k := k) (r := rowAt 8 c) n hb
    rw [val_rowAt (by decide) n c hc] at vu
    rw [cb, shl3d b (by omega) k hk _ r8, nI_ofI (q := c) (by omega), ← Int32.ofInt_add, nI_ofI (by omega)]
    congr 1
    rw [Int.sub_mul, ← Int.natCast_mul, ← Int.natCast_mul]
    omega
  · funext x
    by_cases hx : x < n
    · exact rowAt_val n (fun y _ => d8 y) x hx
    · rw [rowAt_big (by decide) vl (by omega)]
      unfold upN
      rw [if_neg (by omega), rowAt_big (by decide) hc (by omega)]
noncomputable def rs8 (τ : St) (c : Nat) : Bool := @decide (restD τ (frc τ) (rowAt 8 c)) (Classical.propDecidable _)
theorem rs8_iff {τ : St} {c : Nat} : rs8 τ c = true ↔ restF τ (barN τ) (shN τ) (rowAt 8 c) := by
  unfold rs8
  rw [@decide_eq_true_iff _ (Classical.propDecidable _)]
  exact restD_iff τ (frc τ) (rowAt 8 c)
theorem isRestM {x τ : St} (h : okM τ) (hcx : core x = core τ) (hs : surE x τ (8 ^ nB τ)) {c : Nat} (hc : c < 8 ^ nB τ) : fX9_isRest x (nI c) = some (x, b01 (rs8 τ c)) := by
  have h4 := h.n4
  have h8 := h.k8
  have p8 := pow8 h4
  have hN : nB x = nB τ := fr nB (fun _ => rfl) hcx
  have hx := okM_fr hcx h
  have e0 : x.1 0 0 = nI (nB τ) := by rw [← hN]; exact (rgn hx.hB (by decide)).1
  have e2 : x.1 0 2 = nI (nK τ) := by rw [← fr nK (fun _ => rfl) hcx]; exact (rgn hx.hK (by decide)).1
  have il := isLetM hx (c := c) (by rw [hN]; exact hc)
  have el : lt8 x c (nB x) = lt8 τ c (nB τ) := by rw [hN, ← lt8_core x, hcx, lt8_core]
  rw [el] at il
  unfold fX9_isRest
  rw [il, cl_some]
  cases lt : lt8 τ c (nB τ) with
  | false =>
    rw [if_pos (show b01 false = 0 from rfl)]
    have : rs8 τ c = false := by
      cases q : rs8 τ c with
      | false => rfl
      | true =>
        have := (rs8_iff.mp q).1
        rw [← lt8_iff, lt] at this
        cases this
    rw [this]
    rfl
  | true =>
    have let8 := (lt8_iff (nB τ)).mp lt
    rw [if_neg (show ¬ b01 true = 0 from one0), bnd_eq]
    have eb : ∀ b : Nat, b < nB τ → ∀ r : Nat → Nat, (∀ j : Nat, r j < 8) → -68428800 ≤ earnF τ (shN τ) (nmd τ) b r ∧ earnF τ (shN τ) (nmd τ) b r ≤ 68428800 := fun b hb r hr => earnF_b h (shN τ) (nmd τ) hb hr
    have key := loopX (S := Unit) (fun n _ m => fX9_isRest_L12 (nI c) (fun (σ_13 : St) (_ : Int32) => some (σ_13, (1 : Int32))) n x (nI m)) (nB τ) (fun m _ => ∀ b : Nat, b < m → ∀ k : Nat, k < nK τ → ¬ barN τ k → earnF τ (shN τ) (nmd τ) b (upN (rowAt 8 c) b k) ≤ earnF τ (shN τ) (nmd τ) b (rowAt 8 c)) (fun _ => some (x, 1)) (fun res => res = some (x, 0) ∧ ¬ restF τ (barN τ) (shN τ) (rowAt 8 c)) (fun n s hp => by
        show fX9_isRest_L12 _ _ (n + 1) x _ = _
        rw [fX9_isRest_L12, e0, if_pos (by rw [le_i]; omega)]) (fun n m s hm hp => by
        have sc := hs c hc lt m hm
        have inner := loopX (S := Unit) (fun n' _ t => fX9_isRest_L22 (nI c) (nI m) (fun (σ_10 : St) (_ : Int32) => bnd (nI m + (1 : Int32)) fun (x2_12 : Int32) => fX9_isRest_L12 (nI c) (fun (σ_13 : St) (_ : Int32) => some (σ_13, (1 : Int32))) n σ_10 x2_12) n' x (nI t)) (nK τ) (fun t _ => ∀ k : Nat, k < t → ¬ barN τ k → earnF τ (shN τ) (nmd τ) m (upN (rowAt 8 c) m k) ≤ earnF τ (shN τ) (nmd τ) m (rowAt 8 c)) (fun _ => fX9_isRest_L12 (nI c) (fun (σ_13 : St) (_ : Int32) => some (σ_13, (1 : Int32))) n x (nI (m + 1))) (fun res => res = some (x, 0) ∧ ¬ restF τ (barN τ) (shN τ) (rowAt 8 c)) (fun n' s' hp' => by
            show fX9_isRest_L22 _ _ _ (n' + 1) x _ = _
            rw [fX9_isRest_L22, e2, if_pos (by rw [le_i]; omega), bnd_eq, nI_succ]
            all_goals rfl) (fun n' t s' ht hp' => by
            obtain ⟨o1, o2, o3⟩ := oth8 (n := nB τ) (c := c) (b := m) (k := t) h4 hc hm (by omega)
            have bm : fX9_isBarred x (nI t) = some (x, if barN τ t then 1 else 0) := by
              have := barredM (τ := x) hx.law (k := t) (by omega)
              rw [this]
              congr 3
              exact barN_fr hcx t
            show (∃ s2, _ ∧ fX9_isRest_L22 _ _ _ (n' + 1) x _ = _) ∨ (fX9_isRest_L22 _ _ _ (n' + 1) x _ = _ ∧ _)
            rw [fX9_isRest_L22, e2, if_neg (by rw [le_i, nI_toInt (by omega), nI_toInt (by omega)]; omega), o1, bnd_eq, bm, cl_some, jp_eq]
            by_cases w : barN τ t
            · rw [if_pos w, if_neg one0]
              dsimp only
              refine Or.inl ⟨(), fun k hk hb => ?_, by rw [bnd_eq, nI_succ]; all_goals rfl⟩
              by_cases q : k = t
              · subst q; exact absurd w hb
              · exact hp' k (by omega) hb
            · have lo : lt8 τ (valN 8 (nB τ) (upN (rowAt 8 c) m t)) (nB τ) = true := (lt8_iff (nB τ)).mpr (fun y hy => by
                rw [o3]
                unfold upN
                by_cases q : y = m
                · rw [if_pos q]; exact ⟨ht, w⟩
                · rw [if_neg q]; exact let8 y hy)
              have so := hs _ o2 lo m hm
              rw [o3] at so
              have b1 := eb m hm (upN (rowAt 8 c) m t) (upN8 (fun j => rowAt_lt (by decide)) (by omega))
              have b2 := eb m hm (rowAt 8 c) (fun j => rowAt_lt (by decide))
              have cmp := (i64_lt (x := earnF τ (shN τ) (nmd τ) m (upN (rowAt 8 c) m t)) (y := earnF τ (shN τ) (nmd τ) m (rowAt 8 c)) (by omega) (by omega)).2.1
              rw [if_neg w, if_pos rfl, ix4c (by omega) (by omega), ix4c (by omega) (by omega), chk_t (inb_nI (by omega) (by decide)), chk_t (inb_nI (by omega) (by decide)), ix_nI (m := 4 * valN 8 (nB τ) (upN (rowAt 8 c) m t) + m) (by omega), ix_nI (m := 4 * c + m) (by omega), so, sc]
              by_cases q : earnF τ (shN τ) (nmd τ) m (upN (rowAt 8 c) m t) ≤ earnF τ (shN τ) (nmd τ) m (rowAt 8 c)
              · rw [if_pos (cmp.mpr q)]
                dsimp only
                refine Or.inl ⟨(), fun k hk hb => ?_, by rw [bnd_eq, nI_succ]; all_goals rfl⟩
                by_cases q2 : k = t
                · subst q2; exact q
                · exact hp' k (by omega) hb
              · rw [if_neg (fun z => q (cmp.mp z))]
                exact Or.inr ⟨rfl, fun z => q (z.2 m hm t ht w)⟩) FU 0 () (by omega) (by have : FU = 100000 := rfl; omega) (fun k hk => absurd hk (by omega))
        show (∃ s2, _ ∧ fX9_isRest_L12 _ _ (n + 1) x _ = _) ∨ (fX9_isRest_L12 _ _ (n + 1) x _ = _ ∧ _)
        rw [fX9_isRest_L12, e0, if_neg (by rw [le_i, nI_toInt (by omega), nI_toInt (by omega)]; omega), bnd_eq]
        rcases inner with ⟨_, q, e⟩ | q
        · refine Or.inl ⟨(), fun b hb k hk hbar => ?_, e⟩
          by_cases w : b = m
          · subst w; exact q k hk hbar
          · exact hp b (by omega) k hk hbar
        · exact Or.inr q) FU 0 () (by omega) (by have : FU = 100000 := rfl; omega) (fun b hb => absurd hb (by omega))
    rcases key with ⟨_, q, e⟩ | q
    · have : rs8 τ c = true := rs8_iff.mpr ⟨let8, q⟩
      rw [this]
      exact e
    · have : rs8 τ c = false := by
        cases q2 : rs8 τ c with
        | false => rfl
        | true => exact absurd (rs8_iff.mp q2) q.2
      rw [this]
      exact q.1
def aCn (c k : Nat) : Bool := Nat.beq c 21 || (Nat.beq c 0 && Nat.beq k 57)
theorem aCn_row : ∀ c k : Nat, aCn c k = false → aRow c k = false := fun _ _ h => (bf h).1
theorem aCn_sc : ∀ c k : Nat, aCn c k = true → scM c k = true := by
  intro c k h
  unfold aCn at h
  cases q : Nat.beq c 21 with
  | true => have := Nat.eq_of_beq_eq_true q; subst this; rfl
  | false =>
    rw [q, Bool.false_or, Bool.and_eq_true] at h
    have h1 := Nat.eq_of_beq_eq_true h.1
    have h2 := Nat.eq_of_beq_eq_true h.2
    subst h1 h2
    rfl
theorem countM {τ : St} (h : okM τ) (hd : drOK τ (nmd τ)) : ∃ τ', fX9_countRests τ = some (τ', nI (cntN (rs8 τ) (8 ^ nB τ))) ∧ frm aCn bPl τ τ' ∧ τ'.1 0 57 = encN (nthN (rs8 τ) 0 (8 ^ nB τ)) ∧ surE τ' τ (8 ^ nB τ) := by
  have h4 := h.n4
  have p8 := pow8 h4
  obtain ⟨τ1, a1, a2, a3⟩ := playsM h hd
  have c1 : core τ1 = core τ := core_frm a2 aRow_sc
  unfold fX9_countRests
  rw [a1, cl_some, bnd_eq, bnd_eq, bnd_eq]
  obtain ⟨x, hx, e⟩ := loopG (S := St × Int32) (fun n s m => fX9_countRests_L13 (fun (σ_16 : St) (x1_17 : Int32) (_ : Int32) => some (σ_16, x1_17)) n s.1 s.2 (nI m)) (8 ^ nB τ) (fun m s => frm aCn bPl τ s.1 ∧ s.2 = nI (cntN (rs8 τ) m) ∧ s.1.1 0 57 = encN (nthN (rs8 τ) 0 m) ∧ surE s.1 τ (8 ^ nB τ)) (fun s => some (s.1, s.2)) (fun n s hp => by
      have hc : core s.1 = core τ := core_frm hp.1 aCn_sc
      show fX9_countRests_L13 _ (n + 1) s.1 s.2 _ = _
      rw [fX9_countRests_L13, rowsM (okM_fr hc h), cl_some, fr nB (fun _ => rfl) hc, if_pos (by rw [le_i]; omega)]) (fun n m s hm hp => by
      obtain ⟨p1, p2, p3, p4⟩ := hp
      have hc : core s.1 = core τ := core_frm p1 aCn_sc
      have ir := isRestM h hc p4 hm
      have cu := cntN_ub (f := rs8 τ) m
      show ∃ s' : St × Int32, _ ∧ fX9_countRests_L13 _ (n + 1) s.1 s.2 _ = _
      rw [fX9_countRests_L13, rowsM (okM_fr hc h), cl_some, fr nB (fun _ => rfl) hc, if_neg (by rw [le_i, nI_toInt (by omega), nI_toInt (by omega)]; omega), ir, cl_some, jp_eq]
      cases w : rs8 τ m with
      | false =>
        have wf : ¬ rs8 τ m = true := by rw [w]; intro z; cases z
        rw [if_pos (show b01 false = 0 from rfl)]
        dsimp only
        refine ⟨(s.1, s.2), ⟨p1, by rw [cntN_n wf]; exact p2, ?_, p4⟩, by rw [bnd_eq, nI_succ]; all_goals rfl⟩
        cases e : nthN (rs8 τ) 0 m with
        | none => rw [nthN_n e (fun z => wf z.1)]; rw [e] at p3; exact p3
        | some j => rw [nthN_s m (m + 1) (by omega) e]; rw [e] at p3; exact p3
      | true =>
        rw [if_neg (show ¬ b01 true = 0 from one0), jp_eq, p2]
        by_cases z : cntN (rs8 τ) m = 0
        · rw [if_pos (by rw [z]; rfl), bnd_eq]
          dsimp only
          refine ⟨(sI s.1 0 57 (nI m), nI (cntN (rs8 τ) (m + 1))), ⟨frm_trans p1 (frm_sI _ _ rfl), rfl, ?_, p4⟩, by rw [bnd_eq, bnd_eq, cntN_y w, nI_succ, nI_succ]; all_goals rfl⟩
          have en : nthN (rs8 τ) 0 m = none := nthN_ge (by omega)
          rw [nthN_y en ⟨w, z⟩]
          rfl
        · rw [if_neg (fun q => z (by
            rw [eq_i, z_0, nI_toInt (by omega)] at q
            omega))]
          dsimp only
          refine ⟨(s.1, nI (cntN (rs8 τ) (m + 1))), ⟨p1, rfl, ?_, p4⟩, by rw [bnd_eq, bnd_eq, cntN_y w, nI_succ, nI_succ]; all_goals rfl⟩
          cases e : nthN (rs8 τ) 0 m with
          | none => have := nthN_none e; omega
          | some j => rw [nthN_s m (m + 1) (by omega) e]; rw [e] at p3; exact p3) FU 0 (sI τ1 0 57 (-1), 0) (Nat.zero_le _) (by have : FU = 100000 := rfl; omega) ⟨frm_trans (frm_mono aCn_row (fun _ _ q => q) a2) (frm_sI _ _ rfl), rfl, rfl, a3⟩
  refine ⟨x.1, e.trans ?_, hx.1, hx.2.2.1, hx.2.2.2⟩
  rw [hx.2.1]
