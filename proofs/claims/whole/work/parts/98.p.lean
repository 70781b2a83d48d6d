/-! street: names -/
theorem e32_lt {T : Nat → Int32} {s : Nat} : ∀ l : Nat, (∀ j : Nat, j < l → pL T (s + j) = true) → e32 T s l < 32 ^ l := by
  intro l
  induction l with
  | zero => intro _; exact Nat.one_pos
  | succ l ih =>
    intro h
    have i1 := ih (fun j hj => h j (by omega))
    have d := pL_iff.mp (h l (by omega))
    rw [e32, Nat.pow_succ]
    unfold lt
    omega
theorem e256_pos {T : Nat → Int32} {s l : Nat} (hl : 1 ≤ l) (h : ∀ j : Nat, j < l → pL T (s + j) = true) : 1 ≤ e256 T s l := by
  cases l with
  | zero => omega
  | succ l =>
    have d := lt_b (h l (by omega))
    rw [e256]
    omega
theorem fstG_congr {g h : Nat → Bool} : ∀ n : Nat, (∀ b : Nat, b < n → g b = h b) → fstG g n = fstG h n := by
  intro n
  induction n with
  | zero => intro _; rfl
  | succ n ih => intro q; rw [fstG, fstG, ih (fun b hb => q b (by omega)), q n (by omega)]
theorem fstG_lt {g : Nat → Bool} {j : Nat} : ∀ m : Nat, fstG g m = some j → j < m := by
  intro m
  induction m with
  | zero => intro h; cases h
  | succ m ih =>
    intro h
    cases e : fstG g m with
    | some q => rw [fstG_s m (m + 1) (by omega) e] at h; cases h; have := ih e; omega
    | none =>
      by_cases q : g m = true
      · rw [fstG_y e q] at h; cases h; omega
      · rw [fstG_n e q] at h; cases h
section Names
variable {T : Nat → Int32} {N : Nat} {σ τ : St} {s a n m t : Nat}
theorem knownC (hs : s ≤ N) (hN : N ≤ 800) (ht : tok σ T N s) (hn : σ.1 10 0 = nI n) (hn4 : n ≤ 4) : fX3_knownBaker σ = some (σ, encN (if 0 < wl T N s ∧ wl T N s ≤ 8 then fstG (fun b => decide (σ.2 11 b = σ.2 18 8)) n else none)) := by
  have tl := tkK_lt T N s
  have wle : s + wl T N s ≤ N := rL_le hs
  unfold fX3_knownBaker
  rw [ht.2.2.1]
  by_cases k1 : tkK T N s = 1
  · have hk := tk_w.mp k1
    have ez : tkZ T N s = wl T N s := by unfold tkZ; rw [if_pos hk]
    rw [if_pos (show nI (tkK T N s) = 1 by rw [k1]; rfl), ht.2.2.2.1, ez]
    by_cases k2 : wl T N s ≤ 8
    · rw [if_pos (by rw [le_i, z_8, nI_toInt (by omega)]; omega), bnd_eq, if_pos (show 0 < wl T N s ∧ wl T N s ≤ 8 from ⟨hk, k2⟩)]
      have key := loopX (S := Unit) (fun f _ i => fX3_knownBaker_L21 (fun (σ_3 : St) (_ : Int32) => some (σ_3, (-1 : Int32))) f σ (nI i)) n (fun i _ => fstG (fun b => decide (σ.2 11 b = σ.2 18 8)) i = none) (fun _ => some (σ, -1)) (fun res => res = some (σ, encN (fstG (fun b => decide (σ.2 11 b = σ.2 18 8)) n))) (fun f _ hp => by
          show fX3_knownBaker_L21 _ (f + 1) σ _ = _
          rw [fX3_knownBaker_L21, hn, if_pos (by rw [le_i]; omega)]) (fun f i _ hi hp => by
          show (∃ s', _ ∧ fX3_knownBaker_L21 _ (f + 1) σ _ = _) ∨ (fX3_knownBaker_L21 _ (f + 1) σ _ = _)
          rw [fX3_knownBaker_L21, hn, if_neg (by rw [le_i, nI_toInt (by omega), nI_toInt (by omega)]; omega), chk_t (inb_nI (by omega) (by decide)), ix_nI (m := i) (by omega)]
          by_cases q : σ.2 11 i = σ.2 18 8
          · rw [if_pos ((lgE _ _).mpr q)]
            refine Or.inr ?_
            rw [fstG_s (i + 1) n (by omega) (fstG_y hp (decide_eq_true q))]
            rfl
          · rw [if_neg (fun z => q ((lgE _ _).mp z))]
            exact Or.inl ⟨(), fstG_n hp (fun z => q (of_decide_eq_true z)), by rw [bnd_eq, nI_succ]; all_goals rfl⟩) FU 0 () (by omega) (by have : FU = 100000 := rfl; omega) rfl
      rcases key with ⟨_, hx, e⟩ | e
      · rw [hx]; exact e
      · exact e
    · rw [if_neg (by rw [le_i, z_8, nI_toInt (by omega)]; omega), if_neg (fun z => k2 z.2)]
      rfl
  · rw [if_neg (show ¬ nI (tkK T N s) = (1 : Int32) from fun z => k1 ((ofNI (b := 1) (by omega) (by omega)).mp z)), if_neg (fun z => k1 (tk_w.mpr z.1))]
    rfl
theorem namedM (W : Int64) (hn : τ.1 0 15 = nI n) (hn4 : n ≤ 4) : fX9_named τ W = some (τ, encN (fstG (fun b => decide (τ.2 7 b = W)) n)) := by
  unfold fX9_named
  rw [bnd_eq]
  have key := loopX (S := Unit) (fun f _ i => fX9_named_L2 W (fun (σ_3 : St) (_ : Int32) => some (σ_3, (-1 : Int32))) f τ (nI i)) n (fun i _ => fstG (fun b => decide (τ.2 7 b = W)) i = none) (fun _ => some (τ, -1)) (fun res => res = some (τ, encN (fstG (fun b => decide (τ.2 7 b = W)) n))) (fun f _ hp => by
      show fX9_named_L2 _ _ (f + 1) τ _ = _
      rw [fX9_named_L2, hn, if_pos (by rw [le_i]; omega)]) (fun f i _ hi hp => by
      show (∃ s', _ ∧ fX9_named_L2 _ _ (f + 1) τ _ = _) ∨ (fX9_named_L2 _ _ (f + 1) τ _ = _)
      rw [fX9_named_L2, hn, if_neg (by rw [le_i, nI_toInt (by omega), nI_toInt (by omega)]; omega), chk_t (inb_nI (by omega) (by decide)), ix_nI (m := i) (by omega)]
      by_cases q : τ.2 7 i = W
      · rw [if_pos ((lgE _ _).mpr q)]
        refine Or.inr ?_
        rw [fstG_s (i + 1) n (by omega) (fstG_y hp (decide_eq_true q))]
        rfl
      · rw [if_neg (fun z => q ((lgE _ _).mp z))]
        exact Or.inl ⟨(), fstG_n hp (fun z => q (of_decide_eq_true z)), by rw [bnd_eq, nI_succ]; all_goals rfl⟩) FU 0 () (by omega) (by have : FU = 100000 := rfl; omega) rfl
  rcases key with ⟨_, hx, e⟩ | e
  · rw [hx]; exact e
  · exact e
theorem nm_eq {x y : Int64} (h : nmR T x y) (hk : 0 < wl T N s ∧ wl T N s ≤ 8) : (x = Int64.ofInt ((e32 T s (wl T N s) : Nat) : Int)) ↔ y = Int64.ofInt ((wv T N s : Nat) : Int) := by
  obtain ⟨q, l, l1, l8, hL, hx, hy⟩ := h
  have b1 := e32_lt l hL
  have b2 := e32_lt (T := T) (s := s) (wl T N s) wl_L
  have p1 : 32 ^ l ≤ 32 ^ 8 := Nat.pow_le_pow_right (by decide) l8
  have p2 : 32 ^ (wl T N s) ≤ 32 ^ 8 := Nat.pow_le_pow_right (by decide) hk.2
  have c1 := e256_lt2 l hL
  have q1 : 256 ^ l ≤ 256 ^ 8 := Nat.pow_le_pow_right (by decide) l8
  have ew : wv T N s = e256 T s (wl T N s) := by unfold wv; rw [if_pos hk.2]
  have wb := wv_b T N s
  rw [hx, hy, ofI_inj (by omega) (by omega), ofI_inj (by omega) wb, ew, e32_same l (wl T N s) hL wl_L, e256_same l (wl T N s) hL wl_L]
theorem nm_no {x y : Int64} (h : nmR T x y) (hk : ¬ (0 < wl T N s ∧ wl T N s ≤ 8)) : ¬ y = Int64.ofInt ((wv T N s : Nat) : Int) := by
  obtain ⟨q, l, l1, l8, hL, hx, hy⟩ := h
  have c1 := e256_lt2 l hL
  have q1 : 256 ^ l ≤ 256 ^ 8 := Nat.pow_le_pow_right (by decide) l8
  have pos := e256_pos l1 hL
  have ew : wv T N s = 0 := by
    unfold wv
    by_cases k : wl T N s ≤ 8
    · rw [if_pos k, show wl T N s = 0 by omega]; rfl
    · rw [if_neg k]
  rw [hy, ew, ofI_inj (by omega) (by omega)]
  omega
/-- whose name the token is, on both sides -/
theorem nameS (hN : N ≤ 800) (h : LX T N σ τ s a) (hd : DR T σ τ n m t) : ∃ (τ' : St) (r : Option Nat), fX9_word τ = some (τ', Int64.ofInt ((wv T N s : Nat) : Int)) ∧ frm aPs noL τ τ' ∧ LX T N σ τ' s s ∧ τ'.1 0 35 = nI (s + wl T N s) ∧ fX3_knownBaker σ = some (σ, encN r) ∧ fX9_named τ' (Int64.ofInt ((wv T N s : Nat) : Int)) = some (τ', encN r) ∧ ∀ b : Nat, r = some b → b < n ∧ 0 < wl T N s := by
  obtain ⟨τ', a1, a2, a3, a4⟩ := wordS hN h
  have hd' : DR T σ τ' n m t := DR_fr (frm_refl _ _ _) a2 hd
  refine ⟨τ', _, a1, a2, a3, a4, knownC h.sl hN h.1 hd.1.1 hd.1.2.2, ?_, fun b hb => ?_⟩
  · rw [namedM _ hd'.1.2.1 hd'.1.2.2]
    congr 3
    by_cases hk : 0 < wl T N s ∧ wl T N s ≤ 8
    · rw [if_pos hk]
      refine fstG_congr n (fun b hb => ?_)
      have nr := (hd'.2.2.2.2.2.2.2.2.1 b hb).2.2
      have e8 := h.1.2.2.2.2.2.2 (tk_w.mpr hk.1)
      rw [e8, decide_eq_decide]
      exact (nm_eq nr hk).symm
    · rw [if_neg hk]
      refine fstG_none n (fun b hb => ?_)
      have nr := (hd'.2.2.2.2.2.2.2.2.1 b hb).2.2
      exact decide_eq_false (nm_no nr hk)
  · by_cases hk : 0 < wl T N s ∧ wl T N s ≤ 8
    · rw [if_pos hk] at hb
      exact ⟨fstG_lt n hb, hk.1⟩
    · rw [if_neg hk] at hb
      cases hb
theorem keptM (τ' : St) : (kept T N s ∧ fX9_isKept τ' (Int64.ofInt ((wv T N s : Nat) : Int)) = some (τ', 1)) ∨ (¬ kept T N s ∧ fX9_isKept τ' (Int64.ofInt ((wv T N s : Nat) : Int)) = some (τ', 0)) := by
  have k : ∀ (w : Nat) (W : Int64), w < 15 → w ≠ 1 → W = Int64.ofInt ((kw256 w : Nat) : Int) → ((lg_cmp (Int64.ofInt ((wv T N s : Nat) : Int)) W = 0) ↔ isW T N s w) := fun w W hw hw1 hW => by
    have kb := kw_b w hw hw1
    rw [lgE, hW, ofI_inj (wv_b T N s) (by omega), isW_wv hw hw1]
  have k0 := k 0 422541223282 (by omega) (by omega) (by decide)
  have k2 := k 2 1668248436 (by omega) (by omega) (by decide)
  have k3 := k 3 495874044019 (by omega) (by omega) (by decide)
  have k4 := k 4 1718775661 (by omega) (by omega) (by decide)
  have k5 := k 5 25209 (by omega) (by omega) (by decide)
  have k6 := k 6 1818850164 (by omega) (by omega) (by decide)
  have k7 := k 7 1685024626 (by omega) (by omega) (by decide)
  have k8 := k 8 512970548590 (by omega) (by omega) (by decide)
  have k9 := k 9 6386539 (by omega) (by omega) (by decide)
  have k10 := k 10 6385252 (by omega) (by omega) (by decide)
  have k12 := k 12 512970880104 (by omega) (by omega) (by decide)
  have k13 := k 13 1700881256 (by omega) (by omega) (by decide)
  have k11 := k 11 28518 (by omega) (by omega) (by decide)
  have k14 := k 14 32199616315617907 (by omega) (by omega) (by decide)
  unfold fX9_isKept
  by_cases w0 : isW T N s 0
  · rw [if_pos (k0.mpr w0)]; exact Or.inl ⟨⟨0, by omega, by omega, w0⟩, rfl⟩
  rw [if_neg (fun z => w0 (k0.mp z))]
  by_cases w2 : isW T N s 2
  · rw [if_pos (k2.mpr w2)]; exact Or.inl ⟨⟨2, by omega, by omega, w2⟩, rfl⟩
  rw [if_neg (fun z => w2 (k2.mp z))]
  by_cases w3 : isW T N s 3
  · rw [if_pos (k3.mpr w3)]; exact Or.inl ⟨⟨3, by omega, by omega, w3⟩, rfl⟩
  rw [if_neg (fun z => w3 (k3.mp z))]
  by_cases w4 : isW T N s 4
  · rw [if_pos (k4.mpr w4)]; exact Or.inl ⟨⟨4, by omega, by omega, w4⟩, rfl⟩
  rw [if_neg (fun z => w4 (k4.mp z))]
  by_cases w5 : isW T N s 5
  · rw [if_pos (k5.mpr w5)]; exact Or.inl ⟨⟨5, by omega, by omega, w5⟩, rfl⟩
  rw [if_neg (fun z => w5 (k5.mp z))]
  by_cases w6 : isW T N s 6
  · rw [if_pos (k6.mpr w6)]; exact Or.inl ⟨⟨6, by omega, by omega, w6⟩, rfl⟩
  rw [if_neg (fun z => w6 (k6.mp z))]
  by_cases w7 : isW T N s 7
  · rw [if_pos (k7.mpr w7)]; exact Or.inl ⟨⟨7, by omega, by omega, w7⟩, rfl⟩
  rw [if_neg (fun z => w7 (k7.mp z)), jp_eq]
  by_cases w8 : isW T N s 8
  · rw [if_pos (k8.mpr w8)]; exact Or.inl ⟨⟨8, by omega, by omega, w8⟩, rfl⟩
  rw [if_neg (fun z => w8 (k8.mp z))]
  by_cases w9 : isW T N s 9
  · rw [if_pos (k9.mpr w9)]; exact Or.inl ⟨⟨9, by omega, by omega, w9⟩, rfl⟩
  rw [if_neg (fun z => w9 (k9.mp z))]
  by_cases w10 : isW T N s 10
  · rw [if_pos (k10.mpr w10)]; exact Or.inl ⟨⟨10, by omega, by omega, w10⟩, rfl⟩
  rw [if_neg (fun z => w10 (k10.mp z))]
  by_cases w12 : isW T N s 12
  · rw [if_pos (k12.mpr w12)]; exact Or.inl ⟨⟨12, by omega, by omega, w12⟩, rfl⟩
  rw [if_neg (fun z => w12 (k12.mp z))]
  by_cases w13 : isW T N s 13
  · rw [if_pos (k13.mpr w13)]; exact Or.inl ⟨⟨13, by omega, by omega, w13⟩, rfl⟩
  rw [if_neg (fun z => w13 (k13.mp z))]
  by_cases w11 : isW T N s 11
  · rw [if_pos (k11.mpr w11)]; exact Or.inl ⟨⟨11, by omega, by omega, w11⟩, rfl⟩
  rw [if_neg (fun z => w11 (k11.mp z))]
  by_cases w14 : isW T N s 14
  · rw [if_pos (k14.mpr w14)]; exact Or.inl ⟨⟨14, by omega, by omega, w14⟩, rfl⟩
  rw [if_neg (fun z => w14 (k14.mp z))]
  refine Or.inr ⟨fun ⟨w, x1, x2, x3⟩ => ?_, rfl⟩
  have : w = 0 ∨ w = 2 ∨ w = 3 ∨ w = 4 ∨ w = 5 ∨ w = 6 ∨ w = 7 ∨ w = 8 ∨ w = 9 ∨ w = 10 ∨ w = 11 ∨ w = 12 ∨ w = 13 ∨ w = 14 := by omega
  rcases this with e | e | e | e | e | e | e | e | e | e | e | e | e | e <;> subst e <;> contradiction
/-- the class: is it a name; the model: is it one and none of the kept words -/
theorem isNameC (hN : N ≤ 800) (h : LX T N σ τ s a) : ((0 < wl T N s ∧ wl T N s ≤ 8 ∧ ¬ kept T N s) ∧ fX3_isName σ = some (σ, 1)) ∨ (¬ (0 < wl T N s ∧ wl T N s ≤ 8 ∧ ¬ kept T N s) ∧ fX3_isName σ = some (σ, 0)) := by
  have tl := tkK_lt T N s
  have sl := h.sl
  have wle : s + wl T N s ≤ N := rL_le sl
  unfold fX3_isName
  rw [h.1.2.2.1]
  by_cases k1 : tkK T N s = 1
  · have hk := tk_w.mp k1
    have ez : tkZ T N s = wl T N s := by unfold tkZ; rw [if_pos hk]
    rw [if_pos (show nI (tkK T N s) = 1 by rw [k1]; rfl), h.1.2.2.2.1, ez]
    by_cases k2 : wl T N s ≤ 8
    · rw [if_neg (by rw [lt_i, z_8, nI_toInt (by omega)]; omega)]
      rcases keywordC hN sl h.2.2.2.2.2.1 h.1 hk with ⟨c1, c2⟩ | ⟨c1, c2⟩
      · rw [c2, cl_some, if_neg one0]
        exact Or.inr ⟨fun z => z.2.2 c1, rfl⟩
      · rw [c2, cl_some, if_pos rfl]
        exact Or.inl ⟨⟨hk, k2, c1⟩, rfl⟩
    · rw [if_pos (by rw [lt_i, z_8, nI_toInt (by omega)]; omega)]
      exact Or.inr ⟨fun z => k2 z.2.1, rfl⟩
  · rw [if_neg (show ¬ nI (tkK T N s) = (1 : Int32) from fun z => k1 ((ofNI (b := 1) (by omega) (by omega)).mp z))]
    exact Or.inr ⟨fun z => k1 (tk_w.mpr z.1), rfl⟩
end Names
/-! statements: the outcome of one, ahead of its ';' -/
def mDL (c _k : Nat) : Bool := Nat.beq c 11 || Nat.beq c 18
def aD (c k : Nat) : Bool := aPs c k || (Nat.beq c 0 && (Nat.ble 15 k && Nat.ble k 22)) || (Nat.ble 7 c && Nat.ble c 12)
def bD (c _k : Nat) : Bool := Nat.beq c 7
theorem m18_mD : ∀ c k : Nat, mk 10 18 c k = false → m18 c k = false := by
  intro c k h
  have := mk_f.mp h
  cases q : m18 c k with
  | false => rfl
  | true => have := Nat.eq_of_beq_eq_true q; omega
theorem m18_mDL : ∀ c k : Nat, mDL c k = false → m18 c k = false := fun _ _ h => (bf h).2
theorem aPs_aD : ∀ c k : Nat, aD c k = false → aPs c k = false := fun _ _ h => (bf (bf h).1).1
theorem frCd {σ σ' : St} (h : frm m18 m18 σ σ') : frm (mk 10 18) mDL σ σ' := frm_mono m18_mD m18_mDL h
theorem frMd {τ τ' : St} (h : frm aPs noL τ τ') : frm aD bD τ τ' := frm_mono aPs_aD noL_any h
def StR (T : Nat → Int32) (N : Nat) (σ0 τ0 : St) (cls : Option (St × Int32)) (τ1 : St) (y : Int32) (t : Nat) : Prop := frm aD bD τ0 τ1 ∧ ((y = 0 ∧ ∃ (σ' : St) (q : Nat), cls = some (σ', 0) ∧ frm (mk 10 18) mDL σ0 σ' ∧ q ≤ N ∧ σ'.1 18 4 = nI q ∧ τ1.1 0 31 = nI q) ∨ (y = 1 ∧ ∃ (σ1 : St) (s1 a1 n m : Nat), cls = fX3_ended σ1 ∧ frm (mk 10 18) mDL σ0 σ1 ∧ LX T N σ1 τ1 s1 a1 ∧ DR T σ1 τ1 n m t))
theorem StR.no {T : Nat → Int32} {N : Nat} {σ0 τ0 σ τ1 : St} {s t : Nat} {cls : Option (St × Int32)} (hc : cls = some (σ, 0)) (fC : frm (mk 10 18) mDL σ0 σ) (fM : frm aD bD τ0 τ1) (h : LX T N σ τ1 s s) : StR T N σ0 τ0 cls τ1 0 t := ⟨fM, Or.inl ⟨rfl, σ, s, hc, fC, h.sl, h.1.2.1, h.2.2.1⟩⟩
theorem endW {T : Nat → Int32} {N : Nat} {σ τ : St} {s a : Nat} (hN : N ≤ 800) (h : LX T N σ τ s a) : (cl (fX3_ended σ) fun (σ_15 : St) (t_16 : Int32) => chk (isB t_16) (some (σ_15, t_16))) = fX3_ended σ ∧ (cl (fX3_ended σ) fun (σ_14 : St) (t_15 : Int32) => (if t_15 = 0 then some (σ_14, (0 : Int32)) else some (σ_14, (1 : Int32)))) = fX3_ended σ := by
  rcases endedC hN h.sl h.2.2.2.2.2.1 h.1 with ⟨_, σ', c2, _⟩ | ⟨_, c2⟩
  · rw [c2]; exact ⟨rfl, rfl⟩
  · rw [c2]; exact ⟨rfl, rfl⟩
