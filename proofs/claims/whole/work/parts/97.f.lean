/-! pays, mean -/
theorem setSum_const {τ : St} (sh : Prop) [Decidable sh] (dr : Nat → Nat) (s : Nat) (c : Int) : setSum τ sh dr s (fun _ => c) = allS τ s * c := by
  unfold setSum allS
  split
  · rw [← sumN_mulr]
    refine sumN_congr _ (fun k _ => ?_)
    split
    · rw [Int.one_mul]
    · rw [Int.zero_mul]
  · rw [Int.one_mul]
theorem setSum_nn {τ : St} (sh : Prop) [Decidable sh] (dr : Nat → Nat) (s : Nat) {F : Nat → Int} (hF : ∀ set : Nat, 0 ≤ F set) : 0 ≤ setSum τ sh dr s F := by
  unfold setSum
  split
  · refine sumN_nn _ (fun k _ => ?_)
    split
    · exact hF _
    · decide
  · exact hF _
theorem ex_nn {K : Nat} {P : Nat → Nat → Int} : ∀ (n : Nat) {F : (Nat → Nat) → Int}, (∀ j : Nat, j < n → ∀ k : Nat, k < K → 0 ≤ P j k) → (∀ r : Nat → Nat, 0 ≤ F r) → 0 ≤ ex K n P F := by
  intro n
  induction n with
  | zero => intro F _ hF; exact hF _
  | succ n ih =>
    intro F hP hF
    exact sumN_nn _ (fun k hk => Int.mul_nonneg (hP n (by omega) k hk) (ih (fun j hj => hP j (by omega)) (fun r => hF _)))
theorem boF_b (τ : St) (s set : Nat) (r : Nat → Nat) : 0 ≤ boF τ s set r ∧ boF τ s set r ≤ 12 := by
  unfold boF
  cases leastN (nB τ) set r with
  | none => show (0 : Int) ≤ 0 ∧ (0 : Int) ≤ 12; omega
  | some l =>
    show 0 ≤ (if prc τ l ≤ wth τ s then (12 : Int) else 0) ∧ (if prc τ l ≤ wth τ s then (12 : Int) else 0) ≤ 12
    split <;> omega
theorem wF_all {P : Nat → Nat → Int} {n : Nat} (hs : ∀ b : Nat, b < n → sumN 8 (P b) = 100) : ex 8 n P (fun _ => 1) = wF P n 0 0 := by
  rw [ex_one]
  unfold wF
  refine prodN_congr n (fun i hi => ?_)
  rw [if_neg (by rw [Nat.zero_testBit]; decide), hs i hi]
def paB (τ : St) (sh : Prop) [Decidable sh] (dr : Nat → Nat) (P : Nat → Nat → Int) (s : Nat) : Int := bilS τ sh dr P s (paΦ τ s) (2 ^ nB τ)
def boB (τ : St) (sh : Prop) [Decidable sh] (dr : Nat → Nat) (P : Nat → Nat → Int) (s : Nat) : Int := bilS τ sh dr P s (boΦ τ s) (2 ^ nB τ)
theorem ex_pay {τ : St} (h : okM τ) {dr : Nat → Nat} (hd : drB τ dr) {P : Nat → Nat → Int} (hW : okW τ P) {s : Nat} (hs : s < nS τ) : ex 8 (nB τ) P (fun r => payS τ dr r s) = paB τ (shN τ) dr P s := ex_bill h (shN τ) hW (hd s hs) (paΦ τ s)
theorem ex_bo {τ : St} (h : okM τ) {dr : Nat → Nat} (hd : drB τ dr) {P : Nat → Nat → Int} (hW : okW τ P) {s : Nat} (hs : s < nS τ) : ex 8 (nB τ) P (fun r => boS τ dr r s) = boB τ (shN τ) dr P s := ex_bill h (shN τ) hW (hd s hs) (boΦ τ s)
theorem ex_ho {τ : St} (h : okM τ) {dr : Nat → Nat} (hd : drB τ dr) {P : Nat → Nat → Int} (hW : okW τ P) {s : Nat} (hs : s < nS τ) : ex 8 (nB τ) P (fun r => hoS τ dr r s) = allS τ s * mny τ s * 12 * wF P (nB τ) 0 0 - boB τ (shN τ) dr P s := by
  rw [← ex_bo h hd hW hs, ← wF_all (fun b hb => (hW b hb).2), ← ex_mul, ← ex_sub]
  congr 1
  funext r
  unfold hoS boS
  have e1 : (fun set => 12 - boF τ s set r) = fun set => (fun _ => (12 : Int)) set - 1 * boF τ s set r := by funext set; rw [Int.one_mul]
  rw [e1, setSum_sub τ (shN τ) dr s (fun _ => 12) (fun set => boF τ s set r) 1, setSum_const, Int.one_mul, Int.mul_sub, Int.mul_one, ← Int.mul_assoc, Int.mul_comm (mny τ s) (allS τ s)]
theorem boB_b {τ : St} (h : okM τ) {dr : Nat → Nat} (hd : drB τ dr) {P : Nat → Nat → Int} (hW : okW τ P) {s : Nat} (hs : s < nS τ) : 0 ≤ boB τ (shN τ) dr P s ∧ boB τ (shN τ) dr P s ≤ 1900800000000 := by
  have h4 := h.n4
  have mb := mny_b h hs
  have bs : ∀ r : Nat → Nat, 0 ≤ boS τ dr r s ∧ boS τ dr r s ≤ 19008 := fun r => by
    have a := setSum_nn (τ := τ) (shN τ) dr s (F := fun set => boF τ s set r) (fun set => (boF_b τ s set r).1)
    have c := setSumA h (shN τ) (dr := dr) (s := s) (F := fun set => boF τ s set r) (B := 12) (by omega) (fun set => by have := boF_b τ s set r; omega)
    refine ⟨Int.mul_nonneg mb.1 a, ?_⟩
    have := Int.mul_le_mul mb.2 c.2 a (by omega)
    exact Int.le_trans this (by decide)
  rw [← ex_bo h hd hW hs]
  refine ⟨ex_nn _ (fun j hj k hk => ((hW j hj).1 k hk).1) (fun r => (bs r).1), ?_⟩
  have a := ex_abs (K := 8) (P := P) (c := 100) (B := 19008) (by omega) (by omega) (by omega) (nB τ) (fun r => boS τ dr r s) (fun j hj => ⟨fun k hk => ((hW j hj).1 k hk).1, Int.le_of_eq (hW j hj).2⟩) (fun r _ => by have := bs r; omega)
  have hp : (100 : Int) ^ nB τ ≤ 100000000 := by
    have : nB τ = 0 ∨ nB τ = 1 ∨ nB τ = 2 ∨ nB τ = 3 ∨ nB τ = 4 := by omega
    rcases this with e | e | e | e | e <;> rw [e] <;> decide
  have hq : (100 : Int) ^ nB τ * 19008 ≤ 100000000 * 19008 := Int.mul_le_mul_of_nonneg_right hp (by omega)
  omega
theorem goneHomeC {σ τ : St} {dr : Nat → Nat} (h : okM τ) (c : clsR σ τ dr) {P : Nat → Nat → Int} (hC : ptC σ (nB τ) P) (hW : okW τ P) {s : Nat} (hs : s < nS τ) {bo : Int} (hb : σ.2 43 13 = Int64.ofInt bo) : fX7_goneHome σ (nI s) = some (σ, Int64.ofInt (allS τ s * mny τ s * 12 * wF P (nB τ) 0 0 - bo)) := by
  have h12 := h.n12
  have ab := allS_b h s
  have mb := mny_b h hs
  have pb : 0 ≤ allS τ s * mny τ s ∧ allS τ s * mny τ s ≤ 16 * 99 := ⟨Int.mul_nonneg ab.1 mb.1, Int.mul_le_mul ab.2 mb.2 mb.1 (by omega)⟩
  have em : τ.1 4 s = Int32.ofInt (mny τ s) := (Int32.ofInt_toInt _).symm
  have w0 := weightFromC h c hC hW (set := 0) (l := 0) (by omega) (by omega)
  unfold fX7_goneHome fX7_weightInAll
  rw [setsInAllC h c hs, cl_some, chk_t (inb_nI (by omega) (by decide)), ix_nI (m := s) (by omega), (c.sort hs).2.1, em, ← Int32.ofInt_mul, i64_of, i32o (by omega) (by omega), bnd_eq]
  rw [show fX7_weightFrom σ 0 0 = some (σ, Int64.ofInt (wF P (nB τ) 0 0)) from w0, cl_some, cl_some, hb, show (12 : Int64) = Int64.ofInt 12 from rfl, ← Int64.ofInt_mul, ← Int64.ofInt_mul, ← Int64.ofInt_sub]
theorem hasSort2 {σ τ : St} (h : Inv σ τ) (p : Int32) : (0 ≤ p.toInt ∧ p.toInt < (σ.1 2 1).toInt) ↔ (0 ≤ p.toInt ∧ p.toInt < (τ.1 0 1).toInt) := by rw [h.1.1.2.1]
theorem srt_nI {τ : St} (h : okM τ) {p : Int32} (hp : 0 ≤ p.toInt ∧ p.toInt < (τ.1 0 1).toInt) : p = nI p.toInt.toNat ∧ p.toInt.toNat < nS τ := by
  have := h.ns
  exact ⟨nI_mk hp.1, by omega⟩
/-- the model's sums of a sort, in a ready state -/
theorem sellsR {σ' τ' τ : St} {P : Nat → Nat → Int} {dr : Nat → Nat} (h : okM τ) (hr : rdSt σ' τ' τ dr P) {s : Nat} (hs : s < nS τ) : ∃ τ2, fX9_sells τ' = some (τ2, ()) ∧ core τ2 = core τ' ∧ frm aRow bRow τ' τ2 ∧ τ2.2 24 s = Int64.ofInt (paB τ (shN τ) dr P s) ∧ τ2.2 25 s = Int64.ofInt (boB τ (shN τ) dr P s) ∧ τ2.2 26 s = Int64.ofInt (allS τ s * mny τ s * 12 * wF P (nB τ) 0 0 - boB τ (shN τ) dr P s) := by
  have h12 := h.n12
  have hc := hr.2.2.2.1
  have hW := hr.2.2.2.2.2.2.w
  have hd : drB τ dr := hr.1.drB
  obtain ⟨τ2, c1, c2, c3⟩ := sellsM (okM_fr hc h) hr.2.2.2.2.2.1 hr.2.2.2.2.1
  obtain ⟨v1, v2, v3⟩ := c3.2 s (by omega)
  have hS : nS τ' = nS τ := fr nS (fun _ => rfl) hc
  have e1 : addP (fun _ => 0) (fun s => ex 8 (nB τ') P (fun r => payS τ' dr r s)) (nS τ') s = paB τ (shN τ) dr P s := by
    unfold addP
    rw [if_pos (by omega), Int.zero_add, ← ex_pay h hd hW hs]
    exact fr (fun σ => ex 8 (nB σ) P (fun r => payS σ dr r s)) (fun _ => rfl) hc
  have e2 : addP (fun _ => 0) (fun s => ex 8 (nB τ') P (fun r => boS τ' dr r s)) (nS τ') s = boB τ (shN τ) dr P s := by
    unfold addP
    rw [if_pos (by omega), Int.zero_add, ← ex_bo h hd hW hs]
    exact fr (fun σ => ex 8 (nB σ) P (fun r => boS σ dr r s)) (fun _ => rfl) hc
  have e3 : addP (fun _ => 0) (fun s => ex 8 (nB τ') P (fun r => hoS τ' dr r s)) (nS τ') s = allS τ s * mny τ s * 12 * wF P (nB τ) 0 0 - boB τ (shN τ) dr P s := by
    unfold addP
    rw [if_pos (by omega), Int.zero_add, ← ex_ho h hd hW hs]
    exact fr (fun σ => ex 8 (nB σ) P (fun r => hoS σ dr r s)) (fun _ => rfl) hc
  exact ⟨τ2, c1, core_frm c2 aRow_sc, c2, by rw [v1, e1], by rw [v2, e2], by rw [v3, e3]⟩
theorem p_pays : op_pays Inv := by
  intro σ τ p q h
  have hM := h.okM
  have h12 := hM.n12
  unfold fX8_pays fX9_pays
  rw [hasSort_eq, isSort_eq hM.hS, cl_some, cl_some]
  by_cases hb : 0 ≤ p.toInt ∧ p.toInt < (τ.1 0 1).toInt
  · rw [if_pos ((hasSort2 h p).mpr hb), if_pos hb, if_neg one0, if_neg one0, isIn_eq, cl_some, z_0, z_2]
    by_cases hq : 0 ≤ q.toInt ∧ q.toInt ≤ 2
    · rw [if_neg (show ¬ q < 0 by rw [lt_i, z_0]; omega), if_neg (show ¬ (2 : Int32) < q by rw [lt_i, z_2]; omega), if_pos hq, if_neg one0]
      obtain ⟨σ', τ', x, a1, a2, a3, a4, a5, a6⟩ := ready2 h
      rw [a1, a2, cl_some, cl_some]
      rcases a6 with ⟨e, _⟩ | ⟨P, a, e, _, hr, _⟩
      · rw [if_pos e, if_pos e]
        exact ⟨σ', τ', -1, rfl, rfl, a3⟩
      · obtain ⟨e1, e2⟩ := srt_nI hM hb
        generalize p.toInt.toNat = s at e1 e2
        subst e1
        have hW := hr.2.2.2.2.2.2.w
        obtain ⟨σ2, b1, b2, b3⟩ := billC hM hr.1 (shN τ) hr.2.1.1 hr.2.2.1 hW e2
        obtain ⟨τ2, c1, c2, c3, c4, c5, c6⟩ := sellsR hM hr e2
        have cl2 := clsR_fr (coreC_frm b2 (fun _ _ _ => rfl)) hr.1
        have hC2 : ptC σ2 (nB τ) P := fun j hj k hk => by rw [b2.1 45 _ rfl]; exact hr.2.2.1 j hj k hk
        have hI : Inv σ2 τ2 := Inv_fr (fun c k _ => b2.1 c k rfl) c2 a3
        rw [if_neg (by rw [e]; exact one0), if_neg (by rw [e]; exact one0), b1, cl_some, c1, cl_some]
        by_cases q0 : q = 0
        · rw [if_pos q0, if_pos q0, chk_t (inb_nI (by omega) (by decide)), ix_nI (m := s) (by omega), c4, b3.1]
          exact ⟨σ2, τ2, _, rfl, rfl, hI⟩
        · rw [if_neg q0, if_neg q0]
          by_cases q1 : q = 1
          · rw [if_pos q1, if_pos q1, chk_t (inb_nI (by omega) (by decide)), ix_nI (m := s) (by omega), c5, b3.2]
            exact ⟨σ2, τ2, _, rfl, rfl, hI⟩
          · rw [if_neg q1, if_neg q1, chk_t (inb_nI (by omega) (by decide)), goneHomeC hM cl2 hC2 hW e2 b3.2, cl_some, ix_nI (m := s) (by omega), c6]
            exact ⟨σ2, τ2, _, rfl, rfl, hI⟩
    · rw [if_neg hq, if_pos rfl]
      by_cases q0 : q < 0
      · rw [if_pos q0]; exact ⟨σ, τ, -1, rfl, rfl, h⟩
      · rw [if_neg q0, if_pos (show (2 : Int32) < q by rw [lt_i, z_0] at q0; rw [lt_i, z_2]; omega)]
        exact ⟨σ, τ, -1, rfl, rfl, h⟩
  · rw [if_neg (fun w => hb ((hasSort2 h p).mp w)), if_neg hb, if_pos rfl, if_pos rfl]
    exact ⟨σ, τ, -1, rfl, rfl, h⟩
/-- the mean price, in thousandths; -1: nothing is bought -/
def mnV (pa bo : Int) : Int32 := if bo = 0 then -1 else ((Int64.ofInt pa * 1000) / Int64.ofInt bo).toInt32
theorem ofInt_ne0 {x : Int} (h0 : 0 ≤ x) (h1 : x ≤ 1900800000000) (h2 : x ≠ 0) : ¬ Int64.ofInt x = 0 := fun w => h2 (by
  have := congrArg Int64.toInt w
  rw [i64o (by omega) (by omega)] at this
  exact this)
theorem meanOfC {σ τ : St} {dr : Nat → Nat} (h : okM τ) (c : clsR σ τ dr) (sh : Prop) [Decidable sh] (hsh : σ.1 43 14 = if sh then 1 else 0) {P : Nat → Nat → Int} (hC : ptC σ (nB τ) P) (hW : okW τ P) {s : Nat} (hs : s < nS τ) (hb : 0 ≤ boB τ sh dr P s ∧ boB τ sh dr P s ≤ 1900800000000) : ∃ σ', fX7_meanOf σ (nI s) = some (σ', mnV (paB τ sh dr P s) (boB τ sh dr P s)) ∧ frm noL (mk 43 43) σ σ' := by
  unfold fX7_meanOf
  obtain ⟨σ2, b1, b2, b3⟩ := billC h c sh hsh hC hW hs
  have e13 : σ2.2 43 13 = Int64.ofInt (boB τ sh dr P s) := b3.2
  have e12 : σ2.2 43 12 = Int64.ofInt (paB τ sh dr P s) := b3.1
  refine ⟨σ2, ?_, b2⟩
  have z0 : (0 : Int64).toInt = 0 := by decide
  have cmp : (lg_cmp (Int64.ofInt (boB τ sh dr P s)) 0 ≤ 0) ↔ boB τ sh dr P s = 0 := by
    rw [lg_cmp_le, Int64.le_iff_toInt_le, i64o (by omega) (by omega), z0]
    omega
  rw [b1, cl_some, e13, e12]
  unfold mnV
  by_cases w : boB τ sh dr P s = 0
  · rw [if_pos (cmp.mpr w), if_pos w]
  · rw [if_neg (fun q => w (cmp.mp q)), if_neg w, chk_t (decide_eq_true (ofInt_ne0 hb.1 hb.2 w))]
theorem lg0 (x : Int64) : (lg_cmp x 0 = 0) ↔ x = 0 := by
  have a := lg_cmp_le x 0
  have b := lg_cmp_ge x 0
  constructor
  · intro w
    rw [w] at a b
    have a' := a.mp (by decide)
    have b' := b.mp (by decide)
    rw [Int64.le_iff_toInt_le] at a' b'
    exact Int64.toInt_inj.mp (by omega)
  · intro w
    rw [w]
    have a' : lg_cmp 0 0 ≤ 0 := (lg_cmp_le 0 0).mpr (by decide)
    have b' : 0 ≤ lg_cmp (0 : Int64) 0 := (lg_cmp_ge 0 0).mpr (by decide)
    rw [le_i] at a' b'
    exact Int32.toInt_inj.mp (by omega)
theorem meanNowM {τ : St} {s : Nat} (hs : s < 12) {pa bo : Int} (h1 : τ.2 24 s = Int64.ofInt pa) (h2 : τ.2 25 s = Int64.ofInt bo) (hb : 0 ≤ bo ∧ bo ≤ 1900800000000) : fX9_meanNow τ (nI s) = some (τ, mnV pa bo) := by
  unfold fX9_meanNow mnV
  have hin : inb (nI s) 12 = true := inb_nI (by omega) (by decide)
  rw [chk_t hin, ix_nI (m := s) (by omega), h2, h1]
  by_cases w : bo = 0
  · rw [if_pos ((lg0 _).mpr (by rw [w]; rfl)), if_pos w]
  · have := ofInt_ne0 hb.1 hb.2 w
    rw [if_neg (fun q => this ((lg0 _).mp q)), if_neg w, chk_t hin, chk_t hin, chk_t (decide_eq_true this)]
theorem p_mean : op_mean Inv := by
  intro σ τ p h
  have hM := h.okM
  have h12 := hM.n12
  unfold fX8_mean fX9_mean
  rw [hasSort_eq, isSort_eq hM.hS, cl_some, cl_some]
  by_cases hb : 0 ≤ p.toInt ∧ p.toInt < (τ.1 0 1).toInt
  · rw [if_pos ((hasSort2 h p).mpr hb), if_pos hb, if_neg one0, if_neg one0]
    obtain ⟨σ', τ', x, a1, a2, a3, a4, a5, a6⟩ := ready2 h
    rw [a1, a2, cl_some, cl_some]
    rcases a6 with ⟨e, _⟩ | ⟨P, a, e, _, hr, _⟩
    · rw [if_pos e, if_pos e]
      exact ⟨σ', τ', -1, rfl, rfl, a3⟩
    · obtain ⟨e1, e2⟩ := srt_nI hM hb
      generalize p.toInt.toNat = s at e1 e2
      subst e1
      have hW := hr.2.2.2.2.2.2.w
      have hbb := boB_b hM hr.1.drB hW e2
      obtain ⟨σ2, b1, b2⟩ := meanOfC hM hr.1 (shN τ) hr.2.1.1 hr.2.2.1 hW e2 hbb
      obtain ⟨τ2, c1, c2, c3, c4, c5, c6⟩ := sellsR hM hr e2
      rw [if_neg (by rw [e]; exact one0), if_neg (by rw [e]; exact one0), b1, cl_some, c1, cl_some, meanNowM (by omega) c4 c5 hbb, cl_some]
      exact ⟨σ2, τ2, _, rfl, rfl, Inv_fr (fun c k _ => b2.1 c k rfl) c2 a3⟩
  · rw [if_neg (fun w => hb ((hasSort2 h p).mp w)), if_neg hb, if_pos rfl, if_pos rfl]
    exact ⟨σ, τ, -1, rfl, rfl, h⟩
