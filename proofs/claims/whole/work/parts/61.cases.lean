def op_feed (I : St → St → Prop) : Prop := ∀ (σ τ : St) (p1 p2 p3 p4 p5 : Int32), I σ τ → ∃ (σ1 τ1 : St) (x : Int32), fX8_feed σ p1 p2 p3 p4 p5 = some (σ1, x) ∧ fX9_feed τ p1 p2 p3 p4 p5 = some (τ1, x) ∧ I σ1 τ1
def op_street (I : St → St → Prop) : Prop := ∀ (σ τ : St) (p1 : Int32), I σ τ → ∃ (σ1 τ1 : St) (x : Int32), fX8_street σ p1 = some (σ1, x) ∧ fX9_street τ p1 = some (τ1, x) ∧ I σ1 τ1
def op_fault (I : St → St → Prop) : Prop := ∀ (σ τ : St) , I σ τ → ∃ (σ1 τ1 : St) (x : Int32), fX8_fault σ  = some (σ1, x) ∧ fX9_fault τ  = some (τ1, x) ∧ I σ1 τ1
def op_told (I : St → St → Prop) : Prop := ∀ (σ τ : St) (p1 : Int32), I σ τ → ∃ (σ1 τ1 : St) (x : Int32), fX8_told σ p1 = some (σ1, x) ∧ fX9_told τ p1 = some (τ1, x) ∧ I σ1 τ1
def op_cost (I : St → St → Prop) : Prop := ∀ (σ τ : St) (p1 p2 : Int32), I σ τ → ∃ (σ1 τ1 : St) (x : Int32), fX8_cost σ p1 p2 = some (σ1, x) ∧ fX9_cost τ p1 p2 = some (τ1, x) ∧ I σ1 τ1
def op_promise (I : St → St → Prop) : Prop := ∀ (σ τ : St) (p1 p2 : Int32), (p2 = 0 ∨ p2 = 1) → I σ τ → ∃ (σ1 τ1 : St) (x : Int32), fX8_promise σ p1 p2 = some (σ1, x) ∧ fX9_promise τ p1 p2 = some (τ1, x) ∧ I σ1 τ1
def op_sure (I : St → St → Prop) : Prop := ∀ (σ τ : St) (p1 p2 : Int32), I σ τ → ∃ (σ1 τ1 : St) (x : Int32), fX8_sure σ p1 p2 = some (σ1, x) ∧ fX9_sure τ p1 p2 = some (τ1, x) ∧ I σ1 τ1
def op_lot (I : St → St → Prop) : Prop := ∀ (σ τ : St) (p1 p2 p3 : Int32), I σ τ → ∃ (σ1 τ1 : St) (x : Int32), fX8_lot σ p1 p2 p3 = some (σ1, x) ∧ fX9_lot τ p1 p2 p3 = some (τ1, x) ∧ I σ1 τ1
def op_answer (I : St → St → Prop) : Prop := ∀ (σ τ : St) (p1 : Int32), I σ τ → ∃ (σ1 τ1 : St) (x : Int32), fX8_answer σ p1 = some (σ1, x) ∧ fX9_answer τ p1 = some (τ1, x) ∧ I σ1 τ1
def op_ask (I : St → St → Prop) : Prop := ∀ (σ τ : St) (p1 : Int32), I σ τ → ∃ (σ1 τ1 : St) (x : Int32), fX8_ask σ p1 = some (σ1, x) ∧ fX9_ask τ p1 = some (τ1, x) ∧ I σ1 τ1
def op_part (I : St → St → Prop) : Prop := ∀ (σ τ : St) (p1 p2 : Int32), I σ τ → ∃ (σ1 τ1 : St) (x : Int32), fX8_part σ p1 p2 = some (σ1, x) ∧ fX9_part τ p1 p2 = some (τ1, x) ∧ I σ1 τ1
def op_sold (I : St → St → Prop) : Prop := ∀ (σ τ : St) (p1 : Int32), I σ τ → ∃ (σ1 τ1 : St) (x : Int64), fX8_sold σ p1 = some (σ1, x) ∧ fX9_sold τ p1 = some (τ1, x) ∧ I σ1 τ1
def op_earns (I : St → St → Prop) : Prop := ∀ (σ τ : St) (p1 : Int32), I σ τ → ∃ (σ1 τ1 : St) (x : Int64), fX8_earns σ p1 = some (σ1, x) ∧ fX9_earns τ p1 = some (τ1, x) ∧ I σ1 τ1
def op_at (I : St → St → Prop) : Prop := ∀ (σ τ : St) (p1 p2 : Int32), I σ τ → ∃ (σ1 τ1 : St) (x : Int64), fX8_at σ p1 p2 = some (σ1, x) ∧ fX9_at τ p1 p2 = some (τ1, x) ∧ I σ1 τ1
def op_best (I : St → St → Prop) : Prop := ∀ (σ τ : St) (p1 : Int32), I σ τ → ∃ (σ1 τ1 : St) (x : Int32), fX8_best σ p1 = some (σ1, x) ∧ fX9_best τ p1 = some (τ1, x) ∧ I σ1 τ1
def op_judge (I : St → St → Prop) : Prop := ∀ (σ τ : St) , I σ τ → ∃ (σ1 τ1 : St) (x : Int32), fX8_judge σ  = some (σ1, x) ∧ fX9_judge τ  = some (τ1, x) ∧ I σ1 τ1
def op_rests (I : St → St → Prop) : Prop := ∀ (σ τ : St) (p1 : Int32), I σ τ → ∃ (σ1 τ1 : St) (x : Int32), fX8_restsA σ p1 = some (σ1, x) ∧ fX9_rests τ p1 = some (τ1, x) ∧ I σ1 τ1
def op_pays (I : St → St → Prop) : Prop := ∀ (σ τ : St) (p1 p2 : Int32), I σ τ → ∃ (σ1 τ1 : St) (x : Int64), fX8_pays σ p1 p2 = some (σ1, x) ∧ fX9_pays τ p1 p2 = some (τ1, x) ∧ I σ1 τ1
def op_mean (I : St → St → Prop) : Prop := ∀ (σ τ : St) (p1 : Int32), I σ τ → ∃ (σ1 τ1 : St) (x : Int32), fX8_mean σ p1 = some (σ1, x) ∧ fX9_mean τ p1 = some (τ1, x) ∧ I σ1 τ1
def op_gap (I : St → St → Prop) : Prop := ∀ (σ τ : St) , I σ τ → ∃ (σ1 τ1 : St) (x : Int64), fX8_gap σ  = some (σ1, x) ∧ fX9_gap τ  = some (τ1, x) ∧ I σ1 τ1
def op_saves (I : St → St → Prop) : Prop := ∀ (σ τ : St) (p1 p2 : Int32), I σ τ → ∃ (σ1 τ1 : St) (x : Int64), fX8_saves σ p1 p2 = some (σ1, x) ∧ fX9_saves τ p1 p2 = some (τ1, x) ∧ I σ1 τ1
def op_would (I : St → St → Prop) : Prop := ∀ (σ τ : St) (p1 : Int32), I σ τ → ∃ (σ1 τ1 : St) (x : Int32), fX8_would σ p1 = some (σ1, x) ∧ fX9_would τ p1 = some (τ1, x) ∧ I σ1 τ1
def op_look (I : St → St → Prop) : Prop := ∀ (σ τ : St) (p1 p2 : Int32), I σ τ → ∃ (σ1 τ1 : St) (x : Int32), fX8_look σ p1 p2 = some (σ1, x) ∧ fX9_look τ p1 p2 = some (τ1, x) ∧ I σ1 τ1
def op_lots (I : St → St → Prop) : Prop := ∀ (σ τ : St) (p1 p2 p3 p4 p5 : Int32), I σ τ → ∃ (σ1 τ1 : St) (x : Int64), fX8_lots σ p1 p2 p3 p4 p5 = some (σ1, x) ∧ fX9_lots τ p1 p2 p3 p4 p5 = some (τ1, x) ∧ I σ1 τ1
def op_chase (I : St → St → Prop) : Prop := ∀ (σ τ : St) (p1 p2 : Int32), I σ τ → ∃ (σ1 τ1 : St) (x : Int32), fX8_chase σ p1 p2 = some (σ1, x) ∧ fX9_chase τ p1 p2 = some (τ1, x) ∧ I σ1 τ1
def op_law (I : St → St → Prop) : Prop := ∀ (σ τ : St) (p1 p2 : Int32), I σ τ → ∃ (σ1 τ1 : St) (x : Int32), fX8_law σ p1 p2 = some (σ1, x) ∧ fX9_law τ p1 p2 = some (τ1, x) ∧ I σ1 τ1
def op_force (I : St → St → Prop) : Prop := ∀ (σ τ : St) (p1 : Int32), I σ τ → ∃ (σ1 τ1 : St) (x : Int32), fX8_force σ p1 = some (σ1, x) ∧ fX9_force τ p1 = some (τ1, x) ∧ I σ1 τ1
def op_bestLaw (I : St → St → Prop) : Prop := ∀ (σ τ : St) (p1 p2 : Int32), I σ τ → ∃ (σ1 τ1 : St) (x : Int32), fX8_bestLawA σ p1 p2 = some (σ1, x) ∧ fX9_bestLaw τ p1 p2 = some (τ1, x) ∧ I σ1 τ1
def op_edge (I : St → St → Prop) : Prop := ∀ (σ τ : St) (p1 : Int32), I σ τ → ∃ (σ1 τ1 : St) (x : Int32), fX8_edgeA σ p1 = some (σ1, x) ∧ fX9_edge τ p1 = some (τ1, x) ∧ I σ1 τ1
def op_run (I : St → St → Prop) : Prop := ∀ (σ τ : St) (p1 p2 p3 : Int32), I σ τ → ∃ (σ1 τ1 : St) (x : Int64), fX8_run σ p1 p2 p3 = some (σ1, x) ∧ fX9_run τ p1 p2 p3 = some (τ1, x) ∧ I σ1 τ1
def op_image (I : St → St → Prop) : Prop := ∀ (σ τ : St) , I σ τ → ∃ (σ1 τ1 : St) (x : Int32), fX8_image σ  = some (σ1, x) ∧ fX9_image τ  = some (τ1, x) ∧ I σ1 τ1
def op_back (I : St → St → Prop) : Prop := ∀ (σ τ : St) (p1 : Int32), I σ τ → ∃ (σ1 τ1 : St) (x : Int32), fX8_back σ p1 = some (σ1, x) ∧ fX9_back τ p1 = some (τ1, x) ∧ I σ1 τ1
def op_count (I : St → St → Prop) : Prop := ∀ (σ τ : St) (p1 : Int32), I σ τ → ∃ (σ1 τ1 : St) (x : Int32), fX8_count σ p1 = some (σ1, x) ∧ fX9_count τ p1 = some (τ1, x) ∧ I σ1 τ1
section LawCases
variable {X : CX} {D : va_G} {tI tJ tB tS : ClassId} {kK kV am a : Nat → Nat} {b L : Nat} {xs : Nat → Int32} {σ τ : St} {n k : Nat} {c3 : Int32} {I : St → St → Prop}
set_option maxHeartbeats 4000000 in
theorem lc_feed (hX : OKL X D [(tI, .int), (tJ, .long), (tB, .byte), (tS, .object "LoafStreet$Stand")] (zJS kK kV) b L xs) (hO : op_feed I) (hI : I σ τ) (hnk : n + 1 ≤ 600000 ∧ k + 4096 ≤ 7302250) (hin : ∀ j : Int32, (1 ≤ j ∧ j ≤ 5) → vp_in (c3 + j) L) (kend : ∀ (a1 : Nat → Nat) (σ1 τ1 : St), I σ1 τ1 → GL X D (vC a1 D tI tJ tB tS kK kV) (vM am D tI tJ tB (zJS kK kV)) σ1 τ1 (n + 1) (k + 4096) 1153 [(3, .int c3), (2, .ref (am 0)), (1, .ref (a1 0)), (0, .ref b)] []) : GL X D (vC a D tI tJ tB tS kK kV) (vM am D tI tJ tB (zJS kK kV)) σ τ n k 180 [(3, .int c3), (2, .ref (am 0)), (1, .ref (a 0)), (0, .ref b)] [] := by
  obtain ⟨σ1, τ1, x, e1, e2, hI1⟩ := hO σ τ (xs (c3 + 1).toNatClampNeg) (xs (c3 + 2).toNatClampNeg) (xs (c3 + 3).toNatClampNeg) (xs (c3 + 4).toNatClampNeg) (xs (c3 + 5).toNatClampNeg) hI
  refine l_aload_n hX 2 dL_law_180 rfl rfl ?_
  refine l_aload_n hX 3 dL_law_181 rfl rfl ?_
  refine l_iload_n hX 0 dL_law_182 rfl rfl ?_
  refine l_iconst hX (1) dL_law_183 (by decide) ?_
  refine l_iadd hX dL_law_184 ?_
  refine l_sld hX (hin _ (by decide)) dL_law_185 ?_
  refine l_aload_n hX 3 dL_law_186 rfl rfl ?_
  refine l_iload_n hX 0 dL_law_187 rfl rfl ?_
  refine l_iconst hX (2) dL_law_188 (by decide) ?_
  refine l_iadd hX dL_law_189 ?_
  refine l_sld hX (hin _ (by decide)) dL_law_190 ?_
  refine l_aload_n hX 3 dL_law_191 rfl rfl ?_
  refine l_iload_n hX 0 dL_law_192 rfl rfl ?_
  refine l_iconst hX (3) dL_law_193 (by decide) ?_
  refine l_iadd hX dL_law_194 ?_
  refine l_sld hX (hin _ (by decide)) dL_law_195 ?_
  refine l_aload_n hX 3 dL_law_196 rfl rfl ?_
  refine l_iload_n hX 0 dL_law_197 rfl rfl ?_
  refine l_iconst hX (4) dL_law_198 (by decide) ?_
  refine l_iadd hX dL_law_199 ?_
  refine l_sld hX (hin _ (by decide)) dL_law_200 ?_
  refine l_aload_n hX 3 dL_law_201 rfl rfl ?_
  refine l_iload_n hX 0 dL_law_202 rfl rfl ?_
  refine l_iconst hX (5) dL_law_203 (by decide) ?_
  refine l_iadd hX dL_law_204 ?_
  refine l_sld hX (hin _ (by decide)) dL_law_205 ?_
  refine l_callI (As := [.int (xs (c3 + 1).toNatClampNeg), .int (xs (c3 + 2).toNatClampNeg), .int (xs (c3 + 3).toNatClampNeg), .int (xs (c3 + 4).toNatClampNeg), .int (xs (c3 + 5).toNatClampNeg)]) (rest := []) hX rfl rfl ⟨[0, 1, 2, 3], rfl⟩ (Nat.le_of_ble_eq_true rfl) rfl rfl miX8_feed mvX8_feed lkL_13 (by decide) rfl (Nat.le_of_ble_eq_true rfl) rfl ⟨Nat.le_trans (Nat.le_add_right _ _) hnk.1, Nat.le_trans (Nat.le_add_right _ _) hnk.2⟩ dL_law_206 (kX8_feed _ e1) ?_
  refine l_aload_n hX 1 dL_law_209 rfl rfl ?_
  refine l_aload_n hX 3 dL_law_210 rfl rfl ?_
  refine l_iload_n hX 0 dL_law_211 rfl rfl ?_
  refine l_iconst hX (1) dL_law_212 (by decide) ?_
  refine l_iadd hX dL_law_213 ?_
  refine l_sld hX (hin _ (by decide)) dL_law_214 ?_
  refine l_aload_n hX 3 dL_law_215 rfl rfl ?_
  refine l_iload_n hX 0 dL_law_216 rfl rfl ?_
  refine l_iconst hX (2) dL_law_217 (by decide) ?_
  refine l_iadd hX dL_law_218 ?_
  refine l_sld hX (hin _ (by decide)) dL_law_219 ?_
  refine l_aload_n hX 3 dL_law_220 rfl rfl ?_
  refine l_iload_n hX 0 dL_law_221 rfl rfl ?_
  refine l_iconst hX (3) dL_law_222 (by decide) ?_
  refine l_iadd hX dL_law_223 ?_
  refine l_sld hX (hin _ (by decide)) dL_law_224 ?_
  refine l_aload_n hX 3 dL_law_225 rfl rfl ?_
  refine l_iload_n hX 0 dL_law_226 rfl rfl ?_
  refine l_iconst hX (4) dL_law_227 (by decide) ?_
  refine l_iadd hX dL_law_228 ?_
  refine l_sld hX (hin _ (by decide)) dL_law_229 ?_
  refine l_aload_n hX 3 dL_law_230 rfl rfl ?_
  refine l_iload_n hX 0 dL_law_231 rfl rfl ?_
  refine l_iconst hX (5) dL_law_232 (by decide) ?_
  refine l_iadd hX dL_law_233 ?_
  refine l_sld hX (hin _ (by decide)) dL_law_234 ?_
  refine l_swap ?_
  refine l_callI (As := [.int (xs (c3 + 1).toNatClampNeg), .int (xs (c3 + 2).toNatClampNeg), .int (xs (c3 + 3).toNatClampNeg), .int (xs (c3 + 4).toNatClampNeg), .int (xs (c3 + 5).toNatClampNeg)]) (rest := [.int x]) hX rfl rfl ⟨[0, 1, 2], rfl⟩ (Nat.le_of_ble_eq_true rfl) rfl rfl miX9_feed mvX9_feed lkL_17 (by decide) rfl (Nat.le_of_ble_eq_true rfl) rfl ⟨Nat.le_trans (Nat.le_add_right _ _) hnk.1, Nat.le_trans (Nat.le_add_right _ _) hnk.2⟩ dL_law_235 (kX9_feed _ e2) ?_
  refine l_swap ?_
  refine l_same hX 1153 dL_law_238 (by decide) ?_
  exact l_widen (Nat.le_add_right _ _) (Nat.le_add_right _ _) (kend a σ1 τ1 hI1)
set_option maxHeartbeats 4000000 in
theorem lc_street (hX : OKL X D [(tI, .int), (tJ, .long), (tB, .byte), (tS, .object "LoafStreet$Stand")] (zJS kK kV) b L xs) (hO : op_street I) (hI : I σ τ) (hnk : n + 1 ≤ 600000 ∧ k + 4096 ≤ 7302250) (hin : ∀ j : Int32, (1 ≤ j ∧ j ≤ 5) → vp_in (c3 + j) L) (kend : ∀ (a1 : Nat → Nat) (σ1 τ1 : St), I σ1 τ1 → GL X D (vC a1 D tI tJ tB tS kK kV) (vM am D tI tJ tB (zJS kK kV)) σ1 τ1 (n + 1) (k + 4096) 1153 [(3, .int c3), (2, .ref (am 0)), (1, .ref (a1 0)), (0, .ref b)] []) : GL X D (vC a D tI tJ tB tS kK kV) (vM am D tI tJ tB (zJS kK kV)) σ τ n k 243 [(3, .int c3), (2, .ref (am 0)), (1, .ref (a 0)), (0, .ref b)] [] := by
  obtain ⟨σ1, τ1, x, e1, e2, hI1⟩ := hO σ τ (xs (c3 + 1).toNatClampNeg) hI
  refine l_aload_n hX 2 dL_law_243 rfl rfl ?_
  refine l_aload_n hX 3 dL_law_244 rfl rfl ?_
  refine l_iload_n hX 0 dL_law_245 rfl rfl ?_
  refine l_iconst hX (1) dL_law_246 (by decide) ?_
  refine l_iadd hX dL_law_247 ?_
  refine l_sld hX (hin _ (by decide)) dL_law_248 ?_
  refine l_callI (As := [.int (xs (c3 + 1).toNatClampNeg)]) (rest := []) hX rfl rfl ⟨[0, 1, 2, 3], rfl⟩ (Nat.le_of_ble_eq_true rfl) rfl rfl miX8_street mvX8_street lkL_18 (by decide) rfl (Nat.le_of_ble_eq_true rfl) rfl ⟨Nat.le_trans (Nat.le_add_right _ _) hnk.1, Nat.le_trans (Nat.le_add_right _ _) hnk.2⟩ dL_law_249 (kX8_street _ e1) ?_
  refine l_aload_n hX 1 dL_law_252 rfl rfl ?_
  refine l_aload_n hX 3 dL_law_253 rfl rfl ?_
  refine l_iload_n hX 0 dL_law_254 rfl rfl ?_
  refine l_iconst hX (1) dL_law_255 (by decide) ?_
  refine l_iadd hX dL_law_256 ?_
  refine l_sld hX (hin _ (by decide)) dL_law_257 ?_
  refine l_swap ?_
  refine l_callI (As := [.int (xs (c3 + 1).toNatClampNeg)]) (rest := [.int x]) hX rfl rfl ⟨[0, 1, 2], rfl⟩ (Nat.le_of_ble_eq_true rfl) rfl rfl miX9_street mvX9_street lkL_22 (by decide) rfl (Nat.le_of_ble_eq_true rfl) rfl ⟨Nat.le_trans (Nat.le_add_right _ _) hnk.1, Nat.le_trans (Nat.le_add_right _ _) hnk.2⟩ dL_law_258 (kX9_street _ e2) ?_
  refine l_swap ?_
  refine l_same hX 1153 dL_law_261 (by decide) ?_
  exact l_widen (Nat.le_add_right _ _) (Nat.le_add_right _ _) (kend a σ1 τ1 hI1)
set_option maxHeartbeats 4000000 in
theorem lc_fault (hX : OKL X D [(tI, .int), (tJ, .long), (tB, .byte), (tS, .object "LoafStreet$Stand")] (zJS kK kV) b L xs) (hO : op_fault I) (hI : I σ τ) (hnk : n + 1 ≤ 600000 ∧ k + 4096 ≤ 7302250) (hin : ∀ j : Int32, (1 ≤ j ∧ j ≤ 5) → vp_in (c3 + j) L) (kend : ∀ (a1 : Nat → Nat) (σ1 τ1 : St), I σ1 τ1 → GL X D (vC a1 D tI tJ tB tS kK kV) (vM am D tI tJ tB (zJS kK kV)) σ1 τ1 (n + 1) (k + 4096) 1153 [(3, .int c3), (2, .ref (am 0)), (1, .ref (a1 0)), (0, .ref b)] []) : GL X D (vC a D tI tJ tB tS kK kV) (vM am D tI tJ tB (zJS kK kV)) σ τ n k 266 [(3, .int c3), (2, .ref (am 0)), (1, .ref (a 0)), (0, .ref b)] [] := by
  obtain ⟨σ1, τ1, x, e1, e2, hI1⟩ := hO σ τ  hI
  refine l_aload_n hX 2 dL_law_266 rfl rfl ?_
  refine l_callI (As := []) (rest := []) hX rfl rfl ⟨[0, 1, 2, 3], rfl⟩ (Nat.le_of_ble_eq_true rfl) rfl rfl miX8_fault mvX8_fault lkL_23 (by decide) rfl (Nat.le_of_ble_eq_true rfl) rfl ⟨Nat.le_trans (Nat.le_add_right _ _) hnk.1, Nat.le_trans (Nat.le_add_right _ _) hnk.2⟩ dL_law_267 (kX8_fault _ e1) ?_
  refine l_aload_n hX 1 dL_law_270 rfl rfl ?_
  refine l_swap ?_
  refine l_callI (As := []) (rest := [.int x]) hX rfl rfl ⟨[0, 1, 2], rfl⟩ (Nat.le_of_ble_eq_true rfl) rfl rfl miX9_fault mvX9_fault lkL_27 (by decide) rfl (Nat.le_of_ble_eq_true rfl) rfl ⟨Nat.le_trans (Nat.le_add_right _ _) hnk.1, Nat.le_trans (Nat.le_add_right _ _) hnk.2⟩ dL_law_271 (kX9_fault _ e2) ?_
  refine l_swap ?_
  refine l_same hX 1153 dL_law_274 (by decide) ?_
  exact l_widen (Nat.le_add_right _ _) (Nat.le_add_right _ _) (kend a σ1 τ1 hI1)
set_option maxHeartbeats 4000000 in
theorem lc_told (hX : OKL X D [(tI, .int), (tJ, .long), (tB, .byte), (tS, .object "LoafStreet$Stand")] (zJS kK kV) b L xs) (hO : op_told I) (hI : I σ τ) (hnk : n + 1 ≤ 600000 ∧ k + 4096 ≤ 7302250) (hin : ∀ j : Int32, (1 ≤ j ∧ j ≤ 5) → vp_in (c3 + j) L) (kend : ∀ (a1 : Nat → Nat) (σ1 τ1 : St), I σ1 τ1 → GL X D (vC a1 D tI tJ tB tS kK kV) (vM am D tI tJ tB (zJS kK kV)) σ1 τ1 (n + 1) (k + 4096) 1153 [(3, .int c3), (2, .ref (am 0)), (1, .ref (a1 0)), (0, .ref b)] []) : GL X D (vC a D tI tJ tB tS kK kV) (vM am D tI tJ tB (zJS kK kV)) σ τ n k 279 [(3, .int c3), (2, .ref (am 0)), (1, .ref (a 0)), (0, .ref b)] [] := by
  obtain ⟨σ1, τ1, x, e1, e2, hI1⟩ := hO σ τ (xs (c3 + 1).toNatClampNeg) hI
  refine l_aload_n hX 2 dL_law_279 rfl rfl ?_
  refine l_aload_n hX 3 dL_law_280 rfl rfl ?_
  refine l_iload_n hX 0 dL_law_281 rfl rfl ?_
  refine l_iconst hX (1) dL_law_282 (by decide) ?_
  refine l_iadd hX dL_law_283 ?_
  refine l_sld hX (hin _ (by decide)) dL_law_284 ?_
  refine l_callI (As := [.int (xs (c3 + 1).toNatClampNeg)]) (rest := []) hX rfl rfl ⟨[0, 1, 2, 3], rfl⟩ (Nat.le_of_ble_eq_true rfl) rfl rfl miX8_told mvX8_told lkL_28 (by decide) rfl (Nat.le_of_ble_eq_true rfl) rfl ⟨Nat.le_trans (Nat.le_add_right _ _) hnk.1, Nat.le_trans (Nat.le_add_right _ _) hnk.2⟩ dL_law_285 (kX8_told _ e1) ?_
  refine l_aload_n hX 1 dL_law_288 rfl rfl ?_
  refine l_aload_n hX 3 dL_law_289 rfl rfl ?_
  refine l_iload_n hX 0 dL_law_290 rfl rfl ?_
  refine l_iconst hX (1) dL_law_291 (by decide) ?_
  refine l_iadd hX dL_law_292 ?_
  refine l_sld hX (hin _ (by decide)) dL_law_293 ?_
  refine l_swap ?_
  refine l_callI (As := [.int (xs (c3 + 1).toNatClampNeg)]) (rest := [.int x]) hX rfl rfl ⟨[0, 1, 2], rfl⟩ (Nat.le_of_ble_eq_true rfl) rfl rfl miX9_told mvX9_told lkL_31 (by decide) rfl (Nat.le_of_ble_eq_true rfl) rfl ⟨Nat.le_trans (Nat.le_add_right _ _) hnk.1, Nat.le_trans (Nat.le_add_right _ _) hnk.2⟩ dL_law_294 (kX9_told _ e2) ?_
  refine l_swap ?_
  refine l_same hX 1153 dL_law_297 (by decide) ?_
  exact l_widen (Nat.le_add_right _ _) (Nat.le_add_right _ _) (kend a σ1 τ1 hI1)
set_option maxHeartbeats 4000000 in
theorem lc_cost (hX : OKL X D [(tI, .int), (tJ, .long), (tB, .byte), (tS, .object "LoafStreet$Stand")] (zJS kK kV) b L xs) (hO : op_cost I) (hI : I σ τ) (hnk : n + 1 ≤ 600000 ∧ k + 4096 ≤ 7302250) (hin : ∀ j : Int32, (1 ≤ j ∧ j ≤ 5) → vp_in (c3 + j) L) (kend : ∀ (a1 : Nat → Nat) (σ1 τ1 : St), I σ1 τ1 → GL X D (vC a1 D tI tJ tB tS kK kV) (vM am D tI tJ tB (zJS kK kV)) σ1 τ1 (n + 1) (k + 4096) 1153 [(3, .int c3), (2, .ref (am 0)), (1, .ref (a1 0)), (0, .ref b)] []) : GL X D (vC a D tI tJ tB tS kK kV) (vM am D tI tJ tB (zJS kK kV)) σ τ n k 302 [(3, .int c3), (2, .ref (am 0)), (1, .ref (a 0)), (0, .ref b)] [] := by
  obtain ⟨σ1, τ1, x, e1, e2, hI1⟩ := hO σ τ (xs (c3 + 1).toNatClampNeg) (xs (c3 + 2).toNatClampNeg) hI
  refine l_aload_n hX 2 dL_law_302 rfl rfl ?_
  refine l_aload_n hX 3 dL_law_303 rfl rfl ?_
  refine l_iload_n hX 0 dL_law_304 rfl rfl ?_
  refine l_iconst hX (1) dL_law_305 (by decide) ?_
  refine l_iadd hX dL_law_306 ?_
  refine l_sld hX (hin _ (by decide)) dL_law_307 ?_
  refine l_aload_n hX 3 dL_law_308 rfl rfl ?_
  refine l_iload_n hX 0 dL_law_309 rfl rfl ?_
  refine l_iconst hX (2) dL_law_310 (by decide) ?_
  refine l_iadd hX dL_law_311 ?_
  refine l_sld hX (hin _ (by decide)) dL_law_312 ?_
  refine l_callI (As := [.int (xs (c3 + 1).toNatClampNeg), .int (xs (c3 + 2).toNatClampNeg)]) (rest := []) hX rfl rfl ⟨[0, 1, 2, 3], rfl⟩ (Nat.le_of_ble_eq_true rfl) rfl rfl miX8_cost mvX8_cost lkL_32 (by decide) rfl (Nat.le_of_ble_eq_true rfl) rfl ⟨Nat.le_trans (Nat.le_add_right _ _) hnk.1, Nat.le_trans (Nat.le_add_right _ _) hnk.2⟩ dL_law_313 (kX8_cost _ e1) ?_
  refine l_aload_n hX 1 dL_law_316 rfl rfl ?_
  refine l_aload_n hX 3 dL_law_317 rfl rfl ?_
  refine l_iload_n hX 0 dL_law_318 rfl rfl ?_
  refine l_iconst hX (1) dL_law_319 (by decide) ?_
  refine l_iadd hX dL_law_320 ?_
  refine l_sld hX (hin _ (by decide)) dL_law_321 ?_
  refine l_aload_n hX 3 dL_law_322 rfl rfl ?_
  refine l_iload_n hX 0 dL_law_323 rfl rfl ?_
  refine l_iconst hX (2) dL_law_324 (by decide) ?_
  refine l_iadd hX dL_law_325 ?_
  refine l_sld hX (hin _ (by decide)) dL_law_326 ?_
  refine l_swap ?_
  refine l_callI (As := [.int (xs (c3 + 1).toNatClampNeg), .int (xs (c3 + 2).toNatClampNeg)]) (rest := [.int x]) hX rfl rfl ⟨[0, 1, 2], rfl⟩ (Nat.le_of_ble_eq_true rfl) rfl rfl miX9_cost mvX9_cost lkL_36 (by decide) rfl (Nat.le_of_ble_eq_true rfl) rfl ⟨Nat.le_trans (Nat.le_add_right _ _) hnk.1, Nat.le_trans (Nat.le_add_right _ _) hnk.2⟩ dL_law_327 (kX9_cost _ e2) ?_
  refine l_swap ?_
  refine l_same hX 1153 dL_law_330 (by decide) ?_
  exact l_widen (Nat.le_add_right _ _) (Nat.le_add_right _ _) (kend a σ1 τ1 hI1)
set_option maxHeartbeats 4000000 in
theorem lc_promise (hX : OKL X D [(tI, .int), (tJ, .long), (tB, .byte), (tS, .object "LoafStreet$Stand")] (zJS kK kV) b L xs) (hO : op_promise I) (hI : I σ τ) (hnk : n + 1 ≤ 600000 ∧ k + 4096 ≤ 7302250) (hin : ∀ j : Int32, (1 ≤ j ∧ j ≤ 5) → vp_in (c3 + j) L) (kend : ∀ (a1 : Nat → Nat) (σ1 τ1 : St), I σ1 τ1 → GL X D (vC a1 D tI tJ tB tS kK kV) (vM am D tI tJ tB (zJS kK kV)) σ1 τ1 (n + 1) (k + 4096) 1153 [(3, .int c3), (2, .ref (am 0)), (1, .ref (a1 0)), (0, .ref b)] []) : GL X D (vC a D tI tJ tB tS kK kV) (vM am D tI tJ tB (zJS kK kV)) σ τ n k 335 [(3, .int c3), (2, .ref (am 0)), (1, .ref (a 0)), (0, .ref b)] [] := by
  by_cases hq : (xs (c3 + 2).toNatClampNeg) = 0
  · obtain ⟨σ1, τ1, x, e1, e2, hI1⟩ := hO σ τ (xs (c3 + 1).toNatClampNeg) (0) (by decide) hI
    refine l_aload_n hX 2 dL_law_335 rfl rfl ?_
    refine l_aload_n hX 3 dL_law_336 rfl rfl ?_
    refine l_iload_n hX 0 dL_law_337 rfl rfl ?_
    refine l_iconst hX (1) dL_law_338 (by decide) ?_
    refine l_iadd hX dL_law_339 ?_
    refine l_sld hX (hin _ (by decide)) dL_law_340 ?_
    refine l_aload_n hX 3 dL_law_341 rfl rfl ?_
    refine l_iload_n hX 0 dL_law_342 rfl rfl ?_
    refine l_iconst hX (2) dL_law_343 (by decide) ?_
    refine l_iadd hX dL_law_344 ?_
    refine l_sld hX (hin _ (by decide)) dL_law_345 ?_
    refine l_ifeqT hX 353 dL_law_346 (by decide) hq ?_
    refine l_iconst hX (0) dL_law_353 (by decide) ?_
    refine l_callI (As := [.int (xs (c3 + 1).toNatClampNeg), .int (0)]) (rest := []) hX rfl rfl ⟨[0, 1, 2, 3], rfl⟩ (Nat.le_of_ble_eq_true rfl) rfl rfl miX8_promise mvX8_promise lkL_37 (by decide) rfl (Nat.le_of_ble_eq_true rfl) rfl ⟨Nat.le_trans (Nat.le_add_right _ _) hnk.1, Nat.le_trans (Nat.le_add_right _ _) hnk.2⟩ dL_law_354 (kX8_promise _ e1) ?_
    refine l_aload_n hX 1 dL_law_357 rfl rfl ?_
    refine l_aload_n hX 3 dL_law_358 rfl rfl ?_
    refine l_iload_n hX 0 dL_law_359 rfl rfl ?_
    refine l_iconst hX (1) dL_law_360 (by decide) ?_
    refine l_iadd hX dL_law_361 ?_
    refine l_sld hX (hin _ (by decide)) dL_law_362 ?_
    refine l_aload_n hX 3 dL_law_363 rfl rfl ?_
    refine l_iload_n hX 0 dL_law_364 rfl rfl ?_
    refine l_iconst hX (2) dL_law_365 (by decide) ?_
    refine l_iadd hX dL_law_366 ?_
    refine l_sld hX (hin _ (by decide)) dL_law_367 ?_
    refine l_ifeqT hX 375 dL_law_368 (by decide) hq ?_
    refine l_iconst hX (0) dL_law_375 (by decide) ?_
    refine l_swap ?_
    refine l_callI (As := [.int (xs (c3 + 1).toNatClampNeg), .int (0)]) (rest := [.int x]) hX rfl rfl ⟨[0, 1, 2], rfl⟩ (Nat.le_of_ble_eq_true rfl) rfl rfl miX9_promise mvX9_promise lkL_41 (by decide) rfl (Nat.le_of_ble_eq_true rfl) rfl ⟨Nat.le_trans (Nat.le_add_right _ _) hnk.1, Nat.le_trans (Nat.le_add_right _ _) hnk.2⟩ dL_law_376 (kX9_promise _ e2) ?_
    refine l_swap ?_
    refine l_same hX 1153 dL_law_379 (by decide) ?_
    exact l_widen (Nat.le_add_right _ _) (Nat.le_add_right _ _) (kend a σ1 τ1 hI1)
  · obtain ⟨σ1, τ1, x, e1, e2, hI1⟩ := hO σ τ (xs (c3 + 1).toNatClampNeg) (1) (by decide) hI
    refine l_aload_n hX 2 dL_law_335 rfl rfl ?_
    refine l_aload_n hX 3 dL_law_336 rfl rfl ?_
    refine l_iload_n hX 0 dL_law_337 rfl rfl ?_
    refine l_iconst hX (1) dL_law_338 (by decide) ?_
    refine l_iadd hX dL_law_339 ?_
    refine l_sld hX (hin _ (by decide)) dL_law_340 ?_
    refine l_aload_n hX 3 dL_law_341 rfl rfl ?_
    refine l_iload_n hX 0 dL_law_342 rfl rfl ?_
    refine l_iconst hX (2) dL_law_343 (by decide) ?_
    refine l_iadd hX dL_law_344 ?_
    refine l_sld hX (hin _ (by decide)) dL_law_345 ?_
    refine l_ifeqF hX 353 dL_law_346 (by decide) hq ?_
    refine l_iconst hX (1) dL_law_349 (by decide) ?_
    refine l_goto hX 354 dL_law_350 (by decide) ?_
    refine l_callI (As := [.int (xs (c3 + 1).toNatClampNeg), .int (1)]) (rest := []) hX rfl rfl ⟨[0, 1, 2, 3], rfl⟩ (Nat.le_of_ble_eq_true rfl) rfl rfl miX8_promise mvX8_promise lkL_37 (by decide) rfl (Nat.le_of_ble_eq_true rfl) rfl ⟨Nat.le_trans (Nat.le_add_right _ _) hnk.1, Nat.le_trans (Nat.le_add_right _ _) hnk.2⟩ dL_law_354 (kX8_promise _ e1) ?_
    refine l_aload_n hX 1 dL_law_357 rfl rfl ?_
    refine l_aload_n hX 3 dL_law_358 rfl rfl ?_
    refine l_iload_n hX 0 dL_law_359 rfl rfl ?_
    refine l_iconst hX (1) dL_law_360 (by decide) ?_
    refine l_iadd hX dL_law_361 ?_
    refine l_sld hX (hin _ (by decide)) dL_law_362 ?_
    refine l_aload_n hX 3 dL_law_363 rfl rfl ?_
    refine l_iload_n hX 0 dL_law_364 rfl rfl ?_
    refine l_iconst hX (2) dL_law_365 (by decide) ?_
    refine l_iadd hX dL_law_366 ?_
    refine l_sld hX (hin _ (by decide)) dL_law_367 ?_
    refine l_ifeqF hX 375 dL_law_368 (by decide) hq ?_
    refine l_iconst hX (1) dL_law_371 (by decide) ?_
    refine l_goto hX 376 dL_law_372 (by decide) ?_
    refine l_swap ?_
    refine l_callI (As := [.int (xs (c3 + 1).toNatClampNeg), .int (1)]) (rest := [.int x]) hX rfl rfl ⟨[0, 1, 2], rfl⟩ (Nat.le_of_ble_eq_true rfl) rfl rfl miX9_promise mvX9_promise lkL_41 (by decide) rfl (Nat.le_of_ble_eq_true rfl) rfl ⟨Nat.le_trans (Nat.le_add_right _ _) hnk.1, Nat.le_trans (Nat.le_add_right _ _) hnk.2⟩ dL_law_376 (kX9_promise _ e2) ?_
    refine l_swap ?_
    refine l_same hX 1153 dL_law_379 (by decide) ?_
    exact l_widen (Nat.le_add_right _ _) (Nat.le_add_right _ _) (kend a σ1 τ1 hI1)
set_option maxHeartbeats 4000000 in
theorem lc_sure (hX : OKL X D [(tI, .int), (tJ, .long), (tB, .byte), (tS, .object "LoafStreet$Stand")] (zJS kK kV) b L xs) (hO : op_sure I) (hI : I σ τ) (hnk : n + 1 ≤ 600000 ∧ k + 4096 ≤ 7302250) (hin : ∀ j : Int32, (1 ≤ j ∧ j ≤ 5) → vp_in (c3 + j) L) (kend : ∀ (a1 : Nat → Nat) (σ1 τ1 : St), I σ1 τ1 → GL X D (vC a1 D tI tJ tB tS kK kV) (vM am D tI tJ tB (zJS kK kV)) σ1 τ1 (n + 1) (k + 4096) 1153 [(3, .int c3), (2, .ref (am 0)), (1, .ref (a1 0)), (0, .ref b)] []) : GL X D (vC a D tI tJ tB tS kK kV) (vM am D tI tJ tB (zJS kK kV)) σ τ n k 384 [(3, .int c3), (2, .ref (am 0)), (1, .ref (a 0)), (0, .ref b)] [] := by
  obtain ⟨σ1, τ1, x, e1, e2, hI1⟩ := hO σ τ (xs (c3 + 1).toNatClampNeg) (xs (c3 + 2).toNatClampNeg) hI
  refine l_aload_n hX 2 dL_law_384 rfl rfl ?_
  refine l_aload_n hX 3 dL_law_385 rfl rfl ?_
  refine l_iload_n hX 0 dL_law_386 rfl rfl ?_
  refine l_iconst hX (1) dL_law_387 (by decide) ?_
  refine l_iadd hX dL_law_388 ?_
  refine l_sld hX (hin _ (by decide)) dL_law_389 ?_
  refine l_aload_n hX 3 dL_law_390 rfl rfl ?_
  refine l_iload_n hX 0 dL_law_391 rfl rfl ?_
  refine l_iconst hX (2) dL_law_392 (by decide) ?_
  refine l_iadd hX dL_law_393 ?_
  refine l_sld hX (hin _ (by decide)) dL_law_394 ?_
  refine l_callI (As := [.int (xs (c3 + 1).toNatClampNeg), .int (xs (c3 + 2).toNatClampNeg)]) (rest := []) hX rfl rfl ⟨[0, 1, 2, 3], rfl⟩ (Nat.le_of_ble_eq_true rfl) rfl rfl miX8_sure mvX8_sure lkL_42 (by decide) rfl (Nat.le_of_ble_eq_true rfl) rfl ⟨Nat.le_trans (Nat.le_add_right _ _) hnk.1, Nat.le_trans (Nat.le_add_right _ _) hnk.2⟩ dL_law_395 (kX8_sure _ e1) ?_
  refine l_aload_n hX 1 dL_law_398 rfl rfl ?_
  refine l_aload_n hX 3 dL_law_399 rfl rfl ?_
  refine l_iload_n hX 0 dL_law_400 rfl rfl ?_
  refine l_iconst hX (1) dL_law_401 (by decide) ?_
  refine l_iadd hX dL_law_402 ?_
  refine l_sld hX (hin _ (by decide)) dL_law_403 ?_
  refine l_aload_n hX 3 dL_law_404 rfl rfl ?_
  refine l_iload_n hX 0 dL_law_405 rfl rfl ?_
  refine l_iconst hX (2) dL_law_406 (by decide) ?_
  refine l_iadd hX dL_law_407 ?_
  refine l_sld hX (hin _ (by decide)) dL_law_408 ?_
  refine l_swap ?_
  refine l_callI (As := [.int (xs (c3 + 1).toNatClampNeg), .int (xs (c3 + 2).toNatClampNeg)]) (rest := [.int x]) hX rfl rfl ⟨[0, 1, 2], rfl⟩ (Nat.le_of_ble_eq_true rfl) rfl rfl miX9_sure mvX9_sure lkL_45 (by decide) rfl (Nat.le_of_ble_eq_true rfl) rfl ⟨Nat.le_trans (Nat.le_add_right _ _) hnk.1, Nat.le_trans (Nat.le_add_right _ _) hnk.2⟩ dL_law_409 (kX9_sure _ e2) ?_
  refine l_swap ?_
  refine l_same hX 1153 dL_law_412 (by decide) ?_
  exact l_widen (Nat.le_add_right _ _) (Nat.le_add_right _ _) (kend a σ1 τ1 hI1)
set_option maxHeartbeats 4000000 in
theorem lc_lot (hX : OKL X D [(tI, .int), (tJ, .long), (tB, .byte), (tS, .object "LoafStreet$Stand")] (zJS kK kV) b L xs) (hO : op_lot I) (hI : I σ τ) (hnk : n + 1 ≤ 600000 ∧ k + 4096 ≤ 7302250) (hin : ∀ j : Int32, (1 ≤ j ∧ j ≤ 5) → vp_in (c3 + j) L) (kend : ∀ (a1 : Nat → Nat) (σ1 τ1 : St), I σ1 τ1 → GL X D (vC a1 D tI tJ tB tS kK kV) (vM am D tI tJ tB (zJS kK kV)) σ1 τ1 (n + 1) (k + 4096) 1153 [(3, .int c3), (2, .ref (am 0)), (1, .ref (a1 0)), (0, .ref b)] []) : GL X D (vC a D tI tJ tB tS kK kV) (vM am D tI tJ tB (zJS kK kV)) σ τ n k 417 [(3, .int c3), (2, .ref (am 0)), (1, .ref (a 0)), (0, .ref b)] [] := by
  obtain ⟨σ1, τ1, x, e1, e2, hI1⟩ := hO σ τ (xs (c3 + 1).toNatClampNeg) (xs (c3 + 2).toNatClampNeg) (xs (c3 + 3).toNatClampNeg) hI
  refine l_aload_n hX 2 dL_law_417 rfl rfl ?_
  refine l_aload_n hX 3 dL_law_418 rfl rfl ?_
  refine l_iload_n hX 0 dL_law_419 rfl rfl ?_
  refine l_iconst hX (1) dL_law_420 (by decide) ?_
  refine l_iadd hX dL_law_421 ?_
  refine l_sld hX (hin _ (by decide)) dL_law_422 ?_
  refine l_aload_n hX 3 dL_law_423 rfl rfl ?_
  refine l_iload_n hX 0 dL_law_424 rfl rfl ?_
  refine l_iconst hX (2) dL_law_425 (by decide) ?_
  refine l_iadd hX dL_law_426 ?_
  refine l_sld hX (hin _ (by decide)) dL_law_427 ?_
  refine l_aload_n hX 3 dL_law_428 rfl rfl ?_
  refine l_iload_n hX 0 dL_law_429 rfl rfl ?_
  refine l_iconst hX (3) dL_law_430 (by decide) ?_
  refine l_iadd hX dL_law_431 ?_
  refine l_sld hX (hin _ (by decide)) dL_law_432 ?_
  refine l_callI (As := [.int (xs (c3 + 1).toNatClampNeg), .int (xs (c3 + 2).toNatClampNeg), .int (xs (c3 + 3).toNatClampNeg)]) (rest := []) hX rfl rfl ⟨[0, 1, 2, 3], rfl⟩ (Nat.le_of_ble_eq_true rfl) rfl rfl miX8_lot mvX8_lot lkL_46 (by decide) rfl (Nat.le_of_ble_eq_true rfl) rfl ⟨Nat.le_trans (Nat.le_add_right _ _) hnk.1, Nat.le_trans (Nat.le_add_right _ _) hnk.2⟩ dL_law_433 (kX8_lot _ e1) ?_
  refine l_aload_n hX 1 dL_law_436 rfl rfl ?_
  refine l_aload_n hX 3 dL_law_437 rfl rfl ?_
  refine l_iload_n hX 0 dL_law_438 rfl rfl ?_
  refine l_iconst hX (1) dL_law_439 (by decide) ?_
  refine l_iadd hX dL_law_440 ?_
  refine l_sld hX (hin _ (by decide)) dL_law_441 ?_
  refine l_aload_n hX 3 dL_law_442 rfl rfl ?_
  refine l_iload_n hX 0 dL_law_443 rfl rfl ?_
  refine l_iconst hX (2) dL_law_444 (by decide) ?_
  refine l_iadd hX dL_law_445 ?_
  refine l_sld hX (hin _ (by decide)) dL_law_446 ?_
  refine l_aload_n hX 3 dL_law_447 rfl rfl ?_
  refine l_iload_n hX 0 dL_law_448 rfl rfl ?_
  refine l_iconst hX (3) dL_law_449 (by decide) ?_
  refine l_iadd hX dL_law_450 ?_
  refine l_sld hX (hin _ (by decide)) dL_law_451 ?_
  refine l_swap ?_
  refine l_callI (As := [.int (xs (c3 + 1).toNatClampNeg), .int (xs (c3 + 2).toNatClampNeg), .int (xs (c3 + 3).toNatClampNeg)]) (rest := [.int x]) hX rfl rfl ⟨[0, 1, 2], rfl⟩ (Nat.le_of_ble_eq_true rfl) rfl rfl miX9_lot mvX9_lot lkL_50 (by decide) rfl (Nat.le_of_ble_eq_true rfl) rfl ⟨Nat.le_trans (Nat.le_add_right _ _) hnk.1, Nat.le_trans (Nat.le_add_right _ _) hnk.2⟩ dL_law_452 (kX9_lot _ e2) ?_
  refine l_swap ?_
  refine l_same hX 1153 dL_law_455 (by decide) ?_
  exact l_widen (Nat.le_add_right _ _) (Nat.le_add_right _ _) (kend a σ1 τ1 hI1)
set_option maxHeartbeats 4000000 in
theorem lc_answer (hX : OKL X D [(tI, .int), (tJ, .long), (tB, .byte), (tS, .object "LoafStreet$Stand")] (zJS kK kV) b L xs) (hO : op_answer I) (hI : I σ τ) (hnk : n + 1 ≤ 600000 ∧ k + 4096 ≤ 7302250) (hin : ∀ j : Int32, (1 ≤ j ∧ j ≤ 5) → vp_in (c3 + j) L) (kend : ∀ (a1 : Nat → Nat) (σ1 τ1 : St), I σ1 τ1 → GL X D (vC a1 D tI tJ tB tS kK kV) (vM am D tI tJ tB (zJS kK kV)) σ1 τ1 (n + 1) (k + 4096) 1153 [(3, .int c3), (2, .ref (am 0)), (1, .ref (a1 0)), (0, .ref b)] []) : GL X D (vC a D tI tJ tB tS kK kV) (vM am D tI tJ tB (zJS kK kV)) σ τ n k 460 [(3, .int c3), (2, .ref (am 0)), (1, .ref (a 0)), (0, .ref b)] [] := by
  obtain ⟨σ1, τ1, x, e1, e2, hI1⟩ := hO σ τ (xs (c3 + 1).toNatClampNeg) hI
  refine l_aload_n hX 2 dL_law_460 rfl rfl ?_
  refine l_aload_n hX 3 dL_law_461 rfl rfl ?_
  refine l_iload_n hX 0 dL_law_462 rfl rfl ?_
  refine l_iconst hX (1) dL_law_463 (by decide) ?_
  refine l_iadd hX dL_law_464 ?_
  refine l_sld hX (hin _ (by decide)) dL_law_465 ?_
  refine l_callI (As := [.int (xs (c3 + 1).toNatClampNeg)]) (rest := []) hX rfl rfl ⟨[0, 1, 2, 3], rfl⟩ (Nat.le_of_ble_eq_true rfl) rfl rfl miX8_answer mvX8_answer lkL_51 (by decide) rfl (Nat.le_of_ble_eq_true rfl) rfl ⟨Nat.le_trans (Nat.le_add_right _ _) hnk.1, Nat.le_trans (Nat.le_add_right _ _) hnk.2⟩ dL_law_466 (kX8_answer _ e1) ?_
  refine l_aload_n hX 1 dL_law_469 rfl rfl ?_
  refine l_aload_n hX 3 dL_law_470 rfl rfl ?_
  refine l_iload_n hX 0 dL_law_471 rfl rfl ?_
  refine l_iconst hX (1) dL_law_472 (by decide) ?_
  refine l_iadd hX dL_law_473 ?_
  refine l_sld hX (hin _ (by decide)) dL_law_474 ?_
  refine l_swap ?_
  refine l_callI (As := [.int (xs (c3 + 1).toNatClampNeg)]) (rest := [.int x]) hX rfl rfl ⟨[0, 1, 2], rfl⟩ (Nat.le_of_ble_eq_true rfl) rfl rfl miX9_answer mvX9_answer lkL_55 (by decide) rfl (Nat.le_of_ble_eq_true rfl) rfl ⟨Nat.le_trans (Nat.le_add_right _ _) hnk.1, Nat.le_trans (Nat.le_add_right _ _) hnk.2⟩ dL_law_475 (kX9_answer _ e2) ?_
  refine l_swap ?_
  refine l_same hX 1153 dL_law_478 (by decide) ?_
  exact l_widen (Nat.le_add_right _ _) (Nat.le_add_right _ _) (kend a σ1 τ1 hI1)
set_option maxHeartbeats 4000000 in
theorem lc_ask (hX : OKL X D [(tI, .int), (tJ, .long), (tB, .byte), (tS, .object "LoafStreet$Stand")] (zJS kK kV) b L xs) (hO : op_ask I) (hI : I σ τ) (hnk : n + 1 ≤ 600000 ∧ k + 4096 ≤ 7302250) (hin : ∀ j : Int32, (1 ≤ j ∧ j ≤ 5) → vp_in (c3 + j) L) (kend : ∀ (a1 : Nat → Nat) (σ1 τ1 : St), I σ1 τ1 → GL X D (vC a1 D tI tJ tB tS kK kV) (vM am D tI tJ tB (zJS kK kV)) σ1 τ1 (n + 1) (k + 4096) 1153 [(3, .int c3), (2, .ref (am 0)), (1, .ref (a1 0)), (0, .ref b)] []) : GL X D (vC a D tI tJ tB tS kK kV) (vM am D tI tJ tB (zJS kK kV)) σ τ n k 483 [(3, .int c3), (2, .ref (am 0)), (1, .ref (a 0)), (0, .ref b)] [] := by
  obtain ⟨σ1, τ1, x, e1, e2, hI1⟩ := hO σ τ (xs (c3 + 1).toNatClampNeg) hI
  refine l_aload_n hX 2 dL_law_483 rfl rfl ?_
  refine l_aload_n hX 3 dL_law_484 rfl rfl ?_
  refine l_iload_n hX 0 dL_law_485 rfl rfl ?_
  refine l_iconst hX (1) dL_law_486 (by decide) ?_
  refine l_iadd hX dL_law_487 ?_
  refine l_sld hX (hin _ (by decide)) dL_law_488 ?_
  refine l_callI (As := [.int (xs (c3 + 1).toNatClampNeg)]) (rest := []) hX rfl rfl ⟨[0, 1, 2, 3], rfl⟩ (Nat.le_of_ble_eq_true rfl) rfl rfl miX8_ask mvX8_ask lkL_56 (by decide) rfl (Nat.le_of_ble_eq_true rfl) rfl ⟨Nat.le_trans (Nat.le_add_right _ _) hnk.1, Nat.le_trans (Nat.le_add_right _ _) hnk.2⟩ dL_law_489 (kX8_ask _ e1) ?_
  refine l_aload_n hX 1 dL_law_492 rfl rfl ?_
  refine l_aload_n hX 3 dL_law_493 rfl rfl ?_
  refine l_iload_n hX 0 dL_law_494 rfl rfl ?_
  refine l_iconst hX (1) dL_law_495 (by decide) ?_
  refine l_iadd hX dL_law_496 ?_
  refine l_sld hX (hin _ (by decide)) dL_law_497 ?_
  refine l_swap ?_
  refine l_callI (As := [.int (xs (c3 + 1).toNatClampNeg)]) (rest := [.int x]) hX rfl rfl ⟨[0, 1, 2], rfl⟩ (Nat.le_of_ble_eq_true rfl) rfl rfl miX9_ask mvX9_ask lkL_59 (by decide) rfl (Nat.le_of_ble_eq_true rfl) rfl ⟨Nat.le_trans (Nat.le_add_right _ _) hnk.1, Nat.le_trans (Nat.le_add_right _ _) hnk.2⟩ dL_law_498 (kX9_ask _ e2) ?_
  refine l_swap ?_
  refine l_same hX 1153 dL_law_501 (by decide) ?_
  exact l_widen (Nat.le_add_right _ _) (Nat.le_add_right _ _) (kend a σ1 τ1 hI1)
set_option maxHeartbeats 4000000 in
theorem lc_part (hX : OKL X D [(tI, .int), (tJ, .long), (tB, .byte), (tS, .object "LoafStreet$Stand")] (zJS kK kV) b L xs) (hO : op_part I) (hI : I σ τ) (hnk : n + 1 ≤ 600000 ∧ k + 4096 ≤ 7302250) (hin : ∀ j : Int32, (1 ≤ j ∧ j ≤ 5) → vp_in (c3 + j) L) (kend : ∀ (a1 : Nat → Nat) (σ1 τ1 : St), I σ1 τ1 → GL X D (vC a1 D tI tJ tB tS kK kV) (vM am D tI tJ tB (zJS kK kV)) σ1 τ1 (n + 1) (k + 4096) 1153 [(3, .int c3), (2, .ref (am 0)), (1, .ref (a1 0)), (0, .ref b)] []) : GL X D (vC a D tI tJ tB tS kK kV) (vM am D tI tJ tB (zJS kK kV)) σ τ n k 506 [(3, .int c3), (2, .ref (am 0)), (1, .ref (a 0)), (0, .ref b)] [] := by
  obtain ⟨σ1, τ1, x, e1, e2, hI1⟩ := hO σ τ (xs (c3 + 1).toNatClampNeg) (xs (c3 + 2).toNatClampNeg) hI
  refine l_aload_n hX 2 dL_law_506 rfl rfl ?_
  refine l_aload_n hX 3 dL_law_507 rfl rfl ?_
  refine l_iload_n hX 0 dL_law_508 rfl rfl ?_
  refine l_iconst hX (1) dL_law_509 (by decide) ?_
  refine l_iadd hX dL_law_510 ?_
  refine l_sld hX (hin _ (by decide)) dL_law_511 ?_
  refine l_aload_n hX 3 dL_law_512 rfl rfl ?_
  refine l_iload_n hX 0 dL_law_513 rfl rfl ?_
  refine l_iconst hX (2) dL_law_514 (by decide) ?_
  refine l_iadd hX dL_law_515 ?_
  refine l_sld hX (hin _ (by decide)) dL_law_516 ?_
  refine l_callI (As := [.int (xs (c3 + 1).toNatClampNeg), .int (xs (c3 + 2).toNatClampNeg)]) (rest := []) hX rfl rfl ⟨[0, 1, 2, 3], rfl⟩ (Nat.le_of_ble_eq_true rfl) rfl rfl miX8_part mvX8_part lkL_60 (by decide) rfl (Nat.le_of_ble_eq_true rfl) rfl ⟨Nat.le_trans (Nat.le_add_right _ _) hnk.1, Nat.le_trans (Nat.le_add_right _ _) hnk.2⟩ dL_law_517 (kX8_part _ e1) ?_
  refine l_aload_n hX 1 dL_law_520 rfl rfl ?_
  refine l_aload_n hX 3 dL_law_521 rfl rfl ?_
  refine l_iload_n hX 0 dL_law_522 rfl rfl ?_
  refine l_iconst hX (1) dL_law_523 (by decide) ?_
  refine l_iadd hX dL_law_524 ?_
  refine l_sld hX (hin _ (by decide)) dL_law_525 ?_
  refine l_aload_n hX 3 dL_law_526 rfl rfl ?_
  refine l_iload_n hX 0 dL_law_527 rfl rfl ?_
  refine l_iconst hX (2) dL_law_528 (by decide) ?_
  refine l_iadd hX dL_law_529 ?_
  refine l_sld hX (hin _ (by decide)) dL_law_530 ?_
  refine l_swap ?_
  refine l_callI (As := [.int (xs (c3 + 1).toNatClampNeg), .int (xs (c3 + 2).toNatClampNeg)]) (rest := [.int x]) hX rfl rfl ⟨[0, 1, 2], rfl⟩ (Nat.le_of_ble_eq_true rfl) rfl rfl miX9_part mvX9_part lkL_64 (by decide) rfl (Nat.le_of_ble_eq_true rfl) rfl ⟨Nat.le_trans (Nat.le_add_right _ _) hnk.1, Nat.le_trans (Nat.le_add_right _ _) hnk.2⟩ dL_law_531 (kX9_part _ e2) ?_
  refine l_swap ?_
  refine l_same hX 1153 dL_law_534 (by decide) ?_
  exact l_widen (Nat.le_add_right _ _) (Nat.le_add_right _ _) (kend a σ1 τ1 hI1)
set_option maxHeartbeats 4000000 in
theorem lc_sold (hX : OKL X D [(tI, .int), (tJ, .long), (tB, .byte), (tS, .object "LoafStreet$Stand")] (zJS kK kV) b L xs) (hO : op_sold I) (hI : I σ τ) (hnk : n + 1 ≤ 600000 ∧ k + 4096 ≤ 7302250) (hin : ∀ j : Int32, (1 ≤ j ∧ j ≤ 5) → vp_in (c3 + j) L) (kend : ∀ (a1 : Nat → Nat) (σ1 τ1 : St), I σ1 τ1 → GL X D (vC a1 D tI tJ tB tS kK kV) (vM am D tI tJ tB (zJS kK kV)) σ1 τ1 (n + 1) (k + 4096) 1153 [(3, .int c3), (2, .ref (am 0)), (1, .ref (a1 0)), (0, .ref b)] []) : GL X D (vC a D tI tJ tB tS kK kV) (vM am D tI tJ tB (zJS kK kV)) σ τ n k 539 [(3, .int c3), (2, .ref (am 0)), (1, .ref (a 0)), (0, .ref b)] [] := by
  obtain ⟨σ1, τ1, x, e1, e2, hI1⟩ := hO σ τ (xs (c3 + 1).toNatClampNeg) hI
  refine l_aload_n hX 2 dL_law_539 rfl rfl ?_
  refine l_aload_n hX 3 dL_law_540 rfl rfl ?_
  refine l_iload_n hX 0 dL_law_541 rfl rfl ?_
  refine l_iconst hX (1) dL_law_542 (by decide) ?_
  refine l_iadd hX dL_law_543 ?_
  refine l_sld hX (hin _ (by decide)) dL_law_544 ?_
  refine l_callL (As := [.int (xs (c3 + 1).toNatClampNeg)]) (rest := []) hX rfl rfl ⟨[0, 1, 2, 3], rfl⟩ (Nat.le_of_ble_eq_true rfl) rfl rfl miX8_sold mvX8_sold lkL_65 (by decide) rfl (Nat.le_of_ble_eq_true rfl) rfl ⟨Nat.le_trans (Nat.le_add_right _ _) hnk.1, Nat.le_trans (Nat.le_add_right _ _) hnk.2⟩ dL_law_545 (kX8_sold _ e1) ?_
  refine l_aload_n hX 1 dL_law_548 rfl rfl ?_
  refine l_aload_n hX 3 dL_law_549 rfl rfl ?_
  refine l_iload_n hX 0 dL_law_550 rfl rfl ?_
  refine l_iconst hX (1) dL_law_551 (by decide) ?_
  refine l_iadd hX dL_law_552 ?_
  refine l_sld hX (hin _ (by decide)) dL_law_553 ?_
  refine l_swap ?_
  refine l_callL (As := [.int (xs (c3 + 1).toNatClampNeg)]) (rest := [.long x]) hX rfl rfl ⟨[0, 1, 2], rfl⟩ (Nat.le_of_ble_eq_true rfl) rfl rfl miX9_sold mvX9_sold lkL_69 (by decide) rfl (Nat.le_of_ble_eq_true rfl) rfl ⟨Nat.le_trans (Nat.le_add_right _ _) hnk.1, Nat.le_trans (Nat.le_add_right _ _) hnk.2⟩ dL_law_554 (kX9_sold _ e2) ?_
  refine l_swap ?_
  refine l_lcmp hX dL_law_557 ?_
  refine l_sameL hX 1153 dL_law_558 (by decide) ?_
  exact l_widen (Nat.le_add_right _ _) (Nat.le_add_right _ _) (kend a σ1 τ1 hI1)
set_option maxHeartbeats 4000000 in
theorem lc_earns (hX : OKL X D [(tI, .int), (tJ, .long), (tB, .byte), (tS, .object "LoafStreet$Stand")] (zJS kK kV) b L xs) (hO : op_earns I) (hI : I σ τ) (hnk : n + 1 ≤ 600000 ∧ k + 4096 ≤ 7302250) (hin : ∀ j : Int32, (1 ≤ j ∧ j ≤ 5) → vp_in (c3 + j) L) (kend : ∀ (a1 : Nat → Nat) (σ1 τ1 : St), I σ1 τ1 → GL X D (vC a1 D tI tJ tB tS kK kV) (vM am D tI tJ tB (zJS kK kV)) σ1 τ1 (n + 1) (k + 4096) 1153 [(3, .int c3), (2, .ref (am 0)), (1, .ref (a1 0)), (0, .ref b)] []) : GL X D (vC a D tI tJ tB tS kK kV) (vM am D tI tJ tB (zJS kK kV)) σ τ n k 563 [(3, .int c3), (2, .ref (am 0)), (1, .ref (a 0)), (0, .ref b)] [] := by
  obtain ⟨σ1, τ1, x, e1, e2, hI1⟩ := hO σ τ (xs (c3 + 1).toNatClampNeg) hI
  refine l_aload_n hX 2 dL_law_563 rfl rfl ?_
  refine l_aload_n hX 3 dL_law_564 rfl rfl ?_
  refine l_iload_n hX 0 dL_law_565 rfl rfl ?_
  refine l_iconst hX (1) dL_law_566 (by decide) ?_
  refine l_iadd hX dL_law_567 ?_
  refine l_sld hX (hin _ (by decide)) dL_law_568 ?_
  refine l_callL (As := [.int (xs (c3 + 1).toNatClampNeg)]) (rest := []) hX rfl rfl ⟨[0, 1, 2, 3], rfl⟩ (Nat.le_of_ble_eq_true rfl) rfl rfl miX8_earns mvX8_earns lkL_70 (by decide) rfl (Nat.le_of_ble_eq_true rfl) rfl ⟨Nat.le_trans (Nat.le_add_right _ _) hnk.1, Nat.le_trans (Nat.le_add_right _ _) hnk.2⟩ dL_law_569 (kX8_earns _ e1) ?_
  refine l_aload_n hX 1 dL_law_572 rfl rfl ?_
  refine l_aload_n hX 3 dL_law_573 rfl rfl ?_
  refine l_iload_n hX 0 dL_law_574 rfl rfl ?_
  refine l_iconst hX (1) dL_law_575 (by decide) ?_
  refine l_iadd hX dL_law_576 ?_
  refine l_sld hX (hin _ (by decide)) dL_law_577 ?_
  refine l_swap ?_
  refine l_callL (As := [.int (xs (c3 + 1).toNatClampNeg)]) (rest := [.long x]) hX rfl rfl ⟨[0, 1, 2], rfl⟩ (Nat.le_of_ble_eq_true rfl) rfl rfl miX9_earns mvX9_earns lkL_73 (by decide) rfl (Nat.le_of_ble_eq_true rfl) rfl ⟨Nat.le_trans (Nat.le_add_right _ _) hnk.1, Nat.le_trans (Nat.le_add_right _ _) hnk.2⟩ dL_law_578 (kX9_earns _ e2) ?_
  refine l_swap ?_
  refine l_lcmp hX dL_law_581 ?_
  refine l_sameL hX 1153 dL_law_582 (by decide) ?_
  exact l_widen (Nat.le_add_right _ _) (Nat.le_add_right _ _) (kend a σ1 τ1 hI1)
set_option maxHeartbeats 4000000 in
theorem lc_at (hX : OKL X D [(tI, .int), (tJ, .long), (tB, .byte), (tS, .object "LoafStreet$Stand")] (zJS kK kV) b L xs) (hO : op_at I) (hI : I σ τ) (hnk : n + 1 ≤ 600000 ∧ k + 4096 ≤ 7302250) (hin : ∀ j : Int32, (1 ≤ j ∧ j ≤ 5) → vp_in (c3 + j) L) (kend : ∀ (a1 : Nat → Nat) (σ1 τ1 : St), I σ1 τ1 → GL X D (vC a1 D tI tJ tB tS kK kV) (vM am D tI tJ tB (zJS kK kV)) σ1 τ1 (n + 1) (k + 4096) 1153 [(3, .int c3), (2, .ref (am 0)), (1, .ref (a1 0)), (0, .ref b)] []) : GL X D (vC a D tI tJ tB tS kK kV) (vM am D tI tJ tB (zJS kK kV)) σ τ n k 587 [(3, .int c3), (2, .ref (am 0)), (1, .ref (a 0)), (0, .ref b)] [] := by
  obtain ⟨σ1, τ1, x, e1, e2, hI1⟩ := hO σ τ (xs (c3 + 1).toNatClampNeg) (xs (c3 + 2).toNatClampNeg) hI
  refine l_aload_n hX 2 dL_law_587 rfl rfl ?_
  refine l_aload_n hX 3 dL_law_588 rfl rfl ?_
  refine l_iload_n hX 0 dL_law_589 rfl rfl ?_
  refine l_iconst hX (1) dL_law_590 (by decide) ?_
  refine l_iadd hX dL_law_591 ?_
  refine l_sld hX (hin _ (by decide)) dL_law_592 ?_
  refine l_aload_n hX 3 dL_law_593 rfl rfl ?_
  refine l_iload_n hX 0 dL_law_594 rfl rfl ?_
  refine l_iconst hX (2) dL_law_595 (by decide) ?_
  refine l_iadd hX dL_law_596 ?_
  refine l_sld hX (hin _ (by decide)) dL_law_597 ?_
  refine l_callL (As := [.int (xs (c3 + 1).toNatClampNeg), .int (xs (c3 + 2).toNatClampNeg)]) (rest := []) hX rfl rfl ⟨[0, 1, 2, 3], rfl⟩ (Nat.le_of_ble_eq_true rfl) rfl rfl miX8_at mvX8_at lkL_74 (by decide) rfl (Nat.le_of_ble_eq_true rfl) rfl ⟨Nat.le_trans (Nat.le_add_right _ _) hnk.1, Nat.le_trans (Nat.le_add_right _ _) hnk.2⟩ dL_law_598 (kX8_at _ e1) ?_
  refine l_aload_n hX 1 dL_law_601 rfl rfl ?_
  refine l_aload_n hX 3 dL_law_602 rfl rfl ?_
  refine l_iload_n hX 0 dL_law_603 rfl rfl ?_
  refine l_iconst hX (1) dL_law_604 (by decide) ?_
  refine l_iadd hX dL_law_605 ?_
  refine l_sld hX (hin _ (by decide)) dL_law_606 ?_
  refine l_aload_n hX 3 dL_law_607 rfl rfl ?_
  refine l_iload_n hX 0 dL_law_608 rfl rfl ?_
  refine l_iconst hX (2) dL_law_609 (by decide) ?_
  refine l_iadd hX dL_law_610 ?_
  refine l_sld hX (hin _ (by decide)) dL_law_611 ?_
  refine l_swap ?_
  refine l_callL (As := [.int (xs (c3 + 1).toNatClampNeg), .int (xs (c3 + 2).toNatClampNeg)]) (rest := [.long x]) hX rfl rfl ⟨[0, 1, 2], rfl⟩ (Nat.le_of_ble_eq_true rfl) rfl rfl miX9_at mvX9_at lkL_78 (by decide) rfl (Nat.le_of_ble_eq_true rfl) rfl ⟨Nat.le_trans (Nat.le_add_right _ _) hnk.1, Nat.le_trans (Nat.le_add_right _ _) hnk.2⟩ dL_law_612 (kX9_at _ e2) ?_
  refine l_swap ?_
  refine l_lcmp hX dL_law_615 ?_
  refine l_sameL hX 1153 dL_law_616 (by decide) ?_
  exact l_widen (Nat.le_add_right _ _) (Nat.le_add_right _ _) (kend a σ1 τ1 hI1)
set_option maxHeartbeats 4000000 in
theorem lc_best (hX : OKL X D [(tI, .int), (tJ, .long), (tB, .byte), (tS, .object "LoafStreet$Stand")] (zJS kK kV) b L xs) (hO : op_best I) (hI : I σ τ) (hnk : n + 1 ≤ 600000 ∧ k + 4096 ≤ 7302250) (hin : ∀ j : Int32, (1 ≤ j ∧ j ≤ 5) → vp_in (c3 + j) L) (kend : ∀ (a1 : Nat → Nat) (σ1 τ1 : St), I σ1 τ1 → GL X D (vC a1 D tI tJ tB tS kK kV) (vM am D tI tJ tB (zJS kK kV)) σ1 τ1 (n + 1) (k + 4096) 1153 [(3, .int c3), (2, .ref (am 0)), (1, .ref (a1 0)), (0, .ref b)] []) : GL X D (vC a D tI tJ tB tS kK kV) (vM am D tI tJ tB (zJS kK kV)) σ τ n k 621 [(3, .int c3), (2, .ref (am 0)), (1, .ref (a 0)), (0, .ref b)] [] := by
  obtain ⟨σ1, τ1, x, e1, e2, hI1⟩ := hO σ τ (xs (c3 + 1).toNatClampNeg) hI
  refine l_aload_n hX 2 dL_law_621 rfl rfl ?_
  refine l_aload_n hX 3 dL_law_622 rfl rfl ?_
  refine l_iload_n hX 0 dL_law_623 rfl rfl ?_
  refine l_iconst hX (1) dL_law_624 (by decide) ?_
  refine l_iadd hX dL_law_625 ?_
  refine l_sld hX (hin _ (by decide)) dL_law_626 ?_
  refine l_callI (As := [.int (xs (c3 + 1).toNatClampNeg)]) (rest := []) hX rfl rfl ⟨[0, 1, 2, 3], rfl⟩ (Nat.le_of_ble_eq_true rfl) rfl rfl miX8_best mvX8_best lkL_79 (by decide) rfl (Nat.le_of_ble_eq_true rfl) rfl ⟨Nat.le_trans (Nat.le_add_right _ _) hnk.1, Nat.le_trans (Nat.le_add_right _ _) hnk.2⟩ dL_law_627 (kX8_best _ e1) ?_
  refine l_aload_n hX 1 dL_law_630 rfl rfl ?_
  refine l_aload_n hX 3 dL_law_631 rfl rfl ?_
  refine l_iload_n hX 0 dL_law_632 rfl rfl ?_
  refine l_iconst hX (1) dL_law_633 (by decide) ?_
  refine l_iadd hX dL_law_634 ?_
  refine l_sld hX (hin _ (by decide)) dL_law_635 ?_
  refine l_swap ?_
  refine l_callI (As := [.int (xs (c3 + 1).toNatClampNeg)]) (rest := [.int x]) hX rfl rfl ⟨[0, 1, 2], rfl⟩ (Nat.le_of_ble_eq_true rfl) rfl rfl miX9_best mvX9_best lkL_82 (by decide) rfl (Nat.le_of_ble_eq_true rfl) rfl ⟨Nat.le_trans (Nat.le_add_right _ _) hnk.1, Nat.le_trans (Nat.le_add_right _ _) hnk.2⟩ dL_law_636 (kX9_best _ e2) ?_
  refine l_swap ?_
  refine l_same hX 1153 dL_law_639 (by decide) ?_
  exact l_widen (Nat.le_add_right _ _) (Nat.le_add_right _ _) (kend a σ1 τ1 hI1)
set_option maxHeartbeats 4000000 in
theorem lc_judge (hX : OKL X D [(tI, .int), (tJ, .long), (tB, .byte), (tS, .object "LoafStreet$Stand")] (zJS kK kV) b L xs) (hO : op_judge I) (hI : I σ τ) (hnk : n + 1 ≤ 600000 ∧ k + 4096 ≤ 7302250) (hin : ∀ j : Int32, (1 ≤ j ∧ j ≤ 5) → vp_in (c3 + j) L) (kend : ∀ (a1 : Nat → Nat) (σ1 τ1 : St), I σ1 τ1 → GL X D (vC a1 D tI tJ tB tS kK kV) (vM am D tI tJ tB (zJS kK kV)) σ1 τ1 (n + 1) (k + 4096) 1153 [(3, .int c3), (2, .ref (am 0)), (1, .ref (a1 0)), (0, .ref b)] []) : GL X D (vC a D tI tJ tB tS kK kV) (vM am D tI tJ tB (zJS kK kV)) σ τ n k 644 [(3, .int c3), (2, .ref (am 0)), (1, .ref (a 0)), (0, .ref b)] [] := by
  obtain ⟨σ1, τ1, x, e1, e2, hI1⟩ := hO σ τ  hI
  refine l_aload_n hX 2 dL_law_644 rfl rfl ?_
  refine l_callI (As := []) (rest := []) hX rfl rfl ⟨[0, 1, 2, 3], rfl⟩ (Nat.le_of_ble_eq_true rfl) rfl rfl miX8_judge mvX8_judge lkL_83 (by decide) rfl (Nat.le_of_ble_eq_true rfl) rfl ⟨Nat.le_trans (Nat.le_add_right _ _) hnk.1, Nat.le_trans (Nat.le_add_right _ _) hnk.2⟩ dL_law_645 (kX8_judge _ e1) ?_
  refine l_aload_n hX 1 dL_law_648 rfl rfl ?_
  refine l_swap ?_
  refine l_callI (As := []) (rest := [.int x]) hX rfl rfl ⟨[0, 1, 2], rfl⟩ (Nat.le_of_ble_eq_true rfl) rfl rfl miX9_judge mvX9_judge lkL_86 (by decide) rfl (Nat.le_of_ble_eq_true rfl) rfl ⟨Nat.le_trans (Nat.le_add_right _ _) hnk.1, Nat.le_trans (Nat.le_add_right _ _) hnk.2⟩ dL_law_649 (kX9_judge _ e2) ?_
  refine l_swap ?_
  refine l_same hX 1153 dL_law_652 (by decide) ?_
  exact l_widen (Nat.le_add_right _ _) (Nat.le_add_right _ _) (kend a σ1 τ1 hI1)
set_option maxHeartbeats 4000000 in
theorem lc_rests (hX : OKL X D [(tI, .int), (tJ, .long), (tB, .byte), (tS, .object "LoafStreet$Stand")] (zJS kK kV) b L xs) (hO : op_rests I) (hI : I σ τ) (hnk : n + 1 ≤ 600000 ∧ k + 4096 ≤ 7302250) (hin : ∀ j : Int32, (1 ≤ j ∧ j ≤ 5) → vp_in (c3 + j) L) (kend : ∀ (a1 : Nat → Nat) (σ1 τ1 : St), I σ1 τ1 → GL X D (vC a1 D tI tJ tB tS kK kV) (vM am D tI tJ tB (zJS kK kV)) σ1 τ1 (n + 1) (k + 4096) 1153 [(3, .int c3), (2, .ref (am 0)), (1, .ref (a1 0)), (0, .ref b)] []) : GL X D (vC a D tI tJ tB tS kK kV) (vM am D tI tJ tB (zJS kK kV)) σ τ n k 657 [(3, .int c3), (2, .ref (am 0)), (1, .ref (a 0)), (0, .ref b)] [] := by
  obtain ⟨σ1, τ1, x, e1, e2, hI1⟩ := hO σ τ (xs (c3 + 1).toNatClampNeg) hI
  refine l_aload_n hX 2 dL_law_657 rfl rfl ?_
  refine l_aload_n hX 3 dL_law_658 rfl rfl ?_
  refine l_iload_n hX 0 dL_law_659 rfl rfl ?_
  refine l_iconst hX (1) dL_law_660 (by decide) ?_
  refine l_iadd hX dL_law_661 ?_
  refine l_sld hX (hin _ (by decide)) dL_law_662 ?_
  refine l_callA (As := [.int (xs (c3 + 1).toNatClampNeg)]) (rest := []) hX ⟨[0, 1, 2, 3], rfl⟩ miX8_rests mvX8_rests lkL_87 (by decide) rfl (Nat.le_of_ble_eq_true rfl) rfl hnk dL_law_663 (kX8_restsA _ e1) (fun M => ?_)
  show GL X D (vC (upA a M) D tI tJ tB tS kK kV) (vM am D tI tJ tB (zJS kK kV)) σ1 τ (n + 1) (k + 4096) 666 [(3, .int c3), (2, .ref (am 0)), (1, .ref (upA a M 0)), (0, .ref b)] [.int x]
  generalize upA a M = a1
  refine l_aload_n hX 1 dL_law_666 rfl rfl ?_
  refine l_aload_n hX 3 dL_law_667 rfl rfl ?_
  refine l_iload_n hX 0 dL_law_668 rfl rfl ?_
  refine l_iconst hX (1) dL_law_669 (by decide) ?_
  refine l_iadd hX dL_law_670 ?_
  refine l_sld hX (hin _ (by decide)) dL_law_671 ?_
  refine l_swap ?_
  refine l_callI (As := [.int (xs (c3 + 1).toNatClampNeg)]) (rest := [.int x]) hX rfl rfl ⟨[0, 1, 2], rfl⟩ (Nat.le_of_ble_eq_true rfl) rfl rfl miX9_rests mvX9_rests lkL_90 (by decide) rfl (Nat.le_of_ble_eq_true rfl) rfl hnk dL_law_672 (kX9_rests _ e2) ?_
  refine l_swap ?_
  refine l_same hX 1153 dL_law_675 (by decide) ?_
  exact kend a1 σ1 τ1 hI1
set_option maxHeartbeats 4000000 in
theorem lc_pays (hX : OKL X D [(tI, .int), (tJ, .long), (tB, .byte), (tS, .object "LoafStreet$Stand")] (zJS kK kV) b L xs) (hO : op_pays I) (hI : I σ τ) (hnk : n + 1 ≤ 600000 ∧ k + 4096 ≤ 7302250) (hin : ∀ j : Int32, (1 ≤ j ∧ j ≤ 5) → vp_in (c3 + j) L) (kend : ∀ (a1 : Nat → Nat) (σ1 τ1 : St), I σ1 τ1 → GL X D (vC a1 D tI tJ tB tS kK kV) (vM am D tI tJ tB (zJS kK kV)) σ1 τ1 (n + 1) (k + 4096) 1153 [(3, .int c3), (2, .ref (am 0)), (1, .ref (a1 0)), (0, .ref b)] []) : GL X D (vC a D tI tJ tB tS kK kV) (vM am D tI tJ tB (zJS kK kV)) σ τ n k 680 [(3, .int c3), (2, .ref (am 0)), (1, .ref (a 0)), (0, .ref b)] [] := by
  obtain ⟨σ1, τ1, x, e1, e2, hI1⟩ := hO σ τ (xs (c3 + 1).toNatClampNeg) (xs (c3 + 2).toNatClampNeg) hI
  refine l_aload_n hX 2 dL_law_680 rfl rfl ?_
  refine l_aload_n hX 3 dL_law_681 rfl rfl ?_
  refine l_iload_n hX 0 dL_law_682 rfl rfl ?_
  refine l_iconst hX (1) dL_law_683 (by decide) ?_
  refine l_iadd hX dL_law_684 ?_
  refine l_sld hX (hin _ (by decide)) dL_law_685 ?_
  refine l_aload_n hX 3 dL_law_686 rfl rfl ?_
  refine l_iload_n hX 0 dL_law_687 rfl rfl ?_
  refine l_iconst hX (2) dL_law_688 (by decide) ?_
  refine l_iadd hX dL_law_689 ?_
  refine l_sld hX (hin _ (by decide)) dL_law_690 ?_
  refine l_callL (As := [.int (xs (c3 + 1).toNatClampNeg), .int (xs (c3 + 2).toNatClampNeg)]) (rest := []) hX rfl rfl ⟨[0, 1, 2, 3], rfl⟩ (Nat.le_of_ble_eq_true rfl) rfl rfl miX8_pays mvX8_pays lkL_91 (by decide) rfl (Nat.le_of_ble_eq_true rfl) rfl ⟨Nat.le_trans (Nat.le_add_right _ _) hnk.1, Nat.le_trans (Nat.le_add_right _ _) hnk.2⟩ dL_law_691 (kX8_pays _ e1) ?_
  refine l_aload_n hX 1 dL_law_694 rfl rfl ?_
  refine l_aload_n hX 3 dL_law_695 rfl rfl ?_
  refine l_iload_n hX 0 dL_law_696 rfl rfl ?_
  refine l_iconst hX (1) dL_law_697 (by decide) ?_
  refine l_iadd hX dL_law_698 ?_
  refine l_sld hX (hin _ (by decide)) dL_law_699 ?_
  refine l_aload_n hX 3 dL_law_700 rfl rfl ?_
  refine l_iload_n hX 0 dL_law_701 rfl rfl ?_
  refine l_iconst hX (2) dL_law_702 (by decide) ?_
  refine l_iadd hX dL_law_703 ?_
  refine l_sld hX (hin _ (by decide)) dL_law_704 ?_
  refine l_swap ?_
  refine l_callL (As := [.int (xs (c3 + 1).toNatClampNeg), .int (xs (c3 + 2).toNatClampNeg)]) (rest := [.long x]) hX rfl rfl ⟨[0, 1, 2], rfl⟩ (Nat.le_of_ble_eq_true rfl) rfl rfl miX9_pays mvX9_pays lkL_94 (by decide) rfl (Nat.le_of_ble_eq_true rfl) rfl ⟨Nat.le_trans (Nat.le_add_right _ _) hnk.1, Nat.le_trans (Nat.le_add_right _ _) hnk.2⟩ dL_law_705 (kX9_pays _ e2) ?_
  refine l_swap ?_
  refine l_lcmp hX dL_law_708 ?_
  refine l_sameL hX 1153 dL_law_709 (by decide) ?_
  exact l_widen (Nat.le_add_right _ _) (Nat.le_add_right _ _) (kend a σ1 τ1 hI1)
set_option maxHeartbeats 4000000 in
theorem lc_mean (hX : OKL X D [(tI, .int), (tJ, .long), (tB, .byte), (tS, .object "LoafStreet$Stand")] (zJS kK kV) b L xs) (hO : op_mean I) (hI : I σ τ) (hnk : n + 1 ≤ 600000 ∧ k + 4096 ≤ 7302250) (hin : ∀ j : Int32, (1 ≤ j ∧ j ≤ 5) → vp_in (c3 + j) L) (kend : ∀ (a1 : Nat → Nat) (σ1 τ1 : St), I σ1 τ1 → GL X D (vC a1 D tI tJ tB tS kK kV) (vM am D tI tJ tB (zJS kK kV)) σ1 τ1 (n + 1) (k + 4096) 1153 [(3, .int c3), (2, .ref (am 0)), (1, .ref (a1 0)), (0, .ref b)] []) : GL X D (vC a D tI tJ tB tS kK kV) (vM am D tI tJ tB (zJS kK kV)) σ τ n k 714 [(3, .int c3), (2, .ref (am 0)), (1, .ref (a 0)), (0, .ref b)] [] := by
  obtain ⟨σ1, τ1, x, e1, e2, hI1⟩ := hO σ τ (xs (c3 + 1).toNatClampNeg) hI
  refine l_aload_n hX 2 dL_law_714 rfl rfl ?_
  refine l_aload_n hX 3 dL_law_715 rfl rfl ?_
  refine l_iload_n hX 0 dL_law_716 rfl rfl ?_
  refine l_iconst hX (1) dL_law_717 (by decide) ?_
  refine l_iadd hX dL_law_718 ?_
  refine l_sld hX (hin _ (by decide)) dL_law_719 ?_
  refine l_callI (As := [.int (xs (c3 + 1).toNatClampNeg)]) (rest := []) hX rfl rfl ⟨[0, 1, 2, 3], rfl⟩ (Nat.le_of_ble_eq_true rfl) rfl rfl miX8_mean mvX8_mean lkL_95 (by decide) rfl (Nat.le_of_ble_eq_true rfl) rfl ⟨Nat.le_trans (Nat.le_add_right _ _) hnk.1, Nat.le_trans (Nat.le_add_right _ _) hnk.2⟩ dL_law_720 (kX8_mean _ e1) ?_
  refine l_aload_n hX 1 dL_law_723 rfl rfl ?_
  refine l_aload_n hX 3 dL_law_724 rfl rfl ?_
  refine l_iload_n hX 0 dL_law_725 rfl rfl ?_
  refine l_iconst hX (1) dL_law_726 (by decide) ?_
  refine l_iadd hX dL_law_727 ?_
  refine l_sld hX (hin _ (by decide)) dL_law_728 ?_
  refine l_swap ?_
  refine l_callI (As := [.int (xs (c3 + 1).toNatClampNeg)]) (rest := [.int x]) hX rfl rfl ⟨[0, 1, 2], rfl⟩ (Nat.le_of_ble_eq_true rfl) rfl rfl miX9_mean mvX9_mean lkL_98 (by decide) rfl (Nat.le_of_ble_eq_true rfl) rfl ⟨Nat.le_trans (Nat.le_add_right _ _) hnk.1, Nat.le_trans (Nat.le_add_right _ _) hnk.2⟩ dL_law_729 (kX9_mean _ e2) ?_
  refine l_swap ?_
  refine l_same hX 1153 dL_law_732 (by decide) ?_
  exact l_widen (Nat.le_add_right _ _) (Nat.le_add_right _ _) (kend a σ1 τ1 hI1)
set_option maxHeartbeats 4000000 in
theorem lc_gap (hX : OKL X D [(tI, .int), (tJ, .long), (tB, .byte), (tS, .object "LoafStreet$Stand")] (zJS kK kV) b L xs) (hO : op_gap I) (hI : I σ τ) (hnk : n + 1 ≤ 600000 ∧ k + 4096 ≤ 7302250) (hin : ∀ j : Int32, (1 ≤ j ∧ j ≤ 5) → vp_in (c3 + j) L) (kend : ∀ (a1 : Nat → Nat) (σ1 τ1 : St), I σ1 τ1 → GL X D (vC a1 D tI tJ tB tS kK kV) (vM am D tI tJ tB (zJS kK kV)) σ1 τ1 (n + 1) (k + 4096) 1153 [(3, .int c3), (2, .ref (am 0)), (1, .ref (a1 0)), (0, .ref b)] []) : GL X D (vC a D tI tJ tB tS kK kV) (vM am D tI tJ tB (zJS kK kV)) σ τ n k 737 [(3, .int c3), (2, .ref (am 0)), (1, .ref (a 0)), (0, .ref b)] [] := by
  obtain ⟨σ1, τ1, x, e1, e2, hI1⟩ := hO σ τ  hI
  refine l_aload_n hX 2 dL_law_737 rfl rfl ?_
  refine l_callL (As := []) (rest := []) hX rfl rfl ⟨[0, 1, 2, 3], rfl⟩ (Nat.le_of_ble_eq_true rfl) rfl rfl miX8_gap mvX8_gap lkL_99 (by decide) rfl (Nat.le_of_ble_eq_true rfl) rfl ⟨Nat.le_trans (Nat.le_add_right _ _) hnk.1, Nat.le_trans (Nat.le_add_right _ _) hnk.2⟩ dL_law_738 (kX8_gap _ e1) ?_
  refine l_aload_n hX 1 dL_law_741 rfl rfl ?_
  refine l_swap ?_
  refine l_callL (As := []) (rest := [.long x]) hX rfl rfl ⟨[0, 1, 2], rfl⟩ (Nat.le_of_ble_eq_true rfl) rfl rfl miX9_gap mvX9_gap lkL_103 (by decide) rfl (Nat.le_of_ble_eq_true rfl) rfl ⟨Nat.le_trans (Nat.le_add_right _ _) hnk.1, Nat.le_trans (Nat.le_add_right _ _) hnk.2⟩ dL_law_742 (kX9_gap _ e2) ?_
  refine l_swap ?_
  refine l_lcmp hX dL_law_745 ?_
  refine l_sameL hX 1153 dL_law_746 (by decide) ?_
  exact l_widen (Nat.le_add_right _ _) (Nat.le_add_right _ _) (kend a σ1 τ1 hI1)
set_option maxHeartbeats 4000000 in
theorem lc_saves (hX : OKL X D [(tI, .int), (tJ, .long), (tB, .byte), (tS, .object "LoafStreet$Stand")] (zJS kK kV) b L xs) (hO : op_saves I) (hI : I σ τ) (hnk : n + 1 ≤ 600000 ∧ k + 4096 ≤ 7302250) (hin : ∀ j : Int32, (1 ≤ j ∧ j ≤ 5) → vp_in (c3 + j) L) (kend : ∀ (a1 : Nat → Nat) (σ1 τ1 : St), I σ1 τ1 → GL X D (vC a1 D tI tJ tB tS kK kV) (vM am D tI tJ tB (zJS kK kV)) σ1 τ1 (n + 1) (k + 4096) 1153 [(3, .int c3), (2, .ref (am 0)), (1, .ref (a1 0)), (0, .ref b)] []) : GL X D (vC a D tI tJ tB tS kK kV) (vM am D tI tJ tB (zJS kK kV)) σ τ n k 751 [(3, .int c3), (2, .ref (am 0)), (1, .ref (a 0)), (0, .ref b)] [] := by
  obtain ⟨σ1, τ1, x, e1, e2, hI1⟩ := hO σ τ (xs (c3 + 1).toNatClampNeg) (xs (c3 + 2).toNatClampNeg) hI
  refine l_aload_n hX 2 dL_law_751 rfl rfl ?_
  refine l_aload_n hX 3 dL_law_752 rfl rfl ?_
  refine l_iload_n hX 0 dL_law_753 rfl rfl ?_
  refine l_iconst hX (1) dL_law_754 (by decide) ?_
  refine l_iadd hX dL_law_755 ?_
  refine l_sld hX (hin _ (by decide)) dL_law_756 ?_
  refine l_aload_n hX 3 dL_law_757 rfl rfl ?_
  refine l_iload_n hX 0 dL_law_758 rfl rfl ?_
  refine l_iconst hX (2) dL_law_759 (by decide) ?_
  refine l_iadd hX dL_law_760 ?_
  refine l_sld hX (hin _ (by decide)) dL_law_761 ?_
  refine l_callL (As := [.int (xs (c3 + 1).toNatClampNeg), .int (xs (c3 + 2).toNatClampNeg)]) (rest := []) hX rfl rfl ⟨[0, 1, 2, 3], rfl⟩ (Nat.le_of_ble_eq_true rfl) rfl rfl miX8_saves mvX8_saves lkL_104 (by decide) rfl (Nat.le_of_ble_eq_true rfl) rfl ⟨Nat.le_trans (Nat.le_add_right _ _) hnk.1, Nat.le_trans (Nat.le_add_right _ _) hnk.2⟩ dL_law_762 (kX8_saves _ e1) ?_
  refine l_aload_n hX 1 dL_law_765 rfl rfl ?_
  refine l_aload_n hX 3 dL_law_766 rfl rfl ?_
  refine l_iload_n hX 0 dL_law_767 rfl rfl ?_
  refine l_iconst hX (1) dL_law_768 (by decide) ?_
  refine l_iadd hX dL_law_769 ?_
  refine l_sld hX (hin _ (by decide)) dL_law_770 ?_
  refine l_aload_n hX 3 dL_law_771 rfl rfl ?_
  refine l_iload_n hX 0 dL_law_772 rfl rfl ?_
  refine l_iconst hX (2) dL_law_773 (by decide) ?_
  refine l_iadd hX dL_law_774 ?_
  refine l_sld hX (hin _ (by decide)) dL_law_775 ?_
  refine l_swap ?_
  refine l_callL (As := [.int (xs (c3 + 1).toNatClampNeg), .int (xs (c3 + 2).toNatClampNeg)]) (rest := [.long x]) hX rfl rfl ⟨[0, 1, 2], rfl⟩ (Nat.le_of_ble_eq_true rfl) rfl rfl miX9_saves mvX9_saves lkL_107 (by decide) rfl (Nat.le_of_ble_eq_true rfl) rfl ⟨Nat.le_trans (Nat.le_add_right _ _) hnk.1, Nat.le_trans (Nat.le_add_right _ _) hnk.2⟩ dL_law_776 (kX9_saves _ e2) ?_
  refine l_swap ?_
  refine l_lcmp hX dL_law_779 ?_
  refine l_sameL hX 1153 dL_law_780 (by decide) ?_
  exact l_widen (Nat.le_add_right _ _) (Nat.le_add_right _ _) (kend a σ1 τ1 hI1)
set_option maxHeartbeats 4000000 in
theorem lc_would (hX : OKL X D [(tI, .int), (tJ, .long), (tB, .byte), (tS, .object "LoafStreet$Stand")] (zJS kK kV) b L xs) (hO : op_would I) (hI : I σ τ) (hnk : n + 1 ≤ 600000 ∧ k + 4096 ≤ 7302250) (hin : ∀ j : Int32, (1 ≤ j ∧ j ≤ 5) → vp_in (c3 + j) L) (kend : ∀ (a1 : Nat → Nat) (σ1 τ1 : St), I σ1 τ1 → GL X D (vC a1 D tI tJ tB tS kK kV) (vM am D tI tJ tB (zJS kK kV)) σ1 τ1 (n + 1) (k + 4096) 1153 [(3, .int c3), (2, .ref (am 0)), (1, .ref (a1 0)), (0, .ref b)] []) : GL X D (vC a D tI tJ tB tS kK kV) (vM am D tI tJ tB (zJS kK kV)) σ τ n k 785 [(3, .int c3), (2, .ref (am 0)), (1, .ref (a 0)), (0, .ref b)] [] := by
  obtain ⟨σ1, τ1, x, e1, e2, hI1⟩ := hO σ τ (xs (c3 + 1).toNatClampNeg) hI
  refine l_aload_n hX 2 dL_law_785 rfl rfl ?_
  refine l_aload_n hX 3 dL_law_786 rfl rfl ?_
  refine l_iload_n hX 0 dL_law_787 rfl rfl ?_
  refine l_iconst hX (1) dL_law_788 (by decide) ?_
  refine l_iadd hX dL_law_789 ?_
  refine l_sld hX (hin _ (by decide)) dL_law_790 ?_
  refine l_callI (As := [.int (xs (c3 + 1).toNatClampNeg)]) (rest := []) hX rfl rfl ⟨[0, 1, 2, 3], rfl⟩ (Nat.le_of_ble_eq_true rfl) rfl rfl miX8_would mvX8_would lkL_108 (by decide) rfl (Nat.le_of_ble_eq_true rfl) rfl ⟨Nat.le_trans (Nat.le_add_right _ _) hnk.1, Nat.le_trans (Nat.le_add_right _ _) hnk.2⟩ dL_law_791 (kX8_would _ e1) ?_
  refine l_aload_n hX 1 dL_law_794 rfl rfl ?_
  refine l_aload_n hX 3 dL_law_795 rfl rfl ?_
  refine l_iload_n hX 0 dL_law_796 rfl rfl ?_
  refine l_iconst hX (1) dL_law_797 (by decide) ?_
  refine l_iadd hX dL_law_798 ?_
  refine l_sld hX (hin _ (by decide)) dL_law_799 ?_
  refine l_swap ?_
  refine l_callI (As := [.int (xs (c3 + 1).toNatClampNeg)]) (rest := [.int x]) hX rfl rfl ⟨[0, 1, 2], rfl⟩ (Nat.le_of_ble_eq_true rfl) rfl rfl miX9_would mvX9_would lkL_111 (by decide) rfl (Nat.le_of_ble_eq_true rfl) rfl ⟨Nat.le_trans (Nat.le_add_right _ _) hnk.1, Nat.le_trans (Nat.le_add_right _ _) hnk.2⟩ dL_law_800 (kX9_would _ e2) ?_
  refine l_swap ?_
  refine l_same hX 1153 dL_law_803 (by decide) ?_
  exact l_widen (Nat.le_add_right _ _) (Nat.le_add_right _ _) (kend a σ1 τ1 hI1)
set_option maxHeartbeats 4000000 in
theorem lc_look (hX : OKL X D [(tI, .int), (tJ, .long), (tB, .byte), (tS, .object "LoafStreet$Stand")] (zJS kK kV) b L xs) (hO : op_look I) (hI : I σ τ) (hnk : n + 1 ≤ 600000 ∧ k + 4096 ≤ 7302250) (hin : ∀ j : Int32, (1 ≤ j ∧ j ≤ 5) → vp_in (c3 + j) L) (kend : ∀ (a1 : Nat → Nat) (σ1 τ1 : St), I σ1 τ1 → GL X D (vC a1 D tI tJ tB tS kK kV) (vM am D tI tJ tB (zJS kK kV)) σ1 τ1 (n + 1) (k + 4096) 1153 [(3, .int c3), (2, .ref (am 0)), (1, .ref (a1 0)), (0, .ref b)] []) : GL X D (vC a D tI tJ tB tS kK kV) (vM am D tI tJ tB (zJS kK kV)) σ τ n k 808 [(3, .int c3), (2, .ref (am 0)), (1, .ref (a 0)), (0, .ref b)] [] := by
  obtain ⟨σ1, τ1, x, e1, e2, hI1⟩ := hO σ τ (xs (c3 + 1).toNatClampNeg) (xs (c3 + 2).toNatClampNeg) hI
  refine l_aload_n hX 2 dL_law_808 rfl rfl ?_
  refine l_aload_n hX 3 dL_law_809 rfl rfl ?_
  refine l_iload_n hX 0 dL_law_810 rfl rfl ?_
  refine l_iconst hX (1) dL_law_811 (by decide) ?_
  refine l_iadd hX dL_law_812 ?_
  refine l_sld hX (hin _ (by decide)) dL_law_813 ?_
  refine l_aload_n hX 3 dL_law_814 rfl rfl ?_
  refine l_iload_n hX 0 dL_law_815 rfl rfl ?_
  refine l_iconst hX (2) dL_law_816 (by decide) ?_
  refine l_iadd hX dL_law_817 ?_
  refine l_sld hX (hin _ (by decide)) dL_law_818 ?_
  refine l_callI (As := [.int (xs (c3 + 1).toNatClampNeg), .int (xs (c3 + 2).toNatClampNeg)]) (rest := []) hX rfl rfl ⟨[0, 1, 2, 3], rfl⟩ (Nat.le_of_ble_eq_true rfl) rfl rfl miX8_look mvX8_look lkL_112 (by decide) rfl (Nat.le_of_ble_eq_true rfl) rfl ⟨Nat.le_trans (Nat.le_add_right _ _) hnk.1, Nat.le_trans (Nat.le_add_right _ _) hnk.2⟩ dL_law_819 (kX8_look _ e1) ?_
  refine l_aload_n hX 1 dL_law_822 rfl rfl ?_
  refine l_aload_n hX 3 dL_law_823 rfl rfl ?_
  refine l_iload_n hX 0 dL_law_824 rfl rfl ?_
  refine l_iconst hX (1) dL_law_825 (by decide) ?_
  refine l_iadd hX dL_law_826 ?_
  refine l_sld hX (hin _ (by decide)) dL_law_827 ?_
  refine l_aload_n hX 3 dL_law_828 rfl rfl ?_
  refine l_iload_n hX 0 dL_law_829 rfl rfl ?_
  refine l_iconst hX (2) dL_law_830 (by decide) ?_
  refine l_iadd hX dL_law_831 ?_
  refine l_sld hX (hin _ (by decide)) dL_law_832 ?_
  refine l_swap ?_
  refine l_callI (As := [.int (xs (c3 + 1).toNatClampNeg), .int (xs (c3 + 2).toNatClampNeg)]) (rest := [.int x]) hX rfl rfl ⟨[0, 1, 2], rfl⟩ (Nat.le_of_ble_eq_true rfl) rfl rfl miX9_look mvX9_look lkL_115 (by decide) rfl (Nat.le_of_ble_eq_true rfl) rfl ⟨Nat.le_trans (Nat.le_add_right _ _) hnk.1, Nat.le_trans (Nat.le_add_right _ _) hnk.2⟩ dL_law_833 (kX9_look _ e2) ?_
  refine l_swap ?_
  refine l_same hX 1153 dL_law_836 (by decide) ?_
  exact l_widen (Nat.le_add_right _ _) (Nat.le_add_right _ _) (kend a σ1 τ1 hI1)
set_option maxHeartbeats 4000000 in
theorem lc_lots (hX : OKL X D [(tI, .int), (tJ, .long), (tB, .byte), (tS, .object "LoafStreet$Stand")] (zJS kK kV) b L xs) (hO : op_lots I) (hI : I σ τ) (hnk : n + 1 ≤ 600000 ∧ k + 4096 ≤ 7302250) (hin : ∀ j : Int32, (1 ≤ j ∧ j ≤ 5) → vp_in (c3 + j) L) (kend : ∀ (a1 : Nat → Nat) (σ1 τ1 : St), I σ1 τ1 → GL X D (vC a1 D tI tJ tB tS kK kV) (vM am D tI tJ tB (zJS kK kV)) σ1 τ1 (n + 1) (k + 4096) 1153 [(3, .int c3), (2, .ref (am 0)), (1, .ref (a1 0)), (0, .ref b)] []) : GL X D (vC a D tI tJ tB tS kK kV) (vM am D tI tJ tB (zJS kK kV)) σ τ n k 841 [(3, .int c3), (2, .ref (am 0)), (1, .ref (a 0)), (0, .ref b)] [] := by
  obtain ⟨σ1, τ1, x, e1, e2, hI1⟩ := hO σ τ (xs (c3 + 1).toNatClampNeg) (xs (c3 + 2).toNatClampNeg) (xs (c3 + 3).toNatClampNeg) (xs (c3 + 4).toNatClampNeg) (xs (c3 + 5).toNatClampNeg) hI
  refine l_aload_n hX 2 dL_law_841 rfl rfl ?_
  refine l_aload_n hX 3 dL_law_842 rfl rfl ?_
  refine l_iload_n hX 0 dL_law_843 rfl rfl ?_
  refine l_iconst hX (1) dL_law_844 (by decide) ?_
  refine l_iadd hX dL_law_845 ?_
  refine l_sld hX (hin _ (by decide)) dL_law_846 ?_
  refine l_aload_n hX 3 dL_law_847 rfl rfl ?_
  refine l_iload_n hX 0 dL_law_848 rfl rfl ?_
  refine l_iconst hX (2) dL_law_849 (by decide) ?_
  refine l_iadd hX dL_law_850 ?_
  refine l_sld hX (hin _ (by decide)) dL_law_851 ?_
  refine l_aload_n hX 3 dL_law_852 rfl rfl ?_
  refine l_iload_n hX 0 dL_law_853 rfl rfl ?_
  refine l_iconst hX (3) dL_law_854 (by decide) ?_
  refine l_iadd hX dL_law_855 ?_
  refine l_sld hX (hin _ (by decide)) dL_law_856 ?_
  refine l_aload_n hX 3 dL_law_857 rfl rfl ?_
  refine l_iload_n hX 0 dL_law_858 rfl rfl ?_
  refine l_iconst hX (4) dL_law_859 (by decide) ?_
  refine l_iadd hX dL_law_860 ?_
  refine l_sld hX (hin _ (by decide)) dL_law_861 ?_
  refine l_aload_n hX 3 dL_law_862 rfl rfl ?_
  refine l_iload_n hX 0 dL_law_863 rfl rfl ?_
  refine l_iconst hX (5) dL_law_864 (by decide) ?_
  refine l_iadd hX dL_law_865 ?_
  refine l_sld hX (hin _ (by decide)) dL_law_866 ?_
  refine l_callL (As := [.int (xs (c3 + 1).toNatClampNeg), .int (xs (c3 + 2).toNatClampNeg), .int (xs (c3 + 3).toNatClampNeg), .int (xs (c3 + 4).toNatClampNeg), .int (xs (c3 + 5).toNatClampNeg)]) (rest := []) hX rfl rfl ⟨[0, 1, 2, 3], rfl⟩ (Nat.le_of_ble_eq_true rfl) rfl rfl miX8_lots mvX8_lots lkL_116 (by decide) rfl (Nat.le_of_ble_eq_true rfl) rfl ⟨Nat.le_trans (Nat.le_add_right _ _) hnk.1, Nat.le_trans (Nat.le_add_right _ _) hnk.2⟩ dL_law_867 (kX8_lots _ e1) ?_
  refine l_aload_n hX 1 dL_law_870 rfl rfl ?_
  refine l_aload_n hX 3 dL_law_871 rfl rfl ?_
  refine l_iload_n hX 0 dL_law_872 rfl rfl ?_
  refine l_iconst hX (1) dL_law_873 (by decide) ?_
  refine l_iadd hX dL_law_874 ?_
  refine l_sld hX (hin _ (by decide)) dL_law_875 ?_
  refine l_aload_n hX 3 dL_law_876 rfl rfl ?_
  refine l_iload_n hX 0 dL_law_877 rfl rfl ?_
  refine l_iconst hX (2) dL_law_878 (by decide) ?_
  refine l_iadd hX dL_law_879 ?_
  refine l_sld hX (hin _ (by decide)) dL_law_880 ?_
  refine l_aload_n hX 3 dL_law_881 rfl rfl ?_
  refine l_iload_n hX 0 dL_law_882 rfl rfl ?_
  refine l_iconst hX (3) dL_law_883 (by decide) ?_
  refine l_iadd hX dL_law_884 ?_
  refine l_sld hX (hin _ (by decide)) dL_law_885 ?_
  refine l_aload_n hX 3 dL_law_886 rfl rfl ?_
  refine l_iload_n hX 0 dL_law_887 rfl rfl ?_
  refine l_iconst hX (4) dL_law_888 (by decide) ?_
  refine l_iadd hX dL_law_889 ?_
  refine l_sld hX (hin _ (by decide)) dL_law_890 ?_
  refine l_aload_n hX 3 dL_law_891 rfl rfl ?_
  refine l_iload_n hX 0 dL_law_892 rfl rfl ?_
  refine l_iconst hX (5) dL_law_893 (by decide) ?_
  refine l_iadd hX dL_law_894 ?_
  refine l_sld hX (hin _ (by decide)) dL_law_895 ?_
  refine l_swap ?_
  refine l_callL (As := [.int (xs (c3 + 1).toNatClampNeg), .int (xs (c3 + 2).toNatClampNeg), .int (xs (c3 + 3).toNatClampNeg), .int (xs (c3 + 4).toNatClampNeg), .int (xs (c3 + 5).toNatClampNeg)]) (rest := [.long x]) hX rfl rfl ⟨[0, 1, 2], rfl⟩ (Nat.le_of_ble_eq_true rfl) rfl rfl miX9_lots mvX9_lots lkL_120 (by decide) rfl (Nat.le_of_ble_eq_true rfl) rfl ⟨Nat.le_trans (Nat.le_add_right _ _) hnk.1, Nat.le_trans (Nat.le_add_right _ _) hnk.2⟩ dL_law_896 (kX9_lots _ e2) ?_
  refine l_swap ?_
  refine l_lcmp hX dL_law_899 ?_
  refine l_sameL hX 1153 dL_law_900 (by decide) ?_
  exact l_widen (Nat.le_add_right _ _) (Nat.le_add_right _ _) (kend a σ1 τ1 hI1)
set_option maxHeartbeats 4000000 in
theorem lc_chase (hX : OKL X D [(tI, .int), (tJ, .long), (tB, .byte), (tS, .object "LoafStreet$Stand")] (zJS kK kV) b L xs) (hO : op_chase I) (hI : I σ τ) (hnk : n + 1 ≤ 600000 ∧ k + 4096 ≤ 7302250) (hin : ∀ j : Int32, (1 ≤ j ∧ j ≤ 5) → vp_in (c3 + j) L) (kend : ∀ (a1 : Nat → Nat) (σ1 τ1 : St), I σ1 τ1 → GL X D (vC a1 D tI tJ tB tS kK kV) (vM am D tI tJ tB (zJS kK kV)) σ1 τ1 (n + 1) (k + 4096) 1153 [(3, .int c3), (2, .ref (am 0)), (1, .ref (a1 0)), (0, .ref b)] []) : GL X D (vC a D tI tJ tB tS kK kV) (vM am D tI tJ tB (zJS kK kV)) σ τ n k 905 [(3, .int c3), (2, .ref (am 0)), (1, .ref (a 0)), (0, .ref b)] [] := by
  obtain ⟨σ1, τ1, x, e1, e2, hI1⟩ := hO σ τ (xs (c3 + 1).toNatClampNeg) (xs (c3 + 2).toNatClampNeg) hI
  refine l_aload_n hX 2 dL_law_905 rfl rfl ?_
  refine l_aload_n hX 3 dL_law_906 rfl rfl ?_
  refine l_iload_n hX 0 dL_law_907 rfl rfl ?_
  refine l_iconst hX (1) dL_law_908 (by decide) ?_
  refine l_iadd hX dL_law_909 ?_
  refine l_sld hX (hin _ (by decide)) dL_law_910 ?_
  refine l_aload_n hX 3 dL_law_911 rfl rfl ?_
  refine l_iload_n hX 0 dL_law_912 rfl rfl ?_
  refine l_iconst hX (2) dL_law_913 (by decide) ?_
  refine l_iadd hX dL_law_914 ?_
  refine l_sld hX (hin _ (by decide)) dL_law_915 ?_
  refine l_callI (As := [.int (xs (c3 + 1).toNatClampNeg), .int (xs (c3 + 2).toNatClampNeg)]) (rest := []) hX rfl rfl ⟨[0, 1, 2, 3], rfl⟩ (Nat.le_of_ble_eq_true rfl) rfl rfl miX8_chase mvX8_chase lkL_121 (by decide) rfl (Nat.le_of_ble_eq_true rfl) rfl ⟨Nat.le_trans (Nat.le_add_right _ _) hnk.1, Nat.le_trans (Nat.le_add_right _ _) hnk.2⟩ dL_law_916 (kX8_chase _ e1) ?_
  refine l_aload_n hX 1 dL_law_919 rfl rfl ?_
  refine l_aload_n hX 3 dL_law_920 rfl rfl ?_
  refine l_iload_n hX 0 dL_law_921 rfl rfl ?_
  refine l_iconst hX (1) dL_law_922 (by decide) ?_
  refine l_iadd hX dL_law_923 ?_
  refine l_sld hX (hin _ (by decide)) dL_law_924 ?_
  refine l_aload_n hX 3 dL_law_925 rfl rfl ?_
  refine l_iload_n hX 0 dL_law_926 rfl rfl ?_
  refine l_iconst hX (2) dL_law_927 (by decide) ?_
  refine l_iadd hX dL_law_928 ?_
  refine l_sld hX (hin _ (by decide)) dL_law_929 ?_
  refine l_swap ?_
  refine l_callI (As := [.int (xs (c3 + 1).toNatClampNeg), .int (xs (c3 + 2).toNatClampNeg)]) (rest := [.int x]) hX rfl rfl ⟨[0, 1, 2], rfl⟩ (Nat.le_of_ble_eq_true rfl) rfl rfl miX9_chase mvX9_chase lkL_124 (by decide) rfl (Nat.le_of_ble_eq_true rfl) rfl ⟨Nat.le_trans (Nat.le_add_right _ _) hnk.1, Nat.le_trans (Nat.le_add_right _ _) hnk.2⟩ dL_law_930 (kX9_chase _ e2) ?_
  refine l_swap ?_
  refine l_same hX 1153 dL_law_933 (by decide) ?_
  exact l_widen (Nat.le_add_right _ _) (Nat.le_add_right _ _) (kend a σ1 τ1 hI1)
set_option maxHeartbeats 4000000 in
theorem lc_law (hX : OKL X D [(tI, .int), (tJ, .long), (tB, .byte), (tS, .object "LoafStreet$Stand")] (zJS kK kV) b L xs) (hO : op_law I) (hI : I σ τ) (hnk : n + 1 ≤ 600000 ∧ k + 4096 ≤ 7302250) (hin : ∀ j : Int32, (1 ≤ j ∧ j ≤ 5) → vp_in (c3 + j) L) (kend : ∀ (a1 : Nat → Nat) (σ1 τ1 : St), I σ1 τ1 → GL X D (vC a1 D tI tJ tB tS kK kV) (vM am D tI tJ tB (zJS kK kV)) σ1 τ1 (n + 1) (k + 4096) 1153 [(3, .int c3), (2, .ref (am 0)), (1, .ref (a1 0)), (0, .ref b)] []) : GL X D (vC a D tI tJ tB tS kK kV) (vM am D tI tJ tB (zJS kK kV)) σ τ n k 938 [(3, .int c3), (2, .ref (am 0)), (1, .ref (a 0)), (0, .ref b)] [] := by
  obtain ⟨σ1, τ1, x, e1, e2, hI1⟩ := hO σ τ (xs (c3 + 1).toNatClampNeg) (xs (c3 + 2).toNatClampNeg) hI
  refine l_aload_n hX 2 dL_law_938 rfl rfl ?_
  refine l_aload_n hX 3 dL_law_939 rfl rfl ?_
  refine l_iload_n hX 0 dL_law_940 rfl rfl ?_
  refine l_iconst hX (1) dL_law_941 (by decide) ?_
  refine l_iadd hX dL_law_942 ?_
  refine l_sld hX (hin _ (by decide)) dL_law_943 ?_
  refine l_aload_n hX 3 dL_law_944 rfl rfl ?_
  refine l_iload_n hX 0 dL_law_945 rfl rfl ?_
  refine l_iconst hX (2) dL_law_946 (by decide) ?_
  refine l_iadd hX dL_law_947 ?_
  refine l_sld hX (hin _ (by decide)) dL_law_948 ?_
  refine l_callI (As := [.int (xs (c3 + 1).toNatClampNeg), .int (xs (c3 + 2).toNatClampNeg)]) (rest := []) hX rfl rfl ⟨[0, 1, 2, 3], rfl⟩ (Nat.le_of_ble_eq_true rfl) rfl rfl miX8_law mvX8_law lkL_125 (by decide) rfl (Nat.le_of_ble_eq_true rfl) rfl ⟨Nat.le_trans (Nat.le_add_right _ _) hnk.1, Nat.le_trans (Nat.le_add_right _ _) hnk.2⟩ dL_law_949 (kX8_law _ e1) ?_
  refine l_aload_n hX 1 dL_law_952 rfl rfl ?_
  refine l_aload_n hX 3 dL_law_953 rfl rfl ?_
  refine l_iload_n hX 0 dL_law_954 rfl rfl ?_
  refine l_iconst hX (1) dL_law_955 (by decide) ?_
  refine l_iadd hX dL_law_956 ?_
  refine l_sld hX (hin _ (by decide)) dL_law_957 ?_
  refine l_aload_n hX 3 dL_law_958 rfl rfl ?_
  refine l_iload_n hX 0 dL_law_959 rfl rfl ?_
  refine l_iconst hX (2) dL_law_960 (by decide) ?_
  refine l_iadd hX dL_law_961 ?_
  refine l_sld hX (hin _ (by decide)) dL_law_962 ?_
  refine l_swap ?_
  refine l_callI (As := [.int (xs (c3 + 1).toNatClampNeg), .int (xs (c3 + 2).toNatClampNeg)]) (rest := [.int x]) hX rfl rfl ⟨[0, 1, 2], rfl⟩ (Nat.le_of_ble_eq_true rfl) rfl rfl miX9_law mvX9_law lkL_128 (by decide) rfl (Nat.le_of_ble_eq_true rfl) rfl ⟨Nat.le_trans (Nat.le_add_right _ _) hnk.1, Nat.le_trans (Nat.le_add_right _ _) hnk.2⟩ dL_law_963 (kX9_law _ e2) ?_
  refine l_swap ?_
  refine l_same hX 1153 dL_law_966 (by decide) ?_
  exact l_widen (Nat.le_add_right _ _) (Nat.le_add_right _ _) (kend a σ1 τ1 hI1)
set_option maxHeartbeats 4000000 in
theorem lc_force (hX : OKL X D [(tI, .int), (tJ, .long), (tB, .byte), (tS, .object "LoafStreet$Stand")] (zJS kK kV) b L xs) (hO : op_force I) (hI : I σ τ) (hnk : n + 1 ≤ 600000 ∧ k + 4096 ≤ 7302250) (hin : ∀ j : Int32, (1 ≤ j ∧ j ≤ 5) → vp_in (c3 + j) L) (kend : ∀ (a1 : Nat → Nat) (σ1 τ1 : St), I σ1 τ1 → GL X D (vC a1 D tI tJ tB tS kK kV) (vM am D tI tJ tB (zJS kK kV)) σ1 τ1 (n + 1) (k + 4096) 1153 [(3, .int c3), (2, .ref (am 0)), (1, .ref (a1 0)), (0, .ref b)] []) : GL X D (vC a D tI tJ tB tS kK kV) (vM am D tI tJ tB (zJS kK kV)) σ τ n k 971 [(3, .int c3), (2, .ref (am 0)), (1, .ref (a 0)), (0, .ref b)] [] := by
  obtain ⟨σ1, τ1, x, e1, e2, hI1⟩ := hO σ τ (xs (c3 + 1).toNatClampNeg) hI
  refine l_aload_n hX 2 dL_law_971 rfl rfl ?_
  refine l_aload_n hX 3 dL_law_972 rfl rfl ?_
  refine l_iload_n hX 0 dL_law_973 rfl rfl ?_
  refine l_iconst hX (1) dL_law_974 (by decide) ?_
  refine l_iadd hX dL_law_975 ?_
  refine l_sld hX (hin _ (by decide)) dL_law_976 ?_
  refine l_callI (As := [.int (xs (c3 + 1).toNatClampNeg)]) (rest := []) hX rfl rfl ⟨[0, 1, 2, 3], rfl⟩ (Nat.le_of_ble_eq_true rfl) rfl rfl miX8_force mvX8_force lkL_129 (by decide) rfl (Nat.le_of_ble_eq_true rfl) rfl ⟨Nat.le_trans (Nat.le_add_right _ _) hnk.1, Nat.le_trans (Nat.le_add_right _ _) hnk.2⟩ dL_law_977 (kX8_force _ e1) ?_
  refine l_aload_n hX 1 dL_law_980 rfl rfl ?_
  refine l_aload_n hX 3 dL_law_981 rfl rfl ?_
  refine l_iload_n hX 0 dL_law_982 rfl rfl ?_
  refine l_iconst hX (1) dL_law_983 (by decide) ?_
  refine l_iadd hX dL_law_984 ?_
  refine l_sld hX (hin _ (by decide)) dL_law_985 ?_
  refine l_swap ?_
  refine l_callI (As := [.int (xs (c3 + 1).toNatClampNeg)]) (rest := [.int x]) hX rfl rfl ⟨[0, 1, 2], rfl⟩ (Nat.le_of_ble_eq_true rfl) rfl rfl miX9_force mvX9_force lkL_132 (by decide) rfl (Nat.le_of_ble_eq_true rfl) rfl ⟨Nat.le_trans (Nat.le_add_right _ _) hnk.1, Nat.le_trans (Nat.le_add_right _ _) hnk.2⟩ dL_law_986 (kX9_force _ e2) ?_
  refine l_swap ?_
  refine l_same hX 1153 dL_law_989 (by decide) ?_
  exact l_widen (Nat.le_add_right _ _) (Nat.le_add_right _ _) (kend a σ1 τ1 hI1)
set_option maxHeartbeats 4000000 in
theorem lc_bestLaw (hX : OKL X D [(tI, .int), (tJ, .long), (tB, .byte), (tS, .object "LoafStreet$Stand")] (zJS kK kV) b L xs) (hO : op_bestLaw I) (hI : I σ τ) (hnk : n + 1 ≤ 600000 ∧ k + 4096 ≤ 7302250) (hin : ∀ j : Int32, (1 ≤ j ∧ j ≤ 5) → vp_in (c3 + j) L) (kend : ∀ (a1 : Nat → Nat) (σ1 τ1 : St), I σ1 τ1 → GL X D (vC a1 D tI tJ tB tS kK kV) (vM am D tI tJ tB (zJS kK kV)) σ1 τ1 (n + 1) (k + 4096) 1153 [(3, .int c3), (2, .ref (am 0)), (1, .ref (a1 0)), (0, .ref b)] []) : GL X D (vC a D tI tJ tB tS kK kV) (vM am D tI tJ tB (zJS kK kV)) σ τ n k 994 [(3, .int c3), (2, .ref (am 0)), (1, .ref (a 0)), (0, .ref b)] [] := by
  obtain ⟨σ1, τ1, x, e1, e2, hI1⟩ := hO σ τ (xs (c3 + 1).toNatClampNeg) (xs (c3 + 2).toNatClampNeg) hI
  refine l_aload_n hX 2 dL_law_994 rfl rfl ?_
  refine l_aload_n hX 3 dL_law_995 rfl rfl ?_
  refine l_iload_n hX 0 dL_law_996 rfl rfl ?_
  refine l_iconst hX (1) dL_law_997 (by decide) ?_
  refine l_iadd hX dL_law_998 ?_
  refine l_sld hX (hin _ (by decide)) dL_law_999 ?_
  refine l_aload_n hX 3 dL_law_1000 rfl rfl ?_
  refine l_iload_n hX 0 dL_law_1001 rfl rfl ?_
  refine l_iconst hX (2) dL_law_1002 (by decide) ?_
  refine l_iadd hX dL_law_1003 ?_
  refine l_sld hX (hin _ (by decide)) dL_law_1004 ?_
  refine l_callA (As := [.int (xs (c3 + 1).toNatClampNeg), .int (xs (c3 + 2).toNatClampNeg)]) (rest := []) hX ⟨[0, 1, 2, 3], rfl⟩ miX8_bestLaw mvX8_bestLaw lkL_133 (by decide) rfl (Nat.le_of_ble_eq_true rfl) rfl hnk dL_law_1005 (kX8_bestLawA _ e1) (fun M => ?_)
  show GL X D (vC (upA a M) D tI tJ tB tS kK kV) (vM am D tI tJ tB (zJS kK kV)) σ1 τ (n + 1) (k + 4096) 1008 [(3, .int c3), (2, .ref (am 0)), (1, .ref (upA a M 0)), (0, .ref b)] [.int x]
  generalize upA a M = a1
  refine l_aload_n hX 1 dL_law_1008 rfl rfl ?_
  refine l_aload_n hX 3 dL_law_1009 rfl rfl ?_
  refine l_iload_n hX 0 dL_law_1010 rfl rfl ?_
  refine l_iconst hX (1) dL_law_1011 (by decide) ?_
  refine l_iadd hX dL_law_1012 ?_
  refine l_sld hX (hin _ (by decide)) dL_law_1013 ?_
  refine l_aload_n hX 3 dL_law_1014 rfl rfl ?_
  refine l_iload_n hX 0 dL_law_1015 rfl rfl ?_
  refine l_iconst hX (2) dL_law_1016 (by decide) ?_
  refine l_iadd hX dL_law_1017 ?_
  refine l_sld hX (hin _ (by decide)) dL_law_1018 ?_
  refine l_swap ?_
  refine l_callI (As := [.int (xs (c3 + 1).toNatClampNeg), .int (xs (c3 + 2).toNatClampNeg)]) (rest := [.int x]) hX rfl rfl ⟨[0, 1, 2], rfl⟩ (Nat.le_of_ble_eq_true rfl) rfl rfl miX9_bestLaw mvX9_bestLaw lkL_136 (by decide) rfl (Nat.le_of_ble_eq_true rfl) rfl hnk dL_law_1019 (kX9_bestLaw _ e2) ?_
  refine l_swap ?_
  refine l_same hX 1153 dL_law_1022 (by decide) ?_
  exact kend a1 σ1 τ1 hI1
set_option maxHeartbeats 4000000 in
theorem lc_edge (hX : OKL X D [(tI, .int), (tJ, .long), (tB, .byte), (tS, .object "LoafStreet$Stand")] (zJS kK kV) b L xs) (hO : op_edge I) (hI : I σ τ) (hnk : n + 1 ≤ 600000 ∧ k + 4096 ≤ 7302250) (hin : ∀ j : Int32, (1 ≤ j ∧ j ≤ 5) → vp_in (c3 + j) L) (kend : ∀ (a1 : Nat → Nat) (σ1 τ1 : St), I σ1 τ1 → GL X D (vC a1 D tI tJ tB tS kK kV) (vM am D tI tJ tB (zJS kK kV)) σ1 τ1 (n + 1) (k + 4096) 1153 [(3, .int c3), (2, .ref (am 0)), (1, .ref (a1 0)), (0, .ref b)] []) : GL X D (vC a D tI tJ tB tS kK kV) (vM am D tI tJ tB (zJS kK kV)) σ τ n k 1027 [(3, .int c3), (2, .ref (am 0)), (1, .ref (a 0)), (0, .ref b)] [] := by
  obtain ⟨σ1, τ1, x, e1, e2, hI1⟩ := hO σ τ (xs (c3 + 1).toNatClampNeg) hI
  refine l_aload_n hX 2 dL_law_1027 rfl rfl ?_
  refine l_aload_n hX 3 dL_law_1028 rfl rfl ?_
  refine l_iload_n hX 0 dL_law_1029 rfl rfl ?_
  refine l_iconst hX (1) dL_law_1030 (by decide) ?_
  refine l_iadd hX dL_law_1031 ?_
  refine l_sld hX (hin _ (by decide)) dL_law_1032 ?_
  refine l_callA (As := [.int (xs (c3 + 1).toNatClampNeg)]) (rest := []) hX ⟨[0, 1, 2, 3], rfl⟩ miX8_edge mvX8_edge lkL_137 (by decide) rfl (Nat.le_of_ble_eq_true rfl) rfl hnk dL_law_1033 (kX8_edgeA _ e1) (fun M => ?_)
  show GL X D (vC (upA a M) D tI tJ tB tS kK kV) (vM am D tI tJ tB (zJS kK kV)) σ1 τ (n + 1) (k + 4096) 1036 [(3, .int c3), (2, .ref (am 0)), (1, .ref (upA a M 0)), (0, .ref b)] [.int x]
  generalize upA a M = a1
  refine l_aload_n hX 1 dL_law_1036 rfl rfl ?_
  refine l_aload_n hX 3 dL_law_1037 rfl rfl ?_
  refine l_iload_n hX 0 dL_law_1038 rfl rfl ?_
  refine l_iconst hX (1) dL_law_1039 (by decide) ?_
  refine l_iadd hX dL_law_1040 ?_
  refine l_sld hX (hin _ (by decide)) dL_law_1041 ?_
  refine l_swap ?_
  refine l_callI (As := [.int (xs (c3 + 1).toNatClampNeg)]) (rest := [.int x]) hX rfl rfl ⟨[0, 1, 2], rfl⟩ (Nat.le_of_ble_eq_true rfl) rfl rfl miX9_edge mvX9_edge lkL_140 (by decide) rfl (Nat.le_of_ble_eq_true rfl) rfl hnk dL_law_1042 (kX9_edge _ e2) ?_
  refine l_swap ?_
  refine l_same hX 1153 dL_law_1045 (by decide) ?_
  exact kend a1 σ1 τ1 hI1
set_option maxHeartbeats 4000000 in
theorem lc_run (hX : OKL X D [(tI, .int), (tJ, .long), (tB, .byte), (tS, .object "LoafStreet$Stand")] (zJS kK kV) b L xs) (hO : op_run I) (hI : I σ τ) (hnk : n + 1 ≤ 600000 ∧ k + 4096 ≤ 7302250) (hin : ∀ j : Int32, (1 ≤ j ∧ j ≤ 5) → vp_in (c3 + j) L) (kend : ∀ (a1 : Nat → Nat) (σ1 τ1 : St), I σ1 τ1 → GL X D (vC a1 D tI tJ tB tS kK kV) (vM am D tI tJ tB (zJS kK kV)) σ1 τ1 (n + 1) (k + 4096) 1153 [(3, .int c3), (2, .ref (am 0)), (1, .ref (a1 0)), (0, .ref b)] []) : GL X D (vC a D tI tJ tB tS kK kV) (vM am D tI tJ tB (zJS kK kV)) σ τ n k 1050 [(3, .int c3), (2, .ref (am 0)), (1, .ref (a 0)), (0, .ref b)] [] := by
  obtain ⟨σ1, τ1, x, e1, e2, hI1⟩ := hO σ τ (xs (c3 + 1).toNatClampNeg) (xs (c3 + 2).toNatClampNeg) (xs (c3 + 3).toNatClampNeg) hI
  refine l_aload_n hX 2 dL_law_1050 rfl rfl ?_
  refine l_aload_n hX 3 dL_law_1051 rfl rfl ?_
  refine l_iload_n hX 0 dL_law_1052 rfl rfl ?_
  refine l_iconst hX (1) dL_law_1053 (by decide) ?_
  refine l_iadd hX dL_law_1054 ?_
  refine l_sld hX (hin _ (by decide)) dL_law_1055 ?_
  refine l_aload_n hX 3 dL_law_1056 rfl rfl ?_
  refine l_iload_n hX 0 dL_law_1057 rfl rfl ?_
  refine l_iconst hX (2) dL_law_1058 (by decide) ?_
  refine l_iadd hX dL_law_1059 ?_
  refine l_sld hX (hin _ (by decide)) dL_law_1060 ?_
  refine l_aload_n hX 3 dL_law_1061 rfl rfl ?_
  refine l_iload_n hX 0 dL_law_1062 rfl rfl ?_
  refine l_iconst hX (3) dL_law_1063 (by decide) ?_
  refine l_iadd hX dL_law_1064 ?_
  refine l_sld hX (hin _ (by decide)) dL_law_1065 ?_
  refine l_callL (As := [.int (xs (c3 + 1).toNatClampNeg), .int (xs (c3 + 2).toNatClampNeg), .int (xs (c3 + 3).toNatClampNeg)]) (rest := []) hX rfl rfl ⟨[0, 1, 2, 3], rfl⟩ (Nat.le_of_ble_eq_true rfl) rfl rfl miX8_run mvX8_run lkL_141 (by decide) rfl (Nat.le_of_ble_eq_true rfl) rfl ⟨Nat.le_trans (Nat.le_add_right _ _) hnk.1, Nat.le_trans (Nat.le_add_right _ _) hnk.2⟩ dL_law_1066 (kX8_run _ e1) ?_
  refine l_aload_n hX 1 dL_law_1069 rfl rfl ?_
  refine l_aload_n hX 3 dL_law_1070 rfl rfl ?_
  refine l_iload_n hX 0 dL_law_1071 rfl rfl ?_
  refine l_iconst hX (1) dL_law_1072 (by decide) ?_
  refine l_iadd hX dL_law_1073 ?_
  refine l_sld hX (hin _ (by decide)) dL_law_1074 ?_
  refine l_aload_n hX 3 dL_law_1075 rfl rfl ?_
  refine l_iload_n hX 0 dL_law_1076 rfl rfl ?_
  refine l_iconst hX (2) dL_law_1077 (by decide) ?_
  refine l_iadd hX dL_law_1078 ?_
  refine l_sld hX (hin _ (by decide)) dL_law_1079 ?_
  refine l_aload_n hX 3 dL_law_1080 rfl rfl ?_
  refine l_iload_n hX 0 dL_law_1081 rfl rfl ?_
  refine l_iconst hX (3) dL_law_1082 (by decide) ?_
  refine l_iadd hX dL_law_1083 ?_
  refine l_sld hX (hin _ (by decide)) dL_law_1084 ?_
  refine l_swap ?_
  refine l_callL (As := [.int (xs (c3 + 1).toNatClampNeg), .int (xs (c3 + 2).toNatClampNeg), .int (xs (c3 + 3).toNatClampNeg)]) (rest := [.long x]) hX rfl rfl ⟨[0, 1, 2], rfl⟩ (Nat.le_of_ble_eq_true rfl) rfl rfl miX9_run mvX9_run lkL_145 (by decide) rfl (Nat.le_of_ble_eq_true rfl) rfl ⟨Nat.le_trans (Nat.le_add_right _ _) hnk.1, Nat.le_trans (Nat.le_add_right _ _) hnk.2⟩ dL_law_1085 (kX9_run _ e2) ?_
  refine l_swap ?_
  refine l_lcmp hX dL_law_1088 ?_
  refine l_sameL hX 1153 dL_law_1089 (by decide) ?_
  exact l_widen (Nat.le_add_right _ _) (Nat.le_add_right _ _) (kend a σ1 τ1 hI1)
set_option maxHeartbeats 4000000 in
theorem lc_image (hX : OKL X D [(tI, .int), (tJ, .long), (tB, .byte), (tS, .object "LoafStreet$Stand")] (zJS kK kV) b L xs) (hO : op_image I) (hI : I σ τ) (hnk : n + 1 ≤ 600000 ∧ k + 4096 ≤ 7302250) (hin : ∀ j : Int32, (1 ≤ j ∧ j ≤ 5) → vp_in (c3 + j) L) (kend : ∀ (a1 : Nat → Nat) (σ1 τ1 : St), I σ1 τ1 → GL X D (vC a1 D tI tJ tB tS kK kV) (vM am D tI tJ tB (zJS kK kV)) σ1 τ1 (n + 1) (k + 4096) 1153 [(3, .int c3), (2, .ref (am 0)), (1, .ref (a1 0)), (0, .ref b)] []) : GL X D (vC a D tI tJ tB tS kK kV) (vM am D tI tJ tB (zJS kK kV)) σ τ n k 1094 [(3, .int c3), (2, .ref (am 0)), (1, .ref (a 0)), (0, .ref b)] [] := by
  obtain ⟨σ1, τ1, x, e1, e2, hI1⟩ := hO σ τ  hI
  refine l_aload_n hX 2 dL_law_1094 rfl rfl ?_
  refine l_callI (As := []) (rest := []) hX rfl rfl ⟨[0, 1, 2, 3], rfl⟩ (Nat.le_of_ble_eq_true rfl) rfl rfl miX8_image mvX8_image lkL_146 (by decide) rfl (Nat.le_of_ble_eq_true rfl) rfl ⟨Nat.le_trans (Nat.le_add_right _ _) hnk.1, Nat.le_trans (Nat.le_add_right _ _) hnk.2⟩ dL_law_1095 (kX8_image _ e1) ?_
  refine l_aload_n hX 1 dL_law_1098 rfl rfl ?_
  refine l_swap ?_
  refine l_callI (As := []) (rest := [.int x]) hX rfl rfl ⟨[0, 1, 2], rfl⟩ (Nat.le_of_ble_eq_true rfl) rfl rfl miX9_image mvX9_image lkL_149 (by decide) rfl (Nat.le_of_ble_eq_true rfl) rfl ⟨Nat.le_trans (Nat.le_add_right _ _) hnk.1, Nat.le_trans (Nat.le_add_right _ _) hnk.2⟩ dL_law_1099 (kX9_image _ e2) ?_
  refine l_swap ?_
  refine l_same hX 1153 dL_law_1102 (by decide) ?_
  exact l_widen (Nat.le_add_right _ _) (Nat.le_add_right _ _) (kend a σ1 τ1 hI1)
set_option maxHeartbeats 4000000 in
theorem lc_back (hX : OKL X D [(tI, .int), (tJ, .long), (tB, .byte), (tS, .object "LoafStreet$Stand")] (zJS kK kV) b L xs) (hO : op_back I) (hI : I σ τ) (hnk : n + 1 ≤ 600000 ∧ k + 4096 ≤ 7302250) (hin : ∀ j : Int32, (1 ≤ j ∧ j ≤ 5) → vp_in (c3 + j) L) (kend : ∀ (a1 : Nat → Nat) (σ1 τ1 : St), I σ1 τ1 → GL X D (vC a1 D tI tJ tB tS kK kV) (vM am D tI tJ tB (zJS kK kV)) σ1 τ1 (n + 1) (k + 4096) 1153 [(3, .int c3), (2, .ref (am 0)), (1, .ref (a1 0)), (0, .ref b)] []) : GL X D (vC a D tI tJ tB tS kK kV) (vM am D tI tJ tB (zJS kK kV)) σ τ n k 1107 [(3, .int c3), (2, .ref (am 0)), (1, .ref (a 0)), (0, .ref b)] [] := by
  obtain ⟨σ1, τ1, x, e1, e2, hI1⟩ := hO σ τ (xs (c3 + 1).toNatClampNeg) hI
  refine l_aload_n hX 2 dL_law_1107 rfl rfl ?_
  refine l_aload_n hX 3 dL_law_1108 rfl rfl ?_
  refine l_iload_n hX 0 dL_law_1109 rfl rfl ?_
  refine l_iconst hX (1) dL_law_1110 (by decide) ?_
  refine l_iadd hX dL_law_1111 ?_
  refine l_sld hX (hin _ (by decide)) dL_law_1112 ?_
  refine l_callI (As := [.int (xs (c3 + 1).toNatClampNeg)]) (rest := []) hX rfl rfl ⟨[0, 1, 2, 3], rfl⟩ (Nat.le_of_ble_eq_true rfl) rfl rfl miX8_back mvX8_back lkL_150 (by decide) rfl (Nat.le_of_ble_eq_true rfl) rfl ⟨Nat.le_trans (Nat.le_add_right _ _) hnk.1, Nat.le_trans (Nat.le_add_right _ _) hnk.2⟩ dL_law_1113 (kX8_back _ e1) ?_
  refine l_aload_n hX 1 dL_law_1116 rfl rfl ?_
  refine l_aload_n hX 3 dL_law_1117 rfl rfl ?_
  refine l_iload_n hX 0 dL_law_1118 rfl rfl ?_
  refine l_iconst hX (1) dL_law_1119 (by decide) ?_
  refine l_iadd hX dL_law_1120 ?_
  refine l_sld hX (hin _ (by decide)) dL_law_1121 ?_
  refine l_swap ?_
  refine l_callI (As := [.int (xs (c3 + 1).toNatClampNeg)]) (rest := [.int x]) hX rfl rfl ⟨[0, 1, 2], rfl⟩ (Nat.le_of_ble_eq_true rfl) rfl rfl miX9_back mvX9_back lkL_153 (by decide) rfl (Nat.le_of_ble_eq_true rfl) rfl ⟨Nat.le_trans (Nat.le_add_right _ _) hnk.1, Nat.le_trans (Nat.le_add_right _ _) hnk.2⟩ dL_law_1122 (kX9_back _ e2) ?_
  refine l_swap ?_
  refine l_same hX 1153 dL_law_1125 (by decide) ?_
  exact l_widen (Nat.le_add_right _ _) (Nat.le_add_right _ _) (kend a σ1 τ1 hI1)
set_option maxHeartbeats 4000000 in
theorem lc_count (hX : OKL X D [(tI, .int), (tJ, .long), (tB, .byte), (tS, .object "LoafStreet$Stand")] (zJS kK kV) b L xs) (hO : op_count I) (hI : I σ τ) (hnk : n + 1 ≤ 600000 ∧ k + 4096 ≤ 7302250) (hin : ∀ j : Int32, (1 ≤ j ∧ j ≤ 5) → vp_in (c3 + j) L) (kend : ∀ (a1 : Nat → Nat) (σ1 τ1 : St), I σ1 τ1 → GL X D (vC a1 D tI tJ tB tS kK kV) (vM am D tI tJ tB (zJS kK kV)) σ1 τ1 (n + 1) (k + 4096) 1153 [(3, .int c3), (2, .ref (am 0)), (1, .ref (a1 0)), (0, .ref b)] []) : GL X D (vC a D tI tJ tB tS kK kV) (vM am D tI tJ tB (zJS kK kV)) σ τ n k 1130 [(3, .int c3), (2, .ref (am 0)), (1, .ref (a 0)), (0, .ref b)] [] := by
  obtain ⟨σ1, τ1, x, e1, e2, hI1⟩ := hO σ τ (xs (c3 + 1).toNatClampNeg) hI
  refine l_aload_n hX 2 dL_law_1130 rfl rfl ?_
  refine l_aload_n hX 3 dL_law_1131 rfl rfl ?_
  refine l_iload_n hX 0 dL_law_1132 rfl rfl ?_
  refine l_iconst hX (1) dL_law_1133 (by decide) ?_
  refine l_iadd hX dL_law_1134 ?_
  refine l_sld hX (hin _ (by decide)) dL_law_1135 ?_
  refine l_callI (As := [.int (xs (c3 + 1).toNatClampNeg)]) (rest := []) hX rfl rfl ⟨[0, 1, 2, 3], rfl⟩ (Nat.le_of_ble_eq_true rfl) rfl rfl miX8_count mvX8_count lkL_154 (by decide) rfl (Nat.le_of_ble_eq_true rfl) rfl ⟨Nat.le_trans (Nat.le_add_right _ _) hnk.1, Nat.le_trans (Nat.le_add_right _ _) hnk.2⟩ dL_law_1136 (kX8_count _ e1) ?_
  refine l_aload_n hX 1 dL_law_1139 rfl rfl ?_
  refine l_aload_n hX 3 dL_law_1140 rfl rfl ?_
  refine l_iload_n hX 0 dL_law_1141 rfl rfl ?_
  refine l_iconst hX (1) dL_law_1142 (by decide) ?_
  refine l_iadd hX dL_law_1143 ?_
  refine l_sld hX (hin _ (by decide)) dL_law_1144 ?_
  refine l_swap ?_
  refine l_callI (As := [.int (xs (c3 + 1).toNatClampNeg)]) (rest := [.int x]) hX rfl rfl ⟨[0, 1, 2], rfl⟩ (Nat.le_of_ble_eq_true rfl) rfl rfl miX9_count mvX9_count lkL_157 (by decide) rfl (Nat.le_of_ble_eq_true rfl) rfl ⟨Nat.le_trans (Nat.le_add_right _ _) hnk.1, Nat.le_trans (Nat.le_add_right _ _) hnk.2⟩ dL_law_1145 (kX9_count _ e2) ?_
  refine l_swap ?_
  refine l_same hX 1153 dL_law_1148 (by decide) ?_
  exact l_widen (Nat.le_add_right _ _) (Nat.le_add_right _ _) (kend a σ1 τ1 hI1)
end LawCases
