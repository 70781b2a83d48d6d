theorem rg_left {α : Type} (A B : List α) : (List.range A.length).map (fun i => (A ++ B)[i]?) = A.map some := by
  apply List.ext_getElem?
  intro i
  by_cases h : i < A.length
  · rw [List.getElem?_map, List.getElem?_range h, List.getElem?_map]
    show some ((A ++ B)[i]?) = _
    rw [List.getElem?_append_left h, List.getElem?_eq_getElem h]
    rfl
  · rw [List.getElem?_eq_none (by simpa using h), List.getElem?_eq_none (by simpa using h)]
theorem va_P_left {D : va_G} {A B : va_W} {H : Heap} (h : va_P D vwCl (A ++ B) H) : va_P D vwCl A H := fun k q hq => h k q (by rw [List.getElem?_append_left (List.getElem?_eq_some_iff.mp hq).1]; exact hq)
theorem va_P_right {D : va_G} {A B : va_W} {H : Heap} (h : va_P D vwCl (A ++ B) H) : va_P D vwCl B H := fun k q hq => h (A.length + k) q (by rw [List.getElem?_append_right (Nat.le_add_right _ _), Nat.add_sub_cancel_left]; exact hq)
theorem va_D_left {Z : Nat → Prop} {A B : va_W} (h : va_D Z (A ++ B)) : va_D Z A := ⟨fun i j p q hi hj e => h.1 i j p q (by rw [List.getElem?_append_left (List.getElem?_eq_some_iff.mp hi).1]; exact hi) (by rw [List.getElem?_append_left (List.getElem?_eq_some_iff.mp hj).1]; exact hj) e, fun k q hq => h.2 k q (by rw [List.getElem?_append_left (List.getElem?_eq_some_iff.mp hq).1]; exact hq)⟩
theorem va_D_right {Z : Nat → Prop} {A B : va_W} (h : va_D Z (A ++ B)) : va_D Z B := ⟨fun i j p q hi hj e => Nat.add_left_cancel (h.1 (A.length + i) (A.length + j) p q (by rw [List.getElem?_append_right (Nat.le_add_right _ _), Nat.add_sub_cancel_left]; exact hi) (by rw [List.getElem?_append_right (Nat.le_add_right _ _), Nat.add_sub_cancel_left]; exact hj) e), fun k q hq => h.2 (A.length + k) q (by rw [List.getElem?_append_right (Nat.le_add_right _ _), Nat.add_sub_cancel_left]; exact hq)⟩
theorem va_D_apart {Z : Nat → Prop} {v w : Vw} {σ τ : St} (h : va_D Z (ww v σ ++ ww w τ)) : Apart v w := by
  intro i j hi hj e
  have hl : (ww v σ).length = vn v := by simp [ww]
  have h1 : (ww v σ ++ ww w τ)[i]? = some (vad v i, vsh v i (σ.1 i) (σ.2 i)) := by rw [List.getElem?_append_left (by rw [hl]; exact hi)]; exact ww_at v σ hi
  have h2 : (ww v σ ++ ww w τ)[vn v + j]? = some (vad w j, vsh w j (τ.1 j) (τ.2 j)) := by rw [List.getElem?_append_right (by rw [hl]; exact Nat.le_add_right _ _), hl, Nat.add_sub_cancel_left]; exact ww_at w τ hj
  have := h.1 i (vn v + j) _ _ h1 h2 e
  omega
theorem ao_Stand : Cond.arrayOver (.object "LoafStreet$Stand") ∈ lw_tbl := List.mem_of_getElem? (i := 394) (by decide +kernel)
/-- the array kinds at the start -/
theorem arr_prim {args : Array Value} {s : State} {ty : FieldType} (hp : refKind ty = false) (h : (Cond.arrayClass ty).before args s = true) : ∃ cA : ClassId, ArrOfT s cA ty ∧ va_RA s cA ty := by
  obtain ⟨c, k, comp, h1, h2, h3⟩ := Cond.arrayClass_spec h
  refine ⟨c, fun n z => ⟨fun k h => (by cases h), k, h2, comp, h3⟩, ?_⟩
  cases ty <;> first | exact h1 | exact absurd hp (by simp [refKind])
theorem arr_obj {args : Array Value} {s : State} {C : String} (h : (Cond.arrayOver (.object C)).before args s = true) : ∃ cA : ClassId, ArrOfT s cA (.object C) ∧ va_RA s cA (.object C) := by
  obtain ⟨comp, c, k, h1, h2, h3, h4, h5⟩ := Cond.arrayOver_spec h
  exact ⟨c, fun n z => ⟨fun k h => (by cases h), k, h3, comp, h4⟩, k, comp, h3, h4, h1, h5⟩
def tmJS : Nat → Term := fun i => .string (tabJS i).1 (tabJS i).2.1
theorem js1 : ∀ i : Nat, i < 15 → Cond.exactly (tmJS i) "java/lang/String" ∈ flatC (Jvm.Cond.and given_1 narrow_1) := by decide +kernel
theorem js2 : ∀ i : Nat, i < 15 → Cond.eq (.field (tmJS i) "java/lang/String" "coder" "B") (.int 0) ∈ flatC (Jvm.Cond.and given_1 narrow_1) := by decide +kernel
theorem js3 : ∀ i : Nat, i < 15 → Cond.arrayOf (.field (tmJS i) "java/lang/String" "value" "[B") .byte ∈ flatC (Jvm.Cond.and given_1 narrow_1) := by decide +kernel
theorem js4 : ∀ i : Nat, i < 15 → Cond.eq (.length (.field (tmJS i) "java/lang/String" "value" "[B")) (.int (Int32.ofNat (lenJS.getD i 0))) ∈ flatC (Jvm.Cond.and given_1 narrow_1) := by decide +kernel
theorem js5 : ∀ i : Nat, i < 15 → ∀ j : Nat, j < lenJS.getD i 0 → Cond.eq (.elem (.field (tmJS i) "java/lang/String" "value" "[B") (.int (Int32.ofNat j))) (.int ((bytJS.getD i []).getD j 0)) ∈ flatC (Jvm.Cond.and given_1 narrow_1) := by decide +kernel
theorem js6a : ∀ i : Nat, i < 15 → ∀ j : Nat, j < i → Cond.not (Cond.eq (tmJS j) (tmJS i)) ∈ flatC (Jvm.Cond.and given_1 narrow_1) := by decide +kernel
theorem js6 : ∀ i : Nat, i < 15 → ∀ j : Nat, j < 15 → i ≠ j → Cond.not (Cond.eq (tmJS i) (tmJS j)) ∈ flatC (Jvm.Cond.and given_1 narrow_1) ∨ Cond.not (Cond.eq (tmJS j) (tmJS i)) ∈ flatC (Jvm.Cond.and given_1 narrow_1) := by
  intro i hi j hj hne
  rcases Nat.lt_or_gt_of_ne hne with h | h
  · exact Or.inl (js6a j hj i h)
  · exact Or.inr (js6a i hi j h)
theorem js7 : ∀ i : Nat, i < 15 → Cond.stringRef (tabJS i).1 (tabJS i).2.1 (tabJS i).2.2 ∈ lw_tbl := by
  intro i hi
  match i, hi with
  | 0, _ => exact List.mem_of_getElem? (i := 611) (by decide +kernel)
  | 1, _ => exact List.mem_of_getElem? (i := 680) (by decide +kernel)
  | 2, _ => exact List.mem_of_getElem? (i := 685) (by decide +kernel)
  | 3, _ => exact List.mem_of_getElem? (i := 698) (by decide +kernel)
  | 4, _ => exact List.mem_of_getElem? (i := 703) (by decide +kernel)
  | 5, _ => exact List.mem_of_getElem? (i := 704) (by decide +kernel)
  | 6, _ => exact List.mem_of_getElem? (i := 705) (by decide +kernel)
  | 7, _ => exact List.mem_of_getElem? (i := 710) (by decide +kernel)
  | 8, _ => exact List.mem_of_getElem? (i := 711) (by decide +kernel)
  | 9, _ => exact List.mem_of_getElem? (i := 716) (by decide +kernel)
  | 10, _ => exact List.mem_of_getElem? (i := 721) (by decide +kernel)
  | 11, _ => exact List.mem_of_getElem? (i := 722) (by decide +kernel)
  | 12, _ => exact List.mem_of_getElem? (i := 723) (by decide +kernel)
  | 13, _ => exact List.mem_of_getElem? (i := 728) (by decide +kernel)
  | 14, _ => exact List.mem_of_getElem? (i := 729) (by decide +kernel)
  | i + 15, hi => exact absurd hi (by omega)
theorem js8 : ∀ i : Nat, i < 15 → lenJS.getD i 0 < 2 ^ 31 := by decide
theorem js9 : Cond.eq (.static "java/lang/String" "COMPACT_STRINGS" "Z") (.int 1) ∈ flatC (Jvm.Cond.and given_1 narrow_1) := by decide +kernel
theorem js10 : Cond.isRef (.static "jdk/internal/util/Preconditions" "SIOOBE_FORMATTER" "Ljava/util/function/BiFunction;") ∈ flatC (Jvm.Cond.and given_1 narrow_1) := by decide +kernel
theorem js11 : Cond.laysStatic "java/lang/String" "COMPACT_STRINGS" "Z" ∈ lw_tbl := List.mem_of_getElem? (i := 625) (by decide +kernel)
theorem js12 : Cond.laysStatic "jdk/internal/util/Preconditions" "SIOOBE_FORMATTER" "Ljava/util/function/BiFunction;" ∈ lw_tbl := List.mem_of_getElem? (i := 645) (by decide +kernel)
theorem js13 : Cond.initialized "java/lang/String" ∈ lw_tbl := List.mem_of_getElem? (i := 170) (by decide +kernel)
theorem js14 : Cond.initialized "jdk/internal/util/Preconditions" ∈ lw_tbl := List.mem_of_getElem? (i := 172) (by decide +kernel)

