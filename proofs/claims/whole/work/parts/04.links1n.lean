/-- links to a nest mate's private members -/
def isNest : Cond → Bool
  | .fieldLinkNest .. => true
  | .methodLinkNest .. => true
  | _ => false
def wsNest : List Cond := lw_tbl.filter isNest
theorem wsNest_mem {w : Cond} (i : Nat) (h : lw_tbl[i]? = some w) (hg : isNest w = true) : w ∈ wsNest := List.mem_filter.mpr ⟨List.mem_of_getElem? h, hg⟩
theorem wsNest_same {w : Cond} (h : w ∈ wsNest) {u U : State} (hv : u.vm = U.vm) (hz : va_Nw w u) : va_Nw w U := by
  have h := (List.mem_filter.mp h).2
  cases w <;> first | exact va_Nw.same rfl hv hz | exact absurd h (by simp [isNest])
theorem wsNest_warm {w : Cond} (h : w ∈ wsNest) {s U : State} (hW : s.WarmedH U.vm) (hz : va_Nw w s) : va_Nw w U := by
  have h := (List.mem_filter.mp h).2
  cases w <;> first | exact va_Nw.warmF hW hz | exact va_Nw.warmM hW hz | exact absurd h (by simp [isNest])
theorem wsNest_use {w : Cond} (h : w ∈ wsNest) {A : Array Value} {U : State} (hz : va_Nw w U) : w.before A U = true := by
  have h := (List.mem_filter.mp h).2
  cases w <;> first | exact va_Nw.use rfl hz | exact absurd h (by simp [isNest])
theorem wsNest_of {w : Cond} (h : w ∈ wsNest) {A : Array Value} {U : State} (hz : w.before A U = true) : va_Nw w U := by
  have h := (List.mem_filter.mp h).2
  cases w <;> first | exact va_Nw.of rfl hz | exact absurd h (by simp [isNest])
