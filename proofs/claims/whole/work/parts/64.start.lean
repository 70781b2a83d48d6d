theorem wsAll_tbl {w : Cond} (h : w ∈ wsAll) : w ∈ lw_tbl := (List.mem_filter.mp h).1
theorem wsNest_tbl {w : Cond} (h : w ∈ wsNest) : w ∈ lw_tbl := (List.mem_filter.mp h).1
/-- what stands outside at the start -/
theorem ev_start {args : Array Value} {s : State} {A : Nat → Prop} (hts : ∀ w ∈ lw_tbl, w.before args s = true) (hgv : (Jvm.Cond.and given_1 narrow_1).before args s = true) (hA : ∀ a : Nat, a < s.heap.size → ¬ A a) : ∃ kK kV : Nat → Nat, EV (zJS kK kV) A s s.heap := by
  have hs := flat_of_before _ hgv
  obtain ⟨kK, kV, h1, h2⟩ := vk_Sof (args := args) (s := s) (N := 15) (tm := tmJS) (len := lenJS) (byt := bytJS) (A := A) js8 (fun i hi => hs _ (js1 i hi)) (fun i hi => hs _ (js2 i hi)) (fun i hi => hs _ (js3 i hi)) (fun i hi => hs _ (js4 i hi)) (fun i hi j hj => hs _ (js5 i hi j hj)) (fun i j hi hj hne => (js6 i hi j hj hne).elim (fun h => Or.inl (hs _ h)) (fun h => Or.inr (hs _ h))) hA
  refine ⟨kK, kV, h1, fun i hi => ?_, va_Zof (hts _ js11) (hts _ js13) (va_eqi (hs _ js9)) hA, va_Zqof (hts _ js12) (hts _ js14) (hs _ js10) hA, fun w hw => wsNest_of hw (hts _ (wsNest_tbl hw))⟩
  have e1 := hts _ (js7 i hi)
  have e2 := h2 i hi
  exact vk_R.of (A := args) e1 e2
