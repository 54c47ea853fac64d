/-! the first memory: statics, messages -/
theorem tw_at {args : Array Value} {s : State} (hts : ∀ w ∈ lw_tbl, w.before args s = true) {i : Nat} {w : Cond} (h : tables_1[i]? = some w) : w.before args s = true := hts w (List.mem_append_right _ (List.mem_of_getElem? h))
theorem fm_st {args : Array Value} {s : State} {C n d : String} {v : Value} (hl : (Cond.laysStatic C n d).before args s = true) (hini : (Cond.initialized C).before args s = true) (hv : (Term.static C n d).eval args s none [] s = some v) : statAt s s.heap s.heap.size C n d v := by
  obtain ⟨cf, kf, fi, f, a, cell, h1, h2, h3, h4, h5, h6, h7, -⟩ := va_Zof (A := fun _ => False) hl hini hv (fun _ _ h => h)
  exact ⟨cf, kf, fi, f, a, cell, h1, h2, h3, h4, h5, h6, h7, (Array.getElem?_eq_some_iff.mp h5).1⟩
theorem fm_SQ {args : Array Value} {s : State} (hw : ∀ w ∈ nwL, w.before args s = true) (hts : ∀ w ∈ lw_tbl, w.before args s = true) : SQ s s.heap s.heap.size :=
  ⟨va_Zqof (tw_at hts tw_SI.1) (tw_at hts tw_SI.2) (nw_at hw rw_SI) (fun _ ha h => absurd ha (Nat.not_lt.mpr h)),
   vx_Zqof (tw_at hts tw_US.1) (tw_at hts tw_US.2) (nw_at hw rw_US) (fun _ ha h => absurd ha (Nat.not_lt.mpr h)),
   vx_Zqof (tw_at hts tw_SU.1) (tw_at hts tw_SU.2) (nw_at hw rw_SU) (fun _ ha h => absurd ha (Nat.not_lt.mpr h))⟩
theorem gD {α : Type} {l : List α} {e d : α} (h : e ∈ l) : ∃ i, i < l.length ∧ l.getD i d = e := by
  obtain ⟨i, hi, he⟩ := List.getElem_of_mem h
  exact ⟨i, hi, by rw [List.getD_eq_getElem?_getD, List.getElem?_eq_getElem hi, Option.getD_some]; exact he⟩
theorem fm_XL {args : Array Value} {s : State} (hw : ∀ w ∈ nwL, w.before args s = true) (hts : ∀ w ∈ lw_tbl, w.before args s = true) : XL s := by
  refine ⟨fun e he => ?_, fun w hw' => ?_, fun q hq => ?_⟩
  · obtain ⟨i, hi, rfl⟩ := gD (d := (0, "")) he
    have hi' : i < 19 := hi
    obtain ⟨a, c, cA, kA, q1, -⟩ := Cond.exactly_spec (args := args) (first := s) (o := none) (s := s) (idx := []) (nw_at hw (rw_ms i hi'))
    exact ⟨a, vk_R.of (A := args) (tw_at hts (tw_ms i hi')) q1⟩
  · obtain ⟨i, hi, rfl⟩ := gD (d := Cond.initialized "") hw'
    have hi' : i < 8 := hi
    exact xw_moves (Vm.Alike.refl _) (xws_xw _ hw') (tw_at hts (tw_xw i hi'))
  · obtain ⟨i, hi, rfl⟩ := gD (d := ("", "")) hq
    have hi' : i < 2 := hi
    exact va_Nc.of (nw_at hw (rw_nc i hi'))
theorem ST_eq : ST = [("ParishBoards", "KINDS", "[LParishBoards$Kind;", .ref (hd 4 0)), ("ParishBoards$1", "$SwitchMap$ParishBoards$Kind", "[I", .ref (hd 3 0)), ("java/lang/Integer", "DigitOnes", "[B", .ref (hd 5 0)), ("java/lang/String", "COMPACT_STRINGS", "Z", .int 1)] ++ (List.range 49).map (fun i => ("ParishBoards$Kind", kNm.getD i "", "LParishBoards$Kind;", Value.ref (hd 0 i))) ++ [("java/lang/Integer", "DigitTens", "[B", .ref (hd 5 1))] := by rfl
