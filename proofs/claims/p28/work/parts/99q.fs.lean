/-! the first memory: the strings -/
theorem nw_at {args : Array Value} {s : State} (hw : ∀ w ∈ nwL, w.before args s = true) {i : Nat} {w : Cond} (h : nwL[i]? = some w) : w.before args s = true := hw w (List.mem_of_getElem? h)
theorem kTx_len : ∀ i, i < 81 → (kTx.getD i []).length < 100 := by decide
def StrAt (s : State) (args : Array Value) (i a v : Nat) : Prop := (sTm i).eval args s none [] s = some (.ref a) ∧ (∃ cell, s.heap[a]? = some cell ∧ cell.vm ≠ .unknown ∧ cell.vm.isStatics = false ∧ objAt s E_Str (fun k _ => if k = 0 then .ref v else .int 0) cell) ∧ ∃ cell, s.heap[v]? = some cell ∧ cell.vm ≠ .unknown ∧ cell.vm.isStatics = false ∧ arrAt s .byte (kTx.getD i []).length (fun j => .int ((kTx.getD i []).getD j 0)) cell
theorem fm_S {args : Array Value} {s : State} (hw : ∀ w ∈ nwL, w.before args s = true) : ∃ aS aV : Nat → Nat, ∀ i, i < 81 → StrAt s args i (aS i) (aV i) := by
  have h0 : ∀ i : Nat, ∃ q : Nat × Nat, i < 81 → StrAt s args i q.1 q.2 := by
    intro i
    by_cases hi : i < 81
    · obtain ⟨a, c, cA, kA, q1, -⟩ := Cond.exactly_spec (args := args) (first := s) (o := none) (s := s) (idx := []) (t := sTm i) (cls := "java/lang/String") (nw_at hw (rw_sE i hi))
      have hN : (kTx.getD i []).length < 2 ^ 31 := by have := kTx_len i hi; omega
      obtain ⟨v, cell, hv, c1, c2, c3, c4⟩ := fm_arr (f := fun j => .int ((kTx.getD i []).getD j 0)) hN (nw_at hw (rw_sA i hi)) (va_eqt (nw_at hw (rw_sN i hi))) (fun j hj => va_eqt (nw_at hw (rw_sB i hi j hj)))
      exact ⟨(a, v), fun _ => ⟨q1, fm_obj (T := T_Str) (y := y_Str) (v := fun k _ => if k = 0 then .ref v else .int 0) (nw_at hw (rw_sE i hi)) q1 hv (va_eqt (nw_at hw (rw_sC i hi))), cell, c1, c2, c3, c4⟩⟩
    · exact ⟨(0, 0), fun h => absurd h hi⟩
  obtain ⟨ad, had⟩ := Classical.axiomOfChoice h0
  exact ⟨fun i => (ad i).1, fun i => (ad i).2, had⟩
