/-! the first memory: cells out of the premises -/
theorem fm_fld {args : Array Value} {s : State} {t : Term} {a : Nat} {o n d : String} {v : Value} {cell : Cell} (ht : t.eval args s none [] s = some (.ref a)) (hc : s.heap[a]? = some cell) (hv : (Term.field t o n d).eval args s none [] s = some v) : cell.vm ≠ .unknown ∧ ∃ i, SlotIn s o n d i ∧ cell.slots[i]? = some v := by
  cases hfo : s.fieldFound? o n d with
  | none =>
    rw [va_fe ht] at hv
    simp [State.fieldOf?, State.fieldNamed?, hfo] at hv
  | some x =>
    obtain ⟨cf, k, fi, f⟩ := x
    obtain ⟨g1, cell', g2, g3, -, -, g6⟩ := Term.field_spec hfo ht hv
    cases hc.symm.trans g2
    exact ⟨g3, f.slot, ⟨cf, k, fi, f, hfo, rfl, g1⟩, g6⟩
/-- an object of two fields -/
theorem fm_obj {args : Array Value} {s : State} {t : Term} {a : Nat} {nm : String} {T : u_T} {y : Nat → FieldType} {v : Nat → FieldType → Value} (hex : (Cond.exactly t nm).before args s = true) (ht : t.eval args s none [] s = some (.ref a)) (h0 : (Term.field t (T 0).1 (T 0).2.1 (T 0).2.2.1).eval args s none [] s = some (v 0 (y 0))) (h1 : (Term.field t (T 1).1 (T 1).2.1 (T 1).2.2.1).eval args s none [] s = some (v 1 (y 1))) :
    ∃ cell, s.heap[a]? = some cell ∧ cell.vm ≠ .unknown ∧ cell.vm.isStatics = false ∧ objAt s (nm, T, 2, y) v cell := by
  obtain ⟨a2, c, cell, kA, q1, q2, q3, q4, q5, q6, -⟩ := Cond.exactly_spec (args := args) (first := s) (o := none) (s := s) (idx := []) (t := t) (cls := nm) hex
  cases ht.symm.trans q1
  obtain ⟨g0, i0, s0, e0⟩ := fm_fld ht q3 h0
  obtain ⟨-, i1, s1, e1⟩ := fm_fld ht q3 h1
  refine ⟨cell, q3, g0, q5, by rw [q6]; exact q2, fun k hk => ?_⟩
  rcases (by have : k < 2 := hk; omega : k = 0 ∨ k = 1) with rfl | rfl
  · exact ⟨i0, s0, e0⟩
  · exact ⟨i1, s1, e1⟩
/-- an array -/
theorem fm_arr {args : Array Value} {s : State} {tm : Term} {ty : FieldType} {N : Nat} {f : Nat → Value} (hN : N < 2 ^ 31) (harr : (Cond.arrayOf tm ty).before args s = true) (hlen : (Term.length tm).eval args s none [] s = some (.int (Int32.ofNat N))) (hel : ∀ j : Nat, j < N → (Term.elem tm (.int (Int32.ofNat j))).eval args s none [] s = some (f j)) :
    ∃ (a : Nat) (cell : Cell), tm.eval args s none [] s = some (.ref a) ∧ s.heap[a]? = some cell ∧ cell.vm ≠ .unknown ∧ cell.vm.isStatics = false ∧ arrAt s ty N f cell := by
  obtain ⟨t, ht, cell, c1, c2, c3, c4, c5, c6, -⟩ := va_Tof (A := fun _ => False) hN harr hlen hel (fun _ _ => id)
  obtain ⟨t', cell', ht', hat, -⟩ := Term.length_spec hlen
  cases ht.symm.trans ht'
  obtain ⟨hcell, h2, h3, h4⟩ := State.arrayAt?_spec hat
  cases c1.symm.trans hcell
  exact ⟨t, cell, ht, c1, c3, by first | exact h3 | exact h4, c2, c4, c5, c6⟩
