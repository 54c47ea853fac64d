/-! the first memory: the Kinds -/
theorem fm_eqR {args : Array Value} {s : State} {t1 t2 : Term} {a : Nat} (h : (Cond.eq t1 t2).before args s = true) (h2 : t2.eval args s none [] s = some (.ref a)) : t1.eval args s none [] s = some (.ref a) := by
  cases hv : t1.eval args s none [] s with
  | none => simp [Cond.before, Cond.holds, Cond.value, hv] at h
  | some w =>
    simp only [Cond.before, Cond.holds, Cond.value, hv, h2] at h
    cases w <;> simp_all
theorem kTe_min : ∀ i, i < 49 → (.string "ParishBoards$Kind" (kTe.getD i 0) : Term) = sTm (min i 44) := by decide +kernel
def KindAt (s : State) (args : Array Value) (i a x : Nat) : Prop := (kS i).eval args s none [] s = some (.ref a) ∧ ∃ cell, s.heap[a]? = some cell ∧ cell.vm ≠ .unknown ∧ cell.vm.isStatics = false ∧ objAt s E_Ki (fun k _ => if k = 0 then .int (Int32.ofNat i) else .ref x) cell
theorem fm_K {args : Array Value} {s : State} (hw : ∀ w ∈ nwL, w.before args s = true) {aS : Nat → Nat} (hS : ∀ i, i < 81 → (sTm i).eval args s none [] s = some (.ref (aS i))) : ∃ aK : Nat → Nat, ∀ i, i < 49 → KindAt s args i (aK i) (aS (min i 44)) := by
  have h0 : ∀ i : Nat, ∃ q : Nat, i < 49 → KindAt s args i q (aS (min i 44)) := by
    intro i
    by_cases hi : i < 49
    · obtain ⟨a, c, cA, kA, q1, -⟩ := Cond.exactly_spec (args := args) (first := s) (o := none) (s := s) (idx := []) (t := kS i) (cls := "ParishBoards$Kind") (nw_at hw (rw_ex i hi))
      have h1 := nw_at hw (rw_tt i hi)
      rw [kTe_min i hi] at h1
      exact ⟨a, fun _ => ⟨q1, fm_obj (T := T_Ki) (y := y_Ki) (v := fun k _ => if k = 0 then .int (Int32.ofNat i) else .ref (aS (min i 44))) (nw_at hw (rw_ex i hi)) q1 (va_eqt (nw_at hw (rw_or i hi))) (fm_eqR h1 (hS _ (by omega)))⟩⟩
    · exact ⟨0, fun h => absurd h hi⟩
  exact Classical.axiomOfChoice h0
