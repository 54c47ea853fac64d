/-! the first memory: the constants' arrays -/
theorem fm_eqR' {args : Array Value} {s : State} {t1 t2 : Term} {a : Nat} (h : (Cond.eq t1 t2).before args s = true) (h1 : t1.eval args s none [] s = some (.ref a)) : t2.eval args s none [] s = some (.ref a) := by
  cases hv : t2.eval args s none [] s with
  | none => simp [Cond.before, Cond.holds, Cond.value, hv, h1] at h
  | some w =>
    simp only [Cond.before, Cond.holds, Cond.value, hv, h1] at h
    cases w <;> simp_all
def ArrC (s : State) (args : Array Value) (t : Term) (ty : FieldType) (N : Nat) (f : Nat → Value) (a : Nat) : Prop := t.eval args s none [] s = some (.ref a) ∧ ∃ cell, s.heap[a]? = some cell ∧ cell.vm ≠ .unknown ∧ cell.vm.isStatics = false ∧ arrAt s ty N f cell
theorem fm_A {args : Array Value} {s : State} (hw : ∀ w ∈ nwL, w.before args s = true) {aS aK : Nat → Nat} (hS : ∀ i, i < 81 → (sTm i).eval args s none [] s = some (.ref (aS i))) (hK : ∀ i, i < 49 → (kS i).eval args s none [] s = some (.ref (aK i))) :
    (∃ a, ArrC s args tKI (.object "ParishBoards$Kind") 49 (fun j => .ref (aK j)) a) ∧ (∃ a, ArrC s args tSW .int 49 (fun j => .int (kSw.getD j 0)) a) ∧ ∀ i, i < 2 → ∃ a, ArrC s args (tDg i) .byte 100 (fun j => .int (cI (hd 5 i) j)) a := by
  refine ⟨?_, ?_, ?_⟩
  · obtain ⟨a, cell, h, r⟩ := fm_arr (f := fun j => .ref (aK j)) (by decide) (nw_at hw rw_KI.1) (va_eqt (nw_at hw rw_KI.2)) (fun j hj => fm_eqR (nw_at hw (rw_KE j hj)) (hK j hj))
    exact ⟨a, h, cell, r⟩
  · obtain ⟨a, cell, h, r⟩ := fm_arr (f := fun j => .int (kSw.getD j 0)) (by decide) (nw_at hw rw_SW.1) (va_eqt (nw_at hw rw_SW.2)) (fun j hj => va_eqt (nw_at hw (rw_WE j hj)))
    exact ⟨a, h, cell, r⟩
  · intro i hi
    obtain ⟨a, cell, h, r⟩ := fm_arr (f := fun j => .int (cI (hd 5 i) j)) (by decide) (nw_at hw (rw_DG i hi).1) (va_eqt (nw_at hw (rw_DG i hi).2)) (fun j hj => va_eqt (nw_at hw (rw_GE i hi j hj)))
    exact ⟨a, h, cell, r⟩
