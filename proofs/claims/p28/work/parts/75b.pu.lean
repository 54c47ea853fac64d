/-! plain rows over names -/
section PT2
variable {t : Nat → Nat} {L : Nat}
theorem ern_lt {j : Nat} : ern t L j < 10 := by
  unfold ern
  dsimp only
  have h : ∀ {c : Prop} [Decidable c] {x y : Nat}, x < 10 → y < 10 → (if c then x else y) < 10 := fun {c} _ {x y} hx hy => by
    by_cases z : c
    · rw [if_pos z]; exact hx
    · rw [if_neg z]; exact hy
  exact h (h (by decide) (h (by decide) (by decide))) (h (h (by decide) (by decide)) (h (h (by decide) (h (by decide) (by decide))) (h (h (by decide) (by decide)) (h (h (by decide) (by decide)) (h (h (by decide) (by decide)) (h (h (by decide) (by decide)) (by decide)))))))
noncomputable def stO (t : Nat → Nat) (L : Nat) (o : Nat × Nat) : Op := if o.1 = 45 then (45, nvT t L (o.2 - 1), 0) else if 18 ≤ o.1 ∧ o.1 ≤ 23 then (o.1, plc t L 1 o.2 o.2 - 1, plc t L 2 (o.2 + 1) (o.2 + 1) - 1) else (o.1, 0, 0)
theorem stO_keep {t : Nat → Nat} {L : Nat} : keepK (stO t L) := fun o => by
  unfold stO
  by_cases h : o.1 = 45
  · rw [if_pos h]; exact h.symm
  · rw [if_neg h]
    by_cases h' : 18 ≤ o.1 ∧ o.1 ≤ 23
    · rw [if_pos h']
    · rw [if_neg h']
end PT2
theorem flatO_mem {a : Nat × Nat} : ∀ os : List Ord3, a ∈ flatO os → ∃ o ∈ os, a ∈ o.2.1 ++ o.2.2
  | [], h => by cases h
  | o :: os, h => by
    rcases List.mem_append.mp (show a ∈ (o.2.1 ++ o.2.2) ++ flatO os from h) with h | h
    · exact ⟨o, List.mem_cons_self, h⟩
    · obtain ⟨o', h1, h2⟩ := flatO_mem os h
      exact ⟨o', List.mem_cons_of_mem _ h1, h2⟩
theorem LnOK.ref {K : Nat → Nat} {n p p' : Nat} {os : List Ord3} (h : LnOK K n p p' os) : ∀ o ∈ flatO os, refF K n o := fun a ha => by
  obtain ⟨o, h1, h2⟩ := flatO_mem os ha
  exact (h.2.2.2.2.2.2.2 o h1).2.2.2.2 a h2
