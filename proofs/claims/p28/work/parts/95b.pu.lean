/-! what is known, added up -/
section LB
variable {T : PT} {D : DT}
theorem sumN_swap {f : Nat → Nat → Nat} {m : Nat} : ∀ n, sumN (fun i => sumN (fun j => f i j) n) m = sumN (fun j => sumN (fun i => f i j) m) n
  | 0 => sumN_zero _ (fun _ _ => rfl)
  | n + 1 => by
    have ih := sumN_swap (f := f) (m := m) n
    show sumN (fun i => sumN (fun j => f i j) n + f i n) m = sumN (fun j => sumN (fun i => f i j) m) n + sumN (fun i => f i n) m
    rw [sumN_add, ih]
theorem kn_tot (hI : Inv T D) {b : Nat} (hb : b < T 0 0) : knownB D b = sumN (fun k => bN (kn D b k)) (D 1 0 0) := by
  rw [hI.2.2.1.known hI.1 hb]
  have e1 : sumN (fun p => D 6 b p) (T 0 0) = sumN (fun o => sumN (fun k => bN (pKn D b k ∧ D 4 k 0 = o)) (D 1 0 0)) (T 0 0) := sumN_congr _ (fun o ho => (kn_cnt hI hb ho).symm)
  rw [e1, sumN_swap]
  refine sumN_congr _ (fun k hk => ?_)
  have h4 := (hI.1.2.1 k hk).1
  by_cases z : kn D b k
  · rw [bN_t z, ← sumN_one (c := 1) (r := D 4 k 0) _ h4]
    refine sumN_congr _ (fun o _ => ?_)
    by_cases y : D 4 k 0 = o
    · rw [bN_t ⟨⟨hk, z⟩, y⟩, if_pos y]
    · rw [bN_f (fun w => y w.2), if_neg y]
  · rw [bN_f z]
    exact sumN_zero _ (fun o _ => bN_f (fun w => z w.1.2))
theorem kn_wait (hI : Inv T D) (h2 : Iv T D) {b : Nat} (hb : b < T 0 0) : knownB D b + D 11 b 0 ≤ D 1 0 0 := by
  have h60 := hI.1.1.2.2.2.2.1
  rw [kn_tot hI hb, ← wait_N hI hb, sumN_ext (f := fun k => bN (pWt D b k)) h60 (fun k hk hk6 => by
    rw [bN_f]
    intro z
    have := (h2.1 b k hb hk6 z).1
    omega), ← sumN_add]
  have : sumN (fun k => bN (kn D b k) + bN (pWt D b k)) (D 1 0 0) ≤ D 1 0 0 * 1 := sumN_le _ (fun k hk => by
    by_cases z : pWt D b k
    · have := (h2.1 b k hb (by omega) z).2
      rw [bN_f this, bN_t z]; exact Nat.le_refl _
    · rw [bN_f z]; exact bN_le)
  omega
theorem known_sum (hI : Inv T D) : knownAll T D = sumN (fun k => knowersN T D k) (D 1 0 0) := by
  unfold knownAll knowersN
  rw [← sumN_swap]
  exact sumN_congr _ (fun b hb => kn_tot hI hb)
theorem mi_no : ∀ j s, (∀ k, s ≤ k → k < s + j → ¬ knowersN T D k < T 0 0) → miR T D j s = -1
  | 0, _, _ => rfl
  | j + 1, s, h => by
    rw [miR, ifP_f (h s (Nat.le_refl _) (by omega))]
    exact mi_no j (s + 1) (fun k h1 h2 => h k (by omega) (by omega))
theorem mi_or : ∀ j s, (miR T D j s = -1 ∧ ∀ k, s ≤ k → k < s + j → ¬ knowersN T D k < T 0 0) ∨ ∃ k, s ≤ k ∧ k < s + j ∧ knowersN T D k < T 0 0 ∧ miR T D j s = nI k ∧ ∀ i, s ≤ i → i < k → ¬ knowersN T D i < T 0 0
  | 0, s => Or.inl ⟨rfl, fun k h1 h2 => by omega⟩
  | j + 1, s => by
    rw [miR]
    by_cases z : knowersN T D s < T 0 0
    · rw [ifP_t z]
      exact Or.inr ⟨s, Nat.le_refl _, by omega, z, rfl, fun i h1 h2 => by omega⟩
    · rw [ifP_f z]
      rcases mi_or j (s + 1) with ⟨h1, h2⟩ | ⟨k, h1, h2, h3, h4, h5⟩
      · refine Or.inl ⟨h1, fun k a b => ?_⟩
        rcases Nat.eq_or_lt_of_le a with y | y
        · rw [← y]; exact z
        · exact h2 k y (by omega)
      · refine Or.inr ⟨k, by omega, by omega, h3, h4, fun i a b => ?_⟩
        rcases Nat.eq_or_lt_of_le a with y | y
        · rw [← y]; exact z
        · exact h5 i y b
/-- none is missed just if all is known -/
theorem mi_all (hI : Inv T D) : (∀ k, k < D 1 0 0 → ¬ knowersN T D k < T 0 0) ↔ knownAll T D = T 0 0 * D 1 0 0 := by
  rw [known_sum hI]
  have hle : ∀ k, knowersN T D k ≤ T 0 0 := fun k => by
    have : knowersN T D k ≤ T 0 0 * 1 := sumN_le _ (fun _ _ => bN_le)
    omega
  constructor
  · intro h
    have : ∀ n, n ≤ D 1 0 0 → sumN (fun k => knowersN T D k) n = T 0 0 * n := by
      intro n
      induction n with
      | zero => intro _; rfl
      | succ n ih =>
        intro hn
        have h1 := h n (by omega)
        have h2 := hle n
        rw [sumN, ih (by omega), Nat.mul_succ]
        omega
    exact this _ (Nat.le_refl _)
  · intro h k hk z
    have h1 := sumN_lt (f := fun k => knowersN T D k) (b := T 0 0) (s := k) (D 1 0 0) (fun j _ => hle j) hk (by omega)
    rw [Nat.mul_comm] at h1
    omega
end LB
