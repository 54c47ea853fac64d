/-! the words of a list, as they lie -/
section MUC
variable {t : Nat → Nat} {L q : Nat} {μ : Mu}
theorem cdR_of : ∀ (l : RO) (a : Nat) (W : List Int32), (∀ i, i < (wdsO t L l).length → mI μ (hd 61 q) (a + i) = (wdsO t L l).getD i 0) → cdR μ t L q a l
  | [], _, _, _ => trivial
  | o :: l, a, W, h => by
    have hl : (wdsO t L (o :: l)).length = wdR o + (wdsO t L l).length := by rw [wdsO, List.length_append, wdsR_len]
    have g : ∀ (w : List Int32) (a : Nat), (∀ i, i < w.length → mI μ (hd 61 q) (a + i) = w.getD i 0) → wdsAt μ q a w := by
      intro w
      induction w with
      | nil => intro a _; trivial
      | cons v w ih =>
        intro a hh
        refine ⟨hh 0 (by rw [List.length_cons]; omega), ih (a + 1) (fun i hi => ?_)⟩
        have := hh (i + 1) (by rw [List.length_cons]; omega)
        rw [show a + 1 + i = a + (i + 1) by omega, this, List.getD_cons_succ]
    refine ⟨g _ a (fun i hi => ?_), cdR_of l (a + wdR o) W (fun i hi => ?_)⟩
    · rw [h i (by rw [hl, ← wdsR_len (t := t) (L := L)]; omega), wdsO, List.getD_eq_getElem?_getD, List.getElem?_append_left hi, ← List.getD_eq_getElem?_getD]
    · have := h (wdR o + i) (by rw [hl]; omega)
      rw [← Nat.add_assoc] at this
      rw [this, wdsO, List.getD_eq_getElem?_getD, List.getElem?_append_right (by rw [wdsR_len]; omega), wdsR_len, Nat.add_sub_cancel_left, ← List.getD_eq_getElem?_getD]
theorem opAt_of : ∀ (O : List Nat) (k : Nat), (∀ i, i < O.length → mI μ (hd 62 q) (k + i) = nI (O.getD i 0)) → opAt μ q k O
  | [], _, _ => trivial
  | v :: O, k, h => by
    refine ⟨h 0 (by rw [List.length_cons]; omega), opAt_of O (k + 1) (fun i hi => ?_)⟩
    have := h (i + 1) (by rw [List.length_cons]; omega)
    rw [show k + 1 + i = k + (i + 1) by omega, this, List.getD_cons_succ]
/-- a part of the code -/
theorem cdM_app : ∀ (l l' : List Op) (a : Nat), cdM μ q a (l ++ l') ↔ cdM μ q a l ∧ cdM μ q (a + encN l) l'
  | [], _, _ => ⟨fun h => ⟨trivial, h⟩, fun h => h.2⟩
  | o :: l, l', a => by
    show (wdsAt μ q a (encO o) ∧ cdM μ q (a + (encO o).length) (l ++ l')) ↔ (wdsAt μ q a (encO o) ∧ cdM μ q (a + (encO o).length) l) ∧ cdM μ q (a + ((encO o).length + encN l)) l'
    rw [cdM_app l l' (a + (encO o).length), Nat.add_assoc, and_assoc]
theorem encN_of : ∀ (l : RO), (∀ o ∈ l, refF (tK t L) (nT t L) o) → encN (l.map (stO t L)) = wdL l
  | [], _ => rfl
  | o :: l, h => by
    have := (encO_len (t := t) (L := L) (o := o) ((h o List.mem_cons_self).elim Or.inl (fun h => Or.inr h.2.1))).1
    show (encO (stO t L o)).length + encN (l.map (stO t L)) = wdR o + wdL l
    rw [this, encN_of l (fun o' h' => h o' (List.mem_cons_of_mem _ h'))]
end MUC
