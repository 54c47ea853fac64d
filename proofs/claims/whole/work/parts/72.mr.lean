/-! the model's code: names become numbers -/
noncomputable def stO (t : Nat → Nat) (L : Nat) (o : Nat × Nat) : Op := if o.1 = 45 then (45, nvT t L (o.2 - 1), 0) else if 18 ≤ o.1 ∧ o.1 ≤ 23 then (o.1, plc t L 1 o.2 o.2 - 1, plc t L 2 (o.2 + 1) (o.2 + 1) - 1) else (o.1, 0, 0)
theorem stO_keep {t : Nat → Nat} {L : Nat} : keepK (stO t L) := fun o => by
  unfold stO
  by_cases h : o.1 = 45
  · rw [if_pos h]; exact h.symm
  · rw [if_neg h]
    by_cases h' : 18 ≤ o.1 ∧ o.1 ≤ 23
    · rw [if_pos h']
    · rw [if_neg h']
def cdR (μ : Mu) (t : Nat → Nat) (L q : Nat) : Nat → RO → Prop
  | _, [] => True
  | a, o :: l => wdsAt μ q a (wdsR t L o) ∧ cdR μ t L q (a + wdR o) l
def opAt (μ : Mu) (q : Nat) : Nat → List Nat → Prop
  | _, [] => True
  | k, v :: l => mI μ (hd 62 q) k = nI v ∧ opAt μ q (k + 1) l
theorem wdsAt_app {μ : Mu} {q : Nat} : ∀ (l l' : List Int32) (a : Nat), wdsAt μ q a (l ++ l') ↔ wdsAt μ q a l ∧ wdsAt μ q (a + l.length) l'
  | [], l', a => ⟨fun h => ⟨trivial, h⟩, fun h => h.2⟩
  | v :: l, l', a => by
    show (mI μ (hd 61 q) a = v ∧ wdsAt μ q (a + 1) (l ++ l')) ↔ (mI μ (hd 61 q) a = v ∧ wdsAt μ q (a + 1) l) ∧ wdsAt μ q (a + (l.length + 1)) l'
    rw [wdsAt_app l l' (a + 1), show a + 1 + l.length = a + (l.length + 1) by omega, and_assoc]
theorem opAt_app {μ : Mu} {q : Nat} : ∀ (l l' : List Nat) (a : Nat), opAt μ q a (l ++ l') ↔ opAt μ q a l ∧ opAt μ q (a + l.length) l'
  | [], l', a => ⟨fun h => ⟨trivial, h⟩, fun h => h.2⟩
  | v :: l, l', a => by
    show (mI μ (hd 62 q) a = nI v ∧ opAt μ q (a + 1) (l ++ l')) ↔ (mI μ (hd 62 q) a = nI v ∧ opAt μ q (a + 1) l) ∧ opAt μ q (a + (l.length + 1)) l'
    rw [opAt_app l l' (a + 1), show a + 1 + l.length = a + (l.length + 1) by omega, and_assoc]
/-- only words of the code change, and none ahead of a -/
def FrW (q a : Nat) (μ μ' : Mu) : Prop := Fr (fun κ i => κ = 61 ∧ i = q) μ μ' ∧ mR μ' = mR μ ∧ ∀ j, j < a → mI μ' (hd 61 q) j = mI μ (hd 61 q) j
theorem wdsAt.le {μ μ' : Mu} {q b : Nat} (f : ∀ j, j < b → mI μ' (hd 61 q) j = mI μ (hd 61 q) j) : ∀ (l : List Int32) (a : Nat), a + l.length ≤ b → wdsAt μ q a l → wdsAt μ' q a l
  | [], _, _, _ => trivial
  | v :: l, a, h, w => by
    rw [List.length_cons] at h
    exact ⟨(f a (by omega)).trans w.1, wdsAt.le f l (a + 1) (by omega) w.2⟩
theorem cdR.ge {μ μ' : Mu} {t : Nat → Nat} {L q b : Nat} (f : ∀ j, b ≤ j → mI μ' (hd 61 q) j = mI μ (hd 61 q) j) : ∀ (l : RO) (a : Nat), b ≤ a → cdR μ t L q a l → cdR μ' t L q a l
  | [], _, _, _ => trivial
  | o :: l, a, h, w => by
    have g : ∀ (l : List Int32) (a : Nat), b ≤ a → wdsAt μ q a l → wdsAt μ' q a l := by
      intro l
      induction l with
      | nil => intro a _ _; trivial
      | cons v l ih => intro a h w; exact ⟨(f a h).trans w.1, ih (a + 1) (by omega) w.2⟩
    exact ⟨g _ a h w.1, cdR.ge f l _ (by omega) w.2⟩
theorem opAt.fr {μ μ' : Mu} {q : Nat} (f : ∀ j, mI μ' (hd 62 q) j = mI μ (hd 62 q) j) : ∀ (l : List Nat) (a : Nat), opAt μ q a l → opAt μ' q a l
  | [], _, _ => trivial
  | v :: l, a, h => ⟨(f a).trans h.1, opAt.fr f l (a + 1) h.2⟩
section MRC
variable {t : Nat → Nat} {L q : Nat}
theorem encO_len {o : Nat × Nat} (h : (o.2 = 0 ∧ (o.1 = 48 ∨ o.1 = 24 ∨ isBin o.1)) ∨ o.1 ∈ opsR) : (encO (stO t L o)).length = wdR o ∧ (opN o = 0 → encO (stO t L o) = wdsR t L o) := by
  have hk : (stO t L o).1 = o.1 := stO_keep o
  by_cases h45 : o.1 = 45
  · have e : stO t L o = (45, nvT t L (o.2 - 1), 0) := by unfold stO; rw [if_pos h45]
    rw [e]
    refine ⟨?_, fun _ => ?_⟩
    · unfold wdR; rw [if_pos h45]; rfl
    · unfold wdsR; rw [if_pos h45]; rfl
  · by_cases hb : 18 ≤ o.1 ∧ o.1 ≤ 23
    · have e : stO t L o = (o.1, plc t L 1 o.2 o.2 - 1, plc t L 2 (o.2 + 1) (o.2 + 1) - 1) := by unfold stO; rw [if_neg h45, if_pos hb]
      rw [e]
      refine ⟨?_, fun z => ?_⟩
      · unfold wdR encO
        rw [if_neg h45, if_neg (show ¬ (o.1 = 45) from h45), if_neg (show ¬ (o.1 = 17) by omega)]
        by_cases h21 : o.1 = 21
        · rw [if_pos h21, if_pos h21]; rfl
        · rw [if_neg h21, if_pos hb, if_neg (show ¬ (o.1 = 21) from h21), if_pos hb]; rfl
      · exfalso
        unfold opN at z
        by_cases h21 : o.1 = 21
        · rw [if_pos h21] at z; cases z
        · rw [if_neg h21, if_pos hb] at z; cases z
    · have e : stO t L o = (o.1, 0, 0) := by unfold stO; rw [if_neg h45, if_neg hb]
      have n21 : ¬ o.1 = 21 := by omega
      have e1 : wdR o = 1 := by unfold wdR; rw [if_neg h45, if_neg n21, if_neg hb]
      have e2 : wdsR t L o = if o.1 = 17 then [nI 17] else if o.1 = 48 then [nI 33] else if o.1 = 24 then [nI 24] else [nI (mop o.1)] := by
        unfold wdsR; rw [if_neg h45, if_neg n21, if_neg hb]
      have e3 : encO (o.1, 0, 0) = if o.1 = 17 then [nI 17] else if o.1 = 48 then [nI 33] else if o.1 = 24 then [nI 24] else [nI (mop o.1)] := by
        show (if o.1 = 45 then _ else if o.1 = 17 then [nI 17] else if o.1 = 21 then _ else if 18 ≤ o.1 ∧ o.1 ≤ 23 then _ else if o.1 = 48 then [nI 33] else if o.1 = 24 then [nI 24] else [nI (mop o.1)]) = _
        rw [if_neg h45]
        by_cases h17 : o.1 = 17
        · rw [if_pos h17]; exact (if_pos h17).symm
        · rw [if_neg h17, if_neg n21, if_neg hb]; exact (if_neg h17).symm
      rw [e, e1, e2, e3]
      refine ⟨?_, fun _ => rfl⟩
      by_cases h17 : o.1 = 17
      · rw [if_pos h17]; rfl
      · rw [if_neg h17]
        by_cases h48 : o.1 = 48
        · rw [if_pos h48]; rfl
        · rw [if_neg h48]
          by_cases h24 : o.1 = 24
          · rw [if_pos h24]; rfl
          · rw [if_neg h24]; rfl
end MRC
