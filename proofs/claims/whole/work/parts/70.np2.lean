/-! the model's new plan -/
theorem mpS_I {q κ i k : Nat} {μ : Mu} {e : Nat × Nat × Nat} (h : e.1 < 256) (h' : κ < 256) : mI (mpS q μ e) (hd κ i) k = if κ = e.1 ∧ i = q then 0 else mI μ (hd κ i) k := by
  show (if hd κ i = hd e.1 q then 0 else mI μ (hd κ i) k) = _
  by_cases z : κ = e.1 ∧ i = q
  · rw [if_pos z, if_pos ((hd_inj h' h).mpr z)]
  · rw [if_neg z, if_neg (fun y => z ((hd_inj h' h).mp y))]
theorem mpS_L {q κ i k : Nat} {μ : Mu} {e : Nat × Nat × Nat} (h : e.1 < 256) (h' : κ < 256) : mL (mpS q μ e) (hd κ i) k = if κ = e.1 ∧ i = q then 0 else mL μ (hd κ i) k := by
  show (if hd κ i = hd e.1 q then 0 else mL μ (hd κ i) k) = _
  by_cases z : κ = e.1 ∧ i = q
  · rw [if_pos z, if_pos ((hd_inj h' h).mpr z)]
  · rw [if_neg z, if_neg (fun y => z ((hd_inj h' h).mp y))]
theorem fold_I {q κ i k : Nat} (h' : κ < 256) : ∀ (l : List (Nat × Nat × Nat)) (μ : Mu), (∀ e ∈ l, e.1 < 256) → (mI (l.foldl (mpS q) μ) (hd κ i) k = mI μ (hd κ i) k ∨ (i = q ∧ mI (l.foldl (mpS q) μ) (hd κ i) k = 0)) ∧ ((i ≠ q ∨ ∀ e ∈ l, κ ≠ e.1) → mI (l.foldl (mpS q) μ) (hd κ i) k = mI μ (hd κ i) k) ∧ (i = q → (∃ e ∈ l, κ = e.1) → mI (l.foldl (mpS q) μ) (hd κ i) k = 0)
  | [], μ, _ => ⟨Or.inl rfl, fun _ => rfl, fun _ ⟨e, he, _⟩ => (nomatch he)⟩
  | e :: l, μ, hl => by
    obtain ⟨a, b, c⟩ := fold_I (q := q) (i := i) (k := k) h' l (mpS q μ e) (fun z hz => hl z (List.mem_cons_of_mem _ hz))
    have he := mpS_I (q := q) (i := i) (k := k) (μ := μ) (hl e List.mem_cons_self) h'
    refine ⟨?_, fun z => ?_, fun z1 z2 => ?_⟩
    · show _ = _ ∨ _
      rcases a with a | ⟨a1, a2⟩
      · by_cases y : κ = e.1 ∧ i = q
        · rw [if_pos y] at he; exact Or.inr ⟨y.2, a.trans he⟩
        · rw [if_neg y] at he; exact Or.inl (a.trans he)
      · exact Or.inr ⟨a1, a2⟩
    · have : ¬ (κ = e.1 ∧ i = q) := fun y => z.elim (fun w => w y.2) (fun w => w e List.mem_cons_self y.1)
      rw [if_neg this] at he
      exact (b (z.elim Or.inl (fun w => Or.inr (fun e' he' => w e' (List.mem_cons_of_mem _ he'))))).trans he
    · obtain ⟨e', he', hk⟩ := z2
      rcases List.mem_cons.mp he' with y | y
      · rw [y] at hk
        rw [if_pos ⟨hk, z1⟩] at he
        rcases a with a | ⟨a1, a2⟩
        · exact a.trans he
        · exact a2
      · exact c z1 ⟨e', y, hk⟩
theorem nmp_I {μ : Mu} {q κ i k : Nat} (h : κ < 256) : mI (newMP μ q) (hd κ i) k = if 50 ≤ κ ∧ κ ≤ 62 ∧ i = q then 0 else mI μ (hd κ i) k := by
  obtain ⟨a, b, c⟩ := fold_I (q := q) (i := i) (k := k) h mpL (mkA μ (hd 50 q) (1, 12)) (by decide)
  have e0 : mI (mkA μ (hd 50 q) (1, 12)) (hd κ i) k = if κ = 50 ∧ i = q then 0 else mI μ (hd κ i) k := by
    show (if hd κ i = hd 50 q then 0 else mI μ (hd κ i) k) = _
    by_cases z : κ = 50 ∧ i = q
    · rw [if_pos z, if_pos ((hd_inj h (by decide)).mpr z)]
    · rw [if_neg z, if_neg (fun y => z ((hd_inj h (by decide)).mp y))]
  show mI (mpL.foldl (mpS q) (mkA μ (hd 50 q) (1, 12))) (hd κ i) k = _
  by_cases z : 50 ≤ κ ∧ κ ≤ 62 ∧ i = q
  · rw [if_pos z]
    by_cases y : κ = 50
    · rw [if_pos ⟨y, z.2.2⟩] at e0
      rcases a with a | ⟨-, a⟩
      · exact a.trans e0
      · exact a
    · refine c z.2.2 ?_
      have : ∀ κ, κ < 63 → 51 ≤ κ → ∃ e ∈ mpL, κ = e.1 := by decide
      exact this κ (by omega) (by omega)
  · rw [if_neg z]
    rw [if_neg (fun y => z ⟨by omega, by omega, y.2⟩)] at e0
    refine (b ?_).trans e0
    by_cases y : i = q
    · right
      intro e he
      have : ∀ e ∈ mpL, 51 ≤ e.1 ∧ e.1 ≤ 62 := by decide
      have := this e he
      omega
    · exact Or.inl y
