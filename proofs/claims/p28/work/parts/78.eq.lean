/-! one side's cells stay as they are -/
def EqR (lo hi : Nat) (μ μ' : Mu) : Prop := ∀ κ i k, lo ≤ κ → κ ≤ hi → mI μ' (hd κ i) k = mI μ (hd κ i) k ∧ mL μ' (hd κ i) k = mL μ (hd κ i) k ∧ mR μ' (hd κ i) k = mR μ (hd κ i) k
section EQA
variable {lo hi : Nat} {μ μ' : Mu}
theorem EqR.rf : EqR lo hi μ μ := fun _ _ _ _ _ => ⟨rfl, rfl, rfl⟩
theorem EqR.trans {μ1 μ2 μ3 : Mu} (h : EqR lo hi μ1 μ2) (h' : EqR lo hi μ2 μ3) : EqR lo hi μ1 μ3 := fun κ i k a b => ⟨(h' κ i k a b).1.trans (h κ i k a b).1, (h' κ i k a b).2.1.trans (h κ i k a b).2.1, (h' κ i k a b).2.2.trans (h κ i k a b).2.2⟩
theorem EqR.I {κ i k : Nat} (h : EqR lo hi μ μ') (a : lo ≤ κ) (b : κ ≤ hi) : mI μ' (hd κ i) k = mI μ (hd κ i) k := (h κ i k a b).1
theorem EqR.L {κ i k : Nat} (h : EqR lo hi μ μ') (a : lo ≤ κ) (b : κ ≤ hi) : mL μ' (hd κ i) k = mL μ (hd κ i) k := (h κ i k a b).2.1
theorem EqR.R {κ i k : Nat} (h : EqR lo hi μ μ') (a : lo ≤ κ) (b : κ ≤ hi) : mR μ' (hd κ i) k = mR μ (hd κ i) k := (h κ i k a b).2.2
theorem EqR.px {κ i k : Nat} (h : EqR lo hi μ μ') (a : lo ≤ κ) (b : κ ≤ hi) : px μ' (hd κ i) k = px μ (hd κ i) k := by unfold _root_.Jvm.Pilot.@@N@@.px; rw [h.R a b]
theorem EqR.of {own : Nat → Nat → Prop} (f : Fr own μ μ') (hh : hi < 256) (ho : ∀ κ i, lo ≤ κ → κ ≤ hi → ¬ own κ i) : EqR lo hi μ μ' := fun κ i k a b => f.2 κ i (by omega) (ho κ i a b) k
theorem EqR.sub {lo' hi' : Nat} (h : EqR lo hi μ μ') (a : lo ≤ lo') (b : hi' ≤ hi) : EqR lo' hi' μ μ' := fun κ i k c d => h κ i k (by omega) (by omega)
theorem EqR.sI {κ i k : Nat} {x : Int32} (h : EqR lo hi μ μ') (hκ : κ < 256) (hh : hi < 256) (ho : κ < lo ∨ hi < κ) : EqR lo hi μ (setI μ' (hd κ i) k x) := fun κ' i' k' a b => ⟨(rd_ne hκ (by omega) (by omega)).trans (h κ' i' k' a b).1, (h κ' i' k' a b).2⟩
theorem EqR.sL {κ i k : Nat} {x : Int64} (h : EqR lo hi μ μ') (hκ : κ < 256) (hh : hi < 256) (ho : κ < lo ∨ hi < κ) : EqR lo hi μ (setL μ' (hd κ i) k x) := fun κ' i' k' a b => ⟨(h κ' i' k' a b).1, (if_neg (fun z => hd_ne (by omega) hκ (by omega) z.1)).trans (h κ' i' k' a b).2.1, (h κ' i' k' a b).2.2⟩
theorem EqR.sR {κ i k x : Nat} (h : EqR lo hi μ μ') (hκ : κ < 256) (hh : hi < 256) (ho : κ < lo ∨ hi < κ) : EqR lo hi μ (setR μ' (hd κ i) k x) := fun κ' i' k' a b => ⟨(h κ' i' k' a b).1, (h κ' i' k' a b).2.1, (if_neg (fun z => hd_ne (by omega) hκ (by omega) z.1)).trans (h κ' i' k' a b).2.2⟩
theorem EqR.mk {κ i : Nat} {sh : Nat × Nat} (h : EqR lo hi μ μ') (hκ : κ < 256) (hh : hi < 256) (ho : κ < lo ∨ hi < κ) : EqR lo hi μ (mkA μ' (hd κ i) sh) := fun κ' i' k' a b => by
  have ne : hd κ' i' ≠ hd κ i := hd_ne (by omega) hκ (by omega)
  exact ⟨(if_neg ne).trans (h κ' i' k' a b).1, (if_neg ne).trans (h κ' i' k' a b).2.1, (if_neg ne).trans (h κ' i' k' a b).2.2⟩
end EQA
/-! what each side holds, carried on -/
theorem XC.tr {μ μ' : Mu} {w : Nat} {T : PT} {D : DT} (h : XC μ w T D) (e : ∀ κ i k, (κ = 18 ∨ OwW w κ i) → mI μ' (hd κ i) k = mI μ (hd κ i) k) (hr : mR μ' (hd 29 w) 3 = mR μ (hd 29 w) 3) : XC μ' w T D := by
  have hpx : px μ' (hd 29 w) 3 = px μ (hd 29 w) 3 := by unfold px; rw [hr]
  have h60 := h.S60; have h5 := h.P5; have h8 := h.R8
  refine ⟨h.1, h.2.1, h.2.2.1.fr (fun f' i j hr' => ?_), ?_⟩
  · rcases f' with _|_|_|_|_|_|_|_|_|_|_|_|_|f' <;> first | (simp only [rng] at hr'; done) | (simp only [rng] at hr'; exact e _ _ _ (by unfold OwW; omega))
  · rw [hpx, e _ _ _ (Or.inl rfl), e _ _ _ (Or.inl rfl), e _ _ _ (Or.inl rfl), e _ _ _ (Or.inl rfl)]; exact h.2.2.2
theorem codeAt.tr {μ μ' : Mu} {q : Nat} (e2 : ∀ k, mR μ' (hd 22 q) k = mR μ (hd 22 q) k) (e3 : ∀ k, mI μ' (hd 23 q) k = mI μ (hd 23 q) k) (e4 : ∀ k, mI μ' (hd 24 q) k = mI μ (hd 24 q) k) : ∀ (l : List Op) (a : Nat), codeAt μ q a l → codeAt μ' q a l
  | [], _, _ => trivial
  | o :: l, a, h => by
    refine ⟨?_, codeAt.tr e2 e3 e4 l (a + 1) h.2⟩
    have := h.1
    unfold cellOp at this ⊢
    rw [e2, e3, e4]; exact this
theorem XO.tr {μ μ' : Mu} {q : Nat} {T : PT} {C Ct : Nat → List Op} (h : XO μ q T C Ct) (hO : T 6 0 ≤ 20) (e4 : mI μ' (hd 21 q) 4 = mI μ (hd 21 q) 4) (e2 : ∀ k, mR μ' (hd 22 q) k = mR μ (hd 22 q) k) (e3 : ∀ κ k, κ = 23 ∨ κ = 24 → mI μ' (hd κ q) k = mI μ (hd κ q) k)
    (e6 : ∀ j k, j < 20 → mI μ' (hd 26 (21 * q + j)) k = mI μ (hd 26 (21 * q + j)) k ∧ mR μ' (hd 26 (21 * q + j)) k = mR μ (hd 26 (21 * q + j)) k) : XO μ' q T C Ct := by
  obtain ⟨sz, h1, h2, h3⟩ := h
  refine ⟨sz, h1, e4.trans h2, fun k hk => ?_⟩
  obtain ⟨s, g1, g2, g3, g4, g5, g6, g7, g8, g9, g10⟩ := h3 k hk
  have hk' : k < 20 := by omega
  have eI : ∀ j, mI μ' (hd 26 (21 * q + k)) j = mI μ (hd 26 (21 * q + k)) j := fun j => (e6 k j hk').1
  refine ⟨s, (e6 k 0 hk').2.trans g1, ?_, ?_, ?_, ?_, ?_, ?_, g8, codeAt.tr e2 (fun k => e3 23 k (Or.inl rfl)) (fun k => e3 24 k (Or.inr rfl)) _ _ g9, codeAt.tr e2 (fun k => e3 23 k (Or.inl rfl)) (fun k => e3 24 k (Or.inr rfl)) _ _ g10⟩
  all_goals (simp only [eI]; assumption)
/-! both sides, between calls -/
def TpC (μ : Mu) (t : Nat → Nat) (L : Nat) : Prop := L ≤ 2000 ∧ (∀ k, k < L → t k < 256) ∧ mI μ (hd 8 0) 1 = nI L ∧ ∀ k, k < L → mI μ (hd 9 0) k = sb (t k)
/-- the component holds T, D, the orders, the tape and where the error was -/
def CI (μ : Mu) (T : PT) (C Ct : Nat → List Op) (D : DT) (t : Nat → Nat) (L : Nat) (x : Int32) : Prop :=
  XC μ 0 T D ∧ (px μ (hd 8 0) 4 = 1 - px μ (hd 8 0) 3 ∧ px μ (hd 29 0) 3 = px μ (hd 8 0) 3 ∧ XO μ (px μ (hd 8 0) 3) T C Ct) ∧ TpC μ t L ∧ mI μ (hd 8 0) 2 = x
/-- the numbers themselves -/
def NI (T : PT) (C Ct : Nat → List Op) (D : DT) (n : Nat) : Prop := Inv T D ∧ OW T C Ct ∧ OB T Ct ∧ D 0 0 0 ≤ 60 * n ∧ n ≤ 512
section CIS
variable {μ μ' : Mu} {T : PT} {C Ct : Nat → List Op} {D : DT} {t : Nat → Nat} {L : Nat} {x : Int32}
theorem CI.tr (h : CI μ T C Ct D t L x) (e : EqR 8 38 μ μ') : CI μ' T C Ct D t L x := by
  obtain ⟨h1, ⟨h2, h3, h4⟩, ⟨h5, h6, h7, h8⟩, h9⟩ := h
  refine ⟨h1.tr (fun κ i k z => e.I (by unfold OwW at z; omega) (by unfold OwW at z; omega)) (e.R (by decide) (by decide)), ⟨?_, ?_, ?_⟩, ⟨h5, h6, ?_, fun k hk => ?_⟩, ?_⟩
  · rw [e.px (by decide) (by decide), e.px (by decide) (by decide)]; exact h2
  · rw [e.px (by decide) (by decide), e.px (by decide) (by decide)]; exact h3
  · rw [e.px (by decide) (by decide)]
    exact h4.tr h1.O20 (e.I (by decide) (by decide)) (fun k => e.R (by decide) (by decide)) (fun κ k z => e.I (by omega) (by omega)) (fun j k _ => ⟨e.I (by decide) (by decide), e.R (by decide) (by decide)⟩)
  · rw [e.I (by decide) (by decide)]; exact h7
  · rw [e.I (by decide) (by decide)]; exact h8 k hk
  · rw [e.I (by decide) (by decide)]; exact h9
end CIS
