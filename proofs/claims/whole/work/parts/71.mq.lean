/-! the model's reading: the names, one after another -/
def OwZ (q κ i : Nat) : Prop := OwE q κ i ∨ (κ = 40 ∧ i = 0)
def FrZ (q : Nat) (μ μ' : Mu) : Prop := Fr (OwZ q) μ μ' ∧ mR μ' = mR μ ∧ (∀ k, k ≠ 9 → mI μ' (hd 40 0) k = mI μ (hd 40 0) k) ∧ ∀ k, k ≠ 0 → k ≠ 1 → k ≠ 2 → k ≠ 6 → mI μ' (hd 50 q) k = mI μ (hd 50 q) k
theorem FrZ.rf {q : Nat} {μ : Mu} : FrZ q μ μ := ⟨Fr.rf, rfl, fun _ _ => rfl, fun _ _ _ _ _ => rfl⟩
theorem FrZ.trans {q : Nat} {μ1 μ2 μ3 : Mu} (h : FrZ q μ1 μ2) (h' : FrZ q μ2 μ3) : FrZ q μ1 μ3 := ⟨h.1.trans h'.1, h'.2.1.trans h.2.1, fun k a => (h'.2.2.1 k a).trans (h.2.2.1 k a), fun k a b c e => (h'.2.2.2 k a b c e).trans (h.2.2.2 k a b c e)⟩
theorem FrE.z {q : Nat} {μ μ' : Mu} (h : FrE q μ μ') : FrZ q μ μ' := ⟨h.1.mono (fun _ _ z => Or.inl z), h.2.1, fun k _ => h.1.I (by decide) (by unfold OwE; omega), h.2.2⟩
theorem FrZ.s9 {q : Nat} {x : Int32} {μ μ' : Mu} (h : FrZ q μ μ') : FrZ q μ (setI μ' (hd 40 0) 9 x) :=
  ⟨h.1.setI (by decide) (Or.inr ⟨rfl, rfl⟩), h.2.1, fun k a => by rw [rd_k a]; exact h.2.2.1 k a, fun k a b c e => by rw [rd_ne (by decide) (by decide) (by decide)]; exact h.2.2.2 k a b c e⟩
section MQC
variable {t : Nat → Nat} {L q : Nat}
theorem MNS.s9 {x : Nat} {v : Int32} {μ : Mu} (h : MNS μ t L q x) : MNS (setI μ (hd 40 0) 9 v) t L q x := by
  obtain ⟨⟨⟨b1, b2, b3, b4⟩, b5⟩, a2, a3, a4, a5, a6, a7, a8⟩ := h
  have ne : ∀ κ i j, κ < 256 → κ ≠ 40 → mI (setI μ (hd 40 0) 9 v) (hd κ i) j = mI μ (hd κ i) j := fun κ i j h1 h2 => rd_ne (by decide) h1 h2
  refine ⟨⟨⟨b1, b2, (rd_k (by decide)).trans b3, fun k hk => (ne _ _ _ (by decide) (by decide)).trans (b4 k hk)⟩, fun i hi => ?_⟩, a2, fun i hi => (ne _ _ _ (by decide) (by decide)).trans (a3 i hi), ?_, a5, fun i hi hr => (ne _ _ _ (by decide) (by decide)).trans (a6 i hi hr), fun i hi hr => ?_, a8⟩
  · rw [ne _ _ _ (by decide) (by decide), ne _ _ _ (by decide) (by decide), ne _ _ _ (by decide) (by decide)]; exact b5 i hi
  · rw [ne _ _ _ (by decide) (by decide), ne _ _ _ (by decide) (by decide), ne _ _ _ (by decide) (by decide), ne _ _ _ (by decide) (by decide)]; exact a4
  · have hin := arN_in _ rl_lt hr
    rw [ne _ _ _ (by omega) (by omega)]; exact a7 i hi hr
theorem c_MM_read57 {d rc rs : Nat} {Q : Option Value → Mu → Prop} {μ : Mu} (hD : 7 ≤ d) (hLS : ∀ j, j < nT t L → LSj (tK t L) j) (hS : St μ) (hN : MNS μ t L q 0) (h9 : mI μ (hd 40 0) 9 = 0)
    (hgo : ∀ μ', FrZ q μ μ' → St μ' → MNS μ' t L q (nT t L) → Wx K_MM_read d rc rs (fun r μ' => St μ' ∧ Q r μ') 111 [(0, .ref (hd 40 0)), (2, .int 0)] [] μ')
    (her : ∀ μ' e, FrZ q μ μ' → St (setI μ' (hd 40 0) 3 (nI (tS t L e))) → e < nT t L → ern t L e ≠ 0 → (∀ i, i < e → ern t L i = 0) → Q (some (.int (nI (ern t L e)))) (setI μ' (hd 40 0) 3 (nI (tS t L e)))) : Wx K_MM_read d rc rs (fun r μ' => St μ' ∧ Q r μ') 57 [(0, .ref (hd 40 0)), (1, .int (nI (nT t L)))] [] μ := by
  have hn4 := nT_le (t := t) (L := L)
  have key : ∀ x, x ≤ nT t L → ∀ μ', FrZ q μ μ' → St μ' → MNS μ' t L q x → mI μ' (hd 40 0) 9 = nI x → Wx K_MM_read d rc rs (fun r μ' => St μ' ∧ Q r μ') 57 [(0, .ref (hd 40 0)), (1, .int (nI (nT t L)))] [] μ' := by
    refine up_loop (nT t L) ?_ ?_
    · intro μ' f1 f2 f3 f4
      refine g_MM_read_57 (by omega) f2 ⟨fun _ => hgo μ' f1 f2 f3, fun h => absurd ?_ h⟩
      rw [f4]; exact Int32.le_refl _
    · intro x hx ih μ' f1 f2 f3 f4
      have hel := ern_lt (t := t) (L := L) (j := x)
      refine g_MM_read_57 (by omega) f2 ⟨fun h => absurd h ?_, fun _ => ?_⟩
      · rw [f4]; exact nI_ge hx (by omega)
      · rw [f4]
        refine c_MM_errorOf (by omega) f2 f3 hLS hx (fun he μ2 a1 a2 a3 => ⟨0, rfl, fun _ => ?_, fun y => absurd rfl y⟩) (fun he μ2 a1 a2 => ⟨_, rfl, fun y => absurd ((nI_eq (by omega) (by decide)).mp y) he, fun _ => ?_⟩)
        · have e9 : mI μ2 (hd 40 0) 9 = nI x := (a1.1.I (by decide) (by unfold OwE; omega)).trans f4
          rw [e9, nI_1]
          have hS2 : St (setI μ2 (hd 40 0) 9 (nI (x + 1))) := a2
          exact ih _ ((f1.trans a1.z).s9) hS2 a3.s9 rd_eq
        · have e9 : mI μ2 (hd 40 0) 9 = nI x := (a1.1.I (by decide) (by unfold OwE; omega)).trans f4
          have e43 : mI μ2 (hd 43 0) x = nI (tS t L x) := (a1.1.I (by decide) (by unfold OwE; omega)).trans (f3.1.2 x (by omega)).2.1
          rw [e9, nI_clamp (by omega), e43]
          have hS2 : St (setI μ2 (hd 40 0) 3 (nI (tS t L x))) := a2
          exact ⟨vp_in_nI (by omega) (by decide), hS2, her μ2 x (f1.trans a1.z) hS2 hx he f3.2.2.2.2.2.2.2.2⟩
  exact key 0 (Nat.zero_le _) μ FrZ.rf hS hN h9
end MQC
