/-! worlds begun anew and copied: the component's parts -/
section CPA
variable {d rc rs : Nat} {Q : Option Value → Mu → Prop} {μ : Mu}
def OwBd (b κ i : Nat) : Prop := (35 ≤ κ ∧ κ ≤ 38) ∧ i = b
theorem c_Bd_clear {b : Nat} (hD : 1 ≤ d) (hS : St μ) (hb : b < 10) (hQ : ∀ μ', Fr (OwBd b) μ μ' → mR μ' = mR μ → St μ' → (∀ p, p < 5 → mI μ' (hd 36 b) p = 0) → (∀ k, k < 30 → mI μ' (hd 37 b) k = -1) → (∀ s, s < 60 → mI μ' (hd 38 b) s = 0) → mI μ' (hd 35 b) 3 = 0 → Q none μ') : Cal K_Bd_clear d rc rs [.ref (hd 35 b)] μ Q := by
  have k50 : ∀ s, s ≤ 60 → ∀ μ', Fr (OwBd b) μ μ' → mR μ' = mR μ → St μ' → (∀ p, p < 5 → mI μ' (hd 36 b) p = 0) → (∀ k, k < 30 → mI μ' (hd 37 b) k = -1) → (∀ j, j < s → mI μ' (hd 38 b) j = 0) → Wx K_Bd_clear d rc rs (fun r μ' => St μ' ∧ Q r μ') 50 [(0, .ref (hd 35 b)), (1, .int (nI s))] [] μ' := by
    refine up_loop 60 (fun μ' f1 f2 f3 g6 g7 g8 => ?_) (fun s hs ih μ' f1 f2 f3 g6 g7 g8 => ?_)
    · have hS1 : St (setI μ' (hd 35 b) 3 0) := f3
      refine g_Bd_clear_50 hD hb f3 ⟨fun _ => ⟨hS1, hQ _ (f1.setI (by decide) ⟨by decide, rfl⟩) f2 hS1 (fun p hp => ?_) (fun k hk => ?_) (fun s hs => ?_) rd_eq⟩, fun h => absurd (Int32.le_refl _) h⟩
      · rw [rd_ne (by decide) (by decide) (by decide)]; exact g6 p hp
      · rw [rd_ne (by decide) (by decide) (by decide)]; exact g7 k hk
      · rw [rd_ne (by decide) (by decide) (by decide)]; exact g8 s hs
    · refine g_Bd_clear_50 hD hb f3 ⟨fun h => absurd h (nI_ge hs (by decide)), fun _ => ⟨vp_in_nI hs (by decide), ?_⟩⟩
      rw [nI_clamp (by omega), nI_1]
      have hS1 : St (setI μ' (hd 38 b) s (vp_nar .boolean 0)) := f3
      refine ih _ (f1.setI (by decide) ⟨by decide, rfl⟩) f2 hS1 (fun p hp => ?_) (fun k hk => ?_) (fun j hj => ?_)
      · rw [rd_ne (by decide) (by decide) (by decide)]; exact g6 p hp
      · rw [rd_ne (by decide) (by decide) (by decide)]; exact g7 k hk
      · by_cases z : j = s
        · rw [z, rd_eq]; rfl
        · rw [rd_k z]; exact g8 j (by omega)
  have k26 : ∀ s, s ≤ 30 → ∀ μ', Fr (OwBd b) μ μ' → mR μ' = mR μ → St μ' → (∀ p, p < 5 → mI μ' (hd 36 b) p = 0) → (∀ k, k < s → mI μ' (hd 37 b) k = -1) → Wx K_Bd_clear d rc rs (fun r μ' => St μ' ∧ Q r μ') 26 [(0, .ref (hd 35 b)), (1, .int (nI s))] [] μ' := by
    refine up_loop 30 (fun μ' f1 f2 f3 g6 g7 => ?_) (fun s hs ih μ' f1 f2 f3 g6 g7 => ?_)
    · exact g_Bd_clear_26 hD hb f3 ⟨fun _ => k50 0 (by decide) μ' f1 f2 f3 g6 g7 (fun j hj => absurd hj (Nat.not_lt_zero _)), fun h => absurd (Int32.le_refl _) h⟩
    · refine g_Bd_clear_26 hD hb f3 ⟨fun h => absurd h (nI_ge hs (by decide)), fun _ => ⟨vp_in_nI hs (by decide), ?_⟩⟩
      rw [nI_clamp (by omega), nI_1]
      have hS1 : St (setI μ' (hd 37 b) s (-1)) := f3
      refine ih _ (f1.setI (by decide) ⟨by decide, rfl⟩) f2 hS1 (fun p hp => ?_) (fun j hj => ?_)
      · rw [rd_ne (by decide) (by decide) (by decide)]; exact g6 p hp
      · by_cases z : j = s
        · rw [z, rd_eq]
        · rw [rd_k z]; exact g7 j (by omega)
  have k2 : ∀ s, s ≤ 5 → ∀ μ', Fr (OwBd b) μ μ' → mR μ' = mR μ → St μ' → (∀ p, p < s → mI μ' (hd 36 b) p = 0) → Wx K_Bd_clear d rc rs (fun r μ' => St μ' ∧ Q r μ') 2 [(0, .ref (hd 35 b)), (1, .int (nI s))] [] μ' := by
    refine up_loop 5 (fun μ' f1 f2 f3 g6 => ?_) (fun s hs ih μ' f1 f2 f3 g6 => ?_)
    · exact g_Bd_clear_2 hD hb f3 ⟨fun _ => k26 0 (by decide) μ' f1 f2 f3 g6 (fun j hj => absurd hj (Nat.not_lt_zero _)), fun h => absurd (Int32.le_refl _) h⟩
    · refine g_Bd_clear_2 hD hb f3 ⟨fun h => absurd h (nI_ge hs (by decide)), fun _ => ⟨vp_in_nI hs (by decide), ?_⟩⟩
      rw [nI_clamp (by omega), nI_1]
      have hS1 : St (setI μ' (hd 36 b) s 0) := f3
      refine ih _ (f1.setI (by decide) ⟨by decide, rfl⟩) f2 hS1 (fun j hj => ?_)
      by_cases z : j = s
      · rw [z, rd_eq]
      · rw [rd_k z]; exact g6 j (by omega)
  exact e_Bd_clear (g_Bd_clear_0 hD hb hS (k2 0 (by decide) μ Fr.rf rfl hS (fun j hj => absurd hj (Nat.not_lt_zero _))))
theorem c_Rd_copyFrom {a b : Nat} (hD : 1 ≤ d) (hS : St μ) (ha : a < 32) (hb : b < 32) (hab : b ≠ a) (hQ : ∀ μ', Fr (fun κ i => (κ = 27 ∨ κ = 28) ∧ i = a) μ μ' → mR μ' = mR μ → St μ' → (∀ s, s < 60 → mI μ' (hd 28 a) s = mI μ (hd 28 b) s) → (∀ j, 1 ≤ j → j ≤ 4 → mI μ' (hd 27 a) j = mI μ (hd 27 b) j) → Q none μ') : Cal K_Rd_copyFrom d rc rs [.ref (hd 27 a), .ref (hd 27 b)] μ Q := by
  refine e_Rd_copyFrom (g_Rd_copyFrom_0 hD ha hb hS ⟨by decide, fun μ2 e2 μ3 e3 => ?_⟩)
  rw [show ((0 : Int32).toNatClampNeg) = 0 from rfl, show (nI 60).toNatClampNeg = 60 from rfl] at e2
  have hS3 : St μ3 := by rw [e3, e2]; exact hS
  have f2 : Fr (fun κ i => (κ = 27 ∨ κ = 28) ∧ i = a) μ μ2 := by rw [e2]; exact (Fr.rf.cpI (by decide) ⟨Or.inr rfl, rfl⟩).setI (by decide) ⟨Or.inl rfl, rfl⟩
  have f3 : Fr (fun κ i => (κ = 27 ∨ κ = 28) ∧ i = a) μ μ3 := by rw [e3]; exact ((f2.setI (by decide) ⟨Or.inl rfl, rfl⟩).setI (by decide) ⟨Or.inl rfl, rfl⟩).setI (by decide) ⟨Or.inl rfl, rfl⟩
  have n2 : ∀ j, mI μ2 (hd 27 b) j = mI μ (hd 27 b) j := fun j => f2.I (by decide) (by omega)
  refine ⟨hS3, hQ μ3 f3 (by rw [e3, e2]; rfl) hS3 (fun s hs => ?_) (fun j h1 h4 => ?_)⟩
  · rw [e3, rd_ne (by decide) (by decide) (by decide), rd_ne (by decide) (by decide) (by decide), rd_ne (by decide) (by decide) (by decide), e2, rd_ne (by decide) (by decide) (by decide)]
    exact rc_in hs
  · rw [e3]
    rcases (by omega : j = 1 ∨ j = 2 ∨ j = 3 ∨ j = 4) with rfl | rfl | rfl | rfl
    · rw [rd_k (by decide), rd_k (by decide), rd_k (by decide), e2, rd_eq, rc_ne (by decide) (by decide) (by decide)]
    · rw [rd_k (by decide), rd_k (by decide), rd_eq, n2]
    · rw [rd_k (by decide), rd_eq, rd_i hab, n2]
    · rw [rd_eq, rd_i hab, rd_i hab, n2]
end CPA
