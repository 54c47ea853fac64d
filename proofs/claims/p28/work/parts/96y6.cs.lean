/-! cells and rows, before there is a component -/
/-- the script, the constants, and no component yet -/
def SCl (μ : Mu) (Ls : Nat) : Prop := mS μ (hd 6 0) = (2, Ls) ∧ (∀ e ∈ sTab, e.1 ≤ 5 → ∀ i, i < e.2.1 → mS μ (hd e.1 i) = e.2.2 i) ∧ ∀ κ i, 8 ≤ κ → κ ≤ 38 → mS μ (hd κ i) = (0, 0)
theorem sc_fr {own : Nat → Nat → Prop} {μ μ' : Mu} {Ls : Nat} (h : SCl μ Ls) (f : FrS own μ μ') (ho : ∀ κ i, own κ i → 100 ≤ κ) : SCl μ' Ls :=
  ⟨(f.S (by decide) (fun z => by have := ho _ _ z; omega)).trans h.1, fun e he a i hi => (f.S (by omega) (fun z => by have := ho _ _ z; omega)).trans (h.2.1 e he a i hi), fun κ i a b => (f.S (by omega) (fun z => by have := ho _ _ z; omega)).trans (h.2.2 κ i a b)⟩
section CS8
variable {d rc rs : Nat} {Q : Option Value → Mu → Prop} {μ : Mu} {Ls : Nat} {x : Int32}
theorem c8_SI_with {κa ia n κ i b m : Nat} (hD : 1 ≤ d) (hc : 1 ≤ rc) (hs : n + 1 ≤ rs) (hn : n ≤ 1000) (hS : S8 μ) (hκa : κa < 256) (ha : mS μ (hd κa ia) = (40, n)) (hne : ¬ (κa = κ ∧ ia = i)) (hr : ∀ k, k < n → ∃ b m, gR μ (hd κa ia) k = some b ∧ mS μ b = (2, m) ∧ hiN b ∧ b ≠ hd κ i) (hb : mS μ b = (2, m) ∧ hiN b ∧ b ≠ hd κ i) (hκ : 100 ≤ κ ∧ κ < 256) (hf : mS μ (hd κ i) = (0, 0))
    (hQ : ∀ μ', FrS (fun κ' i' => κ' = κ ∧ i' = i) μ μ' → mS μ' (hd κ i) = (40, n + 1) → (∀ k, k < n → gR μ' (hd κ i) k = gR μ (hd κa ia) k) → gR μ' (hd κ i) n = some b → Q (some (.ref (hd κ i))) μ') : CalS K_SI_with d rc rs [.ref (hd κa ia), .ref b] μ Q := by
  refine z_SI_with (y_SI_with_0 hD ⟨n, ha, ?_⟩)
  rw [nI_s, nI_clamp (by omega)]
  refine ⟨⟨ip0 (by omega), by omega, hc, hs⟩, hd κ i, ⟨hf, hi_hd hκ.1 hκ.2⟩, ?_⟩
  have loop : ∀ k, k ≤ n → ∀ μ', FrS (fun κ' i' => κ' = κ ∧ i' = i) μ μ' → mS μ' (hd κ i) = (40, n + 1) → (∀ j, j < k → gR μ' (hd κ i) j = gR μ (hd κa ia) j) → Wx K_SI_with d (rc - 1) (rs - (n + 1)) (fun r μ' => S8 μ' ∧ Q r μ') 10 [(0, .ref (hd κa ia)), (1, .ref b), (2, .ref (hd κ i)), (3, .int (nI k))] [] μ' := by
    refine up_loop n (fun μ' f s g => ?_) (fun k hk ih μ' f s g => ?_)
    · have sa := (f.S hκa hne).trans ha
      have hbS : mS μ' b = (2, m) := by
        have := f.S (κ := b % 256) (i := b / 256) (Nat.mod_lt _ (by decide)) (fun z => hb.2.2 (by unfold hd; omega))
        rw [show hd (b % 256) (b / 256) = b by unfold hd; omega] at this
        rw [this]; exact hb.1
      refine y_SI_with_10 hD ⟨n, sa, fun _ => ⟨n, sa, n + 1, ⟨s, vI (by omega) (by omega), hi_hd hκ.1 hκ.2⟩, m, ⟨hbS, hb.2.1⟩, ?_⟩, fun h => absurd (Int32.le_refl _) h⟩
      rw [nI_clamp (by omega)]
      have f2 : FrS (fun κ' i' => κ' = κ ∧ i' = i) μ (setR μ' (hd κ i) n b) := f.sR hκ.2 ⟨rfl, rfl⟩
      refine ⟨f2.s8 (fun κ' i' z => by rw [z.1]; exact hκ.1) hS, hQ _ f2 s (fun k hk => ?_) ?_⟩
      · rw [gR_h hκ.1 hκ.2, R_k (by omega), ← gR_h hκ.1 hκ.2]; exact g k hk
      · rw [gR_h hκ.1 hκ.2, R_eq]
    · have sa := (f.S hκa hne).trans ha
      obtain ⟨b', m', h1, h2, h3, h4⟩ := hr k hk
      have hbS : mS μ' b' = (2, m') := by
        have := f.S (κ := b' % 256) (i := b' / 256) (Nat.mod_lt _ (by decide)) (fun z => h4 (by unfold hd; omega))
        rw [show hd (b' % 256) (b' / 256) = b' by unfold hd; omega] at this
        rw [this]; exact h2
      refine y_SI_with_10 hD ⟨n, sa, fun h => absurd ((nI_leI (by omega) (by omega)).mp h) (by omega), fun _ => ⟨n, ⟨sa, vI hk (by omega)⟩, b', ?_, n + 1, ⟨s, vI (by omega) (by omega), hi_hd hκ.1 hκ.2⟩, m', ⟨hbS, h3⟩, ?_⟩⟩
      · rw [nI_clamp (by omega), f.gr hκa hne]; exact h1
      · rw [nI_clamp (by omega), nI_s]
        refine ih _ (f.sR hκ.2 ⟨rfl, rfl⟩) s (fun j hj => ?_)
        rw [gR_h hκ.1 hκ.2]
        by_cases e : j = k
        · rw [e, R_eq, h1]
        · rw [R_k e, ← gR_h hκ.1 hκ.2]; exact g j (by omega)
  exact loop 0 (Nat.zero_le _) _ (FrS.rf.mk hκ.2 ⟨rfl, rfl⟩) (if_pos rfl) (fun j hj => absurd hj (Nat.not_lt_zero _))
theorem c8_below {n : Nat} (hn : 0 < n) (hn2 : n < 2 ^ 31) (hD : 1 ≤ d) (hS : S8 μ) (hQ : Q (some (.int (nI (belowN x n)))) μ) : CalS K_LW_below d rc rs [.int x, .int (nI n)] μ Q := by
  obtain ⟨h1, h2⟩ := low_ok x
  refine z_LW_below (y_LW_below_0 hD ⟨fun z => absurd ((nI_eq hn2 (by decide)).mp (show nI n = nI 0 from z)) (by omega), ?_⟩)
  rw [h1, nI_mod h2 hn2]
  exact ⟨hS, hQ⟩
theorem c8_cell {k : Nat} (hs : SCl μ Ls) (hL : Ls ≤ 260) (hk : k < 1000) (hD : 1 ≤ d) (hS : S8 μ) (hQ : ∀ y : Int32, Q (some (.int y)) μ) : CalS K_LW_cell d rc rs [.ref (hd 6 0), .int (nI k)] μ Q := by
  refine z_LW_cell (y_LW_cell_0 hD ⟨_, hs.1, fun _ => ⟨hS, hQ _⟩, fun h => ⟨_, ⟨hs.1, vI ?_ (by omega)⟩, hS, hQ _⟩⟩)
  rcases Nat.lt_or_ge k Ls with y | y
  · exact y
  · exact absurd ((nI_leI (by omega) (by omega)).mpr y) h
end CS8
