/-! the model's names: what is wrong with a token -/
def OwE (q κ i : Nat) : Prop := κ = 46 ∨ (κ = 50 ∧ i = q) ∨ (51 ≤ κ ∧ κ ≤ 57 ∧ i = q)
def FrE (q : Nat) (μ μ' : Mu) : Prop := Fr (OwE q) μ μ' ∧ mR μ' = mR μ ∧ ∀ k, k ≠ 0 → k ≠ 1 → k ≠ 2 → k ≠ 6 → mI μ' (hd 50 q) k = mI μ (hd 50 q) k
theorem FrE.rf {q : Nat} {μ : Mu} : FrE q μ μ := ⟨Fr.rf, rfl, fun _ _ _ _ _ => rfl⟩
theorem FrE.trans {q : Nat} {μ1 μ2 μ3 : Mu} (h : FrE q μ1 μ2) (h' : FrE q μ2 μ3) : FrE q μ1 μ3 := ⟨h.1.trans h'.1, h'.2.1.trans h.2.1, fun k a b c e => (h'.2.2 k a b c e).trans (h.2.2 k a b c e)⟩
theorem FrE.s46 {q k : Nat} {x : Int32} {μ μ' : Mu} (h : FrE q μ μ') : FrE q μ (setI μ' (hd 46 0) k x) :=
  ⟨h.1.setI (by decide) (Or.inl rfl), h.2.1, fun j a b c e => by rw [rd_ne (by decide) (by decide) (by decide)]; exact h.2.2 j a b c e⟩
theorem FrE.s50 {q k : Nat} {x : Int32} {μ μ' : Mu} (h : FrE q μ μ') (hk : k = 0 ∨ k = 1 ∨ k = 2 ∨ k = 6) : FrE q μ (setI μ' (hd 50 q) k x) :=
  ⟨h.1.setI (by decide) (Or.inr (Or.inl ⟨rfl, rfl⟩)), h.2.1, fun j a b c e => by rw [rd_k (by omega)]; exact h.2.2 j a b c e⟩
theorem FrE.s5 {q κ k : Nat} {x : Int32} {μ μ' : Mu} (h : FrE q μ μ') (hκ : 51 ≤ κ ∧ κ ≤ 57) : FrE q μ (setI μ' (hd κ q) k x) :=
  ⟨h.1.setI (by omega) (Or.inr (Or.inr ⟨hκ.1, hκ.2, rfl⟩)), h.2.1, fun j a b c e => by rw [rd_ne (by omega) (by decide) (by omega)]; exact h.2.2 j a b c e⟩
/-- what is told ahead of x -/
def MNS (μ : Mu) (t : Nat → Nat) (L q x : Nat) : Prop := MT μ t L ∧ px μ (hd 40 0) 12 = q ∧ RL μ t L ∧
  (mI μ (hd 50 q) 0 = nI (cn (tK t L) 1 x) ∧ mI μ (hd 50 q) 1 = nI (cn (tK t L) 2 x) ∧ mI μ (hd 50 q) 2 = nI (cn (tK t L) 3 x) ∧ mI μ (hd 50 q) 6 = nI (cn (tK t L) 7 x)) ∧
  (cn (tK t L) 1 x ≤ 5 ∧ cn (tK t L) 2 x ≤ 6 ∧ cn (tK t L) 3 x ≤ 8 ∧ cn (tK t L) 7 x ≤ 20) ∧
  (∀ i, i < x → lr (rl (tK t L) i) ≠ 0 → mI μ (hd 46 0) i = nI (plc t L (lr (rl (tK t L) i)) i i - 1)) ∧
  (∀ i, i < x → arN (rl (tK t L) i) ≠ 0 → mI μ (hd (arN (rl (tK t L) i)) q) (slN (tK t L) i) = vlN t L i) ∧ (x ≤ nT t L ∧ ∀ i, i < x → ern t L i = 0)
section MEC
variable {d rc rs : Nat} {Q : Option Value → Mu → Prop} {μ μ' : Mu} {t : Nat → Nat} {L q x : Nat}
theorem MT.frE (h : MT μ t L) (f : FrE q μ μ') : MT μ' t L := by
  obtain ⟨⟨a1, a2, a3, a4⟩, h2⟩ := h
  refine ⟨⟨a1, a2, (f.1.I (by decide) (by unfold OwE; omega)).trans a3, fun k hk => ?_⟩, fun i hi => ?_⟩
  · rw [f.1.I (by decide) (by unfold OwE; omega)]; exact a4 k hk
  · rw [f.1.I (by decide) (by unfold OwE; omega), f.1.I (by decide) (by unfold OwE; omega), f.1.I (by decide) (by unfold OwE; omega)]; exact h2 i hi
theorem RL.frE (h : RL μ t L) (f : FrE q μ μ') : RL μ' t L := fun i hi => by rw [f.1.I (by decide) (by unfold OwE; omega)]; exact h i hi
theorem MNS.next (hN : MNS μ t L q x) (hLS : ∀ j, j < nT t L → LSj (tK t L) j) (hx : x < nT t L) (he : ern t L x = 0) (f : FrE q μ μ')
    (hc : mI μ' (hd 50 q) 0 = nI (cn (tK t L) 1 (x + 1)) ∧ mI μ' (hd 50 q) 1 = nI (cn (tK t L) 2 (x + 1)) ∧ mI μ' (hd 50 q) 2 = nI (cn (tK t L) 3 (x + 1)) ∧ mI μ' (hd 50 q) 6 = nI (cn (tK t L) 7 (x + 1)))
    (hcap : cn (tK t L) 1 (x + 1) ≤ 5 ∧ cn (tK t L) 2 (x + 1) ≤ 6 ∧ cn (tK t L) 3 (x + 1) ≤ 8 ∧ cn (tK t L) 7 (x + 1) ≤ 20)
    (h46 : ∀ i, i ≠ x → mI μ' (hd 46 0) i = mI μ (hd 46 0) i) (h46' : lr (rl (tK t L) x) ≠ 0 → mI μ' (hd 46 0) x = nI (plc t L (lr (rl (tK t L) x)) x x - 1))
    (ha : ∀ κ k, 51 ≤ κ → κ ≤ 57 → ¬ (κ = arN (rl (tK t L) x) ∧ k = slN (tK t L) x) → mI μ' (hd κ q) k = mI μ (hd κ q) k) (ha' : arN (rl (tK t L) x) ≠ 0 → mI μ' (hd (arN (rl (tK t L) x)) q) (slN (tK t L) x) = vlN t L x) : MNS μ' t L q (x + 1) := by
  obtain ⟨a1, a2, a3, a4, a5, a6, a7, a8, a9⟩ := hN
  refine ⟨a1.frE f, by unfold px; rw [f.2.1]; exact a2, a3.frE f, hc, hcap, fun i hi hr => ?_, fun i hi hr => ?_, hx, fun i hi => ?_⟩
  · by_cases z : i = x
    · rw [z] at hr ⊢; exact h46' hr
    · rw [h46 i z]; exact a6 i (by omega) hr
  · by_cases z : i = x
    · rw [z] at hr ⊢; exact ha' hr
    · have hin := arN_in _ rl_lt hr
      rw [ha _ _ hin.1 hin.2 (fun y => ?_)]
      · exact a7 i (by omega) hr
      · have := (slot_ok hLS hx (by rw [← y.1]; exact hr)).2 i (by omega) y.1
        omega
  · rcases Nat.lt_or_ge i x with z | z
    · exact a9 i z
    · rw [show i = x by omega]; exact he
theorem plc_oI {r : Nat} (h : plc t L r x x ≠ 0) : oI (plc t L r x x) = nI (plc t L r x x - 1) := oI_p (by omega)
/-- a name, asked for in a row -/
theorem c_MM_named {r κ k n : Nat} (hD : 4 ≤ d) (hS : St μ) (hN : MNS μ t L q x) (hx : x < nT t L) (hr : r < 14) (hs : mS μ (hd κ q) = (2, n)) (hκ : 51 ≤ κ ∧ κ ≤ 57) (hk : k < n) (hn : n < 1000) (hQ : ∀ μ', μ' = setI (setI μ (hd 46 0) x (oI (plc t L r x x))) (hd κ q) k (oI (plc t L r x x)) → St μ' → Q (some (.int (if plc t L r x x = 0 then 3 else 0))) μ') : Cal K_MM_named d rc rs [.ref (hd 40 0), .int (nI x), .ref (hd κ q), .int (nI k), .int (nI r)] μ Q := by
  have hn4 := nT_le (t := t) (L := L)
  refine e_MM_named (n2 := n) (g_MM_named_0 (by omega) hs (rw_hd (by omega) (by omega)) hS (c_MM_look (by omega) hS hN.1 hN.2.2.1 hx hr (fun h => ⟨_, rfl, hs, vp_in_nI (by omega) (by decide), vp_in_nI hk (by omega), ?_⟩)))
  rw [nI_clamp (by omega), nI_clamp (by omega), rd_eq]
  have hS1 : St (setI (setI μ (hd 46 0) x (oI (plc t L r x x))) (hd κ q) k (oI (plc t L r x x))) := hS
  exact ⟨hS1, hQ _ rfl hS1⟩
end MEC
