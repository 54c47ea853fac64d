/-! all stands, from what was made -/
/-- the constants stand -/
def CnF (μ : Mu) : Prop := ∀ e ∈ sTab, e.1 ≤ 5 → ∀ i, i < e.2.1 → mS μ (hd e.1 i) = e.2.2 i
theorem CnF.fr {μ μ' : Mu} {own : Nat → Nat → Prop} (h : CnF μ) (f : FrS own μ μ') (ho : ∀ κ i, κ ≤ 5 → ¬ own κ i) : CnF μ' := fun e he a i hi => (f.S (by omega) (ho _ _ a)).trans (h e he a i hi)
theorem PBF.pl {μ : Mu} (h : PBF μ) {q : Nat} (hq : q < 2) : PlF q μ := by
  rcases (by omega : q = 0 ∨ q = 1) with rfl | rfl
  · exact h.2.1
  · exact h.2.2.1
theorem PBF.wd {μ : Mu} (h : PBF μ) {w : Nat} (hw : w < 2) : WdF w 0 μ := by
  rcases (by omega : w = 0 ∨ w = 1) with rfl | rfl
  · exact h.2.2.2.2.2.2.1
  · exact h.2.2.2.2.2.2.2
theorem PBF.rd {μ : Mu} (h : PBF μ) {m : Nat} (hm : m < 32) : RdF m μ := by
  rcases (by omega : m < 8 ∨ (8 ≤ m ∧ m < 16) ∨ (16 ≤ m ∧ m < 24) ∨ 24 ≤ m) with z | z | z | z
  · have := ((h.wd (w := 0) (by decide)).2.2.2.2.2 m z).1; rwa [(by omega : 8 * 0 + m = m)] at this
  · have := ((h.wd (w := 1) (by decide)).2.2.2.2.2 (m - 8) (by omega)).1; rwa [(by omega : 8 * 1 + (m - 8) = m)] at this
  · have := ((h.pl (q := 0) (by decide)).2.2.2.2.1 (m - 16) (by omega)).1; rwa [(by omega : 16 + 8 * 0 + (m - 16) = m)] at this
  · have := ((h.pl (q := 1) (by decide)).2.2.2.2.1 (m - 24) (by omega)).1; rwa [(by omega : 16 + 8 * 1 + (m - 24) = m)] at this
theorem PBF.od {μ : Mu} (h : PBF μ) {m : Nat} (hm : m < 42) : OdF m μ := by
  rcases (by omega : m < 21 ∨ 21 ≤ m) with z | z
  · have := ((h.pl (q := 0) (by decide)).2.2.2.2.2 m z).1; rwa [(by omega : 21 * 0 + m = m)] at this
  · have := ((h.pl (q := 1) (by decide)).2.2.2.2.2 (m - 21) (by omega)).1; rwa [(by omega : 21 * 1 + (m - 21) = m)] at this
theorem PBF.sh {μ : Mu} (h : PBF μ) {m : Nat} (hm : m < 120) : ShF m μ := by
  rcases (by omega : m < 60 ∨ 60 ≤ m) with z | z
  · have := ((h.wd (w := 0) (by decide)).2.2.2.1 m z).1; rwa [(by omega : 60 * 0 + m = m)] at this
  · have := ((h.wd (w := 1) (by decide)).2.2.2.1 (m - 60) (by omega)).1; rwa [(by omega : 60 * 1 + (m - 60) = m)] at this
theorem PBF.bd {μ : Mu} (h : PBF μ) {m : Nat} (hm : m < 10) : BdS m μ := by
  rcases (by omega : m < 5 ∨ 5 ≤ m) with z | z
  · have := ((h.wd (w := 0) (by decide)).2.2.2.2.1 m z).1; rwa [(by omega : 5 * 0 + m = m)] at this
  · have := ((h.wd (w := 1) (by decide)).2.2.2.2.1 (m - 5) (by omega)).1; rwa [(by omega : 5 * 1 + (m - 5) = m)] at this
theorem PBF.b8 {μ : Mu} (h : PBF μ) {k : Nat} (hk : k < 10) (h1 : k ≠ 1) (h2 : k ≠ 2) : mR μ (hd 8 0) k = some (fld8 k) := h.1.2.2 k hk h1 h2
theorem fal_c {α : Type} {p : α → Prop} {a : α} {l : List α} (h : p a) (k : ∀ x ∈ l, p x) : ∀ x ∈ a :: l, p x := List.forall_mem_cons.mpr ⟨h, k⟩
theorem fal_n {α : Type} {p : α → Prop} : ∀ x ∈ ([] : List α), p x := fun x h => by cases h

theorem so_S {μ : Mu} (hC : CnF μ) (h : PBF μ) : ∀ e ∈ sTab, ∀ i, i < e.2.1 → mS μ (hd e.1 i) = e.2.2 i := by
  unfold sTab
  refine fal_c (fun i (hi : i < 49) => ?_) ?_
  · show mS μ (hd 0 i) = (1, 14)
    exact hC _ (List.mem_of_getElem? (i := 0) rfl) (by decide) i hi
  refine fal_c (fun i (hi : i < 81) => ?_) ?_
  · show mS μ (hd 1 i) = (1, 15)
    exact hC _ (List.mem_of_getElem? (i := 1) rfl) (by decide) i hi
  refine fal_c (fun i (hi : i < 1) => ?_) ?_
  · show mS μ (hd 8 i) = (1, 0)
    obtain rfl : i = 0 := by omega
    exact h.1.1.1
  refine fal_c (fun i (hi : i < 1) => ?_) ?_
  · show mS μ (hd 10 i) = (1, 9)
    obtain rfl : i = 0 := by omega
    exact h.2.2.2.1.1.1
  refine fal_c (fun i (hi : i < 1) => ?_) ?_
  · show mS μ (hd 15 i) = (1, 3)
    obtain rfl : i = 0 := by omega
    exact h.2.2.2.2.1.1
  refine fal_c (fun i (hi : i < 1) => ?_) ?_
  · show mS μ (hd 16 i) = (1, 4)
    obtain rfl : i = 0 := by omega
    exact h.2.2.2.2.2.1.1.1
  refine fal_c (fun i (hi : i < 2) => ?_) ?_
  · show mS μ (hd 18 i) = (1, 6)
    exact (h.pl hi).1.1
  refine fal_c (fun i (hi : i < 2) => ?_) ?_
  · show mS μ (hd 21 i) = (1, 2)
    exact (h.pl hi).2.2.2.1.1
  refine fal_c (fun i (hi : i < 42) => ?_) ?_
  · show mS μ (hd 26 i) = (1, 5)
    exact (h.od hi).1
  refine fal_c (fun i (hi : i < 32) => ?_) ?_
  · show mS μ (hd 27 i) = (1, 7)
    exact (h.rd hi).1
  refine fal_c (fun i (hi : i < 2) => ?_) ?_
  · show mS μ (hd 29 i) = (1, 10)
    exact (h.wd hi).1.1
  refine fal_c (fun i (hi : i < 120) => ?_) ?_
  · show mS μ (hd 33 i) = (1, 8)
    exact (h.sh hi).1
  refine fal_c (fun i (hi : i < 10) => ?_) ?_
  · show mS μ (hd 35 i) = (1, 1)
    exact (h.bd hi).1
  refine fal_c (fun i (hi : i < 81) => ?_) ?_
  · show mS μ (hd 2 i) = (4, (kTx.getD i []).length)
    exact hC _ (List.mem_of_getElem? (i := 13) rfl) (by decide) i hi
  refine fal_c (fun i (hi : i < 1) => ?_) ?_
  · show mS μ (hd 3 i) = (2, 49)
    obtain rfl : i = 0 := by omega
    exact hC _ (List.mem_of_getElem? (i := 14) rfl) (by decide) 0 (by decide)
  refine fal_c (fun i (hi : i < 1) => ?_) ?_
  · show mS μ (hd 4 i) = (20, 49)
    obtain rfl : i = 0 := by omega
    exact hC _ (List.mem_of_getElem? (i := 15) rfl) (by decide) 0 (by decide)
  refine fal_c (fun i (hi : i < 2) => ?_) ?_
  · show mS μ (hd 5 i) = (4, 100)
    exact hC _ (List.mem_of_getElem? (i := 16) rfl) (by decide) i hi
  refine fal_c (fun i (hi : i < 2) => ?_) ?_
  · show mS μ (hd 9 i) = (4, if i = 0 then 2000 else 0)
    rcases (by omega : i = 0 ∨ i = 1) with rfl | rfl
    · exact h.1.1.2
    · exact h.2.2.2.1.1.2.2.2.2.2
  refine fal_c (fun i (hi : i < 1) => ?_) ?_
  · show mS μ (hd 11 i) = (20, 401)
    obtain rfl : i = 0 := by omega
    exact h.2.2.2.1.1.2.1
  refine fal_c (fun i (hi : i < 1) => ?_) ?_
  · show mS μ (hd 12 i) = (2, 401)
    obtain rfl : i = 0 := by omega
    exact h.2.2.2.1.1.2.2.1
  refine fal_c (fun i (hi : i < 1) => ?_) ?_
  · show mS μ (hd 13 i) = (3, 401)
    obtain rfl : i = 0 := by omega
    exact h.2.2.2.1.1.2.2.2.1
  refine fal_c (fun i (hi : i < 1) => ?_) ?_
  · show mS μ (hd 14 i) = (2, 401)
    obtain rfl : i = 0 := by omega
    exact h.2.2.2.1.1.2.2.2.2.1
  refine fal_c (fun i (hi : i < 3) => ?_) ?_
  · show mS μ (hd 17 i) = (3, [5, 6, 8].getD i 0)
    rcases (by omega : i = 0 ∨ i = 1 ∨ i = 2) with rfl | rfl | rfl
    · exact h.2.2.2.2.2.1.1.2.1
    · exact h.2.2.2.2.2.1.1.2.2.1
    · exact h.2.2.2.2.2.1.1.2.2.2
  refine fal_c (fun i (hi : i < 2) => ?_) ?_
  · show mS μ (hd 19 i) = (13, 8)
    exact (h.pl hi).1.2.1
  refine fal_c (fun i (hi : i < 2) => ?_) ?_
  · show mS μ (hd 20 i) = (11, 21)
    exact (h.pl hi).1.2.2
  refine fal_c (fun i (hi : i < 2) => ?_) ?_
  · show mS μ (hd 22 i) = (20, 400)
    exact (h.pl hi).2.2.2.1.2.1.1
  refine fal_c (fun i (hi : i < 2) => ?_) ?_
  · show mS μ (hd 23 i) = (2, 400)
    exact (h.pl hi).2.2.2.1.2.1.2.1
  refine fal_c (fun i (hi : i < 2) => ?_) ?_
  · show mS μ (hd 24 i) = (2, 400)
    exact (h.pl hi).2.2.2.1.2.1.2.2.1
  refine fal_c (fun i (hi : i < 2) => ?_) ?_
  · show mS μ (hd 25 i) = (2, 400)
    exact (h.pl hi).2.2.2.1.2.1.2.2.2
  refine fal_c (fun i (hi : i < 32) => ?_) ?_
  · show mS μ (hd 28 i) = (2, 60)
    exact (h.rd hi).2.1
  refine fal_c (fun i (hi : i < 2) => ?_) ?_
  · show mS μ (hd 30 i) = (14, 60)
    exact (h.wd hi).1.2.1
  refine fal_c (fun i (hi : i < 2) => ?_) ?_
  · show mS μ (hd 31 i) = (7, 5)
    exact (h.wd hi).1.2.2.1
  refine fal_c (fun i (hi : i < 2) => ?_) ?_
  · show mS μ (hd 32 i) = (13, 8)
    exact (h.wd hi).1.2.2.2
  refine fal_c (fun i (hi : i < 120) => ?_) ?_
  · show mS μ (hd 34 i) = (2, 5)
    exact (h.sh hi).2.1
  refine fal_c (fun i (hi : i < 10) => ?_) ?_
  · show mS μ (hd 36 i) = (2, 5)
    exact (h.bd hi).2.1
  refine fal_c (fun i (hi : i < 10) => ?_) ?_
  · show mS μ (hd 37 i) = (2, 30)
    exact (h.bd hi).2.2.1
  refine fal_c (fun i (hi : i < 10) => ?_) ?_
  · show mS μ (hd 38 i) = (5, 60)
    exact (h.bd hi).2.2.2.1
  exact fal_n
theorem so_R {μ : Mu} (h : PBF μ) : ∀ e ∈ rTab, ∀ i, i < e.2.1 → mR μ (hd e.1 i) e.2.2.1 = some (hd e.2.2.2.1 (e.2.2.2.2 i)) := by
  unfold rTab
  refine fal_c (fun i (hi : i < 1) => ?_) ?_
  · show mR μ (hd 8 i) 0 = some (hd 9 0)
    obtain rfl : i = 0 := by omega
    exact h.b8 (by decide) (by decide) (by decide)
  refine fal_c (fun i (hi : i < 1) => ?_) ?_
  · show mR μ (hd 8 i) 5 = some (hd 10 0)
    obtain rfl : i = 0 := by omega
    exact h.b8 (by decide) (by decide) (by decide)
  refine fal_c (fun i (hi : i < 1) => ?_) ?_
  · show mR μ (hd 8 i) 6 = some (hd 15 0)
    obtain rfl : i = 0 := by omega
    exact h.b8 (by decide) (by decide) (by decide)
  refine fal_c (fun i (hi : i < 1) => ?_) ?_
  · show mR μ (hd 8 i) 7 = some (hd 16 0)
    obtain rfl : i = 0 := by omega
    exact h.b8 (by decide) (by decide) (by decide)
  refine fal_c (fun i (hi : i < 1) => ?_) ?_
  · show mR μ (hd 8 i) 8 = some (hd 29 0)
    obtain rfl : i = 0 := by omega
    exact h.b8 (by decide) (by decide) (by decide)
  refine fal_c (fun i (hi : i < 1) => ?_) ?_
  · show mR μ (hd 8 i) 9 = some (hd 29 1)
    obtain rfl : i = 0 := by omega
    exact h.b8 (by decide) (by decide) (by decide)
  refine fal_c (fun i (hi : i < 10) => ?_) ?_
  · show mR μ (hd 35 i) 0 = some (hd 36 i)
    exact ((gR_rw w_35 _).symm.trans (h.bd hi).2.2.2.2.1)
  refine fal_c (fun i (hi : i < 10) => ?_) ?_
  · show mR μ (hd 35 i) 1 = some (hd 37 i)
    exact ((gR_rw w_35 _).symm.trans (h.bd hi).2.2.2.2.2.1)
  refine fal_c (fun i (hi : i < 10) => ?_) ?_
  · show mR μ (hd 35 i) 2 = some (hd 38 i)
    exact ((gR_rw w_35 _).symm.trans (h.bd hi).2.2.2.2.2.2)
  refine fal_c (fun i (hi : i < 2) => ?_) ?_
  · show mR μ (hd 21 i) 0 = some (hd 22 i)
    exact (h.pl hi).2.2.2.1.2.2.1.1
  refine fal_c (fun i (hi : i < 2) => ?_) ?_
  · show mR μ (hd 21 i) 1 = some (hd 23 i)
    exact (h.pl hi).2.2.2.1.2.2.1.2.1
  refine fal_c (fun i (hi : i < 2) => ?_) ?_
  · show mR μ (hd 21 i) 2 = some (hd 24 i)
    exact (h.pl hi).2.2.2.1.2.2.1.2.2.1
  refine fal_c (fun i (hi : i < 2) => ?_) ?_
  · show mR μ (hd 21 i) 3 = some (hd 25 i)
    exact (h.pl hi).2.2.2.1.2.2.1.2.2.2
  refine fal_c (fun i (hi : i < 1) => ?_) ?_
  · show mR μ (hd 15 i) 0 = some (hd 10 0)
    obtain rfl : i = 0 := by omega
    exact h.2.2.2.2.1.2.2.1
  refine fal_c (fun i (hi : i < 1) => ?_) ?_
  · show mR μ (hd 16 i) 0 = some (hd 17 0)
    obtain rfl : i = 0 := by omega
    exact h.2.2.2.2.2.1.2.1
  refine fal_c (fun i (hi : i < 1) => ?_) ?_
  · show mR μ (hd 16 i) 1 = some (hd 17 1)
    obtain rfl : i = 0 := by omega
    exact h.2.2.2.2.2.1.2.2.1
  refine fal_c (fun i (hi : i < 1) => ?_) ?_
  · show mR μ (hd 16 i) 2 = some (hd 17 2)
    obtain rfl : i = 0 := by omega
    exact h.2.2.2.2.2.1.2.2.2.1
  refine fal_c (fun i (hi : i < 1) => ?_) ?_
  · show mR μ (hd 16 i) 3 = some (hd 10 0)
    obtain rfl : i = 0 := by omega
    exact h.2.2.2.2.2.1.2.2.2.2.1
  refine fal_c (fun i (hi : i < 2) => ?_) ?_
  · show mR μ (hd 18 i) 0 = some (hd 21 i)
    exact (h.pl hi).2.1.1
  refine fal_c (fun i (hi : i < 2) => ?_) ?_
  · show mR μ (hd 18 i) 1 = some (hd 19 i)
    exact (h.pl hi).2.1.2.1
  refine fal_c (fun i (hi : i < 2) => ?_) ?_
  · show mR μ (hd 18 i) 2 = some (hd 20 i)
    exact (h.pl hi).2.1.2.2
  refine fal_c (fun i (hi : i < 32) => ?_) ?_
  · show mR μ (hd 27 i) 0 = some (hd 28 i)
    exact (h.rd hi).2.2
  refine fal_c (fun i (hi : i < 120) => ?_) ?_
  · show mR μ (hd 33 i) 0 = some (hd 34 i)
    exact (h.sh hi).2.2
  refine fal_c (fun i (hi : i < 1) => ?_) ?_
  · show mR μ (hd 10 i) 0 = some (hd 11 0)
    obtain rfl : i = 0 := by omega
    exact h.2.2.2.1.2.1.1
  refine fal_c (fun i (hi : i < 1) => ?_) ?_
  · show mR μ (hd 10 i) 1 = some (hd 12 0)
    obtain rfl : i = 0 := by omega
    exact h.2.2.2.1.2.1.2.1
  refine fal_c (fun i (hi : i < 1) => ?_) ?_
  · show mR μ (hd 10 i) 2 = some (hd 13 0)
    obtain rfl : i = 0 := by omega
    exact h.2.2.2.1.2.1.2.2.1
  refine fal_c (fun i (hi : i < 1) => ?_) ?_
  · show mR μ (hd 10 i) 3 = some (hd 14 0)
    obtain rfl : i = 0 := by omega
    exact h.2.2.2.1.2.1.2.2.2.1
  refine fal_c (fun i (hi : i < 2) => ?_) ?_
  · show mR μ (hd 29 i) 0 = some (hd 30 i)
    exact (h.wd hi).2.1.1
  refine fal_c (fun i (hi : i < 2) => ?_) ?_
  · show mR μ (hd 29 i) 1 = some (hd 31 i)
    exact (h.wd hi).2.1.2.1
  refine fal_c (fun i (hi : i < 2) => ?_) ?_
  · show mR μ (hd 29 i) 2 = some (hd 32 i)
    exact (h.wd hi).2.1.2.2.1
  exact fal_n
theorem so_A {μ : Mu} (h : PBF μ) : ∀ e ∈ aTab, ∀ i j, i < e.2.1 → j < e.2.2.1 → mR μ (hd e.1 i) j = some (hd e.2.2.2.1 (e.2.2.2.2 i j)) := by
  unfold aTab
  refine fal_c (fun i j (hi : i < 2) (hj : j < 8) => ((h.pl hi).2.2.2.2.1 j hj).2) ?_
  refine fal_c (fun i j (hi : i < 2) (hj : j < 21) => ((h.pl hi).2.2.2.2.2 j hj).2) ?_
  refine fal_c (fun i j (hi : i < 2) (hj : j < 60) => ((h.wd hi).2.2.2.1 j hj).2) ?_
  refine fal_c (fun i j (hi : i < 2) (hj : j < 5) => ((h.wd hi).2.2.2.2.1 j hj).2) ?_
  refine fal_c (fun i j (hi : i < 2) (hj : j < 8) => ((h.wd hi).2.2.2.2.2 j hj).2) ?_
  exact fal_n
theorem so_D {μ : Mu} (h : PBF μ) : ∀ e ∈ dTab, ∀ i, i < e.2.1 → ∃ q, q < e.2.2.2.2 ∧ mR μ (hd e.1 i) e.2.2.1 = some (hd e.2.2.2.1 q) := by
  unfold dTab
  refine fal_c (fun i (hi : i < 1) => ⟨0, (by decide : 0 < 2), ?_⟩) ?_
  · show mR μ (hd 8 i) 3 = some (hd 18 0)
    obtain rfl : i = 0 := by omega
    exact h.b8 (k := 3) (by decide) (by decide) (by decide)
  refine fal_c (fun i (hi : i < 1) => ⟨1, (by decide : 1 < 2), ?_⟩) ?_
  · show mR μ (hd 8 i) 4 = some (hd 18 1)
    obtain rfl : i = 0 := by omega
    exact h.b8 (k := 4) (by decide) (by decide) (by decide)
  refine fal_c (fun i (hi : i < 1) => ⟨1, (by decide : 1 < 2), ?_⟩) ?_
  · show mR μ (hd 15 i) 1 = some (hd 18 1)
    obtain rfl : i = 0 := by omega
    exact h.2.2.2.2.1.2.2.2
  refine fal_c (fun i (hi : i < 1) => ⟨47, (by decide : 47 < 49), ?_⟩) ?_
  · show mR μ (hd 15 i) 3 = some (hd 0 47)
    obtain rfl : i = 0 := by omega
    exact h.2.2.2.2.1.2.1
  refine fal_c (fun i (hi : i < 1) => ⟨1, (by decide : 1 < 2), ?_⟩) ?_
  · show mR μ (hd 16 i) 4 = some (hd 18 1)
    obtain rfl : i = 0 := by omega
    exact h.2.2.2.2.2.1.2.2.2.2.2
  refine fal_c (fun i (hi : i < 42) => ⟨9, (by decide : 9 < 49), ?_⟩) ?_
  · show mR μ (hd 26 i) 0 = some (hd 0 9)
    exact (h.od hi).2
  refine fal_c (fun i (hi : i < 1) => ⟨1, (by decide : 1 < 2), ?_⟩) ?_
  · show mR μ (hd 10 i) 5 = some (hd 9 1)
    obtain rfl : i = 0 := by omega
    exact h.2.2.2.1.2.1.2.2.2.2
  refine fal_c (fun i (hi : i < 2) => ⟨0, (by decide : 0 < 2), ?_⟩) ?_
  · show mR μ (hd 29 i) 3 = some (hd 18 0)
    exact (h.wd hi).2.1.2.2.2
  exact fal_n
theorem so_E {μ : Mu} (h : PBF μ) : ∀ e ∈ eTab, ∀ i j a, i < e.2.1 → mR μ (hd e.1 i) j = some a → ∃ q, q < e.2.2.2 ∧ a = hd e.2.2.1 q := by
  unfold eTab
  refine fal_c (fun i j a (hi : i < 1) e => ?_) ?_
  · obtain rfl : i = 0 := by omega
    exact absurd ((h.2.2.2.1.2.2 j).symm.trans e) (fun z => by cases z)
  refine fal_c (fun i j a (hi : i < 2) e => ?_) ?_
  · exact absurd (((h.pl hi).2.2.2.1.2.2.2.2 j).symm.trans e) (fun z => by cases z)
  exact fal_n
theorem St.made {μ : Mu} (hC : CnF μ) (h : PBF μ) : St μ := ⟨so_S hC h, so_R h, so_A h, so_D h, so_E h⟩
