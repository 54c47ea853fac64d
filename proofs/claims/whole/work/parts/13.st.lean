/-! what stands where: the structure of both systems -/
def sTab : List (Nat × Nat × (Nat → Nat × Nat)) := [(0, 49, fun _ => (1, 14)), (1, 46, fun _ => (1, 15)), (8, 1, fun _ => (1, 0)), (10, 1, fun _ => (1, 9)), (15, 1, fun _ => (1, 3)), (16, 1, fun _ => (1, 4)), (18, 2, fun _ => (1, 6)), (21, 2, fun _ => (1, 2)), (26, 42, fun _ => (1, 5)), (27, 32, fun _ => (1, 7)), (29, 2, fun _ => (1, 10)), (33, 120, fun _ => (1, 8)), (35, 10, fun _ => (1, 1)), (40, 1, fun _ => (1, 11)), (65, 2, fun _ => (1, 13)), (2, 46, fun i => (4, (kTx.getD i []).length)), (3, 1, fun _ => (2, 49)), (4, 1, fun _ => (20, 49)), (5, 1, fun _ => (21, 29)), (9, 2, fun i => (4, if i = 0 then 2000 else 0)), (11, 1, fun _ => (20, 401)), (12, 1, fun _ => (2, 401)), (13, 1, fun _ => (3, 401)), (14, 1, fun _ => (2, 401)), (17, 3, fun i => (3, [5, 6, 8].getD i 0)), (19, 2, fun _ => (13, 8)), (20, 2, fun _ => (11, 21)), (22, 2, fun _ => (20, 400)), (23, 2, fun _ => (2, 400)), (24, 2, fun _ => (2, 400)), (25, 2, fun _ => (2, 400)), (28, 32, fun _ => (2, 60)), (30, 2, fun _ => (14, 60)), (31, 2, fun _ => (7, 5)), (32, 2, fun _ => (13, 8)), (34, 120, fun _ => (2, 5)), (36, 10, fun _ => (2, 5)), (37, 10, fun _ => (2, 30)), (38, 10, fun _ => (5, 60)), (41, 1, fun _ => (2, 2000)), (42, 1, fun _ => (2, 401)), (43, 1, fun _ => (2, 401)), (44, 1, fun _ => (2, 401)), (45, 1, fun _ => (2, 401)), (46, 1, fun _ => (2, 401)), (66, 2, fun _ => (2, 60)), (67, 2, fun _ => (2, 60)), (68, 2, fun _ => (2, 60)), (69, 2, fun _ => (2, 60)), (70, 2, fun _ => (2, 60)), (71, 2, fun _ => (2, 60)), (72, 2, fun _ => (2, 300)), (73, 2, fun _ => (2, 25)), (74, 2, fun _ => (2, 150)), (75, 2, fun _ => (3, 5)), (76, 2, fun _ => (2, 8)), (77, 2, fun _ => (2, 8)), (78, 2, fun _ => (3, 8)), (79, 2, fun _ => (2, 480)), (80, 2, fun _ => (2, 480)), (81, 2, fun _ => (3, 480)), (82, 2, fun _ => (2, 400)), (90, 1, fun _ => (3, 1))]
def rTab : List (Nat × Nat × Nat × Nat × (Nat → Nat)) := [(8, 1, 0, 9, fun _ => 0), (8, 1, 5, 10, fun _ => 0), (8, 1, 6, 15, fun _ => 0), (8, 1, 7, 16, fun _ => 0), (8, 1, 8, 29, fun _ => 0), (8, 1, 9, 29, fun _ => 1), (35, 10, 0, 36, fun i => i), (35, 10, 1, 37, fun i => i), (35, 10, 2, 38, fun i => i), (21, 2, 0, 22, fun i => i), (21, 2, 1, 23, fun i => i), (21, 2, 2, 24, fun i => i), (21, 2, 3, 25, fun i => i), (15, 1, 0, 10, fun _ => 0), (16, 1, 0, 17, fun _ => 0), (16, 1, 1, 17, fun _ => 1), (16, 1, 2, 17, fun _ => 2), (16, 1, 3, 10, fun _ => 0), (18, 2, 0, 21, fun i => i), (18, 2, 1, 19, fun i => i), (18, 2, 2, 20, fun i => i), (27, 32, 0, 28, fun i => i), (33, 120, 0, 34, fun i => i), (10, 1, 0, 11, fun _ => 0), (10, 1, 1, 12, fun _ => 0), (10, 1, 2, 13, fun _ => 0), (10, 1, 3, 14, fun _ => 0), (29, 2, 0, 30, fun i => i), (29, 2, 1, 31, fun i => i), (29, 2, 2, 32, fun i => i), (40, 1, 1, 41, fun _ => 0), (40, 1, 4, 42, fun _ => 0), (40, 1, 5, 43, fun _ => 0), (40, 1, 6, 44, fun _ => 0), (40, 1, 7, 45, fun _ => 0), (40, 1, 8, 46, fun _ => 0), (40, 1, 13, 65, fun _ => 0), (40, 1, 14, 65, fun _ => 1), (65, 2, 5, 66, fun i => i), (65, 2, 6, 67, fun i => i), (65, 2, 7, 68, fun i => i), (65, 2, 8, 69, fun i => i), (65, 2, 9, 70, fun i => i), (65, 2, 10, 71, fun i => i), (65, 2, 11, 72, fun i => i), (65, 2, 12, 73, fun i => i), (65, 2, 13, 74, fun i => i), (65, 2, 14, 75, fun i => i), (65, 2, 15, 76, fun i => i), (65, 2, 16, 77, fun i => i), (65, 2, 17, 78, fun i => i), (65, 2, 19, 79, fun i => i), (65, 2, 20, 80, fun i => i), (65, 2, 21, 81, fun i => i), (65, 2, 22, 82, fun i => i), (65, 2, 23, 40, fun _ => 0)]
def aTab : List (Nat × Nat × Nat × Nat × (Nat → Nat → Nat)) := [(19, 2, 8, 27, fun i j => 16 + 8 * i + j), (20, 2, 21, 26, fun i j => 21 * i + j), (30, 2, 60, 33, fun i j => 60 * i + j), (31, 2, 5, 35, fun i j => 5 * i + j), (32, 2, 8, 27, fun i j => 8 * i + j)]
def dTab : List (Nat × Nat × Nat × Nat × Nat) := [(8, 1, 3, 18, 2), (8, 1, 4, 18, 2), (15, 1, 1, 18, 2), (15, 1, 3, 0, 49), (16, 1, 4, 18, 2), (26, 42, 0, 0, 49), (10, 1, 5, 9, 2), (29, 2, 3, 18, 2)]
def eTab : List (Nat × Nat × Nat × Nat) := [(11, 1, 0, 49), (22, 2, 0, 49)]
def mpTab : List (Nat × Nat × Nat) := [(50, 1, 12), (51, 2, 8), (52, 2, 8), (53, 2, 8), (54, 2, 20), (55, 2, 20), (56, 2, 20), (57, 2, 20), (58, 2, 21), (59, 2, 21), (60, 2, 21), (61, 2, 800), (62, 2, 400)]
def mrTab : List (Nat × Nat) := [(3, 51), (4, 52), (5, 53), (8, 54), (9, 55), (10, 56), (11, 57), (12, 58), (13, 59), (14, 60), (15, 61), (17, 62)]
def frTab : List Nat := [50, 51, 52, 53, 54, 55, 56, 57, 58, 59, 60, 61, 62, 85]
theorem hd_mod {κ i : Nat} (h : κ < 256) : hd κ i % 256 = κ := by unfold hd; omega
theorem hd_div {κ i : Nat} (h : κ < 256) : hd κ i / 256 = i := by unfold hd; omega
theorem hd_inj {κ i κ' i' : Nat} (h : κ < 256) (h' : κ' < 256) : hd κ i = hd κ' i' ↔ κ = κ' ∧ i = i' := by unfold hd; omega
theorem rw_hd {κ i : Nat} (h : 8 ≤ κ) (h' : κ < 256) : rwN (hd κ i) := by unfold rwN; rw [hd_mod h']; exact h
/-- the index of what a place refers to -/
def px (μ : Mu) (a k : Nat) : Nat := (mR μ a k).getD 0 / 256
theorem px_eq {μ : Mu} {a k κ q : Nat} (h : κ < 256) (e : mR μ a k = some (hd κ q)) : px μ a k = q := by unfold px; rw [e]; exact hd_div h
theorem px_of {μ : Mu} {a k κ m : Nat} (hw : rwN a) (h : κ < 256) (e : ∃ q, q < m ∧ mR μ a k = some (hd κ q)) : gR μ a k = some (hd κ (px μ a k)) ∧ px μ a k < m := by
  obtain ⟨q, hq, e⟩ := e
  rw [gR_rw hw, px_eq h e]
  exact ⟨e, hq⟩
theorem px_ofE {μ : Mu} {a k κ m : Nat} (hw : rwN a) (h : κ < 256) (hn : mR μ a k ≠ none) (e : ∀ b, mR μ a k = some b → ∃ q, q < m ∧ b = hd κ q) : gR μ a k = some (hd κ (px μ a k)) ∧ px μ a k < m := by
  cases hc : mR μ a k with
  | none => exact absurd hc hn
  | some b =>
    obtain ⟨q, hq, rfl⟩ := e b hc
    rw [gR_rw hw, px_eq h hc, hc]
    exact ⟨rfl, hq⟩
def StT (μ : Mu) : Prop :=
  (∀ e ∈ sTab, ∀ i, i < e.2.1 → mS μ (hd e.1 i) = e.2.2 i) ∧
  (∀ e ∈ rTab, ∀ i, i < e.2.1 → mR μ (hd e.1 i) e.2.2.1 = some (hd e.2.2.2.1 (e.2.2.2.2 i))) ∧
  (∀ e ∈ aTab, ∀ i j, i < e.2.1 → j < e.2.2.1 → mR μ (hd e.1 i) j = some (hd e.2.2.2.1 (e.2.2.2.2 i j))) ∧
  (∀ e ∈ dTab, ∀ i, i < e.2.1 → ∃ q, q < e.2.2.2.2 ∧ mR μ (hd e.1 i) e.2.2.1 = some (hd e.2.2.2.1 q)) ∧
  (∀ e ∈ eTab, ∀ i j a, i < e.2.1 → mR μ (hd e.1 i) j = some a → ∃ q, q < e.2.2.2 ∧ a = hd e.2.2.1 q)
def PlanOK (μ : Mu) (q : Nat) : Prop := (∀ e ∈ mpTab, mS μ (hd e.1 q) = e.2) ∧ ∀ e ∈ mrTab, mR μ (hd 50 q) e.1 = some (hd e.2 q)
def Fresh (μ : Mu) : Prop := ∃ N, ∀ q, N ≤ q → ∀ κ ∈ frTab, mS μ (hd κ q) = (0, 0)
def StM (μ : Mu) : Prop := (∃ q, mR μ (hd 40 0) 11 = some (hd 50 q) ∧ PlanOK μ q) ∧ (∃ q, mR μ (hd 40 0) 12 = some (hd 50 q) ∧ PlanOK μ q) ∧ Fresh μ
def St (μ : Mu) : Prop := StT μ ∧ StM μ
theorem St.plan {μ : Mu} (h : St μ) : gR μ (hd 40 0) 11 = some (hd 50 (px μ (hd 40 0) 11)) ∧ PlanOK μ (px μ (hd 40 0) 11) := by
  obtain ⟨q, e, hq⟩ := h.2.1
  rw [gR_rw (rw_hd (by decide) (by decide)), px_eq (by decide) e]
  exact ⟨e, hq⟩
theorem St.reading {μ : Mu} (h : St μ) : gR μ (hd 40 0) 12 = some (hd 50 (px μ (hd 40 0) 12)) ∧ PlanOK μ (px μ (hd 40 0) 12) := by
  obtain ⟨q, e, hq⟩ := h.2.2.1
  rw [gR_rw (rw_hd (by decide) (by decide)), px_eq (by decide) e]
  exact ⟨e, hq⟩
/-- no fixed reference stands at this place of this kind, and what stands there may be of the kind κ', below m -/
def okD (κ k κ' m : Nat) : Bool := decide (κ < 256) && decide (κ' < 256) && decide (κ ≠ 40) && decide (κ ≠ 50) && rTab.all (fun e => decide (e.1 < 256) && !(decide (e.1 = κ) && decide (e.2.2.1 = k))) && aTab.all (fun e => decide (e.1 < 256) && decide (e.1 ≠ κ)) && dTab.all (fun e => decide (e.1 < 256) && (!(decide (e.1 = κ) && decide (e.2.2.1 = k)) || (decide (e.2.2.2.1 = κ') && decide (e.2.2.2.2 = m)))) && eTab.all (fun e => decide (e.1 < 256) && decide (e.1 ≠ κ))
def okE (κ κ' m : Nat) : Bool := decide (κ < 256) && decide (κ' < 256) && decide (κ ≠ 40) && decide (κ ≠ 50) && rTab.all (fun e => decide (e.1 < 256) && decide (e.1 ≠ κ)) && aTab.all (fun e => decide (e.1 < 256) && decide (e.1 ≠ κ)) && dTab.all (fun e => decide (e.1 < 256) && decide (e.1 ≠ κ)) && eTab.all (fun e => decide (e.1 < 256) && (!decide (e.1 = κ) || (decide (e.2.2.1 = κ') && decide (e.2.2.2 = m))))
theorem setR_ne {μ : Mu} {κ i k κ2 i2 k2 x : Nat} (h : κ < 256) (h2 : κ2 < 256) (hn : ¬ (κ2 = κ ∧ k2 = k)) : mR (setR μ (hd κ i) k x) (hd κ2 i2) k2 = mR μ (hd κ2 i2) k2 := up2_ne (fun q => hn ⟨((hd_inj h2 h).mp q.1).1, q.2⟩)
theorem StM.sR {μ : Mu} (h : StM μ) {κ i k x : Nat} (hk : κ < 256) (h1 : κ ≠ 40) (h2 : κ ≠ 50) : StM (setR μ (hd κ i) k x) := by
  have hp : ∀ q, PlanOK μ q → PlanOK (setR μ (hd κ i) k x) q := fun q hq => ⟨hq.1, fun e he => by rw [setR_ne hk (by decide) (fun z => h2 z.1.symm)]; exact hq.2 e he⟩
  obtain ⟨⟨q, e, hq⟩, ⟨q', e', hq'⟩, hf⟩ := h
  exact ⟨⟨q, by rw [setR_ne hk (by decide) (fun z => h1 z.1.symm)]; exact e, hp q hq⟩, ⟨q', by rw [setR_ne hk (by decide) (fun z => h1 z.1.symm)]; exact e', hp q' hq'⟩, hf⟩
theorem St.setD {μ : Mu} (h : St μ) {κ i k κ' q m : Nat} (hk : okD κ k κ' m = true) (hq : q < m) : St (setR μ (hd κ i) k (hd κ' q)) := by
  simp only [okD, Bool.and_eq_true, decide_eq_true_eq, List.all_eq_true, Bool.not_eq_true', Bool.and_eq_false_iff, decide_eq_false_iff_not, Bool.or_eq_true] at hk
  obtain ⟨⟨⟨⟨⟨⟨⟨k1, k2⟩, k3⟩, k4⟩, k5⟩, k6⟩, k7⟩, k8⟩ := hk
  obtain ⟨⟨s1, s2, s3, s4, s5⟩, hm⟩ := h
  refine ⟨⟨s1, fun e he j hj => ?_, fun e he j l hj hl => ?_, fun e he j hj => ?_, fun e he j l b hj hb => ?_⟩, hm.sR k1 k3 k4⟩
  · rw [setR_ne k1 (k5 e he).1 (fun z => (k5 e he).2.elim (fun w => w z.1) (fun w => w z.2))]
    exact s2 e he j hj
  · rw [setR_ne k1 (k6 e he).1 (fun z => (k6 e he).2 z.1)]
    exact s3 e he j l hj hl
  · by_cases hs : hd e.1 j = hd κ i ∧ e.2.2.1 = k
    · have h1 := ((hd_inj (k7 e he).1 k1).mp hs.1).1
      rcases (k7 e he).2 with w | w
      · exact absurd w (fun w => w.elim (fun w => w h1) (fun w => w hs.2))
      · refine ⟨q, by rw [w.2]; exact hq, ?_⟩
        rw [w.1]
        exact if_pos hs
    · obtain ⟨q', a1, a2⟩ := s4 e he j hj
      exact ⟨q', a1, (up2_ne hs).trans a2⟩
  · rw [setR_ne k1 (k8 e he).1 (fun z => (k8 e he).2 z.1)] at hb
    exact s5 e he j l b hj hb
theorem St.setE {μ : Mu} (h : St μ) {κ i k κ' q m : Nat} (hk : okE κ κ' m = true) (hq : q < m) : St (setR μ (hd κ i) k (hd κ' q)) := by
  simp only [okE, Bool.and_eq_true, decide_eq_true_eq, List.all_eq_true, Bool.not_eq_true', Bool.and_eq_false_iff, decide_eq_false_iff_not, Bool.or_eq_true] at hk
  obtain ⟨⟨⟨⟨⟨⟨⟨k1, k2⟩, k3⟩, k4⟩, k5⟩, k6⟩, k7⟩, k8⟩ := hk
  obtain ⟨⟨s1, s2, s3, s4, s5⟩, hm⟩ := h
  refine ⟨⟨s1, fun e he j hj => ?_, fun e he j l hj hl => ?_, fun e he j hj => ?_, fun e he j l b hj hb => ?_⟩, hm.sR k1 k3 k4⟩
  · rw [setR_ne k1 (k5 e he).1 (fun z => (k5 e he).2 z.1)]
    exact s2 e he j hj
  · rw [setR_ne k1 (k6 e he).1 (fun z => (k6 e he).2 z.1)]
    exact s3 e he j l hj hl
  · rw [setR_ne k1 (k7 e he).1 (fun z => (k7 e he).2 z.1)]
    exact s4 e he j hj
  · by_cases hs : hd e.1 j = hd κ i ∧ l = k
    · have h1 := ((hd_inj (k8 e he).1 k1).mp hs.1).1
      have hb' : some (hd κ' q) = some b := (if_pos hs).symm.trans hb
      rcases (k8 e he).2 with w | w
      · exact absurd h1 w
      · refine ⟨q, by rw [w.2]; exact hq, ?_⟩
        rw [w.1]
        exact (Option.some.inj hb').symm
    · exact s5 e he j l b hj ((up2_ne hs).symm.trans hb)

theorem s_0 {μ : Mu} (h : St μ) {i : Nat} (hi : i < 49) : mS μ (hd 0 i) = (1, 14) := h.1.1 _ (List.mem_of_getElem? (i := 0) rfl) i hi
theorem s_1 {μ : Mu} (h : St μ) {i : Nat} (hi : i < 46) : mS μ (hd 1 i) = (1, 15) := h.1.1 _ (List.mem_of_getElem? (i := 1) rfl) i hi
theorem s_8 {μ : Mu} (h : St μ) {i : Nat} (hi : i < 1) : mS μ (hd 8 i) = (1, 0) := h.1.1 _ (List.mem_of_getElem? (i := 2) rfl) i hi
theorem s_10 {μ : Mu} (h : St μ) {i : Nat} (hi : i < 1) : mS μ (hd 10 i) = (1, 9) := h.1.1 _ (List.mem_of_getElem? (i := 3) rfl) i hi
theorem s_15 {μ : Mu} (h : St μ) {i : Nat} (hi : i < 1) : mS μ (hd 15 i) = (1, 3) := h.1.1 _ (List.mem_of_getElem? (i := 4) rfl) i hi
theorem s_16 {μ : Mu} (h : St μ) {i : Nat} (hi : i < 1) : mS μ (hd 16 i) = (1, 4) := h.1.1 _ (List.mem_of_getElem? (i := 5) rfl) i hi
theorem s_18 {μ : Mu} (h : St μ) {i : Nat} (hi : i < 2) : mS μ (hd 18 i) = (1, 6) := h.1.1 _ (List.mem_of_getElem? (i := 6) rfl) i hi
theorem s_21 {μ : Mu} (h : St μ) {i : Nat} (hi : i < 2) : mS μ (hd 21 i) = (1, 2) := h.1.1 _ (List.mem_of_getElem? (i := 7) rfl) i hi
theorem s_26 {μ : Mu} (h : St μ) {i : Nat} (hi : i < 42) : mS μ (hd 26 i) = (1, 5) := h.1.1 _ (List.mem_of_getElem? (i := 8) rfl) i hi
theorem s_27 {μ : Mu} (h : St μ) {i : Nat} (hi : i < 32) : mS μ (hd 27 i) = (1, 7) := h.1.1 _ (List.mem_of_getElem? (i := 9) rfl) i hi
theorem s_29 {μ : Mu} (h : St μ) {i : Nat} (hi : i < 2) : mS μ (hd 29 i) = (1, 10) := h.1.1 _ (List.mem_of_getElem? (i := 10) rfl) i hi
theorem s_33 {μ : Mu} (h : St μ) {i : Nat} (hi : i < 120) : mS μ (hd 33 i) = (1, 8) := h.1.1 _ (List.mem_of_getElem? (i := 11) rfl) i hi
theorem s_35 {μ : Mu} (h : St μ) {i : Nat} (hi : i < 10) : mS μ (hd 35 i) = (1, 1) := h.1.1 _ (List.mem_of_getElem? (i := 12) rfl) i hi
theorem s_40 {μ : Mu} (h : St μ) {i : Nat} (hi : i < 1) : mS μ (hd 40 i) = (1, 11) := h.1.1 _ (List.mem_of_getElem? (i := 13) rfl) i hi
theorem s_65 {μ : Mu} (h : St μ) {i : Nat} (hi : i < 2) : mS μ (hd 65 i) = (1, 13) := h.1.1 _ (List.mem_of_getElem? (i := 14) rfl) i hi
theorem s_2 {μ : Mu} (h : St μ) {i : Nat} (hi : i < 46) : mS μ (hd 2 i) = (4, (kTx.getD i []).length) := h.1.1 _ (List.mem_of_getElem? (i := 15) rfl) i hi
theorem s_3 {μ : Mu} (h : St μ) {i : Nat} (hi : i < 1) : mS μ (hd 3 i) = (2, 49) := h.1.1 _ (List.mem_of_getElem? (i := 16) rfl) i hi
theorem s_4 {μ : Mu} (h : St μ) {i : Nat} (hi : i < 1) : mS μ (hd 4 i) = (20, 49) := h.1.1 _ (List.mem_of_getElem? (i := 17) rfl) i hi
theorem s_5 {μ : Mu} (h : St μ) {i : Nat} (hi : i < 1) : mS μ (hd 5 i) = (21, 29) := h.1.1 _ (List.mem_of_getElem? (i := 18) rfl) i hi
theorem s_9 {μ : Mu} (h : St μ) {i : Nat} (hi : i < 2) : mS μ (hd 9 i) = (4, if i = 0 then 2000 else 0) := h.1.1 _ (List.mem_of_getElem? (i := 19) rfl) i hi
theorem s_11 {μ : Mu} (h : St μ) {i : Nat} (hi : i < 1) : mS μ (hd 11 i) = (20, 401) := h.1.1 _ (List.mem_of_getElem? (i := 20) rfl) i hi
theorem s_12 {μ : Mu} (h : St μ) {i : Nat} (hi : i < 1) : mS μ (hd 12 i) = (2, 401) := h.1.1 _ (List.mem_of_getElem? (i := 21) rfl) i hi
theorem s_13 {μ : Mu} (h : St μ) {i : Nat} (hi : i < 1) : mS μ (hd 13 i) = (3, 401) := h.1.1 _ (List.mem_of_getElem? (i := 22) rfl) i hi
theorem s_14 {μ : Mu} (h : St μ) {i : Nat} (hi : i < 1) : mS μ (hd 14 i) = (2, 401) := h.1.1 _ (List.mem_of_getElem? (i := 23) rfl) i hi
theorem s_17 {μ : Mu} (h : St μ) {i : Nat} (hi : i < 3) : mS μ (hd 17 i) = (3, [5, 6, 8].getD i 0) := h.1.1 _ (List.mem_of_getElem? (i := 24) rfl) i hi
theorem s_19 {μ : Mu} (h : St μ) {i : Nat} (hi : i < 2) : mS μ (hd 19 i) = (13, 8) := h.1.1 _ (List.mem_of_getElem? (i := 25) rfl) i hi
theorem s_20 {μ : Mu} (h : St μ) {i : Nat} (hi : i < 2) : mS μ (hd 20 i) = (11, 21) := h.1.1 _ (List.mem_of_getElem? (i := 26) rfl) i hi
theorem s_22 {μ : Mu} (h : St μ) {i : Nat} (hi : i < 2) : mS μ (hd 22 i) = (20, 400) := h.1.1 _ (List.mem_of_getElem? (i := 27) rfl) i hi
theorem s_23 {μ : Mu} (h : St μ) {i : Nat} (hi : i < 2) : mS μ (hd 23 i) = (2, 400) := h.1.1 _ (List.mem_of_getElem? (i := 28) rfl) i hi
theorem s_24 {μ : Mu} (h : St μ) {i : Nat} (hi : i < 2) : mS μ (hd 24 i) = (2, 400) := h.1.1 _ (List.mem_of_getElem? (i := 29) rfl) i hi
theorem s_25 {μ : Mu} (h : St μ) {i : Nat} (hi : i < 2) : mS μ (hd 25 i) = (2, 400) := h.1.1 _ (List.mem_of_getElem? (i := 30) rfl) i hi
theorem s_28 {μ : Mu} (h : St μ) {i : Nat} (hi : i < 32) : mS μ (hd 28 i) = (2, 60) := h.1.1 _ (List.mem_of_getElem? (i := 31) rfl) i hi
theorem s_30 {μ : Mu} (h : St μ) {i : Nat} (hi : i < 2) : mS μ (hd 30 i) = (14, 60) := h.1.1 _ (List.mem_of_getElem? (i := 32) rfl) i hi
theorem s_31 {μ : Mu} (h : St μ) {i : Nat} (hi : i < 2) : mS μ (hd 31 i) = (7, 5) := h.1.1 _ (List.mem_of_getElem? (i := 33) rfl) i hi
theorem s_32 {μ : Mu} (h : St μ) {i : Nat} (hi : i < 2) : mS μ (hd 32 i) = (13, 8) := h.1.1 _ (List.mem_of_getElem? (i := 34) rfl) i hi
theorem s_34 {μ : Mu} (h : St μ) {i : Nat} (hi : i < 120) : mS μ (hd 34 i) = (2, 5) := h.1.1 _ (List.mem_of_getElem? (i := 35) rfl) i hi
theorem s_36 {μ : Mu} (h : St μ) {i : Nat} (hi : i < 10) : mS μ (hd 36 i) = (2, 5) := h.1.1 _ (List.mem_of_getElem? (i := 36) rfl) i hi
theorem s_37 {μ : Mu} (h : St μ) {i : Nat} (hi : i < 10) : mS μ (hd 37 i) = (2, 30) := h.1.1 _ (List.mem_of_getElem? (i := 37) rfl) i hi
theorem s_38 {μ : Mu} (h : St μ) {i : Nat} (hi : i < 10) : mS μ (hd 38 i) = (5, 60) := h.1.1 _ (List.mem_of_getElem? (i := 38) rfl) i hi
theorem s_41 {μ : Mu} (h : St μ) {i : Nat} (hi : i < 1) : mS μ (hd 41 i) = (2, 2000) := h.1.1 _ (List.mem_of_getElem? (i := 39) rfl) i hi
theorem s_42 {μ : Mu} (h : St μ) {i : Nat} (hi : i < 1) : mS μ (hd 42 i) = (2, 401) := h.1.1 _ (List.mem_of_getElem? (i := 40) rfl) i hi
theorem s_43 {μ : Mu} (h : St μ) {i : Nat} (hi : i < 1) : mS μ (hd 43 i) = (2, 401) := h.1.1 _ (List.mem_of_getElem? (i := 41) rfl) i hi
theorem s_44 {μ : Mu} (h : St μ) {i : Nat} (hi : i < 1) : mS μ (hd 44 i) = (2, 401) := h.1.1 _ (List.mem_of_getElem? (i := 42) rfl) i hi
theorem s_45 {μ : Mu} (h : St μ) {i : Nat} (hi : i < 1) : mS μ (hd 45 i) = (2, 401) := h.1.1 _ (List.mem_of_getElem? (i := 43) rfl) i hi
theorem s_46 {μ : Mu} (h : St μ) {i : Nat} (hi : i < 1) : mS μ (hd 46 i) = (2, 401) := h.1.1 _ (List.mem_of_getElem? (i := 44) rfl) i hi
theorem s_66 {μ : Mu} (h : St μ) {i : Nat} (hi : i < 2) : mS μ (hd 66 i) = (2, 60) := h.1.1 _ (List.mem_of_getElem? (i := 45) rfl) i hi
theorem s_67 {μ : Mu} (h : St μ) {i : Nat} (hi : i < 2) : mS μ (hd 67 i) = (2, 60) := h.1.1 _ (List.mem_of_getElem? (i := 46) rfl) i hi
theorem s_68 {μ : Mu} (h : St μ) {i : Nat} (hi : i < 2) : mS μ (hd 68 i) = (2, 60) := h.1.1 _ (List.mem_of_getElem? (i := 47) rfl) i hi
theorem s_69 {μ : Mu} (h : St μ) {i : Nat} (hi : i < 2) : mS μ (hd 69 i) = (2, 60) := h.1.1 _ (List.mem_of_getElem? (i := 48) rfl) i hi
theorem s_70 {μ : Mu} (h : St μ) {i : Nat} (hi : i < 2) : mS μ (hd 70 i) = (2, 60) := h.1.1 _ (List.mem_of_getElem? (i := 49) rfl) i hi
theorem s_71 {μ : Mu} (h : St μ) {i : Nat} (hi : i < 2) : mS μ (hd 71 i) = (2, 60) := h.1.1 _ (List.mem_of_getElem? (i := 50) rfl) i hi
theorem s_72 {μ : Mu} (h : St μ) {i : Nat} (hi : i < 2) : mS μ (hd 72 i) = (2, 300) := h.1.1 _ (List.mem_of_getElem? (i := 51) rfl) i hi
theorem s_73 {μ : Mu} (h : St μ) {i : Nat} (hi : i < 2) : mS μ (hd 73 i) = (2, 25) := h.1.1 _ (List.mem_of_getElem? (i := 52) rfl) i hi
theorem s_74 {μ : Mu} (h : St μ) {i : Nat} (hi : i < 2) : mS μ (hd 74 i) = (2, 150) := h.1.1 _ (List.mem_of_getElem? (i := 53) rfl) i hi
theorem s_75 {μ : Mu} (h : St μ) {i : Nat} (hi : i < 2) : mS μ (hd 75 i) = (3, 5) := h.1.1 _ (List.mem_of_getElem? (i := 54) rfl) i hi
theorem s_76 {μ : Mu} (h : St μ) {i : Nat} (hi : i < 2) : mS μ (hd 76 i) = (2, 8) := h.1.1 _ (List.mem_of_getElem? (i := 55) rfl) i hi
theorem s_77 {μ : Mu} (h : St μ) {i : Nat} (hi : i < 2) : mS μ (hd 77 i) = (2, 8) := h.1.1 _ (List.mem_of_getElem? (i := 56) rfl) i hi
theorem s_78 {μ : Mu} (h : St μ) {i : Nat} (hi : i < 2) : mS μ (hd 78 i) = (3, 8) := h.1.1 _ (List.mem_of_getElem? (i := 57) rfl) i hi
theorem s_79 {μ : Mu} (h : St μ) {i : Nat} (hi : i < 2) : mS μ (hd 79 i) = (2, 480) := h.1.1 _ (List.mem_of_getElem? (i := 58) rfl) i hi
theorem s_80 {μ : Mu} (h : St μ) {i : Nat} (hi : i < 2) : mS μ (hd 80 i) = (2, 480) := h.1.1 _ (List.mem_of_getElem? (i := 59) rfl) i hi
theorem s_81 {μ : Mu} (h : St μ) {i : Nat} (hi : i < 2) : mS μ (hd 81 i) = (3, 480) := h.1.1 _ (List.mem_of_getElem? (i := 60) rfl) i hi
theorem s_82 {μ : Mu} (h : St μ) {i : Nat} (hi : i < 2) : mS μ (hd 82 i) = (2, 400) := h.1.1 _ (List.mem_of_getElem? (i := 61) rfl) i hi
theorem s_90 {μ : Mu} (h : St μ) {i : Nat} (hi : i < 1) : mS μ (hd 90 i) = (3, 1) := h.1.1 _ (List.mem_of_getElem? (i := 62) rfl) i hi
theorem r_8_0 {μ : Mu} (h : St μ) {i : Nat} (hi : i < 1) : gR μ (hd 8 i) 0 = some (hd 9 (0)) := (gR_rw (rw_hd (by decide) (by decide)) _).trans (h.1.2.1 _ (List.mem_of_getElem? (i := 0) rfl) i hi)
theorem r_8_5 {μ : Mu} (h : St μ) {i : Nat} (hi : i < 1) : gR μ (hd 8 i) 5 = some (hd 10 (0)) := (gR_rw (rw_hd (by decide) (by decide)) _).trans (h.1.2.1 _ (List.mem_of_getElem? (i := 1) rfl) i hi)
theorem r_8_6 {μ : Mu} (h : St μ) {i : Nat} (hi : i < 1) : gR μ (hd 8 i) 6 = some (hd 15 (0)) := (gR_rw (rw_hd (by decide) (by decide)) _).trans (h.1.2.1 _ (List.mem_of_getElem? (i := 2) rfl) i hi)
theorem r_8_7 {μ : Mu} (h : St μ) {i : Nat} (hi : i < 1) : gR μ (hd 8 i) 7 = some (hd 16 (0)) := (gR_rw (rw_hd (by decide) (by decide)) _).trans (h.1.2.1 _ (List.mem_of_getElem? (i := 3) rfl) i hi)
theorem r_8_8 {μ : Mu} (h : St μ) {i : Nat} (hi : i < 1) : gR μ (hd 8 i) 8 = some (hd 29 (0)) := (gR_rw (rw_hd (by decide) (by decide)) _).trans (h.1.2.1 _ (List.mem_of_getElem? (i := 4) rfl) i hi)
theorem r_8_9 {μ : Mu} (h : St μ) {i : Nat} (hi : i < 1) : gR μ (hd 8 i) 9 = some (hd 29 (1)) := (gR_rw (rw_hd (by decide) (by decide)) _).trans (h.1.2.1 _ (List.mem_of_getElem? (i := 5) rfl) i hi)
theorem r_35_0 {μ : Mu} (h : St μ) {i : Nat} (hi : i < 10) : gR μ (hd 35 i) 0 = some (hd 36 (i)) := (gR_rw (rw_hd (by decide) (by decide)) _).trans (h.1.2.1 _ (List.mem_of_getElem? (i := 6) rfl) i hi)
theorem r_35_1 {μ : Mu} (h : St μ) {i : Nat} (hi : i < 10) : gR μ (hd 35 i) 1 = some (hd 37 (i)) := (gR_rw (rw_hd (by decide) (by decide)) _).trans (h.1.2.1 _ (List.mem_of_getElem? (i := 7) rfl) i hi)
theorem r_35_2 {μ : Mu} (h : St μ) {i : Nat} (hi : i < 10) : gR μ (hd 35 i) 2 = some (hd 38 (i)) := (gR_rw (rw_hd (by decide) (by decide)) _).trans (h.1.2.1 _ (List.mem_of_getElem? (i := 8) rfl) i hi)
theorem r_21_0 {μ : Mu} (h : St μ) {i : Nat} (hi : i < 2) : gR μ (hd 21 i) 0 = some (hd 22 (i)) := (gR_rw (rw_hd (by decide) (by decide)) _).trans (h.1.2.1 _ (List.mem_of_getElem? (i := 9) rfl) i hi)
theorem r_21_1 {μ : Mu} (h : St μ) {i : Nat} (hi : i < 2) : gR μ (hd 21 i) 1 = some (hd 23 (i)) := (gR_rw (rw_hd (by decide) (by decide)) _).trans (h.1.2.1 _ (List.mem_of_getElem? (i := 10) rfl) i hi)
theorem r_21_2 {μ : Mu} (h : St μ) {i : Nat} (hi : i < 2) : gR μ (hd 21 i) 2 = some (hd 24 (i)) := (gR_rw (rw_hd (by decide) (by decide)) _).trans (h.1.2.1 _ (List.mem_of_getElem? (i := 11) rfl) i hi)
theorem r_21_3 {μ : Mu} (h : St μ) {i : Nat} (hi : i < 2) : gR μ (hd 21 i) 3 = some (hd 25 (i)) := (gR_rw (rw_hd (by decide) (by decide)) _).trans (h.1.2.1 _ (List.mem_of_getElem? (i := 12) rfl) i hi)
theorem r_15_0 {μ : Mu} (h : St μ) {i : Nat} (hi : i < 1) : gR μ (hd 15 i) 0 = some (hd 10 (0)) := (gR_rw (rw_hd (by decide) (by decide)) _).trans (h.1.2.1 _ (List.mem_of_getElem? (i := 13) rfl) i hi)
theorem r_16_0 {μ : Mu} (h : St μ) {i : Nat} (hi : i < 1) : gR μ (hd 16 i) 0 = some (hd 17 (0)) := (gR_rw (rw_hd (by decide) (by decide)) _).trans (h.1.2.1 _ (List.mem_of_getElem? (i := 14) rfl) i hi)
theorem r_16_1 {μ : Mu} (h : St μ) {i : Nat} (hi : i < 1) : gR μ (hd 16 i) 1 = some (hd 17 (1)) := (gR_rw (rw_hd (by decide) (by decide)) _).trans (h.1.2.1 _ (List.mem_of_getElem? (i := 15) rfl) i hi)
theorem r_16_2 {μ : Mu} (h : St μ) {i : Nat} (hi : i < 1) : gR μ (hd 16 i) 2 = some (hd 17 (2)) := (gR_rw (rw_hd (by decide) (by decide)) _).trans (h.1.2.1 _ (List.mem_of_getElem? (i := 16) rfl) i hi)
theorem r_16_3 {μ : Mu} (h : St μ) {i : Nat} (hi : i < 1) : gR μ (hd 16 i) 3 = some (hd 10 (0)) := (gR_rw (rw_hd (by decide) (by decide)) _).trans (h.1.2.1 _ (List.mem_of_getElem? (i := 17) rfl) i hi)
theorem r_18_0 {μ : Mu} (h : St μ) {i : Nat} (hi : i < 2) : gR μ (hd 18 i) 0 = some (hd 21 (i)) := (gR_rw (rw_hd (by decide) (by decide)) _).trans (h.1.2.1 _ (List.mem_of_getElem? (i := 18) rfl) i hi)
theorem r_18_1 {μ : Mu} (h : St μ) {i : Nat} (hi : i < 2) : gR μ (hd 18 i) 1 = some (hd 19 (i)) := (gR_rw (rw_hd (by decide) (by decide)) _).trans (h.1.2.1 _ (List.mem_of_getElem? (i := 19) rfl) i hi)
theorem r_18_2 {μ : Mu} (h : St μ) {i : Nat} (hi : i < 2) : gR μ (hd 18 i) 2 = some (hd 20 (i)) := (gR_rw (rw_hd (by decide) (by decide)) _).trans (h.1.2.1 _ (List.mem_of_getElem? (i := 20) rfl) i hi)
theorem r_27_0 {μ : Mu} (h : St μ) {i : Nat} (hi : i < 32) : gR μ (hd 27 i) 0 = some (hd 28 (i)) := (gR_rw (rw_hd (by decide) (by decide)) _).trans (h.1.2.1 _ (List.mem_of_getElem? (i := 21) rfl) i hi)
theorem r_33_0 {μ : Mu} (h : St μ) {i : Nat} (hi : i < 120) : gR μ (hd 33 i) 0 = some (hd 34 (i)) := (gR_rw (rw_hd (by decide) (by decide)) _).trans (h.1.2.1 _ (List.mem_of_getElem? (i := 22) rfl) i hi)
theorem r_10_0 {μ : Mu} (h : St μ) {i : Nat} (hi : i < 1) : gR μ (hd 10 i) 0 = some (hd 11 (0)) := (gR_rw (rw_hd (by decide) (by decide)) _).trans (h.1.2.1 _ (List.mem_of_getElem? (i := 23) rfl) i hi)
theorem r_10_1 {μ : Mu} (h : St μ) {i : Nat} (hi : i < 1) : gR μ (hd 10 i) 1 = some (hd 12 (0)) := (gR_rw (rw_hd (by decide) (by decide)) _).trans (h.1.2.1 _ (List.mem_of_getElem? (i := 24) rfl) i hi)
theorem r_10_2 {μ : Mu} (h : St μ) {i : Nat} (hi : i < 1) : gR μ (hd 10 i) 2 = some (hd 13 (0)) := (gR_rw (rw_hd (by decide) (by decide)) _).trans (h.1.2.1 _ (List.mem_of_getElem? (i := 25) rfl) i hi)
theorem r_10_3 {μ : Mu} (h : St μ) {i : Nat} (hi : i < 1) : gR μ (hd 10 i) 3 = some (hd 14 (0)) := (gR_rw (rw_hd (by decide) (by decide)) _).trans (h.1.2.1 _ (List.mem_of_getElem? (i := 26) rfl) i hi)
theorem r_29_0 {μ : Mu} (h : St μ) {i : Nat} (hi : i < 2) : gR μ (hd 29 i) 0 = some (hd 30 (i)) := (gR_rw (rw_hd (by decide) (by decide)) _).trans (h.1.2.1 _ (List.mem_of_getElem? (i := 27) rfl) i hi)
theorem r_29_1 {μ : Mu} (h : St μ) {i : Nat} (hi : i < 2) : gR μ (hd 29 i) 1 = some (hd 31 (i)) := (gR_rw (rw_hd (by decide) (by decide)) _).trans (h.1.2.1 _ (List.mem_of_getElem? (i := 28) rfl) i hi)
theorem r_29_2 {μ : Mu} (h : St μ) {i : Nat} (hi : i < 2) : gR μ (hd 29 i) 2 = some (hd 32 (i)) := (gR_rw (rw_hd (by decide) (by decide)) _).trans (h.1.2.1 _ (List.mem_of_getElem? (i := 29) rfl) i hi)
theorem r_40_1 {μ : Mu} (h : St μ) {i : Nat} (hi : i < 1) : gR μ (hd 40 i) 1 = some (hd 41 (0)) := (gR_rw (rw_hd (by decide) (by decide)) _).trans (h.1.2.1 _ (List.mem_of_getElem? (i := 30) rfl) i hi)
theorem r_40_4 {μ : Mu} (h : St μ) {i : Nat} (hi : i < 1) : gR μ (hd 40 i) 4 = some (hd 42 (0)) := (gR_rw (rw_hd (by decide) (by decide)) _).trans (h.1.2.1 _ (List.mem_of_getElem? (i := 31) rfl) i hi)
theorem r_40_5 {μ : Mu} (h : St μ) {i : Nat} (hi : i < 1) : gR μ (hd 40 i) 5 = some (hd 43 (0)) := (gR_rw (rw_hd (by decide) (by decide)) _).trans (h.1.2.1 _ (List.mem_of_getElem? (i := 32) rfl) i hi)
theorem r_40_6 {μ : Mu} (h : St μ) {i : Nat} (hi : i < 1) : gR μ (hd 40 i) 6 = some (hd 44 (0)) := (gR_rw (rw_hd (by decide) (by decide)) _).trans (h.1.2.1 _ (List.mem_of_getElem? (i := 33) rfl) i hi)
theorem r_40_7 {μ : Mu} (h : St μ) {i : Nat} (hi : i < 1) : gR μ (hd 40 i) 7 = some (hd 45 (0)) := (gR_rw (rw_hd (by decide) (by decide)) _).trans (h.1.2.1 _ (List.mem_of_getElem? (i := 34) rfl) i hi)
theorem r_40_8 {μ : Mu} (h : St μ) {i : Nat} (hi : i < 1) : gR μ (hd 40 i) 8 = some (hd 46 (0)) := (gR_rw (rw_hd (by decide) (by decide)) _).trans (h.1.2.1 _ (List.mem_of_getElem? (i := 35) rfl) i hi)
theorem r_40_13 {μ : Mu} (h : St μ) {i : Nat} (hi : i < 1) : gR μ (hd 40 i) 13 = some (hd 65 (0)) := (gR_rw (rw_hd (by decide) (by decide)) _).trans (h.1.2.1 _ (List.mem_of_getElem? (i := 36) rfl) i hi)
theorem r_40_14 {μ : Mu} (h : St μ) {i : Nat} (hi : i < 1) : gR μ (hd 40 i) 14 = some (hd 65 (1)) := (gR_rw (rw_hd (by decide) (by decide)) _).trans (h.1.2.1 _ (List.mem_of_getElem? (i := 37) rfl) i hi)
theorem r_65_5 {μ : Mu} (h : St μ) {i : Nat} (hi : i < 2) : gR μ (hd 65 i) 5 = some (hd 66 (i)) := (gR_rw (rw_hd (by decide) (by decide)) _).trans (h.1.2.1 _ (List.mem_of_getElem? (i := 38) rfl) i hi)
theorem r_65_6 {μ : Mu} (h : St μ) {i : Nat} (hi : i < 2) : gR μ (hd 65 i) 6 = some (hd 67 (i)) := (gR_rw (rw_hd (by decide) (by decide)) _).trans (h.1.2.1 _ (List.mem_of_getElem? (i := 39) rfl) i hi)
theorem r_65_7 {μ : Mu} (h : St μ) {i : Nat} (hi : i < 2) : gR μ (hd 65 i) 7 = some (hd 68 (i)) := (gR_rw (rw_hd (by decide) (by decide)) _).trans (h.1.2.1 _ (List.mem_of_getElem? (i := 40) rfl) i hi)
theorem r_65_8 {μ : Mu} (h : St μ) {i : Nat} (hi : i < 2) : gR μ (hd 65 i) 8 = some (hd 69 (i)) := (gR_rw (rw_hd (by decide) (by decide)) _).trans (h.1.2.1 _ (List.mem_of_getElem? (i := 41) rfl) i hi)
theorem r_65_9 {μ : Mu} (h : St μ) {i : Nat} (hi : i < 2) : gR μ (hd 65 i) 9 = some (hd 70 (i)) := (gR_rw (rw_hd (by decide) (by decide)) _).trans (h.1.2.1 _ (List.mem_of_getElem? (i := 42) rfl) i hi)
theorem r_65_10 {μ : Mu} (h : St μ) {i : Nat} (hi : i < 2) : gR μ (hd 65 i) 10 = some (hd 71 (i)) := (gR_rw (rw_hd (by decide) (by decide)) _).trans (h.1.2.1 _ (List.mem_of_getElem? (i := 43) rfl) i hi)
theorem r_65_11 {μ : Mu} (h : St μ) {i : Nat} (hi : i < 2) : gR μ (hd 65 i) 11 = some (hd 72 (i)) := (gR_rw (rw_hd (by decide) (by decide)) _).trans (h.1.2.1 _ (List.mem_of_getElem? (i := 44) rfl) i hi)
theorem r_65_12 {μ : Mu} (h : St μ) {i : Nat} (hi : i < 2) : gR μ (hd 65 i) 12 = some (hd 73 (i)) := (gR_rw (rw_hd (by decide) (by decide)) _).trans (h.1.2.1 _ (List.mem_of_getElem? (i := 45) rfl) i hi)
theorem r_65_13 {μ : Mu} (h : St μ) {i : Nat} (hi : i < 2) : gR μ (hd 65 i) 13 = some (hd 74 (i)) := (gR_rw (rw_hd (by decide) (by decide)) _).trans (h.1.2.1 _ (List.mem_of_getElem? (i := 46) rfl) i hi)
theorem r_65_14 {μ : Mu} (h : St μ) {i : Nat} (hi : i < 2) : gR μ (hd 65 i) 14 = some (hd 75 (i)) := (gR_rw (rw_hd (by decide) (by decide)) _).trans (h.1.2.1 _ (List.mem_of_getElem? (i := 47) rfl) i hi)
theorem r_65_15 {μ : Mu} (h : St μ) {i : Nat} (hi : i < 2) : gR μ (hd 65 i) 15 = some (hd 76 (i)) := (gR_rw (rw_hd (by decide) (by decide)) _).trans (h.1.2.1 _ (List.mem_of_getElem? (i := 48) rfl) i hi)
theorem r_65_16 {μ : Mu} (h : St μ) {i : Nat} (hi : i < 2) : gR μ (hd 65 i) 16 = some (hd 77 (i)) := (gR_rw (rw_hd (by decide) (by decide)) _).trans (h.1.2.1 _ (List.mem_of_getElem? (i := 49) rfl) i hi)
theorem r_65_17 {μ : Mu} (h : St μ) {i : Nat} (hi : i < 2) : gR μ (hd 65 i) 17 = some (hd 78 (i)) := (gR_rw (rw_hd (by decide) (by decide)) _).trans (h.1.2.1 _ (List.mem_of_getElem? (i := 50) rfl) i hi)
theorem r_65_19 {μ : Mu} (h : St μ) {i : Nat} (hi : i < 2) : gR μ (hd 65 i) 19 = some (hd 79 (i)) := (gR_rw (rw_hd (by decide) (by decide)) _).trans (h.1.2.1 _ (List.mem_of_getElem? (i := 51) rfl) i hi)
theorem r_65_20 {μ : Mu} (h : St μ) {i : Nat} (hi : i < 2) : gR μ (hd 65 i) 20 = some (hd 80 (i)) := (gR_rw (rw_hd (by decide) (by decide)) _).trans (h.1.2.1 _ (List.mem_of_getElem? (i := 52) rfl) i hi)
theorem r_65_21 {μ : Mu} (h : St μ) {i : Nat} (hi : i < 2) : gR μ (hd 65 i) 21 = some (hd 81 (i)) := (gR_rw (rw_hd (by decide) (by decide)) _).trans (h.1.2.1 _ (List.mem_of_getElem? (i := 53) rfl) i hi)
theorem r_65_22 {μ : Mu} (h : St μ) {i : Nat} (hi : i < 2) : gR μ (hd 65 i) 22 = some (hd 82 (i)) := (gR_rw (rw_hd (by decide) (by decide)) _).trans (h.1.2.1 _ (List.mem_of_getElem? (i := 54) rfl) i hi)
theorem r_65_23 {μ : Mu} (h : St μ) {i : Nat} (hi : i < 2) : gR μ (hd 65 i) 23 = some (hd 40 (0)) := (gR_rw (rw_hd (by decide) (by decide)) _).trans (h.1.2.1 _ (List.mem_of_getElem? (i := 55) rfl) i hi)
theorem a_19 {μ : Mu} (h : St μ) {i j : Nat} (hi : i < 2) (hj : j < 8) : gR μ (hd 19 i) j = some (hd 27 (16 + 8 * i + j)) := (gR_rw (rw_hd (by decide) (by decide)) _).trans (h.1.2.2.1 _ (List.mem_of_getElem? (i := 0) rfl) i j hi hj)
theorem a_20 {μ : Mu} (h : St μ) {i j : Nat} (hi : i < 2) (hj : j < 21) : gR μ (hd 20 i) j = some (hd 26 (21 * i + j)) := (gR_rw (rw_hd (by decide) (by decide)) _).trans (h.1.2.2.1 _ (List.mem_of_getElem? (i := 1) rfl) i j hi hj)
theorem a_30 {μ : Mu} (h : St μ) {i j : Nat} (hi : i < 2) (hj : j < 60) : gR μ (hd 30 i) j = some (hd 33 (60 * i + j)) := (gR_rw (rw_hd (by decide) (by decide)) _).trans (h.1.2.2.1 _ (List.mem_of_getElem? (i := 2) rfl) i j hi hj)
theorem a_31 {μ : Mu} (h : St μ) {i j : Nat} (hi : i < 2) (hj : j < 5) : gR μ (hd 31 i) j = some (hd 35 (5 * i + j)) := (gR_rw (rw_hd (by decide) (by decide)) _).trans (h.1.2.2.1 _ (List.mem_of_getElem? (i := 3) rfl) i j hi hj)
theorem a_32 {μ : Mu} (h : St μ) {i j : Nat} (hi : i < 2) (hj : j < 8) : gR μ (hd 32 i) j = some (hd 27 (8 * i + j)) := (gR_rw (rw_hd (by decide) (by decide)) _).trans (h.1.2.2.1 _ (List.mem_of_getElem? (i := 4) rfl) i j hi hj)
theorem d_8_3 {μ : Mu} (h : St μ) {i : Nat} (hi : i < 1) : gR μ (hd 8 i) 3 = some (hd 18 (px μ (hd 8 i) 3)) ∧ px μ (hd 8 i) 3 < 2 := px_of (rw_hd (by decide) (by decide)) (by decide) (h.1.2.2.2.1 _ (List.mem_of_getElem? (i := 0) rfl) i hi)
theorem sd_8_3 {μ : Mu} (h : St μ) {i q : Nat} (hi : i < 1) (hq : q < 2) : St (setR μ (hd 8 i) 3 (hd 18 q)) := h.setD (m := 2) (by decide +kernel) hq
theorem d_8_4 {μ : Mu} (h : St μ) {i : Nat} (hi : i < 1) : gR μ (hd 8 i) 4 = some (hd 18 (px μ (hd 8 i) 4)) ∧ px μ (hd 8 i) 4 < 2 := px_of (rw_hd (by decide) (by decide)) (by decide) (h.1.2.2.2.1 _ (List.mem_of_getElem? (i := 1) rfl) i hi)
theorem sd_8_4 {μ : Mu} (h : St μ) {i q : Nat} (hi : i < 1) (hq : q < 2) : St (setR μ (hd 8 i) 4 (hd 18 q)) := h.setD (m := 2) (by decide +kernel) hq
theorem d_15_1 {μ : Mu} (h : St μ) {i : Nat} (hi : i < 1) : gR μ (hd 15 i) 1 = some (hd 18 (px μ (hd 15 i) 1)) ∧ px μ (hd 15 i) 1 < 2 := px_of (rw_hd (by decide) (by decide)) (by decide) (h.1.2.2.2.1 _ (List.mem_of_getElem? (i := 2) rfl) i hi)
theorem sd_15_1 {μ : Mu} (h : St μ) {i q : Nat} (hi : i < 1) (hq : q < 2) : St (setR μ (hd 15 i) 1 (hd 18 q)) := h.setD (m := 2) (by decide +kernel) hq
theorem d_15_3 {μ : Mu} (h : St μ) {i : Nat} (hi : i < 1) : gR μ (hd 15 i) 3 = some (hd 0 (px μ (hd 15 i) 3)) ∧ px μ (hd 15 i) 3 < 49 := px_of (rw_hd (by decide) (by decide)) (by decide) (h.1.2.2.2.1 _ (List.mem_of_getElem? (i := 3) rfl) i hi)
theorem sd_15_3 {μ : Mu} (h : St μ) {i q : Nat} (hi : i < 1) (hq : q < 49) : St (setR μ (hd 15 i) 3 (hd 0 q)) := h.setD (m := 49) (by decide +kernel) hq
theorem d_16_4 {μ : Mu} (h : St μ) {i : Nat} (hi : i < 1) : gR μ (hd 16 i) 4 = some (hd 18 (px μ (hd 16 i) 4)) ∧ px μ (hd 16 i) 4 < 2 := px_of (rw_hd (by decide) (by decide)) (by decide) (h.1.2.2.2.1 _ (List.mem_of_getElem? (i := 4) rfl) i hi)
theorem sd_16_4 {μ : Mu} (h : St μ) {i q : Nat} (hi : i < 1) (hq : q < 2) : St (setR μ (hd 16 i) 4 (hd 18 q)) := h.setD (m := 2) (by decide +kernel) hq
theorem d_26_0 {μ : Mu} (h : St μ) {i : Nat} (hi : i < 42) : gR μ (hd 26 i) 0 = some (hd 0 (px μ (hd 26 i) 0)) ∧ px μ (hd 26 i) 0 < 49 := px_of (rw_hd (by decide) (by decide)) (by decide) (h.1.2.2.2.1 _ (List.mem_of_getElem? (i := 5) rfl) i hi)
theorem sd_26_0 {μ : Mu} (h : St μ) {i q : Nat} (hi : i < 42) (hq : q < 49) : St (setR μ (hd 26 i) 0 (hd 0 q)) := h.setD (m := 49) (by decide +kernel) hq
theorem d_10_5 {μ : Mu} (h : St μ) {i : Nat} (hi : i < 1) : gR μ (hd 10 i) 5 = some (hd 9 (px μ (hd 10 i) 5)) ∧ px μ (hd 10 i) 5 < 2 := px_of (rw_hd (by decide) (by decide)) (by decide) (h.1.2.2.2.1 _ (List.mem_of_getElem? (i := 6) rfl) i hi)
theorem sd_10_5 {μ : Mu} (h : St μ) {i q : Nat} (hi : i < 1) (hq : q < 2) : St (setR μ (hd 10 i) 5 (hd 9 q)) := h.setD (m := 2) (by decide +kernel) hq
theorem d_29_3 {μ : Mu} (h : St μ) {i : Nat} (hi : i < 2) : gR μ (hd 29 i) 3 = some (hd 18 (px μ (hd 29 i) 3)) ∧ px μ (hd 29 i) 3 < 2 := px_of (rw_hd (by decide) (by decide)) (by decide) (h.1.2.2.2.1 _ (List.mem_of_getElem? (i := 7) rfl) i hi)
theorem sd_29_3 {μ : Mu} (h : St μ) {i q : Nat} (hi : i < 2) (hq : q < 2) : St (setR μ (hd 29 i) 3 (hd 18 q)) := h.setD (m := 2) (by decide +kernel) hq
theorem e_11 {μ : Mu} (h : St μ) {i j : Nat} (hi : i < 1) (hn : mR μ (hd 11 i) j ≠ none) : gR μ (hd 11 i) j = some (hd 0 (px μ (hd 11 i) j)) ∧ px μ (hd 11 i) j < 49 := px_ofE (rw_hd (by decide) (by decide)) (by decide) hn (h.1.2.2.2.2 _ (List.mem_of_getElem? (i := 0) rfl) i j · hi)
theorem se_11 {μ : Mu} (h : St μ) {i j q : Nat} (hi : i < 1) (hq : q < 49) : St (setR μ (hd 11 i) j (hd 0 q)) := h.setE (m := 49) (by decide +kernel) hq
theorem e_22 {μ : Mu} (h : St μ) {i j : Nat} (hi : i < 2) (hn : mR μ (hd 22 i) j ≠ none) : gR μ (hd 22 i) j = some (hd 0 (px μ (hd 22 i) j)) ∧ px μ (hd 22 i) j < 49 := px_ofE (rw_hd (by decide) (by decide)) (by decide) hn (h.1.2.2.2.2 _ (List.mem_of_getElem? (i := 1) rfl) i j · hi)
theorem se_22 {μ : Mu} (h : St μ) {i j q : Nat} (hi : i < 2) (hq : q < 49) : St (setR μ (hd 22 i) j (hd 0 q)) := h.setE (m := 49) (by decide +kernel) hq
theorem s_50 {μ : Mu} {q : Nat} (h : PlanOK μ q) : mS μ (hd 50 q) = (1, 12) := h.1 _ (List.mem_of_getElem? (i := 0) rfl)
theorem s_51 {μ : Mu} {q : Nat} (h : PlanOK μ q) : mS μ (hd 51 q) = (2, 8) := h.1 _ (List.mem_of_getElem? (i := 1) rfl)
theorem s_52 {μ : Mu} {q : Nat} (h : PlanOK μ q) : mS μ (hd 52 q) = (2, 8) := h.1 _ (List.mem_of_getElem? (i := 2) rfl)
theorem s_53 {μ : Mu} {q : Nat} (h : PlanOK μ q) : mS μ (hd 53 q) = (2, 8) := h.1 _ (List.mem_of_getElem? (i := 3) rfl)
theorem s_54 {μ : Mu} {q : Nat} (h : PlanOK μ q) : mS μ (hd 54 q) = (2, 20) := h.1 _ (List.mem_of_getElem? (i := 4) rfl)
theorem s_55 {μ : Mu} {q : Nat} (h : PlanOK μ q) : mS μ (hd 55 q) = (2, 20) := h.1 _ (List.mem_of_getElem? (i := 5) rfl)
theorem s_56 {μ : Mu} {q : Nat} (h : PlanOK μ q) : mS μ (hd 56 q) = (2, 20) := h.1 _ (List.mem_of_getElem? (i := 6) rfl)
theorem s_57 {μ : Mu} {q : Nat} (h : PlanOK μ q) : mS μ (hd 57 q) = (2, 20) := h.1 _ (List.mem_of_getElem? (i := 7) rfl)
theorem s_58 {μ : Mu} {q : Nat} (h : PlanOK μ q) : mS μ (hd 58 q) = (2, 21) := h.1 _ (List.mem_of_getElem? (i := 8) rfl)
theorem s_59 {μ : Mu} {q : Nat} (h : PlanOK μ q) : mS μ (hd 59 q) = (2, 21) := h.1 _ (List.mem_of_getElem? (i := 9) rfl)
theorem s_60 {μ : Mu} {q : Nat} (h : PlanOK μ q) : mS μ (hd 60 q) = (2, 21) := h.1 _ (List.mem_of_getElem? (i := 10) rfl)
theorem s_61 {μ : Mu} {q : Nat} (h : PlanOK μ q) : mS μ (hd 61 q) = (2, 800) := h.1 _ (List.mem_of_getElem? (i := 11) rfl)
theorem s_62 {μ : Mu} {q : Nat} (h : PlanOK μ q) : mS μ (hd 62 q) = (2, 400) := h.1 _ (List.mem_of_getElem? (i := 12) rfl)
theorem r_50_3 {μ : Mu} {q : Nat} (h : PlanOK μ q) : gR μ (hd 50 q) 3 = some (hd 51 q) := (gR_rw (rw_hd (by decide) (by decide)) _).trans (h.2 _ (List.mem_of_getElem? (i := 0) rfl))
theorem r_50_4 {μ : Mu} {q : Nat} (h : PlanOK μ q) : gR μ (hd 50 q) 4 = some (hd 52 q) := (gR_rw (rw_hd (by decide) (by decide)) _).trans (h.2 _ (List.mem_of_getElem? (i := 1) rfl))
theorem r_50_5 {μ : Mu} {q : Nat} (h : PlanOK μ q) : gR μ (hd 50 q) 5 = some (hd 53 q) := (gR_rw (rw_hd (by decide) (by decide)) _).trans (h.2 _ (List.mem_of_getElem? (i := 2) rfl))
theorem r_50_8 {μ : Mu} {q : Nat} (h : PlanOK μ q) : gR μ (hd 50 q) 8 = some (hd 54 q) := (gR_rw (rw_hd (by decide) (by decide)) _).trans (h.2 _ (List.mem_of_getElem? (i := 3) rfl))
theorem r_50_9 {μ : Mu} {q : Nat} (h : PlanOK μ q) : gR μ (hd 50 q) 9 = some (hd 55 q) := (gR_rw (rw_hd (by decide) (by decide)) _).trans (h.2 _ (List.mem_of_getElem? (i := 4) rfl))
theorem r_50_10 {μ : Mu} {q : Nat} (h : PlanOK μ q) : gR μ (hd 50 q) 10 = some (hd 56 q) := (gR_rw (rw_hd (by decide) (by decide)) _).trans (h.2 _ (List.mem_of_getElem? (i := 5) rfl))
theorem r_50_11 {μ : Mu} {q : Nat} (h : PlanOK μ q) : gR μ (hd 50 q) 11 = some (hd 57 q) := (gR_rw (rw_hd (by decide) (by decide)) _).trans (h.2 _ (List.mem_of_getElem? (i := 6) rfl))
theorem r_50_12 {μ : Mu} {q : Nat} (h : PlanOK μ q) : gR μ (hd 50 q) 12 = some (hd 58 q) := (gR_rw (rw_hd (by decide) (by decide)) _).trans (h.2 _ (List.mem_of_getElem? (i := 7) rfl))
theorem r_50_13 {μ : Mu} {q : Nat} (h : PlanOK μ q) : gR μ (hd 50 q) 13 = some (hd 59 q) := (gR_rw (rw_hd (by decide) (by decide)) _).trans (h.2 _ (List.mem_of_getElem? (i := 8) rfl))
theorem r_50_14 {μ : Mu} {q : Nat} (h : PlanOK μ q) : gR μ (hd 50 q) 14 = some (hd 60 q) := (gR_rw (rw_hd (by decide) (by decide)) _).trans (h.2 _ (List.mem_of_getElem? (i := 9) rfl))
theorem r_50_15 {μ : Mu} {q : Nat} (h : PlanOK μ q) : gR μ (hd 50 q) 15 = some (hd 61 q) := (gR_rw (rw_hd (by decide) (by decide)) _).trans (h.2 _ (List.mem_of_getElem? (i := 10) rfl))
theorem r_50_17 {μ : Mu} {q : Nat} (h : PlanOK μ q) : gR μ (hd 50 q) 17 = some (hd 62 q) := (gR_rw (rw_hd (by decide) (by decide)) _).trans (h.2 _ (List.mem_of_getElem? (i := 11) rfl))
theorem w_9 {i : Nat} : rwN (hd 9 i) := rw_hd (by decide) (by decide)
theorem w_11 {i : Nat} : rwN (hd 11 i) := rw_hd (by decide) (by decide)
theorem w_12 {i : Nat} : rwN (hd 12 i) := rw_hd (by decide) (by decide)
theorem w_13 {i : Nat} : rwN (hd 13 i) := rw_hd (by decide) (by decide)
theorem w_14 {i : Nat} : rwN (hd 14 i) := rw_hd (by decide) (by decide)
theorem w_17 {i : Nat} : rwN (hd 17 i) := rw_hd (by decide) (by decide)
theorem w_19 {i : Nat} : rwN (hd 19 i) := rw_hd (by decide) (by decide)
theorem w_20 {i : Nat} : rwN (hd 20 i) := rw_hd (by decide) (by decide)
theorem w_22 {i : Nat} : rwN (hd 22 i) := rw_hd (by decide) (by decide)
theorem w_23 {i : Nat} : rwN (hd 23 i) := rw_hd (by decide) (by decide)
theorem w_24 {i : Nat} : rwN (hd 24 i) := rw_hd (by decide) (by decide)
theorem w_25 {i : Nat} : rwN (hd 25 i) := rw_hd (by decide) (by decide)
theorem w_28 {i : Nat} : rwN (hd 28 i) := rw_hd (by decide) (by decide)
theorem w_30 {i : Nat} : rwN (hd 30 i) := rw_hd (by decide) (by decide)
theorem w_31 {i : Nat} : rwN (hd 31 i) := rw_hd (by decide) (by decide)
theorem w_32 {i : Nat} : rwN (hd 32 i) := rw_hd (by decide) (by decide)
theorem w_34 {i : Nat} : rwN (hd 34 i) := rw_hd (by decide) (by decide)
theorem w_36 {i : Nat} : rwN (hd 36 i) := rw_hd (by decide) (by decide)
theorem w_37 {i : Nat} : rwN (hd 37 i) := rw_hd (by decide) (by decide)
theorem w_38 {i : Nat} : rwN (hd 38 i) := rw_hd (by decide) (by decide)
theorem w_41 {i : Nat} : rwN (hd 41 i) := rw_hd (by decide) (by decide)
theorem w_42 {i : Nat} : rwN (hd 42 i) := rw_hd (by decide) (by decide)
theorem w_43 {i : Nat} : rwN (hd 43 i) := rw_hd (by decide) (by decide)
theorem w_44 {i : Nat} : rwN (hd 44 i) := rw_hd (by decide) (by decide)
theorem w_45 {i : Nat} : rwN (hd 45 i) := rw_hd (by decide) (by decide)
theorem w_46 {i : Nat} : rwN (hd 46 i) := rw_hd (by decide) (by decide)
theorem w_66 {i : Nat} : rwN (hd 66 i) := rw_hd (by decide) (by decide)
theorem w_67 {i : Nat} : rwN (hd 67 i) := rw_hd (by decide) (by decide)
theorem w_68 {i : Nat} : rwN (hd 68 i) := rw_hd (by decide) (by decide)
theorem w_69 {i : Nat} : rwN (hd 69 i) := rw_hd (by decide) (by decide)
theorem w_70 {i : Nat} : rwN (hd 70 i) := rw_hd (by decide) (by decide)
theorem w_71 {i : Nat} : rwN (hd 71 i) := rw_hd (by decide) (by decide)
theorem w_72 {i : Nat} : rwN (hd 72 i) := rw_hd (by decide) (by decide)
theorem w_73 {i : Nat} : rwN (hd 73 i) := rw_hd (by decide) (by decide)
theorem w_74 {i : Nat} : rwN (hd 74 i) := rw_hd (by decide) (by decide)
theorem w_75 {i : Nat} : rwN (hd 75 i) := rw_hd (by decide) (by decide)
theorem w_76 {i : Nat} : rwN (hd 76 i) := rw_hd (by decide) (by decide)
theorem w_77 {i : Nat} : rwN (hd 77 i) := rw_hd (by decide) (by decide)
theorem w_78 {i : Nat} : rwN (hd 78 i) := rw_hd (by decide) (by decide)
theorem w_79 {i : Nat} : rwN (hd 79 i) := rw_hd (by decide) (by decide)
theorem w_80 {i : Nat} : rwN (hd 80 i) := rw_hd (by decide) (by decide)
theorem w_81 {i : Nat} : rwN (hd 81 i) := rw_hd (by decide) (by decide)
theorem w_82 {i : Nat} : rwN (hd 82 i) := rw_hd (by decide) (by decide)
theorem w_90 {i : Nat} : rwN (hd 90 i) := rw_hd (by decide) (by decide)
theorem w_8 {i : Nat} : rwN (hd 8 i) := rw_hd (by decide) (by decide)
theorem w_10 {i : Nat} : rwN (hd 10 i) := rw_hd (by decide) (by decide)
theorem w_15 {i : Nat} : rwN (hd 15 i) := rw_hd (by decide) (by decide)
theorem w_16 {i : Nat} : rwN (hd 16 i) := rw_hd (by decide) (by decide)
theorem w_18 {i : Nat} : rwN (hd 18 i) := rw_hd (by decide) (by decide)
theorem w_21 {i : Nat} : rwN (hd 21 i) := rw_hd (by decide) (by decide)
theorem w_26 {i : Nat} : rwN (hd 26 i) := rw_hd (by decide) (by decide)
theorem w_27 {i : Nat} : rwN (hd 27 i) := rw_hd (by decide) (by decide)
theorem w_29 {i : Nat} : rwN (hd 29 i) := rw_hd (by decide) (by decide)
theorem w_33 {i : Nat} : rwN (hd 33 i) := rw_hd (by decide) (by decide)
theorem w_35 {i : Nat} : rwN (hd 35 i) := rw_hd (by decide) (by decide)
theorem w_40 {i : Nat} : rwN (hd 40 i) := rw_hd (by decide) (by decide)
theorem w_50 {i : Nat} : rwN (hd 50 i) := rw_hd (by decide) (by decide)
theorem w_65 {i : Nat} : rwN (hd 65 i) := rw_hd (by decide) (by decide)
theorem w_51 {i : Nat} : rwN (hd 51 i) := rw_hd (by decide) (by decide)
theorem w_52 {i : Nat} : rwN (hd 52 i) := rw_hd (by decide) (by decide)
theorem w_53 {i : Nat} : rwN (hd 53 i) := rw_hd (by decide) (by decide)
theorem w_54 {i : Nat} : rwN (hd 54 i) := rw_hd (by decide) (by decide)
theorem w_55 {i : Nat} : rwN (hd 55 i) := rw_hd (by decide) (by decide)
theorem w_56 {i : Nat} : rwN (hd 56 i) := rw_hd (by decide) (by decide)
theorem w_57 {i : Nat} : rwN (hd 57 i) := rw_hd (by decide) (by decide)
theorem w_58 {i : Nat} : rwN (hd 58 i) := rw_hd (by decide) (by decide)
theorem w_59 {i : Nat} : rwN (hd 59 i) := rw_hd (by decide) (by decide)
theorem w_60 {i : Nat} : rwN (hd 60 i) := rw_hd (by decide) (by decide)
theorem w_61 {i : Nat} : rwN (hd 61 i) := rw_hd (by decide) (by decide)
theorem w_62 {i : Nat} : rwN (hd 62 i) := rw_hd (by decide) (by decide)
theorem w_85 {i : Nat} : rwN (hd 85 i) := rw_hd (by decide) (by decide)
/-! kinds and their texts; words -/
theorem kk_0 {μ : Mu} {i : Nat} (hi : i < 49) : gR μ (hd 0 i) 1 = some (hd 1 (min i 44)) := by
  unfold gR cR
  rw [hd_mod (by decide), hd_div (by decide)]
  rfl
theorem kk_4 {μ : Mu} {j : Nat} (hj : j < 49) : gR μ (hd 4 0) j = some (hd 0 j) := by
  unfold gR cR
  rw [hd_mod (by decide)]
  exact if_pos hj
theorem kk_5 {μ : Mu} {j : Nat} (hj : j < 29) : gR μ (hd 5 0) j = some (hd 1 j) := by
  unfold gR cR
  rw [hd_mod (by decide)]
  exact if_pos hj
/-! fresh names -/
theorem setR_S {μ : Mu} {a k x : Nat} : mS (setR μ a k x) = mS μ := rfl
theorem hd_ne {κ i κ' i' : Nat} (h : κ < 256) (h' : κ' < 256) (hn : κ ≠ κ') : hd κ i ≠ hd κ' i' := fun e => hn ((hd_inj h h').mp e).1
theorem al_S {μ : Mu} {κ i κ' i' : Nat} {sh : Nat × Nat} (h : κ < 256) (h' : κ' < 256) (hn : κ' ≠ κ) : mS (mkA μ (hd κ i) sh) (hd κ' i') = mS μ (hd κ' i') := alloc_Sne (hd_ne h' h hn)
theorem al_R {μ : Mu} {κ i κ' i' k : Nat} {sh : Nat × Nat} (h : κ < 256) (h' : κ' < 256) (hn : κ' ≠ κ) : mR (mkA μ (hd κ i) sh) (hd κ' i') k = mR μ (hd κ' i') k := if_neg (hd_ne h' h hn)
/-- a fresh name of no fixed kind -/
def okF (κ : Nat) : Bool := decide (κ < 256) && frTab.all (fun e => decide (e < 256)) && decide (κ ≠ 40) && decide (κ ≠ 50) && sTab.all (fun e => decide (e.1 < 256) && decide (e.1 ≠ κ)) && rTab.all (fun e => decide (e.1 < 256) && decide (e.1 ≠ κ)) && aTab.all (fun e => decide (e.1 < 256) && decide (e.1 ≠ κ)) && dTab.all (fun e => decide (e.1 < 256) && decide (e.1 ≠ κ)) && eTab.all (fun e => decide (e.1 < 256) && decide (e.1 ≠ κ)) && mpTab.all (fun e => decide (e.1 < 256))
theorem StT.al {μ : Mu} {κ i : Nat} {sh : Nat × Nat} (h : StT μ) (hk : κ < 256) (h1 : sTab.all (fun e => decide (e.1 < 256) && decide (e.1 ≠ κ)) = true) (h2 : rTab.all (fun e => decide (e.1 < 256) && decide (e.1 ≠ κ)) = true) (h3 : aTab.all (fun e => decide (e.1 < 256) && decide (e.1 ≠ κ)) = true) (h4 : dTab.all (fun e => decide (e.1 < 256) && decide (e.1 ≠ κ)) = true) (h5 : eTab.all (fun e => decide (e.1 < 256) && decide (e.1 ≠ κ)) = true) : StT (mkA μ (hd κ i) sh) := by
  obtain ⟨s1, s2, s3, s4, s5⟩ := h
  simp only [List.all_eq_true, Bool.and_eq_true, decide_eq_true_eq] at h1 h2 h3 h4 h5
  refine ⟨fun e he j hj => ?_, fun e he j hj => ?_, fun e he j l hj hl => ?_, fun e he j hj => ?_, fun e he j l b hj hb => ?_⟩
  · rw [al_S hk (h1 e he).1 (h1 e he).2]; exact s1 e he j hj
  · rw [al_R hk (h2 e he).1 (h2 e he).2]; exact s2 e he j hj
  · rw [al_R hk (h3 e he).1 (h3 e he).2]; exact s3 e he j l hj hl
  · rw [al_R hk (h4 e he).1 (h4 e he).2]; exact s4 e he j hj
  · rw [al_R hk (h5 e he).1 (h5 e he).2] at hb; exact s5 e he j l b hj hb
theorem Fresh.al {μ : Mu} {κ i : Nat} {sh : Nat × Nat} (h : Fresh μ) (hk : κ < 256) : Fresh (mkA μ (hd κ i) sh) := by
  obtain ⟨N, hN⟩ := h
  refine ⟨max N (i + 1), fun q hq κ' hκ' => ?_⟩
  have hlt : κ' < 256 := (by decide : ∀ e ∈ frTab, e < 256) κ' hκ'
  rw [alloc_Sne (fun e => by have := ((hd_inj hlt hk).mp e).2; omega)]
  exact hN q (by omega) κ' hκ'
theorem PlanOK.al {μ : Mu} {κ i q : Nat} {sh : Nat × Nat} (h : PlanOK μ q) (hk : κ < 256) (hn : κ = 50 ∨ κ ∈ mpTab.map (·.1) → i ≠ q) : PlanOK (mkA μ (hd κ i) sh) q := by
  have hm : ∀ e ∈ mpTab, e.1 < 256 := by decide
  refine ⟨fun e he => ?_, fun e he => ?_⟩
  · rw [alloc_Sne (fun z => ?_)]
    · exact h.1 e he
    · have := (hd_inj (hm e he) hk).mp z
      exact hn (Or.inr (this.1 ▸ List.mem_map.mpr ⟨e, he, rfl⟩)) this.2.symm
  · rw [show mR (mkA μ (hd κ i) sh) (hd 50 q) e.1 = mR μ (hd 50 q) e.1 from if_neg (fun z => ?_)]
    · exact h.2 e he
    · have := (hd_inj (by decide) hk).mp z
      exact hn (Or.inl this.1.symm) this.2.symm
/-- a row of five ints, made anew -/
theorem St.fr85 {μ : Mu} (h : St μ) : ∃ q, mS μ (hd 85 q) = (0, 0) ∧ ∀ μ' : Mu, mS μ' = mS μ → mR μ' = mR μ → St (mkA μ' (hd 85 q) (2, 5)) := by
  obtain ⟨hT, ⟨q1, a1, b1⟩, ⟨q2, a2, b2⟩, hf⟩ := h
  obtain ⟨N, hN⟩ := id hf
  refine ⟨N, hN N (Nat.le_refl _) 85 (by decide), fun μ' e1 e2 => ?_⟩
  have hT' : StT μ' := by unfold StT; rw [e1, e2]; exact hT
  have hp : ∀ q, PlanOK μ q → PlanOK μ' q := fun q hq => by unfold PlanOK; rw [e1, e2]; exact hq
  have hf' : Fresh μ' := by unfold Fresh; rw [e1]; exact hf
  refine ⟨hT'.al (by decide) (by decide +kernel) (by decide +kernel) (by decide +kernel) (by decide +kernel) (by decide +kernel), ⟨q1, ?_, (hp _ b1).al (by decide) (fun h => absurd h (by decide))⟩, ⟨q2, ?_, (hp _ b2).al (by decide) (fun h => absurd h (by decide))⟩, hf'.al (by decide)⟩
  · rw [al_R (by decide) (by decide) (by decide), e2]; exact a1
  · rw [al_R (by decide) (by decide) (by decide), e2]; exact a2
theorem PlanOK.sR {μ : Mu} {κ i k x q : Nat} (h : PlanOK μ q) (hk : κ < 256) (hn : κ ≠ 50) : PlanOK (setR μ (hd κ i) k x) q := ⟨h.1, fun e he => by rw [setR_ne hk (by decide) (fun z => hn z.1.symm)]; exact h.2 e he⟩
theorem StT.sR {μ : Mu} {κ i k x : Nat} (h : StT μ) (hk : κ < 256) (h2 : rTab.all (fun e => decide (e.1 < 256) && !(decide (e.1 = κ) && decide (e.2.2.1 = k))) = true) (h3 : aTab.all (fun e => decide (e.1 < 256) && decide (e.1 ≠ κ)) = true) (h4 : dTab.all (fun e => decide (e.1 < 256) && !(decide (e.1 = κ) && decide (e.2.2.1 = k))) = true) (h5 : eTab.all (fun e => decide (e.1 < 256) && decide (e.1 ≠ κ)) = true) : StT (setR μ (hd κ i) k x) := by
  obtain ⟨s1, s2, s3, s4, s5⟩ := h
  simp only [List.all_eq_true, Bool.and_eq_true, decide_eq_true_eq, Bool.not_eq_true', Bool.and_eq_false_iff, decide_eq_false_iff_not] at h2 h3 h4 h5
  refine ⟨s1, fun e he j hj => ?_, fun e he j l hj hl => ?_, fun e he j hj => ?_, fun e he j l b hj hb => ?_⟩
  · rw [setR_ne hk (h2 e he).1 (fun z => (h2 e he).2.elim (fun w => w z.1) (fun w => w z.2))]; exact s2 e he j hj
  · rw [setR_ne hk (h3 e he).1 (fun z => (h3 e he).2 z.1)]; exact s3 e he j l hj hl
  · rw [setR_ne hk (h4 e he).1 (fun z => (h4 e he).2.elim (fun w => w z.1) (fun w => w z.2))]; exact s4 e he j hj
  · rw [setR_ne hk (h5 e he).1 (fun z => (h5 e he).2 z.1)] at hb; exact s5 e he j l b hj hb
theorem St.setPlan11 {μ : Mu} {q : Nat} (h : St μ) (hp : PlanOK μ q) : St (setR μ (hd 40 0) 11 (hd 50 q)) := by
  obtain ⟨hT, ⟨q1, a1, b1⟩, ⟨q2, a2, b2⟩, hf⟩ := h
  refine ⟨hT.sR (by decide) (by decide +kernel) (by decide +kernel) (by decide +kernel) (by decide +kernel), ⟨q, (if_pos (And.intro rfl rfl) : up2 (mR μ) (hd 40 0) 11 (some (hd 50 q)) (hd 40 0) 11 = some (hd 50 q)), hp.sR (by decide) (by decide)⟩, ⟨q2, ?_, b2.sR (by decide) (by decide)⟩, hf⟩
  exact (setR_ne (by decide) (by decide) (fun z => absurd z.2 (by decide))).trans a2
theorem St.setPlan12 {μ : Mu} {q : Nat} (h : St μ) (hp : PlanOK μ q) : St (setR μ (hd 40 0) 12 (hd 50 q)) := by
  obtain ⟨hT, ⟨q1, a1, b1⟩, ⟨q2, a2, b2⟩, hf⟩ := h
  refine ⟨hT.sR (by decide) (by decide +kernel) (by decide +kernel) (by decide +kernel) (by decide +kernel), ⟨q1, ?_, b1.sR (by decide) (by decide)⟩, ⟨q, (if_pos (And.intro rfl rfl) : up2 (mR μ) (hd 40 0) 12 (some (hd 50 q)) (hd 40 0) 12 = some (hd 50 q)), hp.sR (by decide) (by decide)⟩, hf⟩
  exact (setR_ne (by decide) (by decide) (fun z => absurd z.2 (by decide))).trans a1
/-- a plan of the model, made anew -/
def mpL : List (Nat × Nat × Nat) := [(51, 3, 8), (52, 4, 8), (53, 5, 8), (54, 8, 20), (55, 9, 20), (56, 10, 20), (57, 11, 20), (58, 12, 21), (59, 13, 21), (60, 14, 21), (61, 15, 800), (62, 17, 400)]
def mpS (q : Nat) (μ : Mu) (e : Nat × Nat × Nat) : Mu := setR (mkA μ (hd e.1 q) (2, e.2.2)) (hd 50 q) e.2.1 (hd e.1 q)
def newMP (μ : Mu) (q : Nat) : Mu := mpL.foldl (mpS q) (mkA μ (hd 50 q) (1, 12))
def FrP (μ : Mu) (q : Nat) : Prop := ∀ κ ∈ frTab, mS μ (hd κ q) = (0, 0)
theorem mpS_S {q : Nat} {μ : Mu} {e : Nat × Nat × Nat} {κ i : Nat} (h : e.1 < 256) (h' : κ < 256) (hn : κ ≠ e.1) : mS (mpS q μ e) (hd κ i) = mS μ (hd κ i) := al_S h h' hn
theorem mpS_R {q : Nat} {μ : Mu} {e : Nat × Nat × Nat} {κ i k : Nat} (h : e.1 < 256) (h' : κ < 256) (hn : κ ≠ e.1) (hn2 : κ ≠ 50 ∨ k ≠ e.2.1) : mR (mpS q μ e) (hd κ i) k = mR μ (hd κ i) k := by
  unfold mpS
  rw [setR_ne (by decide) h' (fun z => hn2.elim (fun w => w z.1) (fun w => w z.2)), al_R h h' hn]
theorem mpS_St {q : Nat} {μ : Mu} {e : Nat × Nat × Nat} (he : e ∈ mpL) (h : StT μ) : StT (mpS q μ e) := by
  have h1 := (by decide +kernel : ∀ e ∈ mpL, e.1 < 256 ∧ sTab.all (fun z => decide (z.1 < 256) && decide (z.1 ≠ e.1)) = true ∧ rTab.all (fun z => decide (z.1 < 256) && decide (z.1 ≠ e.1)) = true ∧ aTab.all (fun z => decide (z.1 < 256) && decide (z.1 ≠ e.1)) = true ∧ dTab.all (fun z => decide (z.1 < 256) && decide (z.1 ≠ e.1)) = true ∧ eTab.all (fun z => decide (z.1 < 256) && decide (z.1 ≠ e.1)) = true) e he
  have h2 := (by decide +kernel : ∀ e ∈ mpL, rTab.all (fun z => decide (z.1 < 256) && !(decide (z.1 = 50) && decide (z.2.2.1 = e.2.1))) = true ∧ dTab.all (fun z => decide (z.1 < 256) && !(decide (z.1 = 50) && decide (z.2.2.1 = e.2.1))) = true) e he
  exact (h.al h1.1 h1.2.1 h1.2.2.1 h1.2.2.2.1 h1.2.2.2.2.1 h1.2.2.2.2.2).sR (by decide) h2.1 (by decide +kernel) h2.2 (by decide +kernel)
theorem fold_St {q : Nat} : ∀ (l : List (Nat × Nat × Nat)) (μ : Mu), (∀ e ∈ l, e ∈ mpL) → StT μ → StT (l.foldl (mpS q) μ)
  | [], _, _, h => h
  | e :: l, μ, hl, h => fold_St l _ (fun z hz => hl z (List.mem_cons_of_mem _ hz)) (mpS_St (hl e List.mem_cons_self) h)
theorem fold_Fr {q : Nat} : ∀ (l : List (Nat × Nat × Nat)) (μ : Mu), (∀ e ∈ l, e ∈ mpL) → Fresh μ → Fresh (l.foldl (mpS q) μ)
  | [], _, _, h => h
  | e :: l, μ, hl, h => fold_Fr l _ (fun z hz => hl z (List.mem_cons_of_mem _ hz)) (h.al ((by decide : ∀ e ∈ mpL, e.1 < 256) e (hl e List.mem_cons_self)))
theorem mpS_P {q q' : Nat} {μ : Mu} {e : Nat × Nat × Nat} (he : e ∈ mpL) (hq : q ≠ q') (h : PlanOK μ q') : PlanOK (mpS q μ e) q' := by
  have h1 := (by decide : ∀ e ∈ mpL, e.1 < 256) e he
  have h2 := h.al (i := q) (sh := (2, e.2.2)) h1 (fun _ => hq)
  exact ⟨h2.1, fun z hz => by
    unfold mpS
    rw [show mR (setR (mkA μ (hd e.1 q) (2, e.2.2)) (hd 50 q) e.2.1 (hd e.1 q)) (hd 50 q') z.1 = _ from up2_ne (fun w => hq ((hd_inj (by decide) (by decide)).mp w.1).2.symm)]
    exact h2.2 z hz⟩
theorem fold_P {q q' : Nat} (hq : q ≠ q') : ∀ (l : List (Nat × Nat × Nat)) (μ : Mu), (∀ e ∈ l, e ∈ mpL) → PlanOK μ q' → PlanOK (l.foldl (mpS q) μ) q'
  | [], _, _, h => h
  | e :: l, μ, hl, h => fold_P hq l _ (fun z hz => hl z (List.mem_cons_of_mem _ hz)) (mpS_P (hl e List.mem_cons_self) hq h)
theorem fold_R {q κ i k : Nat} (h' : κ < 256) (h5 : κ ≠ 50) : ∀ (l : List (Nat × Nat × Nat)) (μ : Mu), (∀ e ∈ l, e.1 < 256 ∧ κ ≠ e.1) → mR (l.foldl (mpS q) μ) (hd κ i) k = mR μ (hd κ i) k
  | [], _, _ => rfl
  | e :: l, μ, hl => (fold_R h' h5 l _ (fun z hz => hl z (List.mem_cons_of_mem _ hz))).trans (mpS_R (hl e List.mem_cons_self).1 h' (hl e List.mem_cons_self).2 (Or.inl h5))
theorem newMP_P {μ : Mu} {q : Nat} : PlanOK (newMP μ q) q := by
  refine ⟨fun e he => ?_, fun e he => ?_⟩
  · simp only [mpTab, List.mem_cons, List.not_mem_nil, or_false] at he
    rcases he with rfl | rfl | rfl | rfl | rfl | rfl | rfl | rfl | rfl | rfl | rfl | rfl | rfl <;>
      (simp (disch := decide) only [newMP, mpL, List.foldl_cons, List.foldl_nil, mpS_S]; first | exact if_pos rfl)
  · simp only [mrTab, List.mem_cons, List.not_mem_nil, or_false] at he
    rcases he with rfl | rfl | rfl | rfl | rfl | rfl | rfl | rfl | rfl | rfl | rfl | rfl <;>
      (simp (disch := decide) only [newMP, mpL, List.foldl_cons, List.foldl_nil, mpS_R]; first | exact if_pos ⟨rfl, rfl⟩)
theorem newMP_St {μ : Mu} {q : Nat} (h : St μ) (hf : FrP μ q) : St (newMP μ q) := by
  obtain ⟨hT, ⟨q1, a1, b1⟩, ⟨q2, a2, b2⟩, hF⟩ := h
  have hne : ∀ q', PlanOK μ q' → q ≠ q' := fun q' hp e => by
    have h1 := hp.1 _ (List.mem_cons_self (a := (50, 1, 12)))
    have h2 := hf 50 (by decide)
    rw [e] at h2
    have : mS μ (hd 50 q') = (1, 12) := h1
    rw [h2] at this
    cases this
  have h0 : StT (mkA μ (hd 50 q) (1, 12)) := hT.al (by decide) (by decide +kernel) (by decide +kernel) (by decide +kernel) (by decide +kernel) (by decide +kernel)
  have hR : ∀ k, mR (newMP μ q) (hd 40 0) k = mR μ (hd 40 0) k := fun k => (fold_R (by decide) (by decide) mpL _ (by decide)).trans (al_R (by decide) (by decide) (by decide))
  refine ⟨fold_St mpL _ (fun _ h => h) h0, ⟨q1, (hR 11).trans a1, fold_P (hne _ b1) mpL _ (fun _ h => h) (b1.al (by decide) (fun _ => hne _ b1))⟩, ⟨q2, (hR 12).trans a2, fold_P (hne _ b2) mpL _ (fun _ h => h) (b2.al (by decide) (fun _ => hne _ b2))⟩, fold_Fr mpL _ (fun _ h => h) (hF.al (by decide))⟩

