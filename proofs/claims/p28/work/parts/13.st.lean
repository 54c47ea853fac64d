/-! what stands where: the structure of both systems -/
def sTab : List (Nat × Nat × (Nat → Nat × Nat)) := [(0, 49, fun _ => (1, 14)), (1, 81, fun _ => (1, 15)), (8, 1, fun _ => (1, 0)), (10, 1, fun _ => (1, 9)), (15, 1, fun _ => (1, 3)), (16, 1, fun _ => (1, 4)), (18, 2, fun _ => (1, 6)), (21, 2, fun _ => (1, 2)), (26, 42, fun _ => (1, 5)), (27, 32, fun _ => (1, 7)), (29, 2, fun _ => (1, 10)), (33, 120, fun _ => (1, 8)), (35, 10, fun _ => (1, 1)), (2, 81, fun i => (4, (kTx.getD i []).length)), (3, 1, fun _ => (2, 49)), (4, 1, fun _ => (20, 49)), (5, 2, fun _ => (4, 100)), (9, 2, fun i => (4, if i = 0 then 2000 else 0)), (11, 1, fun _ => (20, 401)), (12, 1, fun _ => (2, 401)), (13, 1, fun _ => (3, 401)), (14, 1, fun _ => (2, 401)), (17, 3, fun i => (3, [5, 6, 8].getD i 0)), (19, 2, fun _ => (13, 8)), (20, 2, fun _ => (11, 21)), (22, 2, fun _ => (20, 400)), (23, 2, fun _ => (2, 400)), (24, 2, fun _ => (2, 400)), (25, 2, fun _ => (2, 400)), (28, 32, fun _ => (2, 60)), (30, 2, fun _ => (14, 60)), (31, 2, fun _ => (7, 5)), (32, 2, fun _ => (13, 8)), (34, 120, fun _ => (2, 5)), (36, 10, fun _ => (2, 5)), (37, 10, fun _ => (2, 30)), (38, 10, fun _ => (5, 60))]
def rTab : List (Nat × Nat × Nat × Nat × (Nat → Nat)) := [(8, 1, 0, 9, fun _ => 0), (8, 1, 5, 10, fun _ => 0), (8, 1, 6, 15, fun _ => 0), (8, 1, 7, 16, fun _ => 0), (8, 1, 8, 29, fun _ => 0), (8, 1, 9, 29, fun _ => 1), (35, 10, 0, 36, fun i => i), (35, 10, 1, 37, fun i => i), (35, 10, 2, 38, fun i => i), (21, 2, 0, 22, fun i => i), (21, 2, 1, 23, fun i => i), (21, 2, 2, 24, fun i => i), (21, 2, 3, 25, fun i => i), (15, 1, 0, 10, fun _ => 0), (16, 1, 0, 17, fun _ => 0), (16, 1, 1, 17, fun _ => 1), (16, 1, 2, 17, fun _ => 2), (16, 1, 3, 10, fun _ => 0), (18, 2, 0, 21, fun i => i), (18, 2, 1, 19, fun i => i), (18, 2, 2, 20, fun i => i), (27, 32, 0, 28, fun i => i), (33, 120, 0, 34, fun i => i), (10, 1, 0, 11, fun _ => 0), (10, 1, 1, 12, fun _ => 0), (10, 1, 2, 13, fun _ => 0), (10, 1, 3, 14, fun _ => 0), (29, 2, 0, 30, fun i => i), (29, 2, 1, 31, fun i => i), (29, 2, 2, 32, fun i => i)]
def aTab : List (Nat × Nat × Nat × Nat × (Nat → Nat → Nat)) := [(19, 2, 8, 27, fun i j => 16 + 8 * i + j), (20, 2, 21, 26, fun i j => 21 * i + j), (30, 2, 60, 33, fun i j => 60 * i + j), (31, 2, 5, 35, fun i j => 5 * i + j), (32, 2, 8, 27, fun i j => 8 * i + j)]
def dTab : List (Nat × Nat × Nat × Nat × Nat) := [(8, 1, 3, 18, 2), (8, 1, 4, 18, 2), (15, 1, 1, 18, 2), (15, 1, 3, 0, 49), (16, 1, 4, 18, 2), (26, 42, 0, 0, 49), (10, 1, 5, 9, 2), (29, 2, 3, 18, 2)]
def eTab : List (Nat × Nat × Nat × Nat) := [(11, 1, 0, 49), (22, 2, 0, 49)]
theorem hd_mod {κ i : Nat} (h : κ < 256) : hd κ i % 256 = κ := by unfold hd; omega
theorem hd_div {κ i : Nat} (h : κ < 256) : hd κ i / 256 = i := by unfold hd; omega
theorem hd_inj {κ i κ' i' : Nat} (h : κ < 256) (h' : κ' < 256) : hd κ i = hd κ' i' ↔ κ = κ' ∧ i = i' := by unfold hd; omega
theorem rw_hd {κ i : Nat} (h : 8 ≤ κ) (h' : κ < 256) : rwN (hd κ i) := by unfold rwN; rw [hd_mod h']; exact h
/-- the index of what a place refers to -/
def px (μ : Mu) (a k : Nat) : Nat := (mR μ a k).getD 0 / 256
theorem px_eq {μ : Mu} {a k κ q : Nat} (h : κ < 256) (e : mR μ a k = some (hd κ q)) : px μ a k = q := by unfold px; rw [e]; exact hd_div h
theorem px_of {μ : Mu} {a k κ m : Nat} (hw : rwN a) (h : κ < 256) (e : ∃ q, q < m ∧ mR μ a k = some (hd κ q)) : gR μ a k = some (hd κ (px μ a k)) ∧ px μ a k < m := by
  obtain ⟨q, hq, e⟩ := e
  rw [gR_rw hw, px_eq h e]
  exact ⟨e, hq⟩
theorem px_ofE {μ : Mu} {a k κ m : Nat} (hw : rwN a) (h : κ < 256) (hn : mR μ a k ≠ none) (e : ∀ b, mR μ a k = some b → ∃ q, q < m ∧ b = hd κ q) : gR μ a k = some (hd κ (px μ a k)) ∧ px μ a k < m := by
  cases hc : mR μ a k with
  | none => exact absurd hc hn
  | some b =>
    obtain ⟨q, hq, rfl⟩ := e b hc
    rw [gR_rw hw, px_eq h hc, hc]
    exact ⟨rfl, hq⟩
def StT (μ : Mu) : Prop :=
  (∀ e ∈ sTab, ∀ i, i < e.2.1 → mS μ (hd e.1 i) = e.2.2 i) ∧
  (∀ e ∈ rTab, ∀ i, i < e.2.1 → mR μ (hd e.1 i) e.2.2.1 = some (hd e.2.2.2.1 (e.2.2.2.2 i))) ∧
  (∀ e ∈ aTab, ∀ i j, i < e.2.1 → j < e.2.2.1 → mR μ (hd e.1 i) j = some (hd e.2.2.2.1 (e.2.2.2.2 i j))) ∧
  (∀ e ∈ dTab, ∀ i, i < e.2.1 → ∃ q, q < e.2.2.2.2 ∧ mR μ (hd e.1 i) e.2.2.1 = some (hd e.2.2.2.1 q)) ∧
  (∀ e ∈ eTab, ∀ i j a, i < e.2.1 → mR μ (hd e.1 i) j = some a → ∃ q, q < e.2.2.2 ∧ a = hd e.2.2.1 q)
def St (μ : Mu) : Prop := StT μ
/-- no fixed reference stands at this place of this kind, and what stands there may be of the kind κ', below m -/
def okD (κ k κ' m : Nat) : Bool := decide (κ < 256) && decide (κ' < 256) && rTab.all (fun e => decide (e.1 < 256) && !(decide (e.1 = κ) && decide (e.2.2.1 = k))) && aTab.all (fun e => decide (e.1 < 256) && decide (e.1 ≠ κ)) && dTab.all (fun e => decide (e.1 < 256) && (!(decide (e.1 = κ) && decide (e.2.2.1 = k)) || (decide (e.2.2.2.1 = κ') && decide (e.2.2.2.2 = m)))) && eTab.all (fun e => decide (e.1 < 256) && decide (e.1 ≠ κ))
def okE (κ κ' m : Nat) : Bool := decide (κ < 256) && decide (κ' < 256) && rTab.all (fun e => decide (e.1 < 256) && decide (e.1 ≠ κ)) && aTab.all (fun e => decide (e.1 < 256) && decide (e.1 ≠ κ)) && dTab.all (fun e => decide (e.1 < 256) && decide (e.1 ≠ κ)) && eTab.all (fun e => decide (e.1 < 256) && (!decide (e.1 = κ) || (decide (e.2.2.1 = κ') && decide (e.2.2.2 = m))))
theorem setR_ne {μ : Mu} {κ i k κ2 i2 k2 x : Nat} (h : κ < 256) (h2 : κ2 < 256) (hn : ¬ (κ2 = κ ∧ k2 = k)) : mR (setR μ (hd κ i) k x) (hd κ2 i2) k2 = mR μ (hd κ2 i2) k2 := up2_ne (fun q => hn ⟨((hd_inj h2 h).mp q.1).1, q.2⟩)
theorem St.setD {μ : Mu} (h : St μ) {κ i k κ' q m : Nat} (hk : okD κ k κ' m = true) (hq : q < m) : St (setR μ (hd κ i) k (hd κ' q)) := by
  simp only [okD, Bool.and_eq_true, decide_eq_true_eq, List.all_eq_true, Bool.not_eq_true', Bool.and_eq_false_iff, decide_eq_false_iff_not, Bool.or_eq_true] at hk
  obtain ⟨⟨⟨⟨⟨k1, k2⟩, k5⟩, k6⟩, k7⟩, k8⟩ := hk
  obtain ⟨s1, s2, s3, s4, s5⟩ := h
  refine ⟨s1, fun e he j hj => ?_, fun e he j l hj hl => ?_, fun e he j hj => ?_, fun e he j l b hj hb => ?_⟩
  · rw [setR_ne k1 (k5 e he).1 (fun z => (k5 e he).2.elim (fun w => w z.1) (fun w => w z.2))]
    exact s2 e he j hj
  · rw [setR_ne k1 (k6 e he).1 (fun z => (k6 e he).2 z.1)]
    exact s3 e he j l hj hl
  · by_cases hs : hd e.1 j = hd κ i ∧ e.2.2.1 = k
    · have h1 := ((hd_inj (k7 e he).1 k1).mp hs.1).1
      rcases (k7 e he).2 with w | w
      · exact absurd w (fun w => w.elim (fun w => w h1) (fun w => w hs.2))
      · refine ⟨q, by rw [w.2]; exact hq, ?_⟩
        rw [w.1]
        exact if_pos hs
    · obtain ⟨q', a1, a2⟩ := s4 e he j hj
      exact ⟨q', a1, (up2_ne hs).trans a2⟩
  · rw [setR_ne k1 (k8 e he).1 (fun z => (k8 e he).2 z.1)] at hb
    exact s5 e he j l b hj hb
theorem St.setE {μ : Mu} (h : St μ) {κ i k κ' q m : Nat} (hk : okE κ κ' m = true) (hq : q < m) : St (setR μ (hd κ i) k (hd κ' q)) := by
  simp only [okE, Bool.and_eq_true, decide_eq_true_eq, List.all_eq_true, Bool.not_eq_true', Bool.and_eq_false_iff, decide_eq_false_iff_not, Bool.or_eq_true] at hk
  obtain ⟨⟨⟨⟨⟨k1, k2⟩, k5⟩, k6⟩, k7⟩, k8⟩ := hk
  obtain ⟨s1, s2, s3, s4, s5⟩ := h
  refine ⟨s1, fun e he j hj => ?_, fun e he j l hj hl => ?_, fun e he j hj => ?_, fun e he j l b hj hb => ?_⟩
  · rw [setR_ne k1 (k5 e he).1 (fun z => (k5 e he).2 z.1)]
    exact s2 e he j hj
  · rw [setR_ne k1 (k6 e he).1 (fun z => (k6 e he).2 z.1)]
    exact s3 e he j l hj hl
  · rw [setR_ne k1 (k7 e he).1 (fun z => (k7 e he).2 z.1)]
    exact s4 e he j hj
  · by_cases hs : hd e.1 j = hd κ i ∧ l = k
    · have h1 := ((hd_inj (k8 e he).1 k1).mp hs.1).1
      have hb' : some (hd κ' q) = some b := (if_pos hs).symm.trans hb
      rcases (k8 e he).2 with w | w
      · exact absurd h1 w
      · refine ⟨q, by rw [w.2]; exact hq, ?_⟩
        rw [w.1]
        exact (Option.some.inj hb').symm
    · exact s5 e he j l b hj ((up2_ne hs).symm.trans hb)

theorem s_0 {μ : Mu} (h : St μ) {i : Nat} (hi : i < 49) : mS μ (hd 0 i) = (1, 14) := h.1 _ (List.mem_of_getElem? (i := 0) rfl) i hi
theorem s_1n {μ : Mu} (h : St μ) {i : Nat} (hi : i < 81) : mS μ (hd 1 i) = (1, 15) := h.1 _ (List.mem_of_getElem? (i := 1) rfl) i hi
theorem s_1 {μ : Mu} (h : St μ) {i : Nat} (hi : i < 46) : mS μ (hd 1 i) = (1, 15) := s_1n h (by omega)
theorem s_8 {μ : Mu} (h : St μ) {i : Nat} (hi : i < 1) : mS μ (hd 8 i) = (1, 0) := h.1 _ (List.mem_of_getElem? (i := 2) rfl) i hi
theorem s_10 {μ : Mu} (h : St μ) {i : Nat} (hi : i < 1) : mS μ (hd 10 i) = (1, 9) := h.1 _ (List.mem_of_getElem? (i := 3) rfl) i hi
theorem s_15 {μ : Mu} (h : St μ) {i : Nat} (hi : i < 1) : mS μ (hd 15 i) = (1, 3) := h.1 _ (List.mem_of_getElem? (i := 4) rfl) i hi
theorem s_16 {μ : Mu} (h : St μ) {i : Nat} (hi : i < 1) : mS μ (hd 16 i) = (1, 4) := h.1 _ (List.mem_of_getElem? (i := 5) rfl) i hi
theorem s_18 {μ : Mu} (h : St μ) {i : Nat} (hi : i < 2) : mS μ (hd 18 i) = (1, 6) := h.1 _ (List.mem_of_getElem? (i := 6) rfl) i hi
theorem s_21 {μ : Mu} (h : St μ) {i : Nat} (hi : i < 2) : mS μ (hd 21 i) = (1, 2) := h.1 _ (List.mem_of_getElem? (i := 7) rfl) i hi
theorem s_26 {μ : Mu} (h : St μ) {i : Nat} (hi : i < 42) : mS μ (hd 26 i) = (1, 5) := h.1 _ (List.mem_of_getElem? (i := 8) rfl) i hi
theorem s_27 {μ : Mu} (h : St μ) {i : Nat} (hi : i < 32) : mS μ (hd 27 i) = (1, 7) := h.1 _ (List.mem_of_getElem? (i := 9) rfl) i hi
theorem s_29 {μ : Mu} (h : St μ) {i : Nat} (hi : i < 2) : mS μ (hd 29 i) = (1, 10) := h.1 _ (List.mem_of_getElem? (i := 10) rfl) i hi
theorem s_33 {μ : Mu} (h : St μ) {i : Nat} (hi : i < 120) : mS μ (hd 33 i) = (1, 8) := h.1 _ (List.mem_of_getElem? (i := 11) rfl) i hi
theorem s_35 {μ : Mu} (h : St μ) {i : Nat} (hi : i < 10) : mS μ (hd 35 i) = (1, 1) := h.1 _ (List.mem_of_getElem? (i := 12) rfl) i hi
theorem s_2n {μ : Mu} (h : St μ) {i : Nat} (hi : i < 81) : mS μ (hd 2 i) = (4, (kTx.getD i []).length) := h.1 _ (List.mem_of_getElem? (i := 13) rfl) i hi
theorem s_2 {μ : Mu} (h : St μ) {i : Nat} (hi : i < 46) : mS μ (hd 2 i) = (4, (kTx.getD i []).length) := s_2n h (by omega)
theorem s_3 {μ : Mu} (h : St μ) {i : Nat} (hi : i < 1) : mS μ (hd 3 i) = (2, 49) := h.1 _ (List.mem_of_getElem? (i := 14) rfl) i hi
theorem s_4 {μ : Mu} (h : St μ) {i : Nat} (hi : i < 1) : mS μ (hd 4 i) = (20, 49) := h.1 _ (List.mem_of_getElem? (i := 15) rfl) i hi
theorem s_5 {μ : Mu} (h : St μ) {i : Nat} (hi : i < 2) : mS μ (hd 5 i) = (4, 100) := h.1 _ (List.mem_of_getElem? (i := 16) rfl) i hi
theorem s_9 {μ : Mu} (h : St μ) {i : Nat} (hi : i < 2) : mS μ (hd 9 i) = (4, if i = 0 then 2000 else 0) := h.1 _ (List.mem_of_getElem? (i := 17) rfl) i hi
theorem s_11 {μ : Mu} (h : St μ) {i : Nat} (hi : i < 1) : mS μ (hd 11 i) = (20, 401) := h.1 _ (List.mem_of_getElem? (i := 18) rfl) i hi
theorem s_12 {μ : Mu} (h : St μ) {i : Nat} (hi : i < 1) : mS μ (hd 12 i) = (2, 401) := h.1 _ (List.mem_of_getElem? (i := 19) rfl) i hi
theorem s_13 {μ : Mu} (h : St μ) {i : Nat} (hi : i < 1) : mS μ (hd 13 i) = (3, 401) := h.1 _ (List.mem_of_getElem? (i := 20) rfl) i hi
theorem s_14 {μ : Mu} (h : St μ) {i : Nat} (hi : i < 1) : mS μ (hd 14 i) = (2, 401) := h.1 _ (List.mem_of_getElem? (i := 21) rfl) i hi
theorem s_17 {μ : Mu} (h : St μ) {i : Nat} (hi : i < 3) : mS μ (hd 17 i) = (3, [5, 6, 8].getD i 0) := h.1 _ (List.mem_of_getElem? (i := 22) rfl) i hi
theorem s_19 {μ : Mu} (h : St μ) {i : Nat} (hi : i < 2) : mS μ (hd 19 i) = (13, 8) := h.1 _ (List.mem_of_getElem? (i := 23) rfl) i hi
theorem s_20 {μ : Mu} (h : St μ) {i : Nat} (hi : i < 2) : mS μ (hd 20 i) = (11, 21) := h.1 _ (List.mem_of_getElem? (i := 24) rfl) i hi
theorem s_22 {μ : Mu} (h : St μ) {i : Nat} (hi : i < 2) : mS μ (hd 22 i) = (20, 400) := h.1 _ (List.mem_of_getElem? (i := 25) rfl) i hi
theorem s_23 {μ : Mu} (h : St μ) {i : Nat} (hi : i < 2) : mS μ (hd 23 i) = (2, 400) := h.1 _ (List.mem_of_getElem? (i := 26) rfl) i hi
theorem s_24 {μ : Mu} (h : St μ) {i : Nat} (hi : i < 2) : mS μ (hd 24 i) = (2, 400) := h.1 _ (List.mem_of_getElem? (i := 27) rfl) i hi
theorem s_25 {μ : Mu} (h : St μ) {i : Nat} (hi : i < 2) : mS μ (hd 25 i) = (2, 400) := h.1 _ (List.mem_of_getElem? (i := 28) rfl) i hi
theorem s_28 {μ : Mu} (h : St μ) {i : Nat} (hi : i < 32) : mS μ (hd 28 i) = (2, 60) := h.1 _ (List.mem_of_getElem? (i := 29) rfl) i hi
theorem s_30 {μ : Mu} (h : St μ) {i : Nat} (hi : i < 2) : mS μ (hd 30 i) = (14, 60) := h.1 _ (List.mem_of_getElem? (i := 30) rfl) i hi
theorem s_31 {μ : Mu} (h : St μ) {i : Nat} (hi : i < 2) : mS μ (hd 31 i) = (7, 5) := h.1 _ (List.mem_of_getElem? (i := 31) rfl) i hi
theorem s_32 {μ : Mu} (h : St μ) {i : Nat} (hi : i < 2) : mS μ (hd 32 i) = (13, 8) := h.1 _ (List.mem_of_getElem? (i := 32) rfl) i hi
theorem s_34 {μ : Mu} (h : St μ) {i : Nat} (hi : i < 120) : mS μ (hd 34 i) = (2, 5) := h.1 _ (List.mem_of_getElem? (i := 33) rfl) i hi
theorem s_36 {μ : Mu} (h : St μ) {i : Nat} (hi : i < 10) : mS μ (hd 36 i) = (2, 5) := h.1 _ (List.mem_of_getElem? (i := 34) rfl) i hi
theorem s_37 {μ : Mu} (h : St μ) {i : Nat} (hi : i < 10) : mS μ (hd 37 i) = (2, 30) := h.1 _ (List.mem_of_getElem? (i := 35) rfl) i hi
theorem s_38 {μ : Mu} (h : St μ) {i : Nat} (hi : i < 10) : mS μ (hd 38 i) = (5, 60) := h.1 _ (List.mem_of_getElem? (i := 36) rfl) i hi
theorem r_8_0 {μ : Mu} (h : St μ) {i : Nat} (hi : i < 1) : gR μ (hd 8 i) 0 = some (hd 9 (0)) := (gR_rw (rw_hd (by decide) (by decide)) _).trans (h.2.1 _ (List.mem_of_getElem? (i := 0) rfl) i hi)
theorem r_8_5 {μ : Mu} (h : St μ) {i : Nat} (hi : i < 1) : gR μ (hd 8 i) 5 = some (hd 10 (0)) := (gR_rw (rw_hd (by decide) (by decide)) _).trans (h.2.1 _ (List.mem_of_getElem? (i := 1) rfl) i hi)
theorem r_8_6 {μ : Mu} (h : St μ) {i : Nat} (hi : i < 1) : gR μ (hd 8 i) 6 = some (hd 15 (0)) := (gR_rw (rw_hd (by decide) (by decide)) _).trans (h.2.1 _ (List.mem_of_getElem? (i := 2) rfl) i hi)
theorem r_8_7 {μ : Mu} (h : St μ) {i : Nat} (hi : i < 1) : gR μ (hd 8 i) 7 = some (hd 16 (0)) := (gR_rw (rw_hd (by decide) (by decide)) _).trans (h.2.1 _ (List.mem_of_getElem? (i := 3) rfl) i hi)
theorem r_8_8 {μ : Mu} (h : St μ) {i : Nat} (hi : i < 1) : gR μ (hd 8 i) 8 = some (hd 29 (0)) := (gR_rw (rw_hd (by decide) (by decide)) _).trans (h.2.1 _ (List.mem_of_getElem? (i := 4) rfl) i hi)
theorem r_8_9 {μ : Mu} (h : St μ) {i : Nat} (hi : i < 1) : gR μ (hd 8 i) 9 = some (hd 29 (1)) := (gR_rw (rw_hd (by decide) (by decide)) _).trans (h.2.1 _ (List.mem_of_getElem? (i := 5) rfl) i hi)
theorem r_35_0 {μ : Mu} (h : St μ) {i : Nat} (hi : i < 10) : gR μ (hd 35 i) 0 = some (hd 36 (i)) := (gR_rw (rw_hd (by decide) (by decide)) _).trans (h.2.1 _ (List.mem_of_getElem? (i := 6) rfl) i hi)
theorem r_35_1 {μ : Mu} (h : St μ) {i : Nat} (hi : i < 10) : gR μ (hd 35 i) 1 = some (hd 37 (i)) := (gR_rw (rw_hd (by decide) (by decide)) _).trans (h.2.1 _ (List.mem_of_getElem? (i := 7) rfl) i hi)
theorem r_35_2 {μ : Mu} (h : St μ) {i : Nat} (hi : i < 10) : gR μ (hd 35 i) 2 = some (hd 38 (i)) := (gR_rw (rw_hd (by decide) (by decide)) _).trans (h.2.1 _ (List.mem_of_getElem? (i := 8) rfl) i hi)
theorem r_21_0 {μ : Mu} (h : St μ) {i : Nat} (hi : i < 2) : gR μ (hd 21 i) 0 = some (hd 22 (i)) := (gR_rw (rw_hd (by decide) (by decide)) _).trans (h.2.1 _ (List.mem_of_getElem? (i := 9) rfl) i hi)
theorem r_21_1 {μ : Mu} (h : St μ) {i : Nat} (hi : i < 2) : gR μ (hd 21 i) 1 = some (hd 23 (i)) := (gR_rw (rw_hd (by decide) (by decide)) _).trans (h.2.1 _ (List.mem_of_getElem? (i := 10) rfl) i hi)
theorem r_21_2 {μ : Mu} (h : St μ) {i : Nat} (hi : i < 2) : gR μ (hd 21 i) 2 = some (hd 24 (i)) := (gR_rw (rw_hd (by decide) (by decide)) _).trans (h.2.1 _ (List.mem_of_getElem? (i := 11) rfl) i hi)
theorem r_21_3 {μ : Mu} (h : St μ) {i : Nat} (hi : i < 2) : gR μ (hd 21 i) 3 = some (hd 25 (i)) := (gR_rw (rw_hd (by decide) (by decide)) _).trans (h.2.1 _ (List.mem_of_getElem? (i := 12) rfl) i hi)
theorem r_15_0 {μ : Mu} (h : St μ) {i : Nat} (hi : i < 1) : gR μ (hd 15 i) 0 = some (hd 10 (0)) := (gR_rw (rw_hd (by decide) (by decide)) _).trans (h.2.1 _ (List.mem_of_getElem? (i := 13) rfl) i hi)
theorem r_16_0 {μ : Mu} (h : St μ) {i : Nat} (hi : i < 1) : gR μ (hd 16 i) 0 = some (hd 17 (0)) := (gR_rw (rw_hd (by decide) (by decide)) _).trans (h.2.1 _ (List.mem_of_getElem? (i := 14) rfl) i hi)
theorem r_16_1 {μ : Mu} (h : St μ) {i : Nat} (hi : i < 1) : gR μ (hd 16 i) 1 = some (hd 17 (1)) := (gR_rw (rw_hd (by decide) (by decide)) _).trans (h.2.1 _ (List.mem_of_getElem? (i := 15) rfl) i hi)
theorem r_16_2 {μ : Mu} (h : St μ) {i : Nat} (hi : i < 1) : gR μ (hd 16 i) 2 = some (hd 17 (2)) := (gR_rw (rw_hd (by decide) (by decide)) _).trans (h.2.1 _ (List.mem_of_getElem? (i := 16) rfl) i hi)
theorem r_16_3 {μ : Mu} (h : St μ) {i : Nat} (hi : i < 1) : gR μ (hd 16 i) 3 = some (hd 10 (0)) := (gR_rw (rw_hd (by decide) (by decide)) _).trans (h.2.1 _ (List.mem_of_getElem? (i := 17) rfl) i hi)
theorem r_18_0 {μ : Mu} (h : St μ) {i : Nat} (hi : i < 2) : gR μ (hd 18 i) 0 = some (hd 21 (i)) := (gR_rw (rw_hd (by decide) (by decide)) _).trans (h.2.1 _ (List.mem_of_getElem? (i := 18) rfl) i hi)
theorem r_18_1 {μ : Mu} (h : St μ) {i : Nat} (hi : i < 2) : gR μ (hd 18 i) 1 = some (hd 19 (i)) := (gR_rw (rw_hd (by decide) (by decide)) _).trans (h.2.1 _ (List.mem_of_getElem? (i := 19) rfl) i hi)
theorem r_18_2 {μ : Mu} (h : St μ) {i : Nat} (hi : i < 2) : gR μ (hd 18 i) 2 = some (hd 20 (i)) := (gR_rw (rw_hd (by decide) (by decide)) _).trans (h.2.1 _ (List.mem_of_getElem? (i := 20) rfl) i hi)
theorem r_27_0 {μ : Mu} (h : St μ) {i : Nat} (hi : i < 32) : gR μ (hd 27 i) 0 = some (hd 28 (i)) := (gR_rw (rw_hd (by decide) (by decide)) _).trans (h.2.1 _ (List.mem_of_getElem? (i := 21) rfl) i hi)
theorem r_33_0 {μ : Mu} (h : St μ) {i : Nat} (hi : i < 120) : gR μ (hd 33 i) 0 = some (hd 34 (i)) := (gR_rw (rw_hd (by decide) (by decide)) _).trans (h.2.1 _ (List.mem_of_getElem? (i := 22) rfl) i hi)
theorem r_10_0 {μ : Mu} (h : St μ) {i : Nat} (hi : i < 1) : gR μ (hd 10 i) 0 = some (hd 11 (0)) := (gR_rw (rw_hd (by decide) (by decide)) _).trans (h.2.1 _ (List.mem_of_getElem? (i := 23) rfl) i hi)
theorem r_10_1 {μ : Mu} (h : St μ) {i : Nat} (hi : i < 1) : gR μ (hd 10 i) 1 = some (hd 12 (0)) := (gR_rw (rw_hd (by decide) (by decide)) _).trans (h.2.1 _ (List.mem_of_getElem? (i := 24) rfl) i hi)
theorem r_10_2 {μ : Mu} (h : St μ) {i : Nat} (hi : i < 1) : gR μ (hd 10 i) 2 = some (hd 13 (0)) := (gR_rw (rw_hd (by decide) (by decide)) _).trans (h.2.1 _ (List.mem_of_getElem? (i := 25) rfl) i hi)
theorem r_10_3 {μ : Mu} (h : St μ) {i : Nat} (hi : i < 1) : gR μ (hd 10 i) 3 = some (hd 14 (0)) := (gR_rw (rw_hd (by decide) (by decide)) _).trans (h.2.1 _ (List.mem_of_getElem? (i := 26) rfl) i hi)
theorem r_29_0 {μ : Mu} (h : St μ) {i : Nat} (hi : i < 2) : gR μ (hd 29 i) 0 = some (hd 30 (i)) := (gR_rw (rw_hd (by decide) (by decide)) _).trans (h.2.1 _ (List.mem_of_getElem? (i := 27) rfl) i hi)
theorem r_29_1 {μ : Mu} (h : St μ) {i : Nat} (hi : i < 2) : gR μ (hd 29 i) 1 = some (hd 31 (i)) := (gR_rw (rw_hd (by decide) (by decide)) _).trans (h.2.1 _ (List.mem_of_getElem? (i := 28) rfl) i hi)
theorem r_29_2 {μ : Mu} (h : St μ) {i : Nat} (hi : i < 2) : gR μ (hd 29 i) 2 = some (hd 32 (i)) := (gR_rw (rw_hd (by decide) (by decide)) _).trans (h.2.1 _ (List.mem_of_getElem? (i := 29) rfl) i hi)
theorem a_19 {μ : Mu} (h : St μ) {i j : Nat} (hi : i < 2) (hj : j < 8) : gR μ (hd 19 i) j = some (hd 27 (16 + 8 * i + j)) := (gR_rw (rw_hd (by decide) (by decide)) _).trans (h.2.2.1 _ (List.mem_of_getElem? (i := 0) rfl) i j hi hj)
theorem a_20 {μ : Mu} (h : St μ) {i j : Nat} (hi : i < 2) (hj : j < 21) : gR μ (hd 20 i) j = some (hd 26 (21 * i + j)) := (gR_rw (rw_hd (by decide) (by decide)) _).trans (h.2.2.1 _ (List.mem_of_getElem? (i := 1) rfl) i j hi hj)
theorem a_30 {μ : Mu} (h : St μ) {i j : Nat} (hi : i < 2) (hj : j < 60) : gR μ (hd 30 i) j = some (hd 33 (60 * i + j)) := (gR_rw (rw_hd (by decide) (by decide)) _).trans (h.2.2.1 _ (List.mem_of_getElem? (i := 2) rfl) i j hi hj)
theorem a_31 {μ : Mu} (h : St μ) {i j : Nat} (hi : i < 2) (hj : j < 5) : gR μ (hd 31 i) j = some (hd 35 (5 * i + j)) := (gR_rw (rw_hd (by decide) (by decide)) _).trans (h.2.2.1 _ (List.mem_of_getElem? (i := 3) rfl) i j hi hj)
theorem a_32 {μ : Mu} (h : St μ) {i j : Nat} (hi : i < 2) (hj : j < 8) : gR μ (hd 32 i) j = some (hd 27 (8 * i + j)) := (gR_rw (rw_hd (by decide) (by decide)) _).trans (h.2.2.1 _ (List.mem_of_getElem? (i := 4) rfl) i j hi hj)
theorem d_8_3 {μ : Mu} (h : St μ) {i : Nat} (hi : i < 1) : gR μ (hd 8 i) 3 = some (hd 18 (px μ (hd 8 i) 3)) ∧ px μ (hd 8 i) 3 < 2 := px_of (rw_hd (by decide) (by decide)) (by decide) (h.2.2.2.1 _ (List.mem_of_getElem? (i := 0) rfl) i hi)
theorem sd_8_3 {μ : Mu} (h : St μ) {i q : Nat} (hi : i < 1) (hq : q < 2) : St (setR μ (hd 8 i) 3 (hd 18 q)) := h.setD (m := 2) (by decide +kernel) hq
theorem d_8_4 {μ : Mu} (h : St μ) {i : Nat} (hi : i < 1) : gR μ (hd 8 i) 4 = some (hd 18 (px μ (hd 8 i) 4)) ∧ px μ (hd 8 i) 4 < 2 := px_of (rw_hd (by decide) (by decide)) (by decide) (h.2.2.2.1 _ (List.mem_of_getElem? (i := 1) rfl) i hi)
theorem sd_8_4 {μ : Mu} (h : St μ) {i q : Nat} (hi : i < 1) (hq : q < 2) : St (setR μ (hd 8 i) 4 (hd 18 q)) := h.setD (m := 2) (by decide +kernel) hq
theorem d_15_1 {μ : Mu} (h : St μ) {i : Nat} (hi : i < 1) : gR μ (hd 15 i) 1 = some (hd 18 (px μ (hd 15 i) 1)) ∧ px μ (hd 15 i) 1 < 2 := px_of (rw_hd (by decide) (by decide)) (by decide) (h.2.2.2.1 _ (List.mem_of_getElem? (i := 2) rfl) i hi)
theorem sd_15_1 {μ : Mu} (h : St μ) {i q : Nat} (hi : i < 1) (hq : q < 2) : St (setR μ (hd 15 i) 1 (hd 18 q)) := h.setD (m := 2) (by decide +kernel) hq
theorem d_15_3 {μ : Mu} (h : St μ) {i : Nat} (hi : i < 1) : gR μ (hd 15 i) 3 = some (hd 0 (px μ (hd 15 i) 3)) ∧ px μ (hd 15 i) 3 < 49 := px_of (rw_hd (by decide) (by decide)) (by decide) (h.2.2.2.1 _ (List.mem_of_getElem? (i := 3) rfl) i hi)
theorem sd_15_3 {μ : Mu} (h : St μ) {i q : Nat} (hi : i < 1) (hq : q < 49) : St (setR μ (hd 15 i) 3 (hd 0 q)) := h.setD (m := 49) (by decide +kernel) hq
theorem d_16_4 {μ : Mu} (h : St μ) {i : Nat} (hi : i < 1) : gR μ (hd 16 i) 4 = some (hd 18 (px μ (hd 16 i) 4)) ∧ px μ (hd 16 i) 4 < 2 := px_of (rw_hd (by decide) (by decide)) (by decide) (h.2.2.2.1 _ (List.mem_of_getElem? (i := 4) rfl) i hi)
theorem sd_16_4 {μ : Mu} (h : St μ) {i q : Nat} (hi : i < 1) (hq : q < 2) : St (setR μ (hd 16 i) 4 (hd 18 q)) := h.setD (m := 2) (by decide +kernel) hq
theorem d_26_0 {μ : Mu} (h : St μ) {i : Nat} (hi : i < 42) : gR μ (hd 26 i) 0 = some (hd 0 (px μ (hd 26 i) 0)) ∧ px μ (hd 26 i) 0 < 49 := px_of (rw_hd (by decide) (by decide)) (by decide) (h.2.2.2.1 _ (List.mem_of_getElem? (i := 5) rfl) i hi)
theorem sd_26_0 {μ : Mu} (h : St μ) {i q : Nat} (hi : i < 42) (hq : q < 49) : St (setR μ (hd 26 i) 0 (hd 0 q)) := h.setD (m := 49) (by decide +kernel) hq
theorem d_10_5 {μ : Mu} (h : St μ) {i : Nat} (hi : i < 1) : gR μ (hd 10 i) 5 = some (hd 9 (px μ (hd 10 i) 5)) ∧ px μ (hd 10 i) 5 < 2 := px_of (rw_hd (by decide) (by decide)) (by decide) (h.2.2.2.1 _ (List.mem_of_getElem? (i := 6) rfl) i hi)
theorem sd_10_5 {μ : Mu} (h : St μ) {i q : Nat} (hi : i < 1) (hq : q < 2) : St (setR μ (hd 10 i) 5 (hd 9 q)) := h.setD (m := 2) (by decide +kernel) hq
theorem d_29_3 {μ : Mu} (h : St μ) {i : Nat} (hi : i < 2) : gR μ (hd 29 i) 3 = some (hd 18 (px μ (hd 29 i) 3)) ∧ px μ (hd 29 i) 3 < 2 := px_of (rw_hd (by decide) (by decide)) (by decide) (h.2.2.2.1 _ (List.mem_of_getElem? (i := 7) rfl) i hi)
theorem sd_29_3 {μ : Mu} (h : St μ) {i q : Nat} (hi : i < 2) (hq : q < 2) : St (setR μ (hd 29 i) 3 (hd 18 q)) := h.setD (m := 2) (by decide +kernel) hq
theorem e_11 {μ : Mu} (h : St μ) {i j : Nat} (hi : i < 1) (hn : mR μ (hd 11 i) j ≠ none) : gR μ (hd 11 i) j = some (hd 0 (px μ (hd 11 i) j)) ∧ px μ (hd 11 i) j < 49 := px_ofE (rw_hd (by decide) (by decide)) (by decide) hn (h.2.2.2.2 _ (List.mem_of_getElem? (i := 0) rfl) i j · hi)
theorem se_11 {μ : Mu} (h : St μ) {i j q : Nat} (hi : i < 1) (hq : q < 49) : St (setR μ (hd 11 i) j (hd 0 q)) := h.setE (m := 49) (by decide +kernel) hq
theorem e_22 {μ : Mu} (h : St μ) {i j : Nat} (hi : i < 2) (hn : mR μ (hd 22 i) j ≠ none) : gR μ (hd 22 i) j = some (hd 0 (px μ (hd 22 i) j)) ∧ px μ (hd 22 i) j < 49 := px_ofE (rw_hd (by decide) (by decide)) (by decide) hn (h.2.2.2.2 _ (List.mem_of_getElem? (i := 1) rfl) i j · hi)
theorem se_22 {μ : Mu} (h : St μ) {i j q : Nat} (hi : i < 2) (hq : q < 49) : St (setR μ (hd 22 i) j (hd 0 q)) := h.setE (m := 49) (by decide +kernel) hq
theorem w_9 {i : Nat} : rwN (hd 9 i) := rw_hd (by decide) (by decide)
theorem w_11 {i : Nat} : rwN (hd 11 i) := rw_hd (by decide) (by decide)
theorem w_12 {i : Nat} : rwN (hd 12 i) := rw_hd (by decide) (by decide)
theorem w_13 {i : Nat} : rwN (hd 13 i) := rw_hd (by decide) (by decide)
theorem w_14 {i : Nat} : rwN (hd 14 i) := rw_hd (by decide) (by decide)
theorem w_17 {i : Nat} : rwN (hd 17 i) := rw_hd (by decide) (by decide)
theorem w_19 {i : Nat} : rwN (hd 19 i) := rw_hd (by decide) (by decide)
theorem w_20 {i : Nat} : rwN (hd 20 i) := rw_hd (by decide) (by decide)
theorem w_22 {i : Nat} : rwN (hd 22 i) := rw_hd (by decide) (by decide)
theorem w_23 {i : Nat} : rwN (hd 23 i) := rw_hd (by decide) (by decide)
theorem w_24 {i : Nat} : rwN (hd 24 i) := rw_hd (by decide) (by decide)
theorem w_25 {i : Nat} : rwN (hd 25 i) := rw_hd (by decide) (by decide)
theorem w_28 {i : Nat} : rwN (hd 28 i) := rw_hd (by decide) (by decide)
theorem w_30 {i : Nat} : rwN (hd 30 i) := rw_hd (by decide) (by decide)
theorem w_31 {i : Nat} : rwN (hd 31 i) := rw_hd (by decide) (by decide)
theorem w_32 {i : Nat} : rwN (hd 32 i) := rw_hd (by decide) (by decide)
theorem w_34 {i : Nat} : rwN (hd 34 i) := rw_hd (by decide) (by decide)
theorem w_36 {i : Nat} : rwN (hd 36 i) := rw_hd (by decide) (by decide)
theorem w_37 {i : Nat} : rwN (hd 37 i) := rw_hd (by decide) (by decide)
theorem w_38 {i : Nat} : rwN (hd 38 i) := rw_hd (by decide) (by decide)
theorem w_8 {i : Nat} : rwN (hd 8 i) := rw_hd (by decide) (by decide)
theorem w_10 {i : Nat} : rwN (hd 10 i) := rw_hd (by decide) (by decide)
theorem w_15 {i : Nat} : rwN (hd 15 i) := rw_hd (by decide) (by decide)
theorem w_16 {i : Nat} : rwN (hd 16 i) := rw_hd (by decide) (by decide)
theorem w_18 {i : Nat} : rwN (hd 18 i) := rw_hd (by decide) (by decide)
theorem w_21 {i : Nat} : rwN (hd 21 i) := rw_hd (by decide) (by decide)
theorem w_26 {i : Nat} : rwN (hd 26 i) := rw_hd (by decide) (by decide)
theorem w_27 {i : Nat} : rwN (hd 27 i) := rw_hd (by decide) (by decide)
theorem w_29 {i : Nat} : rwN (hd 29 i) := rw_hd (by decide) (by decide)
theorem w_33 {i : Nat} : rwN (hd 33 i) := rw_hd (by decide) (by decide)
theorem w_35 {i : Nat} : rwN (hd 35 i) := rw_hd (by decide) (by decide)
theorem w_100 {i : Nat} : rwN (hd 100 i) := rw_hd (by decide) (by decide)
theorem w_101 {i : Nat} : rwN (hd 101 i) := rw_hd (by decide) (by decide)
theorem w_102 {i : Nat} : rwN (hd 102 i) := rw_hd (by decide) (by decide)
theorem w_103 {i : Nat} : rwN (hd 103 i) := rw_hd (by decide) (by decide)
theorem w_104 {i : Nat} : rwN (hd 104 i) := rw_hd (by decide) (by decide)
theorem w_105 {i : Nat} : rwN (hd 105 i) := rw_hd (by decide) (by decide)
theorem w_106 {i : Nat} : rwN (hd 106 i) := rw_hd (by decide) (by decide)
theorem w_107 {i : Nat} : rwN (hd 107 i) := rw_hd (by decide) (by decide)
theorem w_108 {i : Nat} : rwN (hd 108 i) := rw_hd (by decide) (by decide)
theorem w_109 {i : Nat} : rwN (hd 109 i) := rw_hd (by decide) (by decide)
theorem w_110 {i : Nat} : rwN (hd 110 i) := rw_hd (by decide) (by decide)
theorem w_111 {i : Nat} : rwN (hd 111 i) := rw_hd (by decide) (by decide)
theorem w_112 {i : Nat} : rwN (hd 112 i) := rw_hd (by decide) (by decide)
theorem w_113 {i : Nat} : rwN (hd 113 i) := rw_hd (by decide) (by decide)
theorem w_114 {i : Nat} : rwN (hd 114 i) := rw_hd (by decide) (by decide)
theorem w_115 {i : Nat} : rwN (hd 115 i) := rw_hd (by decide) (by decide)
theorem w_116 {i : Nat} : rwN (hd 116 i) := rw_hd (by decide) (by decide)
theorem w_117 {i : Nat} : rwN (hd 117 i) := rw_hd (by decide) (by decide)
theorem w_118 {i : Nat} : rwN (hd 118 i) := rw_hd (by decide) (by decide)
theorem w_119 {i : Nat} : rwN (hd 119 i) := rw_hd (by decide) (by decide)
theorem w_120 {i : Nat} : rwN (hd 120 i) := rw_hd (by decide) (by decide)
theorem w_121 {i : Nat} : rwN (hd 121 i) := rw_hd (by decide) (by decide)
theorem w_122 {i : Nat} : rwN (hd 122 i) := rw_hd (by decide) (by decide)
theorem w_123 {i : Nat} : rwN (hd 123 i) := rw_hd (by decide) (by decide)
theorem w_124 {i : Nat} : rwN (hd 124 i) := rw_hd (by decide) (by decide)
theorem w_125 {i : Nat} : rwN (hd 125 i) := rw_hd (by decide) (by decide)
theorem w_126 {i : Nat} : rwN (hd 126 i) := rw_hd (by decide) (by decide)
theorem w_127 {i : Nat} : rwN (hd 127 i) := rw_hd (by decide) (by decide)
theorem w_128 {i : Nat} : rwN (hd 128 i) := rw_hd (by decide) (by decide)
theorem w_129 {i : Nat} : rwN (hd 129 i) := rw_hd (by decide) (by decide)
theorem w_130 {i : Nat} : rwN (hd 130 i) := rw_hd (by decide) (by decide)
theorem w_131 {i : Nat} : rwN (hd 131 i) := rw_hd (by decide) (by decide)
/-! kinds and their texts; words -/
theorem kk_0 {μ : Mu} {i : Nat} (hi : i < 49) : gR μ (hd 0 i) 1 = some (hd 1 (min i 44)) := by
  unfold gR cR
  rw [hd_mod (by decide), hd_div (by decide)]
  rfl
theorem kk_4 {μ : Mu} {j : Nat} (hj : j < 49) : gR μ (hd 4 0) j = some (hd 0 j) := by
  unfold gR cR
  rw [hd_mod (by decide)]
  exact if_pos hj
/-! fresh names -/
theorem setR_S {μ : Mu} {a k x : Nat} : mS (setR μ a k x) = mS μ := rfl
theorem hd_ne {κ i κ' i' : Nat} (h : κ < 256) (h' : κ' < 256) (hn : κ ≠ κ') : hd κ i ≠ hd κ' i' := fun e => hn ((hd_inj h h').mp e).1
theorem al_S {μ : Mu} {κ i κ' i' : Nat} {sh : Nat × Nat} (h : κ < 256) (h' : κ' < 256) (hn : κ' ≠ κ) : mS (mkA μ (hd κ i) sh) (hd κ' i') = mS μ (hd κ' i') := alloc_Sne (hd_ne h' h hn)
theorem al_R {μ : Mu} {κ i κ' i' k : Nat} {sh : Nat × Nat} (h : κ < 256) (h' : κ' < 256) (hn : κ' ≠ κ) : mR (mkA μ (hd κ i) sh) (hd κ' i') k = mR μ (hd κ' i') k := if_neg (hd_ne h' h hn)
theorem StT.al {μ : Mu} {κ i : Nat} {sh : Nat × Nat} (h : StT μ) (hk : κ < 256) (h1 : sTab.all (fun e => decide (e.1 < 256) && decide (e.1 ≠ κ)) = true) (h2 : rTab.all (fun e => decide (e.1 < 256) && decide (e.1 ≠ κ)) = true) (h3 : aTab.all (fun e => decide (e.1 < 256) && decide (e.1 ≠ κ)) = true) (h4 : dTab.all (fun e => decide (e.1 < 256) && decide (e.1 ≠ κ)) = true) (h5 : eTab.all (fun e => decide (e.1 < 256) && decide (e.1 ≠ κ)) = true) : StT (mkA μ (hd κ i) sh) := by
  obtain ⟨s1, s2, s3, s4, s5⟩ := h
  simp only [List.all_eq_true, Bool.and_eq_true, decide_eq_true_eq] at h1 h2 h3 h4 h5
  refine ⟨fun e he j hj => ?_, fun e he j hj => ?_, fun e he j l hj hl => ?_, fun e he j hj => ?_, fun e he j l b hj hb => ?_⟩
  · rw [al_S hk (h1 e he).1 (h1 e he).2]; exact s1 e he j hj
  · rw [al_R hk (h2 e he).1 (h2 e he).2]; exact s2 e he j hj
  · rw [al_R hk (h3 e he).1 (h3 e he).2]; exact s3 e he j l hj hl
  · rw [al_R hk (h4 e he).1 (h4 e he).2]; exact s4 e he j hj
  · rw [al_R hk (h5 e he).1 (h5 e he).2] at hb; exact s5 e he j l b hj hb
/-- the structure speaks of names of kinds below 100 alone -/
theorem tabs_lo : (∀ e ∈ sTab, e.1 < 100) ∧ (∀ e ∈ rTab, e.1 < 100) ∧ (∀ e ∈ aTab, e.1 < 100) ∧ (∀ e ∈ dTab, e.1 < 100) ∧ ∀ e ∈ eTab, e.1 < 100 := by
  refine ⟨?_, ?_, ?_, ?_, ?_⟩ <;> decide +kernel
def Lo (μ μ' : Mu) : Prop := ∀ κ i, κ < 100 → mS μ' (hd κ i) = mS μ (hd κ i) ∧ ∀ k, mI μ' (hd κ i) k = mI μ (hd κ i) k ∧ mL μ' (hd κ i) k = mL μ (hd κ i) k ∧ mR μ' (hd κ i) k = mR μ (hd κ i) k
theorem Lo.rf {μ : Mu} : Lo μ μ := fun _ _ _ => ⟨rfl, fun _ => ⟨rfl, rfl, rfl⟩⟩
theorem Lo.trans {μ1 μ2 μ3 : Mu} (h : Lo μ1 μ2) (h' : Lo μ2 μ3) : Lo μ1 μ3 := fun κ i hκ => ⟨(h' κ i hκ).1.trans (h κ i hκ).1, fun k => ⟨((h' κ i hκ).2 k).1.trans ((h κ i hκ).2 k).1, ((h' κ i hκ).2 k).2.1.trans ((h κ i hκ).2 k).2.1, ((h' κ i hκ).2 k).2.2.trans ((h κ i hκ).2 k).2.2⟩⟩
theorem St.lo {μ μ' : Mu} (h : St μ) (l : Lo μ μ') : St μ' := by
  obtain ⟨s1, s2, s3, s4, s5⟩ := h
  obtain ⟨t1, t2, t3, t4, t5⟩ := tabs_lo
  refine ⟨fun e he j hj => ?_, fun e he j hj => ?_, fun e he j k hj hk => ?_, fun e he j hj => ?_, fun e he j k b hj hb => ?_⟩
  · rw [(l _ _ (t1 e he)).1]; exact s1 e he j hj
  · rw [((l _ _ (t2 e he)).2 _).2.2]; exact s2 e he j hj
  · rw [((l _ _ (t3 e he)).2 _).2.2]; exact s3 e he j k hj hk
  · rw [((l _ _ (t4 e he)).2 _).2.2]; exact s4 e he j hj
  · rw [((l _ _ (t5 e he)).2 _).2.2] at hb; exact s5 e he j k b hj hb

