/-! the model's names: one token -/
section MFC
variable {d rc rs : Nat} {Q : Option Value → Mu → Prop} {μ : Mu} {t : Nat → Nat} {L q x : Nat}
theorem i3 {P : Prop} [Decidable P] : (if P then (3 : Int32) else 0) = nI (if P then 3 else 0) := by by_cases h : P; rw [if_pos h, if_pos h]; rfl; rw [if_neg h, if_neg h]; rfl
theorem i24 {P C : Prop} [Decidable P] [Decidable C] : (if P then (2 : Int32) else if C then 4 else 0) = nI (if P then 2 else if C then 4 else 0) := by
  by_cases h : P
  · rw [if_pos h, if_pos h]; rfl
  · rw [if_neg h, if_neg h]
    by_cases h' : C
    · rw [if_pos h', if_pos h']; rfl
    · rw [if_neg h', if_neg h']; rfl
theorem ern_lt {j : Nat} : ern t L j < 10 := by
  unfold ern
  dsimp only
  have h : ∀ {c : Prop} [Decidable c] {x y : Nat}, x < 10 → y < 10 → (if c then x else y) < 10 := fun {c} _ {x y} hx hy => by
    by_cases z : c
    · rw [if_pos z]; exact hx
    · rw [if_neg z]; exact hy
  exact h (h (by decide) (h (by decide) (by decide))) (h (h (by decide) (by decide)) (h (h (by decide) (h (by decide) (by decide))) (h (h (by decide) (by decide)) (h (h (by decide) (by decide)) (h (h (by decide) (by decide)) (h (h (by decide) (by decide)) (by decide)))))))
theorem MNS.cnts (hN : MNS μ t L q x) (r0 : rl (tK t L) x ≠ 1) (r1 : rl (tK t L) x ≠ 2) (r2 : rl (tK t L) x ≠ 3) (r3 : rl (tK t L) x ≠ 7) :
    (mI μ (hd 50 q) 0 = nI (cn (tK t L) 1 (x + 1)) ∧ mI μ (hd 50 q) 1 = nI (cn (tK t L) 2 (x + 1)) ∧ mI μ (hd 50 q) 2 = nI (cn (tK t L) 3 (x + 1)) ∧ mI μ (hd 50 q) 6 = nI (cn (tK t L) 7 (x + 1))) ∧ (cn (tK t L) 1 (x + 1) ≤ 5 ∧ cn (tK t L) 2 (x + 1) ≤ 6 ∧ cn (tK t L) 3 (x + 1) ≤ 8 ∧ cn (tK t L) 7 (x + 1) ≤ 20) := by
  rw [cn_no r0, cn_no r1, cn_no r2, cn_no r3]
  exact ⟨hN.2.2.2.1, hN.2.2.2.2.1⟩
/-- a name in a row: what is then -/
theorem MNS.row {r κ k : Nat} (hN : MNS μ t L q x) (hLS : ∀ j, j < nT t L → LSj (tK t L) j) (hx : x < nT t L) (he : ern t L x = 0) (hp : plc t L r x x ≠ 0) (hr : lr (rl (tK t L) x) = r) (hr0 : r ≠ 0) (hκ : arN (rl (tK t L) x) = κ) (hk : slN (tK t L) x = k) (hκ0 : 51 ≤ κ ∧ κ ≤ 57) : MNS (setI (setI μ (hd 46 0) x (oI (plc t L r x x))) (hd κ q) k (oI (plc t L r x x))) t L q (x + 1) := by
  obtain ⟨n1, n2, n3, n6, n7, -, -, -, n11⟩ := lr_ne (r := rl (tK t L) x) (by omega)
  obtain ⟨c1, c2⟩ := hN.cnts n1 n2 n3 n7
  rw [plc_oI hp]
  refine hN.next hLS hx he ((FrE.rf.s46).s5 hκ0) ?_ c2 (fun i hi => ?_) (fun _ => ?_) (fun κ' k' h1 h2 h3 => ?_) (fun _ => ?_)
  · have ne : ∀ j, mI (setI (setI μ (hd 46 0) x (nI (plc t L r x x - 1))) (hd κ q) k (nI (plc t L r x x - 1))) (hd 50 q) j = mI μ (hd 50 q) j := fun j => by rw [rd_ne (by omega) (by decide) (by omega), rd_ne (by decide) (by decide) (by decide)]
    rw [ne, ne, ne, ne]; exact c1
  · rw [rd_ne (by omega) (by decide) (by omega), rd_k hi]
  · rw [rd_ne (by omega) (by decide) (by omega), rd_eq, hr]
  · by_cases z : κ' = κ
    · rw [z, rd_k (fun y => h3 ⟨by omega, by omega⟩), rd_ne (by decide) (by omega) (by omega)]
    · rw [rd_ne (by omega) (by omega) z, rd_ne (by decide) (by omega) (by omega)]
  · rw [hκ, hk, rd_eq]
    unfold vlN; rw [if_neg n6, if_neg n7, if_neg n11, hr]
/-- a name in a row -/
theorem c_rowX {r κ k n : Nat} {v w : Int32} (hD : 4 ≤ d) (hS : St μ) (hN : MNS μ t L q x) (hLS : ∀ j, j < nT t L → LSj (tK t L) j) (hx : x < nT t L) (hr : lr (rl (tK t L) x) = r) (hr0 : 1 ≤ r ∧ r ≤ 3) (h5 : rl (tK t L) x ≠ 5) (hs : mS μ (hd κ q) = (2, n)) (hκ : arN (rl (tK t L) x) = κ) (hk : slN (tK t L) x = k) (hκ0 : 51 ≤ κ ∧ κ ≤ 57) (hkn : k < n) (hn : n < 1000) (hv : v = nI k) (hw : w = nI r) (hok : ern t L x = 0 → ∀ μ', FrE q μ μ' → St μ' → MNS μ' t L q (x + 1) → Q (some (.int 0)) μ') (her : ern t L x ≠ 0 → ∀ μ', FrE q μ μ' → St μ' → Q (some (.int (nI (ern t L x)))) μ') : Cal K_MM_named d rc rs [.ref (hd 40 0), .int (nI x), .ref (hd κ q), .int v, .int w] μ (fun r μ13 => ∃ y14, r = some (.int y14) ∧ (St μ13 ∧ Q (some (.int y14)) μ13)) := by
  have he := ern_lk (t := t) (L := L) hr (by omega) h5
  rw [hv, hw]
  refine c_MM_named hD hS hN hx (by omega) hs hκ0 hkn hn (fun μ' e hs' => ⟨_, rfl, hs', ?_⟩)
  rw [i3, ← he]
  have f : FrE q μ μ' := by rw [e]; exact (FrE.rf.s46).s5 hκ0
  by_cases z : plc t L r x x = 0
  · exact her (by rw [he, if_pos z]; decide) μ' f hs'
  · have h0 : ern t L x = 0 := by rw [he, if_neg z]
    rw [h0]
    exact hok h0 μ' f hs' (by rw [e]; exact hN.row hLS hx h0 z hr (by omega) hκ hk hκ0)
/-- a name in a sum or a test -/
theorem c_lookX {r : Nat} {w : Int32} (hD : 3 ≤ d) (hS : St μ) (hN : MNS μ t L q x) (hLS : ∀ j, j < nT t L → LSj (tK t L) j) (hx : x < nT t L) (hr : rl (tK t L) x = 12 ∧ r = 1 ∨ rl (tK t L) x = 13 ∧ r = 2) (hw : w = nI r) (hok : ern t L x = 0 → ∀ μ', FrE q μ μ' → St μ' → MNS μ' t L q (x + 1) → Q (some (.int 0)) μ') (her : ern t L x ≠ 0 → ∀ μ', FrE q μ μ' → St μ' → Q (some (.int (nI (ern t L x)))) μ') : Cal K_MM_look d rc rs [.ref (hd 40 0), .int (nI x), .int w] μ (fun r μ13 => ∃ y14, r = some (.int y14) ∧ (St μ13 ∧ Q (some (.int y14)) μ13)) := by
  have hl : lr (rl (tK t L) x) = r := by rcases hr with ⟨a, b⟩ | ⟨a, b⟩ <;> rw [a, b] <;> rfl
  have ha : arN (rl (tK t L) x) = 0 := by rcases hr with ⟨a, b⟩ | ⟨a, b⟩ <;> rw [a] <;> rfl
  have he := ern_lk (t := t) (L := L) hl (by omega) (by omega)
  obtain ⟨c1, c2⟩ := hN.cnts (by omega) (by omega) (by omega) (by omega)
  rw [hw]
  refine c_MM_look hD hS hN.1 hN.2.2.1 hx (by omega) (fun hs' => ⟨_, rfl, hs', ?_⟩)
  rw [i3, ← he]
  by_cases z : plc t L r x x = 0
  · exact her (by rw [he, if_pos z]; decide) _ FrE.rf.s46 hs'
  · have h0 : ern t L x = 0 := by rw [he, if_neg z]
    rw [h0]
    refine hok h0 _ FrE.rf.s46 hs' (hN.next hLS hx h0 FrE.rf.s46 ?_ c2 (fun i hi => rd_k hi) (fun _ => ?_) (fun κ k h1 h2 _ => rd_ne (by decide) (by omega) (by omega)) (fun y => absurd ha y))
    · have ne : ∀ j, mI (setI μ (hd 46 0) x (oI (plc t L r x x))) (hd 50 q) j = mI μ (hd 50 q) j := fun j => rd_ne (by decide) (by decide) (by decide)
      rw [ne, ne, ne, ne]; exact c1
    · rw [rd_eq, plc_oI z, hl]
/-- a new name -/
theorem MNS.newN {r k : Nat} {v : Int32} (hN : MNS μ t L q x) (hLS : ∀ j, j < nT t L → LSj (tK t L) j) (hx : x < nT t L) (hr : rl (tK t L) x = r) (hrk : r = 1 ∧ k = 0 ∨ r = 2 ∧ k = 1 ∨ r = 3 ∧ k = 2) (he : ern t L x = 0) (hv : v = nI (cn (tK t L) r x + 1)) : MNS (setI μ (hd 50 q) k v) t L q (x + 1) := by
  have hcap : cn (tK t L) r x ≠ capN r := by
    intro z
    rw [ern_new hr (by omega)] at he
    split at he
    · cases he
    · cases he
  obtain ⟨d1, d2, d3, d4⟩ := hN.2.2.2.2.1
  obtain ⟨e1, e2, e3, e4⟩ := hN.2.2.2.1
  have hl : lr r = 0 := by rcases hrk with ⟨a, -⟩ | ⟨a, -⟩ | ⟨a, -⟩ <;> rw [a] <;> rfl
  have ha : arN r = 0 := by rcases hrk with ⟨a, -⟩ | ⟨a, -⟩ | ⟨a, -⟩ <;> rw [a] <;> rfl
  refine hN.next hLS hx he (FrE.rf.s50 (by omega)) ?_ ?_ (fun i _ => rd_ne (by decide) (by decide) (by decide)) (fun y => absurd (by rw [hr]; exact hl) y) (fun κ k h1 h2 _ => rd_ne (by decide) (by omega) (by omega)) (fun y => absurd (by rw [hr]; exact ha) y)
  · rcases hrk with ⟨rfl, rfl⟩ | ⟨rfl, rfl⟩ | ⟨rfl, rfl⟩
    · rw [rd_eq, rd_k (by decide), rd_k (by decide), rd_k (by decide), cn_yes hr, cn_no (by omega), cn_no (by omega), cn_no (by omega)]
      exact ⟨hv, e2, e3, e4⟩
    · rw [rd_eq, rd_k (by decide), rd_k (by decide), rd_k (by decide), cn_yes hr, cn_no (by omega), cn_no (by omega), cn_no (by omega)]
      exact ⟨e1, hv, e3, e4⟩
    · rw [rd_eq, rd_k (by decide), rd_k (by decide), rd_k (by decide), cn_yes hr, cn_no (by omega), cn_no (by omega), cn_no (by omega)]
      exact ⟨e1, e2, hv, e4⟩
  · rcases hrk with ⟨rfl, rfl⟩ | ⟨rfl, rfl⟩ | ⟨rfl, rfl⟩
    · have : capN 1 = 5 := rfl
      rw [cn_yes hr, cn_no (by omega), cn_no (by omega), cn_no (by omega)]; omega
    · have : capN 2 = 6 := rfl
      rw [cn_yes hr, cn_no (by omega), cn_no (by omega), cn_no (by omega)]; omega
    · have : capN 3 = 8 := rfl
      rw [cn_yes hr, cn_no (by omega), cn_no (by omega), cn_no (by omega)]; omega
end MFC
