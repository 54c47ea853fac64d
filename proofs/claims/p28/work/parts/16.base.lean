/-! numbers -/
theorem I0 : (0 : Int32) = nI 0 := rfl
theorem I1 : (1 : Int32) = nI 1 := rfl
theorem I2 : (2 : Int32) = nI 2 := rfl
theorem I3 : (3 : Int32) = nI 3 := rfl
theorem I4 : (4 : Int32) = nI 4 := rfl
theorem I5 : (5 : Int32) = nI 5 := rfl
theorem I6 : (6 : Int32) = nI 6 := rfl
theorem I7 : (7 : Int32) = nI 7 := rfl
theorem I8 : (8 : Int32) = nI 8 := rfl
theorem I9 : (9 : Int32) = nI 9 := rfl
theorem I10 : (10 : Int32) = nI 10 := rfl
theorem I11 : (11 : Int32) = nI 11 := rfl
theorem I12 : (12 : Int32) = nI 12 := rfl
theorem I13 : (13 : Int32) = nI 13 := rfl
theorem I15 : (15 : Int32) = nI 15 := rfl
theorem I16 : (16 : Int32) = nI 16 := rfl
theorem I20 : (20 : Int32) = nI 20 := rfl
theorem I21 : (21 : Int32) = nI 21 := rfl
theorem I24 : (24 : Int32) = nI 24 := rfl
theorem I30 : (30 : Int32) = nI 30 := rfl
theorem I31 : (31 : Int32) = nI 31 := rfl
theorem I32 : (32 : Int32) = nI 32 := rfl
theorem I36 : (36 : Int32) = nI 36 := rfl
theorem I37 : (37 : Int32) = nI 37 := rfl
theorem I40 : (40 : Int32) = nI 40 := rfl
theorem I41 : (41 : Int32) = nI 41 := rfl
theorem I43 : (43 : Int32) = nI 43 := rfl
theorem I44 : (44 : Int32) = nI 44 := rfl
theorem I45 : (45 : Int32) = nI 45 := rfl
theorem I46 : (46 : Int32) = nI 46 := rfl
theorem I47 : (47 : Int32) = nI 47 := rfl
theorem I48 : (48 : Int32) = nI 48 := rfl
theorem I50 : (50 : Int32) = nI 50 := rfl
theorem I60 : (60 : Int32) = nI 60 := rfl
theorem I255 : (255 : Int32) = nI 255 := rfl
theorem I300 : (300 : Int32) = nI 300 := rfl
theorem I301 : (301 : Int32) = nI 301 := rfl
theorem I400 : (400 : Int32) = nI 400 := rfl
theorem I401 : (401 : Int32) = nI 401 := rfl
theorem I480 : (480 : Int32) = nI 480 := rfl
theorem I800 : (800 : Int32) = nI 800 := rfl
theorem I900 : (900 : Int32) = nI 900 := rfl
theorem I901 : (901 : Int32) = nI 901 := rfl
theorem I2000 : (2000 : Int32) = nI 2000 := rfl
theorem I9999 : (9999 : Int32) = nI 9999 := rfl
theorem nI_mul (a b : Nat) : nI a * nI b = nI (a * b) := (Int32.ofNat_mul a b).symm
theorem nI_sub {a b : Nat} (h : b ≤ a) : nI a - nI b = nI (a - b) := by
  have e : nI (a - b) + nI b = nI a := by rw [nI_add, Nat.sub_add_cancel h]
  rw [← e, Int32.add_sub_cancel]
theorem vp_in_I {i n : Nat} (h : i < 2 ^ 31) : vp_in (nI i) n ↔ i < n := by
  rw [vp_in_iff, nI_toInt h]; omega
/-- a number, 0 for -1 -/
def oI (v : Nat) : Int32 := nI v - 1
theorem oI_0 : oI 0 = -1 := by decide
theorem oI_s (v : Nat) : oI (v + 1) = nI v := nI_pred v
theorem oI_p {v : Nat} (h : 0 < v) : oI v = nI (v - 1) := by
  obtain ⟨k, rfl⟩ : ∃ k, v = k + 1 := ⟨v - 1, by omega⟩
  exact oI_s k
theorem oI_m1 {v : Nat} (h : v < 2 ^ 31) : oI v = -1 ↔ v = 0 := by
  constructor
  · intro e
    rcases Nat.eq_zero_or_pos v with h0 | h0
    · exact h0
    · rw [oI_p h0] at e
      have := nI_toInt (n := v - 1) (by omega)
      rw [e] at this
      have h1 : ((-1 : Int32).toInt) = -1 := by decide
      omega
  · rintro rfl; exact oI_0
theorem oI_inj {a b : Nat} (ha : a < 2 ^ 31) (hb : b < 2 ^ 31) : oI a = oI b ↔ a = b := by
  unfold oI
  constructor
  · intro e
    have : nI a = nI b := by
      have h := congrArg (fun x => x + 1) e
      simpa [Int32.sub_add_cancel] using h
    exact (nI_eq ha hb).mp this
  · rintro rfl; rfl
noncomputable def bI (p : Prop) : Int32 := @ite _ p (Classical.propDecidable p) 1 0
theorem bI_t {p : Prop} (h : p) : bI p = 1 := if_pos h
theorem bI_f {p : Prop} (h : ¬ p) : bI p = 0 := if_neg h
theorem bI_congr {p q : Prop} (h : p ↔ q) : bI p = bI q := by rw [propext h]
theorem bI_z {p : Prop} : bI p = 0 ↔ ¬ p := by
  by_cases hp : p
  · rw [bI_t hp]; exact ⟨fun h => absurd h (by decide), fun h => absurd hp h⟩
  · rw [bI_f hp]; exact ⟨fun _ => hp, fun _ => rfl⟩
theorem bI_01 {p : Prop} : bI p = 0 ∨ bI p = 1 := by
  by_cases hp : p
  · exact Or.inr (bI_t hp)
  · exact Or.inl (bI_f hp)
/-! loops that count up -/
theorem up_loop {P : Nat → Prop} (n : Nat) (hl : P n) (hs : ∀ k, k < n → P (k + 1) → P k) : ∀ k, k ≤ n → P k := by
  intro k hk
  obtain ⟨j, rfl⟩ : ∃ j, n = k + j := ⟨n - k, by omega⟩
  clear hk
  induction j generalizing k with
  | zero => exact hl
  | succ j ih => exact hs k (by omega) (ih (k + 1) (by rw [show k + 1 + j = k + (j + 1) by omega]; exact hl) (fun i hi h => hs i (by omega) h))
def sumN (f : Nat → Nat) : Nat → Nat
  | 0 => 0
  | n + 1 => sumN f n + f n
theorem sumN_congr {f g : Nat → Nat} : ∀ n, (∀ k, k < n → f k = g k) → sumN f n = sumN g n
  | 0, _ => rfl
  | n + 1, h => by rw [sumN, sumN, sumN_congr n (fun k hk => h k (by omega)), h n (by omega)]
theorem sumN_zero {f : Nat → Nat} : ∀ n, (∀ k, k < n → f k = 0) → sumN f n = 0
  | 0, _ => rfl
  | n + 1, h => by rw [sumN, sumN_zero n (fun k hk => h k (by omega)), h n (by omega)]
theorem sumN_ext {f : Nat → Nat} {m n : Nat} (h : m ≤ n) (hz : ∀ k, m ≤ k → k < n → f k = 0) : sumN f n = sumN f m := by
  obtain ⟨j, rfl⟩ : ∃ j, n = m + j := ⟨n - m, by omega⟩
  clear h
  induction j with
  | zero => rfl
  | succ j ih => rw [show m + (j + 1) = (m + j) + 1 by omega, sumN, ih (fun k h1 h2 => hz k h1 (by omega)), hz (m + j) (by omega) (by omega)]; rfl
theorem sumN_le {f : Nat → Nat} {b : Nat} : ∀ n, (∀ k, k < n → f k ≤ b) → sumN f n ≤ n * b
  | 0, _ => by simp [sumN]
  | n + 1, h => by
    have h1 := sumN_le n (fun k hk => h k (by omega))
    have h2 := h n (by omega)
    rw [sumN, Nat.succ_mul]; omega
noncomputable def bN (p : Prop) : Nat := @ite _ p (Classical.propDecidable p) 1 0
theorem bN_t {p : Prop} (h : p) : bN p = 1 := if_pos h
theorem bN_f {p : Prop} (h : ¬ p) : bN p = 0 := if_neg h
theorem bN_le {p : Prop} : bN p ≤ 1 := by
  by_cases h : p
  · rw [bN_t h]; exact Nat.le_refl 1
  · rw [bN_f h]; exact Nat.zero_le 1
theorem bN_congr {p q : Prop} (h : p ↔ q) : bN p = bN q := by rw [propext h]
/-! reading behind writing -/
theorem mI_set {μ : Mu} {a k b j : Nat} {x : Int32} : mI (setI μ a k x) b j = if b = a ∧ j = k then x else mI μ b j := rfl
theorem mI_setL {μ : Mu} {a k b j : Nat} {x : Int64} : mI (setL μ a k x) b j = mI μ b j := rfl
theorem mI_setR {μ : Mu} {a k b j x : Nat} : mI (setR μ a k x) b j = mI μ b j := rfl
theorem mL_set {μ : Mu} {a k b j : Nat} {x : Int64} : mL (setL μ a k x) b j = if b = a ∧ j = k then x else mL μ b j := rfl
theorem mL_setI {μ : Mu} {a k b j : Nat} {x : Int32} : mL (setI μ a k x) b j = mL μ b j := rfl
theorem mL_setR {μ : Mu} {a k b j x : Nat} : mL (setR μ a k x) b j = mL μ b j := rfl
theorem mR_set {μ : Mu} {a k b j x : Nat} : mR (setR μ a k x) b j = if b = a ∧ j = k then some x else mR μ b j := rfl
theorem mR_setI {μ : Mu} {a k b j : Nat} {x : Int32} : mR (setI μ a k x) b j = mR μ b j := rfl
theorem mR_setL {μ : Mu} {a k b j : Nat} {x : Int64} : mR (setL μ a k x) b j = mR μ b j := rfl
theorem mI_cp {μ : Mu} {a0 a sp dp n b k : Nat} : mI (cpI μ a0 a sp dp n) b k = if b = a then (if dp ≤ k ∧ k < dp + n then mI μ a0 (sp + (k - dp)) else mI μ a k) else mI μ b k := rfl
theorem mL_cpI {μ : Mu} {a0 a sp dp n b k : Nat} : mL (cpI μ a0 a sp dp n) b k = mL μ b k := rfl
theorem mR_cpI {μ : Mu} {a0 a sp dp n b k : Nat} : mR (cpI μ a0 a sp dp n) b k = mR μ b k := rfl
theorem mL_cp {μ : Mu} {a0 a sp dp n b k : Nat} : mL (cpL μ a0 a sp dp n) b k = if b = a then (if dp ≤ k ∧ k < dp + n then mL μ a0 (sp + (k - dp)) else mL μ a k) else mL μ b k := rfl
theorem mI_cpL {μ : Mu} {a0 a sp dp n b k : Nat} : mI (cpL μ a0 a sp dp n) b k = mI μ b k := rfl
theorem mR_cpL {μ : Mu} {a0 a sp dp n b k : Nat} : mR (cpL μ a0 a sp dp n) b k = mR μ b k := rfl
theorem mI_mk {μ : Mu} {a b k : Nat} {sh : Nat × Nat} : mI (mkA μ a sh) b k = if b = a then 0 else mI μ b k := rfl
theorem mL_mk {μ : Mu} {a b k : Nat} {sh : Nat × Nat} : mL (mkA μ a sh) b k = if b = a then 0 else mL μ b k := rfl
/-! frames: nothing changes but cells of these kinds and numbers -/
def Fr (own : Nat → Nat → Prop) (μ μ' : Mu) : Prop := mS μ' = mS μ ∧ ∀ κ i, κ < 256 → ¬ own κ i → ∀ k, mI μ' (hd κ i) k = mI μ (hd κ i) k ∧ mL μ' (hd κ i) k = mL μ (hd κ i) k ∧ mR μ' (hd κ i) k = mR μ (hd κ i) k
theorem Fr.rf {own : Nat → Nat → Prop} {μ : Mu} : Fr own μ μ := ⟨rfl, fun _ _ _ _ _ => ⟨rfl, rfl, rfl⟩⟩
theorem Fr.trans {own : Nat → Nat → Prop} {μ1 μ2 μ3 : Mu} (h : Fr own μ1 μ2) (h' : Fr own μ2 μ3) : Fr own μ1 μ3 :=
  ⟨h'.1.trans h.1, fun κ i hκ ho k => ⟨(h'.2 κ i hκ ho k).1.trans (h.2 κ i hκ ho k).1, (h'.2 κ i hκ ho k).2.1.trans (h.2 κ i hκ ho k).2.1, (h'.2 κ i hκ ho k).2.2.trans (h.2 κ i hκ ho k).2.2⟩⟩
theorem Fr.mono {own own' : Nat → Nat → Prop} {μ μ' : Mu} (h : Fr own μ μ') (hs : ∀ κ i, own κ i → own' κ i) : Fr own' μ μ' := ⟨h.1, fun κ i hκ ho k => h.2 κ i hκ (fun w => ho (hs κ i w)) k⟩
theorem Fr.I {own : Nat → Nat → Prop} {μ μ' : Mu} (h : Fr own μ μ') {κ i k : Nat} (hκ : κ < 256) (ho : ¬ own κ i) : mI μ' (hd κ i) k = mI μ (hd κ i) k := (h.2 κ i hκ ho k).1
theorem Fr.L {own : Nat → Nat → Prop} {μ μ' : Mu} (h : Fr own μ μ') {κ i k : Nat} (hκ : κ < 256) (ho : ¬ own κ i) : mL μ' (hd κ i) k = mL μ (hd κ i) k := (h.2 κ i hκ ho k).2.1
theorem Fr.R {own : Nat → Nat → Prop} {μ μ' : Mu} (h : Fr own μ μ') {κ i k : Nat} (hκ : κ < 256) (ho : ¬ own κ i) : mR μ' (hd κ i) k = mR μ (hd κ i) k := (h.2 κ i hκ ho k).2.2
theorem Fr.setI {own : Nat → Nat → Prop} {μ μ' : Mu} {κ i k : Nat} {x : Int32} (h : Fr own μ μ') (hκ : κ < 256) (ho : own κ i) : Fr own μ (setI μ' (hd κ i) k x) :=
  ⟨h.1, fun κ' i' hκ' ho' j => ⟨(if_neg (fun z => by obtain ⟨rfl, rfl⟩ := (hd_inj hκ' hκ).mp z.1; exact ho' ho)).trans (h.2 κ' i' hκ' ho' j).1, (h.2 κ' i' hκ' ho' j).2⟩⟩
theorem Fr.setL {own : Nat → Nat → Prop} {μ μ' : Mu} {κ i k : Nat} {x : Int64} (h : Fr own μ μ') (hκ : κ < 256) (ho : own κ i) : Fr own μ (setL μ' (hd κ i) k x) :=
  ⟨h.1, fun κ' i' hκ' ho' j => ⟨(h.2 κ' i' hκ' ho' j).1, (if_neg (fun z => by obtain ⟨rfl, rfl⟩ := (hd_inj hκ' hκ).mp z.1; exact ho' ho)).trans (h.2 κ' i' hκ' ho' j).2.1, (h.2 κ' i' hκ' ho' j).2.2⟩⟩
theorem Fr.setR {own : Nat → Nat → Prop} {μ μ' : Mu} {κ i k x : Nat} (h : Fr own μ μ') (hκ : κ < 256) (ho : own κ i) : Fr own μ (setR μ' (hd κ i) k x) :=
  ⟨h.1, fun κ' i' hκ' ho' j => ⟨(h.2 κ' i' hκ' ho' j).1, (h.2 κ' i' hκ' ho' j).2.1, (if_neg (fun z => by obtain ⟨rfl, rfl⟩ := (hd_inj hκ' hκ).mp z.1; exact ho' ho)).trans (h.2 κ' i' hκ' ho' j).2.2⟩⟩
theorem Fr.cpI {own : Nat → Nat → Prop} {μ μ' : Mu} {κ i a sp dp n : Nat} (h : Fr own μ μ') (hκ : κ < 256) (ho : own κ i) : Fr own μ (cpI μ' a (hd κ i) sp dp n) :=
  ⟨h.1, fun κ' i' hκ' ho' j => ⟨(if_neg (fun z => by obtain ⟨rfl, rfl⟩ := (hd_inj hκ' hκ).mp z; exact ho' ho)).trans (h.2 κ' i' hκ' ho' j).1, (h.2 κ' i' hκ' ho' j).2⟩⟩
theorem Fr.cpL {own : Nat → Nat → Prop} {μ μ' : Mu} {κ i a sp dp n : Nat} (h : Fr own μ μ') (hκ : κ < 256) (ho : own κ i) : Fr own μ (cpL μ' a (hd κ i) sp dp n) :=
  ⟨h.1, fun κ' i' hκ' ho' j => ⟨(h.2 κ' i' hκ' ho' j).1, (if_neg (fun z => by obtain ⟨rfl, rfl⟩ := (hd_inj hκ' hκ).mp z; exact ho' ho)).trans (h.2 κ' i' hκ' ho' j).2.1, (h.2 κ' i' hκ' ho' j).2.2⟩⟩
/-- a frame without changes of references keeps the structure -/
theorem St.of_eq {μ μ' : Mu} (h : St μ) (h1 : mS μ' = mS μ) (h2 : mR μ' = mR μ) : St μ' := by
  unfold St StT at h ⊢
  rw [h1, h2]; exact h
