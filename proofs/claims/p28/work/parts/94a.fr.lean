/-! things are made: frames -/
def FrS (own : Nat → Nat → Prop) (μ μ' : Mu) : Prop := ∀ κ i, κ < 256 → ¬ own κ i → mS μ' (hd κ i) = mS μ (hd κ i) ∧ ∀ k, mI μ' (hd κ i) k = mI μ (hd κ i) k ∧ mL μ' (hd κ i) k = mL μ (hd κ i) k ∧ mR μ' (hd κ i) k = mR μ (hd κ i) k
section FRS
variable {own own' : Nat → Nat → Prop} {μ μ' μ'' : Mu}
theorem FrS.rf : FrS own μ μ := fun _ _ _ _ => ⟨rfl, fun _ => ⟨rfl, rfl, rfl⟩⟩
theorem FrS.trans (h : FrS own μ μ') (h' : FrS own μ' μ'') : FrS own μ μ'' := fun κ i a b => ⟨(h' κ i a b).1.trans (h κ i a b).1, fun k => ⟨((h' κ i a b).2 k).1.trans ((h κ i a b).2 k).1, ((h' κ i a b).2 k).2.1.trans ((h κ i a b).2 k).2.1, ((h' κ i a b).2 k).2.2.trans ((h κ i a b).2 k).2.2⟩⟩
theorem FrS.mono (h : FrS own μ μ') (hs : ∀ κ i, own κ i → own' κ i) : FrS own' μ μ' := fun κ i a b => h κ i a (fun z => b (hs κ i z))
theorem FrS.S {κ i : Nat} (h : FrS own μ μ') (a : κ < 256) (b : ¬ own κ i) : mS μ' (hd κ i) = mS μ (hd κ i) := (h κ i a b).1
theorem FrS.I {κ i k : Nat} (h : FrS own μ μ') (a : κ < 256) (b : ¬ own κ i) : mI μ' (hd κ i) k = mI μ (hd κ i) k := ((h κ i a b).2 k).1
theorem FrS.R {κ i k : Nat} (h : FrS own μ μ') (a : κ < 256) (b : ¬ own κ i) : mR μ' (hd κ i) k = mR μ (hd κ i) k := ((h κ i a b).2 k).2.2
theorem FrS.mk {κ i : Nat} {sh : Nat × Nat} (h : FrS own μ μ') (hκ : κ < 256) (ho : own κ i) : FrS own μ (mkA μ' (hd κ i) sh) := fun κ' i' a b => by
  have ne : hd κ' i' ≠ hd κ i := fun z => by obtain ⟨rfl, rfl⟩ := (hd_inj a hκ).mp z; exact b ho
  exact ⟨(alloc_Sne ne).trans (h κ' i' a b).1, fun k => ⟨(if_neg ne).trans ((h κ' i' a b).2 k).1, (if_neg ne).trans ((h κ' i' a b).2 k).2.1, (if_neg ne).trans ((h κ' i' a b).2 k).2.2⟩⟩
theorem FrS.sI {κ i k : Nat} {x : Int32} (h : FrS own μ μ') (hκ : κ < 256) (ho : own κ i) : FrS own μ (setI μ' (hd κ i) k x) := fun κ' i' a b => by
  have ne : hd κ' i' ≠ hd κ i := fun z => by obtain ⟨rfl, rfl⟩ := (hd_inj a hκ).mp z; exact b ho
  exact ⟨(h κ' i' a b).1, fun j => ⟨(if_neg (fun z => ne z.1)).trans ((h κ' i' a b).2 j).1, ((h κ' i' a b).2 j).2⟩⟩
theorem FrS.sR {κ i k x : Nat} (h : FrS own μ μ') (hκ : κ < 256) (ho : own κ i) : FrS own μ (setR μ' (hd κ i) k x) := fun κ' i' a b => by
  have ne : hd κ' i' ≠ hd κ i := fun z => by obtain ⟨rfl, rfl⟩ := (hd_inj a hκ).mp z; exact b ho
  exact ⟨(h κ' i' a b).1, fun j => ⟨((h κ' i' a b).2 j).1, ((h κ' i' a b).2 j).2.1, (if_neg (fun z => ne z.1)).trans ((h κ' i' a b).2 j).2.2⟩⟩
theorem FrS.of (f : Fr own μ μ') : FrS own μ μ' := fun κ i a b => ⟨by rw [f.1], f.2 κ i a b⟩
end FRS
section CSA
variable {μ : Mu} {a b k j x y κ i κ' i' : Nat} {v : Int32} {sh : Nat × Nat}
theorem S_I : mS (setI μ a k v) b = mS μ b := rfl
theorem S_R : mS (setR μ a k x) b = mS μ b := rfl
theorem S_ne (h : κ < 256) (h' : κ' < 256) (hn : κ' ≠ κ) : mS (mkA μ (hd κ i) sh) (hd κ' i') = mS μ (hd κ' i') := alloc_Sne (hd_ne h' h hn)
theorem S_i (h : κ < 256) (hn : i' ≠ i) : mS (mkA μ (hd κ i) sh) (hd κ i') = mS μ (hd κ i') := alloc_Sne (fun z => hn ((hd_inj h h).mp z).2)
theorem R_I : mR (setI μ a k v) b j = mR μ b j := rfl
theorem R_eq : mR (setR μ a k x) a k = some x := by rw [mR_set, if_pos ⟨rfl, rfl⟩]
theorem R_k (h : j ≠ k) : mR (setR μ a k x) a j = mR μ a j := by rw [mR_set, if_neg (fun z => h z.2)]
theorem R_ne (h : κ < 256) (h' : κ' < 256) (hn : κ' ≠ κ) : mR (setR μ (hd κ i) k x) (hd κ' i') j = mR μ (hd κ' i') j := by rw [mR_set, if_neg (fun z => hd_ne h' h hn z.1)]
theorem R_mk : mR (mkA μ a sh) a j = none := if_pos rfl
theorem R_mkn (h : κ < 256) (h' : κ' < 256) (hn : κ' ≠ κ) : mR (mkA μ (hd κ i) sh) (hd κ' i') j = mR μ (hd κ' i') j := if_neg (hd_ne h' h hn)
theorem I_R : mI (setR μ a k x) b j = mI μ b j := rfl
theorem I_mk : mI (mkA μ a sh) a j = 0 := if_pos rfl
theorem I_mkn (h : κ < 256) (h' : κ' < 256) (hn : κ' ≠ κ) : mI (mkA μ (hd κ i) sh) (hd κ' i') j = mI μ (hd κ' i') j := if_neg (hd_ne h' h hn)
end CSA
section FRT
variable {own own' : Nat → Nat → Prop} {μ μ' μ'' : Mu}
theorem FrS.gi {κ i k : Nat} (h : FrS own μ μ') (a : κ < 256) (b : ¬ own κ i) : gI μ' (hd κ i) k = gI μ (hd κ i) k := by
  unfold gI
  split
  · rfl
  · exact h.I a b
theorem FrS.gr {κ i k : Nat} (h : FrS own μ μ') (a : κ < 256) (b : ¬ own κ i) : gR μ' (hd κ i) k = gR μ (hd κ i) k := by
  unfold gR
  split
  · rfl
  · exact h.R a b
theorem FrS.cl {κ i a0 : Nat} (h : FrS own μ μ') (hκ : κ < 256) (ho : own κ i) : FrS own μ (clA μ' a0 (hd κ i)) := fun κ' i' a b => by
  have ne : hd κ' i' ≠ hd κ i := fun z => by obtain ⟨rfl, rfl⟩ := (hd_inj a hκ).mp z; exact b ho
  exact ⟨(if_neg ne).trans (h κ' i' a b).1, fun k => ⟨(if_neg ne).trans ((h κ' i' a b).2 k).1, (if_neg ne).trans ((h κ' i' a b).2 k).2.1, (if_neg ne).trans ((h κ' i' a b).2 k).2.2⟩⟩
theorem FrS.re {κ i : Nat} {sh : Nat × Nat} (h : FrS own μ μ') (hκ : κ < 256) (ho : own κ i) : FrS own μ (reS μ' (hd κ i) sh) := fun κ' i' a b => by
  have ne : hd κ' i' ≠ hd κ i := fun z => by obtain ⟨rfl, rfl⟩ := (hd_inj a hκ).mp z; exact b ho
  exact ⟨(if_neg ne).trans (h κ' i' a b).1, (h κ' i' a b).2⟩
theorem FrS.cp {κ i a0 sp dp n : Nat} (h : FrS own μ μ') (hκ : κ < 256) (ho : own κ i) : FrS own μ (cpI μ' a0 (hd κ i) sp dp n) := fun κ' i' a b => by
  have ne : hd κ' i' ≠ hd κ i := fun z => by obtain ⟨rfl, rfl⟩ := (hd_inj a hκ).mp z; exact b ho
  exact ⟨(h κ' i' a b).1, fun k => ⟨(if_neg ne).trans ((h κ' i' a b).2 k).1, ((h κ' i' a b).2 k).2⟩⟩
theorem FrS.mM {κ i κ2 N k : Nat} (h : FrS own μ μ') (hκ : κ < 256) (hκ2 : κ2 < 256) (ho : own κ i) (ho2 : ∀ j, j < N → own κ2 j) : FrS own μ (mkM μ' (hd κ i) κ2 N k) := fun κ' i' a b => by
  have ne : hd κ' i' ≠ hd κ i := fun z => by obtain ⟨rfl, rfl⟩ := (hd_inj a hκ).mp z; exact b ho
  have ne2 : ¬ isRow κ2 N (hd κ' i') = true := fun z => by
    obtain ⟨j, hj, e⟩ := isRow_is z
    obtain ⟨rfl, rfl⟩ := (hd_inj a hκ2).mp e
    exact b (ho2 _ hj)
  exact ⟨((if_neg ne).trans (if_neg ne2)).trans (h κ' i' a b).1, fun k => ⟨((if_neg ne).trans (if_neg ne2)).trans ((h κ' i' a b).2 k).1, ((if_neg ne).trans (if_neg ne2)).trans ((h κ' i' a b).2 k).2.1, ((if_neg ne).trans (if_neg ne2)).trans ((h κ' i' a b).2 k).2.2⟩⟩
theorem FrS.lo (h : FrS own μ μ') (ho : ∀ κ i, own κ i → 100 ≤ κ) : Lo μ μ' := fun κ i hκ => h κ i (by omega) (fun z => by have := ho κ i z; omega)
theorem FrS.st (h : FrS own μ μ') (ho : ∀ κ i, own κ i → 100 ≤ κ) (hS : St μ) : St μ' := hS.lo (h.lo ho)
/-- what is new at the dynamic names from c to c' -/
def Dy (c c' κ i : Nat) : Prop := 130 ≤ κ ∧ c ≤ i ∧ i < c'
def FC (μ : Mu) (c : Nat) : Prop := ∀ κ i, 130 ≤ κ → κ < 256 → c ≤ i → mS μ (hd κ i) = (0, 0)
theorem FC.mono {c c' : Nat} (h : FC μ c) (hc : c ≤ c') : FC μ c' := fun κ i a b e => h κ i a b (by omega)
theorem FC.nx {c c' : Nat} (h : FC μ c) (hc : c ≤ c') (f : FrS own μ μ') (ho : ∀ κ i, own κ i → 130 ≤ κ → i < c') : FC μ' c' := fun κ i a b e => by
  rw [f.S b (fun z => by have := ho κ i z a; omega)]
  exact h κ i a b (by omega)
theorem FC.fr {c κ : Nat} (h : FC μ c) (h1 : 130 ≤ κ) (h2 : κ < 256) : FreN μ (hd κ c) := ⟨h κ c h1 h2 (Nat.le_refl _), hi_hd (by omega) h2⟩
theorem nI_s (n : Nat) : nI n + (1 : Int32) = nI (n + 1) := by rw [I1, nI_add]
theorem ip0 {n : Nat} (h : n < 2 ^ 31) : ¬ nI n < 0 := by
  rw [I0, nI_ltI h (by decide)]; omega
theorem gI_h {κ i k : Nat} (h : 100 ≤ κ) (h' : κ < 256) : gI μ (hd κ i) k = mI μ (hd κ i) k := gI_hi (hi_hd h h')
theorem gR_h {κ i k : Nat} (h : 100 ≤ κ) (h' : κ < 256) : gR μ (hd κ i) k = mR μ (hd κ i) k := gR_hi (hi_hd h h')
end FRT
