/-! text: builders and strings -/
section TXU
variable {μ μ' : Mu} {own : Nat → Nat → Prop}
def OwV (κ i v c c' κ' i' : Nat) : Prop := (κ' = κ ∧ i' = i) ∨ (κ' = 132 ∧ i' = v) ∨ Dy c c' κ' i'
/-- a builder: its bytes lie at hd 132 v, there is room for n -/
def SbV (μ : Mu) (κ i v n : Nat) (X : List Nat) : Prop := mS μ (hd κ i) = (1, 12) ∧ gI μ (hd κ i) 1 = 0 ∧ gI μ (hd κ i) 3 = nI X.length ∧ gR μ (hd κ i) 0 = some (hd 132 v) ∧ mS μ (hd 132 v) = (4, n) ∧ X.length ≤ n ∧ n ≤ 20000 ∧ (∀ b ∈ X, b < 128) ∧ (∀ k, k < X.length → gI μ (hd 132 v) k = nI (X.getD k 0)) ∧ ∀ k, k < n → ∃ b, b < 128 ∧ gI μ (hd 132 v) k = nI b
def StrR (μ : Mu) (κb ib κa ia : Nat) (Y : List Nat) : Prop := mS μ (hd κb ib) = (1, 15) ∧ gI μ (hd κb ib) 1 = 0 ∧ gR μ (hd κb ib) 0 = some (hd κa ia) ∧ mS μ (hd κa ia) = (4, Y.length) ∧ (∀ b ∈ Y, b < 128) ∧ ∀ k, k < Y.length → gI μ (hd κa ia) k = nI (Y.getD k 0)
def txN (i : Nat) : List Nat := (kTx.getD i []).map (fun x => x.toInt.toNat)
theorem txN_ok : ∀ i, i < 81 → (kTx.getD i []).length = (txN i).length ∧ (∀ b ∈ txN i, b < 128) ∧ ∀ k, k < (txN i).length → (kTx.getD i []).getD k 0 = nI ((txN i).getD k 0) := by decide +kernel
theorem lit_R {i : Nat} (hS : S8 μ) (hi : i < 81) : StrR μ 1 i 2 i (txN i) := by
  obtain ⟨h1, h2, h3⟩ := txN_ok i hi
  refine ⟨s8_1n hS hi, s1_c, s1_r, by rw [s8_2n hS hi, h1], h2, fun k hk => ?_⟩
  rw [s2_g]; exact h3 k hk
theorem StrR.fr {κb ib κa ia : Nat} {Y : List Nat} (h : StrR μ κb ib κa ia Y) (f : FrS own μ μ') (hb : κb < 256) (ha : κa < 256) (ob : ¬ own κb ib) (oa : ¬ own κa ia) : StrR μ' κb ib κa ia Y :=
  ⟨(f.S hb ob).trans h.1, (f.gi hb ob).trans h.2.1, (f.gr hb ob).trans h.2.2.1, (f.S ha oa).trans h.2.2.2.1, h.2.2.2.2.1, fun k hk => (f.gi ha oa).trans (h.2.2.2.2.2 k hk)⟩
theorem SbV.fr {κ i v n : Nat} {X : List Nat} (h : SbV μ κ i v n X) (f : FrS own μ μ') (hκ : κ < 256) (ob : ¬ own κ i) (oa : ¬ own 132 v) : SbV μ' κ i v n X :=
  ⟨(f.S hκ ob).trans h.1, (f.gi hκ ob).trans h.2.1, (f.gi hκ ob).trans h.2.2.1, (f.gr hκ ob).trans h.2.2.2.1, (f.S (by decide) oa).trans h.2.2.2.2.1, h.2.2.2.2.2.1, h.2.2.2.2.2.2.1, h.2.2.2.2.2.2.2.1, fun k hk => (f.gi (by decide) oa).trans (h.2.2.2.2.2.2.2.2.1 k hk), fun k hk => by rw [f.gi (by decide) oa]; exact h.2.2.2.2.2.2.2.2.2 k hk⟩
theorem sh_0 (x : Int32) : x >>> ((0 : Int32) &&& 31) = x := by rw [show ((0 : Int32) &&& 31) = 0 by decide, Int32.shiftRight_zero]
theorem sl_0 (x : Int32) : x <<< ((0 : Int32) &&& 31) = x := by rw [show ((0 : Int32) &&& 31) = 0 by decide, Int32.shiftLeft_zero]
theorem by_f : ∀ b, b < 128 → fits .byte (.int (nI b)) = true ∧ vp_nar .byte (nI b) = nI b ∧ (((nI b &&& (255 : Int32)).toUInt32 % 65536).toInt32) = nI b ∧ narrow .char (.int (nI b)) = .int (nI b) := by decide +kernel
theorem sub_le {m n : Nat} (hm : m < 2 ^ 30) (hn : n < 2 ^ 30) : nI m - nI n ≤ 0 ↔ m ≤ n := by
  rw [Int32.le_iff_toInt_le, Int32.toInt_sub, nI_toInt (by omega), nI_toInt (by omega), Int.bmod_eq_of_le (by omega) (by omega)]
  show (m : Int) - (n : Int) ≤ 0 ↔ m ≤ n
  omega
theorem gD_lt {X : List Nat} {m k : Nat} (h : ∀ b ∈ X, b < m) (hk : k < X.length) : X.getD k 0 < m := by
  rw [List.getD_eq_getElem?_getD, List.getElem?_eq_getElem hk]
  exact h _ (List.getElem_mem hk)
end TXU
section TXV
variable {d rc rs : Nat} {Q : Option Value → Mu → Prop} {μ μ' : Mu} {c κ i v n : Nat} {X Y : List Nat}
theorem OwV.lo {c' κ' i' : Nat} (hκ : 100 ≤ κ) (h : OwV κ i v c c' κ' i') : 100 ≤ κ' := by unfold OwV Dy at h; omega
theorem c_SB_init (hκ : 100 ≤ κ ∧ κ < 256 ∧ κ ≠ 132) (hb : mS μ (hd κ i) = (1, 12)) (h3 : gI μ (hd κ i) 3 = 0) (hf : FreN μ (hd 132 c)) (hS : S8 μ) (hD : 2 ≤ d) (hc : 1 ≤ rc) (hs : 16 ≤ rs)
    (hQ : ∀ μ', FrS (OwV κ i c c (c + 1)) μ μ' → S8 μ' → SbV μ' κ i c 16 [] → Q none μ') : CalS K_SB_init_da8c8 d rc rs [.ref (hd κ i)] μ Q := by
  have hne : κ ≠ 132 := hκ.2.2
  have m0 : mS (mkA μ (hd 132 c) (4, 16)) (hd κ i) = (1, 12) := (if_neg (hd_ne hκ.2.1 (by decide) hne)).trans hb
  have f1 : FrS (OwV κ i c c (c + 1)) μ (setI (setR (mkA μ (hd 132 c) (4, 16)) (hd κ i) 0 (hd 132 c)) (hd κ i) 1 0) :=
    ((FrS.rf.mk (by decide) (by unfold OwV Dy; omega)).sR hκ.2.1 (by unfold OwV; omega)).sI hκ.2.1 (by unfold OwV; omega)
  have S1 := f1.s8 (fun κ i z => z.lo hκ.1) hS
  have ne := hd_ne (i := i) (i' := c) hκ.2.1 (show 132 < 256 by decide) hne
  have e3 : gI (setI (setR (mkA μ (hd 132 c) (4, 16)) (hd κ i) 0 (hd 132 c)) (hd κ i) 1 0) (hd κ i) 3 = 0 := by
    rw [gI_h hκ.1 hκ.2.1] at h3 ⊢
    rw [mI_set, if_neg (by omega)]
    exact (if_neg ne).trans h3
  have q := hQ _ f1 S1 ⟨m0, by rw [gI_h hκ.1 hκ.2.1, mI_set, if_pos ⟨rfl, rfl⟩], e3, by rw [gR_h hκ.1 hκ.2.1, mR_setI, mR_set, if_pos ⟨rfl, rfl⟩], if_pos rfl, Nat.zero_le _, by decide, fun b hb => absurd hb List.not_mem_nil, fun k hk => absurd hk (Nat.not_lt_zero _), fun k hk => ⟨0, by decide, by
    rw [gI_h (by decide) (by decide)]
    simp only [mI_set, mI_setR]
    rw [if_neg (fun z => ne z.1.symm), mI_mk, if_pos rfl]; rfl⟩⟩
  exact z_SB_init_da8c8 (y_SB_init_da8c8_0 (by omega) ⟨1, 16, ⟨by omega, by omega⟩, z_AB_init_d00df (y_AB_init_d00df_0 (by omega) ⟨⟨by decide, by decide, by decide, by decide⟩, hd 132 c, hf, ⟨m0, hi_hd hκ.1 hκ.2.1⟩, ⟨m0, hi_hd hκ.1 hκ.2.1⟩, S1, rfl, S1, q⟩)⟩)
end TXV
