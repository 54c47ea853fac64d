/-! text: a builder is made -/
section TX1
variable {d rc rs : Nat} {Q : Option Value → Mu → Prop} {μ μ' : Mu} {c c' : Nat}
def OwB (c c' κ i : Nat) : Prop := (κ = 105 ∧ i = 0) ∨ Dy c c' κ i
theorem OwB.lo {κ i : Nat} (h : OwB c c' κ i) : 100 ≤ κ := by unfold OwB Dy at h; omega
set_option maxRecDepth 100000 in
theorem c_SB_init (h105 : mS μ (hd 105 0) = (1, 12)) (hf : FC μ c) (hS : St μ) (hD : 2 ≤ d) (hc : 1 ≤ rc) (hs : 16 ≤ rs)
    (hQ : ∀ μ', FrS (OwB c (c + 1)) μ μ' → mS μ' (hd 105 0) = (1, 12) → mS μ' (hd 132 c) = (4, 16) → gR μ' (hd 105 0) 0 = some (hd 132 c) → gI μ' (hd 105 0) 1 = 0 → Q none μ') : Cal K_SB_init_da8c8 d rc rs [.ref (hd 105 0)] μ Q := by
  have fq : FreN μ (hd 132 c) := hf.fr (by decide) (by decide)
  have m0 : mS (mkA μ (hd 132 c) (4, 16)) (hd 105 0) = (1, 12) := (if_neg (hd_ne (by decide) (by decide) (by decide))).trans h105
  have f1 : FrS (OwB c (c + 1)) μ (setI (setR (mkA μ (hd 132 c) (4, 16)) (hd 105 0) 0 (hd 132 c)) (hd 105 0) 1 0) :=
    ((FrS.rf.mk (by decide) (by unfold OwB Dy; omega)).sR (by decide) (by unfold OwB; omega)).sI (by decide) (by unfold OwB; omega)
  have S1 := f1.st (fun κ i z => z.lo) hS
  have q := hQ _ f1 m0 (if_pos rfl) (by rw [gR_h (by decide) (by decide)]; simp only [mR_setI, mR_set, if_pos]; rfl) (by rw [gI_h (by decide) (by decide)]; simp only [mI_set]; rfl)
  exact e_SB_init_da8c8 (r_SB_init_da8c8_0 (by omega) ⟨1, 16, ⟨by omega, by omega⟩, e_AB_init_d00df (r_AB_init_d00df_0 (by omega) ⟨⟨by decide, by decide, by decide, by decide⟩, hd 132 c, fq, ⟨m0, hi_hd (by decide) (by decide)⟩, ⟨m0, hi_hd (by decide) (by decide)⟩, S1, rfl, S1, q⟩)⟩)
end TX1
