/-! the same answers of all parishes -/
section SC
variable {d rc rs : Nat} {Q : Option Value → Mu → Prop} {μ μ' : Mu} {T : PT} {D : DT} {C Ct : Nat → List Op} {OO : Nat → Nat → Nat} {Λ : List Ld} {t : Nat → Nat} {c c' c'' : Nat} {e x5 x6 : Int32} {R1 R2 : Nat}
set_option maxRecDepth 100000 in
theorem sam_31 (S : St μ) (Cc : CI μ T C Ct D t 0 e) (R : SR μ T D OO c) (hI : Inv T D) (hD : 8 ≤ d)
    (kk : ∀ μ' c' rc' rs', c ≤ c' → FrS (Dy c c') μ μ' → R1 ≤ rc' → R2 ≤ rs' → Wx K_SI_isSame d rc' rs' Q 388 [(0, .ref (hd 100 0)), (1, .ref (hd 8 0)), (2, .int (-1)), (3, .int (nI (D 1 0 0) - 1))] [] μ') :
    ∀ p, p ≤ T 0 0 → ∀ μ' c' rc' rs', c ≤ c' → FrS (Dy c c') μ μ' → (T 0 0 - p) * 13 + R1 ≤ rc' → (T 0 0 - p) * 396 + R2 ≤ rs' → Wx K_SI_isSame d rc' rs' Q 31 [(0, .ref (hd 100 0)), (1, .ref (hd 8 0)), (2, .int (nI p))] [] μ' := by
  have hB := hI.1
  have hP5 := hB.1.1
  have hN6 := hB.1.2.1
  refine up_loop _ (fun μ' c' rc' rs' h1 g b1 b2 => ?_) (fun p hp ih μ' c' rc' rs' h1 g b1 b2 => ?_)
  · have R' := R.dy g h1
    have x6' := R'.2.1
    refine r_SI_isSame_31 (by omega) ⟨R'.1.1, fun _ => ⟨R'.1.1, _, x6'.1, _, x6'.2.1, kk μ' c' _ _ h1 g (by omega) (by omega)⟩, fun h => ?_⟩
    rw [R'.1.2.2.2.2.2.1] at h; exact absurd (Int32.le_refl _) h
  · have R' := R.dy g h1
    have S' := g.st (fun κ i z => z.lo) S
    refine r_SI_isSame_31 (by omega) ⟨R'.1.1, fun h => ?_, fun _ => ?_⟩
    · rw [R'.1.2.2.2.2.2.1] at h; exact absurd ((nI_leI (by omega) (by omega)).mp h) (by omega)
    refine sam_53 (R1 := 1 + ((T 0 0 - (p + 1)) * 13 + R1)) (R2 := 6 + ((T 0 0 - (p + 1)) * 396 + R2)) S' (Cc.dy g) R' hI hp hD (fun μ2 c2 rc2 rs2 h2 g2 e1 e2 => ?_) 0 (Nat.zero_le _) μ' c' rc' rs' (Nat.le_refl _) FrS.rf (by omega) (by omega)
    have g3 := Dy.tr g g2 h1 h2
    refine sam_158 (R.dy g3 (by omega)) hB hp hD (sam_210 (R1 := (T 0 0 - (p + 1)) * 13 + R1) (R2 := (T 0 0 - (p + 1)) * 396 + R2) (g3.st (fun κ i z => z.lo) S) (Cc.dy g3) (R.dy g3 (by omega)) hI hp hD e1 e2 (fun μ4 rc4 rs4 g4 e3 e4 => ?_) 0 (Nat.zero_le _)) 0 (Nat.zero_le _)
    exact ih μ4 (c2 + 1) rc4 rs4 (by omega) (Dy.tr g3 g4 (by omega) (by omega)) e3 e4
end SC
