/-! the same answers of all roads, and of all at once -/
section SG1
variable {d rc rs : Nat} {Q : Option Value → Mu → Prop} {μ μ' : Mu} {T : PT} {D : DT} {C Ct : Nat → List Op} {OO : Nat → Nat → Nat} {Λ : List Ld} {t : Nat → Nat} {c c' c'' : Nat} {e x3 m : Int32} {R1 R2 : Nat}
set_option maxRecDepth 100000 in
theorem c_SI_allKnown (hR : SR μ T D OO c) (hI : Inv T D) (hD : 2 ≤ d) (hS : St μ) (hQ : Q (some (.int (nI (knownAll T D)))) μ) : Cal K_SI_allKnown d rc rs [.ref (hd 100 0)] μ Q := by
  have hP5 := hI.1.1.1
  have x8 := hR.2.2.2.1
  refine e_SI_allKnown (r_SI_allKnown_0 (by omega) ⟨hR.1.1, _, x8.1, _, x8.2.1, ?_⟩)
  have lp : ∀ b, b ≤ T 0 0 → Wx K_SI_allKnown d rc rs (fun r μ' => St μ' ∧ Q r μ') 13 [(1, .int (nI (sumN (fun b => knownB D b) b))), (2, .ref (hd 109 0)), (3, .int (nI (T 0 0))), (4, .int (nI b))] [] μ := by
    refine up_loop _ ?_ (fun b hb ih => ?_)
    · exact r_SI_allKnown_13 (by omega) ⟨fun _ => ⟨hS, hQ⟩, fun h => absurd (Int32.le_refl _) h⟩
    · refine r_SI_allKnown_13 (by omega) ⟨fun h => absurd ((nI_leI (by omega) (by omega)).mp h) (by omega), fun _ => ⟨_, ⟨x8.2.1, vI hb (by omega)⟩, hd 110 b, by rw [nI_clamp (by omega)]; exact (x8.2.2 b hb).1, c_SI_many (P := pKn D b) (by decide) (x8.2.2 b hb).2.1 (x8.2.2 b hb).2.2 (by omega) hS ⟨_, rfl, ?_⟩⟩⟩
      rw [sumN] at ih
      rw [known_60 hI hb, nI_add, nI_s]; exact ih
  exact lp 0 (Nat.zero_le _)
set_option maxRecDepth 100000 in
theorem sam_712e (S : St μ) (Cc : CI μ T C Ct D t 0 e) (R : SR μ T D OO c) (hI : Inv T D) (h1P : 1 ≤ T 0 0) (hD : 8 ≤ d) (kk : Q (some (.int 1)) μ) :
    Wx K_SI_isSame d rc rs Q 712 [(0, .ref (hd 100 0)), (1, .ref (hd 8 0)), (2, .int (miR T D (D 1 0 0) 0)), (3, .int (bI (alikeP T D))), (4, .int (nI (T 2 0)))] [] μ := by
  have hz : ∀ {a b : Nat}, 0 ≤ a ∧ 0 ≤ b := fun {a b} => ⟨Nat.zero_le _, Nat.zero_le _⟩
  have hP5 := hI.1.1.1
  have x11 := R.2.2.2.2.2.2.1
  have hk := known_le hI.1
  have s8 : mS μ (hd 8 0) = (1, 0) := s_8 S (by decide)
  have o6 := R.1.2.2.2.2.2.1
  refine r_SI_isSame_712 (by omega) ⟨R.1.1, _, x11.1, _, x11.2.1, fun _ => ⟨0, 0, hz, s8, c_PB_missed Cc (by omega) S ⟨_, rfl, fun _ => ⟨0, 0, hz, s8, c_PB_alike Cc (by omega) S ⟨_, rfl, fun _ => ⟨0, 0, hz, s8, c_PB_mean Cc (by omega) S ⟨_, rfl, R.1.1, fun h => ?_, fun h => ⟨R.1.1, c_SI_allKnown R hI (by omega) S ⟨_, rfl, R.1.1, ?_, ?_⟩⟩⟩⟩, fun h => absurd rfl h⟩⟩, fun h => absurd rfl h⟩⟩, fun h => absurd (Int32.le_refl _) h⟩
  · rw [o6] at h
    have := (nI_eq (b := 0) (by omega) (by decide)).mp h
    omega
  · rw [o6]; exact mn_ok (by omega) (by omega) hP5
  · rw [o6, show meanV T D = FP.ddiv (FP.i2d (nI (knownAll T D))) (FP.i2d (nI (T 0 0))) from if_neg (by omega)]
    exact r_SI_isSame_921 (by omega) ⟨fun _ => r_SI_isSame_930 (by omega) ⟨Or.inr rfl, kk⟩, fun w => absurd (cmp_self (mz_ok (by omega) (by omega) hP5)) w⟩
set_option maxRecDepth 100000 in
theorem sam_712 (S : St μ) (Cc : CI μ T C Ct D t 0 e) (R : SR μ T D OO c) (LL : LR μ Λ c) (P : LPd T D Λ) (hI : Inv T D) (h1P : 1 ≤ T 0 0) (hD : 8 ≤ d)
    (kk : ∀ μ' c', c ≤ c' → FrS (Dy c c') μ μ' → Q (some (.int 1)) μ') :
    ∀ r, r ≤ T 2 0 → ∀ μ' c' rc' rs', c ≤ c' → FrS (Dy c c') μ μ' → (T 2 0 - r) * 1 ≤ rc' → (T 2 0 - r) * 5 ≤ rs' → Wx K_SI_isSame d rc' rs' Q 712 [(0, .ref (hd 100 0)), (1, .ref (hd 8 0)), (2, .int (miR T D (D 1 0 0) 0)), (3, .int (bI (alikeP T D))), (4, .int (nI r))] [] μ' := by
  have hR8 := hI.1.1.2.2.1
  refine up_loop _ (fun μ' c' rc' rs' h1 g b1 b2 => ?_) (fun r hr ih μ' c' rc' rs' h1 g b1 b2 => ?_)
  · exact sam_712e (g.st (fun κ i z => z.lo) S) (Cc.dy g) (R.dy g h1) hI h1P hD (kk μ' c' h1 g)
  · have R' := R.dy g h1
    have x11 := R'.2.2.2.2.2.2.1
    obtain ⟨q, q0, q1⟩ := LL.fr2 g h1 (fun κ i z => Or.inr z)
    refine r_SI_isSame_712 (by omega) ⟨R'.1.1, _, x11.1, _, x11.2.1, fun h => absurd ((nI_leI (by omega) (by omega)).mp h) (by omega), fun _ => ⟨R'.1.1, _, q0, _, q1.2.1, ?_⟩⟩
    exact sam_739 (R1 := (T 2 0 - (r + 1)) * 1) (R2 := (T 2 0 - (r + 1)) * 5) (g.st (fun κ i z => z.lo) S) (Cc.dy g) R' ⟨q0, q1⟩ P hI hr hD (by omega) (by omega) (fun μ2 rc2 rs2 g2 e1 e2 => ih μ2 (c' + 1) rc2 rs2 (by omega) (Dy.tr g g2 h1 (by omega)) e1 e2) 0 (Nat.zero_le _)
end SG1
