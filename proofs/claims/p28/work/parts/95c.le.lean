/-! the law's checks: the end of a time -/
section LC
variable {d rc rs : Nat} {Q : Option Value → Mu → Prop} {μ μ' : Mu} {T : PT} {D D' E : DT} {C Ct : Nat → List Op} {t : Nat → Nat} {L : Nat} {x e : Int32} {a0 a4 : Nat} {x5 x6 x12 : Int32} {x7 : Int64}
theorem lg_same {y : Int64} : lg_cmp y y = 0 := (lg_cmp_eq (x := y) (y := y)).mpr rfl
theorem law_end (hC : CI μ T C Ct D t L e) (hS : St μ) (hI : Inv T D) (hD : 9 ≤ d)
    (kk : Wx K_LW_law d rc rs Q 44 [(0, .ref a0), (2, .ref (hd 100 0)), (3, .ref (hd 8 0)), (4, .ref a4), (5, .int (x5 + 1))] [] μ) :
    Wx K_LW_law d rc rs Q 719 [(0, .ref a0), (2, .ref (hd 100 0)), (3, .ref (hd 8 0)), (4, .ref a4), (5, .int x5), (6, .int x6), (7, .long (digV T D L)), (9, .int (nI (T 0 0))), (10, .int (nI (D 1 0 0))), (12, .int (nI (knownAll T D))), (15, .int (nI (D 1 0 0)))] [] μ := by
  have hB := hI.1
  have hP5 := hB.1.1
  have h60 := hB.1.2.2.2.2.1
  have h8 : mS μ (hd 8 0) = (1, 0) := s_8 hS (by decide)
  have hz : ∀ {a b : Nat}, 0 ≤ a ∧ 0 ≤ b := fun {a b} => ⟨Nat.zero_le _, Nat.zero_le _⟩
  have hka := known_le hB
  have hkn : ∀ k, knowersN T D k ≤ T 0 0 := fun k => by
    have : knowersN T D k ≤ T 0 0 * 1 := sumN_le _ (fun _ _ => bN_le)
    omega
  have l1082 : Wx K_LW_law d rc rs Q 1082 [(0, .ref a0), (2, .ref (hd 100 0)), (3, .ref (hd 8 0)), (4, .ref a4), (5, .int x5), (7, .long (digV T D L))] [] μ :=
    r_LW_law_1082 (by omega) ⟨0, 0, hz, h8, c_PB_digest hC (by omega) hS ⟨_, rfl, fun _ => kk, fun h => absurd lg_same h⟩⟩
  have hm : T 0 0 * D 1 0 0 ≤ 5 * 60 := Nat.mul_le_mul hP5 h60
  have neg1 : (-1 : Int32) < 0 := by decide
  have nn1 : ¬ (0 : Int32) ≤ -1 := by decide
  have hall := mi_all hI
  refine r_LW_law_719 (by omega) ⟨fun _ => ⟨0, 0, hz, h8, c_PB_missed hC (by omega) hS ⟨_, rfl, ?_⟩⟩, fun h => absurd (Int32.le_refl _) h⟩
  rcases mi_or (T := T) (D := D) (D 1 0 0) 0 with ⟨m1, m2⟩ | ⟨k, k0, k1, k2, k3, k4⟩
  · have ek : knownAll T D = T 0 0 * D 1 0 0 := hall.mp (fun k hk => m2 k (Nat.zero_le _) (by omega))
    rw [m1]
    refine ⟨fun h => absurd h nn1, fun _ => r_LW_law_1046 (by omega) ⟨fun _ => ⟨fun _ => ⟨fun _ => l1082, fun h => absurd neg1 h⟩, fun h => absurd rfl h⟩, fun h => absurd ?_ h⟩⟩
    rw [nI_mul, ek]
  · have nk : knownAll T D ≠ T 0 0 * D 1 0 0 := fun z => hall.mpr z k (by omega) k2
    rw [k3]
    refine ⟨fun _ => r_LW_law_1046 (by omega) ⟨fun h => ?_, fun _ => ⟨fun _ => ⟨fun h => absurd h (ip0 (by omega)), fun _ => ⟨0, 0, hz, h8, q_sheet (k := 6) hC (by omega) (by decide) (by omega) hS ⟨_, rfl, fun h => ?_, fun _ => l1082⟩⟩⟩, fun h => absurd rfl h⟩⟩, fun h => absurd ?_ h⟩
    · rw [nI_mul] at h
      exact absurd ((nI_eq (by omega) (by omega)).mp h) nk
    · have hk' := hkn k
      have : knowersN T D k = T 0 0 := (nI_eq (by omega) (by omega)).mp h
      omega
    · rw [I0, nI_leI (by decide) (by omega)]; omega
end LC
