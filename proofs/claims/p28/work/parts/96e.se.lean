/-! the same answers of all sheets -/
section SE1
variable {d rc rs : Nat} {Q : Option Value → Mu → Prop} {μ μ' : Mu} {T : PT} {D : DT} {C Ct : Nat → List Op} {OO : Nat → Nat → Nat} {Λ : List Ld} {t : Nat → Nat} {c c' c'' : Nat} {e x5 x6 m : Int32} {R1 R2 : Nat}
set_option maxRecDepth 100000 in
theorem sam_388 (S : St μ) (Cc : CI μ T C Ct D t 0 e) (R : SR μ T D OO c) (hI : Inv T D) (hD : 8 ≤ d)
    (kk : Wx K_SI_isSame d rc rs Q 645 [(0, .ref (hd 100 0)), (1, .ref (hd 8 0)), (2, .int (miR T D (D 1 0 0) 0)), (3, .int 1), (4, .int 1)] [] μ) :
    ∀ s, s ≤ D 1 0 0 → Wx K_SI_isSame d rc rs Q 388 [(0, .ref (hd 100 0)), (1, .ref (hd 8 0)), (2, .int (miR T D (D 1 0 0 - s) s)), (3, .int (nI s - 1))] [] μ
  | 0, _ => r_SI_isSame_388 (by omega) ⟨fun _ => kk, fun h => absurd (by decide) h⟩
  | s + 1, hs => by
    have h60 := hI.1.1.2.2.2.2.1
    have e1 : nI (s + 1) - (1 : Int32) = nI s := by rw [show (1 : Int32) = nI 1 from rfl, nI_sub (by omega)]; rfl
    have ih := sam_388 S Cc R hI hD kk s (by omega)
    rw [e1]
    refine r_SI_isSame_388 (by omega) ⟨fun h => absurd h (Int32.not_lt.mpr ((nI_leI (a := 0) (by decide) (by omega)).mpr (Nat.zero_le s))), fun _ => ?_⟩
    refine sam_401 S Cc R hI (by omega) hD (r_SI_isSame_498 (by omega) (sam_502 S Cc R hI (by omega) hD ?_ 0 (Nat.zero_le _))) 0 (Nat.zero_le _)
    obtain ⟨j, hj⟩ : ∃ j, D 1 0 0 - (s + 1) = j := ⟨_, rfl⟩
    rw [show D 1 0 0 - s = j + 1 by omega, miR] at ih
    rw [hj, show nI s + (-1 : Int32) = nI s - 1 from (Int32.sub_eq_add_neg _ _).symm]
    exact ih
end SE1
