/-! the same answers: counts, notices, roads away -/
section SA
variable {d rc rs : Nat} {Q : Option Value → Mu → Prop} {μ μ' : Mu} {T : PT} {D : DT} {C Ct : Nat → List Op} {OO : Nat → Nat → Nat} {Λ : List Ld} {t : Nat → Nat} {c c' c'' : Nat} {e x5 x6 : Int32} {R1 R2 : Nat}
theorem Dy.tr {μ'' : Mu} (g : FrS (Dy c c') μ μ') (h : FrS (Dy c' c'') μ' μ'') (h1 : c ≤ c') (h2 : c' ≤ c'') : FrS (Dy c c'') μ μ'' :=
  (g.mono (fun κ i z => by unfold Dy at z ⊢; omega)).trans (h.mono (fun κ i z => by unfold Dy at z ⊢; omega))
set_option maxRecDepth 100000 in
theorem sam_2 (S : St μ) (Cc : CI μ T C Ct D t 0 e) (R : SR μ T D OO c) (LL : LR μ Λ c) (P : LPd T D Λ) (hI : Inv T D) (hD : 8 ≤ d)
    (kk : ∀ μ' c' rc' rs', c ≤ c' → FrS (Dy c c') μ μ' → R1 ≤ rc' → R2 ≤ rs' → Wx K_SI_isSame d rc' rs' Q 31 [(0, .ref (hd 100 0)), (1, .ref (hd 8 0)), (2, .int 0)] [] μ') :
    ∀ w, w ≤ 13 → ∀ μ' c' rc' rs', c ≤ c' → FrS (Dy c c') μ μ' → (13 - w) * 61 + R1 ≤ rc' → (13 - w) * 1963 + R2 ≤ rs' → Wx K_SI_isSame d rc' rs' Q 2 [(0, .ref (hd 100 0)), (1, .ref (hd 8 0)), (2, .int (nI w))] [] μ' := by
  refine up_loop _ (fun μ' c' rc' rs' h1 g b1 b2 => ?_) (fun w hw ih μ' c' rc' rs' h1 g b1 b2 => ?_)
  · exact r_SI_isSame_2 (by omega) ⟨fun _ => kk μ' c' rc' rs' h1 g (by omega) (by omega), fun h => absurd (Int32.le_refl _) h⟩
  · have S' := g.st (fun κ i z => z.lo) S
    refine r_SI_isSame_2 (by omega) ⟨fun h => absurd ((nI_leI (a := 13) (by decide) (by omega)).mp h) (by omega), fun _ => ⟨0, 0, ⟨Nat.zero_le _, Nat.zero_le _⟩, s_8 S' (by decide), q_count (Cc.dy g) hw (by omega) S' ⟨_, rfl, 61, 1963, ⟨by omega, by omega⟩, (R.dy g h1).1.1, c_SI_counted (R.dy g h1) (LL.fr2 g h1 (fun κ i z => Or.inr z)) P hI hw (by omega) (Nat.le_refl _) (Nat.le_refl _) S' (fun μ2 c2 h2 g2 S2 => ⟨_, rfl, fun _ => ?_, fun h => absurd rfl h⟩)⟩⟩⟩
    rw [nI_s]
    exact ih μ2 c2 _ _ (by omega) (Dy.tr g g2 h1 h2) (by omega) (by omega)
/-- the roads that leave a parish -/
theorem sam_158 {p : Nat} {z3 z4 : Int32} (R : SR μ T D OO c) (hB : DB T D) (hp : p < T 0 0) (hD : 8 ≤ d)
    (kk : Wx K_SI_isSame d rc rs Q 210 [(0, .ref (hd 100 0)), (1, .ref (hd 8 0)), (2, .int (nI p)), (3, .int z3), (4, .int z4), (5, .int (nI (sumN (fun r => bN (D 12 r 0 = p)) (T 2 0)))), (6, .int 0), (7, .ref (hd 119 (D 1 0 0))), (8, .int (nI (D 1 0 0))), (9, .int 0)] [] μ) :
    ∀ r, r ≤ T 2 0 → Wx K_SI_isSame d rc rs Q 158 [(0, .ref (hd 100 0)), (1, .ref (hd 8 0)), (2, .int (nI p)), (3, .int z3), (4, .int z4), (5, .int (nI (sumN (fun r => bN (D 12 r 0 = p)) r))), (6, .int 0), (7, .ref (hd 121 (T 2 0))), (8, .int (nI (T 2 0))), (9, .int (nI r))] [] μ := by
  have hP5 := hB.1.1
  have hR8 := hB.1.2.2.1
  have x11 := R.2.2.2.2.2.2.1
  have x6' := R.2.1
  refine up_loop _ ?_ (fun r hr ih => ?_)
  · exact r_SI_isSame_158 (by omega) ⟨fun _ => ⟨R.1.1, _, x6'.1, _, x6'.2.1, kk⟩, fun h => absurd (Int32.le_refl _) h⟩
  · obtain ⟨y1, y2, y3⟩ := x11.2.2 r hr
    refine r_SI_isSame_158 (by omega) ⟨fun h => absurd ((nI_leI (by omega) (by omega)).mp h) (by omega), fun _ => ⟨_, ⟨x11.2.1, vI hr (by omega)⟩, _, by rw [nI_clamp (by omega)]; exact y1, _, ⟨y2, vI (k := 0) (by decide) (by decide)⟩, ?_⟩⟩
    have e0 : gI μ (hd 115 r) (0 : Int32).toNatClampNeg = nI (D 12 r 0) := y3 0 (by decide)
    have h12 : D 12 r 0 < 2 ^ 31 := by have := (hB.2.2.2 r hr).1; omega
    rw [e0, show ∀ x : Int32, x + 0 = x from Int32.add_zero]
    rw [sumN] at ih
    refine ⟨fun h => ?_, fun h => ?_⟩
    · rw [bN_t ((nI_eq h12 (by omega)).mp h)] at ih
      rw [nI_s, nI_s]; exact ih
    · rw [bN_f (fun w => h ((nI_eq h12 (by omega)).mpr w)), Nat.add_zero] at ih
      rw [nI_s]; exact ih
set_option maxRecDepth 100000 in
/-- what hangs in a parish -/
theorem sam_53 {p : Nat} (S : St μ) (Cc : CI μ T C Ct D t 0 e) (R : SR μ T D OO c) (hI : Inv T D) (hp : p < T 0 0) (hD : 8 ≤ d)
    (kk : ∀ μ' c' rc' rs', c ≤ c' → FrS (Dy c c') μ μ' → R1 ≤ rc' → R2 ≤ rs' → Wx K_SI_isSame d rc' rs' Q 158 [(0, .ref (hd 100 0)), (1, .ref (hd 8 0)), (2, .int (nI p)), (3, .int (nI (tornB D p 1))), (4, .int (nI (tornB D p 2))), (5, .int 0), (6, .int 0), (7, .ref (hd 121 (T 2 0))), (8, .int (nI (T 2 0))), (9, .int 0)] [] μ') :
    ∀ n, n ≤ T 1 0 → ∀ μ' c' rc' rs', c ≤ c' → FrS (Dy c c') μ μ' → (T 1 0 - n) * 2 + R1 ≤ rc' → (T 1 0 - n) * 65 + R2 ≤ rs' → Wx K_SI_isSame d rc' rs' Q 53 [(0, .ref (hd 100 0)), (1, .ref (hd 8 0)), (2, .int (nI p)), (3, .int (nI (sumN (fun n => bN (1 ≤ (shL D p n).length)) n))), (4, .int (nI (sumN (fun n => bN (2 ≤ (shL D p n).length)) n))), (5, .int 0), (6, .int 0), (7, .int (nI n))] [] μ' := by
  have hB := hI.1
  have hP5 := hB.1.1
  have hN6 := hB.1.2.1
  refine up_loop _ (fun μ' c' rc' rs' h1 g b1 b2 => ?_) (fun n hn ih μ' c' rc' rs' h1 g b1 b2 => ?_)
  · have R' := R.dy g h1
    have x11 := R'.2.2.2.2.2.2.1
    refine r_SI_isSame_53 (by omega) ⟨R'.1.1, fun _ => ⟨R'.1.1, _, x11.1, _, x11.2.1, ?_⟩, fun h => ?_⟩
    · rw [← tornB_N hB hp (by decide), ← tornB_N hB hp (by decide)]
      exact kk μ' c' rc' rs' h1 g (by omega) (by omega)
    · rw [R'.1.2.2.2.2.2.2] at h; exact absurd (Int32.le_refl _) h
  · have R' := R.dy g h1
    have S' := g.st (fun κ i z => z.lo) S
    have hl := shL_len D p n
    refine r_SI_isSame_53 (by omega) ⟨R'.1.1, fun h => ?_, fun _ => ⟨2, 65, ⟨by omega, by omega⟩, R'.1.1, c_SI_shows R' hB (by omega) (Nat.le_refl _) (Nat.le_refl _) S' hp hn (fun μ2 f2 s2 r2 => ⟨_, rfl, ?_⟩)⟩⟩
    · rw [R'.1.2.2.2.2.2.2] at h; exact absurd ((nI_leI (by omega) (by omega)).mp h) (by omega)
    have g2 := Dy.tr g f2 h1 (by omega)
    have S2 := g2.st (fun κ i z => z.lo) S
    have C2 := Cc.dy g2
    have z := ih μ2 (c' + 2) (rc' - 2) (rs' - 65) (by omega) g2 (by omega) (by omega)
    rw [sumN, sumN] at z
    have lp : ∀ j, j ≤ (shL D p n).length → Wx K_SI_isSame d (rc' - 2) (rs' - 65) Q 74 [(0, .ref (hd 100 0)), (1, .ref (hd 8 0)), (2, .int (nI p)), (3, .int (nI (sumN (fun n => bN (1 ≤ (shL D p n).length)) n))), (4, .int (nI (sumN (fun n => bN (2 ≤ (shL D p n).length)) n))), (5, .int 0), (6, .int 0), (7, .int (nI n)), (8, .ref (hd 130 (c' + 1))), (9, .int (nI j))] [] μ2 := by
      refine up_loop _ ?_ (fun j hj ih2 => ?_)
      · refine r_SI_isSame_74 (by omega) ⟨_, s2, fun _ => ⟨_, s2, fun h => ⟨_, s2, fun h' => ?_, fun h' => ?_⟩, fun h => ⟨_, s2, fun h' => ?_, fun h' => ?_⟩⟩, fun h => absurd (Int32.le_refl _) h⟩
        all_goals
          have h0 : nI (shL D p n).length ≤ 0 ↔ (shL D p n).length ≤ 0 := nI_leI (b := 0) (by omega) (by decide)
          rw [h0] at h
          rw [le1 (by omega)] at h'
        · rw [bN_f (by omega), bN_f (by omega)] at z
          rw [show ∀ x : Int32, x + 0 = x from Int32.add_zero, show ∀ x : Int32, x + 0 = x from Int32.add_zero, nI_s]; exact z
        · omega
        · rw [bN_t (by omega), bN_f (by omega)] at z
          rw [show ∀ x : Int32, x + 0 = x from Int32.add_zero, nI_s, nI_s]; exact z
        · rw [bN_t (by omega), bN_t (by omega)] at z
          rw [nI_s, nI_s, nI_s]; exact z
      · refine r_SI_isSame_74 (by omega) ⟨_, s2, fun h => absurd ((nI_leI (by omega) (by omega)).mp h) (by omega), fun _ => ⟨0, 0, ⟨Nat.zero_le _, Nat.zero_le _⟩, s_8 S2 (by decide), q_shown C2 hp hn hj (by omega) S2 ⟨_, rfl, _, ⟨s2, vI hj (by omega)⟩, fun _ => ?_, fun h => ?_⟩⟩⟩
        · rw [nI_s]; exact ih2
        · rw [nI_clamp (by omega)] at h
          exact absurd (r2 j hj).symm h
    exact lp 0 (Nat.zero_le _)
end SA
