/-! the law's checks of parishes -/
section LF
variable {d rc rs : Nat} {Q : Option Value → Mu → Prop} {μ μ' : Mu} {T : PT} {D D' E : DT} {C Ct : Nat → List Op} {OO : Nat → Nat → Nat} {t : Nat → Nat} {L c : Nat} {x e : Int32} {a0 a4 : Nat} {x5 x6 x12 x13 x14 : Int32} {x7 : Int64}
theorem CI.dy {c' : Nat} (h : CI μ T C Ct D t L x) (g : FrS (Dy c c') μ μ') : CI μ' T C Ct D t L x := h.lo (g.lo (fun κ i z => z.lo))
set_option maxRecDepth 100000 in
theorem law_222 (hC : CI μ T C Ct D t L e) (hR : SR μ T D OO c) (hS : St μ) (hI : Inv T D) (h2 : Iv T D) (hD : 9 ≤ d) (h1P : 1 ≤ T 0 0) (hc : 60 ≤ rc) (hs : 1950 ≤ rs)
    (kk : ∀ μ' c' rc' rs', c ≤ c' → FrS (Dy c c') μ μ' → rc ≤ rc' + 60 → rs ≤ rs' + 1950 → Wx K_LW_law d rc' rs' Q 719 [(0, .ref a0), (2, .ref (hd 100 0)), (3, .ref (hd 8 0)), (4, .ref a4), (5, .int x5), (6, .int x6), (7, .long x7), (9, .int (nI (T 0 0))), (10, .int (nI (D 1 0 0))), (12, .int (nI (knownAll T D))), (15, .int 0)] [] μ') :
    Wx K_LW_law d rc rs Q 222 [(0, .ref a0), (2, .ref (hd 100 0)), (3, .ref (hd 8 0)), (4, .ref a4), (5, .int x5), (6, .int x6), (7, .long x7), (9, .int (nI (T 0 0))), (10, .int (nI (D 1 0 0))), (12, .int 0), (13, .int 0), (14, .int 0), (15, .int 0)] [] μ := by
  have hB := hI.1
  have hP5 := hB.1.1
  have hN6 := hB.1.2.1
  have h60 := hB.1.2.2.2.2.1
  obtain ⟨n1, n2, n3, n4⟩ := hI.2.2.1
  have hz : ∀ {a b : Nat}, 0 ≤ a ∧ 0 ≤ b := fun {a b} => ⟨Nat.zero_le _, Nat.zero_le _⟩
  have nub : ∀ p q, p < T 0 0 → q < 5 → D 6 p q ≤ 60 := fun p q hp hq => by
    have := (hB.2.2.1 p hp).1 q hq
    omega
  have w11 : ∀ p, p < T 0 0 → D 11 p 0 ≤ 60 := fun p hp => (hB.2.2.1 p hp).2.2.2.1
  have tb6 : ∀ p l, tornB D p l ≤ 6 := fun p l => by
    have : tornB D p l ≤ 6 * 1 := sumN_le _ (fun _ _ => bN_le)
    omega
  have kb : ∀ p, p < T 0 0 → knownB D p ≤ 60 := fun p hp => by
    have := kn_wait hI h2 hp
    omega
  have hka := known_le hB
  have loop : ∀ p, p ≤ T 0 0 → ∀ μ' c' rc' rs', c ≤ c' → FrS (Dy c c') μ μ' → rc ≤ rc' + 12 * p → rs ≤ rs' + 390 * p → Wx K_LW_law d rc' rs' Q 222 [(0, .ref a0), (2, .ref (hd 100 0)), (3, .ref (hd 8 0)), (4, .ref a4), (5, .int x5), (6, .int x6), (7, .long x7), (9, .int (nI (T 0 0))), (10, .int (nI (D 1 0 0))), (12, .int (nI (sumN (fun b => knownB D b) p))), (13, .int (nI (sumN (fun b => D 11 b 0) p))), (14, .int (nI (sumN (fun b => tornB D b 2) p))), (15, .int (nI p))] [] μ' := by
    refine up_loop _ (fun μ' c' rc' rs' h1 g b1 b2 => ?_) (fun p hp ih μ' c' rc' rs' h1 g b1 b2 => ?_)
    · have S := g.st (fun κ i z => z.lo) hS
      have C' := hC.dy g
      have h8 : mS μ' (hd 8 0) = (1, 0) := s_8 S (by decide)
      have em : meanV T D = FP.ddiv (FP.i2d (nI (knownAll T D))) (FP.i2d (nI (T 0 0))) := by unfold meanV; rw [if_neg (by omega)]
      refine r_LW_law_222 (by omega) ⟨fun _ => ⟨0, 0, hz, h8, q_count (k := 7) C' (by decide) (by omega) S ⟨_, rfl, fun _ => ?_, fun h => absurd rfl h⟩⟩, fun h => absurd (Int32.le_refl _) h⟩
      refine ⟨0, 0, hz, h8, q_count (k := 8) C' (by decide) (by omega) S ⟨_, rfl, fun _ => ?_, fun h => absurd rfl h⟩⟩
      refine ⟨0, 0, hz, h8, c_PB_mean C' (by omega) S ⟨_, rfl, mn_ok (by show knownAll T D < 1520; omega) (by omega) hP5, fun _ => ?_, fun h => absurd ?_ h⟩⟩
      · exact kk μ' c' rc' rs' h1 g (by omega) (by omega)
      · rw [em]
        exact cmp_self (mz_ok (by omega) (by omega) hP5)
    · -- a parish
      have S := g.st (fun κ i z => z.lo) hS
      have C' := hC.dy g
      have h8 : mS μ' (hd 8 0) = (1, 0) := s_8 S (by decide)
      have hkw := kn_wait hI h2 hp
      have l386 : ∀ n, n ≤ T 1 0 → ∀ μ2 c2 rc2 rs2, c ≤ c2 → FrS (Dy c c2) μ μ2 → rc ≤ rc2 + 12 * p + 2 * n → rs ≤ rs2 + 390 * p + 65 * n → Wx K_LW_law d rc2 rs2 Q 386 [(0, .ref a0), (2, .ref (hd 100 0)), (3, .ref (hd 8 0)), (4, .ref a4), (5, .int x5), (6, .int x6), (7, .long x7), (9, .int (nI (T 0 0))), (10, .int (nI (D 1 0 0))), (12, .int (nI (sumN (fun b => knownB D b) (p + 1)))), (13, .int (nI (sumN (fun b => D 11 b 0) (p + 1)))), (14, .int (nI (sumN (fun b => tornB D b 2) (p + 1)))), (15, .int (nI p)), (17, .int (nI n))] [] μ2 := by
        refine up_loop _ (fun μ2 c2 rc2 rs2 h1 g b1 b2 => ?_) (fun n hn ihn μ2 c2 rc2 rs2 h1 g b1 b2 => ?_)
        · have S := g.st (fun κ i z => z.lo) hS
          refine r_LW_law_386 (by omega) ⟨0, 0, hz, s_8 S (by decide), q_count (k := 2) (hC.dy g) (by decide) (by omega) S ⟨_, rfl, fun _ => ?_, fun h => absurd (Int32.le_refl _) h⟩⟩
          rw [nI_s]
          exact ih μ2 c2 rc2 rs2 h1 g (by omega) (by omega)
        · have S := g.st (fun κ i z => z.lo) hS
          have R := hR.dy g h1
          refine r_LW_law_386 (by omega) ⟨0, 0, hz, s_8 S (by decide), q_count (k := 2) (hC.dy g) (by decide) (by omega) S ⟨_, rfl, fun h => absurd ((nI_leI (a := T 1 0) (b := n) (by omega) (by omega)).mp h) (by omega), fun _ => ⟨2, 65, ⟨by show 2 ≤ rc2; omega, by show 65 ≤ rs2; omega⟩, R.1.1, c_SI_shows R hB (by omega) (Nat.le_refl _) (Nat.le_refl _) S hp hn (fun μ3 f3 s3 w3 => ⟨_, rfl, ?_⟩)⟩⟩⟩
          have g3 : FrS (Dy c (c2 + 2)) μ μ3 := (g.mono (fun κ i z => by unfold Dy at z ⊢; omega)).trans (f3.mono (fun κ i z => by unfold Dy at z ⊢; omega))
          have S3 := g3.st (fun κ i z => z.lo) hS
          exact law_409 (rc := rc2 - 2) (rs := rs2 - 65) (hC.dy g3) S3 hI h2 hD hp hn s3 w3 (ihn μ3 (c2 + 2) (rc2 - 2) (rs2 - 65) (by omega) g3 (by omega) (by omega))
      have l235 : ∀ o, o ≤ T 0 0 → Wx K_LW_law d rc' rs' Q 235 [(0, .ref a0), (2, .ref (hd 100 0)), (3, .ref (hd 8 0)), (4, .ref a4), (5, .int x5), (6, .int x6), (7, .long x7), (9, .int (nI (T 0 0))), (10, .int (nI (D 1 0 0))), (12, .int (nI (sumN (fun b => knownB D b) p))), (13, .int (nI (sumN (fun b => D 11 b 0) p))), (14, .int (nI (sumN (fun b => tornB D b 2) p))), (15, .int (nI p)), (16, .int (nI (sumN (fun o => D 6 p o) o))), (17, .int (nI o))] [] μ' := by
        refine up_loop _ ?_ (fun o ho iho => ?_)
        · have ek : sumN (fun o => D 6 p o) (T 0 0) = knownB D p := (hI.2.2.1.known hB hp).symm
          have hk6 := kb p hp
          have hw6 := w11 p hp
          have t2 := tb6 p 2
          have t1 := tb6 p 1
          have ht : tornB D p 2 ≤ tornB D p 1 := sumN_leq _ (fun n _ => by
            by_cases z : 2 ≤ (shL D p n).length
            · rw [bN_t z, bN_t (by omega)]; exact Nat.le_refl _
            · rw [bN_f z]; exact Nat.zero_le _)
          rw [ek]
          refine r_LW_law_235 (by omega) ⟨fun _ => ?_, fun h => absurd (Int32.le_refl _) h⟩
          refine ⟨0, 0, hz, h8, q_parish (k := 0) C' hp (by decide) (by omega) S ⟨_, rfl, fun _ => ?_, fun h => absurd rfl h⟩⟩
          refine ⟨0, 0, hz, h8, q_parish (k := 1) C' hp (by decide) (by omega) S ⟨_, rfl, fun h => ?_, fun _ => ?_⟩⟩
          · rw [show parishN T D p 1 = D 11 p 0 from rfl, nI_add] at h
            exact absurd ((nI_ltI (by omega) (by omega)).mp h) (by omega)
          refine ⟨0, 0, hz, h8, q_parish (k := 3) C' hp (by decide) (by omega) S ⟨_, rfl, ?_⟩⟩
          refine ⟨0, 0, hz, h8, q_parish (k := 2) C' hp (by decide) (by omega) S ⟨_, rfl, fun _ => ?_, fun h => absurd ((nI_leI (a := tornB D p 2) (b := tornB D p 1) (by omega) (by omega)).mpr ht) h⟩⟩
          refine ⟨0, 0, hz, h8, q_parish (k := 1) C' hp (by decide) (by omega) S ⟨_, rfl, ?_⟩⟩
          refine ⟨0, 0, hz, h8, q_parish (k := 3) C' hp (by decide) (by omega) S ⟨_, rfl, ?_⟩⟩
          rw [show parishN T D p 1 = D 11 p 0 from rfl, show parishN T D p 3 = tornB D p 2 from rfl, nI_add, nI_add, nI_add]
          exact l386 0 (Nat.zero_le _) μ' c' rc' rs' h1 g (by omega) (by omega)
        · have q1 := nub p o hp (by omega)
          have q2 := nub o o ho (by omega)
          have q3 := n3 p o hp (by omega)
          have q4 := n4 o ho
          refine r_LW_law_235 (by omega) ⟨fun h => absurd ((nI_leI (by omega) (by omega)).mp h) (by omega), fun _ => ?_⟩
          refine ⟨0, 0, hz, h8, q_knows C' hp ho (by omega) S ⟨_, rfl, ?_⟩⟩
          refine ⟨0, 0, hz, h8, q_knows C' hp ho (by omega) S ⟨_, rfl, ?_⟩⟩
          have nx : Wx K_LW_law d rc' rs' Q 300 [(0, .ref a0), (2, .ref (hd 100 0)), (3, .ref (hd 8 0)), (4, .ref a4), (5, .int x5), (6, .int x6), (7, .long x7), (9, .int (nI (T 0 0))), (10, .int (nI (D 1 0 0))), (12, .int (nI (sumN (fun b => knownB D b) p))), (13, .int (nI (sumN (fun b => D 11 b 0) p))), (14, .int (nI (sumN (fun b => tornB D b 2) p))), (15, .int (nI p)), (16, .int (nI (sumN (fun o => D 6 p o) o) + nI (D 6 p o))), (17, .int (nI o))] [] μ' := by
            refine r_LW_law_300 (by omega) ?_
            rw [nI_add, nI_s]
            exact iho
          refine ⟨0, 0, hz, h8, q_parish (k := 4) C' ho (by decide) (by omega) S ⟨_, rfl, fun h => absurd ((nI_ltI (a := D 6 o o) (b := D 6 p o) (by omega) (by omega)).mp h) (by omega), fun _ => ⟨fun he => ?_, fun _ => nx⟩⟩⟩
          have hpo : p = o := (nI_eq (by omega) (by omega)).mp he
          refine ⟨0, 0, hz, h8, q_knows C' hp ho (by omega) S ⟨_, rfl, ?_⟩⟩
          refine ⟨0, 0, hz, h8, q_parish (k := 4) C' ho (by decide) (by omega) S ⟨_, rfl, fun _ => nx, fun h => absurd ?_ h⟩⟩
          show nI (D 6 p o) = nI (D 6 o o)
          rw [hpo]
      refine r_LW_law_222 (by omega) ⟨fun h => absurd ((nI_leI (by omega) (by omega)).mp h) (by omega), fun _ => ?_⟩
      exact l235 0 (Nat.zero_le _)
  exact loop 0 (Nat.zero_le _) μ c rc rs (Nat.le_refl _) FrS.rf (by omega) (by omega)
end LF
