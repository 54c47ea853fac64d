section ST1
variable {d rc rs : Nat} {Q : Option Value → Mu → Prop} {μ μ' : Mu} {T : PT} {D D' E : DT} {OO : Nat → Nat → Nat} {c c' c'' : Nat} {Λ : List Ld} {own : Nat → Nat → Prop}
theorem map_get {l : List Ld} {j : Nat} {e : Ld} (h : l[j]? = some e) : (l.map (fun e => e.2.2.2.length)).getD j 0 = e.2.2.2.length := by
  rw [List.getD_eq_getElem?_getD, List.getElem?_map, h]; rfl
set_option maxRecDepth 100000 in
set_option maxHeartbeats 4000000 in
theorem c_SI_counted {w : Nat} (hR : SR μ T D OO c) (hL : LR μ Λ c) (hP : LPd T D Λ) (hI : Inv T D) (hw : w < 13) (hD : 3 ≤ d) (hc : 1 + 60 ≤ rc) (hs : 13 + 1950 ≤ rs) (hS : St μ)
    (hQ : ∀ μ' c', c ≤ c' → FrS (Dy c c') μ μ' → St μ' → Q (some (.int (nI (ctV T D w)))) μ') : Cal K_SI_counted d rc rs [.ref (hd 100 0), .int (nI w)] μ Q := by
  have hB := hI.1
  have hP5 := hB.1.1
  have hN6 := hB.1.2.1
  have h60 := hB.1.2.2.2.2.1
  have hlen := (hP.len hB).2
  obtain ⟨q, q0, q1, q2, q3⟩ := hL
  have hu480 : uwAll T D ≤ 480 := by
    have h1 : ∀ r, r < T 2 0 → uwN D r ≤ 60 := fun r _ => by
      have : uwN D r ≤ D 1 0 0 * 1 := sumN_le _ (fun _ _ => bN_le)
      omega
    have h2 : uwAll T D ≤ T 2 0 * 60 := sumN_le _ h1
    have h3 := hB.1.2.2.1
    have h4 : T 2 0 * 60 ≤ 8 * 60 := Nat.mul_le_mul_right _ h3
    omega
  have hw60 : ∀ b, b < T 0 0 → D 11 b 0 ≤ 60 := fun b hb => (hB.2.2.1 b hb).2.2.2.1
  -- behind the boards
  have last : ∀ μ' c' rc' rs', c ≤ c' → FrS (Dy c c') μ μ' → 1 ≤ rc' → 13 ≤ rs' → Wx K_SI_counted d rc' rs' (fun r μ' => St μ' ∧ Q r μ') 52 [(0, .ref (hd 100 0)), (1, .int (nI w)), (2, .int (nI (uwAll T D))), (3, .int (nI (waitAll T D))), (4, .int (nI (tornAll T D))), (5, .int (nI (T 0 0)))] [] μ' := by
    intro μ' c' rc' rs' h1 g b1 b2
    have R := hR.dy g h1
    have S := g.st (fun κ i z => z.lo) hS
    have fq : FreN μ' (hd 130 c') := R.2.2.2.2.2.2.2.2.2.1.fr (by decide) (by decide)
    have m0 : mS (mkA μ' (hd 130 c') (2, 13)) (hd 100 0) = (1, 11) := (if_neg (hd_ne (by decide) (by decide) (by decide))).trans R.1.1
    have mq : mS (mkA μ' (hd 130 c') (2, 13)) (hd 130 c') = (2, 13) := if_pos rfl
    have v13 : ∀ {k}, k < 13 → vp_in (nI k) 13 := fun h => vI h (by decide)
    obtain ⟨o1, o2, o3, o4, o5, o6, o7⟩ := R.1
    have x6 := R.2.1
    have x11 := R.2.2.2.2.2.2.1
    have x14 := R.2.2.2.2.2.2.2.2.1
    refine r_SI_counted_52 (by omega) ⟨o1, fun _ => ⟨⟨by decide, by decide, b1, b2⟩, hd 130 c', fq, m0, 13, ⟨mq, v13 (k := 0) (by decide), fq.2⟩, m0, 13, ⟨mq, v13 (k := 1) (by decide), fq.2⟩, m0, 13, ⟨mq, v13 (k := 2) (by decide), fq.2⟩, fun μ14 e14 => ?_⟩, fun h => ?_⟩
    · simp only [gs130, gm130, o2, o6, o7] at e14
      have f14 : FrS (Dy c' (c' + 1)) μ' μ14 := by
        rw [e14]
        exact ((((FrS.rf.mk (by decide) (by unfold Dy; omega)).sI (by decide) (by unfold Dy; omega)).sI (by decide) (by unfold Dy; omega)).sI (by decide) (by unfold Dy; omega))
      have n100 : ∀ κ i, κ < 130 → ¬ Dy c' (c' + 1) κ i := fun κ i h z => by unfold Dy at z; omega
      have s0 : mS μ14 (hd 100 0) = (1, 11) := (f14.S (by decide) (n100 _ _ (by decide))).trans o1
      have sq : mS μ14 (hd 130 c') = (2, 13) := by rw [e14]; exact mq
      have gg : ∀ {M : Mu} {k x f}, gR (setI M (hd 130 c') k x) (hd 100 0) f = gR M (hd 100 0) f := fun {M k x f} => by rw [gR_h (by decide) (by decide), mR_setI, ← gR_h (by decide) (by decide)]
      refine ⟨s0, _, (f14.gr (by decide) (n100 _ _ (by decide))).trans x11.1, _, (f14.S (by decide) (n100 _ _ (by decide))).trans x11.2.1, 13, ⟨sq, v13 (k := 3) (by decide), fq.2⟩, s0, _, gg.trans ((f14.gr (by decide) (n100 _ _ (by decide))).trans x14.1), _, (f14.S (by decide) (n100 _ _ (by decide))).trans x14.2.1, 13, ⟨sq, v13 (k := 4) (by decide), fq.2⟩, s0, _, gg.trans (gg.trans ((f14.gr (by decide) (n100 _ _ (by decide))).trans x6.1)), _, (f14.S (by decide) (n100 _ _ (by decide))).trans x6.2.1, 13, ⟨sq, v13 (k := 5) (by decide), fq.2⟩, 13, ⟨sq, v13 (k := 6) (by decide), fq.2⟩, 13, ⟨sq, v13 (k := 7) (by decide), fq.2⟩, 13, ⟨sq, v13 (k := 8) (by decide), fq.2⟩, s0, 13, ⟨sq, v13 (k := 9) (by decide), fq.2⟩, fun μ45 e45 => ?_⟩
      simp only [gs130] at e45
      have i14 : ∀ f, gI μ14 (hd 100 0) f = gI μ' (hd 100 0) f := fun f => f14.gi (by decide) (n100 _ _ (by decide))
      simp only [i14, o3] at e45
      have f45 : FrS (Dy c' (c' + 1)) μ' μ45 := by
        rw [e45]
        exact ((((((f14.sI (by decide) (by unfold Dy; omega)).sI (by decide) (by unfold Dy; omega)).sI (by decide) (by unfold Dy; omega)).sI (by decide) (by unfold Dy; omega)).sI (by decide) (by unfold Dy; omega)).sI (by decide) (by unfold Dy; omega)).sI (by decide) (by unfold Dy; omega)
      have s45 : mS μ45 (hd 100 0) = (1, 11) := (f45.S (by decide) (n100 _ _ (by decide))).trans o1
      have sq45 : mS μ45 (hd 130 c') = (2, 13) := by rw [e45]; exact sq
      have i45 : ∀ f, gI μ45 (hd 100 0) f = gI μ' (hd 100 0) f := fun f => f45.gi (by decide) (n100 _ _ (by decide))
      refine ⟨s45, 13, ⟨sq45, v13 (k := 10) (by decide), fq.2⟩, s45, 13, ⟨sq45, v13 (k := 11) (by decide), fq.2⟩, 13, ⟨sq45, v13 (k := 12) (by decide), fq.2⟩, 13, ⟨sq45, v13 hw⟩, ?_⟩
      simp only [gs130, i45, o4, o5]
      generalize hμ6 : setI (setI (setI μ45 (hd 130 c') (10 : Int32).toNatClampNeg (nI (mergedN D))) (hd 130 c') (11 : Int32).toNatClampNeg (nI (D 3 0 0))) (hd 130 c') (12 : Int32).toNatClampNeg 0 = μ6
      have f6 : FrS (Dy c' (c' + 1)) μ' μ6 := by
        rw [← hμ6]
        exact ((f45.sI (by decide) (by unfold Dy; omega)).sI (by decide) (by unfold Dy; omega)).sI (by decide) (by unfold Dy; omega)
      have g6 : FrS (Dy c (c' + 1)) μ μ6 := (g.mono (fun κ i z => by unfold Dy at z ⊢; omega)).trans (f6.mono (fun κ i z => by unfold Dy at z ⊢; omega))
      have S6 := g6.st (fun κ i z => z.lo) hS
      have ev : gI μ6 (hd 130 c') (nI w).toNatClampNeg = nI (ctV T D w) := by
        rw [nI_clamp (by omega), gI_h (by decide) (by decide), ← hμ6, e45, e14]
        rcases (by omega : w = 0 ∨ w = 1 ∨ w = 2 ∨ w = 3 ∨ w = 4 ∨ w = 5 ∨ w = 6 ∨ w = 7 ∨ w = 8 ∨ w = 9 ∨ w = 10 ∨ w = 11 ∨ w = 12) with rfl | rfl | rfl | rfl | rfl | rfl | rfl | rfl | rfl | rfl | rfl | rfl | rfl <;> (simp only [mI_set]; rfl)
      rw [ev]
      exact ⟨S6, hQ μ6 (c' + 1) (by omega) g6 S6⟩
    · rw [o6] at h; exact absurd (Int32.le_refl _) h
  -- the boards
  have l52 : ∀ p, p ≤ T 0 0 → ∀ μ' c' rc' rs', c ≤ c' → FrS (Dy c c') μ μ' → 1 + 12 * (T 0 0 - p) ≤ rc' → 13 + 390 * (T 0 0 - p) ≤ rs' → Wx K_SI_counted d rc' rs' (fun r μ' => St μ' ∧ Q r μ') 52 [(0, .ref (hd 100 0)), (1, .int (nI w)), (2, .int (nI (uwAll T D))), (3, .int (nI (sumN (fun b => D 11 b 0) p))), (4, .int (nI (sumN (fun b => tornB D b 2) p))), (5, .int (nI p))] [] μ' := by
    refine up_loop _ (fun μ' c' rc' rs' h1 g b1 b2 => last μ' c' rc' rs' h1 g (by omega) (by omega)) (fun p hp ih μ' c' rc' rs' h1 g b1 b2 => ?_)
    have R := hR.dy g h1
    have S := g.st (fun κ i z => z.lo) hS
    have x10 := R.2.2.2.2.2.1
    refine r_SI_counted_52 (by omega) ⟨R.1.1, fun h => ?_, fun _ => ⟨R.1.1, _, x10.1, _, ⟨x10.2.1, vI hp (by omega)⟩, hd 112 p, by rw [nI_clamp (by omega)]; exact (x10.2.2 p hp).1, c_SI_many (P := pWt D p) (by decide) (x10.2.2 p hp).2.1 (x10.2.2 p hp).2.2 (by omega) S ⟨_, rfl, ?_⟩⟩⟩
    · rw [R.1.2.2.2.2.2.1] at h
      exact absurd ((nI_leI (by omega) (by omega)).mp h) (by omega)
    rw [wait_N hI hp, nI_add, I0, Nat.sub_zero, Nat.sub_zero]
    have l77 : ∀ n, n ≤ T 1 0 → ∀ μ' c' rc' rs', c ≤ c' → FrS (Dy c c') μ μ' → 1 + 12 * (T 0 0 - (p + 1)) + 2 * (T 1 0 - n) ≤ rc' → 13 + 390 * (T 0 0 - (p + 1)) + 65 * (T 1 0 - n) ≤ rs' → Wx K_SI_counted d rc' rs' (fun r μ' => St μ' ∧ Q r μ') 77 [(0, .ref (hd 100 0)), (1, .int (nI w)), (2, .int (nI (uwAll T D))), (3, .int (nI (sumN (fun b => D 11 b 0) p + D 11 p 0))), (4, .int (nI (sumN (fun b => tornB D b 2) p + sumN (fun n => bN (2 ≤ (shL D p n).length)) n))), (5, .int (nI p)), (6, .int (nI n))] [] μ' := by
      refine up_loop _ (fun μ' c' rc' rs' h1 g b1 b2 => ?_) (fun n hn ih2 μ' c' rc' rs' h1 g b1 b2 => ?_)
      · have R := hR.dy g h1
        refine r_SI_counted_77 (by omega) ⟨R.1.1, fun _ => ?_, fun h => ?_⟩
        · rw [← tornB_N hB hp (by decide), nI_s]
          exact ih μ' c' rc' rs' h1 g (by omega) (by omega)
        · rw [R.1.2.2.2.2.2.2] at h; exact absurd (Int32.le_refl _) h
      · have R := hR.dy g h1
        have S := g.st (fun κ i z => z.lo) hS
        have hl := shL_len D p n
        refine r_SI_counted_77 (by omega) ⟨R.1.1, fun h => ?_, fun _ => ⟨2, 65, ⟨by omega, by omega⟩, R.1.1, c_SI_shows R hB (by omega) (Nat.le_refl _) (Nat.le_refl _) S hp hn (fun μ2 f2 s2 r2 => ⟨_, rfl, _, s2, ?_⟩)⟩⟩
        · rw [R.1.2.2.2.2.2.2] at h; exact absurd ((nI_leI (by omega) (by omega)).mp h) (by omega)
        · have z := ih2 μ2 (c' + 2) (rc' - 2) (rs' - 65) (by omega) ((g.mono (fun κ i z => by unfold Dy at z ⊢; omega)).trans (f2.mono (fun κ i z => by unfold Dy at z ⊢; omega))) (by omega) (by omega)
          rw [sumN, ← Nat.add_assoc] at z
          rw [le1 (by omega), nI_s, nI_s, show ∀ x : Int32, x + 0 = x from Int32.add_zero]
          refine ⟨fun h => ?_, fun h => ?_⟩
          · rw [bN_f (by omega), Nat.add_zero] at z; exact z
          · rw [bN_t (by omega)] at z; exact z
    have z := l77 0 (Nat.zero_le _) μ' c' rc' rs' h1 g (by omega) (by omega)
    exact z
  -- the loads
  refine e_SI_counted (r_SI_counted_0 (by omega) ⟨hR.1.1, _, q0, _, q2, ?_⟩)
  have l21 : ∀ j, j ≤ Λ.length → Wx K_SI_counted d rc rs (fun r μ' => St μ' ∧ Q r μ') 21 [(0, .ref (hd 100 0)), (1, .int (nI w)), (2, .int (nI (sumN (fun j => ((Λ.map (fun e => e.2.2.2.length)).getD j 0)) j))), (3, .int 0), (4, .int 0), (5, .ref (hd 131 q)), (6, .int (nI Λ.length)), (7, .int (nI j))] [] μ := by
    refine up_loop _ ?_ (fun j hj ih => ?_)
    · refine r_SI_counted_21 (by omega) ⟨fun _ => ?_, fun h => absurd (Int32.le_refl _) h⟩
      rw [under_N hP]
      exact l52 0 (Nat.zero_le _) μ c rc rs (Nat.le_refl _) FrS.rf (by omega) (by omega)
    · have hge : Λ[j]? = some Λ[j] := List.getElem?_eq_getElem hj
      obtain ⟨v1, v2⟩ := q3 j _ hge
      have hks := hP.ksl hB (List.getElem_mem hj)
      refine r_SI_counted_21 (by omega) ⟨fun h => absurd ((nI_leI (by omega) (by omega)).mp h) (by omega), fun _ => ⟨_, ⟨q2, vI hj (by omega)⟩, _, by rw [nI_clamp (by omega)]; exact v1, _, v2.2.1, ?_⟩⟩
      rw [sumN, map_get hge] at ih
      rw [show nI (Λ[j].2.2.2.length + 2) - (2 : Int32) = nI Λ[j].2.2.2.length by rw [show (2 : Int32) = nI 2 from rfl, nI_sub (by omega)]; rfl, nI_add, nI_s]
      exact ih
  exact l21 0 (Nat.zero_le _)
end ST1
