/-! nine times -/
def WasR (μ : Mu) (T : PT) (w : Nat) (D : DT) : Prop := mS μ (hd 134 w) = (2, 12) ∧ ∀ k, (k = 5 ∨ k = 9 ∨ k = 10 ∨ k = 11) → ∃ v, gI μ (hd 134 w) k = nI v ∧ v ≤ tallyN T D k
def LSt (μ : Mu) (T : PT) (C Ct : Nat → List Op) (OO : Nat → Nat → Nat) (D : DT) (Λ : List Ld) (c n : Nat) (t : Nat → Nat) (L : Nat) (e : Int32) (w Ls : Nat) : Prop :=
  (St μ ∧ CI μ T C Ct D t L e ∧ SR μ T D OO c ∧ LR μ Λ c ∧ LPd T D Λ) ∧ (NI T C Ct D n ∧ Iv T D ∧ CBd D) ∧ (w < c ∧ WasR μ T w D) ∧ mS μ (hd 6 0) = (2, Ls) ∧ Ls ≤ 260
section LH
variable {d rc rs : Nat} {Q : Option Value → Mu → Prop} {μ μ' : Mu} {T : PT} {D D' E : DT} {C Ct : Nat → List Op} {OO : Nat → Nat → Nat} {Λ : List Ld} {t : Nat → Nat} {L c n w Ls : Nat} {x e : Int32} {x5 x6 : Int32} {own : Nat → Nat → Prop}
theorem c_cell {k : Nat} (hs : mS μ (hd 6 0) = (2, Ls)) (hL : Ls ≤ 260) (hk : k < 1000) (hD : 1 ≤ d) (hS : St μ) (hQ : ∀ y : Int32, Q (some (.int y)) μ) : Cal K_LW_cell d rc rs [.ref (hd 6 0), .int (nI k)] μ Q := by
  refine e_LW_cell (r_LW_cell_0 hD ⟨_, hs, fun _ => ⟨hS, hQ _⟩, fun h => ⟨_, ⟨hs, vI ?_ (by omega)⟩, hS, hQ _⟩⟩)
  rcases Nat.lt_or_ge k Ls with y | y
  · exact y
  · exact absurd ((nI_leI (by omega) (by omega)).mpr y) h
theorem WasR.fr (h : WasR μ T w D) (g : FrS own μ μ') (ho : ¬ own 134 w) (hm : Mono D D') : WasR μ' T w D' :=
  ⟨(g.S (by decide) ho).trans h.1, fun k hk => by
    obtain ⟨v, h1, h2⟩ := h.2 k hk
    exact ⟨v, (g.gi (by decide) ho).trans h1, Nat.le_trans h2 (tally_mono hm hk)⟩⟩
def nvrV (j : Nat) : Nat := if j = 0 then 5 else if j = 1 then 9 else if j = 2 then 10 else 11
set_option maxRecDepth 100000 in
theorem law_72 (h1P : 1 ≤ T 0 0) (h1N : 1 ≤ T 1 0) (h1R : 1 ≤ T 2 0) (hO10 : T 6 0 ≤ 10) (hA : OAll T C Ct OO) (hD : 112 ≤ d) {R1 R2 M : Nat}
    (kk : ∀ μ D Λ c n rc rs, LSt μ T C Ct OO D Λ c n t L e w Ls → n + M ≤ 500 → R1 + pot 11 1 T D ≤ rc → R2 + pot 4880 481 T D ≤ rs → Wx K_LW_law d rc rs Q 44 [(0, .ref (hd 6 0)), (2, .ref (hd 100 0)), (3, .ref (hd 8 0)), (4, .ref (hd 134 w)), (5, .int (x5 + 1))] [] μ) :
    ∀ k, k ≤ 2 → ∀ μ D Λ c n rc rs, LSt μ T C Ct OO D Λ c n t L e w Ls → n + (2 - k) + M ≤ 500 → (2 - k) * 3910 + 61 + R1 + pot 11 1 T D ≤ rc → (2 - k) * 129020 + 1954 + R2 + pot 4880 481 T D ≤ rs → Wx K_LW_law d rc rs Q 72 [(0, .ref (hd 6 0)), (2, .ref (hd 100 0)), (3, .ref (hd 8 0)), (4, .ref (hd 134 w)), (5, .int x5), (6, .int x6), (7, .int (nI k))] [] μ := by
  have hz : ∀ {a b : Nat}, 0 ≤ a ∧ 0 ≤ b := fun {a b} => ⟨Nat.zero_le _, Nat.zero_le _⟩
  refine up_loop _ (fun μ D Λ c n rc rs hL hn b1 b2 => ?_) (fun k hk ih μ D Λ c n rc rs hL hn b1 b2 => ?_)
  · -- asking
    obtain ⟨⟨S, Cc, R, LL, P⟩, ⟨N, i2, cb⟩, ⟨hw, W⟩, hsc, hLs⟩ := hL
    have hI := N.1
    have h8 : mS μ (hd 8 0) = (1, 0) := s_8 S (by decide)
    have fq : FreN μ (hd 130 c) := R.2.2.2.2.2.2.2.2.2.1.fr (by decide) (by decide)
    have m4 : mS (mkA μ (hd 130 c) (2, 4)) (hd 130 c) = (2, 4) := if_pos rfl
    have v4 : ∀ {k}, k < 4 → vp_in (nI k) 4 := fun h => vI h (by decide)
    refine r_LW_law_72 (by omega) ⟨fun _ => ?_, fun h => absurd (Int32.le_refl _) h⟩
    refine ⟨0, 0, hz, h8, c_PB_digest Cc (by omega) S ⟨_, rfl, ?_⟩⟩
    refine ⟨0, 0, hz, h8, q_count (k := 1) Cc (by decide) (by omega) S ⟨_, rfl, ?_⟩⟩
    refine ⟨0, 0, hz, h8, q_count (k := 5) Cc (by decide) (by omega) S ⟨_, rfl, ?_⟩⟩
    refine ⟨⟨by decide, by decide, by show 1 ≤ rc; omega, by show 4 ≤ rs; omega⟩, hd 130 c, fq, 4, ⟨m4, v4 (k := 0) (by decide), fq.2⟩, 4, ⟨m4, v4 (k := 1) (by decide), fq.2⟩, 4, ⟨m4, v4 (k := 2) (by decide), fq.2⟩, 4, ⟨m4, v4 (k := 3) (by decide), fq.2⟩, 4, m4, ?_⟩
    generalize hμ1 : setI (setI (setI (setI (mkA μ (hd 130 c) (2, 4)) (hd 130 c) (0 : Int32).toNatClampNeg 5) (hd 130 c) (1 : Int32).toNatClampNeg 9) (hd 130 c) (2 : Int32).toNatClampNeg 10) (hd 130 c) (3 : Int32).toNatClampNeg 11 = μ1
    have f1 : FrS (Dy c (c + 1)) μ μ1 := by
      rw [← hμ1]
      exact ((((FrS.rf.mk (by decide) (by unfold Dy; omega)).sI (by decide) (by unfold Dy; omega)).sI (by decide) (by unfold Dy; omega)).sI (by decide) (by unfold Dy; omega)).sI (by decide) (by unfold Dy; omega)
    have s1 : mS μ1 (hd 130 c) = (2, 4) := by rw [← hμ1]; exact m4
    have g1 : ∀ j, j < 4 → gI μ1 (hd 130 c) j = nI (nvrV j) := fun j hj => by
      rw [gI_h (by decide) (by decide), ← hμ1]
      rcases (by omega : j = 0 ∨ j = 1 ∨ j = 2 ∨ j = 3) with rfl | rfl | rfl | rfl <;> (simp only [mI_set]; rfl)
    have W1 : WasR μ1 T w D := W.fr f1 (by unfold Dy; omega) Mono.rf
    have hneq : hd 134 w ≠ hd 130 c := hd_ne (by decide) (by decide) (by decide)
    -- behind the asking
    have fin : ∀ μ2, FrS (fun κ i => κ = 134 ∧ i = w) μ1 μ2 → WasR μ2 T w D → Wx K_LW_law d (rc - 1) (rs - 4) Q 222 [(0, .ref (hd 6 0)), (2, .ref (hd 100 0)), (3, .ref (hd 8 0)), (4, .ref (hd 134 w)), (5, .int x5), (6, .int x6), (7, .long (digV T D L)), (9, .int (nI (T 0 0))), (10, .int (nI (D 1 0 0))), (12, .int 0), (13, .int 0), (14, .int 0), (15, .int 0)] [] μ2 := fun μ2 f2 W2 => by
      have g2 : FrS (fun κ i => 130 ≤ κ ∧ i < c + 1) μ μ2 := (f1.mono (fun κ i z => by unfold Dy at z; omega)).trans (f2.mono (fun κ i z => by omega))
      have S2 : St μ2 := g2.st (fun κ i z => by omega) S
      have C2 : CI μ2 T C Ct D t L e := Cc.lo (g2.lo (fun κ i z => by omega))
      have f2' : FrS (Dy w (w + 1)) μ1 μ2 := f2.mono (fun κ i z => by unfold Dy; omega)
      have R1' := R.dy f1 (by omega)
      have e0 : ∀ κ i, κ < 130 → ¬ (κ = 134 ∧ i = w) := fun κ i h z => by omega
      have R2 : SR μ2 T D OO (c + 1) := by
        obtain ⟨⟨o1, o2, o3, o4, o5, o6, o7⟩, y6, y7, y8, y9, y10, y11, y12, y14, yf⟩ := R1'
        have e : ∀ f, gR μ2 (hd 100 0) f = gR μ1 (hd 100 0) f := fun f => f2.gr (by decide) (e0 _ _ (by decide))
        have ei : ∀ f, gI μ2 (hd 100 0) f = gI μ1 (hd 100 0) f := fun f => f2.gi (by decide) (e0 _ _ (by decide))
        exact ⟨⟨(f2.S (by decide) (e0 _ _ (by decide))).trans o1, (ei _).trans o2, (ei _).trans o3, (ei _).trans o4, (ei _).trans o5, (ei _).trans o6, (ei _).trans o7⟩,
          y6.fr f2 (e _) (by decide) (by decide) (e0 _ _ (by decide)) (fun k _ => e0 _ _ (by decide)), y7.fr f2 (e _) (by decide) (e0 _ _ (by decide)) (fun k _ => e0 _ _ (by decide)),
          y8.fr f2 (e _) (by decide) (e0 _ _ (by decide)) (fun k _ => e0 _ _ (by decide)), y9.fr f2 (e _) (by decide) (e0 _ _ (by decide)) (fun k _ => e0 _ _ (by decide)), y10.fr f2 (e _) (by decide) (e0 _ _ (by decide)) (fun k _ => e0 _ _ (by decide)),
          y11.fr f2 (e _) (by decide) (by decide) (e0 _ _ (by decide)) (fun k _ => e0 _ _ (by decide)), y12.fr f2 (e _) (by decide) (e0 _ _ (by decide)) (fun k _ => e0 _ _ (by decide)), y14.fr f2 (e _) (by decide) (by decide) (e0 _ _ (by decide)) (fun k _ => e0 _ _ (by decide)),
          yf.fr f2 (Nat.le_refl _) (fun κ i a b => by omega) (fun k _ => ⟨e0 _ _ (by decide), e0 _ _ (by decide)⟩) (fun k _ => e0 _ _ (by decide))⟩
      have L2 : LR μ2 Λ (c + 1) := by
        obtain ⟨q, q0, q1⟩ := LL.fr2 f1 (show c ≤ c + 1 by omega) (fun κ i z => Or.inr z)
        exact ⟨q, (f2.gr (by decide) (by omega)).trans q0, q1.fr f2 (Nat.le_refl _) (fun i hi z => by omega) (fun i hi z => by omega)⟩
      have sc2 : mS μ2 (hd 6 0) = (2, Ls) := (g2.S (by decide) (by omega)).trans hsc
      refine law_222 (C := C) (Ct := Ct) (t := t) (L := L) (e := e) C2 R2 S2 N.1 i2 (by omega) h1P (by omega) (by omega) (fun μ3 c3 rc3 rs3 z1 z2 z3 z4 => ?_)
      have S3 := z2.st (fun κ i z => z.lo) S2
      have C3 := C2.dy z2
      refine law_719 C3 S3 hI i2 (by omega) h1P (law_end C3 S3 hI (by omega) ?_)
      refine kk μ3 D Λ c3 n rc3 rs3 ⟨⟨S3, C3, R2.dy z2 z1, L2.fr2 z2 z1 (fun κ i z => Or.inr z), P⟩, ⟨N, i2, cb⟩, ⟨by omega, W2.fr z2 (by unfold Dy; omega) Mono.rf⟩, (z2.S (by decide) (by unfold Dy; omega)).trans sc2, hLs⟩ (by omega) (by omega) (by omega)
    have l163 : ∀ j, j ≤ 4 → ∀ μ2, FrS (fun κ i => κ = 134 ∧ i = w) μ1 μ2 → WasR μ2 T w D → Wx K_LW_law d (rc - 1) (rs - 4) Q 163 [(0, .ref (hd 6 0)), (2, .ref (hd 100 0)), (3, .ref (hd 8 0)), (4, .ref (hd 134 w)), (5, .int x5), (6, .int x6), (7, .long (digV T D L)), (9, .int (nI (T 0 0))), (10, .int (nI (D 1 0 0))), (12, .ref (hd 130 c)), (13, .int (nI 4)), (14, .int (nI j))] [] μ2 := by
      refine up_loop _ (fun μ2 f2 W2 => ?_) (fun j hj ih2 μ2 f2 W2 => ?_)
      · exact r_LW_law_163 (by omega) ⟨fun _ => fin μ2 f2 W2, fun h => absurd (Int32.le_refl _) h⟩
      · have g2 : FrS (fun κ i => 130 ≤ κ ∧ i < c + 1) μ μ2 := (f1.mono (fun κ i z => by unfold Dy at z; omega)).trans (f2.mono (fun κ i z => by omega))
        have S2 : St μ2 := g2.st (fun κ i z => by omega) S
        have C2 : CI μ2 T C Ct D t L e := Cc.lo (g2.lo (fun κ i z => by omega))
        have h82 : mS μ2 (hd 8 0) = (1, 0) := s_8 S2 (by decide)
        have hv : nvrV j = 5 ∨ nvrV j = 9 ∨ nvrV j = 10 ∨ nvrV j = 11 := by
          rcases (by omega : j = 0 ∨ j = 1 ∨ j = 2 ∨ j = 3) with rfl | rfl | rfl | rfl <;> decide
        have ev : gI μ2 (hd 130 c) (nI j).toNatClampNeg = nI (nvrV j) := by rw [nI_clamp (by omega), f2.gi (by decide) (by omega)]; exact g1 j hj
        have tl := tally_lt cb N hv
        obtain ⟨v, v1, v2⟩ := W2.2 _ hv
        have hne12 : nvrV j ≠ 12 := by omega
        refine r_LW_law_163 (by omega) ⟨fun h => absurd ((nI_leI (by decide) (by omega)).mp h) (by omega), fun _ => ⟨4, ⟨(f2.S (by decide) (by omega)).trans s1, v4 hj⟩, 0, 0, hz, h82, ?_⟩⟩
        rw [ev, nI_clamp (show nvrV j < 2 ^ 31 by omega)]
        refine q_count (k := nvrV j) C2 (by omega) (by omega) S2 ⟨_, rfl, 12, ⟨W2.1, vI (by omega) (by decide)⟩, fun _ => ?_, fun h => ?_⟩
        · refine ⟨0, 0, hz, h82, q_count (k := nvrV j) C2 (by omega) (by omega) S2 ⟨_, rfl, 12, ⟨W2.1, vI (by omega) (by decide), hi_hd (by decide) (by decide)⟩, ?_⟩⟩
          rw [if_neg hne12, nI_s]
          refine ih2 _ (f2.sI (by decide) ⟨rfl, rfl⟩) ⟨W2.1, fun k hk => ?_⟩
          by_cases y : k = nvrV j
          · exact ⟨tallyN T D k, by rw [gI_h (by decide) (by decide), y, rd_eq], Nat.le_refl _⟩
          · obtain ⟨v', v1', v2'⟩ := W2.2 k hk
            exact ⟨v', by rw [gI_h (by decide) (by decide), rd_k y, ← gI_h (by decide) (by decide)]; exact v1', v2'⟩
        · rw [v1, if_neg hne12] at h
          exact absurd ((nI_leI (by omega) tl).mpr v2) h
    exact l163 0 (Nat.zero_le _) μ1 FrS.rf W1
  · -- acting
    obtain ⟨⟨S, Cc, R, LL, P⟩, ⟨N, i2, cb⟩, ⟨hw, W⟩, hsc, hLs⟩ := hL
    generalize hx : (x6 >>> (((3 : Int32) * nI k) &&& 31)) + ((29 : Int32) * nI k) = xx
    obtain ⟨a1, a2, a3, ⟨a4, a5⟩, a6⟩ := act_inv (x := xx) N i2 h1P h1N h1R
    have hm : Mono D (actD T C Ct D xx) := act_mono
    refine r_LW_law_72 (by omega) ⟨fun h => absurd ((nI_leI (a := 2) (b := k) (by decide) (by omega)).mp h) (by omega), fun _ => ?_⟩
    rw [hx]
    refine ⟨3910 + pot 11 1 T D - pot 11 1 T (actD T C Ct D xx), 129020 + pot 4880 481 T D - pot 4880 481 T (actD T C Ct D xx), ⟨?_, ?_⟩, c_act Cc R LL P N i2 hA h1P h1N h1R hO10 S (by omega) (by omega) (by omega) (fun μ2 c2 Λ2 y1 y2 y3 y4 y5 y6 y7 => ⟨_, rfl, fun h => absurd h (by decide), fun _ => ?_⟩)⟩
    · have : 1 ≤ 2 - k := by omega
      have := Nat.mul_le_mul_right 3910 this
      omega
    · have : 1 ≤ 2 - k := by omega
      have := Nat.mul_le_mul_right 129020 this
      omega
    · rw [nI_s]
      have n6 : ¬ OwA2 c c2 6 0 := fun z => by unfold OwA2 OwC8 OwH Dy at z; omega
      have nw : ¬ OwA2 c c2 134 w := fun z => by unfold OwA2 OwC8 OwH Dy at z; omega
      have hk2 : 2 - k = (2 - (k + 1)) + 1 := by omega
      rw [hk2, Nat.succ_mul] at b1 b2
      obtain ⟨A1, hA1⟩ : ∃ A, (2 - (k + 1)) * 3910 = A := ⟨_, rfl⟩
      obtain ⟨A2, hA2⟩ : ∃ A, (2 - (k + 1)) * 129020 = A := ⟨_, rfl⟩
      rw [hA1] at b1
      rw [hA2] at b2
      exact ih μ2 (actD T C Ct D xx) Λ2 c2 (n + 1) _ _ ⟨⟨y3, y4, y5, y6, y7⟩, ⟨N.tick a1 (by omega) (by omega), a2, cb.act N⟩, ⟨by omega, W.fr y2 nw hm⟩, (y2.S (by decide) n6).trans hsc, hLs⟩ (by omega) (by rw [hA1]; omega) (by rw [hA2]; omega)
end LH
