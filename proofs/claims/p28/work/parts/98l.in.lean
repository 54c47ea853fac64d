/-! the law's boards are made -/
def OwI9 (c κ i : Nat) : Prop := (κ = 100 ∧ i = 0) ∨ (κ = 119 ∧ i = 0) ∨ (κ = 109 ∧ i = 4) ∨ (κ = 121 ∧ i = 0) ∨ (κ = 124 ∧ i = 0) ∨ Dy c (c + 1) κ i
section MKS
variable {d rc rs : Nat} {Q : Option Value → Mu → Prop} {μ μ' : Mu} {own : Nat → Nat → Prop} {P N c k x : Nat}
set_option maxRecDepth 100000 in
set_option maxHeartbeats 4000000 in
theorem c_SI_init (h0 : mS μ (hd 100 0) = (1, 11)) (f119 : mS μ (hd 119 0) = (0, 0)) (f109 : mS μ (hd 109 4) = (0, 0)) (f121 : mS μ (hd 121 0) = (0, 0)) (f124 : mS μ (hd 124 0) = (0, 0)) (hf : FC μ c) (hS : S8 μ) (hD : 1 ≤ d) (hc : 5 ≤ rc) (hs : 60 ≤ rs)
    (hQ : ∀ μ', FrS (OwI9 c) μ μ' → S8 μ' → mS μ' (hd 100 0) = (1, 11) → (∀ k, gI μ' (hd 100 0) k = gI μ (hd 100 0) k) → (gR μ' (hd 100 0) 6 = some (hd 119 0) ∧ gR μ' (hd 100 0) 7 = some (hd 109 4) ∧ gR μ' (hd 100 0) 11 = some (hd 121 0) ∧ gR μ' (hd 100 0) 13 = some (hd 131 c) ∧ gR μ' (hd 100 0) 14 = some (hd 124 0)) → (mS μ' (hd 119 0) = (40, 0) ∧ mS μ' (hd 109 4) = (41, 60) ∧ mS μ' (hd 121 0) = (40, 0) ∧ mS μ' (hd 131 c) = (40, 0) ∧ mS μ' (hd 124 0) = (40, 0)) → Q none μ') : CalS K_SI_init d rc rs [.ref (hd 100 0)] μ Q := by
  have f131 : mS μ (hd 131 c) = (0, 0) := (hf.fr (κ := 131) (by decide) (by decide)).1
  have hh : ∀ {κ i : Nat}, 100 ≤ κ → κ < 256 → hiN (hd κ i) := fun a b => hi_hd a b
  generalize hμ1 : setR (mkA (setR (mkA (setR (mkA (setR (mkA (setR (mkA μ (hd 119 0) (40, 0)) (hd 100 0) 6 (hd 119 0)) (hd 109 4) (41, 60)) (hd 100 0) 7 (hd 109 4)) (hd 121 0) (40, 0)) (hd 100 0) 11 (hd 121 0)) (hd 131 c) (40, 0)) (hd 100 0) 13 (hd 131 c)) (hd 124 0) (40, 0)) (hd 100 0) 14 (hd 124 0) = μ1
  have f1 : FrS (OwI9 c) μ μ1 := by
    rw [← hμ1]
    exact (((((((((FrS.rf.mk (by decide) (by unfold OwI9; omega)).sR (by decide) (by unfold OwI9; omega)).mk (by decide) (by unfold OwI9; omega)).sR (by decide) (by unfold OwI9; omega)).mk (by decide) (by unfold OwI9; omega)).sR (by decide) (by unfold OwI9; omega)).mk (by decide) (by unfold OwI9 Dy; omega)).sR (by decide) (by unfold OwI9; omega)).mk (by decide) (by unfold OwI9; omega)).sR (by decide) (by unfold OwI9; omega)
  have S1 := f1.s8 (fun κ i z => by unfold OwI9 Dy at z; omega) hS
  have s0 : mS μ1 (hd 100 0) = (1, 11) := by rw [← hμ1]; simp (disch := first | decide | omega) only [gI_h, gR_h, mI_set, mI_setR, mI_mk, mI_cl, mR_set, mR_setI, mR_mk, mR_cl, mS_sI, mS_sR, mS_mk, mS_cl, hd_inj, false_and, and_false, true_and, and_true, if_true, if_false, and_self, reduceIte, Nat.reduceEqDiff, reduceCtorEq]; exact h0
  have q := hQ μ1 f1 S1 s0 (fun k => by rw [← hμ1]; simp (disch := first | decide | omega) only [gI_h, gR_h, mI_set, mI_setR, mI_mk, mI_cl, mR_set, mR_setI, mR_mk, mR_cl, mS_sI, mS_sR, mS_mk, mS_cl, hd_inj, false_and, and_false, true_and, and_true, if_true, if_false, and_self, reduceIte, Nat.reduceEqDiff, reduceCtorEq]) (by rw [← hμ1]; refine ⟨?_, ?_, ?_, ?_, ?_⟩ <;> simp (disch := first | decide | omega) only [gI_h, gR_h, mI_set, mI_setR, mI_mk, mI_cl, mR_set, mR_setI, mR_mk, mR_cl, mS_sI, mS_sR, mS_mk, mS_cl, hd_inj, false_and, and_false, true_and, and_true, if_true, if_false, and_self, reduceIte, Nat.reduceEqDiff, reduceCtorEq]) (by rw [← hμ1]; refine ⟨?_, ?_, ?_, ?_, ?_⟩ <;> simp (disch := first | decide | omega) only [gI_h, gR_h, mI_set, mI_setR, mI_mk, mI_cl, mR_set, mR_setI, mR_mk, mR_cl, mS_sI, mS_sR, mS_mk, mS_cl, hd_inj, false_and, and_false, true_and, and_true, if_true, if_false, and_self, reduceIte, Nat.reduceEqDiff, reduceCtorEq])
  refine z_SI_init (y_SI_init_0 hD ⟨⟨by decide, by decide, by omega, by omega⟩, hd 119 0, ⟨f119, hh (by decide) (by decide)⟩, ⟨by simp (disch := first | decide | omega) only [gI_h, gR_h, mI_set, mI_setR, mI_mk, mI_cl, mR_set, mR_setI, mR_mk, mR_cl, mS_sI, mS_sR, mS_mk, mS_cl, hd_inj, false_and, and_false, true_and, and_true, if_true, if_false, and_self, reduceIte, Nat.reduceEqDiff, reduceCtorEq]; exact h0, hh (by decide) (by decide)⟩, ⟨by decide, by decide, by omega, by omega⟩, hd 109 4, ⟨by simp (disch := first | decide | omega) only [gI_h, gR_h, mI_set, mI_setR, mI_mk, mI_cl, mR_set, mR_setI, mR_mk, mR_cl, mS_sI, mS_sR, mS_mk, mS_cl, hd_inj, false_and, and_false, true_and, and_true, if_true, if_false, and_self, reduceIte, Nat.reduceEqDiff, reduceCtorEq]; exact f109, hh (by decide) (by decide)⟩, ⟨by simp (disch := first | decide | omega) only [gI_h, gR_h, mI_set, mI_setR, mI_mk, mI_cl, mR_set, mR_setI, mR_mk, mR_cl, mS_sI, mS_sR, mS_mk, mS_cl, hd_inj, false_and, and_false, true_and, and_true, if_true, if_false, and_self, reduceIte, Nat.reduceEqDiff, reduceCtorEq]; exact h0, hh (by decide) (by decide)⟩, ⟨by decide, by decide, by omega, by omega⟩, hd 121 0, ⟨by simp (disch := first | decide | omega) only [gI_h, gR_h, mI_set, mI_setR, mI_mk, mI_cl, mR_set, mR_setI, mR_mk, mR_cl, mS_sI, mS_sR, mS_mk, mS_cl, hd_inj, false_and, and_false, true_and, and_true, if_true, if_false, and_self, reduceIte, Nat.reduceEqDiff, reduceCtorEq]; exact f121, hh (by decide) (by decide)⟩, ⟨by simp (disch := first | decide | omega) only [gI_h, gR_h, mI_set, mI_setR, mI_mk, mI_cl, mR_set, mR_setI, mR_mk, mR_cl, mS_sI, mS_sR, mS_mk, mS_cl, hd_inj, false_and, and_false, true_and, and_true, if_true, if_false, and_self, reduceIte, Nat.reduceEqDiff, reduceCtorEq]; exact h0, hh (by decide) (by decide)⟩, ⟨by decide, by decide, by omega, by omega⟩, hd 131 c, ⟨by simp (disch := first | decide | omega) only [gI_h, gR_h, mI_set, mI_setR, mI_mk, mI_cl, mR_set, mR_setI, mR_mk, mR_cl, mS_sI, mS_sR, mS_mk, mS_cl, hd_inj, false_and, and_false, true_and, and_true, if_true, if_false, and_self, reduceIte, Nat.reduceEqDiff, reduceCtorEq]; exact f131, hh (by decide) (by decide)⟩, ⟨by simp (disch := first | decide | omega) only [gI_h, gR_h, mI_set, mI_setR, mI_mk, mI_cl, mR_set, mR_setI, mR_mk, mR_cl, mS_sI, mS_sR, mS_mk, mS_cl, hd_inj, false_and, and_false, true_and, and_true, if_true, if_false, and_self, reduceIte, Nat.reduceEqDiff, reduceCtorEq]; exact h0, hh (by decide) (by decide)⟩, ⟨by decide, by decide, by omega, by omega⟩, hd 124 0, ⟨by simp (disch := first | decide | omega) only [gI_h, gR_h, mI_set, mI_setR, mI_mk, mI_cl, mR_set, mR_setI, mR_mk, mR_cl, mS_sI, mS_sR, mS_mk, mS_cl, hd_inj, false_and, and_false, true_and, and_true, if_true, if_false, and_self, reduceIte, Nat.reduceEqDiff, reduceCtorEq]; exact f124, hh (by decide) (by decide)⟩, ⟨by simp (disch := first | decide | omega) only [gI_h, gR_h, mI_set, mI_setR, mI_mk, mI_cl, mR_set, mR_setI, mR_mk, mR_cl, mS_sI, mS_sR, mS_mk, mS_cl, hd_inj, false_and, and_false, true_and, and_true, if_true, if_false, and_self, reduceIte, Nat.reduceEqDiff, reduceCtorEq]; exact h0, hh (by decide) (by decide)⟩, ?_⟩)
  rw [hμ1]
  exact ⟨S1, q⟩
theorem mM_o {a κ : Nat} : mS (mkM μ a κ P k) a = (41, P) := if_pos rfl
theorem mM_r {a κ i : Nat} (h : κ < 256) (hi : i < P) (hne : hd κ i ≠ a) : mS (mkM μ a κ P k) (hd κ i) = (5, k) := (if_neg hne).trans (if_pos ((isRow_hd h).mpr hi))
theorem mM_R {a κ j : Nat} (hj : j < P) : mR (mkM μ a κ P k) a j = some (hd κ j) := (if_pos rfl).trans (if_pos hj)
theorem mM_I {a κ i j : Nat} (h : κ < 256) (hi : i < P) (hne : hd κ i ≠ a) : mI (mkM μ a κ P k) (hd κ i) j = 0 := (if_neg hne).trans (if_pos ((isRow_hd h).mpr hi))
/-- rows of the parishes (or roads), all empty -/
theorem mM_Bx {o κ κ2 : Nat} (hκ : 110 ≤ κ ∧ κ < 130) (h0 : gR μ' (hd 100 0) κ2 = some (hd 109 o)) (g : FrS own (mkM μ (hd 109 o) κ P 60) μ') (hno : ¬ own 109 o) (hnr : ∀ i, ¬ own κ i) : BxR μ' κ2 o κ P P noP := by
  have ne : ∀ i, hd κ i ≠ hd 109 o := fun i => hd_ne (by omega) (by decide) (by omega)
  have b1 : hiN (hd 109 o) := hi_hd (by decide) (by decide)
  refine ⟨h0, (g.S (by decide) hno).trans mM_o, fun p hp => ⟨?_, (g.S (by omega) (hnr p)).trans (mM_r (by omega) hp (ne p)), fun k hk => ?_⟩⟩
  · rw [g.gr (by decide) hno, gR_hi b1]; exact mM_R hp
  · rw [g.gi (by omega) (hnr p), gI_hi (hi_hd (by omega) (by omega)), mM_I (by omega) hp (ne p), bI_f (fun z => z)]
def OwG9 (κ i : Nat) : Prop := (κ = 100 ∧ i = 0) ∨ (κ = 109 ∧ i < 3) ∨ κ = 110 ∨ κ = 111 ∨ κ = 112
set_option maxRecDepth 100000 in
set_option maxHeartbeats 4000000 in
theorem c_SI_begin (h0 : mS μ (hd 100 0) = (1, 11)) (fo : ∀ i, i < 3 → mS μ (hd 109 i) = (0, 0)) (f0 : ∀ i, mS μ (hd 110 i) = (0, 0)) (f1 : ∀ i, mS μ (hd 111 i) = (0, 0)) (f2 : ∀ i, mS μ (hd 112 i) = (0, 0)) (hP : P ≤ 5) (hN : N ≤ 3) (hS : S8 μ) (hD : 1 ≤ d) (hc : 18 ≤ rc) (hs : 915 ≤ rs)
    (hQ : ∀ μ', FrS OwG9 μ μ' → S8 μ' → mS μ' (hd 100 0) = (1, 11) → (∀ k, k < 4 → gI μ' (hd 100 0) k = gI μ (hd 100 0) k) → gI μ' (hd 100 0) 4 = nI P → gI μ' (hd 100 0) 5 = nI N → (∀ k, k < 8 ∨ 10 < k → gR μ' (hd 100 0) k = gR μ (hd 100 0) k) → BxR μ' 8 0 110 P P noP → BxR μ' 9 1 111 P P noP → BxR μ' 10 2 112 P P noP → Q none μ') : CalS K_SI_begin d rc rs [.ref (hd 100 0), .int (nI P), .int (nI N)] μ Q := by
  have b0 : hiN (hd 100 0) := hi_hd (by decide) (by decide)
  refine z_SI_begin (y_SI_begin_0 hD ?_)
  rw [nI_clamp (show P < 2 ^ 31 by omega)]
  generalize hm1 : setI (setI μ (hd 100 0) 4 (nI P)) (hd 100 0) 5 (nI N) = m1
  have F1 : FrS OwG9 μ m1 := by rw [← hm1]; exact (FrS.rf.sI (by decide) (by unfold OwG9; omega)).sI (by decide) (by unfold OwG9; omega)
  have e1 : ∀ κ i, mS m1 (hd κ i) = mS μ (hd κ i) := fun κ i => by rw [← hm1]; rfl
  have rowne : ∀ {κ o : Nat}, 110 ≤ κ → κ < 130 → ∀ i, i < P → hd κ i ≠ hd 109 o := fun a b i _ => hd_ne (by omega) (by decide) (by omega)
  -- the three steps
  have F2 : FrS OwG9 m1 (mkM m1 (hd 109 0) 110 P 60) := FrS.rf.mM (by decide) (by decide) (by unfold OwG9; omega) (fun j _ => by unfold OwG9; omega)
  have K2 : FrS (fun κ i => (κ = 109 ∧ i = 0) ∨ κ = 110) m1 (mkM m1 (hd 109 0) 110 P 60) := FrS.rf.mM (by decide) (by decide) (Or.inl ⟨rfl, rfl⟩) (fun j _ => Or.inr rfl)
  generalize hm2 : mkM m1 (hd 109 0) 110 P 60 = m2 at F2 K2 ⊢
  have F3 : FrS OwG9 m2 (setR m2 (hd 100 0) 8 (hd 109 0)) := FrS.rf.sR (by decide) (by unfold OwG9; omega)
  have K3 : FrS (fun κ i => κ = 100 ∧ i = 0) m2 (setR m2 (hd 100 0) 8 (hd 109 0)) := FrS.rf.sR (by decide) ⟨rfl, rfl⟩
  generalize hm3 : setR m2 (hd 100 0) 8 (hd 109 0) = m3 at F3 K3 ⊢
  have F4 : FrS OwG9 m3 (mkM m3 (hd 109 1) 111 P 60) := FrS.rf.mM (by decide) (by decide) (by unfold OwG9; omega) (fun j _ => by unfold OwG9; omega)
  have K4 : FrS (fun κ i => (κ = 109 ∧ i = 1) ∨ κ = 111) m3 (mkM m3 (hd 109 1) 111 P 60) := FrS.rf.mM (by decide) (by decide) (Or.inl ⟨rfl, rfl⟩) (fun j _ => Or.inr rfl)
  generalize hm4 : mkM m3 (hd 109 1) 111 P 60 = m4 at F4 K4 ⊢
  have F5 : FrS OwG9 m4 (setR m4 (hd 100 0) 9 (hd 109 1)) := FrS.rf.sR (by decide) (by unfold OwG9; omega)
  have K5 : FrS (fun κ i => κ = 100 ∧ i = 0) m4 (setR m4 (hd 100 0) 9 (hd 109 1)) := FrS.rf.sR (by decide) ⟨rfl, rfl⟩
  generalize hm5 : setR m4 (hd 100 0) 9 (hd 109 1) = m5 at F5 K5 ⊢
  have F6 : FrS OwG9 m5 (mkM m5 (hd 109 2) 112 P 60) := FrS.rf.mM (by decide) (by decide) (by unfold OwG9; omega) (fun j _ => by unfold OwG9; omega)
  have K6 : FrS (fun κ i => (κ = 109 ∧ i = 2) ∨ κ = 112) m5 (mkM m5 (hd 109 2) 112 P 60) := FrS.rf.mM (by decide) (by decide) (Or.inl ⟨rfl, rfl⟩) (fun j _ => Or.inr rfl)
  generalize hm6 : mkM m5 (hd 109 2) 112 P 60 = m6 at F6 K6 ⊢
  have F7 : FrS OwG9 m6 (setR m6 (hd 100 0) 10 (hd 109 2)) := FrS.rf.sR (by decide) (by unfold OwG9; omega)
  have K7 : FrS (fun κ i => κ = 100 ∧ i = 0) m6 (setR m6 (hd 100 0) 10 (hd 109 2)) := FrS.rf.sR (by decide) ⟨rfl, rfl⟩
  generalize hm7 : setR m6 (hd 100 0) 10 (hd 109 2) = m7 at F7 K7 ⊢
  -- shapes
  have s1 : mS m1 (hd 100 0) = (1, 11) := (e1 _ _).trans h0
  have s2 : mS m2 (hd 100 0) = (1, 11) := (K2.S (by decide) (by omega)).trans s1
  have s3 : mS m3 (hd 100 0) = (1, 11) := by rw [← hm3]; exact s2
  have s4 : mS m4 (hd 100 0) = (1, 11) := (K4.S (by decide) (by omega)).trans s3
  have s5 : mS m5 (hd 100 0) = (1, 11) := by rw [← hm5]; exact s4
  have s6 : mS m6 (hd 100 0) = (1, 11) := (K6.S (by decide) (by omega)).trans s5
  have s7 : mS m7 (hd 100 0) = (1, 11) := by rw [← hm7]; exact s6
  have w0 : mS (setI μ (hd 100 0) 4 (nI P)) (hd 100 0) = (1, 11) := h0
  have z3 : ∀ κ i, ¬ ((κ = 109 ∧ i = 0) ∨ κ = 110) → ¬ (κ = 100 ∧ i = 0) → κ < 256 → mS m3 (hd κ i) = mS μ (hd κ i) := fun κ i a b h => ((K3.S h b).trans (K2.S h a)).trans (e1 κ i)
  have z5 : ∀ κ i, ¬ ((κ = 109 ∧ i = 0) ∨ κ = 110) → ¬ ((κ = 109 ∧ i = 1) ∨ κ = 111) → ¬ (κ = 100 ∧ i = 0) → κ < 256 → mS m5 (hd κ i) = mS μ (hd κ i) := fun κ i a a' b h => ((K5.S h b).trans (K4.S h a')).trans (z3 κ i a b h)
  have F17 : FrS OwG9 μ m7 := F1.trans (F2.trans (F3.trans (F4.trans (F5.trans (F6.trans F7)))))
  have S7 := F17.s8 (fun κ i z => by unfold OwG9 at z; omega) hS
  have hP0 : ¬ nI P < 0 := ip0 (by omega)
  refine ⟨⟨h0, b0⟩, ⟨w0, b0⟩, ⟨hP0, by decide, by omega, by decide, by omega, by omega⟩, hd 109 0, 110, ⟨⟨by decide, by decide⟩, ⟨(e1 _ _).trans (fo 0 (by decide)), hi_hd (by decide) (by decide)⟩, rowne (by decide) (by decide), fun i _ => (e1 _ _).trans (f0 i)⟩, ?_⟩
  rw [hm2, hm3]
  refine ⟨⟨s2, b0⟩, ⟨hP0, by decide, by omega, by decide, by omega, by omega⟩, hd 109 1, 111, ⟨⟨by decide, by decide⟩, ⟨(z3 _ _ (by omega) (by omega) (by decide)).trans (fo 1 (by decide)), hi_hd (by decide) (by decide)⟩, rowne (by decide) (by decide), fun i _ => (z3 _ _ (by omega) (by omega) (by decide)).trans (f1 i)⟩, ?_⟩
  rw [hm4, hm5]
  refine ⟨⟨s4, b0⟩, ⟨hP0, by decide, by omega, by decide, by omega, by omega⟩, hd 109 2, 112, ⟨⟨by decide, by decide⟩, ⟨(z5 _ _ (by omega) (by omega) (by omega) (by decide)).trans (fo 2 (by decide)), hi_hd (by decide) (by decide)⟩, rowne (by decide) (by decide), fun i _ => (z5 _ _ (by omega) (by omega) (by omega) (by decide)).trans (f2 i)⟩, ?_⟩
  rw [hm6, hm7]
  have r3 : ∀ k, gR m3 (hd 100 0) k = if k = 8 then some (hd 109 0) else gR m1 (hd 100 0) k := fun k => by
    rw [← hm3, gR_hi b0, mR_set]
    by_cases e : k = 8
    · rw [if_pos ⟨rfl, e⟩, if_pos e]
    · rw [if_neg (fun z => e z.2), if_neg e, ← gR_hi b0, K2.gr (by decide) (by omega)]
  have r5 : ∀ k, gR m5 (hd 100 0) k = if k = 9 then some (hd 109 1) else gR m3 (hd 100 0) k := fun k => by
    rw [← hm5, gR_hi b0, mR_set]
    by_cases e : k = 9
    · rw [if_pos ⟨rfl, e⟩, if_pos e]
    · rw [if_neg (fun z => e z.2), if_neg e, ← gR_hi b0, K4.gr (by decide) (by omega)]
  have r7 : ∀ k, gR m7 (hd 100 0) k = if k = 10 then some (hd 109 2) else gR m5 (hd 100 0) k := fun k => by
    rw [← hm7, gR_hi b0, mR_set]
    by_cases e : k = 10
    · rw [if_pos ⟨rfl, e⟩, if_pos e]
    · rw [if_neg (fun z => e z.2), if_neg e, ← gR_hi b0, K6.gr (by decide) (by omega)]
  have r1 : ∀ k, gR m1 (hd 100 0) k = gR μ (hd 100 0) k := fun k => by rw [← hm1, gR_hi b0, gR_hi b0]; rfl
  have i7 : ∀ k, gI m7 (hd 100 0) k = gI m1 (hd 100 0) k := fun k => by
    have a7 : gI m7 (hd 100 0) k = gI m6 (hd 100 0) k := by rw [← hm7, gI_hi b0, gI_hi b0]; rfl
    have a5 : gI m5 (hd 100 0) k = gI m4 (hd 100 0) k := by rw [← hm5, gI_hi b0, gI_hi b0]; rfl
    have a3 : gI m3 (hd 100 0) k = gI m2 (hd 100 0) k := by rw [← hm3, gI_hi b0, gI_hi b0]; rfl
    rw [a7, K6.gi (by decide) (by omega), a5, K4.gi (by decide) (by omega), a3, K2.gi (by decide) (by omega)]
  have i1 : ∀ k, gI m1 (hd 100 0) k = if k = 5 then nI N else if k = 4 then nI P else gI μ (hd 100 0) k := fun k => by
    rw [← hm1, gI_hi b0, mI_set, mI_set]
    by_cases e : k = 5
    · rw [if_pos ⟨rfl, e⟩, if_pos e]
    · rw [if_neg (fun z => e z.2), if_neg e]
      by_cases e : k = 4
      · rw [if_pos ⟨rfl, e⟩, if_pos e]
      · rw [if_neg (fun z => e z.2), if_neg e, gI_hi b0]
  have T7 : FrS (fun κ i => (κ = 100 ∧ i = 0)) m6 m7 := K7
  have T57 : FrS (fun κ i => (κ = 100 ∧ i = 0) ∨ (κ = 109 ∧ i = 2) ∨ κ = 112) m4 m7 := (K5.mono (fun κ i z => Or.inl z)).trans ((K6.mono (fun κ i z => Or.inr z)).trans (K7.mono (fun κ i z => Or.inl z)))
  have T27 : FrS (fun κ i => (κ = 100 ∧ i = 0) ∨ (κ = 109 ∧ i = 2) ∨ κ = 112 ∨ (κ = 109 ∧ i = 1) ∨ κ = 111) m2 m7 := (K3.mono (fun κ i z => Or.inl z)).trans ((K4.mono (fun κ i z => by omega)).trans (T57.mono (fun κ i z => by omega)))
  refine ⟨⟨s6, b0⟩, S7, hQ m7 F17 S7 s7 (fun k hk => ?_) ?_ ?_ (fun k hk => ?_) ?_ ?_ ?_⟩
  · rw [i7, i1, if_neg (by omega), if_neg (by omega)]
  · rw [i7, i1, if_neg (by decide), if_pos rfl]
  · rw [i7, i1, if_pos rfl]
  · rw [r7, if_neg (by omega), r5, if_neg (by omega), r3, if_neg (by omega), r1]
  · exact mM_Bx (μ := m1) (own := fun κ i => (κ = 100 ∧ i = 0) ∨ (κ = 109 ∧ i = 2) ∨ κ = 112 ∨ (κ = 109 ∧ i = 1) ∨ κ = 111) ⟨by decide, by decide⟩ (by rw [r7, if_neg (by decide), r5, if_neg (by decide), r3, if_pos rfl]) (by rw [hm2]; exact T27) (by omega) (fun i => by omega)
  · exact mM_Bx (μ := m3) (own := fun κ i => (κ = 100 ∧ i = 0) ∨ (κ = 109 ∧ i = 2) ∨ κ = 112) ⟨by decide, by decide⟩ (by rw [r7, if_neg (by decide), r5, if_pos rfl]) (by rw [hm4]; exact T57) (by omega) (fun i => by omega)
  · exact mM_Bx (μ := m5) (own := fun κ i => κ = 100 ∧ i = 0) ⟨by decide, by decide⟩ (by rw [r7, if_pos rfl]) (by rw [hm6]; exact T7) (by omega) (fun i => by omega)
end MKS
