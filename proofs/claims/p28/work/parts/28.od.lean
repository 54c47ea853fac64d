/-! orders, and days -/
def OwP (w q κ i : Nat) : Prop := OwW w κ i ∨ OwC q κ i
/-- the world and the stack change, nothing else -/
def FrQ (w q : Nat) (μ μ' : Mu) : Prop := Fr (OwP w q) μ μ' ∧ mR μ' = mR μ ∧ mI μ' (hd 21 q) 4 = mI μ (hd 21 q) 4
theorem FrQ.rf {w q : Nat} {μ : Mu} : FrQ w q μ μ := ⟨Fr.rf, rfl, rfl⟩
theorem FrQ.trans {w q : Nat} {μ1 μ2 μ3 : Mu} (h : FrQ w q μ1 μ2) (h' : FrQ w q μ2 μ3) : FrQ w q μ1 μ3 := ⟨h.1.trans h'.1, h'.2.1.trans h.2.1, h'.2.2.trans h.2.2⟩
theorem FrQ.ofC {w q : Nat} {μ μ' : Mu} (h : FrC q μ μ') : FrQ w q μ μ' := ⟨h.1.mono (fun _ _ z => Or.inr z), h.2.1, h.2.2⟩
theorem FrQ.ofW {w q : Nat} {μ μ' : Mu} (h : Fr (OwW w) μ μ') (hr : mR μ' = mR μ) : FrQ w q μ μ' := ⟨h.mono (fun _ _ z => Or.inl z), hr, h.I (by decide) (by unfold OwW; omega)⟩
theorem codeAt.frQ {μ μ' : Mu} {w q : Nat} (f : FrQ w q μ μ') : ∀ (l : List Op) (a : Nat), codeAt μ q a l → codeAt μ' q a l
  | [], _, _ => trivial
  | o :: l, a, h => by
    have e3 : ∀ k, mI μ' (hd 23 q) k = mI μ (hd 23 q) k := fun k => f.1.I (by decide) (by unfold OwP OwW OwC; omega)
    have e4 : ∀ k, mI μ' (hd 24 q) k = mI μ (hd 24 q) k := fun k => f.1.I (by decide) (by unfold OwP OwW OwC; omega)
    refine ⟨?_, codeAt.frQ f l (a + 1) h.2⟩
    have := h.1
    unfold cellOp at this ⊢
    rw [f.2.1, e3, e4]; exact this
/-- an order as it stands in the plan q -/
def ordOK (μ : Mu) (q : Nat) (T : PT) (C Ct : Nat → List Op) (sz k : Nat) : Prop := ∃ s, mR μ (hd 26 (21 * q + k)) 0 = some (hd 0 (T 7 k)) ∧
  (T 7 k = 9 → mI μ (hd 26 (21 * q + k)) 4 = nI (T 8 k)) ∧
  (T 7 k ≠ 9 → mI μ (hd 26 (21 * q + k)) 2 = nI (T 8 k) ∧ mI μ (hd 26 (21 * q + k)) 3 = nI (T 9 k)) ∧
  (T 7 k = 8 → mI μ (hd 26 (21 * q + k)) 5 = nI (T 10 k)) ∧
  mI μ (hd 26 (21 * q + k)) 6 = nI s ∧ mI μ (hd 26 (21 * q + k)) 7 = nI (s + (C k).length) ∧ mI μ (hd 26 (21 * q + k)) 8 = nI (s + (C k).length + (Ct k).length) ∧
  s + (C k).length + (Ct k).length ≤ sz ∧ codeAt μ q s (C k) ∧ codeAt μ q (s + (C k).length) (Ct k)
/-- an order, as it is told -/
def ordW (T : PT) (C Ct : Nat → List Op) (k : Nat) : Prop := (6 ≤ T 7 k ∧ T 7 k ≤ 9) ∧ (T 7 k = 9 → T 8 k < T 2 0) ∧ (T 7 k ≠ 9 → T 8 k < T 0 0 ∧ T 9 k < T 1 0) ∧ (T 7 k = 8 → T 10 k < 3) ∧
  (∀ o ∈ C k, opOK T o) ∧ (∀ o ∈ Ct k, opOK T o) ∧ (T 7 k ≤ 7 → hts (C k) 0 = some 1) ∧ (Ct k ≠ [] → hts (Ct k) 0 = some 1)
def XO (μ : Mu) (q : Nat) (T : PT) (C Ct : Nat → List Op) : Prop := ∃ sz, sz ≤ 400 ∧ mI μ (hd 21 q) 4 = nI sz ∧ ∀ k, k < T 6 0 → ordOK μ q T C Ct sz k
def OW (T : PT) (C Ct : Nat → List Op) : Prop := ∀ k, k < T 6 0 → ordW T C Ct k
theorem ordOK.fr {μ μ' : Mu} {w q sz k : Nat} {T : PT} {C Ct : Nat → List Op} (f : FrQ w q μ μ') (h : ordOK μ q T C Ct sz k) : ordOK μ' q T C Ct sz k := by
  have e : ∀ j, mI μ' (hd 26 (21 * q + k)) j = mI μ (hd 26 (21 * q + k)) j := fun j => f.1.I (by decide) (by unfold OwP OwW OwC; omega)
  obtain ⟨s, h1, h2, h3, h4, h5, h6, h7, h8, h9, h10⟩ := h
  refine ⟨s, ?_, ?_, ?_, ?_, ?_, ?_, ?_, h8, h9.frQ f, h10.frQ f⟩
  · rw [f.2.1]; exact h1
  all_goals (simp only [e]; assumption)
theorem XO.fr {μ μ' : Mu} {w q : Nat} {T : PT} {C Ct : Nat → List Op} (f : FrQ w q μ μ') (h : XO μ q T C Ct) : XO μ' q T C Ct := by
  obtain ⟨sz, h1, h2, h3⟩ := h
  exact ⟨sz, h1, f.2.2.trans h2, fun k hk => (h3 k hk).fr f⟩
/-- a value between 0 and 9999 -/
def clampN (x : Int32) : Nat := (imax 0 (imin x 9999)).toNatClampNeg
theorem imin_toInt (x y : Int32) : (imin x y).toInt = min x.toInt y.toInt := by
  unfold imin
  by_cases h : y < x
  · rw [if_pos h]; rw [Int32.lt_iff_toInt_lt] at h; omega
  · rw [if_neg h]; rw [Int32.lt_iff_toInt_lt] at h; omega
theorem imax_toInt (x y : Int32) : (imax x y).toInt = max x.toInt y.toInt := by
  unfold imax
  by_cases h : x < y
  · rw [if_pos h]; rw [Int32.lt_iff_toInt_lt] at h; omega
  · rw [if_neg h]; rw [Int32.lt_iff_toInt_lt] at h; omega
theorem clamp_ok (x : Int32) : imax 0 (imin x 9999) = nI (clampN x) ∧ clampN x ≤ 9999 := by
  have z0 : (0 : Int32).toInt = 0 := by decide
  have z9 : (9999 : Int32).toInt = 9999 := by decide
  have e := imax_toInt 0 (imin x 9999)
  rw [imin_toInt, z0, z9] at e
  have h1 : ¬ imax 0 (imin x 9999) < 0 := by rw [Int32.lt_iff_toInt_lt, e, z0]; omega
  obtain ⟨j, hj, ej⟩ := nI_of h1
  unfold clampN
  rw [ej] at e ⊢
  rw [nI_toInt hj] at e
  rw [nI_clamp hj]
  exact ⟨rfl, by omega⟩
theorem clamp_ok' (x : Int32) : imax 0 (imin 9999 x) = nI (clampN x) := by
  rw [← (clamp_ok x).1]
  apply Int32.toInt_inj.mp
  rw [imax_toInt, imax_toInt, imin_toInt, imin_toInt, Int.min_comm]
/-- an order comes to its turn: what is then, and whether it is carried out -/
noncomputable def ordD (T : PT) (C Ct : Nat → List Op) (D : DT) (k : Nat) : DT × Nat :=
  @ite _ (Ct k ≠ [] ∧ evV T D (Ct k) = 0) (Classical.propDecidable _) (D, 0)
  (if T 7 k = 9 then (sendD D (T 8 k), bN (0 < carN D (T 8 k) (D 1 0 0)))
  else if D 1 0 0 = 60 then (D, 0)
  else if T 7 k = 8 then (if 2 ≤ (shL D (T 8 k) (T 9 k)).length then (meD T D (T 8 k) (T 9 k) (T 10 k), 1) else (D, 0))
  else if T 7 k = 7 then @ite _ (newMk D (T 8 k) (T 9 k) (evV T D (C k))) (Classical.propDecidable _) (noD T D (T 8 k) (T 9 k) (evV T D (C k)).toNatClampNeg, 1) (D, 0)
  else (wrD T D (T 8 k) (T 9 k) (clampN (evV T D (C k))), 1))
theorem c_Wd_carriesOut {d rc rs w q k : Nat} {Q : Option Value → Mu → Prop} {μ : Mu} {T : PT} {C Ct : Nat → List Op} {D : DT} (hC : XC μ w T D) (hD : 6 ≤ d) (hS : St μ) (hpq : px μ (hd 29 w) 3 = q) (hO : XO μ q T C Ct) (hW : OW T C Ct) (hk : k < T 6 0)
    (hQ : ∀ μ', FrQ w q μ μ' → St μ' → XC μ' w T (ordD T C Ct D k).1 → Q (some (.int (nI (ordD T C Ct D k).2))) μ') : Cal K_Wd_carriesOut d rc rs [.ref (hd 29 w), .ref (hd 26 (21 * q + k))] μ Q := by
  have hw := hC.w2; have h60 := hC.S60; have h20 := hC.O20; have hN := hC.N6
  have hq2 : q < 2 := by rw [← hpq]; exact (d_29_3 hS hw).2
  obtain ⟨sz, z1, z2, z3⟩ := hO
  obtain ⟨w1, w2, w3, w4, w5, w6, w7, w8⟩ := hW k hk
  have hoK := z3 k hk
  obtain ⟨s, h1, h2, h3, h4, h5, h6, h7, h8, h9, h10⟩ := id hoK
  -- behind the test
  have tail : ¬ (Ct k ≠ [] ∧ evV T D (Ct k) = 0) → ∀ (Q2 : Option Value → Mu → Prop) (i0 i1 : Nat), i0 = w → i1 = 21 * q + k → (∀ r μ', St μ' → Q r μ' → Q2 r μ') → ∀ μ1, FrC q μ μ1 → St μ1 → (((px μ1 (hd 26 i1) 0) = 9 → (Cal K_Wd_carry (d - 1) 0 0 [.ref (hd 29 i0), .int (mI μ1 (hd 26 i1) 4)] μ1 (fun r μ21 => ∃ y22, r = some (.int y22) ∧ ((y22 ≤ 0 → Q2 (some (.int 0)) μ21) ∧ (¬ y22 ≤ 0 → Q2 (some (.int 1)) μ21))))) ∧ (¬ (px μ1 (hd 26 i1) 0) = 9 → (Cal K_Wd_isFull (d - 1) 0 0 [.ref (hd 29 i0)] μ1 (fun r μ4 => ∃ y5, r = some (.int y5) ∧ ((y5 = 0 → (((px μ4 (hd 26 i1) 0) = 8 → (Cal K_Wd_canMerge (d - 1) 0 0 [.ref (hd 29 i0), .int (mI μ4 (hd 26 i1) 2), .int (mI μ4 (hd 26 i1) 3)] μ4 (fun r μ17 => ∃ y18, r = some (.int y18) ∧ ((y18 = 0 → Q2 (some (.int 0)) μ17) ∧ (¬ y18 = 0 → (Cal K_Wd_makeMerged (d - 1) 0 0 [.ref (hd 29 i0), .int (mI μ17 (hd 26 i1) 2), .int (mI μ17 (hd 26 i1) 3), .int (mI μ17 (hd 26 i1) 5)] μ17 (fun r μ19 => ∃ y20, r = some (.int y20) ∧ ((y20 = (-1) → Q2 (some (.int 0)) μ19) ∧ (¬ y20 = (-1) → Q2 (some (.int 1)) μ19))))))))) ∧ (¬ (px μ4 (hd 26 i1) 0) = 8 → (Cal K_Cd_reckon (d - 1) 0 0 [.ref (hd 21 (px μ4 (hd 29 i0) 3)), .int (mI μ4 (hd 26 i1) 6), .int (mI μ4 (hd 26 i1) 7), .ref (hd 29 i0)] μ4 (fun r μ8 => ∃ y9, r = some (.int y9) ∧ (((px μ8 (hd 26 i1) 0) = 7 → (Cal K_Wd_isNewMark (d - 1) 0 0 [.ref (hd 29 i0), .int (mI μ8 (hd 26 i1) 2), .int (mI μ8 (hd 26 i1) 3), .int y9] μ8 (fun r μ13 => ∃ y14, r = some (.int y14) ∧ ((y14 = 0 → Q2 (some (.int 0)) μ13) ∧ (¬ y14 = 0 → (Cal K_Wd_makeNoted (d - 1) 0 0 [.ref (hd 29 i0), .int (mI μ13 (hd 26 i1) 2), .int (mI μ13 (hd 26 i1) 3), .int y9] μ13 (fun r μ15 => ∃ y16, r = some (.int y16) ∧ ((y16 = (-1) → Q2 (some (.int 0)) μ15) ∧ (¬ y16 = (-1) → Q2 (some (.int 1)) μ15))))))))) ∧ (¬ (px μ8 (hd 26 i1) 0) = 7 → (Cal K_Wd_makeWritten (d - 1) 0 0 [.ref (hd 29 i0), .int (mI μ8 (hd 26 i1) 2), .int (mI μ8 (hd 26 i1) 3), .int (imax 0 (imin y9 9999))] μ8 (fun r μ11 => ∃ y12, r = some (.int y12) ∧ ((y12 = (-1) → Q2 (some (.int 0)) μ11) ∧ (¬ y12 = (-1) → Q2 (some (.int 1)) μ11))))))))))) ∧ (¬ y5 = 0 → Q2 (some (.int 0)) μ4)))))) := by
    intro hnt Q2 i0 i1 e0 e1 hQQ μ1 f1 f3
    subst e0 e1
    have hC1 : XC μ1 i0 T D := hC.fr f1.1 f1.2.1 (by unfold OwC; omega)
    have hpq1 : px μ1 (hd 29 i0) 3 = q := by rw [← hpq]; unfold px; rw [f1.2.1]
    have fP : FrQ i0 q μ μ1 := FrQ.ofC f1
    have hoK1 := hoK.fr fP
    obtain ⟨s', g1, g2, g3, g4, g5, g6, g7, g8, g9, g10⟩ := hoK1
    have hpx : px μ1 (hd 26 (21 * q + k)) 0 = T 7 k := px_eq (by decide) g1
    have one : ∀ (E : DT) (x : Nat), x ≤ 60 → (1 : Int32) = nI 1 := fun _ _ _ => rfl
    rw [hpx]
    refine ⟨fun z => ?_, fun z => ?_⟩
    · -- send
      have eD : ordD T C Ct D k = (sendD D (T 8 k), bN (0 < carN D (T 8 k) (D 1 0 0))) := by unfold ordD; rw [if_neg hnt, if_pos z]
      rw [eD] at hQ
      rw [g2 z]
      refine c_Wd_carry hC1 (by omega) f3 (w2 z) (fun μ' m1 m2 m3 m4 => ⟨_, rfl, ?_⟩)
      have hc : carN D (T 8 k) (D 1 0 0) ≤ D 1 0 0 * 1 := sumN_le _ (fun _ _ => bN_le)
      have hk := hQ μ' (fP.trans (FrQ.ofW m1 m2)) m3 m4
      rw [I0, nI_leI (by omega) (by decide)]
      refine ⟨fun y => hQQ _ _ m3 ?_, fun y => hQQ _ _ m3 ?_⟩
      · rw [show (bN (0 < carN D (T 8 k) (D 1 0 0))) = 0 from bN_f (by omega)] at hk; exact hk
      · rw [show (bN (0 < carN D (T 8 k) (D 1 0 0))) = 1 from bN_t (by omega)] at hk; exact hk
    · obtain ⟨g31, g32⟩ := g3 z
      obtain ⟨w31, w32⟩ := w3 z
      refine c_Wd_isFull hC1 (by omega) f3 ⟨_, rfl, fun y => ?_, fun y => ?_⟩
      · rw [bI_z] at y
        rw [hpx]
        refine ⟨fun z8 => ?_, fun z8 => ?_⟩
        · -- merge
          rw [g31, g32]
          refine c_Wd_canMerge hC1 (by omega) f3 w31 (by omega) ⟨_, rfl, fun x => ?_, fun x => ?_⟩
          · rw [bI_z] at x
            have eD : ordD T C Ct D k = (D, 0) := by unfold ordD; rw [if_neg hnt, if_neg z, if_neg y, if_pos z8, if_neg x]
            rw [eD] at hQ
            exact hQQ _ _ f3 (hQ μ1 fP f3 hC1)
          · rw [bI_z, Classical.not_not] at x
            have eD : ordD T C Ct D k = (meD T D (T 8 k) (T 9 k) (T 10 k), 1) := by unfold ordD; rw [if_neg hnt, if_neg z, if_neg y, if_pos z8, if_pos x]
            rw [eD] at hQ
            rw [g31, g32, g4 z8]
            refine c_Wd_makeMerged hC1 (by omega) f3 (by omega) w31 w32 (w4 z8) (fun μ' m1 m2 m3 m4 => ⟨_, rfl, fun v => absurd v ?_, fun _ => hQQ _ _ m3 (hQ μ' (fP.trans (FrQ.ofW m1 m2)) m3 m4)⟩)
            rw [← oI_s, oI_m1 (by omega)]; omega
        · rw [hpq1, g5, g6]
          have hh : hts (C k) 0 = some 1 := w7 (by omega)
          refine c_Cd_reckon hC1 (by omega) f3 hq2 (f1.2.2.trans z2) z1 rfl (by omega) g9 w5 hh (fun μ2 m1 m2 => ⟨_, rfl, ?_⟩)
          have hC2 : XC μ2 i0 T D := hC1.fr m1.1 m1.2.1 (by unfold OwC; omega)
          have fP2 : FrQ i0 q μ μ2 := fP.trans (FrQ.ofC m1)
          obtain ⟨s2, n1, n2, n3, n4, n5, n6, n7, n8, n9, n10⟩ := hoK.fr fP2
          have hpx2 : px μ2 (hd 26 (21 * q + k)) 0 = T 7 k := px_eq (by decide) n1
          obtain ⟨n31, n32⟩ := n3 z
          rw [hpx2]
          refine ⟨fun z7 => ?_, fun z7 => ?_⟩
          · rw [n31, n32]
            refine c_Wd_isNewMark hC2 (by omega) m2 w31 w32 ⟨_, rfl, fun x => ?_, fun x => ?_⟩
            · rw [bI_z] at x
              have eD : ordD T C Ct D k = (D, 0) := by unfold ordD; rw [if_neg hnt, if_neg z, if_neg y, if_neg z8, if_pos z7, if_neg x]
              rw [eD] at hQ
              exact hQQ _ _ m2 (hQ μ2 fP2 m2 hC2)
            · rw [bI_z, Classical.not_not] at x
              have eD : ordD T C Ct D k = (noD T D (T 8 k) (T 9 k) (evV T D (C k)).toNatClampNeg, 1) := by unfold ordD; rw [if_neg hnt, if_neg z, if_neg y, if_neg z8, if_pos z7, if_pos x]
              rw [eD] at hQ
              have hx0 : ¬ evV T D (C k) < 0 := by rw [Int32.lt_iff_toInt_lt]; have := x.1.1; exact Int.not_lt.mpr this
              obtain ⟨v, hv, ev⟩ := nI_of hx0
              have hv16 : v < 16 := by have := x.1.2; rw [ev, nI_toInt hv] at this; omega
              rw [ev, nI_clamp hv] at hQ
              rw [n31, n32, ev]
              refine c_Wd_makeNoted hC2 (by omega) m2 (by omega) w31 w32 hv16 (fun μ' l1 l2 l3 l4 => ⟨_, rfl, fun u => absurd u ?_, fun _ => hQQ _ _ l3 (hQ μ' (fP2.trans (FrQ.ofW l1 l2)) l3 l4)⟩)
              rw [← oI_s, oI_m1 (by omega)]; omega
          · have eD : ordD T C Ct D k = (wrD T D (T 8 k) (T 9 k) (clampN (evV T D (C k))), 1) := by unfold ordD; rw [if_neg hnt, if_neg z, if_neg y, if_neg z8, if_neg z7]
            rw [eD] at hQ
            obtain ⟨c1, c2⟩ := clamp_ok (evV T D (C k))
            rw [n31, n32, c1]
            refine c_Wd_makeWritten hC2 (by omega) m2 (by omega) w31 w32 c2 (fun μ' l1 l2 l3 l4 => ⟨_, rfl, fun u => absurd u ?_, fun _ => hQQ _ _ l3 (hQ μ' (fP2.trans (FrQ.ofW l1 l2)) l3 l4)⟩)
            rw [← oI_s, oI_m1 (by omega)]; omega
      · rw [bI_z, Classical.not_not] at y
        have eD : ordD T C Ct D k = (D, 0) := by unfold ordD; rw [if_neg hnt, if_neg z, if_pos y]
        rw [eD] at hQ
        exact hQQ _ _ f3 (hQ μ1 fP f3 hC1)
  refine e_Wd_carriesOut (g_Wd_carriesOut_0 (by omega) hw (by omega) hS ?_)
  refine c_Od_hasTest (by omega) hS (by omega) h6 h7 (by omega) (by omega) ⟨_, rfl, fun e => ?_, fun e => ?_⟩
  · rw [bI_z] at e
    have hnil : Ct k = [] := List.length_eq_zero_iff.mp (by omega)
    exact tail (fun z => z.1 hnil) (fun r μ' => St μ' ∧ Q r μ') _ _ rfl rfl (fun r μ' a b => ⟨a, b⟩) μ FrC.rf hS
  · rw [bI_z, Classical.not_not] at e
    have hne : Ct k ≠ [] := fun z => by rw [z] at e; simp at e
    rw [hpq, h6, h7]
    refine c_Cd_reckon hC (by omega) hS hq2 z2 z1 rfl (by omega) h10 w6 (w8 hne) (fun μ2 m1 m2 => ⟨_, rfl, fun y => ?_, fun y => ?_⟩)
    · have eD : ordD T C Ct D k = (D, 0) := by unfold ordD; rw [if_pos ⟨hne, y⟩]
      rw [eD] at hQ
      exact ⟨m2, hQ μ2 (FrQ.ofC m1) m2 (hC.fr m1.1 m1.2.1 (by unfold OwC; omega))⟩
    · exact tail (fun z => y z.2) (fun r μ' => St μ' ∧ Q r μ') _ _ rfl rfl (fun r μ' a b => ⟨a, b⟩) μ2 m1 m2
