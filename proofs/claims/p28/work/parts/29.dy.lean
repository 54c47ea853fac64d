/-! days go by -/
theorem mk_f {T : PT} {D : DT} {b n v m h f i j : Nat} (h1 : f ≠ 1) (h4 : f ≠ 4) (h5 : f ≠ 5) (h6 : f ≠ 6) (h7 : f ≠ 7) : mkD T D b n v m h f i j = D f i j := by
  unfold mkD
  rw [onlyD_f h7, addS_f h4 h5, ud_f h6, ud_f h1]
theorem send_f {D : DT} {r f i j : Nat} (h9 : f ≠ 9) (h10 : f ≠ 10) : sendD D r f i j = D f i j := by
  unfold sendD
  split
  · rw [ud_f h9, carF_f _ (Or.inl h10)]
  · rw [carF_f _ (Or.inl h10)]
theorem ordD_f {T : PT} {C Ct : Nat → List Op} {D : DT} {k f i j : Nat} (h1 : f ≠ 1) (h4 : f ≠ 4) (h5 : f ≠ 5) (h6 : f ≠ 6) (h7 : f ≠ 7) (h9 : f ≠ 9) (h10 : f ≠ 10) : (ordD T C Ct D k).1 f i j = D f i j := by
  unfold ordD wrD noD meD
  split
  · rfl
  · split
    · exact send_f h9 h10
    · split
      · rfl
      · split
        · split
          · exact mk_f h1 h4 h5 h6 h7
          · rfl
        · split
          · split
            · exact mk_f h1 h4 h5 h6 h7
            · rfl
          · exact mk_f h1 h4 h5 h6 h7
theorem ordD_le {T : PT} {C Ct : Nat → List Op} {D : DT} {k : Nat} : (ordD T C Ct D k).2 ≤ 1 := by
  unfold ordD
  split
  · exact Nat.zero_le _
  · split
    · exact bN_le
    · split
      · exact Nat.zero_le _
      · split
        · split
          · exact Nat.le_refl 1
          · exact Nat.zero_le _
        · split
          · split
            · exact Nat.le_refl 1
            · exact Nat.zero_le _
          · exact Nat.le_refl 1
noncomputable def ordF (T : PT) (C Ct : Nat → List Op) (D : DT) : Nat → DT
  | 0 => D
  | k + 1 => ud (ordD T C Ct (ordF T C Ct D k) k).1 3 0 0 (ordF T C Ct D k 3 0 0 + (ordD T C Ct (ordF T C Ct D k) k).2)
theorem ordF_f {T : PT} {C Ct : Nat → List Op} {D : DT} {f i j : Nat} (h1 : f ≠ 1) (h3 : f ≠ 3) (h4 : f ≠ 4) (h5 : f ≠ 5) (h6 : f ≠ 6) (h7 : f ≠ 7) (h9 : f ≠ 9) (h10 : f ≠ 10) : ∀ k, ordF T C Ct D k f i j = D f i j
  | 0 => rfl
  | k + 1 => by rw [ordF, ud_f h3, ordD_f h1 h4 h5 h6 h7 h9 h10, ordF_f h1 h3 h4 h5 h6 h7 h9 h10 k]
noncomputable def brA (D : DT) : Nat → DT
  | 0 => D
  | r + 1 => brF (brA D r) r (brA D r 1 0 0)
theorem brA_f {D : DT} {f i j : Nat} (h8 : f ≠ 8) (h11 : f ≠ 11) : ∀ k, brA D k f i j = D f i j
  | 0 => rfl
  | k + 1 => by rw [brA, brF_f h8 h11, brA_f h8 h11 k]
noncomputable def hoA (T : PT) (D : DT) : Nat → DT
  | 0 => D
  | b + 1 => hoF T (hoA T D b) b (hoA T D b 1 0 0)
theorem hoA_f {T : PT} {D : DT} {f i j : Nat} (h2 : f ≠ 2) (h6 : f ≠ 6) (h7 : f ≠ 7) (h8 : f ≠ 8) (h11 : f ≠ 11) : ∀ k, hoA T D k f i j = D f i j
  | 0 => rfl
  | k + 1 => by rw [hoA, hoF_f h2 h6 h7 h8 h11, hoA_f h2 h6 h7 h8 h11 k]
noncomputable def dayD (T : PT) (C Ct : Nat → List Op) (D : DT) : DT := ud (hoA T (brA (ordF T C Ct D (T 6 0)) (T 2 0)) (T 0 0)) 0 0 0 (D 0 0 0 + 1)
noncomputable def daysD (T : PT) (C Ct : Nat → List Op) (D : DT) : Nat → DT
  | 0 => D
  | n + 1 => dayD T C Ct (daysD T C Ct D n)
theorem daysD_0 {T : PT} {C Ct : Nat → List Op} {D : DT} : ∀ n, daysD T C Ct D n 0 0 0 = D 0 0 0 + n
  | 0 => rfl
  | n + 1 => by rw [daysD, dayD, ud_self, daysD_0 n]; omega
theorem WI.congr {T : PT} {D D' : DT} (h : WI T D) (e8 : ∀ i j, D' 8 i j = D 8 i j) (e11 : ∀ i j, D' 11 i j = D 11 i j) : WI T D' := by
  intro b hb
  rw [e11, h b hb]
  exact sumN_congr _ (fun k _ => (e8 b k).symm)
theorem WI.ord {T : PT} {C Ct : Nat → List Op} {D : DT} {k : Nat} (h : WI T D) : WI T (ordF T C Ct D k) :=
  h.congr (fun _ _ => ordF_f (by decide) (by decide) (by decide) (by decide) (by decide) (by decide) (by decide) (by decide) k) (fun _ _ => ordF_f (by decide) (by decide) (by decide) (by decide) (by decide) (by decide) (by decide) (by decide) k)
theorem c_Wd_passDays {d rc rs w q n : Nat} {Q : Option Value → Mu → Prop} {μ : Mu} {T : PT} {C Ct : Nat → List Op} {D : DT} (hC : XC μ w T D) (hD : 7 ≤ d) (hS : St μ) (hpq : px μ (hd 29 w) 3 = q) (hO : XO μ q T C Ct) (hW : OW T C Ct) (hI : WI T D) (hn : D 0 0 0 + n < 2 ^ 20)
    (hQ : ∀ μ', FrQ w q μ μ' → St μ' → XC μ' w T (daysD T C Ct D n) → WI T (daysD T C Ct D n) → Q none μ') : Cal K_Wd_passDays d rc rs [.ref (hd 29 w), .int (nI n)] μ Q := by
  have hw := hC.w2; have hP := hC.P5; have hR := hC.R8; have h20 := hC.O20
  refine e_Wd_passDays (g_Wd_passDays_0 (by omega) hw hS ?_)
  have key : ∀ j, j ≤ n → ∀ μ', FrQ w q μ μ' → St μ' → XC μ' w T (daysD T C Ct D j) → WI T (daysD T C Ct D j) → Wx K_Wd_passDays d rc rs (fun r μ' => St μ' ∧ Q r μ') 2 [(0, .ref (hd 29 w)), (1, .int (nI n)), (2, .int (nI j))] [] μ' := by
    refine up_loop _ (fun μ' f1 f2 f3 f4 => ?_) (fun j hj ih μ' f1 f2 f3 f4 => ?_)
    · exact g_Wd_passDays_2 (by omega) hw f2 ⟨fun _ => ⟨f2, hQ μ' f1 f2 f3 f4⟩, fun h => absurd (Int32.le_refl _) h⟩
    · refine g_Wd_passDays_2 (by omega) hw f2 ⟨fun h => absurd h (nI_ge hj (by omega)), fun _ => ?_⟩
      have ih' : ∀ μ', FrQ w q μ μ' → St μ' → XC μ' w T (dayD T C Ct (daysD T C Ct D j)) → WI T (dayD T C Ct (daysD T C Ct D j)) → Wx K_Wd_passDays d rc rs (fun r μ' => St μ' ∧ Q r μ') 2 [(0, .ref (hd 29 w)), (1, .int (nI n)), (2, .int (nI (j + 1)))] [] μ' := ih
      have hd0 : daysD T C Ct D j 0 0 0 + 1 < 2 ^ 20 := by rw [daysD_0]; omega
      generalize daysD T C Ct D j = E at f3 f4 ih' hd0
      clear ih
      have px3 : ∀ μ1, FrQ w q μ μ1 → px μ1 (hd 29 w) 3 = q := fun μ1 g => by rw [← hpq]; unfold px; rw [g.2.1]
      -- what is hung
      have k87 : ∀ b, b ≤ T 0 0 → ∀ μ', FrQ w q μ μ' → St μ' → XC μ' w T (hoA T (brA (ordF T C Ct E (T 6 0)) (T 2 0)) b) → WI T (hoA T (brA (ordF T C Ct E (T 6 0)) (T 2 0)) b) → Wx K_Wd_passDays d rc rs (fun r μ' => St μ' ∧ Q r μ') 87 [(0, .ref (hd 29 w)), (1, .int (nI n)), (2, .int (nI j)), (3, .int (nI b))] [] μ' := by
        refine up_loop _ (fun μ' f1 f2 f3 f4 => ?_) (fun b hb ih μ' f1 f2 f3 f4 => ?_)
        · refine g_Wd_passDays_87 (by omega) hw f2 ⟨fun _ => ?_, fun h => absurd ?_ h⟩
          · have e0 : hoA T (brA (ordF T C Ct E (T 6 0)) (T 2 0)) (T 0 0) 0 0 0 = E 0 0 0 := by
              rw [hoA_f (by decide) (by decide) (by decide) (by decide) (by decide), brA_f (by decide) (by decide), ordF_f (by decide) (by decide) (by decide) (by decide) (by decide) (by decide) (by decide) (by decide)]
            rw [f3.day, e0, I1, nI_add, nI_add]
            have g1 := f3.set (f := 0) (i := 0) (j := 0) (v := E 0 0 0 + 1) (by decide) ⟨rfl, rfl⟩ (f3.2.1.ud0 (by omega))
            have hSt : St (setI μ' (hd 29 w) 4 (nI (E 0 0 0 + 1))) := f2
            refine ih' _ (f1.trans (FrQ.ofW (Fr.rf.setI (by decide) (by unfold OwW; omega)) rfl)) hSt g1 ?_
            exact f4.congr (fun _ _ => ud_f (by decide)) (fun _ _ => ud_f (by decide))
          · rw [f3.pP]; exact Int32.le_refl _
        · refine g_Wd_passDays_87 (by omega) hw f2 ⟨fun h => absurd h ?_, fun _ => ⟨vp_in_nI (by omega) (by decide), ?_⟩⟩
          · rw [f3.pP]; exact nI_ge hb (by omega)
          rw [nI_clamp (by omega)]
          refine c_Wd_hangOn f3 (by omega) f2 hb f4 (fun μ2 m1 m2 m3 m4 m5 => ⟨rfl, ?_⟩)
          rw [nI_1]
          exact ih μ2 (f1.trans (FrQ.ofW m1 m2)) m3 m4 m5
      -- what comes
      have k58 : ∀ r, r ≤ T 2 0 → ∀ μ', FrQ w q μ μ' → St μ' → XC μ' w T (brA (ordF T C Ct E (T 6 0)) r) → WI T (brA (ordF T C Ct E (T 6 0)) r) → Wx K_Wd_passDays d rc rs (fun r μ' => St μ' ∧ Q r μ') 58 [(0, .ref (hd 29 w)), (1, .int (nI n)), (2, .int (nI j)), (3, .int (nI r))] [] μ' := by
        refine up_loop _ (fun μ' f1 f2 f3 f4 => ?_) (fun r hr ih μ' f1 f2 f3 f4 => ?_)
        · refine g_Wd_passDays_58 (by omega) hw f2 ⟨fun _ => k87 0 (Nat.zero_le _) μ' f1 f2 f3 f4, fun h => absurd ?_ h⟩
          rw [f3.pR]; exact Int32.le_refl _
        · refine g_Wd_passDays_58 (by omega) hw f2 ⟨fun h => absurd h ?_, fun _ => ⟨vp_in_nI (by omega) (by decide), ?_⟩⟩
          · rw [f3.pR]; exact nI_ge hr (by omega)
          rw [nI_clamp (by omega)]
          refine c_Wd_bringFrom f3 (by omega) f2 hr f4 (fun μ2 m1 m2 m3 m4 m5 => ⟨rfl, ?_⟩)
          rw [nI_1]
          exact ih μ2 (f1.trans (FrQ.ofW m1 m2)) m3 m4 m5
      -- orders
      have k9 : ∀ k, k ≤ T 6 0 → ∀ μ', FrQ w q μ μ' → St μ' → XC μ' w T (ordF T C Ct E k) → WI T (ordF T C Ct E k) → Wx K_Wd_passDays d rc rs (fun r μ' => St μ' ∧ Q r μ') 9 [(0, .ref (hd 29 w)), (1, .int (nI n)), (2, .int (nI j)), (3, .int (nI k))] [] μ' := by
        refine up_loop _ (fun μ' f1 f2 f3 f4 => ?_) (fun k hk ih μ' f1 f2 f3 f4 => ?_)
        · refine g_Wd_passDays_9 (by omega) hw f2 ⟨fun _ => k58 0 (Nat.zero_le _) μ' f1 f2 f3 f4, fun h => absurd ?_ h⟩
          rw [f3.pO]; exact Int32.le_refl _
        · refine g_Wd_passDays_9 (by omega) hw f2 ⟨fun h => absurd h ?_, fun _ => ⟨vp_in_nI (by omega) (by decide), ?_⟩⟩
          · rw [f3.pO]; exact nI_ge hk (by omega)
          rw [nI_clamp (by omega), px3 μ' f1, f3.car]
          refine c_Wd_carriesOut f3 (by omega) f2 (px3 μ' f1) (hO.fr f1) hW hk (fun μ2 m1 m2 m3 => ⟨_, rfl, ?_⟩)
          have hle := ordD_le (T := T) (C := C) (Ct := Ct) (D := ordF T C Ct E k) (k := k)
          have go : ∀ x, x = (ordD T C Ct (ordF T C Ct E k) k).2 → Wx K_Wd_passDays d rc rs (fun r μ' => St μ' ∧ Q r μ') 9 [(0, .ref (hd 29 w)), (1, .int (nI n)), (2, .int (nI j)), (3, .int (nI k + 1))] [] (setI μ2 (hd 29 w) 7 (nI (ordF T C Ct E k 3 0 0) + nI x)) := fun x hx => by
            subst hx
            rw [nI_add, nI_1]
            have g1 := m3.set (f := 3) (i := 0) (j := 0) (v := ordF T C Ct E k 3 0 0 + (ordD T C Ct (ordF T C Ct E k) k).2) (by decide) ⟨rfl, rfl⟩ m3.2.1.ud3
            have hSt : St (setI μ2 (hd 29 w) 7 (nI (ordF T C Ct E k 3 0 0 + (ordD T C Ct (ordF T C Ct E k) k).2))) := m2
            exact ih _ ((f1.trans m1).trans (FrQ.ofW (Fr.rf.setI (by decide) (by unfold OwW; omega)) rfl)) hSt g1 (WI.congr f4 (fun _ _ => by rw [ordF, ud_f (by decide), ordD_f (by decide) (by decide) (by decide) (by decide) (by decide) (by decide) (by decide)]) (fun _ _ => by rw [ordF, ud_f (by decide), ordD_f (by decide) (by decide) (by decide) (by decide) (by decide) (by decide) (by decide)]))
          refine ⟨fun z => ?_, fun z => ?_⟩
          · rw [I0, nI_eq (by omega) (by decide)] at z
            exact go 0 z.symm
          · rw [I0, nI_eq (by omega) (by decide)] at z
            exact go 1 (by omega)
      exact k9 0 (Nat.zero_le _) μ' f1 f2 f3 f4
  exact key 0 (Nat.zero_le _) μ FrQ.rf hS hC hI
