/-! what an order does -/
def ordM (T : PT) (C : Nat → List Op) (k : Nat) (w : Nat → Nat) : Prop := T 7 k = w 0 + 6 ∧ T 8 k = w 1 ∧ (w 0 ≠ 3 → T 9 k = w 2) ∧ (w 0 = 2 → T 10 k = w 4) ∧ (w 0 ≤ 1 → ∀ D, evV T D (C k) = sumS D w)
section SN
variable {d rc rs : Nat} {Q : Option Value → Mu → Prop} {μ μ' : Mu} {T : PT} {D D' : DT} {C : Nat → List Op} {OO : Nat → Nat → Nat} {c c' c'' : Nat} {own : Nat → Nat → Prop} {Λ : List Ld}
theorem pot_mk {a b b' n v m h : Nat} : pot a b T (mkD T D b' n v m h) = pot a b T D := pot_congr (mk_f (by decide) (by decide) (by decide) (by decide) (by decide)) (fun i j => mk_f (by decide) (by decide) (by decide) (by decide) (by decide))
theorem lt0 : ((-1 : Int32) < 0) := by decide
noncomputable abbrev doD (T : PT) (C : Nat → List Op) (D : DT) (k : Nat) : DT × Nat := ordD T C (fun _ => []) D k
theorem c_SI_does {k : Nat} (hR : SR μ T D OO c) (hL : LR μ Λ c) (hP : LPd T D Λ) (hI : Inv T D) (hk : k < T 6 0) (hw : ownOK T (OO k)) (hm : ordM T C k (OO k)) (hD : 5 ≤ d)
    (hc : 14 + pot 11 1 T D ≤ rc + pot 11 1 T (doD T C D k).1) (hs : 500 + pot 4880 481 T D ≤ rs + pot 4880 481 T (doD T C D k).1) (hS : St μ)
    (hQ : ∀ μ' c' Λ', c ≤ c' → FrS (OwH c c') μ μ' → St μ' → SR μ' T (doD T C D k).1 OO c' → LR μ' Λ' c' → LPd T (doD T C D k).1 Λ' → Q (some (.int (nI (doD T C D k).2))) μ') : Cal K_SI_does d rc rs [.ref (hd 100 0), .ref (hd 118 k)] μ Q := by
  have hB := hI.1
  have hP5 := hB.1.1
  have hN6 := hB.1.2.1
  have hR8 := hB.1.2.2.1
  have hS60 := hB.1.2.2.2.2.1
  obtain ⟨m1, m2, m3, m4, m5⟩ := hm
  obtain ⟨w0, w1, w1', w2, w3, w4, w4', w5, w6, w7, wa, wb, wc⟩ := hw
  obtain ⟨x1, x2, x3⟩ := hR.2.2.2.2.2.2.2.2.1
  obtain ⟨y1, y2, y3⟩ := x3 k hk
  have v8 : ∀ {j}, j < 8 → vp_in (nI j) 8 := fun h => vI h (by decide)
  have g0 : gI μ (hd 118 k) (0 : Int32).toNatClampNeg = nI (OO k 0) := y3 0 (by decide)
  have g1 : gI μ (hd 118 k) (1 : Int32).toNatClampNeg = nI (OO k 1) := y3 1 (by decide)
  have g2 : gI μ (hd 118 k) (2 : Int32).toNatClampNeg = nI (OO k 2) := y3 2 (by decide)
  have g3 : gI μ (hd 118 k) (3 : Int32).toNatClampNeg = nI (OO k 3) := y3 3 (by decide)
  have g4 : gI μ (hd 118 k) (4 : Int32).toNatClampNeg = nI (OO k 4) := y3 4 (by decide)
  have e0 : doD T C D k = (if T 7 k = 9 then (sendD D (T 8 k), bN (0 < carN D (T 8 k) (D 1 0 0))) else if D 1 0 0 = 60 then (D, 0) else if T 7 k = 8 then (if 2 ≤ (shL D (T 8 k) (T 9 k)).length then (meD T D (T 8 k) (T 9 k) (T 10 k), 1) else (D, 0)) else if T 7 k = 7 then @ite _ (newMk D (T 8 k) (T 9 k) (evV T D (C k))) (Classical.propDecidable _) (noD T D (T 8 k) (T 9 k) (evV T D (C k)).toNatClampNeg, 1) (D, 0) else (wrD T D (T 8 k) (T 9 k) (clampN (evV T D (C k))), 1)) := by
    show ordD T C (fun _ => []) D k = _
    unfold ordD
    rw [if_neg (fun z => z.1 rfl)]
  -- nothing is done
  have none' : doD T C D k = (D, 0) → ∀ μ' c', SimP μ T D OO c c' μ' → St μ' ∧ Q (some (.int 0)) μ' := fun e μ' c' h => by
    obtain ⟨h1, h2, h3, h4, h5⟩ := h
    have q := hQ μ' c' Λ h1 h2 h3 (by rw [e]; exact h4) (hL.fr h2 h1 h5) (by rw [e]; exact hP)
    rw [e] at q
    exact ⟨h3, q⟩
  -- a sheet more
  have made : ∀ b n v m h, D 1 0 0 < 60 → doD T C D k = (mkD T D b n v m h, 1) → ∀ μ' c', SimP μ T (mkD T D b n v m h) OO c c' μ' → St μ' ∧ Q (some (.int 1)) μ' := fun b n v m h h60 e μ' c' hh => by
    obtain ⟨h1, h2, h3, h4, h5⟩ := hh
    have q := hQ μ' c' Λ h1 h2 h3 (by rw [e]; exact h4) (hL.fr h2 h1 h5) (by rw [e]; exact hP.mk hI h60)
    rw [e] at q
    exact ⟨h3, q⟩
  refine e_SI_does (r_SI_does_0 (by omega) ⟨8, ⟨y2, v8 (j := 1) (by decide)⟩, 8, ⟨y2, v8 (j := 2) (by decide)⟩, 8, ⟨y2, v8 (j := 0) (by decide)⟩, ?_⟩)
  rw [g0, g1, g2]
  refine ⟨fun e => ?_, fun e => ⟨8, ⟨y2, v8 (j := 0) (by decide)⟩, fun e2 => ?_, fun e2 => ?_⟩⟩
  · -- sending
    have e' : OO k 0 = 3 := (nI_eq (by omega) (by decide)).mp e
    have h9 : T 7 k = 9 := by omega
    have e1 := e0
    rw [if_pos h9, m2] at e1
    have hr := w1 e'
    rw [e1] at hc hs
    have hp := LPd.len hP hB
    have p1 := pot_send (a := 11) (b := 1) (x := 2) hI hr (by decide)
    have p2 := pot_send (a := 4880) (b := 481) (x := 544) hI hr (by decide)
    have hc' : 14 + pot 11 1 T D ≤ rc + pot 11 1 T (sendD D (OO k 1)) := hc
    have hs' : 500 + pot 4880 481 T D ≤ rs + pot 4880 481 T (sendD D (OO k 1)) := hs
    refine ⟨rc, rs, ⟨Nat.le_refl _, Nat.le_refl _⟩, hR.1.1, c_SI_send hR hL hI hp.2 (by omega) (by omega) (by omega) hS hr (fun μ' c' h1 h2 h3 h4 h5 => ⟨_, rfl, ?_⟩)⟩
    have q := hQ μ' c' _ h1 h2 h3 (by rw [e1]; exact h4) h5 (by rw [e1]; exact hP.send hI hr)
    rw [e1] at q
    have hcn : carN D (OO k 1) (D 1 0 0) ≤ D 1 0 0 * 1 := sumN_le _ (fun _ _ => bN_le)
    rw [I0, nI_leI (by omega) (by decide)]
    refine ⟨fun z => ⟨h3, ?_⟩, fun z => ⟨h3, ?_⟩⟩
    · rw [bN_f (by omega)] at q; exact q
    · rw [bN_t (by omega)] at q; exact q
  · -- merging
    have e' : OO k 0 = 2 := (nI_eq (by omega) (by decide)).mp e2
    have hb := w1' (by omega)
    have e1 := e0
    rw [if_neg (show ¬ T 7 k = 9 by omega), if_pos (show T 7 k = 8 by omega), m2, m3 (by omega), m4 e'] at e1
    refine ⟨8, ⟨y2, v8 (j := 4) (by decide)⟩, 9, 330, ?_, hR.1.1, ?_⟩
    · have : pot 11 1 T (doD T C D k).1 = pot 11 1 T D ∧ pot 4880 481 T (doD T C D k).1 = pot 4880 481 T D := by
        rw [e1]
        split
        · exact ⟨rfl, rfl⟩
        · split
          · exact ⟨pot_mk, pot_mk⟩
          · exact ⟨rfl, rfl⟩
      omega
    · rw [g4]
      refine c_SI_merge hR hI (by omega) (Nat.le_refl _) (Nat.le_refl _) hS hb w2 (w4' e') (fun h μ' c' z => ⟨_, rfl, fun _ => ?_, fun z2 => absurd lt0 z2⟩) (fun h1 h2 μ' c' z => ⟨_, rfl, fun z2 => absurd z2 (ip0 (by omega)), fun _ => ?_⟩)
      · refine none' ?_ μ' c' z
        rw [e1]
        by_cases y : D 1 0 0 = 60
        · rw [if_pos y]
        · rw [if_neg y, if_neg (fun x => h ⟨x, by omega⟩)]
      · refine made _ _ _ _ _ h2 ?_ μ' c' z
        rw [e1, if_neg (by omega), if_pos h1]
        rfl
  · -- writing, noting
    have e' : OO k 0 ≤ 1 := by
      have h3 : OO k 0 ≠ 3 := fun z => e (by rw [z]; rfl)
      have h2 : OO k 0 ≠ 2 := fun z => e2 (by rw [z]; rfl)
      omega
    have hb := w1' (by omega)
    have ev := m5 e' D
    have e1 := e0
    rw [if_neg (show ¬ T 7 k = 9 by omega), if_neg (show ¬ T 7 k = 8 by omega), m2, m3 (by omega), ev] at e1
    have hpot : pot 11 1 T (doD T C D k).1 = pot 11 1 T D ∧ pot 4880 481 T (doD T C D k).1 = pot 4880 481 T D := by
      rw [e1]
      split
      · exact ⟨rfl, rfl⟩
      · split
        · split
          · exact ⟨pot_mk, pot_mk⟩
          · exact ⟨rfl, rfl⟩
        · exact ⟨pot_mk, pot_mk⟩
    have l105 : ∀ μ1 c1 rc' rs', c ≤ c1 → FrS (Dy c c1) μ μ1 → rc ≤ rc' + 2 → rs ≤ rs' + 65 → Wx K_SI_does d rc' rs' (fun r μ' => St μ' ∧ Q r μ') 105 [(0, .ref (hd 100 0)), (1, .ref (hd 118 k)), (2, .int (nI (OO k 1))), (3, .int (nI (OO k 2)))] [.int (sumS D (OO k))] μ1 := by
      intro μ1 c1 rc' rs' hc1 f1 hrc hrs
      have R1 := hR.dy f1 hc1
      have S1 := f1.st (fun κ i z => z.lo) hS
      obtain ⟨-, z2, z3⟩ := R1.2.2.2.2.2.2.2.2.1.2.2 k hk
      have g0' : gI μ1 (hd 118 k) (0 : Int32).toNatClampNeg = nI (OO k 0) := z3 0 (by decide)
      generalize hx : sumS D (OO k) = x at *
      refine r_SI_does_105 (by omega) ⟨8, ⟨z2, v8 (j := 0) (by decide)⟩, ?_⟩
      rw [g0']
      refine ⟨fun e3 => ?_, fun e3 => ?_⟩
      · have e3' : OO k 0 = 0 := (nI_eq (by omega) (by decide)).mp e3
        have e4 := e1
        rw [if_neg (show ¬ T 7 k = 7 by omega)] at e4
        have wr : ∀ v, clampN x = v → ∀ μ1', μ1' = μ1 → ∀ z : Int32, z = nI v → Cal K_SI_write (d - 1) 7 265 [.ref (hd 100 0), .int (nI (OO k 1)), .int (nI (OO k 2)), .int z] μ1' (fun r μ18 => ∃ y20, r = some (.int y20) ∧ ((y20 < 0 → (fun r μ' => St μ' ∧ Q r μ') (some (.int 0)) μ18) ∧ (¬ y20 < 0 → (fun r μ' => St μ' ∧ Q r μ') (some (.int 1)) μ18))) := by
          intro v hv μ1' hμ z hz
          subst hμ; subst hz
          have hv9 := (clamp_ok x).2
          rw [hv] at hv9
          refine c_SI_write R1 hI (by omega) (Nat.le_refl _) (Nat.le_refl _) S1 hb w2 hv9 (fun h => ⟨_, rfl, fun _ => ?_, fun z2 => absurd lt0 z2⟩) (fun h μ' c' z => ⟨_, rfl, fun z2 => absurd z2 (ip0 (by omega)), fun _ => ?_⟩)
          · exact none' (by rw [e4, if_pos h]) _ c1 (SimP.look f1 hc1 hS hR)
          · exact made _ _ _ _ _ h (by rw [e4, if_neg (by omega), hv]; rfl) μ' c' (SimP.after f1 hc1 z)
        have cl := clamp_ok x
        have e9 : ((9999 : Int32).toInt) = 9999 := by decide
        have e00 : ((0 : Int32).toInt) = 0 := by decide
        have ct : (clampN x : Int) = max 0 (min x.toInt 9999) := by
          have := congrArg Int32.toInt cl.1
          rw [imax_toInt, imin_toInt, nI_toInt (by omega), e9, e00] at this
          exact this.symm
        refine ⟨fun h => ⟨fun h9 => ⟨7, 265, ⟨by omega, by omega⟩, R1.1.1, wr (clampN x) rfl _ rfl x ?_⟩, fun h9 => ⟨7, 265, ⟨by omega, by omega⟩, R1.1.1, wr 9999 ?_ _ rfl _ rfl⟩⟩, fun h => ⟨7, 265, ⟨by omega, by omega⟩, R1.1.1, wr 0 ?_ _ rfl _ rfl⟩⟩
        · rw [Int32.le_iff_toInt_le, e00] at h
          rw [Int32.le_iff_toInt_le, e9] at h9
          apply Int32.toInt_inj.mp
          rw [nI_toInt (by omega)]
          omega
        · rw [Int32.le_iff_toInt_le, e9] at h9
          omega
        · rw [Int32.le_iff_toInt_le, e00] at h
          omega
      · have e3' : OO k 0 = 1 := by
          have : OO k 0 ≠ 0 := fun z => e3 (by rw [z]; rfl)
          omega
        have e4 := e1
        rw [if_pos (show T 7 k = 7 by omega)] at e4
        have no' : ¬ newMk D (OO k 1) (OO k 2) x → ∀ rc'' rs'' μ' c', SimP μ T D OO c c' μ' → Wx K_SI_does d rc'' rs'' (fun r μ' => St μ' ∧ Q r μ') 194 [] [] μ' := fun h rc'' rs'' μ' c' z => r_SI_does_194 (by omega) (none' (by
          rw [e4]
          rw [if_neg h, ite_self]) μ' c' z)
        have e00 : ((0 : Int32).toInt) = 0 := by decide
        have e16 : ((16 : Int32).toInt) = 16 := by decide
        have lk := SimP.look f1 hc1 hS hR
        refine ⟨fun h => no' (fun z => by have := z.1.1; rw [Int32.lt_iff_toInt_lt, e00] at h; omega) _ _ _ _ lk, fun h => ⟨fun h16 => no' (fun z => by have := z.1.2; rw [Int32.le_iff_toInt_le, e16] at h16; omega) _ _ _ _ lk, fun h16 => ?_⟩⟩
        rw [Int32.lt_iff_toInt_lt, e00] at h
        rw [Int32.le_iff_toInt_le, e16] at h16
        obtain ⟨j, hj, rfl, hjx⟩ := nat_of (x := x) (by omega)
        have hj16 : j < 16 := by omega
        refine ⟨2, 65, ⟨by omega, by omega⟩, R1.1.1, c_SI_marks R1 hB (by omega) (Nat.le_refl _) (Nat.le_refl _) S1 hb w2 (fun μ2 f2 S2 => ⟨_, rfl, fun hbit => ?_, fun hbit => ?_⟩)⟩
        · have R2 := R1.dy f2 (by omega)
          have f12 : FrS (Dy c (c1 + 2)) μ μ2 := (f1.mono (fun κ i z => by unfold Dy at z ⊢; omega)).trans (f2.mono (fun κ i z => by unfold Dy at z ⊢; omega))
          have hbit' := (bq_t (x := nI (marksB D (OO k 1) (OO k 2))) (k := j) (by omega)).mpr hbit
          refine ⟨7, 265, ⟨by omega, by omega⟩, R2.1.1, c_SI_note R2 hI (by omega) (Nat.le_refl _) (Nat.le_refl _) S2 hb w2 hj16 (fun h μ' c' z => ⟨_, rfl, fun _ => ?_, fun z2 => absurd lt0 z2⟩) (fun h1 h2 μ' c' z => ⟨_, rfl, fun z2 => absurd z2 (ip0 (by omega)), fun _ => ?_⟩)⟩
          · have z' := SimP.after f12 (by omega) z
            refine r_SI_does_194 (by omega) (none' ?_ μ' c' z')
            rw [e4]
            by_cases y : D 1 0 0 = 60
            · rw [if_pos y]
            · rw [if_neg y, if_neg (fun w => h ⟨w.2.1, by omega⟩)]
          · refine made _ _ _ _ _ h2 ?_ μ' c' (SimP.after f12 (by omega) z)
            rw [e4, if_neg (by omega), if_pos ⟨⟨by omega, by omega⟩, h1, hbit'⟩, nI_clamp (by omega)]
            rfl
        · have hbit' : ¬ (nI (marksB D (OO k 1) (OO k 2)) >>> (nI j &&& 31)) &&& 1 = 0 := fun z => hbit ((bq_t (by omega)).mp z)
          have f12 : FrS (Dy c (c1 + 2)) μ μ2 := (f1.mono (fun κ i z => by unfold Dy at z ⊢; omega)).trans (f2.mono (fun κ i z => by unfold Dy at z ⊢; omega))
          exact no' (fun z => hbit' z.2.2) _ _ μ2 (c1 + 2) (SimP.look f12 (by omega) hS hR)
    refine ⟨8, ⟨y2, v8 (j := 3) (by decide)⟩, ?_⟩
    rw [g3]
    refine ⟨fun e3 => ⟨8, ⟨y2, v8 (j := 4) (by decide)⟩, ?_⟩, fun e3 => ⟨8, ⟨y2, v8 (j := 3) (by decide)⟩, ?_⟩⟩
    · have e3' : OO k 3 = 0 := (nI_eq (by omega) (by decide)).mp e3
      have z := l105 μ c rc rs (Nat.le_refl _) FrS.rf (by omega) (by omega)
      rw [g4]
      unfold sumS at z
      rw [if_pos e3'] at z
      exact z
    · refine ⟨fun e4 => ⟨hR.1.1, 8, ⟨y2, v8 (j := 4) (by decide)⟩, ?_⟩, fun e4 => ⟨8, ⟨y2, v8 (j := 4) (by decide)⟩, 2, 65, ⟨by omega, by omega⟩, hR.1.1, ?_⟩⟩
      · have e4' : OO k 3 = 1 := (nI_eq (by omega) (by decide)).mp e4
        have z := l105 μ c rc rs (Nat.le_refl _) FrS.rf (by omega) (by omega)
        rw [g4, hR.1.2.1]
        unfold sumS at z
        rw [if_neg (by omega), if_pos e4'] at z
        exact z
      · have h0 : OO k 3 ≠ 0 := fun z => e3 (by rw [z]; rfl)
        have h1 : OO k 3 ≠ 1 := fun z => e4 (by rw [z]; rfl)
        refine c_SI_shows hR hB (by omega) (Nat.le_refl _) (Nat.le_refl _) hS hb w2 (fun μ1 f1 s1 r1 => ⟨_, rfl, _, s1, (hR.dy f1 (by omega)).1.1, ?_⟩)
        have z := l105 μ1 (c + 2) (rc - 2) (rs - 65) (by omega) f1 (by omega) (by omega)
        rw [g4, (hR.dy f1 (by omega)).1.2.1]
        unfold sumS at z
        rw [if_neg h0, if_neg h1] at z
        exact z
end SN
