/-! the model is taught -/
/-- what the model's face leaves as it was -/
def FrX (μ μ' : Mu) : Prop := EqR 6 39 μ μ' ∧ EqR 86 255 μ μ' ∧ mS μ' (hd 6 0) = mS μ (hd 6 0)
theorem FrX.rf {μ : Mu} : FrX μ μ := ⟨EqR.rf, EqR.rf, rfl⟩
theorem FrX.trans {μ1 μ2 μ3 : Mu} (h : FrX μ1 μ2) (h' : FrX μ2 μ3) : FrX μ1 μ3 := ⟨h.1.trans h'.1, h.2.1.trans h'.2.1, h'.2.2.trans h.2.2⟩
theorem FrX.of {own : Nat → Nat → Prop} {μ μ' : Mu} (f : Fr own μ μ') (ho : ∀ κ i, own κ i → 40 ≤ κ ∧ κ ≤ 85) : FrX μ μ' :=
  ⟨EqR.of f (by decide) (fun κ i a b z => by have := ho κ i z; omega), EqR.of f (by decide) (fun κ i a b z => by have := ho κ i z; omega), by rw [f.1]⟩
theorem FrX.o {w : Nat} {μ μ' : Mu} (f : FrO w μ μ') : FrX μ μ' := FrX.of f.1 (fun κ i z => by unfold OwM at z; omega)
theorem FrX.n {q : Nat} {μ μ' : Mu} (f : FrN q μ μ') : FrX μ μ' :=
  ⟨fun κ i k a b => f.1 κ i k a (by omega) (by omega) (by omega) (by omega), fun κ i k a b => f.1 κ i k (by omega) (by omega) (by omega) (by omega) (by omega), f.2.2.2.2⟩
theorem FrX.I40 {μ : Mu} {k : Nat} {x : Int32} : FrX μ (setI μ (hd 40 0) k x) := FrX.of (own := fun κ i => κ = 40 ∧ i = 0) (Fr.rf.setI (by decide) ⟨rfl, rfl⟩) (fun κ i z => by omega)
section TMM
variable {d rc rs : Nat} {Q : Option Value → Mu → Prop} {μ : Mu} {T : PT} {C Ct : Nat → List Op} {D : DT} {t : Nat → Nat} {L q : Nat} {x : Int32} {os : List Ord3}
/-- the plan as it is read holds the new numbers -/
theorem MFin.orders (hM : MFin μ t L q os) (hLn : LnOK (tK t L) (nT t L) 0 (nT t L) os) : XOM μ q (ntT t L os) (ntC t L os) (ntE t L os) := by
  obtain ⟨m1, m2, m3, m4, m5, m6, m7⟩ := hM
  have hn4 := nT_le (t := t) (L := L)
  have hlen := os_len hLn
  intro k hk
  have hk' : k < os.length := hk
  obtain ⟨o, ho⟩ := get_lt (os := os) hk'
  obtain ⟨g1, g2, g3, g4, g5, g6, g7, g8, g9⟩ := or_facts hLn ho
  have hom := List.mem_of_getElem? ho
  have e7 : ntT t L os 7 k = tK t L o.1 := by show tK t L (os.getD k (0, [], [])).1 = _; rw [getD_of ho]
  have e9 : ntT t L os 9 k = plc t L 2 (o.1 + 2) (o.1 + 2) - 1 := by show plc t L 2 ((os.getD k (0, [], [])).1 + 2) ((os.getD k (0, [], [])).1 + 2) - 1 = _; rw [getD_of ho]
  have e10 : ntT t L os 10 k = tK t L (o.1 + 4) - 13 := by show tK t L ((os.getD k (0, [], [])).1 + 4) - 13 = _; rw [getD_of ho]
  have e8 : ntT t L os 8 k = if tK t L o.1 = 9 then plc t L 3 (o.1 + 1) (o.1 + 1) - 1 else plc t L 1 (o.1 + 1) (o.1 + 1) - 1 := by
    show (if tK t L (os.getD k (0, [], [])).1 = 9 then plc t L 3 ((os.getD k (0, [], [])).1 + 1) ((os.getD k (0, [], [])).1 + 1) - 1 else plc t L 1 ((os.getD k (0, [], [])).1 + 1) ((os.getD k (0, [], [])).1 + 1) - 1) = _
    rw [getD_of ho]
  have eC : ntC t L os k = o.2.1.map (stO t L) := by unfold ntC; rw [getD_of ho]
  have eE : ntE t L os k = o.2.2.map (stO t L) := by unfold ntE; rw [getD_of ho]
  have sp := flatO_split (os := os) ho
  have hrf := hLn.ref
  have r1 : ∀ a ∈ o.2.1, refF (tK t L) (nT t L) a := fun a ha => hrf a (by rw [sp]; exact List.mem_append_right _ (List.mem_append_left _ (List.mem_append_left _ ha)))
  have r2 : ∀ a ∈ o.2.2, refF (tK t L) (nT t L) a := fun a ha => hrf a (by rw [sp]; exact List.mem_append_right _ (List.mem_append_left _ (List.mem_append_right _ ha)))
  have r0 : ∀ a ∈ flatO (os.take k), refF (tK t L) (nT t L) a := fun a ha => hrf a (by rw [sp]; exact List.mem_append_left _ ha)
  have n1 := encN_of (t := t) (L := L) o.2.1 r1
  have n2 := encN_of (t := t) (L := L) o.2.2 r2
  have n0 := encN_of (t := t) (L := L) _ r0
  obtain ⟨s1, s2, s3⟩ := m5 k o (by omega) ho
  have hw : wdL (flatO os) = wdL (flatO (os.take k)) + (wdL o.2.1 + wdL o.2.2 + wdL (flatO (os.drop (k + 1)))) := by rw [sp, wdL_app, wdL_app, wdL_app]
  have hc : coL (flatO os) = coL (flatO (os.take k)) + (coL o.2.1 + coL o.2.2 + coL (flatO (os.drop (k + 1)))) := by rw [sp, coL_app, coL_app, coL_app]
  have hw8 := hLn.2.2.2.1
  have hc4 := hLn.2.2.1
  have c1 := coL_ge o.2.1
  have c2 := coL_ge o.2.2
  rw [sp, List.map_append, List.map_append, List.map_append, cdM_app, cdM_app, cdM_app, n0, Nat.zero_add, n1] at m6
  obtain ⟨-, ⟨w1, w2⟩, -⟩ := m6
  have a : ∀ i, i < nT t L → arN (rl (tK t L) i) ≠ 0 → mI μ (hd (arN (rl (tK t L) i)) q) (slN (tK t L) i) = vlN t L i := m4
  refine ⟨wdL (flatO (os.take k)), ?_, ?_, fun h => ?_, fun h => ?_, s1, ?_, ?_, ?_, ?_, ?_, ?_, ?_⟩
  · have := a o.1 (by omega) (by rw [g4]; decide)
    rw [g4] at this
    rw [e7]
    refine Eq.trans ?_ (this.trans ?_)
    · show mI μ (hd 54 q) k = mI μ (hd 54 q) (slN (tK t L) o.1)
      unfold slN; rw [if_pos g4, g3]
    · unfold vlN; rw [g4]; rfl
  · rw [e8]
    by_cases h : tK t L o.1 = 9
    · have l := g7 h
      have := a (o.1 + 1) g2 (by rw [l]; decide)
      rw [l] at this
      rw [if_pos h]
      refine Eq.trans ?_ (this.trans ?_)
      · show mI μ (hd 55 q) k = mI μ (hd 55 q) (slN (tK t L) (o.1 + 1))
        unfold slN; rw [l, if_neg (by decide), if_neg (by decide), g6, Nat.add_sub_cancel]
      · unfold vlN; rw [l]; rfl
    · have l := (g8 h).1
      have := a (o.1 + 1) g2 (by rw [l]; decide)
      rw [l] at this
      rw [if_neg h]
      refine Eq.trans ?_ (this.trans ?_)
      · show mI μ (hd 55 q) k = mI μ (hd 55 q) (slN (tK t L) (o.1 + 1))
        unfold slN; rw [l, if_neg (by decide), if_neg (by decide), g6, Nat.add_sub_cancel]
      · unfold vlN; rw [l]; rfl
  · rw [e7] at h
    obtain ⟨-, l1, -, l, l2⟩ := g8 h
    have := a (o.1 + 2) l1 (by rw [l]; decide)
    rw [l] at this
    rw [e9]
    refine Eq.trans ?_ (this.trans ?_)
    · show mI μ (hd 56 q) k = mI μ (hd 56 q) (slN (tK t L) (o.1 + 2))
      unfold slN; rw [l, if_neg (by decide), if_neg (by decide), l2, Nat.add_sub_cancel]
    · unfold vlN; rw [l]; rfl
  · rw [e7] at h
    obtain ⟨l1, -, -, l, l2⟩ := g9 h
    have := a (o.1 + 4) l1 (by rw [l]; decide)
    rw [l] at this
    rw [e10]
    refine Eq.trans ?_ (this.trans ?_)
    · show mI μ (hd 57 q) k = mI μ (hd 57 q) (slN (tK t L) (o.1 + 4))
      unfold slN; rw [l, if_neg (by decide), if_neg (by decide), l2, Nat.add_sub_cancel]
    · unfold vlN; rw [l]; rfl
  · rw [eC, n1]; exact s2
  · rw [eC, eE, n1, n2]; exact s3
  · rw [eC, eE, n1, n2]; omega
  · rw [eC]; exact w1
  · rw [eC, eE, n1]; exact w2
  · rw [eC, List.length_map]; omega
  · rw [eE, List.length_map]; omega
theorem MFin.roads (hM : MFin μ t L q os) (hls : ∀ j, j < nT t L → LSj (tK t L) j) {r : Nat} (hr : r < cn (tK t L) 3 (nT t L)) : mI μ (hd 51 q) r = nI (ntD t L 12 r 0) ∧ mI μ (hd 52 q) r = nI (ntD t L 12 r 1) ∧ mI μ (hd 53 q) r = nI (ntD t L 9 r 0) := by
  obtain ⟨m1, m2, m3, m4, m5, m6, m7⟩ := hM
  obtain ⟨a1, ⟨a2, a3, a4⟩, a5, a6, a7⟩ := rd_facts hls hr
  refine ⟨?_, ?_, ?_⟩
  · have := m4 (ndI t L r + 2) (by omega) (by rw [a2]; decide)
    rw [a2] at this
    refine Eq.trans ?_ (this.trans ?_)
    · show mI μ (hd 51 q) r = mI μ (hd 51 q) (slN (tK t L) (ndI t L r + 2))
      unfold slN; rw [a2, if_neg (by decide), if_pos (by decide), a5, Nat.add_sub_cancel]
    · unfold vlN; rw [a2]; rfl
  · have := m4 (ndI t L r + 4) (by omega) (by rw [a3]; decide)
    rw [a3] at this
    refine Eq.trans ?_ (this.trans ?_)
    · show mI μ (hd 52 q) r = mI μ (hd 52 q) (slN (tK t L) (ndI t L r + 4))
      unfold slN; rw [a3, if_neg (by decide), if_pos (by decide), a6, Nat.add_sub_cancel]
    · unfold vlN; rw [a3]; rfl
  · have := m4 (ndI t L r + 6) (by omega) (by rw [a4]; decide)
    rw [a4] at this
    refine Eq.trans ?_ (this.trans ?_)
    · show mI μ (hd 53 q) r = mI μ (hd 53 q) (slN (tK t L) (ndI t L r + 6))
      unfold slN; rw [a4, if_neg (by decide), if_pos (by decide), a7, Nat.add_sub_cancel]
    · unfold vlN; rw [a4]; rfl
/-- the model stands, but for its tape, its error and new things -/
theorem MI.fail {μ' : Mu} {y : Int32} {t' : Nat → Nat} (h : MI μ T C Ct D t L x) (hq : px μ (hd 40 0) 11 ≠ q) (f : FrN q μ μ') : ∀ μ'', μ'' = setI μ' (hd 40 0) 2 0 → mI μ'' (hd 40 0) 3 = y → MI μ'' T C Ct D t' 0 y := by
  intro μ'' e hy
  obtain ⟨⟨Es, g1, g2, g3⟩, g4, -, -⟩ := h
  obtain ⟨f1, f2, f3, f4, f5⟩ := f
  have p11 : px μ'' (hd 40 0) 11 = px μ (hd 40 0) 11 := by rw [e]; unfold px; rw [mR_setI, f4]
  have i5 : ∀ κ k, 50 ≤ κ → κ ≤ 62 → mI μ'' (hd κ (px μ (hd 40 0) 11)) k = mI μ (hd κ (px μ (hd 40 0) 11)) k := fun κ k a b => by rw [e, rd_ne (by decide) (by omega) (by omega)]; exact f2 κ _ k a b hq
  have iw : ∀ κ k, 65 ≤ κ → κ ≤ 81 → mI μ'' (hd κ 0) k = mI μ (hd κ 0) k ∧ mL μ'' (hd κ 0) k = mL μ (hd κ 0) k := fun κ k a b => by
    have := f1 κ 0 k (by omega) (by omega) (by omega) (by omega) (by omega)
    rw [e, rd_ne (by decide) (by omega) (by omega)]
    exact ⟨this.1, this.2.1⟩
  refine ⟨⟨Es, g1.tr p11 (fun κ k a b => i5 κ k a (by omega)) (fun κ k a b => iw κ k a (by omega)), g2.tr (fun κ k a b => iw κ k a b), g3⟩, ?_, ⟨by rw [e, rd_eq]; rfl, fun k hk => absurd hk (Nat.not_lt_zero _)⟩, hy⟩
  rw [p11]
  exact fun k hk => (g4 k hk).tr (fun κ j a b => i5 κ j (by omega) (by omega))
theorem c_MM_teach (hD : 112 ≤ d) (hrc : 13 ≤ rc) (hrs : 1386 ≤ rs) (hS : St μ) (hM : MI μ T C Ct D t L x) (hL : L ≤ 2000) (ht : ∀ k, k < L → t k < 256) (hQ : ∀ μ' c p r, TchO t L c p r → FrX μ μ' → St μ' → mI μ' (hd 40 0) 0 = 0 → MI μ' (nxT t L r T) (nxC t L r C) (nxE t L r Ct) (nxD t L r D) t 0 p → Q (some (.int c)) μ') : Cal K_MM_teach d rc rs [.ref (hd 40 0)] μ Q := by
  obtain ⟨m1, m2, ⟨m3, m4⟩, m5⟩ := id hM
  have s1 : St (setI (setI μ (hd 40 0) 0 0) (hd 40 0) 3 (-1)) := hS
  have x1 : FrX μ (setI (setI μ (hd 40 0) 0 0) (hd 40 0) 3 (-1)) := FrX.I40.trans FrX.I40
  have hT : TM (setI (setI μ (hd 40 0) 0 0) (hd 40 0) 3 (-1)) t L := by
    refine ⟨hL, ht, ?_, fun k hk => ?_⟩
    · rw [rd_k (by decide), rd_k (by decide)]; exact m3
    · rw [rd_ne (by decide) (by decide) (by decide), rd_ne (by decide) (by decide) (by decide)]; exact m4 k hk
  have hM1 : MI (setI (setI μ (hd 40 0) 0 0) (hd 40 0) 3 (-1)) T C Ct D t L (-1) := by
    obtain ⟨⟨Es, g1, g2, g3⟩, g4, ⟨g5, g6⟩, -⟩ := hM
    have i : ∀ κ i k, κ < 256 → κ ≠ 40 → mI (setI (setI μ (hd 40 0) 0 0) (hd 40 0) 3 (-1)) (hd κ i) k = mI μ (hd κ i) k := fun κ i k a b => by rw [rd_ne (by decide) a b, rd_ne (by decide) a b]
    refine ⟨⟨Es, g1.tr rfl (fun κ k a b => i _ _ _ (by omega) (by omega)) (fun κ k a b => ⟨i _ _ _ (by omega) (by omega), rfl⟩), g2.tr (fun κ k a b => ⟨i _ _ _ (by omega) (by omega), rfl⟩), g3⟩, fun k hk => (g4 k hk).tr (fun κ j a b => i _ _ _ (by omega) (by omega)), ⟨?_, fun k hk => ?_⟩, rd_eq⟩
    · rw [rd_k (by decide), rd_k (by decide)]; exact g5
    · rw [i _ _ _ (by decide) (by decide)]; exact g6 k hk
  have z0 : mI (setI (setI μ (hd 40 0) 0 0) (hd 40 0) 3 (-1)) (hd 40 0) 0 = 0 := by rw [rd_k (by decide), rd_eq]
  have z3 : mI (setI (setI μ (hd 40 0) 0 0) (hd 40 0) 3 (-1)) (hd 40 0) 3 = -1 := rd_eq
  refine e_MM_teach (g_MM_teach_0 (by omega) hS ⟨hrc, hrs, ?_⟩)
  generalize setI (setI μ (hd 40 0) 0 0) (hd 40 0) 3 (-1) = μ1 at *
  have hfr : ∀ q, FrP μ1 q → px μ1 (hd 40 0) 11 ≠ q := fun q hq e => by
    have h1 := s_50 s1.plan.2
    rw [e] at h1
    have h2 := hq 50 (by decide)
    rw [h2] at h1
    exact absurd h1 (by decide)
  refine c_MM_read (by omega) (Nat.le_refl _) (Nat.le_refl _) s1 hT (fun μ2 q p' hq f s2 hp h3 => ⟨1, rfl, fun h => absurd h (by decide), fun _ => ?_⟩) (fun μ2 q p' os e hq f s2 hp he hne hlt h3 => ⟨_, rfl, fun h => absurd h ?_, fun _ => ?_⟩) (fun μ2 q p' os hq f s2 hp hF h3 => ⟨0, rfl, fun _ => ?_, fun h => absurd (Int32.le_refl _) h⟩)
  · have s3 : St (setI μ2 (hd 40 0) 2 0) := s2
    refine ⟨s3, hQ _ 1 (nI (tS t L p')) none (Or.inl ⟨p', hp, rfl, rfl, rfl⟩) ((x1.trans (FrX.n f)).trans FrX.I40) s3 ?_ (hM1.fail (hfr q hq) f _ rfl ((rd_k (by decide)).trans h3))⟩
    rw [rd_k (by decide), f.2.2.1 0 (by decide) (by decide) (by decide)]; exact z0
  · have he9 : ern t L e < 10 := ern_lt
    rw [Int32.le_iff_toInt_le, nI_toInt (by omega)]
    show ¬ ((ern t L e : Int) ≤ 0)
    omega
  · have s3 : St (setI μ2 (hd 40 0) 2 0) := s2
    refine ⟨s3, hQ _ (nI (ern t L e)) (nI (tS t L e)) none (Or.inr (Or.inl ⟨p', os, e, hp, he, hne, hlt, rfl, rfl, rfl⟩)) ((x1.trans (FrX.n f)).trans FrX.I40) s3 ?_ (hM1.fail (hfr q hq) f _ rfl ((rd_k (by decide)).trans h3))⟩
    rw [rd_k (by decide), f.2.2.1 0 (by decide) (by decide) (by decide)]; exact z0
  · obtain ⟨hpp, h46, hLn⟩ := plF_facts hp
    subst hpp
    have hls : ∀ j, j < nT t L → LSj (tK t L) j := fun j hj => hLn.2.2.2.2.1 j (Nat.zero_le _) hj
    have hl := os_len hLn
    obtain ⟨w1, ⟨w2, w3, w4, w5⟩, w6, -, -, -, w7⟩ := id hF
    have hDB := nt_DB (os := os) hls w7 ⟨w6.1, w6.2.1, w6.2.2.1⟩ (by omega)
    rw [w1]
    have hp2 : PlanOK μ2 q := by
      have := s2.reading.2
      rw [w1] at this; exact this
    have s3 : St (setR (setI μ2 (hd 40 0) 2 0) (hd 40 0) 11 (hd 50 q)) := St.setPlan11 (μ := setI μ2 (hd 40 0) 2 0) s2 hp2
    have x3 : FrX μ2 (setR (setI μ2 (hd 40 0) 2 0) (hd 40 0) 11 (hd 50 q)) := FrX.of (own := fun κ i => κ = 40 ∧ i = 0) ((Fr.rf.setI (by decide) ⟨rfl, rfl⟩).setR (by decide) ⟨rfl, rfl⟩) (fun κ i z => by omega)
    have p3 : px (setR (setI μ2 (hd 40 0) 2 0) (hd 40 0) 11 (hd 50 q)) (hd 40 0) 11 = q := px_eq (κ := 50) (by decide) (by rw [mR_set, if_pos ⟨rfl, rfl⟩])
    have i3 : ∀ κ i k, κ < 256 → κ ≠ 40 → mI (setR (setI μ2 (hd 40 0) 2 0) (hd 40 0) 11 (hd 50 q)) (hd κ i) k = mI μ2 (hd κ i) k := fun κ i k a b => rd_ne (by decide) a b
    have i30 : mI (setR (setI μ2 (hd 40 0) 2 0) (hd 40 0) 11 (hd 50 q)) (hd 40 0) 0 = 0 := (show mI (setI μ2 (hd 40 0) 2 0) (hd 40 0) 0 = _ from rd_k (by decide)).trans ((f.2.2.1 0 (by decide) (by decide) (by decide)).trans z0)
    have i32 : mI (setR (setI μ2 (hd 40 0) 2 0) (hd 40 0) 11 (hd 50 q)) (hd 40 0) 2 = 0 := (rd_eq : mI (setI μ2 (hd 40 0) 2 0) (hd 40 0) 2 = 0)
    have i33 : mI (setR (setI μ2 (hd 40 0) 2 0) (hd 40 0) 11 (hd 50 q)) (hd 40 0) 3 = -1 := (show mI (setI μ2 (hd 40 0) 2 0) (hd 40 0) 3 = _ from rd_k (by decide)).trans (h3.trans z3)
    generalize setR (setI μ2 (hd 40 0) 2 0) (hd 40 0) 11 (hd 50 q) = μ3 at *
    have hR : ∀ r, r < cn (tK t L) 3 (nT t L) → _ := fun r hr => hF.roads hls hr
    have hP : PM μ3 (ntT t L os) (ntD t L) := by
      unfold PM
      rw [p3, i3 _ _ _ (by decide) (by decide), i3 _ _ _ (by decide) (by decide), i3 _ _ _ (by decide) (by decide), i3 _ _ _ (by decide) (by decide)]
      refine ⟨w2, w3, w4, by rw [w5, hl]; rfl, fun r hr => ?_⟩
      rw [i3 _ _ _ (by decide) (by decide), i3 _ _ _ (by decide) (by decide)]
      exact ⟨(hR r hr).1, (hR r hr).2.1⟩
    refine c_MS_begin (T := ntT t L os) (D := ntD t L) (by omega) s3 p3 hDB D0_nt hP (fun r hr => by rw [i3 _ _ _ (by decide) (by decide)]; exact (hR r hr).2.2) (fun μ4 f4 s4 w4' => ⟨rfl, s4, hQ μ4 0 (-1) (some os) (Or.inr (Or.inr ⟨_, os, hp, w7, w6, rfl, rfl, rfl⟩)) (((x1.trans (FrX.n f)).trans x3).trans (FrX.o f4)) s4 ?_ ⟨⟨[], w4'⟩, ?_, ⟨?_, fun k hk => absurd hk (Nat.not_lt_zero _)⟩, ?_⟩⟩)
    · rw [f4.1.I (by decide) (by unfold OwM; omega)]; exact i30
    · have e : px μ4 (hd 40 0) 11 = q := by unfold px at p3 ⊢; rw [f4.2]; exact p3
      rw [e]
      exact fun k hk => ((hF.orders hLn) k hk).tr (fun κ j a b => by rw [f4.1.I (by omega) (by unfold OwM; omega), i3 _ _ _ (by omega) (by omega)])
    · rw [f4.1.I (by decide) (by unfold OwM; omega)]; exact i32
    · rw [f4.1.I (by decide) (by unfold OwM; omega)]; exact i33
end TMM
