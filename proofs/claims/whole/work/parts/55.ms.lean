/-! the model's reading: tests, and all depths -/
section MSC
variable {t : Nat → Nat} {L q δ p : Nat} {W : List Int32} {O : List Nat}
theorem sf_bd {K : Nat → Nat} {b : Bool} {dn dt s : Nat → Rs} (h : K p = 22 ∨ K p = 23) : sngF K b dn dt s p = bdF K (K p) p := by
  unfold sngF; rw [if_neg (by omega), if_neg (by omega), if_pos h]
theorem sf_not {K : Nat → Nat} {b : Bool} {dn dt s : Nat → Rs} (h : K p = 24) : sngF K b dn dt s p = sq (sq (gDp K b 24 p) dn) (gAd 24 0) := by
  unfold sngF; rw [if_pos h]
theorem sf_in {K : Nat → Nat} {b : Bool} {dn dt s : Nat → Rs} (h : K p = 31) : sngF K b dn dt s p = sq (sq (gDp K b 31 p) dt) (gTk K 32) := by
  unfold sngF; rw [if_neg (by omega), if_pos h]
theorem sf_cp {K : Nat → Nat} {b : Bool} {dn dt s : Nat → Rs} (h1 : K p ≠ 24) (h2 : K p ≠ 31) (h3 : K p ≠ 22) (h4 : K p ≠ 23) : sngF K b dn dt s p = sq (s p) (cpF K s) := by
  unfold sngF; rw [if_neg h1, if_neg h2, if_neg (by omega)]
theorem MrM.single {m : Nat} {dn dt s : Nat → Rs} (hδ : δ ≤ 8) (hm : 6 ≤ m) (hdn : δ < 8 → MrM K_MM_isSingle t L q (δ + 1) m dn ∧ GV (tK t L) (nT t L) is01 dn) (hdt : δ < 8 → MrM K_MM_isTest t L q (δ + 1) m dt ∧ GV (tK t L) (nT t L) is01 dt) (hsm : MrM K_MM_isSum t L q δ m s ∧ GV (tK t L) (nT t L) isAny s) : MrM K_MM_isSingle t L q δ (m + 2) (sngF (tK t L) (decide (δ < 8)) dn dt s) := by
  intro d rc rs Q μ p W O hmd hS hG hZ hn hs
  have hp := hG.p4
  obtain ⟨s1, s2, s3⟩ := hZ
  have hZ : SZ t L p W O := ⟨s1, s2, s3⟩
  refine e_MM_isSingle (g_MM_isSingle_0 (by omega) hS ?_)
  refine c_MM_is (k := 24) (by omega) hS hG (by decide) (by decide) ⟨_, rfl, fun z1 => ?_, fun z1 => ?_⟩
  · rw [bI_z] at z1
    refine c_MM_isSign (k := 31) (by omega) hS hG (by decide) (by decide) ⟨_, rfl, fun z2 => ?_, fun z2 => ?_⟩
    · rw [bI_z] at z2
      have bd : ∀ k, tK t L p = k → (k = 22 ∨ k = 23) → Wx K_MM_isSingle d rc rs (fun r μ' => St μ' ∧ Q r μ') 103 [(0, .ref (hd 40 0))] [] μ := by
        intro k hk h1
        have e := sf_bd (b := decide (δ < 8)) (dn := dn) (dt := dt) (s := s) (show tK t L p = 22 ∨ tK t L p = 23 by omega)
        rw [hk] at e
        exact g_MM_isSingle_103 (by omega) hS (c_MM_bd2 (by omega) hS hG hZ hk (by omega) (by omega) (fun μ' p' z => hn μ' p' (e.trans z)) (fun μ' p' l z => hs μ' p' l (e.trans z)))
      refine c_MM_is (k := 22) (by omega) hS hG (by decide) (by decide) ⟨_, rfl, fun z3 => ?_, fun z3 => ?_⟩
      · rw [bI_z] at z3
        refine c_MM_is (k := 23) (by omega) hS hG (by decide) (by decide) ⟨_, rfl, fun z4 => ?_, fun z4 => ?_⟩
        · rw [bI_z] at z4
          -- a comparison
          have ec : sngF (tK t L) (decide (δ < 8)) dn dt s p = sq (s p) (cpF (tK t L) s) := sf_cp z1 z2 z3 z4
          obtain ⟨h1, h2⟩ := hsm
          refine h1 _ _ _ _ _ _ _ _ (by omega) hS hG hZ (fun μ2 p2 e f s' w => ⟨0, rfl, fun _ => ⟨s', hn μ2 p2 (ec.trans (sqn e)) f s' w⟩, fun y => absurd rfl y⟩) (fun μ2 p2 l2 e f s' w => ⟨1, rfl, fun y => absurd y (by decide), fun _ => ?_⟩)
          have g := (h2 p hp.1).2.2 l2 (by rw [e])
          rw [e] at g
          have hZ2 := hZ.step g.2.1 g.1
          have hp2 := w.p4
          have cmp : ∀ c w', tK t L p2 = c → 39 ≤ c → c ≤ 43 → w' = nI (mop c) → Cal K_MM_isSum (d - 1) 0 0 [.ref (hd 40 0)] (setI μ2 (hd 40 0) 9 (mI μ2 (hd 40 0) 9 + 1)) (fun r μ21 => ∃ y22, r = some (.int y22) ∧ ((y22 = 0 → (St μ21 ∧ Q (some (.int 0)) μ21)) ∧ (¬ y22 = 0 → (Cal K_MM_put (d - 1) 0 0 [.ref (hd 40 0), .int w'] μ21 (fun r μ23 => r = none ∧ (St μ23 ∧ Q (some (.int 1)) μ23)))))) := by
            intro c w' hc c1 c2 hw
            have hpn := in_n hp2.1 (by omega)
            have hS3 : St (setI μ2 (hd 40 0) 9 (mI μ2 (hd 40 0) 9 + 1)) := s'
            have hG3 := w.tok (x := mI μ2 (hd 40 0) 9 + 1) (by rw [w.2.2.1, nI_1]) hpn (rl_0 (by omega))
            have hZ3 := hZ2.tok (show tK t L p2 ≠ 4 by omega)
            have ecm : cmF (tK t L) p2 = (p2 + 1, some []) := by unfold cmF; rw [if_pos (by omega)]; exact tk_y rfl
            refine h1 _ _ _ _ _ _ _ _ (by omega) hS3 hG3 hZ3 (fun μ3 p3 e3 f3 s3 w3 => ⟨0, rfl, fun _ => ⟨s3, hn μ3 p3 (ec.trans (sqsn e (sqn (sqsn ecm e3)))) ((f.s40 (Or.inl rfl)).trans f3) s3 w3⟩, fun y => absurd rfl y⟩) (fun μ3 p3 l3 e3 f3 s3 w3 => ⟨1, rfl, fun y => absurd y (by decide), fun _ => ?_⟩)
            have g' := (h2 (p2 + 1) hpn).2.2 l3 (by rw [e3])
            rw [e3] at g'
            have d1 := g'.2.1.wd
            have d2 := g'.2.1.hn
            have d2' : p3 ≤ nT t L := d2
            have d3 := g.2.1.wd
            have d1' : 2 * (p2 + 1) + wdL l3 ≤ 2 * p3 := d1
            have d3' : 2 * p + wdL l2 ≤ 2 * p2 := d3
            obtain ⟨wo, -, w2, w4, -, -, w5⟩ := wds_op (t := t) (L := L) (k := c) (by omega) ([] ++ l3)
            have w5' := w5 (by omega) (by omega)
            have hlen : (W ++ wdsO t L l2 ++ wdsO t L l3).length = W.length + wdL l2 + wdL l3 := by rw [List.length_append, List.length_append, wdsO_len, wdsO_len]
            refine c_MM_put (by omega) s3 w3 (by rw [hlen]; omega) (fun μ6 m1 m2 m3 => ⟨rfl, m2, hs μ6 p3 _ (ec.trans (sqss e (sqss (sqss ecm e3) rfl))) (((f.s40 (Or.inl rfl)).trans f3).trans m1) m2 ?_⟩)
            rw [hc, wdsO_app, opO_app, w2, w4, w5', ← hw]
            rw [List.length_append, wdsO_len] at m3
            rw [← List.append_assoc, ← List.append_assoc, ← List.append_assoc]
            exact m3
          have no : ∀ {P : Prop} {a : Int32}, a ≠ -1 → (a = -1 → P) := fun h z => absurd z h
          refine c_MM_isSign (k := 39) (by omega) s' w (by decide) (by decide) ⟨_, rfl, fun y1 => ?_, fun y1 => ⟨no (by decide), fun _ => cmp 39 _ (by rw [bI_z, Classical.not_not] at y1; exact y1) (by decide) (by decide) (by decide)⟩⟩
          refine c_MM_isSign (k := 40) (by omega) s' w (by decide) (by decide) ⟨_, rfl, fun y2 => ?_, fun y2 => ⟨no (by decide), fun _ => cmp 40 _ (by rw [bI_z, Classical.not_not] at y2; exact y2) (by decide) (by decide) (by decide)⟩⟩
          refine c_MM_isSign (k := 41) (by omega) s' w (by decide) (by decide) ⟨_, rfl, fun y3 => ?_, fun y3 => ⟨no (by decide), fun _ => cmp 41 _ (by rw [bI_z, Classical.not_not] at y3; exact y3) (by decide) (by decide) (by decide)⟩⟩
          refine c_MM_is (k := 42) (by omega) s' w (by decide) (by decide) ⟨_, rfl, fun y4 => ?_, fun y4 => ⟨no (by decide), fun _ => cmp 42 _ (by rw [bI_z, Classical.not_not] at y4; exact y4) (by decide) (by decide) (by decide)⟩⟩
          refine c_MM_is (k := 43) (by omega) s' w (by decide) (by decide) ⟨_, rfl, fun y5 => ?_, fun y5 => ⟨no (by decide), fun _ => cmp 43 _ (by rw [bI_z, Classical.not_not] at y5; exact y5) (by decide) (by decide) (by decide)⟩⟩
          rw [bI_z] at y1 y2 y3 y4 y5
          refine ⟨fun _ => ⟨s', hn μ2 p2 (ec.trans (sqsn e (sqn (sqn ?_)))) f s' w.2.2.1⟩, fun x => absurd rfl x⟩
          unfold cmF; rw [if_neg (by omega)]
        · rw [bI_z, Classical.not_not] at z4; exact bd 23 z4 (Or.inr rfl)
      · rw [bI_z, Classical.not_not] at z3; exact bd 22 z3 (Or.inl rfl)
    · rw [bI_z, Classical.not_not] at z2
      have em : sngF (tK t L) (decide (δ < 8)) dn dt s p = sq (sq (gDp (tK t L) (decide (δ < 8)) 31 p) dt) (gTk (tK t L) 32) := sf_in z2
      have hpn := in_n hp.1 (by omega)
      refine c_MM_isDeeper (by omega) hS hG hδ hpn (rl_0 (by omega)) (fun z8 => ⟨0, rfl, fun _ => g_MM_isSingle_66 (by omega) hS ⟨hS, hn μ p (em.trans (sqn (sqn (dp_n (Or.inr (decide_eq_false (by omega))))))) FrR.rf hS hG.2.2.1⟩, fun y => absurd rfl y⟩) (fun hlt μ1 a1 a2 a3 => ⟨1, rfl, fun y => absurd y (by decide), fun _ => ?_⟩)
      obtain ⟨h1, h2⟩ := hdt hlt
      have ed : gDp (tK t L) (decide (δ < 8)) 31 p = (p + 1, some []) := dp_y z2 (decide_eq_true hlt)
      refine h1 _ _ _ _ _ _ _ _ (by omega) a2 a3 (hZ.tok (by omega)) (fun μ2 p2 e f s w => ⟨0, rfl, fun _ => g_MM_isSingle_66 (by omega) s ⟨s, hn μ2 p2 (em.trans (sqn (sqsn ed e))) (a1.trans f) s w⟩, fun y => absurd rfl y⟩) (fun μ2 p2 l2 e f s w => ⟨1, rfl, fun y => absurd y (by decide), fun _ => ?_⟩)
      rw [w.2.2.2.1, nI_m]
      have hS3 : St (setI μ2 (hd 40 0) 10 (nI δ)) := s
      have w3 := w.dep (δ' := δ) (x := nI δ) rfl
      have ed2 := sqss ed e
      refine c_MM_eatSign (k := 32) (by omega) hS3 w3 (by decide) (by decide) (fun y => rl_0 (by omega)) (fun y => ⟨_, rfl, Or.inl rfl, hS3, hn _ p2 (em.trans (sqsn ed2 (tk_n y))) ((a1.trans f).s40 (Or.inr rfl)) hS3 w3.2.2.1⟩) (fun y μ4 b1 b2 b3 => ⟨_, rfl, Or.inr rfl, b2, hs μ4 (p2 + 1) _ (em.trans (sqss ed2 (tk_y y))) (((a1.trans f).s40 (Or.inr rfl)).trans b1) b2 (by rw [List.append_nil, List.nil_append]; exact b3)⟩)
  · rw [bI_z, Classical.not_not] at z1
    have em : sngF (tK t L) (decide (δ < 8)) dn dt s p = sq (sq (gDp (tK t L) (decide (δ < 8)) 24 p) dn) (gAd 24 0) := sf_not z1
    have hpn := in_n hp.1 (by omega)
    refine c_MM_isDeeper (by omega) hS hG hδ hpn (rl_0 (by omega)) (fun z8 => ⟨0, rfl, fun _ => g_MM_isSingle_23 (by omega) hS ⟨hS, hn μ p (em.trans (sqn (sqn (dp_n (Or.inr (decide_eq_false (by omega))))))) FrR.rf hS hG.2.2.1⟩, fun y => absurd rfl y⟩) (fun hlt μ1 a1 a2 a3 => ⟨1, rfl, fun y => absurd y (by decide), fun _ => ?_⟩)
    obtain ⟨h1, h2⟩ := hdn hlt
    have ed : gDp (tK t L) (decide (δ < 8)) 24 p = (p + 1, some []) := dp_y z1 (decide_eq_true hlt)
    refine h1 _ _ _ _ _ _ _ _ (by omega) a2 a3 (hZ.tok (by omega)) (fun μ2 p2 e f s w => ⟨0, rfl, fun _ => g_MM_isSingle_23 (by omega) s ⟨s, hn μ2 p2 (em.trans (sqn (sqsn ed e))) (a1.trans f) s w⟩, fun y => absurd rfl y⟩) (fun μ2 p2 l2 e f s w => ⟨1, rfl, fun y => absurd y (by decide), fun _ => ?_⟩)
    have g := (h2 (p + 1) hpn).2.2 l2 (by rw [e])
    rw [e] at g
    rw [w.2.2.2.1, nI_m]
    have hS3 : St (setI μ2 (hd 40 0) 10 (nI δ)) := s
    have w3 := w.dep (δ' := δ) (x := nI δ) rfl
    have c1 := g.2.1.wd
    have c3 := g.2.1.hn
    obtain ⟨wo, -, w2, w4, -, w5, -⟩ := wds_op (t := t) (L := L) (k := 24) (by decide) ([] ++ l2)
    have w5' := w5 rfl
    have hlen : (W ++ wdsO t L l2).length = W.length + wdL l2 := by rw [List.length_append, wdsO_len]
    refine c_MM_put (by omega) hS3 w3 (by rw [hlen]; omega) (fun μ6 m1 m2 m3 => ⟨rfl, m2, hs μ6 p2 _ (em.trans (sqss (sqss ed e) rfl)) (((a1.trans f).s40 (Or.inr rfl)).trans m1) m2 ?_⟩)
    rw [w2, w4, w5', ← List.append_assoc]
    exact m3
theorem MrM.mono {A : KM} {m m' : Nat} {F : Nat → Rs} (h : MrM A t L q δ m F) (hm : m ≤ m') : MrM A t L q δ m' F := fun d rc rs Q μ p W O a => h d rc rs Q μ p W O (by omega)
theorem MrM.eV : ∀ e, e ≤ 8 → MrM K_MM_isValue t L q (8 - e) (10 * e + 8) (gVal (tK t L) e)
  | 0, _ => by
    have h := MrM.value (t := t) (L := L) (q := q) (δ := 8) (m := 6) (dv := gNo) (ds := gNo) (Nat.le_refl _) (Nat.le_refl _) (fun z => absurd z (by decide)) (fun z => absurd z (by decide))
    exact h
  | e + 1, he => by
    have ih := MrM.eV e (by omega)
    have hV := GV.val (K := tK t L) (n := nT t L) nT_end e
    have h := MrM.value (t := t) (L := L) (q := q) (δ := 8 - (e + 1)) (m := 10 * e + 16) (dv := gVal (tK t L) e) (ds := gSum (tK t L) e) (by omega) (by omega) (fun _ => ⟨by rw [show 8 - (e + 1) + 1 = 8 - e by omega]; exact ih.mono (by omega), hV⟩) (fun _ => ⟨by rw [show 8 - (e + 1) + 1 = 8 - e by omega]; exact (MrM.sum (MrM.product ih hV) (GV.seq nT_end hV hV (by unfold isBin; decide) (by unfold isBin; decide) (fun _ _ _ _ _ _ => trivial))).mono (by omega), GV.gSum nT_end e⟩)
    rw [show decide (8 - (e + 1) < 8) = true from decide_eq_true (by omega)] at h
    exact h.mono (by omega)
theorem MrM.eS (e : Nat) (he : e ≤ 8) : MrM K_MM_isSum t L q (8 - e) (10 * e + 16) (gSum (tK t L) e) := by
  have hV := GV.val (K := tK t L) (n := nT t L) nT_end e
  exact MrM.sum (MrM.product (MrM.eV e he) hV) (GV.seq nT_end hV hV (by unfold isBin; decide) (by unfold isBin; decide) (fun _ _ _ _ _ _ => trivial))
theorem GV.both {K : Nat → Nat} {n : Nat} (hn : 46 ≤ K n) {s : Nat → Rs} (h : GV K n is01 s) : GV K n is01 (botF K s) := GV.seq hn h h (by unfold isBin; decide) (by unfold isBin; decide) (fun k a b e ha hb => by
  have e : k = 25 := by omega
  subst e; exact and01 a b ha hb)
theorem MrM.eT {m e : Nat} (h : MrM K_MM_isSingle t L q δ m (gSng (tK t L) e)) : MrM K_MM_isTest t L q δ (m + 8) (gTes (tK t L) e) :=
  MrM.test (MrM.both h (GV.sng nT_end e)) (GV.both nT_end (GV.sng nT_end e))
theorem MrM.eN : ∀ e, e ≤ 8 → MrM K_MM_isSingle t L q (8 - e) (10 * e + 18) (gSng (tK t L) e)
  | 0, _ => by
    have h := MrM.single (t := t) (L := L) (q := q) (δ := 8) (m := 16) (dn := gNo) (dt := gNo) (s := gSum (tK t L) 0) (Nat.le_refl _) (by decide) (fun z => absurd z (by decide)) (fun z => absurd z (by decide)) ⟨MrM.eS 0 (by decide), GV.gSum nT_end 0⟩
    exact h
  | e + 1, he => by
    have ih := MrM.eN e (by omega)
    have h := MrM.single (t := t) (L := L) (q := q) (δ := 8 - (e + 1)) (m := 10 * e + 26) (dn := gSng (tK t L) e) (dt := gTes (tK t L) e) (s := gSum (tK t L) (e + 1)) (by omega) (by omega) (fun _ => ⟨by rw [show 8 - (e + 1) + 1 = 8 - e by omega]; exact ih.mono (by omega), GV.sng nT_end e⟩) (fun _ => ⟨by rw [show 8 - (e + 1) + 1 = 8 - e by omega]; exact (MrM.eT ih).mono (by omega), GV.gTes nT_end e⟩) ⟨(MrM.eS (e + 1) he).mono (by omega), GV.gSum nT_end (e + 1)⟩
    rw [show decide (8 - (e + 1) < 8) = true from decide_eq_true (by omega)] at h
    exact h.mono (by omega)
theorem c_MM_sum8 : MrM K_MM_isSum t L q 0 96 (gSum (tK t L) 8) := MrM.eS 8 (Nat.le_refl _)
theorem c_MM_test8 : MrM K_MM_isTest t L q 0 106 (gTes (tK t L) 8) := MrM.eT (MrM.eN 8 (Nat.le_refl _))
end MSC
