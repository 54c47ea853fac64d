/-! the model's reading: values, sums, tests -/
section MVC
variable {t : Nat → Nat} {L q δ p : Nat} {W : List Int32} {O : List Nat}
theorem vf_num {K : Nat → Nat} {b : Bool} {dv ds : Nat → Rs} (h : K p = 45 ∨ K p = 17) : valF K b dv ds p = (p + 1, some [(K p, p + 1)]) := by
  unfold valF; rw [if_pos h]; exact sqss rfl (tk_y rfl)
theorem vf_bd {K : Nat → Nat} {b : Bool} {dv ds : Nat → Rs} (h : 18 ≤ K p ∧ K p ≤ 21) : valF K b dv ds p = bdF K (K p) p := by
  unfold valF; rw [if_neg (by omega), if_pos h]
theorem vf_min {K : Nat → Nat} {b : Bool} {dv ds : Nat → Rs} (h : K p = 36) : valF K b dv ds p = sq (sq (gDp K b 36 p) dv) (gAd 48 0) := by
  unfold valF; rw [if_neg (by omega), if_neg (by omega), if_pos h]
theorem vf_in {K : Nat → Nat} {b : Bool} {dv ds : Nat → Rs} (h1 : K p ≠ 45) (h2 : K p ≠ 17) (h3 : ¬ (18 ≤ K p ∧ K p ≤ 21)) (h4 : K p ≠ 36) (h5 : K p ≠ 27) (h6 : K p ≠ 28) : valF K b dv ds p = sq (sq (gDp K b 29 p) ds) (gTk K 30) := by
  unfold valF; rw [if_neg (by omega), if_neg h3, if_neg h4]
  by_cases h : K p = 29
  · rw [if_pos h]
  · rw [if_neg h, if_neg (by omega)]; exact (sqn (sqn (dp_n (Or.inl h)))).symm
theorem vf_mm {K : Nat → Nat} {b : Bool} {dv ds : Nat → Rs} (h : K p = 27 ∨ K p = 28) : valF K b dv ds p = sq (gTk K (K p) p) (fun q => sq (prF K b ds q) (gAd (K p) 0)) := by
  unfold valF; rw [if_neg (by omega), if_neg (by omega), if_neg (by omega), if_neg (by omega), if_pos h, sq_assoc]
theorem MrM.value {m : Nat} {dv ds : Nat → Rs} (hδ : δ ≤ 8) (hm : 6 ≤ m) (hdv : δ < 8 → MrM K_MM_isValue t L q (δ + 1) m dv ∧ GV (tK t L) (nT t L) isAny dv) (hds : δ < 8 → MrM K_MM_isSum t L q (δ + 1) m ds ∧ GV (tK t L) (nT t L) isAny ds) : MrM K_MM_isValue t L q δ (m + 2) (valF (tK t L) (decide (δ < 8)) dv ds) := by
  intro d rc rs Q μ p W O hmd hS hG hZ hn hs
  have hp := hG.p4
  obtain ⟨s1, s2, s3⟩ := hZ
  have hZ : SZ t L p W O := ⟨s1, s2, s3⟩
  have e9 : mI μ (hd 42 0) (mI μ (hd 40 0) 9).toNatClampNeg = nI (mk (tK t L p)) := by rw [hG.2.2.1, nI_clamp (by omega), hG.kd]
  refine e_MM_isValue (g_MM_isValue_0 (by omega) hS ⟨by rw [hG.2.2.1]; exact vp_in_nI (by omega) (by decide), ?_⟩)
  rw [e9]
  -- a board, a notice
  have bd : ∀ k, tK t L p = k → 18 ≤ k → k ≤ 20 → Cal K_MM_isNamed (d - 1) 0 0 [.ref (hd 40 0), .int 12] μ (fun r μ1 => ∃ y2, r = some (.int y2) ∧ ((y2 = 0 → (St μ1 ∧ Q (some (.int 0)) μ1)) ∧ (¬ y2 = 0 → (Cal K_MM_isName (d - 1) 0 0 [.ref (hd 40 0), .int 13] μ1 (fun r μ3 => ∃ y4, r = some (.int y4) ∧ ((y4 = 0 → (St μ3 ∧ Q (some (.int 0)) μ3)) ∧ (¬ y4 = 0 → (St μ3 ∧ Q (some (.int 1)) μ3)))))))) := by
    intro k hk h1 h2
    have e := vf_bd (b := decide (δ < 8)) (dv := dv) (ds := ds) (show 18 ≤ tK t L p ∧ tK t L p ≤ 21 by omega)
    rw [hk] at e
    exact c_MM_bd2 (by omega) hS hG hZ hk (by omega) (by omega) (fun μ' p' z => hn μ' p' (e.trans z)) (fun μ' p' l z => hs μ' p' l (e.trans z))
  refine c_MM_is (k := 45) (by omega) hS hG (by decide) (by decide) ⟨_, rfl, fun z1 => ?_, fun z1 => ?_⟩
  · rw [bI_z] at z1
    refine c_MM_is (k := 17) (by omega) hS hG (by decide) (by decide) ⟨_, rfl, fun z2 => ?_, fun z2 => ?_⟩
    · rw [bI_z] at z2
      refine c_MM_is (k := 18) (by omega) hS hG (by decide) (by decide) ⟨_, rfl, fun z3 => ?_, fun z3 => ?_⟩
      · rw [bI_z] at z3
        refine c_MM_is (k := 19) (by omega) hS hG (by decide) (by decide) ⟨_, rfl, fun z4 => ?_, fun z4 => ?_⟩
        · rw [bI_z] at z4
          refine c_MM_is (k := 20) (by omega) hS hG (by decide) (by decide) ⟨_, rfl, fun z5 => ?_, fun z5 => ?_⟩
          · rw [bI_z] at z5
            refine c_MM_is (k := 21) (by omega) hS hG (by decide) (by decide) ⟨_, rfl, fun z6 => ?_, fun z6 => ?_⟩
            · rw [bI_z] at z6
              refine c_MM_isSign (k := 36) (by omega) hS hG (by decide) (by decide) ⟨_, rfl, fun z7 => ?_, fun z7 => ?_⟩
              · rw [bI_z] at z7
                have h3 : ¬ (18 ≤ tK t L p ∧ tK t L p ≤ 21) := by omega
                -- min and max
                have mm : ∀ k, (k = 27 ∨ k = 28) → tK t L p = k → ∀ μ1, FrR q μ μ1 → St μ1 → MG μ1 t L q δ (p + 1) W O → Cal K_MM_isInside (d - 1) 0 0 [.ref (hd 40 0), .int (nI (mk (tK t L p))), .int 1] μ1 (fun r μ32 => ∃ y33, r = some (.int y33) ∧ ((y33 = 0 ∨ y33 = 1) ∧ (St μ32 ∧ Q (some (.int y33)) μ32))) := by
                  intro k hk e μ1 f1 f2 f3
                  have ek : valF (tK t L) (decide (δ < 8)) dv ds p = sq (gTk (tK t L) (tK t L p) p) (fun q => sq (prF (tK t L) (decide (δ < 8)) ds q) (gAd (tK t L p) 0)) := vf_mm (by omega)
                  rw [e] at ek
                  refine c_MM_in2 (k := k) hδ (by omega) (by omega) hk (by rw [e]; rcases hk with rfl | rfl <;> decide) hds f2 f3 (hZ.tok (by omega)) (fun μ' p' z a b c => ⟨_, rfl, Or.inl rfl, b, hn μ' p' (ek.trans (sqsn (tk_y e) z)) (f1.trans a) b c⟩) (fun μ' p' l z a b c => ⟨_, rfl, Or.inr rfl, b, hs μ' p' l (ek.trans (sqss (tk_y e) z)) (f1.trans a) b c⟩)
                refine c_MM_eat (k := 27) (by omega) hS hG (by decide) (by decide) (fun y => rl_0 (by omega)) (fun z8 => ⟨0, rfl, fun _ => ?_, fun y => absurd rfl y⟩) (fun z8 μ1 a1 a2 a3 => ⟨1, rfl, fun y => absurd y (by decide), fun _ => mm 27 (Or.inl rfl) z8 μ1 a1 a2 a3⟩)
                refine c_MM_eat (k := 28) (by omega) hS hG (by decide) (by decide) (fun y => rl_0 (by omega)) (fun z9 => ⟨0, rfl, fun _ => ?_, fun y => absurd rfl y⟩) (fun z9 μ1 a1 a2 a3 => ⟨1, rfl, fun y => absurd y (by decide), fun _ => mm 28 (Or.inr rfl) z9 μ1 a1 a2 a3⟩)
                have ei : valF (tK t L) (decide (δ < 8)) dv ds p = sq (sq (gDp (tK t L) (decide (δ < 8)) 29 p) ds) (gTk (tK t L) 30) := vf_in z1 z2 h3 z7 z8 z9
                exact c_MM_in1 hδ (by omega) (by omega) hds hS hG hZ (fun μ' p' z a b c => ⟨_, rfl, Or.inl rfl, b, hn μ' p' (ei.trans z) a b c⟩) (fun μ' p' l z a b c => ⟨_, rfl, Or.inr rfl, b, hs μ' p' l (ei.trans z) a b c⟩)
              · rw [bI_z, Classical.not_not] at z7
                have em : valF (tK t L) (decide (δ < 8)) dv ds p = sq (sq (gDp (tK t L) (decide (δ < 8)) 36 p) dv) (gAd 48 0) := vf_min z7
                have hpn := in_n hp.1 (by omega)
                refine c_MM_isDeeper (by omega) hS hG hδ hpn (rl_0 (by omega)) (fun z8 => ⟨0, rfl, fun _ => ⟨hS, hn μ p (em.trans (sqn (sqn (dp_n (Or.inr (decide_eq_false (by omega))))))) FrR.rf hS hG.2.2.1⟩, fun y => absurd rfl y⟩) (fun hlt μ1 a1 a2 a3 => ⟨1, rfl, fun y => absurd y (by decide), fun _ => ?_⟩)
                obtain ⟨h1, h2⟩ := hdv hlt
                have ed : gDp (tK t L) (decide (δ < 8)) 36 p = (p + 1, some []) := dp_y z7 (decide_eq_true hlt)
                refine h1 _ _ _ _ _ _ _ _ (by omega) a2 a3 (hZ.tok (by omega)) (fun μ2 p2 e f s w => ⟨0, rfl, fun _ => ⟨s, hn μ2 p2 (em.trans (sqn (sqsn ed e))) (a1.trans f) s w⟩, fun y => absurd rfl y⟩) (fun μ2 p2 l2 e f s w => ⟨1, rfl, fun y => absurd y (by decide), fun _ => ?_⟩)
                have g := (h2 (p + 1) hpn).2.2 l2 (by rw [e])
                rw [e] at g
                rw [w.2.2.2.1, nI_m]
                have hS3 : St (setI μ2 (hd 40 0) 10 (nI δ)) := s
                have w3 := w.dep (δ' := δ) (x := nI δ) rfl
                have c1 := g.2.1.wd
                have c3 := g.2.1.hn
                obtain ⟨wo, -, w2, w4, w5, -, -⟩ := wds_op (t := t) (L := L) (k := 48) (by decide) ([] ++ l2)
                have w5' := w5 rfl
                have hlen : (W ++ wdsO t L l2).length = W.length + wdL l2 := by rw [List.length_append, wdsO_len]
                refine c_MM_put (by omega) hS3 w3 (by rw [hlen]; omega) (fun μ6 m1 m2 m3 => ⟨rfl, m2, hs μ6 p2 _ (em.trans (sqss (sqss ed e) rfl)) (((a1.trans f).s40 (Or.inr rfl)).trans m1) m2 ?_⟩)
                rw [w2, w4, w5', ← List.append_assoc]
                exact m3
            · rw [bI_z, Classical.not_not] at z6
              have e := vf_bd (b := decide (δ < 8)) (dv := dv) (ds := ds) (show 18 ≤ tK t L p ∧ tK t L p ≤ 21 by omega)
              rw [z6] at e
              exact c_MM_bd1 (by omega) hS hG hZ z6 (fun μ' p' z a b c => ⟨_, rfl, Or.inl rfl, b, hn μ' p' (e.trans z) a b c⟩) (fun μ' p' l z a b c => ⟨_, rfl, Or.inr rfl, b, hs μ' p' l (e.trans z) a b c⟩)
          · rw [bI_z, Classical.not_not] at z5; exact bd 20 z5 (by decide) (by decide)
        · rw [bI_z, Classical.not_not] at z4; exact bd 19 z4 (by decide) (by decide)
      · rw [bI_z, Classical.not_not] at z3; exact bd 18 z3 (by decide) (by decide)
    · rw [bI_z, Classical.not_not] at z2
      have hpn := in_n hp.1 (by omega)
      have e : valF (tK t L) (decide (δ < 8)) dv ds p = (p + 1, some [(tK t L p, p + 1)]) := vf_num (Or.inr z2)
      refine c_MM_put (by omega) hS hG (by omega) (fun μ1 a1 a2 a3 => ⟨rfl, ?_⟩)
      have hS1 : St (setI μ1 (hd 40 0) 9 (mI μ1 (hd 40 0) 9 + 1)) := a2
      refine ⟨hS1, hs _ (p + 1) _ e (a1.s40 (Or.inl rfl)) hS1 ?_⟩
      have := a3.tok (x := mI μ1 (hd 40 0) 9 + 1) (by rw [a3.2.2.1, nI_1]) hpn (rl_0 (by omega))
      rw [z2] at this ⊢
      rw [show opO W.length [(17, p + 1)] = [] from rfl, List.append_nil]
      exact this
  · rw [bI_z, Classical.not_not] at z1
    have hpn := in_n hp.1 (by omega)
    have e : valF (tK t L) (decide (δ < 8)) dv ds p = (p + 1, some [(tK t L p, p + 1)]) := vf_num (Or.inl z1)
    refine c_MM_put (by omega) hS hG (by omega) (fun μ1 a1 a2 a3 => ⟨rfl, ?_⟩)
    rw [a3.2.2.1]
    refine c_MM_numberAt (by omega) a2 a3.1 hpn z1 ⟨_, rfl, c_MM_put (by omega) a2 a3 (by rw [List.length_append]; show W.length + 1 < 800; omega) (fun μ2 b1 b2 b3 => ⟨rfl, ?_⟩)⟩
    have hS1 : St (setI μ2 (hd 40 0) 9 (mI μ2 (hd 40 0) 9 + 1)) := b2
    refine ⟨hS1, hs _ (p + 1) _ e ((a1.trans b1).s40 (Or.inl rfl)) hS1 ?_⟩
    have := b3.tok (x := mI μ2 (hd 40 0) 9 + 1) (by rw [b3.2.2.1, nI_1]) hpn (rl_45 z1 s3)
    rw [z1]
    rw [show opO W.length [(45, p + 1)] = [] from rfl, List.append_nil]
    rw [List.append_assoc] at this
    exact this
theorem lp_stop {K : Nat → Nat} {F : Nat → Rs} {c1 c2 f : Nat} (h1 : K p ≠ c1) (h2 : K p ≠ c2) : lpF K F c1 c2 f p = (p, some []) := by
  cases f with
  | zero => rfl
  | succ f => unfold lpF; exact if_neg (fun z => z.elim h1 h2)
theorem lp_n {K : Nat → Nat} {F : Nat → Rs} {c1 c2 f c p1 : Nat} (hc : c = c1 ∨ c = c2) (hk : K p = c) (e : F (p + 1) = (p1, none)) : lpF K F c1 c2 (f + 1) p = (p1, none) := by
  rw [lpF, hk, if_pos hc]
  exact sqn (sqn (sqsn (tk_y hk) e))
theorem lp_sn {K : Nat → Nat} {F : Nat → Rs} {c1 c2 f c p1 p2 : Nat} {l1 : RO} (hc : c = c1 ∨ c = c2) (hk : K p = c) (e : F (p + 1) = (p1, some l1)) (e2 : lpF K F c1 c2 f p1 = (p2, none)) : lpF K F c1 c2 (f + 1) p = (p2, none) := by
  rw [lpF, hk, if_pos hc]
  exact sqsn (sqss (sqss (tk_y hk) e) rfl) e2
theorem lp_ss {K : Nat → Nat} {F : Nat → Rs} {c1 c2 f c p1 p2 : Nat} {l1 l2 : RO} (hc : c = c1 ∨ c = c2) (hk : K p = c) (e : F (p + 1) = (p1, some l1)) (e2 : lpF K F c1 c2 f p1 = (p2, some l2)) : lpF K F c1 c2 (f + 1) p = (p2, some ((l1 ++ [(c, 0)]) ++ l2)) := by
  rw [lpF, hk, if_pos hc]
  exact sqss (sqss (sqss (tk_y hk) e) rfl) e2
/-- what a loop of the model does from its head -/
def MrL (A : KM) (pc : Nat) (t : Nat → Nat) (L q δ m fu : Nat) (F : Nat → Rs) : Prop := ∀ (d rc rs : Nat) (Q : Option Value → Mu → Prop) (μ : Mu) (p : Nat) (W : List Int32) (O : List Nat), nT t L ≤ p + fu → m ≤ d → St μ → MG μ t L q δ p W O → SZ t L p W O → (∀ μ' p', F p = (p', none) → FrR q μ μ' → St μ' → mI μ' (hd 40 0) 9 = nI p' → Q (some (.int 0)) μ') → (∀ μ' p' l, F p = (p', some l) → FrR q μ μ' → St μ' → MG μ' t L q δ p' (W ++ wdsO t L l) (O ++ opO W.length l) → Q (some (.int 1)) μ') → Wx A d rc rs (fun r μ' => St μ' ∧ Q r μ') pc [(0, .ref (hd 40 0))] [] μ
/-- an operator, what is behind it, and so on -/
theorem op_step {A B : KM} {pc m c c1 c2 f : Nat} {w : Int32} {F : Nat → Rs} (hF : MrM B t L q δ m F) {co : Int32 → Prop} (hV : GV (tK t L) (nT t L) co F) (hc : c = c1 ∨ c = c2) (hb : isBin c) (hw : w = nI (mop c)) (hc4 : c ≠ 4) (ih : MrL A pc t L q δ (m + 4) f (lpF (tK t L) F c1 c2 f)) (hfu : nT t L ≤ p + (f + 1)) (d rc rs : Nat) (Q : Option Value → Mu → Prop) (μ μ0 : Mu) (hm : m + 4 ≤ d) (hk : tK t L p = c) (hpn : p < nT t L) (hZ : SZ t L p W O) (hS : St μ) (f0 : FrR q μ0 μ) (hG : MG μ t L q δ (p + 1) W O)
    (hn : ∀ μ' p', lpF (tK t L) F c1 c2 (f + 1) p = (p', none) → FrR q μ0 μ' → St μ' → mI μ' (hd 40 0) 9 = nI p' → Q (some (.int 0)) μ') (hs : ∀ μ' p' l, lpF (tK t L) F c1 c2 (f + 1) p = (p', some l) → FrR q μ0 μ' → St μ' → MG μ' t L q δ p' (W ++ wdsO t L l) (O ++ opO W.length l) → Q (some (.int 1)) μ') : Cal B (d - 1) 0 0 [.ref (hd 40 0)] μ (fun r μ15 => ∃ y16, r = some (.int y16) ∧ ((y16 = 0 → (St μ15 ∧ Q (some (.int 0)) μ15)) ∧ (¬ y16 = 0 → (Cal K_MM_put (d - 1) 0 0 [.ref (hd 40 0), .int w] μ15 (fun r μ17 => r = none ∧ Wx A d rc rs (fun r μ' => St μ' ∧ Q r μ') pc [(0, .ref (hd 40 0))] [] μ17))))) := by
  have h4 := nT_le (t := t) (L := L)
  have hZ1 := hZ.tok (show tK t L p ≠ 4 by omega)
  refine hF _ _ _ _ _ _ _ _ (by omega) hS hG hZ1 (fun μ2 p2 e f s w => ⟨0, rfl, fun _ => ⟨s, hn μ2 p2 (lp_n hc hk e) (f0.trans f) s w⟩, fun y => absurd rfl y⟩) (fun μ2 p2 l2 e f' s w' => ⟨1, rfl, fun y => absurd y (by decide), fun _ => ?_⟩)
  have g := (hV (p + 1) hpn).2.2 l2 (by rw [e])
  rw [e] at g
  have c1' := g.2.1.wd
  have c3 := g.2.1.hn
  have z1 := hZ.1
  have hlen : (W ++ wdsO t L l2).length = W.length + wdL l2 := by rw [List.length_append, wdsO_len]
  have hbn := isBin_ne hb
  obtain ⟨wo, -, w2, w4, -, -, w5⟩ := wds_op (t := t) (L := L) (k := c) ⟨hbn.1, hbn.2.1, hbn.2.2.1⟩ l2
  have w5' := w5 hbn.2.2.2.1 hbn.2.2.2.2
  refine c_MM_put (by omega) s w' (by rw [hlen]; have c3' : p2 ≤ nT t L := c3; omega) (fun μ6 m1 m2 m3 => ⟨rfl, ?_⟩)
  have hW : W ++ wdsO t L l2 ++ [w] = W ++ wdsO t L (l2 ++ [(c, 0)]) := by rw [w2, w5', ← hw, List.append_assoc]
  rw [hW, ← w4 W.length] at m3
  have hc16 : 16 ≤ c ∧ c ≠ 44 ∧ ¬ (18 ≤ c ∧ c ≤ 23) := by
    have : ∀ k ∈ [25, 26, 27, 28, 35, 36, 37, 38, 39, 40, 41, 42, 43], 16 ≤ k ∧ k ≠ 44 ∧ ¬ (18 ≤ k ∧ k ≤ 23) := by decide
    exact this _ hb
  have g2 : GD (tK t L) (nT t L) p p2 (l2 ++ [(c, 0)]) := g.2.1.ad (by rw [hk]; exact hc16) (Or.inr (Or.inr hb))
  have hZ2 := hZ.step g2 (by have := g.1; omega)
  refine ih d rc rs Q μ6 p2 _ _ (by have := g.1; omega) hm m2 m3 hZ2 (fun μ' p' e2 a b c' => hn μ' p' (lp_sn hc hk e e2) ((f0.trans f').trans (m1.trans a)) b c') (fun μ' p' l' e2 a b c' => hs μ' p' _ (lp_ss hc hk e e2) ((f0.trans f').trans (m1.trans a)) b ?_)
  rw [wdsO_app, ← List.append_assoc, opO_app, ← List.append_assoc]
  rw [List.length_append, wdsO_len] at c'
  exact c'
theorem lp_fu {F : Nat → Rs} {c1 c2 f : Nat} (h : nT t L ≤ p + f) (hp : p ≤ nT t L) (h1 : c1 < 46) (h2 : c2 < 46) (hk : tK t L p = c1 ∨ tK t L p = c2) : ∃ f', f = f' + 1 := by
  cases f with
  | zero =>
    have := nT_end (t := t) (L := L)
    rw [show nT t L = p by omega] at this; omega
  | succ f => exact ⟨f, rfl⟩
theorem MrL.product {m : Nat} {F : Nat → Rs} (hF : MrM K_MM_isValue t L q δ m F) (hV : GV (tK t L) (nT t L) isAny F) : ∀ f, MrL K_MM_isProduct 9 t L q δ (m + 4) f (lpF (tK t L) F 37 38 f) := by
  intro f
  induction f with
  | zero =>
    intro d rc rs Q μ p W O hfu hm hS hG hZ hn hs
    have hp := hG.p4
    have hK := nT_end (t := t) (L := L)
    rw [show nT t L = p by omega] at hK
    refine g_MM_isProduct_9 (by omega) hS (c_MM_isSign (k := 37) (by omega) hS hG (by decide) (by decide) ⟨_, rfl, fun z => ?_, fun z => ?_⟩)
    · refine c_MM_isSign (k := 38) (by omega) hS hG (by decide) (by decide) ⟨_, rfl, fun y => ?_, fun y => ?_⟩
      · exact ⟨hS, hs μ p [] rfl FrR.rf hS (by rw [show wdsO t L [] = [] from rfl, List.append_nil, show opO W.length [] = [] from rfl, List.append_nil]; exact hG)⟩
      · rw [bI_z, Classical.not_not] at y; omega
    · rw [bI_z, Classical.not_not] at z; omega
  | succ f ih =>
    intro d rc rs Q μ p W O hfu hm hS hG hZ hn hs
    have hp := hG.p4
    refine g_MM_isProduct_9 (by omega) hS (c_MM_isSign (k := 37) (by omega) hS hG (by decide) (by decide) ⟨_, rfl, fun z => ?_, fun z => ?_⟩)
    · rw [bI_z] at z
      refine c_MM_isSign (k := 38) (by omega) hS hG (by decide) (by decide) ⟨_, rfl, fun y => ?_, fun y => ?_⟩
      · rw [bI_z] at y
        exact ⟨hS, hs μ p [] (lp_stop z y) FrR.rf hS (by rw [show wdsO t L [] = [] from rfl, List.append_nil, show opO W.length [] = [] from rfl, List.append_nil]; exact hG)⟩
      · rw [bI_z, Classical.not_not] at y
        have hpn := in_n hp.1 (by omega)
        refine c_MM_isSign (k := 37) (by omega) hS hG (by decide) (by decide) ⟨_, rfl, fun x => ?_, fun x => ?_⟩
        · have hS1 : St (setI μ (hd 40 0) 9 (mI μ (hd 40 0) 9 + 1)) := hS
          exact op_step hF hV (Or.inr rfl) (by unfold isBin; decide) (by decide) (by decide) ih hfu d rc rs Q _ μ hm y hpn hZ hS1 (FrR.rf.s40 (Or.inl rfl)) (hG.tok (by rw [hG.2.2.1, nI_1]) hpn (rl_0 (by omega))) hn hs
        · rw [bI_z, Classical.not_not] at x; omega
    · rw [bI_z, Classical.not_not] at z
      have hpn := in_n hp.1 (by omega)
      refine c_MM_isSign (k := 37) (by omega) hS hG (by decide) (by decide) ⟨_, rfl, fun x => ?_, fun x => ?_⟩
      · rw [bI_z] at x; omega
      · have hS1 : St (setI μ (hd 40 0) 9 (mI μ (hd 40 0) 9 + 1)) := hS
        exact op_step hF hV (Or.inl rfl) (by unfold isBin; decide) (by decide) (by decide) ih hfu d rc rs Q _ μ hm z hpn hZ hS1 (FrR.rf.s40 (Or.inl rfl)) (hG.tok (by rw [hG.2.2.1, nI_1]) hpn (rl_0 (by omega))) hn hs
theorem MrL.sum {m : Nat} {F : Nat → Rs} (hF : MrM K_MM_isProduct t L q δ m F) (hV : GV (tK t L) (nT t L) isAny F) : ∀ f, MrL K_MM_isSum 9 t L q δ (m + 4) f (lpF (tK t L) F 35 36 f) := by
  intro f
  induction f with
  | zero =>
    intro d rc rs Q μ p W O hfu hm hS hG hZ hn hs
    have hp := hG.p4
    have hK := nT_end (t := t) (L := L)
    rw [show nT t L = p by omega] at hK
    refine g_MM_isSum_9 (by omega) hS (c_MM_isSign (k := 35) (by omega) hS hG (by decide) (by decide) ⟨_, rfl, fun z => ?_, fun z => ?_⟩)
    · refine c_MM_isSign (k := 36) (by omega) hS hG (by decide) (by decide) ⟨_, rfl, fun y => ?_, fun y => ?_⟩
      · exact ⟨hS, hs μ p [] rfl FrR.rf hS (by rw [show wdsO t L [] = [] from rfl, List.append_nil, show opO W.length [] = [] from rfl, List.append_nil]; exact hG)⟩
      · rw [bI_z, Classical.not_not] at y; omega
    · rw [bI_z, Classical.not_not] at z; omega
  | succ f ih =>
    intro d rc rs Q μ p W O hfu hm hS hG hZ hn hs
    have hp := hG.p4
    refine g_MM_isSum_9 (by omega) hS (c_MM_isSign (k := 35) (by omega) hS hG (by decide) (by decide) ⟨_, rfl, fun z => ?_, fun z => ?_⟩)
    · rw [bI_z] at z
      refine c_MM_isSign (k := 36) (by omega) hS hG (by decide) (by decide) ⟨_, rfl, fun y => ?_, fun y => ?_⟩
      · rw [bI_z] at y
        exact ⟨hS, hs μ p [] (lp_stop z y) FrR.rf hS (by rw [show wdsO t L [] = [] from rfl, List.append_nil, show opO W.length [] = [] from rfl, List.append_nil]; exact hG)⟩
      · rw [bI_z, Classical.not_not] at y
        have hpn := in_n hp.1 (by omega)
        refine c_MM_isSign (k := 35) (by omega) hS hG (by decide) (by decide) ⟨_, rfl, fun x => ?_, fun x => ?_⟩
        · have hS1 : St (setI μ (hd 40 0) 9 (mI μ (hd 40 0) 9 + 1)) := hS
          exact op_step hF hV (Or.inr rfl) (by unfold isBin; decide) (by decide) (by decide) ih hfu d rc rs Q _ μ hm y hpn hZ hS1 (FrR.rf.s40 (Or.inl rfl)) (hG.tok (by rw [hG.2.2.1, nI_1]) hpn (rl_0 (by omega))) hn hs
        · rw [bI_z, Classical.not_not] at x; omega
    · rw [bI_z, Classical.not_not] at z
      have hpn := in_n hp.1 (by omega)
      refine c_MM_isSign (k := 35) (by omega) hS hG (by decide) (by decide) ⟨_, rfl, fun x => ?_, fun x => ?_⟩
      · rw [bI_z] at x; omega
      · have hS1 : St (setI μ (hd 40 0) 9 (mI μ (hd 40 0) 9 + 1)) := hS
        exact op_step hF hV (Or.inl rfl) (by unfold isBin; decide) (by decide) (by decide) ih hfu d rc rs Q _ μ hm z hpn hZ hS1 (FrR.rf.s40 (Or.inl rfl)) (hG.tok (by rw [hG.2.2.1, nI_1]) hpn (rl_0 (by omega))) hn hs
theorem MrL.both {m : Nat} {F : Nat → Rs} (hF : MrM K_MM_isSingle t L q δ m F) (hV : GV (tK t L) (nT t L) is01 F) : ∀ f, MrL K_MM_isBoth 9 t L q δ (m + 4) f (lpF (tK t L) F 25 25 f) := by
  intro f
  induction f with
  | zero =>
    intro d rc rs Q μ p W O hfu hm hS hG hZ hn hs
    have hp := hG.p4
    have hK := nT_end (t := t) (L := L)
    rw [show nT t L = p by omega] at hK
    refine g_MM_isBoth_9 (by omega) hS (c_MM_eat (k := 25) (by omega) hS hG (by decide) (by decide) (fun y => rl_0 (by omega)) (fun z => ⟨0, rfl, fun _ => ?_, fun y => absurd rfl y⟩) (fun z => by omega))
    exact ⟨hS, hs μ p [] rfl FrR.rf hS (by rw [show wdsO t L [] = [] from rfl, List.append_nil, show opO W.length [] = [] from rfl, List.append_nil]; exact hG)⟩
  | succ f ih =>
    intro d rc rs Q μ p W O hfu hm hS hG hZ hn hs
    have hp := hG.p4
    refine g_MM_isBoth_9 (by omega) hS (c_MM_eat (k := 25) (by omega) hS hG (by decide) (by decide) (fun y => rl_0 (by omega)) (fun z => ⟨0, rfl, fun _ => ?_, fun y => absurd rfl y⟩) (fun z μ1 a b c => ⟨1, rfl, fun y => absurd y (by decide), fun _ => ?_⟩))
    · exact ⟨hS, hs μ p [] (lp_stop z z) FrR.rf hS (by rw [show wdsO t L [] = [] from rfl, List.append_nil, show opO W.length [] = [] from rfl, List.append_nil]; exact hG)⟩
    · have hpn := in_n hp.1 (by omega)
      exact op_step hF hV (Or.inl rfl) (by unfold isBin; decide) (by decide) (by decide) ih hfu d rc rs Q _ μ hm z hpn hZ b a c hn hs
theorem MrL.test {m : Nat} {F : Nat → Rs} (hF : MrM K_MM_isBoth t L q δ m F) (hV : GV (tK t L) (nT t L) is01 F) : ∀ f, MrL K_MM_isTest 9 t L q δ (m + 4) f (lpF (tK t L) F 26 26 f) := by
  intro f
  induction f with
  | zero =>
    intro d rc rs Q μ p W O hfu hm hS hG hZ hn hs
    have hp := hG.p4
    have hK := nT_end (t := t) (L := L)
    rw [show nT t L = p by omega] at hK
    refine g_MM_isTest_9 (by omega) hS (c_MM_eat (k := 26) (by omega) hS hG (by decide) (by decide) (fun y => rl_0 (by omega)) (fun z => ⟨0, rfl, fun _ => ?_, fun y => absurd rfl y⟩) (fun z => by omega))
    exact ⟨hS, hs μ p [] rfl FrR.rf hS (by rw [show wdsO t L [] = [] from rfl, List.append_nil, show opO W.length [] = [] from rfl, List.append_nil]; exact hG)⟩
  | succ f ih =>
    intro d rc rs Q μ p W O hfu hm hS hG hZ hn hs
    have hp := hG.p4
    refine g_MM_isTest_9 (by omega) hS (c_MM_eat (k := 26) (by omega) hS hG (by decide) (by decide) (fun y => rl_0 (by omega)) (fun z => ⟨0, rfl, fun _ => ?_, fun y => absurd rfl y⟩) (fun z μ1 a b c => ⟨1, rfl, fun y => absurd y (by decide), fun _ => ?_⟩))
    · exact ⟨hS, hs μ p [] (lp_stop z z) FrR.rf hS (by rw [show wdsO t L [] = [] from rfl, List.append_nil, show opO W.length [] = [] from rfl, List.append_nil]; exact hG)⟩
    · have hpn := in_n hp.1 (by omega)
      exact op_step hF hV (Or.inl rfl) (by unfold isBin; decide) (by decide) (by decide) ih hfu d rc rs Q _ μ hm z hpn hZ b a c hn hs
/-- a first one, and a loop -/
theorem seq_in {A B : KM} {m : Nat} {F : Nat → Rs} {c1 c2 : Nat} {co : Int32 → Prop} (hF : MrM B t L q δ m F) (hV : GV (tK t L) (nT t L) co F) (hL : MrL A 9 t L q δ (m + 4) 400 (lpF (tK t L) F c1 c2 400)) (d rc rs : Nat) (Q : Option Value → Mu → Prop) (μ : Mu) (hm : m + 4 ≤ d) (hS : St μ) (hG : MG μ t L q δ p W O) (hZ : SZ t L p W O) (hn : ∀ μ' p', sq (F p) (lpF (tK t L) F c1 c2 400) = (p', none) → FrR q μ μ' → St μ' → mI μ' (hd 40 0) 9 = nI p' → Q (some (.int 0)) μ') (hs : ∀ μ' p' l, sq (F p) (lpF (tK t L) F c1 c2 400) = (p', some l) → FrR q μ μ' → St μ' → MG μ' t L q δ p' (W ++ wdsO t L l) (O ++ opO W.length l) → Q (some (.int 1)) μ') : Cal B (d - 1) 0 0 [.ref (hd 40 0)] μ (fun r μ1 => ∃ y2, r = some (.int y2) ∧ ((y2 = 0 → (St μ1 ∧ Q (some (.int 0)) μ1)) ∧ (¬ y2 = 0 → Wx A d rc rs (fun r μ' => St μ' ∧ Q r μ') 9 [(0, .ref (hd 40 0))] [] μ1))) := by
  have h4 := nT_le (t := t) (L := L)
  refine hF _ _ _ _ _ _ _ _ (by omega) hS hG hZ (fun μ2 p2 e f s w => ⟨0, rfl, fun _ => ⟨s, hn μ2 p2 (sqn e) f s w⟩, fun y => absurd rfl y⟩) (fun μ2 p2 l2 e f s w => ⟨1, rfl, fun y => absurd y (by decide), fun _ => ?_⟩)
  have g := (hV p hG.p4.1).2.2 l2 (by rw [e])
  rw [e] at g
  refine hL d rc rs Q μ2 p2 _ _ (by omega) hm s w (hZ.step g.2.1 g.1) (fun μ' p' e2 a b c => hn μ' p' (sqsn e e2) (f.trans a) b c) (fun μ' p' l' e2 a b c => hs μ' p' _ (sqss e e2) (f.trans a) b ?_)
  rw [wdsO_app, ← List.append_assoc, opO_app, ← List.append_assoc]
  rw [List.length_append, wdsO_len] at c
  exact c
theorem MrM.product {m : Nat} {F : Nat → Rs} (hF : MrM K_MM_isValue t L q δ m F) (hV : GV (tK t L) (nT t L) isAny F) : MrM K_MM_isProduct t L q δ (m + 4) (proF (tK t L) F) := fun d rc rs Q μ p W O hm hS hG hZ hn hs =>
  e_MM_isProduct (g_MM_isProduct_0 (by omega) hS (seq_in hF hV (MrL.product hF hV 400) d rc rs Q μ hm hS hG hZ hn hs))
theorem MrM.sum {m : Nat} {F : Nat → Rs} (hF : MrM K_MM_isProduct t L q δ m F) (hV : GV (tK t L) (nT t L) isAny F) : MrM K_MM_isSum t L q δ (m + 4) (fun p => sq (F p) (lpF (tK t L) F 35 36 400)) := fun d rc rs Q μ p W O hm hS hG hZ hn hs =>
  e_MM_isSum (g_MM_isSum_0 (by omega) hS (seq_in hF hV (MrL.sum hF hV 400) d rc rs Q μ hm hS hG hZ hn hs))
theorem MrM.both {m : Nat} {F : Nat → Rs} (hF : MrM K_MM_isSingle t L q δ m F) (hV : GV (tK t L) (nT t L) is01 F) : MrM K_MM_isBoth t L q δ (m + 4) (botF (tK t L) F) := fun d rc rs Q μ p W O hm hS hG hZ hn hs =>
  e_MM_isBoth (g_MM_isBoth_0 (by omega) hS (seq_in hF hV (MrL.both hF hV 400) d rc rs Q μ hm hS hG hZ hn hs))
theorem MrM.test {m : Nat} {F : Nat → Rs} (hF : MrM K_MM_isBoth t L q δ m F) (hV : GV (tK t L) (nT t L) is01 F) : MrM K_MM_isTest t L q δ (m + 4) (fun p => sq (F p) (lpF (tK t L) F 26 26 400)) := fun d rc rs Q μ p W O hm hS hG hZ hn hs =>
  e_MM_isTest (g_MM_isTest_0 (by omega) hS (seq_in hF hV (MrL.test hF hV 400) d rc rs Q μ hm hS hG hZ hn hs))
end MVC
