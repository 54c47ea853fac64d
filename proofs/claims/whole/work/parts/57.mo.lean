/-! the model's reading: orders, and the whole list -/
def tlF (K : Nat → Nat) (k p : Nat) : Rs := if k = 9 then (p, some []) else if k = 6 then sq (gTk K 10 p) (gSum K 8) else if k = 7 then sq (gTk K 11 p) (gSum K 8) else sq (gTk K 12 p) (wyF K)
/-- only the order x changes -/
def KpO (q x : Nat) (μ μ' : Mu) : Prop := mI μ' (hd 50 q) 7 = mI μ (hd 50 q) 7 ∧ ∀ κ, 58 ≤ κ → κ ≤ 60 → ∀ j, j ≠ x → mI μ' (hd κ q) j = mI μ (hd κ q) j
theorem KpO.trans {q x : Nat} {μ1 μ2 μ3 : Mu} (h : KpO q x μ1 μ2) (h' : KpO q x μ2 μ3) : KpO q x μ1 μ3 := ⟨h'.1.trans h.1, fun κ a b j c => (h'.2 κ a b j c).trans (h.2 κ a b j c)⟩
theorem KpO.of {q x : Nat} {μ μ' : Mu} (h : FrR q μ μ') : KpO q x μ μ' := ⟨h.2.2.2 7 (by decide) (by decide), fun κ a b j _ => h.1.I (by omega) (by unfold OwR; omega)⟩
theorem KpO.s {q x κ : Nat} {v : Int32} {μ μ' : Mu} (h : KpO q x μ μ') (hκ : 58 ≤ κ ∧ κ ≤ 60) : KpO q x μ (setI μ' (hd κ q) x v) := by
  refine ⟨(rd_ne (by omega) (by decide) (by omega)).trans h.1, fun κ' a b j c => ?_⟩
  rw [rd_o c]; exact h.2 κ' a b j c
theorem FrR.same {q κ j : Nat} {μ μ' : Mu} (h : FrR q μ μ') (hκ : 58 ≤ κ ∧ κ ≤ 60) : mI μ' (hd κ q) j = mI μ (hd κ q) j := h.1.I (by omega) (by unfold OwR; omega)
section MOC
variable {d rc rs : Nat} {Q : Option Value → Mu → Prop} {μ : Mu} {t : Nat → Nat} {L q p : Nat} {W : List Int32} {O : List Nat}
theorem SZ.of (h1 : W.length ≤ 2 * p) (h2 : O.length ≤ p) (hk : tK t L p ≠ 4) : SZ t L (p + 1) W O := ⟨by omega, by omega, by rw [Nat.add_sub_cancel]; exact hk⟩
/-- an order from its test on -/
theorem c_MM_ord205 {k x : Nat} {y : Int32} (hD : 107 ≤ d) (hx : x < 21) (hy : y = bI (k ≤ 7)) (hk : 6 ≤ k ∧ k ≤ 9) (hS : St μ) (hG : MG μ t L q 0 p W O) (hW : W.length ≤ 2 * p) (hO : O.length ≤ p) (hn : ∀ μ' p', otF (tK t L) k p = (p', none) → FrL q μ μ' → St μ' → mI μ' (hd 40 0) 9 = nI p' → Q (some (.int 0)) μ') (hs : ∀ μ' p' l, otF (tK t L) k p = (p', some l) → FrL q μ μ' → St μ' → MG μ' t L q 0 p' (W ++ wdsO t L l) (O ++ opO W.length l) → KpO q x μ μ' → mI μ' (hd 58 q) x = mI μ (hd 58 q) x → mI μ' (hd 59 q) x = nI W.length → mI μ' (hd 60 q) x = nI (W.length + wdL l) → Q (some (.int 1)) μ') : Wx K_MM_isOrderLine d rc rs (fun r μ' => St μ' ∧ Q r μ') 205 [(0, .ref (hd 40 0)), (2, .int (nI x)), (3, .int y)] [] μ := by
  have hp := hG.p4
  have v2 : vp_in (nI x) 21 := vp_in_nI hx (by decide)
  refine g_MM_isOrderLine_205 (by omega) hS ⟨v2, v2, fun μ7 e7 => ?_⟩
  have hq : px μ (hd 40 0) 12 = q := hG.2.1
  have h16 : mI μ (hd 50 q) 16 = nI W.length := hG.2.2.2.2.1.1
  rw [nI_clamp (by omega), hq, h16, rd_ne (by decide) (by decide) (by decide), h16] at e7
  have hS7 : St μ7 := by rw [e7]; exact hS
  have f7 : FrL q μ μ7 := by rw [e7]; exact (FrL.rf.s58 (by omega)).s58 (by omega)
  have hG7 : MG μ7 t L q 0 p W O := by rw [e7]; exact (hG.s58 (by omega)).s58 (by omega)
  have k7 : KpO q x μ μ7 := by
    rw [e7]
    exact KpO.s (KpO.s ⟨rfl, fun _ _ _ _ _ => rfl⟩ (by omega)) (by omega)
  have c58 : mI μ7 (hd 58 q) x = mI μ (hd 58 q) x := by rw [e7, rd_ne (by decide) (by decide) (by decide), rd_ne (by decide) (by decide) (by decide)]
  have c59 : mI μ7 (hd 59 q) x = nI W.length := by rw [e7, rd_ne (by decide) (by decide) (by decide), rd_eq]
  have c60 : mI μ7 (hd 60 q) x = nI W.length := by rw [e7, rd_eq]
  clear e7
  -- the test itself
  have tst : (otF (tK t L) k p = sq (gTk (tK t L) 16 p) (gTes (tK t L) 8)) → Cal K_MM_eat (d - 1) 0 0 [.ref (hd 40 0), .int 16] μ7 (fun r μ8 => ∃ y9, r = some (.int y9) ∧ ((y9 = 0 → (St μ8 ∧ Q (some (.int 0)) μ8)) ∧ (¬ y9 = 0 → (Cal K_MM_isTest (d - 1) 0 0 [.ref (hd 40 0)] μ8 (fun r μ10 => ∃ y11, r = some (.int y11) ∧ ((y11 = 0 → (St μ10 ∧ Q (some (.int 0)) μ10)) ∧ (¬ y11 = 0 → (vp_in (nI x) 21 ∧ (St (setI μ10 (hd 60 (px μ10 (hd 40 0) 12)) (nI x).toNatClampNeg (mI μ10 (hd 50 (px μ10 (hd 40 0) 12)) 16)) ∧ Q (some (.int 1)) (setI μ10 (hd 60 (px μ10 (hd 40 0) 12)) (nI x).toNatClampNeg (mI μ10 (hd 50 (px μ10 (hd 40 0) 12)) 16))))))))))) := by
    intro e
    refine c_MM_eat (k := 16) (by omega) hS7 hG7 (by decide) (by decide) (fun y => rl_0 (by omega)) (fun z => ⟨0, rfl, fun _ => ⟨hS7, hn μ7 p (e.trans (sqn (tk_n z))) f7 hS7 hG7.2.2.1⟩, fun y => absurd rfl y⟩) (fun z μ8 a1 a2 a3 => ⟨1, rfl, fun y => absurd y (by decide), fun _ => ?_⟩)
    refine c_MM_test8 _ _ _ _ _ _ _ _ (by omega) a2 a3 (SZ.of hW hO (by omega)) (fun μ9 p9 e9 b1 b2 b3 => ⟨0, rfl, fun _ => ⟨b2, hn μ9 p9 (e.trans (sqsn (tk_y z) e9)) ((f7.trans a1.l).trans b1.l) b2 b3⟩, fun y => absurd rfl y⟩) (fun μ9 p9 l9 e9 b1 b2 b3 => ⟨1, rfl, fun y => absurd y (by decide), fun _ => ⟨v2, ?_⟩⟩)
    have hq9 : px μ9 (hd 40 0) 12 = q := b3.2.1
    rw [nI_clamp (by omega), hq9, b3.2.2.2.2.1.1]
    have hS9 : ∀ v, St (setI μ9 (hd 60 q) x v) := fun v => b2
    refine ⟨hS9 _, hs _ p9 _ (e.trans (sqss (tk_y z) e9)) (((f7.trans a1.l).trans b1.l).s58 (by omega)) (hS9 _) (b3.s58 (by omega)) ((k7.trans ((KpO.of a1).trans (KpO.of b1))).s (by omega)) ?_ ?_ ?_⟩
    · rw [rd_ne (by decide) (by decide) (by decide), b1.same (by omega), a1.same (by omega)]; exact c58
    · rw [rd_ne (by decide) (by decide) (by decide), b1.same (by omega), a1.same (by omega)]; exact c59
    · rw [rd_eq, List.length_append, wdsO_len]; rfl
  by_cases h7 : k ≤ 7
  · rw [hy, bI_t h7]
    exact ⟨fun z => absurd z (by decide), fun _ => tst (by unfold otF; rw [if_pos (by omega)])⟩
  · rw [hy, bI_f h7]
    refine ⟨fun _ => ?_, fun z => absurd rfl z⟩
    refine c_MM_is (k := 16) (by omega) hS7 hG7 (by decide) (by decide) ⟨_, rfl, fun z => ?_, fun z => ?_⟩
    · rw [bI_z] at z
      have e : otF (tK t L) k p = (p, some []) := by unfold otF; rw [if_neg (by omega)]
      exact ⟨hS7, hs μ7 p [] e f7 hS7 (by rw [show wdsO t L [] = [] from rfl, List.append_nil, show opO W.length [] = [] from rfl, List.append_nil]; exact hG7) k7 c58 c59 c60⟩
    · rw [bI_z, Classical.not_not] at z
      exact tst (by unfold otF; rw [if_pos (by omega)])
/-- an order from its sum on -/
theorem c_MM_ord114 {k x : Nat} (hD : 107 ≤ d) (hx : x < 21) (hk : 6 ≤ k ∧ k ≤ 9) (hS : St μ) (hG : MG μ t L q 0 p W O) (hW : W.length ≤ 2 * p) (hO : O.length ≤ p) (hn : ∀ μ' p', (tlF (tK t L) k p = (p', none) ∨ ∃ p1 l1, tlF (tK t L) k p = (p1, some l1) ∧ otF (tK t L) k p1 = (p', none)) → FrL q μ μ' → St μ' → mI μ' (hd 40 0) 9 = nI p' → Q (some (.int 0)) μ') (hs : ∀ μ' p1 l1 p' l, tlF (tK t L) k p = (p1, some l1) → otF (tK t L) k p1 = (p', some l) → FrL q μ μ' → St μ' → MG μ' t L q 0 p' (W ++ wdsO t L l1 ++ wdsO t L l) (O ++ opO W.length l1 ++ opO (W.length + wdL l1) l) → KpO q x μ μ' → mI μ' (hd 58 q) x = nI W.length → mI μ' (hd 59 q) x = nI (W.length + wdL l1) → mI μ' (hd 60 q) x = nI (W.length + wdL l1 + wdL l) → Q (some (.int 1)) μ') : Wx K_MM_isOrderLine d rc rs (fun r μ' => St μ' ∧ Q r μ') 114 [(0, .ref (hd 40 0)), (1, .int (nI k)), (2, .int (nI x))] [] μ := by
  have hp := hG.p4
  have v2 : vp_in (nI x) 21 := vp_in_nI hx (by decide)
  have hq : px μ (hd 40 0) 12 = q := hG.2.1
  refine g_MM_isOrderLine_114 (by omega) hS ⟨v2, ?_⟩
  rw [hq, nI_clamp (by omega), hG.2.2.2.2.1.1, show (6 : Int32) = nI 6 from rfl, show (7 : Int32) = nI 7 from rfl, nI_eq (by omega) (by decide), nI_eq (by omega) (by decide)]
  have hS1 : St (setI μ (hd 58 q) x (nI W.length)) := hS
  have hG1 : MG (setI μ (hd 58 q) x (nI W.length)) t L q 0 p W O := hG.s58 (by omega)
  have f1 : FrL q μ (setI μ (hd 58 q) x (nI W.length)) := FrL.rf.s58 (by omega)
  have k1 : KpO q x μ (setI μ (hd 58 q) x (nI W.length)) := KpO.s ⟨rfl, fun _ _ _ _ _ => rfl⟩ (by omega)
  have c1 : mI (setI μ (hd 58 q) x (nI W.length)) (hd 58 q) x = nI W.length := rd_eq
  generalize setI μ (hd 58 q) x (nI W.length) = μ1 at hS1 hG1 f1 k1 c1 ⊢
  -- from the sum on
  have fin : ∀ μ2 p2 l2, tlF (tK t L) k p = (p2, some l2) → FrR q μ1 μ2 → St μ2 → MG μ2 t L q 0 p2 (W ++ wdsO t L l2) (O ++ opO W.length l2) → (W ++ wdsO t L l2).length ≤ 2 * p2 → (O ++ opO W.length l2).length ≤ p2 → ∀ y, y = bI (k ≤ 7) → Wx K_MM_isOrderLine d rc rs (fun r μ' => St μ' ∧ Q r μ') 205 [(0, .ref (hd 40 0)), (2, .int (nI x)), (3, .int y)] [] μ2 := by
    intro μ2 p2 l2 e a1 a2 a3 a4 a5 y hy
    refine c_MM_ord205 hD hx hy hk a2 a3 a4 a5 (fun μ' p' e' b1 b2 b3 => hn μ' p' (Or.inr ⟨p2, l2, e, e'⟩) ((f1.trans a1.l).trans b1) b2 b3) (fun μ' p' l e' b1 b2 b3 b4 b5 b6 b7 => hs μ' p2 l2 p' l e e' ((f1.trans a1.l).trans b1) b2 ?_ (k1.trans ((KpO.of a1).trans b4)) ?_ ?_ ?_)
    · rw [List.length_append, wdsO_len] at b3; exact b3
    · rw [b5, a1.same (by omega)]; exact c1
    · rw [b6, List.length_append, wdsO_len]
    · rw [b7, List.length_append, wdsO_len]
  have sm : ∀ w v, (w = 10 ∨ w = 11) → v = nI w → k ≤ 7 → (tlF (tK t L) k p = sq (gTk (tK t L) w p) (gSum (tK t L) 8)) → Cal K_MM_eat (d - 1) 0 0 [.ref (hd 40 0), .int v] μ1 (fun r μ5 => ∃ y6, r = some (.int y6) ∧ ((y6 = 0 → Wx K_MM_isOrderLine d rc rs (fun r μ' => St μ' ∧ Q r μ') 179 [] [] μ5) ∧ (¬ y6 = 0 → (Cal K_MM_isSum (d - 1) 0 0 [.ref (hd 40 0)] μ5 (fun r μ7 => ∃ y8, r = some (.int y8) ∧ ((y8 = 0 → Wx K_MM_isOrderLine d rc rs (fun r μ' => St μ' ∧ Q r μ') 179 [] [] μ7) ∧ (¬ y8 = 0 → Wx K_MM_isOrderLine d rc rs (fun r μ' => St μ' ∧ Q r μ') 181 [(0, .ref (hd 40 0)), (1, .int (nI k)), (2, .int (nI x)), (3, .int 1)] [] μ7))))))) := by
    intro w v hw hv hk7 e
    have hmk : v = nI (mk w) := by rw [hv]; rcases hw with rfl | rfl <;> rfl
    refine c_MM_eat (k := w) (by omega) hS1 hG1 hmk (by omega) (fun y => rl_0 (by omega)) (fun z => ⟨0, rfl, fun _ => g_MM_isOrderLine_179 (by omega) hS1 ⟨hS1, hn μ1 p (Or.inl (e.trans (sqn (tk_n z)))) f1 hS1 hG1.2.2.1⟩, fun y => absurd rfl y⟩) (fun z μ8 a1 a2 a3 => ⟨1, rfl, fun y => absurd y (by decide), fun _ => ?_⟩)
    have hZ := SZ.of (t := t) (L := L) hW hO (show tK t L p ≠ 4 by omega)
    refine c_MM_sum8 _ _ _ _ _ _ _ _ (by omega) a2 a3 hZ (fun μ9 p9 e9 b1 b2 b3 => ⟨0, rfl, fun _ => g_MM_isOrderLine_179 (by omega) b2 ⟨b2, hn μ9 p9 (Or.inl (e.trans (sqsn (tk_y z) e9))) ((f1.trans a1.l).trans b1.l) b2 b3⟩, fun y => absurd rfl y⟩) (fun μ9 p9 l9 e9 b1 b2 b3 => ⟨1, rfl, fun y => absurd y (by decide), fun _ => ?_⟩)
    have g := (GV.gSum (K := tK t L) (n := nT t L) nT_end 8 (p + 1) a3.p4.1).2.2 l9 (by rw [e9])
    rw [e9] at g
    have hZ2 := hZ.step g.2.1 g.1
    refine g_MM_isOrderLine_181 (by omega) b2 ⟨fun y => absurd y ?_, fun _ => ?_⟩
    · rw [show (8 : Int32) = nI 8 from rfl, nI_eq (by omega) (by decide)]; omega
    · exact fin μ9 p9 _ (e.trans (sqss (tk_y z) e9)) (a1.trans b1) b2 b3 hZ2.1 hZ2.2.1 1 (bI_t hk7).symm
  have n0 : ∀ {P : Prop}, ¬ ((0 : Int32) = 0) → P := fun h => absurd rfl h
  have n1 : ∀ {P : Prop}, (1 : Int32) = 0 → P := fun h => absurd h (by decide)
  refine ⟨fun z => ?_, fun z => ⟨fun y => ?_, fun y => ⟨fun _ => ?_, n0⟩⟩⟩
  · refine g_MM_isOrderLine_142 (by omega) hS1 ⟨n1, fun _ => ⟨fun _ => sm 10 10 (Or.inl rfl) rfl (by omega) ?_, fun w => absurd ?_ w⟩⟩
    · unfold tlF; rw [if_neg (by omega), if_pos z]
    · rw [z]; rfl
  · refine g_MM_isOrderLine_142 (by omega) hS1 ⟨n1, fun _ => ⟨fun w => absurd w ?_, fun _ => sm 11 11 (Or.inr rfl) rfl (by omega) ?_⟩⟩
    · rw [y]; decide
    · unfold tlF; rw [if_neg (by omega), if_neg (by omega), if_pos y]
  · have nil : MG μ1 t L q 0 p (W ++ wdsO t L []) (O ++ opO W.length []) := by rw [show wdsO t L [] = [] from rfl, List.append_nil, show opO W.length [] = [] from rfl, List.append_nil]; exact hG1
    have lw : (W ++ wdsO t L []).length = W.length := by rw [show wdsO t L [] = [] from rfl, List.append_nil]
    have lo : (O ++ opO W.length []).length = O.length := by rw [show opO W.length [] = [] from rfl, List.append_nil]
    refine g_MM_isOrderLine_181 (by omega) hS1 ?_
    rw [show (8 : Int32) = nI 8 from rfl, nI_eq (by omega) (by decide)]
    refine ⟨fun w => ?_, fun w => ?_⟩
    · have e : tlF (tK t L) k p = sq (gTk (tK t L) 12 p) (wyF (tK t L)) := by unfold tlF; rw [if_neg (by omega), if_neg z, if_neg y]
      refine c_MM_eat (k := 12) (by omega) hS1 hG1 (by decide) (by decide) (fun y => rl_0 (by omega)) (fun z => ⟨0, rfl, fun _ => g_MM_isOrderLine_203 (by omega) hS1 ⟨hS1, hn μ1 p (Or.inl (e.trans (sqn (tk_n z)))) f1 hS1 hG1.2.2.1⟩, n0⟩) (fun z μ8 a1 a2 a3 => ⟨1, rfl, n1, fun _ => ?_⟩)
      refine c_MM_isWay (by omega) a2 a3 (fun u μ9 b1 b2 b3 => ⟨0, rfl, fun _ => g_MM_isOrderLine_203 (by omega) b2 ⟨b2, hn μ9 (p + 1) (Or.inl (e.trans (sqsn (tk_y z) ?_))) ((f1.trans a1.l).trans b1.l) b2 b3⟩, n0⟩) (fun u1 u2 μ9 b1 b2 b3 => ⟨1, rfl, n1, fun _ => ?_⟩)
      · unfold wyF; rw [if_neg u]
      · have ew : wyF (tK t L) (p + 1) = (p + 2, some []) := by unfold wyF; rw [if_pos ⟨u1, u2⟩]; exact tk_y rfl
        refine fin μ9 (p + 2) [] (e.trans (sqss (tk_y z) ew)) (a1.trans b1) b2 ?_ ?_ ?_ 0 (bI_f (by omega)).symm
        · rw [show wdsO t L [] = [] from rfl, List.append_nil, show opO W.length [] = [] from rfl, List.append_nil]; exact b3
        · rw [lw]; omega
        · rw [lo]; omega
    · exact fin μ1 p [] (by unfold tlF; rw [if_pos (by omega)]) FrR.rf hS1 nil (by rw [lw]; exact hW) (by rw [lo]; exact hO) 0 (bI_f (by omega)).symm
theorem oh_tl {K : Nat → Nat} {k p : Nat} : ohF K k p = sq (sq (gTk K k p) (gTk K 44)) (fun q => sq (if k = 9 then (q, some []) else gTk K 44 q) (tlF K k)) := by
  unfold ohF
  refine sq_congr (fun l _ => ?_)
  by_cases h : k = 9
  · rw [if_pos h, if_pos h]
    have : ∀ q, tlF K k q = (q, some []) := fun q => by unfold tlF; rw [if_pos h]
    unfold sq; dsimp only; rw [this]; rfl
  · rw [if_neg h, if_neg h]
    refine sq_congr (fun l _ => ?_)
    unfold tlF; rw [if_neg h]
/-- an order's line -/
theorem c_MM_isOrderLine {n0 : Nat} (hD : 108 ≤ d) (hS : St μ) (hG : MG μ t L q 0 p W O) (hW : W.length ≤ 2 * p) (hO : O.length ≤ p) (h7 : mI μ (hd 50 q) 7 = nI n0) (hn0 : n0 < 1000) (h0 : tK t L p ≠ 0 ∧ tK t L p ≠ 5 ∧ tK t L p ≠ 1) (hn : ∀ μ' p', lnF (tK t L) p = (p', none) → FrL q μ μ' → St μ' → mI μ' (hd 40 0) 9 = nI p' → Q (some (.int 0)) μ') (hs : ∀ μ' p' l1 l2, lnF (tK t L) p = (p', some [(p, l1, l2)]) → FrL q μ μ' → St μ' → MG μ' t L q 0 p' (W ++ wdsO t L l1 ++ wdsO t L l2) (O ++ opO W.length l1 ++ opO (W.length + wdL l1) l2) → mI μ' (hd 50 q) 7 = nI (n0 + 1) → (∀ κ, 58 ≤ κ → κ ≤ 60 → ∀ j, j ≠ min n0 20 → mI μ' (hd κ q) j = mI μ (hd κ q) j) → mI μ' (hd 58 q) (min n0 20) = nI W.length → mI μ' (hd 59 q) (min n0 20) = nI (W.length + wdL l1) → mI μ' (hd 60 q) (min n0 20) = nI (W.length + wdL l1 + wdL l2) → Q (some (.int 1)) μ') : Cal K_MM_isOrderLine d rc rs [.ref (hd 40 0)] μ Q := by
  have hp := hG.p4
  have hr := tK_rng (t := t) (L := L) (i := p)
  have b1 := mk_big (tK t L p) (by omega)
  have v4 : vp_in (nI p) 401 := vp_in_nI (by omega) (by decide)
  have hq : px μ (hd 40 0) 12 = q := hG.2.1
  have ez : (nI (mk (tK t L p))).toInt = (mk (tK t L p) : Int) := nI_toInt (by omega)
  have hw9 := mk_way (tK t L p) (by omega)
  refine e_MM_isOrderLine (g_MM_isOrderLine_0 (by omega) hS ?_)
  rw [hG.2.2.1, nI_clamp (by omega), hG.kd]
  refine ⟨v4, c_MM_isInN (a := 6) (b := 9) (by omega) hS (by omega) (by decide) (by decide) ⟨_, rfl, fun z => ?_, fun z => ?_⟩⟩
  · rw [bI_z, hw9.2.1] at z
    exact ⟨hS, hn μ p (by unfold lnF; rw [if_neg (by omega), if_neg (by omega), if_neg z]) FrL.rf hS hG.2.2.1⟩
  · rw [bI_z, Classical.not_not, hw9.2.1] at z
    have hmk := hw9.2.2 (by omega)
    have e0 : lnF (tK t L) p = (match ohF (tK t L) (tK t L p) p with
        | (p1, none) => (p1, none)
        | (p1, some l1) => match otF (tK t L) (tK t L p) p1 with
          | (p2, none) => (p2, none)
          | (p2, some l2) => (p2, some [(p, l1, l2)])) := by
      unfold lnF; rw [if_neg (by omega), if_neg (by omega), if_pos z]; rfl
    have hpn := in_n hp.1 (by omega)
    rw [hG.2.2.1, nI_clamp (by omega), hq, hmk]
    refine ⟨v4, fun μ7 e7 => ?_⟩
    rw [rd_ne (by decide) (by decide) (by decide), hG.2.2.1, nI_1, rd_ne (by decide) (by decide) (by decide), rd_ne (by decide) (by decide) (by decide), h7, nI_1] at e7
    have h72 : mI (setI (setI μ (hd 45 0) p 7) (hd 40 0) 9 (mI (setI μ (hd 45 0) p 7) (hd 40 0) 9 + 1)) (hd 50 q) 7 = nI n0 := by
      rw [rd_ne (by decide) (by decide) (by decide), rd_ne (by decide) (by decide) (by decide)]; exact h7
    rw [h72]
    have hmin : imin (nI n0) 20 = nI (min n0 20) := by
      apply Int32.toInt_inj.mp
      rw [imin_toInt, nI_toInt (by omega), nI_toInt (by omega), show ((20 : Int32)).toInt = 20 from by decide]
      omega
    rw [hmin, show (9 : Int32) = nI 9 from rfl, nI_eq (by omega) (by decide)]
    have hS7 : St μ7 := by rw [e7]; exact hS
    have f7 : FrL q μ μ7 := by rw [e7]; exact (((FrR.rf (q := q).s45).s40 (Or.inl rfl)).l).s7
    have hG7 : MG μ7 t L q 0 (p + 1) W O := by
      rw [e7]
      exact (hG.tokAs rfl hpn (by unfold rl; rw [if_pos z]; rfl)).s7
    have o7 : mI μ7 (hd 50 q) 7 = nI (n0 + 1) := by rw [e7, rd_eq]
    have k7 : ∀ κ, 58 ≤ κ → κ ≤ 60 → ∀ j, mI μ7 (hd κ q) j = mI μ (hd κ q) j := by
      intro κ a b j
      rw [e7, rd_ne (by decide) (by omega) (by omega), rd_ne (by decide) (by omega) (by omega), rd_ne (by decide) (by omega) (by omega)]
    clear e7
    generalize hk : tK t L p = k at *
    have t0 := tk_y hk
    -- behind the names
    have fin : ∀ μ8 p8, sq (gTk (tK t L) k p) (gTk (tK t L) 44) = (p + 2, some []) → (if k = 9 then ((p + 2, some []) : Rs) else gTk (tK t L) 44 (p + 2)) = (p8, some []) → p ≤ p8 → FrR q μ7 μ8 → St μ8 → MG μ8 t L q 0 p8 W O → Wx K_MM_isOrderLine d rc rs (fun r μ' => St μ' ∧ Q r μ') 114 [(0, .ref (hd 40 0)), (1, .int (nI k)), (2, .int (nI (min n0 20)))] [] μ8 := by
      intro μ8 p8 e1 e2 hle a1 a2 a3
      have eo : ∀ r, tlF (tK t L) k p8 = r → ohF (tK t L) k p = (r.1, r.2) := by
        intro r hr'
        rw [oh_tl, e1]
        unfold sq; dsimp only
        rw [e2]; dsimp only
        rw [hr']
        obtain ⟨x1, _ | x2⟩ := r <;> rfl
      refine c_MM_ord114 (by omega) (by omega) z a2 a3 (by omega) (by omega) (fun μ' p' e b1 b2 b3 => hn μ' p' ?_ ((f7.trans a1.l).trans b1) b2 b3) (fun μ' p1 l1 p' l e e' b1 b2 b3 b4 b5 b6 b7 => hs μ' p' l1 l ?_ ((f7.trans a1.l).trans b1) b2 b3 ?_ ?_ b5 b6 b7)
      · rw [e0]
        rcases e with e | ⟨p1, l1, e, e'⟩
        · rw [eo _ e]
        · rw [eo _ e]; dsimp only; rw [e']
      · rw [e0, eo _ e]; dsimp only; rw [e']
      · rw [b4.1, (KpO.of (x := 0) a1).1]; exact o7
      · intro κ c1 c2 j c3
        rw [b4.2 κ c1 c2 j c3, a1.same ⟨c1, c2⟩, k7 κ c1 c2]
    have n0' : ∀ {P : Prop}, ¬ ((0 : Int32) = 0) → P := fun h => absurd rfl h
    have n1' : ∀ {P : Prop}, (1 : Int32) = 0 → P := fun h => absurd h (by decide)
    have bad1 : tK t L (p + 1) ≠ 44 → ohF (tK t L) k p = (p + 1, none) := fun y => by rw [oh_tl]; exact sqn (sqsn t0 (tk_n y))
    refine ⟨fun z9 => ?_, fun z9 => ?_⟩
    · refine c_MM_eatAs (k := 44) (by omega) hS7 hG7 (by decide) (by decide) (fun y => ?_) (fun y μ8 a1 a2 a3 => ⟨0, rfl, fun _ => g_MM_isOrderLine_112 (by omega) a2 ⟨a2, hn μ8 (p + 1) (by rw [e0, bad1 y]) (f7.trans a1.l) a2 a3⟩, n0'⟩) (fun y μ8 a1 a2 a3 => ⟨1, rfl, n1', fun _ => fin μ8 (p + 2) (sqss t0 (tk_y y)) (if_pos z9) (by omega) a1 a2 a3⟩)
      rw [rl_44 y (show tK t L (p + 1 - 1) = 9 from hk.trans z9) rfl]; rfl
    · refine c_MM_eatAs (k := 44) (by omega) hS7 hG7 (by decide) (by decide) (fun y => ?_) (fun y μ8 a1 a2 a3 => ⟨0, rfl, fun _ => g_MM_isOrderLine_112 (by omega) a2 ⟨a2, hn μ8 (p + 1) (by rw [e0, bad1 y]) (f7.trans a1.l) a2 a3⟩, n0'⟩) (fun y μ8 a1 a2 a3 => ⟨1, rfl, n1', fun _ => ?_⟩)
      · rw [rl_44 y (show tK t L (p + 1 - 1) = k from hk) rfl, if_neg (by omega), if_neg (by omega), if_neg (by omega), if_neg (by omega), if_neg (by omega), if_pos (by omega)]; rfl
      have t1 := sqss (f := gTk (tK t L) 44) t0 (tk_y y)
      have bad2 : tK t L (p + 2) ≠ 44 → ohF (tK t L) k p = (p + 2, none) := fun x => by rw [oh_tl]; exact sqsn t1 (sqn ((if_neg z9).trans (tk_n x)))
      refine c_MM_eatAs (k := 44) (by omega) a2 a3 (by decide) (by decide) (fun x => ?_) (fun x μ9 b1 b2 b3 => ⟨0, rfl, fun _ => g_MM_isOrderLine_112 (by omega) b2 ⟨b2, hn μ9 (p + 2) (by rw [e0, bad2 x]) ((f7.trans a1.l).trans b1.l) b2 b3⟩, n0'⟩) (fun x μ9 b1 b2 b3 => ⟨1, rfl, n1', fun _ => fin μ9 (p + 3) t1 ((if_neg z9).trans (tk_y x)) (by omega) (a1.trans b1) b2 b3⟩)
      rw [rl_44 x (show tK t L (p + 1 + 1 - 1) = 44 from y) (show tK t L (p + 1 + 1 - 2) = k from hk), if_neg (by omega), if_neg (by omega), if_neg (by omega), if_neg (by omega), if_neg (by omega), if_neg (by omega), if_neg (by omega), if_neg (by omega), if_pos (by omega)]
end MOC
