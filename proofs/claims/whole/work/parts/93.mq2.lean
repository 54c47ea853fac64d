/-! the model's face: queries -/
theorem St.al85 {μ : Mu} {q : Nat} (h : St μ) : St (mkA μ (hd 85 q) (2, 5)) := by
  obtain ⟨hT, ⟨q1, a1, b1⟩, ⟨q2, a2, b2⟩, hf⟩ := h
  refine ⟨hT.al (by decide) (by decide +kernel) (by decide +kernel) (by decide +kernel) (by decide +kernel) (by decide +kernel), ⟨q1, ?_, b1.al (by decide) (fun h => absurd h (by decide))⟩, ⟨q2, ?_, b2.al (by decide) (fun h => absurd h (by decide))⟩, hf.al (by decide)⟩
  · rw [al_R (by decide) (by decide) (by decide)]; exact a1
  · rw [al_R (by decide) (by decide) (by decide)]; exact a2
theorem FrX.al85 {μ μ' : Mu} {q : Nat} {sh : Nat × Nat} (h : FrX μ μ') : FrX μ (mkA μ' (hd 85 q) sh) :=
  ⟨h.1.mk (by decide) (by decide) (Or.inr (by decide)), h.2.1.mk (by decide) (by decide) (Or.inl (by decide)), (al_S (by decide) (by decide) (by decide)).trans h.2.2⟩
theorem FrX.s85 {μ μ' : Mu} {q k : Nat} {v : Int32} (h : FrX μ μ') : FrX μ (setI μ' (hd 85 q) k v) := ⟨h.1.sI (by decide) (by decide) (Or.inr (by decide)), h.2.1.sI (by decide) (by decide) (Or.inl (by decide)), h.2.2⟩
section MQA
variable {d rc rs n : Nat} {Q : Option Value → Mu → Prop} {μ μ1 : Mu} {T : PT} {C Ct : Nat → List Op} {D : DT} {t : Nat → Nat} {L : Nat} {x x1 x2 x3 : Int32}
theorem MI.pm (h : MI μ T C Ct D t L x) : PM μ T D := by
  obtain ⟨⟨Es, g1, g2, g3⟩, -⟩ := h
  exact g1.2.2.2.2.2.2
theorem MI.p0 (h : MI μ T C Ct D t L x) : mI μ (hd 50 (px μ (hd 40 0) 11)) 0 = nI (T 0 0) := h.pm.1
theorem MI.p1 (h : MI μ T C Ct D t L x) : mI μ (hd 50 (px μ (hd 40 0) 11)) 1 = nI (T 1 0) := h.pm.2.1
theorem MI.p2 (h : MI μ T C Ct D t L x) : mI μ (hd 50 (px μ (hd 40 0) 11)) 2 = nI (T 2 0) := h.pm.2.2.1
theorem MI.p6 (h : MI μ T C Ct D t L x) : mI μ (hd 50 (px μ (hd 40 0) 11)) 6 = nI (T 6 0) := h.pm.2.2.2.1
theorem MI.xn (h : MI μ T C Ct D t L x) : XN μ 0 T D (mergedN D) := by
  obtain ⟨⟨Es, g1, g2, g3⟩, -⟩ := h
  exact g1
theorem MI.cnt (h : MI μ T C Ct D t L x) : mI μ (hd 65 0) 1 = nI (D 1 0 0) := h.xn.cnt
theorem MI.c0 {v : Int32} (hM : MI μ T C Ct D t L x) : MI (setI μ (hd 40 0) 0 v) T C Ct D t L x := by
  obtain ⟨⟨Es, g1, g2, g3⟩, g4, ⟨g5, g6⟩, g7⟩ := hM
  have i : ∀ κ i k, κ < 256 → κ ≠ 40 → mI (setI μ (hd 40 0) 0 v) (hd κ i) k = mI μ (hd κ i) k := fun κ i k a b => rd_ne (by decide) a b
  refine ⟨⟨Es, g1.tr rfl (fun κ k a b => i _ _ _ (by omega) (by omega)) (fun κ k a b => ⟨i _ _ _ (by omega) (by omega), rfl⟩), g2.tr (fun κ k a b => ⟨i _ _ _ (by omega) (by omega), rfl⟩), g3⟩, fun k hk => (g4 k hk).tr (fun κ j a b => i _ _ _ (by omega) (by omega)), ⟨?_, fun k hk => ?_⟩, ?_⟩
  · rw [rd_k (by decide)]; exact g5
  · rw [i _ _ _ (by decide) (by decide)]; exact g6 k hk
  · rw [rd_k (by decide)]; exact g7
/-- the model, while it answers -/
def MB (μ μ1 : Mu) (T : PT) (C Ct : Nat → List Op) (D : DT) (t : Nat → Nat) (L : Nat) (x : Int32) : Prop := FrX μ μ1 ∧ St μ1 ∧ MI μ1 T C Ct D t L x ∧ mI μ1 (hd 40 0) 0 = 0
def MAns (μ : Mu) (rv : RV) (T : PT) (C Ct : Nat → List Op) (D : DT) (t : Nat → Nat) (L : Nat) (x : Int32) (Q : Option Value → Mu → Prop) : Prop := ∀ μ' r, FrX μ μ' → St μ' → MI μ' T C Ct D t L x → MO rv r μ' → Q r μ'
theorem MB.start (hS : St μ) (hM : MI μ T C Ct D t L x) : MB μ (setI μ (hd 40 0) 0 0) T C Ct D t L x := ⟨FrX.I40, hS, hM.c0, rd_eq⟩
theorem MB.ok {v : Int32} (b : MB μ μ1 T C Ct D t L x) (hQ : MAns μ (.ok v) T C Ct D t L x Q) : St μ1 ∧ Q (some (.int v)) μ1 := ⟨b.2.1, hQ μ1 _ b.1 b.2.1 b.2.2.1 ⟨rfl, b.2.2.2⟩⟩
theorem MB.no {k c : Nat} {v : Int32} (b : MB μ μ1 T C Ct D t L x) (hQ : MAns μ (.ex k c) T C Ct D t L x Q) (hD : 1 ≤ d) (hv : v = nI c) : Cal K_MM_no d rc rs [.ref (hd 40 0), .int v] μ1 (fun r μ3 => ∃ y4, r = some (.int y4) ∧ (St μ3 ∧ Q (some (.int y4)) μ3)) := by
  have s : St (setI μ1 (hd 40 0) 0 v) := b.2.1
  exact e_MM_no (g_MM_no_0 hD b.2.1 ⟨s, 0, rfl, s, hQ _ _ (b.1.trans FrX.I40) s b.2.2.1.c0 ⟨⟨0, rfl⟩, rd_eq.trans hv⟩⟩)
theorem pm1 {n : Nat} (hn : n < 2 ^ 31) : (nI n - (1 : Int32)).toInt = (n : Int) - 1 := oI_toInt hn
theorem c_MM_inN0 {y : Int32} (e : y = nI n - (1 : Int32)) (hn : n < 2 ^ 31) (hD : 1 ≤ d) (hS : St μ1) (hQ : Q (some (.int (bI (inR x1 n)))) μ1) : Cal K_MM_isIn d rc rs [.int x1, .int 0, .int y] μ1 Q := by
  refine c_MM_isIn hD hS ?_
  have e0 : (0 : Int32).toInt = 0 := by decide
  rw [e0, e, pm1 hn, bI_congr (show (0 ≤ x1.toInt ∧ x1.toInt ≤ (n : Int) - 1) ↔ inR x1 n by unfold inR; omega)]; exact hQ
theorem c_MM_inN1 {y : Int32} (e : y = nI n) (hn : n < 2 ^ 31) (hD : 1 ≤ d) (hS : St μ1) (hQ : Q (some (.int (bI (inN x1 n)))) μ1) : Cal K_MM_isIn d rc rs [.int x1, .int 1, .int y] μ1 Q := by
  refine c_MM_isIn hD hS ?_
  rw [one_lit, e, nI_toInt hn]; exact hQ
theorem c_MM_isParish (hM : MI μ1 T C Ct D t L x) (hD : 2 ≤ d) (hS : St μ1) (hQ : Q (some (.int (bI (inR x1 (T 0 0))))) μ1) : Cal K_MM_isParish d rc rs [.ref (hd 40 0), .int x1] μ1 Q := by
  have h5 := hM.xn.P5
  refine e_MM_isParish (g_MM_isParish_0 (by omega) hS ?_)
  rw [hM.p0]
  exact c_MM_inN0 rfl (by omega) (by omega) hS ⟨_, rfl, bI_01, hS, hQ⟩
theorem c_MM_isRoad (hM : MI μ1 T C Ct D t L x) (hD : 2 ≤ d) (hS : St μ1) (hQ : Q (some (.int (bI (inR x1 (T 2 0))))) μ1) : Cal K_MM_isRoad d rc rs [.ref (hd 40 0), .int x1] μ1 Q := by
  have h5 := hM.xn.R8
  refine e_MM_isRoad (g_MM_isRoad_0 (by omega) hS ?_)
  rw [hM.p2]
  exact c_MM_inN0 rfl (by omega) (by omega) hS ⟨_, rfl, bI_01, hS, hQ⟩
theorem c_MM_isSheet (hM : MI μ1 T C Ct D t L x) (hD : 2 ≤ d) (hS : St μ1) (hQ : Q (some (.int (bI (inR x1 (D 1 0 0))))) μ1) : Cal K_MM_isSheet d rc rs [.ref (hd 40 0), .int x1] μ1 Q := by
  have h5 := hM.xn.S60
  refine e_MM_isSheet (g_MM_isSheet_0 (by omega) hS ?_)
  rw [hM.cnt]
  exact c_MM_inN0 rfl (by omega) (by omega) hS ⟨_, rfl, bI_01, hS, hQ⟩
theorem c_MM_isNotice (hM : MI μ1 T C Ct D t L x) (hD : 3 ≤ d) (hS : St μ1) (hQ : Q (some (.int (bI (inR x1 (T 0 0) ∧ inR x2 (T 1 0))))) μ1) : Cal K_MM_isNotice d rc rs [.ref (hd 40 0), .int x1, .int x2] μ1 Q := by
  have h6 := hM.xn.N6
  refine e_MM_isNotice (g_MM_isNotice_0 (by omega) hS (c_MM_isParish hM (by omega) hS ⟨_, rfl, bIs (fun h => ⟨hS, ?_⟩) (fun h => ?_)⟩))
  · rw [bI_f (fun z => h z.1)] at hQ; exact hQ
  · rw [hM.p1]
    refine c_MM_inN0 rfl (by omega) (by omega) hS ⟨_, rfl, bIs (fun h2 => ⟨hS, ?_⟩) (fun h2 => ⟨hS, ?_⟩)⟩
    · rw [bI_f (fun z => h2 z.2)] at hQ; exact hQ
    · rw [bI_t ⟨h, h2⟩] at hQ; exact hQ
theorem c_MM_thrown (hD : 1 ≤ d) (hS : St μ) (hQ : Q (some (.int (mI μ (hd 40 0) 0))) μ) : Cal K_MM_thrown d rc rs [.ref (hd 40 0)] μ Q := e_MM_thrown (g_MM_thrown_0 hD hS ⟨hS, hQ⟩)
theorem c_MM_errorAt (hM : MI μ T C Ct D t L x) (hD : 1 ≤ d) (hS : St μ) (hQ : MAns μ (.ok x) T C Ct D t L x Q) : Cal K_MM_errorAt d rc rs [.ref (hd 40 0)] μ Q := by
  have b := MB.start hS hM
  have := b.ok hQ
  refine e_MM_errorAt (g_MM_errorAt_0 hD hS ?_)
  rw [b.2.2.1.2.2.2]; exact this
theorem c_MM_roadsFrom {p : Nat} (hM : MI μ1 T C Ct D t L x) (hD : 1 ≤ d) (hS : St μ1) (hp : p < T 0 0) (hQ : Q (some (.int (nI (roadsFromN T D p)))) μ1) : Cal K_MM_roadsFrom d rc rs [.ref (hd 40 0), .int (nI p)] μ1 Q := by
  have h5 := hM.xn.P5
  have h8 := hM.xn.R8
  refine e_MM_roadsFrom (g_MM_roadsFrom_0 hD hS ?_)
  have key : ∀ r, r ≤ T 2 0 → Wx K_MM_roadsFrom d rc rs (fun r μ' => St μ' ∧ Q r μ') 4 [(0, .ref (hd 40 0)), (1, .int (nI p)), (2, .int (nI (sumN (fun r => bN (D 12 r 0 = p)) r))), (3, .int (nI r))] [] μ1 := by
    refine up_loop _ ?_ (fun r hr ih => ?_)
    · refine g_MM_roadsFrom_4 hD hS ⟨fun _ => ⟨hS, hQ⟩, fun h => absurd ?_ h⟩
      rw [hM.p2]; exact Int32.le_refl _
    · have hb := (hM.xn.rdB hr).1
      refine g_MM_roadsFrom_4 hD hS ⟨fun h => absurd h ?_, fun _ => ?_⟩
      · rw [hM.p2]; exact nI_ge hr (by omega)
      rw [nI_clamp (by omega), (hM.pm.2.2.2.2 r hr).1, nI_eq (by omega) (by omega)]
      refine ⟨vp_in_nI (by omega) (by decide), fun e => ?_, fun e => ?_⟩
      · rw [I1, nI_add, nI_add]
        rw [sumN, bN_t e] at ih; exact ih
      · rw [I0, nI_add, nI_1]
        rw [sumN, bN_f e] at ih; exact ih
  exact key 0 (Nat.zero_le _)
theorem c_MM_parishTold {p k : Nat} (hM : MI μ1 T C Ct D t L x) (hN : Inv T D) (hD : 4 ≤ d) (hS : St μ1) (hp : p < T 0 0) (hk : k < 6) (hQ : Q (some (.int (nI (parishN T D p k)))) μ1) : Cal K_MM_parishTold d rc rs [.ref (hd 40 0), .int (nI p), .int (nI k)] μ1 Q := by
  have h5 := hM.xn.P5
  refine e_MM_parishTold (g_MM_parishTold_0 (by omega) hS ?_)
  rcases (by omega : k = 0 ∨ k = 1 ∨ k = 2 ∨ k = 3 ∨ k = 4 ∨ k = 5) with rfl | rfl | rfl | rfl | rfl | rfl
  · exact ⟨fun _ => c_MS_known hM.xn (by omega) hS hN.2.2.1 hp ⟨_, rfl, hS, hQ⟩, fun h => absurd h (by decide), fun h => absurd h (by decide), fun h => absurd h (by decide), fun h => absurd h (by decide), fun h => absurd h (by decide)⟩
  · exact ⟨fun h => absurd h (by decide), fun _ => c_MS_waits hM.xn (by omega) hS hN.2.1 hp ⟨_, rfl, hS, hQ⟩, fun h => absurd h (by decide), fun h => absurd h (by decide), fun h => absurd h (by decide), fun h => absurd h (by decide)⟩
  · exact ⟨fun h => absurd h (by decide), fun h => absurd h (by decide), fun _ => c_MS_noticesOf (l := 1) hM.xn (by omega) hS hp (by decide) (by decide) ⟨_, rfl, hS, hQ⟩, fun h => absurd h (by decide), fun h => absurd h (by decide), fun h => absurd h (by decide)⟩
  · exact ⟨fun h => absurd h (by decide), fun h => absurd h (by decide), fun h => absurd h (by decide), fun _ => c_MS_noticesOf (l := 2) hM.xn (by omega) hS hp (by decide) (by decide) ⟨_, rfl, hS, hQ⟩, fun h => absurd h (by decide), fun h => absurd h (by decide)⟩
  · exact ⟨fun h => absurd h (by decide), fun h => absurd h (by decide), fun h => absurd h (by decide), fun h => absurd h (by decide), fun _ => c_MS_numberOf hM.xn (by omega) hS hp (by omega) ⟨_, rfl, hS, hQ⟩, fun h => absurd h (by decide)⟩
  · exact ⟨fun h => absurd h (by decide), fun h => absurd h (by decide), fun h => absurd h (by decide), fun h => absurd h (by decide), fun h => absurd h (by decide), fun _ => c_MM_roadsFrom hM (by omega) hS hp ⟨_, rfl, hS, hQ⟩⟩
theorem c_MM_boards0 {s : Nat} (hM : MI μ1 T C Ct D t L x) (hD : 3 ≤ d) (hS : St μ1) (hs : s < D 1 0 0) (hQ : Q (some (.int (nI (knowersN T D s)))) μ1) : Cal K_MM_boards d rc rs [.ref (hd 40 0), .int (nI s), .int 0] μ1 Q := by
  have h5 := hM.xn.P5
  have h60 := hM.xn.S60
  refine e_MM_boards (g_MM_boards_0 (by omega) hS ?_)
  have key : ∀ b, b ≤ T 0 0 → Wx K_MM_boards d rc rs (fun r μ' => St μ' ∧ Q r μ') 5 [(0, .ref (hd 40 0)), (1, .int (nI s)), (2, .int 0), (3, .int (nI (sumN (fun b => bN (kn D b s)) b))), (4, .int (nI b))] [] μ1 := by
    refine up_loop _ ?_ (fun b hb ih => ?_)
    · refine g_MM_boards_5 (by omega) hS ⟨fun _ => ⟨hS, hQ⟩, fun h => absurd ?_ h⟩
      rw [hM.p0]; exact Int32.le_refl _
    · refine g_MM_boards_5 (by omega) hS ⟨fun h => absurd h ?_, fun _ => ⟨fun _ => c_MS_knows hM.xn (by omega) hS hb hs ⟨_, rfl, bIs (fun e => ?_) (fun e => ?_)⟩, fun h => absurd rfl h⟩⟩
      · rw [hM.p0]; exact nI_ge hb (by omega)
      · rw [I0, nI_add, nI_1]
        rw [sumN, bN_f e] at ih; exact ih
      · rw [I1, nI_add, nI_add]
        rw [sumN, bN_t e] at ih; exact ih
  exact key 0 (Nat.zero_le _)
theorem c_MM_boards1 {s : Nat} (hM : MI μ1 T C Ct D t L x) (hD : 2 ≤ d) (hS : St μ1) (hs : s < D 1 0 0) (hQ : Q (some (.int (nI (showersN T D s)))) μ1) : Cal K_MM_boards d rc rs [.ref (hd 40 0), .int (nI s), .int 1] μ1 Q := by
  have h5 := hM.xn.P5
  have h6 := hM.xn.N6
  have h60 := hM.xn.S60
  have hsb := hM.xn.shB hs
  refine e_MM_boards (g_MM_boards_0 (by omega) hS ?_)
  have key : ∀ b, b ≤ T 0 0 → Wx K_MM_boards d rc rs (fun r μ' => St μ' ∧ Q r μ') 5 [(0, .ref (hd 40 0)), (1, .int (nI s)), (2, .int 1), (3, .int (nI (sumN (fun b => bN (D 7 b (5 * D 4 s 1 + D 4 s 0) = s + 1)) b))), (4, .int (nI b))] [] μ1 := by
    refine up_loop _ ?_ (fun b hb ih => ?_)
    · refine g_MM_boards_5 (by omega) hS ⟨fun _ => ⟨hS, hQ⟩, fun h => absurd ?_ h⟩
      rw [hM.p0]; exact Int32.le_refl _
    · refine g_MM_boards_5 (by omega) hS ⟨fun h => absurd h ?_, fun _ => ⟨fun h => absurd h (by decide), fun _ => ?_⟩⟩
      · rw [hM.p0]; exact nI_ge hb (by omega)
      have hv := (hM.xn.bdB hb).2.1 (5 * D 4 s 1 + D 4 s 0) (by omega)
      rw [nI_clamp (by omega), hM.xn.s1 hs, hM.xn.s2 hs]
      refine ⟨vp_in_nI (by omega) (by decide), vp_in_nI (by omega) (by decide), c_MS_spot (by omega) hS (by decide) ⟨_, rfl, vp_in_nI (by omega) (by decide), ?_⟩⟩
      rw [nI_clamp (by omega), show mI μ1 (hd 74 0) (30 * b + (5 * D 4 s 1 + D 4 s 0)) = oI (D 7 b (5 * D 4 s 1 + D 4 s 0)) from hM.xn.2.2.1 7 b _ ⟨hb, by omega⟩, ← oI_s s, oI_inj (by omega) (by omega)]
      refine ⟨fun e => ?_, fun e => ?_⟩
      · rw [oI_s, I1, nI_add, nI_add]
        rw [sumN, bN_t e] at ih; exact ih
      · rw [oI_s, I0, nI_add, nI_1]
        rw [sumN, bN_f e] at ih; exact ih
  exact key 0 (Nat.zero_le _)
theorem c_MM_sheetTold {s k : Nat} (hM : MI μ1 T C Ct D t L x) (hD : 4 ≤ d) (hS : St μ1) (hs : s < D 1 0 0) (hk : k < 8) (hQ : Q (some (.int (nI (sheetN T D s k)))) μ1) : Cal K_MM_sheetTold d rc rs [.ref (hd 40 0), .int (nI s), .int (nI k)] μ1 Q := by
  have h60 := hM.xn.S60
  refine e_MM_sheetTold (g_MM_sheetTold_0 (by omega) hS ?_)
  have v : vp_in (nI s) 60 := vp_in_nI (by omega) (by decide)
  rw [nI_clamp (by omega), hM.xn.s1 hs, hM.xn.s2 hs, hM.xn.s3 hs, hM.xn.s4 hs, hM.xn.s5 hs, hM.xn.s6 hs]
  rcases (by omega : k = 0 ∨ k = 1 ∨ k = 2 ∨ k = 3 ∨ k = 4 ∨ k = 5 ∨ k = 6 ∨ k = 7) with rfl | rfl | rfl | rfl | rfl | rfl | rfl | rfl
  · exact ⟨fun _ => ⟨v, hS, hQ⟩, fun h => absurd h (by decide), fun h => absurd h (by decide), fun h => absurd h (by decide), fun h => absurd h (by decide), fun h => absurd h (by decide), fun h => absurd h (by decide)⟩
  · exact ⟨fun h => absurd h (by decide), fun _ => ⟨v, hS, hQ⟩, fun h => absurd h (by decide), fun h => absurd h (by decide), fun h => absurd h (by decide), fun h => absurd h (by decide), fun h => absurd h (by decide)⟩
  · exact ⟨fun h => absurd h (by decide), fun h => absurd h (by decide), fun _ => ⟨v, hS, hQ⟩, fun h => absurd h (by decide), fun h => absurd h (by decide), fun h => absurd h (by decide), fun h => absurd h (by decide)⟩
  · exact ⟨fun h => absurd h (by decide), fun h => absurd h (by decide), fun h => absurd h (by decide), fun _ => ⟨v, hS, hQ⟩, fun h => absurd h (by decide), fun h => absurd h (by decide), fun h => absurd h (by decide)⟩
  · exact ⟨fun h => absurd h (by decide), fun h => absurd h (by decide), fun h => absurd h (by decide), fun h => absurd h (by decide), fun _ => ⟨v, hS, hQ⟩, fun h => absurd h (by decide), fun h => absurd h (by decide)⟩
  · exact ⟨fun h => absurd h (by decide), fun h => absurd h (by decide), fun h => absurd h (by decide), fun h => absurd h (by decide), fun h => absurd h (by decide), fun _ => ⟨v, hS, hQ⟩, fun h => absurd h (by decide)⟩
  · exact ⟨fun h => absurd h (by decide), fun h => absurd h (by decide), fun h => absurd h (by decide), fun h => absurd h (by decide), fun h => absurd h (by decide), fun h => absurd h (by decide), fun _ => ⟨fun h => absurd h (by decide), fun _ => c_MM_boards0 hM (by omega) hS hs ⟨_, rfl, hS, hQ⟩⟩⟩
  · exact ⟨fun h => absurd h (by decide), fun h => absurd h (by decide), fun h => absurd h (by decide), fun h => absurd h (by decide), fun h => absurd h (by decide), fun h => absurd h (by decide), fun _ => ⟨fun _ => c_MM_boards1 hM (by omega) hS hs ⟨_, rfl, hS, hQ⟩, fun h => absurd rfl h⟩⟩
theorem c_MM_roadTold {r k : Nat} (hM : MI μ1 T C Ct D t L x) (hN : Inv T D) (hD : 3 ≤ d) (hS : St μ1) (hr : r < T 2 0) (hk : k < 5) (hQ : Q (some (.int (nI (roadN D r k)))) μ1) : Cal K_MM_roadTold d rc rs [.ref (hd 40 0), .int (nI r), .int (nI k)] μ1 Q := by
  have h8 := hM.xn.R8
  refine e_MM_roadTold (g_MM_roadTold_0 (by omega) hS ?_)
  have v : vp_in (nI r) 8 := vp_in_nI (by omega) (by decide)
  rw [nI_clamp (by omega), (hM.pm.2.2.2.2 r hr).1, (hM.pm.2.2.2.2 r hr).2, show mI μ1 (hd 76 0) r = nI (D 9 r 0) from hM.xn.2.2.1 9 r 0 ⟨hr, by decide⟩, show mI μ1 (hd 77 0) r = nI (D 9 r 1) from hM.xn.2.2.1 9 r 1 ⟨hr, by decide⟩]
  rcases (by omega : k = 0 ∨ k = 1 ∨ k = 2 ∨ k = 3 ∨ k = 4) with rfl | rfl | rfl | rfl | rfl
  · exact ⟨fun _ => ⟨v, hS, hQ⟩, fun h => absurd h (by decide), fun h => absurd h (by decide), fun h => absurd h (by decide), fun h => absurd h (by decide)⟩
  · exact ⟨fun h => absurd h (by decide), fun _ => ⟨v, hS, hQ⟩, fun h => absurd h (by decide), fun h => absurd h (by decide), fun h => absurd h (by decide)⟩
  · exact ⟨fun h => absurd h (by decide), fun h => absurd h (by decide), fun _ => ⟨v, hS, hQ⟩, fun h => absurd h (by decide), fun h => absurd h (by decide)⟩
  · refine ⟨fun h => absurd h (by decide), fun h => absurd h (by decide), fun h => absurd h (by decide), fun _ => ?_, fun h => absurd h (by decide)⟩
    obtain ⟨⟨Es, g1, g2, g3⟩, -⟩ := id hM
    exact c_MS_underWay g1 (by omega) hS g2 g3 hN.2.2.2 hr ⟨_, rfl, hS, hQ⟩
  · exact ⟨fun h => absurd h (by decide), fun h => absurd h (by decide), fun h => absurd h (by decide), fun h => absurd h (by decide), fun _ => ⟨v, hS, hQ⟩⟩
end MQA
