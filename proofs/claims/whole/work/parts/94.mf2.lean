/-! the model's face: queries and changes -/
section MFA
variable {d rc rs n : Nat} {Q : Option Value → Mu → Prop} {μ μ1 μ' : Mu} {T : PT} {C Ct : Nat → List Op} {D D' : DT} {t t' : Nat → Nat} {L L' : Nat} {x x1 x2 x3 x4 x5 : Int32}
theorem MB.s85 {q k : Nat} {v : Int32} (b : MB μ μ1 T C Ct D t L x) : MB μ (setI μ1 (hd 85 q) k v) T C Ct D t L x :=
  ⟨b.1.s85, b.2.1, b.2.2.1.tr (EqR.rf.sI (by decide) (by decide) (Or.inr (by decide))), (rd_ne (by decide) (by decide) (by decide)).trans b.2.2.2⟩
theorem MB.al85 {q : Nat} (b : MB μ μ1 T C Ct D t L x) : MB μ (mkA μ1 (hd 85 q) (2, 5)) T C Ct D t L x :=
  ⟨b.1.al85, b.2.1.al85, b.2.2.1.tr (EqR.rf.mk (by decide) (by decide) (Or.inr (by decide))), (show mI (mkA μ1 (hd 85 q) (2, 5)) (hd 40 0) 0 = mI μ1 (hd 40 0) 0 from if_neg (hd_ne (by decide) (by decide) (by decide))).trans b.2.2.2⟩
theorem c_MM_counted {k : Nat} (b : MB μ μ1 T C Ct D t L x) (hN : Inv T D) (hD : 6 ≤ d) (hc : 1 ≤ rc) (hs : 5 ≤ rs) (hk : k < 13) (hQ : ∀ μ2, MB μ μ2 T C Ct D t L x → Q (some (.int (cntV T D L k))) μ2) : Cal K_MM_counted d rc rs [.ref (hd 40 0), .int (nI k)] μ1 Q := by
  have e5 : ((5 : Int32).toInt) = 5 := by decide
  have e11 : ((11 : Int32).toInt) = 11 := by decide
  unfold cntV at hQ
  refine e_MM_counted (g_MM_counted_0 (by omega) b.2.1 (c_MM_isIn (by omega) b.2.1 ⟨_, rfl, bIs (fun h => ?_) (fun h => ?_)⟩))
  · rw [e5, e11, nI_toInt (by omega)] at h
    refine ⟨hc, hs, fun q hq => ?_⟩
    have b0 : MB μ (mkA μ1 (hd 85 q) (2, 5)) T C Ct D t L x := b.al85
    generalize mkA μ1 (hd 85 q) (2, 5) = M0 at b0 ⊢
    have b1 : MB μ (setI M0 (hd 85 q) (0 : Int32).toNatClampNeg (mI M0 (hd 65 0) 0)) T C Ct D t L x := b0.s85
    refine ⟨vp_in_nI (n := 0) (N := 5) (by decide) (by decide), vp_in_nI (n := 1) (N := 5) (by decide) (by decide), fun μ7 e7 => ?_⟩
    have b7 : MB μ μ7 T C Ct D t L x := by rw [e7]; exact b1.s85
    have v70 : mI μ7 (hd 85 q) 0 = nI (D 0 0 0) := by
      rw [e7, show ((0 : Int32).toNatClampNeg) = 0 from rfl, show ((1 : Int32).toNatClampNeg) = 1 from rfl, rd_k (by decide), rd_eq]; exact b0.2.2.1.xn.day
    have v71 : mI μ7 (hd 85 q) 1 = nI (T 0 0) := by
      rw [e7, show ((1 : Int32).toNatClampNeg) = 1 from rfl, rd_eq]; exact b1.2.2.1.p0
    clear e7
    refine ⟨vp_in_nI (n := 2) (N := 5) (by decide) (by decide), vp_in_nI (n := 3) (N := 5) (by decide) (by decide), fun μ13 e13 => ?_⟩
    have b12 : MB μ (setI μ7 (hd 85 q) (2 : Int32).toNatClampNeg (mI μ7 (hd 50 (px μ7 (hd 40 0) 11)) 1)) T C Ct D t L x := b7.s85
    have b13 : MB μ μ13 T C Ct D t L x := by rw [e13]; exact b12.s85
    have w : ∀ k, k ≤ 1 → mI μ13 (hd 85 q) k = mI μ7 (hd 85 q) k := fun k hk => by
      rw [e13, show ((2 : Int32).toNatClampNeg) = 2 from rfl, show ((3 : Int32).toNatClampNeg) = 3 from rfl, rd_k (by omega), rd_k (by omega)]
    have v2 : mI μ13 (hd 85 q) 2 = nI (T 1 0) := by
      rw [e13, show ((2 : Int32).toNatClampNeg) = 2 from rfl, show ((3 : Int32).toNatClampNeg) = 3 from rfl, rd_k (by decide), rd_eq]; exact b7.2.2.1.p1
    have v3 : mI μ13 (hd 85 q) 3 = nI (T 2 0) := by
      rw [e13, show ((3 : Int32).toNatClampNeg) = 3 from rfl, rd_eq]; exact b12.2.2.1.p2
    clear e13
    have b14 : MB μ (setI μ13 (hd 85 q) (4 : Int32).toNatClampNeg (mI μ13 (hd 50 (px μ13 (hd 40 0) 11)) 6)) T C Ct D t L x := b13.s85
    have g := hQ _ b14
    refine ⟨vp_in_nI (n := 4) (N := 5) (by decide) (by decide), fun h5 => ⟨b14.2.1, ?_⟩, fun h5 => ⟨?_, b14.2.1, ?_⟩⟩
    · rw [show (5 : Int32) = nI 5 from rfl, nI_leI (by decide) (by omega)] at h5
      obtain rfl : k = 12 := by omega
      rw [if_pos (show nI 12 = 12 from rfl)] at g
      rw [b14.2.2.1.2.2.1.1]; exact g
    · rw [show (5 : Int32) = nI 5 from rfl, nI_leI (by decide) (by omega)] at h5
      exact vp_in_nI (by omega) (by decide)
    · rw [show (5 : Int32) = nI 5 from rfl, nI_leI (by decide) (by omega)] at h5
      have hne : ¬ nI k = 12 := fun z => by
        rw [show (12 : Int32) = nI 12 from rfl, nI_eq (by omega) (by decide)] at z; omega
      rw [if_neg hne] at g
      rw [nI_clamp (by omega)]
      have v : mI (setI μ13 (hd 85 q) (4 : Int32).toNatClampNeg (mI μ13 (hd 50 (px μ13 (hd 40 0) 11)) 6)) (hd 85 q) k = nI (tallyN T D k) := by
        rw [show ((4 : Int32).toNatClampNeg) = 4 from rfl]
        rcases (by omega : k = 0 ∨ k = 1 ∨ k = 2 ∨ k = 3 ∨ k = 4) with rfl | rfl | rfl | rfl | rfl
        · rw [rd_k (by decide), w 0 (by decide), v70]; rfl
        · rw [rd_k (by decide), w 1 (by decide), v71]; rfl
        · rw [rd_k (by decide), v2]; rfl
        · rw [rd_k (by decide), v3]; rfl
        · rw [rd_eq]; exact b13.2.2.1.p6
      rw [v]; exact g
  · rw [e5, e11, nI_toInt (by omega)] at h
    have hne : ¬ nI k = 12 := fun z => by
      rw [show (12 : Int32) = nI 12 from rfl, nI_eq (by omega) (by decide)] at z; omega
    have g := hQ μ1 b
    rw [if_neg hne] at g
    obtain ⟨⟨Es, g1, g2, g3⟩, -⟩ := id b.2.2.1
    exact c_MS_counted g1 (by omega) b.2.1 g2 g3 hN (by omega) ⟨_, rfl, b.2.1, g⟩
theorem c_MM_count (hM : MI μ T C Ct D t L x) (hN : Inv T D) (hD : 7 ≤ d) (hc : 1 ≤ rc) (hs : 5 ≤ rs) (hS : St μ) (hQ : MAns μ (rvCount T D L x1) T C Ct D t L x Q) : Cal K_MM_count d rc rs [.ref (hd 40 0), .int x1] μ Q := by
  have b := MB.start hS hM
  unfold rvCount at hQ
  refine e_MM_count (g_MM_count_0 (by omega) hS (c_MM_inN0 (n := 13) (by decide) (by decide) (by omega) b.2.1 ⟨_, rfl, bIs (fun h => ?_) (fun h => ?_)⟩))
  · rw [ifP_f h] at hQ; exact b.no hQ (by omega) rfl
  · rw [ifP_t h] at hQ
    obtain ⟨k, hk, hk2, rfl⟩ := h.ex
    rw [nI_clamp hk2] at hQ
    exact ⟨hc, hs, c_MM_counted b hN (by omega) (Nat.le_refl _) (Nat.le_refl _) hk (fun μ2 b2 => ⟨_, rfl, b2.ok hQ⟩)⟩
theorem c_MM_parish (hM : MI μ T C Ct D t L x) (hN : Inv T D) (hD : 6 ≤ d) (hS : St μ) (hQ : MAns μ (rvParish T D x1 x2) T C Ct D t L x Q) : Cal K_MM_parish d rc rs [.ref (hd 40 0), .int x1, .int x2] μ Q := by
  have b := MB.start hS hM
  unfold rvParish at hQ
  refine e_MM_parish (g_MM_parish_0 (by omega) hS (c_MM_isParish b.2.2.1 (by omega) b.2.1 ⟨_, rfl, bIs (fun h => ?_) (fun h => c_MM_inN0 (n := 6) (by decide) (by decide) (by omega) b.2.1 ⟨_, rfl, bIs (fun h2 => ?_) (fun h2 => ?_)⟩)⟩))
  · rw [ifP_f h] at hQ; exact b.no hQ (by omega) rfl
  · rw [ifP_t h, ifP_f h2] at hQ; exact b.no hQ (by omega) rfl
  · rw [ifP_t h, ifP_t h2] at hQ
    obtain ⟨a, ha, ha2, rfl⟩ := h.ex
    obtain ⟨c, hc, hc2, rfl⟩ := h2.ex
    rw [nI_clamp ha2, nI_clamp hc2] at hQ
    exact c_MM_parishTold b.2.2.1 hN (by omega) b.2.1 ha hc ⟨_, rfl, b.ok hQ⟩
theorem c_MM_knows (hM : MI μ T C Ct D t L x) (hD : 6 ≤ d) (hS : St μ) (hQ : MAns μ (rvKnows T D x1 x2) T C Ct D t L x Q) : Cal K_MM_knows d rc rs [.ref (hd 40 0), .int x1, .int x2] μ Q := by
  have b := MB.start hS hM
  have h5 := hM.xn.P5
  unfold rvKnows at hQ
  refine e_MM_knows (g_MM_knows_0 (by omega) hS (c_MM_isParish b.2.2.1 (by omega) b.2.1 ⟨_, rfl, bIs (fun h => ?_) (fun h => c_MM_isParish b.2.2.1 (by omega) b.2.1 ⟨_, rfl, bIs (fun h2 => ?_) (fun h2 => ?_)⟩)⟩))
  · rw [ifP_f h] at hQ; exact b.no hQ (by omega) rfl
  · rw [ifP_t h, ifP_f h2] at hQ; exact b.no hQ (by omega) rfl
  · rw [ifP_t h, ifP_t h2] at hQ
    obtain ⟨a, ha, ha2, rfl⟩ := h.ex
    obtain ⟨c, hc, hc2, rfl⟩ := h2.ex
    rw [nI_clamp ha2, nI_clamp hc2] at hQ
    exact c_MS_numberOf b.2.2.1.xn (by omega) b.2.1 ha (by omega) ⟨_, rfl, b.ok hQ⟩
theorem c_MM_sheet (hM : MI μ T C Ct D t L x) (hD : 6 ≤ d) (hS : St μ) (hQ : MAns μ (rvSheet T D x1 x2) T C Ct D t L x Q) : Cal K_MM_sheet d rc rs [.ref (hd 40 0), .int x1, .int x2] μ Q := by
  have b := MB.start hS hM
  unfold rvSheet at hQ
  refine e_MM_sheet (g_MM_sheet_0 (by omega) hS (c_MM_isSheet b.2.2.1 (by omega) b.2.1 ⟨_, rfl, bIs (fun h => ?_) (fun h => c_MM_inN0 (n := 8) (by decide) (by decide) (by omega) b.2.1 ⟨_, rfl, bIs (fun h2 => ?_) (fun h2 => ?_)⟩)⟩))
  · rw [ifP_f h] at hQ; exact b.no hQ (by omega) rfl
  · rw [ifP_t h, ifP_f h2] at hQ; exact b.no hQ (by omega) rfl
  · rw [ifP_t h, ifP_t h2] at hQ
    obtain ⟨a, ha, ha2, rfl⟩ := h.ex
    obtain ⟨c, hc, hc2, rfl⟩ := h2.ex
    rw [nI_clamp ha2, nI_clamp hc2] at hQ
    exact c_MM_sheetTold b.2.2.1 (by omega) b.2.1 ha hc ⟨_, rfl, b.ok hQ⟩
theorem c_MM_stamp (hM : MI μ T C Ct D t L x) (hD : 6 ≤ d) (hS : St μ) (hQ : MAns μ (rvStamp T D x1 x2) T C Ct D t L x Q) : Cal K_MM_stamp d rc rs [.ref (hd 40 0), .int x1, .int x2] μ Q := by
  have b := MB.start hS hM
  have h5 := hM.xn.P5
  unfold rvStamp at hQ
  refine e_MM_stamp (g_MM_stamp_0 (by omega) hS (c_MM_isSheet b.2.2.1 (by omega) b.2.1 ⟨_, rfl, bIs (fun h => ?_) (fun h => c_MM_isParish b.2.2.1 (by omega) b.2.1 ⟨_, rfl, bIs (fun h2 => ?_) (fun h2 => ?_)⟩)⟩))
  · rw [ifP_f h] at hQ; exact b.no hQ (by omega) rfl
  · rw [ifP_t h, ifP_f h2] at hQ; exact b.no hQ (by omega) rfl
  · rw [ifP_t h, ifP_t h2] at hQ
    obtain ⟨a, ha, ha2, rfl⟩ := h.ex
    obtain ⟨c, hc, hc2, rfl⟩ := h2.ex
    rw [nI_clamp ha2, nI_clamp hc2] at hQ
    exact c_MS_stampOf b.2.2.1.xn (by omega) b.2.1 ha (by omega) ⟨_, rfl, b.ok hQ⟩
theorem c_MM_shown (hM : MI μ T C Ct D t L x) (hD : 6 ≤ d) (hS : St μ) (hQ : MAns μ (rvShown T D x1 x2 x3) T C Ct D t L x Q) : Cal K_MM_shown d rc rs [.ref (hd 40 0), .int x1, .int x2, .int x3] μ Q := by
  have b := MB.start hS hM
  have h6 := hM.xn.N6
  unfold rvShown at hQ
  refine e_MM_shown (g_MM_shown_0 (by omega) hS (c_MM_isNotice b.2.2.1 (by omega) b.2.1 ⟨_, rfl, bIs (fun h => ?_) (fun h => ?_)⟩))
  · rw [ifP_f h] at hQ; exact b.no hQ (by omega) rfl
  · rw [ifP_t h] at hQ
    obtain ⟨a, ha, ha2, rfl⟩ := h.1.ex
    obtain ⟨c, hc, hc2, rfl⟩ := h.2.ex
    rw [nI_clamp ha2, nI_clamp hc2] at hQ
    have hsl := shL_len D a c
    refine c_MS_shows b.2.2.1.xn (by omega) b.2.1 ha (by omega) ⟨_, rfl, c_MM_inN0 (n := (shL D a c).length) rfl (by omega) (by omega) b.2.1 ⟨_, rfl, bIs (fun h2 => ?_) (fun h2 => ?_)⟩⟩
    · rw [ifP_f h2] at hQ; exact b.no hQ (by omega) rfl
    · rw [ifP_t h2] at hQ
      obtain ⟨l, hl, hl2, rfl⟩ := h2.ex
      rw [nI_clamp hl2] at hQ
      exact c_MS_shown b.2.2.1.xn (by omega) b.2.1 ha (by omega) hl2 ⟨_, rfl, b.ok hQ⟩
theorem c_MM_compare (hM : MI μ T C Ct D t L x) (hD : 6 ≤ d) (hS : St μ) (hQ : MAns μ (rvCompare D x1 x2) T C Ct D t L x Q) : Cal K_MM_compare d rc rs [.ref (hd 40 0), .int x1, .int x2] μ Q := by
  have b := MB.start hS hM
  unfold rvCompare at hQ
  refine e_MM_compare (g_MM_compare_0 (by omega) hS (c_MM_isSheet b.2.2.1 (by omega) b.2.1 ⟨_, rfl, bIs (fun h => ?_) (fun h => c_MM_isSheet b.2.2.1 (by omega) b.2.1 ⟨_, rfl, bIs (fun h2 => ?_) (fun h2 => ⟨fun e => ?_, fun e => ?_⟩)⟩)⟩))
  · rw [ifP_f h] at hQ; exact b.no hQ (by omega) rfl
  · rw [ifP_t h, ifP_f h2] at hQ; exact b.no hQ (by omega) rfl
  · rw [ifP_t h, ifP_t h2, ifP_t e] at hQ; exact b.ok hQ
  · rw [ifP_t h, ifP_t h2, ifP_f e] at hQ
    obtain ⟨a, ha, ha2, rfl⟩ := h.ex
    obtain ⟨c, hc, hc2, rfl⟩ := h2.ex
    rw [nI_clamp ha2, nI_clamp hc2] at hQ
    refine c_MS_isAhead b.2.2.1.xn (by omega) b.2.1 ha hc ⟨_, rfl, bIs (fun k => c_MS_isAhead b.2.2.1.xn (by omega) b.2.1 hc ha ⟨_, rfl, bIs (fun k2 => ?_) (fun k2 => ?_)⟩) (fun k => ?_)⟩
    · rw [ifP_f k, ifP_f k2] at hQ; exact b.ok hQ
    · rw [ifP_f k, ifP_t k2] at hQ; exact b.ok hQ
    · rw [ifP_t k] at hQ; exact b.ok hQ
theorem c_MM_road (hM : MI μ T C Ct D t L x) (hN : Inv T D) (hD : 6 ≤ d) (hS : St μ) (hQ : MAns μ (rvRoad T D x1 x2) T C Ct D t L x Q) : Cal K_MM_road d rc rs [.ref (hd 40 0), .int x1, .int x2] μ Q := by
  have b := MB.start hS hM
  unfold rvRoad at hQ
  refine e_MM_road (g_MM_road_0 (by omega) hS (c_MM_isRoad b.2.2.1 (by omega) b.2.1 ⟨_, rfl, bIs (fun h => ?_) (fun h => c_MM_inN0 (n := 5) (by decide) (by decide) (by omega) b.2.1 ⟨_, rfl, bIs (fun h2 => ?_) (fun h2 => ?_)⟩)⟩))
  · rw [ifP_f h] at hQ; exact b.no hQ (by omega) rfl
  · rw [ifP_t h, ifP_f h2] at hQ; exact b.no hQ (by omega) rfl
  · rw [ifP_t h, ifP_t h2] at hQ
    obtain ⟨a, ha, ha2, rfl⟩ := h.ex
    obtain ⟨c, hc, hc2, rfl⟩ := h2.ex
    rw [nI_clamp ha2, nI_clamp hc2] at hQ
    exact c_MM_roadTold b.2.2.1 hN (by omega) b.2.1 ha hc ⟨_, rfl, b.ok hQ⟩
/-! changes -/
theorem MI.w0 {Es' : List Ent} (hM : MI μ1 T C Ct D t L x) (f : FrO 0 μ1 μ') (hW : MW μ' 0 T D' Es') : MI μ' T C Ct D' t L x := by
  obtain ⟨-, g4, ⟨g5, g6⟩, g7⟩ := hM
  refine ⟨⟨Es', hW⟩, by rw [f.px]; exact g4.frO f, ⟨(f.1.I (by decide) (by unfold OwM; omega)).trans g5, fun k hk => (f.1.I (by decide) (by unfold OwM; omega)).trans (g6 k hk)⟩, (f.1.I (by decide) (by unfold OwM; omega)).trans g7⟩
theorem MB.w0 {Es' : List Ent} (b : MB μ μ1 T C Ct D t L x) (f : FrO 0 μ1 μ') (s : St μ') (hW : MW μ' 0 T D' Es') : MB μ μ' T C Ct D' t L x :=
  ⟨b.1.trans (FrX.o f), s, b.2.2.1.w0 f hW, (f.1.I (by decide) (by unfold OwM; omega)).trans b.2.2.2⟩
theorem MB.w1 (b : MB μ μ1 T C Ct D t L x) (f : FrO 1 μ1 μ') (s : St μ') : MB μ μ' T C Ct D t L x := by
  obtain ⟨b1, b2, ⟨⟨Es, g1, g2, g3⟩, g4, ⟨g5, g6⟩, g7⟩, b4⟩ := b
  have i : ∀ κ i k, κ < 256 → ¬ OwM 1 κ i → mI μ' (hd κ i) k = mI μ1 (hd κ i) k := fun κ i k a c => f.1.I a c
  refine ⟨b1.trans (FrX.o f), s, ⟨⟨Es, g1.tr f.px (fun κ k a c => i _ _ _ (by omega) (by unfold OwM; omega)) (fun κ k a c => ⟨i _ _ _ (by omega) (by unfold OwM; omega), f.1.L (by omega) (by unfold OwM; omega)⟩), g2.tr (fun κ k a c => ⟨i _ _ _ (by omega) (by unfold OwM; omega), f.1.L (by omega) (by unfold OwM; omega)⟩), g3⟩, by rw [f.px]; exact g4.frO f, ⟨(i _ _ _ (by decide) (by unfold OwM; omega)).trans g5, fun k hk => (i _ _ _ (by decide) (by unfold OwM; omega)).trans (g6 k hk)⟩, (i _ _ _ (by decide) (by unfold OwM; omega)).trans g7⟩, (i _ _ _ (by decide) (by unfold OwM; omega)).trans b4⟩
theorem c_MM_write (hM : MI μ T C Ct D t L x) (hD : 6 ≤ d) (hS : St μ) (hQ : MAns μ (dvWrite T D x1 x2 x3).1 T C Ct (dvWrite T D x1 x2 x3).2 t L x Q) : Cal K_MM_write d rc rs [.ref (hd 40 0), .int x1, .int x2, .int x3] μ Q := by
  have b := MB.start hS hM
  have h60 := hM.xn.S60
  unfold dvWrite at hQ
  refine e_MM_write (g_MM_write_0 (by omega) hS (c_MM_isNotice b.2.2.1 (by omega) b.2.1 ⟨_, rfl, bIs (fun h => ?_) (fun h => c_MM_inN0 (n := 10000) (by decide) (by decide) (by omega) b.2.1 ⟨_, rfl, bIs (fun h2 => ?_) (fun h2 => ?_)⟩)⟩))
  · rw [ifP_f h] at hQ; exact b.no hQ (by omega) rfl
  · rw [ifP_t h, ifP_f h2] at hQ; exact b.no hQ (by omega) rfl
  · rw [ifP_t h, ifP_t h2] at hQ
    rw [b.2.2.1.cnt, I60, nI_eq (by omega) (by decide)]
    refine ⟨fun h3 => ?_, fun h3 => ?_⟩
    · rw [ifP_t h3] at hQ; exact b.no hQ (by omega) rfl
    · rw [ifP_f h3] at hQ
      obtain ⟨a, ha, ha2, rfl⟩ := h.1.ex
      obtain ⟨c, hc, hc2, rfl⟩ := h.2.ex
      obtain ⟨v, hv, hv2, rfl⟩ := h2.ex
      rw [nI_clamp ha2, nI_clamp hc2, nI_clamp hv2] at hQ
      obtain ⟨⟨Es, hW⟩, -⟩ := id b.2.2.1
      exact c_MS_write b.2.2.1.xn (by omega) b.2.1 (by omega) ha hc (by omega) (fun μ' f s X => ⟨_, rfl, (b.w0 f.o s (hW.mk f (by rw [bN_f (by decide)]; exact X))).ok hQ⟩)
theorem c_MM_note (hM : MI μ T C Ct D t L x) (hD : 6 ≤ d) (hS : St μ) (hQ : MAns μ (dvNote T D x1 x2 x3).1 T C Ct (dvNote T D x1 x2 x3).2 t L x Q) : Cal K_MM_note d rc rs [.ref (hd 40 0), .int x1, .int x2, .int x3] μ Q := by
  have b := MB.start hS hM
  have h60 := hM.xn.S60
  have h6 := hM.xn.N6
  unfold dvNote at hQ
  refine e_MM_note (g_MM_note_0 (by omega) hS (c_MM_isNotice b.2.2.1 (by omega) b.2.1 ⟨_, rfl, bIs (fun h => ?_) (fun h => c_MM_inN0 (n := 16) (by decide) (by decide) (by omega) b.2.1 ⟨_, rfl, bIs (fun h2 => ?_) (fun h2 => ?_)⟩)⟩))
  · rw [ifP_f h] at hQ; exact b.no hQ (by omega) rfl
  · rw [ifP_t h, ifP_f h2] at hQ; exact b.no hQ (by omega) rfl
  · rw [ifP_t h, ifP_t h2] at hQ
    rw [b.2.2.1.cnt, I60, nI_eq (by omega) (by decide)]
    refine ⟨fun h3 => ?_, fun h3 => ?_⟩
    · rw [ifP_t h3] at hQ; exact b.no hQ (by omega) rfl
    · rw [ifP_f h3] at hQ
      obtain ⟨a, ha, ha2, rfl⟩ := h.1.ex
      obtain ⟨c, hc, hc2, rfl⟩ := h.2.ex
      obtain ⟨v, hv, hv2, rfl⟩ := h2.ex
      rw [nI_clamp ha2, nI_clamp hc2, nI_clamp hv2] at hQ
      have hsl := shL_len D a c
      obtain ⟨⟨Es, hW⟩, -⟩ := id b.2.2.1
      refine c_MS_shows b.2.2.1.xn (by omega) b.2.1 ha (by omega) ⟨_, rfl, fun h4 => ?_, fun h4 => ?_⟩
      · rw [I1, nI_eq (by omega) (by decide)] at h4
        rw [ifP_t h4] at hQ
        exact c_MS_note b.2.2.1.xn (by omega) b.2.1 (by omega) ha hc hv h4 (fun μ' f s X => ⟨_, rfl, (b.w0 f.o s (hW.mk f (by rw [bN_f (by decide)]; exact X))).ok hQ⟩)
      · rw [I1, nI_eq (by omega) (by decide)] at h4
        rw [ifP_f h4] at hQ; exact b.no hQ (by omega) rfl
theorem c_MM_merge (hM : MI μ T C Ct D t L x) (hD : 6 ≤ d) (hS : St μ) (hQ : MAns μ (dvMerge T D x1 x2 x3).1 T C Ct (dvMerge T D x1 x2 x3).2 t L x Q) : Cal K_MM_merge d rc rs [.ref (hd 40 0), .int x1, .int x2, .int x3] μ Q := by
  have b := MB.start hS hM
  have h60 := hM.xn.S60
  have h6 := hM.xn.N6
  unfold dvMerge at hQ
  refine e_MM_merge (g_MM_merge_0 (by omega) hS (c_MM_isNotice b.2.2.1 (by omega) b.2.1 ⟨_, rfl, bIs (fun h => ?_) (fun h => c_MM_inN0 (n := 3) (by decide) (by decide) (by omega) b.2.1 ⟨_, rfl, bIs (fun h2 => ?_) (fun h2 => ?_)⟩)⟩))
  · rw [ifP_f h] at hQ; exact b.no hQ (by omega) rfl
  · rw [ifP_t h, ifP_f h2] at hQ; exact b.no hQ (by omega) rfl
  · rw [ifP_t h, ifP_t h2] at hQ
    rw [b.2.2.1.cnt, I60, nI_eq (by omega) (by decide)]
    refine ⟨fun h3 => ?_, fun h3 => ?_⟩
    · rw [ifP_t h3] at hQ; exact b.no hQ (by omega) rfl
    · rw [ifP_f h3] at hQ
      obtain ⟨a, ha, ha2, rfl⟩ := h.1.ex
      obtain ⟨c, hc, hc2, rfl⟩ := h.2.ex
      obtain ⟨v, hv, hv2, rfl⟩ := h2.ex
      rw [nI_clamp ha2, nI_clamp hc2, nI_clamp hv2] at hQ
      have hsl := shL_len D a c
      obtain ⟨⟨Es, hW⟩, -⟩ := id b.2.2.1
      refine c_MS_shows b.2.2.1.xn (by omega) b.2.1 ha (by omega) ⟨_, rfl, fun h4 => ?_, fun h4 => ?_⟩
      · rw [I2, nI_leI (by decide) (by omega)] at h4
        rw [ifP_t h4] at hQ
        exact c_MS_merge b.2.2.1.xn (by omega) b.2.1 (by omega) ha hc hv (fun μ' f s X => ⟨_, rfl, (b.w0 f.o s (hW.mk f (by rw [bN_t rfl]; exact X))).ok hQ⟩)
      · rw [I2, nI_leI (by decide) (by omega)] at h4
        rw [ifP_f h4] at hQ; exact b.no hQ (by omega) rfl
theorem send_MW {r : Nat} {Es' : List Ent} (X : XN μ' n T (sendD D r) (mergedN D)) (Y : YE μ' n Es') (E : EB T (sendD D r) (D 0 0 0) Es') : MW μ' n T (sendD D r) Es' := by
  refine ⟨?_, Y, ?_⟩
  · rw [merged_congr (send_f (by decide) (by decide)) (fun s => send_f (by decide) (by decide))]; exact X
  · rw [send_f (by decide) (by decide)]; exact E
theorem c_MM_send (hM : MI μ T C Ct D t L x) (hN : Inv T D) (hD : 6 ≤ d) (hS : St μ) (hQ : MAns μ (dvSend T D x1).1 T C Ct (dvSend T D x1).2 t L x Q) : Cal K_MM_send d rc rs [.ref (hd 40 0), .int x1] μ Q := by
  have b := MB.start hS hM
  unfold dvSend at hQ
  refine e_MM_send (g_MM_send_0 (by omega) hS (c_MM_isRoad b.2.2.1 (by omega) b.2.1 ⟨_, rfl, bIs (fun h => ?_) (fun h => ?_)⟩))
  · rw [ifP_f h] at hQ; exact b.no hQ (by omega) rfl
  · rw [ifP_t h] at hQ
    obtain ⟨a, ha, ha2, rfl⟩ := h.ex
    rw [nI_clamp ha2] at hQ
    obtain ⟨⟨Es, g1, g2, g3⟩, -⟩ := id b.2.2.1
    exact c_MS_send g1 (by omega) b.2.1 ha g2 g3 hN.2.2.2 (fun μ' Es' f r s X Y E => ⟨_, rfl, (b.w0 ⟨f, r⟩ s (send_MW X Y E)).ok hQ⟩)
theorem c_MM_setDays (hM : MI μ T C Ct D t L x) (hD : 6 ≤ d) (hS : St μ) (hQ : MAns μ (dvSetDays T D x1 x2).1 T C Ct (dvSetDays T D x1 x2).2 t L x Q) : Cal K_MM_setDays d rc rs [.ref (hd 40 0), .int x1, .int x2] μ Q := by
  have b := MB.start hS hM
  have h8 := hM.xn.R8
  unfold dvSetDays at hQ
  refine e_MM_setDays (g_MM_setDays_0 (by omega) hS (c_MM_isRoad b.2.2.1 (by omega) b.2.1 ⟨_, rfl, bIs (fun h => ?_) (fun h => c_MM_inN1 (n := 9) rfl (by decide) (by omega) b.2.1 ⟨_, rfl, bIs (fun h2 => ?_) (fun h2 => ?_)⟩)⟩))
  · rw [ifP_f h] at hQ; exact b.no hQ (by omega) rfl
  · rw [ifP_t h, ifP_f h2] at hQ; exact b.no hQ (by omega) rfl
  · rw [ifP_t h, ifP_t h2] at hQ
    obtain ⟨a, ha, ha2, rfl⟩ := h.ex
    obtain ⟨v, hv2, rfl, hv3⟩ := nat_of (x := x2) (by have := h2.1; omega)
    have hv : 1 ≤ v ∧ v ≤ 9 := by
      have a1 := h2.1
      have a2 := h2.2
      rw [← hv3] at a1 a2
      omega
    rw [nI_clamp ha2, nI_clamp hv2] at hQ
    generalize setI μ (hd 40 0) 0 0 = μ2 at b ⊢
    rw [nI_clamp ha2, show mI μ2 (hd 76 0) a = nI (D 9 a 0) from b.2.2.1.xn.2.2.1 9 a 0 ⟨ha, by decide⟩]
    have s : St (setI μ2 (hd 76 0) a (nI v)) := b.2.1
    have f : FrM 0 μ2 (setI μ2 (hd 76 0) a (nI v)) := FrM.rf.setI (by decide) (fun h => absurd h (by decide))
    obtain ⟨⟨Es, g1, g2, g3⟩, -⟩ := id b.2.2.1
    refine ⟨vp_in_nI (by omega) (by decide), vp_in_nI (by omega) (by decide), (b.w0 f.o s (Es' := Es) (D' := ud D 9 a 0 v) ⟨?_, g2.frM f, ?_⟩).ok hQ⟩
    · rw [merged_congr (D := D) (ud_f (by decide)) (fun s => ud_f (by decide))]
      obtain ⟨y1, y2, y3, y4, y5, y6, y7⟩ := g1
      refine ⟨y1, y2.ud90 hv.1 hv.2, y3.set y2.1.2.2.2.2.1 y2.1.1 y2.1.2.2.1 (f := 9) (i := a) (j := 0) (v := v) ⟨by omega, by decide⟩, (rd_ne (by decide) (by decide) (by decide)).trans y4, fun b' hb => ?_, fun r hr => ?_, ?_⟩
      · exact (y5 b' hb).congr (fun s _ => by rw [ud_f (by decide)])
      · exact (y6 r hr).congr (fun s _ => by rw [ud_f (by decide)])
      · obtain ⟨p1, p2, p3, p4, p5⟩ := y7
        have e : ∀ κ k, 50 ≤ κ → κ ≤ 52 → mI (setI μ2 (hd 76 0) a (nI v)) (hd κ (px μ2 (hd 40 0) 11)) k = mI μ2 (hd κ (px μ2 (hd 40 0) 11)) k := fun κ k g1 g2 => rd_ne (by decide) (by omega) (by omega)
        refine ⟨(e 50 _ (by decide) (by decide)).trans p1, (e 50 _ (by decide) (by decide)).trans p2, (e 50 _ (by decide) (by decide)).trans p3, (e 50 _ (by decide) (by decide)).trans p4, fun r hr => ⟨(e 51 _ (by decide) (by decide)).trans ?_, (e 52 _ (by decide) (by decide)).trans ?_⟩⟩
        · rw [ud_f (by decide)]; exact (p5 r hr).1
        · rw [ud_f (by decide)]; exact (p5 r hr).2
    · rw [ud_f (by decide)]
      exact g3.congr (fun r s => ud_f (by decide))
end MFA
