/-! the law's boards hang -/
section SIH
variable {d rc rs : Nat} {Q : Option Value → Mu → Prop} {μ μ' : Mu} {T : PT} {D D' : DT} {OO : Nat → Nat → Nat} {c c' c'' : Nat}
theorem c_SI_canHang {b s : Nat} (hR : SR μ T D OO c) (hI : Inv T D) (h2 : Iv T D) (hD : 1 ≤ d) (hS : St μ) (hb : b < T 0 0) (hs : s < D 1 0 0)
    (hQ : Q (some (.int (bI (hng D b s)))) μ) : Cal K_SI_canHang d rc rs [.ref (hd 100 0), .int (nI b), .int (nI s)] μ Q := by
  have hB := hI.1
  have hP5 := hB.1.1
  have hS60 := hB.1.2.2.2.2.1
  refine e_SI_canHang (r_SI_canHang_0 hD ?_)
  have loop : ∀ k, k ≤ D 1 0 0 → (∀ j, j < k → j ≠ s → ah D j s → kn D b j) → Wx K_SI_canHang d rc rs (fun r μ' => St μ' ∧ Q r μ') 2 [(0, .ref (hd 100 0)), (1, .int (nI b)), (2, .int (nI s)), (3, .int (nI k))] [] μ := by
    refine up_loop _ (fun hall => ?_) (fun k hk ih hall => ?_)
    · refine r_SI_canHang_2 hD ⟨hR.1.1, _, hR.2.1.1, _, hR.2.1.2.1, fun _ => ?_, fun h => absurd (Int32.le_refl _) h⟩
      have x := hR.2.2.2.2.2.1
      refine ⟨hR.1.1, _, x.1, _, ⟨x.2.1, vI hb (by omega)⟩, hd 112 b, ?_, 60, ⟨(x.2.2 b hb).2.1, vI (by omega) (by decide)⟩, ?_⟩
      · rw [nI_clamp (by omega)]; exact (x.2.2 b hb).1
      · rw [nI_clamp (by omega), (x.2.2 b hb).2.2 s (by omega)]
        refine ⟨bI_01, hS, ?_⟩
        have e : bI (pWt D b s) = bI (hng D b s) := bI_congr ⟨fun z => ⟨z, (cH_iff hI hb hs (h2.1 b s hb (by omega) z).2).mpr (fun j hj => hall j hj)⟩, fun z => z.1⟩
        rw [e]; exact hQ
    · have nxt : (k ≠ s → ah D k s → kn D b k) → Wx K_SI_canHang d rc rs (fun r μ' => St μ' ∧ Q r μ') 2 [(0, .ref (hd 100 0)), (1, .int (nI b)), (2, .int (nI s)), (3, .int (nI k + 1))] [] μ := fun h => by
        rw [nI_s]
        refine ih (fun j hj => ?_)
        rcases Nat.lt_or_ge j k with y | y
        · exact hall j y
        · obtain rfl : j = k := by omega
          exact h
      refine r_SI_canHang_2 hD ⟨hR.1.1, _, hR.2.1.1, _, hR.2.1.2.1, fun h => absurd ((nI_leI (by omega) (by omega)).mp h) (by omega), fun _ => ⟨fun e => nxt (fun z => absurd ((nI_eq (by omega) (by omega)).mp e) z), fun e => ?_⟩⟩
      have hne : k ≠ s := fun z => e (by rw [z])
      have x := hR.2.2.1
      refine ⟨hR.1.1, _, x.1, _, ⟨x.2.1, vI (by omega) (by decide)⟩, hd 114 s, ?_, 60, ⟨(x.2.2 s hs).2.1, vI (by omega) (by decide)⟩, ?_⟩
      · rw [nI_clamp (by omega)]; exact (x.2.2 s hs).1
      · rw [nI_clamp (by omega), (x.2.2 s hs).2.2 k (by omega)]
        refine bIs (fun ha => nxt (fun _ z => absurd ⟨hk, z⟩ ha)) (fun ha => ?_)
        have y := hR.2.2.2.1
        refine ⟨hR.1.1, _, y.1, _, ⟨y.2.1, vI hb (by omega)⟩, hd 110 b, ?_, 60, ⟨(y.2.2 b hb).2.1, vI (by omega) (by decide)⟩, ?_⟩
        · rw [nI_clamp (by omega)]; exact (y.2.2 b hb).1
        · rw [(y.2.2 b hb).2.2 k (by omega)]
          refine bIs (fun hk' => ?_) (fun hk' => nxt (fun _ _ => hk'.2))
          refine ⟨hS, ?_⟩
          have e : bI (hng D b s) = 0 := bI_f (fun z => hk' ⟨hk, (cH_iff hI hb hs (h2.1 b s hb (by omega) z.1).2).mp z.2 k hk hne ha.2⟩)
          rw [e] at hQ; exact hQ
  exact loop 0 (Nat.zero_le _) (fun j hj => absurd hj (Nat.not_lt_zero _))
theorem c_SI_hang {b s : Nat} (hR : SR μ T D OO c) (hI : Inv T D) (h2 : Iv T D) (hD : 2 ≤ d) (hc : 2 ≤ rc) (hs' : 65 ≤ rs) (hS : St μ) (hb : b < T 0 0) (hs : s < D 1 0 0) (hh : hng D b s)
    (hQ : ∀ μ', SimP μ T (hangD T D b s) OO c (c + 2) μ' → Q none μ') : Cal K_SI_hang d rc rs [.ref (hd 100 0), .int (nI b), .int (nI s)] μ Q := by
  have hB := hI.1
  have hP5 := hB.1.1
  have hN6 := hB.1.2.1
  have hS60 := hB.1.2.2.2.2.1
  have hn : D 4 s 1 < T 1 0 := (hB.2.1 s hs).2.1
  have hch := hh.2
  have x6 := hR.2.1
  refine e_SI_hang (r_SI_hang_0 (by omega) ⟨hR.1.1, _, x6.1, _, ⟨x6.2.1, vI hs (by omega)⟩, hd 116 s, ?_, 6, ⟨(x6.2.2 s hs).2.1, vI (k := 1) (by decide) (by decide)⟩, 2, 65, ⟨hc, hs'⟩, hR.1.1, ?_⟩)
  · rw [nI_clamp (by omega)]; exact (x6.2.2 s hs).1
  rw [show ((1 : Int32).toNatClampNeg) = 1 from rfl, (x6.2.2 s hs).2.2 1 (by decide)]
  refine c_SI_shows hR hB (by omega) (Nat.le_refl _) (Nat.le_refl _) hS hb hn (fun μ1 g1 s1 w1 => ⟨_, rfl, _, s1, ?_⟩)
  have hlen := shL_len D b (D 4 s 1)
  have hmem : ∀ j, j < (shL D b (D 4 s 1)).length → ∃ k, k < D 1 0 0 ∧ (shL D b (D 4 s 1)).getD j 0 = k + 1 := fun j hj => by
    have hm := shL_mem hB hb (show D 4 s 1 < 6 by omega) (getD_mem.mpr ⟨j, hj, rfl⟩)
    exact ⟨(shL D b (D 4 s 1)).getD j 0 - 1, hm.2, by omega⟩
  generalize hl : shL D b (D 4 s 1) = l at *
  have R1 := hR.dy g1 (by omega)
  have loop : ∀ x, x ≤ l.length → ∀ μ', FrS (fun κ i => κ = 111 ∧ i = b) μ1 μ' → mS μ' (hd 111 b) = (5, 60) → (∀ k, k < 60 → gI μ' (hd 111 b) k = bI (pSh D b k ∧ ¬ ∃ j, j < x ∧ l.getD j 0 = k + 1 ∧ ah D k s)) → Wx K_SI_hang d (rc - 2) (rs - 65) (fun r μ' => St μ' ∧ Q r μ') 21 [(0, .ref (hd 100 0)), (1, .int (nI b)), (2, .int (nI s)), (3, .ref (hd 130 (c + 1))), (4, .int (nI l.length)), (5, .int (nI x))] [] μ' := by
    refine up_loop l.length (fun μ' g2 z9 w => ?_) (fun x hx ih μ' g2 z9 w => ?_)
    · have n2 : ∀ κ i, ¬ (κ = 111 ∧ i = b) → κ < 256 → mS μ' (hd κ i) = mS μ1 (hd κ i) ∧ (∀ k, gR μ' (hd κ i) k = gR μ1 (hd κ i) k) ∧ ∀ k, gI μ' (hd κ i) k = gI μ1 (hd κ i) k := fun κ i h2 h3 => ⟨g2.S h3 h2, fun k => g2.gr h3 h2, fun k => g2.gi h3 h2⟩
      have so : mS μ' (hd 100 0) = (1, 11) := (n2 100 0 (by omega) (by decide)).1.trans R1.1.1
      have x7 := R1.2.2.1
      have x8 := R1.2.2.2.1
      have x9 := R1.2.2.2.2.1
      have x10 := R1.2.2.2.2.2.1
      have x11 := R1.2.2.2.2.2.2.1
      have x12 := R1.2.2.2.2.2.2.2.1
      have x14 := R1.2.2.2.2.2.2.2.2.1
      have hi0 : hiN (hd 100 0) := hi_hd (by decide) (by decide)
      have r0 := (n2 100 0 (by omega) (by decide)).2.1
      have cb : (nI b).toNatClampNeg = b := nI_clamp (by omega)
      have cs : (nI s).toNatClampNeg = s := nI_clamp (by omega)
      refine r_SI_hang_21 (by omega) ⟨fun _ => ⟨so, hd 109 2, (r0 10).trans x10.1, _, ⟨(n2 109 2 (by omega) (by decide)).1.trans x10.2.1, vI hb (by omega)⟩, hd 112 b, by rw [cb]; exact ((n2 109 2 (by omega) (by decide)).2.1 b).trans (x10.2.2 b hb).1, 60, ⟨(n2 112 b (by omega) (by decide)).1.trans (x10.2.2 b hb).2.1, vI (by omega) (by decide), hi_hd (by decide) (by decide)⟩,
        so, hd 109 0, (r0 8).trans x8.1, _, ⟨(n2 109 0 (by omega) (by decide)).1.trans x8.2.1, vI hb (by omega)⟩, hd 110 b, by rw [cb]; exact ((n2 109 0 (by omega) (by decide)).2.1 b).trans (x8.2.2 b hb).1, 60, ⟨(n2 110 b (by omega) (by decide)).1.trans (x8.2.2 b hb).2.1, vI (by omega) (by decide), hi_hd (by decide) (by decide)⟩,
        so, hd 109 1, (r0 9).trans x9.1, _, ⟨(n2 109 1 (by omega) (by decide)).1.trans x9.2.1, vI hb (by omega)⟩, hd 111 b, by rw [cb]; exact ((n2 109 1 (by omega) (by decide)).2.1 b).trans (x9.2.2 b hb).1, 60, ⟨z9, vI (by omega) (by decide), hi_hd (by decide) (by decide)⟩, so, ⟨so, hi0⟩, fun μ6 e6 => ?_⟩, fun h => absurd (Int32.le_refl _) h⟩
      rw [cs, nar0, nar1] at e6
      have f6 : FrS (fun κ i => (κ = 100 ∧ i = 0) ∨ ((κ = 110 ∨ κ = 111 ∨ κ = 112) ∧ i = b)) μ1 μ6 := by
        rw [e6]
        exact (((((g2.mono (fun κ i z => by omega)).sI (by decide) (by omega)).sI (by decide) (by omega)).sI (by decide) (by omega)).sI (by decide) (by omega))
      have gS : ∀ κ i, κ < 256 → ¬ (κ = 111 ∧ i = b) → mS μ6 (hd κ i) = mS μ1 (hd κ i) := fun κ i h1 h2 => by
        rw [e6]; exact (n2 κ i h2 h1).1
      have gG : ∀ κ i k, κ < 256 → ¬ (κ = 111 ∧ i = b) → gR μ6 (hd κ i) k = gR μ1 (hd κ i) k := fun κ i k h1 h2 => by
        have := (n2 κ i h2 h1).2.1 k
        rw [e6]; exact this
      have is : ∀ k, k ≠ 1 → gI μ6 (hd 100 0) k = gI μ1 (hd 100 0) k := fun k hk => by
        rw [gI_h (by decide) (by decide), e6, rd_k hk, rd_ne (by decide) (by decide) (by decide), rd_ne (by decide) (by decide) (by decide), rd_ne (by decide) (by decide) (by decide), ← gI_h (by decide) (by decide)]
        exact (n2 100 0 (by omega) (by decide)).2.2 k
      have is1 : gI μ6 (hd 100 0) 1 = gI μ1 (hd 100 0) 1 + 1 := by
        rw [gI_h (by decide) (by decide), e6, rd_eq, gI_h (by decide) (by decide), rd_ne (by decide) (by decide) (by decide), rd_ne (by decide) (by decide) (by decide), rd_ne (by decide) (by decide) (by decide), ← gI_h (by decide) (by decide), (n2 100 0 (by omega) (by decide)).2.2 1]
      obtain ⟨o1, o2, o3, o4, o5, o6, o7⟩ := R1.1
      have st6 : St μ6 := f6.st (fun κ i z => by omega) (g1.st (fun κ i z => z.lo) hS)
      have kd : ∀ f, f ≠ 2 → f ≠ 6 → f ≠ 7 → f ≠ 8 → f ≠ 11 → ∀ i j, hangD T D b s f i j = D f i j := fun f h1 h4 h5 h6 h7 i j => hg_f h1 h4 h5 h6 h7
      have e1 : hangD T D b s 1 0 0 = D 1 0 0 := kd 1 (by decide) (by decide) (by decide) (by decide) (by decide) 0 0
      have hd2 : hangD T D b s 2 0 0 = D 2 0 0 + 1 := by unfold hangD; exact ud_self
      refine ⟨st6, hQ μ6 ⟨by omega, (g1.mono (fun κ i z => z.h)).trans (f6.mono (fun κ i z => by unfold OwH; omega)), st6, ⟨⟨?_, ?_, ?_, ?_, ?_, ?_, ?_⟩, ?_, ?_, ?_, ?_, ?_, ?_, ?_, ?_, ?_⟩, ?_⟩⟩
      · exact (gS 100 0 (by decide) (by omega)).trans o1
      · rw [is 0 (by decide), o2, kd 0 (by decide) (by decide) (by decide) (by decide) (by decide)]
      · rw [is1, o3, nI_s, hd2]
      · rw [is 2 (by decide), o4, merged_congr e1 (fun t => kd 4 (by decide) (by decide) (by decide) (by decide) (by decide) t 5)]
      · rw [is 3 (by decide), o5, kd 3 (by decide) (by decide) (by decide) (by decide) (by decide)]
      · rw [is 4 (by decide), o6]
      · rw [is 5 (by decide), o7]
      · rw [e1]
        have z := R1.2.1.fr f6 (gG 100 0 6 (by decide) (by omega)) (by decide) (by decide) (by omega) (fun k hk => by omega)
        refine ⟨z.1, z.2.1, fun k hk => ⟨(z.2.2 k hk).1, (z.2.2 k hk).2.1, fun j hj => ?_⟩⟩
        rw [kd 4 (by decide) (by decide) (by decide) (by decide) (by decide)]; exact (z.2.2 k hk).2.2 j hj
      · rw [e1]
        have z := x7.fr f6 (gG 100 0 7 (by decide) (by omega)) (by decide) (by omega) (fun k hk => by omega)
        refine ⟨z.1, z.2.1, fun k hk => ⟨(z.2.2 k hk).1, (z.2.2 k hk).2.1, fun j hj => ?_⟩⟩
        rw [(z.2.2 k hk).2.2 j hj]
        exact bI_congr (by unfold pAh; rw [e1, ah_hang])
      · -- known
        refine ⟨(gG 100 0 8 (by decide) (by omega)).trans x8.1, (gS 109 0 (by decide) (by omega)).trans x8.2.1, fun p hp => ⟨(gG 109 0 p (by decide) (by omega)).trans (x8.2.2 p hp).1, (gS 110 p (by decide) (by omega)).trans (x8.2.2 p hp).2.1, fun k hk => ?_⟩⟩
        have e2 : gI μ6 (hd 110 p) k = if p = b ∧ k = s then 1 else gI μ1 (hd 110 p) k := by
          rw [gI_h (by decide) (by decide), e6, rd_ne (by decide) (by decide) (by decide), rd_ne (by decide) (by decide) (by decide)]
          by_cases e : p = b
          · rw [e]
            by_cases ek : k = s
            · rw [ek, rd_eq, if_pos ⟨rfl, rfl⟩]
            · rw [rd_k ek, rd_ne (by decide) (by decide) (by decide), if_neg (fun z => ek z.2), ← gI_h (by decide) (by decide)]
              exact (n2 110 b (by omega) (by decide)).2.2 k
          · rw [rd_i e, rd_ne (by decide) (by decide) (by decide), if_neg (fun z => e z.1), ← gI_h (by decide) (by decide)]
            exact (n2 110 p (by omega) (by decide)).2.2 k
        rw [e2]
        unfold pKn
        rw [e1]
        rcases Nat.lt_or_ge k (D 1 0 0) with y | y
        · by_cases e : p = b ∧ k = s
          · rw [if_pos e, bI_t ⟨y, (kn_hang hI hb hs hch y).mpr (Or.inr e)⟩]
          · rw [if_neg e, (x8.2.2 p hp).2.2 k hk]
            exact bI_congr ⟨fun z => ⟨y, (kn_hang hI hb hs hch y).mpr (Or.inl z.2)⟩, fun z => ⟨y, ((kn_hang hI hb hs hch y).mp z.2).elim id (fun z => absurd z e)⟩⟩
        · rw [if_neg (by omega), (x8.2.2 p hp).2.2 k hk]
          exact bI_congr ⟨fun z => absurd z.1 (by omega), fun z => absurd z.1 (by omega)⟩
      · -- shown
        refine ⟨(gG 100 0 9 (by decide) (by omega)).trans x9.1, (gS 109 1 (by decide) (by omega)).trans x9.2.1, fun p hp => ⟨(gG 109 1 p (by decide) (by omega)).trans (x9.2.2 p hp).1, ?_, fun k hk => ?_⟩⟩
        · by_cases e : p = b
          · rw [e, e6]; exact z9
          · exact (gS 111 p (by decide) (by omega)).trans (x9.2.2 p hp).2.1
        · have e2 : gI μ6 (hd 111 p) k = if p = b ∧ k = s then 1 else gI μ' (hd 111 p) k := by
            rw [gI_h (by decide) (by decide), gI_h (by decide) (by decide), e6, rd_ne (by decide) (by decide) (by decide)]
            by_cases e : p = b
            · rw [e]
              by_cases ek : k = s
              · rw [ek, rd_eq, if_pos ⟨rfl, rfl⟩]
              · rw [rd_k ek, rd_ne (by decide) (by decide) (by decide), rd_ne (by decide) (by decide) (by decide), if_neg (fun z => ek z.2)]
            · rw [rd_i e, rd_ne (by decide) (by decide) (by decide), rd_ne (by decide) (by decide) (by decide), if_neg (fun z => e z.1)]
          rw [e2]
          rcases Nat.lt_or_ge k (D 1 0 0) with y | y
          · by_cases e : p = b ∧ k = s
            · rw [if_pos e, bI_t ((pSh_hang hI h2 hb hs hch y hp).mpr (Or.inr e))]
            · rw [if_neg e]
              by_cases ep : p = b
              · rw [ep, w k hk]
                have rowk : (∃ j, j < l.length ∧ l.getD j 0 = k + 1) ↔ pSh D b k ∧ D 4 k 1 = D 4 s 1 := getD_mem.symm.trans (by rw [← hl]; exact sh_row hB hb hn)
                refine bI_congr ⟨fun z => (pSh_hang hI h2 hb hs hch y hb).mpr (Or.inl ⟨z.1, fun x => z.2 ?_⟩), fun z => ((pSh_hang hI h2 hb hs hch y hb).mp z).elim (fun x => ⟨x.1, fun ⟨j, j1, j2, j3⟩ => x.2 ⟨rfl, (rowk.mp ⟨j, j1, j2⟩).2, j3⟩⟩) (fun x => absurd ⟨ep, x.2⟩ e)⟩
                obtain ⟨j, j1, j2⟩ := rowk.mpr ⟨z.1, x.2.1⟩
                exact ⟨j, j1, j2, x.2.2⟩
              · rw [(n2 111 p (by omega) (by decide)).2.2 k, (x9.2.2 p hp).2.2 k hk]
                exact bI_congr ⟨fun z => (pSh_hang hI h2 hb hs hch y hp).mpr (Or.inl ⟨z, fun x => ep x.1⟩), fun z => ((pSh_hang hI h2 hb hs hch y hp).mp z).elim (fun x => x.1) (fun x => absurd x.1 ep)⟩
          · rw [if_neg (by omega)]
            by_cases ep : p = b
            · rw [ep, w k hk]
              exact bI_congr ⟨fun z => absurd z.1.1 (by omega), fun z => absurd z.1 (by rw [e1]; omega)⟩
            · rw [(n2 111 p (by omega) (by decide)).2.2 k, (x9.2.2 p hp).2.2 k hk]
              exact bI_congr ⟨fun z => absurd z.1 (by omega), fun z => absurd z.1 (by rw [e1]; omega)⟩
      · -- waiting
        refine ⟨(gG 100 0 10 (by decide) (by omega)).trans x10.1, (gS 109 2 (by decide) (by omega)).trans x10.2.1, fun p hp => ⟨(gG 109 2 p (by decide) (by omega)).trans (x10.2.2 p hp).1, (gS 112 p (by decide) (by omega)).trans (x10.2.2 p hp).2.1, fun k hk => ?_⟩⟩
        have e2 : gI μ6 (hd 112 p) k = if p = b ∧ k = s then 0 else gI μ1 (hd 112 p) k := by
          rw [gI_h (by decide) (by decide), e6, rd_ne (by decide) (by decide) (by decide), rd_ne (by decide) (by decide) (by decide), rd_ne (by decide) (by decide) (by decide)]
          by_cases e : p = b
          · rw [e]
            by_cases ek : k = s
            · rw [ek, rd_eq, if_pos ⟨rfl, rfl⟩]
            · rw [rd_k ek, if_neg (fun z => ek z.2), ← gI_h (by decide) (by decide)]
              exact (n2 112 b (by omega) (by decide)).2.2 k
          · rw [rd_i e, if_neg (fun z => e z.1), ← gI_h (by decide) (by decide)]
            exact (n2 112 p (by omega) (by decide)).2.2 k
        rw [e2]
        unfold pWt
        rw [hang_8]
        by_cases e : p = b ∧ k = s
        · rw [if_pos e, if_pos e, bI_f (fun z => z rfl)]
        · rw [if_neg e, if_neg e, (x10.2.2 p hp).2.2 k hk]; rfl
      · have z := x11.fr f6 (gG 100 0 11 (by decide) (by omega)) (by decide) (by decide) (by omega) (fun k hk => by omega)
        refine ⟨z.1, z.2.1, fun k hk => ⟨(z.2.2 k hk).1, (z.2.2 k hk).2.1, fun j hj => ?_⟩⟩
        rw [(z.2.2 k hk).2.2 j hj]
        unfold rdX
        rw [kd 12 (by decide) (by decide) (by decide) (by decide) (by decide), kd 9 (by decide) (by decide) (by decide) (by decide) (by decide)]
      · have z := x12.fr f6 (gG 100 0 12 (by decide) (by omega)) (by decide) (by omega) (fun k hk => by omega)
        refine ⟨z.1, z.2.1, fun k hk => ⟨(z.2.2 k hk).1, (z.2.2 k hk).2.1, fun j hj => ?_⟩⟩
        rw [(z.2.2 k hk).2.2 j hj]
        unfold pGo
        rw [kd 10 (by decide) (by decide) (by decide) (by decide) (by decide)]
      · exact x14.fr f6 (gG 100 0 14 (by decide) (by omega)) (by decide) (by decide) (by omega) (fun k hk => by omega)
      · have z := R1.2.2.2.2.2.2.2.2.2.fr f6 (Nat.le_refl _) (fun κ i a b' => by omega) (fun k _ => by omega) (fun k _ => by omega)
        refine ⟨z.1, fun k hk => z.2.1 k (by rw [e1] at hk; exact hk), fun n hn => z.2.2 n (by rw [e1] at hn; exact hn)⟩
      · exact (gG 100 0 13 (by decide) (by omega)).trans (g1.gr (by decide) (by unfold Dy; omega))
    · have so : mS μ' (hd 100 0) = (1, 11) := (g2.S (by decide) (by omega)).trans R1.1.1
      obtain ⟨k, hk, ek⟩ := hmem x hx
      have ev : gI μ' (hd 130 (c + 1)) (nI x).toNatClampNeg = nI k := by
        rw [nI_clamp (by omega), g2.gi (by decide) (by omega), w1 x hx, ek]; rfl
      have x7 := R1.2.2.1
      have x9 := R1.2.2.2.2.1
      refine r_SI_hang_21 (by omega) ⟨fun z => absurd ((nI_leI (by omega) (by omega)).mp z) (by omega), fun _ => ⟨_, ⟨(g2.S (by decide) (by omega)).trans s1, vI hx (by omega)⟩, so, hd 109 4, (g2.gr (by decide) (by omega)).trans x7.1, _, ⟨(g2.S (by decide) (by omega)).trans x7.2.1, vI (by omega) (by decide)⟩, hd 114 s, ?_, 60, ⟨(g2.S (by decide) (by omega)).trans (x7.2.2 s hs).2.1, ?_⟩, ?_⟩⟩
      · rw [nI_clamp (by omega)]; exact (g2.gr (by decide) (by omega)).trans (x7.2.2 s hs).1
      · rw [ev]; exact vI (by omega) (by decide)
      · rw [ev, nI_clamp (show k < 2 ^ 31 by omega), g2.gi (by decide) (by omega), (x7.2.2 s hs).2.2 k (by omega), nI_s]
        refine bIs (fun ha => ?_) (fun ha => ?_)
        · refine ih μ' g2 z9 (fun k' hk' => ?_)
          rw [w k' hk']
          refine bI_congr (and_congr_right (fun _ => not_congr ⟨fun ⟨j, hj, z⟩ => ⟨j, by omega, z⟩, fun ⟨j, hj, z⟩ => ⟨j, ?_, z⟩⟩))
          rcases Nat.lt_or_ge j x with y | y
          · exact y
          · obtain rfl : j = x := by omega
            have : k' = k := by omega
            rw [this] at z
            exact absurd ⟨hk, z.2⟩ ha
        · refine ⟨so, hd 109 1, (g2.gr (by decide) (by omega)).trans x9.1, _, ⟨(g2.S (by decide) (by omega)).trans x9.2.1, vI hb (by omega)⟩, hd 111 b, ?_, 60, ⟨z9, vI (by omega) (by decide), hi_hd (by decide) (by decide)⟩, ?_⟩
          · rw [nI_clamp (by omega)]; exact (g2.gr (by decide) (by omega)).trans (x9.2.2 b hb).1
          · rw [nar0]
            refine ih _ (g2.sI (by decide) ⟨rfl, rfl⟩) z9 (fun k' hk' => ?_)
            rw [gI_h (by decide) (by decide)]
            by_cases e : k' = k
            · rw [e, rd_eq, bI_f (fun z => z.2 ⟨x, by omega, ek, ha.2⟩)]
            · rw [rd_k e, ← gI_h (by decide) (by decide), w k' hk']
              refine bI_congr (and_congr_right (fun _ => not_congr ⟨fun ⟨j, hj, z⟩ => ⟨j, by omega, z⟩, fun ⟨j, hj, z⟩ => ⟨j, ?_, z⟩⟩))
              rcases Nat.lt_or_ge j x with y | y
              · exact y
              · obtain rfl : j = x := by omega
                omega
  rw [I0]
  exact loop 0 (Nat.zero_le _) μ1 FrS.rf (R1.2.2.2.2.1.2.2 b hb).2.1 (fun k hk => by
    rw [(R1.2.2.2.2.1.2.2 b hb).2.2 k hk]
    exact bI_congr ⟨fun z => ⟨z, fun ⟨j, hj, _⟩ => absurd hj (Nat.not_lt_zero _)⟩, fun z => z.1⟩)
end SIH
