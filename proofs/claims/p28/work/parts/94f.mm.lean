/-! a sheet more: what the law's boards do -/
section MKR
variable {μ : Mu} {a b k j x a0 : Nat} {v : Int32} {sh : Nat × Nat}
theorem mS_sI : mS (setI μ a k v) b = mS μ b := rfl
theorem mS_sR : mS (setR μ a k x) b = mS μ b := rfl
theorem mS_mk : mS (mkA μ a sh) b = if b = a then sh else mS μ b := rfl
theorem mS_cl : mS (clA μ a0 a) b = if b = a then mS μ a0 else mS μ b := rfl
theorem mR_mk : mR (mkA μ a sh) b j = if b = a then none else mR μ b j := rfl
theorem mI_cl : mI (clA μ a0 a) b j = if b = a then mI μ a0 j else mI μ b j := rfl
theorem mR_cl : mR (clA μ a0 a) b j = if b = a then none else mR μ b j := rfl
theorem fitsB (p : Prop) : fits .boolean (.int (bI p)) = true := by
  rcases bI_01 (p := p) with h | h <;> rw [h] <;> decide
theorem nar1 : vp_nar .boolean 1 = 1 := by decide
theorem nar0 : vp_nar .boolean 0 = 0 := by decide
end MKR
section SIM
variable {d rc rs : Nat} {Q : Option Value → Mu → Prop} {μ μ' : Mu} {T : PT} {D : DT} {OO : Nat → Nat → Nat} {c : Nat}
/-- what making a sheet may write -/
def OwM (b S c κ i : Nat) : Prop := (κ = 100 ∧ i = 0) ∨ (κ = 111 ∧ i = b) ∨ (κ = 110 ∧ i = b) ∨ ((κ = 116 ∨ κ = 114) ∧ i = S) ∨ (κ = 119 ∧ i = S + 1) ∨ (κ = 109 ∧ i = 4) ∨ Dy c (c + 2) κ i
theorem c_SI_make {b n v m h : Nat} (hR : SR μ T D OO c) (hI : Inv T D) (h60 : D 1 0 0 < 60) (hD : 2 ≤ d) (hc : 5 ≤ rc) (hs : 200 ≤ rs) (hS : St μ) (hb : b < T 0 0) (hn : n < T 1 0) (hv : v ≤ 9999) (hm : m < 65536) (hh : h ≤ 2)
    (hQ : ∀ μ', FrS (OwM b (D 1 0 0) c) μ μ' → St μ' → SR μ' T (mkD T D b n v m h) OO (c + 2) → gR μ' (hd 100 0) 13 = gR μ (hd 100 0) 13 → Q (some (.int (nI (D 1 0 0)))) μ') : Cal K_SI_make d rc rs [.ref (hd 100 0), .int (nI b), .int (nI n), .int (nI v), .int (nI m), .int (nI h)] μ Q := by
  have hB := hI.1
  have hP5 := hB.1.1
  have hN6 := hB.1.2.1
  have hR0 := hR
  obtain ⟨ho, h6, h7, h8, h9, h10, h11, h12, h14, hf⟩ := hR0
  refine e_SI_make (r_SI_make_0 (by omega) ⟨ho.1, _, h6.1, _, h6.2.1, 2, 65, ⟨by omega, by omega⟩, ho.1, ?_⟩)
  refine c_SI_shows hR hB (by omega) (Nat.le_refl _) (Nat.le_refl _) hS hb hn (fun μ1 g1 s1 w1 => ⟨_, rfl, _, s1, ?_⟩)
  have hlen := shL_len D b n
  have hmem : ∀ j, j < (shL D b n).length → ∃ k, k < D 1 0 0 ∧ (shL D b n).getD j 0 = k + 1 := fun j hj => by
    have hm := shL_mem hB hb (show n < 6 by omega) (getD_mem.mpr ⟨j, hj, rfl⟩)
    exact ⟨(shL D b n).getD j 0 - 1, hm.2, by omega⟩
  generalize hl : shL D b n = l at *
  have R1 := hR.dy g1 (by omega)
  -- the board shows no longer
  have loop : ∀ x, x ≤ l.length → ∀ μ', FrS (OwM b (D 1 0 0) c) μ μ' → FrS (fun κ i => κ = 111 ∧ i = b) μ1 μ' → mS μ' (hd 111 b) = (5, 60) → (∀ k, k < 60 → gI μ' (hd 111 b) k = bI (pSh D b k ∧ ¬ ∃ j, j < x ∧ l.getD j 0 = k + 1)) → Wx K_SI_make d (rc - 2) (rs - 65) (fun r μ' => St μ' ∧ Q r μ') 23 [(0, .ref (hd 100 0)), (1, .int (nI b)), (2, .int (nI n)), (3, .int (nI v)), (4, .int (nI m)), (5, .int (nI h)), (6, .int (nI (D 1 0 0))), (7, .ref (hd 130 (c + 1))), (8, .int (nI l.length)), (9, .int (nI x))] [] μ' := by
    refine up_loop l.length (fun μ' g g2 z9 w => ?_) (fun x hx ih μ' g g2 z9 w => ?_)
    · -- behind the loop
      have e0 : ∀ f, gR μ' (hd 100 0) f = gR μ1 (hd 100 0) f := fun f => g2.gr (by decide) (by omega)
      have ei : ∀ f, gI μ' (hd 100 0) f = gI μ1 (hd 100 0) f := fun f => g2.gi (by decide) (by omega)
      have q6 := R1.2.1.fr g2 (e0 _) (by decide) (by decide) (by omega) (fun k _ => by omega)
      have q7 := R1.2.2.1.fr g2 (e0 _) (by decide) (by omega) (fun k _ => by omega)
      have q8 := R1.2.2.2.1.fr g2 (e0 _) (by decide) (by omega) (fun k _ => by omega)
      have so : mS μ' (hd 100 0) = (1, 11) := (g2.S (by decide) (by omega)).trans R1.1.1
      have s116 : mS μ' (hd 116 (D 1 0 0)) = (0, 0) := (g2.S (by decide) (by omega)).trans (R1.2.2.2.2.2.2.2.2.2.2.1 _ (Nat.le_refl _)).1
      have i6 : ∀ {k}, k < 6 → vp_in (nI k) 6 := fun h => vI h (by decide)
      have h116 : hiN (hd 116 (D 1 0 0)) := hi_hd (by decide) (by decide)
      have m116 : mS (mkA μ' (hd 116 (D 1 0 0)) (2, 6)) (hd 116 (D 1 0 0)) = (2, 6) := if_pos rfl
      have m100 : mS (mkA μ' (hd 116 (D 1 0 0)) (2, 6)) (hd 100 0) = (1, 11) := by rw [S_ne (by decide) (by decide) (by decide)]; exact so
      refine r_SI_make_23 (by omega) ⟨fun _ => ⟨so, _, q6.1, ⟨by decide, by decide, by omega, by omega⟩, hd 116 (D 1 0 0), ⟨s116, h116⟩, 6, ⟨m116, i6 (k := 0) (by decide), h116⟩, 6, ⟨m116, i6 (k := 1) (by decide), h116⟩, 6, ⟨m116, i6 (k := 2) (by decide), h116⟩, 6, ⟨m116, i6 (k := 3) (by decide), h116⟩, m100, 6, ⟨m116, i6 (k := 4) (by decide), h116⟩, fun μ18 e18 => ?_⟩, fun h => absurd (Int32.le_refl _) h⟩
      have f18 : FrS (fun κ i => κ = 116 ∧ i = D 1 0 0) μ' (setI μ18 (hd 116 (D 1 0 0)) (5 : Int32).toNatClampNeg (nI h)) := by
        rw [e18]
        exact (((((((FrS.rf.mk (by decide) ⟨rfl, rfl⟩).sI (by decide) ⟨rfl, rfl⟩).sI (by decide) ⟨rfl, rfl⟩).sI (by decide) ⟨rfl, rfl⟩).sI (by decide) ⟨rfl, rfl⟩).sI (by decide) ⟨rfl, rfl⟩).sI (by decide) ⟨rfl, rfl⟩)
      have s18 : mS μ18 (hd 116 (D 1 0 0)) = (2, 6) := by rw [e18]; exact m116
      have c18 : ∀ j, j < 6 → gI (setI μ18 (hd 116 (D 1 0 0)) (5 : Int32).toNatClampNeg (nI h)) (hd 116 (D 1 0 0)) j = nI (newS b n v m (D 0 0 0) h j) := fun j hj => by
        have e0 : gI (mkA μ' (hd 116 (D 1 0 0)) (2, 6)) (hd 100 0) 0 = nI (D 0 0 0) := by
          rw [gI_h (by decide) (by decide), I_mkn (by decide) (by decide) (by decide), ← gI_h (by decide) (by decide), ei]
          exact R1.1.2.1
        rw [gI_h (by decide) (by decide), e18]
        rcases (by omega : j = 0 ∨ j = 1 ∨ j = 2 ∨ j = 3 ∨ j = 4 ∨ j = 5) with rfl | rfl | rfl | rfl | rfl | rfl
        · simp only [mI_set]; rfl
        · simp only [mI_set]; rfl
        · simp only [mI_set]; rfl
        · simp only [mI_set]; rfl
        · simp only [mI_set]
          rw [if_neg (by decide), if_pos (by decide), gI_h (by decide) (by decide), rd_ne (by decide) (by decide) (by decide), rd_ne (by decide) (by decide) (by decide), rd_ne (by decide) (by decide) (by decide), rd_ne (by decide) (by decide) (by decide), ← gI_h (by decide) (by decide)]
          exact e0
        · simp only [mI_set]; rfl
      generalize hμ2 : setI μ18 (hd 116 (D 1 0 0)) (5 : Int32).toNatClampNeg (nI h) = μ2 at *
      have s18' : mS μ2 (hd 116 (D 1 0 0)) = (2, 6) := by rw [← hμ2]; exact s18
      have q6b := q6.fr f18 (f18.gr (by decide) (by omega)) (by decide) (by decide) (by omega) (fun k hk => by omega)
      have n119 : mS μ2 (hd 119 (D 1 0 0 + 1)) = (0, 0) := by
        rw [f18.S (by decide) (by omega), g2.S (by decide) (by omega)]
        exact R1.2.2.2.2.2.2.2.2.2.2.2 _ (by omega)
      have S2 : St μ2 := (f18.st (fun κ i z => by omega) (g.st (fun κ i z => by unfold OwM Dy at z; omega) hS))
      refine ⟨6, ⟨s18, i6 (k := 5) (by decide), h116⟩, 1, 61, ⟨by omega, by omega⟩, c_SI_with (by omega) (by omega) (by omega) (by omega) S2 (by decide) q6b.2.1 (by omega) (fun k hk => ⟨hd 116 k, 6, (q6b.2.2 k hk).1, (q6b.2.2 k hk).2.1, hi_hd (by decide) (by decide), hd_ne (by decide) (by decide) (by decide)⟩) ⟨s18', h116, hd_ne (by decide) (by decide) (by decide)⟩ ⟨by decide, by decide⟩ n119 (fun μ4 f4 s4 w4 w4' => ⟨_, rfl, ?_⟩)⟩
      -- the rest in a straight line
      have g4 : FrS (fun κ i => (κ = 116 ∧ i = D 1 0 0) ∨ (κ = 119 ∧ i = D 1 0 0 + 1)) μ' μ4 := (f18.mono (fun κ i z => Or.inl z)).trans (f4.mono (fun κ i z => Or.inr z))
      have o4 : mS μ4 (hd 100 0) = (1, 11) := (g4.S (by decide) (by omega)).trans so
      have hi0 : hiN (hd 100 0) := hi_hd (by decide) (by decide)
      have p7 := q7.fr g4 (g4.gr (by decide) (by omega)) (by decide) (by omega) (fun k hk => by omega)
      have p8 := q8.fr g4 (g4.gr (by decide) (by omega)) (by decide) (by omega) (fun k hk => by omega)
      have p9r : gR μ4 (hd 100 0) 9 = some (hd 109 1) := (g4.gr (by decide) (by omega)).trans ((g2.gr (by decide) (by omega)).trans R1.2.2.2.2.1.1)
      have p9o : mS μ4 (hd 109 1) = (41, T 0 0) := (g4.S (by decide) (by omega)).trans ((g2.S (by decide) (by omega)).trans R1.2.2.2.2.1.2.1)
      have p9b : gR μ4 (hd 109 1) b = some (hd 111 b) := (g4.gr (by decide) (by omega)).trans ((g2.gr (by decide) (by omega)).trans (R1.2.2.2.2.1.2.2 b hb).1)
      have p9s : mS μ4 (hd 111 b) = (5, 60) := (g4.S (by decide) (by omega)).trans z9
      have p9w : ∀ k, k < 60 → gI μ4 (hd 111 b) k = bI (pSh D b k ∧ ¬ ∃ j, j < l.length ∧ l.getD j 0 = k + 1) := fun k hk => (g4.gi (by decide) (by omega)).trans (w k hk)
      have b28 := (p8.2.2 b hb).1
      have rg : ∀ {x κ i k}, κ < 256 → (κ ≠ 100 ∨ k ≠ 6) → mR (setR μ4 (hd 100 0) 6 x) (hd κ i) k = mR μ4 (hd κ i) k := fun {x κ i k} h1 h2 => by
        rw [mR_set, if_neg]
        rintro ⟨z1, z2⟩
        have := ((hd_inj h1 (by decide)).mp z1).1
        omega
      have rgg : ∀ {x κ i k}, κ < 256 → (κ ≠ 100 ∨ k ≠ 6) → gR (setR μ4 (hd 100 0) 6 x) (hd κ i) k = gR μ4 (hd κ i) k := fun {x κ i k} h1 h2 => by
        unfold gR
        split
        · rfl
        · exact rg h1 h2
      have c110 : ∀ k, k < 60 → gI (setI (setI (setR μ4 (hd 100 0) 6 (hd 119 (D 1 0 0 + 1))) (hd 110 b) (D 1 0 0) 1) (hd 111 b) (D 1 0 0) 1) (hd 110 b) k = bI (pKn (mkD T D b n v m h) b k) := fun k hk => by
        rw [gI_h (by decide) (by decide), rd_ne (by decide) (by decide) (by decide)]
        by_cases e : k = D 1 0 0
        · rw [e, rd_eq, bI_t ((pKn_mk hI hb (Nat.le_refl _) hb).mpr (Or.inr ⟨rfl, rfl⟩))]
        · rw [rd_k e, I_R, ← gI_h (by decide) (by decide), (p8.2.2 b hb).2.2 k hk]
          rcases Nat.lt_or_ge k (D 1 0 0) with y | y
          · exact bI_congr ⟨fun z => (pKn_mk hI hb (by omega) hb).mpr (Or.inl z), fun z => ((pKn_mk hI hb (by omega) hb).mp z).elim id (fun z => absurd z.2 e)⟩
          · refine bI_congr ⟨fun z => absurd z.1 (by omega), fun z => ?_⟩
            have := z.1
            rw [mk_1] at this
            omega
      have fin : ∀ y : Nat, y = bN (h = 2) → ∀ μ6, μ6 = setI (setR (clA (setI (setI (setR μ4 (hd 100 0) 6 (hd 119 (D 1 0 0 + 1))) (hd 110 b) (D 1 0 0) 1) (hd 111 b) (D 1 0 0) 1) (hd 110 b) (hd 114 (D 1 0 0))) (hd 109 4) (D 1 0 0) (hd 114 (D 1 0 0))) (hd 100 0) 2 (gI (setR (clA (setI (setI (setR μ4 (hd 100 0) 6 (hd 119 (D 1 0 0 + 1))) (hd 110 b) (D 1 0 0) 1) (hd 111 b) (D 1 0 0) 1) (hd 110 b) (hd 114 (D 1 0 0))) (hd 109 4) (D 1 0 0) (hd 114 (D 1 0 0))) (hd 100 0) 2 + nI y) → St μ6 ∧ Q (some (.int (nI (D 1 0 0)))) μ6 := by
        intro y hy μ6 e6
        have f6 : FrS (fun κ i => (κ = 100 ∧ i = 0) ∨ ((κ = 110 ∨ κ = 111) ∧ i = b) ∨ (κ = 114 ∧ i = D 1 0 0) ∨ (κ = 109 ∧ i = 4)) μ4 μ6 := by
          rw [e6]
          exact (((((FrS.rf.sR (by decide) (by omega)).sI (by decide) (by omega)).sI (by decide) (by omega)).cl (by decide) (by omega)).sR (by decide) (by omega)).sI (by decide) (by omega)
        have rs : ∀ κ i k, κ < 256 → ¬ (κ = 100 ∧ i = 0 ∧ k = 6) → ¬ (κ = 109 ∧ i = 4 ∧ k = D 1 0 0) → ¬ (κ = 114 ∧ i = D 1 0 0) → gR μ6 (hd κ i) k = gR μ4 (hd κ i) k := fun κ i k h1 h2 h3 h4 => by
          have : mR μ6 (hd κ i) k = mR μ4 (hd κ i) k := by
            rw [e6, mR_setI, mR_set, if_neg (fun z => h3 ⟨((hd_inj h1 (by decide)).mp z.1).1, ((hd_inj h1 (by decide)).mp z.1).2, z.2⟩), mR_cl, if_neg (fun z => h4 ((hd_inj h1 (by decide)).mp z)), mR_setI, mR_setI, mR_set, if_neg (fun z => h2 ⟨((hd_inj h1 (by decide)).mp z.1).1, ((hd_inj h1 (by decide)).mp z.1).2, z.2⟩)]
          unfold gR
          split
          · rfl
          · exact this
        have is : ∀ k, k ≠ 2 → gI μ6 (hd 100 0) k = gI μ4 (hd 100 0) k := fun k hk => by
          rw [gI_h (by decide) (by decide), gI_h (by decide) (by decide), e6, rd_k hk, I_R, mI_cl, if_neg (hd_ne (by decide) (by decide) (by decide)), rd_ne (by decide) (by decide) (by decide), rd_ne (by decide) (by decide) (by decide), I_R]
        have i0 : ∀ k, gI μ4 (hd 100 0) k = gI μ1 (hd 100 0) k := fun k => (g4.gi (by decide) (by omega)).trans (ei k)
        obtain ⟨o1, o2, o3, o4', o5, o6, o7⟩ := R1.1
        have g6 : FrS (OwM b (D 1 0 0) c) μ μ6 := (g.trans (g4.mono (fun κ i z => by unfold OwM; omega))).trans (f6.mono (fun κ i z => by unfold OwM; omega))
        have st6 : St μ6 := g6.st (fun κ i z => by unfold OwM Dy at z; omega) hS
        refine ⟨st6, hQ μ6 g6 st6 ?_ ?_⟩
        · have kd : ∀ f, f ≠ 1 → f ≠ 4 → f ≠ 5 → f ≠ 6 → f ≠ 7 → ∀ i j, mkD T D b n v m h f i j = D f i j := fun f h1 h4 h5 h6 h7 i j => mk_f h1 h4 h5 h6 h7
          have n4 : ∀ κ i, ¬ ((κ = 116 ∧ i = D 1 0 0) ∨ (κ = 119 ∧ i = D 1 0 0 + 1)) → ¬ (κ = 111 ∧ i = b) → κ < 256 → mS μ4 (hd κ i) = mS μ1 (hd κ i) ∧ (∀ k, gR μ4 (hd κ i) k = gR μ1 (hd κ i) k) ∧ ∀ k, gI μ4 (hd κ i) k = gI μ1 (hd κ i) k := fun κ i h1 h2 h3 => ⟨(g4.S h3 h1).trans (g2.S h3 h2), fun k => (g4.gr h3 h1).trans (g2.gr h3 h2), fun k => (g4.gi h3 h1).trans (g2.gi h3 h2)⟩
          have x10 := R1.2.2.2.2.2.1
          have x11 := R1.2.2.2.2.2.2.1
          have x12 := R1.2.2.2.2.2.2.2.1
          have x14 := R1.2.2.2.2.2.2.2.2.1
          refine ⟨⟨?_, ?_, ?_, ?_, ?_, ?_, ?_⟩, ?_, ?_, ?_, ?_, ?_, ?_, ?_, ?_, ?_⟩
          · rw [e6]; exact (if_neg (hd_ne (by decide) (by decide) (by decide))).trans o4
          · rw [is 0 (by decide), i0, o2, kd 0 (by decide) (by decide) (by decide) (by decide) (by decide)]
          · rw [is 1 (by decide), i0, o3, kd 2 (by decide) (by decide) (by decide) (by decide) (by decide)]
          · have e2 : gI μ6 (hd 100 0) 2 = gI μ4 (hd 100 0) 2 + nI y := by
              rw [gI_h (by decide) (by decide), e6, rd_eq, gI_h (by decide) (by decide), I_R, mI_cl, if_neg (hd_ne (by decide) (by decide) (by decide)), rd_ne (by decide) (by decide) (by decide), rd_ne (by decide) (by decide) (by decide), I_R, ← gI_h (by decide) (by decide)]
            rw [e2, i0, o4', nI_add, merged_mk, hy]
          · rw [is 3 (by decide), i0, o5, kd 3 (by decide) (by decide) (by decide) (by decide) (by decide)]
          · rw [is 4 (by decide), i0, o6]
          · rw [is 5 (by decide), i0, o7]
          · -- sheets
            rw [mk_1]
            refine ⟨?_, (f6.S (by decide) (by omega)).trans s4, fun k hk => ?_⟩
            · rw [gR_h (by decide) (by decide), e6, mR_setI, R_ne (by decide) (by decide) (by decide), mR_cl, if_neg (hd_ne (by decide) (by decide) (by decide)), mR_setI, mR_setI, R_eq]
            · rw [rs 119 _ k (by decide) (by omega) (by omega) (by omega), f6.S (by decide) (by omega), f4.S (by decide) (by omega)]
              rcases Nat.lt_or_ge k (D 1 0 0) with y' | y'
              · refine ⟨(w4 k y').trans (q6b.2.2 k y').1, (q6b.2.2 k y').2.1, fun j hj => ?_⟩
                rw [f6.gi (by decide) (by omega), f4.gi (by decide) (by omega), (q6b.2.2 k y').2.2 j hj, mk_45 (Or.inl rfl) (by omega)]
              · obtain rfl : k = D 1 0 0 := by omega
                refine ⟨w4', s18', fun j hj => ?_⟩
                rw [f6.gi (by decide) (by omega), f4.gi (by decide) (by omega), c18 j hj, mk_4S]
          · -- past
            rw [mk_1]
            refine ⟨(rs 100 0 7 (by decide) (by omega) (by omega) (by omega)).trans p7.1, ?_, fun k hk => ?_⟩
            · rw [e6]; exact (if_neg (hd_ne (by decide) (by decide) (by decide))).trans p7.2.1
            · rcases Nat.lt_or_ge k (D 1 0 0) with y' | y'
              · refine ⟨(rs 109 4 k (by decide) (by omega) (by omega) (by omega)).trans (p7.2.2 k y').1, (f6.S (by decide) (by omega)).trans (p7.2.2 k y').2.1, fun j hj => ?_⟩
                rw [f6.gi (by decide) (by omega), (p7.2.2 k y').2.2 j hj]
                rcases Nat.lt_or_ge (D 1 0 0) j with y2 | y2
                · exact bI_congr ⟨fun z => absurd z.1 (by omega), fun z => absurd z.1 (by rw [mk_1]; omega)⟩
                · exact bI_congr (pAh_mk hI hb y' y2).symm
              · obtain rfl : k = D 1 0 0 := by omega
                refine ⟨?_, ?_, fun j hj => ?_⟩
                · rw [gR_h (by decide) (by decide), e6, mR_setI, R_eq]
                · rw [e6]; exact (if_pos rfl).trans (p8.2.2 b hb).2.1
                · have e2 : gI μ6 (hd 114 (D 1 0 0)) j = gI (setI (setI (setR μ4 (hd 100 0) 6 (hd 119 (D 1 0 0 + 1))) (hd 110 b) (D 1 0 0) 1) (hd 111 b) (D 1 0 0) 1) (hd 110 b) j := by
                    rw [gI_h (by decide) (by decide), gI_h (by decide) (by decide), e6, rd_ne (by decide) (by decide) (by decide), I_R, mI_cl, if_pos rfl]
                  rw [e2, c110 j hj]
                  rcases Nat.lt_or_ge (D 1 0 0) j with y2 | y2
                  · exact bI_congr ⟨fun z => absurd z.1 (by rw [mk_1]; omega), fun z => absurd z.1 (by rw [mk_1]; omega)⟩
                  · exact bI_congr (pAh_mkS hI hb y2).symm
          · -- known
            refine ⟨(rs 100 0 8 (by decide) (by omega) (by omega) (by omega)).trans p8.1, (f6.S (by decide) (by omega)).trans p8.2.1, fun p hp => ⟨(rs 109 0 p (by decide) (by omega) (by omega) (by omega)).trans (p8.2.2 p hp).1, ?_, fun k hk => ?_⟩⟩
            · have : mS μ6 (hd 110 p) = mS μ4 (hd 110 p) := by rw [e6]; exact if_neg (hd_ne (by decide) (by decide) (by decide))
              exact this.trans (p8.2.2 p hp).2.1
            · by_cases e : p = b
              · have e2 : gI μ6 (hd 110 b) k = gI (setI (setI (setR μ4 (hd 100 0) 6 (hd 119 (D 1 0 0 + 1))) (hd 110 b) (D 1 0 0) 1) (hd 111 b) (D 1 0 0) 1) (hd 110 b) k := by
                  rw [gI_h (by decide) (by decide), gI_h (by decide) (by decide), e6, rd_ne (by decide) (by decide) (by decide), I_R, mI_cl, if_neg (hd_ne (by decide) (by decide) (by decide))]
                rw [e, e2, c110 k hk]
              · rw [f6.gi (by decide) (by omega), (p8.2.2 p hp).2.2 k hk]
                rcases Nat.lt_or_ge (D 1 0 0) k with y2 | y2
                · exact bI_congr ⟨fun z => absurd z.1 (by omega), fun z => absurd z.1 (by rw [mk_1]; omega)⟩
                · exact bI_congr ⟨fun z => (pKn_mk hI hb y2 hp).mpr (Or.inl z), fun z => ((pKn_mk hI hb y2 hp).mp z).elim id (fun z => absurd z.1 e)⟩
          · -- shown
            refine ⟨(rs 100 0 9 (by decide) (by omega) (by omega) (by omega)).trans p9r, (f6.S (by decide) (by omega)).trans p9o, fun p hp => ?_⟩
            have s9 : mS μ6 (hd 111 p) = mS μ4 (hd 111 p) := by rw [e6]; exact if_neg (hd_ne (by decide) (by decide) (by decide))
            by_cases e : p = b
            · refine ⟨?_, ?_, fun k hk => ?_⟩
              · rw [e]; exact (rs 109 1 b (by decide) (by omega) (by omega) (by omega)).trans p9b
              · rw [s9, e]; exact p9s
              · rw [e]
                have e2 : gI μ6 (hd 111 b) k = if k = D 1 0 0 then 1 else gI μ4 (hd 111 b) k := by
                  rw [gI_h (by decide) (by decide), gI_h (by decide) (by decide), e6, rd_ne (by decide) (by decide) (by decide), I_R, mI_cl, if_neg (hd_ne (by decide) (by decide) (by decide))]
                  by_cases ek : k = D 1 0 0
                  · rw [ek, rd_eq, if_pos rfl]
                  · rw [rd_k ek, rd_ne (by decide) (by decide) (by decide), I_R, if_neg ek]
                rw [e2]
                by_cases ek : k = D 1 0 0
                · rw [if_pos ek, ek, bI_t ((pSh_mk hB hb hb hn (Nat.le_refl _)).mpr (Or.inr ⟨rfl, rfl⟩))]
                · rw [if_neg ek, p9w k hk]
                  rcases Nat.lt_or_ge (D 1 0 0) k with y2 | y2
                  · exact bI_congr ⟨fun z => absurd z.1.1 (by omega), fun z => absurd z.1 (by rw [mk_1]; omega)⟩
                  · have rowk : (∃ j, j < l.length ∧ l.getD j 0 = k + 1) ↔ pSh D b k ∧ D 4 k 1 = n := getD_mem.symm.trans (by rw [← hl]; exact sh_row hB hb hn)
                    exact bI_congr ⟨fun z => (pSh_mk hB hb hb hn y2).mpr (Or.inl ⟨z.1, fun w => z.2 (rowk.mpr ⟨z.1, w.2⟩)⟩), fun z => ((pSh_mk hB hb hb hn y2).mp z).elim (fun w => ⟨w.1, fun x => w.2 ⟨rfl, (rowk.mp x).2⟩⟩) (fun w => absurd w.2 ek)⟩
            · refine ⟨?_, ?_, fun k hk => ?_⟩
              · exact (rs 109 1 p (by decide) (by omega) (by omega) (by omega)).trans ((n4 109 1 (by omega) (by omega) (by decide)).2.1 p |>.trans (R1.2.2.2.2.1.2.2 p hp).1)
              · rw [s9, (n4 111 p (by omega) (by omega) (by decide)).1]; exact (R1.2.2.2.2.1.2.2 p hp).2.1
              · rw [f6.gi (by decide) (by omega), (n4 111 p (by omega) (by omega) (by decide)).2.2, (R1.2.2.2.2.1.2.2 p hp).2.2 k hk]
                rcases Nat.lt_or_ge (D 1 0 0) k with y2 | y2
                · exact bI_congr ⟨fun z => absurd z.1 (by omega), fun z => absurd z.1 (by rw [mk_1]; omega)⟩
                · exact bI_congr ⟨fun z => (pSh_mk hB hp hb hn y2).mpr (Or.inl ⟨z, fun w => e w.1⟩), fun z => ((pSh_mk hB hp hb hn y2).mp z).elim (fun z => z.1) (fun z => absurd z.1 e)⟩
          · -- waiting
            refine ⟨(rs 100 0 10 (by decide) (by omega) (by omega) (by omega)).trans ((n4 100 0 (by omega) (by omega) (by decide)).2.1 10 |>.trans x10.1), (f6.S (by decide) (by omega)).trans ((n4 109 2 (by omega) (by omega) (by decide)).1.trans x10.2.1), fun p hp => ⟨(rs 109 2 p (by decide) (by omega) (by omega) (by omega)).trans ((n4 109 2 (by omega) (by omega) (by decide)).2.1 p |>.trans (x10.2.2 p hp).1), (f6.S (by decide) (by omega)).trans ((n4 112 p (by omega) (by omega) (by decide)).1.trans (x10.2.2 p hp).2.1), fun k hk => ?_⟩⟩
            rw [f6.gi (by decide) (by omega), (n4 112 p (by omega) (by omega) (by decide)).2.2, (x10.2.2 p hp).2.2 k hk]
            unfold pWt
            rw [kd 8 (by decide) (by decide) (by decide) (by decide) (by decide)]
          · -- roads
            refine ⟨(rs 100 0 11 (by decide) (by omega) (by omega) (by omega)).trans ((n4 100 0 (by omega) (by omega) (by decide)).2.1 11 |>.trans x11.1), (f6.S (by decide) (by omega)).trans ((n4 121 _ (by omega) (by omega) (by decide)).1.trans x11.2.1), fun p hp => ⟨(rs 121 _ p (by decide) (by omega) (by omega) (by omega)).trans ((n4 121 _ (by omega) (by omega) (by decide)).2.1 p |>.trans (x11.2.2 p hp).1), (f6.S (by decide) (by omega)).trans ((n4 115 p (by omega) (by omega) (by decide)).1.trans (x11.2.2 p hp).2.1), fun k hk => ?_⟩⟩
            rw [f6.gi (by decide) (by omega), (n4 115 p (by omega) (by omega) (by decide)).2.2, (x11.2.2 p hp).2.2 k hk]
            unfold rdX
            rw [kd 12 (by decide) (by decide) (by decide) (by decide) (by decide), kd 9 (by decide) (by decide) (by decide) (by decide) (by decide)]
          · -- gone
            refine ⟨(rs 100 0 12 (by decide) (by omega) (by omega) (by omega)).trans ((n4 100 0 (by omega) (by omega) (by decide)).2.1 12 |>.trans x12.1), (f6.S (by decide) (by omega)).trans ((n4 109 3 (by omega) (by omega) (by decide)).1.trans x12.2.1), fun p hp => ⟨(rs 109 3 p (by decide) (by omega) (by omega) (by omega)).trans ((n4 109 3 (by omega) (by omega) (by decide)).2.1 p |>.trans (x12.2.2 p hp).1), (f6.S (by decide) (by omega)).trans ((n4 113 p (by omega) (by omega) (by decide)).1.trans (x12.2.2 p hp).2.1), fun k hk => ?_⟩⟩
            rw [f6.gi (by decide) (by omega), (n4 113 p (by omega) (by omega) (by decide)).2.2, (x12.2.2 p hp).2.2 k hk]
            unfold pGo
            rw [kd 10 (by decide) (by decide) (by decide) (by decide) (by decide)]
          · -- orders
            refine ⟨(rs 100 0 14 (by decide) (by omega) (by omega) (by omega)).trans ((n4 100 0 (by omega) (by omega) (by decide)).2.1 14 |>.trans x14.1), (f6.S (by decide) (by omega)).trans ((n4 124 _ (by omega) (by omega) (by decide)).1.trans x14.2.1), fun p hp => ⟨(rs 124 _ p (by decide) (by omega) (by omega) (by omega)).trans ((n4 124 _ (by omega) (by omega) (by decide)).2.1 p |>.trans (x14.2.2 p hp).1), (f6.S (by decide) (by omega)).trans ((n4 118 p (by omega) (by omega) (by decide)).1.trans (x14.2.2 p hp).2.1), fun k hk => ?_⟩⟩
            rw [f6.gi (by decide) (by omega), (n4 118 p (by omega) (by omega) (by decide)).2.2, (x14.2.2 p hp).2.2 k hk]
          · refine ⟨hf.1.nx (by omega) g6 (fun κ i a b' => by unfold OwM Dy at a; omega), fun k a => ?_, fun n a => ?_⟩
            · rw [mk_1] at a
              exact ⟨(g6.S (by decide) (by unfold OwM Dy; omega)).trans (hf.2.1 k (by omega)).1, (g6.S (by decide) (by unfold OwM Dy; omega)).trans (hf.2.1 k (by omega)).2⟩
            · rw [mk_1] at a
              exact (g6.S (by decide) (by unfold OwM Dy; omega)).trans (hf.2.2 n (by omega))
        · rw [rs 100 0 13 (by decide) (by omega) (by omega) (by omega)]
          exact (g4.gr (by decide) (by omega)).trans ((e0 13).trans (g1.gr (by decide) (by unfold Dy; omega)))
      refine ⟨⟨o4, hi0⟩, o4, hd 109 0, (rgg (by decide) (by decide)).trans p8.1, _, ⟨p8.2.1, vI hb (by omega)⟩, hd 110 b, ?_, 60, ⟨(p8.2.2 b hb).2.1, vI (by omega) (by decide), hi_hd (by decide) (by decide)⟩, o4, hd 109 1, (rgg (by decide) (by decide)).trans p9r, _, ⟨p9o, vI hb (by omega)⟩, hd 111 b, ?_, 60, ⟨p9s, vI (by omega) (by decide), hi_hd (by decide) (by decide)⟩, o4, hd 109 4, (rgg (by decide) (by decide)).trans p7.1, o4, hd 109 0, (rgg (by decide) (by decide)).trans p8.1, _, ⟨p8.2.1, vI hb (by omega)⟩, hd 110 b, ?_, 60, ⟨(p8.2.2 b hb).2.1, hi_hd (by decide) (by decide), fun k hk => ?_, by omega, by omega⟩, hd 114 (D 1 0 0), ⟨?_, hi_hd (by decide) (by decide)⟩, 60, ⟨(if_pos rfl).trans (p8.2.2 b hb).2.1, hi_hd (by decide) (by decide)⟩, 60, ⟨?_, vI (by omega) (by decide), hi_hd (by decide) (by decide)⟩, 60, ⟨(if_pos rfl).trans (p8.2.2 b hb).2.1, hi_hd (by decide) (by decide)⟩, ?_, ?_⟩
      · rw [nI_clamp (show b < 2 ^ 31 by omega)]; exact (rgg (by decide) (Or.inl (by decide))).trans b28
      · rw [nI_clamp (show b < 2 ^ 31 by omega)]; exact (rgg (by decide) (Or.inl (by decide))).trans p9b
      · rw [nI_clamp (show b < 2 ^ 31 by omega)]; exact (rgg (by decide) (Or.inl (by decide))).trans b28
      · rw [nI_clamp (show D 1 0 0 < 2 ^ 31 by omega), nar1, c110 k hk]; exact fitsB _
      · exact (g4.S (by decide) (by omega)).trans ((g2.S (by decide) (by omega)).trans (R1.2.2.2.2.2.2.2.2.2.2.1 _ (Nat.le_refl _)).2)
      · exact (if_neg (hd_ne (by decide) (by decide) (by decide))).trans p7.2.1
      · exact (if_neg (hd_ne (by decide) (by decide) (by decide))).trans o4
      · rw [nI_clamp (show D 1 0 0 < 2 ^ 31 by omega), nar1]
        have o5 : mS (setR (clA (setI (setI (setR μ4 (hd 100 0) 6 (hd 119 (D 1 0 0 + 1))) (hd 110 b) (D 1 0 0) 1) (hd 111 b) (D 1 0 0) 1) (hd 110 b) (hd 114 (D 1 0 0))) (hd 109 4) (D 1 0 0) (hd 114 (D 1 0 0))) (hd 100 0) = (1, 11) := (if_neg (hd_ne (by decide) (by decide) (by decide))).trans o4
        refine ⟨fun e => ⟨⟨o5, hi0⟩, fun μ6 e6 => ?_⟩, fun e => ⟨⟨o5, hi0⟩, fun μ6 e6 => ?_⟩⟩
        · have e' : h = 2 := (nI_eq (by omega) (by omega)).mp e
          exact fin 1 (by rw [bN_t e']) μ6 e6
        · have e' : ¬ h = 2 := fun z => e (by rw [z]; rfl)
          exact fin 0 (by rw [bN_f e']) μ6 e6
    · have so : mS μ' (hd 100 0) = (1, 11) := (g2.S (by decide) (by omega)).trans R1.1.1
      have q9 : gR μ' (hd 100 0) 9 = some (hd 109 1) := (g2.gr (by decide) (by omega)).trans R1.2.2.2.2.1.1
      obtain ⟨k, hk, ek⟩ := hmem x hx
      have ev : gI μ' (hd 130 (c + 1)) x = nI k := by
        rw [g2.gi (by decide) (by omega), w1 x hx, ek]; rfl
      refine r_SI_make_23 (by omega) ⟨fun z => absurd ((nI_leI (by omega) (by omega)).mp z) (by omega), fun _ => ⟨_, ⟨(g2.S (by decide) (by omega)).trans s1, vI hx (by omega)⟩, so, _, q9, _, ⟨(g2.S (by decide) (by omega)).trans R1.2.2.2.2.1.2.1, vI hb (by omega)⟩, hd 111 b, ?_, 60, ⟨?_, ?_, hi_hd (by decide) (by decide)⟩, ?_⟩⟩
      · rw [nI_clamp (by omega), g2.gr (by decide) (by omega)]; exact (R1.2.2.2.2.1.2.2 b hb).1
      · exact z9
      · rw [nI_clamp (by omega), ev]; exact vI (by omega) (by decide)
      · rw [nI_clamp (show x < 2 ^ 31 by omega), ev, nI_clamp (by omega), nI_s, nar0]
        refine ih _ (g.sI (by decide) (Or.inr (Or.inl ⟨rfl, rfl⟩))) (g2.sI (by decide) ⟨rfl, rfl⟩) z9 (fun k' hk' => ?_)
        rw [gI_h (by decide) (by decide)]
        by_cases e : k' = k
        · rw [e, rd_eq, bI_f (fun z => z.2 ⟨x, by omega, ek⟩)]
        · rw [rd_k e, ← gI_h (by decide) (by decide), w k' hk']
          refine bI_congr (and_congr_right (fun _ => not_congr ⟨fun ⟨j, hj, z⟩ => ⟨j, by omega, z⟩, fun ⟨j, hj, z⟩ => ⟨j, ?_, z⟩⟩))
          rcases Nat.lt_or_ge j x with y | y
          · exact y
          · obtain rfl : j = x := by omega
            omega
  rw [I0]
  exact loop 0 (Nat.zero_le _) μ1 (g1.mono (fun κ i z => Or.inr (Or.inr (Or.inr (Or.inr (Or.inr (Or.inr z))))))) FrS.rf (R1.2.2.2.2.1.2.2 b hb).2.1 (fun k hk => by
    rw [(R1.2.2.2.2.1.2.2 b hb).2.2 k hk]
    exact bI_congr ⟨fun z => ⟨z, fun ⟨j, hj, _⟩ => absurd hj (Nat.not_lt_zero _)⟩, fun z => z.1⟩)
end SIM
