/-! the model's names: the error of a token -/
section MIC
variable {d rc rs : Nat} {Q : Option Value → Mu → Prop} {μ : Mu} {t : Nat → Nat} {L q x : Nat}
theorem c_MM_errorOf (hD : 6 ≤ d) (hS : St μ) (hN : MNS μ t L q x) (hLS : ∀ j, j < nT t L → LSj (tK t L) j) (hx : x < nT t L) (hok : ern t L x = 0 → ∀ μ', FrE q μ μ' → St μ' → MNS μ' t L q (x + 1) → Q (some (.int 0)) μ') (her : ern t L x ≠ 0 → ∀ μ', FrE q μ μ' → St μ' → Q (some (.int (nI (ern t L x)))) μ') : Cal K_MM_errorOf d rc rs [.ref (hd 40 0), .int (nI x)] μ Q := by
  have hn4 := nT_le (t := t) (L := L)
  have hl := rl_lt (K := tK t L) (j := x)
  have hel := ern_lt (t := t) (L := L) (j := x)
  have hq : px μ (hd 40 0) 12 = q := hN.2.1
  have hP : PlanOK μ q := by rw [← hq]; exact hS.reading.2
  obtain ⟨e0, e1, e2, e6⟩ := hN.2.2.2.1
  obtain ⟨d1, d2, d3, d4⟩ := hN.2.2.2.2.1
  have v4 : vp_in (nI x) 401 := vp_in_nI (by omega) (by decide)
  have hkd : mI μ (hd 42 0) x = nI (mk (tK t L x)) := (hN.1.2 x (by omega)).1
  -- the last road, the last order
  have rdx : arN (rl (tK t L) x) ≠ 0 → rl (tK t L) x ≤ 6 → 1 ≤ cn (tK t L) 3 x ∧ slN (tK t L) x = cn (tK t L) 3 x - 1 ∧ nI (cn (tK t L) 3 x) - 1 = nI (cn (tK t L) 3 x - 1) := by
    intro h h6
    have := (slot_ok hLS hx h).1 (by omega)
    rw [if_pos h6] at this
    refine ⟨this, ?_, ?_⟩
    · unfold slN; rw [if_neg (by omega), if_pos h6]
    · have h2 := nI_m (cn (tK t L) 3 x - 1)
      rw [show cn (tK t L) 3 x - 1 + 1 = cn (tK t L) 3 x by omega] at h2
      exact h2
  have odx : arN (rl (tK t L) x) ≠ 0 → 8 ≤ rl (tK t L) x → 1 ≤ cn (tK t L) 7 x ∧ slN (tK t L) x = cn (tK t L) 7 x - 1 ∧ nI (cn (tK t L) 7 x) - 1 = nI (cn (tK t L) 7 x - 1) := by
    intro h h6
    have := (slot_ok hLS hx h).1 (by omega)
    rw [if_neg (by omega)] at this
    refine ⟨this, ?_, ?_⟩
    · unfold slN; rw [if_neg (by omega), if_neg (by omega)]
    · have h2 := nI_m (cn (tK t L) 7 x - 1)
      rw [show cn (tK t L) 7 x - 1 + 1 = cn (tK t L) 7 x by omega] at h2
      exact h2
  refine e_MM_errorOf (g_MM_errorOf_0 (by omega) hS ⟨v4, ?_⟩)
  rw [nI_clamp (by omega), hN.2.2.1 x hx, hq, e2, e6]
  have cv' : ∀ k : Nat, k < 14 → ∀ z : nI (rl (tK t L) x) = nI k, rl (tK t L) x = k := fun k hk z => (nI_eq (by omega) (by omega)).mp z
  -- a new name
  have nw : ∀ r m c, (r = 1 ∨ r = 2 ∨ r = 3) → rl (tK t L) x = r → m = capN r → c = cn (tK t L) r x → ∀ (A : Int32 → Mu → Prop), (ern t L x = 0 → A 0 μ) → (ern t L x ≠ 0 → A (nI (ern t L x)) μ) → ∀ dd, 3 ≤ dd → Cal K_MM_isNew_ dd 0 0 [.ref (hd 40 0), .int (nI x), .int (nI c), .int (nI m)] μ (fun r μ2 => ∃ y3, r = some (.int y3) ∧ A y3 μ2) := by
    intro r m c hr hrl hm hc A a1 a2 dd hdd
    have he := ern_new (t := t) (L := L) hrl hr
    have hcap : capN r ≤ 8 := by rcases hr with h | h | h <;> rw [h] <;> decide
    have hcr : cn (tK t L) r x ≤ 8 := by rcases hr with h | h | h <;> rw [h] <;> omega
    refine c_MM_isNew_ hdd hS hN.1 hN.2.2.1 hx hrl (by omega) (by omega) ⟨_, rfl, ?_⟩
    rw [i24, hc, hm, ← he]
    by_cases z : ern t L x = 0
    · rw [z]; exact a1 z
    · exact a2 z
  have add1 : ∀ a : Nat, nI a + 1 = nI (a + 1) := nI_1
  refine ⟨fun z => ?_, fun z => ?_, fun z => ?_, fun z => ?_, fun z => ?_, fun z => ?_, fun z => ?_, fun z => ?_, fun z => ?_, fun z => ?_, fun z => ?_, fun z => ?_, fun z => ?_, fun z => ?_⟩
  · have z := cv' 1 (by decide) z
    refine e_MM_newParish (g_MM_newParish_0 (by omega) hS ?_)
    rw [hq, e0]
    refine nw 1 5 _ (Or.inl rfl) z rfl rfl _ (fun h => ⟨fun _ => ?_, fun y => absurd rfl y⟩) (fun h => ⟨fun y => absurd ((nI_eq (by omega) (by decide)).mp y) h, fun _ => ?_⟩) _ (by omega)
    · have hS1 : St (setI μ (hd 50 (px μ (hd 40 0) 12)) 0 (mI μ (hd 50 (px μ (hd 40 0) 12)) 0 + 1)) := hS
      refine ⟨hS1, _, rfl, hS1, ?_⟩
      rw [hq, e0]
      exact hok h _ (FrE.rf.s50 (by omega)) hS (hN.newN hLS hx z (by omega) h (nI_1 _))
    · have hS1 : St (setI μ (hd 50 (px μ (hd 40 0) 12)) 0 (mI μ (hd 50 (px μ (hd 40 0) 12)) 0 + 0)) := hS
      refine ⟨hS1, _, rfl, hS1, ?_⟩
      rw [hq]
      exact her h _ (FrE.rf.s50 (by omega)) hS
  · have z := cv' 2 (by decide) z
    refine e_MM_newNotice (g_MM_newNotice_0 (by omega) hS ?_)
    rw [hq, e1]
    refine nw 2 6 _ (Or.inr (Or.inl rfl)) z rfl rfl _ (fun h => ⟨fun _ => ?_, fun y => absurd rfl y⟩) (fun h => ⟨fun y => absurd ((nI_eq (by omega) (by decide)).mp y) h, fun _ => ?_⟩) _ (by omega)
    · have hS1 : St (setI μ (hd 50 (px μ (hd 40 0) 12)) 1 (mI μ (hd 50 (px μ (hd 40 0) 12)) 1 + 1)) := hS
      refine ⟨hS1, _, rfl, hS1, ?_⟩
      rw [hq, e1]
      exact hok h _ (FrE.rf.s50 (by omega)) hS (hN.newN hLS hx z (by omega) h (nI_1 _))
    · have hS1 : St (setI μ (hd 50 (px μ (hd 40 0) 12)) 1 (mI μ (hd 50 (px μ (hd 40 0) 12)) 1 + 0)) := hS
      refine ⟨hS1, _, rfl, hS1, ?_⟩
      rw [hq]
      exact her h _ (FrE.rf.s50 (by omega)) hS
  · have z := cv' 3 (by decide) z
    refine e_MM_newRoad (g_MM_newRoad_0 (by omega) hS ?_)
    rw [hq, e2]
    refine nw 3 8 _ (Or.inr (Or.inr rfl)) z rfl rfl _ (fun h => ⟨fun _ => ?_, fun y => absurd rfl y⟩) (fun h => ⟨fun y => absurd ((nI_eq (by omega) (by decide)).mp y) h, fun _ => ?_⟩) _ (by omega)
    · have hS1 : St (setI μ (hd 50 (px μ (hd 40 0) 12)) 2 (mI μ (hd 50 (px μ (hd 40 0) 12)) 2 + 1)) := hS
      refine ⟨hS1, _, rfl, hS1, ?_⟩
      rw [hq, e2]
      exact hok h _ (FrE.rf.s50 (by omega)) hS (hN.newN hLS hx z (by omega) h (nI_1 _))
    · have hS1 : St (setI μ (hd 50 (px μ (hd 40 0) 12)) 2 (mI μ (hd 50 (px μ (hd 40 0) 12)) 2 + 0)) := hS
      refine ⟨hS1, _, rfl, hS1, ?_⟩
      rw [hq]
      exact her h _ (FrE.rf.s50 (by omega)) hS
  · have z := cv' 4 (by decide) z
    obtain ⟨c1, c2, c3⟩ := rdx (by rw [z]; decide) (by omega)
    exact c_rowX (r := 1) (by omega) hS hN hLS hx (by rw [z]; rfl) (by decide) (by omega) (s_51 hP) (by rw [z]; rfl) c2 (by decide) (by omega) (by decide) c3 rfl hok her
  · -- whither
    have z := cv' 5 (by decide) z
    obtain ⟨c1, c2, c3⟩ := rdx (by rw [z]; decide) (by omega)
    have he := ern_5 (t := t) (L := L) z
    obtain ⟨k44, -, kp, -⟩ := rl_prev z (Or.inr (Or.inl rfl))
    have kp := kp rfl
    have hx1 : 1 ≤ x := ((hLS x hx).2.2.2.2.2.2.2.1 k44).1
    obtain ⟨b1, b2⟩ := (hLS (x - 1) (by omega)).2.2.2.1 kp
    obtain ⟨-, -, w3, w4, -⟩ := road_rl hLS (show x - 1 - 4 < nT t L by omega) b2
    rw [show x - 1 - 4 + 3 = x - 2 by omega] at w3
    rw [show x - 1 - 4 + 4 = x - 1 by omega] at w4
    have hew := hN.2.2.2.2.2.2.2.2 (x - 2) (by omega)
    rw [ern_p w3 (Or.inl rfl)] at hew
    have hpw : plc t L 1 (x - 2) (x - 2) ≠ 0 := fun y => by rw [if_pos y] at hew; cases hew
    have hcn : cn (tK t L) 3 x = cn (tK t L) 3 (x - 2) := by
      have a1 := cn_no (K := tK t L) (r := 3) (j := x - 2) (by omega)
      have a2 := cn_no (K := tK t L) (r := 3) (j := x - 1) (by omega)
      rw [show x - 1 + 1 = x by omega] at a2
      rw [show x - 2 + 1 = x - 1 by omega] at a1
      omega
    have h51 : mI μ (hd 51 q) (cn (tK t L) 3 x - 1) = nI (plc t L 1 (x - 2) (x - 2) - 1) := by
      have := hN.2.2.2.2.2.2.1 (x - 2) (by omega) (by rw [w3]; decide)
      unfold slN vlN at this
      rw [w3, if_neg (by decide), if_pos (by decide), if_neg (by decide), if_neg (by decide), if_neg (by decide)] at this
      rw [hcn]; exact this
    have p1 := plc_400 (t := t) (L := L) (r := 1) (y := x) (i := x) (by omega)
    have p2 := plc_400 (t := t) (L := L) (r := 1) (y := x - 2) (i := x - 2) (by omega)
    refine e_MM_whither (g_MM_whither_0 (by omega) hS ?_)
    rw [hq, e2, c3]
    refine c_MM_named (n := 8) (by omega) hS hN hx (by decide) (s_52 hP) (by decide) (by omega) (by decide) (fun μ' e hs' => ⟨_, rfl, fun y => ?_, fun y => ?_⟩)
    · have hne : plc t L 1 x x ≠ 0 := fun w => by rw [if_pos w] at y; exact absurd y (by decide)
      rw [if_neg hne] at he
      have f : FrE q μ μ' := by rw [e]; exact (FrE.rf.s46).s5 (by decide)
      have hq' : px μ' (hd 40 0) 12 = q := by unfold px; rw [f.2.1]; exact hq
      have g52 : mI μ' (hd 52 q) (cn (tK t L) 3 x - 1) = nI (plc t L 1 x x - 1) := by rw [e, rd_eq, plc_oI hne]
      have g51 : mI μ' (hd 51 q) (cn (tK t L) 3 x - 1) = nI (plc t L 1 (x - 2) (x - 2) - 1) := by rw [e, rd_ne (by decide) (by decide) (by decide), rd_ne (by decide) (by decide) (by decide)]; exact h51
      have v8 : vp_in (nI (cn (tK t L) 3 x - 1)) 8 := vp_in_nI (by omega) (by decide)
      rw [hq', nI_clamp (by omega), g52, g51, nI_eq (by omega) (by omega)]
      refine ⟨v8, v8, fun w => ⟨hs', _, rfl, hs', ?_⟩, fun w => ⟨hs', _, rfl, hs', ?_⟩⟩
      · rw [if_pos (by omega)] at he
        have := her (by omega) μ' f hs'
        rw [he] at this; exact this
      · rw [if_neg (by omega)] at he
        rw [if_neg hne]
        exact hok he μ' f hs' (by rw [e]; exact hN.row hLS hx he hne (by rw [z]; rfl) (by decide) (by rw [z]; rfl) c2 (by decide))
    · have hne : plc t L 1 x x = 0 := by
        by_cases w : plc t L 1 x x = 0
        · exact w
        · rw [if_neg w] at y; exact absurd rfl y
      rw [if_pos hne] at he ⊢
      refine ⟨hs', _, rfl, hs', ?_⟩
      have := her (by omega) μ' (by rw [e]; exact (FrE.rf.s46).s5 (by decide)) hs'
      rw [he] at this; exact this
  · -- days
    have z := cv' 6 (by decide) z
    obtain ⟨c1, c2, c3⟩ := rdx (by rw [z]; decide) (by omega)
    have he := ern_6 (t := t) (L := L) z
    have k45 := (rl_6 z).1
    obtain ⟨g1, g2, g3⟩ := dig hx k45
    have hlt := nv_lt (p := tS t L x) (lnT t L x) g3
    have hp6 : 10 ^ lnT t L x ≤ 10 ^ 6 := Nat.pow_le_pow_right (by decide) g1
    have hnv : nvT t L x < 2 ^ 31 := by unfold nvT; have : (10 : Nat) ^ 6 = 1000000 := by decide
                                        omega
    refine e_MM_daysOf (g_MM_daysOf_0 (by omega) hS (c_MM_numberAt (by omega) hS hN.1 hx k45 ⟨_, rfl, by rw [hq]; exact hP, ?_⟩))
    rw [hq, e2, c3, nI_clamp (by omega)]
    have hS1 : St (setI μ (hd 53 q) (cn (tK t L) 3 x - 1) (nI (nvT t L x))) := hS
    have f : FrE q μ (setI μ (hd 53 q) (cn (tK t L) 3 x - 1) (nI (nvT t L x))) := FrE.rf.s5 (by decide)
    refine ⟨vp_in_nI (by omega) (by decide), e_MM_inRange (g_MM_inRange_0 (by omega) hS1 (c_MM_numberAt (by omega) hS1 (hN.1.frE f) hx k45 ⟨_, rfl, c_MM_isInN (a := 1) (b := 9) (by omega) hS1 hnv (by decide) (by decide) ⟨_, rfl, fun y => ?_, fun y => ?_⟩⟩))⟩
    · rw [bI_z] at y
      rw [if_neg y] at he
      have := her (by omega) _ f hS1
      rw [he] at this
      exact ⟨hS1, _, rfl, hS1, _, rfl, hS1, this⟩
    · rw [bI_z, Classical.not_not] at y
      rw [if_pos y] at he
      obtain ⟨m1, m2⟩ := hN.cnts (by omega) (by omega) (by omega) (by omega)
      refine ⟨hS1, _, rfl, hS1, _, rfl, hS1, hok he _ f hS1 (hN.next hLS hx he f ?_ m2 (fun i _ => rd_ne (by decide) (by decide) (by decide)) (fun w => absurd (by rw [z]; rfl) w) (fun κ k h1 h2 h3 => ?_) (fun _ => ?_))⟩
      · have ne : ∀ j, mI (setI μ (hd 53 q) (cn (tK t L) 3 x - 1) (nI (nvT t L x))) (hd 50 q) j = mI μ (hd 50 q) j := fun j => rd_ne (by decide) (by decide) (by decide)
        rw [ne, ne, ne, ne]; exact m1
      · by_cases w : κ = 53
        · rw [w]; exact rd_k (fun v => h3 ⟨by rw [z, w]; rfl, by omega⟩)
        · exact rd_ne (by decide) (by omega) w
      · rw [c2, z]
        show mI (setI μ (hd 53 q) (cn (tK t L) 3 x - 1) (nI (nvT t L x))) (hd 53 q) (cn (tK t L) 3 x - 1) = _
        rw [rd_eq]; unfold vlN; rw [if_pos z]
  · -- an order
    have z := cv' 7 (by decide) z
    have he := ern_7 (t := t) (L := L) z
    have k7 := rl_7.mp z
    have hmk : mk (tK t L x) = tK t L x := by unfold mk; rw [if_pos (by omega)]
    refine e_MM_order (g_MM_order_0 (by omega) hS ?_)
    rw [hq, e6, nI_clamp (by omega), nI_clamp (by omega), hkd, hmk, rd_ne (by decide) (by decide) (by decide), e6, nI_1, show (20 : Int32) = nI 20 from rfl, nI_eq (by omega) (by decide)]
    refine ⟨fun y => ?_, fun y => ⟨v4, vp_in_nI (by omega) (by decide), fun μ7 e7 => ?_⟩⟩
    · rw [if_pos y] at he
      have := her (by omega) μ FrE.rf hS
      rw [he] at this
      exact ⟨hS, _, rfl, hS, this⟩
    · rw [if_neg y] at he
      have hS1 : St μ7 := by rw [e7]; exact hS
      have f : FrE q μ μ7 := by rw [e7]; exact (FrE.rf.s5 (by decide)).s50 (by omega)
      have hsl : slN (tK t L) x = cn (tK t L) 7 x := by unfold slN; rw [if_pos z]
      refine ⟨hS1, _, rfl, hS1, hok he μ7 f hS1 (hN.next hLS hx he f ?_ ?_ (fun i _ => ?_) (fun w => absurd (by rw [z]; rfl) w) (fun κ k h1 h2 h3 => ?_) (fun _ => ?_))⟩
      · rw [e7, cn_no (by omega), cn_no (by omega), cn_no (by omega), cn_yes z, rd_eq, rd_k (by decide), rd_k (by decide), rd_k (by decide), rd_ne (by decide) (by decide) (by decide), rd_ne (by decide) (by decide) (by decide), rd_ne (by decide) (by decide) (by decide)]
        exact ⟨e0, e1, e2, rfl⟩
      · rw [cn_no (by omega), cn_no (by omega), cn_no (by omega), cn_yes z]; omega
      · rw [e7, rd_ne (by decide) (by decide) (by decide), rd_ne (by decide) (by decide) (by decide)]
      · rw [e7, rd_ne (by decide) (by omega) (by omega)]
        by_cases w : κ = 54
        · rw [w]; exact rd_k (fun v => h3 ⟨by rw [z, w]; rfl, by omega⟩)
        · exact rd_ne (by decide) (by omega) w
      · rw [hsl, z]
        show mI μ7 (hd 54 q) (cn (tK t L) 7 x) = _
        rw [e7, rd_ne (by decide) (by decide) (by decide), rd_eq]; unfold vlN; rw [if_neg (by omega), if_pos z]
  · have z := cv' 8 (by decide) z
    obtain ⟨c1, c2, c3⟩ := odx (by rw [z]; decide) (by omega)
    exact c_rowX (r := 1) (by omega) hS hN hLS hx (by rw [z]; rfl) (by decide) (by omega) (s_55 hP) (by rw [z]; rfl) c2 (by decide) (by omega) (by decide) c3 rfl hok her
  · have z := cv' 9 (by decide) z
    obtain ⟨c1, c2, c3⟩ := odx (by rw [z]; decide) (by omega)
    exact c_rowX (r := 2) (by omega) hS hN hLS hx (by rw [z]; rfl) (by decide) (by omega) (s_56 hP) (by rw [z]; rfl) c2 (by decide) (by omega) (by decide) c3 rfl hok her
  · have z := cv' 10 (by decide) z
    obtain ⟨c1, c2, c3⟩ := odx (by rw [z]; decide) (by omega)
    exact c_rowX (r := 3) (by omega) hS hN hLS hx (by rw [z]; rfl) (by decide) (by omega) (s_55 hP) (by rw [z]; rfl) c2 (by decide) (by omega) (by decide) c3 rfl hok her
  · -- a way
    have z := cv' 11 (by decide) z
    obtain ⟨c1, c2, c3⟩ := odx (by rw [z]; decide) (by omega)
    obtain ⟨k1, k2⟩ := rl_11 z
    have hmk : mk (tK t L x) = tK t L x := by unfold mk; rw [if_pos (by omega)]
    have he : ern t L x = 0 := by unfold ern; dsimp only; rw [z]; rfl
    rw [c3, nI_clamp (by omega), hkd, hmk, show (13 : Int32) = nI 13 from rfl, nI_sub k1]
    have hS1 : St (setI μ (hd 57 q) (cn (tK t L) 7 x - 1) (nI (tK t L x - 13))) := hS
    have f : FrE q μ (setI μ (hd 57 q) (cn (tK t L) 7 x - 1) (nI (tK t L x - 13))) := FrE.rf.s5 (by decide)
    obtain ⟨m1, m2⟩ := hN.cnts (by omega) (by omega) (by omega) (by omega)
    refine ⟨v4, vp_in_nI (by omega) (by decide), hS1, hok he _ f hS1 (hN.next hLS hx he f ?_ m2 (fun i _ => rd_ne (by decide) (by decide) (by decide)) (fun w => absurd (by rw [z]; rfl) w) (fun κ k h1 h2 h3 => ?_) (fun _ => ?_))⟩
    · have ne : ∀ j, mI (setI μ (hd 57 q) (cn (tK t L) 7 x - 1) (nI (tK t L x - 13))) (hd 50 q) j = mI μ (hd 50 q) j := fun j => rd_ne (by decide) (by decide) (by decide)
      rw [ne, ne, ne, ne]; exact m1
    · by_cases w : κ = 57
      · rw [w]; exact rd_k (fun v => h3 ⟨by rw [z, w]; rfl, by omega⟩)
      · exact rd_ne (by decide) (by omega) w
    · rw [c2, z]
      show mI (setI μ (hd 57 q) (cn (tK t L) 7 x - 1) (nI (tK t L x - 13))) (hd 57 q) (cn (tK t L) 7 x - 1) = _
      rw [rd_eq]; unfold vlN; rw [if_neg (by omega), if_neg (by omega), if_pos z]
  · exact c_lookX (r := 1) (by omega) hS hN hLS hx (Or.inl ⟨cv' 12 (by decide) z, rfl⟩) rfl hok her
  · exact c_lookX (r := 2) (by omega) hS hN hLS hx (Or.inr ⟨cv' 13 (by decide) z, rfl⟩) rfl hok her
  · have hr0 : rl (tK t L) x = 0 := by
      rw [nI_toInt (by omega)] at z
      have : ((13 : Int32)).toInt = 13 := by decide
      rcases z with z | z <;> omega
    have he : ern t L x = 0 := by unfold ern; dsimp only; rw [hr0]; rfl
    obtain ⟨m1, m2⟩ := hN.cnts (by omega) (by omega) (by omega) (by omega)
    exact ⟨hS, hok he μ FrE.rf hS (hN.next hLS hx he FrE.rf m1 m2 (fun _ _ => rfl) (fun w => absurd (by rw [hr0]; rfl) w) (fun _ _ _ _ _ => rfl) (fun w => absurd (by rw [hr0]; rfl) w))⟩
end MIC
