/-! worlds: what is asked -/
theorem c_Wd_isKnownAt {d rc rs w b s : Nat} {Q : Option Value → Mu → Prop} {μ : Mu} {T : PT} {D : DT} (hC : XC μ w T D) (hD : 2 ≤ d) (hS : St μ) (hb : b < T 0 0) (hs : s < D 1 0 0) (hQ : Q (some (.int (bI (kn D b s)))) μ) : Cal K_Wd_isKnownAt d rc rs [.ref (hd 29 w), .int (nI b), .int (nI s)] μ Q := by
  have hw := hC.w2; have hP := hC.P5; have h60 := hC.S60
  refine e_Wd_isKnownAt (g_Wd_isKnownAt_0 (by omega) hw hS ?_)
  obtain ⟨a1, a2, a3, a4, a5, a6, a7⟩ := hC.shB hs
  refine ⟨vp_in_nI (by omega) (by decide), vp_in_nI (by omega) (by decide), ?_⟩
  rw [nI_clamp (by omega), nI_clamp (by omega)]
  refine c_Bd_has (by omega) hS (by omega) (by omega) (hC.s1 hs) (by omega) (hC.stamp hs (by omega)) (hC.num hb (by omega)) (by have := a7 (D 4 s 0) (by omega); omega) (by have := (hC.bdB hb).1 (D 4 s 0) (by omega); omega) ?_
  exact ⟨_, rfl, bI_01, hS, hQ⟩
theorem c_Wd_knowers {d rc rs w s : Nat} {Q : Option Value → Mu → Prop} {μ : Mu} {T : PT} {D : DT} (hC : XC μ w T D) (hD : 3 ≤ d) (hS : St μ) (hs : s < D 1 0 0) (hQ : Q (some (.int (nI (knowersN T D s)))) μ) : Cal K_Wd_knowers d rc rs [.ref (hd 29 w), .int (nI s)] μ Q := by
  have hw := hC.w2; have hP := hC.P5
  refine e_Wd_knowers (g_Wd_knowers_0 (by omega) hw hS ?_)
  have key : ∀ k, k ≤ T 0 0 → Wx K_Wd_knowers d rc rs (fun r μ' => St μ' ∧ Q r μ') 4 [(0, .ref (hd 29 w)), (1, .int (nI s)), (2, .int (nI (sumN (fun b => bN (kn D b s)) k))), (3, .int (nI k))] [] μ := by
    refine up_loop _ ?_ (fun k hk ih => ?_)
    · refine g_Wd_knowers_4 (by omega) hw hS ⟨fun _ => ⟨hS, hQ⟩, fun h => absurd ?_ h⟩
      rw [hC.pP]; exact Int32.le_refl _
    · refine g_Wd_knowers_4 (by omega) hw hS ⟨fun h => absurd h ?_, fun _ => c_Wd_isKnownAt hC (by omega) hS hk hs ?_⟩
      · rw [hC.pP]; exact nI_ge hk (by omega)
      rw [sumN] at ih
      refine ⟨_, rfl, fun e => ?_, fun e => ?_⟩
      · rw [bI_z] at e
        rw [bN_f e] at ih
        rw [I0, nI_add, nI_1]; exact ih
      · rw [bI_z, Classical.not_not] at e
        rw [bN_t e] at ih
        rw [I1, nI_add, nI_add]; exact ih
  exact key 0 (Nat.zero_le _)
theorem c_Wd_knownOnBoards {d rc rs w : Nat} {Q : Option Value → Mu → Prop} {μ : Mu} {T : PT} {D : DT} (hC : XC μ w T D) (hD : 2 ≤ d) (hS : St μ) (hQ : Q (some (.int (nI (knownAll T D)))) μ) : Cal K_Wd_knownOnBoards d rc rs [.ref (hd 29 w)] μ Q := by
  have hw := hC.w2; have hP := hC.P5
  refine e_Wd_knownOnBoards (g_Wd_knownOnBoards_0 (by omega) hw hS ?_)
  have key : ∀ k, k ≤ T 0 0 → Wx K_Wd_knownOnBoards d rc rs (fun r μ' => St μ' ∧ Q r μ') 4 [(0, .ref (hd 29 w)), (1, .int (nI (sumN (fun b => knownB D b) k))), (2, .int (nI k))] [] μ := by
    refine up_loop _ ?_ (fun k hk ih => ?_)
    · refine g_Wd_knownOnBoards_4 (by omega) hw hS ⟨fun _ => ⟨hS, hQ⟩, fun h => absurd ?_ h⟩
      rw [hC.pP]; exact Int32.le_refl _
    · refine g_Wd_knownOnBoards_4 (by omega) hw hS ⟨fun h => absurd h ?_, fun _ => ⟨vp_in_nI (by omega) (by decide), ?_⟩⟩
      · rw [hC.pP]; exact nI_ge hk (by omega)
      rw [nI_clamp (by omega)]
      refine c_Bd_knownCount (f := fun p => D 6 k p) (by omega) hS (by omega) (fun p hp => hC.num hk hp) ?_
      refine ⟨_, rfl, ?_⟩
      rw [nI_add, nI_1]; exact ih
  exact key 0 (Nat.zero_le _)
theorem c_Wd_showers {d rc rs w s : Nat} {Q : Option Value → Mu → Prop} {μ : Mu} {T : PT} {D : DT} (hC : XC μ w T D) (hD : 2 ≤ d) (hS : St μ) (hs : s < D 1 0 0) (hQ : Q (some (.int (nI (showersN T D s)))) μ) : Cal K_Wd_showers d rc rs [.ref (hd 29 w), .int (nI s)] μ Q := by
  have hw := hC.w2; have hP := hC.P5; have h60 := hC.S60; have hN := hC.N6
  obtain ⟨a1, a2, a3, a4, a5, a6, a7⟩ := hC.shB hs
  refine e_Wd_showers (g_Wd_showers_0 (by omega) hw hS ⟨vp_in_nI (by omega) (by decide), ?_⟩)
  rw [nI_clamp (by omega)]
  have key : ∀ k, k ≤ T 0 0 → Wx K_Wd_showers d rc rs (fun r μ' => St μ' ∧ Q r μ') 12 [(0, .ref (hd 29 w)), (1, .int (nI s)), (2, .ref (hd 33 (60 * w + s))), (3, .int (nI (sumN (fun b => bN (D 7 b (5 * D 4 s 1 + D 4 s 0) = s + 1)) k))), (4, .int (nI k))] [] μ := by
    refine up_loop _ ?_ (fun k hk ih => ?_)
    · refine g_Wd_showers_12 (by omega) hw (by omega) hS ⟨fun _ => ⟨hS, hQ⟩, fun h => absurd ?_ h⟩
      rw [hC.pP]; exact Int32.le_refl _
    · refine g_Wd_showers_12 (by omega) hw (by omega) hS ⟨fun h => absurd h ?_, fun _ => ⟨vp_in_nI (by omega) (by decide), ?_⟩⟩
      · rw [hC.pP]; exact nI_ge hk (by omega)
      rw [nI_clamp (by omega), hC.s1 hs, hC.s2 hs]
      refine c_Bd_shownFrom (by omega) hS (by omega) (by omega) (by omega) ?_
      rw [hC.shw hk (by omega)]
      have hb := (hC.bdB hk).2.1 (5 * D 4 s 1 + D 4 s 0) (by omega)
      rw [sumN] at ih
      refine ⟨_, rfl, fun e => ?_, fun e => ?_⟩
      · rw [← oI_s, oI_inj (by omega) (by omega)] at e
        rw [bN_t e] at ih
        rw [I1, nI_add, nI_add]; exact ih
      · rw [← oI_s, oI_inj (by omega) (by omega)] at e
        rw [bN_f e] at ih
        rw [I0, nI_add, nI_1]; exact ih
  exact key 0 (Nat.zero_le _)
theorem c_Wd_roadsFrom {d rc rs w p : Nat} {Q : Option Value → Mu → Prop} {μ : Mu} {T : PT} {D : DT} (hC : XC μ w T D) (hD : 1 ≤ d) (hS : St μ) (hp : p < 2 ^ 31) (hQ : Q (some (.int (nI (roadsFromN T D p)))) μ) : Cal K_Wd_roadsFrom d rc rs [.ref (hd 29 w), .int (nI p)] μ Q := by
  have hw := hC.w2; have hP := hC.P5; have hR := hC.R8
  refine e_Wd_roadsFrom (g_Wd_roadsFrom_0 (by omega) hw hS ?_)
  have key : ∀ k, k ≤ T 2 0 → Wx K_Wd_roadsFrom d rc rs (fun r μ' => St μ' ∧ Q r μ') 4 [(0, .ref (hd 29 w)), (1, .int (nI p)), (2, .int (nI (sumN (fun r => bN (D 12 r 0 = p)) k))), (3, .int (nI k))] [] μ := by
    refine up_loop _ ?_ (fun k hk ih => ?_)
    · refine g_Wd_roadsFrom_4 (by omega) hw hS ⟨fun _ => ⟨hS, hQ⟩, fun h => absurd ?_ h⟩
      rw [hC.pR]; exact Int32.le_refl _
    · refine g_Wd_roadsFrom_4 (by omega) hw hS ⟨fun h => absurd h ?_, fun _ => ⟨vp_in_nI (by omega) (by decide), ?_⟩⟩
      · rw [hC.pR]; exact nI_ge hk (by omega)
      have hb := (hC.rdB hk).1
      rw [nI_clamp (by omega), hC.r1 hk, nI_eq (by omega) hp]
      rw [sumN] at ih
      refine ⟨fun e => ?_, fun e => ?_⟩
      · rw [bN_t e] at ih
        rw [I1, nI_add, nI_add]; exact ih
      · rw [bN_f e] at ih
        rw [I0, nI_add, nI_1]; exact ih
  exact key 0 (Nat.zero_le _)
theorem c_Wd_underWayOn {d rc rs w r : Nat} {Q : Option Value → Mu → Prop} {μ : Mu} {T : PT} {D : DT} (hC : XC μ w T D) (hD : 1 ≤ d) (hS : St μ) (hr : r < T 2 0) (hQ : Q (some (.int (nI (uwN D r)))) μ) : Cal K_Wd_underWayOn d rc rs [.ref (hd 29 w), .ref (hd 27 (8 * w + r))] μ Q := by
  have hw := hC.w2; have hP := hC.P5; have hR := hC.R8; have h60 := hC.S60
  refine e_Wd_underWayOn (g_Wd_underWayOn_0 (by omega) hw (by omega) hS ?_)
  have key : ∀ k, k ≤ D 1 0 0 → Wx K_Wd_underWayOn d rc rs (fun r μ' => St μ' ∧ Q r μ') 4 [(0, .ref (hd 29 w)), (1, .ref (hd 27 (8 * w + r))), (2, .int (nI (sumN (fun s => bN (D 0 0 0 < D 10 r s)) k))), (3, .int (nI k))] [] μ := by
    refine up_loop _ ?_ (fun k hk ih => ?_)
    · refine g_Wd_underWayOn_4 (by omega) hw (by omega) hS ⟨fun _ => ⟨hS, hQ⟩, fun h => absurd ?_ h⟩
      rw [hC.cnt]; exact Int32.le_refl _
    · refine g_Wd_underWayOn_4 (by omega) hw (by omega) hS ⟨fun h => absurd h ?_, fun _ => ⟨vp_in_nI (by omega) (by decide), ?_⟩⟩
      · rw [hC.cnt]; exact nI_ge hk (by omega)
      have hb := (hC.rdB hr).2.2.2.2 k (by omega)
      have hd := hC.dayB
      rw [nI_clamp (by omega), hC.com hr (by omega), hC.day, oI_lt (by omega) (by omega)]
      rw [sumN] at ih
      refine ⟨fun e => ?_, fun e => ?_⟩
      · rw [bN_f (by omega)] at ih
        rw [I0, nI_add, nI_1]; exact ih
      · rw [bN_t (by omega)] at ih
        rw [I1, nI_add, nI_add]; exact ih
  exact key 0 (Nat.zero_le _)
theorem c_Wd_underWayOnRoads {d rc rs w : Nat} {Q : Option Value → Mu → Prop} {μ : Mu} {T : PT} {D : DT} (hC : XC μ w T D) (hD : 2 ≤ d) (hS : St μ) (hQ : Q (some (.int (nI (uwAll T D)))) μ) : Cal K_Wd_underWayOnRoads d rc rs [.ref (hd 29 w)] μ Q := by
  have hw := hC.w2; have hP := hC.P5; have hR := hC.R8
  refine e_Wd_underWayOnRoads (g_Wd_underWayOnRoads_0 (by omega) hw hS ?_)
  have key : ∀ k, k ≤ T 2 0 → Wx K_Wd_underWayOnRoads d rc rs (fun r μ' => St μ' ∧ Q r μ') 4 [(0, .ref (hd 29 w)), (1, .int (nI (sumN (fun r => uwN D r) k))), (2, .int (nI k))] [] μ := by
    refine up_loop _ ?_ (fun k hk ih => ?_)
    · refine g_Wd_underWayOnRoads_4 (by omega) hw hS ⟨fun _ => ⟨hS, hQ⟩, fun h => absurd ?_ h⟩
      rw [hC.pR]; exact Int32.le_refl _
    · refine g_Wd_underWayOnRoads_4 (by omega) hw hS ⟨fun h => absurd h ?_, fun _ => ⟨vp_in_nI (by omega) (by decide), ?_⟩⟩
      · rw [hC.pR]; exact nI_ge hk (by omega)
      rw [nI_clamp (by omega)]
      refine c_Wd_underWayOn hC (by omega) hS hk ?_
      refine ⟨_, rfl, ?_⟩
      rw [nI_add, nI_1]; exact ih
  exact key 0 (Nat.zero_le _)
theorem c_Wd_waitingAtBoards {d rc rs w : Nat} {Q : Option Value → Mu → Prop} {μ : Mu} {T : PT} {D : DT} (hC : XC μ w T D) (hD : 1 ≤ d) (hS : St μ) (hQ : Q (some (.int (nI (waitAll T D)))) μ) : Cal K_Wd_waitingAtBoards d rc rs [.ref (hd 29 w)] μ Q := by
  have hw := hC.w2; have hP := hC.P5
  refine e_Wd_waitingAtBoards (g_Wd_waitingAtBoards_0 (by omega) hw hS ?_)
  have key : ∀ k, k ≤ T 0 0 → Wx K_Wd_waitingAtBoards d rc rs (fun r μ' => St μ' ∧ Q r μ') 4 [(0, .ref (hd 29 w)), (1, .int (nI (sumN (fun b => D 11 b 0) k))), (2, .int (nI k))] [] μ := by
    refine up_loop _ ?_ (fun k hk ih => ?_)
    · refine g_Wd_waitingAtBoards_4 (by omega) hw hS ⟨fun _ => ⟨hS, hQ⟩, fun h => absurd ?_ h⟩
      rw [hC.pP]; exact Int32.le_refl _
    · refine g_Wd_waitingAtBoards_4 (by omega) hw hS ⟨fun h => absurd h ?_, fun _ => ⟨vp_in_nI (by omega) (by decide), ?_⟩⟩
      · rw [hC.pP]; exact nI_ge hk (by omega)
      rw [nI_clamp (by omega), hC.wc hk, nI_add, nI_1]; exact ih
  exact key 0 (Nat.zero_le _)
theorem XC.shwF {μ : Mu} {w : Nat} {T : PT} {D : DT} (h : XC μ w T D) {b n p : Nat} (hb : b < T 0 0) (hn : n < 6) (hp : p < 5) : mI μ (hd 37 (5 * w + b)) (5 * n + p) = oI (D 7 b (5 * n + p)) ∧ D 7 b (5 * n + p) < 2 ^ 31 :=
  ⟨h.shw hb (by omega), by have := (h.bdB hb).2.1 (5 * n + p) (by omega); have := h.S60; omega⟩
theorem shL_len (D : DT) (b n : Nat) : (shL D b n).length ≤ 5 := sLk_len _ 5 0
theorem c_Wd_noticesWith {d rc rs w b l : Nat} {Q : Option Value → Mu → Prop} {μ : Mu} {T : PT} {D : DT} (hC : XC μ w T D) (hD : 3 ≤ d) (hS : St μ) (hb : b < T 0 0) (hl : l < 2 ^ 31) (hQ : Q (some (.int (nI (tornB D b l)))) μ) : Cal K_Bd_noticesWith d rc rs [.ref (hd 35 (5 * w + b)), .int (nI l)] μ Q := by
  have hw := hC.w2; have hP := hC.P5
  exact c_Bd_noticesWith (f := fun n p => D 7 b (5 * n + p)) hD hS (by omega) hl (fun n p hn hp => hC.shwF hb hn hp) (fun n => by have := sLk_len (fun p => D 7 b (5 * n + p)) 5 0; omega) hQ
theorem c_Wd_tornOnBoards {d rc rs w : Nat} {Q : Option Value → Mu → Prop} {μ : Mu} {T : PT} {D : DT} (hC : XC μ w T D) (hD : 4 ≤ d) (hS : St μ) (hQ : Q (some (.int (nI (tornAll T D)))) μ) : Cal K_Wd_tornOnBoards d rc rs [.ref (hd 29 w)] μ Q := by
  have hw := hC.w2; have hP := hC.P5
  refine e_Wd_tornOnBoards (g_Wd_tornOnBoards_0 (by omega) hw hS ?_)
  have key : ∀ k, k ≤ T 0 0 → Wx K_Wd_tornOnBoards d rc rs (fun r μ' => St μ' ∧ Q r μ') 4 [(0, .ref (hd 29 w)), (1, .int (nI (sumN (fun b => tornB D b 2) k))), (2, .int (nI k))] [] μ := by
    refine up_loop _ ?_ (fun k hk ih => ?_)
    · refine g_Wd_tornOnBoards_4 (by omega) hw hS ⟨fun _ => ⟨hS, hQ⟩, fun h => absurd ?_ h⟩
      rw [hC.pP]; exact Int32.le_refl _
    · refine g_Wd_tornOnBoards_4 (by omega) hw hS ⟨fun h => absurd h ?_, fun _ => ⟨vp_in_nI (by omega) (by decide), ?_⟩⟩
      · rw [hC.pP]; exact nI_ge hk (by omega)
      rw [nI_clamp (by omega)]
      refine c_Wd_noticesWith (l := 2) hC (by omega) hS hk (by decide) ?_
      refine ⟨_, rfl, ?_⟩
      rw [nI_add, nI_1]; exact ih
  exact key 0 (Nat.zero_le _)
theorem c_Wd_mergedSheets {d rc rs w : Nat} {Q : Option Value → Mu → Prop} {μ : Mu} {T : PT} {D : DT} (hC : XC μ w T D) (hD : 1 ≤ d) (hS : St μ) (hQ : Q (some (.int (nI (mergedN D)))) μ) : Cal K_Wd_mergedSheets d rc rs [.ref (hd 29 w)] μ Q := by
  have hw := hC.w2; have hP := hC.P5; have h60 := hC.S60
  refine e_Wd_mergedSheets (g_Wd_mergedSheets_0 (by omega) hw hS ?_)
  have key : ∀ k, k ≤ D 1 0 0 → Wx K_Wd_mergedSheets d rc rs (fun r μ' => St μ' ∧ Q r μ') 4 [(0, .ref (hd 29 w)), (1, .int (nI (sumN (fun s => bN (D 4 s 5 = 2)) k))), (2, .int (nI k))] [] μ := by
    refine up_loop _ ?_ (fun k hk ih => ?_)
    · refine g_Wd_mergedSheets_4 (by omega) hw hS ⟨fun _ => ⟨hS, hQ⟩, fun h => absurd ?_ h⟩
      rw [hC.cnt]; exact Int32.le_refl _
    · refine g_Wd_mergedSheets_4 (by omega) hw hS ⟨fun h => absurd h ?_, fun _ => ⟨vp_in_nI (by omega) (by decide), ?_⟩⟩
      · rw [hC.cnt]; exact nI_ge hk (by omega)
      have hb := (hC.shB hk).2.2.2.2.2.1
      rw [nI_clamp (by omega), hC.s6 hk, I2, nI_eq (by omega) (by omega)]
      rw [sumN] at ih
      refine ⟨fun e => ?_, fun e => ?_⟩
      · rw [bN_t e] at ih
        rw [I1, nI_add, nI_add]; exact ih
      · rw [bN_f e] at ih
        rw [I0, nI_add, nI_1]; exact ih
  exact key 0 (Nat.zero_le _)
theorem c_Wd_isFull {d rc rs w : Nat} {Q : Option Value → Mu → Prop} {μ : Mu} {T : PT} {D : DT} (hC : XC μ w T D) (hD : 1 ≤ d) (hS : St μ) (hQ : Q (some (.int (bI (D 1 0 0 = 60)))) μ) : Cal K_Wd_isFull d rc rs [.ref (hd 29 w)] μ Q := by
  have hw := hC.w2; have h60 := hC.S60
  refine e_Wd_isFull (g_Wd_isFull_0 hD hw hS ?_)
  rw [hC.cnt, I60, nI_ltI (by omega) (by omega)]
  refine ⟨fun e => ⟨hS, ?_⟩, fun e => ⟨hS, ?_⟩⟩
  · rw [bI_f (by omega)] at hQ; exact hQ
  · rw [bI_t (by omega)] at hQ; exact hQ
theorem c_Wd_shownCount {d rc rs w b n : Nat} {Q : Option Value → Mu → Prop} {μ : Mu} {T : PT} {D : DT} (hC : XC μ w T D) (hD : 2 ≤ d) (hS : St μ) (hb : b < T 0 0) (hn : n < 6) (hQ : Q (some (.int (nI (shL D b n).length))) μ) : Cal K_Bd_shownCount d rc rs [.ref (hd 35 (5 * w + b)), .int (nI n)] μ Q := by
  have hw := hC.w2; have hP := hC.P5
  exact c_Bd_shownCount (f := fun p => D 7 b (5 * n + p)) hD hS (by omega) hn (fun p hp => hC.shwF hb hn hp) hQ
theorem c_Wd_shownAt {d rc rs w b n l : Nat} {Q : Option Value → Mu → Prop} {μ : Mu} {T : PT} {D : DT} (hC : XC μ w T D) (hD : 2 ≤ d) (hS : St μ) (hb : b < T 0 0) (hn : n < 6) (hl : l < 2 ^ 31) (hQ : Q (some (.int (oI ((shL D b n).getD l 0)))) μ) : Cal K_Bd_shownAt d rc rs [.ref (hd 35 (5 * w + b)), .int (nI n), .int (nI l)] μ Q := by
  have hw := hC.w2; have hP := hC.P5
  exact c_Bd_shownAt (f := fun p => D 7 b (5 * n + p)) hD hS (by omega) hn hl (fun p hp => hC.shwF hb hn hp) hQ
theorem c_Wd_canNote {d rc rs w b n : Nat} {Q : Option Value → Mu → Prop} {μ : Mu} {T : PT} {D : DT} (hC : XC μ w T D) (hD : 3 ≤ d) (hS : St μ) (hb : b < T 0 0) (hn : n < 6) (hQ : Q (some (.int (bI ((shL D b n).length = 1)))) μ) : Cal K_Wd_canNote d rc rs [.ref (hd 29 w), .int (nI b), .int (nI n)] μ Q := by
  have hw := hC.w2; have hP := hC.P5; have hl := shL_len D b n
  refine e_Wd_canNote (g_Wd_canNote_0 (by omega) hw hS ⟨vp_in_nI (by omega) (by decide), ?_⟩)
  rw [nI_clamp (by omega)]
  refine c_Wd_shownCount hC (by omega) hS hb hn ⟨_, rfl, ?_⟩
  rw [I1, nI_eq (by omega) (by decide)]
  refine ⟨fun e => ⟨hS, ?_⟩, fun e => ⟨hS, ?_⟩⟩
  · rw [bI_t e] at hQ; exact hQ
  · rw [bI_f e] at hQ; exact hQ
theorem c_Wd_canMerge {d rc rs w b n : Nat} {Q : Option Value → Mu → Prop} {μ : Mu} {T : PT} {D : DT} (hC : XC μ w T D) (hD : 3 ≤ d) (hS : St μ) (hb : b < T 0 0) (hn : n < 6) (hQ : Q (some (.int (bI (2 ≤ (shL D b n).length)))) μ) : Cal K_Wd_canMerge d rc rs [.ref (hd 29 w), .int (nI b), .int (nI n)] μ Q := by
  have hw := hC.w2; have hP := hC.P5; have hl := shL_len D b n
  refine e_Wd_canMerge (g_Wd_canMerge_0 (by omega) hw hS ⟨vp_in_nI (by omega) (by decide), ?_⟩)
  rw [nI_clamp (by omega)]
  refine c_Wd_shownCount hC (by omega) hS hb hn ⟨_, rfl, ?_⟩
  rw [I2, nI_ltI (by omega) (by decide)]
  refine ⟨fun e => ⟨hS, ?_⟩, fun e => ⟨hS, ?_⟩⟩
  · rw [bI_f (by omega)] at hQ; exact hQ
  · rw [bI_t (by omega)] at hQ; exact hQ
