/-! boards, sheets, roads: contracts -/
/-- what is shown from the place k on, of j places -/
def sLk (f : Nat → Nat) : Nat → Nat → List Nat
  | _, 0 => []
  | k, j + 1 => if f k = 0 then sLk f (k + 1) j else f k :: sLk f (k + 1) j
theorem c_Bd_shownFrom {d rc rs b n p : Nat} {Q : Option Value → Mu → Prop} {μ : Mu} (hD : 1 ≤ d) (hS : St μ) (hb : b < 10) (hn : n < 6) (hp : p < 5) (hQ : Q (some (.int (mI μ (hd 37 b) (5 * n + p)))) μ) : Cal K_Bd_shownFrom d rc rs [.ref (hd 35 b), .int (nI n), .int (nI p)] μ Q := by
  refine e_Bd_shownFrom (g_Bd_shownFrom_0 hD hb hS ?_)
  rw [I5, nI_mul, nI_add, Nat.mul_comm, nI_clamp (by omega)]
  exact ⟨vp_in_nI (by omega) (by decide), hS, hQ⟩
theorem c_Bd_show {d rc rs b n p : Nat} {x : Int32} {Q : Option Value → Mu → Prop} {μ : Mu} (hD : 1 ≤ d) (hS : St μ) (hb : b < 10) (hn : n < 6) (hp : p < 5) (hQ : Q none (setI μ (hd 37 b) (5 * n + p) x)) : Cal K_Bd_show d rc rs [.ref (hd 35 b), .int (nI n), .int (nI p), .int x] μ Q := by
  refine e_Bd_show (g_Bd_show_0 hD hb hS ?_)
  rw [I5, nI_mul, nI_add, Nat.mul_comm, nI_clamp (by omega)]
  exact ⟨vp_in_nI (by omega) (by decide), hS, hQ⟩
theorem c_Bd_shownCount {d rc rs b n : Nat} {f : Nat → Nat} {Q : Option Value → Mu → Prop} {μ : Mu} (hD : 2 ≤ d) (hS : St μ) (hb : b < 10) (hn : n < 6) (hf : ∀ p, p < 5 → mI μ (hd 37 b) (5 * n + p) = oI (f p) ∧ f p < 2 ^ 31) (hQ : Q (some (.int (nI (sLk f 0 5).length))) μ) : Cal K_Bd_shownCount d rc rs [.ref (hd 35 b), .int (nI n)] μ Q := by
  refine e_Bd_shownCount (g_Bd_shownCount_0 (by omega) hb hS ?_)
  have key : ∀ k, k ≤ 5 → ∀ m, Q (some (.int (nI (m + (sLk f k (5 - k)).length)))) μ → Wx K_Bd_shownCount d rc rs (fun r μ' => St μ' ∧ Q r μ') 4 [(0, .ref (hd 35 b)), (1, .int (nI n)), (2, .int (nI m)), (3, .int (nI k))] [] μ := by
    refine up_loop 5 (fun m h => ?_) (fun k hk ih m h => ?_)
    · refine g_Bd_shownCount_4 (by omega) hb hS ⟨fun _ => ⟨hS, h⟩, fun h => absurd (by decide) h⟩
    · refine g_Bd_shownCount_4 (by omega) hb hS ⟨fun h => absurd h (nI_ge hk (by decide)), fun _ => c_Bd_shownFrom (by omega) hS hb hn hk ?_⟩
      obtain ⟨h1, h2⟩ := hf k hk
      rw [show 5 - k = (5 - (k + 1)) + 1 by omega, sLk] at h
      refine ⟨_, rfl, fun e => ?_, fun e => ?_⟩
      · rw [h1, oI_m1 h2] at e
        rw [if_pos e] at h
        rw [I0, nI_add, nI_1]
        exact ih (m + 0) h
      · rw [h1, oI_m1 h2] at e
        rw [if_neg e, List.length_cons] at h
        rw [I1, nI_add, nI_add]
        exact ih (m + 1) (by rw [show m + 1 + (sLk f (k + 1) (5 - (k + 1))).length = m + ((sLk f (k + 1) (5 - (k + 1))).length + 1) by omega]; exact h)
  exact key 0 (by decide) 0 (by simpa using hQ)
theorem c_Bd_shownAt {d rc rs b n l : Nat} {f : Nat → Nat} {Q : Option Value → Mu → Prop} {μ : Mu} (hD : 2 ≤ d) (hS : St μ) (hb : b < 10) (hn : n < 6) (hl : l < 2 ^ 31) (hf : ∀ p, p < 5 → mI μ (hd 37 b) (5 * n + p) = oI (f p) ∧ f p < 2 ^ 31) (hQ : Q (some (.int (oI ((sLk f 0 5).getD l 0)))) μ) : Cal K_Bd_shownAt d rc rs [.ref (hd 35 b), .int (nI n), .int (nI l)] μ Q := by
  refine e_Bd_shownAt (g_Bd_shownAt_0 (by omega) hb hS ?_)
  have key : ∀ k, k ≤ 5 → ∀ m, m < 2 ^ 31 → Q (some (.int (oI ((sLk f k (5 - k)).getD m 0)))) μ → Wx K_Bd_shownAt d rc rs (fun r μ' => St μ' ∧ Q r μ') 5 [(0, .ref (hd 35 b)), (1, .int (nI n)), (3, .int (nI m)), (4, .int (nI k))] [] μ := by
    refine up_loop 5 (fun m hm h => ?_) (fun k hk ih m hm h => ?_)
    · refine g_Bd_shownAt_5 (by omega) hb hS ⟨fun _ => ⟨hS, ?_⟩, fun h => absurd (by decide) h⟩
      rw [Nat.sub_self, sLk, List.getD_nil, oI_0] at h
      exact h
    · refine g_Bd_shownAt_5 (by omega) hb hS ⟨fun h => absurd h (nI_ge hk (by decide)), fun _ => ⟨fun h => absurd h (nI_pos hm), fun _ => c_Bd_shownFrom (by omega) hS hb hn hk ?_⟩⟩
      obtain ⟨h1, h2⟩ := hf k hk
      rw [show 5 - k = (5 - (k + 1)) + 1 by omega, sLk] at h
      refine ⟨_, rfl, fun e => ?_, fun e => ?_⟩
      · refine ⟨fun _ => ?_, fun z => absurd e z⟩
        rw [h1, oI_m1 h2] at e
        rw [if_pos e] at h
        rw [I0, nI_sub (Nat.zero_le _), nI_1]
        exact ih m hm h
      · have e' := e
        rw [h1, oI_m1 h2] at e'
        rw [if_neg e'] at h
        refine ⟨fun z => ?_, fun z => ⟨fun w => absurd w e, fun _ => ?_⟩⟩
        · rw [I0, nI_eq hm (by decide)] at z
          subst z
          rw [List.getD_cons_zero] at h
          rw [h1]
          exact ⟨hS, h⟩
        · rw [I0, nI_eq hm (by decide)] at z
          obtain ⟨j, rfl⟩ : ∃ j, m = j + 1 := ⟨m - 1, by omega⟩
          rw [List.getD_cons_succ] at h
          rw [I1, nI_sub (by omega), nI_add]
          exact ih j (by omega) h
  exact key 0 (by decide) l hl hQ
theorem c_Bd_shownAtN {d rc rs b : Nat} {x y : Int32} {Q : Option Value → Mu → Prop} {μ : Mu} (hD : 1 ≤ d) (hS : St μ) (hb : b < 10) (hx : x < 0) (hQ : Q (some (.int (-1))) μ) : Cal K_Bd_shownAt d rc rs [.ref (hd 35 b), .int y, .int x] μ Q := by
  refine e_Bd_shownAt (g_Bd_shownAt_0 (by omega) hb hS ?_)
  exact g_Bd_shownAt_5 (by omega) hb hS ⟨fun h => absurd h (by decide), fun _ => ⟨fun _ => ⟨hS, hQ⟩, fun h => absurd hx h⟩⟩
theorem c_Bd_noticesWith {d rc rs b l : Nat} {f : Nat → Nat → Nat} {Q : Option Value → Mu → Prop} {μ : Mu} (hD : 3 ≤ d) (hS : St μ) (hb : b < 10) (hl : l < 2 ^ 31) (hf : ∀ n p, n < 6 → p < 5 → mI μ (hd 37 b) (5 * n + p) = oI (f n p) ∧ f n p < 2 ^ 31) (hle : ∀ n, (sLk (f n) 0 5).length < 2 ^ 31) (hQ : Q (some (.int (nI (sumN (fun n => bN (l ≤ (sLk (f n) 0 5).length)) 6)))) μ) : Cal K_Bd_noticesWith d rc rs [.ref (hd 35 b), .int (nI l)] μ Q := by
  refine e_Bd_noticesWith (g_Bd_noticesWith_0 (by omega) hb hS ?_)
  have key : ∀ k, k ≤ 6 → Wx K_Bd_noticesWith d rc rs (fun r μ' => St μ' ∧ Q r μ') 4 [(0, .ref (hd 35 b)), (1, .int (nI l)), (2, .int (nI (sumN (fun n => bN (l ≤ (sLk (f n) 0 5).length)) k))), (3, .int (nI k))] [] μ := by
    refine up_loop 6 ?_ (fun k hk ih => ?_)
    · exact g_Bd_noticesWith_4 (by omega) hb hS ⟨fun _ => ⟨hS, hQ⟩, fun h => absurd (by decide) h⟩
    · refine g_Bd_noticesWith_4 (by omega) hb hS ⟨fun h => absurd h (nI_ge hk (by decide)), fun _ => c_Bd_shownCount (f := f k) (by omega) hS hb hk (fun p hp => hf k p hk hp) ?_⟩
      rw [sumN] at ih
      refine ⟨_, rfl, fun e => ?_, fun e => ?_⟩
      · rw [nI_ltI (hle k) hl] at e
        rw [bN_f (by omega)] at ih
        rw [I0, nI_add, nI_1]
        exact ih
      · rw [nI_ltI (hle k) hl] at e
        rw [bN_t (by omega)] at ih
        rw [I1, nI_add, nI_add]
        exact ih
  exact key 0 (by decide)
theorem c_Bd_knownCount {d rc rs b : Nat} {f : Nat → Nat} {Q : Option Value → Mu → Prop} {μ : Mu} (hD : 1 ≤ d) (hS : St μ) (hb : b < 10) (hf : ∀ p, p < 5 → mI μ (hd 36 b) p = nI (f p)) (hQ : Q (some (.int (nI (sumN f 5)))) μ) : Cal K_Bd_knownCount d rc rs [.ref (hd 35 b)] μ Q := by
  refine e_Bd_knownCount (g_Bd_knownCount_0 hD hb hS ?_)
  have key : ∀ k, k ≤ 5 → Wx K_Bd_knownCount d rc rs (fun r μ' => St μ' ∧ Q r μ') 13 [(1, .int (nI (sumN f k))), (2, .ref (hd 36 b)), (3, .int (nI 5)), (4, .int (nI k))] [] μ := by
    refine up_loop 5 ?_ (fun k hk ih => ?_)
    · exact g_Bd_knownCount_13 hD hb hS ⟨fun _ => ⟨hS, hQ⟩, fun h => absurd (by decide) h⟩
    · refine g_Bd_knownCount_13 hD hb hS ⟨fun h => absurd h (nI_ge hk (by decide)), fun _ => ⟨vp_in_nI hk (by decide), ?_⟩⟩
      rw [nI_clamp (by omega), hf k hk, nI_add, I1, nI_add]
      exact ih
  exact key 0 (by decide)
theorem c_Bd_has {d rc rs b s a x y : Nat} {Q : Option Value → Mu → Prop} {μ : Mu} (hD : 1 ≤ d) (hS : St μ) (hb : b < 10) (hs : s < 120) (ha : mI μ (hd 33 s) 1 = nI a) (ha5 : a < 5) (hx : mI μ (hd 34 s) a = nI x) (hy : mI μ (hd 36 b) a = nI y) (hx2 : x < 2 ^ 31) (hy2 : y < 2 ^ 31) (hQ : Q (some (.int (bI (x ≤ y)))) μ) : Cal K_Bd_has d rc rs [.ref (hd 35 b), .ref (hd 33 s)] μ Q := by
  refine e_Bd_has (g_Bd_has_0 hD hb hs hS ?_)
  rw [ha, nI_clamp (by omega), hx, hy, nI_ltI hy2 hx2]
  refine ⟨vp_in_nI ha5 (by decide), vp_in_nI ha5 (by decide), fun h => ⟨hS, ?_⟩, fun h => ⟨hS, ?_⟩⟩
  · rw [bI_f (by omega)] at hQ; exact hQ
  · rw [bI_t (by omega)] at hQ; exact hQ
theorem c_Sh_isAheadOf {d rc rs s t a x y : Nat} {Q : Option Value → Mu → Prop} {μ : Mu} (hD : 1 ≤ d) (hS : St μ) (hs : s < 120) (ht : t < 120) (ha : mI μ (hd 33 s) 1 = nI a) (ha5 : a < 5) (hx : mI μ (hd 34 s) a = nI x) (hy : mI μ (hd 34 t) a = nI y) (hx2 : x < 2 ^ 31) (hy2 : y < 2 ^ 31) (hQ : Q (some (.int (bI (x ≤ y)))) μ) : Cal K_Sh_isAheadOf d rc rs [.ref (hd 33 s), .ref (hd 33 t)] μ Q := by
  refine e_Sh_isAheadOf (g_Sh_isAheadOf_0 hD hs ht hS ?_)
  rw [ha, nI_clamp (by omega), hx, hy, nI_ltI hy2 hx2]
  refine ⟨vp_in_nI ha5 (by decide), vp_in_nI ha5 (by decide), fun h => ⟨hS, ?_⟩, fun h => ⟨hS, ?_⟩⟩
  · rw [bI_f (by omega)] at hQ; exact hQ
  · rw [bI_t (by omega)] at hQ; exact hQ
theorem c_Bd_canHang {d rc rs b s a : Nat} {f st : Nat → Nat} {Q : Option Value → Mu → Prop} {μ : Mu} (hD : 1 ≤ d) (hS : St μ) (hb : b < 10) (hs : s < 120) (ha : mI μ (hd 33 s) 1 = nI a) (ha5 : a < 5) (hst : ∀ p, p < 5 → mI μ (hd 34 s) p = nI (st p) ∧ st p < 2 ^ 30) (hf : ∀ p, p < 5 → mI μ (hd 36 b) p = nI (f p) ∧ f p < 2 ^ 30) (hQ : Q (some (.int (bI (∀ p, p < 5 → if p = a then st p = f p + 1 else st p ≤ f p)))) μ) : Cal K_Bd_canHang d rc rs [.ref (hd 35 b), .ref (hd 33 s)] μ Q := by
  refine e_Bd_canHang (g_Bd_canHang_0 hD hb hs hS ?_)
  have key : ∀ k, k ≤ 5 → (∀ p, p < k → if p = a then st p = f p + 1 else st p ≤ f p) → Wx K_Bd_canHang d rc rs (fun r μ' => St μ' ∧ Q r μ') 2 [(0, .ref (hd 35 b)), (1, .ref (hd 33 s)), (2, .int (nI k))] [] μ := by
    refine up_loop 5 (fun h => ?_) (fun k hk ih h => ?_)
    · refine g_Bd_canHang_2 hD hb hs hS ⟨fun _ => ⟨hS, ?_⟩, fun h => absurd (by decide) h⟩
      rw [bI_t h] at hQ; exact hQ
    · obtain ⟨s1, s2⟩ := hst k hk
      obtain ⟨f1, f2⟩ := hf k hk
      have hin : vp_in (nI k) 5 := vp_in_nI hk (by decide)
      have ih' : (if k = a then st k = f k + 1 else st k ≤ f k) → Wx K_Bd_canHang d rc rs (fun r μ' => St μ' ∧ Q r μ') 2 [(0, .ref (hd 35 b)), (1, .ref (hd 33 s)), (2, .int (nI k + 1))] [] μ := fun z => by
        rw [nI_1]
        refine ih (fun p hp => ?_)
        rcases Nat.lt_succ_iff_lt_or_eq.mp hp with w | rfl
        · exact h p w
        · exact z
      have no : ¬ (if k = a then st k = f k + 1 else st k ≤ f k) → St μ ∧ Q (some (.int 0)) μ := fun z => by
        rw [bI_f (fun w => z (w k hk))] at hQ
        exact ⟨hS, hQ⟩
      refine g_Bd_canHang_2 hD hb hs hS ⟨fun h => absurd h (nI_ge hk (by decide)), fun _ => ?_⟩
      rw [ha, nI_eq (by omega) (by omega), nI_clamp (by omega), s1, f1]
      by_cases hka : k = a
      · have e : nI (f k) = nI (st k) - (1 : Int32) ↔ st k = f k + 1 := by
          rw [show nI (st k) - (1 : Int32) = oI (st k) from rfl, ← oI_s, oI_inj (by omega) (by omega)]
          exact eq_comm
        rw [if_pos hka] at ih' no
        refine ⟨fun _ => ⟨hin, fun _ => ⟨hin, fun z => ih' (e.mp z), fun z => no (fun w => z (e.mpr w))⟩, fun z => absurd hka z⟩, fun z => absurd hka z⟩
      · rw [if_neg hka] at ih' no
        refine ⟨fun z => absurd z hka, fun _ => ⟨hin, fun z => absurd z hka, fun _ => ⟨hin, fun z => ?_, fun z => ?_⟩⟩⟩
        · exact ih' ((nI_leI (by omega) (by omega)).mp z)
        · exact no (fun w => z ((nI_leI (by omega) (by omega)).mpr w))
  exact key 0 (by decide) (fun p hp => by omega)
theorem c_Bd_keepWaiting {d rc rs b s : Nat} {Q : Option Value → Mu → Prop} {μ : Mu} (hD : 1 ≤ d) (hS : St μ) (hb : b < 10) (hs : s < 60) (h0 : mI μ (hd 38 b) s = 0 → Q none (setI (setI μ (hd 38 b) s (nI 1)) (hd 35 b) 3 (mI μ (hd 35 b) 3 + 1))) (h1 : ¬ mI μ (hd 38 b) s = 0 → Q none μ) : Cal K_Bd_keepWaiting d rc rs [.ref (hd 35 b), .int (nI s)] μ Q := by
  refine e_Bd_keepWaiting (g_Bd_keepWaiting_0 hD hb hS ?_)
  rw [nI_clamp (by omega)]
  refine ⟨vp_in_nI hs (by decide), fun e => ⟨vp_in_nI hs (by decide), hS, ?_⟩, fun e => ⟨hS, h1 e⟩⟩
  have hk := h0 e
  rw [mI_set, if_neg (fun z => hd_ne (by decide) (by decide) (by decide) z.1)]
  exact hk
theorem c_Bd_endWaiting {d rc rs b s : Nat} {Q : Option Value → Mu → Prop} {μ : Mu} (hD : 1 ≤ d) (hS : St μ) (hb : b < 10) (hs : s < 60) (h0 : ¬ mI μ (hd 38 b) s = 0 → Q none (setI (setI μ (hd 38 b) s (nI 0)) (hd 35 b) 3 (mI μ (hd 35 b) 3 - 1))) (h1 : mI μ (hd 38 b) s = 0 → Q none μ) : Cal K_Bd_endWaiting d rc rs [.ref (hd 35 b), .int (nI s)] μ Q := by
  refine e_Bd_endWaiting (g_Bd_endWaiting_0 hD hb hS ?_)
  rw [nI_clamp (by omega)]
  refine ⟨vp_in_nI hs (by decide), fun e => ⟨hS, h1 e⟩, fun e => ⟨vp_in_nI hs (by decide), hS, ?_⟩⟩
  have hk := h0 e
  rw [mI_set, if_neg (fun z => hd_ne (by decide) (by decide) (by decide) z.1)]
  exact hk
theorem c_Bd_showsAsMuchAs {d rc rs b c : Nat} {Q : Option Value → Mu → Prop} {μ : Mu} (hD : 1 ≤ d) (hS : St μ) (hb : b < 10) (hc : c < 10) (hQ : Q (some (.int (bI (∀ k, k < 30 → mI μ (hd 37 b) k = mI μ (hd 37 c) k)))) μ) : Cal K_Bd_showsAsMuchAs d rc rs [.ref (hd 35 b), .ref (hd 35 c)] μ Q := by
  refine e_Bd_showsAsMuchAs (g_Bd_showsAsMuchAs_0 hD hb hc hS ?_)
  have key : ∀ k, k ≤ 30 → (∀ j, j < k → mI μ (hd 37 b) j = mI μ (hd 37 c) j) → Wx K_Bd_showsAsMuchAs d rc rs (fun r μ' => St μ' ∧ Q r μ') 2 [(0, .ref (hd 35 b)), (1, .ref (hd 35 c)), (2, .int (nI k))] [] μ := by
    refine up_loop 30 (fun h => ?_) (fun k hk ih h => ?_)
    · refine g_Bd_showsAsMuchAs_2 hD hb hc hS ⟨fun _ => ⟨hS, ?_⟩, fun h => absurd (by decide) h⟩
      rw [bI_t h] at hQ; exact hQ
    · refine g_Bd_showsAsMuchAs_2 hD hb hc hS ⟨fun h => absurd h (nI_ge hk (by decide)), fun _ => ⟨vp_in_nI hk (by decide), vp_in_nI hk (by decide), ?_⟩⟩
      rw [nI_clamp (by omega), nI_1]
      refine ⟨fun e => ih (fun j hj => ?_), fun e => ⟨hS, ?_⟩⟩
      · rcases Nat.lt_succ_iff_lt_or_eq.mp hj with w | rfl
        · exact h j w
        · exact e
      · rw [bI_f (fun w => e (w k hk))] at hQ; exact hQ
  exact key 0 (by decide) (fun p hp => by omega)
