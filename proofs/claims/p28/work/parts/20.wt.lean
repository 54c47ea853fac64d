/-! worlds: what is told of them -/
def bcE (x0 : Int32) : Int32 := ((((((((x0 - (((x0.toUInt32 >>> ((1 : Int32).toUInt32 &&& Int32.toUInt32 31)).toInt32) &&& (1431655765 : Int32))) &&& (858993459 : Int32)) + ((((x0 - (((x0.toUInt32 >>> ((1 : Int32).toUInt32 &&& Int32.toUInt32 31)).toInt32) &&& (1431655765 : Int32))).toUInt32 >>> ((2 : Int32).toUInt32 &&& Int32.toUInt32 31)).toInt32) &&& (858993459 : Int32))) + (((((x0 - (((x0.toUInt32 >>> ((1 : Int32).toUInt32 &&& Int32.toUInt32 31)).toInt32) &&& (1431655765 : Int32))) &&& (858993459 : Int32)) + ((((x0 - (((x0.toUInt32 >>> ((1 : Int32).toUInt32 &&& Int32.toUInt32 31)).toInt32) &&& (1431655765 : Int32))).toUInt32 >>> ((2 : Int32).toUInt32 &&& Int32.toUInt32 31)).toInt32) &&& (858993459 : Int32))).toUInt32 >>> ((4 : Int32).toUInt32 &&& Int32.toUInt32 31)).toInt32)) &&& (252645135 : Int32)) + (((((((x0 - (((x0.toUInt32 >>> ((1 : Int32).toUInt32 &&& Int32.toUInt32 31)).toInt32) &&& (1431655765 : Int32))) &&& (858993459 : Int32)) + ((((x0 - (((x0.toUInt32 >>> ((1 : Int32).toUInt32 &&& Int32.toUInt32 31)).toInt32) &&& (1431655765 : Int32))).toUInt32 >>> ((2 : Int32).toUInt32 &&& Int32.toUInt32 31)).toInt32) &&& (858993459 : Int32))) + (((((x0 - (((x0.toUInt32 >>> ((1 : Int32).toUInt32 &&& Int32.toUInt32 31)).toInt32) &&& (1431655765 : Int32))) &&& (858993459 : Int32)) + ((((x0 - (((x0.toUInt32 >>> ((1 : Int32).toUInt32 &&& Int32.toUInt32 31)).toInt32) &&& (1431655765 : Int32))).toUInt32 >>> ((2 : Int32).toUInt32 &&& Int32.toUInt32 31)).toInt32) &&& (858993459 : Int32))).toUInt32 >>> ((4 : Int32).toUInt32 &&& Int32.toUInt32 31)).toInt32)) &&& (252645135 : Int32)).toUInt32 >>> ((8 : Int32).toUInt32 &&& Int32.toUInt32 31)).toInt32)) + ((((((((x0 - (((x0.toUInt32 >>> ((1 : Int32).toUInt32 &&& Int32.toUInt32 31)).toInt32) &&& (1431655765 : Int32))) &&& (858993459 : Int32)) + ((((x0 - (((x0.toUInt32 >>> ((1 : Int32).toUInt32 &&& Int32.toUInt32 31)).toInt32) &&& (1431655765 : Int32))).toUInt32 >>> ((2 : Int32).toUInt32 &&& Int32.toUInt32 31)).toInt32) &&& (858993459 : Int32))) + (((((x0 - (((x0.toUInt32 >>> ((1 : Int32).toUInt32 &&& Int32.toUInt32 31)).toInt32) &&& (1431655765 : Int32))) &&& (858993459 : Int32)) + ((((x0 - (((x0.toUInt32 >>> ((1 : Int32).toUInt32 &&& Int32.toUInt32 31)).toInt32) &&& (1431655765 : Int32))).toUInt32 >>> ((2 : Int32).toUInt32 &&& Int32.toUInt32 31)).toInt32) &&& (858993459 : Int32))).toUInt32 >>> ((4 : Int32).toUInt32 &&& Int32.toUInt32 31)).toInt32)) &&& (252645135 : Int32)) + (((((((x0 - (((x0.toUInt32 >>> ((1 : Int32).toUInt32 &&& Int32.toUInt32 31)).toInt32) &&& (1431655765 : Int32))) &&& (858993459 : Int32)) + ((((x0 - (((x0.toUInt32 >>> ((1 : Int32).toUInt32 &&& Int32.toUInt32 31)).toInt32) &&& (1431655765 : Int32))).toUInt32 >>> ((2 : Int32).toUInt32 &&& Int32.toUInt32 31)).toInt32) &&& (858993459 : Int32))) + (((((x0 - (((x0.toUInt32 >>> ((1 : Int32).toUInt32 &&& Int32.toUInt32 31)).toInt32) &&& (1431655765 : Int32))) &&& (858993459 : Int32)) + ((((x0 - (((x0.toUInt32 >>> ((1 : Int32).toUInt32 &&& Int32.toUInt32 31)).toInt32) &&& (1431655765 : Int32))).toUInt32 >>> ((2 : Int32).toUInt32 &&& Int32.toUInt32 31)).toInt32) &&& (858993459 : Int32))).toUInt32 >>> ((4 : Int32).toUInt32 &&& Int32.toUInt32 31)).toInt32)) &&& (252645135 : Int32)).toUInt32 >>> ((8 : Int32).toUInt32 &&& Int32.toUInt32 31)).toInt32)).toUInt32 >>> ((16 : Int32).toUInt32 &&& Int32.toUInt32 31)).toInt32)) &&& (63 : Int32))
theorem c_bitCount {d rc rs : Nat} {x : Int32} {Q : Option Value → Mu → Prop} {μ : Mu} (hD : 1 ≤ d) (hS : St μ) (hQ : Q (some (.int (bcE x))) μ) : Cal K_JI_bitCount_0f7a4 d rc rs [.int x] μ Q := e_JI_bitCount_0f7a4 (g_JI_bitCount_0f7a4_0 hD hS ⟨hS, hQ⟩)
theorem nI_or (a b : Nat) : nI a ||| nI b = nI (a ||| b) := by
  apply Int32.toBitVec_inj.mp
  simp [nI, Int32.toBitVec_or, BitVec.ofNat_or]
theorem sLk_cut (f : Nat → Nat) : ∀ (a j k : Nat), (∀ p, k + a ≤ p → p < k + a + j → f p = 0) → sLk f k (a + j) = sLk f k a
  | 0, 0, _, _ => rfl
  | 0, j + 1, k, h => by
    rw [show 0 + (j + 1) = (0 + j) + 1 by omega]
    show (if f k = 0 then sLk f (k + 1) (0 + j) else f k :: sLk f (k + 1) (0 + j)) = []
    rw [if_pos (h k (by omega) (by omega)), sLk_cut f 0 j (k + 1) (fun p h1 h2 => h p (by omega) (by omega))]
    rfl
  | a + 1, j, k, h => by
    rw [show a + 1 + j = (a + j) + 1 by omega, sLk, sLk, sLk_cut f a j (k + 1) (fun p h1 h2 => h p (by omega) (by omega))]
theorem DB.shZ {T : PT} {D : DT} (h : DB T D) {b n p : Nat} (hb : b < T 0 0) (hn : n < 6) (hp : T 0 0 ≤ p) (hp5 : p < 5) : D 7 b (5 * n + p) = 0 := by
  obtain ⟨h1, h2, h3, h4⟩ := h
  obtain ⟨b1, b2, b3, b4, b5⟩ := h3 b hb
  apply Classical.byContradiction
  intro hne
  have e1 := (b5 (5 * n + p) (by omega) hne).1
  have e2 := b2 (5 * n + p) (by omega)
  have e3 := (h2 (D 7 b (5 * n + p) - 1) (by omega)).1
  omega
theorem DB.shP {T : PT} {D : DT} (h : DB T D) {b n : Nat} (hb : b < T 0 0) (hn : n < 6) : shL D b n = sLk (fun p => D 7 b (5 * n + p)) 0 (T 0 0) := by
  have hP : T 0 0 ≤ 5 := h.1.1
  unfold shL
  rw [show 5 = T 0 0 + (5 - T 0 0) by omega]
  refine sLk_cut _ _ _ _ (fun p h1 h2 => ?_)
  have := h.shZ (n := n) hb hn (p := p) (by omega) (by omega)
  rw [show T 0 0 + (5 - T 0 0) = 5 by omega]
  exact this
theorem c_Wd_marksShown {d rc rs w b n : Nat} {Q : Option Value → Mu → Prop} {μ : Mu} {T : PT} {D : DT} (hC : XC μ w T D) (hD : 2 ≤ d) (hS : St μ) (hb : b < T 0 0) (hn : n < 6) (hQ : Q (some (.int (nI (marksB D b n)))) μ) : Cal K_Wd_marksShown d rc rs [.ref (hd 29 w), .ref (hd 35 (5 * w + b)), .int (nI n)] μ Q := by
  have hw := hC.w2; have hP := hC.P5; have h60 := hC.S60
  unfold marksB at hQ
  rw [hC.2.1.shP hb hn] at hQ
  refine e_Wd_marksShown (g_Wd_marksShown_0 (by omega) hw (by omega) hS ?_)
  have key : ∀ k, k ≤ T 0 0 → ∀ m, Q (some (.int (nI ((sLk (fun p => D 7 b (5 * n + p)) k (T 0 0 - k)).foldl (fun m v => m ||| D 4 (v - 1) 3) m)))) μ → Wx K_Wd_marksShown d rc rs (fun r μ' => St μ' ∧ Q r μ') 5 [(0, .ref (hd 29 w)), (1, .ref (hd 35 (5 * w + b))), (2, .int (nI n)), (3, .int (nI m)), (4, .int (nI k))] [] μ := by
    refine up_loop _ (fun m h => ?_) (fun k hk ih m h => ?_)
    · refine g_Wd_marksShown_5 (by omega) hw (by omega) hS ⟨fun _ => ⟨hS, ?_⟩, fun h => absurd ?_ h⟩
      · rw [Nat.sub_self] at h; exact h
      · rw [hC.pP]; exact Int32.le_refl _
    · refine g_Wd_marksShown_5 (by omega) hw (by omega) hS ⟨fun h => absurd h ?_, fun _ => c_Bd_shownFrom (by omega) hS (by omega) hn (by omega) ?_⟩
      · rw [hC.pP]; exact nI_ge hk (by omega)
      obtain ⟨h1, h2⟩ := hC.shwF hb hn (p := k) (by omega)
      have h3 := (hC.bdB hb).2.1 (5 * n + k) (by omega)
      rw [show T 0 0 - k = (T 0 0 - (k + 1)) + 1 by omega, sLk] at h
      rw [h1]
      refine ⟨_, rfl, fun e => ?_, fun e => ?_⟩
      · rw [oI_m1 h2] at e
        rw [if_pos e] at h
        rw [I0, nI_or, Nat.or_zero, nI_1]
        exact ih m h
      · rw [oI_m1 h2] at e
        rw [if_neg e, List.foldl_cons] at h
        rw [oI_p (by omega), nI_clamp (by omega), hC.s4 (by omega), nI_or, nI_1]
        exact ⟨vp_in_nI (by omega) (by decide), ih _ h⟩
  exact key 0 (Nat.zero_le _) 0 (by rw [Nat.sub_zero]; exact hQ)
def valB (D : DT) (b n : Nat) : Nat := if (shL D b n).getD 0 0 = 0 then 0 else D 4 ((shL D b n).getD 0 0 - 1) 2
theorem getD_le {m : Nat} : ∀ (L : List Nat) (l : Nat), (∀ v ∈ L, v ≤ m) → L.getD l 0 ≤ m
  | [], _, _ => by rw [List.getD_nil]; exact Nat.zero_le _
  | v :: L, 0, h => by rw [List.getD_cons_zero]; exact h v List.mem_cons_self
  | v :: L, l + 1, h => by rw [List.getD_cons_succ]; exact getD_le L l (fun x hx => h x (List.mem_cons_of_mem _ hx))
theorem shL_get {T : PT} {D : DT} (h : DB T D) {b n l : Nat} (hb : b < T 0 0) (hn : n < 6) : (shL D b n).getD l 0 ≤ D 1 0 0 := by
  refine getD_le _ _ (fun v hv => ?_)
  obtain ⟨-, p, h1, h2, h3⟩ := sLk_mem _ _ _ _ hv
  rw [← h3]
  exact (h.2.2.1 b hb).2.1 _ (by omega)
noncomputable def ansX (T : PT) (D : DT) (k b n : Nat) : Int32 :=
  if k = 17 then nI (D 0 0 0) else if k = 18 then nI (valB D b n) else if k = 19 then nI (shL D b n).length else if k = 20 then bcE (nI (marksB D b n)) else if k = 21 then nI (D 11 b 0) else if k = 22 then bI (2 ≤ (shL D b n).length) else bI (1 ≤ (shL D b n).length)
theorem c_Wd_answerDay {d rc rs w b : Nat} {y : Int32} {Q : Option Value → Mu → Prop} {μ : Mu} {T : PT} {D : DT} (hC : XC μ w T D) (hD : 1 ≤ d) (hS : St μ) (hb : b < 5) (hQ : Q (some (.int (nI (D 0 0 0)))) μ) : Cal K_Wd_answer d rc rs [.ref (hd 29 w), .ref (hd 0 17), .int (nI b), .int y] μ Q := by
  have hw := hC.w2
  refine e_Wd_answer (g_Wd_answer_0 (by omega) hw (by decide) hS ⟨vp_in_nI (by omega) (by decide), fun h => absurd h (by decide), fun h => absurd h (by decide), fun _ => ⟨hS, ?_⟩, fun h => absurd h (by decide), fun h => absurd h (by decide), fun h => absurd h (by decide), fun h => absurd h (by decide), fun h => absurd h (by decide)⟩)
  rw [hC.day]; exact hQ
theorem c_Wd_answer {d rc rs w k b n : Nat} {Q : Option Value → Mu → Prop} {μ : Mu} {T : PT} {D : DT} (hC : XC μ w T D) (hD : 4 ≤ d) (hS : St μ) (hk : 18 ≤ k ∧ k ≤ 23) (hb : b < T 0 0) (hn : n < 6) (hQ : Q (some (.int (ansX T D k b n))) μ) : Cal K_Wd_answer d rc rs [.ref (hd 29 w), .ref (hd 0 k), .int (nI b), .int (nI n)] μ Q := by
  have hw := hC.w2; have hP := hC.P5; have h60 := hC.S60
  have hl := shL_len D b n
  refine e_Wd_answer (g_Wd_answer_0 (by omega) hw (by omega) hS ⟨vp_in_nI (by omega) (by decide), ?_⟩)
  rw [nI_clamp (by omega)]
  rcases (by omega : k = 18 ∨ k = 19 ∨ k = 20 ∨ k = 21 ∨ k = 22 ∨ k = 23) with rfl | rfl | rfl | rfl | rfl | rfl
  · refine ⟨fun h => absurd h (by decide), fun h => absurd h (by decide), fun h => absurd h (by decide), fun _ => ?_, fun h => absurd h (by decide), fun h => absurd h (by decide), fun h => absurd h (by decide), fun h => absurd h (by decide)⟩
    have hg := shL_get hC.2.1 (l := 0) hb hn
    refine c_Wd_shownAt (l := 0) hC (by omega) hS hb hn (by decide) ⟨_, rfl, fun e => ⟨hS, ?_⟩, fun e => ?_⟩
    · rw [oI_m1 (by omega)] at e
      have : ansX T D 18 b n = 0 := by show nI (valB D b n) = 0; unfold valB; rw [if_pos e]; rfl
      rw [this] at hQ; exact hQ
    · rw [oI_m1 (by omega)] at e
      have : ansX T D 18 b n = nI (D 4 ((shL D b n).getD 0 0 - 1) 2) := by show nI (valB D b n) = _; unfold valB; rw [if_neg e]
      rw [this] at hQ
      rw [oI_p (by omega), nI_clamp (by omega), hC.s3 (by omega)]
      exact ⟨vp_in_nI (by omega) (by decide), hS, hQ⟩
  · refine ⟨fun h => absurd h (by decide), fun h => absurd h (by decide), fun h => absurd h (by decide), fun h => absurd h (by decide), fun _ => ?_, fun h => absurd h (by decide), fun h => absurd h (by decide), fun h => absurd h (by decide)⟩
    exact c_Wd_shownCount hC (by omega) hS hb hn ⟨_, rfl, hS, hQ⟩
  · refine ⟨fun h => absurd h (by decide), fun h => absurd h (by decide), fun h => absurd h (by decide), fun h => absurd h (by decide), fun h => absurd h (by decide), fun _ => ?_, fun h => absurd h (by decide), fun h => absurd h (by decide)⟩
    exact c_Wd_marksShown hC (by omega) hS hb hn ⟨_, rfl, c_bitCount (by omega) hS ⟨_, rfl, hS, hQ⟩⟩
  · refine ⟨fun h => absurd h (by decide), fun h => absurd h (by decide), fun h => absurd h (by decide), fun h => absurd h (by decide), fun h => absurd h (by decide), fun h => absurd h (by decide), fun _ => ⟨hS, ?_⟩, fun h => absurd h (by decide)⟩
    rw [hC.wc hb]; exact hQ
  · refine ⟨fun _ => ?_, fun h => absurd h (by decide), fun h => absurd h (by decide), fun h => absurd h (by decide), fun h => absurd h (by decide), fun h => absurd h (by decide), fun h => absurd h (by decide), fun h => absurd h (by decide)⟩
    refine c_Wd_shownCount hC (by omega) hS hb hn ⟨_, rfl, ?_⟩
    rw [I2, nI_ltI (by omega) (by decide)]
    have hQ2 : Q (some (.int (bI (2 ≤ (shL D b n).length)))) μ := hQ
    refine ⟨fun e => ⟨hS, ?_⟩, fun e => ⟨hS, ?_⟩⟩
    · rw [bI_f (by omega)] at hQ2; exact hQ2
    · rw [bI_t (by omega)] at hQ2; exact hQ2
  · refine ⟨fun h => absurd h (by decide), fun _ => ?_, fun h => absurd h (by decide), fun h => absurd h (by decide), fun h => absurd h (by decide), fun h => absurd h (by decide), fun h => absurd h (by decide), fun h => absurd h (by decide)⟩
    refine c_Wd_shownCount hC (by omega) hS hb hn ⟨_, rfl, ?_⟩
    rw [I1, nI_ltI (by omega) (by decide)]
    have hQ2 : Q (some (.int (bI (1 ≤ (shL D b n).length)))) μ := hQ
    refine ⟨fun e => ⟨hS, ?_⟩, fun e => ⟨hS, ?_⟩⟩
    · rw [bI_f (by omega)] at hQ2; exact hQ2
    · rw [bI_t (by omega)] at hQ2; exact hQ2
noncomputable def tallyN (T : PT) (D : DT) (k : Nat) : Nat := match k with
  | 0 => D 0 0 0
  | 1 => T 0 0
  | 2 => T 1 0
  | 3 => T 2 0
  | 4 => T 6 0
  | 5 => D 1 0 0
  | 6 => uwAll T D
  | 7 => waitAll T D
  | 8 => tornAll T D
  | 9 => D 2 0 0
  | 10 => mergedN D
  | _ => D 3 0 0
noncomputable def parishN (T : PT) (D : DT) (b k : Nat) : Nat := match k with
  | 0 => knownB D b
  | 1 => D 11 b 0
  | 2 => tornB D b 1
  | 3 => tornB D b 2
  | 4 => D 6 b b
  | _ => roadsFromN T D b
noncomputable def sheetN (T : PT) (D : DT) (s k : Nat) : Nat := match k with
  | 0 => D 4 s 0
  | 1 => D 4 s 1
  | 2 => D 4 s 2
  | 3 => D 4 s 3
  | 4 => D 4 s 4
  | 5 => D 4 s 5
  | 6 => knowersN T D s
  | _ => showersN T D s
noncomputable def roadN (D : DT) (r k : Nat) : Nat := match k with
  | 0 => D 12 r 0
  | 1 => D 12 r 1
  | 2 => D 9 r 0
  | 3 => uwN D r
  | _ => D 9 r 1
theorem c_Wd_tally {d rc rs w k : Nat} {Q : Option Value → Mu → Prop} {μ : Mu} {T : PT} {D : DT} (hC : XC μ w T D) (hD : 5 ≤ d) (hS : St μ) (hk : k < 12) (hQ : Q (some (.int (nI (tallyN T D k)))) μ) : Cal K_Wd_tally d rc rs [.ref (hd 29 w), .int (nI k)] μ Q := by
  have hw := hC.w2
  refine e_Wd_tally (g_Wd_tally_0 (by omega) hw hS ?_)
  rcases (by omega : k = 0 ∨ k = 1 ∨ k = 2 ∨ k = 3 ∨ k = 4 ∨ k = 5 ∨ k = 6 ∨ k = 7 ∨ k = 8 ∨ k = 9 ∨ k = 10 ∨ k = 11) with rfl | rfl | rfl | rfl | rfl | rfl | rfl | rfl | rfl | rfl | rfl | rfl
  · exact ⟨fun _ => ⟨hS, by rw [hC.day]; exact hQ⟩, fun h => absurd h (by decide), fun h => absurd h (by decide), fun h => absurd h (by decide), fun h => absurd h (by decide), fun h => absurd h (by decide), fun h => absurd h (by decide), fun h => absurd h (by decide), fun h => absurd h (by decide), fun h => absurd h (by decide), fun h => absurd h (by decide), fun h => absurd h (by decide), fun h => absurd h (by decide)⟩
  · exact ⟨fun h => absurd h (by decide), fun _ => ⟨hS, by rw [hC.pP]; exact hQ⟩, fun h => absurd h (by decide), fun h => absurd h (by decide), fun h => absurd h (by decide), fun h => absurd h (by decide), fun h => absurd h (by decide), fun h => absurd h (by decide), fun h => absurd h (by decide), fun h => absurd h (by decide), fun h => absurd h (by decide), fun h => absurd h (by decide), fun h => absurd h (by decide)⟩
  · exact ⟨fun h => absurd h (by decide), fun h => absurd h (by decide), fun _ => ⟨hS, by rw [hC.pN]; exact hQ⟩, fun h => absurd h (by decide), fun h => absurd h (by decide), fun h => absurd h (by decide), fun h => absurd h (by decide), fun h => absurd h (by decide), fun h => absurd h (by decide), fun h => absurd h (by decide), fun h => absurd h (by decide), fun h => absurd h (by decide), fun h => absurd h (by decide)⟩
  · exact ⟨fun h => absurd h (by decide), fun h => absurd h (by decide), fun h => absurd h (by decide), fun _ => ⟨hS, by rw [hC.pR]; exact hQ⟩, fun h => absurd h (by decide), fun h => absurd h (by decide), fun h => absurd h (by decide), fun h => absurd h (by decide), fun h => absurd h (by decide), fun h => absurd h (by decide), fun h => absurd h (by decide), fun h => absurd h (by decide), fun h => absurd h (by decide)⟩
  · exact ⟨fun h => absurd h (by decide), fun h => absurd h (by decide), fun h => absurd h (by decide), fun h => absurd h (by decide), fun _ => ⟨hS, by rw [hC.pO]; exact hQ⟩, fun h => absurd h (by decide), fun h => absurd h (by decide), fun h => absurd h (by decide), fun h => absurd h (by decide), fun h => absurd h (by decide), fun h => absurd h (by decide), fun h => absurd h (by decide), fun h => absurd h (by decide)⟩
  · exact ⟨fun h => absurd h (by decide), fun h => absurd h (by decide), fun h => absurd h (by decide), fun h => absurd h (by decide), fun h => absurd h (by decide), fun _ => ⟨hS, by rw [hC.cnt]; exact hQ⟩, fun h => absurd h (by decide), fun h => absurd h (by decide), fun h => absurd h (by decide), fun h => absurd h (by decide), fun h => absurd h (by decide), fun h => absurd h (by decide), fun h => absurd h (by decide)⟩
  · exact ⟨fun h => absurd h (by decide), fun h => absurd h (by decide), fun h => absurd h (by decide), fun h => absurd h (by decide), fun h => absurd h (by decide), fun h => absurd h (by decide), fun _ => c_Wd_underWayOnRoads hC (by omega) hS ⟨_, rfl, hS, hQ⟩, fun h => absurd h (by decide), fun h => absurd h (by decide), fun h => absurd h (by decide), fun h => absurd h (by decide), fun h => absurd h (by decide), fun h => absurd h (by decide)⟩
  · exact ⟨fun h => absurd h (by decide), fun h => absurd h (by decide), fun h => absurd h (by decide), fun h => absurd h (by decide), fun h => absurd h (by decide), fun h => absurd h (by decide), fun h => absurd h (by decide), fun _ => c_Wd_waitingAtBoards hC (by omega) hS ⟨_, rfl, hS, hQ⟩, fun h => absurd h (by decide), fun h => absurd h (by decide), fun h => absurd h (by decide), fun h => absurd h (by decide), fun h => absurd h (by decide)⟩
  · exact ⟨fun h => absurd h (by decide), fun h => absurd h (by decide), fun h => absurd h (by decide), fun h => absurd h (by decide), fun h => absurd h (by decide), fun h => absurd h (by decide), fun h => absurd h (by decide), fun h => absurd h (by decide), fun _ => c_Wd_tornOnBoards hC (by omega) hS ⟨_, rfl, hS, hQ⟩, fun h => absurd h (by decide), fun h => absurd h (by decide), fun h => absurd h (by decide), fun h => absurd h (by decide)⟩
  · exact ⟨fun h => absurd h (by decide), fun h => absurd h (by decide), fun h => absurd h (by decide), fun h => absurd h (by decide), fun h => absurd h (by decide), fun h => absurd h (by decide), fun h => absurd h (by decide), fun h => absurd h (by decide), fun h => absurd h (by decide), fun _ => ⟨hS, by rw [hC.hung]; exact hQ⟩, fun h => absurd h (by decide), fun h => absurd h (by decide), fun h => absurd h (by decide)⟩
  · exact ⟨fun h => absurd h (by decide), fun h => absurd h (by decide), fun h => absurd h (by decide), fun h => absurd h (by decide), fun h => absurd h (by decide), fun h => absurd h (by decide), fun h => absurd h (by decide), fun h => absurd h (by decide), fun h => absurd h (by decide), fun h => absurd h (by decide), fun _ => c_Wd_mergedSheets hC (by omega) hS ⟨_, rfl, hS, hQ⟩, fun h => absurd h (by decide), fun h => absurd h (by decide)⟩
  · exact ⟨fun h => absurd h (by decide), fun h => absurd h (by decide), fun h => absurd h (by decide), fun h => absurd h (by decide), fun h => absurd h (by decide), fun h => absurd h (by decide), fun h => absurd h (by decide), fun h => absurd h (by decide), fun h => absurd h (by decide), fun h => absurd h (by decide), fun h => absurd h (by decide), fun _ => ⟨hS, by rw [hC.car]; exact hQ⟩, fun h => absurd h (by decide)⟩
theorem c_Wd_parishFact {d rc rs w b k : Nat} {Q : Option Value → Mu → Prop} {μ : Mu} {T : PT} {D : DT} (hC : XC μ w T D) (hD : 4 ≤ d) (hS : St μ) (hb : b < T 0 0) (hk : k < 6) (hQ : Q (some (.int (nI (parishN T D b k)))) μ) : Cal K_Wd_parishFact d rc rs [.ref (hd 29 w), .int (nI b), .int (nI k)] μ Q := by
  have hw := hC.w2; have hP := hC.P5
  refine e_Wd_parishFact (g_Wd_parishFact_0 (by omega) hw hS ⟨vp_in_nI (by omega) (by decide), ?_⟩)
  rw [nI_clamp (by omega)]
  rcases (by omega : k = 0 ∨ k = 1 ∨ k = 2 ∨ k = 3 ∨ k = 4 ∨ k = 5) with rfl | rfl | rfl | rfl | rfl | rfl
  · exact ⟨fun _ => c_Bd_knownCount (f := fun p => D 6 b p) (by omega) hS (by omega) (fun p hp => hC.num hb hp) ⟨_, rfl, hS, hQ⟩, fun h => absurd h (by decide), fun h => absurd h (by decide), fun h => absurd h (by decide), fun h => absurd h (by decide), fun h => absurd h (by decide), fun h => absurd h (by decide)⟩
  · exact ⟨fun h => absurd h (by decide), fun _ => ⟨hS, by rw [hC.wc hb]; exact hQ⟩, fun h => absurd h (by decide), fun h => absurd h (by decide), fun h => absurd h (by decide), fun h => absurd h (by decide), fun h => absurd h (by decide)⟩
  · exact ⟨fun h => absurd h (by decide), fun h => absurd h (by decide), fun _ => c_Wd_noticesWith (l := 1) hC (by omega) hS hb (by decide) ⟨_, rfl, hS, hQ⟩, fun h => absurd h (by decide), fun h => absurd h (by decide), fun h => absurd h (by decide), fun h => absurd h (by decide)⟩
  · exact ⟨fun h => absurd h (by decide), fun h => absurd h (by decide), fun h => absurd h (by decide), fun _ => c_Wd_noticesWith (l := 2) hC (by omega) hS hb (by decide) ⟨_, rfl, hS, hQ⟩, fun h => absurd h (by decide), fun h => absurd h (by decide), fun h => absurd h (by decide)⟩
  · exact ⟨fun h => absurd h (by decide), fun h => absurd h (by decide), fun h => absurd h (by decide), fun h => absurd h (by decide), fun _ => ⟨vp_in_nI (by omega) (by decide), hS, by rw [hC.num hb (by omega)]; exact hQ⟩, fun h => absurd h (by decide), fun h => absurd h (by decide)⟩
  · exact ⟨fun h => absurd h (by decide), fun h => absurd h (by decide), fun h => absurd h (by decide), fun h => absurd h (by decide), fun h => absurd h (by decide), fun _ => c_Wd_roadsFrom hC (by omega) hS (by omega) ⟨_, rfl, hS, hQ⟩, fun h => absurd h (by decide)⟩
theorem c_Wd_sheetFact {d rc rs w s k : Nat} {Q : Option Value → Mu → Prop} {μ : Mu} {T : PT} {D : DT} (hC : XC μ w T D) (hD : 4 ≤ d) (hS : St μ) (hs : s < D 1 0 0) (hk : k < 8) (hQ : Q (some (.int (nI (sheetN T D s k)))) μ) : Cal K_Wd_sheetFact d rc rs [.ref (hd 29 w), .int (nI s), .int (nI k)] μ Q := by
  have hw := hC.w2; have h60 := hC.S60
  refine e_Wd_sheetFact (g_Wd_sheetFact_0 (by omega) hw hS ⟨vp_in_nI (by omega) (by decide), ?_⟩)
  rw [nI_clamp (by omega)]
  rcases (by omega : k = 0 ∨ k = 1 ∨ k = 2 ∨ k = 3 ∨ k = 4 ∨ k = 5 ∨ k = 6 ∨ k = 7) with rfl | rfl | rfl | rfl | rfl | rfl | rfl | rfl
  · exact ⟨fun _ => ⟨hS, by rw [hC.s1 hs]; exact hQ⟩, fun h => absurd h (by decide), fun h => absurd h (by decide), fun h => absurd h (by decide), fun h => absurd h (by decide), fun h => absurd h (by decide), fun h => absurd h (by decide), fun h => absurd h (by decide), fun h => absurd h (by decide)⟩
  · exact ⟨fun h => absurd h (by decide), fun _ => ⟨hS, by rw [hC.s2 hs]; exact hQ⟩, fun h => absurd h (by decide), fun h => absurd h (by decide), fun h => absurd h (by decide), fun h => absurd h (by decide), fun h => absurd h (by decide), fun h => absurd h (by decide), fun h => absurd h (by decide)⟩
  · exact ⟨fun h => absurd h (by decide), fun h => absurd h (by decide), fun _ => ⟨hS, by rw [hC.s3 hs]; exact hQ⟩, fun h => absurd h (by decide), fun h => absurd h (by decide), fun h => absurd h (by decide), fun h => absurd h (by decide), fun h => absurd h (by decide), fun h => absurd h (by decide)⟩
  · exact ⟨fun h => absurd h (by decide), fun h => absurd h (by decide), fun h => absurd h (by decide), fun _ => ⟨hS, by rw [hC.s4 hs]; exact hQ⟩, fun h => absurd h (by decide), fun h => absurd h (by decide), fun h => absurd h (by decide), fun h => absurd h (by decide), fun h => absurd h (by decide)⟩
  · exact ⟨fun h => absurd h (by decide), fun h => absurd h (by decide), fun h => absurd h (by decide), fun h => absurd h (by decide), fun _ => ⟨hS, by rw [hC.s5 hs]; exact hQ⟩, fun h => absurd h (by decide), fun h => absurd h (by decide), fun h => absurd h (by decide), fun h => absurd h (by decide)⟩
  · exact ⟨fun h => absurd h (by decide), fun h => absurd h (by decide), fun h => absurd h (by decide), fun h => absurd h (by decide), fun h => absurd h (by decide), fun _ => ⟨hS, by rw [hC.s6 hs]; exact hQ⟩, fun h => absurd h (by decide), fun h => absurd h (by decide), fun h => absurd h (by decide)⟩
  · exact ⟨fun h => absurd h (by decide), fun h => absurd h (by decide), fun h => absurd h (by decide), fun h => absurd h (by decide), fun h => absurd h (by decide), fun h => absurd h (by decide), fun _ => c_Wd_knowers hC (by omega) hS hs ⟨_, rfl, hS, hQ⟩, fun h => absurd h (by decide), fun h => absurd h (by decide)⟩
  · exact ⟨fun h => absurd h (by decide), fun h => absurd h (by decide), fun h => absurd h (by decide), fun h => absurd h (by decide), fun h => absurd h (by decide), fun h => absurd h (by decide), fun h => absurd h (by decide), fun _ => c_Wd_showers hC (by omega) hS hs ⟨_, rfl, hS, hQ⟩, fun h => absurd h (by decide)⟩
theorem c_Wd_roadFact {d rc rs w r k : Nat} {Q : Option Value → Mu → Prop} {μ : Mu} {T : PT} {D : DT} (hC : XC μ w T D) (hD : 2 ≤ d) (hS : St μ) (hr : r < T 2 0) (hk : k < 5) (hQ : Q (some (.int (nI (roadN D r k)))) μ) : Cal K_Wd_roadFact d rc rs [.ref (hd 29 w), .int (nI r), .int (nI k)] μ Q := by
  have hw := hC.w2; have hR := hC.R8
  refine e_Wd_roadFact (g_Wd_roadFact_0 (by omega) hw hS ⟨vp_in_nI (by omega) (by decide), ?_⟩)
  rw [nI_clamp (by omega)]
  rcases (by omega : k = 0 ∨ k = 1 ∨ k = 2 ∨ k = 3 ∨ k = 4) with rfl | rfl | rfl | rfl | rfl
  · exact ⟨fun _ => ⟨hS, by rw [hC.r1 hr]; exact hQ⟩, fun h => absurd h (by decide), fun h => absurd h (by decide), fun h => absurd h (by decide), fun h => absurd h (by decide), fun h => absurd h (by decide)⟩
  · exact ⟨fun h => absurd h (by decide), fun _ => ⟨hS, by rw [hC.r2 hr]; exact hQ⟩, fun h => absurd h (by decide), fun h => absurd h (by decide), fun h => absurd h (by decide), fun h => absurd h (by decide)⟩
  · exact ⟨fun h => absurd h (by decide), fun h => absurd h (by decide), fun _ => ⟨hS, by rw [hC.r3 hr]; exact hQ⟩, fun h => absurd h (by decide), fun h => absurd h (by decide), fun h => absurd h (by decide)⟩
  · exact ⟨fun h => absurd h (by decide), fun h => absurd h (by decide), fun h => absurd h (by decide), fun _ => c_Wd_underWayOn hC (by omega) hS hr ⟨_, rfl, hS, hQ⟩, fun h => absurd h (by decide), fun h => absurd h (by decide)⟩
  · exact ⟨fun h => absurd h (by decide), fun h => absurd h (by decide), fun h => absurd h (by decide), fun h => absurd h (by decide), fun _ => ⟨hS, by rw [hC.r4 hr]; exact hQ⟩, fun h => absurd h (by decide)⟩
