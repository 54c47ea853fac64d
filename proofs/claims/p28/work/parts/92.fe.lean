/-! what is asked of all at once -/
def alikeP (T : PT) (D : DT) : Prop := ∀ p, 1 ≤ p → p < T 0 0 → ∀ k, k < 30 → D 7 p k = D 7 0 k
def mx (a : Int64) (x : Int32) : Int64 := (a * 31) + x.toInt64
def fdN (f : Nat → Int64 → Int64) : Nat → Nat → Int64 → Int64
  | 0, _, a => a
  | j + 1, k, a => fdN f j (k + 1) (f k a)
theorem fd_loop {n : Nat} {f : Nat → Int64 → Int64} {P : Nat → Int64 → Prop} {E : Int64 → Prop} (hend : ∀ a, E a → P n a) (hstep : ∀ k a, k < n → P (k + 1) (f k a) → P k a) {a : Int64} (h : E (fdN f n 0 a)) : P 0 a := by
  have key : ∀ j k a, k + j = n → E (fdN f j k a) → P k a := by
    intro j
    induction j with
    | zero =>
      intro k a e g
      have ek : k = n := by omega
      rw [ek]
      exact hend a g
    | succ j ih => intro k a e g; exact hstep k a (by omega) (ih (k + 1) _ (by omega) g)
  exact key n 0 a (by omega) h
noncomputable def cntV (T : PT) (D : DT) (L k : Nat) : Int32 := if nI k = 12 then nI L else nI (tallyN T D k)
noncomputable def dgP (T : PT) (D : DT) (p : Nat) (a : Int64) : Int64 :=
  fdN (fun n a => fdN (fun l a => mx a (oI ((shL D p n).getD l 0))) (shL D p n).length 0 a) (T 1 0) 0 (fdN (fun k a => mx a (nI (D 6 p k))) (T 0 0) 0 (fdN (fun k a => mx a (nI (parishN T D p k))) 6 0 a))
noncomputable def dgS (T : PT) (D : DT) (s : Nat) (a : Int64) : Int64 :=
  fdN (fun k a => mx a (nI (D 5 s k))) (T 0 0) 0 (fdN (fun k a => mx a (nI (sheetN T D s k))) 8 0 a)
noncomputable def dgR (D : DT) (r : Nat) (a : Int64) : Int64 := fdN (fun k a => mx a (nI (roadN D r k))) 5 0 a
noncomputable def digV (T : PT) (D : DT) (L : Nat) : Int64 :=
  fdN (dgR D) (T 2 0) 0 (fdN (dgS T D) (D 1 0 0) 0 (fdN (dgP T D) (T 0 0) 0 (fdN (fun k a => mx a (cntV T D L k)) 13 0 929)))
noncomputable def meanV (T : PT) (D : DT) : UInt64 := if T 0 0 = 0 then 0 else FP.ddiv (FP.i2d (nI (knownAll T D))) (FP.i2d (nI (T 0 0)))
def mnB (k p : Nat) : Bool := decide (FP.ddiv (FP.i2d (nI k)) (FP.i2d (nI p)) &&& 0x7fffffffffffffff ≤ 0x7ff0000000000000)
def mnC (k : Nat) : Bool := mnB k 1 && (mnB k 2 && (mnB k 3 && (mnB k 4 && mnB k 5)))
theorem mn_all : allB (fun a => allB (fun b => mnC (Nat.add (Nat.mul 40 a) b)) 40) 38 = true := by decide +kernel
theorem mn_ok {k p : Nat} (hk : k < 1520) (hp : 1 ≤ p) (hp5 : p ≤ 5) : vf_n64 (FP.ddiv (FP.i2d (nI k)) (FP.i2d (nI p))) := by
  have h := allB_ok _ (allB_ok _ mn_all (k / 40) (by omega)) (k % 40) (Nat.mod_lt _ (by decide))
  have e : Nat.add (Nat.mul 40 (k / 40)) (k % 40) = k := Nat.div_add_mod k 40
  rw [e] at h
  unfold mnC at h
  rw [Bool.and_eq_true, Bool.and_eq_true, Bool.and_eq_true, Bool.and_eq_true] at h
  obtain ⟨h1, h2, h3, h4, h5⟩ := h
  rcases (by omega : p = 1 ∨ p = 2 ∨ p = 3 ∨ p = 4 ∨ p = 5) with rfl | rfl | rfl | rfl | rfl
  · unfold vf_n64; exact of_decide_eq_true h1
  · unfold vf_n64; exact of_decide_eq_true h2
  · unfold vf_n64; exact of_decide_eq_true h3
  · unfold vf_n64; exact of_decide_eq_true h4
  · unfold vf_n64; exact of_decide_eq_true h5
theorem known_le {T : PT} {D : DT} (hB : DB T D) : knownAll T D ≤ 1500 := by
  have h5 := hB.1.1
  have h60 := hB.1.2.2.2.2.1
  have h1 : ∀ b, b < T 0 0 → knownB D b ≤ 5 * 60 := fun b hb => sumN_le 5 (fun p hp => Nat.le_trans ((hB.2.2.1 b hb).1 p hp) h60)
  have h2 := sumN_le (f := fun b => knownB D b) (T 0 0) h1
  have h3 : T 0 0 * (5 * 60) ≤ 5 * (5 * 60) := Nat.mul_le_mul_right _ h5
  show sumN (fun b => knownB D b) (T 0 0) ≤ 1500
  omega
section FEA
variable {d rc rs : Nat} {Q : Option Value → Mu → Prop} {μ : Mu} {T : PT} {C Ct : Nat → List Op} {D : DT} {t : Nat → Nat} {L : Nat} {x : Int32}
theorem c_PB_alike (hC : CI μ T C Ct D t L x) (hD : 2 ≤ d) (hS : St μ) (hQ : Q (some (.int (bI (alikeP T D)))) μ) : Cal K_PB_alike d rc rs [.ref (hd 8 0)] μ Q := by
  have h5 := hC.1.P5
  have h60 := hC.1.S60
  refine e_PB_alike (g_PB_alike_0 (by omega) hS ?_)
  have key : ∀ j i, 1 ≤ i → T 0 0 ≤ i + j → i < 1000 → (∀ p, 1 ≤ p → p < i → p < T 0 0 → ∀ k, k < 30 → D 7 p k = D 7 0 k) → Wx K_PB_alike d rc rs (fun r μ' => St μ' ∧ Q r μ') 2 [(0, .ref (hd 8 0)), (1, .int (nI i))] [] μ := by
    intro j
    induction j with
    | zero =>
      intro i h1 h2 h3 h4
      refine g_PB_alike_2 (by omega) hS ⟨fun _ => ⟨hS, ?_⟩, fun h => absurd ?_ h⟩
      · rw [bI_t (show alikeP T D from fun p a b => h4 p a (by omega) b)] at hQ; exact hQ
      · rw [hC.p3, nI_leI (by omega) (by omega)]; omega
    | succ j ih =>
      intro i h1 h2 h3 h4
      refine g_PB_alike_2 (by omega) hS ⟨fun h => ⟨hS, ?_⟩, fun h => ?_⟩
      · rw [hC.p3, nI_leI (by omega) (by omega)] at h
        rw [bI_t (show alikeP T D from fun p a b => h4 p a (by omega) b)] at hQ; exact hQ
      · rw [hC.p3, nI_leI (by omega) (by omega)] at h
        rw [nI_clamp (by omega), show ((0 : Int32).toNatClampNeg) = 0 from rfl]
        refine ⟨vp_in_nI (by omega) (by decide), vp_in_nI (n := 0) (N := 5) (by decide) (by decide), c_Bd_showsAsMuchAs (by omega) hS (by omega) (by decide) ⟨_, rfl, bIs (fun z => ⟨hS, ?_⟩) (fun z => ?_)⟩⟩
        · rw [bI_f (p := alikeP T D) (fun y => z (fun k hk => by
            rw [show mI μ (hd 37 (5 * 0 + i)) k = oI (D 7 i k) from hC.1.2.2.1 7 i k ⟨by omega, hk⟩, show mI μ (hd 37 (5 * 0 + 0)) k = oI (D 7 0 k) from hC.1.2.2.1 7 0 k ⟨by omega, hk⟩, y i h1 (by omega) k hk]))] at hQ
          exact hQ
        · rw [nI_1]
          refine ih (i + 1) (by omega) (by omega) (by omega) (fun p a b c k hk => ?_)
          by_cases e : p = i
          · rw [e]
            have := z k hk
            rw [show mI μ (hd 37 (5 * 0 + i)) k = oI (D 7 i k) from hC.1.2.2.1 7 i k ⟨by omega, hk⟩, show mI μ (hd 37 (5 * 0 + 0)) k = oI (D 7 0 k) from hC.1.2.2.1 7 0 k ⟨by omega, hk⟩] at this
            have b1 := (hC.1.2.1.2.2.1 i (by omega)).2.1 k hk
            have b2 := (hC.1.2.1.2.2.1 0 (by omega)).2.1 k hk
            exact (oI_inj (by omega) (by omega)).mp this
          · exact h4 p a (by omega) c k hk
  exact key (T 0 0) 1 (by decide) (by omega) (by decide) (fun p a b => by omega)
theorem knowers_le {s : Nat} : knowersN T D s ≤ T 0 0 := by
  have := sumN_le (f := fun b => bN (kn D b s)) (b := 1) (T 0 0) (fun _ _ => bN_le)
  unfold knowersN; omega
theorem c_PB_missed (hC : CI μ T C Ct D t L x) (hD : 4 ≤ d) (hS : St μ) (hQ : Q (some (.int (miR T D (D 1 0 0) 0))) μ) : Cal K_PB_missed d rc rs [.ref (hd 8 0)] μ Q := by
  have h5 := hC.1.P5
  have h60 := hC.1.S60
  refine e_PB_missed (g_PB_missed_0 (by omega) hS ?_)
  have key : ∀ j k, k + j = D 1 0 0 → miR T D j k = miR T D (D 1 0 0) 0 → Wx K_PB_missed d rc rs (fun r μ' => St μ' ∧ Q r μ') 2 [(0, .ref (hd 8 0)), (1, .int (nI k))] [] μ := by
    intro j
    induction j with
    | zero =>
      intro k h e
      refine g_PB_missed_2 (by omega) hS ⟨fun _ => ⟨hS, ?_⟩, fun h => absurd ?_ h⟩
      · rw [← e] at hQ; exact hQ
      · rw [hC.cnt, show k = D 1 0 0 by omega]; exact Int32.le_refl _
    | succ j ih =>
      intro k h e
      rw [miR] at e
      have hl := knowers_le (T := T) (D := D) (s := k)
      refine g_PB_missed_2 (by omega) hS ⟨fun h => absurd h ?_, fun _ => c_Wd_knowers hC.1 (by omega) hS (by omega) ⟨_, rfl, fun z => ?_, fun z => ⟨hS, ?_⟩⟩⟩
      · rw [hC.cnt]; exact nI_ge (by omega) (by omega)
      · rw [hC.p3, nI_leI (by omega) (by omega)] at z
        rw [ifP_f (by omega)] at e
        rw [nI_1]; exact ih (k + 1) (by omega) e
      · rw [hC.p3, nI_leI (by omega) (by omega)] at z
        rw [ifP_t (by omega)] at e
        rw [← e] at hQ; exact hQ
  exact key (D 1 0 0) 0 (by omega) rfl
theorem c_PB_mean (hC : CI μ T C Ct D t L x) (hD : 3 ≤ d) (hS : St μ) (hQ : Q (some (.double (meanV T D))) μ) : Cal K_PB_mean d rc rs [.ref (hd 8 0)] μ Q := by
  have h5 := hC.1.P5
  unfold meanV at hQ
  refine e_PB_mean (g_PB_mean_0 (by omega) hS ?_)
  rw [hC.p3, show (0 : Int32) = nI 0 from rfl, nI_eq (by omega) (by decide)]
  refine ⟨fun h => ⟨hS, ?_⟩, fun h => c_Wd_knownOnBoards hC.1 (by omega) hS ⟨_, rfl, ?_⟩⟩
  · rw [if_pos h] at hQ; exact hQ
  · rw [if_neg h] at hQ
    rw [hC.p3]
    exact ⟨mn_ok (Nat.lt_of_le_of_lt (known_le hC.1.2.1) (by decide)) (by omega) h5, hS, hQ⟩
theorem c_PB_mixed {a : Int64} {v : Int32} (hD : 1 ≤ d) (hS : St μ) (hQ : Q (some (.long (mx a v))) μ) : Cal K_PB_mixed d rc rs [.long a, .int v] μ Q := e_PB_mixed (g_PB_mixed_0 hD hS ⟨hS, hQ⟩)
theorem c_PB_mixedParish {p : Nat} {a : Int64} (hC : CI μ T C Ct D t L x) (hD : 6 ≤ d) (hS : St μ) (hp : p < T 0 0) (hQ : Q (some (.long (dgP T D p a))) μ) : Cal K_PB_mixedParish d rc rs [.ref (hd 8 0), .long a, .int (nI p)] μ Q := by
  have h5 := hC.1.P5
  have h6 := hC.1.N6
  have h60 := hC.1.S60
  refine e_PB_mixedParish (g_PB_mixedParish_0 (by omega) hS ?_)
  refine fd_loop (n := 6) (f := fun k a => mx a (nI (parishN T D p k))) (P := fun k a => Wx K_PB_mixedParish d rc rs (fun r μ' => St μ' ∧ Q r μ') 6 [(0, .ref (hd 8 0)), (3, .int (nI p)), (4, .long a), (6, .int (nI k))] [] μ) (E := fun a => Wx K_PB_mixedParish d rc rs (fun r μ' => St μ' ∧ Q r μ') 50 [(0, .ref (hd 8 0)), (4, .long a), (6, .ref (hd 35 (5 * 0 + p))), (7, .int 0)] [] μ) (fun a h => ?_) (fun k a hk ih => ?_) ?_
  · refine g_PB_mixedParish_6 (by omega) hS ⟨fun _ => ?_, fun h => absurd (Int32.le_refl _) h⟩
    rw [nI_clamp (by omega)]
    exact ⟨vp_in_nI (by omega) (by decide), h⟩
  · refine g_PB_mixedParish_6 (by omega) hS ⟨fun h => absurd h (nI_ge hk (by decide)), fun _ => ?_⟩
    refine c_Wd_parishFact hC.1 (by omega) hS hp hk ⟨_, rfl, c_PB_mixed (by omega) hS ⟨_, rfl, ?_⟩⟩
    rw [nI_1]; exact ih
  refine fd_loop (n := T 0 0) (f := fun k a => mx a (nI (D 6 p k))) (P := fun k a => Wx K_PB_mixedParish d rc rs (fun r μ' => St μ' ∧ Q r μ') 50 [(0, .ref (hd 8 0)), (4, .long a), (6, .ref (hd 35 (5 * 0 + p))), (7, .int (nI k))] [] μ) (E := fun a => Wx K_PB_mixedParish d rc rs (fun r μ' => St μ' ∧ Q r μ') 86 [(0, .ref (hd 8 0)), (4, .long a), (6, .ref (hd 35 (5 * 0 + p))), (7, .int 0)] [] μ) (fun a h => ?_) (fun k a hk ih => ?_) ?_
  · refine g_PB_mixedParish_50 (by omega) (by omega) hS ⟨fun _ => h, fun h => absurd ?_ h⟩
    rw [hC.p3]; exact Int32.le_refl _
  · refine g_PB_mixedParish_50 (by omega) (by omega) hS ⟨fun h => absurd h ?_, fun _ => ?_⟩
    · rw [hC.p3]; exact nI_ge hk (by omega)
    rw [nI_clamp (by omega), show mI μ (hd 36 (5 * 0 + p)) k = nI (D 6 p k) from hC.1.2.2.1 6 p k ⟨hp, by omega⟩]
    refine ⟨vp_in_nI (by omega) (by decide), c_PB_mixed (by omega) hS ⟨_, rfl, ?_⟩⟩
    rw [nI_1]; exact ih
  refine fd_loop (n := T 1 0) (f := fun n a => fdN (fun l a => mx a (oI ((shL D p n).getD l 0))) (shL D p n).length 0 a) (P := fun k a => Wx K_PB_mixedParish d rc rs (fun r μ' => St μ' ∧ Q r μ') 86 [(0, .ref (hd 8 0)), (4, .long a), (6, .ref (hd 35 (5 * 0 + p))), (7, .int (nI k))] [] μ) (E := fun a => Q (some (.long a)) μ) (fun a h => ?_) (fun k a hk ih => ?_) hQ
  · refine g_PB_mixedParish_86 (by omega) (by omega) hS ⟨fun _ => ⟨hS, h⟩, fun h => absurd ?_ h⟩
    rw [hC.p4]; exact Int32.le_refl _
  · have hsl := shL_len D p k
    refine g_PB_mixedParish_86 (by omega) (by omega) hS ⟨fun h => absurd h ?_, fun _ => ?_⟩
    · rw [hC.p4]; exact nI_ge hk (by omega)
    refine c_Bd_shownCount (f := fun q => D 7 p (5 * k + q)) (by omega) hS (by omega) (by omega) (fun q hq => hC.1.shwF hp (by omega) hq) ⟨_, rfl, ?_⟩
    refine fd_loop (n := (shL D p k).length) (f := fun l a => mx a (oI ((shL D p k).getD l 0))) (P := fun l a => Wx K_PB_mixedParish d rc rs (fun r μ' => St μ' ∧ Q r μ') 110 [(0, .ref (hd 8 0)), (4, .long a), (6, .ref (hd 35 (5 * 0 + p))), (7, .int (nI k)), (8, .int (nI (shL D p k).length)), (9, .int (nI l))] [] μ) (E := fun a => Wx K_PB_mixedParish d rc rs (fun r μ' => St μ' ∧ Q r μ') 86 [(0, .ref (hd 8 0)), (4, .long a), (6, .ref (hd 35 (5 * 0 + p))), (7, .int (nI (k + 1)))] [] μ) (fun a h => ?_) (fun l a hl ih2 => ?_) ih
    · refine g_PB_mixedParish_110 (by omega) (by omega) hS ⟨fun _ => ?_, fun h => absurd (Int32.le_refl _) h⟩
      rw [nI_1]; exact h
    · refine g_PB_mixedParish_110 (by omega) (by omega) hS ⟨fun h => absurd h (nI_ge hl (by omega)), fun _ => ?_⟩
      refine c_Bd_shownAt (f := fun q => D 7 p (5 * k + q)) (by omega) hS (by omega) (by omega) (by omega) (fun q hq => hC.1.shwF hp (by omega) hq) ⟨_, rfl, c_PB_mixed (by omega) hS ⟨_, rfl, ?_⟩⟩
      rw [nI_1]; exact ih2
theorem c_PB_mixedSheet {s : Nat} {a : Int64} (hC : CI μ T C Ct D t L x) (hD : 6 ≤ d) (hS : St μ) (hs : s < D 1 0 0) (hQ : Q (some (.long (dgS T D s a))) μ) : Cal K_PB_mixedSheet d rc rs [.ref (hd 8 0), .long a, .int (nI s)] μ Q := by
  have h5 := hC.1.P5
  have h60 := hC.1.S60
  refine e_PB_mixedSheet (g_PB_mixedSheet_0 (by omega) hS ?_)
  refine fd_loop (n := 8) (f := fun k a => mx a (nI (sheetN T D s k))) (P := fun k a => Wx K_PB_mixedSheet d rc rs (fun r μ' => St μ' ∧ Q r μ') 6 [(0, .ref (hd 8 0)), (3, .int (nI s)), (4, .long a), (6, .int (nI k))] [] μ) (E := fun a => Wx K_PB_mixedSheet d rc rs (fun r μ' => St μ' ∧ Q r μ') 39 [(0, .ref (hd 8 0)), (3, .int (nI s)), (4, .long a), (6, .int 0)] [] μ) (fun a h => ?_) (fun k a hk ih => ?_) ?_
  · exact g_PB_mixedSheet_6 (by omega) hS ⟨fun _ => h, fun h => absurd (Int32.le_refl _) h⟩
  · refine g_PB_mixedSheet_6 (by omega) hS ⟨fun h => absurd h (nI_ge hk (by decide)), fun _ => ?_⟩
    refine c_Wd_sheetFact hC.1 (by omega) hS hs hk ⟨_, rfl, c_PB_mixed (by omega) hS ⟨_, rfl, ?_⟩⟩
    rw [nI_1]; exact ih
  refine fd_loop (n := T 0 0) (f := fun k a => mx a (nI (D 5 s k))) (P := fun k a => Wx K_PB_mixedSheet d rc rs (fun r μ' => St μ' ∧ Q r μ') 39 [(0, .ref (hd 8 0)), (3, .int (nI s)), (4, .long a), (6, .int (nI k))] [] μ) (E := fun a => Q (some (.long a)) μ) (fun a h => ?_) (fun k a hk ih => ?_) hQ
  · refine g_PB_mixedSheet_39 (by omega) hS ⟨fun _ => ⟨hS, h⟩, fun h => absurd ?_ h⟩
    rw [hC.p3]; exact Int32.le_refl _
  · refine g_PB_mixedSheet_39 (by omega) hS ⟨fun h => absurd h ?_, fun _ => ?_⟩
    · rw [hC.p3]; exact nI_ge hk (by omega)
    rw [nI_clamp (by omega), nI_clamp (by omega), show mI μ (hd 34 (60 * 0 + s)) k = nI (D 5 s k) from hC.1.2.2.1 5 s k ⟨hs, by omega⟩]
    refine ⟨vp_in_nI (by omega) (by decide), vp_in_nI (by omega) (by decide), c_PB_mixed (by omega) hS ⟨_, rfl, ?_⟩⟩
    rw [nI_1]; exact ih
theorem c_PB_digest (hC : CI μ T C Ct D t L x) (hD : 7 ≤ d) (hS : St μ) (hQ : Q (some (.long (digV T D L))) μ) : Cal K_PB_digest d rc rs [.ref (hd 8 0)] μ Q := by
  have h5 := hC.1.P5
  have h8 := hC.1.R8
  have h60 := hC.1.S60
  refine e_PB_digest (g_PB_digest_0 (by omega) hS ?_)
  refine fd_loop (n := 13) (f := fun k a => mx a (cntV T D L k)) (P := fun k a => Wx K_PB_digest d rc rs (fun r μ' => St μ' ∧ Q r μ') 6 [(0, .ref (hd 8 0)), (1, .long a), (3, .int (nI k))] [] μ) (E := fun a => Wx K_PB_digest d rc rs (fun r μ' => St μ' ∧ Q r μ') 30 [(0, .ref (hd 8 0)), (1, .long a), (3, .int 0)] [] μ) (fun a h => ?_) (fun k a hk ih => ?_) ?_
  · exact g_PB_digest_6 (by omega) hS ⟨fun _ => h, fun h => absurd (Int32.le_refl _) h⟩
  · refine g_PB_digest_6 (by omega) hS ⟨fun h => absurd h (nI_ge hk (by decide)), fun _ => ?_⟩
    refine c_PB_counted hC (by omega) hS hk ⟨_, rfl, c_PB_mixed (by omega) hS ⟨_, rfl, ?_⟩⟩
    rw [nI_1]; exact ih
  refine fd_loop (n := T 0 0) (f := dgP T D) (P := fun k a => Wx K_PB_digest d rc rs (fun r μ' => St μ' ∧ Q r μ') 30 [(0, .ref (hd 8 0)), (1, .long a), (3, .int (nI k))] [] μ) (E := fun a => Wx K_PB_digest d rc rs (fun r μ' => St μ' ∧ Q r μ') 56 [(0, .ref (hd 8 0)), (1, .long a), (3, .int 0)] [] μ) (fun a h => ?_) (fun k a hk ih => ?_) ?_
  · refine g_PB_digest_30 (by omega) hS ⟨fun _ => h, fun h => absurd ?_ h⟩
    rw [hC.p3]; exact Int32.le_refl _
  · refine g_PB_digest_30 (by omega) hS ⟨fun h => absurd h ?_, fun _ => c_PB_mixedParish hC (by omega) hS hk ⟨_, rfl, ?_⟩⟩
    · rw [hC.p3]; exact nI_ge hk (by omega)
    · rw [nI_1]; exact ih
  refine fd_loop (n := D 1 0 0) (f := dgS T D) (P := fun k a => Wx K_PB_digest d rc rs (fun r μ' => St μ' ∧ Q r μ') 56 [(0, .ref (hd 8 0)), (1, .long a), (3, .int (nI k))] [] μ) (E := fun a => Wx K_PB_digest d rc rs (fun r μ' => St μ' ∧ Q r μ') 82 [(0, .ref (hd 8 0)), (1, .long a), (3, .int 0)] [] μ) (fun a h => ?_) (fun k a hk ih => ?_) ?_
  · refine g_PB_digest_56 (by omega) hS ⟨fun _ => h, fun h => absurd ?_ h⟩
    rw [hC.cnt]; exact Int32.le_refl _
  · refine g_PB_digest_56 (by omega) hS ⟨fun h => absurd h ?_, fun _ => c_PB_mixedSheet hC (by omega) hS hk ⟨_, rfl, ?_⟩⟩
    · rw [hC.cnt]; exact nI_ge hk (by omega)
    · rw [nI_1]; exact ih
  refine fd_loop (n := T 2 0) (f := dgR D) (P := fun k a => Wx K_PB_digest d rc rs (fun r μ' => St μ' ∧ Q r μ') 82 [(0, .ref (hd 8 0)), (1, .long a), (3, .int (nI k))] [] μ) (E := fun a => Q (some (.long a)) μ) (fun a h => ?_) (fun k a hk ih => ?_) hQ
  · refine g_PB_digest_82 (by omega) hS ⟨fun _ => ⟨hS, h⟩, fun h => absurd ?_ h⟩
    rw [hC.p5]; exact Int32.le_refl _
  · refine g_PB_digest_82 (by omega) hS ⟨fun h => absurd h ?_, fun _ => ?_⟩
    · rw [hC.p5]; exact nI_ge hk (by omega)
    refine fd_loop (n := 5) (f := fun j a => mx a (nI (roadN D k j))) (P := fun j a => Wx K_PB_digest d rc rs (fun r μ' => St μ' ∧ Q r μ') 96 [(0, .ref (hd 8 0)), (1, .long a), (3, .int (nI k)), (4, .int (nI j))] [] μ) (E := fun a => Wx K_PB_digest d rc rs (fun r μ' => St μ' ∧ Q r μ') 82 [(0, .ref (hd 8 0)), (1, .long a), (3, .int (nI (k + 1)))] [] μ) (fun a h => ?_) (fun j a hj ih2 => ?_) ih
    · refine g_PB_digest_96 (by omega) hS ⟨fun _ => ?_, fun h => absurd (Int32.le_refl _) h⟩
      rw [nI_1]; exact h
    · refine g_PB_digest_96 (by omega) hS ⟨fun h => absurd h (nI_ge hj (by decide)), fun _ => ?_⟩
      refine c_Wd_roadFact hC.1 (by omega) hS hk hj ⟨_, rfl, c_PB_mixed (by omega) hS ⟨_, rfl, ?_⟩⟩
      rw [nI_1]; exact ih2
end FEA
