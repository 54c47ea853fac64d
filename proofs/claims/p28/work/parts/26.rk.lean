/-! reckoning -/
theorem c_Wd_answerW {d rc rs w b : Nat} {y : Int32} {Q : Option Value → Mu → Prop} {μ : Mu} {T : PT} {D : DT} (hC : XC μ w T D) (hD : 1 ≤ d) (hS : St μ) (hb : b < T 0 0) (hQ : Q (some (.int (nI (D 11 b 0)))) μ) : Cal K_Wd_answer d rc rs [.ref (hd 29 w), .ref (hd 0 21), .int (nI b), .int y] μ Q := by
  have hw := hC.w2; have hP := hC.P5
  refine e_Wd_answer (g_Wd_answer_0 (by omega) hw (by decide) hS ⟨vp_in_nI (by omega) (by decide), fun h => absurd h (by decide), fun h => absurd h (by decide), fun h => absurd h (by decide), fun h => absurd h (by decide), fun h => absurd h (by decide), fun h => absurd h (by decide), fun _ => ⟨hS, ?_⟩, fun h => absurd h (by decide)⟩)
  rw [nI_clamp (by omega), hC.wc hb]; exact hQ
theorem sw_bin : ∀ k ∈ [25, 26, 27, 28, 35, 36, 37, 38, 39, 40, 41, 42, 43], ¬ swv k = 8 ∧ ¬ swv k = 10 ∧ ¬ swv k = 11 ∧ ¬ swv k = 18 ∧ ¬ swv k = 19 ∧ ¬ swv k = 20 ∧ ¬ swv k = 21 ∧ ¬ swv k = 22 ∧ ¬ swv k = 17 ∧ ¬ swv k = 30 ∧ ((swv k).toInt < 8 ∨ 30 < (swv k).toInt ∨ swv k = 9 ∨ swv k = 12 ∨ swv k = 13 ∨ swv k = 14 ∨ swv k = 15 ∨ swv k = 16 ∨ swv k = 23 ∨ swv k = 24 ∨ swv k = 25 ∨ swv k = 26 ∨ swv k = 27 ∨ swv k = 28 ∨ swv k = 29) := by decide
theorem c_Cd_reckon {d rc rs q w a to sz : Nat} {l : List Op} {Q : Option Value → Mu → Prop} {μ : Mu} {T : PT} {D : DT} (hC : XC μ w T D) (hD : 5 ≤ d) (hS : St μ) (hq : q < 2) (hsz : mI μ (hd 21 q) 4 = nI sz) (hs4 : sz ≤ 400) (hto : to = a + l.length) (hts4 : to ≤ sz) (hc : codeAt μ q a l) (hok : ∀ o ∈ l, opOK T o) (hh : hts l 0 = some 1)
    (hQ : ∀ μ', FrC q μ μ' → St μ' → Q (some (.int (evV T D l))) μ') : Cal K_Cd_reckon d rc rs [.ref (hd 21 q), .int (nI a), .int (nI to), .ref (hd 29 w)] μ Q := by
  have hw := hC.w2; have hP := hC.P5; have hN := hC.N6
  refine e_Cd_reckon (g_Cd_reckon_0 (by omega) hq hw hS ?_)
  have key : ∀ (l : List Op) (a : Nat) (st : List Int32) (μ' : Mu), to = a + l.length → FrC q μ μ' → St μ' → Stk μ' q st → codeAt μ' q a l → (∀ o ∈ l, opOK T o) → hts l st.length = some 1 → st.length + l.length ≤ 400 → (∀ μ'', FrC q μ μ'' → St μ'' → Q (some (.int ((evS T D l st).headD 0))) μ'') → Wx K_Cd_reckon d rc rs (fun r μ' => St μ' ∧ Q r μ') 8 [(0, .ref (hd 21 q)), (2, .int (nI to)), (3, .ref (hd 29 w)), (4, .int (nI a))] [] μ' := by
    intro l
    induction l with
    | nil =>
      intro a st μ' e f1 f3 f4 f5 f6 f7 f8 hQ'
      have hl : st.length = 1 := Option.some.inj f7
      obtain ⟨x, rfl⟩ : ∃ x, st = [x] := List.length_eq_one_iff.mp hl
      refine g_Cd_reckon_8 (by omega) hq hw f3 ⟨fun _ => ?_, fun h => absurd ?_ h⟩
      · exact c_Cd_pop (by omega) f3 hq f4 (by decide) (fun μ'' g1 g2 g3 => ⟨_, rfl, g2, hQ' μ'' (f1.trans g1) g2⟩)
      · rw [e]; exact Int32.le_refl _
    | cons o l ih =>
      intro a st μ' e f1 f3 f4 f5 f6 f7 f8 hQ'
      have hC' : XC μ' w T D := hC.fr f1.1 f1.2.1 (by unfold OwC; omega)
      rw [List.length_cons] at e f8
      have hoo := f6 o List.mem_cons_self
      obtain ⟨⟨k1, k2, k3, k4⟩, f5'⟩ := f5
      obtain ⟨h', hh1, hh2⟩ := hts_cons f7
      have hpx : px μ' (hd 22 q) a = o.1 := px_eq (by decide) k1
      have hne : mR μ' (hd 22 q) a ≠ none := by rw [k1]; exact Option.some_ne_none _
      -- the way on, with a value pushed
      have on : ∀ (st' : List Int32), stp T D o st = st' → st'.length = h' → h' + l.length ≤ 400 → ∀ μ2, FrC q μ' μ2 → St μ2 → Stk μ2 q st' → Wx K_Cd_reckon d rc rs (fun r μ' => St μ' ∧ Q r μ') 8 [(0, .ref (hd 21 q)), (2, .int (nI to)), (3, .ref (hd 29 w)), (4, .int (nI a + 1))] [] μ2 := by
        intro st' es el hl4 μ2 g1 g2 g3
        rw [nI_1]
        refine ih (a + 1) st' μ2 (by omega) (f1.trans g1) g2 g3 (f5'.fr g1) (fun x hx => f6 x (List.mem_cons_of_mem _ hx)) (by rw [el]; exact hh2) (by omega) (fun μ3 m1 m2 => ?_)
        have := hQ' μ3 m1 m2
        rw [evS, es] at this
        exact this
      refine g_Cd_reckon_8 (by omega) hq hw f3 ⟨fun h => absurd h (nI_ge (by omega) (by omega)), fun _ => ⟨fun h => absurd h ?_, fun _ => ?_⟩⟩
      · rw [f1.2.2, hsz]; exact nI_ge (by omega) (by omega)
      rw [nI_clamp (by omega), hpx]
      have hin : vp_in (nI a) 400 := vp_in_nI (by omega) (by decide)
      refine ⟨hin, hne, ?_⟩
      rcases hoo with ⟨o1, o2⟩ | o1 | ⟨o1, o2, o3, o4⟩ | o1 | o1 | o1
      · have hh1' : h' = st.length + 1 := by
          rw [hop, if_pos (Or.inl o1)] at hh1; exact (Option.some.inj hh1).symm
        have hs' : stp T D o st = nI o.2.1 :: st := by unfold stp; rw [if_pos o1]
        rw [o1]
        refine ⟨fun h => absurd h (by decide), fun h => absurd h (by decide), fun _ => ⟨hin, ?_⟩, fun h => absurd h (by decide), fun h => absurd h (by decide)⟩
        rw [k2 o1]
        exact c_Cd_push (by omega) f3 hq f4 (by omega) (fun μ2 g1 g2 g3 => ⟨rfl, on _ hs' (by rw [List.length_cons, hh1']) (by omega) μ2 g1 g2 g3⟩)
      · have hh1' : h' = st.length + 1 := by
          rw [hop, if_pos (Or.inr (Or.inl o1))] at hh1; exact (Option.some.inj hh1).symm
        have hs' : stp T D o st = nI (D 0 0 0) :: st := by unfold stp; rw [if_neg (by omega), if_pos o1]
        obtain ⟨c, c5, ec⟩ := k3 o1
        rw [o1]
        refine ⟨fun h => absurd h (by decide), fun _ => ⟨hin, hin, ?_⟩, fun h => absurd h (by decide), fun h => absurd h (by decide), fun h => absurd h (by decide)⟩
        rw [ec]
        refine c_Wd_answerDay hC' (by omega) f3 c5 ⟨_, rfl, ?_⟩
        exact c_Cd_push (by omega) f3 hq f4 (by omega) (fun μ2 g1 g2 g3 => ⟨rfl, on _ hs' (by rw [List.length_cons, hh1']) (by omega) μ2 g1 g2 g3⟩)
      · have hh1' : h' = st.length + 1 := by
          rw [hop, if_pos (Or.inr (Or.inr ⟨o1, o2⟩))] at hh1; exact (Option.some.inj hh1).symm
        have hs' : stp T D o st = ansX T D o.1 o.2.1 o.2.2 :: st := by unfold stp; rw [if_neg (by omega), if_neg (by omega), if_pos ⟨o1, o2⟩]
        obtain ⟨k5, k6⟩ := k4 o1 o2
        have hsw : (∀ k ∈ [18, 19, 20, 21, 22, 23], ¬ swv k = 8 ∧ (swv k = 10 ∨ swv k = 11 ∨ swv k = 18 ∨ swv k = 19 ∨ swv k = 20 ∨ swv k = 21 ∨ swv k = 22) ∧ ¬ swv k = 17 ∧ ¬ swv k = 30 ∧ ¬ ((swv k).toInt < 8 ∨ 30 < (swv k).toInt ∨ swv k = 9 ∨ swv k = 12 ∨ swv k = 13 ∨ swv k = 14 ∨ swv k = 15 ∨ swv k = 16 ∨ swv k = 23 ∨ swv k = 24 ∨ swv k = 25 ∨ swv k = 26 ∨ swv k = 27 ∨ swv k = 28 ∨ swv k = 29)) := by decide
        obtain ⟨w1, w2, w3, w4, w5⟩ := hsw o.1 (by simp only [List.mem_cons, List.not_mem_nil, or_false]; omega)
        refine ⟨fun h => absurd h w1, fun _ => ⟨hin, hin, ?_⟩, fun h => absurd h w3, fun h => absurd h w4, fun h => absurd h w5⟩
        have hpush : Cal K_Cd_push (d - 1) 0 0 [.ref (hd 21 q), .int (ansX T D o.1 o.2.1 o.2.2)] μ' (fun r μ17 => r = none ∧ Wx K_Cd_reckon d rc rs (fun r μ' => St μ' ∧ Q r μ') 8 [(0, .ref (hd 21 q)), (2, .int (nI to)), (3, .ref (hd 29 w)), (4, .int (nI a + 1))] [] μ17) :=
          c_Cd_push (by omega) f3 hq f4 (by omega) (fun μ2 g1 g2 g3 => ⟨rfl, on _ hs' (by rw [List.length_cons, hh1']) (by omega) μ2 g1 g2 g3⟩)
        rw [k5]
        by_cases h21 : o.1 = 21
        · rw [h21] at hpush ⊢
          exact c_Wd_answerW hC' (by omega) f3 o3 ⟨_, rfl, hpush⟩
        · rw [k6 h21]
          exact c_Wd_answer hC' (by omega) f3 ⟨o1, o2⟩ o3 (by have := o4 h21; omega) ⟨_, rfl, hpush⟩
      · have hh1' : h' = st.length ∧ 1 ≤ st.length := by
          rw [hop, if_neg (by omega), if_pos (Or.inl o1)] at hh1
          by_cases h1 : 1 ≤ st.length
          · rw [if_pos h1] at hh1; exact ⟨(Option.some.inj hh1).symm, h1⟩
          · rw [if_neg h1] at hh1; cases hh1
        obtain ⟨x, r, rfl⟩ : ∃ x r, st = x :: r := by
          cases st with
          | nil => exact absurd hh1'.2 (by decide)
          | cons x r => exact ⟨x, r, rfl⟩
        have hs' : stp T D o (x :: r) = -x :: r := by rw [stp, if_neg (by omega), if_neg (by omega), if_neg (by omega), if_pos o1]
        rw [o1]
        rw [List.length_cons] at hh1' f8
        refine ⟨fun h => absurd h (by decide), fun h => absurd h (by decide), fun h => absurd h (by decide), fun _ => ?_, fun h => absurd h (by decide)⟩
        refine c_Cd_pop (by omega) f3 hq f4 (by omega) (fun μ2 g1 g2 g3 => ⟨_, rfl, ?_⟩)
        exact c_Cd_push (by omega) g2 hq g3 (by omega) (fun μ3 m1 m2 m3 => ⟨rfl, on _ hs' (by rw [List.length_cons]; omega) (by omega) μ3 (g1.trans m1) m2 m3⟩)
      · have hh1' : h' = st.length ∧ 1 ≤ st.length := by
          rw [hop, if_neg (by omega), if_pos (Or.inr o1)] at hh1
          by_cases h1 : 1 ≤ st.length
          · rw [if_pos h1] at hh1; exact ⟨(Option.some.inj hh1).symm, h1⟩
          · rw [if_neg h1] at hh1; cases hh1
        obtain ⟨x, r, rfl⟩ : ∃ x r, st = x :: r := by
          cases st with
          | nil => exact absurd hh1'.2 (by decide)
          | cons x r => exact ⟨x, r, rfl⟩
        have hs' : stp T D o (x :: r) = (1 - x) :: r := by rw [stp, if_neg (by omega), if_neg (by omega), if_neg (by omega), if_neg (by omega), if_pos o1]
        rw [o1]
        rw [List.length_cons] at hh1' f8
        refine ⟨fun _ => ?_, fun h => absurd h (by decide), fun h => absurd h (by decide), fun h => absurd h (by decide), fun h => absurd h (by decide)⟩
        refine c_Cd_pop (by omega) f3 hq f4 (by omega) (fun μ2 g1 g2 g3 => ⟨_, rfl, ?_⟩)
        exact c_Cd_push (by omega) g2 hq g3 (by omega) (fun μ3 m1 m2 m3 => ⟨rfl, on _ hs' (by rw [List.length_cons]; omega) (by omega) μ3 (g1.trans m1) m2 m3⟩)
      · have hr := (by decide : ∀ k ∈ [25, 26, 27, 28, 35, 36, 37, 38, 39, 40, 41, 42, 43], ¬ (k = 45 ∨ k = 17 ∨ (18 ≤ k ∧ k ≤ 23)) ∧ ¬ (k = 48 ∨ k = 24)) o.1 o1
        have hh1' : h' = st.length - 1 ∧ 2 ≤ st.length := by
          rw [hop, if_neg hr.1, if_neg hr.2] at hh1
          by_cases h1 : 2 ≤ st.length
          · rw [if_pos h1] at hh1; exact ⟨(Option.some.inj hh1).symm, h1⟩
          · rw [if_neg h1] at hh1; cases hh1
        obtain ⟨y, x, r, rfl⟩ : ∃ y x r, st = y :: x :: r := by
          match st, hh1'.2 with
          | y :: x :: r, _ => exact ⟨y, x, r, rfl⟩
          | [_], h => exact absurd h (by simp)
          | [], h => exact absurd h (by simp)
        have hs' : stp T D o (y :: x :: r) = jn o.1 x y :: r := by rw [stp, if_neg (by omega), if_neg (by omega), if_neg (by omega), if_neg (by omega), if_neg (by omega)]
        obtain ⟨w1, w2, w3, w4, w5, w6, w7, w8, w9, w10, w11⟩ := sw_bin o.1 o1
        rw [List.length_cons, List.length_cons] at hh1' f8
        refine ⟨fun h => absurd h w1, fun h => ?_, fun h => absurd h w9, fun h => absurd h w10, fun _ => ?_⟩
        · exfalso
          rcases h with h | h | h | h | h | h | h
          · exact w2 h
          · exact w3 h
          · exact w4 h
          · exact w5 h
          · exact w6 h
          · exact w7 h
          · exact w8 h
        refine c_Cd_pop (by omega) f3 hq f4 (by rw [List.length_cons]; omega) (fun μ2 g1 g2 g3 => ⟨_, rfl, ?_⟩)
        refine c_Cd_pop (by omega) g2 hq g3 (by omega) (fun μ3 m1 m2 m3 => ⟨_, rfl, ?_⟩)
        refine c_Cd_joined (by omega) m2 o1 ⟨_, rfl, ?_⟩
        exact c_Cd_push (by omega) m2 hq m3 (by omega) (fun μ4 n1 n2 n3 => ⟨rfl, on _ hs' (by rw [List.length_cons]; omega) (by omega) μ4 ((g1.trans m1).trans n1) n2 n3⟩)
  have hS0 : St (setI μ (hd 21 q) 5 0) := hS
  have f0 : FrC q μ (setI μ (hd 21 q) 5 0) := ⟨Fr.rf.setI (by decide) ⟨Or.inl rfl, rfl⟩, rfl, by simp (disch := decide) only [rd_k]⟩
  exact key l a [] _ hto f0 hS0 ⟨rd_eq, fun j hj => absurd hj (Nat.not_lt_zero _)⟩ (hc.fr f0) hok hh (by rw [List.length_nil]; omega) hQ
