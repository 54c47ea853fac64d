/-! worlds change -/
theorem DB.ud7 {T : PT} {D : DT} (h : DB T D) {b j v : Nat} (hv : v ≤ D 1 0 0) (hp : v ≠ 0 → D 4 (v - 1) 0 = j % 5 ∧ D 4 (v - 1) 1 = j / 5) : DB T (ud D 7 b j v) := by
  obtain ⟨h1, h2, h3, h4⟩ := h
  refine ⟨h1, h2, fun c hc => ?_, h4⟩
  obtain ⟨b1, b2, b3, b4, b5⟩ := h3 c hc
  refine ⟨b1, fun k hk => ?_, b3, b4, fun k hk hne => ?_⟩
  · by_cases hq : (7 : Nat) = 7 ∧ c = b ∧ k = j
    · rw [show ud D 7 b j v 7 c k = v from if_pos hq]; exact hv
    · rw [show ud D 7 b j v 7 c k = D 7 c k from if_neg hq]; exact b2 k hk
  · by_cases hq : (7 : Nat) = 7 ∧ c = b ∧ k = j
    · rw [show ud D 7 b j v 7 c k = v from if_pos hq] at hne ⊢
      obtain ⟨-, -, rfl⟩ := hq
      exact hp hne
    · rw [show ud D 7 b j v 7 c k = D 7 c k from if_neg hq] at hne ⊢
      exact b5 k hk hne
theorem DB.ud6 {T : PT} {D : DT} (h : DB T D) {b j v : Nat} (hv : v ≤ D 1 0 0) : DB T (ud D 6 b j v) := by
  obtain ⟨h1, h2, h3, h4⟩ := h
  refine ⟨h1, h2, fun c hc => ?_, h4⟩
  obtain ⟨b1, b2, b3, b4, b5⟩ := h3 c hc
  refine ⟨fun k hk => ?_, b2, b3, b4, b5⟩
  by_cases hq : (6 : Nat) = 6 ∧ c = b ∧ k = j
  · rw [show ud D 6 b j v 6 c k = v from if_pos hq]; exact hv
  · rw [show ud D 6 b j v 6 c k = D 6 c k from if_neg hq]; exact b1 k hk
theorem DB.ud8 {T : PT} {D : DT} (h : DB T D) {b j v : Nat} (hv : v ≤ 1) : DB T (ud D 8 b j v) := by
  obtain ⟨h1, h2, h3, h4⟩ := h
  refine ⟨h1, h2, fun c hc => ?_, h4⟩
  obtain ⟨b1, b2, b3, b4, b5⟩ := h3 c hc
  refine ⟨b1, b2, fun k hk => ?_, b4, b5⟩
  by_cases hq : (8 : Nat) = 8 ∧ c = b ∧ k = j
  · rw [show ud D 8 b j v 8 c k = v from if_pos hq]; exact hv
  · rw [show ud D 8 b j v 8 c k = D 8 c k from if_neg hq]; exact b3 k hk
theorem DB.ud11 {T : PT} {D : DT} (h : DB T D) {b v : Nat} (hv : v ≤ 60) : DB T (ud D 11 b 0 v) := by
  obtain ⟨h1, h2, h3, h4⟩ := h
  refine ⟨h1, h2, fun c hc => ?_, h4⟩
  obtain ⟨b1, b2, b3, b4, b5⟩ := h3 c hc
  refine ⟨b1, b2, b3, ?_, b5⟩
  by_cases hq : (11 : Nat) = 11 ∧ c = b ∧ 0 = 0
  · rw [show ud D 11 b 0 v 11 c 0 = v from if_pos hq]; exact hv
  · rw [show ud D 11 b 0 v 11 c 0 = D 11 c 0 from if_neg hq]; exact b4
theorem DB.ud10 {T : PT} {D : DT} (h : DB T D) {r j v : Nat} (hv : v < 2 ^ 20 + 20) : DB T (ud D 10 r j v) := by
  obtain ⟨h1, h2, h3, h4⟩ := h
  refine ⟨h1, h2, h3, fun c hc => ?_⟩
  obtain ⟨b1, b2, b3, b4, b5⟩ := h4 c hc
  refine ⟨b1, b2, b3, b4, fun k hk => ?_⟩
  by_cases hq : (10 : Nat) = 10 ∧ c = r ∧ k = j
  · rw [show ud D 10 r j v 10 c k = v from if_pos hq]; exact hv
  · rw [show ud D 10 r j v 10 c k = D 10 c k from if_neg hq]; exact b5 k hk
theorem DB.ud91 {T : PT} {D : DT} (h : DB T D) {r v : Nat} : DB T (ud D 9 r 1 v) := by
  obtain ⟨h1, h2, h3, h4⟩ := h
  refine ⟨h1, h2, h3, fun c hc => ?_⟩
  obtain ⟨b1, b2, b3, b4, b5⟩ := h4 c hc
  have e : ud D 9 r 1 v 9 c 0 = D 9 c 0 := if_neg (fun q => absurd q.2.2 (by decide))
  exact ⟨b1, b2, by rw [e]; exact b3, by rw [e]; exact b4, b5⟩
theorem DB.ud90 {T : PT} {D : DT} (h : DB T D) {r v : Nat} (h1 : 1 ≤ v) (h9 : v ≤ 9) : DB T (ud D 9 r 0 v) := by
  obtain ⟨h1, h2, h3, h4⟩ := h
  refine ⟨h1, h2, h3, fun c hc => ?_⟩
  obtain ⟨b1, b2, b3, b4, b5⟩ := h4 c hc
  by_cases hq : (9 : Nat) = 9 ∧ c = r ∧ 0 = 0
  · refine ⟨b1, b2, ?_, ?_, b5⟩ <;> rw [show ud D 9 r 0 v 9 c 0 = v from if_pos hq] <;> assumption
  · refine ⟨b1, b2, ?_, ?_, b5⟩ <;> rw [show ud D 9 r 0 v 9 c 0 = D 9 c 0 from if_neg hq] <;> assumption
theorem DB.ud2 {T : PT} {D : DT} (h : DB T D) {v : Nat} : DB T (ud D 2 0 0 v) := h
theorem DB.ud3 {T : PT} {D : DT} (h : DB T D) {v : Nat} : DB T (ud D 3 0 0 v) := h
theorem DB.ud0 {T : PT} {D : DT} (h : DB T D) {v : Nat} (hv : v < 2 ^ 20) : DB T (ud D 0 0 0 v) := by
  obtain ⟨⟨a1, a2, a3, a4, a5, a6⟩, h2, h3, h4⟩ := h
  exact ⟨⟨a1, a2, a3, a4, a5, hv⟩, h2, h3, h4⟩
theorem XC.set {μ : Mu} {w : Nat} {T : PT} {D : DT} (h : XC μ w T D) {f i j v : Nat} (hf : f ≠ 1) (hr : rng 60 5 8 f i j) (hB : DB T (ud D f i j v)) : XC (setI μ (lc w f i j).1 (lc w f i j).2 (en f v)) w T (ud D f i j v) := by
  have hne : ∀ k, mI (setI μ (lc w f i j).1 (lc w f i j).2 (en f v)) (hd 18 (px μ (hd 29 w) 3)) k = mI μ (hd 18 (px μ (hd 29 w) 3)) k := fun k => by
    rw [mI_set, if_neg]
    rcases f with _|_|_|_|_|_|_|_|_|_|_|_|_|f <;> first | (simp only [rng] at hr; done) | (simp only [lc, hd]; omega)
  have e1 : ud D f i j v 1 0 0 = D 1 0 0 := ud_f hf.symm
  refine ⟨h.1, hB, ?_, ?_⟩
  · rw [e1]; exact h.2.2.1.set h.S60 h.P5 h.R8 hr
  · have e2 : px (setI μ (lc w f i j).1 (lc w f i j).2 (en f v)) (hd 29 w) 3 = px μ (hd 29 w) 3 := rfl
    rw [e2, hne, hne, hne, hne]
    exact h.2.2.2
/-- what belongs to the world w -/
def OwW (w κ i : Nat) : Prop := (κ = 29 ∧ i = w) ∨ ((κ = 33 ∨ κ = 34) ∧ 60 * w ≤ i ∧ i < 60 * w + 60) ∨ ((κ = 35 ∨ κ = 36 ∨ κ = 37 ∨ κ = 38) ∧ 5 * w ≤ i ∧ i < 5 * w + 5) ∨ ((κ = 27 ∨ κ = 28) ∧ 8 * w ≤ i ∧ i < 8 * w + 8)
/-! a sheet is hung -/
def cH (D : DT) (b s : Nat) : Prop := ∀ p, p < 5 → if p = D 4 s 0 then D 5 s p = D 6 b p + 1 else D 5 s p ≤ D 6 b p
/-- those that are ahead are shown no longer -/
noncomputable def clrD (D : DT) (b s : Nat) : Nat → DT
  | 0 => D
  | k + 1 => @ite _ (D 7 b (5 * D 4 s 1 + k) ≠ 0 ∧ ah D (D 7 b (5 * D 4 s 1 + k) - 1) s) (Classical.propDecidable _) (ud (clrD D b s k) 7 b (5 * D 4 s 1 + k) 0) (clrD D b s k)
noncomputable def hangD (T : PT) (D : DT) (b s : Nat) : DT :=
  let D1 := ud (ud (ud D 8 b s 0) 11 b 0 (D 11 b 0 - 1)) 6 b (D 4 s 0) (D 6 b (D 4 s 0) + 1)
  ud (ud (clrD D1 b s (T 0 0)) 7 b (5 * D 4 s 1 + D 4 s 0) (s + 1)) 2 0 0 (D 2 0 0 + 1)
theorem clrD_f {D : DT} {b s : Nat} : ∀ (k f i j : Nat), (f ≠ 7 ∨ i ≠ b) → clrD D b s k f i j = D f i j
  | 0, _, _, _, _ => rfl
  | k + 1, f, i, j, h => by
    rw [clrD]
    split
    · rw [ud_ne (fun z => h.elim (fun w => w z.1) (fun w => w z.2.1)), clrD_f k f i j h]
    · exact clrD_f k f i j h
theorem clrD_ge {D : DT} {b s : Nat} : ∀ (k j : Nat), 5 * D 4 s 1 + k ≤ j → clrD D b s k 7 b j = D 7 b j
  | 0, _, _ => rfl
  | k + 1, j, h => by
    rw [clrD]
    split
    · rw [ud_ne (fun z => by have := z.2.2; omega), clrD_ge k j (by omega)]
    · exact clrD_ge k j (by omega)
theorem c_Wd_hang {d rc rs w b s : Nat} {Q : Option Value → Mu → Prop} {μ : Mu} {T : PT} {D : DT} (hC : XC μ w T D) (hD : 2 ≤ d) (hS : St μ) (hb : b < T 0 0) (hs : s < D 1 0 0) (hwt : D 8 b s ≠ 0) (hwc : 1 ≤ D 11 b 0) (hch : cH D b s)
    (hQ : ∀ μ', Fr (OwW w) μ μ' → mR μ' = mR μ → St μ' → XC μ' w T (hangD T D b s) → Q none μ') : Cal K_Wd_hang d rc rs [.ref (hd 29 w), .ref (hd 35 (5 * w + b)), .int (nI s)] μ Q := by
  have hw := hC.w2; have hP := hC.P5; have h60 := hC.S60; have hN := hC.N6
  obtain ⟨a1, a2, a3, a4, a5, a6, a7⟩ := hC.shB hs
  obtain ⟨b1, b2, b3, b4, b5⟩ := hC.bdB hb
  refine e_Wd_hang (g_Wd_hang_0 (by omega) hw (by omega) hS ⟨vp_in_nI (by omega) (by decide), ?_⟩)
  refine c_Bd_endWaiting (by omega) hS (by omega) (by omega) (fun _ => ?_) (fun e => absurd (by rw [hC.wait hb (by omega), I0, nI_eq (by have := b3 s (by omega); omega) (by decide)] at e; exact e) hwt)
  refine ⟨rfl, ?_⟩
  -- the memory behind the waiting
  have hC1 := hC.set (f := 8) (i := b) (j := s) (v := 0) (by decide) ⟨by omega, by omega⟩ (hC.2.1.ud8 (by decide))
  have hC2 := hC1.set (f := 11) (i := b) (j := 0) (v := D 11 b 0 - 1) (by decide) ⟨by omega, rfl⟩ (hC1.2.1.ud11 (by omega))
  have e3 : mI μ (hd 35 (5 * w + b)) 3 - 1 = nI (D 11 b 0 - 1) := by rw [hC.wc hb, I1, nI_sub hwc]
  rw [e3]
  have hk := hch (D 4 s 0) (by omega)
  rw [if_pos rfl] at hk
  have hst := a7 (D 4 s 0) (by omega)
  have hC3 := hC2.set (f := 6) (i := b) (j := D 4 s 0) (v := D 6 b (D 4 s 0) + 1) (by decide) ⟨by omega, by omega⟩ (hC2.2.1.ud6 (by show _ ≤ D 1 0 0; omega))
  have q1 : mI (setI (setI μ (hd 38 (5 * w + b)) s (nI 0)) (hd 35 (5 * w + b)) 3 (nI (D 11 b 0 - 1))) (hd 33 (60 * w + s)) 1 = nI (D 4 s 0) := hC2.s1 hs
  have q2 : mI (setI (setI μ (hd 38 (5 * w + b)) s (nI 0)) (hd 35 (5 * w + b)) 3 (nI (D 11 b 0 - 1))) (hd 36 (5 * w + b)) (D 4 s 0) = nI (D 6 b (D 4 s 0)) := hC2.num hb (by omega)
  rw [nI_clamp (by omega), q1, nI_clamp (by omega), q2, I1, nI_add]
  refine ⟨vp_in_nI (by omega) (by decide), vp_in_nI (by omega) (by decide), ?_⟩
  have fr3 : Fr (OwW w) μ (setI (setI (setI μ (hd 38 (5 * w + b)) s (nI 0)) (hd 35 (5 * w + b)) 3 (nI (D 11 b 0 - 1))) (hd 36 (5 * w + b)) (D 4 s 0) (nI (D 6 b (D 4 s 0) + 1))) :=
    ((Fr.rf.setI (by decide) (by unfold OwW; omega)).setI (by decide) (by unfold OwW; omega)).setI (by decide) (by unfold OwW; omega)
  have mr3 : mR (setI (setI (setI μ (hd 38 (5 * w + b)) s (nI 0)) (hd 35 (5 * w + b)) 3 (nI (D 11 b 0 - 1))) (hd 36 (5 * w + b)) (D 4 s 0) (nI (D 6 b (D 4 s 0) + 1))) = mR μ := rfl
  have hC3' : XC (setI (setI (setI μ (hd 38 (5 * w + b)) s (nI 0)) (hd 35 (5 * w + b)) 3 (nI (D 11 b 0 - 1))) (hd 36 (5 * w + b)) (D 4 s 0) (nI (D 6 b (D 4 s 0) + 1))) w T (ud (ud (ud D 8 b s 0) 11 b 0 (D 11 b 0 - 1)) 6 b (D 4 s 0) (D 6 b (D 4 s 0) + 1)) := hC3
  clear hC1 hC2 hC3 e3 q1 q2
  generalize hmu : setI (setI (setI μ (hd 38 (5 * w + b)) s (nI 0)) (hd 35 (5 * w + b)) 3 (nI (D 11 b 0 - 1))) (hd 36 (5 * w + b)) (D 4 s 0) (nI (D 6 b (D 4 s 0) + 1)) = μ3 at fr3 mr3 hC3' ⊢
  have hS3 : St μ3 := hS.of_eq fr3.1 mr3
  generalize hD1 : ud (ud (ud D 8 b s 0) 11 b 0 (D 11 b 0 - 1)) 6 b (D 4 s 0) (D 6 b (D 4 s 0) + 1) = D1 at hC3'
  have d4 : ∀ i j, D1 4 i j = D 4 i j := fun i j => by rw [← hD1]; rfl
  have d7 : ∀ i j, D1 7 i j = D 7 i j := fun i j => by rw [← hD1]; rfl
  have d1 : D1 1 0 0 = D 1 0 0 := by rw [← hD1]; rfl
  have d2 : D1 2 0 0 = D 2 0 0 := by rw [← hD1]; rfl
  have hQ' : ∀ μ', Fr (OwW w) μ μ' → mR μ' = mR μ → St μ' → XC μ' w T (ud (ud (clrD D1 b s (T 0 0)) 7 b (5 * D 4 s 1 + D 4 s 0) (s + 1)) 2 0 0 (D 2 0 0 + 1)) → Q none μ' := fun μ' f1 f2 f3 f4 => hQ μ' f1 f2 f3 (by unfold hangD; rw [hD1]; exact f4)
  have key : ∀ k, k ≤ T 0 0 → ∀ μ', Fr (OwW w) μ μ' → mR μ' = mR μ → St μ' → XC μ' w T (clrD D1 b s k) → Wx K_Wd_hang d rc rs (fun r μ' => St μ' ∧ Q r μ') 28 [(0, .ref (hd 29 w)), (1, .ref (hd 35 (5 * w + b))), (2, .int (nI s)), (3, .ref (hd 33 (60 * w + s))), (4, .int (nI k))] [] μ' := by
    refine up_loop _ (fun μ' f1 f2 f3 f4 => ?_) (fun k hk ih μ' f1 f2 f3 f4 => ?_)
    · have c4 : ∀ i j, clrD D1 b s (T 0 0) 4 i j = D 4 i j := fun i j => (clrD_f _ _ _ _ (Or.inl (by decide))).trans (d4 i j)
      have c1 : clrD D1 b s (T 0 0) 1 0 0 = D 1 0 0 := (clrD_f _ _ _ _ (Or.inl (by decide))).trans d1
      have hs' : s < clrD D1 b s (T 0 0) 1 0 0 := by rw [c1]; exact hs
      refine g_Wd_hang_28 (by omega) hw (by omega) (by omega) f3 ⟨fun _ => ?_, fun h => absurd ?_ h⟩
      · rw [f4.s1 hs', f4.s2 hs', c4, c4]
        refine c_Bd_show (by omega) f3 (by omega) (by omega) (by omega) ⟨rfl, ?_⟩
        have g1 := f4.set (f := 7) (i := b) (j := 5 * D 4 s 1 + D 4 s 0) (v := s + 1) (by decide) ⟨by omega, by omega⟩ (f4.2.1.ud7 (by rw [c1]; omega) (fun _ => by rw [Nat.add_sub_cancel, c4, c4]; omega))
        have g1' : XC (setI μ' (hd 37 (5 * w + b)) (5 * D 4 s 1 + D 4 s 0) (nI s)) w T (ud (clrD D1 b s (T 0 0)) 7 b (5 * D 4 s 1 + D 4 s 0) (s + 1)) := by rw [← oI_s]; exact g1
        have g2 := g1'.set (f := 2) (i := 0) (j := 0) (v := D 2 0 0 + 1) (by decide) ⟨rfl, rfl⟩ g1'.2.1.ud2
        have q : mI (setI μ' (hd 37 (5 * w + b)) (5 * D 4 s 1 + D 4 s 0) (nI s)) (hd 29 w) 6 + 1 = nI (D 2 0 0 + 1) := by
          rw [g1'.hung, I1, nI_add, ud_f (by decide), clrD_f _ _ _ _ (Or.inl (by decide)), d2]
        rw [q]
        have hSt : St (setI (setI μ' (hd 37 (5 * w + b)) (5 * D 4 s 1 + D 4 s 0) (nI s)) (hd 29 w) 6 (nI (D 2 0 0 + 1))) := f3
        exact ⟨hSt, hQ' _ ((f1.setI (by decide) (by unfold OwW; omega)).setI (by decide) (by unfold OwW; omega)) f2 hSt g2⟩
      · rw [f4.pP]; exact Int32.le_refl _
    · have c4 : ∀ i j, clrD D1 b s k 4 i j = D 4 i j := fun i j => (clrD_f _ _ _ _ (Or.inl (by decide))).trans (d4 i j)
      have c5 : ∀ i j, clrD D1 b s k 5 i j = D1 5 i j := fun i j => (clrD_f _ _ _ _ (Or.inl (by decide)))
      have c1 : clrD D1 b s k 1 0 0 = D 1 0 0 := (clrD_f _ _ _ _ (Or.inl (by decide))).trans d1
      have c7 : clrD D1 b s k 7 b (5 * D 4 s 1 + k) = D1 7 b (5 * D1 4 s 1 + k) := by rw [clrD_ge _ _ (by rw [d4]; omega), d4]
      have hs' : s < clrD D1 b s k 1 0 0 := by rw [c1]; exact hs
      refine g_Wd_hang_28 (by omega) hw (by omega) (by omega) f3 ⟨fun h => absurd h ?_, fun _ => ?_⟩
      · rw [f4.pP]; exact nI_ge hk (by omega)
      rw [f4.s2 hs', c4]
      refine c_Bd_shownFrom (by omega) f3 (by omega) (by omega) (by omega) ?_
      obtain ⟨e1, e2⟩ := f4.shwF hb (n := D 4 s 1) (p := k) (by omega) (by omega)
      have e3 := (f4.bdB hb).2.1 (5 * D 4 s 1 + k) (by omega)
      rw [e1]
      rw [c7] at e2 e3 ⊢
      rw [c1] at e3
      refine ⟨_, rfl, fun z => ?_, fun z => ?_⟩
      · rw [oI_m1 e2] at z
        rw [nI_1]
        refine ih μ' f1 f2 f3 ?_
        rw [clrD, if_neg (fun y => y.1 z)]; exact f4
      · rw [oI_m1 e2] at z
        have ht : D1 7 b (5 * D1 4 s 1 + k) - 1 < clrD D1 b s k 1 0 0 := by rw [c1]; omega
        obtain ⟨t1, t2, t3, t4, t5, t6, t7⟩ := f4.shB ht
        obtain ⟨u1, u2, u3, u4, u5, u6, u7⟩ := f4.shB hs'
        rw [oI_p (by omega), nI_clamp (by omega)]
        have hx := t7 (clrD D1 b s k 4 (D1 7 b (5 * D1 4 s 1 + k) - 1) 0) (by omega)
        have hy := u7 (clrD D1 b s k 4 (D1 7 b (5 * D1 4 s 1 + k) - 1) 0) (by omega)
        rw [c1] at hx hy
        refine ⟨vp_in_nI (by omega) (by decide), ?_⟩
        refine c_Sh_isAheadOf (by omega) f3 (by omega) (by omega) (f4.s1 ht) (by omega) (f4.stamp ht (by omega)) (f4.stamp hs' (by omega)) (by omega) (by omega) ?_
        have hah : (clrD D1 b s k 5 (D1 7 b (5 * D1 4 s 1 + k) - 1) (clrD D1 b s k 4 (D1 7 b (5 * D1 4 s 1 + k) - 1) 0) ≤ clrD D1 b s k 5 s (clrD D1 b s k 4 (D1 7 b (5 * D1 4 s 1 + k) - 1) 0)) = ah D1 (D1 7 b (5 * D1 4 s 1 + k) - 1) s := by
          simp only [ah, c5, c4, d4]
        rw [hah]
        refine ⟨_, rfl, fun y => ?_, fun y => ?_⟩
        · rw [bI_z] at y
          rw [nI_1]
          refine ih μ' f1 f2 f3 ?_
          rw [clrD, if_neg (fun x => y x.2)]; exact f4
        · rw [bI_z, Classical.not_not] at y
          rw [f4.s2 hs', c4]
          refine c_Bd_show (by omega) f3 (by omega) (by omega) (by omega) ⟨rfl, ?_⟩
          rw [nI_1]
          have g1 := f4.set (f := 7) (i := b) (j := 5 * D 4 s 1 + k) (v := 0) (by decide) ⟨by omega, by omega⟩ (f4.2.1.ud7 (Nat.zero_le _) (fun x => absurd rfl x))
          have hSt : St (setI μ' (hd 37 (5 * w + b)) (5 * D 4 s 1 + k) (-1)) := f3
          refine ih _ (f1.setI (by decide) (by unfold OwW; omega)) f2 hSt ?_
          rw [clrD, if_pos ⟨z, y⟩, d4]
          exact g1
  exact key 0 (Nat.zero_le _) μ3 fr3 mr3 hS3 hC3'
