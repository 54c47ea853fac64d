/-! the faces: what they answer -/
def RV : Type := Int32 ⊕ (Nat × Nat)
def RV.ok (v : Int32) : RV := Sum.inl v
def RV.ex (k c : Nat) : RV := Sum.inr (k, c)
def RV.c (r : RV) : Option Value := match r with
  | .inl v => some (.int v)
  | .inr z => some (.float (UInt32.ofNat z.1))
noncomputable def ifP {α : Type} (p : Prop) (a b : α) : α := @ite _ p (Classical.propDecidable p) a b
theorem ifP_t {α : Type} {p : Prop} {a b : α} (h : p) : ifP p a b = a := if_pos h
theorem ifP_f {α : Type} {p : Prop} {a b : α} (h : ¬ p) : ifP p a b = b := if_neg h
def inR (x : Int32) (n : Nat) : Prop := 0 ≤ x.toInt ∧ x.toInt < n
theorem inR.ex {x : Int32} {n : Nat} (h : inR x n) : ∃ k, k < n ∧ k < 2 ^ 31 ∧ x = nI k := by
  obtain ⟨h1, h2⟩ := h
  have h3 : x.toInt < 2 ^ 31 := x.toInt_lt
  have h4 : x.toInt.toNat < 2 ^ 31 := by omega
  refine ⟨x.toInt.toNat, by omega, h4, Int32.toInt_inj.mp ?_⟩
  rw [nI_toInt h4]; omega
theorem inR.of {k n : Nat} (hk : k < 2 ^ 31) : inR (nI k) n ↔ k < n := by
  unfold inR; rw [nI_toInt hk]; omega
theorem two {x y : Int32} {n : Nat} (e : y = nI n) (hn : n < 2 ^ 31) {A B : Prop} (hb : ¬ inR x n → B) (ha : inR x n → A) : (x < 0 → B) ∧ (¬ x < 0 → ((x < y → A) ∧ (¬ x < y → B))) := by
  subst e
  unfold inR at hb ha
  rw [Int32.lt_iff_toInt_lt, Int32.lt_iff_toInt_lt, nI_toInt hn]
  have e0 : (0 : Int32).toInt = 0 := by decide
  rw [e0]
  exact ⟨fun h => hb (by omega), fun h => ⟨fun h2 => ha (by omega), fun h2 => hb (by omega)⟩⟩
theorem twoG {x y : Int32} {n : Nat} (e : y = nI n) (hn : n < 2 ^ 31) {A B : Prop} (hb : ¬ inR x n → B) (ha : inR x n → A) : (x < 0 → B) ∧ (¬ x < 0 → ((y ≤ x → B) ∧ (¬ y ≤ x → A))) := by
  subst e
  unfold inR at hb ha
  rw [Int32.lt_iff_toInt_lt, Int32.le_iff_toInt_le, nI_toInt hn]
  have e0 : (0 : Int32).toInt = 0 := by decide
  rw [e0]
  exact ⟨fun h => hb (by omega), fun h => ⟨fun h2 => hb (by omega), fun h2 => ha (by omega)⟩⟩
/-- from a to b -/
theorem twoR {a x b : Int32} {A B : Prop} (hb : ¬ (a.toInt ≤ x.toInt ∧ x.toInt ≤ b.toInt) → B) (ha : a.toInt ≤ x.toInt ∧ x.toInt ≤ b.toInt → A) : (x < a → B) ∧ (¬ x < a → ((x ≤ b → A) ∧ (¬ x ≤ b → B))) := by
  rw [Int32.lt_iff_toInt_lt, Int32.le_iff_toInt_le]
  exact ⟨fun h => hb (by omega), fun h => ⟨fun h2 => ha (by omega), fun h2 => hb (by omega)⟩⟩
theorem bIs {p A B : Prop} (hb : ¬ p → B) (ha : p → A) : (bI p = 0 → B) ∧ (¬ bI p = 0 → A) := by
  refine ⟨fun h => hb (bI_z.mp h), fun h => ha (Classical.byContradiction fun z => h (bI_z.mpr z))⟩
/-! queries, as numbers -/
noncomputable def rvCount (T : PT) (D : DT) (L : Nat) (x1 : Int32) : RV := ifP (inR x1 13) (.ok (if x1 = 12 then nI L else nI (tallyN T D x1.toNatClampNeg))) (.ex 2 1)
noncomputable def rvParish (T : PT) (D : DT) (x1 x2 : Int32) : RV := ifP (inR x1 (T 0 0)) (ifP (inR x2 6) (.ok (nI (parishN T D x1.toNatClampNeg x2.toNatClampNeg))) (.ex 2 1)) (.ex 2 1)
noncomputable def rvKnows (T : PT) (D : DT) (x1 x2 : Int32) : RV := ifP (inR x1 (T 0 0)) (ifP (inR x2 (T 0 0)) (.ok (nI (D 6 x1.toNatClampNeg x2.toNatClampNeg))) (.ex 2 1)) (.ex 2 1)
noncomputable def rvSheet (T : PT) (D : DT) (x1 x2 : Int32) : RV := ifP (inR x1 (D 1 0 0)) (ifP (inR x2 8) (.ok (nI (sheetN T D x1.toNatClampNeg x2.toNatClampNeg))) (.ex 2 1)) (.ex 2 1)
noncomputable def rvStamp (T : PT) (D : DT) (x1 x2 : Int32) : RV := ifP (inR x1 (D 1 0 0)) (ifP (inR x2 (T 0 0)) (.ok (nI (D 5 x1.toNatClampNeg x2.toNatClampNeg))) (.ex 2 1)) (.ex 2 1)
noncomputable def rvShown (T : PT) (D : DT) (x1 x2 x3 : Int32) : RV := ifP (inR x1 (T 0 0) ∧ inR x2 (T 1 0)) (ifP (inR x3 (shL D x1.toNatClampNeg x2.toNatClampNeg).length) (.ok (oI ((shL D x1.toNatClampNeg x2.toNatClampNeg).getD x3.toNatClampNeg 0))) (.ex 2 1)) (.ex 2 1)
noncomputable def rvCompare (D : DT) (x1 x2 : Int32) : RV := ifP (inR x1 (D 1 0 0)) (ifP (inR x2 (D 1 0 0)) (ifP (x1 = x2) (.ok 0) (ifP (ah D x1.toNatClampNeg x2.toNatClampNeg) (.ok 1) (ifP (ah D x2.toNatClampNeg x1.toNatClampNeg) (.ok 2) (.ok 3)))) (.ex 2 1)) (.ex 2 1)
noncomputable def rvRoad (T : PT) (D : DT) (x1 x2 : Int32) : RV := ifP (inR x1 (T 2 0)) (ifP (inR x2 5) (.ok (nI (roadN D x1.toNatClampNeg x2.toNatClampNeg))) (.ex 2 1)) (.ex 2 1)
section FQ
variable {d rc rs : Nat} {Q : Option Value → Mu → Prop} {μ : Mu} {T : PT} {C Ct : Nat → List Op} {D : DT} {t : Nat → Nat} {L : Nat} {x x1 x2 x3 : Int32}
theorem CI.p3 (h : CI μ T C Ct D t L x) : mI μ (hd 18 (px μ (hd 8 0) 3)) 3 = nI (T 0 0) := by rw [← h.2.1.2.1]; exact h.1.pP
theorem CI.p4 (h : CI μ T C Ct D t L x) : mI μ (hd 18 (px μ (hd 8 0) 3)) 4 = nI (T 1 0) := by rw [← h.2.1.2.1]; exact h.1.2.2.2.2.1
theorem CI.p5 (h : CI μ T C Ct D t L x) : mI μ (hd 18 (px μ (hd 8 0) 3)) 5 = nI (T 2 0) := by rw [← h.2.1.2.1]; exact h.1.pR
theorem CI.cnt (h : CI μ T C Ct D t L x) : mI μ (hd 29 0) 5 = nI (D 1 0 0) := h.1.2.2.1 1 0 0 ⟨rfl, rfl⟩
theorem c_PB_isParish (hC : CI μ T C Ct D t L x) (hD : 1 ≤ d) (hS : St μ) (hQ : Q (some (.int (bI (inR x1 (T 0 0))))) μ) : Cal K_PB_isParish d rc rs [.ref (hd 8 0), .int x1] μ Q := by
  have h5 := hC.1.P5
  exact e_PB_isParish (g_PB_isParish_0 hD hS (twoG hC.p3 (by omega) (fun h => ⟨hS, by rw [bI_f h] at hQ; exact hQ⟩) (fun h => ⟨hS, by rw [bI_t h] at hQ; exact hQ⟩)))
theorem c_PB_isRoad (hC : CI μ T C Ct D t L x) (hD : 1 ≤ d) (hS : St μ) (hQ : Q (some (.int (bI (inR x1 (T 2 0))))) μ) : Cal K_PB_isRoad d rc rs [.ref (hd 8 0), .int x1] μ Q := by
  have h5 := hC.1.R8
  exact e_PB_isRoad (g_PB_isRoad_0 hD hS (twoG hC.p5 (by omega) (fun h => ⟨hS, by rw [bI_f h] at hQ; exact hQ⟩) (fun h => ⟨hS, by rw [bI_t h] at hQ; exact hQ⟩)))
theorem c_PB_isSheet (hC : CI μ T C Ct D t L x) (hD : 1 ≤ d) (hS : St μ) (hQ : Q (some (.int (bI (inR x1 (D 1 0 0))))) μ) : Cal K_PB_isSheet d rc rs [.ref (hd 8 0), .int x1] μ Q := by
  have h5 := hC.1.S60
  exact e_PB_isSheet (g_PB_isSheet_0 hD hS (twoG hC.cnt (by omega) (fun h => ⟨hS, by rw [bI_f h] at hQ; exact hQ⟩) (fun h => ⟨hS, by rw [bI_t h] at hQ; exact hQ⟩)))
theorem c_PB_isBoardOf (hC : CI μ T C Ct D t L x) (hD : 2 ≤ d) (hS : St μ) (hQ : Q (some (.int (bI (inR x1 (T 0 0) ∧ inR x2 (T 1 0))))) μ) : Cal K_PB_isBoardOf d rc rs [.ref (hd 8 0), .int x1, .int x2] μ Q := by
  have h6 := hC.1.N6
  refine e_PB_isBoardOf (g_PB_isBoardOf_0 (by omega) hS (c_PB_isParish hC (by omega) hS ⟨_, rfl, bIs (fun h => ⟨hS, ?_⟩) (fun h => twoG hC.p4 (by omega) (fun h2 => ⟨hS, ?_⟩) (fun h2 => ⟨hS, ?_⟩))⟩))
  · rw [bI_f (fun z => h z.1)] at hQ; exact hQ
  · rw [bI_f (fun z => h2 z.2)] at hQ; exact hQ
  · rw [bI_t ⟨h, h2⟩] at hQ; exact hQ
theorem c_PB_counted {k : Nat} (hC : CI μ T C Ct D t L x) (hD : 6 ≤ d) (hS : St μ) (hk : k < 13) (hQ : Q (some (.int (if nI k = 12 then nI L else nI (tallyN T D k)))) μ) : Cal K_PB_counted d rc rs [.ref (hd 8 0), .int (nI k)] μ Q := by
  refine e_PB_counted (g_PB_counted_0 (by omega) hS ⟨fun h => ⟨hS, ?_⟩, fun h => ?_⟩)
  · rw [if_pos h] at hQ; rw [hC.2.2.1.2.2.1]; exact hQ
  · rw [if_neg h] at hQ
    have : k ≠ 12 := fun z => h (by rw [z]; rfl)
    exact c_Wd_tally hC.1 (by omega) hS (by omega) ⟨_, rfl, hS, hQ⟩
theorem c_PB_count (hC : CI μ T C Ct D t L x) (hD : 7 ≤ d) (hxx : ∀ k c, rvCount T D L x1 = RV.ex k c → 1 ≤ rc ∧ 6 ≤ rs) (hS : St μ) (hQ : Q (rvCount T D L x1).c μ) : CalT K_PB_count d rc rs [.ref (hd 8 0), .int x1] μ Q := by
  unfold rvCount at hQ hxx
  refine t_PB_count (by omega) (g_PB_count_0 (by omega) hS (two (n := 13) rfl (by decide) (fun h => ?_) (fun h => ?_)))
  · rw [ifP_f h] at hQ; (try rw [ifP_f h] at hxx); exact ⟨(hxx _ _ rfl).1, (hxx _ _ rfl).2, hS, hQ⟩
  · rw [ifP_t h] at hQ; (try rw [ifP_t h] at hxx)
    obtain ⟨k, hk, hk2, rfl⟩ := h.ex
    rw [nI_clamp hk2] at hQ; (try rw [nI_clamp hk2] at hxx)
    exact c_PB_counted hC (by omega) hS hk ⟨_, rfl, hS, hQ⟩
theorem c_PB_parish (hC : CI μ T C Ct D t L x) (hD : 6 ≤ d) (hxx : ∀ k c, rvParish T D x1 x2 = RV.ex k c → 1 ≤ rc ∧ 6 ≤ rs) (hS : St μ) (hQ : Q (rvParish T D x1 x2).c μ) : CalT K_PB_parish d rc rs [.ref (hd 8 0), .int x1, .int x2] μ Q := by
  unfold rvParish at hQ hxx
  refine t_PB_parish hD (g_PB_parish_0 (by omega) hS (c_PB_isParish hC (by omega) hS ⟨_, rfl, bIs (fun h => ?_) (fun h => two (n := 6) rfl (by decide) (fun h2 => ?_) (fun h2 => ?_))⟩))
  · rw [ifP_f h] at hQ; (try rw [ifP_f h] at hxx); exact ⟨(hxx _ _ rfl).1, (hxx _ _ rfl).2, hS, hQ⟩
  · rw [ifP_t h, ifP_f h2] at hQ; (try rw [ifP_t h, ifP_f h2] at hxx); exact ⟨(hxx _ _ rfl).1, (hxx _ _ rfl).2, hS, hQ⟩
  · rw [ifP_t h, ifP_t h2] at hQ; (try rw [ifP_t h, ifP_t h2] at hxx)
    obtain ⟨a, ha, ha2, rfl⟩ := h.ex
    obtain ⟨b, hb, hb2, rfl⟩ := h2.ex
    rw [nI_clamp ha2, nI_clamp hb2] at hQ; (try rw [nI_clamp ha2, nI_clamp hb2] at hxx)
    exact c_Wd_parishFact hC.1 (by omega) hS ha hb ⟨_, rfl, hS, hQ⟩
theorem c_PB_knows (hC : CI μ T C Ct D t L x) (hD : 6 ≤ d) (hxx : ∀ k c, rvKnows T D x1 x2 = RV.ex k c → 1 ≤ rc ∧ 6 ≤ rs) (hS : St μ) (hQ : Q (rvKnows T D x1 x2).c μ) : CalT K_PB_knows d rc rs [.ref (hd 8 0), .int x1, .int x2] μ Q := by
  have h5 := hC.1.P5
  unfold rvKnows at hQ hxx
  refine t_PB_knows hD (g_PB_knows_0 (by omega) hS (c_PB_isParish hC (by omega) hS ⟨_, rfl, bIs (fun h => ?_) (fun h => c_PB_isParish hC (by omega) hS ⟨_, rfl, bIs (fun h2 => ?_) (fun h2 => ?_)⟩)⟩))
  · rw [ifP_f h] at hQ; (try rw [ifP_f h] at hxx); exact ⟨(hxx _ _ rfl).1, (hxx _ _ rfl).2, hS, hQ⟩
  · rw [ifP_t h, ifP_f h2] at hQ; (try rw [ifP_t h, ifP_f h2] at hxx); exact ⟨(hxx _ _ rfl).1, (hxx _ _ rfl).2, hS, hQ⟩
  · rw [ifP_t h, ifP_t h2] at hQ; (try rw [ifP_t h, ifP_t h2] at hxx)
    obtain ⟨a, ha, ha2, rfl⟩ := h.ex
    obtain ⟨b, hb, hb2, rfl⟩ := h2.ex
    rw [nI_clamp ha2, nI_clamp hb2] at hQ ⊢; (try rw [nI_clamp ha2, nI_clamp hb2] at hxx)
    refine ⟨vp_in_nI (by omega) (by decide), vp_in_nI (by omega) (by decide), hS, ?_⟩
    rw [show mI μ (hd 36 (5 * 0 + a)) b = nI (D 6 a b) from hC.1.2.2.1 6 a b ⟨ha, by omega⟩]; exact hQ
theorem c_PB_sheet (hC : CI μ T C Ct D t L x) (hD : 6 ≤ d) (hxx : ∀ k c, rvSheet T D x1 x2 = RV.ex k c → 1 ≤ rc ∧ 6 ≤ rs) (hS : St μ) (hQ : Q (rvSheet T D x1 x2).c μ) : CalT K_PB_sheet d rc rs [.ref (hd 8 0), .int x1, .int x2] μ Q := by
  unfold rvSheet at hQ hxx
  refine t_PB_sheet hD (g_PB_sheet_0 (by omega) hS (c_PB_isSheet hC (by omega) hS ⟨_, rfl, bIs (fun h => ?_) (fun h => two (n := 8) rfl (by decide) (fun h2 => ?_) (fun h2 => ?_))⟩))
  · rw [ifP_f h] at hQ; (try rw [ifP_f h] at hxx); exact ⟨(hxx _ _ rfl).1, (hxx _ _ rfl).2, hS, hQ⟩
  · rw [ifP_t h, ifP_f h2] at hQ; (try rw [ifP_t h, ifP_f h2] at hxx); exact ⟨(hxx _ _ rfl).1, (hxx _ _ rfl).2, hS, hQ⟩
  · rw [ifP_t h, ifP_t h2] at hQ; (try rw [ifP_t h, ifP_t h2] at hxx)
    obtain ⟨a, ha, ha2, rfl⟩ := h.ex
    obtain ⟨b, hb, hb2, rfl⟩ := h2.ex
    rw [nI_clamp ha2, nI_clamp hb2] at hQ; (try rw [nI_clamp ha2, nI_clamp hb2] at hxx)
    exact c_Wd_sheetFact hC.1 (by omega) hS ha hb ⟨_, rfl, hS, hQ⟩
theorem c_PB_stamp (hC : CI μ T C Ct D t L x) (hD : 6 ≤ d) (hxx : ∀ k c, rvStamp T D x1 x2 = RV.ex k c → 1 ≤ rc ∧ 6 ≤ rs) (hS : St μ) (hQ : Q (rvStamp T D x1 x2).c μ) : CalT K_PB_stamp d rc rs [.ref (hd 8 0), .int x1, .int x2] μ Q := by
  have h5 := hC.1.P5
  have h60 := hC.1.S60
  unfold rvStamp at hQ hxx
  refine t_PB_stamp hD (g_PB_stamp_0 (by omega) hS (c_PB_isSheet hC (by omega) hS ⟨_, rfl, bIs (fun h => ?_) (fun h => c_PB_isParish hC (by omega) hS ⟨_, rfl, bIs (fun h2 => ?_) (fun h2 => ?_)⟩)⟩))
  · rw [ifP_f h] at hQ; (try rw [ifP_f h] at hxx); exact ⟨(hxx _ _ rfl).1, (hxx _ _ rfl).2, hS, hQ⟩
  · rw [ifP_t h, ifP_f h2] at hQ; (try rw [ifP_t h, ifP_f h2] at hxx); exact ⟨(hxx _ _ rfl).1, (hxx _ _ rfl).2, hS, hQ⟩
  · rw [ifP_t h, ifP_t h2] at hQ; (try rw [ifP_t h, ifP_t h2] at hxx)
    obtain ⟨a, ha, ha2, rfl⟩ := h.ex
    obtain ⟨b, hb, hb2, rfl⟩ := h2.ex
    rw [nI_clamp ha2, nI_clamp hb2] at hQ ⊢; (try rw [nI_clamp ha2, nI_clamp hb2] at hxx)
    refine ⟨vp_in_nI (by omega) (by decide), vp_in_nI (by omega) (by decide), hS, ?_⟩
    rw [show mI μ (hd 34 (60 * 0 + a)) b = nI (D 5 a b) from hC.1.2.2.1 5 a b ⟨ha, by omega⟩]; exact hQ
theorem c_Bd_shownAtM {b : Nat} (hD : 2 ≤ d) (hS : St μ) (hb : b < 10) (hx : x2 < 0) (hQ : Q (some (.int (-1))) μ) : Cal K_Bd_shownAt d rc rs [.ref (hd 35 b), .int x1, .int x2] μ Q :=
  e_Bd_shownAt (g_Bd_shownAt_0 (by omega) hb hS (g_Bd_shownAt_5 (by omega) hb hS ⟨fun h => absurd h (by decide), fun _ => ⟨fun _ => ⟨hS, hQ⟩, fun h => absurd hx h⟩⟩))
theorem sh_pos {b n l : Nat} (h : l < (shL D b n).length) : (shL D b n).getD l 0 ≠ 0 := by
  have hm : (shL D b n).getD l 0 ∈ shL D b n := by
    rw [List.getD_eq_getElem?_getD, List.getElem?_eq_getElem h]; exact List.getElem_mem h
  exact (sLk_mem _ _ _ _ hm).1
theorem c_PB_shown (hC : CI μ T C Ct D t L x) (hD : 6 ≤ d) (hxx : ∀ k c, rvShown T D x1 x2 x3 = RV.ex k c → 1 ≤ rc ∧ 6 ≤ rs) (hS : St μ) (hQ : Q (rvShown T D x1 x2 x3).c μ) : CalT K_PB_shown d rc rs [.ref (hd 8 0), .int x1, .int x2, .int x3] μ Q := by
  have h5 := hC.1.P5
  have h6 := hC.1.N6
  have h60 := hC.1.S60
  unfold rvShown at hQ hxx
  refine t_PB_shown hD (g_PB_shown_0 (by omega) hS (c_PB_isBoardOf hC (by omega) hS ⟨_, rfl, bIs (fun h => ?_) (fun h => ?_)⟩))
  · rw [ifP_f h] at hQ; (try rw [ifP_f h] at hxx); exact ⟨(hxx _ _ rfl).1, (hxx _ _ rfl).2, hS, hQ⟩
  · rw [ifP_t h] at hQ; (try rw [ifP_t h] at hxx)
    obtain ⟨a, ha, ha2, rfl⟩ := h.1.ex
    obtain ⟨b, hb, hb2, rfl⟩ := h.2.ex
    rw [nI_clamp ha2, nI_clamp hb2] at hQ; (try rw [nI_clamp ha2, nI_clamp hb2] at hxx)
    rw [nI_clamp ha2]
    refine ⟨vp_in_nI (by omega) (by decide), ?_⟩
    by_cases hx : x3 < 0
    · refine c_Bd_shownAtM (by omega) hS (by omega) hx ⟨_, rfl, fun _ => ?_, fun h => absurd rfl h⟩
      have hnr : ¬ inR x3 (shL D a b).length := fun z => by
        have z1 := z.1
        rw [Int32.lt_iff_toInt_lt] at hx
        have e0 : (0 : Int32).toInt = 0 := by decide
        omega
      rw [ifP_f hnr] at hQ hxx
      exact ⟨(hxx _ _ rfl).1, (hxx _ _ rfl).2, hS, hQ⟩
    · have hx0 : 0 ≤ x3.toInt := by
        rw [Int32.lt_iff_toInt_lt] at hx
        have e0 : (0 : Int32).toInt = 0 := by decide
        omega
      obtain ⟨l, hl, hl2, rfl⟩ := inR.ex (x := x3) (n := 2 ^ 31) ⟨hx0, by have := x3.toInt_lt; omega⟩
      rw [nI_clamp hl2] at hQ; (try rw [nI_clamp hl2] at hxx)
      refine c_Bd_shownAt (f := fun p => D 7 a (5 * b + p)) (by omega) hS (by omega) (by omega) hl2 (fun p hp => hC.1.shwF ha (by omega) hp) ⟨_, rfl, fun z => ?_, fun z => ?_⟩
      · have hv : (shL D a b).getD l 0 < 2 ^ 31 := by
          rcases Nat.lt_or_ge l (shL D a b).length with y | y
          · have hm : (shL D a b).getD l 0 ∈ shL D a b := by
              rw [List.getD_eq_getElem?_getD, List.getElem?_eq_getElem y]; exact List.getElem_mem y
            obtain ⟨-, p, p1, p2, p3⟩ := sLk_mem _ _ _ _ hm
            have := (hC.1.2.1.2.2.1 a ha).2.1 (5 * b + p) (by omega)
            omega
          · rw [List.getD_eq_getElem?_getD, List.getElem?_eq_none y]; decide
        have z' : (shL D a b).getD l 0 = 0 := (oI_m1 hv).mp z
        rw [ifP_f (fun y => sh_pos ((inR.of hl2).mp y) z')] at hQ; (try rw [ifP_f (fun y => sh_pos ((inR.of hl2).mp y) z')] at hxx)
        exact ⟨(hxx _ _ rfl).1, (hxx _ _ rfl).2, hS, hQ⟩
      · have hlt : l < (shL D a b).length := by
          rcases Nat.lt_or_ge l (shL D a b).length with y | y
          · exact y
          · refine absurd ?_ z
            show oI ((shL D a b).getD l 0) = -1
            rw [List.getD_eq_getElem?_getD, List.getElem?_eq_none y]; exact oI_0
        rw [ifP_t ((inR.of hl2).mpr hlt)] at hQ; (try rw [ifP_t ((inR.of hl2).mpr hlt)] at hxx)
        exact ⟨hS, hQ⟩
theorem c_PB_compare (hC : CI μ T C Ct D t L x) (hD : 6 ≤ d) (hxx : ∀ k c, rvCompare D x1 x2 = RV.ex k c → 1 ≤ rc ∧ 6 ≤ rs) (hS : St μ) (hQ : Q (rvCompare D x1 x2).c μ) : CalT K_PB_compare d rc rs [.ref (hd 8 0), .int x1, .int x2] μ Q := by
  have h5 := hC.1.P5
  have h60 := hC.1.S60
  have sh : ∀ a, a < D 1 0 0 → ∀ b, b < D 1 0 0 → ∀ (d rc rs : Nat) (Q : Option Value → Mu → Prop), 1 ≤ d → Q (some (.int (bI (ah D a b)))) μ → Cal K_Sh_isAheadOf d rc rs [.ref (hd 33 (60 * 0 + a)), .ref (hd 33 (60 * 0 + b))] μ Q := by
    intro a ha b hb d rc rs Q hd hq
    have g := hC.1.2.1.2.1 a ha
    have g2 := hC.1.2.1.2.1 b hb
    have hp : D 4 a 0 < 5 := by omega
    exact c_Sh_isAheadOf (a := D 4 a 0) (x := D 5 a (D 4 a 0)) (y := D 5 b (D 4 a 0)) hd hS (by omega) (by omega) (hC.1.2.2.1 4 a 0 ⟨ha, by decide⟩) hp (hC.1.2.2.1 5 a (D 4 a 0) ⟨ha, hp⟩) (hC.1.2.2.1 5 b (D 4 a 0) ⟨hb, hp⟩) (by have := g.2.2.2.2.2.2 _ hp; omega) (by have := g2.2.2.2.2.2.2 _ hp; omega) hq
  unfold rvCompare at hQ hxx
  refine t_PB_compare hD (g_PB_compare_0 (by omega) hS (c_PB_isSheet hC (by omega) hS ⟨_, rfl, bIs (fun h => ?_) (fun h => c_PB_isSheet hC (by omega) hS ⟨_, rfl, bIs (fun h2 => ?_) (fun h2 => ?_)⟩)⟩))
  · rw [ifP_f h] at hQ; (try rw [ifP_f h] at hxx); exact ⟨(hxx _ _ rfl).1, (hxx _ _ rfl).2, hS, hQ⟩
  · rw [ifP_t h, ifP_f h2] at hQ; (try rw [ifP_t h, ifP_f h2] at hxx); exact ⟨(hxx _ _ rfl).1, (hxx _ _ rfl).2, hS, hQ⟩
  · rw [ifP_t h, ifP_t h2] at hQ; (try rw [ifP_t h, ifP_t h2] at hxx)
    obtain ⟨a, ha, ha2, rfl⟩ := h.ex
    obtain ⟨b, hb, hb2, rfl⟩ := h2.ex
    rw [nI_clamp ha2, nI_clamp hb2] at hQ ⊢; (try rw [nI_clamp ha2, nI_clamp hb2] at hxx)
    have v1 : vp_in (nI a) 60 := vp_in_nI (by omega) (by decide)
    have v2 : vp_in (nI b) 60 := vp_in_nI (by omega) (by decide)
    refine ⟨fun e => ?_, fun e => ⟨v1, v2, sh a ha b hb _ _ _ _ (by omega) ⟨_, rfl, bIs (fun k => ⟨v2, v1, sh b hb a ha _ _ _ _ (by omega) ⟨_, rfl, bIs (fun k2 => ?_) (fun k2 => ?_)⟩⟩) (fun k => ?_)⟩⟩⟩
    · rw [ifP_t e] at hQ; (try rw [ifP_t e] at hxx); exact ⟨hS, hQ⟩
    · rw [ifP_f e, ifP_f k, ifP_f k2] at hQ; (try rw [ifP_f e, ifP_f k, ifP_f k2] at hxx); exact ⟨hS, hQ⟩
    · rw [ifP_f e, ifP_f k, ifP_t k2] at hQ; (try rw [ifP_f e, ifP_f k, ifP_t k2] at hxx); exact ⟨hS, hQ⟩
    · rw [ifP_f e, ifP_t k] at hQ; (try rw [ifP_f e, ifP_t k] at hxx); exact ⟨hS, hQ⟩
theorem c_PB_road (hC : CI μ T C Ct D t L x) (hD : 6 ≤ d) (hxx : ∀ k c, rvRoad T D x1 x2 = RV.ex k c → 1 ≤ rc ∧ 6 ≤ rs) (hS : St μ) (hQ : Q (rvRoad T D x1 x2).c μ) : CalT K_PB_road d rc rs [.ref (hd 8 0), .int x1, .int x2] μ Q := by
  unfold rvRoad at hQ hxx
  refine t_PB_road hD (g_PB_road_0 (by omega) hS (c_PB_isRoad hC (by omega) hS ⟨_, rfl, bIs (fun h => ?_) (fun h => two (n := 5) rfl (by decide) (fun h2 => ?_) (fun h2 => ?_))⟩))
  · rw [ifP_f h] at hQ; (try rw [ifP_f h] at hxx); exact ⟨(hxx _ _ rfl).1, (hxx _ _ rfl).2, hS, hQ⟩
  · rw [ifP_t h, ifP_f h2] at hQ; (try rw [ifP_t h, ifP_f h2] at hxx); exact ⟨(hxx _ _ rfl).1, (hxx _ _ rfl).2, hS, hQ⟩
  · rw [ifP_t h, ifP_t h2] at hQ; (try rw [ifP_t h, ifP_t h2] at hxx)
    obtain ⟨a, ha, ha2, rfl⟩ := h.ex
    obtain ⟨b, hb, hb2, rfl⟩ := h2.ex
    rw [nI_clamp ha2, nI_clamp hb2] at hQ; (try rw [nI_clamp ha2, nI_clamp hb2] at hxx)
    exact c_Wd_roadFact hC.1 (by omega) hS ha hb ⟨_, rfl, hS, hQ⟩
end FQ
