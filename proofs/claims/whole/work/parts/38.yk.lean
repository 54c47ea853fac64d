/-! code, in the model -/
def mop (k : Nat) : Nat := if k = 35 then 34 else if k = 36 then 35 else if k = 37 then 36 else if k = 38 then 37 else if k = 39 then 38 else if k = 40 then 39 else if k = 41 then 42 else if k = 42 then 43 else if k = 43 then 44 else k
def encO (o : Op) : List Int32 := if o.1 = 45 then [nI 32, nI o.2.1] else if o.1 = 17 then [nI 17] else if o.1 = 21 then [nI 21, nI o.2.1] else if 18 ≤ o.1 ∧ o.1 ≤ 23 then [nI o.1, nI o.2.1, nI o.2.2] else if o.1 = 48 then [nI 33] else if o.1 = 24 then [nI 24] else [nI (mop o.1)]
def wdsAt (μ : Mu) (q : Nat) : Nat → List Int32 → Prop
  | _, [] => True
  | a, v :: l => mI μ (hd 61 q) a = v ∧ wdsAt μ q (a + 1) l
def encN : List Op → Nat
  | [] => 0
  | o :: l => (encO o).length + encN l
def cdM (μ : Mu) (q : Nat) : Nat → List Op → Prop
  | _, [] => True
  | a, o :: l => wdsAt μ q a (encO o) ∧ cdM μ q (a + (encO o).length) l
theorem wdsAt.fr {μ μ' : Mu} {q : Nat} (f : ∀ k, mI μ' (hd 61 q) k = mI μ (hd 61 q) k) : ∀ (l : List Int32) (a : Nat), wdsAt μ q a l → wdsAt μ' q a l
  | [], _, _ => trivial
  | v :: l, a, h => ⟨(f a).trans h.1, wdsAt.fr f l (a + 1) h.2⟩
theorem cdM.fr {μ μ' : Mu} {q : Nat} (f : ∀ k, mI μ' (hd 61 q) k = mI μ (hd 61 q) k) : ∀ (l : List Op) (a : Nat), cdM μ q a l → cdM μ' q a l
  | [], _, _ => trivial
  | o :: l, a, h => ⟨h.1.fr f, cdM.fr f l _ h.2⟩
/-- the stack of the model's world w -/
def StkM (μ : Mu) (w : Nat) (st : List Int32) : Prop := ∀ j, j < st.length → mI μ (hd 82 w) j = st.getD (st.length - 1 - j) 0
theorem StkM.fr {μ μ' : Mu} {w : Nat} {st : List Int32} (h : StkM μ w st) (e : ∀ k, mI μ' (hd 82 w) k = mI μ (hd 82 w) k) : StkM μ' w st := fun j hj => (e j).trans (h j hj)
theorem StkM.push {μ : Mu} {w : Nat} {st : List Int32} {x : Int32} (h : StkM μ w st) : StkM (setI μ (hd 82 w) st.length x) w (x :: st) := fun j hj => by
  rw [List.length_cons] at hj ⊢
  by_cases hjl : j = st.length
  · rw [hjl, rd_eq, show st.length + 1 - 1 - st.length = 0 by omega, List.getD_cons_zero]
  · rw [rd_k hjl, h j (by omega), show st.length + 1 - 1 - j = (st.length - 1 - j) + 1 by omega, List.getD_cons_succ]
theorem StkM.pop {μ : Mu} {w : Nat} {st : List Int32} {x : Int32} (h : StkM μ w (x :: st)) : StkM μ w st ∧ mI μ (hd 82 w) st.length = x := by
  refine ⟨fun j hj => ?_, ?_⟩
  · have := h j (by rw [List.length_cons]; omega)
    rw [this, List.length_cons, show st.length + 1 - 1 - j = (st.length - 1 - j) + 1 by omega, List.getD_cons_succ]
  · have := h st.length (by rw [List.length_cons]; omega)
    rw [this, List.length_cons, show st.length + 1 - 1 - st.length = 0 by omega, List.getD_cons_zero]
theorem c_MM_isIn {d rc rs : Nat} {x a b : Int32} {Q : Option Value → Mu → Prop} {μ : Mu} (hD : 1 ≤ d) (hS : St μ) (hQ : Q (some (.int (bI (a.toInt ≤ x.toInt ∧ x.toInt ≤ b.toInt)))) μ) : Cal K_MM_isIn d rc rs [.int x, .int a, .int b] μ Q := by
  refine e_MM_isIn (g_MM_isIn_0 hD hS ?_)
  rw [Int32.lt_iff_toInt_lt, Int32.lt_iff_toInt_lt]
  refine ⟨fun h => ⟨hS, ?_⟩, fun h => ⟨fun h2 => ⟨hS, ?_⟩, fun h2 => ⟨hS, ?_⟩⟩⟩
  · rw [bI_f (by omega)] at hQ; exact hQ
  · rw [bI_f (by omega)] at hQ; exact hQ
  · rw [bI_t (by omega)] at hQ; exact hQ
theorem c_MM_isInN {d rc rs x a b : Nat} {Q : Option Value → Mu → Prop} {μ : Mu} (hD : 1 ≤ d) (hS : St μ) (hx : x < 2 ^ 31) (ha : a < 2 ^ 31) (hb : b < 2 ^ 31) (hQ : Q (some (.int (bI (a ≤ x ∧ x ≤ b)))) μ) : Cal K_MM_isIn d rc rs [.int (nI x), .int (nI a), .int (nI b)] μ Q := by
  refine c_MM_isIn hD hS ?_
  rw [nI_toInt hx, nI_toInt ha, nI_toInt hb, bI_congr (q := a ≤ x ∧ x ≤ b)]
  · exact hQ
  · omega
theorem c_MM_both {d rc rs k : Nat} {x y : Int32} {Q : Option Value → Mu → Prop} {μ : Mu} (hD : 1 ≤ d) (hS : St μ) (hk : isBin k) (hQ : Q (some (.int (jn k x y))) μ) : Cal K_MM_both d rc rs [.int (nI (mop k)), .int x, .int y] μ Q := by
  refine e_MM_both (g_MM_both_0 hD hS ?_)
  have no : ∀ {p : Prop} {a b : Int32}, a ≠ b → (a = b → p) := fun h z => absurd z h
  simp only [isBin, List.mem_cons, List.not_mem_nil, or_false] at hk
  rcases hk with rfl | rfl | rfl | rfl | rfl | rfl | rfl | rfl | rfl | rfl | rfl | rfl | rfl
  · exact ⟨fun _ => ⟨hS, hQ⟩, no (by decide), no (by decide), no (by decide), no (by decide), no (by decide), no (by decide), no (by decide), no (by decide), no (by decide), no (by decide), no (by decide), fun h => absurd h (by decide)⟩
  · exact ⟨no (by decide), no (by decide), no (by decide), no (by decide), no (by decide), no (by decide), no (by decide), no (by decide), no (by decide), no (by decide), no (by decide), no (by decide), fun _ => ⟨hS, hQ⟩⟩
  · exact ⟨no (by decide), fun _ => ⟨hS, hQ⟩, no (by decide), no (by decide), no (by decide), no (by decide), no (by decide), no (by decide), no (by decide), no (by decide), no (by decide), no (by decide), fun h => absurd h (by decide)⟩
  · exact ⟨no (by decide), no (by decide), fun _ => ⟨hS, hQ⟩, no (by decide), no (by decide), no (by decide), no (by decide), no (by decide), no (by decide), no (by decide), no (by decide), no (by decide), fun h => absurd h (by decide)⟩
  · exact ⟨no (by decide), no (by decide), no (by decide), fun _ => ⟨hS, hQ⟩, no (by decide), no (by decide), no (by decide), no (by decide), no (by decide), no (by decide), no (by decide), no (by decide), fun h => absurd h (by decide)⟩
  · exact ⟨no (by decide), no (by decide), no (by decide), no (by decide), fun _ => ⟨hS, hQ⟩, no (by decide), no (by decide), no (by decide), no (by decide), no (by decide), no (by decide), no (by decide), fun h => absurd h (by decide)⟩
  · exact ⟨no (by decide), no (by decide), no (by decide), no (by decide), no (by decide), fun _ => ⟨hS, hQ⟩, no (by decide), no (by decide), no (by decide), no (by decide), no (by decide), no (by decide), fun h => absurd h (by decide)⟩
  · have e : jn 38 x y = if y = 0 then 0 else x / y := rfl
    rw [e] at hQ
    refine ⟨no (by decide), no (by decide), no (by decide), no (by decide), no (by decide), no (by decide), fun _ => ⟨fun z => ⟨hS, ?_⟩, fun z => ⟨z, hS, ?_⟩⟩, no (by decide), no (by decide), no (by decide), no (by decide), no (by decide), fun h => absurd h (by decide)⟩
    · rw [if_pos z] at hQ; exact hQ
    · rw [if_neg z] at hQ; exact hQ
  · have e : jn 39 x y = bI (x < y) := rfl
    rw [e] at hQ
    refine ⟨no (by decide), no (by decide), no (by decide), no (by decide), no (by decide), no (by decide), no (by decide), fun _ => ⟨fun z => ⟨hS, ?_⟩, fun z => ⟨hS, ?_⟩⟩, no (by decide), no (by decide), no (by decide), no (by decide), fun h => absurd h (by decide)⟩
    · rw [bI_f (fun u => i_le.mpr u z)] at hQ; exact hQ
    · rw [bI_t (i_le.mp z)] at hQ; exact hQ
  · have e : jn 40 x y = bI (y < x) := rfl
    rw [e] at hQ
    refine ⟨no (by decide), no (by decide), no (by decide), no (by decide), no (by decide), no (by decide), no (by decide), no (by decide), fun _ => ⟨fun z => ⟨hS, ?_⟩, fun z => ⟨hS, ?_⟩⟩, no (by decide), no (by decide), no (by decide), fun h => absurd h (by decide)⟩
    · rw [bI_f (fun u => i_le.mpr u z)] at hQ; exact hQ
    · rw [bI_t (i_le.mp z)] at hQ; exact hQ
  · have e : jn 41 x y = bI (x = y) := rfl
    rw [e] at hQ
    refine ⟨no (by decide), no (by decide), no (by decide), no (by decide), no (by decide), no (by decide), no (by decide), no (by decide), no (by decide), fun _ => ⟨fun z => ⟨hS, ?_⟩, fun z => ⟨hS, ?_⟩⟩, no (by decide), no (by decide), fun h => absurd h (by decide)⟩
    · rw [bI_t z] at hQ; exact hQ
    · rw [bI_f z] at hQ; exact hQ
  · have e : jn 42 x y = bI (x ≤ y) := rfl
    rw [e] at hQ
    refine ⟨no (by decide), no (by decide), no (by decide), no (by decide), no (by decide), no (by decide), no (by decide), no (by decide), no (by decide), no (by decide), fun _ => ⟨fun z => ⟨hS, ?_⟩, fun z => ⟨hS, ?_⟩⟩, no (by decide), fun h => absurd h (by decide)⟩
    · rw [bI_f (fun u => i_le.mpr z u)] at hQ; exact hQ
    · rw [bI_t (Classical.not_not.mp (fun u => z (i_le.mp u)))] at hQ; exact hQ
  · have e : jn 43 x y = bI (y ≤ x) := rfl
    rw [e] at hQ
    refine ⟨no (by decide), no (by decide), no (by decide), no (by decide), no (by decide), no (by decide), no (by decide), no (by decide), no (by decide), no (by decide), no (by decide), fun _ => ⟨fun z => ⟨hS, ?_⟩, fun z => ⟨hS, ?_⟩⟩, fun h => absurd h (by decide)⟩
    · rw [bI_f (fun u => i_le.mpr z u)] at hQ; exact hQ
    · rw [bI_t (Classical.not_not.mp (fun u => z (i_le.mp u)))] at hQ; exact hQ
section MSK
variable {d rc rs w mg : Nat} {Q : Option Value → Mu → Prop} {μ : Mu} {T : PT} {D : DT}
theorem oI_add1 (n : Nat) : oI n + 1 = nI n := by unfold oI; rw [Int32.sub_add_cancel]
theorem oI_addm (n : Nat) : oI (n + 1) + (-1) = oI n := by
  unfold oI
  rw [← Int32.sub_eq_add_neg, ← nI_1, Int32.add_sub_cancel]
theorem mop_ok : ∀ k ∈ [25, 26, 27, 28, 35, 36, 37, 38, 39, 40, 41, 42, 43], mop k ≠ 17 ∧ mop k ≠ 32 ∧ mop k ≠ 33 ∧ mop k ≠ 24 ∧ ¬ (18 ≤ mop k ∧ mop k ≤ 23) ∧ mop k < 2 ^ 31 := by decide
theorem bin_ne : ∀ k ∈ [25, 26, 27, 28, 35, 36, 37, 38, 39, 40, 41, 42, 43], k ≠ 45 ∧ k ≠ 17 ∧ k ≠ 21 ∧ ¬ (18 ≤ k ∧ k ≤ 23) ∧ k ≠ 48 ∧ k ≠ 24 := by decide
theorem XN.fr82 {μ μ' : Mu} (h : XN μ w T D mg) (f : FrM w μ μ') (f82 : Fr (fun κ i => κ = 82 ∧ i = w) μ μ') : XN μ' w T D mg := h.fr f82 f.2.1 (by omega)
/-- only the stack changes -/
def FrK (w : Nat) (μ μ' : Mu) : Prop := Fr (fun κ i => κ = 82 ∧ i = w) μ μ' ∧ mR μ' = mR μ
theorem FrK.rf {w : Nat} {μ : Mu} : FrK w μ μ := ⟨Fr.rf, rfl⟩
theorem FrK.trans {w : Nat} {μ1 μ2 μ3 : Mu} (h : FrK w μ1 μ2) (h' : FrK w μ2 μ3) : FrK w μ1 μ3 := ⟨h.1.trans h'.1, h'.2.trans h.2⟩
theorem FrK.set {w k : Nat} {x : Int32} {μ μ' : Mu} (h : FrK w μ μ') : FrK w μ (setI μ' (hd 82 w) k x) := ⟨h.1.setI (by decide) ⟨rfl, rfl⟩, h.2⟩
theorem FrK.m {w : Nat} {μ μ' : Mu} (h : FrK w μ μ') : FrM w μ μ' := ⟨h.1.mono (fun κ i z => ⟨by omega, z.2⟩), h.2, h.1.I (by decide) (by omega), fun κ a b k => ⟨h.1.I (by omega) (by omega), h.1.L (by omega) (by omega)⟩⟩
theorem XN.frK {μ μ' : Mu} (h : XN μ w T D mg) (f : FrK w μ μ') : XN μ' w T D mg := h.fr f.1 f.2 (by omega)
theorem c_MS_carryOut {q a to : Nat} {l : List Op} (hC : XN μ w T D mg) (hD : 5 ≤ d) (hS : St μ) (hW : WI T D) (hq : px μ (hd 40 0) 11 = q) (hto : to = a + encN l) (ht8 : to ≤ 800) (hl4 : l.length ≤ 400) (hc : cdM μ q a l) (hok : ∀ o ∈ l, opOK T o) (hh : hts l 0 = some 1)
    (hQ : ∀ μ', FrK w μ μ' → St μ' → Q (some (.int (evV T D l))) μ') : Cal K_MS_carryOut d rc rs [.ref (hd 65 w), .int (nI a), .int (nI to)] μ Q := by
  have hw := hC.w2; have hP := hC.P5; have hN := hC.N6
  refine e_MS_carryOut (g_MS_carryOut_0 (by omega) hw hS ?_)
  have key : ∀ (l : List Op) (a : Nat) (st : List Int32) (μ' : Mu), to = a + encN l → FrK w μ μ' → St μ' → StkM μ' w st → cdM μ' q a l → (∀ o ∈ l, opOK T o) → hts l st.length = some 1 → st.length + l.length ≤ 400 → (∀ μ'', FrK w μ μ'' → St μ'' → Q (some (.int ((evS T D l st).headD 0))) μ'') → Wx K_MS_carryOut d rc rs (fun r μ' => St μ' ∧ Q r μ') 5 [(0, .ref (hd 65 w)), (2, .int (nI to)), (3, .int (oI st.length)), (4, .int (nI a))] [] μ' := by
    intro l
    induction l with
    | nil =>
      intro a st μ' e f1 f3 f4 f5 f6 f7 f8 hQ'
      have hl : st.length = 1 := Option.some.inj f7
      obtain ⟨x, rfl⟩ : ∃ x, st = [x] := List.length_eq_one_iff.mp hl
      refine g_MS_carryOut_5 (by omega) hw f3 ⟨fun _ => ⟨vp_in_nI (n := 0) (by decide) (by decide), f3, ?_⟩, fun h => absurd ?_ h⟩
      · rw [z32, f4 0 Nat.zero_lt_one]
        exact hQ' μ' f1 f3
      · rw [e]; exact Int32.le_refl _
    | cons o l ih =>
      intro a st μ' e f1 f3 f4 f5 f6 f7 f8 hQ'
      have hC' : XN μ' w T D mg := hC.frK f1
      have hpx : px μ' (hd 40 0) 11 = q := by rw [← hq]; unfold px; rw [f1.2]
      rw [List.length_cons] at f8
      rw [encN] at e
      have hoo := f6 o List.mem_cons_self
      obtain ⟨k1, f5'⟩ := f5
      obtain ⟨h', hh1, hh2⟩ := hts_cons f7
      have frk : ∀ {μ2 : Mu}, FrK w μ' μ2 → ∀ k, mI μ2 (hd 61 q) k = mI μ' (hd 61 q) k := fun f k => f.1.I (by decide) (by omega)
      have on : ∀ (st' : List Int32), stp T D o st = st' → st'.length = h' → h' + l.length ≤ 400 → ∀ μ2, FrK w μ' μ2 → St μ2 → StkM μ2 w st' → ∀ x : Int32, x = nI (a + (encO o).length) → Wx K_MS_carryOut d rc rs (fun r μ' => St μ' ∧ Q r μ') 5 [(0, .ref (hd 65 w)), (2, .int (nI to)), (3, .int (oI st'.length)), (4, .int x)] [] μ2 := by
        intro st' es el hl4 μ2 g1 g2 g3 x hx
        rw [hx]
        refine ih (a + (encO o).length) st' μ2 (by omega) (f1.trans g1) g2 g3 (f5'.fr (frk g1)) (fun x hx => f6 x (List.mem_cons_of_mem _ hx)) (by rw [el]; exact hh2) (by omega) (fun μ3 m1 m2 => ?_)
        have := hQ' μ3 m1 m2
        rw [evS, es] at this
        exact this
      -- a value pushed
      have push : ∀ (x : Int32), stp T D o st = x :: st → h' = st.length + 1 → ∀ y : Int32, y = nI (a + (encO o).length) → Wx K_MS_carryOut d rc rs (fun r μ' => St μ' ∧ Q r μ') 5 [(0, .ref (hd 65 w)), (2, .int (nI to)), (3, .int (nI st.length)), (4, .int y)] [] (setI μ' (hd 82 w) st.length x) := by
        intro x es eh y hy
        have hSt : St (setI μ' (hd 82 w) st.length x) := f3
        have h := on (x :: st) es (by rw [List.length_cons, eh]) (by omega) _ FrK.rf.set hSt f4.push y hy
        rw [List.length_cons, oI_s] at h
        exact h
      have hlen1 : 1 ≤ (encO o).length := by
        unfold encO
        split
        · exact Nat.succ_le_succ (Nat.zero_le _)
        · split
          · exact Nat.succ_le_succ (Nat.zero_le _)
          · split
            · exact Nat.succ_le_succ (Nat.zero_le _)
            · split
              · exact Nat.succ_le_succ (Nat.zero_le _)
              · split
                · exact Nat.succ_le_succ (Nat.zero_le _)
                · split <;> exact Nat.succ_le_succ (Nat.zero_le _)
      have hva : vp_in (nI a) 800 := vp_in_nI (by omega) (by decide)
      have hvs : vp_in (nI st.length) 400 := vp_in_nI (by omega) (by decide)
      refine g_MS_carryOut_5 (by omega) hw f3 ⟨fun h => absurd h (nI_ge (by omega) (by omega)), fun _ => ⟨hva, ?_⟩⟩
      rw [nI_clamp (by omega), hpx]
      rcases hoo with ⟨o1, o2⟩ | o1 | ⟨o1, o2, o3, o4⟩ | o1 | o1 | o1
      · have hh1' : h' = st.length + 1 := by
          rw [hop, if_pos (Or.inl o1)] at hh1; exact (Option.some.inj hh1).symm
        have hs' : stp T D o st = nI o.2.1 :: st := by unfold stp; rw [if_pos o1]
        have e1 : encO o = [nI 32, nI o.2.1] := if_pos o1
        rw [e1] at k1 hlen1 e
        simp only [List.length_cons, List.length_nil] at e
        obtain ⟨w1, w2, -⟩ := k1
        rw [w1]
        refine ⟨fun h => absurd h (by decide), fun _ => ⟨fun _ => ?_, fun h => absurd rfl h⟩⟩
        refine g_MS_carryOut_55 (by omega) hw f3 ⟨fun h => absurd h (by decide), fun _ => ⟨fun _ => ?_, fun h => absurd rfl h⟩⟩
        rw [hpx, nI_1, nI_clamp (by omega), w2, oI_add1, nI_clamp (by omega)]
        exact ⟨vp_in_nI (by omega) (by decide), hvs, fun h => absurd h (by decide), fun _ => ⟨fun _ => push _ hs' hh1' _ (by rw [e1, nI_1]; rfl), fun h => absurd rfl h⟩⟩
      · have hh1' : h' = st.length + 1 := by
          rw [hop, if_pos (Or.inr (Or.inl o1))] at hh1; exact (Option.some.inj hh1).symm
        have hs' : stp T D o st = nI (D 0 0 0) :: st := by unfold stp; rw [if_neg (by omega), if_pos o1]
        have e1 : encO o = [nI 17] := by unfold encO; rw [if_neg (by omega), if_pos o1]
        rw [e1] at k1
        obtain ⟨w1, -⟩ := k1
        rw [w1]
        refine ⟨fun _ => ?_, fun h => absurd rfl h⟩
        refine g_MS_carryOut_55 (by omega) hw f3 ⟨fun _ => ?_, fun h => absurd rfl h⟩
        rw [oI_add1, nI_clamp (by omega), hC'.day]
        exact ⟨hvs, fun _ => push _ hs' hh1' _ (by rw [e1, Int32.add_zero, nI_1]; rfl), fun h => absurd rfl h⟩
      · have hh1' : h' = st.length + 1 := by
          rw [hop, if_pos (Or.inr (Or.inr ⟨o1, o2⟩))] at hh1; exact (Option.some.inj hh1).symm
        have hs' : stp T D o st = ansX T D o.1 o.2.1 o.2.2 :: st := by unfold stp; rw [if_neg (by omega), if_neg (by omega), if_pos ⟨o1, o2⟩]
        have ne : ∀ v, v < 2 ^ 31 → v ≠ o.1 → nI o.1 ≠ nI v := fun v hv hne h => hne ((nI_eq (by omega) hv).mp h).symm
        by_cases h21 : o.1 = 21
        · have e1 : encO o = [nI 21, nI o.2.1] := by unfold encO; rw [if_neg (by omega), if_neg (by omega), if_pos h21]
          rw [e1] at k1 e
          simp only [List.length_cons, List.length_nil] at e
          obtain ⟨w1, w2, -⟩ := k1
          have eA : ansX T D o.1 o.2.1 o.2.2 = nI (D 11 o.2.1 0) := by rw [h21]; rfl
          rw [eA] at hs'
          rw [w1]
          refine ⟨fun h => absurd h (by decide), fun _ => ⟨fun h => absurd h (by decide), fun _ => ?_⟩⟩
          refine c_MM_isInN (x := 21) (a := 18) (b := 23) (by omega) f3 (by decide) (by decide) (by decide) ⟨_, rfl, fun z => absurd z (by rw [bI_t (by decide)]; decide), fun _ => ?_⟩
          refine g_MS_carryOut_55 (by omega) hw f3 ⟨fun h => absurd h (by decide), fun _ => ⟨fun h => absurd h (by decide), fun _ => ⟨fun _ => ?_, fun h => absurd rfl h⟩⟩⟩
          rw [hpx, nI_1, nI_clamp (by omega), w2, oI_add1, nI_clamp (by omega)]
          refine ⟨vp_in_nI (by omega) (by decide), c_MS_waits hC' (by omega) f3 hW o3 ⟨_, rfl, hvs, fun h => absurd h (by decide), fun _ => ⟨fun h => absurd h (by decide), fun _ => ⟨fun _ => push _ hs' hh1' _ (by rw [e1, nI_1]; rfl), fun h => absurd rfl h⟩⟩⟩⟩
        · have e1 : encO o = [nI o.1, nI o.2.1, nI o.2.2] := by unfold encO; rw [if_neg (by omega), if_neg (by omega), if_neg h21, if_pos ⟨o1, o2⟩]
          rw [e1] at k1 e
          simp only [List.length_cons, List.length_nil] at e
          obtain ⟨w1, w2, w3, -⟩ := k1
          rw [w1]
          refine ⟨fun h => absurd h (ne 17 (by decide) (by omega)), fun _ => ⟨fun h => absurd h (ne 32 (by decide) (by omega)), fun _ => ?_⟩⟩
          refine c_MM_isInN (x := o.1) (a := 18) (b := 23) (by omega) f3 (by omega) (by decide) (by decide) ⟨_, rfl, fun z => absurd z (by rw [bI_t ⟨o1, o2⟩]; decide), fun _ => ?_⟩
          refine g_MS_carryOut_55 (by omega) hw f3 ⟨fun h => absurd h (ne 17 (by decide) (by omega)), fun _ => ⟨fun h => absurd h (ne 32 (by decide) (by omega)), fun _ => ⟨fun h => absurd h (ne 21 (by decide) (by omega)), fun _ => ?_⟩⟩⟩
          rw [hpx, nI_1, nI_1, nI_clamp (by omega), nI_clamp (by omega), w2, w3, oI_add1, nI_clamp (by omega)]
          have o5 := o4 h21
          refine ⟨vp_in_nI (by omega) (by decide), vp_in_nI (by omega) (by decide), c_MS_pushed hC' (by omega) f3 ⟨o1, o2⟩ h21 o3 (by omega) ⟨_, rfl, hvs, fun h => absurd h (ne 17 (by decide) (by omega)), fun _ => ⟨fun h => absurd h (ne 32 (by decide) (by omega)), fun _ => ⟨fun h => absurd h (ne 21 (by decide) (by omega)), fun _ => push _ hs' hh1' _ (by rw [e1, I2, nI_add]; rfl)⟩⟩⟩⟩
      · have hh1' : h' = st.length ∧ 1 ≤ st.length := by
          rw [hop, if_neg (by omega), if_pos (Or.inl o1)] at hh1
          by_cases h1 : 1 ≤ st.length
          · rw [if_pos h1] at hh1; exact ⟨(Option.some.inj hh1).symm, h1⟩
          · rw [if_neg h1] at hh1; cases hh1
        obtain ⟨x, r, rfl⟩ : ∃ x r, st = x :: r := by
          cases st with
          | nil => exact absurd hh1'.2 (by decide)
          | cons x r => exact ⟨x, r, rfl⟩
        have hs' : stp T D o (x :: r) = -x :: r := by rw [stp, if_neg (by omega), if_neg (by omega), if_neg (by omega), if_pos o1]
        have e1 : encO o = [nI 33] := by unfold encO; rw [if_neg (by omega), if_neg (by omega), if_neg (by omega), if_neg (by omega), if_pos o1]
        rw [e1] at k1
        obtain ⟨w1, -⟩ := k1
        rw [w1]
        rw [List.length_cons] at hh1' f8 hvs
        obtain ⟨p1, p2⟩ := f4.pop
        refine ⟨fun h => absurd h (by decide), fun _ => ⟨fun h => absurd h (by decide), fun _ => ?_⟩⟩
        refine c_MM_isInN (x := 33) (a := 18) (b := 23) (by omega) f3 (by decide) (by decide) (by decide) ⟨_, rfl, fun _ => ?_, fun z => absurd (bI_f (by decide)) z⟩
        rw [List.length_cons, oI_s, nI_clamp (by omega), p2]
        have hvr : vp_in (nI r.length) 400 := vp_in_nI (by omega) (by decide)
        have hSt : St (setI μ' (hd 82 w) r.length (-x)) := f3
        have h := on (-x :: r) hs' (by rw [List.length_cons]; omega) (by omega) _ FrK.rf.set hSt p1.push (nI a + 1) (by rw [e1, nI_1]; rfl)
        rw [List.length_cons, oI_s] at h
        exact ⟨fun _ => ⟨fun _ => ⟨hvr, hvr, h⟩, fun z => absurd rfl z⟩, fun z => absurd rfl z⟩
      · have hh1' : h' = st.length ∧ 1 ≤ st.length := by
          rw [hop, if_neg (by omega), if_pos (Or.inr o1)] at hh1
          by_cases h1 : 1 ≤ st.length
          · rw [if_pos h1] at hh1; exact ⟨(Option.some.inj hh1).symm, h1⟩
          · rw [if_neg h1] at hh1; cases hh1
        obtain ⟨x, r, rfl⟩ : ∃ x r, st = x :: r := by
          cases st with
          | nil => exact absurd hh1'.2 (by decide)
          | cons x r => exact ⟨x, r, rfl⟩
        have hs' : stp T D o (x :: r) = (1 - x) :: r := by rw [stp, if_neg (by omega), if_neg (by omega), if_neg (by omega), if_neg (by omega), if_pos o1]
        have e1 : encO o = [nI 24] := by unfold encO; rw [if_neg (by omega), if_neg (by omega), if_neg (by omega), if_neg (by omega), if_neg (by omega), if_pos o1]
        rw [e1] at k1
        obtain ⟨w1, -⟩ := k1
        rw [w1]
        rw [List.length_cons] at hh1' f8 hvs
        obtain ⟨p1, p2⟩ := f4.pop
        refine ⟨fun h => absurd h (by decide), fun _ => ⟨fun h => absurd h (by decide), fun _ => ?_⟩⟩
        refine c_MM_isInN (x := 24) (a := 18) (b := 23) (by omega) f3 (by decide) (by decide) (by decide) ⟨_, rfl, fun _ => ?_, fun z => absurd (bI_f (by decide)) z⟩
        rw [List.length_cons, oI_s, nI_clamp (by omega), p2]
        have hvr : vp_in (nI r.length) 400 := vp_in_nI (by omega) (by decide)
        have hSt : St (setI μ' (hd 82 w) r.length (1 - x)) := f3
        have h := on ((1 - x) :: r) hs' (by rw [List.length_cons]; omega) (by omega) _ FrK.rf.set hSt p1.push (nI a + 1) (by rw [e1, nI_1]; rfl)
        rw [List.length_cons, oI_s] at h
        exact ⟨fun z => absurd z (by decide), fun _ => ⟨fun _ => ⟨fun z => absurd z (by decide), fun _ => ⟨hvr, hvr, h⟩⟩, fun z => absurd rfl z⟩⟩
      · have hr := (by decide : ∀ k ∈ [25, 26, 27, 28, 35, 36, 37, 38, 39, 40, 41, 42, 43], ¬ (k = 45 ∨ k = 17 ∨ (18 ≤ k ∧ k ≤ 23)) ∧ ¬ (k = 48 ∨ k = 24)) o.1 o1
        have hh1' : h' = st.length - 1 ∧ 2 ≤ st.length := by
          rw [hop, if_neg hr.1, if_neg hr.2] at hh1
          by_cases h1 : 2 ≤ st.length
          · rw [if_pos h1] at hh1; exact ⟨(Option.some.inj hh1).symm, h1⟩
          · rw [if_neg h1] at hh1; cases hh1
        obtain ⟨y, x, r, rfl⟩ : ∃ y x r, st = y :: x :: r := by
          match st, hh1'.2 with
          | y :: x :: r, _ => exact ⟨y, x, r, rfl⟩
          | [_], h => exact absurd h (by simp)
          | [], h => exact absurd h (by simp)
        obtain ⟨b1, b2, b3, b4, b5, b6⟩ := bin_ne o.1 o1
        obtain ⟨m1, m2, m3, m4, m5, m6⟩ := mop_ok o.1 o1
        have hs' : stp T D o (y :: x :: r) = jn o.1 x y :: r := by rw [stp, if_neg b1, if_neg b2, if_neg b4, if_neg b5, if_neg b6]
        have e1 : encO o = [nI (mop o.1)] := by unfold encO; rw [if_neg b1, if_neg b2, if_neg b3, if_neg b4, if_neg b5, if_neg b6]
        rw [e1] at k1
        obtain ⟨w1, -⟩ := k1
        rw [w1]
        have ne : ∀ v, v < 2 ^ 31 → mop o.1 ≠ v → nI (mop o.1) ≠ nI v := fun v hv hne h => hne ((nI_eq m6 hv).mp h)
        rw [List.length_cons, List.length_cons] at hh1' f8
        obtain ⟨p1, p2⟩ := f4.pop
        obtain ⟨p3, p4⟩ := p1.pop
        rw [List.length_cons] at p2
        refine ⟨fun h => absurd h (ne 17 (by decide) m1), fun _ => ⟨fun h => absurd h (ne 32 (by decide) m2), fun _ => ?_⟩⟩
        refine c_MM_isInN (x := mop o.1) (a := 18) (b := 23) (by omega) f3 m6 (by decide) (by decide) ⟨_, rfl, fun _ => ?_, fun z => absurd (bI_f m5) z⟩
        rw [List.length_cons, List.length_cons, oI_addm, oI_s r.length, nI_1 r.length, nI_clamp (n := r.length) (by omega), nI_clamp (n := r.length + 1) (by omega), p2, p4]
        have hvr : vp_in (nI r.length) 400 := vp_in_nI (by omega) (by decide)
        have hvr2 : vp_in (nI (r.length + 1)) 400 := vp_in_nI (by omega) (by decide)
        refine ⟨fun h => absurd h (ne 33 (by decide) m3), fun _ => ⟨fun h => absurd h (ne 24 (by decide) m4), fun _ => ⟨hvr, hvr2, ?_⟩⟩⟩
        refine c_MM_both (by omega) f3 o1 ⟨_, rfl, hvr, ?_⟩
        have hSt : St (setI μ' (hd 82 w) r.length (jn o.1 x y)) := f3
        have h := on (jn o.1 x y :: r) hs' (by rw [List.length_cons]; omega) (by omega) _ FrK.rf.set hSt p3.push (nI a + 1) (by rw [e1, nI_1]; rfl)
        rw [List.length_cons, oI_s] at h
        exact h
  exact key l a [] μ hto FrK.rf hS (fun j hj => absurd hj (Nat.not_lt_zero _)) hc hok hh (by rw [List.length_nil]; omega) hQ
end MSK
