/-! code: what is reckoned -/
theorem bI_eq {p : Prop} {x : Int32} (h1 : p → x = 1) (h0 : ¬ p → x = 0) : x = bI p := by
  by_cases h : p
  · rw [bI_t h, h1 h]
  · rw [bI_f h, h0 h]
def isBin (k : Nat) : Prop := k ∈ [25, 26, 27, 28, 35, 36, 37, 38, 39, 40, 41, 42, 43]
/-- both joined -/
noncomputable def jn (k : Nat) (x y : Int32) : Int32 :=
  if k = 35 then x + y else if k = 36 then x - y else if k = 37 then x * y else if k = 38 then (if y = 0 then 0 else x / y) else if k = 27 then imin x y else if k = 28 then imax x y else if k = 25 then x &&& y else if k = 26 then x ||| y else
  if k = 39 then bI (x < y) else if k = 40 then bI (y < x) else if k = 41 then bI (x = y) else if k = 42 then bI (x ≤ y) else bI (y ≤ x)
theorem i_le {x y : Int32} : ¬ y ≤ x ↔ x < y := by rw [Int32.le_iff_toInt_le, Int32.lt_iff_toInt_lt]; omega
theorem c_Cd_compares {d rc rs k : Nat} {x y : Int32} {Q : Option Value → Mu → Prop} {μ : Mu} (hD : 1 ≤ d) (hS : St μ) (hk : 39 ≤ k ∧ k ≤ 43) (hQ : Q (some (.int (jn k x y))) μ) : Cal K_Cd_compares d rc rs [.ref (hd 0 k), .int x, .int y] μ Q := by
  refine e_Cd_compares (g_Cd_compares_0 hD (by omega) hS ?_)
  rcases (by omega : k = 39 ∨ k = 40 ∨ k = 41 ∨ k = 42 ∨ k = 43) with rfl | rfl | rfl | rfl | rfl
  · have e : jn 39 x y = bI (x < y) := rfl
    rw [e] at hQ
    refine ⟨fun _ => ⟨fun h => ⟨hS, ?_⟩, fun h => ⟨hS, ?_⟩⟩, fun h => absurd h (by decide), fun h => absurd h (by decide), fun h => absurd h (by decide), fun h => absurd h (by decide), fun h => absurd h (by decide)⟩
    · rw [bI_f (fun z => i_le.mpr z h)] at hQ; exact hQ
    · rw [bI_t (i_le.mp h)] at hQ; exact hQ
  · have e : jn 40 x y = bI (y < x) := rfl
    rw [e] at hQ
    refine ⟨fun h => absurd h (by decide), fun _ => ⟨fun h => ⟨hS, ?_⟩, fun h => ⟨hS, ?_⟩⟩, fun h => absurd h (by decide), fun h => absurd h (by decide), fun h => absurd h (by decide), fun h => absurd h (by decide)⟩
    · rw [bI_f (fun z => i_le.mpr z h)] at hQ; exact hQ
    · rw [bI_t (i_le.mp h)] at hQ; exact hQ
  · have e : jn 41 x y = bI (x = y) := rfl
    rw [e] at hQ
    refine ⟨fun h => absurd h (by decide), fun h => absurd h (by decide), fun _ => ⟨fun h => ⟨hS, ?_⟩, fun h => ⟨hS, ?_⟩⟩, fun h => absurd h (by decide), fun h => absurd h (by decide), fun h => absurd h (by decide)⟩
    · rw [bI_t h] at hQ; exact hQ
    · rw [bI_f h] at hQ; exact hQ
  · have e : jn 42 x y = bI (x ≤ y) := rfl
    rw [e] at hQ
    refine ⟨fun h => absurd h (by decide), fun h => absurd h (by decide), fun h => absurd h (by decide), fun _ => ⟨fun h => ⟨hS, ?_⟩, fun h => ⟨hS, ?_⟩⟩, fun h => absurd h (by decide), fun h => absurd h (by decide)⟩
    · rw [bI_f (fun z => i_le.mpr h z)] at hQ; exact hQ
    · rw [bI_t (Classical.not_not.mp (fun z => h (i_le.mp z)))] at hQ; exact hQ
  · have e : jn 43 x y = bI (y ≤ x) := rfl
    rw [e] at hQ
    refine ⟨fun h => absurd h (by decide), fun h => absurd h (by decide), fun h => absurd h (by decide), fun h => absurd h (by decide), fun _ => ⟨fun h => ⟨hS, ?_⟩, fun h => ⟨hS, ?_⟩⟩, fun h => absurd h (by decide)⟩
    · rw [bI_f (fun z => i_le.mpr h z)] at hQ; exact hQ
    · rw [bI_t (Classical.not_not.mp (fun z => h (i_le.mp z)))] at hQ; exact hQ
theorem c_Cd_joined {d rc rs k : Nat} {x y : Int32} {Q : Option Value → Mu → Prop} {μ : Mu} (hD : 2 ≤ d) (hS : St μ) (hk : isBin k) (hQ : Q (some (.int (jn k x y))) μ) : Cal K_Cd_joined d rc rs [.ref (hd 0 k), .int x, .int y] μ Q := by
  have hk49 : k < 49 := (by decide : ∀ k ∈ [25, 26, 27, 28, 35, 36, 37, 38, 39, 40, 41, 42, 43], k < 49) k hk
  refine e_Cd_joined (g_Cd_joined_0 (by omega) hk49 hS ?_)
  by_cases hc : 39 ≤ k
  · have hk43 : k ≤ 43 := (by decide : ∀ k ∈ [25, 26, 27, 28, 35, 36, 37, 38, 39, 40, 41, 42, 43], k ≤ 43) k hk
    have hlt : (swv k).toInt < 23 := by
      rcases (by omega : k = 39 ∨ k = 40 ∨ k = 41 ∨ k = 42 ∨ k = 43) with rfl | rfl | rfl | rfl | rfl <;> decide
    have hn : ∀ v : Int32, (23 : Int) ≤ v.toInt → ¬ swv k = v := fun v hv e => by rw [e] at hlt; omega
    refine ⟨fun h => absurd h (hn _ (by decide)), fun h => absurd h (hn _ (by decide)), fun h => absurd h (hn _ (by decide)), fun h => absurd h (hn _ (by decide)), fun h => absurd h (hn _ (by decide)), fun h => absurd h (hn _ (by decide)), fun h => absurd h (hn _ (by decide)), fun h => absurd h (hn _ (by decide)), fun _ => ?_⟩
    refine c_Cd_compares (by omega) hS ⟨hc, hk43⟩ ⟨_, rfl, fun e => ?_, fun e => ?_⟩
    · rw [e] at hQ; exact ⟨hS, hQ⟩
    · have h01 : jn k x y = 0 ∨ jn k x y = 1 := by
        rcases (by omega : k = 39 ∨ k = 40 ∨ k = 41 ∨ k = 42 ∨ k = 43) with rfl | rfl | rfl | rfl | rfl
        · exact bI_01 (p := x < y)
        · exact bI_01 (p := y < x)
        · exact bI_01 (p := x = y)
        · exact bI_01 (p := x ≤ y)
        · exact bI_01 (p := y ≤ x)
      rw [h01.resolve_left e] at hQ; exact ⟨hS, hQ⟩
  · simp only [isBin, List.mem_cons, List.not_mem_nil, or_false] at hk
    rcases (by omega : k = 25 ∨ k = 26 ∨ k = 27 ∨ k = 28 ∨ k = 35 ∨ k = 36 ∨ k = 37 ∨ k = 38) with rfl | rfl | rfl | rfl | rfl | rfl | rfl | rfl
    · exact ⟨fun h => absurd h (by decide), fun h => absurd h (by decide), fun h => absurd h (by decide), fun h => absurd h (by decide), fun h => absurd h (by decide), fun h => absurd h (by decide), fun _ => ⟨hS, hQ⟩, fun h => absurd h (by decide), fun h => absurd h (by decide)⟩
    · exact ⟨fun h => absurd h (by decide), fun h => absurd h (by decide), fun h => absurd h (by decide), fun h => absurd h (by decide), fun h => absurd h (by decide), fun h => absurd h (by decide), fun h => absurd h (by decide), fun _ => ⟨hS, hQ⟩, fun h => absurd h (by decide)⟩
    · exact ⟨fun h => absurd h (by decide), fun _ => ⟨hS, hQ⟩, fun h => absurd h (by decide), fun h => absurd h (by decide), fun h => absurd h (by decide), fun h => absurd h (by decide), fun h => absurd h (by decide), fun h => absurd h (by decide), fun h => absurd h (by decide)⟩
    · exact ⟨fun h => absurd h (by decide), fun h => absurd h (by decide), fun _ => ⟨hS, hQ⟩, fun h => absurd h (by decide), fun h => absurd h (by decide), fun h => absurd h (by decide), fun h => absurd h (by decide), fun h => absurd h (by decide), fun h => absurd h (by decide)⟩
    · exact ⟨fun h => absurd h (by decide), fun h => absurd h (by decide), fun h => absurd h (by decide), fun _ => ⟨hS, hQ⟩, fun h => absurd h (by decide), fun h => absurd h (by decide), fun h => absurd h (by decide), fun h => absurd h (by decide), fun h => absurd h (by decide)⟩
    · exact ⟨fun _ => ⟨hS, hQ⟩, fun h => absurd h (by decide), fun h => absurd h (by decide), fun h => absurd h (by decide), fun h => absurd h (by decide), fun h => absurd h (by decide), fun h => absurd h (by decide), fun h => absurd h (by decide), fun h => absurd h (by decide)⟩
    · exact ⟨fun h => absurd h (by decide), fun h => absurd h (by decide), fun h => absurd h (by decide), fun h => absurd h (by decide), fun _ => ⟨hS, hQ⟩, fun h => absurd h (by decide), fun h => absurd h (by decide), fun h => absurd h (by decide), fun h => absurd h (by decide)⟩
    · have e : jn 38 x y = if y = 0 then 0 else x / y := rfl
      rw [e] at hQ
      refine ⟨fun h => absurd h (by decide), fun h => absurd h (by decide), fun h => absurd h (by decide), fun h => absurd h (by decide), fun h => absurd h (by decide), fun _ => ⟨fun z => ⟨hS, ?_⟩, fun z => ⟨z, hS, ?_⟩⟩, fun h => absurd h (by decide), fun h => absurd h (by decide), fun h => absurd h (by decide)⟩
      · rw [if_pos z] at hQ; exact hQ
      · rw [if_neg z] at hQ; exact hQ
/-- a stack, its top first -/
def Stk (μ : Mu) (q : Nat) (st : List Int32) : Prop := mI μ (hd 21 q) 5 = nI st.length ∧ ∀ j, j < st.length → mI μ (hd 25 q) j = st.getD (st.length - 1 - j) 0
def OwC (q κ i : Nat) : Prop := (κ = 21 ∨ κ = 25) ∧ i = q
/-- only the stack changes -/
def FrC (q : Nat) (μ μ' : Mu) : Prop := Fr (OwC q) μ μ' ∧ mR μ' = mR μ ∧ mI μ' (hd 21 q) 4 = mI μ (hd 21 q) 4
theorem FrC.rf {q : Nat} {μ : Mu} : FrC q μ μ := ⟨Fr.rf, rfl, rfl⟩
theorem FrC.trans {q : Nat} {μ1 μ2 μ3 : Mu} (h : FrC q μ1 μ2) (h' : FrC q μ2 μ3) : FrC q μ1 μ3 := ⟨h.1.trans h'.1, h'.2.1.trans h.2.1, h'.2.2.trans h.2.2⟩
theorem c_Cd_push {d rc rs q : Nat} {x : Int32} {st : List Int32} {Q : Option Value → Mu → Prop} {μ : Mu} (hD : 1 ≤ d) (hS : St μ) (hq : q < 2) (hst : Stk μ q st) (hl : st.length < 400) (hQ : ∀ μ', FrC q μ μ' → St μ' → Stk μ' q (x :: st) → Q none μ') : Cal K_Cd_push d rc rs [.ref (hd 21 q), .int x] μ Q := by
  refine e_Cd_push (g_Cd_push_0 hD hq hS ?_)
  rw [hst.1]
  refine ⟨fun h => absurd h (nI_ge hl (by decide)), fun _ => ⟨vp_in_nI hl (by decide), ?_⟩⟩
  rw [nI_clamp (by omega), mI_set, if_neg (fun z => hd_ne (by decide) (by decide) (by decide) z.1), hst.1, I1, nI_add]
  have hS' : St (setI (setI μ (hd 25 q) st.length x) (hd 21 q) 5 (nI (st.length + 1))) := hS
  refine ⟨hS', hQ _ ⟨(Fr.rf.setI (by decide) ⟨Or.inr rfl, rfl⟩).setI (by decide) ⟨Or.inl rfl, rfl⟩, rfl, ?_⟩ hS' ⟨?_, fun j hj => ?_⟩⟩
  · simp (disch := decide) only [rd_k, rd_ne]
  · rw [rd_eq]; rfl
  · rw [rd_ne (by decide) (by decide) (by decide)]
    rw [List.length_cons] at hj ⊢
    by_cases hjl : j = st.length
    · rw [hjl, rd_eq, show st.length + 1 - 1 - st.length = 0 by omega, List.getD_cons_zero]
    · rw [rd_k hjl, hst.2 j (by omega), show st.length + 1 - 1 - j = (st.length - 1 - j) + 1 by omega, List.getD_cons_succ]
theorem c_Cd_pop {d rc rs q : Nat} {x : Int32} {st : List Int32} {Q : Option Value → Mu → Prop} {μ : Mu} (hD : 1 ≤ d) (hS : St μ) (hq : q < 2) (hst : Stk μ q (x :: st)) (hl : st.length < 400) (hQ : ∀ μ', FrC q μ μ' → St μ' → Stk μ' q st → Q (some (.int x)) μ') : Cal K_Cd_pop d rc rs [.ref (hd 21 q)] μ Q := by
  refine e_Cd_pop (g_Cd_pop_0 hD hq hS ?_)
  have h1 : mI μ (hd 21 q) 5 = nI (st.length + 1) := hst.1
  have h2 := hst.2 st.length (by rw [List.length_cons]; omega)
  rw [List.length_cons, show st.length + 1 - 1 - st.length = 0 by omega, List.getD_cons_zero] at h2
  rw [h1, I1, nI_sub (by omega), Nat.add_sub_cancel, rd_eq, rd_ne (by decide) (by decide) (by decide), nI_clamp (by omega), h2]
  have hS' : St (setI μ (hd 21 q) 5 (nI st.length)) := hS
  refine ⟨fun _ => ⟨vp_in_nI hl (by decide), hS', hQ _ ⟨Fr.rf.setI (by decide) ⟨Or.inl rfl, rfl⟩, rfl, ?_⟩ hS' ⟨rd_eq, fun j hj => ?_⟩⟩, fun h => absurd ?_ h⟩
  · simp (disch := decide) only [rd_k]
  · have h3 := hst.2 j (by rw [List.length_cons]; omega)
    rw [rd_ne (by decide) (by decide) (by decide), h3, List.length_cons, show st.length + 1 - 1 - j = (st.length - 1 - j) + 1 by omega, List.getD_cons_succ]
  · exact nI_lt (a := 0) (by omega) (by omega)
theorem XC.fr {μ μ' : Mu} {w : Nat} {T : PT} {D : DT} {own : Nat → Nat → Prop} (h : XC μ w T D) (f : Fr own μ μ') (hr : mR μ' = mR μ) (ho : ∀ κ i, (κ = 18 ∨ (27 ≤ κ ∧ κ ≤ 38)) → ¬ own κ i) : XC μ' w T D := by
  have hpx : px μ' (hd 29 w) 3 = px μ (hd 29 w) 3 := by unfold px; rw [hr]
  refine ⟨h.1, h.2.1, h.2.2.1.fr (fun f' i j hr' => ?_), ?_⟩
  · rcases f' with _|_|_|_|_|_|_|_|_|_|_|_|_|f' <;> first | (simp only [rng] at hr'; done) | exact f.I (by decide) (ho _ _ (by omega))
  · rw [hpx, f.I (by decide) (ho _ _ (by omega)), f.I (by decide) (ho _ _ (by omega)), f.I (by decide) (ho _ _ (by omega)), f.I (by decide) (ho _ _ (by omega))]
    exact h.2.2.2
/-! operations in a row: (kind, first, second) -/
abbrev Op : Type := Nat × Nat × Nat
noncomputable def stp (T : PT) (D : DT) (o : Op) (st : List Int32) : List Int32 :=
  if o.1 = 45 then nI o.2.1 :: st else if o.1 = 17 then nI (D 0 0 0) :: st else if 18 ≤ o.1 ∧ o.1 ≤ 23 then ansX T D o.1 o.2.1 o.2.2 :: st
  else if o.1 = 48 then (match st with | x :: r => -x :: r | [] => []) else if o.1 = 24 then (match st with | x :: r => (1 - x) :: r | [] => [])
  else match st with | y :: x :: r => jn o.1 x y :: r | _ => st
noncomputable def evS (T : PT) (D : DT) : List Op → List Int32 → List Int32
  | [], st => st
  | o :: l, st => evS T D l (stp T D o st)
/-- how high the stack is behind it -/
def hop (o : Op) (h : Nat) : Option Nat := if o.1 = 45 ∨ o.1 = 17 ∨ (18 ≤ o.1 ∧ o.1 ≤ 23) then some (h + 1) else if o.1 = 48 ∨ o.1 = 24 then (if 1 ≤ h then some h else none) else if 2 ≤ h then some (h - 1) else none
def hts : List Op → Nat → Option Nat
  | [], h => some h
  | o :: l, h => (hop o h).bind (hts l)
def opOK (T : PT) (o : Op) : Prop := (o.1 = 45 ∧ o.2.1 < 2 ^ 31) ∨ o.1 = 17 ∨ (18 ≤ o.1 ∧ o.1 ≤ 23 ∧ o.2.1 < T 0 0 ∧ (o.1 ≠ 21 → o.2.2 < T 1 0)) ∨ o.1 = 48 ∨ o.1 = 24 ∨ isBin o.1
def cellOp (μ : Mu) (q a : Nat) (o : Op) : Prop := mR μ (hd 22 q) a = some (hd 0 o.1) ∧ (o.1 = 45 → mI μ (hd 23 q) a = nI o.2.1) ∧ (o.1 = 17 → ∃ c, c < 5 ∧ mI μ (hd 23 q) a = nI c) ∧ (18 ≤ o.1 → o.1 ≤ 23 → mI μ (hd 23 q) a = nI o.2.1 ∧ (o.1 ≠ 21 → mI μ (hd 24 q) a = nI o.2.2))
def codeAt (μ : Mu) (q : Nat) : Nat → List Op → Prop
  | _, [] => True
  | a, o :: l => cellOp μ q a o ∧ codeAt μ q (a + 1) l
theorem codeAt.fr {μ μ' : Mu} {q : Nat} (f : FrC q μ μ') : ∀ (l : List Op) (a : Nat), codeAt μ q a l → codeAt μ' q a l
  | [], _, _ => trivial
  | o :: l, a, h => by
    have e3 : ∀ k, mI μ' (hd 23 q) k = mI μ (hd 23 q) k := fun k => f.1.I (by decide) (by unfold OwC; omega)
    have e4 : ∀ k, mI μ' (hd 24 q) k = mI μ (hd 24 q) k := fun k => f.1.I (by decide) (by unfold OwC; omega)
    refine ⟨?_, codeAt.fr f l (a + 1) h.2⟩
    have := h.1
    unfold cellOp at this ⊢
    rw [f.2.1, e3, e4]; exact this
/-- the value of a row of operations -/
noncomputable def evV (T : PT) (D : DT) (l : List Op) : Int32 := (evS T D l []).headD 0
theorem hts_cons {o : Op} {l : List Op} {h g : Nat} (e : hts (o :: l) h = some g) : ∃ h', hop o h = some h' ∧ hts l h' = some g := by
  rw [hts] at e
  cases ho : hop o h with
  | none => rw [ho] at e; cases e
  | some h' => rw [ho] at e; exact ⟨h', rfl, e⟩
