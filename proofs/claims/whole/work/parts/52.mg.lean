/-! the model's reading of the language -/
def nv (t : Nat → Nat) (p : Nat) : Nat → Nat
  | 0 => 0
  | k + 1 => 10 * nv t p k + (t (p + k) - 48)
/-- the length of the token i, and its number -/
noncomputable def lnT (t : Nat → Nat) (L i : Nat) : Nat := tkE t L (tS t L i) - tS t L i
noncomputable def nvT (t : Nat → Nat) (L i : Nat) : Nat := nv t (tS t L i) (lnT t L i)
/-- what a token is, in the model -/
def rl (K : Nat → Nat) (j : Nat) : Nat :=
  if 6 ≤ K j ∧ K j ≤ 9 then 7
  else if 13 ≤ K j ∧ K j ≤ 15 then 11
  else if K j = 45 then (if K (j - 1) = 4 then 6 else 0)
  else if K j = 44 then
    (if K (j - 1) = 0 then 1 else if K (j - 1) = 5 then 2 else if K (j - 1) = 1 then 3 else if K (j - 1) = 2 then 4 else if K (j - 1) = 3 then 5
     else if 6 ≤ K (j - 1) ∧ K (j - 1) ≤ 8 then 8 else if K (j - 1) = 9 then 10 else if 18 ≤ K (j - 1) ∧ K (j - 1) ≤ 23 then 12
     else if 6 ≤ K (j - 2) ∧ K (j - 2) ≤ 8 then 9 else 13)
  else 0
theorem rl_0 {K : Nat → Nat} {j : Nat} (h : K j ≠ 44 ∧ K j ≠ 45 ∧ ¬ (6 ≤ K j ∧ K j ≤ 9) ∧ ¬ (13 ≤ K j ∧ K j ≤ 15)) : rl K j = 0 := by
  unfold rl; rw [if_neg h.2.2.1, if_neg h.2.2.2, if_neg h.2.1, if_neg h.1]
theorem rl_45 {K : Nat → Nat} {j : Nat} (h : K j = 45) (h' : K (j - 1) ≠ 4) : rl K j = 0 := by
  unfold rl; rw [if_neg (by omega), if_neg (by omega), if_pos h, if_neg h']
theorem rl_44 {K : Nat → Nat} {j a b : Nat} (h : K j = 44) (h1 : K (j - 1) = a) (h2 : K (j - 2) = b) : rl K j = (if a = 0 then 1 else if a = 5 then 2 else if a = 1 then 3 else if a = 2 then 4 else if a = 3 then 5
     else if 6 ≤ a ∧ a ≤ 8 then 8 else if a = 9 then 10 else if 18 ≤ a ∧ a ≤ 23 then 12 else if 6 ≤ b ∧ b ≤ 8 then 9 else 13) := by
  unfold rl; rw [if_neg (by omega), if_neg (by omega), if_neg (by omega), if_pos h, h1, h2]
noncomputable def wdsR (t : Nat → Nat) (L : Nat) (o : Nat × Nat) : List Int32 :=
  if o.1 = 45 then [nI 32, nI (nvT t L (o.2 - 1))] else if o.1 = 21 then [nI 21, nI o.2] else if 18 ≤ o.1 ∧ o.1 ≤ 23 then [nI o.1, nI o.2, nI (o.2 + 1)]
  else if o.1 = 17 then [nI 17] else if o.1 = 48 then [nI 33] else if o.1 = 24 then [nI 24] else [nI (mop o.1)]
noncomputable def wdsO (t : Nat → Nat) (L : Nat) : RO → List Int32
  | [] => []
  | o :: l => wdsR t L o ++ wdsO t L l
theorem wdsR_len {t : Nat → Nat} {L : Nat} {o : Nat × Nat} : (wdsR t L o).length = wdR o := by
  unfold wdsR wdR
  split
  · rfl
  · split
    · rfl
    · split
      · rfl
      · split
        · rfl
        · split
          · rfl
          · split <;> rfl
theorem wdsO_len {t : Nat → Nat} {L : Nat} : ∀ l : RO, (wdsO t L l).length = wdL l
  | [] => rfl
  | o :: l => by rw [wdsO, wdL, List.length_append, wdsR_len, wdsO_len l]
theorem wdsO_app {t : Nat → Nat} {L : Nat} : ∀ l l' : RO, wdsO t L (l ++ l') = wdsO t L l ++ wdsO t L l'
  | [], _ => rfl
  | o :: l, l' => by rw [List.cons_append, wdsO, wdsO, wdsO_app l l', List.append_assoc]
def opR (a : Nat) (o : Nat × Nat) : List Nat := if o.1 = 21 then [a + 1] else if 18 ≤ o.1 ∧ o.1 ≤ 23 then [a + 1, a + 2] else []
def opO : Nat → RO → List Nat
  | _, [] => []
  | a, o :: l => opR a o ++ opO (a + wdR o) l
theorem opO_app : ∀ (l l' : RO) (a : Nat), opO a (l ++ l') = opO a l ++ opO (a + wdL l) l'
  | [], _, _ => rfl
  | o :: l, l', a => by rw [List.cons_append, opO, opO, opO_app l l', wdL, List.append_assoc, Nat.add_assoc]
def MT (μ : Mu) (t : Nat → Nat) (L : Nat) : Prop := TM μ t L ∧ ∀ i, i ≤ nT t L → mI μ (hd 42 0) i = nI (mk (tK t L i)) ∧ mI μ (hd 43 0) i = nI (tS t L i) ∧ (i < nT t L → mI μ (hd 44 0) i = nI (lnT t L i))
/-- the reading stands at p, with the words W and the open ones O -/
def MG (μ : Mu) (t : Nat → Nat) (L q δ p : Nat) (W : List Int32) (O : List Nat) : Prop := MT μ t L ∧ px μ (hd 40 0) 12 = q ∧ mI μ (hd 40 0) 9 = nI p ∧ mI μ (hd 40 0) 10 = nI δ ∧
  (mI μ (hd 50 q) 16 = nI W.length ∧ ∀ i, i < W.length → mI μ (hd 61 q) i = W.getD i 0) ∧
  (mI μ (hd 50 q) 18 = nI O.length ∧ ∀ i, i < O.length → mI μ (hd 62 q) i = nI (O.getD i 0)) ∧
  (p ≤ nT t L ∧ ∀ j, j ≤ nT t L → mI μ (hd 45 0) j = if j < p then nI (rl (tK t L) j) else 0)
def OwR (q κ i : Nat) : Prop := (κ = 40 ∧ i = 0) ∨ (κ = 45 ∧ i = 0) ∨ (κ = 50 ∧ i = q) ∨ (61 ≤ κ ∧ κ ≤ 62 ∧ i = q)
def FrR (q : Nat) (μ μ' : Mu) : Prop := Fr (OwR q) μ μ' ∧ mR μ' = mR μ ∧ (∀ k, k ≠ 9 → k ≠ 10 → mI μ' (hd 40 0) k = mI μ (hd 40 0) k) ∧ ∀ k, k ≠ 16 → k ≠ 18 → mI μ' (hd 50 q) k = mI μ (hd 50 q) k
theorem FrR.rf {q : Nat} {μ : Mu} : FrR q μ μ := ⟨Fr.rf, rfl, fun _ _ _ => rfl, fun _ _ _ => rfl⟩
theorem FrR.trans {q : Nat} {μ1 μ2 μ3 : Mu} (h : FrR q μ1 μ2) (h' : FrR q μ2 μ3) : FrR q μ1 μ3 :=
  ⟨h.1.trans h'.1, h'.2.1.trans h.2.1, fun k a b => (h'.2.2.1 k a b).trans (h.2.2.1 k a b), fun k a b => (h'.2.2.2 k a b).trans (h.2.2.2 k a b)⟩
theorem FrR.s40 {q k : Nat} {x : Int32} {μ μ' : Mu} (h : FrR q μ μ') (hk : k = 9 ∨ k = 10) : FrR q μ (setI μ' (hd 40 0) k x) :=
  ⟨h.1.setI (by decide) (Or.inl ⟨rfl, rfl⟩), h.2.1, fun j a b => by rw [rd_k (by omega)]; exact h.2.2.1 j a b, fun j a b => by rw [rd_ne (by decide) (by decide) (by decide)]; exact h.2.2.2 j a b⟩
theorem FrR.s50 {q k : Nat} {x : Int32} {μ μ' : Mu} (h : FrR q μ μ') (hk : k = 16 ∨ k = 18) : FrR q μ (setI μ' (hd 50 q) k x) :=
  ⟨h.1.setI (by decide) (Or.inr (Or.inr (Or.inl ⟨rfl, rfl⟩))), h.2.1, fun j a b => by rw [rd_ne (by decide) (by decide) (by decide)]; exact h.2.2.1 j a b, fun j a b => by rw [rd_k (by omega)]; exact h.2.2.2 j a b⟩
theorem FrR.s45 {q k : Nat} {x : Int32} {μ μ' : Mu} (h : FrR q μ μ') : FrR q μ (setI μ' (hd 45 0) k x) :=
  ⟨h.1.setI (by decide) (Or.inr (Or.inl ⟨rfl, rfl⟩)), h.2.1, fun j a b => by rw [rd_ne (by decide) (by decide) (by decide)]; exact h.2.2.1 j a b, fun j a b => by rw [rd_ne (by decide) (by decide) (by decide)]; exact h.2.2.2 j a b⟩
theorem FrR.s6 {q κ k : Nat} {x : Int32} {μ μ' : Mu} (h : FrR q μ μ') (hκ : 61 ≤ κ ∧ κ ≤ 62) : FrR q μ (setI μ' (hd κ q) k x) :=
  ⟨h.1.setI (by omega) (Or.inr (Or.inr (Or.inr ⟨hκ.1, hκ.2, rfl⟩))), h.2.1, fun j a b => by rw [rd_ne (by omega) (by decide) (by omega)]; exact h.2.2.1 j a b, fun j a b => by rw [rd_ne (by omega) (by decide) (by omega)]; exact h.2.2.2 j a b⟩
theorem MT.fr {μ μ' : Mu} {t : Nat → Nat} {L q : Nat} (h : MT μ t L) (f : FrR q μ μ') : MT μ' t L := by
  obtain ⟨⟨a1, a2, a3, a4⟩, h2⟩ := h
  refine ⟨⟨a1, a2, (f.2.2.1 2 (by decide) (by decide)).trans a3, fun k hk => ?_⟩, fun i hi => ?_⟩
  · rw [f.1.I (by decide) (by unfold OwR; omega)]; exact a4 k hk
  · rw [f.1.I (by decide) (by unfold OwR; omega), f.1.I (by decide) (by unfold OwR; omega), f.1.I (by decide) (by unfold OwR; omega)]; exact h2 i hi
theorem mk_inj : ∀ a, a ≤ 47 → ∀ b, b ≤ 47 → mk a = mk b → a = b := by
  have h : ∀ a, a < 48 → ∀ b, b < 48 → mk a = mk b → a = b := by decide +kernel
  exact fun a ha b hb => h a (by omega) b (by omega)
theorem mk_big : ∀ k, k < 48 → mk k < 1000 := by decide +kernel
section MGC
variable {d rc rs : Nat} {Q : Option Value → Mu → Prop} {μ : Mu} {t : Nat → Nat} {L q δ p : Nat} {W : List Int32} {O : List Nat}
theorem MG.p4 (h : MG μ t L q δ p W O) : p ≤ nT t L ∧ nT t L ≤ 400 := ⟨h.2.2.2.2.2.2.1, nT_le⟩
theorem MG.kd (h : MG μ t L q δ p W O) : mI μ (hd 42 0) p = nI (mk (tK t L p)) := (h.1.2 p h.p4.1).1
/-- the depth -/
theorem MG.dep {δ' : Nat} {x : Int32} (h : MG μ t L q δ p W O) (hx : x = nI δ') : MG (setI μ (hd 40 0) 10 x) t L q δ' p W O := by
  obtain ⟨a1, a2, a3, a4, a5, a6, a7⟩ := h
  refine ⟨a1.fr (FrR.rf (q := q).s40 (Or.inr rfl)), a2, ?_, by rw [rd_eq]; exact hx, ?_, ?_, ?_⟩
  · rw [rd_k (by decide)]; exact a3
  · refine ⟨by rw [rd_ne (by decide) (by decide) (by decide)]; exact a5.1, fun i hi => by rw [rd_ne (by decide) (by decide) (by decide)]; exact a5.2 i hi⟩
  · refine ⟨by rw [rd_ne (by decide) (by decide) (by decide)]; exact a6.1, fun i hi => by rw [rd_ne (by decide) (by decide) (by decide)]; exact a6.2 i hi⟩
  · exact ⟨a7.1, fun j hj => by rw [rd_ne (by decide) (by decide) (by decide)]; exact a7.2 j hj⟩
/-- a token on -/
theorem MG.tok {x : Int32} (h : MG μ t L q δ p W O) (hx : x = nI (p + 1)) (hp : p < nT t L) (hr : rl (tK t L) p = 0) : MG (setI μ (hd 40 0) 9 x) t L q δ (p + 1) W O := by
  obtain ⟨a1, a2, a3, a4, a5, a6, a7⟩ := h
  refine ⟨a1.fr (FrR.rf (q := q).s40 (Or.inl rfl)), a2, by rw [rd_eq]; exact hx, ?_, ?_, ?_, ?_⟩
  · rw [rd_k (by decide)]; exact a4
  · refine ⟨by rw [rd_ne (by decide) (by decide) (by decide)]; exact a5.1, fun i hi => by rw [rd_ne (by decide) (by decide) (by decide)]; exact a5.2 i hi⟩
  · refine ⟨by rw [rd_ne (by decide) (by decide) (by decide)]; exact a6.1, fun i hi => by rw [rd_ne (by decide) (by decide) (by decide)]; exact a6.2 i hi⟩
  · refine ⟨hp, fun j hj => ?_⟩
    rw [rd_ne (by decide) (by decide) (by decide), a7.2 j hj]
    by_cases z : j < p
    · rw [if_pos z, if_pos (by omega)]
    · rw [if_neg z]
      by_cases y : j = p
      · rw [if_pos (by omega), y, hr]; rfl
      · rw [if_neg (by omega)]
/-- a token on, as what it is -/
theorem MG.tokAs {x y : Int32} (h : MG μ t L q δ p W O) (hx : x = nI (p + 1)) (hp : p < nT t L) (hr : y = nI (rl (tK t L) p)) : MG (setI (setI μ (hd 45 0) p y) (hd 40 0) 9 x) t L q δ (p + 1) W O := by
  obtain ⟨a1, a2, a3, a4, a5, a6, a7⟩ := h
  refine ⟨a1.fr ((FrR.rf (q := q).s45).s40 (Or.inl rfl)), a2, by rw [rd_eq]; exact hx, ?_, ?_, ?_, ?_⟩
  · rw [rd_k (by decide), rd_ne (by decide) (by decide) (by decide)]; exact a4
  · refine ⟨by rw [rd_ne (by decide) (by decide) (by decide), rd_ne (by decide) (by decide) (by decide)]; exact a5.1, fun i hi => by rw [rd_ne (by decide) (by decide) (by decide), rd_ne (by decide) (by decide) (by decide)]; exact a5.2 i hi⟩
  · refine ⟨by rw [rd_ne (by decide) (by decide) (by decide), rd_ne (by decide) (by decide) (by decide)]; exact a6.1, fun i hi => by rw [rd_ne (by decide) (by decide) (by decide), rd_ne (by decide) (by decide) (by decide)]; exact a6.2 i hi⟩
  · refine ⟨hp, fun j hj => ?_⟩
    rw [rd_ne (by decide) (by decide) (by decide)]
    by_cases y : j = p
    · rw [y, rd_eq, if_pos (by omega)]; exact hr
    · rw [rd_k y, a7.2 j hj]
      by_cases z : j < p
      · rw [if_pos z, if_pos (by omega)]
      · rw [if_neg z, if_neg (by omega)]
theorem gi_l {α : Type} {l : List α} {x y : α} {i : Nat} (h : i < l.length) : (l ++ [x]).getD i y = l.getD i y := by
  rw [List.getD_eq_getElem?_getD, List.getElem?_append_left h, ← List.getD_eq_getElem?_getD]
theorem gi_r {α : Type} {l : List α} {x y : α} : (l ++ [x]).getD l.length y = x := by
  rw [List.getD_eq_getElem?_getD, List.getElem?_append_right (Nat.le_refl _), Nat.sub_self]; rfl
/-- a word more -/
theorem MG.word {x y : Int32} (h : MG μ t L q δ p W O) (hy : y = nI (W.length + 1)) : MG (setI (setI μ (hd 61 q) W.length x) (hd 50 q) 16 y) t L q δ p (W ++ [x]) O := by
  obtain ⟨a1, a2, a3, a4, a5, a6, a7⟩ := h
  refine ⟨a1.fr ((FrR.rf (q := q).s6 (by omega)).s50 (by omega)), a2, ?_, ?_, ?_, ?_, ?_⟩
  · rw [rd_ne (by decide) (by decide) (by decide), rd_ne (by decide) (by decide) (by decide)]; exact a3
  · rw [rd_ne (by decide) (by decide) (by decide), rd_ne (by decide) (by decide) (by decide)]; exact a4
  · refine ⟨by rw [rd_eq, List.length_append]; exact hy, fun i hi => ?_⟩
    rw [rd_ne (by decide) (by decide) (by decide)]
    rw [List.length_append] at hi
    have hi' : i < W.length + 1 := hi
    by_cases z : i = W.length
    · rw [z, rd_eq, gi_r]
    · rw [rd_k z, gi_l (by omega)]; exact a5.2 i (by omega)
  · refine ⟨by rw [rd_k (by decide), rd_ne (by decide) (by decide) (by decide)]; exact a6.1, fun i hi => by rw [rd_ne (by decide) (by decide) (by decide), rd_ne (by decide) (by decide) (by decide)]; exact a6.2 i hi⟩
  · exact ⟨a7.1, fun j hj => by rw [rd_ne (by decide) (by decide) (by decide), rd_ne (by decide) (by decide) (by decide)]; exact a7.2 j hj⟩
/-- an open word more -/
theorem MG.opn {x y : Int32} {a : Nat} (h : MG μ t L q δ p W O) (hx : x = nI a) (hy : y = nI (O.length + 1)) : MG (setI (setI μ (hd 62 q) O.length x) (hd 50 q) 18 y) t L q δ p W (O ++ [a]) := by
  obtain ⟨a1, a2, a3, a4, a5, a6, a7⟩ := h
  refine ⟨a1.fr ((FrR.rf (q := q).s6 (by omega)).s50 (by omega)), a2, ?_, ?_, ?_, ?_, ?_⟩
  · rw [rd_ne (by decide) (by decide) (by decide), rd_ne (by decide) (by decide) (by decide)]; exact a3
  · rw [rd_ne (by decide) (by decide) (by decide), rd_ne (by decide) (by decide) (by decide)]; exact a4
  · refine ⟨by rw [rd_k (by decide), rd_ne (by decide) (by decide) (by decide)]; exact a5.1, fun i hi => by rw [rd_ne (by decide) (by decide) (by decide), rd_ne (by decide) (by decide) (by decide)]; exact a5.2 i hi⟩
  · refine ⟨by rw [rd_eq, List.length_append]; exact hy, fun i hi => ?_⟩
    rw [rd_ne (by decide) (by decide) (by decide)]
    rw [List.length_append] at hi
    have hi' : i < O.length + 1 := hi
    by_cases z : i = O.length
    · rw [z, rd_eq, gi_r]; exact hx
    · rw [rd_k z, gi_l (by omega)]; exact a6.2 i (by omega)
  · exact ⟨a7.1, fun j hj => by rw [rd_ne (by decide) (by decide) (by decide), rd_ne (by decide) (by decide) (by decide)]; exact a7.2 j hj⟩
theorem c_MM_is {k : Nat} {x : Int32} (hD : 1 ≤ d) (hS : St μ) (hG : MG μ t L q δ p W O) (hx : x = nI (mk k)) (hk : k ≤ 47) (hQ : Q (some (.int (bI (tK t L p = k)))) μ) : Cal K_MM_is d rc rs [.ref (hd 40 0), .int x] μ Q := by
  have hp := hG.p4
  refine e_MM_is (g_MM_is_0 hD hS ?_)
  have hr := tK_rng (t := t) (L := L) (i := p)
  have b1 := mk_big (tK t L p) (by omega)
  have b2 := mk_big k (by omega)
  rw [hG.2.2.1, nI_clamp (by omega), hG.kd, hx, nI_eq (by omega) (by omega)]
  refine ⟨vp_in_nI (by omega) (by decide), fun z => ⟨hS, ?_⟩, fun z => ⟨hS, ?_⟩⟩
  · rw [bI_t (mk_inj _ hr _ hk z)] at hQ; exact hQ
  · rw [bI_f (fun y => z (by rw [y]))] at hQ; exact hQ
theorem c_MM_isSign {k : Nat} {x : Int32} (hD : 1 ≤ d) (hS : St μ) (hG : MG μ t L q δ p W O) (hx : (50 : Int32) + x = nI (mk k)) (hk : k ≤ 47) (hQ : Q (some (.int (bI (tK t L p = k)))) μ) : Cal K_MM_isSign d rc rs [.ref (hd 40 0), .int x] μ Q := by
  have hp := hG.p4
  refine e_MM_isSign (g_MM_isSign_0 hD hS ?_)
  have hr := tK_rng (t := t) (L := L) (i := p)
  have b1 := mk_big (tK t L p) (by omega)
  have b2 := mk_big k (by omega)
  rw [hG.2.2.1, nI_clamp (by omega), hG.kd, hx, nI_eq (by omega) (by omega)]
  refine ⟨vp_in_nI (by omega) (by decide), fun z => ⟨hS, ?_⟩, fun z => ⟨hS, ?_⟩⟩
  · rw [bI_t (mk_inj _ hr _ hk z)] at hQ; exact hQ
  · rw [bI_f (fun y => z (by rw [y]))] at hQ; exact hQ
theorem in_n (h : p ≤ nT t L) (hk : tK t L p < 46) : p < nT t L := by
  rcases Nat.eq_or_lt_of_le h with z | z
  · have := nT_end (t := t) (L := L); rw [← z] at this; omega
  · exact z
/-- eats a token, if it fits -/
theorem c_MM_eat {k : Nat} {x : Int32} (hD : 2 ≤ d) (hS : St μ) (hG : MG μ t L q δ p W O) (hx : x = nI (mk k)) (hk : k < 46) (hr : tK t L p = k → rl (tK t L) p = 0) (hn : tK t L p ≠ k → Q (some (.int 0)) μ) (hy : tK t L p = k → ∀ μ', FrR q μ μ' → St μ' → MG μ' t L q δ (p + 1) W O → Q (some (.int 1)) μ') : Cal K_MM_eat d rc rs [.ref (hd 40 0), .int x] μ Q := by
  have hp := hG.p4
  refine e_MM_eat (g_MM_eat_0 (by omega) hS (c_MM_is (by omega) hS hG hx (by omega) ⟨_, rfl, fun z => ⟨hS, hn (bI_z.mp z)⟩, fun z => ?_⟩))
  rw [bI_z, Classical.not_not] at z
  have hS1 : St (setI μ (hd 40 0) 9 (mI μ (hd 40 0) 9 + 1)) := hS
  exact ⟨hS1, hy z _ (FrR.rf.s40 (Or.inl rfl)) hS1 (hG.tok (by rw [hG.2.2.1, nI_1]) (in_n hp.1 (by omega)) (hr z))⟩
theorem c_MM_eatSign {k : Nat} {x : Int32} (hD : 3 ≤ d) (hS : St μ) (hG : MG μ t L q δ p W O) (hx : (50 : Int32) + x = nI (mk k)) (hk : k < 46) (hr : tK t L p = k → rl (tK t L) p = 0) (hn : tK t L p ≠ k → Q (some (.int 0)) μ) (hy : tK t L p = k → ∀ μ', FrR q μ μ' → St μ' → MG μ' t L q δ (p + 1) W O → Q (some (.int 1)) μ') : Cal K_MM_eatSign d rc rs [.ref (hd 40 0), .int x] μ Q := by
  refine e_MM_eatSign (g_MM_eatSign_0 (by omega) hS (c_MM_eat (by omega) hS hG hx hk hr (fun z => ⟨_, rfl, Or.inl rfl, hS, hn z⟩) (fun z μ' a b c => ⟨_, rfl, Or.inr rfl, b, hy z μ' a b c⟩)))
/-- eats a token as what it is, if it fits -/
theorem c_MM_eatAs {k : Nat} {x y : Int32} (hD : 3 ≤ d) (hS : St μ) (hG : MG μ t L q δ p W O) (hx : x = nI (mk k)) (hk : k < 46) (hr : tK t L p = k → y = nI (rl (tK t L) p)) (hn : tK t L p ≠ k → ∀ μ', FrR q μ μ' → St μ' → mI μ' (hd 40 0) 9 = nI p → Q (some (.int 0)) μ') (hy : tK t L p = k → ∀ μ', FrR q μ μ' → St μ' → MG μ' t L q δ (p + 1) W O → Q (some (.int 1)) μ') : Cal K_MM_eatAs d rc rs [.ref (hd 40 0), .int x, .int y] μ Q := by
  have hp := hG.p4
  refine e_MM_eatAs (g_MM_eatAs_0 (by omega) hS ?_)
  rw [hG.2.2.1, nI_clamp (by omega)]
  refine ⟨vp_in_nI (by omega) (by decide), ?_⟩
  have hS1 : St (setI μ (hd 45 0) p y) := hS
  have e9 : mI (setI μ (hd 45 0) p y) (hd 40 0) 9 = nI p := by rw [rd_ne (by decide) (by decide) (by decide)]; exact hG.2.2.1
  refine e_MM_eat (g_MM_eat_0 (by omega) hS1 ?_)
  refine e_MM_is (g_MM_is_0 (by omega) hS1 ?_)
  have hr2 := tK_rng (t := t) (L := L) (i := p)
  have b1 := mk_big (tK t L p) (by omega)
  have b2 := mk_big k (by omega)
  rw [e9, nI_clamp (by omega), rd_ne (by decide) (by decide) (by decide), hG.kd, hx, nI_eq (by omega) (by omega)]
  refine ⟨vp_in_nI (by omega) (by decide), fun z => ⟨hS1, _, rfl, fun y => absurd y (by decide), fun _ => ?_⟩, fun z => ⟨hS1, _, rfl, fun _ => ⟨hS1, _, rfl, Or.inl rfl, hS1, ?_⟩, fun y => absurd rfl y⟩⟩
  · have z' := mk_inj _ hr2 _ (by omega) z
    have hS2 : St (setI (setI μ (hd 45 0) p y) (hd 40 0) 9 (nI p + 1)) := hS
    exact ⟨hS2, _, rfl, Or.inr rfl, hS2, hy z' _ ((FrR.rf.s45).s40 (Or.inl rfl)) hS2 (hG.tokAs (nI_1 _) (in_n hp.1 (by omega)) (hr z'))⟩
  · exact hn (fun y => z (by rw [y])) _ FrR.rf.s45 hS1 e9
theorem c_MM_put {x : Int32} (hD : 1 ≤ d) (hS : St μ) (hG : MG μ t L q δ p W O) (hW : W.length < 800) (hQ : ∀ μ', FrR q μ μ' → St μ' → MG μ' t L q δ p (W ++ [x]) O → Q none μ') : Cal K_MM_put d rc rs [.ref (hd 40 0), .int x] μ Q := by
  refine e_MM_put (g_MM_put_0 hD hS ?_)
  rw [hG.2.1, hG.2.2.2.2.1.1, nI_clamp (by omega), rd_ne (by decide) (by decide) (by decide), hG.2.2.2.2.1.1, nI_1]
  refine ⟨vp_in_nI (by omega) (by decide), fun μ5 e5 => ?_⟩
  have hS1 : St μ5 := by rw [e5]; exact hS
  refine ⟨hS1, hQ μ5 ?_ hS1 ?_⟩
  · rw [e5]; exact (FrR.rf.s6 (by omega)).s50 (by omega)
  · rw [e5]; exact hG.word rfl
theorem c_MM_isDeeper (hD : 1 ≤ d) (hS : St μ) (hG : MG μ t L q δ p W O) (hδ : δ ≤ 8) (hp : p < nT t L) (hr : rl (tK t L) p = 0) (hn : δ = 8 → Q (some (.int 0)) μ) (hy : δ < 8 → ∀ μ', FrR q μ μ' → St μ' → MG μ' t L q (δ + 1) (p + 1) W O → Q (some (.int 1)) μ') : Cal K_MM_isDeeper d rc rs [.ref (hd 40 0)] μ Q := by
  refine e_MM_isDeeper (g_MM_isDeeper_0 hD hS ?_)
  rw [hG.2.2.2.1, show (8 : Int32) = nI 8 from rfl, nI_eq (by omega) (by decide), nI_1, rd_k (by decide), hG.2.2.1, nI_1]
  refine ⟨fun z => ⟨hS, hn z⟩, fun z => ?_⟩
  have hS1 : St (setI (setI μ (hd 40 0) 10 (nI (δ + 1))) (hd 40 0) 9 (nI (p + 1))) := hS
  exact ⟨hS1, hy (by omega) _ ((FrR.rf.s40 (Or.inr rfl)).s40 (Or.inl rfl)) hS1 ((hG.dep rfl).tok rfl hp hr)⟩
/-- a name, with its open word -/
theorem c_MM_isName {y : Int32} (hD : 4 ≤ d) (hS : St μ) (hG : MG μ t L q δ p W O) (hW : W.length < 800) (hO : O.length < 400) (hr : tK t L p = 44 → y = nI (rl (tK t L) p)) (hn : tK t L p ≠ 44 → ∀ μ', FrR q μ μ' → St μ' → mI μ' (hd 40 0) 9 = nI p → Q (some (.int 0)) μ') (hy : tK t L p = 44 → ∀ μ', FrR q μ μ' → St μ' → MG μ' t L q δ (p + 1) (W ++ [nI p]) (O ++ [W.length]) → Q (some (.int 1)) μ') : Cal K_MM_isName d rc rs [.ref (hd 40 0), .int y] μ Q := by
  refine e_MM_isName (g_MM_isName_0 (by omega) hS ?_)
  rw [hG.2.1, hG.2.2.2.2.2.1.1, nI_clamp (by omega), rd_ne (by decide) (by decide) (by decide), hG.2.2.2.2.2.1.1, nI_1, hG.2.2.2.2.1.1]
  refine ⟨vp_in_nI (by omega) (by decide), fun μ6 e6 => ?_⟩
  have hS1 : St μ6 := by rw [e6]; exact hS
  have f1 : FrR q μ μ6 := by rw [e6]; exact (FrR.rf.s6 (by omega)).s50 (by omega)
  have hG1 : MG μ6 t L q δ p W (O ++ [W.length]) := by rw [e6]; exact hG.opn rfl rfl
  rw [hG1.2.2.1]
  refine c_MM_put (by omega) hS1 hG1 hW (fun μ7 a1 a2 a3 => ⟨rfl, c_MM_eatAs (k := 44) (by omega) a2 a3 (by decide) (by decide) hr (fun z μ8 b1 b2 b3 => ⟨_, rfl, Or.inl rfl, b2, hn z μ8 ((f1.trans a1).trans b1) b2 b3⟩) (fun z μ8 b1 b2 b3 => ⟨_, rfl, Or.inr rfl, b2, hy z μ8 ((f1.trans a1).trans b1) b2 b3⟩)⟩)
/-- a word, and a name behind it -/
theorem c_MM_isNamed (hD : 5 ≤ d) (hS : St μ) (hG : MG μ t L q δ p W O) (hk : 18 ≤ tK t L p ∧ tK t L p ≤ 23) (hW : W.length + 1 < 800) (hO : O.length < 400) (hn : tK t L (p + 1) ≠ 44 → ∀ μ', FrR q μ μ' → St μ' → mI μ' (hd 40 0) 9 = nI (p + 1) → Q (some (.int 0)) μ') (hy : tK t L (p + 1) = 44 → ∀ μ', FrR q μ μ' → St μ' → MG μ' t L q δ (p + 2) (W ++ [nI (tK t L p)] ++ [nI (p + 1)]) (O ++ [W.length + 1]) → Q (some (.int 1)) μ') : Cal K_MM_isNamed d rc rs [.ref (hd 40 0), .int 12] μ Q := by
  have hp := hG.p4
  have hpn := in_n hp.1 (by omega)
  refine e_MM_isNamed (g_MM_isNamed_0 (by omega) hS ?_)
  rw [hG.2.2.1, nI_clamp (by omega), hG.kd]
  have hmk : mk (tK t L p) = tK t L p := by unfold mk; rw [if_pos (by omega)]
  rw [hmk]
  refine ⟨vp_in_nI (by omega) (by decide), c_MM_put (by omega) hS hG (by omega) (fun μ2 a1 a2 a3 => ⟨rfl, ?_⟩)⟩
  rw [a3.2.2.1, nI_1]
  have hS2 : St (setI μ2 (hd 40 0) 9 (nI (p + 1))) := a2
  have hG2 : MG (setI μ2 (hd 40 0) 9 (nI (p + 1))) t L q δ (p + 1) (W ++ [nI (tK t L p)]) O := a3.tok rfl hpn (rl_0 (by omega))
  have f2 : FrR q μ (setI μ2 (hd 40 0) 9 (nI (p + 1))) := a1.s40 (Or.inl rfl)
  have hl : (W ++ [nI (tK t L p)]).length = W.length + 1 := by rw [List.length_append]; rfl
  have hrl : tK t L (p + 1) = 44 → (12 : Int32) = nI (rl (tK t L) (p + 1)) := by
    intro z
    rw [rl_44 z (show tK t L (p + 1 - 1) = tK t L p from rfl) rfl, if_neg (by omega), if_neg (by omega), if_neg (by omega), if_neg (by omega), if_neg (by omega), if_neg (by omega), if_neg (by omega), if_pos hk]
    rfl
  refine c_MM_isName (by omega) hS2 hG2 (by rw [hl]; exact hW) hO hrl (fun z μ3 b1 b2 b3 => ⟨_, rfl, Or.inl rfl, b2, hn z μ3 (f2.trans b1) b2 b3⟩) (fun z μ3 b1 b2 b3 => ⟨_, rfl, Or.inr rfl, b2, hy z μ3 (f2.trans b1) b2 (by rw [hl] at b3; exact b3)⟩)
theorem nv_lt {p : Nat} : ∀ k, (∀ j, j < k → isD (t (p + j))) → nv t p k < 10 ^ k
  | 0, _ => Nat.one_pos
  | k + 1, h => by
    have ih := nv_lt k (fun j hj => h j (by omega))
    have := h k (by omega)
    unfold isD at this
    rw [nv, Nat.pow_succ]; omega
/-- a number has at most six digits -/
theorem dig {i : Nat} (hi : i < nT t L) (hk : tK t L i = 45) : lnT t L i ≤ 6 ∧ tS t L i + lnT t L i ≤ L ∧ ∀ j, j < lnT t L i → isD (t (tS t L i + j)) := by
  have hs := tS_lt hi
  rw [tK_in hi] at hk
  have he := tkE_le (t := t) hs
  unfold tkK at hk
  by_cases hd' : isD (t (tS t L i))
  · rw [if_pos hd'] at hk
    have h6 : lnT t L i ≤ 6 := by
      unfold lnT
      by_cases z : tkE t L (tS t L i) - tS t L i ≤ 6
      · exact z
      · rw [if_neg z] at hk; omega
    refine ⟨h6, by unfold lnT; omega, fun j hj => ?_⟩
    have e : tkE t L (tS t L i) = skR t L (isL (t (tS t L i))) (tS t L i) := by unfold tkE; rw [if_pos (Or.inr hd')]
    have hj' : tS t L i + j < skR t L (isL (t (tS t L i))) (tS t L i) := by rw [← e]; unfold lnT at hj; omega
    have := (sc_all (show tS t L i ≤ tS t L i + j by omega) hj').2
    rcases this with z | ⟨z, -⟩
    · exact z
    · unfold isL at z; unfold isD at hd'; omega
  · rw [if_neg hd'] at hk
    by_cases hl : isL (t (tS t L i))
    · rw [if_pos hl] at hk
      split at hk
      · have := wdK_lt (t := t) (p := tS t L i) (n := tkE t L (tS t L i) - tS t L i); omega
      · omega
    · rw [if_neg hl] at hk
      have := syK_rng (t := t) (L := L) (p := tS t L i); omega
theorem c_MM_numberAt {i : Nat} (hD : 1 ≤ d) (hS : St μ) (hT : MT μ t L) (hi : i < nT t L) (hk : tK t L i = 45) (hQ : Q (some (.int (nI (nvT t L i)))) μ) : Cal K_MM_numberAt d rc rs [.ref (hd 40 0), .int (nI i)] μ Q := by
  have hn4 := nT_le (t := t) (L := L)
  obtain ⟨h6, hle, hdg⟩ := dig hi hk
  obtain ⟨k42, k43, k44⟩ := hT.2 i (by omega)
  have k44' := k44 hi
  have hL := hT.1.1
  have v4 : vp_in (nI i) 401 := vp_in_nI (by omega) (by decide)
  refine e_MM_numberAt (g_MM_numberAt_0 hD hS ?_)
  have key : ∀ k, k ≤ lnT t L i → Wx K_MM_numberAt d rc rs (fun r μ' => St μ' ∧ Q r μ') 4 [(0, .ref (hd 40 0)), (1, .int (nI i)), (2, .int (nI (nv t (tS t L i) k))), (3, .int (nI k))] [] μ := by
    refine up_loop (lnT t L i) ?_ ?_
    · refine g_MM_numberAt_4 hD hS ⟨v4, fun _ => ⟨hS, hQ⟩, fun z => absurd ?_ z⟩
      rw [nI_clamp (by omega), k44']; exact Int32.le_refl _
    · intro k hk' ih
      refine g_MM_numberAt_4 hD hS ⟨v4, fun z => absurd z ?_, fun _ => ⟨v4, ?_⟩⟩
      · rw [nI_clamp (by omega), k44', nI_leI (by omega) (by omega)]; omega
      · rw [nI_clamp (by omega), k43, nI_add, nI_clamp (by omega), hT.1.2.2.2 _ (by omega)]
        have hd1 := hdg k hk'
        unfold isD at hd1
        have e : (10 : Int32) * nI (nv t (tS t L i) k) + nI (t (tS t L i + k)) - 48 = nI (nv t (tS t L i) (k + 1)) := by
          rw [nv, show (10 : Int32) = nI 10 from rfl, nI_mul, nI_add, show (48 : Int32) = nI 48 from rfl, nI_sub (by omega)]
          exact congrArg nI (by omega)
        rw [e, nI_1]
        exact ⟨vp_in_nI (by omega) (by decide), ih⟩
  exact key 0 (Nat.zero_le _)
end MGC
