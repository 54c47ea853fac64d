/-! lines, and whole lists -/
abbrev Ord3 : Type := Nat × RO × RO
abbrev Rp : Type := Nat × Option (List Ord3)
def flatO : List Ord3 → RO
  | [] => []
  | o :: l => (o.2.1 ++ o.2.2) ++ flatO l
theorem flatO_app : ∀ l l' : List Ord3, flatO (l ++ l') = flatO l ++ flatO l'
  | [], _ => rfl
  | o :: l, l' => by rw [List.cons_append, flatO, flatO, flatO_app l l']; simp only [List.append_assoc]
def lnF (K : Nat → Nat) (p : Nat) : Rp :=
  if K p = 0 ∨ K p = 5 then ((ngF K p).1, (ngF K p).2.map (fun _ => []))
  else if K p = 1 then ((rdF K p).1, (rdF K p).2.map (fun _ => []))
  else if 6 ≤ K p ∧ K p ≤ 9 then
    match ohF K (K p) p with
    | (p1, none) => (p1, none)
    | (p1, some l1) => match otF K (K p) p1 with
      | (p2, none) => (p2, none)
      | (p2, some l2) => (p2, some [(p, l1, l2)])
  else (p, none)
def plF (K : Nat → Nat) : Nat → Nat → Rp
  | 0, p => (p, if K p = 46 then some [] else none)
  | f + 1, p => if K p = 46 then (p, some []) else
    match lnF K p with
    | (p1, none) => (p1, none)
    | (p1, some os) => if K p1 = 33 then (match plF K f (p1 + 1) with
      | (p2, none) => (p2, none)
      | (p2, some os') => (p2, some (os ++ os'))) else (p1, none)
/-! what a list that fits is like -/
def kw1 (k : Nat) : Prop := k ≤ 3 ∨ (5 ≤ k ∧ k ≤ 9) ∨ (18 ≤ k ∧ k ≤ 23)
def kw2 (k : Nat) : Prop := (6 ≤ k ∧ k ≤ 8) ∨ (18 ≤ k ∧ k ≤ 23 ∧ k ≠ 21)
def LSj (K : Nat → Nat) (j : Nat) : Prop :=
  (K j = 0 ∨ K j = 5 → K (j + 1) = 44) ∧
  (K j = 1 → K (j + 1) = 44 ∧ K (j + 2) = 2 ∧ K (j + 3) = 44 ∧ K (j + 4) = 3 ∧ K (j + 5) = 44 ∧ K (j + 6) = 4 ∧ K (j + 7) = 45) ∧
  (K j = 2 → 2 ≤ j ∧ K (j - 2) = 1) ∧ (K j = 3 → 4 ≤ j ∧ K (j - 4) = 1) ∧ (K j = 4 → 6 ≤ j ∧ K (j - 6) = 1) ∧
  (6 ≤ K j → K j ≤ 9 → K (j + 1) = 44 ∧ (K j ≠ 9 → K (j + 2) = 44) ∧ (K j = 8 → K (j + 3) = 12 ∧ 13 ≤ K (j + 4) ∧ K (j + 4) ≤ 15)) ∧
  (18 ≤ K j → K j ≤ 23 → K (j + 1) = 44 ∧ (K j ≠ 21 → K (j + 2) = 44)) ∧
  (K j = 44 → 1 ≤ j ∧ (kw1 (K (j - 1)) ∨ (K (j - 1) = 44 ∧ 2 ≤ j ∧ kw2 (K (j - 2))))) ∧
  (13 ≤ K j → K j ≤ 15 → 4 ≤ j ∧ K (j - 4) = 8)
def ordN (K : Nat → Nat) : Nat → Nat
  | 0 => 0
  | j + 1 => ordN K j + (if 6 ≤ K j ∧ K j ≤ 9 then 1 else 0)
theorem ordN_no {K : Nat → Nat} : ∀ c p, (∀ j, p ≤ j → j < p + c → ¬ (6 ≤ K j ∧ K j ≤ 9)) → ordN K (p + c) = ordN K p
  | 0, _, _ => rfl
  | c + 1, p, h => by
    rw [show p + (c + 1) = (p + c) + 1 by omega, ordN, if_neg (h (p + c) (by omega) (by omega))]
    exact ordN_no c p (fun j a b => h j a (by omega))
theorem ordN_no' {K : Nat → Nat} {p p' : Nat} (hp : p ≤ p') (h : ∀ j, p ≤ j → j < p' → ¬ (6 ≤ K j ∧ K j ≤ 9)) : ordN K p' = ordN K p := by
  have := ordN_no (K := K) (p' - p) p (fun j a b => h j a (by omega))
  rwa [show p + (p' - p) = p' by omega] at this
/-- an operation that stands for a token -/
def refF (K : Nat → Nat) (n : Nat) (o : Nat × Nat) : Prop := (o.2 = 0 ∧ (o.1 = 48 ∨ o.1 = 24 ∨ isBin o.1)) ∨ (0 < o.2 ∧ o.1 ∈ opsR ∧ K (o.2 - 1) = o.1 ∧ o.2 ≤ n ∧ (o.1 = 17 → K o.2 ≠ 44) ∧ (18 ≤ o.1 → o.1 ≤ 23 → K o.2 = 44 ∧ (o.1 ≠ 21 → K (o.2 + 1) = 44)))
theorem refR.f {K : Nat → Nat} {n p p' : Nat} {o : Nat × Nat} (h : refR K p p' o) (hn : p' ≤ n) (hk : K p' ≠ 44) : refF K n o := by
  rcases h with h | ⟨a, b, c, e, f, g, i⟩
  · exact Or.inl h
  · refine Or.inr ⟨a, b, c, by omega, fun u => ?_, fun u v => ⟨(i u v).2.1, fun w => ((i u v).2.2 w).2⟩⟩
    by_cases h' : o.2 < p'
    · exact g u h'
    · rw [show o.2 = p' by omega]; exact hk
def OF (K : Nat → Nat) (n : Nat) (o : Ord3) : Prop := (6 ≤ K o.1 ∧ K o.1 ≤ 9) ∧ (K o.1 ≤ 7 → SHV isAny o.2.1) ∧ (8 ≤ K o.1 → o.2.1 = []) ∧ (o.2.2 = [] ∨ SHV is01 o.2.2) ∧ ∀ a ∈ o.2.1 ++ o.2.2, refF K n a
/-- the lines from p to p' tell os -/
def LnOK (K : Nat → Nat) (n p p' : Nat) (os : List Ord3) : Prop := p ≤ p' ∧ p' ≤ n ∧ p + coL (flatO os) ≤ p' ∧ 2 * p + wdL (flatO os) ≤ 2 * p' ∧ (∀ j, p ≤ j → j < p' → LSj K j) ∧ ordN K p' = ordN K p + os.length ∧ (∀ k o, os[k]? = some o → p ≤ o.1 ∧ o.1 < p' ∧ ordN K o.1 = ordN K p + k) ∧ ∀ o ∈ os, OF K n o
theorem LnOK.nil {K : Nat → Nat} {n p p' : Nat} (h : p ≤ p') (hn : p' ≤ n) (hl : ∀ j, p ≤ j → j < p' → LSj K j) (ho : ordN K p' = ordN K p) : LnOK K n p p' [] :=
  ⟨h, hn, h, by show 2 * p + 0 ≤ _; omega, hl, ho, fun k o e => absurd e (by rw [List.getElem?_nil]; exact fun z => nomatch z), fun o e => nomatch e⟩
theorem LnOK.app {K : Nat → Nat} {n p p1 p2 : Nat} {os os' : List Ord3} (h : LnOK K n p p1 os) (h' : LnOK K n p1 p2 os') : LnOK K n p p2 (os ++ os') := by
  obtain ⟨a1, a2, a3, a4, a5, a6, a7, a8⟩ := h
  obtain ⟨b1, b2, b3, b4, b5, b6, b7, b8⟩ := h'
  refine ⟨by omega, b2, ?_, ?_, fun j x y => (Nat.lt_or_ge j p1).elim (fun z => a5 j x z) (fun z => b5 j z y), ?_, fun k o e => ?_, fun o ho => (List.mem_append.mp ho).elim (a8 o) (b8 o)⟩
  · rw [flatO_app, coL_app]; omega
  · rw [flatO_app, wdL_app]; omega
  · rw [List.length_append]; omega
  · rcases Nat.lt_or_ge k os.length with z | z
    · rw [List.getElem?_append_left z] at e
      obtain ⟨c1, c2, c3⟩ := a7 k o e
      exact ⟨c1, by omega, c3⟩
    · rw [List.getElem?_append_right z] at e
      obtain ⟨c1, c2, c3⟩ := b7 _ o e
      exact ⟨by omega, c2, by omega⟩
section LNS
variable {K : Nat → Nat} {n : Nat}
theorem LG.ls {j : Nat} (h : LG K j) : LSj K j := by
  obtain ⟨a, b, c⟩ := h
  unfold LSj kw1 kw2
  refine ⟨fun z => by omega, fun z => by omega, fun z => by omega, fun z => by omega, fun z => by omega, fun y z => by omega, b, fun z => ⟨(c z).1, ?_⟩, fun y z => by omega⟩
  obtain ⟨c1, c2, c3⟩ := c z
  rcases c3 with c3 | ⟨d1, d2, d3, d4, d5⟩
  · exact Or.inl (Or.inr (Or.inr ⟨c2, c3⟩))
  · exact Or.inr ⟨d1, d2, Or.inr ⟨d3, d4, d5⟩⟩
theorem Ok.tk2 {p a k : Nat} {F : Prop} {r : Rs} (hn : 46 ≤ K n) (h : Ok n (fun p' l => p' = a ∧ l = [] ∧ F) p r) (hk : k < 46) : Ok n (fun p' l => p' = a + 1 ∧ l = [] ∧ F ∧ K a = k) p (sq r (gTk K k)) := by
  refine Ok.bind h ?_
  rintro p1 l1 ⟨rfl, rfl, f⟩ _ b
  refine (Ok.tk hn hk b).imp ?_
  rintro p2 l2 _ _ ⟨rfl, rfl, e⟩
  exact ⟨rfl, rfl, f, e⟩
theorem Ok.tk1 {p k : Nat} (hn : 46 ≤ K n) (hp : p ≤ n) (hk : k < 46) : Ok n (fun p' l => p' = p + 1 ∧ l = [] ∧ K p = k) p (gTk K k p) := Ok.tk hn hk hp
theorem OkP.map {P : Nat → RO → Prop} {p : Nat} {r : Rs} (h : Ok n P p r) : p ≤ r.1 ∧ r.1 ≤ n ∧ ∀ os : List Ord3, r.2.map (fun _ => ([] : List Ord3)) = some os → os = [] ∧ ∃ l, P r.1 l := by
  obtain ⟨p1, _ | l⟩ := r
  · exact ⟨h.1, h.2.1, fun os e => nomatch e⟩
  · exact ⟨h.1, h.2.1, fun os e => by cases e; exact ⟨rfl, l, h.2.2 l rfl⟩⟩
theorem ng_ok {p : Nat} (hn : 46 ≤ K n) (hp : p ≤ n) (hk : K p = 0 ∨ K p = 5) : Ok n (fun p' _ => LnOK K n p p' [] ∧ p < p') p (ngF K p) := by
  unfold ngF
  have h := Ok.tk2 hn (Ok.tk1 (k := K p) hn hp (by omega)) (show 44 < 46 by decide)
  refine h.imp ?_
  rintro p' l _ h2 ⟨rfl, rfl, -, e⟩
  refine ⟨LnOK.nil (by omega) h2 (fun j a b => ?_) (ordN_no' (by omega) (fun j a b => ?_)), by omega⟩
  · rcases (by omega : j = p ∨ j = p + 1) with rfl | rfl
    · unfold LSj; omega
    · have e1 : K (p + 1 - 1) = K p := rfl
      unfold LSj kw1 kw2; omega
  · rcases (by omega : j = p ∨ j = p + 1) with rfl | rfl <;> omega
theorem rd_ok {p : Nat} (hn : 46 ≤ K n) (hp : p ≤ n) : Ok n (fun p' _ => LnOK K n p p' [] ∧ p < p') p (rdF K p) := by
  unfold rdF
  have h := Ok.tk2 hn (Ok.tk2 hn (Ok.tk2 hn (Ok.tk2 hn (Ok.tk2 hn (Ok.tk2 hn (Ok.tk2 hn (Ok.tk1 (k := 1) hn hp (by omega)) (show 44 < 46 by decide)) (show 2 < 46 by decide)) (show 44 < 46 by decide)) (show 3 < 46 by decide)) (show 44 < 46 by decide)) (show 4 < 46 by decide)) (show 45 < 46 by decide)
  refine h.imp ?_
  rintro p' l _ h2 ⟨rfl, rfl, ⟨⟨⟨⟨⟨⟨e0, e1⟩, e2⟩, e3⟩, e4⟩, e5⟩, e6⟩, e7⟩
  have e1' : K (p + 1) = 44 := e1
  have e2' : K (p + 2) = 2 := e2
  have e3' : K (p + 3) = 44 := e3
  have e4' : K (p + 4) = 3 := e4
  have e5' : K (p + 5) = 44 := e5
  have e6' : K (p + 6) = 4 := e6
  have e7' : K (p + 7) = 45 := e7
  refine ⟨LnOK.nil (by omega) h2 (fun j a b => ?_) (ordN_no' (by omega) (fun j a b => ?_)), by omega⟩
  · rcases (by omega : j = p ∨ j = p + 1 ∨ j = p + 2 ∨ j = p + 3 ∨ j = p + 4 ∨ j = p + 5 ∨ j = p + 6 ∨ j = p + 7) with rfl | rfl | rfl | rfl | rfl | rfl | rfl | rfl
    · unfold LSj; omega
    · have e : K (p + 1 - 1) = K p := rfl
      unfold LSj kw1 kw2; omega
    · have e : K (p + 2 - 2) = K p := rfl
      unfold LSj kw1 kw2; omega
    · have e : K (p + 3 - 1) = K (p + 2) := rfl
      unfold LSj kw1 kw2; omega
    · have e : K (p + 4 - 4) = K p := rfl
      unfold LSj kw1 kw2; omega
    · have e : K (p + 5 - 1) = K (p + 4) := rfl
      unfold LSj kw1 kw2; omega
    · have e : K (p + 6 - 6) = K p := rfl
      unfold LSj kw1 kw2; omega
    · unfold LSj kw1 kw2; omega
  · rcases (by omega : j = p ∨ j = p + 1 ∨ j = p + 2 ∨ j = p + 3 ∨ j = p + 4 ∨ j = p + 5 ∨ j = p + 6 ∨ j = p + 7) with rfl | rfl | rfl | rfl | rfl | rfl | rfl | rfl <;> omega
/-- the head of an order -/
def HdO (K : Nat → Nat) (n k p p1 : Nat) (l1 : RO) : Prop := K p = k ∧ p < p1 ∧ p1 ≤ n ∧ p + coL l1 ≤ p1 ∧ 2 * p + wdL l1 ≤ 2 * p1 ∧ (∀ a ∈ l1, refR K p p1 a) ∧ (k ≤ 7 → SHV isAny l1) ∧ (8 ≤ k → l1 = []) ∧ (∀ j, p ≤ j → j < p1 → LSj K j) ∧ ∀ j, p < j → j < p1 → 10 ≤ K j
theorem refR.mono {p0 p p' : Nat} {o : Nat × Nat} (h : refR K p p' o) (hp : p0 ≤ p) : refR K p0 p' o := by
  rcases h with h | ⟨a, b, c, e, f, g, i⟩
  · exact Or.inl h
  · exact Or.inr ⟨a, b, c, by omega, f, g, i⟩
theorem oh_ok {p k : Nat} (hn : 46 ≤ K n) (hp : p ≤ n) (hk : 6 ≤ k ∧ k ≤ 9) : Ok n (HdO K n k p) p (ohF K k p) := by
  have h0 := Ok.tk2 hn (Ok.tk1 (k := k) hn hp (by omega)) (show 44 < 46 by decide)
  unfold ohF
  refine Ok.bind h0 ?_
  rintro p1 l1 ⟨rfl, rfl, e0, e1⟩ _ h1
  by_cases h9 : k = 9
  · rw [if_pos h9]
    refine Ok.yes (Nat.le_refl _) h1 ⟨e0, by omega, h1, by show p + 0 ≤ _; omega, by show 2 * p + 0 ≤ _; omega, fun a ha => (nomatch ha), fun z => absurd z (by omega), fun _ => rfl, fun j a b => ?_, fun j a b => ?_⟩
    · rcases (by omega : j = p ∨ j = p + 1) with rfl | rfl
      · unfold LSj; omega
      · have e : K (p + 1 - 1) = K p := rfl
        unfold LSj kw1 kw2; omega
    · rw [show j = p + 1 by omega]; omega
  · rw [if_neg h9]
    refine Ok.bind (Ok.tk hn (show 44 < 46 by decide) h1) ?_
    rintro p2 l2 ⟨rfl, rfl, e2⟩ _ h2
    have e2' : K (p + 2) = 44 := e2
    have hb1 : K (p + 1 - 1) = K p := rfl
    have hb2 : K (p + 2 - 1) = K (p + 1) := rfl
    have hb3 : K (p + 2 - 2) = K p := rfl
    have hb4 : K (p + 4 - 4) = K p := rfl
    have ls0 : (k = 8 → K (p + 3) = 12 ∧ 13 ≤ K (p + 4) ∧ K (p + 4) ≤ 15) → LSj K p ∧ LSj K (p + 1) ∧ LSj K (p + 2) := by
      intro h8
      refine ⟨?_, ?_, ?_⟩
      · unfold LSj; omega
      · unfold LSj kw1 kw2; omega
      · unfold LSj kw1 kw2; omega
    have sm : ∀ w, 10 ≤ w → w ≤ 12 → k ≤ 7 → Ok n (fun p2 l2 => HdO K n k p p2 ([] ++ ([] ++ l2))) (p + 1 + 1 + 1) (sq (gTk K w (p + 1 + 1 + 1)) (gSum K 8)) := by
      intro w hw1 hw2 hk7
      refine Ok.bind (Ok.tk hn (show w < 46 by omega) h2) ?_
      rintro p3 l3 ⟨rfl, rfl, e3⟩ _ h3
      have e3' : K (p + 3) = w := e3
      refine (GV.gSum hn 8 _ h3).imp ?_
      rintro p4 l4 _ h4 ⟨g1, g2, g3⟩
      rw [List.nil_append, List.nil_append, List.nil_append]
      have hw := g2.wd
      have hl := g2.co
      obtain ⟨s0, s1, s2⟩ := ls0 (fun z => by omega)
      refine ⟨e0, by omega, h4, by omega, by omega, fun a ha => (g2.rf a ha).mono (by omega), fun _ => g3, fun z => absurd z (by omega), fun j a b => ?_, fun j a b => ?_⟩
      · rcases (by omega : j = p ∨ j = p + 1 ∨ j = p + 2 ∨ j = p + 3 ∨ p + 4 ≤ j) with z | z | z | z | z
        · rw [z]; exact s0
        · rw [z]; exact s1
        · rw [z]; exact s2
        · rw [z]; unfold LSj kw1 kw2; omega
        · exact (g2.cl j z b).ls
      · rcases (by omega : j = p + 1 ∨ j = p + 2 ∨ j = p + 3 ∨ p + 4 ≤ j) with z | z | z | z
        · rw [z]; omega
        · rw [z]; omega
        · rw [z]; omega
        · have := (g2.cl j z b).1; omega
    by_cases h6 : k = 6
    · rw [if_pos h6]; exact sm 10 (by decide) (by decide) (by omega)
    · rw [if_neg h6]
      by_cases h7 : k = 7
      · rw [if_pos h7]; exact sm 11 (by decide) (by decide) (by omega)
      · rw [if_neg h7]
        refine Ok.bind (Ok.tk hn (show 12 < 46 by decide) h2) ?_
        rintro p3 l3 ⟨rfl, rfl, e3⟩ _ h3
        have e3' : K (p + 3) = 12 := e3
        unfold wyF
        split
        · rename_i hy
          have hy' : 13 ≤ K (p + 4) ∧ K (p + 4) ≤ 15 := hy
          refine (Ok.tk hn (show K (p + 1 + 1 + 1 + 1) < 46 by omega) h3).imp ?_
          rintro p4 l4 _ h4 ⟨rfl, rfl, e4⟩
          obtain ⟨s0, s1, s2⟩ := ls0 (fun z => ⟨e3', hy'⟩)
          refine ⟨e0, by omega, h4, by show p + 0 ≤ _; omega, by show 2 * p + 0 ≤ _; omega, fun a ha => (nomatch ha), fun z => absurd z (by omega), fun _ => rfl, fun j a b => ?_, fun j a b => ?_⟩
          · rcases (by omega : j = p ∨ j = p + 1 ∨ j = p + 2 ∨ j = p + 3 ∨ j = p + 4) with z | z | z | z | z
            · rw [z]; exact s0
            · rw [z]; exact s1
            · rw [z]; exact s2
            · rw [z]; unfold LSj kw1 kw2; omega
            · rw [z]; unfold LSj kw1 kw2; omega
          · rcases (by omega : j = p + 1 ∨ j = p + 2 ∨ j = p + 3 ∨ j = p + 4) with z | z | z | z <;> rw [z] <;> omega
        · exact Ok.no h3
/-- its test -/
def TsO (K : Nat → Nat) (n p1 p2 : Nat) (l2 : RO) : Prop := GD K n p1 p2 l2 ∧ (l2 = [] ∨ SHV is01 l2) ∧ (p1 < p2 → K p1 = 16)
theorem ot_ok {p k : Nat} (hn : 46 ≤ K n) (hp : p ≤ n) : Ok n (TsO K n p) p (otF K k p) := by
  unfold otF
  split
  · refine Ok.bind (Ok.tk hn (show 16 < 46 by decide) hp) ?_
    rintro p1 l1 ⟨rfl, rfl, e⟩ _ h1
    refine (GV.gTes hn 8 _ h1).imp ?_
    rintro p4 l4 _ h4 ⟨g1, g2, g3⟩
    rw [List.nil_append]
    have g := (GD.tk (show p < n by omega) (show 16 ≤ K p ∧ K p ≠ 44 ∧ ¬ (18 ≤ K p ∧ K p ≤ 23) by omega)).app g2
    exact ⟨g, Or.inr g3, fun _ => e⟩
  · exact Ok.yes (Nat.le_refl _) hp ⟨⟨Nat.le_refl _, hp, Nat.le_refl _, Nat.le_refl _, fun z => absurd z (Nat.lt_irrefl _), fun a ha => (nomatch ha), fun j a b => absurd a (by omega)⟩, Or.inl rfl, fun z => absurd z (Nat.lt_irrefl _)⟩
/-- a line goes on -/
theorem ln_ok {p : Nat} (hn : 46 ≤ K n) (hp : p ≤ n) : p ≤ (lnF K p).1 ∧ (lnF K p).1 ≤ n ∧ ∀ os, (lnF K p).2 = some os → p < (lnF K p).1 ∧ (K (lnF K p).1 ≠ 44 → LnOK K n p (lnF K p).1 os) := by
  unfold lnF
  split
  · rename_i h
    obtain ⟨a, b, c⟩ := OkP.map (ng_ok hn hp h)
    exact ⟨a, b, fun os e => by obtain ⟨rfl, l, z1, z2⟩ := c os e; exact ⟨z2, fun _ => z1⟩⟩
  · split
    · obtain ⟨a, b, c⟩ := OkP.map (rd_ok hn hp)
      exact ⟨a, b, fun os e => by obtain ⟨rfl, l, z1, z2⟩ := c os e; exact ⟨z2, fun _ => z1⟩⟩
    · split
      · rename_i hk
        have h1 := oh_ok hn hp hk
        rcases hh : ohF K (K p) p with ⟨p1, _ | l1⟩
        · rw [hh] at h1
          exact ⟨h1.1, h1.2.1, fun os e => nomatch e⟩
        · rw [hh] at h1
          obtain ⟨b1, b2, b3⟩ := h1
          have b2' : p1 ≤ n := b2
          have h2 := ot_ok (k := K p) hn b2'
          obtain ⟨c1, c2, c3, c4, c5, c6, c7, c8, c9, c10⟩ := b3 l1 rfl
          rcases hh2 : otF K (K p) p1 with ⟨p2, _ | l2⟩
          · dsimp only
            rw [hh2]
            rw [hh2] at h2
            exact ⟨Nat.le_trans b1 h2.1, h2.2.1, fun os e => nomatch e⟩
          · dsimp only
            rw [hh2]
            rw [hh2] at h2
            obtain ⟨d1, d2, d3⟩ := h2
            obtain ⟨e1, e2, e3⟩ := d3 l2 rfl
            have d1' : p1 ≤ p2 := d1
            have d2' : p2 ≤ n := d2
            refine ⟨Nat.le_trans b1 d1, d2, fun os e => ?_⟩
            cases e
            refine ⟨by show p < p2; have c2' : p < p1 := c2; omega, fun hk' => ?_⟩
            have hk'' : K p2 ≠ 44 := hk'
            have w1 := e1.co
            have w2 := e1.wd
            have c2' : p < p1 := c2
            have c4' : p + coL l1 ≤ p1 := c4
            have c5' : 2 * p + wdL l1 ≤ 2 * p1 := c5
            have on : ordN K p2 = ordN K p + 1 := by
              rw [ordN_no' (p := p + 1) (by omega) (fun j a b => ?_), ordN, if_pos hk]
              rcases Nat.lt_or_ge j p1 with z | z
              · have := c10 j (by omega) z; omega
              · have := (e1.cl j z b).1; omega
            refine ⟨by show p ≤ p2; omega, d2, ?_, ?_, fun j a b => (Nat.lt_or_ge j p1).elim (fun z => c9 j a z) (fun z => (e1.cl j z b).ls), on, fun k o e => ?_, fun o ho => ?_⟩
            · show p + coL ((l1 ++ l2) ++ []) ≤ p2
              rw [List.append_nil, coL_app]; omega
            · show 2 * p + wdL ((l1 ++ l2) ++ []) ≤ 2 * p2
              rw [List.append_nil, wdL_app]; omega
            · cases k with
              | zero => cases e; exact ⟨Nat.le_refl _, by show p < p2; omega, rfl⟩
              | succ k => exact absurd e (by intro z; rw [List.getElem?_cons_succ, List.getElem?_nil] at z; exact nomatch z)
            · rw [List.mem_singleton.mp ho]
              refine ⟨hk, c7, c8, e2, fun a ha => ?_⟩
              rcases List.mem_append.mp ha with z | z
              · refine (c6 a z).f b2' ?_
                rcases Nat.eq_or_lt_of_le d1' with y | y
                · rw [y]; exact hk''
                · rw [e3 y]; decide
              · exact (e1.rf a z).f d2' hk''
      · exact ⟨Nat.le_refl _, hp, fun os e => nomatch e⟩
theorem ls_33 {p : Nat} (h : K p = 33) : LSj K p := by unfold LSj; omega
/-- a whole list -/
theorem pl_ok (hn : 46 ≤ K n) : ∀ f p, p ≤ n → p ≤ (plF K f p).1 ∧ (plF K f p).1 ≤ n ∧ ∀ os, (plF K f p).2 = some os → LnOK K n p (plF K f p).1 os ∧ K (plF K f p).1 = 46
  | 0, p, hp => by
    refine ⟨Nat.le_refl _, hp, fun os e => ?_⟩
    unfold plF at e ⊢
    by_cases h : K p = 46
    · dsimp only at e
      rw [if_pos h] at e; cases e
      exact ⟨LnOK.nil (Nat.le_refl _) hp (fun j a b => absurd a (by omega)) rfl, h⟩
    · dsimp only at e
      rw [if_neg h] at e; cases e
  | f + 1, p, hp => by
    unfold plF
    by_cases h : K p = 46
    · rw [if_pos h]
      exact ⟨Nat.le_refl _, hp, fun os e => by cases e; exact ⟨LnOK.nil (Nat.le_refl _) hp (fun j a b => absurd a (by omega)) rfl, h⟩⟩
    · rw [if_neg h]
      obtain ⟨a1, a2, a3⟩ := ln_ok hn hp
      rcases hh : lnF K p with ⟨p1, _ | os1⟩
      · rw [hh] at a1 a2
        exact ⟨a1, a2, fun os e => nomatch e⟩
      · rw [hh] at a1 a2 a3
        dsimp only
        by_cases h3 : K p1 = 33
        · rw [if_pos h3]
          have a2' : p1 ≤ n := a2
          have a1' : p ≤ p1 := a1
          have p1n : p1 + 1 ≤ n := by
            rcases Nat.eq_or_lt_of_le a2' with z | z
            · rw [z] at h3; omega
            · exact z
          obtain ⟨b1, b2, b3⟩ := pl_ok hn f (p1 + 1) p1n
          rcases hh2 : plF K f (p1 + 1) with ⟨p2, _ | os2⟩
          · rw [hh2] at b1 b2
            have b1' : p1 + 1 ≤ p2 := b1
            exact ⟨by show p ≤ p2; omega, b2, fun os e => nomatch e⟩
          · rw [hh2] at b1 b2 b3
            have b1' : p1 + 1 ≤ p2 := b1
            refine ⟨by show p ≤ p2; omega, b2, fun os e => ?_⟩
            cases e
            obtain ⟨c1, c2⟩ := b3 os2 rfl
            have c3 := (a3 os1 rfl).2 (by rw [h3]; decide)
            have c4 : LnOK K n p1 (p1 + 1) [] := LnOK.nil (by omega) p1n (fun j a b => by rw [show j = p1 by omega]; exact ls_33 h3) (by rw [ordN, if_neg (by omega)]; rfl)
            have := (c3.app c4).app c1
            rw [List.append_nil] at this
            exact ⟨this, c2⟩
        · rw [if_neg h3]
          exact ⟨a1, a2, fun os e => nomatch e⟩
end LNS
