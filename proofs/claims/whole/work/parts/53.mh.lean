/-! the model's reading: sums and tests -/
/-- what there is room for -/
def SZ (t : Nat → Nat) (L p : Nat) (W : List Int32) (O : List Nat) : Prop := W.length ≤ 2 * p ∧ O.length ≤ p ∧ tK t L (p - 1) ≠ 4
def MrM (A : KM) (t : Nat → Nat) (L q δ m : Nat) (F : Nat → Rs) : Prop := ∀ (d rc rs : Nat) (Q : Option Value → Mu → Prop) (μ : Mu) (p : Nat) (W : List Int32) (O : List Nat), m ≤ d → St μ → MG μ t L q δ p W O → SZ t L p W O → (∀ μ' p', F p = (p', none) → FrR q μ μ' → St μ' → mI μ' (hd 40 0) 9 = nI p' → Q (some (.int 0)) μ') → (∀ μ' p' l, F p = (p', some l) → FrR q μ μ' → St μ' → MG μ' t L q δ p' (W ++ wdsO t L l) (O ++ opO W.length l) → Q (some (.int 1)) μ') → Cal A d rc rs [.ref (hd 40 0)] μ Q
theorem opR_len {a : Nat} {o : Nat × Nat} : (opR a o).length = opN o := by
  unfold opR opN
  split
  · rfl
  · split <;> rfl
theorem opO_len : ∀ (l : RO) (a : Nat), (opO a l).length + l.length = coL l
  | [], _ => rfl
  | o :: l, a => by have := opO_len l (a + wdR o); rw [opO, coL, List.length_append, opR_len, List.length_cons]; omega
section MHC
variable {t : Nat → Nat} {L q δ p : Nat} {W : List Int32} {O : List Nat}
theorem SZ.step {p' n : Nat} {l : RO} (h : SZ t L p W O) (g : GD (tK t L) n p p' l) (hp : p < p') : SZ t L p' (W ++ wdsO t L l) (O ++ opO W.length l) := by
  obtain ⟨h1, h2, h3⟩ := h
  have a := g.wd
  have b := g.co
  have c := opO_len l W.length
  have e := (g.cl (p' - 1) (by omega) (by omega)).1
  refine ⟨?_, ?_, by omega⟩
  · rw [List.length_append, wdsO_len]; omega
  · rw [List.length_append]; omega
theorem SZ.tok (h : SZ t L p W O) (hk : tK t L p ≠ 4) : SZ t L (p + 1) W O := by
  obtain ⟨h1, h2, h3⟩ := h
  exact ⟨by omega, by omega, by rw [Nat.add_sub_cancel]; exact hk⟩
theorem sqn {r : Rs} {f : Nat → Rs} {a : Nat} (h : r = (a, none)) : sq r f = (a, none) := by rw [h]; rfl
theorem sqsn {r : Rs} {f : Nat → Rs} {a b : Nat} {l : RO} (h : r = (a, some l)) (h' : f a = (b, none)) : sq r f = (b, none) := by
  rw [h]; unfold sq; dsimp only; rw [h']
theorem sqss {r : Rs} {f : Nat → Rs} {a b : Nat} {l l' : RO} (h : r = (a, some l)) (h' : f a = (b, some l')) : sq r f = (b, some (l ++ l')) := by
  rw [h]; unfold sq; dsimp only; rw [h']
theorem tk_y {K : Nat → Nat} {k p : Nat} (h : K p = k) : gTk K k p = (p + 1, some []) := if_pos h
theorem tk_n {K : Nat → Nat} {k p : Nat} (h : K p ≠ k) : gTk K k p = (p, none) := if_neg h
theorem dp_y {K : Nat → Nat} {b : Bool} {k p : Nat} (h : K p = k) (hb : b = true) : gDp K b k p = (p + 1, some []) := by unfold gDp; rw [if_pos hb, tk_y h]
theorem dp_n {K : Nat → Nat} {b : Bool} {k p : Nat} (h : K p ≠ k ∨ b = false) : gDp K b k p = (p, none) := by
  unfold gDp
  cases b with
  | false => rfl
  | true => rw [if_pos rfl, tk_n (h.elim id (fun z => nomatch z))]
/-- an operator's word -/
theorem wds_op {k : Nat} (hk : k ≠ 45 ∧ k ≠ 17 ∧ ¬ (18 ≤ k ∧ k ≤ 23)) (l : RO) : ∃ w, wdsR t L (k, 0) = [w] ∧ wdsO t L (l ++ [(k, 0)]) = wdsO t L l ++ [w] ∧ (∀ a, opO a (l ++ [(k, 0)]) = opO a l) ∧ (k = 48 → w = nI 33) ∧ (k = 24 → w = nI 24) ∧ (k ≠ 48 → k ≠ 24 → w = nI (mop k)) := by
  have e : wdsR t L (k, 0) = [if k = 48 then nI 33 else if k = 24 then nI 24 else nI (mop k)] := by
    unfold wdsR
    rw [if_neg hk.1, if_neg (show k ≠ 21 by omega), if_neg hk.2.2, if_neg hk.2.1]
    by_cases h : k = 48
    · subst h; rfl
    · by_cases h' : k = 24
      · subst h'; rfl
      · rw [if_neg h, if_neg h', if_neg (show ¬ (k, 0).1 = 48 from h), if_neg (show ¬ (k, 0).1 = 24 from h')]
  refine ⟨_, e, ?_, fun a => ?_, fun z => if_pos z, fun z => ?_, fun z y => ?_⟩
  · rw [wdsO_app]; show wdsO t L l ++ (wdsR t L (k, 0) ++ []) = _; rw [e]; rfl
  · rw [opO_app]
    have : opR (a + wdL l) (k, 0) = [] := by unfold opR; rw [if_neg (show (k, 0).1 ≠ 21 by show k ≠ 21; omega), if_neg hk.2.2]
    show opO a l ++ (opR (a + wdL l) (k, 0) ++ []) = _
    rw [this, List.append_nil, List.append_nil]
  · rw [if_neg (by omega), if_pos z]
  · rw [if_neg z, if_neg y]
/-- the names that a board's operation asks for -/
theorem wds_bd {k p : Nat} (hk : 18 ≤ k ∧ k ≤ 23) : wdsO t L [(k, p + 1)] = (if k = 21 then [nI 21, nI (p + 1)] else [nI k, nI (p + 1), nI (p + 2)]) ∧ ∀ a, opO a [(k, p + 1)] = if k = 21 then [a + 1] else [a + 1, a + 2] := by
  refine ⟨?_, fun a => ?_⟩
  · show wdsR t L (k, p + 1) ++ [] = _
    unfold wdsR
    rw [List.append_nil, if_neg (show (k, p + 1).1 ≠ 45 by show k ≠ 45; omega)]
    by_cases h : k = 21
    · subst h; rfl
    · rw [if_neg h, if_neg (show ¬ (k, p + 1).1 = 21 from h), if_pos (show 18 ≤ (k, p + 1).1 ∧ (k, p + 1).1 ≤ 23 from hk)]
  · show opR a (k, p + 1) ++ [] = _
    unfold opR
    rw [List.append_nil]
    by_cases h : k = 21
    · subst h; rfl
    · rw [if_neg h, if_neg (show ¬ (k, p + 1).1 = 21 from h), if_pos (show 18 ≤ (k, p + 1).1 ∧ (k, p + 1).1 ≤ 23 from hk)]
/-- a board, all its notices or one -/
theorem c_MM_bd1 {d rc rs : Nat} {Q : Option Value → Mu → Prop} {μ : Mu} (hD : 6 ≤ d) (hS : St μ) (hG : MG μ t L q δ p W O) (hZ : SZ t L p W O) (hk : tK t L p = 21) (hn : ∀ μ' p', bdF (tK t L) 21 p = (p', none) → FrR q μ μ' → St μ' → mI μ' (hd 40 0) 9 = nI p' → Q (some (.int 0)) μ') (hs : ∀ μ' p' l, bdF (tK t L) 21 p = (p', some l) → FrR q μ μ' → St μ' → MG μ' t L q δ p' (W ++ wdsO t L l) (O ++ opO W.length l) → Q (some (.int 1)) μ') : Cal K_MM_isNamed d rc rs [.ref (hd 40 0), .int 12] μ Q := by
  have hp := hG.p4
  have hpn := in_n hp.1 (by omega)
  obtain ⟨z1, z2, z3⟩ := hZ
  have e0 : sq (gAd 21 (p + 1) p) (gTk (tK t L) 21) = (p + 1, some [(21, p + 1)]) := sqss rfl (tk_y hk)
  refine c_MM_isNamed (by omega) hS hG (by omega) (by omega) (by omega) (fun z μ' a b c => hn μ' (p + 1) ?_ a b c) (fun z μ' a b c => hs μ' (p + 2) [(21, p + 1)] ?_ a b ?_)
  · exact sqn (sqsn e0 (tk_n z))
  · exact sqss (sqss e0 (tk_y z)) (if_pos rfl)
  · obtain ⟨w1, w2⟩ := wds_bd (t := t) (L := L) (k := 21) (p := p) (by decide)
    rw [w1, w2, if_pos rfl, if_pos rfl]
    rw [hk, List.append_assoc] at c; exact c
theorem c_MM_bd2 {d rc rs : Nat} {k : Nat} {Q : Option Value → Mu → Prop} {μ : Mu} (hD : 6 ≤ d) (hS : St μ) (hG : MG μ t L q δ p W O) (hZ : SZ t L p W O) (hk : tK t L p = k) (hk1 : 18 ≤ k ∧ k ≤ 23) (hk2 : k ≠ 21) (hn : ∀ μ' p', bdF (tK t L) k p = (p', none) → FrR q μ μ' → St μ' → mI μ' (hd 40 0) 9 = nI p' → Q (some (.int 0)) μ') (hs : ∀ μ' p' l, bdF (tK t L) k p = (p', some l) → FrR q μ μ' → St μ' → MG μ' t L q δ p' (W ++ wdsO t L l) (O ++ opO W.length l) → Q (some (.int 1)) μ') : Cal K_MM_isNamed d rc rs [.ref (hd 40 0), .int 12] μ (fun r μ1 => ∃ y2, r = some (.int y2) ∧ ((y2 = 0 → (St μ1 ∧ Q (some (.int 0)) μ1)) ∧ (¬ y2 = 0 → (Cal K_MM_isName d rc rs [.ref (hd 40 0), .int 13] μ1 (fun r μ3 => ∃ y4, r = some (.int y4) ∧ ((y4 = 0 → (St μ3 ∧ Q (some (.int 0)) μ3)) ∧ (¬ y4 = 0 → (St μ3 ∧ Q (some (.int 1)) μ3)))))))) := by
  have hp := hG.p4
  have hpn := in_n hp.1 (by omega)
  obtain ⟨z1, z2, z3⟩ := hZ
  have e0 : sq (gAd k (p + 1) p) (gTk (tK t L) k) = (p + 1, some [(k, p + 1)]) := sqss rfl (tk_y hk)
  refine c_MM_isNamed (by omega) hS hG (by omega) (by omega) (by omega) (fun z μ' a b c => ⟨0, rfl, fun _ => ⟨b, hn μ' (p + 1) (sqn (sqsn e0 (tk_n z))) a b c⟩, fun y => absurd rfl y⟩) (fun z μ1 a1 a2 a3 => ⟨1, rfl, fun y => absurd y (by decide), fun _ => ?_⟩)
  have hp2 := a3.p4
  have e1 : sq (sq (gAd k (p + 1) p) (gTk (tK t L) k)) (gTk (tK t L) 44) = (p + 2, some [(k, p + 1)]) := sqss e0 (tk_y z)
  have hb : (fun q => if k = 21 then ((q, some []) : Rs) else gTk (tK t L) 44 q) (p + 2) = gTk (tK t L) 44 (p + 2) := if_neg hk2
  have hl : (W ++ [nI (tK t L p)] ++ [nI (p + 1)]).length = W.length + 2 := by rw [List.length_append, List.length_append]; rfl
  have hrl : tK t L (p + 2) = 44 → (13 : Int32) = nI (rl (tK t L) (p + 2)) := by
    intro y
    rw [rl_44 y (show tK t L (p + 2 - 1) = 44 from z) (show tK t L (p + 2 - 2) = k from hk), if_neg (by omega), if_neg (by omega), if_neg (by omega), if_neg (by omega), if_neg (by omega), if_neg (by omega), if_neg (by omega), if_neg (by omega), if_neg (by omega)]
    rfl
  refine c_MM_isName (by omega) a2 a3 (by rw [hl]; omega) (by rw [List.length_append]; show O.length + 1 < 400; omega) hrl (fun y μ3 b1 b2 b3 => ⟨0, rfl, fun _ => ⟨b2, hn μ3 (p + 2) (sqsn e1 (hb.trans (tk_n y))) (a1.trans b1) b2 b3⟩, fun x => absurd rfl x⟩) (fun y μ3 b1 b2 b3 => ⟨1, rfl, fun x => absurd x (by decide), fun _ => ⟨b2, hs μ3 (p + 3) [(k, p + 1)] (sqss e1 (hb.trans (tk_y y))) (a1.trans b1) b2 ?_⟩⟩)
  obtain ⟨w1, w2⟩ := wds_bd (t := t) (L := L) (k := k) (p := p) hk1
  rw [w1, w2, if_neg hk2, if_neg hk2]
  rw [hl, hk, List.append_assoc, List.append_assoc, List.append_assoc] at b3
  exact b3
theorem nI_m (a : Nat) : nI (a + 1) - 1 = nI a := by rw [← nI_1, Int32.add_sub_cancel]
/-- in brackets, one sum -/
theorem c_MM_in1 {d rc rs m : Nat} {x : Int32} {ds : Nat → Rs} {Q : Option Value → Mu → Prop} {μ : Mu} (hδ : δ ≤ 8) (hm : m + 1 ≤ d) (hm4 : 5 ≤ d) (hds : δ < 8 → MrM K_MM_isSum t L q (δ + 1) m ds ∧ GV (tK t L) (nT t L) isAny ds) (hS : St μ) (hG : MG μ t L q δ p W O) (hZ : SZ t L p W O) (hn : ∀ μ' p', sq (sq (gDp (tK t L) (decide (δ < 8)) 29 p) ds) (gTk (tK t L) 30) = (p', none) → FrR q μ μ' → St μ' → mI μ' (hd 40 0) 9 = nI p' → Q (some (.int 0)) μ') (hs : ∀ μ' p' l, sq (sq (gDp (tK t L) (decide (δ < 8)) 29 p) ds) (gTk (tK t L) 30) = (p', some l) → FrR q μ μ' → St μ' → MG μ' t L q δ p' (W ++ wdsO t L l) (O ++ opO W.length l) → Q (some (.int 1)) μ') : Cal K_MM_isInside d rc rs [.ref (hd 40 0), .int x, .int 0] μ Q := by
  have hp := hG.p4
  refine e_MM_isInside (g_MM_isInside_0 (by omega) hS (c_MM_isSign (k := 29) (by omega) hS hG (by decide) (by decide) ⟨_, rfl, fun z => ?_, fun z => ?_⟩))
  · rw [bI_z] at z
    exact ⟨hS, hn μ p (sqn (sqn (dp_n (Or.inl z)))) FrR.rf hS hG.2.2.1⟩
  · rw [bI_z, Classical.not_not] at z
    have hpn := in_n hp.1 (by omega)
    refine c_MM_isDeeper (by omega) hS hG hδ hpn (rl_0 (by omega)) (fun z8 => ⟨0, rfl, fun _ => ⟨hS, hn μ p (sqn (sqn (dp_n (Or.inr (decide_eq_false (by omega)))))) FrR.rf hS hG.2.2.1⟩, fun y => absurd rfl y⟩) (fun hlt μ1 a1 a2 a3 => ⟨1, rfl, fun y => absurd y (by decide), fun _ => ?_⟩)
    obtain ⟨h1, h2⟩ := hds hlt
    have ed : gDp (tK t L) (decide (δ < 8)) 29 p = (p + 1, some []) := dp_y z (decide_eq_true hlt)
    refine h1 _ _ _ _ _ _ _ _ (by omega) a2 a3 (hZ.tok (by omega)) (fun μ2 p2 e f s w => ⟨0, rfl, fun _ => ⟨s, hn μ2 p2 (sqn (sqsn ed e)) (a1.trans f) s w⟩, fun y => absurd rfl y⟩) (fun μ2 p2 l2 e f s w => ⟨1, rfl, fun y => absurd y (by decide), fun _ => ?_⟩)
    have g := (h2 (p + 1) hpn).2.2 l2 (by rw [e])
    rw [e] at g
    rw [w.2.2.2.1, nI_m]
    have hS3 : St (setI μ2 (hd 40 0) 10 (nI δ)) := s
    have w3 := w.dep (δ' := δ) (x := nI δ) rfl
    have ed2 := sqss ed e
    refine ⟨fun _ => ⟨fun _ => c_MM_eatSign (k := 30) (by omega) hS3 w3 (by decide) (by decide) (fun y => rl_0 (by omega)) (fun y => ⟨_, rfl, Or.inl rfl, hS3, hn _ p2 (sqsn ed2 (tk_n y)) ((a1.trans f).s40 (Or.inr rfl)) hS3 w3.2.2.1⟩) (fun y μ4 b1 b2 b3 => ⟨_, rfl, Or.inr rfl, b2, hs μ4 (p2 + 1) _ (sqss ed2 (tk_y y)) (((a1.trans f).s40 (Or.inr rfl)).trans b1) b2 (by rw [List.append_nil, List.nil_append]; exact b3)⟩), fun y => absurd rfl y⟩, fun y => absurd rfl y⟩
/-- in brackets, two sums -/
theorem c_MM_in2 {d rc rs m k : Nat} {x : Int32} {ds : Nat → Rs} {Q : Option Value → Mu → Prop} {μ : Mu} (hδ : δ ≤ 8) (hm : m + 1 ≤ d) (hm4 : 5 ≤ d) (hk : k = 27 ∨ k = 28) (hx : x = nI k) (hds : δ < 8 → MrM K_MM_isSum t L q (δ + 1) m ds ∧ GV (tK t L) (nT t L) isAny ds) (hS : St μ) (hG : MG μ t L q δ p W O) (hZ : SZ t L p W O) (hn : ∀ μ' p', sq (prF (tK t L) (decide (δ < 8)) ds p) (gAd k 0) = (p', none) → FrR q μ μ' → St μ' → mI μ' (hd 40 0) 9 = nI p' → Q (some (.int 0)) μ') (hs : ∀ μ' p' l, sq (prF (tK t L) (decide (δ < 8)) ds p) (gAd k 0) = (p', some l) → FrR q μ μ' → St μ' → MG μ' t L q δ p' (W ++ wdsO t L l) (O ++ opO W.length l) → Q (some (.int 1)) μ') : Cal K_MM_isInside d rc rs [.ref (hd 40 0), .int x, .int 1] μ Q := by
  have hp := hG.p4
  refine e_MM_isInside (g_MM_isInside_0 (by omega) hS (c_MM_isSign (k := 29) (by omega) hS hG (by decide) (by decide) ⟨_, rfl, fun z => ?_, fun z => ?_⟩))
  · rw [bI_z] at z
    exact ⟨hS, hn μ p (sqn (sqn (sqn (sqn (sqn (dp_n (Or.inl z))))))) FrR.rf hS hG.2.2.1⟩
  · rw [bI_z, Classical.not_not] at z
    have hpn := in_n hp.1 (by omega)
    refine c_MM_isDeeper (by omega) hS hG hδ hpn (rl_0 (by omega)) (fun z8 => ⟨0, rfl, fun _ => ⟨hS, hn μ p (sqn (sqn (sqn (sqn (sqn (dp_n (Or.inr (decide_eq_false (by omega)))))))))  FrR.rf hS hG.2.2.1⟩, fun y => absurd rfl y⟩) (fun hlt μ1 a1 a2 a3 => ⟨1, rfl, fun y => absurd y (by decide), fun _ => ?_⟩)
    obtain ⟨h1, h2⟩ := hds hlt
    have ed : gDp (tK t L) (decide (δ < 8)) 29 p = (p + 1, some []) := dp_y z (decide_eq_true hlt)
    have hZ1 := hZ.tok (show tK t L p ≠ 4 by omega)
    refine h1 _ _ _ _ _ _ _ _ (by omega) a2 a3 hZ1 (fun μ2 p2 e f s w => ⟨0, rfl, fun _ => ⟨s, hn μ2 p2 (sqn (sqn (sqn (sqn (sqsn ed e))))) (a1.trans f) s w⟩, fun y => absurd rfl y⟩) (fun μ2 p2 l2 e f s w => ⟨1, rfl, fun y => absurd y (by decide), fun _ => ⟨fun y => absurd y (by decide), fun _ => ?_⟩⟩)
    have g := (h2 (p + 1) hpn).2.2 l2 (by rw [e])
    rw [e] at g
    have ed2 := sqss ed e
    have hZ2 := hZ1.step g.2.1 g.1
    refine c_MM_eatSign (k := 34) (by omega) s w (by decide) (by decide) (fun y => rl_0 (by omega)) (fun y => ⟨0, rfl, fun _ => ⟨s, hn _ p2 (sqn (sqn (sqn (sqsn ed2 (tk_n y))))) (a1.trans f) s w.2.2.1⟩, fun x => absurd rfl x⟩) (fun y μ4 b1 b2 b3 => ⟨1, rfl, fun x => absurd x (by decide), fun _ => ?_⟩)
    have hp3 := b3.p4
    have ed3 := sqss ed2 (tk_y y)
    have hZ3 := hZ2.tok (show tK t L p2 ≠ 4 by omega)
    refine h1 _ _ _ _ _ _ _ _ (by omega) b2 b3 hZ3 (fun μ5 p5 e' f' s' w' => ⟨0, rfl, fun _ => ⟨s', hn μ5 p5 (sqn (sqn (sqsn ed3 e'))) ((a1.trans f).trans (b1.trans f')) s' w'⟩, fun y => absurd rfl y⟩) (fun μ5 p5 l5 e' f' s' w' => ⟨1, rfl, fun y => absurd y (by decide), fun _ => ⟨fun y => absurd y (by decide), fun _ => ?_⟩⟩)
    have g' := (h2 (p2 + 1) hp3.1).2.2 l5 (by rw [e'])
    rw [e'] at g'
    have ed4 := sqss ed3 e'
    rw [w'.2.2.2.1, nI_m]
    have hS3 : St (setI μ5 (hd 40 0) 10 (nI δ)) := s'
    have w3 := w'.dep (δ' := δ) (x := nI δ) rfl
    have c1 := g.2.1.wd
    have c2 := g'.2.1.wd
    have c3 := g'.2.1.hn
    obtain ⟨wo, -, w2, w4, -, -, w5⟩ := wds_op (t := t) (L := L) (k := k) (by omega) (l2 ++ [] ++ l5 ++ [])
    have w5' := w5 (by omega) (by omega)
    have hmop : mop k = k := by rcases hk with rfl | rfl <;> decide
    have hlen : (W ++ wdsO t L l2 ++ wdsO t L l5).length = W.length + wdL l2 + wdL l5 := by rw [List.length_append, List.length_append, wdsO_len, wdsO_len]
    have z1 := hZ.1
    refine c_MM_put (by omega) hS3 w3 (by rw [hlen]; omega) (fun μ6 m1 m2 m3 => ⟨rfl, c_MM_eatSign (k := 30) (by omega) m2 m3 (by decide) (by decide) (fun y => rl_0 (by omega)) (fun y => ⟨_, rfl, Or.inl rfl, m2, hn _ p5 (sqn (sqsn ed4 (tk_n y))) ((((a1.trans f).trans (b1.trans f')).s40 (Or.inr rfl)).trans m1) m2 m3.2.2.1⟩) (fun y μ7 n1 n2 n3 => ⟨_, rfl, Or.inr rfl, n2, hs μ7 (p5 + 1) _ (sqss (sqss ed4 (tk_y y)) rfl) (((((a1.trans f).trans (b1.trans f')).s40 (Or.inr rfl)).trans m1).trans n1) n2 ?_⟩)⟩)
    have ew : wdsO t L ([] ++ l2 ++ [] ++ l5 ++ [] ++ [(k, 0)]) = wdsO t L l2 ++ wdsO t L l5 ++ [x] := by
      rw [show [] ++ l2 ++ [] ++ l5 ++ [] ++ [(k, 0)] = (l2 ++ [] ++ l5 ++ []) ++ [(k, 0)] from rfl, w2, w5', hmop, ← hx, List.append_nil, List.append_nil, wdsO_app]
    have eo : opO W.length ([] ++ l2 ++ [] ++ l5 ++ [] ++ [(k, 0)]) = opO W.length l2 ++ opO (W.length + wdL l2) l5 := by
      rw [show [] ++ l2 ++ [] ++ l5 ++ [] ++ [(k, 0)] = (l2 ++ [] ++ l5 ++ []) ++ [(k, 0)] from rfl, w4, List.append_nil, List.append_nil, opO_app]
    rw [ew, eo]
    rw [List.length_append, wdsO_len] at n3
    rw [← List.append_assoc, ← List.append_assoc, ← List.append_assoc]
    exact n3
end MHC
