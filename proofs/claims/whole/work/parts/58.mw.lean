/-! the model's reading: the whole list -/
def MPs (μ : Mu) (t : Nat → Nat) (L q p : Nat) (os : List Ord3) : Prop := MG μ t L q 0 p (wdsO t L (flatO os)) (opO 0 (flatO os)) ∧ (wdL (flatO os) ≤ 2 * p ∧ coL (flatO os) ≤ p) ∧ (mI μ (hd 50 q) 7 = nI os.length ∧ os.length ≤ p) ∧
  ∀ k o, k < 20 → os[k]? = some o → mI μ (hd 58 q) k = nI (wdL (flatO (os.take k))) ∧ mI μ (hd 59 q) k = nI (wdL (flatO (os.take k)) + wdL o.2.1) ∧ mI μ (hd 60 q) k = nI (wdL (flatO (os.take k)) + wdL o.2.1 + wdL o.2.2)
section MWC
variable {d rc rs : Nat} {Q : Option Value → Mu → Prop} {μ : Mu} {t : Nat → Nat} {L q p : Nat}
theorem ln_ng_n {K : Nat → Nat} (h : K p = 0 ∨ K p = 5) (h' : K (p + 1) ≠ 44) : lnF K p = (p + 1, none) := by
  have e : ngF K p = (p + 1, none) := sqsn (tk_y rfl) (tk_n h')
  unfold lnF; rw [if_pos h, e]; rfl
theorem ln_ng_y {K : Nat → Nat} (h : K p = 0 ∨ K p = 5) (h' : K (p + 1) = 44) : lnF K p = (p + 2, some []) := by
  have e : ngF K p = (p + 2, some []) := sqss (tk_y rfl) (tk_y h')
  unfold lnF; rw [if_pos h, e]; rfl
theorem ln_rd_n {K : Nat → Nat} {p' : Nat} (h : K p = 1) (e : rdF K p = (p', none)) : lnF K p = (p', none) := by
  unfold lnF; rw [if_neg (by omega), if_pos h, e]; rfl
theorem ln_rd_y {K : Nat → Nat} {p' : Nat} {l : RO} (h : K p = 1) (e : rdF K p = (p', some l)) : lnF K p = (p', some []) := by
  unfold lnF; rw [if_neg (by omega), if_pos h, e]; rfl
theorem pl_n {K : Nat → Nat} {f p' : Nat} (h : K p ≠ 46) (e : lnF K p = (p', none)) : plF K (f + 1) p = (p', none) := by
  unfold plF; rw [if_neg h, e]
theorem pl_sn {K : Nat → Nat} {f p' : Nat} {os : List Ord3} (h : K p ≠ 46) (e : lnF K p = (p', some os)) (h' : K p' ≠ 33) : plF K (f + 1) p = (p', none) := by
  unfold plF; rw [if_neg h, e]; dsimp only; rw [if_neg h']
theorem pl_ssn {K : Nat → Nat} {f p' p2 : Nat} {os : List Ord3} (h : K p ≠ 46) (e : lnF K p = (p', some os)) (h' : K p' = 33) (e2 : plF K f (p' + 1) = (p2, none)) : plF K (f + 1) p = (p2, none) := by
  rw [plF, if_neg h, e]; dsimp only; rw [if_pos h', e2]
theorem pl_sss {K : Nat → Nat} {f p' p2 : Nat} {os os2 : List Ord3} (h : K p ≠ 46) (e : lnF K p = (p', some os)) (h' : K p' = 33) (e2 : plF K f (p' + 1) = (p2, some os2)) : plF K (f + 1) p = (p2, some (os ++ os2)) := by
  rw [plF, if_neg h, e]; dsimp only; rw [if_pos h', e2]
theorem MPs.mg {μ' : Mu} {p' : Nat} {os : List Ord3} (h : MPs μ t L q p os) (f : FrR q μ μ') (hG : MG μ' t L q 0 p' (wdsO t L (flatO os)) (opO 0 (flatO os))) (hp : p ≤ p') : MPs μ' t L q p' os := by
  obtain ⟨a1, a2, a3, a4⟩ := h
  refine ⟨hG, by omega, ⟨(f.2.2.2 7 (by decide) (by decide)).trans a3.1, by omega⟩, fun k o hk e => ?_⟩
  rw [f.same (by omega), f.same (by omega), f.same (by omega)]; exact a4 k o hk e
theorem c_MM_lines : ∀ f (d rc rs : Nat) (Q : Option Value → Mu → Prop) (μ : Mu) (p : Nat) (os : List Ord3), 109 ≤ d → nT t L ≤ p + f → St μ → MPs μ t L q p os → (∀ μ' p', plF (tK t L) f p = (p', none) → FrL q μ μ' → St μ' → mI μ' (hd 40 0) 9 = nI p' → Q (some (.int 0)) μ') → (∀ μ' p' os', plF (tK t L) f p = (p', some os') → FrL q μ μ' → St μ' → MPs μ' t L q p' (os ++ os') → Q (some (.int 1)) μ') → Wx K_MM_isPlan d rc rs (fun r μ' => St μ' ∧ Q r μ') 0 [(0, .ref (hd 40 0))] [] μ := by
  intro f
  induction f with
  | zero =>
    intro d rc rs Q μ p os hD hfu hS hP hn hs
    have hG := hP.1
    have hp := hG.p4
    have hK := nT_end (t := t) (L := L)
    rw [show nT t L = p by omega] at hK
    have hr := tK_rng (t := t) (L := L) (i := p)
    refine g_MM_isPlan_0 (by omega) hS (c_MM_is (k := 46) (by omega) hS hG (by decide) (by decide) ⟨_, rfl, fun z => ?_, fun z => ?_⟩)
    · rw [bI_z] at z
      refine c_MM_is (k := 0) (by omega) hS hG (by decide) (by decide) ⟨_, rfl, fun z1 => ?_, fun z1 => by rw [bI_z, Classical.not_not] at z1; omega⟩
      refine c_MM_is (k := 5) (by omega) hS hG (by decide) (by decide) ⟨_, rfl, fun z2 => ?_, fun z2 => by rw [bI_z, Classical.not_not] at z2; omega⟩
      refine c_MM_is (k := 1) (by omega) hS hG (by decide) (by decide) ⟨_, rfl, fun z3 => ?_, fun z3 => by rw [bI_z, Classical.not_not] at z3; omega⟩
      have el : lnF (tK t L) p = (p, none) := by unfold lnF; rw [if_neg (by omega), if_neg (by omega), if_neg (by omega)]
      have ep : plF (tK t L) 0 p = (p, none) := by unfold plF; rw [if_neg z]
      refine c_MM_isOrderLine (n0 := os.length) (by omega) hS hG (by rw [wdsO_len]; exact hP.2.1.1) (by have := opO_len (flatO os) 0; have := hP.2.1.2; omega) hP.2.2.1.1 (by have := hP.2.2.1.2; omega) (by omega) (fun μ' p' e a b c => ⟨0, rfl, fun _ => ⟨b, ?_⟩, fun y => absurd rfl y⟩) (fun μ' p' l1 l2 e => by rw [el] at e; cases e)
      rw [el] at e
      cases e
      exact hn μ' p ep a b c
    · rw [bI_z, Classical.not_not] at z
      exact ⟨hS, hs μ p [] (by unfold plF; rw [if_pos z]) FrL.rf hS (by rw [List.append_nil]; exact hP)⟩
  | succ f ih =>
    intro d rc rs Q μ p os hD hfu hS hP hn hs
    have hG := hP.1
    have hp := hG.p4
    have n0 : ∀ {P : Prop}, ¬ ((0 : Int32) = 0) → P := fun h => absurd rfl h
    have n1 : ∀ {P : Prop}, (1 : Int32) = 0 → P := fun h => absurd h (by decide)
    have ln := ln_ok (K := tK t L) nT_end hp.1
    refine g_MM_isPlan_0 (by omega) hS (c_MM_is (k := 46) (by omega) hS hG (by decide) (by decide) ⟨_, rfl, fun z => ?_, fun z => ?_⟩)
    · rw [bI_z] at z
      -- behind a line
      have nxt : ∀ μ1 p1 os1, lnF (tK t L) p = (p1, some os1) → FrL q μ μ1 → St μ1 → MPs μ1 t L q p1 (os ++ os1) → Cal K_MM_eatSign (d - 1) 0 0 [.ref (hd 40 0), .int 59] μ1 (fun r μ11 => ∃ y12, r = some (.int y12) ∧ ((y12 = 0 → (St μ11 ∧ Q (some (.int 0)) μ11)) ∧ (¬ y12 = 0 → Wx K_MM_isPlan d rc rs (fun r μ' => St μ' ∧ Q r μ') 0 [(0, .ref (hd 40 0))] [] μ11))) := by
        intro μ1 p1 os1 e f1 f2 f3
        refine c_MM_eatSign (k := 33) (by omega) f2 f3.1 (by decide) (by decide) (fun y => rl_0 (by omega)) (fun y => ⟨0, rfl, fun _ => ⟨f2, hn μ1 p1 (pl_sn z e y) f1 f2 f3.1.2.2.1⟩, n0⟩) (fun y μ2 a1 a2 a3 => ⟨1, rfl, n1, fun _ => ?_⟩)
        have lp := ln.2.2 os1 (by rw [e])
        rw [e] at lp
        have lp1 : p < p1 := lp.1
        refine ih d rc rs Q μ2 (p1 + 1) (os ++ os1) hD (by omega) a2 (f3.mg a1 a3 (by omega)) (fun μ' p' e2 b1 b2 b3 => hn μ' p' (pl_ssn z e y e2) ((f1.trans a1.l).trans b1) b2 b3) (fun μ' p' os' e2 b1 b2 b3 => hs μ' p' _ (pl_sss z e y e2) ((f1.trans a1.l).trans b1) b2 ?_)
        rw [← List.append_assoc]; exact b3
      refine c_MM_is (k := 0) (by omega) hS hG (by decide) (by decide) ⟨_, rfl, fun z1 => ?_, fun z1 => ?_⟩
      · rw [bI_z] at z1
        refine c_MM_is (k := 5) (by omega) hS hG (by decide) (by decide) ⟨_, rfl, fun z2 => ?_, fun z2 => ?_⟩
        · rw [bI_z] at z2
          refine c_MM_is (k := 1) (by omega) hS hG (by decide) (by decide) ⟨_, rfl, fun z3 => ?_, fun z3 => ?_⟩
          · rw [bI_z] at z3
            have oc := opO_len (flatO os) 0
            refine c_MM_isOrderLine (n0 := os.length) (by omega) hS hG (by rw [wdsO_len]; exact hP.2.1.1) (by have := hP.2.1.2; omega) hP.2.2.1.1 (by have := hP.2.2.1.2; omega) ⟨z1, z2, z3⟩ (fun μ' p' e a b c => ⟨0, rfl, fun _ => ⟨b, hn μ' p' (pl_n z e) a b c⟩, n0⟩) (fun μ' p' l1 l2 e a b c c7 ck c58 c59 c60 => ⟨1, rfl, n1, fun _ => ?_⟩)
            -- the order is told
            have lp := ln.2.2 [(p, l1, l2)] (by rw [e])
            rw [e] at lp
            have lp1 : p < p' := lp.1
            have efl : flatO (os ++ [(p, l1, l2)]) = flatO os ++ l1 ++ l2 := by
              rw [flatO_app]
              show flatO os ++ ((l1 ++ l2) ++ []) = _
              rw [List.append_nil, List.append_assoc]
            by_cases h33 : tK t L p' = 33
            · have lo := lp.2 (by rw [h33]; decide)
              obtain ⟨-, -, o3, o4, -⟩ := lo
              have o3' : p + coL ((l1 ++ l2) ++ []) ≤ p' := o3
              have o4' : 2 * p + wdL ((l1 ++ l2) ++ []) ≤ 2 * p' := o4
              rw [List.append_nil, coL_app] at o3'
              rw [List.append_nil, wdL_app] at o4'
              have w1 := hP.2.1.1
              have w2 := hP.2.1.2
              refine nxt μ' p' _ e a b ⟨?_, ?_, ⟨by rw [List.length_append]; exact c7, by rw [List.length_append]; have := hP.2.2.1.2; show os.length + 1 ≤ p'; omega⟩, fun k o hk ek => ?_⟩
              · rw [efl, wdsO_app, wdsO_app, opO_app, opO_app, Nat.zero_add, Nat.zero_add, wdL_app]
                rw [wdsO_len] at c; exact c
              · rw [efl, wdL_app, wdL_app, coL_app, coL_app]; omega
              · rcases Nat.lt_or_ge k os.length with y | y
                · rw [List.getElem?_append_left y] at ek
                  rw [List.take_append_of_le_length (by omega), ck 58 (by decide) (by decide) k (by omega), ck 59 (by decide) (by decide) k (by omega), ck 60 (by decide) (by decide) k (by omega)]
                  exact hP.2.2.2 k o hk ek
                · rw [List.getElem?_append_right y] at ek
                  have hkl : k = os.length := by
                    rcases Nat.lt_or_ge (k - os.length) 1 with x | x
                    · omega
                    · rw [List.getElem?_eq_none x] at ek; cases ek
                  rw [hkl, Nat.sub_self] at ek
                  cases ek
                  rw [wdsO_len, show min os.length 20 = k by omega] at c58 c59 c60
                  rw [hkl, List.take_append_of_le_length (Nat.le_refl _), List.take_length, ← hkl]
                  exact ⟨c58, c59, c60⟩
            · refine c_MM_eatSign (k := 33) (by omega) b c (by decide) (by decide) (fun y => absurd y h33) (fun y => ⟨0, rfl, fun _ => ⟨b, hn μ' p' (pl_sn z e y) a b c.2.2.1⟩, n0⟩) (fun y => absurd y h33)
          · rw [bI_z, Classical.not_not] at z3
            refine c_MM_isRoadLine (by omega) hS hG z3 (fun μ' p' e a b c => ⟨0, rfl, fun _ => ⟨b, hn μ' p' (pl_n z (ln_rd_n z3 e)) a.l b c⟩, n0⟩) (fun μ' p' e a b c => ⟨1, rfl, n1, fun _ => nxt μ' p' [] (ln_rd_y z3 e) a.l b (by
              have lp := ln.1
              rw [ln_rd_y z3 e] at lp
              rw [List.append_nil]; exact hP.mg a c lp)⟩)
        · rw [bI_z, Classical.not_not] at z2
          refine c_MM_isNew (r := 2) (by omega) hS hG (by omega) (by decide) (by rw [if_neg z1, if_pos z2]) (fun y μ' a b c => ⟨0, rfl, fun _ => ⟨b, hn μ' (p + 1) (pl_n z (ln_ng_n (Or.inr z2) y)) a.l b c⟩, n0⟩) (fun y μ' a b c => ⟨1, rfl, n1, fun _ => nxt μ' (p + 2) [] (ln_ng_y (Or.inr z2) y) a.l b (by rw [List.append_nil]; exact hP.mg a c (by omega))⟩)
      · rw [bI_z, Classical.not_not] at z1
        refine c_MM_isNew (r := 1) (by omega) hS hG (by omega) (by decide) (by rw [if_pos z1]) (fun y μ' a b c => ⟨0, rfl, fun _ => ⟨b, hn μ' (p + 1) (pl_n z (ln_ng_n (Or.inl z1) y)) a.l b c⟩, n0⟩) (fun y μ' a b c => ⟨1, rfl, n1, fun _ => nxt μ' (p + 2) [] (ln_ng_y (Or.inl z1) y) a.l b (by rw [List.append_nil]; exact hP.mg a c (by omega))⟩)
    · rw [bI_z, Classical.not_not] at z
      exact ⟨hS, hs μ p [] (by unfold plF; rw [if_pos z]) FrL.rf hS (by rw [List.append_nil]; exact hP)⟩
theorem c_MM_isPlan (hD : 109 ≤ d) (hS : St μ) (hP : MPs μ t L q 0 []) (hn : ∀ μ' p', plF (tK t L) 400 0 = (p', none) → FrL q μ μ' → St μ' → mI μ' (hd 40 0) 9 = nI p' → Q (some (.int 0)) μ') (hs : ∀ μ' p' os', plF (tK t L) 400 0 = (p', some os') → FrL q μ μ' → St μ' → MPs μ' t L q p' os' → Q (some (.int 1)) μ') : Cal K_MM_isPlan d rc rs [.ref (hd 40 0)] μ Q :=
  e_MM_isPlan (c_MM_lines 400 d rc rs Q μ 0 [] hD (by have := nT_le (t := t) (L := L); omega) hS hP hn hs)
end MWC
