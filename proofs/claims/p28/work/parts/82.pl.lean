/-! the component's plan, settled -/
theorem flatO_split {o : Ord3} : ∀ {os : List Ord3} {k : Nat}, os[k]? = some o → flatO os = flatO (os.take k) ++ ((o.2.1 ++ o.2.2) ++ flatO (os.drop (k + 1)))
  | [], _, h => by rw [List.getElem?_nil] at h; cases h
  | x :: os, 0, h => by
    rw [List.getElem?_cons_zero] at h
    cases h
    rfl
  | x :: os, k + 1, h => by
    rw [List.getElem?_cons_succ] at h
    have ih := flatO_split (os := os) (o := o) h
    show (x.2.1 ++ x.2.2) ++ flatO os = ((x.2.1 ++ x.2.2) ++ flatO (os.take k)) ++ ((o.2.1 ++ o.2.2) ++ flatO (os.drop (k + 1)))
    rw [ih, List.append_assoc, List.append_assoc, List.append_assoc]
    simp only [List.append_assoc]
theorem codeAt_of {μ : Mu} {q : Nat} : ∀ (l : List Op) (a : Nat), (∀ i, i < l.length → cellOp μ q (a + i) (l.getD i (0, 0, 0))) → codeAt μ q a l
  | [], _, _ => trivial
  | o :: l, a, h => ⟨h 0 (by rw [List.length_cons]; omega), codeAt_of l (a + 1) (fun i hi => by
      have := h (i + 1) (by rw [List.length_cons]; omega)
      rw [show a + 1 + i = a + (i + 1) by omega]
      rw [List.getD_cons_succ] at this
      exact this)⟩
theorem getD_app2 {α : Type} {l1 l2 l3 : List α} {d : α} {i : Nat} (h : i < l2.length) : (l1 ++ (l2 ++ l3)).getD (l1.length + i) d = l2.getD i d := by
  rw [List.getD_eq_getElem?_getD, List.getElem?_append_right (by omega), Nat.add_sub_cancel_left, List.getElem?_append_left h, ← List.getD_eq_getElem?_getD]
theorem getD_map {t : Nat → Nat} {L : Nat} {l : RO} {i : Nat} (h : i < l.length) : (l.map (stO t L)).getD i (0, 0, 0) = stO t L (l.getD i (0, 0)) := by
  rw [List.getD_eq_getElem?_getD, List.getElem?_map, List.getD_eq_getElem?_getD, List.getElem?_eq_getElem h]; rfl
/-- a part of the code, out of the whole -/
theorem codeAt_part {μ : Mu} {q : Nat} {t : Nat → Nat} {L : Nat} {l1 l2 l3 : RO} (h : ∀ i, i < (l1 ++ (l2 ++ l3)).length → cellOp μ q i (stO t L ((l1 ++ (l2 ++ l3)).getD i (0, 0)))) : codeAt μ q l1.length (l2.map (stO t L)) :=
  codeAt_of _ _ (fun i hi => by
    rw [List.length_map] at hi
    have := h (l1.length + i) (by rw [List.length_append, List.length_append]; omega)
    rw [getD_app2 hi] at this
    rw [getD_map hi]; exact this)
section PLC
variable {d rc rs : Nat} {Q : Option Value → Mu → Prop} {μ : Mu} {t : Nat → Nat} {L q : Nat} {os : List Ord3}
def OwPl (q κ i : Nat) : Prop := ((κ = 23 ∨ κ = 24) ∧ i = q) ∨ (κ = 26 ∧ 21 * q ≤ i ∧ i < 21 * q + 20)
theorem c_Pl_settle (hD : 4 ≤ d) (hS : St μ) (hq : q < 2) (hn46 : tK t L (nT t L) = 46) (hN : NS μ t L q (nT t L)) (hLn : LnOK (tK t L) (nT t L) 0 (nT t L) os) (hc : GC μ q (some (flatO os))) (h20 : os.length ≤ 20) (hO : ∀ k o, k < 20 → os[k]? = some o → OrdAt μ (tK t L) q os k o)
    (hQ : ∀ μ', Fr (OwPl q) μ μ' → mR μ' = mR μ → St μ' → XO μ' q (ntT t L os) (ntC t L os) (ntE t L os) → Q none μ') : Cal K_Pl_settle d rc rs [.ref (hd 18 q), .ref (hd 10 0)] μ Q := by
  have hn4 := nT_le (t := t) (L := L)
  have hlen : (flatO os).length ≤ 400 := by
    have h1 := hLn.2.2.1
    have h2 := opO_len (flatO os) 0
    omega
  have he := hN.2.2.2.2.2.2.2.2.1
  have h6 : mI μ (hd 18 q) 6 = nI os.length := by
    rw [hN.2.2.2.2.2.2.2.2.2, cn_7]
    have h1 := hLn.2.2.2.2.2.1
    have z : ordN (tK t L) 0 = 0 := rfl
    rw [show min (ordN (tK t L) (nT t L)) 20 = os.length by omega]
  refine e_Pl_settle (g_Pl_settle_0 (by omega) hq hS (c_Cd_settle (by omega) hS hq hn46 hN hc hlen hLn.ref (fun μ0 a1 a2 a3 a4 => ⟨rfl, ?_⟩)))
  obtain ⟨hT0, hM0⟩ := hN.frS a1 a2
  have f0 : Fr (OwPl q) μ μ0 := a1.mono (fun κ i z => Or.inl z)
  have hO0 : ∀ k o, os[k]? = some o → OrdAt μ0 (tK t L) q os k o := fun k o ho => by
    have hk : k < os.length := by
      rcases Nat.lt_or_ge k os.length with z | z
      · exact z
      · rw [List.getElem?_eq_none z] at ho; cases ho
    obtain ⟨o1, o2, o3, o4, o5, o6⟩ := hO k o (by omega) ho
    refine ⟨by rw [a2]; exact o1, ?_, fun h => ?_, ?_, ?_, ?_⟩
    · rw [a1.I (by decide) (by unfold OwS; omega)]; exact o2
    · rw [a1.I (by decide) (by unfold OwS; omega)]; exact o3 h
    · rw [a1.I (by decide) (by unfold OwS; omega)]; exact o4
    · rw [a1.I (by decide) (by unfold OwS; omega)]; exact o5
    · rw [a1.I (by decide) (by unfold OwS; omega)]; exact o6
  have h60 : mI μ0 (hd 18 q) 6 = nI os.length := by rw [a1.I (by decide) (by unfold OwS; omega)]; exact h6
  have h40 : mI μ0 (hd 21 q) 4 = nI (flatO os).length := by
    rw [a1.I (by decide) (by unfold OwS; omega), hc.1, show min (flatO os).length 400 = (flatO os).length by omega]
  have key : ∀ j, j ≤ os.length → ∀ μ', Fr (fun κ i => κ = 26 ∧ 21 * q ≤ i ∧ i < 21 * q + 20) μ0 μ' → mR μ' = mR μ0 → St μ' → (∀ k o, os[k]? = some o → OrdAt μ' (tK t L) q os k o) → (∀ k o, k < j → os[k]? = some o → (tK t L o.1 = 9 → mI μ' (hd 26 (21 * q + k)) 4 = nI (mng t L (nT t L) (o.1 + 1))) ∧ (tK t L o.1 ≠ 9 → mI μ' (hd 26 (21 * q + k)) 2 = nI (mng t L (nT t L) (o.1 + 1)) ∧ mI μ' (hd 26 (21 * q + k)) 3 = nI (mng t L (nT t L) (o.1 + 2)))) → Wx K_Pl_settle d rc rs (fun r μ' => St μ' ∧ Q r μ') 10 [(0, .ref (hd 18 q)), (1, .ref (hd 10 0)), (2, .int (nI j))] [] μ' := by
    refine up_loop os.length ?_ ?_
    · intro μ' f1 f2 f3 f4 f5
      refine g_Pl_settle_10 (by omega) hq f3 ⟨fun _ => ⟨f3, hQ μ' (f0.trans (f1.mono (fun κ i z => Or.inr z))) (f2.trans a2) f3 ?_⟩, fun h => absurd ?_ h⟩
      · refine ⟨(flatO os).length, hlen, by rw [f1.I (by decide) (by omega)]; exact h40, fun k hk => ?_⟩
        obtain ⟨o, ho⟩ := get_lt (os := os) (show k < os.length from hk)
        have hkl : k < os.length := hk
        obtain ⟨o1, o2, o3, o4, o5, o6⟩ := f4 k o ho
        obtain ⟨s1, s2⟩ := f5 k o hkl ho
        obtain ⟨g1, g2, g3, g4, g5, g6, g7, g8, g9⟩ := or_facts hLn ho
        have e7 : ntT t L os 7 k = tK t L o.1 := by show tK t L (os.getD k (0, [], [])).1 = _; rw [getD_of ho]
        have e9 : ntT t L os 9 k = plc t L 2 (o.1 + 2) (o.1 + 2) - 1 := by show plc t L 2 ((os.getD k (0, [], [])).1 + 2) ((os.getD k (0, [], [])).1 + 2) - 1 = _; rw [getD_of ho]
        have e10 : ntT t L os 10 k = tK t L (o.1 + 4) - 13 := by show tK t L ((os.getD k (0, [], [])).1 + 4) - 13 = _; rw [getD_of ho]
        have e8 : ntT t L os 8 k = if tK t L o.1 = 9 then plc t L 3 (o.1 + 1) (o.1 + 1) - 1 else plc t L 1 (o.1 + 1) (o.1 + 1) - 1 := by
          show (if tK t L (os.getD k (0, [], [])).1 = 9 then plc t L 3 ((os.getD k (0, [], [])).1 + 1) ((os.getD k (0, [], [])).1 + 1) - 1 else plc t L 1 ((os.getD k (0, [], [])).1 + 1) ((os.getD k (0, [], [])).1 + 1) - 1) = _
          rw [getD_of ho]
        have eC : ntC t L os k = o.2.1.map (stO t L) := by unfold ntC; rw [getD_of ho]
        have eE : ntE t L os k = o.2.2.map (stO t L) := by unfold ntE; rw [getD_of ho]
        have sp := flatO_split (os := os) ho
        have cell : ∀ i, i < (flatO os).length → cellOp μ' q i (stO t L ((flatO os).getD i (0, 0))) := fun i hi => by
          have := a4 i hi
          unfold cellOp at this ⊢
          rw [f2, f1.I (by decide) (by omega), f1.I (by decide) (by omega)]; exact this
        have lsp : (flatO os).length = (flatO (os.take k)).length + (o.2.1.length + o.2.2.length + (flatO (os.drop (k + 1))).length) := by
          rw [sp]; simp only [List.length_append]
        unfold ordOK
        rw [e7, e8, e9, e10, eC, eE, List.length_map, List.length_map]
        refine ⟨(flatO (os.take k)).length, o1, fun h => ?_, fun h => ⟨?_, ?_⟩, fun h => o3 h, o4, o5, o6, by omega, ?_, ?_⟩
        · rw [if_pos h, s1 h]
          unfold mng; rw [g7 h, if_pos ⟨g2, by decide⟩]; rfl
        · rw [if_neg h, (s2 h).1]
          unfold mng; rw [(g8 h).1, if_pos ⟨g2, by decide⟩]; rfl
        · rw [(s2 h).2]
          unfold mng; rw [(g8 h).2.2.2.1, if_pos ⟨(g8 h).2.1, by decide⟩]; rfl
        · refine codeAt_part (l3 := o.2.2 ++ flatO (os.drop (k + 1))) (fun i hi => ?_)
          have e : flatO (os.take k) ++ (o.2.1 ++ (o.2.2 ++ flatO (os.drop (k + 1)))) = flatO os := by rw [sp, List.append_assoc]
          rw [e] at hi ⊢; exact cell i hi
        · have := codeAt_part (μ := μ') (q := q) (t := t) (L := L) (l1 := flatO (os.take k) ++ o.2.1) (l2 := o.2.2) (l3 := flatO (os.drop (k + 1))) (fun i hi => by
            have e : (flatO (os.take k) ++ o.2.1) ++ (o.2.2 ++ flatO (os.drop (k + 1))) = flatO os := by rw [sp]; simp only [List.append_assoc]
            rw [e] at hi ⊢; exact cell i hi)
          rw [List.length_append] at this; exact this
      · rw [f1.I (by decide) (by omega), h60]; exact Int32.le_refl _
    · intro j hj ih μ' f1 f2 f3 f4 f5
      obtain ⟨o, ho⟩ := get_lt (os := os) hj
      obtain ⟨g1, g2, g3, g4, g5, g6, g7, g8, g9⟩ := or_facts hLn ho
      refine g_Pl_settle_10 (by omega) hq f3 ⟨fun h => absurd h ?_, fun _ => ⟨vp_in_nI (by omega) (by decide), ?_⟩⟩
      · rw [f1.I (by decide) (by omega), h60]; exact nI_ge hj (by omega)
      rw [nI_clamp (by omega)]
      have hT : TKN μ' t L := hT0.fr f1 (fun κ i a b => by omega)
      have hM : ∀ i, i < nT t L + 1 → mI μ' (hd 14 0) i = nI (mng t L (nT t L) i) := fun i hi => by rw [f1.I (by decide) (by omega)]; exact hM0 i hi
      refine c_Od_settle (by omega) (by omega) (by omega) f3 hT hM (f4 j o ho) (by omega) (fun h => by have := (g8 h).2.1; omega) (fun μ2 m1 m2 m3 m4 m5 m6 => ⟨rfl, ?_⟩)
      rw [nI_1]
      have n2 : ∀ k, k ≠ j → ∀ x, mI μ2 (hd 26 (21 * q + k)) x = mI μ' (hd 26 (21 * q + k)) x := fun k hk x => m1.I (by decide) (by omega)
      refine ih μ2 (f1.trans (m1.mono (fun κ i z => ⟨z.1, by omega, by omega⟩))) (m2.trans f2) m3 (fun k o' ho' => ?_) (fun k o' hk ho' => ?_)
      · by_cases z : k = j
        · subst z
          rw [ho] at ho'; cases ho'
          exact m4
        · exact (f4 k o' ho').eq (n2 k z) (by rw [m2])
      · by_cases z : k = j
        · subst z
          rw [ho] at ho'; cases ho'
          exact ⟨m5, m6⟩
        · rw [n2 k z, n2 k z, n2 k z]; exact f5 k o' (by omega) ho'
  exact key 0 (Nat.zero_le _) μ0 Fr.rf rfl a3 hO0 (fun k o hk => absurd hk (Nat.not_lt_zero _))
end PLC
