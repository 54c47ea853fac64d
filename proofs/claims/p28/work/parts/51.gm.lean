/-! the component's reading: the whole list -/
def OwL (q κ j : Nat) : Prop := OwG q κ j ∨ (κ = 26 ∧ 21 * q ≤ j ∧ j ≤ 21 * q + 20) ∨ (κ = 18 ∧ j = q)
def OrdAt (μ : Mu) (K : Nat → Nat) (q : Nat) (os : List Ord3) (k : Nat) (o : Ord3) : Prop := OrdP μ (21 * q + k) (K o.1) o.1 (K (o.1 + 4) - 13) (flatO (os.take k)).length ((flatO (os.take k)).length + o.2.1.length) ((flatO (os.take k)).length + o.2.1.length + o.2.2.length)
/-- the orders os are read -/
def PS (μ : Mu) (t : Nat → Nat) (L q p : Nat) (os : List Ord3) : Prop := GS μ t L q (p, some (flatO os)) ∧ (flatO os).length ≤ p ∧ (mI μ (hd 18 q) 6 = nI (min os.length 20) ∧ ∀ j, 3 ≤ j → j ≤ 5 → mI μ (hd 18 q) j = 0) ∧ ∀ k o, k < 20 → os[k]? = some o → OrdAt μ (tK t L) q os k o
def PSr (μ : Mu) (t : Nat → Nat) (L q : Nat) (os : List Ord3) (r : Rp) : Prop := match r.2 with
  | none => GS μ t L q (r.1, none)
  | some os1 => PS μ t L q r.1 (os ++ os1)
theorem OrdP.eq {μ μ' : Mu} {i k tok b s m e : Nat} (h : OrdP μ i k tok b s m e) (hI : ∀ j, mI μ' (hd 26 i) j = mI μ (hd 26 i) j) (hR : mR μ' (hd 26 i) 0 = mR μ (hd 26 i) 0) : OrdP μ' i k tok b s m e := by
  obtain ⟨a1, a2, a3, a4, a5, a6⟩ := h
  exact ⟨hR.trans a1, (hI _).trans a2, fun z => (hI _).trans (a3 z), (hI _).trans a4, (hI _).trans a5, (hI _).trans a6⟩
section GRM2
variable {d rc rs : Nat} {Q : Option Value → Mu → Prop} {μ : Mu} {t : Nat → Nat} {L q : Nat}
theorem PS.fr {p p' : Nat} {os : List Ord3} {μ' : Mu} {own : Nat → Nat → Prop} (h : PS μ t L q p os) (f : Fr own μ μ') (hG : GS μ' t L q (p', some (flatO os))) (hp : p ≤ p') (h18 : ¬ own 18 q) (h26 : ∀ k, k < 20 → k < os.length → ¬ own 26 (21 * q + k)) : PS μ' t L q p' os := by
  obtain ⟨a1, a2, a3, a4⟩ := h
  refine ⟨hG, by omega, ⟨(f.I (by decide) h18).trans a3.1, fun j b c => (f.I (by decide) h18).trans (a3.2 j b c)⟩, fun k o hk e => ?_⟩
  have hl : k < os.length := by
    rcases Nat.lt_or_ge k os.length with z | z
    · exact z
    · rw [List.getElem?_eq_none z] at e; cases e
  exact (a4 k o hk e).eq (fun j => f.I (by decide) (h26 k hk hl)) (f.R (by decide) (h26 k hk hl))
theorem sw_ln : ∀ k, k < 49 → ((swv k = 1 ∨ swv k = 2) → k = 0 ∨ k = 5) ∧ (swv k = 3 → k = 1) ∧ ((swv k = 4 ∨ swv k = 5 ∨ swv k = 6 ∨ swv k = 7) → 6 ≤ k ∧ k ≤ 9) ∧ (((swv k).toInt < 1 ∨ 7 < (swv k).toInt) → ¬ (k = 0 ∨ k = 5) ∧ k ≠ 1 ∧ ¬ (6 ≤ k ∧ k ≤ 9)) := by decide +kernel
theorem GS.app0 {p : Nat} {l : RO} {r : Rs} (h : GS μ t L q (sq (p, some l) (fun _ => r))) (hr : ∀ l', r.2 = some l' → l' = []) : match r.2 with | none => GS μ t L q (r.1, none) | some _ => GS μ t L q (r.1, some l) := by
  obtain ⟨p1, _ | l1⟩ := r
  · exact h
  · have := hr l1 rfl
    subst this
    have h' : GS μ t L q (p1, some (l ++ [])) := h
    rw [List.append_nil] at h'
    exact h'
theorem c_Gr_line {p : Nat} {os : List Ord3} (hD : 102 ≤ d) (hS : St μ) (hP : PS μ t L q p os) (hQ : ∀ μ', Fr (OwL q) μ μ' → St μ' → PSr μ' t L q os (lnF (tK t L) p) → Q none μ') : Cal K_Gr_line d rc rs [.ref (hd 15 0)] μ Q := by
  have hG := hP.1
  have hn46 := nT_end (t := t) (L := L)
  have hn4 := nT_le (t := t) (L := L)
  have hpn : p ≤ nT t L := hG.2.2.1
  have hq2 : q < 2 := by rw [← hG.2.1]; exact (d_15_1 hS (by decide)).2
  have hpx : px μ (hd 15 0) 3 = tK t L p := hG.px3
  have hlt : tK t L p ≤ 47 := tK_rng
  have hsw := sw_ln (tK t L p) (by omega)
  -- a line that tells no order
  have no : ∀ (F : Nat → Rs), (lnF (tK t L) p = ((F p).1, (F p).2.map (fun _ => []))) → (∀ l', (F p).2 = some l' → l' = []) → (F p).1 ≥ p → ∀ μ1, Fr (OwG q) μ μ1 → St μ1 → GS μ1 t L q (sq (p, some (flatO os)) F) → PSr μ1 t L q os (lnF (tK t L) p) := by
    intro F e hl hge μ1 f1 f2 f3
    have f3' : GS μ1 t L q (sq (p, some (flatO os)) (fun _ => F p)) := f3
    have := f3'.app0 hl
    rw [e]
    unfold PSr
    rcases hF : F p with ⟨p1, _ | l1⟩
    · rw [hF] at this; exact this
    · rw [hF] at this hge
      show PS μ1 t L q p1 (os ++ [])
      rw [List.append_nil]
      exact hP.fr f1 this hge (by unfold OwG; omega) (fun k _ _ => by unfold OwG; omega)
  refine e_Gr_line (g_Gr_line_0 (by omega) hS ?_)
  rw [hpx]
  refine ⟨fun z => ?_, fun z => ?_, fun z => ?_, fun z => ?_⟩
  · have hk := hsw.1 z
    refine c_Gr_take (by omega) hS hG (by omega) (fun μ1 a1 a2 a3 => ⟨rfl, c_Gr_take (by omega) a2 a3 (by decide) (fun μ2 b1 b2 b3 => ⟨rfl, b2, hQ _ ((a1.trans b1).mono (fun _ _ z => Or.inl z)) b2 ?_⟩)⟩)
    have e : sq (sq (p, some (flatO os)) (gTk (tK t L) (tK t L p))) (gTk (tK t L) 44) = sq (p, some (flatO os)) (ngF (tK t L)) := by
      rw [sq_assoc]; rfl
    rw [e] at b3
    have ok := Ok.tk2 hn46 (Ok.tk1 (k := tK t L p) hn46 hpn (by omega)) (show 44 < 46 by decide)
    refine no (ngF (tK t L)) ?_ (fun l' e' => (ok.2.2 l' e').2.1) ok.1 μ2 (a1.trans b1) b2 b3
    unfold lnF; rw [if_pos hk]
  · have hk := hsw.2.1 z
    refine c_Gr_roadLine (by omega) hS hG (fun μ1 a1 a2 a3 => ⟨rfl, a2, hQ _ (a1.mono (fun _ _ z => Or.inl z)) a2 ?_⟩)
    have ok := Ok.tk2 hn46 (Ok.tk2 hn46 (Ok.tk2 hn46 (Ok.tk2 hn46 (Ok.tk2 hn46 (Ok.tk2 hn46 (Ok.tk2 hn46 (Ok.tk1 (k := 1) hn46 hpn (by omega)) (show 44 < 46 by decide)) (show 2 < 46 by decide)) (show 44 < 46 by decide)) (show 3 < 46 by decide)) (show 44 < 46 by decide)) (show 4 < 46 by decide)) (show 45 < 46 by decide)
    refine no (rdF (tK t L)) ?_ (fun l' e' => (ok.2.2 l' e').2.1) ok.1 μ1 a1 a2 a3
    unfold lnF; rw [if_neg (by omega), if_pos hk]
  · have hk := hsw.2.2.1 z
    rw [hG.2.1]
    have hmin : min os.length 20 < 21 := by omega
    have h6 := hP.2.2.1.1
    refine e_Pl_nextOrder (g_Pl_nextOrder_0 (by omega) hq2 hS ?_)
    rw [h6, nI_clamp (by omega), show (20 : Int32) = nI 20 from rfl, nI_leI (by decide) (by omega), nI_1]
    -- behind it
    have go : ∀ μ1, (μ1 = μ ∨ μ1 = setI μ (hd 18 q) 6 (nI (min os.length 20 + 1))) → (mI μ1 (hd 18 q) 6 = nI (min (os.length + 1) 20) ∧ ∀ j, 3 ≤ j → j ≤ 5 → mI μ1 (hd 18 q) j = 0) → Cal K_Gr_orderLine (d - 1) 0 0 [.ref (hd 15 0), .ref (hd 26 (21 * q + min os.length 20))] μ1 (fun r μ13 => r = none ∧ (St μ13 ∧ Q none μ13)) := by
      intro μ1 h1 h18
      have hS1 : St μ1 := by rcases h1 with rfl | rfl; exact hS; exact hS
      have f1 : Fr (fun κ j => κ = 18 ∧ j = q) μ μ1 := by rcases h1 with rfl | rfl; exact Fr.rf; exact Fr.rf.setI (by decide) ⟨rfl, rfl⟩
      have hG1 : GS μ1 t L q (p, some (flatO os)) := hG.fr f1 (fun κ i a b => by omega) (by omega) (by omega) (by omega)
      refine c_Gr_orderLine (by omega) (by omega) hk hS1 hG1 (fun μ2 m1 m2 m3 m4' => ⟨rfl, m2, hQ _ ((f1.mono (fun κ j z => Or.inr (Or.inr z))).trans (m1.mono (fun κ j z => z.elim Or.inl (fun z => Or.inr (Or.inl ⟨z.1, by omega, by omega⟩))))) m2 ?_⟩)
      have on := oh_ok (k := tK t L p) hn46 hpn hk
      have e0 : lnF (tK t L) p = (match ohF (tK t L) (tK t L p) p with
        | (p1, none) => (p1, none)
        | (p1, some l1) => match otF (tK t L) (tK t L p) p1 with
          | (p2, none) => (p2, none)
          | (p2, some l2) => (p2, some [(p, l1, l2)])) := by
        unfold lnF; rw [if_neg (by omega), if_neg (by omega), if_pos hk]; rfl
      rw [e0]
      rcases hh : ohF (tK t L) (tK t L p) p with ⟨p1, _ | l1⟩
      · have e1 : sq (p, some (flatO os)) (ohF (tK t L) (tK t L p)) = (p1, none) := by unfold sq; dsimp only; rw [hh]
        rw [e1] at m3
        exact m3
      · have e1 : sq (p, some (flatO os)) (ohF (tK t L) (tK t L p)) = (p1, some (flatO os ++ l1)) := by unfold sq; dsimp only; rw [hh]
        rw [e1] at m3
        dsimp only
        rw [hh] at on
        obtain ⟨w1, w2, w3, w4, -⟩ := on.2.2 l1 rfl
        have w2' : p < p1 := w2
        have w3' : p1 ≤ nT t L := w3
        have w4' : p + l1.length ≤ p1 := Nat.le_trans (Nat.add_le_add_left (coL_ge l1) p) w4
        have ot := ot_ok (k := tK t L p) hn46 w3'
        rcases hh2 : otF (tK t L) (tK t L p) p1 with ⟨p2, _ | l2⟩
        · have e2 : sq (p1, some (flatO os ++ l1)) (otF (tK t L) (tK t L p)) = (p2, none) := by unfold sq; dsimp only; rw [hh2]
          rw [e2] at m3
          exact m3
        · have e2 : sq (p1, some (flatO os ++ l1)) (otF (tK t L) (tK t L p)) = (p2, some (flatO os ++ l1 ++ l2)) := by unfold sq; dsimp only; rw [hh2]
          have m5 := m4' p1 _ p2 _ e1 e2
          rw [e2] at m3
          rw [hh2] at ot
          have x1 := (ot.2.2 l2 rfl).1.len
          have x2 : p2 ≤ nT t L := ot.2.1
          have a2 := hP.2.1
          have fl : flatO (os ++ [(p, l1, l2)]) = flatO os ++ l1 ++ l2 := by
            rw [flatO_app]
            show flatO os ++ ((l1 ++ l2) ++ []) = _
            rw [List.append_nil, List.append_assoc]
          have x1' : p1 + l2.length ≤ p2 := x1
          show PS μ2 t L q p2 (os ++ [(p, l1, l2)])
          refine ⟨by rw [fl]; exact m3, ?_, ?_, fun k o hk' e => ?_⟩
          · rw [fl, List.length_append, List.length_append]; omega
          · exact ⟨by rw [m1.I (by decide) (by unfold OwO OwG; omega), h18.1, List.length_append]; rfl, fun j b c => (m1.I (by decide) (by unfold OwO OwG; omega)).trans (h18.2 j b c)⟩
          · rcases Nat.lt_or_ge k os.length with z | z
            · rw [List.getElem?_append_left z] at e
              have b := hP.2.2.2 k o hk' e
              unfold OrdAt at b ⊢
              rw [List.take_append_of_le_length (by omega)]
              refine b.eq (fun j => ?_) ?_
              · rw [m1.I (by decide) (by unfold OwO OwG; omega), f1.I (by decide) (by omega)]
              · rw [m1.R (by decide) (by unfold OwO OwG; omega), f1.R (by decide) (by omega)]
            · rw [List.getElem?_append_right z] at e
              have hkl : k = os.length := by
                rcases Nat.lt_or_ge (k - os.length) 1 with y | y
                · omega
                · rw [List.getElem?_eq_none y] at e; cases e
              rw [hkl, Nat.sub_self] at e
              cases e
              unfold OrdAt
              rw [hkl, List.take_append_of_le_length (Nat.le_refl _), List.take_length]
              rw [show min os.length 20 = os.length by omega] at m5
              rw [show m4 (flatO os) = (flatO os).length by unfold m4; omega, show m4 (flatO os ++ l1) = (flatO os).length + l1.length by unfold m4; rw [List.length_append]; omega, show m4 (flatO os ++ l1 ++ l2) = (flatO os).length + l1.length + l2.length by unfold m4; rw [List.length_append, List.length_append]; omega] at m5
              exact m5
    refine ⟨vp_in_nI hmin (by decide), fun z => ⟨hS, _, rfl, by omega, go μ (Or.inl rfl) ?_⟩, fun z => ⟨hS, _, rfl, by omega, go _ (Or.inr rfl) ?_⟩⟩
    · exact ⟨by rw [h6]; exact congrArg nI (by omega), hP.2.2.1.2⟩
    · exact ⟨by rw [rd_eq]; exact congrArg nI (by omega), fun j b c => (rd_k (by omega)).trans (hP.2.2.1.2 j b c)⟩
  · obtain ⟨k1, k2, k3⟩ := hsw.2.2.2 z
    have hS1 := sd_15_3 hS (i := 0) (by decide) (by decide : 47 < 49)
    refine ⟨hS1, hQ _ (Fr.rf.setR (by decide) (Or.inl (Or.inl rfl))) hS1 ?_⟩
    have e : lnF (tK t L) p = (p, none) := by unfold lnF; rw [if_neg k1, if_neg k2, if_neg k3]
    rw [e]
    exact hG.wrong
/-- what is left behind a list -/
def PSe (μ : Mu) (t : Nat → Nat) (L q : Nat) (os : List Ord3) (r : Rp) : Prop := ∀ os1, r.2 = some os1 → PS μ t L q r.1 (os ++ os1)
theorem c_Gr_lines : ∀ i, i ≤ 400 → ∀ (d rc rs : Nat) (Q : Option Value → Mu → Prop) (μ : Mu) (p : Nat) (os : List Ord3), 103 ≤ d → St μ → PS μ t L q p os → (∀ μ', Fr (OwL q) μ μ' → St μ' → PSe μ' t L q os (plF (tK t L) (400 - i) p) → Q (some (.int (match (plF (tK t L) (400 - i) p).2 with | none => nI (plF (tK t L) (400 - i) p).1 | some _ => -1))) μ') → Wx K_Gr_firstMisfit d rc rs (fun r μ' => St μ' ∧ Q r μ') 24 [(0, .ref (hd 15 0)), (2, .int (nI i))] [] μ := by
  refine up_loop 400 ?_ ?_
  · intro d rc rs Q μ p os hD hS hP hQ
    have hG := hP.1
    have hpx : px μ (hd 15 0) 3 = tK t L p := hG.px3
    refine g_Gr_firstMisfit_24 (by omega) hS ⟨fun _ => ⟨fun z => ⟨hS, ?_⟩, fun z => ⟨hS, ?_⟩⟩, fun h => absurd (Int32.le_refl _) h⟩
    · rw [hpx] at z
      have e : plF (tK t L) (400 - 400) p = (p, some []) := by show plF (tK t L) 0 p = _; unfold plF; rw [if_pos z]
      rw [e] at hQ
      exact hQ μ Fr.rf hS (fun os1 e1 => by cases e1; rw [List.append_nil]; exact hP)
    · rw [hpx] at z
      have e : plF (tK t L) (400 - 400) p = (p, none) := by show plF (tK t L) 0 p = _; unfold plF; rw [if_neg z]
      rw [e] at hQ
      rw [hG.2.2.2.1]
      exact hQ μ Fr.rf hS (fun os1 e1 => nomatch e1)
  · intro i hi ih d rc rs Q μ p os hD hS hP hQ
    have hG := hP.1
    have hpx : px μ (hd 15 0) 3 = tK t L p := hG.px3
    have hf : 400 - i = (400 - (i + 1)) + 1 := by omega
    rw [hf] at hQ
    refine g_Gr_firstMisfit_24 (by omega) hS ⟨fun h => absurd h ?_, fun _ => ?_⟩
    · rw [show (400 : Int32) = nI 400 from rfl, nI_leI (by decide) (by omega)]; omega
    rw [hpx]
    refine ⟨fun z => ?_, fun z => ⟨fun y => ?_, fun y => ?_⟩⟩
    · have e : plF (tK t L) (400 - (i + 1) + 1) p = (p, some []) := by unfold plF; rw [if_pos z]
      rw [e] at hQ
      refine ⟨fun _ => ⟨hS, ?_⟩, fun x => absurd z x⟩
      exact hQ μ Fr.rf hS (fun os1 e1 => by cases e1; rw [List.append_nil]; exact hP)
    · have e0 : lnF (tK t L) p = (p, none) := by unfold lnF; rw [y, if_neg (by decide), if_neg (by decide), if_neg (by decide)]
      have e : plF (tK t L) (400 - (i + 1) + 1) p = (p, none) := by unfold plF; rw [if_neg z, e0]
      rw [e] at hQ
      refine ⟨fun x => absurd x z, fun _ => ⟨hS, ?_⟩⟩
      rw [hG.2.2.2.1]
      exact hQ μ Fr.rf hS (fun os1 e1 => nomatch e1)
    · refine c_Gr_line (by omega) hS hP (fun μ1 a1 a2 a3 => ⟨rfl, ?_⟩)
      rw [nI_1]
      have hpn : p ≤ nT t L := hG.2.2.1
      have ln := ln_ok nT_end hpn
      -- a list that is wrong
      have wr : ∀ p1 μ1, Fr (OwL q) μ μ1 → St μ1 → GS μ1 t L q (p1, none) → plF (tK t L) (400 - (i + 1) + 1) p = (p1, none) → Wx K_Gr_firstMisfit d rc rs (fun r μ' => St μ' ∧ Q r μ') 24 [(0, .ref (hd 15 0)), (2, .int (nI (i + 1)))] [] μ1 := by
        intro p1 μ1 f1 f2 f3 e
        rw [e] at hQ
        have hq := hQ μ1 f1 f2 (fun os1 e1 => nomatch e1)
        have h47 : px μ1 (hd 15 0) 3 = 47 := f3.px3
        refine g_Gr_firstMisfit_24 (by omega) f2 ?_
        rw [h47, show mI μ1 (hd 15 0) 2 = nI p1 from f3.2.2.2.1]
        exact ⟨fun _ => ⟨fun z => absurd z (by decide), fun _ => ⟨f2, hq⟩⟩, fun _ => ⟨fun z => absurd z (by decide), fun _ => ⟨fun _ => ⟨fun z => absurd z (by decide), fun _ => ⟨f2, hq⟩⟩, fun z => absurd rfl z⟩⟩⟩
      rcases hh : lnF (tK t L) p with ⟨p1, _ | os1⟩
      · rw [hh] at a3
        have a3' : GS μ1 t L q (p1, none) := a3
        refine c_Gr_take (by omega) a2 a3' (by decide) (fun μ2 b1 b2 b3 => ⟨rfl, ?_⟩)
        exact wr p1 μ2 (a1.trans (b1.mono (fun _ _ z => Or.inl z))) b2 b3 (by unfold plF; rw [if_neg z, hh])
      · rw [hh] at a3 ln
        have a3' : PS μ1 t L q p1 (os ++ os1) := a3
        refine c_Gr_take (by omega) a2 a3'.1 (by decide) (fun μ2 b1 b2 b3 => ⟨rfl, ?_⟩)
        by_cases h33 : tK t L p1 = 33
        · have e1 : sq (p1, some (flatO (os ++ os1))) (gTk (tK t L) 33) = (p1 + 1, some (flatO (os ++ os1))) := by unfold sq gTk; dsimp only; rw [if_pos h33]; dsimp only; rw [List.append_nil]
          rw [e1] at b3
          have hP2 : PS μ2 t L q (p1 + 1) (os ++ os1) := a3'.fr b1 b3 (by omega) (by unfold OwG; omega) (fun k _ _ => by unfold OwG; omega)
          refine ih d rc rs Q μ2 (p1 + 1) (os ++ os1) hD b2 hP2 (fun μ' c1 c2 c3 => ?_)
          have hq := hQ μ' ((a1.trans (b1.mono (fun _ _ z => Or.inl z))).trans c1) c2
          have e2 : plF (tK t L) (400 - (i + 1) + 1) p = (match plF (tK t L) (400 - (i + 1)) (p1 + 1) with
            | (p2, none) => (p2, none)
            | (p2, some os') => (p2, some (os1 ++ os'))) := by
            rw [plF, if_neg z, hh]; dsimp only; rw [if_pos h33]; rfl
          rw [e2] at hq
          rcases hh2 : plF (tK t L) (400 - (i + 1)) (p1 + 1) with ⟨p2, _ | os2⟩
          · rw [hh2] at hq
            exact hq (fun os1 e1 => nomatch e1)
          · rw [hh2] at hq c3
            refine hq (fun os3 e3 => ?_)
            cases e3
            have := c3 os2 rfl
            rw [List.append_assoc] at this
            exact this
        · have e1 : sq (p1, some (flatO (os ++ os1))) (gTk (tK t L) 33) = (p1, none) := by unfold sq; dsimp only; rw [tk_f h33]
          rw [e1] at b3
          exact wr p1 μ2 (a1.trans (b1.mono (fun _ _ z => Or.inl z))) b2 b3 (by unfold plF; rw [if_neg z, hh]; dsimp only; rw [if_neg h33])
theorem c_Tk_kindAt0 {d rc rs : Nat} {Q : Option Value → Mu → Prop} {μ : Mu} {t : Nat → Nat} {L i : Nat} (hD : 1 ≤ d) (hS : St μ) (hT : TKP μ t L (nT t L + 1)) (hi : i ≤ nT t L) (hQ : Q (some (.ref (hd 0 (tK t L i)))) μ) : Cal K_Tk_kindAt d rc rs [.ref (hd 10 0), .int (nI i)] μ Q := by
  have hn4 := nT_le (t := t) (L := L)
  have hc := (hT.2.2 i (by omega)).1
  have hpx : px μ (hd 11 0) i = tK t L i := px_eq (by decide) hc
  refine e_Tk_kindAt (g_Tk_kindAt_0 hD hS ⟨fun h => absurd h (nI_pos (by omega)), fun _ => ?_⟩)
  rw [hT.2.1, nI_leI (by omega) (by omega), nI_clamp (by omega), hpx]
  exact ⟨fun h => absurd h (by omega), fun _ => ⟨vp_in_nI (by omega) (by decide), (by rw [hc]; exact fun z => nomatch z), hS, hQ⟩⟩
theorem c_Gr_firstMisfit (hD : 104 ≤ d) (hS : St μ) (hq : q < 2) (hT : TKP μ t L (nT t L + 1)) (hz : mI μ (hd 21 q) 4 = 0) (ho : mI μ (hd 18 q) 6 = 0 ∧ ∀ j, 3 ≤ j → j ≤ 5 → mI μ (hd 18 q) j = 0) (hQ : ∀ μ', Fr (OwL q) μ μ' → St μ' → PSe μ' t L q [] (plF (tK t L) 400 0) → Q (some (.int (match (plF (tK t L) 400 0).2 with | none => nI (plF (tK t L) 400 0).1 | some _ => -1))) μ') : Cal K_Gr_firstMisfit d rc rs [.ref (hd 15 0), .ref (hd 18 q)] μ Q := by
  have hS1 : St (setI (setR μ (hd 15 0) 1 (hd 18 q)) (hd 15 0) 2 0) := sd_15_1 hS (by decide) hq
  have f1 : Fr (OwG q) μ (setI (setR μ (hd 15 0) 1 (hd 18 q)) (hd 15 0) 2 0) := (Fr.rf.setR (by decide) (Or.inl rfl)).setI (by decide) (Or.inl rfl)
  refine e_Gr_firstMisfit (g_Gr_firstMisfit_0 (by omega) hq hS (c_Tk_kindAt0 (i := 0) (by omega) hS1 (hT.fr f1 OwG.t) (Nat.zero_le _) ⟨_, rfl, by have := tK_rng (t := t) (L := L) (i := 0); omega, ?_⟩))
  have hS2 : St (setR (setI (setR μ (hd 15 0) 1 (hd 18 q)) (hd 15 0) 2 0) (hd 15 0) 3 (hd 0 (tK t L 0))) := sd_15_3 hS1 (by decide) (by have := tK_rng (t := t) (L := L) (i := 0); omega)
  have f2 : Fr (OwG q) μ (setR (setI (setR μ (hd 15 0) 1 (hd 18 q)) (hd 15 0) 2 0) (hd 15 0) 3 (hd 0 (tK t L 0))) := f1.setR (by decide) (Or.inl rfl)
  refine c_Gr_lines 0 (Nat.zero_le _) d rc rs Q _ 0 [] (by omega) hS2 ⟨⟨hT.fr f2 OwG.t, ?_, Nat.zero_le _, ?_, ?_, ?_, fun i hi => absurd hi (by show ¬ i < min 0 400; omega)⟩, Nat.le_refl _, ?_, fun k o _ e => absurd e (by rw [List.getElem?_nil]; exact fun z => nomatch z)⟩ (fun μ' a b c => hQ μ' ((f2.mono (fun _ _ z => Or.inl z)).trans a) b c)
  · exact px_eq (κ := 18) (by decide) (by rw [mR_set, if_neg (by omega), mR_setI, mR_set, if_pos ⟨rfl, rfl⟩])
  · show mI (setI (setR μ (hd 15 0) 1 (hd 18 q)) (hd 15 0) 2 0) (hd 15 0) 2 = _
    rw [rd_eq]; rfl
  · rw [mR_set, if_pos ⟨rfl, rfl⟩]; rfl
  · show mI (setI (setR μ (hd 15 0) 1 (hd 18 q)) (hd 15 0) 2 0) (hd 21 q) 4 = nI 0
    rw [rd_ne (by decide) (by decide) (by decide), mI_setR]; exact hz
  · exact ⟨(f2.I (by decide) (by unfold OwG; omega)).trans ho.1, fun j b c => (f2.I (by decide) (by unfold OwG; omega)).trans (ho.2 j b c)⟩
end GRM2
