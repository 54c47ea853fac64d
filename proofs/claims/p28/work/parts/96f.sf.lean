/-! the same answers of a road -/
section SF1
variable {d rc rs : Nat} {Q : Option Value → Mu → Prop} {μ μ' : Mu} {T : PT} {D : DT} {C Ct : Nat → List Op} {OO : Nat → Nat → Nat} {Λ : List Ld} {t : Nat → Nat} {c c' c'' : Nat} {e x3 m : Int32} {R1 R2 : Nat}
theorem cntL_take {r j : Nat} (hj : j < Λ.length) : cntL (Λ.take (j + 1)) r = cntL (Λ.take j) r + (if Λ[j].2.1 = r then Λ[j].2.2.2.length else 0) := by
  rw [List.take_succ_eq_append_getElem hj, cntL_app]
  show cntL (Λ.take j) r + (0 + _) = _
  rw [Nat.zero_add]
set_option maxRecDepth 100000 in
theorem sam_843 {r q : Nat} (S : St μ) (Cc : CI μ T C Ct D t 0 e) (hr : r < T 2 0) (hD : 8 ≤ d) (hq : mS μ (hd 130 q) = (2, 5)) (hv : ∀ k, k < 5 → gI μ (hd 130 q) k = nI (roadN D r k))
    (kk : Wx K_SI_isSame d rc rs Q 712 [(0, .ref (hd 100 0)), (1, .ref (hd 8 0)), (2, .int m), (3, .int x3), (4, .int (nI (r + 1)))] [] μ) :
    ∀ k, k ≤ 5 → Wx K_SI_isSame d rc rs Q 843 [(0, .ref (hd 100 0)), (1, .ref (hd 8 0)), (2, .int m), (3, .int x3), (4, .int (nI r)), (6, .ref (hd 130 q)), (7, .int (nI k))] [] μ := by
  refine up_loop _ ?_ (fun k hk ih => ?_)
  · exact r_SI_isSame_843 (by omega) ⟨fun _ => by rw [nI_s]; exact kk, fun h => absurd (Int32.le_refl _) h⟩
  · refine r_SI_isSame_843 (by omega) ⟨fun h => absurd ((nI_leI (a := 5) (by decide) (by omega)).mp h) (by omega), fun _ => ⟨0, 0, ⟨Nat.zero_le _, Nat.zero_le _⟩, s_8 S (by decide), q_road Cc hr hk (by omega) S ⟨_, rfl, _, ⟨hq, vI hk (by decide)⟩, fun _ => ?_, fun h => ?_⟩⟩⟩
    · rw [nI_s]; exact ih
    · rw [nI_clamp (by omega), hv k hk] at h; exact absurd rfl h
set_option maxRecDepth 100000 in
theorem sam_739 {r q : Nat} (S : St μ) (Cc : CI μ T C Ct D t 0 e) (R : SR μ T D OO c) (hLq : gR μ (hd 100 0) 13 = some (hd 131 q) ∧ LoR μ q Λ c) (P : LPd T D Λ) (hI : Inv T D) (hr : r < T 2 0) (hD : 8 ≤ d) (hc : 1 + R1 ≤ rc) (hs : 5 + R2 ≤ rs)
    (kk : ∀ μ' rc' rs', FrS (Dy c (c + 1)) μ μ' → R1 ≤ rc' → R2 ≤ rs' → Wx K_SI_isSame d rc' rs' Q 712 [(0, .ref (hd 100 0)), (1, .ref (hd 8 0)), (2, .int m), (3, .int x3), (4, .int (nI (r + 1)))] [] μ') :
    ∀ j, j ≤ Λ.length → Wx K_SI_isSame d rc rs Q 739 [(0, .ref (hd 100 0)), (1, .ref (hd 8 0)), (2, .int m), (3, .int x3), (4, .int (nI r)), (5, .int (nI (cntL (Λ.take j) r))), (6, .ref (hd 131 q)), (7, .int (nI Λ.length)), (8, .int (nI j))] [] μ := by
  have hB := hI.1
  have hR8 := hB.1.2.2.1
  have hlen := (P.len hB).2
  obtain ⟨q0, q1, q2, q3⟩ := hLq
  refine up_loop _ ?_ (fun j hj ih => ?_)
  · have fq : FreN μ (hd 130 c) := R.2.2.2.2.2.2.2.2.2.1.fr (by decide) (by decide)
    have v5 : ∀ {k}, k < 5 → vp_in (nI k) 5 := fun h => vI h (by decide)
    have v4 : ∀ {k}, k < 4 → vp_in (nI k) 4 := fun h => vI h (by decide)
    have f1 : FrS (Dy c (c + 1)) μ (mkA μ (hd 130 c) (2, 5)) := FrS.rf.mk (by decide) (by unfold Dy; omega)
    have m1 : mS (mkA μ (hd 130 c) (2, 5)) (hd 130 c) = (2, 5) := if_pos rfl
    have fs : ∀ {M k x}, FrS (Dy c (c + 1)) μ M → FrS (Dy c (c + 1)) μ (setI M (hd 130 c) k x) := fun f => f.sI (by decide) (by unfold Dy; omega)
    have rd : ∀ {M}, FrS (Dy c (c + 1)) μ M → mS M (hd 100 0) = (1, 11) ∧ gR M (hd 100 0) 11 = some (hd 121 (T 2 0)) ∧ mS M (hd 121 (T 2 0)) = (40, T 2 0) ∧ gR M (hd 121 (T 2 0)) (nI r).toNatClampNeg = some (hd 115 r) ∧ mS M (hd 115 r) = (2, 4) ∧ ∀ j, j < 4 → gI M (hd 115 r) j = nI (rdX D r j) := fun {M} f => by
      have Ra := R.dy f (by omega)
      have x11 := Ra.2.2.2.2.2.2.1
      obtain ⟨y1, y2, y3⟩ := x11.2.2 r hr
      exact ⟨Ra.1.1, x11.1, x11.2.1, by rw [nI_clamp (by omega)]; exact y1, y2, y3⟩
    have vr : vp_in (nI r) (T 2 0) := vI hr (by omega)
    obtain ⟨a1, a2, a3, a4, a5, a6⟩ := rd f1
    have v0 : gI (mkA μ (hd 130 c) (2, 5)) (hd 115 r) (0 : Int32).toNatClampNeg = nI (D 12 r 0) := a6 0 (by decide)
    refine r_SI_isSame_739 (by omega) ⟨fun _ => ⟨⟨by decide, by decide, by omega, by omega⟩, hd 130 c, fq, a1, _, a2, _, ⟨a3, vr⟩, _, a4, _, ⟨a5, v4 (k := 0) (by decide)⟩, 5, ⟨m1, v5 (k := 0) (by decide), fq.2⟩, (rd (fs f1)).1, _, (rd (fs f1)).2.1, _, ⟨(rd (fs f1)).2.2.1, vr⟩, _, (rd (fs f1)).2.2.2.1, _, ⟨(rd (fs f1)).2.2.2.2.1, v4 (k := 1) (by decide)⟩, 5, ⟨m1, v5 (k := 1) (by decide), fq.2⟩, (rd (fs (fs f1))).1, _, (rd (fs (fs f1))).2.1, _, ⟨(rd (fs (fs f1))).2.2.1, vr⟩, _, (rd (fs (fs f1))).2.2.2.1, _, ⟨(rd (fs (fs f1))).2.2.2.2.1, v4 (k := 2) (by decide)⟩, 5, ⟨m1, v5 (k := 2) (by decide), fq.2⟩, fun μ37 e37 => ?_⟩, fun h => absurd (Int32.le_refl _) h⟩
    have v1 : gI (setI (mkA μ (hd 130 c) (2, 5)) (hd 130 c) (0 : Int32).toNatClampNeg (nI (D 12 r 0))) (hd 115 r) (1 : Int32).toNatClampNeg = nI (D 12 r 1) := (rd (fs f1)).2.2.2.2.2 1 (by decide)
    have v2 : gI (setI (setI (mkA μ (hd 130 c) (2, 5)) (hd 130 c) (0 : Int32).toNatClampNeg (nI (D 12 r 0))) (hd 130 c) (1 : Int32).toNatClampNeg (nI (D 12 r 1))) (hd 115 r) (2 : Int32).toNatClampNeg = nI (D 9 r 0) := (rd (fs (fs f1))).2.2.2.2.2 2 (by decide)
    rw [v0, v1, v2] at e37
    have f37 : FrS (Dy c (c + 1)) μ μ37 := by rw [e37]; exact fs (fs (fs f1))
    have m37 : mS μ37 (hd 130 c) = (2, 5) := by rw [e37]; exact m1
    obtain ⟨b1, b2, b3, b4, b5, b6⟩ := rd (M := setI μ37 (hd 130 c) (3 : Int32).toNatClampNeg (nI (cntL (Λ.take Λ.length) r))) (fs f37)
    have v3 : gI (setI μ37 (hd 130 c) (3 : Int32).toNatClampNeg (nI (cntL (Λ.take Λ.length) r))) (hd 115 r) (3 : Int32).toNatClampNeg = nI (D 9 r 1) := b6 3 (by decide)
    refine ⟨5, ⟨m37, v5 (k := 3) (by decide), fq.2⟩, b1, _, b2, _, ⟨b3, vr⟩, _, b4, _, ⟨b5, v4 (k := 3) (by decide)⟩, 5, ⟨m37, v5 (k := 4) (by decide), fq.2⟩, ?_⟩
    rw [v3, List.take_length, P.2.2.2 r hr]
    generalize hμ : setI (setI μ37 (hd 130 c) (3 : Int32).toNatClampNeg (nI (uwN D r))) (hd 130 c) (4 : Int32).toNatClampNeg (nI (D 9 r 1)) = μ6
    have f6 : FrS (Dy c (c + 1)) μ μ6 := by rw [← hμ]; exact fs (fs f37)
    have m6 : mS μ6 (hd 130 c) = (2, 5) := by rw [← hμ]; exact m37
    refine sam_843 (f6.st (fun κ i z => z.lo) S) (Cc.dy f6) hr hD m6 (fun k hk => ?_) (kk μ6 _ _ f6 (by omega) (by omega)) 0 (Nat.zero_le _)
    rw [gI_h (by decide) (by decide), ← hμ, e37]
    rcases (by omega : k = 0 ∨ k = 1 ∨ k = 2 ∨ k = 3 ∨ k = 4) with rfl | rfl | rfl | rfl | rfl <;> (simp only [mI_set]; rfl)
  · have hge : Λ[j]? = some Λ[j] := List.getElem?_eq_getElem hj
    obtain ⟨w1, w2⟩ := q3 j _ hge
    have hkr := (P.1 _ (List.getElem_mem hj)).1
    rw [cntL_take hj] at ih
    refine r_SI_isSame_739 (by omega) ⟨fun h => absurd ((nI_leI (by omega) (by omega)).mp h) (by omega), fun _ => ⟨_, ⟨q2, vI hj (by omega)⟩, _, by rw [nI_clamp (by omega)]; exact w1, _, ⟨w2.2.1, vI (k := 0) (by omega) (by have := P.ksl hB (List.getElem_mem hj); omega)⟩, fun h => ⟨_, w2.2.1, r_SI_isSame_773 (by omega) ?_⟩, fun h => r_SI_isSame_773 (by omega) ?_⟩⟩
    all_goals
      rw [show gI μ (hd 130 Λ[j].1) (0 : Int32).toNatClampNeg = nI Λ[j].2.1 from w2.2.2.1] at h
    · rw [if_pos ((nI_eq (by omega) (by omega)).mp h)] at ih
      rw [show nI (Λ[j].2.2.2.length + 2) - (2 : Int32) = nI Λ[j].2.2.2.length by rw [show (2 : Int32) = nI 2 from rfl, nI_sub (by omega)]; rfl, nI_add, nI_s]
      exact ih
    · rw [if_neg (fun w => h (by rw [w])), Nat.add_zero] at ih
      rw [show ∀ x : Int32, x + 0 = x from Int32.add_zero, nI_s]
      exact ih
end SF1
