/-! the same answers of a parish -/
section SB
variable {d rc rs : Nat} {Q : Option Value → Mu → Prop} {μ μ' : Mu} {T : PT} {D : DT} {C Ct : Nat → List Op} {OO : Nat → Nat → Nat} {Λ : List Ld} {t : Nat → Nat} {c c' c'' : Nat} {e x5 x6 : Int32} {R1 R2 : Nat}
theorem own_N (hI : Inv T D) {p : Nat} (hp : p < T 0 0) : sumN (fun k => bN (D 4 k 0 = p)) (D 1 0 0) = D 6 p p := by
  rw [← kn_cnt hI hp hp]
  refine sumN_congr _ (fun k hk => bN_congr ⟨fun z => ⟨⟨hk, ?_⟩, z⟩, fun z => z.2⟩)
  have := kn_own hI hk
  rw [z] at this; exact this
theorem known_60 (hI : Inv T D) {p : Nat} (hp : p < T 0 0) : sumN (fun k => bN (pKn D p k)) 60 = knownB D p := by
  have h60 := hI.1.1.2.2.2.2.1
  rw [kn_tot hI hp, sumN_ext (f := fun k => bN (pKn D p k)) h60 (fun k hk hk6 => by
    rw [bN_f]
    intro z
    have := z.1
    omega)]
  exact sumN_congr _ (fun k hk => bN_congr ⟨fun z => z.2, fun z => ⟨hk, z⟩⟩)
set_option maxRecDepth 100000 in
theorem sam_333 {p : Nat} (S : St μ) (Cc : CI μ T C Ct D t 0 e) (R : SR μ T D OO c) (hI : Inv T D) (hp : p < T 0 0) (hD : 8 ≤ d)
    (kk : Wx K_SI_isSame d rc rs Q 31 [(0, .ref (hd 100 0)), (1, .ref (hd 8 0)), (2, .int (nI (p + 1)))] [] μ) :
    ∀ o, o ≤ T 0 0 → Wx K_SI_isSame d rc rs Q 333 [(0, .ref (hd 100 0)), (1, .ref (hd 8 0)), (2, .int (nI p)), (8, .int (nI o))] [] μ := by
  have hP5 := hI.1.1.1
  have x8 := R.2.2.2.1
  refine up_loop _ ?_ (fun o ho ih => ?_)
  · refine r_SI_isSame_333 (by omega) ⟨R.1.1, fun _ => by rw [nI_s]; exact kk, fun h => ?_⟩
    rw [R.1.2.2.2.2.2.1] at h; exact absurd (Int32.le_refl _) h
  · refine r_SI_isSame_333 (by omega) ⟨R.1.1, fun h => ?_, fun _ => ⟨0, 0, ⟨Nat.zero_le _, Nat.zero_le _⟩, s_8 S (by decide), q_knows Cc hp ho (by omega) S ⟨_, rfl, R.1.1, _, x8.1, _, ⟨x8.2.1, vI hp (by omega)⟩, hd 110 p, by rw [nI_clamp (by omega)]; exact (x8.2.2 p hp).1, R.1.1, c_SI_of (P := pKn D p) R hI (by decide) (x8.2.2 p hp).2.1 (x8.2.2 p hp).2.2 ho (by omega) S ⟨_, rfl, fun _ => ?_, fun h => ?_⟩⟩⟩⟩
    · rw [R.1.2.2.2.2.2.1] at h; exact absurd ((nI_leI (by omega) (by omega)).mp h) (by omega)
    · rw [nI_s]; exact ih
    · rw [kn_cnt hI hp ho] at h; exact absurd rfl h
set_option maxRecDepth 100000 in
theorem sam_300 {p : Nat} {q : Nat} (S : St μ) (Cc : CI μ T C Ct D t 0 e) (hp : p < T 0 0) (hD : 8 ≤ d) (hq : mS μ (hd 130 q) = (2, 6)) (hv : ∀ k, k < 6 → gI μ (hd 130 q) k = nI (parishN T D p k))
    (kk : Wx K_SI_isSame d rc rs Q 333 [(0, .ref (hd 100 0)), (1, .ref (hd 8 0)), (2, .int (nI p)), (8, .int 0)] [] μ) :
    ∀ k, k ≤ 6 → Wx K_SI_isSame d rc rs Q 300 [(0, .ref (hd 100 0)), (1, .ref (hd 8 0)), (2, .int (nI p)), (7, .ref (hd 130 q)), (8, .int (nI k))] [] μ := by
  refine up_loop _ ?_ (fun k hk ih => ?_)
  · exact r_SI_isSame_300 (by omega) ⟨fun _ => kk, fun h => absurd (Int32.le_refl _) h⟩
  · refine r_SI_isSame_300 (by omega) ⟨fun h => absurd ((nI_leI (a := 6) (by decide) (by omega)).mp h) (by omega), fun _ => ⟨0, 0, ⟨Nat.zero_le _, Nat.zero_le _⟩, s_8 S (by decide), q_parish Cc hp hk (by omega) S ⟨_, rfl, _, ⟨hq, vI hk (by decide)⟩, fun _ => ?_, fun h => ?_⟩⟩⟩
    · rw [nI_s]; exact ih
    · rw [nI_clamp (by omega), hv k hk] at h; exact absurd rfl h
set_option maxRecDepth 100000 in
/-- behind the roads of a parish -/
theorem sam_210 {p : Nat} (S : St μ) (Cc : CI μ T C Ct D t 0 e) (R : SR μ T D OO c) (hI : Inv T D) (hp : p < T 0 0) (hD : 8 ≤ d) (hc : 1 + R1 ≤ rc) (hs : 6 + R2 ≤ rs)
    (kk : ∀ μ' rc' rs', FrS (Dy c (c + 1)) μ μ' → R1 ≤ rc' → R2 ≤ rs' → Wx K_SI_isSame d rc' rs' Q 31 [(0, .ref (hd 100 0)), (1, .ref (hd 8 0)), (2, .int (nI (p + 1)))] [] μ') :
    ∀ k, k ≤ D 1 0 0 → Wx K_SI_isSame d rc rs Q 210 [(0, .ref (hd 100 0)), (1, .ref (hd 8 0)), (2, .int (nI p)), (3, .int (nI (tornB D p 1))), (4, .int (nI (tornB D p 2))), (5, .int (nI (roadsFromN T D p))), (6, .int (nI (sumN (fun k => bN (D 4 k 0 = p)) k))), (7, .ref (hd 119 (D 1 0 0))), (8, .int (nI (D 1 0 0))), (9, .int (nI k))] [] μ := by
  have hB := hI.1
  have hP5 := hB.1.1
  have h60 := hB.1.2.2.2.2.1
  have x6' := R.2.1
  refine up_loop _ ?_ (fun k hk ih => ?_)
  · have fq : FreN μ (hd 130 c) := R.2.2.2.2.2.2.2.2.2.1.fr (by decide) (by decide)
    have v6 : ∀ {k}, k < 6 → vp_in (nI k) 6 := fun h => vI h (by decide)
    have f1 : FrS (Dy c (c + 1)) μ (mkA μ (hd 130 c) (2, 6)) := FrS.rf.mk (by decide) (by unfold Dy; omega)
    have m1 : mS (mkA μ (hd 130 c) (2, 6)) (hd 130 c) = (2, 6) := if_pos rfl
    have Ra := R.dy f1 (by omega)
    have Sa := f1.st (fun κ i z => z.lo) S
    have f2 : FrS (Dy c (c + 1)) μ (setI (mkA μ (hd 130 c) (2, 6)) (hd 130 c) (0 : Int32).toNatClampNeg (nI (knownB D p))) := f1.sI (by decide) (by unfold Dy; omega)
    have Rb := R.dy f2 (by omega)
    have Sb := f2.st (fun κ i z => z.lo) S
    have x8 := Ra.2.2.2.1
    have x10 := Rb.2.2.2.2.2.1
    rw [own_N hI hp]
    refine r_SI_isSame_210 (by omega) ⟨fun _ => ⟨⟨by decide, by decide, by omega, by omega⟩, hd 130 c, fq, Ra.1.1, _, x8.1, _, ⟨x8.2.1, vI hp (by omega)⟩, hd 110 p, by rw [nI_clamp (by omega)]; exact (x8.2.2 p hp).1, c_SI_many (P := pKn D p) (by decide) (x8.2.2 p hp).2.1 (x8.2.2 p hp).2.2 (by omega) Sa ⟨_, rfl, 6, ⟨m1, v6 (k := 0) (by decide), fq.2⟩, ?_⟩⟩, fun h => absurd (Int32.le_refl _) h⟩
    rw [known_60 hI hp]
    refine ⟨Rb.1.1, _, x10.1, _, ⟨x10.2.1, vI hp (by omega)⟩, hd 112 p, by rw [nI_clamp (by omega)]; exact (x10.2.2 p hp).1, c_SI_many (P := pWt D p) (by decide) (x10.2.2 p hp).2.1 (x10.2.2 p hp).2.2 (by omega) Sb ⟨_, rfl, 6, ⟨m1, v6 (k := 1) (by decide), fq.2⟩, 6, ⟨m1, v6 (k := 2) (by decide), fq.2⟩, 6, ⟨m1, v6 (k := 3) (by decide), fq.2⟩, 6, ⟨m1, v6 (k := 4) (by decide), fq.2⟩, 6, ⟨m1, v6 (k := 5) (by decide), fq.2⟩, ?_⟩⟩
    rw [wait_N hI hp]
    generalize hμ : setI (setI (setI (setI (setI (setI (mkA μ (hd 130 c) (2, 6)) (hd 130 c) (0 : Int32).toNatClampNeg (nI (knownB D p))) (hd 130 c) (1 : Int32).toNatClampNeg (nI (D 11 p 0))) (hd 130 c) (2 : Int32).toNatClampNeg (nI (tornB D p 1))) (hd 130 c) (3 : Int32).toNatClampNeg (nI (tornB D p 2))) (hd 130 c) (4 : Int32).toNatClampNeg (nI (D 6 p p))) (hd 130 c) (5 : Int32).toNatClampNeg (nI (roadsFromN T D p)) = μ6
    have f6 : FrS (Dy c (c + 1)) μ μ6 := by
      rw [← hμ]
      exact ((((f2.sI (by decide) (by unfold Dy; omega)).sI (by decide) (by unfold Dy; omega)).sI (by decide) (by unfold Dy; omega)).sI (by decide) (by unfold Dy; omega)).sI (by decide) (by unfold Dy; omega)
    have m6 : mS μ6 (hd 130 c) = (2, 6) := by rw [← hμ]; exact m1
    have S6 := f6.st (fun κ i z => z.lo) S
    have C6 := Cc.dy f6
    refine sam_300 S6 C6 hp hD m6 (fun k hk => ?_) (sam_333 S6 C6 (R.dy f6 (by omega)) hI hp hD (kk μ6 _ _ f6 (by omega) (by omega)) 0 (Nat.zero_le _)) 0 (Nat.zero_le _)
    rw [gI_h (by decide) (by decide), ← hμ]
    rcases (by omega : k = 0 ∨ k = 1 ∨ k = 2 ∨ k = 3 ∨ k = 4 ∨ k = 5) with rfl | rfl | rfl | rfl | rfl | rfl <;> (simp only [mI_set]; rfl)
  · obtain ⟨y1, y2, y3⟩ := x6'.2.2 k hk
    refine r_SI_isSame_210 (by omega) ⟨fun h => absurd ((nI_leI (by omega) (by omega)).mp h) (by omega), fun _ => ⟨_, ⟨x6'.2.1, vI hk (by omega)⟩, _, by rw [nI_clamp (by omega)]; exact y1, _, ⟨y2, vI (k := 0) (by decide) (by decide)⟩, ?_⟩⟩
    have e0 : gI μ (hd 116 k) (0 : Int32).toNatClampNeg = nI (D 4 k 0) := y3 0 (by decide)
    have h12 : D 4 k 0 < 2 ^ 31 := by have := (hB.2.1 k hk).1; omega
    rw [e0, show ∀ x : Int32, x + 0 = x from Int32.add_zero]
    rw [sumN] at ih
    refine ⟨fun h => ?_, fun h => ?_⟩
    · rw [bN_t ((nI_eq h12 (by omega)).mp h)] at ih
      rw [nI_s, nI_s]; exact ih
    · rw [bN_f (fun w => h ((nI_eq h12 (by omega)).mpr w)), Nat.add_zero] at ih
      rw [nI_s]; exact ih
end SB
