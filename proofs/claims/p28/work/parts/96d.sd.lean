/-! the same answers of a sheet -/
section SD1
variable {d rc rs : Nat} {Q : Option Value → Mu → Prop} {μ μ' : Mu} {T : PT} {D : DT} {C Ct : Nat → List Op} {OO : Nat → Nat → Nat} {Λ : List Ld} {t : Nat → Nat} {c c' c'' : Nat} {e x5 x6 m : Int32} {R1 R2 : Nat}
set_option maxRecDepth 100000 in
theorem sam_401 {s : Nat} (S : St μ) (Cc : CI μ T C Ct D t 0 e) (R : SR μ T D OO c) (hI : Inv T D) (hs : s < D 1 0 0) (hD : 8 ≤ d)
    (kk : Wx K_SI_isSame d rc rs Q 498 [(0, .ref (hd 100 0)), (1, .ref (hd 8 0)), (3, .int (nI s)), (4, .int (nI (knowersN T D s))), (5, .int (nI (showersN T D s)))] [.int (ifP (knowersN T D s < T 0 0) (nI s) m)] μ) :
    ∀ p, p ≤ T 0 0 → Wx K_SI_isSame d rc rs Q 401 [(0, .ref (hd 100 0)), (1, .ref (hd 8 0)), (2, .int m), (3, .int (nI s)), (4, .int (nI (sumN (fun b => bN (kn D b s)) p))), (5, .int (nI (sumN (fun b => bN (D 7 b (5 * D 4 s 1 + D 4 s 0) = s + 1)) p))), (6, .int (nI p))] [] μ := by
  have hP5 := hI.1.1.1
  have h60 := hI.1.1.2.2.2.2.1
  have x7 := R.2.2.1
  have x8 := R.2.2.2.1
  have x9 := R.2.2.2.2.1
  have hkn : knowersN T D s ≤ T 0 0 * 1 := sumN_le _ (fun _ _ => bN_le)
  refine up_loop _ ?_ (fun p hp ih => ?_)
  · refine r_SI_isSame_401 (by omega) ⟨R.1.1, fun _ => ⟨R.1.1, fun h => ?_, fun h => ?_⟩, fun h => ?_⟩
    · rw [R.1.2.2.2.2.2.1] at h
      rw [ifP_f (fun w => by have := (nI_leI (by omega) (by show knowersN T D s < 2 ^ 31; omega)).mp h; exact absurd w (Nat.not_lt.mpr this))] at kk
      exact kk
    · rw [R.1.2.2.2.2.2.1] at h
      rw [ifP_t (show knowersN T D s < T 0 0 from Nat.lt_of_not_le (fun w => h ((nI_leI (by omega) (by show knowersN T D s < 2 ^ 31; omega)).mpr w)))] at kk
      exact kk
    · rw [R.1.2.2.2.2.2.1] at h; exact absurd (Int32.le_refl _) h
  · have ek : gI μ (hd 110 p) (nI s).toNatClampNeg = bI (pKn D p s) := by rw [nI_clamp (by omega)]; exact (x8.2.2 p hp).2.2 s (by omega)
    have es : gI μ (hd 111 p) (nI s).toNatClampNeg = bI (pSh D p s) := by rw [nI_clamp (by omega)]; exact (x9.2.2 p hp).2.2 s (by omega)
    have f451 : ∀ x4 z0 z1 : Int32, Wx K_SI_isSame d rc rs Q 401 [(0, .ref (hd 100 0)), (1, .ref (hd 8 0)), (2, .int m), (3, .int (nI s)), (4, .int x4), (5, .int (z1 + z0)), (6, .int (nI p + 1))] [] μ → Wx K_SI_isSame d rc rs Q 451 [(0, .ref (hd 100 0)), (1, .ref (hd 8 0)), (2, .int m), (3, .int (nI s)), (4, .int x4), (6, .int (nI p))] [.int z0, .int z1] μ := by
      intro x4 z0 z1 z
      refine r_SI_isSame_451 (by omega) ⟨0, 0, ⟨Nat.zero_le _, Nat.zero_le _⟩, s_8 S (by decide), q_stamp Cc hs hp (by omega) S ⟨_, rfl, R.1.1, _, x7.1, _, ⟨x7.2.1, vI (n := 60) (by omega) (by decide)⟩, hd 114 s, by rw [nI_clamp (by omega)]; exact (x7.2.2 s hs).1, R.1.1, c_SI_of (P := pAh D s) R hI (by decide) (x7.2.2 s hs).2.1 (x7.2.2 s hs).2.2 hp (by omega) S ⟨_, rfl, fun _ => z, fun h => ?_⟩⟩⟩
      rw [ah_cnt hI hs hp] at h; exact absurd rfl h
    have a0 : ∀ x : Int32, x + 0 = x := Int32.add_zero
    rw [sumN, sumN] at ih
    refine r_SI_isSame_401 (by omega) ⟨R.1.1, fun h => ?_, fun _ => ⟨R.1.1, _, x8.1, _, ⟨x8.2.1, vI hp (by omega)⟩, hd 110 p, by rw [nI_clamp (by omega)]; exact (x8.2.2 p hp).1, _, ⟨(x8.2.2 p hp).2.1, vI (by omega) (by decide)⟩, fun h => ⟨R.1.1, _, x9.1, _, ⟨x9.2.1, vI hp (by omega)⟩, hd 111 p, by rw [nI_clamp (by omega)]; exact (x9.2.2 p hp).1, _, ⟨(x9.2.2 p hp).2.1, vI (by omega) (by decide)⟩, fun h' => f451 _ _ _ ?_, fun h' => f451 _ _ _ ?_⟩, fun h => ⟨R.1.1, _, x9.1, _, ⟨x9.2.1, vI hp (by omega)⟩, hd 111 p, by rw [nI_clamp (by omega)]; exact (x9.2.2 p hp).1, _, ⟨(x9.2.2 p hp).2.1, vI (by omega) (by decide)⟩, fun h' => f451 _ _ _ ?_, fun h' => f451 _ _ _ ?_⟩⟩⟩
    · rw [R.1.2.2.2.2.2.1] at h; exact absurd ((nI_leI (by omega) (by omega)).mp h) (by omega)
    all_goals
      rw [ek, bI_z] at h
      rw [es, bI_z] at h'
    · rw [bN_f (fun w => h ⟨hs, w⟩), bN_f (fun w => h' ⟨hs, w⟩)] at ih
      rw [a0, a0, nI_s]; exact ih
    · rw [bN_f (fun w => h ⟨hs, w⟩), bN_t (Classical.not_not.mp h').2] at ih
      rw [a0, nI_s, nI_s]; exact ih
    · rw [bN_t (Classical.not_not.mp h).2, bN_f (fun w => h' ⟨hs, w⟩)] at ih
      rw [a0, nI_s, nI_s]; exact ih
    · rw [bN_t (Classical.not_not.mp h).2, bN_t (Classical.not_not.mp h').2] at ih
      rw [nI_s, nI_s, nI_s]; exact ih
set_option maxRecDepth 100000 in
theorem sam_502 {s : Nat} (S : St μ) (Cc : CI μ T C Ct D t 0 e) (R : SR μ T D OO c) (hI : Inv T D) (hs : s < D 1 0 0) (hD : 8 ≤ d)
    (kk : Wx K_SI_isSame d rc rs Q 388 [(0, .ref (hd 100 0)), (1, .ref (hd 8 0)), (2, .int m), (3, .int (nI s + (-1)))] [] μ) :
    ∀ k, k ≤ 6 → Wx K_SI_isSame d rc rs Q 502 [(0, .ref (hd 100 0)), (1, .ref (hd 8 0)), (2, .int m), (3, .int (nI s)), (4, .int (nI (knowersN T D s))), (5, .int (nI (showersN T D s))), (6, .int (nI k))] [] μ := by
  have hB := hI.1
  have h60 := hB.1.2.2.2.2.1
  have hday := hB.1.2.2.2.2.2
  have x6' := R.2.1
  have x7 := R.2.2.1
  refine up_loop _ ?_ (fun k hk ih => ?_)
  · refine r_SI_isSame_502 (by omega) ⟨fun _ => ⟨0, 0, ⟨Nat.zero_le _, Nat.zero_le _⟩, s_8 S (by decide), q_sheet (k := 6) Cc hs (by decide) (by omega) S ⟨_, rfl, fun _ => ⟨0, 0, ⟨Nat.zero_le _, Nat.zero_le _⟩, s_8 S (by decide), q_sheet (k := 7) Cc hs (by decide) (by omega) S ⟨_, rfl, fun _ => ⟨R.1.1, R.1.1, _, x6'.1, _, x6'.2.1, fun h => ?_, ?_⟩, fun h => absurd rfl h⟩⟩, fun h => absurd rfl h⟩⟩, fun h => absurd (Int32.le_refl _) h⟩
    · have := (nI_eq (b := 0) (by omega) (by decide)).mp h; omega
    have hS0 : 0 < D 1 0 0 := by omega
    obtain ⟨o, ho⟩ : ∃ o, (7 * s + D 0 0 0) % D 1 0 0 = o := ⟨_, rfl⟩
    have ol : o < D 1 0 0 := by rw [← ho]; exact Nat.mod_lt _ hS0
    have e0 : ((7 : Int32) * nI s + gI μ (hd 100 0) 0) - ((7 : Int32) * nI s + gI μ (hd 100 0) 0) / nI (D 1 0 0) * nI (D 1 0 0) = nI o := by
      rw [R.1.2.1, show (7 : Int32) = nI 7 from rfl, nI_mul, nI_add, nI_mod (by omega) (by omega), ho]
    rw [e0]
    refine ⟨0, 0, ⟨Nat.zero_le _, Nat.zero_le _⟩, s_8 S (by decide), q_compare Cc hs ol (by omega) S ⟨_, rfl, fun h => ?_, fun h => ⟨R.1.1, _, x7.1, _, ⟨x7.2.1, vI (n := 60) (by omega) (by decide)⟩, hd 114 o, by rw [nI_clamp (by omega)]; exact (x7.2.2 o ol).1, _, ⟨(x7.2.2 o ol).2.1, vI (by omega) (by decide)⟩, fun h2 => ⟨R.1.1, _, x7.1, _, ⟨x7.2.1, vI (n := 60) (by omega) (by decide)⟩, hd 114 s, by rw [nI_clamp (by omega)]; exact (x7.2.2 s hs).1, _, ⟨(x7.2.2 s hs).2.1, vI (by omega) (by decide)⟩, fun h3 => ?_, fun h3 => ?_⟩, fun h2 => ?_⟩⟩⟩
    all_goals refine r_SI_isSame_629 (by omega) ⟨fun _ => kk, fun w => absurd ?_ w⟩
    · have := (nI_eq (by omega) (by omega)).mp h
      unfold cmpN
      rw [if_pos this]; rfl
    all_goals
      have hne : ¬ s = o := fun w => h (by rw [w])
      rw [show gI μ (hd 114 o) (nI s).toNatClampNeg = bI (pAh D o s) by rw [nI_clamp (by omega)]; exact (x7.2.2 o ol).2.2 s (by omega), bI_z] at h2
      unfold cmpN
      rw [if_neg hne]
    · rw [show gI μ (hd 114 s) (nI o).toNatClampNeg = bI (pAh D s o) by rw [nI_clamp (by omega)]; exact (x7.2.2 s hs).2.2 o (by omega), bI_z] at h3
      rw [if_neg (fun w => h2 ⟨hs, w⟩), if_neg (fun w => h3 ⟨ol, w⟩)]; rfl
    · rw [show gI μ (hd 114 s) (nI o).toNatClampNeg = bI (pAh D s o) by rw [nI_clamp (by omega)]; exact (x7.2.2 s hs).2.2 o (by omega), bI_z] at h3
      rw [if_neg (fun w => h2 ⟨hs, w⟩), if_pos (Classical.not_not.mp h3).2]; rfl
    · rw [if_pos (Classical.not_not.mp h2).2]; rfl
  · obtain ⟨y1, y2, y3⟩ := x6'.2.2 s hs
    refine r_SI_isSame_502 (by omega) ⟨fun h => absurd ((nI_leI (a := 6) (by decide) (by omega)).mp h) (by omega), fun _ => ⟨0, 0, ⟨Nat.zero_le _, Nat.zero_le _⟩, s_8 S (by decide), q_sheet Cc hs (show k < 8 by omega) (by omega) S ⟨_, rfl, R.1.1, _, x6'.1, _, ⟨x6'.2.1, vI hs (by omega)⟩, hd 116 s, by rw [nI_clamp (by omega)]; exact y1, _, ⟨y2, vI hk (by decide)⟩, fun _ => ?_, fun h => ?_⟩⟩⟩
    · rw [nI_s]; exact ih
    · refine absurd ?_ h
      rw [nI_clamp (by omega), y3 k hk]
      rcases (by omega : k = 0 ∨ k = 1 ∨ k = 2 ∨ k = 3 ∨ k = 4 ∨ k = 5) with rfl | rfl | rfl | rfl | rfl | rfl <;> rfl
end SD1
