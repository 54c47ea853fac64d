/-! the same answers: boards alike; all answers -/
section SH1
variable {d rc rs : Nat} {Q : Option Value → Mu → Prop} {μ μ' : Mu} {T : PT} {D : DT} {C Ct : Nat → List Op} {OO : Nat → Nat → Nat} {Λ : List Ld} {t : Nat → Nat} {c c' c'' : Nat} {e x3 m : Int32} {R1 R2 : Nat}
def ALp (D : DT) (p : Nat) : Prop := ∀ p', 1 ≤ p' → p' < p → ∀ s, s < D 1 0 0 → (pSh D p' s ↔ pSh D 0 s)
def AMp (D : DT) (p s : Nat) : Prop := ALp D p ∧ ∀ s', s' < s → (pSh D p s' ↔ pSh D 0 s')
theorem AM_0 {p : Nat} : AMp D p 0 ↔ ALp D p := ⟨fun h => h.1, fun h => ⟨h, fun s' h' => absurd h' (Nat.not_lt_zero _)⟩⟩
theorem AM_S {p : Nat} (hp : 1 ≤ p) : AMp D p (D 1 0 0) ↔ ALp D (p + 1) := by
  refine ⟨fun h p' h1 h2 s hs => ?_, fun h => ⟨fun p' h1 h2 => h p' h1 (by omega), fun s hs => h p hp (by omega) s hs⟩⟩
  rcases Nat.lt_or_ge p' p with z | z
  · exact h.1 p' h1 z s hs
  · obtain rfl : p' = p := by omega
    exact h.2 s hs
theorem AM_s {p s : Nat} : AMp D p (s + 1) ↔ AMp D p s ∧ (pSh D p s ↔ pSh D 0 s) := by
  refine ⟨fun h => ⟨⟨h.1, fun s' h' => h.2 s' (by omega)⟩, h.2 s (by omega)⟩, fun h => ⟨h.1.1, fun s' h' => ?_⟩⟩
  rcases Nat.lt_or_ge s' s with z | z
  · exact h.1.2 s' z
  · obtain rfl : s' = s := by omega
    exact h.2
theorem sh_of (hB : DB T D) {p p' : Nat} (hp : p < T 0 0) (h : ∀ s, s < D 1 0 0 → pSh D p s → pSh D p' s) {k : Nat} (hk : k < 30) (hz : D 7 p k ≠ 0) : D 7 p' k = D 7 p k := by
  obtain ⟨h1, h2, h3, h4, h5⟩ := hB.2.2.1 p hp
  have a1 := h2 k hk
  obtain ⟨a2, a3⟩ := h5 k hk hz
  have a4 := (h (D 7 p k - 1) (by omega) ⟨by omega, by rw [a2, a3, show 5 * (k / 5) + k % 5 = k by omega]; omega⟩).2
  rw [a2, a3, show 5 * (k / 5) + k % 5 = k by omega] at a4
  omega
theorem alike_iff (hB : DB T D) (h1P : 1 ≤ T 0 0) : ALp D (T 0 0) ↔ alikeP T D := by
  have hP5 := hB.1.1
  have hN6 := hB.1.2.1
  refine ⟨fun h p h1 h2 k hk => ?_, fun h p h1 h2 s hs => ?_⟩
  · by_cases z : D 7 p k = 0
    · by_cases y : D 7 0 k = 0
      · rw [z, y]
      · exact sh_of hB (by omega) (fun s hs w => (h p h1 h2 s hs).mpr w) hk y
    · exact (sh_of hB h2 (fun s hs w => (h p h1 h2 s hs).mp w) hk z).symm
  · obtain ⟨a0, a1, -⟩ := hB.2.1 s hs
    unfold pSh
    rw [h p h1 h2 (5 * D 4 s 1 + D 4 s 0) (by omega)]
theorem bI_inj {p q : Prop} : bI p = bI q ↔ (p ↔ q) := by
  by_cases hp : p <;> by_cases hq : q
  · rw [bI_t hp, bI_t hq]; exact ⟨fun _ => ⟨fun _ => hq, fun _ => hp⟩, fun _ => rfl⟩
  · rw [bI_t hp, bI_f hq]; exact ⟨fun h => absurd h (by decide), fun h => absurd (h.mp hp) hq⟩
  · rw [bI_f hp, bI_t hq]; exact ⟨fun h => absurd h (by decide), fun h => absurd (h.mpr hq) hp⟩
  · rw [bI_f hp, bI_f hq]; exact ⟨fun _ => ⟨fun h => absurd h hp, fun h => absurd h hq⟩, fun _ => rfl⟩
theorem bI_and1 {p : Prop} : bI p &&& 1 = bI p := by
  by_cases hp : p
  · rw [bI_t hp]; rfl
  · rw [bI_f hp]; rfl
theorem bI_and0 {p : Prop} : bI p &&& 0 = 0 := by
  by_cases hp : p
  · rw [bI_t hp]; rfl
  · rw [bI_f hp]; rfl
set_option maxRecDepth 100000 in
theorem sam_645 (R : SR μ T D OO c) (hI : Inv T D) (h1P : 1 ≤ T 0 0) (hD : 8 ≤ d)
    (kk : Wx K_SI_isSame d rc rs Q 712 [(0, .ref (hd 100 0)), (1, .ref (hd 8 0)), (2, .int m), (3, .int (bI (alikeP T D))), (4, .int 0)] [] μ) :
    ∀ p, p ≤ T 0 0 → 1 ≤ p → Wx K_SI_isSame d rc rs Q 645 [(0, .ref (hd 100 0)), (1, .ref (hd 8 0)), (2, .int m), (3, .int (bI (ALp D p))), (4, .int (nI p))] [] μ := by
  have hB := hI.1
  have hP5 := hB.1.1
  have h60 := hB.1.2.2.2.2.1
  have x6' := R.2.1
  have x9 := R.2.2.2.2.1
  have o6 := R.1.2.2.2.2.2.1
  refine up_loop _ (fun _ => ?_) (fun p hp ih h1 => ?_)
  · rw [bI_congr (alike_iff hB h1P)]
    refine r_SI_isSame_645 (by omega) ⟨R.1.1, fun _ => kk, fun h => ?_⟩
    rw [o6] at h; exact absurd (Int32.le_refl _) h
  · have z := ih (by omega)
    refine r_SI_isSame_645 (by omega) ⟨R.1.1, fun h => ?_, fun _ => ?_⟩
    · rw [o6] at h; exact absurd ((nI_leI (by omega) (by omega)).mp h) (by omega)
    have lp : ∀ s, s ≤ D 1 0 0 → Wx K_SI_isSame d rc rs Q 657 [(0, .ref (hd 100 0)), (1, .ref (hd 8 0)), (2, .int m), (3, .int (bI (AMp D p s))), (4, .int (nI p)), (5, .int (nI s))] [] μ := by
      refine up_loop _ ?_ (fun s hs ih2 => ?_)
      · refine r_SI_isSame_657 (by omega) ⟨R.1.1, _, x6'.1, _, x6'.2.1, fun _ => ?_, fun h => absurd (Int32.le_refl _) h⟩
        rw [bI_congr (AM_S h1), nI_s]; exact z
      · have h0 : 0 < T 0 0 := h1P
        refine r_SI_isSame_657 (by omega) ⟨R.1.1, _, x6'.1, _, x6'.2.1, fun h => absurd ((nI_leI (by omega) (by omega)).mp h) (by omega), fun _ => ⟨R.1.1, _, x9.1, _, ⟨x9.2.1, vI hp (by omega)⟩, hd 111 p, by rw [nI_clamp (by omega)]; exact (x9.2.2 p hp).1, _, ⟨(x9.2.2 p hp).2.1, vI (by omega) (by decide)⟩, R.1.1, _, x9.1, _, ⟨x9.2.1, vI (k := 0) h0 (by omega)⟩, hd 111 0, (x9.2.2 0 h0).1, _, ⟨(x9.2.2 0 h0).2.1, vI (by omega) (by decide)⟩, fun h => r_SI_isSame_695 (by omega) ?_, fun h => r_SI_isSame_695 (by omega) ?_⟩⟩
        all_goals
          rw [nI_clamp (by omega), (x9.2.2 p hp).2.2 s (by omega), (x9.2.2 0 h0).2.2 s (by omega), bI_inj] at h
        · rw [bI_congr (show AMp D p (s + 1) ↔ AMp D p s from ⟨fun w => (AM_s.mp w).1, fun w => AM_s.mpr ⟨w, h⟩⟩)] at ih2
          rw [bI_and1, nI_s]; exact ih2
        · rw [bI_f (fun w => h (AM_s.mp w).2)] at ih2
          rw [bI_and0, nI_s]; exact ih2
    have y := lp 0 (Nat.zero_le _)
    rw [bI_congr AM_0] at y
    exact y
set_option maxRecDepth 100000 in
/-- both boards give the same answers -/
theorem c_SI_isSame (S : St μ) (Cc : CI μ T C Ct D t 0 e) (R : SR μ T D OO c) (LL : LR μ Λ c) (P : LPd T D Λ) (hI : Inv T D) (h1P : 1 ≤ T 0 0) (hD : 8 ≤ d) (hc : 866 ≤ rc) (hs : 27539 ≤ rs)
    (hQ : ∀ μ' c', c ≤ c' → FrS (Dy c c') μ μ' → St μ' → Q (some (.int 1)) μ') : Cal K_SI_isSame d rc rs [.ref (hd 100 0), .ref (hd 8 0)] μ Q := by
  have hP5 := hI.1.1.1
  have hR8 := hI.1.1.2.2.1
  refine e_SI_isSame (r_SI_isSame_0 (by omega) ?_)
  refine sam_2 (R1 := 73) (R2 := 2020) S Cc R LL P hI hD (fun μ1 c1 rc1 rs1 h1 g1 b1 b2 => ?_) 0 (Nat.zero_le _) μ c rc rs (Nat.le_refl _) FrS.rf (by omega) (by omega)
  refine sam_31 (R1 := 8) (R2 := 40) (g1.st (fun κ i z => z.lo) S) (Cc.dy g1) (R.dy g1 h1) hI hD (fun μ2 c2 rc2 rs2 h2 g2 e1 e2 => ?_) 0 (Nat.zero_le _) μ1 c1 rc1 rs1 (Nat.le_refl _) FrS.rf (by omega) (by omega)
  have g3 := Dy.tr g1 g2 h1 h2
  have S3 := g3.st (fun κ i z => z.lo) S
  have R3 := R.dy g3 (by omega)
  have z := sam_388 (rc := rc2) (rs := rs2) (Q := fun r μ' => St μ' ∧ Q r μ') S3 (Cc.dy g3) R3 hI hD ?_ (D 1 0 0) (Nat.le_refl _)
  · rw [Nat.sub_self] at z; exact z
  have y := sam_645 (m := miR T D (D 1 0 0) 0) (rc := rc2) (rs := rs2) (Q := fun r μ' => St μ' ∧ Q r μ') R3 hI h1P hD ?_ 1 h1P (Nat.le_refl _)
  · rw [bI_t (show ALp D 1 from fun p' a b => absurd a (by omega))] at y; exact y
  exact sam_712 S3 (Cc.dy g3) R3 (LL.fr2 g3 (by omega) (fun κ i z => Or.inr z)) P hI h1P hD (fun μ4 c4 h4 g4 => ⟨g4.st (fun κ i z => z.lo) S3, hQ μ4 c4 (by omega) (Dy.tr g3 g4 (by omega) h4) (g4.st (fun κ i z => z.lo) S3)⟩) 0 (Nat.zero_le _) μ2 c2 rc2 rs2 (Nat.le_refl _) FrS.rf (by omega) (by omega)
end SH1
