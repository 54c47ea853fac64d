/-! how many are hung and carried out, at most -/
def CBd (D : DT) : Prop := D 2 0 0 ≤ 300 * D 0 0 0 ∧ D 3 0 0 ≤ 20 * D 0 0 0
section LG2
variable {T : PT} {D D' : DT} {C Ct : Nat → List Op} {n : Nat} {x : Int32}
theorem CBd.congr (h : CBd D) (e0 : D' 0 0 0 = D 0 0 0) (e2 : D' 2 0 0 = D 2 0 0) (e3 : D' 3 0 0 = D 3 0 0) : CBd D' := by
  unfold CBd at h ⊢
  rw [e0, e2, e3]; exact h
theorem ordF_2 : ∀ k, ordF T C Ct D k 2 0 0 = D 2 0 0 ∧ ordF T C Ct D k 3 0 0 ≤ D 3 0 0 + k
  | 0 => ⟨rfl, Nat.le_refl _⟩
  | k + 1 => by
    obtain ⟨h1, h2⟩ := ordF_2 k
    obtain ⟨o1, o2⟩ := ord_3 (T := T) (C := C) (Ct := Ct) (D := ordF T C Ct D k) (k := k)
    have o3 : (ordD T C Ct (ordF T C Ct D k) k).1 2 0 0 = ordF T C Ct D k 2 0 0 := by
      rcases ord_or (T := T) (C := C) (Ct := Ct) (D := ordF T C Ct D k) (k := k) with h | ⟨h, -⟩ | ⟨b, n, v, m, h', -, -, -, -, h⟩
      · rw [h]
      · rw [h]; exact send_f (by decide) (by decide)
      · rw [h]; exact mk_f (by decide) (by decide) (by decide) (by decide) (by decide)
    refine ⟨?_, ?_⟩
    · rw [ordF, ud_f (by decide), o3, h1]
    · rw [ordF, ud_self]; omega
theorem hoF_2 {b : Nat} : ∀ k, hoF T D b k 2 0 0 ≤ D 2 0 0 + k ∧ hoF T D b k 3 0 0 = D 3 0 0
  | 0 => ⟨Nat.le_refl _, rfl⟩
  | k + 1 => by
    obtain ⟨h1, h2⟩ := @hoF_2 b k
    rw [hoF]
    split
    · have e2 : hangD T (hoF T D b k) b k 2 0 0 = hoF T D b k 2 0 0 + 1 := by unfold hangD; exact ud_self
      have e3 : hangD T (hoF T D b k) b k 3 0 0 = hoF T D b k 3 0 0 := hg_f (by decide) (by decide) (by decide) (by decide) (by decide)
      exact ⟨by omega, by omega⟩
    · exact ⟨by omega, h2⟩
theorem hoA_2 : ∀ k, hoA T D k 2 0 0 ≤ D 2 0 0 + D 1 0 0 * k ∧ hoA T D k 3 0 0 = D 3 0 0
  | 0 => ⟨by show D 2 0 0 ≤ _; omega, rfl⟩
  | k + 1 => by
    obtain ⟨h1, h2⟩ := hoA_2 k
    have e1 : hoA T D k 1 0 0 = D 1 0 0 := hoA_f (by decide) (by decide) (by decide) (by decide) (by decide) k
    obtain ⟨g1, g2⟩ := hoF_2 (T := T) (D := hoA T D k) (b := k) (hoA T D k 1 0 0)
    rw [e1] at g1 g2
    rw [hoA, e1, Nat.mul_succ]
    exact ⟨by omega, by omega⟩
theorem CBd.day (h : CBd D) (hI : Inv T D) (hW : OW T C Ct) : CBd (dayD T C Ct D) := by
  obtain ⟨o1, o2⟩ := ordF_2 (T := T) (C := C) (Ct := Ct) (D := D) (T 6 0)
  have hIO := hI.orA hW (T 6 0) (Nat.le_refl _)
  have h60 := hIO.1.1.2.2.2.2.1
  have h5 := hI.1.1.1
  have h20 := hI.1.1.2.2.2.1
  obtain ⟨g1, g2⟩ := hoA_2 (T := T) (D := brA (ordF T C Ct D (T 6 0)) (T 2 0)) (T 0 0)
  rw [brA_f (by decide) (by decide), brA_f (by decide) (by decide)] at g1
  rw [brA_f (by decide) (by decide)] at g2
  have hm : ordF T C Ct D (T 6 0) 1 0 0 * T 0 0 ≤ 60 * 5 := Nat.mul_le_mul h60 h5
  unfold CBd at h ⊢
  unfold dayD
  rw [ud_self, ud_f (by decide), ud_f (by decide)]
  constructor
  · omega
  · omega
theorem CBd.days (h : CBd D) (hI : Inv T D) (hW : OW T C Ct) : ∀ n, D 0 0 0 + n < 2 ^ 20 → CBd (daysD T C Ct D n)
  | 0, _ => h
  | n + 1, hn => (CBd.days h hI hW n (by omega)).day (hI.days hW n (by omega)) hW
theorem CBd.act (h : CBd D) (hN : NI T C Ct D n) : CBd (actD T C Ct D x) := by
  have hday := hN.2.2.2.1
  have hn := hN.2.2.2.2
  have ly : belowN (x >>> ((4 : Int32) &&& 31)) 5 < 5 := below_lt (by decide)
  have made : ∀ b m v k q, CBd (mkD T D b m v k q) := fun b m v k q => h.congr (mk_f (by decide) (by decide) (by decide) (by decide) (by decide)) (mk_f (by decide) (by decide) (by decide) (by decide) (by decide)) (mk_f (by decide) (by decide) (by decide) (by decide) (by decide))
  unfold actD
  split
  · split
    · exact h
    · exact made _ _ _ _ _
  · split
    · split
      · exact made _ _ _ _ _
      · exact h
    · split
      · split
        · exact made _ _ _ _ _
        · exact h
      · split
        · exact h.congr (send_f (by decide) (by decide)) (send_f (by decide) (by decide)) (send_f (by decide) (by decide))
        · split
          · exact h.congr (ud_f (by decide)) (ud_f (by decide)) (ud_f (by decide))
          · exact h.days hN.1 hN.2.1 _ (by omega)
theorem tally_lt (h : CBd D) (hN : NI T C Ct D n) {k : Nat} (hk : k = 5 ∨ k = 9 ∨ k = 10 ∨ k = 11) : tallyN T D k < 2 ^ 31 := by
  have hday := hN.2.2.2.1
  have hn := hN.2.2.2.2
  have h60 := hN.1.1.1.2.2.2.2.1
  unfold CBd at h
  rcases hk with rfl | rfl | rfl | rfl
  · show D 1 0 0 < 2 ^ 31; omega
  · show D 2 0 0 < 2 ^ 31; omega
  · show mergedN D < 2 ^ 31
    have : mergedN D ≤ D 1 0 0 * 1 := sumN_le _ (fun _ _ => bN_le)
    omega
  · show D 3 0 0 < 2 ^ 31; omega
theorem tally_mono (h : Mono D D') {k : Nat} (hk : k = 5 ∨ k = 9 ∨ k = 10 ∨ k = 11) : tallyN T D k ≤ tallyN T D' k := by
  rcases hk with rfl | rfl | rfl | rfl
  · exact h.1
  · exact h.2.1
  · exact h.2.2.1
  · exact h.2.2.2
end LG2
