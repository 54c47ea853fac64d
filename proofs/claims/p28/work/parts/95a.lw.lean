/-! the law's checks of sheets -/
section LA
variable {d rc rs : Nat} {Q : Option Value → Mu → Prop} {μ μ' : Mu} {T : PT} {D D' E : DT} {C Ct : Nat → List Op} {t : Nat → Nat} {L : Nat} {x e : Int32} {a0 a4 : Nat} {x5 x6 x12 : Int32} {x7 : Int64}
theorem cmp_sym (hI : Inv T D) {s u : Nat} (hs : s < D 1 0 0) (hu : u < D 1 0 0) : cmpN D u s = if cmpN D s u = 1 then 2 else if cmpN D s u = 2 then 1 else cmpN D s u := by
  unfold cmpN
  by_cases z : s = u
  · rw [if_pos z.symm, if_pos z]; rfl
  · rw [if_neg (fun w => z w.symm), if_neg z]
    by_cases y : ah D s u
    · have h1 := ah_le hI hs hu y
      have n : ¬ ah D u s := fun w => by
        have := ah_le hI hu hs w
        omega
      rw [if_pos y, if_neg n, if_pos y]; rfl
    · by_cases w : ah D u s
      · rw [if_pos w, if_neg y, if_pos w]; rfl
      · rw [if_neg w, if_neg y, if_neg y, if_neg w]; rfl
theorem cmp_1 {s u : Nat} (h : cmpN D s u = 1) : ah D s u := by
  unfold cmpN at h
  by_cases z : s = u
  · rw [if_pos z] at h; omega
  · rw [if_neg z] at h
    by_cases y : ah D s u
    · exact y
    · rw [if_neg y] at h
      split at h <;> omega
theorem cmp_le {s u : Nat} : cmpN D s u ≤ 3 := by
  unfold cmpN
  split
  · omega
  · split
    · omega
    · split <;> omega
theorem lt1 {n : Nat} (h : n < 2 ^ 31) : nI n < 1 ↔ n < 1 := by rw [I1, nI_ltI h (by decide)]
set_option maxRecDepth 100000 in
theorem law_719 (hC : CI μ T C Ct D t L e) (hS : St μ) (hI : Inv T D) (h2 : Iv T D) (hD : 9 ≤ d) (h1P : 1 ≤ T 0 0)
    (kk : Wx K_LW_law d rc rs Q 719 [(0, .ref a0), (2, .ref (hd 100 0)), (3, .ref (hd 8 0)), (4, .ref a4), (5, .int x5), (6, .int x6), (7, .long x7), (9, .int (nI (T 0 0))), (10, .int (nI (D 1 0 0))), (12, .int x12), (15, .int (nI (D 1 0 0)))] [] μ) :
    Wx K_LW_law d rc rs Q 719 [(0, .ref a0), (2, .ref (hd 100 0)), (3, .ref (hd 8 0)), (4, .ref a4), (5, .int x5), (6, .int x6), (7, .long x7), (9, .int (nI (T 0 0))), (10, .int (nI (D 1 0 0))), (12, .int x12), (15, .int 0)] [] μ := by
  have hB := hI.1
  have hP5 := hB.1.1
  have h60 := hB.1.2.2.2.2.1
  have hdy := hB.1.2.2.2.2.2
  obtain ⟨wk, sk, mu, cv, cl, tr, dm⟩ := h2
  have h8 : mS μ (hd 8 0) = (1, 0) := s_8 hS (by decide)
  have hz : ∀ {a b : Nat}, 0 ≤ a ∧ 0 ≤ b := fun {a b} => ⟨Nat.zero_le _, Nat.zero_le _⟩
  have l719 : ∀ k, k ≤ D 1 0 0 → Wx K_LW_law d rc rs Q 719 [(0, .ref a0), (2, .ref (hd 100 0)), (3, .ref (hd 8 0)), (4, .ref a4), (5, .int x5), (6, .int x6), (7, .long x7), (9, .int (nI (T 0 0))), (10, .int (nI (D 1 0 0))), (12, .int x12), (15, .int (nI k))] [] μ := by
    refine up_loop _ kk (fun k hk ih => ?_)
    obtain ⟨v0, v1, v2, v3, v4, v5, v6⟩ := hB.2.1 k hk
    have hkn : knowersN T D k ≤ T 0 0 := by
      have : knowersN T D k ≤ T 0 0 * 1 := sumN_le _ (fun _ _ => bN_le)
      omega
    have hk1 : 1 ≤ knowersN T D k := by
      have := sumN_pos (f := fun b => bN (kn D b k)) (T 0 0) v0
      have this' : bN (kn D (D 4 k 0) k) ≤ knowersN T D k := this
      rw [bN_t (kn_own hI hk)] at this'
      exact this'
    have hsh : showersN T D k ≤ knowersN T D k := sumN_leq _ (fun b hb => by
      by_cases z : D 7 b (5 * D 4 k 1 + D 4 k 0) = k + 1
      · rw [bN_t z, bN_t (sk b k hb ⟨hk, z⟩)]; exact Nat.le_refl _
      · rw [bN_f z]; exact Nat.zero_le _)
    have hst : 1 ≤ D 5 k (D 4 k 0) := by
      have h2' := hI.2.2.1.2.1 k hk
      have h3 := cPo (D := D) (k := k) rfl
      omega
    have hd4 := dm k hk
    have go907 : ∀ o, o < D 1 0 0 → ∀ z0 : Int32, z0 = nI (cmpN D o k) → Wx K_LW_law d rc rs Q 907 [(0, .ref a0), (2, .ref (hd 100 0)), (3, .ref (hd 8 0)), (4, .ref a4), (5, .int x5), (6, .int x6), (7, .long x7), (9, .int (nI (T 0 0))), (10, .int (nI (D 1 0 0))), (12, .int x12), (15, .int (nI k)), (16, .int (nI (D 4 k 0))), (17, .int (nI o)), (18, .int (nI (cmpN D k o)))] [.int z0, .int (nI (cmpN D o k))] μ := by
      intro o ho z0 hz0
      have l928 : ∀ p, p ≤ T 0 0 → Wx K_LW_law d rc rs Q 928 [(0, .ref a0), (2, .ref (hd 100 0)), (3, .ref (hd 8 0)), (4, .ref a4), (5, .int x5), (6, .int x6), (7, .long x7), (9, .int (nI (T 0 0))), (10, .int (nI (D 1 0 0))), (12, .int x12), (15, .int (nI k)), (16, .int (nI (D 4 k 0))), (17, .int (nI o)), (18, .int (nI (cmpN D k o))), (19, .int (nI p))] [] μ := by
        refine up_loop _ ?_ (fun p hp ihp => ?_)
        · refine r_LW_law_928 (by omega) ⟨fun _ => ?_, fun h => absurd (Int32.le_refl _) h⟩
          rw [nI_s]; exact ih
        · have v5 := fun j (hj : j < 5) => v6 j hj
          have o5 := fun j (hj : j < 5) => (hB.2.1 o ho).2.2.2.2.2.2 j hj
          have k6 := fun j (hj : j < 5) => (hB.2.2.1 p hp).1 j hj
          have l962 : Wx K_LW_law d rc rs Q 962 [(0, .ref a0), (2, .ref (hd 100 0)), (3, .ref (hd 8 0)), (4, .ref a4), (5, .int x5), (6, .int x6), (7, .long x7), (9, .int (nI (T 0 0))), (10, .int (nI (D 1 0 0))), (12, .int x12), (15, .int (nI k)), (16, .int (nI (D 4 k 0))), (17, .int (nI o)), (18, .int (nI (cmpN D k o))), (19, .int (nI p))] [] μ := by
            have l1018 : Wx K_LW_law d rc rs Q 1018 [(0, .ref a0), (2, .ref (hd 100 0)), (3, .ref (hd 8 0)), (4, .ref a4), (5, .int x5), (6, .int x6), (7, .long x7), (9, .int (nI (T 0 0))), (10, .int (nI (D 1 0 0))), (12, .int x12), (15, .int (nI k)), (16, .int (nI (D 4 k 0))), (17, .int (nI o)), (18, .int (nI (cmpN D k o))), (19, .int (nI p))] [] μ := by
              refine r_LW_law_1018 (by omega) ?_
              rw [nI_s]; exact ihp
            have s4 := v6 (D 4 k 0) (by omega)
            have s6 := k6 (D 4 k 0) (by omega)
            refine r_LW_law_962 (by omega) ⟨0, 0, hz, h8, q_knows hC hp v0 (by omega) hS ⟨_, rfl, 0, 0, hz, h8, q_stamp hC hk v0 (by omega) hS ⟨_, rfl, fun h => l1018, fun h => ?_⟩⟩⟩
            have hkn' : kn D p k := by
              unfold kn
              rcases Nat.lt_or_ge (D 6 p (D 4 k 0)) (D 5 k (D 4 k 0)) with y | y
              · exact absurd ((nI_ltI (by omega) (by omega)).mpr y) h
              · exact y
            have l984 : ∀ q, q ≤ T 0 0 → Wx K_LW_law d rc rs Q 984 [(0, .ref a0), (2, .ref (hd 100 0)), (3, .ref (hd 8 0)), (4, .ref a4), (5, .int x5), (6, .int x6), (7, .long x7), (9, .int (nI (T 0 0))), (10, .int (nI (D 1 0 0))), (12, .int x12), (15, .int (nI k)), (16, .int (nI (D 4 k 0))), (17, .int (nI o)), (18, .int (nI (cmpN D k o))), (19, .int (nI p)), (20, .int (nI q))] [] μ := by
              refine up_loop _ ?_ (fun q hq ihq => ?_)
              · exact r_LW_law_984 (by omega) ⟨fun _ => l1018, fun h => absurd (Int32.le_refl _) h⟩
              · have w1 := v6 q (by omega)
                have w2 := k6 q (by omega)
                have w3 := cl p k q hp hk (by omega) hkn'
                refine r_LW_law_984 (by omega) ⟨fun h => absurd ((nI_leI (by omega) (by omega)).mp h) (by omega), fun _ => ⟨0, 0, hz, h8, q_knows hC hp hq (by omega) hS ⟨_, rfl, 0, 0, hz, h8, q_stamp hC hk hq (by omega) hS ⟨_, rfl, fun _ => ?_, fun h => absurd ((nI_leI (by omega) (by omega)).mpr w3) h⟩⟩⟩⟩
                rw [nI_s]; exact ihq
            exact l984 0 (Nat.zero_le _)
          refine r_LW_law_928 (by omega) ⟨fun h => absurd ((nI_leI (by omega) (by omega)).mp h) (by omega), fun _ => ⟨fun h => ?_, fun _ => l962⟩⟩
          have hc1 : cmpN D k o = 1 := (nI_eq (by have := cmp_le (D := D) (s := k) (u := o); omega) (by decide)).mp h
          have w1 := v6 p (by omega)
          have w2 := o5 p (by omega)
          have w3 := tr k o p hk ho (by omega) (cmp_1 hc1)
          exact ⟨0, 0, hz, h8, q_stamp hC hk hp (by omega) hS ⟨_, rfl, 0, 0, hz, h8, q_stamp hC ho hp (by omega) hS ⟨_, rfl, fun _ => l962, fun h => absurd ((nI_leI (by omega) (by omega)).mpr w3) h⟩⟩⟩
      have l925 : Wx K_LW_law d rc rs Q 925 [(0, .ref a0), (2, .ref (hd 100 0)), (3, .ref (hd 8 0)), (4, .ref a4), (5, .int x5), (6, .int x6), (7, .long x7), (9, .int (nI (T 0 0))), (10, .int (nI (D 1 0 0))), (12, .int x12), (15, .int (nI k)), (16, .int (nI (D 4 k 0))), (17, .int (nI o)), (18, .int (nI (cmpN D k o)))] [] μ := r_LW_law_925 (by omega) (l928 0 (Nat.zero_le _))
      refine r_LW_law_907 (by omega) ⟨fun _ => ⟨fun h => ⟨fun _ => l925, fun h' => ?_⟩, fun _ => l925⟩, fun h => absurd hz0.symm h⟩
      have hc1 : cmpN D k o = 1 := (nI_eq (by have := cmp_le (D := D) (s := k) (u := o); omega) (by decide)).mp h
      exact absurd ((nI_leI (by omega) (by omega)).mpr (ah_le hI hk ho (cmp_1 hc1))) h'
    have k31 : knowersN T D k < 2 ^ 31 := by omega
    have s31 : showersN T D k < 2 ^ 31 := by omega
    refine r_LW_law_719 (by omega) ⟨fun h => absurd ((nI_leI (by omega) (by omega)).mp h) (by omega), fun _ => ?_⟩
    refine ⟨0, 0, hz, h8, q_sheet (k := 0) hC hk (by decide) (by omega) hS ⟨_, rfl, ?_⟩⟩
    refine ⟨0, 0, hz, h8, q_sheet (k := 6) hC hk (by decide) (by omega) hS ⟨_, rfl, fun h => absurd ((lt1 k31).mp h) (by omega), fun _ => ?_⟩⟩
    refine ⟨0, 0, hz, h8, q_sheet (k := 7) hC hk (by decide) (by omega) hS ⟨_, rfl, ?_⟩⟩
    refine ⟨0, 0, hz, h8, q_sheet (k := 6) hC hk (by decide) (by omega) hS ⟨_, rfl, fun h => absurd ((nI_ltI k31 s31).mp h) (by omega), fun _ => ?_⟩⟩
    refine ⟨0, 0, hz, h8, q_sheet (k := 6) hC hk (by decide) (by omega) hS ⟨_, rfl, fun h => absurd ((nI_ltI (by omega) k31).mp h) (by omega), fun _ => ?_⟩⟩
    refine ⟨0, 0, hz, h8, q_sheet (k := 2) hC hk (by decide) (by omega) hS ⟨_, rfl, fun h => absurd h (ip0 (show D 4 k 2 < 2 ^ 31 by omega)), fun _ => ?_⟩⟩
    refine ⟨0, 0, hz, h8, q_sheet (k := 2) hC hk (by decide) (by omega) hS ⟨_, rfl, fun h => absurd ((nI_ltI (a := 9999) (b := D 4 k 2) (by decide) (by omega)).mp h) (by omega), fun _ => ?_⟩⟩
    refine ⟨0, 0, hz, h8, q_sheet (k := 3) hC hk (by decide) (by omega) hS ⟨_, rfl, fun h => absurd h (ip0 (show D 4 k 3 < 2 ^ 31 by omega)), fun _ => ?_⟩⟩
    refine ⟨0, 0, hz, h8, q_sheet (k := 3) hC hk (by decide) (by omega) hS ⟨_, rfl, fun h => absurd ((nI_ltI (a := 65535) (b := D 4 k 3) (by decide) (by omega)).mp h) (by omega), fun _ => ?_⟩⟩
    refine ⟨0, 0, hz, h8, q_sheet (k := 4) hC hk (by decide) (by omega) hS ⟨_, rfl, ?_⟩⟩
    refine ⟨0, 0, hz, h8, q_count (k := 0) hC (by decide) (by omega) hS ⟨_, rfl, fun h => absurd ((nI_ltI (a := D 0 0 0) (b := D 4 k 4) (by omega) (by omega)).mp h) (by omega), fun _ => ?_⟩⟩
    refine ⟨0, 0, hz, h8, q_stamp hC hk v0 (by omega) hS ⟨_, rfl, fun _ => ?_, fun h => ?_⟩⟩
    · refine c_below (n := D 1 0 0) (by omega) (by omega) (by omega) hS ⟨_, rfl, 0, 0, hz, h8, ?_⟩
      have lo : belowN (x6 + (5 : Int32) * nI k) (D 1 0 0) < D 1 0 0 := below_lt (by omega)
      generalize belowN (x6 + (5 : Int32) * nI k) (D 1 0 0) = o at *
      have hcs := cmp_sym hI hk lo
      have hc3 := cmp_le (D := D) (s := k) (u := o)
      refine q_compare hC hk lo (by omega) hS ⟨_, rfl, 0, 0, hz, h8, q_compare hC lo hk (by omega) hS ⟨_, rfl, fun h => ?_, fun h => ⟨fun h' => ?_, fun h' => ?_⟩⟩⟩
      · have h1 : cmpN D k o = 1 := (nI_eq (by omega) (by decide)).mp h
        refine go907 o lo 2 ?_
        rw [hcs, if_pos h1]; rfl
      · have h1 : cmpN D k o = 2 := (nI_eq (by omega) (by decide)).mp h'
        refine go907 o lo 1 ?_
        rw [hcs, if_neg (by omega), if_pos h1]; rfl
      · refine go907 o lo _ ?_
        rw [hcs, if_neg (fun z => h (by rw [z]; rfl)), if_neg (fun z => h' (by rw [z]; rfl))]
    · have w := v6 (D 4 k 0) (by omega)
      exact absurd ((nI_leI (a := 1) (by decide) (by omega)).mpr hst) h
  exact l719 0 (Nat.zero_le _)
end LA
