/-! what a board shows of a notice, as a row -/
section SHW
variable {d rc rs : Nat} {Q : Option Value → Mu → Prop} {μ μ' : Mu} {T : PT} {D : DT} {OO : Nat → Nat → Nat} {c : Nat}
def RowL (μ : Mu) (a : Nat) (l : List Nat) : Prop := ∀ j, j < l.length → gI μ a j = nI (l.getD j 0 - 1)
theorem c_SI_shows {b n : Nat} (hR : SR μ T D OO c) (hB : DB T D) (hD : 1 ≤ d) (hc : 2 ≤ rc) (hs : 65 ≤ rs) (hS : St μ) (hb : b < T 0 0) (hn : n < T 1 0)
    (hQ : ∀ μ', FrS (Dy c (c + 2)) μ μ' → mS μ' (hd 130 (c + 1)) = (2, (shL D b n).length) → RowL μ' (hd 130 (c + 1)) (shL D b n) → Q (some (.ref (hd 130 (c + 1)))) μ') : Cal K_SI_shows d rc rs [.ref (hd 100 0), .int (nI b), .int (nI n)] μ Q := by
  have hP5 := hB.1.1
  have hN6 := hB.1.2.1
  have hS60 := hB.1.2.2.2.2.1
  have hlen := shL_len D b n
  have hshP := hB.shP hb (show n < 6 by omega)
  have hf7 : ∀ p, p < 5 → D 7 b (5 * n + p) ≤ D 1 0 0 := fun p hp => (hB.2.2.1 b hb).2.1 _ (by omega)
  have hf4 : ∀ p, p < 5 → D 7 b (5 * n + p) ≠ 0 → D 4 (D 7 b (5 * n + p) - 1) 0 = p ∧ D 4 (D 7 b (5 * n + p) - 1) 1 = n := fun p hp h => by
    have := (hB.2.2.1 b hb).2.2.2.2 (5 * n + p) (by omega) h
    omega
  generalize hf : (fun p => D 7 b (5 * n + p)) = f at hshP
  have hfe : ∀ p, D 7 b (5 * n + p) = f p := fun p => by rw [← hf]
  have hle : ∀ p k, p < 5 → (shG f p k).length ≤ 5 := fun p k hp => by
    unfold shG
    split
    · have := sLk_len f (p + 1) 0; omega
    · have := sLk_len f p 0; omega
  have fr1 : FreN μ (hd 130 c) := hR.2.2.2.2.2.2.2.2.2.1.fr (by decide) (by decide)
  refine e_SI_shows (r_SI_shows_0 hD ⟨⟨by decide, by decide, by omega, by omega⟩, hd 130 c, fr1, ?_⟩)
  -- the copying
  have l104 : ∀ (l : List Nat), l.length ≤ 5 → l = shL D b n → ∀ k, k ≤ l.length → ∀ μ', FrS (Dy c (c + 2)) μ μ' → mS μ' (hd 130 c) = (2, 60) → RowL μ' (hd 130 c) l → mS μ' (hd 130 (c + 1)) = (2, l.length) → (∀ j, j < k → gI μ' (hd 130 (c + 1)) j = nI (l.getD j 0 - 1)) → Wx K_SI_shows d (rc - 1 - 1) (rs - 60 - l.length) (fun r μ' => St μ' ∧ Q r μ') 104 [(3, .int (nI l.length)), (4, .ref (hd 130 c)), (5, .ref (hd 130 (c + 1))), (6, .int (nI k))] [] μ' := by
    intro l hl5 hl
    refine up_loop l.length (fun μ' g s1 w s2 w2 => ?_) (fun k hk ih μ' g s1 w s2 w2 => ?_)
    · exact r_SI_shows_104 hD ⟨fun _ => ⟨g.st (fun κ i z => z.lo) hS, hQ _ g (by rw [s2, hl]) (by rw [← hl]; exact w2)⟩, fun h => absurd (Int32.le_refl _) h⟩
    · refine r_SI_shows_104 hD ⟨fun h => absurd ((nI_leI (by omega) (by omega)).mp h) (by omega), fun _ => ⟨60, ⟨s1, vI (by omega) (by omega)⟩, l.length, ⟨s2, vI hk (by omega), hi_hd (by decide) (by decide)⟩, ?_⟩⟩
      rw [nI_clamp (by omega), nI_s]
      refine ih _ (g.sI (by decide) ⟨by decide, by omega, by omega⟩) s1 (fun j hj => ?_) s2 (fun j hj => ?_)
      · rw [gI_h (by decide) (by decide), rd_i (by omega), ← gI_h (by decide) (by decide)]; exact w j hj
      · rw [gI_h (by decide) (by decide)]
        by_cases e : j = k
        · rw [e, rd_eq]; exact w k hk
        · rw [rd_k e, ← gI_h (by decide) (by decide)]; exact w2 j (by omega)
  -- the finding
  have l11 : ∀ p, p ≤ T 0 0 → ∀ μ', FrS (Dy c (c + 1)) μ μ' → mS μ' (hd 130 c) = (2, 60) → RowL μ' (hd 130 c) (sLk f 0 p) → Wx K_SI_shows d (rc - 1) (rs - 60) (fun r μ' => St μ' ∧ Q r μ') 11 [(0, .ref (hd 100 0)), (1, .int (nI b)), (2, .int (nI n)), (3, .int (nI (sLk f 0 p).length)), (4, .ref (hd 130 c)), (5, .int (nI p))] [] μ' := by
    refine up_loop (T 0 0) (fun μ' g s1 w => ?_) (fun p hp ih μ' g s1 w => ?_)
    · have R := hR.dy g (by omega)
      have fr2 : FreN μ' (hd 130 (c + 1)) := R.2.2.2.2.2.2.2.2.2.1.fr (by decide) (by decide)
      rw [← hshP] at w ⊢
      refine r_SI_shows_11 hD ⟨R.1.1, fun _ => ?_, fun h => ?_⟩
      · rw [nI_clamp (by omega)]
        refine ⟨⟨ip0 (by omega), by omega, by omega, by omega⟩, hd 130 (c + 1), fr2, ?_⟩
        rw [I0]
        refine l104 _ hlen rfl 0 (Nat.zero_le _) _ ((g.mono (fun κ i z => ⟨z.1, z.2.1, by have := z.2.2; omega⟩)).mk (by decide) ⟨by decide, by omega, by omega⟩) ?_ (fun j hj => ?_) (if_pos rfl) (fun j hj => absurd hj (Nat.not_lt_zero _))
        · rw [S_i (by decide) (by omega)]; exact s1
        · have e := w j hj
          rw [gI_h (by decide) (by decide)] at e ⊢
          exact (if_neg (fun z => by have := ((hd_inj (by decide) (by decide)).mp z).2; omega)).trans e
      · rw [R.1.2.2.2.2.2.1] at h; exact absurd (Int32.le_refl _) h
    · have R := hR.dy g (by omega)
      refine r_SI_shows_11 hD ⟨R.1.1, fun h => ?_, fun _ => ?_⟩
      · rw [R.1.2.2.2.2.2.1] at h; exact absurd ((nI_leI (by omega) (by omega)).mp h) (by omega)
      · rw [I0]
        have l23 : ∀ k, k ≤ D 1 0 0 → ∀ μ', FrS (Dy c (c + 1)) μ μ' → mS μ' (hd 130 c) = (2, 60) → RowL μ' (hd 130 c) (shG f p k) → Wx K_SI_shows d (rc - 1) (rs - 60) (fun r μ' => St μ' ∧ Q r μ') 23 [(0, .ref (hd 100 0)), (1, .int (nI b)), (2, .int (nI n)), (3, .int (nI (shG f p k).length)), (4, .ref (hd 130 c)), (5, .int (nI p)), (6, .int (nI k))] [] μ' := by
          refine up_loop (D 1 0 0) (fun μ' g s1 w => ?_) (fun k hk ih2 μ' g s1 w => ?_)
          · have R := hR.dy g (by omega)
            refine r_SI_shows_23 hD ⟨R.1.1, _, R.2.1.1, _, R.2.1.2.1, fun _ => ?_, fun h => absurd (Int32.le_refl _) h⟩
            have e : shG f p (D 1 0 0) = sLk f 0 (p + 1) := shG_S (by rw [← hfe]; exact hf7 p (by omega))
            rw [nI_s, e]
            rw [e] at w
            exact ih μ' g s1 w
          · have R := hR.dy g (by omega)
            have lk := hle p k (by omega)
            have i32 : ∀ {y : Nat}, y < 2 ^ 31 → (nI y).toNatClampNeg = y := fun h => nI_clamp h
            have nxt : shG f p (k + 1) = shG f p k → Wx K_SI_shows d (rc - 1) (rs - 60) (fun r μ' => St μ' ∧ Q r μ') 23 [(0, .ref (hd 100 0)), (1, .int (nI b)), (2, .int (nI n)), (3, .int (nI (shG f p k).length)), (4, .ref (hd 130 c)), (5, .int (nI p)), (6, .int (nI k + 1))] [] μ' := fun e => by
              rw [nI_s, ← e]
              rw [← e] at w
              exact ih2 μ' g s1 w
            refine r_SI_shows_23 hD ⟨R.1.1, _, R.2.1.1, _, R.2.1.2.1, fun h => absurd ((nI_leI (by omega) (by omega)).mp h) (by omega), fun _ => ⟨R.1.1, _, R.2.2.2.2.1.1, _, ⟨R.2.2.2.2.1.2.1, vI hb (by omega)⟩, hd 111 b, by rw [i32 (by omega)]; exact (R.2.2.2.2.1.2.2 b hb).1, _, ⟨(R.2.2.2.2.1.2.2 b hb).2.1, vI (by omega) (by decide)⟩, ?_⟩⟩
            rw [i32 (show k < 2 ^ 31 by omega), (R.2.2.2.2.1.2.2 b hb).2.2 k (by omega)]
            refine bIs (fun hp' => ?_) (fun hp' => ?_)
            · refine nxt (shG_n (fun z => hp' ?_))
              rw [← hfe] at z
              have := hf4 p (by omega) (by omega)
              rw [show D 7 b (5 * n + p) - 1 = k by omega] at this
              exact ⟨hk, by rw [this.1, this.2]; exact z⟩
            · refine ⟨R.1.1, _, R.2.1.1, _, ⟨R.2.1.2.1, vI hk (by omega)⟩, hd 116 k, (R.2.1.2.2 k hk).1, _, ⟨(R.2.1.2.2 k hk).2.1, vI (k := 1) (by decide) (by decide)⟩, ?_⟩
              rw [show ((1 : Int32).toNatClampNeg) = 1 from rfl, (R.2.1.2.2 k hk).2.2 1 (by decide)]
              have hn4 : D 4 k 1 < T 1 0 := (hB.2.1 k hk).2.1
              have hp4 : D 4 k 0 < T 0 0 := (hB.2.1 k hk).1
              refine ⟨fun en => ?_, fun en => ?_⟩
              · have en' : D 4 k 1 = n := (nI_eq (by omega) (by omega)).mp en
                refine ⟨R.1.1, _, R.2.1.1, _, ⟨R.2.1.2.1, vI hk (by omega)⟩, hd 116 k, (R.2.1.2.2 k hk).1, _, ⟨(R.2.1.2.2 k hk).2.1, vI (k := 0) (by decide) (by decide)⟩, ?_⟩
                rw [show ((0 : Int32).toNatClampNeg) = 0 from rfl, (R.2.1.2.2 k hk).2.2 0 (by decide)]
                refine ⟨fun ep => ?_, fun ep => ?_⟩
                · have ep' : D 4 k 0 = p := (nI_eq (by omega) (by omega)).mp ep
                  have e : f p = k + 1 := by rw [← hfe]; have := hp'.2; rw [en', ep'] at this; exact this
                  refine ⟨60, ⟨s1, vI (by omega) (by decide), hi_hd (by decide) (by decide)⟩, ?_⟩
                  rw [i32 (by omega), nI_s, nI_s]
                  have ey := shG_y e
                  have el : (shG f p (k + 1)).length = (shG f p k).length + 1 := by rw [ey, List.length_append]; rfl
                  rw [← el]
                  refine ih2 _ (g.sI (by decide) ⟨by decide, by omega, by omega⟩) s1 (fun j hj => ?_)
                  have hj2 := hj
                  rw [ey] at hj2 ⊢
                  rw [getD_end hj2, gI_h (by decide) (by decide)]
                  by_cases ej : j = (shG f p k).length
                  · rw [if_pos ej, ej, rd_eq]; rfl
                  · rw [if_neg ej, rd_k ej, ← gI_h (by decide) (by decide)]; exact w j (by omega)
                · refine nxt (shG_n (fun z => ep ?_))
                  rw [← hfe] at z
                  have := hf4 p (by omega) (by omega)
                  rw [show D 7 b (5 * n + p) - 1 = k by omega] at this
                  exact congrArg nI this.1
              · refine nxt (shG_n (fun z => en ?_))
                rw [← hfe] at z
                have := hf4 p (by omega) (by omega)
                rw [show D 7 b (5 * n + p) - 1 = k by omega] at this
                exact congrArg nI this.2
        have z := l23 0 (Nat.zero_le _) μ' g s1 (by rw [shG_0]; exact w)
        rw [shG_0] at z
        exact z
  rw [I0]
  exact l11 0 (Nat.zero_le _) _ (FrS.rf.mk (by decide) ⟨by decide, by omega, by omega⟩) (if_pos rfl) (fun j hj => absurd hj (Nat.not_lt_zero _))
end SHW
