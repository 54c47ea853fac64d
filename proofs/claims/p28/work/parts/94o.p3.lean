/-! a day's end: what waits is hung, again and again from the first -/
section SO3
variable {d rc rs : Nat} {Q : Option Value → Mu → Prop} {μ μ' : Mu} {T : PT} {D D' E : DT} {OO : Nat → Nat → Nat} {c c' c'' : Nat}
theorem SimP.trans {μ1 : Mu} {D1 D2 : DT} (h : SimP μ T D1 OO c c' μ1) (h' : SimP μ1 T D2 OO c' c'' μ') : SimP μ T D2 OO c c'' μ' := by
  obtain ⟨a1, a2, a3, a4, a5⟩ := h
  obtain ⟨b1, b2, b3, b4, b5⟩ := h'
  exact ⟨by omega, (a2.mono (fun κ i z => z.w (Nat.le_refl _) b1)).trans (b2.mono (fun κ i z => z.w a1 (Nat.le_refl _))), b3, b4, b5.trans a5⟩
theorem Iv.ho1 {b : Nat} (hI : Inv T D) (h2 : Iv T D) (hb : b < T 0 0) : ∀ k, k ≤ D 1 0 0 → Iv T (hoF T D b k)
  | 0, _ => h2
  | k + 1, hk => by
    have ih := Iv.ho1 hI h2 hb k (by omega)
    have ii := hI.ho1 hb k (by omega)
    rw [hoF]
    split
    · rename_i z
      exact Iv.hang ii ih hb (by rw [hoF_f (by decide) (by decide) (by decide) (by decide) (by decide)]; exact hk) z.2
    · exact ih
theorem Iv.ho2 (hI : Inv T D) (h2 : Iv T D) : ∀ k, k ≤ T 0 0 → Iv T (hoA T D k)
  | 0, _ => h2
  | k + 1, hk => Iv.ho1 (hI.ho2 k (by omega)) (Iv.ho2 hI h2 k (by omega)) (by omega) _ (Nat.le_refl _)
/-- the boards of one parish, from the first sheet on -/
theorem pass_193 {p : Nat} (hI : Inv T D) (h2 : Iv T D) (hD : 3 ≤ d) (hp : p < T 0 0)
    (kk : ∀ μ' c' rc' rs', SimP μ T (hoF T D p (D 1 0 0)) OO c c' μ' → rc ≤ rc' + 120 → rs ≤ rs' + 3900 → Wx K_SI_pass d rc' rs' Q 183 [(0, .ref (hd 100 0)), (2, .int (nI (p + 1)))] [] μ') :
    ∀ w j μ' c' rc' rs', j ≤ D 1 0 0 → SimP μ T (hoF T D p j) OO c c' μ' → (∀ t, t < j → ¬ hng (hoF T D p j) p t) → hoF T D p j 11 p 0 ≤ w → w ≤ 60 → rc + 2 * w ≤ rc' + 120 → rs + 65 * w ≤ rs' + 3900 → 120 ≤ rc → 3900 ≤ rs → Wx K_SI_pass d rc' rs' Q 193 [(0, .ref (hd 100 0)), (2, .int (nI p)), (3, .int 1)] [] μ' := by
  intro w
  induction w using Nat.strongRecOn with
  | ind w ih =>
    intro j μ' c' rc' rs' hj hP hn hw hw6 hc hs hc0 hs0
    have e1 : hoF T D p j 1 0 0 = D 1 0 0 := hoF_f (by decide) (by decide) (by decide) (by decide) (by decide) j
    have hIj := hI.ho1 hp j hj
    have h2j := Iv.ho1 hI h2 hp j hj
    have hP5 := hI.1.1.1
    have h60 := hI.1.1.2.2.2.2.1
    obtain ⟨q1, q2, q3, q4, q5⟩ := hP
    refine r_SI_pass_193 (by omega) ⟨fun h => absurd h (by decide), fun _ => ?_⟩
    have l202 : ∀ k, k ≤ D 1 0 0 → (∀ t, t < k → ¬ hng (hoF T D p j) p t) → Wx K_SI_pass d rc' rs' Q 202 [(0, .ref (hd 100 0)), (2, .int (nI p)), (3, .int 0), (4, .int (nI k))] [] μ' := by
      refine up_loop _ (fun hall => ?_) (fun k hk ih2 hall => ?_)
      · have R6 := q4.2.1
        rw [e1] at R6
        refine r_SI_pass_202 (by omega) ⟨q4.1.1, _, R6.1, _, R6.2.1, fun _ => ?_, fun h => absurd (Int32.le_refl _) h⟩
        refine r_SI_pass_193 (by omega) ⟨fun _ => ?_, fun h => absurd rfl h⟩
        rw [nI_s]
        have es : hoF T D p (D 1 0 0) = hoF T D p j := by
          have := hoF_skip (T := T) (E := D) (b := p) (k := j) (D 1 0 0 - j) (fun t _ h2 => hall t (by omega))
          rw [show j + (D 1 0 0 - j) = D 1 0 0 by omega] at this
          exact this
        exact kk μ' c' rc' rs' (by rw [es]; exact ⟨q1, q2, q3, q4, q5⟩) (by omega) (by omega)
      · have R6 := q4.2.1
        rw [e1] at R6
        refine r_SI_pass_202 (by omega) ⟨q4.1.1, _, R6.1, _, R6.2.1, fun h => absurd ((nI_leI (by omega) (by omega)).mp h) (by omega), fun _ => ⟨fun _ => ⟨q4.1.1, c_SI_canHang q4 hIj h2j (by omega) q3 hp (by rw [e1]; exact hk) ⟨_, rfl, bIs (fun h => ?_) (fun h => ?_)⟩⟩, fun h => absurd rfl h⟩⟩
        · rw [nI_s, Nat.sub_zero, Nat.sub_zero, bI_f h]
          refine ih2 (fun t ht => ?_)
          rcases Nat.lt_or_ge t k with y | y
          · exact hall t y
          · obtain rfl : t = k := by omega
            exact h
        · have hjk : j ≤ k := by
            rcases Nat.lt_or_ge k j with y | y
            · exact absurd h (hn k y)
            · exact y
          have ek : hoF T D p k = hoF T D p j := by
            have := hoF_skip (T := T) (E := D) (b := p) (k := j) (k - j) (fun t _ h2 => hall t (by omega))
            rw [show j + (k - j) = k by omega] at this
            exact this
          have ek1 : hoF T D p (k + 1) = hangD T (hoF T D p j) p k := by
            rw [hoF, ek]
            exact if_pos h
          have h8 : hoF T D p j 8 p k ≠ 0 := h.1
          have h11 : 1 ≤ hoF T D p j 11 p 0 := by
            rw [hIj.2.1 p hp]
            have := sumN_pos (f := fun s => hoF T D p j 8 p s) 60 (show k < 60 by omega)
            have h8' : (fun s => hoF T D p j 8 p s) k ≠ 0 := h8
            omega
          have e11 : hangD T (hoF T D p j) p k 11 p 0 = hoF T D p j 11 p 0 - 1 := by rw [hang_11, if_pos rfl]
          rw [Nat.sub_zero, Nat.sub_zero, bI_t h]
          refine ⟨2, 65, ⟨by omega, by omega⟩, q4.1.1, c_SI_hang q4 hIj h2j (by omega) (Nat.le_refl _) (Nat.le_refl _) q3 hp (by rw [e1]; exact hk) h (fun μ2 z => ⟨rfl, ?_⟩)⟩
          have z' := SimP.trans ⟨q1, q2, q3, q4, q5⟩ z
          have nx : Wx K_SI_pass d (rc' - 2) (rs' - 65) Q 193 [(0, .ref (hd 100 0)), (2, .int (nI p)), (3, .int 1)] [] μ2 := ih (w - 1) (by omega) (k + 1) μ2 (c' + 2) (rc' - 2) (rs' - 65) (by omega) (by rw [ek1]; exact z') (by
            rw [ek1]
            exact no_back hIj (by rw [e1]; exact hk) h hall) (by rw [ek1, e11]; omega) (by omega) (by omega) (by omega) hc0 hs0
          obtain ⟨z1, z2, z3, z4, z5⟩ := z
          have R6 := z4.2.1
          refine r_SI_pass_202 (by omega) ⟨z4.1.1, _, R6.1, _, R6.2.1, fun _ => nx, fun _ => ⟨fun h => absurd h (by decide), fun _ => nx⟩⟩
    exact l202 0 (Nat.zero_le _) (fun t ht => absurd ht (Nat.not_lt_zero _))
/-- all boards -/
theorem pass_183 (hI : Inv T D) (h2 : Iv T D) (hR : SR μ T D OO c) (hS : St μ) (hD : 3 ≤ d) (hc : 120 * T 0 0 ≤ rc) (hs : 3900 * T 0 0 ≤ rs)
    (kk : ∀ μ' c', SimP μ T (ud (hoA T D (T 0 0)) 0 0 0 (D 0 0 0 + 1)) OO c c' μ' → Q none μ') : Wx K_SI_pass d rc rs (fun r μ' => St μ' ∧ Q r μ') 183 [(0, .ref (hd 100 0)), (2, .int 0)] [] μ := by
  have hP5 := hI.1.1.1
  have loop : ∀ p, p ≤ T 0 0 → ∀ μ' c' rc' rs', SimP μ T (hoA T D p) OO c c' μ' → 120 * (T 0 0 - p) ≤ rc' → 3900 * (T 0 0 - p) ≤ rs' → Wx K_SI_pass d rc' rs' (fun r μ' => St μ' ∧ Q r μ') 183 [(0, .ref (hd 100 0)), (2, .int (nI p))] [] μ' := by
    refine up_loop _ (fun μ' c' rc' rs' hP _ _ => ?_) (fun p hp ih μ' c' rc' rs' hP h1 h3 => ?_)
    · obtain ⟨q1, q2, q3, q4, q5⟩ := hP
      refine r_SI_pass_183 (by omega) ⟨q4.1.1, fun _ => ⟨q4.1.1, ⟨q4.1.1, hi_hd (by decide) (by decide)⟩, ?_⟩, fun h => ?_⟩
      · have e0 : hoA T D (T 0 0) 0 0 0 = D 0 0 0 := hoA_f (by decide) (by decide) (by decide) (by decide) (by decide) _
        rw [q4.1.2.1, e0, nI_s]
        have f : FrS (fun κ i => κ = 100 ∧ i = 0) μ' (setI μ' (hd 100 0) 0 (nI (D 0 0 0 + 1))) := FrS.rf.sI (by decide) ⟨rfl, rfl⟩
        have S' := f.st (fun κ i z => by omega) q3
        have sf : ∀ f, f ≠ 0 → ∀ i j, ud (hoA T D (T 0 0)) 0 0 0 (D 0 0 0 + 1) f i j = hoA T D (T 0 0) f i j := fun f hf i j => ud_f hf
        have e0R : ∀ f, gR (setI μ' (hd 100 0) 0 (nI (D 0 0 0 + 1))) (hd 100 0) f = gR μ' (hd 100 0) f := fun f => by rw [gR_h (by decide) (by decide), gR_h (by decide) (by decide)]; rfl
        have e0I : ∀ f, f ≠ 0 → gI (setI μ' (hd 100 0) 0 (nI (D 0 0 0 + 1))) (hd 100 0) f = gI μ' (hd 100 0) f := fun f hf => by rw [gI_h (by decide) (by decide), rd_k hf, ← gI_h (by decide) (by decide)]
        obtain ⟨o1, o2, o3, o4, o5, o6, o7⟩ := q4.1
        refine ⟨S', kk _ c' ⟨q1, q2.trans (f.mono (fun κ i z => by unfold OwH; omega)), S', ?_, (e0R 13).trans q5⟩⟩
        refine q4.ext (D' := ud (hoA T D (T 0 0)) 0 0 0 (D 0 0 0 + 1)) f (Nat.le_refl _) (fun κ i z => Or.inl z) (fun f _ => e0R f) ⟨o1, ?_, ?_, ?_, ?_, ?_, ?_⟩ (fun f hf i j => sf f (by omega) i j) (fun p hp => ⟨?_, fun k hk => ?_⟩) (fun p hp => ⟨?_, fun k hk => ?_⟩) (fun p hp => ⟨?_, fun k hk => ?_⟩)
        · rw [gI_h (by decide) (by decide), rd_eq, ud_self]
        · rw [e0I 1 (by decide), o3, sf 2 (by decide)]
        · rw [e0I 2 (by decide), o4, merged_congr (D := hoA T D (T 0 0)) (D' := ud (hoA T D (T 0 0)) 0 0 0 (D 0 0 0 + 1)) (sf 1 (by decide) 0 0) (fun s => sf 4 (by decide) s 5)]
        · rw [e0I 3 (by decide), o5, sf 3 (by decide)]
        · rw [e0I 4 (by decide), o6]
        · rw [e0I 5 (by decide), o7]
        · exact (f.S (by decide) (by omega)).trans (q4.2.2.2.2.2.1.2.2 p hp).2.1
        · rw [f.gi (by decide) (by omega), (q4.2.2.2.2.2.1.2.2 p hp).2.2 k hk]
          unfold pWt; rw [sf 8 (by decide)]
        · exact (f.S (by decide) (by omega)).trans (q4.2.2.2.2.2.2.1.2.2 p hp).2.1
        · rw [f.gi (by decide) (by omega), (q4.2.2.2.2.2.2.1.2.2 p hp).2.2 k hk]
          unfold rdX; rw [sf 12 (by decide), sf 9 (by decide)]
        · exact (f.S (by decide) (by omega)).trans (q4.2.2.2.2.2.2.2.1.2.2 p hp).2.1
        · rw [f.gi (by decide) (by omega), (q4.2.2.2.2.2.2.2.1.2.2 p hp).2.2 k hk]
          unfold pGo; rw [sf 10 (by decide)]
      · rw [q4.1.2.2.2.2.2.1] at h
        exact absurd (Int32.le_refl _) h
    · obtain ⟨q1, q2, q3, q4, q5⟩ := hP
      have hIp := hI.ho2 p (by omega)
      have h2p := Iv.ho2 hI h2 p (by omega)
      refine r_SI_pass_183 (by omega) ⟨q4.1.1, fun h => ?_, fun _ => ?_⟩
      · rw [q4.1.2.2.2.2.2.1] at h
        exact absurd ((nI_leI (by omega) (by omega)).mp h) (by omega)
      · have hw := (hIp.1.2.2.1 p hp).2.2.2.1
        exact pass_193 (rc := rc') (rs := rs') hIp h2p hD hp (fun μ2 c2 rc2 rs2 z y1 y2 => ih μ2 c2 rc2 rs2 (SimP.trans ⟨q1, q2, q3, q4, q5⟩ z) (by omega) (by omega)) (hoA T D p 11 p 0) 0 μ' c' rc' rs' (Nat.zero_le _) ⟨Nat.le_refl _, FrS.rf, q3, q4, rfl⟩ (fun t ht => absurd ht (Nat.not_lt_zero _)) (Nat.le_refl _) hw (by omega) (by omega) (by omega) (by omega)
  exact loop 0 (Nat.zero_le _) μ c rc rs ⟨Nat.le_refl _, FrS.rf, hS, hR, rfl⟩ (by omega) (by omega)
end SO3
