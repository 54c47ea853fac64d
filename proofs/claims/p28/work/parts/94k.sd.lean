section SK
variable {d rc rs : Nat} {Q : Option Value → Mu → Prop} {μ μ' : Mu} {T : PT} {D D' : DT} {OO : Nat → Nat → Nat} {c c' c'' : Nat} {own : Nat → Nat → Prop} {Λ : List Ld}
theorem carF_k {r f i j : Nat} {k : Nat} (h : f ≠ 10) : carF D r k f i j = D f i j := carF_f k (Or.inl h)
theorem car_kn {r k b s : Nat} : kn (carF D r k) b s ↔ kn D b s := by
  unfold kn; rw [carF_k (by decide), carF_k (by decide), carF_k (by decide)]
theorem car_merged {r k : Nat} : mergedN (carF D r k) = mergedN D := merged_congr (carF_k (by decide)) (fun s => carF_k (by decide))
noncomputable def sndE (D : DT) (c r : Nat) : Ld := (c + carN D r (D 1 0 0), r, D 0 0 0 + D 9 r 0, carL D r (D 1 0 0))
noncomputable def sndL (D : DT) (Λ : List Ld) (c r : Nat) : List Ld := if 0 < carN D r (D 1 0 0) then Λ ++ [sndE D c r] else Λ
theorem carN_s {r k : Nat} : carN D r (k + 1) = carN D r k + bN (crC D r k) := rfl
theorem carN_le {r k l : Nat} (h : k ≤ l) : carN D r k ≤ carN D r l := sumN_mono h
/-- what sending asks -/
theorem c_SI_send {r : Nat} (hR : SR μ T D OO c) (hL : LR μ Λ c) (hI : Inv T D) (hΛ : Λ.length ≤ 480) (hD : 2 ≤ d) (hc : 1 + 2 * carN D r (D 1 0 0) ≤ rc) (hs : 2 + 544 * carN D r (D 1 0 0) ≤ rs) (hS : St μ) (hr : r < T 2 0)
    (hQ : ∀ μ' c', c ≤ c' → FrS (OwH c c') μ μ' → St μ' → SR μ' T (sendD D r) OO c' → LR μ' (sndL D Λ c r) c' → Q (some (.int (nI (carN D r (D 1 0 0))))) μ') : Cal K_SI_send d rc rs [.ref (hd 100 0), .int (nI r)] μ Q := by
  have hB := hI.1
  have hP5 := hB.1.1
  have hR8 := hB.1.2.2.1
  have hS60 := hB.1.2.2.2.2.1
  have hdy := hB.1.2.2.2.2.2
  obtain ⟨r1, r2, r3, r4, r5⟩ := hB.2.2.2 r hr
  have x11 := hR.2.2.2.2.2.2.1
  have f0 := hR.2.2.2.2.2.2.2.2.2.1.fr (κ := 130) (by decide) (by decide)
  have hne : hd 100 0 ≠ hd 130 c := hd_ne (by decide) (by decide) (by decide)
  have cr : (nI r).toNatClampNeg = r := nI_clamp (by omega)
  refine e_SI_send (r_SI_send_0 (by omega) ⟨⟨by decide, by decide, by omega, by omega⟩, hd 130 c, f0, 2, ⟨if_pos rfl, vI (k := 0) (by decide) (by decide), f0.2⟩, (if_neg hne).trans hR.1.1, (if_neg hne).trans hR.1.1, hd 121 (T 2 0), ?_, T 2 0, ⟨?_, vI hr (by omega)⟩, hd 115 r, ?_, 4, ⟨?_, vI (k := 2) (by decide) (by decide)⟩, 2, ⟨if_pos rfl, vI (k := 1) (by decide) (by decide), f0.2⟩, ?_⟩)
  · rw [gR_h (by decide) (by decide), mR_setI, R_mkn (by decide) (by decide) (by decide), ← gR_h (by decide) (by decide)]; exact x11.1
  · exact (if_neg (hd_ne (by decide) (by decide) (by decide))).trans x11.2.1
  · rw [cr, gR_h (by decide) (by decide), mR_setI, R_mkn (by decide) (by decide) (by decide), ← gR_h (by decide) (by decide)]; exact (x11.2.2 r hr).1
  · exact (if_neg (hd_ne (by decide) (by decide) (by decide))).trans (x11.2.2 r hr).2.1
  have ee : gI (setI (mkA μ (hd 130 c) (2, 2)) (hd 130 c) (0 : Int32).toNatClampNeg (nI r)) (hd 100 0) 0 + gI (setI (mkA μ (hd 130 c) (2, 2)) (hd 130 c) (0 : Int32).toNatClampNeg (nI r)) (hd 115 r) (2 : Int32).toNatClampNeg = nI (D 0 0 0 + D 9 r 0) := by
    have e2 : gI μ (hd 115 r) 2 = nI (D 9 r 0) := (x11.2.2 r hr).2.2 2 (by decide)
    rw [gI_h (by decide) (by decide), gI_h (by decide) (by decide), rd_ne (by decide) (by decide) (by decide), rd_ne (by decide) (by decide) (by decide), I_mkn (by decide) (by decide) (by decide), I_mkn (by decide) (by decide) (by decide), ← gI_h (by decide) (by decide), ← gI_h (by decide) (by decide), hR.1.2.1]
    rw [show ((2 : Int32).toNatClampNeg) = 2 from rfl, e2, nI_add]
  rw [ee]
  -- the sheets one by one
  have hcn : ∀ k, k ≤ 60 → carN D r k ≤ 60 := fun k hk => by
    have : carN D r k ≤ k * 1 := sumN_le k (fun _ _ => bN_le); omega
  have loop : ∀ k, k ≤ D 1 0 0 → ∀ μ' rc' rs', rc ≤ rc' + 1 + carN D r k → rs ≤ rs' + 2 + 63 * carN D r k → FrS (OwH c (c + 1 + carN D r k)) μ μ' → gR μ' (hd 100 0) 13 = gR μ (hd 100 0) 13 → SR μ' T (carF D r k) OO (c + 1 + carN D r k) → LdR μ' (c + 1 + carN D r k) (c + carN D r k, r, D 0 0 0 + D 9 r 0, carL D r k) → Wx K_SI_send d rc' rs' (fun r μ' => St μ' ∧ Q r μ') 26 [(0, .ref (hd 100 0)), (1, .int (nI r)), (2, .ref (hd 130 (c + carN D r k))), (3, .int (nI k))] [] μ' := by
    refine up_loop _ (fun μ' rc' rs' h1 h2 g l13 R w => ?_) (fun k hk ih μ' rc' rs' h1 h2 g l13 R w => ?_)
    · -- behind the last
      obtain ⟨w1, w2, w3, w4, w5⟩ := w
      have w2' : mS μ' (hd 130 (c + carN D r (D 1 0 0))) = (2, carN D r (D 1 0 0) + 2) := w2.trans (by show (2, (carL D r (D 1 0 0)).length + 2) = _; rw [carL_len])
      have c60 := hcn (D 1 0 0) hS60
      have S' : St μ' := g.st (fun κ i z => z.lo) hS
      have R6 := R.2.1
      rw [carF_k (by decide)] at R6
      have L' : LR μ' Λ (c + 1 + carN D r (D 1 0 0)) := hL.fr g (by omega) l13
      refine r_SI_send_26 (by omega) ⟨R.1.1, _, R6.1, _, R6.2.1, fun _ => ⟨_, w2', fun e => ?_, fun e => ?_⟩, fun h => absurd (Int32.le_refl _) h⟩
      · have e0 : carN D r (D 1 0 0) = 0 := by
          have : carN D r (D 1 0 0) + 2 = 2 := (nI_eq (by omega) (by decide)).mp e
          omega
        refine ⟨S', ?_⟩
        have hq := hQ μ' (c + 1 + carN D r (D 1 0 0)) (by omega) g S' (by unfold sendD; rw [if_neg (by omega)]; exact R) (by unfold sndL; rw [if_neg (by omega)]; exact L')
        rw [e0] at hq; exact hq
      · have e0 : 0 < carN D r (D 1 0 0) := by
          rcases Nat.eq_zero_or_pos (carN D r (D 1 0 0)) with z | z
          · exact absurd (by rw [z]; rfl) e
          · exact z
        obtain ⟨q, q1, q2, q3, q4⟩ := L'
        have fN : mS μ' (hd 131 (c + 1 + carN D r (D 1 0 0))) = (0, 0) := R.2.2.2.2.2.2.2.2.2.1 131 _ (by decide) (by decide) (Nat.le_refl _)
        refine ⟨R.1.1, _, q1, 1, Λ.length + 1, ⟨by omega, by omega⟩, c_SI_with (by omega) (Nat.le_refl _) (Nat.le_refl _) (by omega) S' (by decide) q3 (by omega) (fun j hj => ?_) ⟨w2', hi_hd (by decide) (by decide), hd_ne (by decide) (by decide) (by decide)⟩ ⟨by decide, by decide⟩ fN (fun μ4 f4 s4 v4 v4' => ⟨_, rfl, ?_⟩)⟩
        · obtain ⟨a1, a2⟩ := q4 j _ (List.getElem?_eq_getElem hj)
          exact ⟨_, _, a1, a2.2.1, hi_hd (by decide) (by decide), hd_ne (by decide) (by decide) (by decide)⟩
        · have o4 : mS μ4 (hd 100 0) = (1, 11) := (f4.S (by decide) (by omega)).trans R.1.1
          have y11 := R.2.2.2.2.2.2.1
          have rgg : ∀ {x κ i k}, κ < 256 → (κ ≠ 100 ∨ k ≠ 13) → gR (setR μ4 (hd 100 0) 13 x) (hd κ i) k = gR μ4 (hd κ i) k := fun {x κ i k} h1 h2 => by
            unfold gR
            split
            · rfl
            · rw [mR_set, if_neg]
              rintro ⟨z1, z2⟩
              have := ((hd_inj h1 (by decide)).mp z1).1
              omega
          have ev : gI (setR μ4 (hd 100 0) 13 (hd 131 (c + 1 + carN D r (D 1 0 0)))) (hd 115 r) (3 : Int32).toNatClampNeg + 1 = nI (D 9 r 1 + 1) := by
            have e2 : gI μ' (hd 115 r) 3 = nI (rdX (carF D r (D 1 0 0)) r 3) := (y11.2.2 r hr).2.2 3 (by decide)
            rw [gI_h (by decide) (by decide), I_R, ← gI_h (by decide) (by decide), f4.gi (by decide) (by omega)]
            rw [show ((3 : Int32).toNatClampNeg) = 3 from rfl, e2, nI_s]
            unfold rdX
            rw [if_neg (by decide), carF_k (by decide)]
          refine ⟨⟨o4, hi_hd (by decide) (by decide)⟩, o4, hd 121 (T 2 0), (rgg (by decide) (Or.inr (by decide))).trans ((f4.gr (by decide) (by omega)).trans y11.1), _, ⟨(f4.S (by decide) (by omega)).trans y11.2.1, vI hr (by omega)⟩, hd 115 r, ?_, 4, ⟨(f4.S (by decide) (by omega)).trans (y11.2.2 r hr).2.1, vI (k := 3) (by decide) (by decide)⟩, 4, ⟨(f4.S (by decide) (by omega)).trans (y11.2.2 r hr).2.1, vI (k := 3) (by decide) (by decide), hi_hd (by decide) (by decide)⟩, carN D r (D 1 0 0) + 2, (f4.S (by decide) (by omega)).trans w2', ?_⟩
          · rw [cr, rgg (by decide) (Or.inl (by decide)), f4.gr (by decide) (by omega)]; exact (y11.2.2 r hr).1
          · rw [ev, show ((3 : Int32).toNatClampNeg) = 3 from rfl, show nI (carN D r (D 1 0 0) + 2) - (2 : Int32) = nI (carN D r (D 1 0 0)) by rw [show (2 : Int32) = nI 2 from rfl, nI_sub (by omega)]; rfl]
            generalize hμ5 : setI (setR μ4 (hd 100 0) 13 (hd 131 (c + 1 + carN D r (D 1 0 0)))) (hd 115 r) 3 (nI (D 9 r 1 + 1)) = μ5
            have f5 : FrS (fun κ i => (κ = 100 ∧ i = 0) ∨ (κ = 115 ∧ i = r) ∨ (κ = 131 ∧ i = c + 1 + carN D r (D 1 0 0))) μ' μ5 := by
              rw [← hμ5]
              exact ((f4.mono (fun κ i z => by omega)).sR (by decide) (by omega)).sI (by decide) (by omega)
            have S5 : St μ5 := f5.st (fun κ i z => by omega) S'
            have e0R : ∀ f, f ≠ 13 → gR μ5 (hd 100 0) f = gR μ' (hd 100 0) f := fun f hf => by
              rw [← hμ5]
              exact (rgg (by decide) (Or.inr hf)).trans (f4.gr (by decide) (by omega))
            have e0I : ∀ f, gI μ5 (hd 100 0) f = gI μ' (hd 100 0) f := fun f => by
              rw [← hμ5, gI_h (by decide) (by decide), rd_ne (by decide) (by decide) (by decide), I_R, ← gI_h (by decide) (by decide)]
              exact f4.gi (by decide) (by omega)
            have sd : sendD D r = ud (carF D r (D 1 0 0)) 9 r 1 (D 9 r 1 + 1) := by unfold sendD; rw [if_pos e0]
            have sf : ∀ f, f ≠ 9 → ∀ i j, sendD D r f i j = carF D r (D 1 0 0) f i j := fun f hf i j => by rw [sd, ud_f hf]
            obtain ⟨o1, o2, o3, o4', o5, o6, o7⟩ := R.1
            have g5 : FrS (OwH c (c + 1 + carN D r (D 1 0 0) + 1)) μ μ5 := (g.mono (fun κ i z => z.w (Nat.le_refl _) (by omega))).trans (f5.mono (fun κ i z => by unfold OwH Dy; omega))
            refine ⟨S5, hQ μ5 (c + 1 + carN D r (D 1 0 0) + 1) (by omega) g5 S5 ?_ ?_⟩
            · refine R.ext (D' := sendD D r) f5 (by omega) (fun κ i z => by unfold Dy; omega) e0R ⟨?_, ?_, ?_, ?_, ?_, ?_, ?_⟩ (fun f hf i j => sf f (by omega) i j) (fun p hp => ⟨?_, fun k hk => ?_⟩) (fun p hp => ⟨?_, fun k hk => ?_⟩) (fun p hp => ⟨?_, fun k hk => ?_⟩)
              · rw [← hμ5]; exact o4
              · rw [e0I, o2, sf 0 (by decide)]
              · rw [e0I, o3, sf 2 (by decide)]
              · rw [e0I, o4', merged_congr (D' := sendD D r) (sf 1 (by decide) 0 0) (fun s => sf 4 (by decide) s 5)]
              · rw [e0I, o5, sf 3 (by decide)]
              · rw [e0I, o6]
              · rw [e0I, o7]
              · exact (f5.S (by decide) (by omega)).trans (R.2.2.2.2.2.1.2.2 p hp).2.1
              · rw [f5.gi (by decide) (by omega), (R.2.2.2.2.2.1.2.2 p hp).2.2 k hk]
                unfold pWt; rw [sf 8 (by decide)]
              · rw [← hμ5]; exact (f4.S (by decide) (by omega)).trans (y11.2.2 p hp).2.1
              · have ek : gI μ5 (hd 115 p) k = if p = r ∧ k = 3 then nI (D 9 r 1 + 1) else gI μ' (hd 115 p) k := by
                  rw [← hμ5, gI_h (by decide) (by decide)]
                  by_cases z : p = r
                  · rw [z]
                    by_cases z2 : k = 3
                    · rw [z2, rd_eq, if_pos ⟨rfl, rfl⟩]
                    · rw [rd_k z2, I_R, ← gI_h (by decide) (by decide), if_neg (fun w => z2 w.2)]
                      exact f4.gi (by decide) (by omega)
                  · rw [rd_i z, I_R, ← gI_h (by decide) (by decide), if_neg (fun w => z w.1)]
                    exact f4.gi (by decide) (by omega)
                rw [ek]
                unfold rdX
                by_cases z : p = r ∧ k = 3
                · rw [if_pos z, if_neg (by omega), z.1, z.2, sd, ud_self]
                · rw [if_neg z, (y11.2.2 p hp).2.2 k hk]
                  unfold rdX
                  by_cases z2 : k < 2
                  · rw [if_pos z2, if_pos z2, sf 12 (by decide)]
                  · rw [if_neg z2, if_neg z2, sd, ud_ne (fun w => z ⟨w.2.1, by have := w.2.2; omega⟩)]
              · exact (f5.S (by decide) (by omega)).trans (R.2.2.2.2.2.2.2.1.2.2 p hp).2.1
              · rw [f5.gi (by decide) (by omega), (R.2.2.2.2.2.2.2.1.2.2 p hp).2.2 k hk]
                unfold pGo; rw [sf 10 (by decide)]
            · unfold sndL
              rw [if_pos e0]
              refine ⟨c + 1 + carN D r (D 1 0 0), ?_, by omega, ?_, fun k e he => ?_⟩
              · rw [← hμ5, gR_h (by decide) (by decide), mR_setI, R_eq]
              · rw [← hμ5, List.length_append]; exact s4
              · have e131 : ∀ j, gR μ5 (hd 131 (c + 1 + carN D r (D 1 0 0))) j = gR μ4 (hd 131 (c + 1 + carN D r (D 1 0 0))) j := fun j => by
                  rw [← hμ5]; exact rgg (by decide) (Or.inl (by decide))
                rw [e131]
                rcases Nat.lt_or_ge k Λ.length with y | y
                · rw [List.getElem?_append_left y] at he
                  obtain ⟨a1, a2⟩ := q4 k e he
                  exact ⟨(v4 k y).trans a1, a2.fr f5 (by omega) (fun i hi z => by omega)⟩
                · rw [List.getElem?_append_right y] at he
                  have hk0 : k - Λ.length = 0 := by
                    rcases Nat.eq_zero_or_pos (k - Λ.length) with z | z
                    · exact z
                    · rw [List.getElem?_eq_none z] at he; cases he
                  rw [hk0] at he
                  obtain rfl : sndE D c r = e := Option.some.inj he
                  have hk1 : k = Λ.length := by omega
                  have lw : LdR μ' (c + 1 + carN D r (D 1 0 0)) (c + carN D r (D 1 0 0), r, D 0 0 0 + D 9 r 0, carL D r (D 1 0 0)) := ⟨w1, w2, w3, w4, w5⟩
                  refine ⟨by rw [hk1]; exact v4', lw.fr f5 (by omega) (fun i hi z => by omega)⟩
    · -- a sheet
      have R6 := R.2.1
      rw [carF_k (by decide)] at R6
      have y8 := R.2.2.2.1
      have y11 := R.2.2.2.2.2.2.1
      have y12 := R.2.2.2.2.2.2.2.1
      have ck : (nI k).toNatClampNeg = k := nI_clamp (by omega)
      have ck60 := hcn k (by omega)
      obtain ⟨w1, w2, w3, w4, w5⟩ := w
      have w2' : mS μ' (hd 130 (c + carN D r k)) = (2, carN D r k + 2) := w2.trans (by show (2, (carL D r k).length + 2) = _; rw [carL_len])
      have e12 : gI μ' (hd 115 r) (0 : Int32).toNatClampNeg = nI (D 12 r 0) := by
        have := (y11.2.2 r hr).2.2 0 (by decide)
        unfold rdX at this
        rw [if_pos (by decide), carF_k (by decide)] at this
        exact this
      have skip : ¬ crC D r k → Wx K_SI_send d rc' rs' (fun r μ' => St μ' ∧ Q r μ') 26 [(0, .ref (hd 100 0)), (1, .int (nI r)), (2, .ref (hd 130 (c + carN D r k))), (3, .int (nI k + 1))] [] μ' := fun hn => by
        have z := ih μ' rc' rs'
        rw [carN_s, bN_f hn, Nat.add_zero, carF, if_neg hn, carL, if_neg hn, ← nI_s] at z
        exact z h1 h2 g l13 R ⟨w1, w2, w3, w4, w5⟩
      refine r_SI_send_26 (by omega) ⟨R.1.1, _, R6.1, _, R6.2.1, fun h => absurd ((nI_leI (by omega) (by omega)).mp h) (by omega), fun _ => ⟨R.1.1, _, y8.1, R.1.1, _, y11.1, _, ⟨y11.2.1, vI hr (by omega)⟩, hd 115 r, by rw [cr]; exact (y11.2.2 r hr).1, 4, ⟨(y11.2.2 r hr).2.1, vI (k := 0) (by decide) (by decide)⟩, T 0 0, ⟨y8.2.1, by rw [e12]; exact vI r1 (by omega)⟩, hd 110 (D 12 r 0), by rw [e12, nI_clamp (by omega)]; exact (y8.2.2 _ r1).1, 60, ⟨(y8.2.2 _ r1).2.1, vI (by omega) (by decide)⟩, ?_⟩⟩
      rw [ck, (y8.2.2 _ r1).2.2 k (by omega)]
      refine bIs (fun hk' => skip (fun z => hk' ⟨by rw [carF_k (by decide)]; exact hk, car_kn.mpr z.2⟩)) (fun hk' => ⟨R.1.1, _, y12.1, _, ⟨y12.2.1, vI hr (by omega)⟩, hd 113 r, by rw [cr]; exact (y12.2.2 r hr).1, 60, ⟨(y12.2.2 r hr).2.1, vI (by omega) (by decide)⟩, ?_⟩)
      rw [(y12.2.2 r hr).2.2 k (by omega)]
      have eg : pGo (carF D r k) r k ↔ D 10 r k ≠ 0 := by unfold pGo; rw [carF_f k (by omega)]
      refine bIs (fun hg => ?_) (fun hg => skip (fun z => (eg.mp hg) z.1))
      have hcr : crC D r k := ⟨Classical.not_not.mp (fun z => hg (eg.mpr z)), car_kn.mp hk'.2⟩
      have hcS : carN D r k + 1 ≤ carN D r (D 1 0 0) := by
        have := carN_le (D := D) (r := r) (show k + 1 ≤ D 1 0 0 by omega)
        rw [carN_s, bN_t hcr] at this
        exact this
      have fN : FreN μ' (hd 130 (c + 1 + carN D r k)) := ⟨R.2.2.2.2.2.2.2.2.2.1 130 _ (by decide) (by decide) (Nat.le_refl _), hi_hd (by decide) (by decide)⟩
      have neA : hd 130 (c + carN D r k) ≠ hd 130 (c + 1 + carN D r k) := fun z => by have := ((hd_inj (by decide) (by decide)).mp z).2; omega
      refine ⟨R.1.1, _, y12.1, _, ⟨y12.2.1, vI hr (by omega)⟩, hd 113 r, by rw [cr]; exact (y12.2.2 r hr).1, 60, ⟨(y12.2.2 r hr).2.1, vI (by omega) (by decide), hi_hd (by decide) (by decide)⟩, carN D r k + 2, w2', ?_⟩
      rw [nI_s, nI_clamp (show carN D r k + 2 + 1 < 2 ^ 31 by omega)]
      refine ⟨⟨ip0 (by omega), by omega, by omega, by omega⟩, hd 130 (c + 1 + carN D r k), fN, carN D r k + 2, (if_neg neA).trans w2', carN D r k + 2, carN D r k + 2 + 1, ⟨(if_neg neA).trans w2', if_pos rfl, fN.2, by decide, by decide, ip0 (by omega), ?_, ?_⟩, hi_hd (by decide) (by decide), carN D r k + 2, (if_neg neA).trans w2', carN D r k + 2 + 1, ⟨if_pos rfl, vI (by omega) (by omega), fN.2⟩, ?_⟩
      · rw [nI_clamp (by omega), show ((0 : Int32).toNatClampNeg) = 0 from rfl]; omega
      · rw [nI_clamp (by omega), show ((0 : Int32).toNatClampNeg) = 0 from rfl]; omega
      · rw [nar1, nI_clamp (show carN D r k + 2 < 2 ^ 31 by omega), show ((0 : Int32).toNatClampNeg) = 0 from rfl, nI_s]
        have z := ih (setI (cpI (mkA (setI μ' (hd 113 r) k 1) (hd 130 (c + 1 + carN D r k)) (2, carN D r k + 2 + 1)) (hd 130 (c + carN D r k)) (hd 130 (c + 1 + carN D r k)) 0 0 (carN D r k + 2)) (hd 130 (c + 1 + carN D r k)) (carN D r k + 2) (nI k)) (rc' - 1) (rs' - (carN D r k + 2 + 1))
        rw [carN_s, bN_t hcr, carF, if_pos hcr, carL, if_pos hcr] at z
        rw [show c + 1 + carN D r k = c + (carN D r k + 1) by omega] at z ⊢
        generalize hμ5 : setI (cpI (mkA (setI μ' (hd 113 r) k 1) (hd 130 (c + (carN D r k + 1))) (2, carN D r k + 2 + 1)) (hd 130 (c + carN D r k)) (hd 130 (c + (carN D r k + 1))) 0 0 (carN D r k + 2)) (hd 130 (c + (carN D r k + 1))) (carN D r k + 2) (nI k) = μ5 at z ⊢
        have f5 : FrS (fun κ i => (κ = 113 ∧ i = r) ∨ (κ = 130 ∧ i = c + (carN D r k + 1))) μ' μ5 := by
          rw [← hμ5]
          exact (((FrS.rf.sI (by decide) (by omega)).mk (by decide) (by omega)).cp (by decide) (by omega)).sI (by decide) (by omega)
        have e0R : ∀ f, gR μ5 (hd 100 0) f = gR μ' (hd 100 0) f := fun f => f5.gr (by decide) (by omega)
        have e0I : ∀ f, gI μ5 (hd 100 0) f = gI μ' (hd 100 0) f := fun f => f5.gi (by decide) (by omega)
        obtain ⟨o1, o2, o3, o4', o5, o6, o7⟩ := R.1
        refine z (by omega) (by omega) ((g.mono (fun κ i z => z.w (Nat.le_refl _) (by omega))).trans (f5.mono (fun κ i z => by unfold OwH Dy; omega))) ((e0R 13).trans l13) ?_ ⟨by omega, ?_, ?_, ?_, fun j hj => ?_⟩
        · refine R.ext (c' := c + 1 + (carN D r k + 1)) f5 (by omega) (fun κ i z => by unfold Dy; omega) (fun f _ => e0R f) ⟨?_, ?_, ?_, ?_, ?_, ?_, ?_⟩ (fun f hf i j => ud_f (by omega)) (fun p hp => ⟨?_, fun k' hk' => ?_⟩) (fun p hp => ⟨?_, fun k' hk' => ?_⟩) (fun p hp => ⟨?_, fun k' hk' => ?_⟩)
          · exact (f5.S (by decide) (by omega)).trans o1
          · rw [e0I, o2, ud_f (by decide)]
          · rw [e0I, o3, ud_f (by decide)]
          · rw [e0I, o4', merged_congr (D := carF D r k) (D' := ud (carF D r k) 10 r k (D 0 0 0 + D 9 r 0 + 1)) (ud_f (by decide)) (fun s => ud_f (by decide))]
          · rw [e0I, o5, ud_f (by decide)]
          · rw [e0I, o6]
          · rw [e0I, o7]
          · exact (f5.S (by decide) (by omega)).trans (R.2.2.2.2.2.1.2.2 p hp).2.1
          · rw [f5.gi (by decide) (by omega), (R.2.2.2.2.2.1.2.2 p hp).2.2 k' hk']
            unfold pWt; rw [ud_f (by decide)]
          · exact (f5.S (by decide) (by omega)).trans (y11.2.2 p hp).2.1
          · rw [f5.gi (by decide) (by omega), (y11.2.2 p hp).2.2 k' hk']
            unfold rdX; rw [ud_f (by decide), ud_f (by decide)]
          · rw [← hμ5]; exact (if_neg (hd_ne (by decide) (by decide) (by decide))).trans (y12.2.2 p hp).2.1
          · have ek : gI μ5 (hd 113 p) k' = if p = r ∧ k' = k then 1 else gI μ' (hd 113 p) k' := by
              rw [← hμ5, gI_h (by decide) (by decide), rd_ne (by decide) (by decide) (by decide), mI_cp, if_neg (hd_ne (by decide) (by decide) (by decide)), I_mkn (by decide) (by decide) (by decide)]
              by_cases z : p = r
              · rw [z]
                by_cases z2 : k' = k
                · rw [z2, rd_eq, if_pos ⟨rfl, rfl⟩]
                · rw [rd_k z2, ← gI_h (by decide) (by decide), if_neg (fun w => z2 w.2)]
              · rw [rd_i z, ← gI_h (by decide) (by decide), if_neg (fun w => z w.1)]
            rw [ek]
            unfold pGo
            by_cases z : p = r ∧ k' = k
            · rw [if_pos z, z.1, z.2, ud_self, bI_t (by omega)]
            · rw [if_neg z, (y12.2.2 p hp).2.2 k' hk', ud_ne (fun w => z w.2)]; rfl
        · show mS μ5 (hd 130 (c + (carN D r k + 1))) = (2, (carL D r k ++ [k]).length + 2)
          rw [← hμ5, List.length_append, carL_len]
          exact if_pos rfl
        · show gI μ5 (hd 130 (c + (carN D r k + 1))) 0 = nI r
          rw [← hμ5, gI_h (by decide) (by decide), rd_k (by omega), mI_cp, if_pos rfl, if_pos (by omega)]
          rw [I_mki (by omega), rd_ne (by decide) (by decide) (by decide), ← gI_h (by decide) (by decide)]
          exact w3
        · show gI μ5 (hd 130 (c + (carN D r k + 1))) 1 = nI (D 0 0 0 + D 9 r 0)
          rw [← hμ5, gI_h (by decide) (by decide), rd_k (by omega), mI_cp, if_pos rfl, if_pos (by omega)]
          rw [I_mki (by omega), rd_ne (by decide) (by decide) (by decide), ← gI_h (by decide) (by decide)]
          exact w4
        · show gI μ5 (hd 130 (c + (carN D r k + 1))) (j + 2) = nI ((carL D r k ++ [k]).getD j 0)
          have hj' : j < (carL D r k ++ [k]).length := hj
          rw [getD_end hj', carL_len]
          rw [List.length_append, carL_len] at hj'
          simp only [List.length_cons, List.length_nil] at hj'
          rw [← hμ5, gI_h (by decide) (by decide)]
          by_cases y : j = carN D r k
          · rw [if_pos y, y, rd_eq]
          · rw [if_neg y, rd_k (by omega), mI_cp, if_pos rfl, if_pos (by omega), I_mki (by omega), rd_ne (by decide) (by decide) (by decide), ← gI_h (by decide) (by decide), show 0 + (j + 2 - 0) = j + 2 by omega]
            exact w5 j (by rw [carL_len]; omega)
  have z := loop 0 (Nat.zero_le _) (setI (setI (mkA μ (hd 130 c) (2, 2)) (hd 130 c) (0 : Int32).toNatClampNeg (nI r)) (hd 130 c) (1 : Int32).toNatClampNeg (nI (D 0 0 0 + D 9 r 0))) (rc - 1) (rs - 2)
  have g0 : FrS (Dy c (c + 1)) μ (setI (setI (mkA μ (hd 130 c) (2, 2)) (hd 130 c) (0 : Int32).toNatClampNeg (nI r)) (hd 130 c) (1 : Int32).toNatClampNeg (nI (D 0 0 0 + D 9 r 0))) := ((FrS.rf.mk (by decide) (by unfold Dy; omega)).sI (by decide) (by unfold Dy; omega)).sI (by decide) (by unfold Dy; omega)
  refine z (by omega) (by omega) (g0.mono (fun κ i z => z.h)) (g0.gr (by decide) (by unfold Dy; omega)) (hR.dy g0 (by omega)) ⟨by show c + 0 < c + 1 + 0; omega, if_pos rfl, ?_, ?_, fun j hj => absurd hj (Nat.not_lt_zero _)⟩
  · show gI _ (hd 130 (c + 0)) 0 = nI r
    rw [gI_h (by decide) (by decide)]
    exact (rd_k (by decide)).trans rd_eq
  · show gI _ (hd 130 (c + 0)) 1 = nI (D 0 0 0 + D 9 r 0)
    rw [gI_h (by decide) (by decide)]
    exact rd_eq
end SK
