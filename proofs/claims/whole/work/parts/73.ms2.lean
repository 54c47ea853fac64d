/-! the model's code: names become numbers, all -/
section MSC2
variable {d rc rs : Nat} {Q : Option Value → Mu → Prop} {t : Nat → Nat} {L q : Nat}
theorem FrW.mono {a b : Nat} {μ μ' : Mu} (h : FrW q b μ μ') (hab : a ≤ b) : FrW q a μ μ' := ⟨h.1, h.2.1, fun j hj => h.2.2 j (by omega)⟩
theorem FrW.trans {a : Nat} {μ1 μ2 μ3 : Mu} (h : FrW q a μ1 μ2) (h' : FrW q a μ2 μ3) : FrW q a μ1 μ3 := ⟨h.1.trans h'.1, h'.2.1.trans h.2.1, fun j hj => (h'.2.2 j hj).trans (h.2.2 j hj)⟩
theorem FrW.set {a b : Nat} {v : Int32} {μ : Mu} (h : a ≤ b) : FrW q a μ (setI μ (hd 61 q) b v) := ⟨Fr.rf.setI (by decide) ⟨rfl, rfl⟩, rfl, fun j hj => rd_k (by omega)⟩
/-- one open word -/
theorem it111 {k b y : Nat} {μ : Mu} (hD : 1 ≤ d) (hS : St μ) (hq : px μ (hd 40 0) 12 = q) {m : Nat} (hm : mI μ (hd 50 q) 18 = nI m) (hk : k < m) (hm4 : m ≤ 400) (ho : mI μ (hd 62 q) k = nI b) (hb : b < 800) (hc : mI μ (hd 61 q) b = nI y) (hy : y < 401) (hgo : St (setI μ (hd 61 q) b (mI μ (hd 46 0) y)) → Wx K_MM_read d rc rs (fun r μ' => St μ' ∧ Q r μ') 111 [(0, .ref (hd 40 0)), (2, .int (nI (k + 1)))] [] (setI μ (hd 61 q) b (mI μ (hd 46 0) y))) : Wx K_MM_read d rc rs (fun r μ' => St μ' ∧ Q r μ') 111 [(0, .ref (hd 40 0)), (2, .int (nI k))] [] μ := by
  refine g_MM_read_111 hD hS ?_
  rw [hq, hm, nI_leI (by omega) (by omega), nI_clamp (by omega), ho, nI_clamp (by omega), hc, nI_clamp (by omega)]
  have v4 : vp_in (nI k) 400 := vp_in_nI (by omega) (by decide)
  have v8 : vp_in (nI b) 800 := vp_in_nI hb (by decide)
  refine ⟨fun h => absurd h (by omega), fun _ => ⟨v4, v4, v8, vp_in_nI hy (by decide), v8, fun μ11 e => ?_⟩⟩
  rw [e, nI_1]
  have hS1 : St (setI μ (hd 61 q) b (mI μ (hd 46 0) y)) := hS
  exact hgo hS1
theorem c_MM_read111 (hD : 1 ≤ d) (hn46 : tK t L (nT t L) = 46) : ∀ (l : RO) (a k : Nat) (μ : Mu) (Q : Option Value → Mu → Prop), St μ → px μ (hd 40 0) 12 = q → (∀ i, i < nT t L → lr (rl (tK t L) i) ≠ 0 → mI μ (hd 46 0) i = nI (plc t L (lr (rl (tK t L) i)) i i - 1)) → cdR μ t L q a l → opAt μ q k (opO a l) → mI μ (hd 50 q) 18 = nI (k + (opO a l).length) → a + wdL l ≤ 800 → k + (opO a l).length ≤ 400 → (∀ o ∈ l, refF (tK t L) (nT t L) o) → (∀ μ', FrW q a μ μ' → St μ' → cdM μ' q a (l.map (stO t L)) → Q (some (.int 0)) μ') → Wx K_MM_read d rc rs (fun r μ' => St μ' ∧ Q r μ') 111 [(0, .ref (hd 40 0)), (2, .int (nI k))] [] μ
  | [], a, k, μ, Q, hS, hq, hm, hc, ho, h18, hw, h4, hr, hQ => by
    have h18' : mI μ (hd 50 q) 18 = nI k := h18
    refine g_MM_read_111 hD hS ⟨fun _ => ⟨hS, hQ μ ⟨Fr.rf, rfl, fun _ _ => rfl⟩ hS trivial⟩, fun h => absurd ?_ h⟩
    rw [hq, h18']; exact Int32.le_refl _
  | o :: l, a, k, μ, Q, hS, hq, hm, hc, ho, h18, hw, h4, hr, hQ => by
    have hn4 := nT_le (t := t) (L := L)
    have href := hr o List.mem_cons_self
    have hrl : ∀ o ∈ l, refF (tK t L) (nT t L) o := fun o' h => hr o' (List.mem_cons_of_mem _ h)
    have hw' : a + (wdR o + wdL l) ≤ 800 := hw
    have eo : opO a (o :: l) = opR a o ++ opO (a + wdR o) l := rfl
    obtain ⟨hc1, hc2⟩ := hc
    obtain ⟨en1, en2⟩ := encO_len (t := t) (L := L) (o := o) (href.elim Or.inl (fun h => Or.inr h.2.1))
    rw [eo] at ho h18 h4
    obtain ⟨ho1, ho2⟩ := (opAt_app _ _ _).mp ho
    rw [List.length_append, opR_len] at h18 h4
    rw [opR_len] at ho2
    -- behind this operation
    have nxt : ∀ μ1, FrW q a μ μ1 → St μ1 → (∀ j, a + wdR o ≤ j → mI μ1 (hd 61 q) j = mI μ (hd 61 q) j) → wdsAt μ1 q a (encO (stO t L o)) → Wx K_MM_read d rc rs (fun r μ' => St μ' ∧ Q r μ') 111 [(0, .ref (hd 40 0)), (2, .int (nI (k + opN o)))] [] μ1 := by
      intro μ1 f1 f2 f3 f4
      refine c_MM_read111 hD hn46 l (a + wdR o) (k + opN o) μ1 Q f2 (by unfold px; rw [f1.2.1]; exact hq) (fun i hi h => (f1.1.I (by decide) (by omega)).trans (hm i hi h)) (hc2.ge f3 _ _ (Nat.le_refl _)) (ho2.fr (fun j => f1.1.I (by decide) (by omega)) _ _) ?_ (by omega) (by omega) hrl (fun μ' g1 g2 g3 => hQ μ' (f1.trans (g1.mono (by omega))) g2 ⟨?_, ?_⟩)
      · rw [f1.1.I (by decide) (by omega), h18, Nat.add_assoc]
      · exact f4.le g1.2.2 _ _ (by rw [en1]; omega)
      · rw [en1]; exact g3
    by_cases h0 : opN o = 0
    · rw [show k = k + opN o by omega]
      exact nxt μ ⟨Fr.rf, rfl, fun _ _ => rfl⟩ hS (fun _ _ => rfl) (by rw [en2 h0]; exact hc1)
    · have hb : 18 ≤ o.1 ∧ o.1 ≤ 23 := by
        unfold opN at h0
        by_cases h21 : o.1 = 21
        · omega
        · rw [if_neg h21] at h0
          by_cases h : 18 ≤ o.1 ∧ o.1 ≤ 23
          · exact h
          · rw [if_neg h] at h0; exact absurd rfl h0
      rcases href with ⟨-, z⟩ | ⟨p0, -, kk, pn, -, pr⟩
      · exfalso
        rcases z with z | z | z
        · omega
        · omega
        · exact (isBin_ne z).2.2.1 hb
      obtain ⟨k44, k44'⟩ := pr hb.1 hb.2
      have p1 : o.2 < nT t L := in_n pn (by omega)
      have l1 : rl (tK t L) o.2 = 12 := by
        rw [rl_44 k44 kk rfl, if_neg (by omega), if_neg (by omega), if_neg (by omega), if_neg (by omega), if_neg (by omega), if_neg (by omega), if_neg (by omega), if_pos hb]
      have m1 : mI μ (hd 46 0) o.2 = nI (plc t L 1 o.2 o.2 - 1) := by
        have := hm o.2 p1 (by rw [l1]; decide)
        rw [l1] at this; exact this
      have est : stO t L o = (o.1, plc t L 1 o.2 o.2 - 1, plc t L 2 (o.2 + 1) (o.2 + 1) - 1) := by unfold stO; rw [if_neg (by omega), if_pos hb]
      by_cases h21 : o.1 = 21
      · have eN : opN o = 1 := by unfold opN; rw [if_pos h21]
        have eW : wdR o = 2 := by unfold wdR; rw [if_neg (by omega), if_pos h21]
        have eR : wdsR t L o = [nI 21, nI o.2] := by unfold wdsR; rw [if_neg (by omega), if_pos h21]
        have eP : opR a o = [a + 1] := by unfold opR; rw [if_pos h21]
        rw [eR] at hc1
        rw [eP] at ho1
        have nx := nxt (setI μ (hd 61 q) (a + 1) (mI μ (hd 46 0) o.2)) (FrW.set (by omega)) hS (fun j hj => rd_k (by omega)) (by
          have ee : encO (stO t L o) = [nI 21, nI (plc t L 1 o.2 o.2 - 1)] := by
            rw [est]; unfold encO
            rw [if_neg (show ¬ o.1 = 45 by omega), if_neg (show ¬ o.1 = 17 by omega), if_pos (show o.1 = 21 from h21)]
          rw [ee]
          refine ⟨?_, ?_, trivial⟩
          · rw [rd_k (by omega)]; exact hc1.1
          · rw [rd_eq]; exact m1)
        rw [eN] at nx
        exact it111 hD hS hq h18 (by omega) (by omega) ho1.1 (by omega) hc1.2.1 (by omega) (fun _ => nx)
      · have k44' := k44' h21
        have p2 : o.2 + 1 < nT t L := in_n (by omega) (by omega)
        have l2 : rl (tK t L) (o.2 + 1) = 13 := by
          rw [rl_44 k44' (show tK t L (o.2 + 1 - 1) = 44 from k44) (show tK t L (o.2 + 1 - 2) = o.1 by rw [show o.2 + 1 - 2 = o.2 - 1 by omega]; exact kk), if_neg (by omega), if_neg (by omega), if_neg (by omega), if_neg (by omega), if_neg (by omega), if_neg (by omega), if_neg (by omega), if_neg (by omega), if_neg (by omega)]
        have m2 : mI μ (hd 46 0) (o.2 + 1) = nI (plc t L 2 (o.2 + 1) (o.2 + 1) - 1) := by
          have := hm (o.2 + 1) p2 (by rw [l2]; decide)
          rw [l2] at this; exact this
        have eN : opN o = 2 := by unfold opN; rw [if_neg h21, if_pos hb]
        have eW : wdR o = 3 := by unfold wdR; rw [if_neg (by omega), if_neg h21, if_pos hb]
        have eR : wdsR t L o = [nI o.1, nI o.2, nI (o.2 + 1)] := by unfold wdsR; rw [if_neg (by omega), if_neg h21, if_pos hb]
        have eP : opR a o = [a + 1, a + 2] := by unfold opR; rw [if_neg h21, if_pos hb]
        rw [eR] at hc1
        rw [eP] at ho1
        have nx := nxt (setI (setI μ (hd 61 q) (a + 1) (mI μ (hd 46 0) o.2)) (hd 61 q) (a + 2) (mI μ (hd 46 0) (o.2 + 1))) ((FrW.set (by omega)).trans (FrW.set (by omega))) hS (fun j hj => by rw [rd_k (by omega), rd_k (by omega)]) (by
          have ee : encO (stO t L o) = [nI o.1, nI (plc t L 1 o.2 o.2 - 1), nI (plc t L 2 (o.2 + 1) (o.2 + 1) - 1)] := by
            rw [est]; unfold encO
            rw [if_neg (show ¬ o.1 = 45 by omega), if_neg (show ¬ o.1 = 17 by omega), if_neg (show ¬ o.1 = 21 from h21), if_pos (show 18 ≤ o.1 ∧ o.1 ≤ 23 from hb)]
          rw [ee]
          refine ⟨?_, ?_, ?_, trivial⟩
          · rw [rd_k (by omega), rd_k (by omega)]; exact hc1.1
          · rw [rd_k (by omega), rd_eq]; exact m1
          · rw [rd_eq]; exact m2)
        rw [eN] at nx
        have c2 : mI μ (hd 61 q) (a + 2) = nI (o.2 + 1) := hc1.2.2.1
        refine it111 hD hS hq h18 (by omega) (by omega) ho1.1 (by omega) hc1.2.1 (by omega) (fun hS1 => ?_)
        refine it111 (m := k + (opN o + (opO (a + wdR o) l).length)) (b := a + 2) (y := o.2 + 1) hD hS1 hq ?_ (by omega) (by omega) ?_ (by omega) ?_ (by omega) (fun hS2 => ?_)
        · rw [rd_ne (by decide) (by decide) (by decide)]; exact h18
        · rw [rd_ne (by decide) (by decide) (by decide)]; exact ho1.2.1
        · rw [rd_k (by omega)]; exact c2
        · rw [rd_ne (by decide) (by decide) (by decide)]; exact nx
end MSC2
