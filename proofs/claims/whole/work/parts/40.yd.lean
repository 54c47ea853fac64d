/-! days, in the model -/
section MSD
variable {d rc rs w : Nat} {Q : Option Value → Mu → Prop} {μ : Mu} {T : PT} {C Ct : Nat → List Op} {D : DT} {Es : List Ent}
theorem MW.ud3 {μ : Mu} {v : Nat} {x : Int32} (hM : MW μ w T D Es) (hx : x = nI v) : MW (setI μ (hd 65 w) 4 x) w T (ud D 3 0 0 v) Es := by
  have g1 := hM.1.set (f := 3) (i := 0) (j := 0) (v := v) (by decide) ⟨rfl, rfl⟩ hM.1.2.1.ud3
  refine ⟨?_, hM.2.1.frM (FrM.rf.setI (by decide) (by decide)), ?_⟩
  · rw [merged_congr (ud_f (by decide)) (fun s => ud_f (by decide)), hx]; exact g1
  · rw [ud_f (by decide)]; exact hM.2.2.congr (fun _ _ => ud_f (by decide))
theorem hoF_skip {E : DT} {b k : Nat} : ∀ n, (∀ t, k ≤ t → t < k + n → ¬ hng (hoF T E b k) b t) → hoF T E b (k + n) = hoF T E b k
  | 0, _ => rfl
  | n + 1, h => by
    have ih := hoF_skip (E := E) (b := b) (k := k) n (fun t h1 h2 => h t h1 (by omega))
    rw [show k + (n + 1) = (k + n) + 1 by omega, hoF, ih, if_neg (show ¬ (hoF T E b k 8 b (k + n) ≠ 0 ∧ cH (hoF T E b k) b (k + n)) from fun z => h (k + n) (by omega) (by omega) z)]
theorem c_MS_pass {q : Nat} (hM : MW μ w T D Es) (hD : 7 ≤ d) (hS : St μ) (hI : Inv T D) (hpq : px μ (hd 40 0) 11 = q) (hO : XOM μ q T C Ct) (hW : OW T C Ct) (hT : OB T Ct) (hdy : D 0 0 0 + 1 < 2 ^ 20)
    (hQ : ∀ μ' Es', FrO w μ μ' → St μ' → MW μ' w T (dayD T C Ct D) Es' → Q none μ') : Cal K_MS_pass d rc rs [.ref (hd 65 w)] μ Q := by
  have hw := hM.1.w2; have hP := hM.1.P5; have hR := hM.1.R8; have h20 := hM.1.O20; have h60 := hM.1.S60
  refine e_MS_pass (g_MS_pass_0 (by omega) hw hS ?_)
  have pxq : ∀ {μ1}, FrO w μ μ1 → px μ1 (hd 40 0) 11 = q := fun f => f.px.trans hpq
  -- what is hung
  have hI2 : Inv T (brA (ordF T C Ct D (T 6 0)) (T 2 0)) := (hI.orA hW _ (Nat.le_refl _)).br2 _ (Nat.le_refl _)
  have e0 : brA (ordF T C Ct D (T 6 0)) (T 2 0) 0 0 0 = D 0 0 0 := by
    rw [brA_f (by decide) (by decide), ordF_f (by decide) (by decide) (by decide) (by decide) (by decide) (by decide) (by decide) (by decide)]
  have hQ' : ∀ μ' Es', FrO w μ μ' → St μ' → MW μ' w T (ud (hoA T (brA (ordF T C Ct D (T 6 0)) (T 2 0)) (T 0 0)) 0 0 0 (D 0 0 0 + 1)) Es' → Q none μ' := hQ
  have k54 : ∀ (E : DT), Inv T E → E 0 0 0 = D 0 0 0 → (∀ μ' Es', FrO w μ μ' → St μ' → MW μ' w T (ud (hoA T E (T 0 0)) 0 0 0 (D 0 0 0 + 1)) Es' → Q none μ') → ∀ b, b ≤ T 0 0 → ∀ μ' Es', FrO w μ μ' → St μ' → XN μ' w T (hoA T E b) (mergedN E) → YE μ' w Es' → EB T E (D 0 0 0 + 1) Es' → Wx K_MS_pass d rc rs (fun r μ' => St μ' ∧ Q r μ') 54 [(0, .ref (hd 65 w)), (1, .int (nI b))] [] μ' := by
    intro E hIE hE0 hQE
    refine up_loop _ (fun μ' Es' f1 f2 f3 f4 f5 => ?_) (fun b hb ih μ' Es' f1 f2 f3 f4 f5 => ?_)
    · refine g_MS_pass_54 (by omega) hw f2 ⟨fun _ => ?_, fun h => absurd ?_ h⟩
      · have e0' : hoA T E (T 0 0) 0 0 0 = D 0 0 0 := by rw [hoA_f (by decide) (by decide) (by decide) (by decide) (by decide), hE0]
        rw [f3.day, e0', I1, nI_add]
        have g1 := f3.set (f := 0) (i := 0) (j := 0) (v := D 0 0 0 + 1) (by decide) ⟨rfl, rfl⟩ (f3.2.1.ud0 (by omega))
        have hSt : St (setI μ' (hd 65 w) 0 (nI (D 0 0 0 + 1))) := f2
        have fM : FrM w μ' (setI μ' (hd 65 w) 0 (nI (D 0 0 0 + 1))) := FrM.rf.setI (by decide) (by decide)
        refine ⟨hSt, hQE _ Es' (f1.trans fM.o) hSt ⟨?_, f4.frM fM, ?_⟩⟩
        · have em : mergedN (ud (hoA T E (T 0 0)) 0 0 0 (D 0 0 0 + 1)) = mergedN E :=
            merged_congr (by rw [ud_f (by decide), hoA_f (by decide) (by decide) (by decide) (by decide) (by decide)]) (fun s => by rw [ud_f (by decide), hoA_f (by decide) (by decide) (by decide) (by decide) (by decide)])
          rw [em]; exact g1
        · rw [ud_self]
          exact f5.congr (fun r s => by rw [ud_f (by decide), hoA_f (by decide) (by decide) (by decide) (by decide) (by decide)])
      · rw [f3.pP]; exact Int32.le_refl _
    · have hIb : Inv T (hoA T E b) := hIE.ho2 b (by omega)
      have hstep : hoA T E (b + 1) = hoF T (hoA T E b) b (hoA T E b 1 0 0) := rfl
      rw [hstep] at ih
      have hmE : ∀ {G : DT}, True := trivial
      generalize hG : hoA T E b = G at hIb f3 ih
      have k74 : ∀ n j, G 1 0 0 - j ≤ n → j ≤ G 1 0 0 → ∀ μ', FrO w μ μ' → St μ' → XN μ' w T (hoF T G b j) (mergedN E) → YE μ' w Es' → (∀ t, t < j → ¬ hng (hoF T G b j) b t) → Cal K_MS_next (d - 1) 0 0 [.ref (hd 65 w), .int (nI b)] μ' (fun r μ2 => ∃ y3, r = some (.int y3) ∧ Wx K_MS_pass d rc rs (fun r μ' => St μ' ∧ Q r μ') 74 [(0, .ref (hd 65 w)), (1, .int (nI b)), (2, .int y3)] [] μ2) := by
        intro n
        induction n with
        | zero =>
          intro j hj hjS μ' f1 f2 f3 f4 f6
          have hIj : Inv T (hoF T G b j) := hIb.ho1 hb j hjS
          have e1 : hoF T G b j 1 0 0 = G 1 0 0 := hoF_f (by decide) (by decide) (by decide) (by decide) (by decide) j
          refine c_MS_next f3 (by omega) f2 hIj.2.2.1 hb (fun s hs h1 h2 => ⟨_, rfl, ?_⟩)
          rw [e1] at hs h2
          have hsS : s = G 1 0 0 := by
            rcases Nat.lt_or_ge s (G 1 0 0) with z | z
            · exact absurd (h2 z) (f6 s (by omega))
            · omega
          refine g_MS_pass_74 (by omega) hw f2 ⟨fun _ => ?_, fun h => absurd ?_ h⟩
          · rw [nI_1]
            rw [show j = G 1 0 0 by omega] at f3
            exact ih μ' Es' f1 f2 f3 f4 f5
          · rw [f3.cnt, e1, hsS]; exact Int32.le_refl _
        | succ n ihn =>
          intro j hj hjS μ' f1 f2 f3 f4 f6
          have hIj : Inv T (hoF T G b j) := hIb.ho1 hb j hjS
          have e1 : hoF T G b j 1 0 0 = G 1 0 0 := hoF_f (by decide) (by decide) (by decide) (by decide) (by decide) j
          refine c_MS_next f3 (by omega) f2 hIj.2.2.1 hb (fun s hs h1 h2 => ⟨_, rfl, ?_⟩)
          rw [e1] at hs h2
          have h60G : G 1 0 0 ≤ 60 := hIb.1.1.2.2.2.2.1
          rcases Nat.lt_or_ge s (G 1 0 0) with z | z
          · have hng_s := h2 z
            have hjs : j ≤ s := by
              rcases Nat.lt_or_ge s j with y | y
              · exact absurd hng_s (f6 s y)
              · exact y
            have hsk : hoF T G b s = hoF T G b j := by
              have := hoF_skip (T := T) (E := G) (b := b) (k := j) (s - j) (fun t h3 h4 => h1 t (by omega))
              rw [show j + (s - j) = s by omega] at this; exact this
            have hnx : hoF T G b (s + 1) = hangD T (hoF T G b j) b s := by
              rw [hoF, hsk, if_pos (show hoF T G b j 8 b s ≠ 0 ∧ cH (hoF T G b j) b s from hng_s)]
            refine g_MS_pass_74 (by omega) hw f2 ⟨fun h => absurd h ?_, fun _ => ?_⟩
            · rw [f3.cnt, e1]; exact nI_ge z (by omega)
            refine c_MS_hang f3 (by omega) f2 hb (by rw [e1]; exact z) hng_s (fun μ2 m1 m2 m3 => ⟨rfl, ?_⟩)
            refine ihn (s + 1) (by omega) z μ2 (f1.trans m1.o) m2 (by rw [hnx]; exact m3) (f4.frM m1) ?_
            rw [hnx]
            exact no_back hIj (by rw [e1]; exact z) hng_s h1
          · have hsS : s = G 1 0 0 := by omega
            have hsk : hoF T G b (G 1 0 0) = hoF T G b j := by
              have := hoF_skip (T := T) (E := G) (b := b) (k := j) (G 1 0 0 - j) (fun t h3 h4 => h1 t (by omega))
              rw [show j + (G 1 0 0 - j) = G 1 0 0 by omega] at this; exact this
            refine g_MS_pass_74 (by omega) hw f2 ⟨fun _ => ?_, fun h => absurd ?_ h⟩
            · rw [nI_1]
              exact ih μ' Es' f1 f2 (by rw [hsk]; exact f3) f4 f5
            · rw [f3.cnt, e1, hsS]; exact Int32.le_refl _
      refine g_MS_pass_54 (by omega) hw f2 ⟨fun h => absurd h ?_, fun _ => ?_⟩
      · rw [f3.pP]; exact nI_ge hb (by omega)
      exact k74 _ 0 (Nat.le_refl _) (Nat.zero_le _) μ' f1 f2 f3 f4 (fun t ht => absurd ht (Nat.not_lt_zero _))
  -- orders
  have key : ∀ k, k ≤ T 6 0 → ∀ μ' Es', FrO w μ μ' → St μ' → MW μ' w T (ordF T C Ct D k) Es' → Wx K_MS_pass d rc rs (fun r μ' => St μ' ∧ Q r μ') 2 [(0, .ref (hd 65 w)), (1, .int (nI k))] [] μ' := by
    refine up_loop _ (fun μ' Es' f1 f2 f3 => ?_) (fun k hk ih μ' Es' f1 f2 f3 => ?_)
    · have hIo : Inv T (ordF T C Ct D (T 6 0)) := hI.orA hW _ (Nat.le_refl _)
      have eo : ordF T C Ct D (T 6 0) 0 0 0 = D 0 0 0 := ordF_f (by decide) (by decide) (by decide) (by decide) (by decide) (by decide) (by decide) (by decide) _
      refine g_MS_pass_2 (by omega) hw f2 ⟨fun _ => ?_, fun h => absurd ?_ h⟩
      · refine c_MS_arrive f3.1 (by omega) f2 f3.2.1 f3.2.2 hIo (fun μ2 Es2 m1 m2 m3 m4 m5 m6 => ⟨rfl, ?_⟩)
        rw [eo] at m6
        have em : mergedN (brA (ordF T C Ct D (T 6 0)) (T 2 0)) = mergedN (ordF T C Ct D (T 6 0)) := merged_congr (brA_f (by decide) (by decide) _) (fun s => brA_f (by decide) (by decide) _)
        exact k54 _ hI2 e0 hQ' 0 (Nat.zero_le _) μ2 Es2 (f1.trans ⟨m1, m2⟩) m3 (by rw [em]; exact m4) m5 (m6.congr (fun r s => brA_f (by decide) (by decide) _))
      · rw [f3.1.pO]; exact Int32.le_refl _
    · have hIk : Inv T (ordF T C Ct D k) := hI.orA hW k (by omega)
      have hst : ordF T C Ct D (k + 1) = ud (ordD T C Ct (ordF T C Ct D k) k).1 3 0 0 (ordF T C Ct D k 3 0 0 + (ordD T C Ct (ordF T C Ct D k) k).2) := rfl
      rw [hst] at ih
      generalize ordF T C Ct D k = E at f3 ih hIk
      refine g_MS_pass_2 (by omega) hw f2 ⟨fun h => absurd h ?_, fun _ => ?_⟩
      · rw [f3.1.pO]; exact nI_ge hk (by omega)
      refine c_MS_holds f3 (by omega) f2 hIk (pxq f1) (hO.frO f1) hW hT hk (fun μ2 m1 m2 => ⟨_, rfl, fun e => ?_, fun e => ?_⟩)
      · rw [bI_z, Classical.not_not] at e
        rw [nI_1]
        refine ih μ2 Es' (f1.trans m1.m.o) m2 ?_
        rw [ordD_o e]
        have : ud E 3 0 0 (E 3 0 0 + 0) = E := ud_same rfl
        rw [show ((E, 0) : DT × Nat).1 = E from rfl, show ((E, 0) : DT × Nat).2 = 0 from rfl, this]
        exact ⟨f3.1.frK m1, f3.2.1.frM m1.m, f3.2.2⟩
      · rw [bI_z, Classical.not_not] at e
        have hM2 : MW μ2 w T E Es' := ⟨f3.1.frK m1, f3.2.1.frM m1.m, f3.2.2⟩
        have f12 := f1.trans m1.m.o
        rw [ordD_x e] at ih
        refine c_MS_order hM2 (by omega) m2 hIk (pxq f12) (hO.frO f12) hW hk (fun μ3 Es3 l1 l2 l3 => ⟨_, rfl, ?_⟩)
        have hle := ordD_le (T := T) (C := C) (Ct := fun _ => []) (D := E) (k := k)
        have e3 : (ordD T C (fun _ => []) E k).1 3 0 0 = E 3 0 0 := ordD_f (by decide) (by decide) (by decide) (by decide) (by decide) (by decide) (by decide)
        rw [nI_1]
        refine ⟨fun y => ?_, fun y => ?_⟩
        · rw [I0, nI_eq (by omega) (by decide)] at y
          refine ih μ3 Es3 (f12.trans l1) l2 ?_
          rw [y, ud_same (by rw [e3]; rfl)]
          exact l3
        · rw [I0, nI_eq (by omega) (by decide)] at y
          have hSt : St (setI μ3 (hd 65 w) 4 (mI μ3 (hd 65 w) 4 + 1)) := l2
          refine ih _ Es3 ((f12.trans l1).trans (FrM.rf.setI (by decide) (by decide)).o) hSt (l3.ud3 ?_)
          rw [l3.1.car, e3, I1, nI_add, show (ordD T C (fun _ => []) E k).2 = 1 by omega]
  exact key 0 (Nat.zero_le _) μ Es FrO.rf hS hM
theorem c_MS_passN {q n : Nat} (hM : MW μ w T D Es) (hD : 8 ≤ d) (hS : St μ) (hI : Inv T D) (hpq : px μ (hd 40 0) 11 = q) (hO : XOM μ q T C Ct) (hW : OW T C Ct) (hT : OB T Ct) (hn : D 0 0 0 + n < 2 ^ 20)
    (hQ : ∀ μ' Es', FrO w μ μ' → St μ' → MW μ' w T (daysD T C Ct D n) Es' → Q (some (.ref (hd 65 w))) μ') : Cal K_MS_pass_ d rc rs [.ref (hd 65 w), .int (nI n)] μ Q := by
  have hw := hM.1.w2
  refine e_MS_pass_ (g_MS_pass__0 (by omega) hw hS ?_)
  have key : ∀ j, j ≤ n → ∀ μ' Es', FrO w μ μ' → St μ' → MW μ' w T (daysD T C Ct D j) Es' → Wx K_MS_pass_ d rc rs (fun r μ' => St μ' ∧ Q r μ') 2 [(0, .ref (hd 65 w)), (1, .int (nI n)), (2, .int (nI j))] [] μ' := by
    refine up_loop _ (fun μ' Es' f1 f2 f3 => ?_) (fun j hj ih μ' Es' f1 f2 f3 => ?_)
    · exact g_MS_pass__2 (by omega) hw f2 ⟨fun _ => ⟨f2, hQ μ' Es' f1 f2 f3⟩, fun h => absurd (Int32.le_refl _) h⟩
    · refine g_MS_pass__2 (by omega) hw f2 ⟨fun h => absurd h (nI_ge hj (by omega)), fun _ => ?_⟩
      refine c_MS_pass f3 (by omega) f2 (hI.days hW j (by omega)) (f1.px.trans hpq) (hO.frO f1) hW hT (by rw [daysD_0]; omega) (fun μ2 Es2 m1 m2 m3 => ⟨rfl, ?_⟩)
      rw [nI_1]
      exact ih μ2 Es2 (f1.trans m1) m2 m3
  exact key 0 (Nat.zero_le _) μ Es FrO.rf hS hM
end MSD
