/-! the model's face: days, the tape, all at once -/
theorem m30 : ∀ k, k < 150 → nI k - nI k / (30 : Int32) * (30 : Int32) = nI (k % 30) := by decide +kernel
theorem d4 : ∀ k, k < 20 → nI k / (4 : Int32) = nI (k / 4) ∧ (24 : Int32) - ((8 : Int32) * (nI k - nI k / (4 : Int32) * (4 : Int32))) = nI (24 - 8 * (k % 4)) := by decide +kernel
section MGA
variable {d rc rs n : Nat} {Q : Option Value → Mu → Prop} {μ μ1 μ' : Mu} {T : PT} {C Ct : Nat → List Op} {D D' E : DT} {t t' : Nat → Nat} {L L' : Nat} {x x1 x2 x3 x4 x5 : Int32}
/-- the world of then, in the model -/
theorem c_MM_then (b : MB μ μ1 T C Ct D t L x) (hD : 2 ≤ d) (hQ : ∀ μ' Es, MB μ μ' T C Ct D t L x → MW μ' 1 T D Es → Q (some (.ref (hd 65 1))) μ') : Cal K_MS_become d rc rs [.ref (hd 65 1), .ref (hd 65 0)] μ1 Q := by
  obtain ⟨⟨Es, g⟩, -⟩ := id b.2.2.1
  exact c_MS_become g hD b.2.1 (fun μ' f s W => hQ μ' Es (b.w1 f s) W)
theorem c_MM_thenDays {k : Nat} {Es : List Ent} (b : MB μ μ1 T C Ct D t L x) (hW : MW μ1 1 T E Es) (hN : NI T C Ct D n) (hI : Inv T E) (hdy : E 0 0 0 + k < 2 ^ 20) (hD : 8 ≤ d) (hQ : ∀ μ' Es', MB μ μ' T C Ct D t L x → MW μ' 1 T (daysD T C Ct E k) Es' → Q (some (.ref (hd 65 1))) μ') : Cal K_MS_pass_ d rc rs [.ref (hd 65 1), .int (nI k)] μ1 Q :=
  c_MS_passN hW hD b.2.1 hI rfl b.2.2.1.2.1 hN.2.1 hN.2.2.1 hdy (fun μ' Es' f s W => hQ μ' Es' (b.w1 f s) W)
theorem c_MM_pass (hM : MI μ T C Ct D t L x) (hN : NI T C Ct D n) (hD : 9 ≤ d) (hS : St μ) (hQ : MAns μ (dvPass T C Ct D x1).1 T C Ct (dvPass T C Ct D x1).2 t L x Q) : Cal K_MM_pass d rc rs [.ref (hd 40 0), .int x1] μ Q := by
  have b := MB.start hS hM
  have hdy := hN.2.2.2
  unfold dvPass at hQ
  refine e_MM_pass (g_MM_pass_0 (by omega) hS (c_MM_inN1 (n := 60) rfl (by decide) (by omega) b.2.1 ⟨_, rfl, bIs (fun h => ?_) (fun h => ?_)⟩))
  · rw [ifP_f h] at hQ; exact b.no hQ (by omega) rfl
  · rw [ifP_t h] at hQ
    obtain ⟨k, hk2, rfl, hk3⟩ := nat_of (x := x1) (by have := h.1; omega)
    have hk9 : k ≤ 60 := by have := h.2; rw [← hk3] at this; omega
    rw [nI_clamp hk2] at hQ
    obtain ⟨⟨Es, g⟩, -⟩ := id b.2.2.1
    refine c_MS_passN g (by omega) b.2.1 hN.1 rfl b.2.2.1.2.1 hN.2.1 hN.2.2.1 (by omega) (fun μ' Es' f s W => ⟨0, rfl, by decide, ?_⟩)
    rw [W.1.hung, b.2.2.1.xn.hung]
    exact (b.w0 f s W).ok hQ
theorem c_MM_foresee (hM : MI μ T C Ct D t L x) (hN : NI T C Ct D n) (hD : 9 ≤ d) (hS : St μ) (hQ : MAns μ (rvForesee T C Ct D x1 x2) T C Ct D t L x Q) : Cal K_MM_foresee d rc rs [.ref (hd 40 0), .int x1, .int x2] μ Q := by
  have b := MB.start hS hM
  have hdy := hN.2.2.2
  have e5 : ((5 : Int32).toInt) = 5 := by decide
  have e11 : ((11 : Int32).toInt) = 11 := by decide
  unfold rvForesee at hQ
  refine e_MM_foresee (g_MM_foresee_0 (by omega) hS (c_MM_inN1 (n := 60) rfl (by decide) (by omega) b.2.1 ⟨_, rfl, bIs (fun h => ?_) (fun h => c_MM_isIn (by omega) b.2.1 ⟨_, rfl, bIs (fun h2 => ?_) (fun h2 => ?_)⟩)⟩))
  · rw [ifP_f h] at hQ; exact b.no hQ (by omega) rfl
  · rw [e5, e11] at h2
    rw [ifP_t h, ifP_f h2] at hQ; exact b.no hQ (by omega) rfl
  · rw [e5, e11] at h2
    rw [ifP_t h, ifP_t h2] at hQ
    obtain ⟨k, hk2, rfl, hk3⟩ := nat_of (x := x1) (by have := h.1; omega)
    obtain ⟨j, hj2, rfl, hj3⟩ := nat_of (x := x2) (by omega)
    have hk9 : k ≤ 60 := by have := h.2; rw [← hk3] at this; omega
    have hj9 : 5 ≤ j ∧ j ≤ 11 := by rw [← hj3] at h2; omega
    rw [nI_clamp hk2, nI_clamp hj2] at hQ
    refine c_MM_then b (by omega) (fun μ2 Es b2 W2 => ⟨1, rfl, by decide, c_MM_thenDays b2 W2 hN hN.1 (by omega) (by omega) (fun μ3 Es3 b3 W3 => ⟨1, rfl, by decide, ?_⟩)⟩)
    exact c_MS_counted W3.1 (by omega) b3.2.1 W3.2.1 W3.2.2 (hN.1.days hN.2.1 k (by omega)) hj9 ⟨_, rfl, b3.ok hQ⟩
theorem c_MM_until (hM : MI μ T C Ct D t L x) (hN : NI T C Ct D n) (hD : 9 ≤ d) (hS : St μ) (hQ : MAns μ (rvUntil T C Ct D x1 x2) T C Ct D t L x Q) : Cal K_MM_until d rc rs [.ref (hd 40 0), .int x1, .int x2] μ Q := by
  have b := MB.start hS hM
  have hdy := hN.2.2.2
  unfold rvUntil at hQ
  refine e_MM_until (g_MM_until_0 (by omega) hS (c_MM_isParish b.2.2.1 (by omega) b.2.1 ⟨_, rfl, bIs (fun h => ?_) (fun h => c_MM_isSheet b.2.2.1 (by omega) b.2.1 ⟨_, rfl, bIs (fun h2 => ?_) (fun h2 => ?_)⟩)⟩))
  · rw [ifP_f h] at hQ; exact b.no hQ (by omega) rfl
  · rw [ifP_t h, ifP_f h2] at hQ; exact b.no hQ (by omega) rfl
  · rw [ifP_t h, ifP_t h2] at hQ
    obtain ⟨a, ha, ha2, rfl⟩ := h.ex
    obtain ⟨c, hc, hc2, rfl⟩ := h2.ex
    rw [nI_clamp ha2, nI_clamp hc2] at hQ
    have key : ∀ j k, k + j = 61 → unR T C Ct D a c j k = unR T C Ct D a c 61 0 → ∀ μ1 Es, MB μ μ1 T C Ct D t L x → MW μ1 1 T (daysD T C Ct D k) Es → Wx K_MM_until d rc rs (fun r μ' => St μ' ∧ Q r μ') 41 [(0, .ref (hd 40 0)), (1, .int (nI a)), (2, .int (nI c)), (3, .int (nI k))] [] μ1 := by
      intro j
      induction j with
      | zero =>
        intro k hk e μ1 Es b1 W1
        refine g_MM_until_41 (by omega) b1.2.1 ⟨fun _ => ?_, fun h => absurd ?_ h⟩
        · rw [← e] at hQ; exact b1.ok hQ
        · rw [show (60 : Int32) = nI 60 from rfl, nI_ltI (by decide) (by omega)]; omega
      | succ j ih =>
        intro k hk e μ1 Es b1 W1
        refine g_MM_until_41 (by omega) b1.2.1 ⟨fun h => absurd h ?_, fun _ => ?_⟩
        · rw [show (60 : Int32) = nI 60 from rfl, nI_ltI (by decide) (by omega)]; omega
        refine c_MS_knows W1.1 (by omega) b1.2.1 ha (Nat.lt_of_lt_of_le hc (days_1 k)) ⟨_, rfl, bIs (fun z => ?_) (fun z => ?_)⟩
        · rw [unR, ifP_f z] at e
          refine c_MS_pass W1 (by omega) b1.2.1 (hN.1.days hN.2.1 k (by omega)) rfl b1.2.2.1.2.1 hN.2.1 hN.2.2.1 (by rw [daysD_0]; omega) (fun μ2 Es2 f s W2 => ⟨rfl, ?_⟩)
          rw [nI_1]
          exact ih (k + 1) (by omega) e μ2 Es2 (b1.w1 f s) W2
        · rw [unR, ifP_t z] at e
          rw [← e] at hQ; exact b1.ok hQ
    exact c_MM_then b (by omega) (fun μ2 Es b2 W2 => ⟨1, rfl, by decide, key 61 0 rfl rfl μ2 Es b2 W2⟩)
theorem c_MM_advise (hM : MI μ T C Ct D t L x) (hN : NI T C Ct D n) (hD : 9 ≤ d) (hS : St μ) (hQ : MAns μ (rvAdvise T C Ct D x1) T C Ct D t L x Q) : Cal K_MM_advise d rc rs [.ref (hd 40 0), .int x1] μ Q := by
  have b := MB.start hS hM
  have hdy := hN.2.2.2
  have h8 := hM.xn.R8
  unfold rvAdvise at hQ
  refine e_MM_advise (g_MM_advise_0 (by omega) hS (c_MM_inN1 (n := 30) rfl (by decide) (by omega) b.2.1 ⟨_, rfl, bIs (fun h => ?_) (fun h => ?_)⟩))
  · rw [ifP_f h] at hQ; exact b.no hQ (by omega) rfl
  · rw [ifP_t h] at hQ
    obtain ⟨k, hk2, rfl, hk3⟩ := nat_of (x := x1) (by have := h.1; omega)
    have hk9 : k ≤ 30 := by have := h.2; rw [← hk3] at this; omega
    rw [nI_clamp hk2] at hQ
    have kl : ∀ E : DT, Inv T E → E 0 0 0 + k < 2 ^ 20 → knownAll T (daysD T C Ct E k) < 2 ^ 31 := fun E hE h0 => known_lt (hE.days hN.2.1 k h0).1
    have key : ∀ j r best most, r + j = T 2 0 → most < 2 ^ 31 → adR T C Ct D k j r best most = adR T C Ct D k (T 2 0) 0 (-1) (knownAll T (daysD T C Ct D k)) → ∀ μ1, MB μ μ1 T C Ct D t L x → Wx K_MM_advise d rc rs (fun r μ' => St μ' ∧ Q r μ') 45 [(0, .ref (hd 40 0)), (1, .int (nI k)), (2, .int best), (3, .int (nI most)), (4, .int (nI r))] [] μ1 := by
      intro j
      induction j with
      | zero =>
        intro r best most hr hm e μ1 b1
        refine g_MM_advise_45 (by omega) b1.2.1 ⟨fun _ => ?_, fun h => absurd ?_ h⟩
        · rw [← e] at hQ; exact b1.ok hQ
        · rw [b1.2.2.1.p2, show r = T 2 0 by omega]; exact Int32.le_refl _
      | succ j ih =>
        intro r best most hr hm e μ1 b1
        refine g_MM_advise_45 (by omega) b1.2.1 ⟨fun h => absurd h ?_, fun _ => ?_⟩
        · rw [b1.2.2.1.p2]; exact nI_ge (by omega) (by omega)
        refine c_MM_then b1 (by omega) (fun μ2 Es b2 W2 => ⟨1, rfl, by decide, ?_⟩)
        have hs0 : sendD D r 0 0 0 = D 0 0 0 := send_f (by decide) (by decide)
        have hIs := hN.1.send (r := r) (by omega)
        refine c_MS_send W2.1 (by omega) b2.2.1 (by omega) W2.2.1 W2.2.2 hN.1.2.2.2 (fun μ3 Es3 f r' s X Y E => ⟨_, rfl, ?_⟩)
        have b3 := b2.w1 ⟨f, r'⟩ s
        have W3 := send_MW X Y E
        refine c_MM_thenDays b3 W3 hN hIs (by omega) (by omega) (fun μ4 Es4 b4 W4 => ⟨1, rfl, by decide, ?_⟩)
        have hk := kl _ hIs (by omega)
        rw [adR] at e
        refine c_MS_allKnown W4.1 (by omega) b4.2.1 (hIs.days hN.2.1 k (by omega)).2.2.1 ⟨_, rfl, fun z => ?_, fun z => ?_⟩
        · rw [nI_ltI hm hk] at z
          rw [ifP_t z] at e
          rw [nI_1]
          exact ih (r + 1) (nI r) _ (by omega) hk e μ4 b4
        · rw [nI_ltI hm hk] at z
          rw [ifP_f z] at e
          rw [nI_1]
          exact ih (r + 1) best most (by omega) hm e μ4 b4
    have hk := kl _ hN.1 (by omega)
    refine c_MM_then b (by omega) (fun μ2 Es b2 W2 => ⟨1, rfl, by decide, c_MM_thenDays b2 W2 hN hN.1 (by omega) (by omega) (fun μ3 Es3 b3 W3 => ⟨1, rfl, by decide, ?_⟩)⟩)
    exact c_MS_allKnown W3.1 (by omega) b3.2.1 (hN.1.days hN.2.1 k (by omega)).2.2.1 ⟨_, rfl, key (T 2 0) 0 (-1) _ (by omega) hk rfl μ3 b3⟩
theorem c_MM_missed (hM : MI μ T C Ct D t L x) (hD : 4 ≤ d) (hS : St μ) (hQ : MAns μ (.ok (miR T D (D 1 0 0) 0)) T C Ct D t L x Q) : Cal K_MM_missed d rc rs [.ref (hd 40 0)] μ Q := by
  have b := MB.start hS hM
  have h5 := hM.xn.P5
  have h60 := hM.xn.S60
  refine e_MM_missed (g_MM_missed_0 (by omega) hS ?_)
  have key : ∀ j k, k + j = D 1 0 0 → miR T D j k = miR T D (D 1 0 0) 0 → Wx K_MM_missed d rc rs (fun r μ' => St μ' ∧ Q r μ') 7 [(0, .ref (hd 40 0)), (1, .int (nI k))] [] (setI μ (hd 40 0) 0 0) := by
    generalize setI μ (hd 40 0) 0 0 = μ2 at b
    intro j
    induction j with
    | zero =>
      intro k h e
      refine g_MM_missed_7 (by omega) b.2.1 ⟨fun _ => ?_, fun h => absurd ?_ h⟩
      · rw [← e] at hQ; exact b.ok hQ
      · rw [b.2.2.1.cnt, show k = D 1 0 0 by omega]; exact Int32.le_refl _
    | succ j ih =>
      intro k h e
      rw [miR] at e
      have hl := knowers_le (T := T) (D := D) (s := k)
      refine g_MM_missed_7 (by omega) b.2.1 ⟨fun h => absurd h ?_, fun _ => c_MM_boards0 b.2.2.1 (by omega) b.2.1 (by omega) ⟨_, rfl, fun z => ?_, fun z => ?_⟩⟩
      · rw [b.2.2.1.cnt]; exact nI_ge (by omega) (by omega)
      · rw [b.2.2.1.p0, nI_leI (by omega) (by omega)] at z
        rw [ifP_f (by omega)] at e
        rw [nI_1]; exact ih (k + 1) (by omega) e
      · rw [b.2.2.1.p0, nI_leI (by omega) (by omega)] at z
        rw [ifP_t (by omega)] at e
        rw [← e] at hQ; exact b.ok hQ
  exact key (D 1 0 0) 0 (by omega) rfl
theorem c_MM_alike (hM : MI μ T C Ct D t L x) (hD : 2 ≤ d) (hS : St μ) (hQ : MAns μ (.ok (bI (alikeP T D))) T C Ct D t L x Q) : Cal K_MM_alike d rc rs [.ref (hd 40 0)] μ Q := by
  have b := MB.start hS hM
  have h5 := hM.xn.P5
  have h60 := hM.xn.S60
  refine e_MM_alike (g_MM_alike_0 (by omega) hS ?_)
  have key : ∀ k, k ≤ 30 * T 0 0 → (∀ m, m < k → D 7 (m / 30) (m % 30) = D 7 0 (m % 30)) → Wx K_MM_alike d rc rs (fun r μ' => St μ' ∧ Q r μ') 10 [(0, .ref (hd 40 0)), (1, .int 30), (2, .int (nI k))] [] (setI μ (hd 40 0) 0 0) := by
    generalize setI μ (hd 40 0) 0 0 = μ2 at b
    refine up_loop _ (fun h => ?_) (fun k hk ih h => ?_)
    · refine g_MM_alike_10 (by omega) b.2.1 ⟨fun _ => ?_, fun z => absurd ?_ z⟩
      · rw [bI_t (show alikeP T D from fun p a c k hk => ?_)] at hQ
        · exact b.ok hQ
        · have := h (30 * p + k) (by omega)
          rw [show (30 * p + k) / 30 = p by omega, show (30 * p + k) % 30 = k by omega] at this
          exact this
      · rw [b.2.2.1.p0, show (30 : Int32) = nI 30 from rfl, nI_mul]; exact Int32.le_refl _
    · refine g_MM_alike_10 (by omega) b.2.1 ⟨fun z => absurd z ?_, fun _ => ?_⟩
      · rw [b.2.2.1.p0, show (30 : Int32) = nI 30 from rfl, nI_mul]; exact nI_ge hk (by omega)
      rw [m30 k (by omega), nI_clamp (by omega), nI_clamp (by omega)]
      have hp : k / 30 < T 0 0 := by omega
      have c1 : mI μ2 (hd 74 0) k = oI (D 7 (k / 30) (k % 30)) := by
        have := b.2.2.1.xn.2.2.1 7 (k / 30) (k % 30) ⟨hp, by omega⟩
        rw [show (mlc 0 7 (k / 30) (k % 30)).1 = hd 74 0 from rfl, show (mlc 0 7 (k / 30) (k % 30)).2 = 30 * (k / 30) + k % 30 from rfl, Nat.div_add_mod] at this
        exact this
      have c2 : mI μ2 (hd 74 0) (k % 30) = oI (D 7 0 (k % 30)) := by
        have := b.2.2.1.xn.2.2.1 7 0 (k % 30) ⟨by omega, by omega⟩
        rw [show (mlc 0 7 0 (k % 30)).1 = hd 74 0 from rfl, show (mlc 0 7 0 (k % 30)).2 = 30 * 0 + k % 30 from rfl, show 30 * 0 + k % 30 = k % 30 by omega] at this
        exact this
      have b1 := (b.2.2.1.xn.bdB hp).2.1 (k % 30) (by omega)
      have b2 := (b.2.2.1.xn.bdB (show 0 < T 0 0 by omega)).2.1 (k % 30) (by omega)
      rw [c1, c2, oI_inj (by omega) (by omega)]
      refine ⟨vp_in_nI (by omega) (by decide), by decide, vp_in_nI (by omega) (by decide), fun e => ?_, fun e => ?_⟩
      · rw [nI_1]
        refine ih (fun m hm => ?_)
        by_cases z : m = k
        · rw [z]; exact e
        · exact h m (by omega)
      · rw [bI_f (p := alikeP T D) (fun y => e (by
          rcases Nat.eq_zero_or_pos (k / 30) with z | z
          · rw [z]
          · exact y (k / 30) z hp (k % 30) (by omega)))] at hQ
        exact b.ok hQ
  exact key 0 (Nat.zero_le _) (fun m hm => absurd hm (Nat.not_lt_zero _))
theorem c_MM_mean (hM : MI μ T C Ct D t L x) (hN : Inv T D) (hD : 4 ≤ d) (hS : St μ) (hQ : ∀ μ', MB μ μ' T C Ct D t L x → Q (some (.double (meanV T D))) μ') : Cal K_MM_mean d rc rs [.ref (hd 40 0)] μ Q := by
  have b := MB.start hS hM
  have h5 := hM.xn.P5
  have g := hQ _ b
  unfold meanV at g
  refine e_MM_mean (g_MM_mean_0 (by omega) hS ?_)
  have p0 : mI (setI μ (hd 40 0) 0 0) (hd 50 (px μ (hd 40 0) 11)) 0 = nI (T 0 0) := b.2.2.1.p0
  rw [p0, show (0 : Int32) = nI 0 from rfl, nI_eq (by omega) (by decide)]
  refine ⟨fun h => ⟨b.2.1, ?_⟩, fun h => c_MS_allKnown b.2.2.1.xn (by omega) b.2.1 hN.2.2.1 ⟨_, rfl, ?_⟩⟩
  · rw [if_pos h] at g; exact g
  · rw [if_neg h] at g
    rw [show mI (setI μ (hd 40 0) 0 (nI 0)) (hd 50 (px (setI μ (hd 40 0) 0 (nI 0)) (hd 40 0) 11)) 0 = nI (T 0 0) from b.2.2.1.p0]
    exact ⟨mn_ok (Nat.lt_of_le_of_lt (known_le hN.1) (by decide)) (by omega) h5, b.2.1, g⟩
theorem c_MM_digest (hM : MI μ T C Ct D t L x) (hN : Inv T D) (hD : 7 ≤ d) (hc : 13 ≤ rc) (hs : 65 ≤ rs) (hS : St μ) (hQ : ∀ μ', MB μ μ' T C Ct D t L x → Q (some (.long (digV T D L))) μ') : Cal K_MM_digest d rc rs [.ref (hd 40 0)] μ Q := by
  have b := MB.start hS hM
  have h5 := hM.xn.P5
  have h6 := hM.xn.N6
  have h8 := hM.xn.R8
  have h60 := hM.xn.S60
  refine e_MM_digest (g_MM_digest_0 (by omega) hS ?_)
  have tail : ∀ (rc rs : Nat) (μ1 : Mu) (a : Int64), MB μ μ1 T C Ct D t L x → fdN (dgR D) (T 2 0) 0 (fdN (dgS T D) (D 1 0 0) 0 (fdN (dgP T D) (T 0 0) 0 a)) = digV T D L → Wx K_MM_digest d rc rs (fun r μ' => St μ' ∧ Q r μ') 38 [(0, .ref (hd 40 0)), (1, .long a), (3, .int 0)] [] μ1 := by
    intro rc rs μ1 a b1 hv
    have hS1 := b1.2.1
    have hM1 := b1.2.2.1
    have g := hQ μ1 b1
    rw [← hv] at g
    refine fd_loop (n := T 0 0) (f := dgP T D) (P := fun k a => Wx K_MM_digest d rc rs (fun r μ' => St μ' ∧ Q r μ') 38 [(0, .ref (hd 40 0)), (1, .long a), (3, .int (nI k))] [] μ1) (E := fun a => Wx K_MM_digest d rc rs (fun r μ' => St μ' ∧ Q r μ') 191 [(0, .ref (hd 40 0)), (1, .long a), (3, .int 0)] [] μ1) (fun a h => ?_) (fun p a hp ih => ?_) ?_
    · refine g_MM_digest_38 (by omega) hS1 ⟨fun _ => h, fun h => absurd ?_ h⟩
      rw [hM1.p0]; exact Int32.le_refl _
    · refine g_MM_digest_38 (by omega) hS1 ⟨fun h => absurd h ?_, fun _ => ?_⟩
      · rw [hM1.p0]; exact nI_ge hp (by omega)
      refine fd_loop (n := 6) (f := fun k a => mx a (nI (parishN T D p k))) (P := fun k a => Wx K_MM_digest d rc rs (fun r μ' => St μ' ∧ Q r μ') 52 [(0, .ref (hd 40 0)), (1, .long a), (3, .int (nI p)), (4, .int (nI k))] [] μ1) (E := fun a => Wx K_MM_digest d rc rs (fun r μ' => St μ' ∧ Q r μ') 82 [(0, .ref (hd 40 0)), (1, .long a), (3, .int (nI p)), (4, .int 0)] [] μ1) (fun a h => ?_) (fun k a hk ih2 => ?_) ?_
      · exact g_MM_digest_52 (by omega) hS1 ⟨fun _ => h, fun h => absurd (by decide) h⟩
      · refine g_MM_digest_52 (by omega) hS1 ⟨fun h => absurd h ?_, fun _ => c_MM_parishTold hM1 hN (by omega) hS1 hp hk ⟨_, rfl, ?_⟩⟩
        · rw [show (5 : Int32) = nI 5 from rfl, nI_ltI (by decide) (by omega)]; omega
        · rw [nI_1]; exact ih2
      refine fd_loop (n := T 0 0) (f := fun k a => mx a (nI (D 6 p k))) (P := fun k a => Wx K_MM_digest d rc rs (fun r μ' => St μ' ∧ Q r μ') 82 [(0, .ref (hd 40 0)), (1, .long a), (3, .int (nI p)), (4, .int (nI k))] [] μ1) (E := fun a => Wx K_MM_digest d rc rs (fun r μ' => St μ' ∧ Q r μ') 121 [(0, .ref (hd 40 0)), (1, .long a), (3, .int (nI p)), (4, .int 0)] [] μ1) (fun a h => ?_) (fun k a hk ih2 => ?_) ?_
      · refine g_MM_digest_82 (by omega) hS1 ⟨fun _ => h, fun h => absurd ?_ h⟩
        rw [hM1.p0]; exact Int32.le_refl _
      · refine g_MM_digest_82 (by omega) hS1 ⟨fun h => absurd h ?_, fun _ => c_MS_numberOf hM1.xn (by omega) hS1 hp (by omega) ⟨_, rfl, ?_⟩⟩
        · rw [hM1.p0]; exact nI_ge hk (by omega)
        · rw [nI_1]; exact ih2
      refine fd_loop (n := T 1 0) (f := fun n a => fdN (fun l a => mx a (oI ((shL D p n).getD l 0))) (shL D p n).length 0 a) (P := fun k a => Wx K_MM_digest d rc rs (fun r μ' => St μ' ∧ Q r μ') 121 [(0, .ref (hd 40 0)), (1, .long a), (3, .int (nI p)), (4, .int (nI k))] [] μ1) (E := fun a => Wx K_MM_digest d rc rs (fun r μ' => St μ' ∧ Q r μ') 38 [(0, .ref (hd 40 0)), (1, .long a), (3, .int (nI (p + 1)))] [] μ1) (fun a h => ?_) (fun k a hk ih2 => ?_) ih
      · refine g_MM_digest_121 (by omega) hS1 ⟨fun _ => ?_, fun h => absurd ?_ h⟩
        · rw [nI_1]; exact h
        · rw [hM1.p1]; exact Int32.le_refl _
      · have hsl := shL_len D p k
        refine g_MM_digest_121 (by omega) hS1 ⟨fun h => absurd h ?_, fun _ => ?_⟩
        · rw [hM1.p1]; exact nI_ge hk (by omega)
        refine fd_loop (n := (shL D p k).length) (f := fun l a => mx a (oI ((shL D p k).getD l 0))) (P := fun l a => Wx K_MM_digest d rc rs (fun r μ' => St μ' ∧ Q r μ') 136 [(0, .ref (hd 40 0)), (1, .long a), (3, .int (nI p)), (4, .int (nI k)), (5, .int (nI l))] [] μ1) (E := fun a => Wx K_MM_digest d rc rs (fun r μ' => St μ' ∧ Q r μ') 121 [(0, .ref (hd 40 0)), (1, .long a), (3, .int (nI p)), (4, .int (nI (k + 1)))] [] μ1) (fun a h => ?_) (fun l a hl ih3 => ?_) ih2
        · refine g_MM_digest_136 (by omega) hS1 (c_MS_shows hM1.xn (by omega) hS1 hp (by omega) ⟨_, rfl, fun _ => ?_, fun h => absurd (Int32.le_refl _) h⟩)
          rw [nI_1]; exact h
        · refine g_MM_digest_136 (by omega) hS1 (c_MS_shows hM1.xn (by omega) hS1 hp (by omega) ⟨_, rfl, fun h => absurd h (nI_ge hl (by omega)), fun _ => c_MS_shown hM1.xn (by omega) hS1 hp (by omega) (by omega) ⟨_, rfl, ?_⟩⟩)
          rw [nI_1]; exact ih3
    refine fd_loop (n := D 1 0 0) (f := dgS T D) (P := fun k a => Wx K_MM_digest d rc rs (fun r μ' => St μ' ∧ Q r μ') 191 [(0, .ref (hd 40 0)), (1, .long a), (3, .int (nI k))] [] μ1) (E := fun a => Wx K_MM_digest d rc rs (fun r μ' => St μ' ∧ Q r μ') 280 [(0, .ref (hd 40 0)), (1, .long a), (3, .int 0)] [] μ1) (fun a h => ?_) (fun s a hs' ih => ?_) ?_
    · refine g_MM_digest_191 (by omega) hS1 ⟨fun _ => h, fun h => absurd ?_ h⟩
      rw [hM1.cnt]; exact Int32.le_refl _
    · refine g_MM_digest_191 (by omega) hS1 ⟨fun h => absurd h ?_, fun _ => ?_⟩
      · rw [hM1.cnt]; exact nI_ge hs' (by omega)
      refine fd_loop (n := 8) (f := fun k a => mx a (nI (sheetN T D s k))) (P := fun k a => Wx K_MM_digest d rc rs (fun r μ' => St μ' ∧ Q r μ') 205 [(0, .ref (hd 40 0)), (1, .long a), (3, .int (nI s)), (4, .int (nI k))] [] μ1) (E := fun a => Wx K_MM_digest d rc rs (fun r μ' => St μ' ∧ Q r μ') 236 [(0, .ref (hd 40 0)), (1, .long a), (3, .int (nI s)), (4, .int 0)] [] μ1) (fun a h => ?_) (fun k a hk ih2 => ?_) ?_
      · exact g_MM_digest_205 (by omega) hS1 ⟨fun _ => h, fun h => absurd (by decide) h⟩
      · refine g_MM_digest_205 (by omega) hS1 ⟨fun h => absurd h ?_, fun _ => c_MM_sheetTold hM1 (by omega) hS1 hs' hk ⟨_, rfl, ?_⟩⟩
        · rw [show (7 : Int32) = nI 7 from rfl, nI_ltI (by decide) (by omega)]; omega
        · rw [nI_1]; exact ih2
      refine fd_loop (n := T 0 0) (f := fun k a => mx a (nI (D 5 s k))) (P := fun k a => Wx K_MM_digest d rc rs (fun r μ' => St μ' ∧ Q r μ') 236 [(0, .ref (hd 40 0)), (1, .long a), (3, .int (nI s)), (4, .int (nI k))] [] μ1) (E := fun a => Wx K_MM_digest d rc rs (fun r μ' => St μ' ∧ Q r μ') 191 [(0, .ref (hd 40 0)), (1, .long a), (3, .int (nI (s + 1)))] [] μ1) (fun a h => ?_) (fun k a hk ih2 => ?_) ih
      · refine g_MM_digest_236 (by omega) hS1 ⟨fun _ => ?_, fun h => absurd ?_ h⟩
        · rw [nI_1]; exact h
        · rw [hM1.p0]; exact Int32.le_refl _
      · refine g_MM_digest_236 (by omega) hS1 ⟨fun h => absurd h ?_, fun _ => c_MS_stampOf hM1.xn (by omega) hS1 hs' (by omega) ⟨_, rfl, ?_⟩⟩
        · rw [hM1.p0]; exact nI_ge hk (by omega)
        · rw [nI_1]; exact ih2
    refine fd_loop (n := T 2 0) (f := dgR D) (P := fun k a => Wx K_MM_digest d rc rs (fun r μ' => St μ' ∧ Q r μ') 280 [(0, .ref (hd 40 0)), (1, .long a), (3, .int (nI k))] [] μ1) (E := fun a => Q (some (.long a)) μ1) (fun a h => ?_) (fun r a hr ih => ?_) g
    · refine g_MM_digest_280 (by omega) hS1 ⟨fun _ => ⟨hS1, h⟩, fun h => absurd ?_ h⟩
      rw [hM1.p2]; exact Int32.le_refl _
    · refine g_MM_digest_280 (by omega) hS1 ⟨fun h => absurd h ?_, fun _ => ?_⟩
      · rw [hM1.p2]; exact nI_ge hr (by omega)
      refine fd_loop (n := 5) (f := fun j a => mx a (nI (roadN D r j))) (P := fun j a => Wx K_MM_digest d rc rs (fun r μ' => St μ' ∧ Q r μ') 294 [(0, .ref (hd 40 0)), (1, .long a), (3, .int (nI r)), (4, .int (nI j))] [] μ1) (E := fun a => Wx K_MM_digest d rc rs (fun r μ' => St μ' ∧ Q r μ') 280 [(0, .ref (hd 40 0)), (1, .long a), (3, .int (nI (r + 1)))] [] μ1) (fun a h => ?_) (fun j a hj ih2 => ?_) ih
      · refine g_MM_digest_294 (by omega) hS1 ⟨fun _ => ?_, fun h => absurd (by decide) h⟩
        rw [nI_1]; exact h
      · refine g_MM_digest_294 (by omega) hS1 ⟨fun h => absurd h ?_, fun _ => c_MM_roadTold hM1 hN (by omega) hS1 hr hj ⟨_, rfl, ?_⟩⟩
        · rw [show (4 : Int32) = nI 4 from rfl, nI_ltI (by decide) (by omega)]; omega
        · rw [nI_1]; exact ih2
  have key : ∀ (j k : Nat) (a : Int64) (rc rs : Nat) (μ1 : Mu), k + j = 13 → j ≤ rc → 5 * j ≤ rs → MB μ μ1 T C Ct D t L x → fdN (fun k a => mx a (cntV T D L k)) j k a = fdN (fun k a => mx a (cntV T D L k)) 13 0 929 → Wx K_MM_digest d rc rs (fun r μ' => St μ' ∧ Q r μ') 11 [(0, .ref (hd 40 0)), (1, .long a), (3, .int (nI k))] [] μ1 := by
    intro j
    induction j with
    | zero =>
      intro k a rc rs μ1 hk h1 h2 b1 e
      refine g_MM_digest_11 (by omega) b1.2.1 ⟨fun _ => tail rc rs μ1 a b1 ?_, fun h => absurd ?_ h⟩
      · unfold digV; rw [← e]; rfl
      · rw [show (12 : Int32) = nI 12 from rfl, nI_ltI (by decide) (by omega)]; omega
    | succ j ih =>
      intro k a rc rs μ1 hk h1 h2 b1 e
      refine g_MM_digest_11 (by omega) b1.2.1 ⟨fun h => absurd h ?_, fun _ => ⟨by omega, by omega, c_MM_counted b1 hN (by omega) (Nat.le_refl _) (Nat.le_refl _) (by omega) (fun μ2 b2 => ⟨_, rfl, ?_⟩)⟩⟩
      · rw [show (12 : Int32) = nI 12 from rfl, nI_ltI (by decide) (by omega)]; omega
      · rw [nI_1]
        exact ih (k + 1) _ (rc - 1) (rs - 5) μ2 (by omega) (by omega) (by omega) b2 e
  exact key 13 0 929 rc rs _ rfl hc hs b rfl
/-! the tape -/
theorem MI.tp (hM : MI μ1 T C Ct D t L x) (f : Fr (fun κ i => (κ = 40 ∨ κ = 41) ∧ i = 0) μ1 μ') (hr : mR μ' = mR μ1) (h3 : mI μ' (hd 40 0) 3 = mI μ1 (hd 40 0) 3) (hT : TpM μ' t' L') : MI μ' T C Ct D t' L' x := by
  obtain ⟨⟨Es, g1, g2, g3⟩, g4, -, g7⟩ := hM
  have p : px μ' (hd 40 0) 11 = px μ1 (hd 40 0) 11 := by unfold px; rw [hr]
  refine ⟨⟨Es, g1.tr p (fun κ k a c => f.I (by omega) (by omega)) (fun κ k a c => ⟨f.I (by omega) (by omega), f.L (by omega) (by omega)⟩), g2.tr (fun κ k a c => ⟨f.I (by omega) (by omega), f.L (by omega) (by omega)⟩), g3⟩, ?_, hT, h3.trans g7⟩
  rw [p]
  exact fun k hk => (g4 k hk).tr (fun κ j a c => f.I (by omega) (by omega))
theorem c_MM_trim (hM : MI μ T C Ct D t L x) (hL : L ≤ 2000) (hD : 6 ≤ d) (hS : St μ) (hQ : MAns μ (dvTrim L x1).1 T C Ct D t (dvTrim L x1).2 x Q) : Cal K_MM_trim d rc rs [.ref (hd 40 0), .int x1] μ Q := by
  have b := MB.start hS hM
  unfold dvTrim at hQ
  refine e_MM_trim (g_MM_trim_0 (by omega) hS ?_)
  generalize setI μ (hd 40 0) 0 0 = μ2 at b ⊢
  obtain ⟨tn, tt⟩ := b.2.2.1.2.2.1
  rw [tn]
  refine c_MM_inN0 (n := L + 1) (by rw [show nI (L + 1) - 1 = oI (L + 1) from rfl, oI_s]) (by omega) (by omega) b.2.1 ⟨_, rfl, bIs (fun h => ?_) (fun h => ?_)⟩
  · rw [ifP_f h] at hQ; exact b.no hQ (by omega) rfl
  · rw [ifP_t h] at hQ
    obtain ⟨k, hk, hk2, rfl⟩ := h.ex
    rw [nI_clamp hk2] at hQ
    have s : St (setI μ2 (hd 40 0) 2 (nI k)) := b.2.1
    have f : Fr (fun κ i => (κ = 40 ∨ κ = 41) ∧ i = 0) μ2 (setI μ2 (hd 40 0) 2 (nI k)) := Fr.rf.setI (by decide) ⟨Or.inl rfl, rfl⟩
    have b3 : MB μ (setI μ2 (hd 40 0) 2 (nI k)) T C Ct D t k x := ⟨b.1.trans FrX.I40, s, b.2.2.1.tp f rfl (rd_k (by decide)) ⟨rd_eq, fun j hj => by rw [rd_ne (by decide) (by decide) (by decide)]; exact tt j (by omega)⟩, (rd_k (by decide)).trans b.2.2.2⟩
    exact b3.ok hQ
theorem c_MM_feed (hM : MI μ T C Ct D t L x) (hL : L ≤ 2000) (hD : 6 ≤ d) (hc : 1 ≤ rc) (hs : 5 ≤ rs) (hS : St μ) (hQ : MAns μ (dvFeed t L x1 x2 x3 x4 x5).1 T C Ct D (dvFeed t L x1 x2 x3 x4 x5).2.1 (dvFeed t L x1 x2 x3 x4 x5).2.2 x Q) : Cal K_MM_feed d rc rs [.ref (hd 40 0), .int x1, .int x2, .int x3, .int x4, .int x5] μ Q := by
  have b := MB.start hS hM
  unfold dvFeed at hQ
  refine e_MM_feed (g_MM_feed_0 (by omega) hS ?_)
  generalize setI μ (hd 40 0) 0 0 = μ2 at b ⊢
  have tn := b.2.2.1.2.2.1.1
  rw [tn, show (1980 : Int32) = nI 1980 from rfl, nI_leI (by omega) (by decide)]
  refine ⟨fun h => ?_, fun h => ?_⟩
  · rw [ifP_t (by omega)] at hQ
    refine ⟨hc, hs, fun q hq => ?_⟩
    have b0 : MB μ (mkA μ2 (hd 85 q) (2, 5)) T C Ct D t L x := b.al85
    have m0 : mS (mkA μ2 (hd 85 q) (2, 5)) (hd 85 q) = (2, 5) := alloc_S
    generalize mkA μ2 (hd 85 q) (2, 5) = M0 at b0 m0 ⊢
    rw [show ((0 : Int32).toNatClampNeg) = 0 from rfl, show ((1 : Int32).toNatClampNeg) = 1 from rfl, show ((2 : Int32).toNatClampNeg) = 2 from rfl, show ((3 : Int32).toNatClampNeg) = 3 from rfl, show ((4 : Int32).toNatClampNeg) = 4 from rfl]
    refine ⟨vp_in_nI (n := 0) (N := 5) (by decide) (by decide), vp_in_nI (n := 1) (N := 5) (by decide) (by decide), vp_in_nI (n := 2) (N := 5) (by decide) (by decide), vp_in_nI (n := 3) (N := 5) (by decide) (by decide), fun μ6 e6 => ⟨vp_in_nI (n := 4) (N := 5) (by decide) (by decide), ?_⟩⟩
    have b6 : MB μ (setI μ6 (hd 85 q) 4 x5) T C Ct D t L x := by rw [e6]; exact b0.s85.s85.s85.s85.s85
    have m6 : mS (setI μ6 (hd 85 q) 4 x5) (hd 85 q) = (2, 5) := by rw [e6]; exact m0
    have a6 : ∀ i, i < 5 → mI (setI μ6 (hd 85 q) 4 x5) (hd 85 q) i = if i = 0 then x1 else if i = 1 then x2 else if i = 2 then x3 else if i = 3 then x4 else x5 := fun i hi => by
      rcases (by omega : i = 0 ∨ i = 1 ∨ i = 2 ∨ i = 3 ∨ i = 4) with rfl | rfl | rfl | rfl | rfl
      · rw [rd_k (by decide), e6, rd_k (by decide), rd_k (by decide), rd_k (by decide), rd_eq]; rfl
      · rw [rd_k (by decide), e6, rd_k (by decide), rd_k (by decide), rd_eq]; rfl
      · rw [rd_k (by decide), e6, rd_k (by decide), rd_eq]; rfl
      · rw [rd_k (by decide), e6, rd_eq]; rfl
      · rw [rd_eq]; rfl
    generalize setI μ6 (hd 85 q) 4 x5 = μ7 at b6 m6 a6 ⊢
    have hT7 : ∀ k, k < L → mI μ7 (hd 41 0) k = nI (fdT t L (fB x1 x2 x3 x4 x5) k) := fun k hk => by unfold fdT; rw [if_pos hk]; exact b6.2.2.1.2.2.1.2 k hk
    have key : ∀ j, j ≤ 20 → ∀ μ', Fr (fun κ i => κ = 41 ∧ i = 0) μ7 μ' → mR μ' = mR μ7 → (∀ k, k < L + j → mI μ' (hd 41 0) k = nI (fdT t L (fB x1 x2 x3 x4 x5) k)) → Wx K_MM_feed d (rc - 1) (rs - 5) (fun r μ' => St μ' ∧ Q r μ') 51 [(0, .ref (hd 40 0)), (6, .ref (hd 85 q)), (7, .int (nI j))] [] μ' := by
      refine up_loop 20 (fun μ' f r g => ?_) (fun j hj ih μ' f r g => ?_)
      · have s' : St μ' := b6.2.1.of_eq f.1 r
        have c2 : mI μ' (hd 40 0) 2 = nI L := (f.I (by decide) (by omega)).trans b6.2.2.1.2.2.1.1
        have s : St (setI μ' (hd 40 0) 2 (nI (L + 20))) := s'
        refine g_MM_feed_51 (n6 := 5) (by omega) (by rw [f.1]; exact m6) (rw_hd (by decide) (by decide)) s' ⟨fun _ => ?_, fun h => absurd (Int32.le_refl _) h⟩
        rw [c2, show (20 : Int32) = nI 20 from rfl, nI_add, rd_eq]
        have f2 : Fr (fun κ i => (κ = 40 ∨ κ = 41) ∧ i = 0) μ7 (setI μ' (hd 40 0) 2 (nI (L + 20))) := (f.mono (fun κ i z => ⟨Or.inr z.1, z.2⟩)).setI (by decide) ⟨Or.inl rfl, rfl⟩
        have b8 : MB μ (setI μ' (hd 40 0) 2 (nI (L + 20))) T C Ct D (fdT t L (fB x1 x2 x3 x4 x5)) (L + 20) x := ⟨b6.1.trans (FrX.of f2 (fun κ i z => by omega)), s, b6.2.2.1.tp f2 r ((rd_k (by decide)).trans (f.I (by decide) (by omega))) ⟨rd_eq, fun k hk => by rw [rd_ne (by decide) (by decide) (by decide)]; exact g k hk⟩, ((rd_k (by decide)).trans (f.I (by decide) (by omega))).trans b6.2.2.2⟩
        exact b8.ok hQ
      · have s' : St μ' := b6.2.1.of_eq f.1 r
        have c2 : mI μ' (hd 40 0) 2 = nI L := (f.I (by decide) (by omega)).trans b6.2.2.1.2.2.1.1
        obtain ⟨d1, d2⟩ := d4 j hj
        refine g_MM_feed_51 (n6 := 5) (by omega) (by rw [f.1]; exact m6) (rw_hd (by decide) (by decide)) s' ⟨fun h => absurd h (nI_ge hj (by decide)), fun _ => ?_⟩
        rw [c2, nI_add, nI_clamp (by omega), d1, nI_clamp (by omega)]
        rw [d1] at d2
        rw [d2, f.I (by decide) (by omega), a6 (j / 4) (by omega), byte_m, nI_1]
        refine ⟨by decide, vp_in_nI (by omega) (by decide), by decide, vp_in_nI (by omega) (by decide), ?_⟩
        refine ih _ (f.setI (by decide) ⟨rfl, rfl⟩) r (fun k hk => ?_)
        by_cases z : k = L + j
        · rw [z, rd_eq]
          have := fd_at (t := t) (L := L) (x1 := x1) (x2 := x2) (x3 := x3) (x4 := x4) (x5 := x5) (i := j / 4) (j := j % 4) (by omega) (by omega)
          rw [show L + 4 * (j / 4) + j % 4 = L + j by omega] at this
          rw [this]
        · rw [rd_k z]; exact g k (by omega)
    exact key 0 (by decide) μ7 Fr.rf rfl hT7
  · rw [ifP_f (by omega)] at hQ; exact b.no hQ (by omega) rfl
end MGA
