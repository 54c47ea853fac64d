/-! what goes by roads -/
def cE : List Ent → Nat → Nat → Nat
  | [], _, _ => 0
  | e :: l, r, s => (if e.1 = r ∧ bl e.2.2 s = true then 1 else 0) + cE l r s
def uE (r : Nat) : List Ent → Nat
  | [] => 0
  | e :: l => (if e.1 = r then cnt e.2.2 else 0) + uE r l
def aE : List Ent → Nat
  | [] => 0
  | e :: l => cnt e.2.2 + aE l
def EB (T : PT) (D : DT) (y : Nat) (Es : List Ent) : Prop :=
  (∀ e ∈ Es, e.1 < T 2 0 ∧ y ≤ e.2.1 ∧ e.2.1 < 2 ^ 20 + 19 ∧ e.2.2 ≠ 0 ∧ ∀ s, s < 64 → bl e.2.2 s = true → s < 60 ∧ D 10 e.1 s = e.2.1 + 1) ∧ ∀ r s, r < T 2 0 → s < 60 → cE Es r s = bN (y < D 10 r s)
theorem sumN_add {f g : Nat → Nat} : ∀ n, sumN (fun k => f k + g k) n = sumN f n + sumN g n
  | 0 => rfl
  | n + 1 => by rw [sumN, sumN, sumN, sumN_add n]; omega
theorem sumN_one {c r : Nat} : ∀ n, r < n → sumN (fun k => if r = k then c else 0) n = c
  | 0, h => absurd h (Nat.not_lt_zero _)
  | n + 1, h => by
    rw [sumN]
    rcases Nat.lt_succ_iff_lt_or_eq.mp h with z | rfl
    · rw [sumN_one n z, if_neg (by omega)]; rfl
    · rw [sumN_zero _ (fun k hk => if_neg (by omega)), if_pos rfl, Nat.zero_add]
theorem sumN_lt {f : Nat → Nat} {b s : Nat} : ∀ n, (∀ k, k < n → f k ≤ b) → s < n → f s + 1 ≤ b → sumN f n + 1 ≤ n * b
  | 0, _, h, _ => absurd h (Nat.not_lt_zero _)
  | n + 1, hb, h, hs => by
    rw [sumN, Nat.succ_mul]
    have h1 := hb n (by omega)
    rcases Nat.lt_succ_iff_lt_or_eq.mp h with z | rfl
    · have := sumN_lt n (fun k hk => hb k (by omega)) z hs; omega
    · have := sumN_le (f := f) (b := b) s (fun k hk => hb k (by omega)); omega
theorem uE_cE {r : Nat} : ∀ Es : List Ent, (∀ e ∈ Es, ∀ s, s < 64 → bl e.2.2 s = true → s < 60) → uE r Es = sumN (fun s => cE Es r s) 60
  | [], _ => (sumN_zero _ (fun _ _ => rfl)).symm
  | e :: l, h => by
    rw [uE, uE_cE l (fun x hx => h x (List.mem_cons_of_mem _ hx))]
    have h1 : (if e.1 = r then cnt e.2.2 else 0) = sumN (fun s => if e.1 = r ∧ bl e.2.2 s = true then 1 else 0) 60 := by
      by_cases hr : e.1 = r
      · rw [if_pos hr]
        unfold cnt
        rw [sumN_ext (m := 60) (by decide) (fun k h1 h2 => if_neg (fun z => by have := h e List.mem_cons_self k h2 z; omega))]
        exact sumN_congr _ (fun k hk => by simp only [hr, true_and])
      · rw [if_neg hr]; exact (sumN_zero _ (fun k _ => if_neg (fun z => hr z.1))).symm
    rw [h1, ← sumN_add]; rfl
theorem aE_uE {R : Nat} : ∀ Es : List Ent, (∀ e ∈ Es, e.1 < R) → aE Es = sumN (fun r => uE r Es) R
  | [], _ => (sumN_zero _ (fun _ _ => rfl)).symm
  | e :: l, h => by
    rw [aE, aE_uE l (fun x hx => h x (List.mem_cons_of_mem _ hx)), ← sumN_one (c := cnt e.2.2) R (h e List.mem_cons_self), ← sumN_add]; rfl
theorem len_aE : ∀ Es : List Ent, (∀ e ∈ Es, e.2.2 ≠ 0) → Es.length ≤ aE Es
  | [], _ => Nat.le_refl _
  | e :: l, h => by
    have h1 := len_aE l (fun x hx => h x (List.mem_cons_of_mem _ hx))
    have h2 := cnt_and (h e List.mem_cons_self)
    rw [aE, List.length_cons]; omega
theorem cE_app (e : Ent) (r s : Nat) : ∀ l : List Ent, cE (l ++ [e]) r s = cE l r s + (if e.1 = r ∧ bl e.2.2 s = true then 1 else 0)
  | [] => by simp [cE]
  | x :: l => by rw [List.cons_append, cE, cE, cE_app e r s l]; omega
theorem cE_pos {r s : Nat} : ∀ l : List Ent, cE l r s ≠ 0 → ∃ e ∈ l, e.1 = r ∧ bl e.2.2 s = true
  | [], h => absurd rfl h
  | x :: l, h => by
    rw [cE] at h
    by_cases hx : x.1 = r ∧ bl x.2.2 s = true
    · exact ⟨x, List.mem_cons_self, hx⟩
    · rw [if_neg hx] at h
      obtain ⟨e, he, h2⟩ := cE_pos (r := r) (s := s) l (by omega)
      exact ⟨e, List.mem_cons_of_mem _ he, h2⟩
theorem EB.uw {T : PT} {D : DT} {y r : Nat} {Es : List Ent} (h : EB T D y Es) (hS : SD T D) (h60 : D 1 0 0 ≤ 60) (hr : r < T 2 0) : uE r Es = sumN (fun s => bN (y < D 10 r s)) (D 1 0 0) := by
  rw [uE_cE Es (fun e he s hs hb => ((h.1 e he).2.2.2.2 s hs hb).1), sumN_congr 60 (fun s hs => h.2 r s hr hs)]
  refine sumN_ext h60 (fun s h1 h2 => bN_f (fun z => ?_))
  have := hS r s hr h2 (by omega)
  omega
theorem EB.len {T : PT} {D : DT} {y : Nat} {Es : List Ent} (h : EB T D y Es) (hR : T 2 0 ≤ 8) : Es.length ≤ 480 := by
  have h1 := len_aE Es (fun e he => (h.1 e he).2.2.2.1)
  rw [aE_uE Es (fun e he => (h.1 e he).1)] at h1
  have h2 : sumN (fun r => uE r Es) (T 2 0) ≤ T 2 0 * 60 := sumN_le _ (fun r hr => by
    show uE r Es ≤ 60
    rw [uE_cE Es (fun e he s hs hb => ((h.1 e he).2.2.2.2 s hs hb).1), sumN_congr 60 (fun s hs => h.2 r s hr hs)]
    exact sumN_le (b := 1) 60 (fun _ _ => bN_le))
  omega
theorem EB.lt {T : PT} {D : DT} {y : Nat} {Es : List Ent} (h : EB T D y Es) (hR : T 2 0 ≤ 8) {r s : Nat} (hr : r < T 2 0) (hs : s < 60) (h0 : D 10 r s = 0) : Es.length < 480 := by
  have h1 := len_aE Es (fun e he => (h.1 e he).2.2.2.1)
  rw [aE_uE Es (fun e he => (h.1 e he).1)] at h1
  have e : ∀ r, r < T 2 0 → uE r Es = sumN (fun s => bN (y < D 10 r s)) 60 := fun r hr => by
    rw [uE_cE Es (fun e he s hs hb => ((h.1 e he).2.2.2.2 s hs hb).1), sumN_congr 60 (fun s hs => h.2 r s hr hs)]
  have h2 := sumN_lt (f := fun r => uE r Es) (b := 60) (s := r) (T 2 0) (fun k hk => by
    show uE k Es ≤ 60
    rw [e k hk]
    exact sumN_le (b := 1) 60 (fun _ _ => bN_le)) hr (by
    show uE r Es + 1 ≤ 60
    rw [e r hr]
    exact sumN_lt (b := 1) (s := s) 60 (fun _ _ => bN_le) hs (by
      show bN (y < D 10 r s) + 1 ≤ 1
      rw [bN_f (by omega)]; exact Nat.le_refl _))
  omega
theorem or0 (x : Int64) : x ||| 0 = x := bl_ext (fun s _ => by rw [bl_or, bl_0, Bool.or_false])
section MSE
variable {d rc rs w mg : Nat} {Q : Option Value → Mu → Prop} {μ : Mu} {T : PT} {D : DT} {Es : List Ent}
theorem c_MS_underWay {r : Nat} (hC : XN μ w T D mg) (hD : 2 ≤ d) (hS : St μ) (hE : YE μ w Es) (hB : EB T D (D 0 0 0) Es) (hSD : SD T D) (hr : r < T 2 0) (hQ : Q (some (.int (nI (uwN D r)))) μ) : Cal K_MS_underWay d rc rs [.ref (hd 65 w), .int (nI r)] μ Q := by
  have hw := hC.w2; have hR := hC.R8; have h480 := hB.len hR
  rw [show uwN D r = uE r Es from (hB.uw hSD hC.S60 hr).symm] at hQ
  refine e_MS_underWay (g_MS_underWay_0 (by omega) hw hS ?_)
  have hne : nI r ≠ -1 := fun z => by rw [← oI_s, oI_m1 (by omega)] at z; omega
  have key : ∀ (rest pre : List Ent) (m : Nat), Es = pre ++ rest → Q (some (.int (nI (m + uE r rest)))) μ → Wx K_MS_underWay d rc rs (fun r μ' => St μ' ∧ Q r μ') 4 [(0, .ref (hd 65 w)), (1, .int (nI r)), (2, .int (nI m)), (3, .int (nI pre.length))] [] μ := by
    intro rest
    induction rest with
    | nil =>
      intro pre m e h
      rw [List.append_nil] at e
      refine g_MS_underWay_4 (by omega) hw hS ⟨fun _ => ⟨hS, h⟩, fun h => absurd ?_ h⟩
      rw [hE.1, e]; exact Int32.le_refl _
    | cons x rest ih =>
      intro pre m e h
      have hl : pre.length < Es.length := by rw [e]; simp
      have hx : Es[pre.length]? = some x := by rw [e]; simp
      obtain ⟨y1, y2, y3⟩ := hE.2 _ _ hx
      have hxm : x ∈ Es := List.mem_of_getElem? hx
      have hx1 := (hB.1 x hxm).1
      have hvp : vp_in (nI pre.length) 480 := vp_in_nI (by omega) (by decide)
      rw [uE] at h
      have ih' := ih (pre ++ [x])
      rw [List.length_append, List.length_singleton] at ih'
      refine g_MS_underWay_4 (by omega) hw hS ⟨fun h => absurd h ?_, fun _ => ⟨fun z => absurd z hne, fun _ => ⟨hvp, ?_⟩⟩⟩
      · rw [hE.1]; exact nI_ge hl (by omega)
      rw [nI_clamp (by omega), y1, nI_eq (by omega) (by omega), y3]
      refine ⟨fun z => ⟨hvp, c_MM_bits (by omega) hS ⟨_, rfl, ?_⟩⟩, fun z => ?_⟩
      · rw [if_pos z] at h
        rw [nI_add, nI_1]
        exact ih' _ (by rw [e]; simp) (by rw [Nat.add_assoc]; exact h)
      · rw [if_neg z] at h
        rw [I0, nI_add, nI_1]
        exact ih' _ (by rw [e]; simp) (by rw [Nat.add_assoc]; exact h)
  exact key Es [] 0 rfl (by rw [Nat.zero_add]; exact hQ)
theorem c_MS_underAll (hC : XN μ w T D mg) (hD : 2 ≤ d) (hS : St μ) (hE : YE μ w Es) (hB : EB T D (D 0 0 0) Es) (hSD : SD T D) (hQ : Q (some (.int (nI (uwAll T D)))) μ) : Cal K_MS_underWay d rc rs [.ref (hd 65 w), .int (-1)] μ Q := by
  have hw := hC.w2; have hR := hC.R8; have h480 := hB.len hR
  rw [show uwAll T D = aE Es from by
    rw [aE_uE Es (fun e he => (hB.1 e he).1)]
    exact sumN_congr _ (fun r hr => (hB.uw hSD hC.S60 hr).symm)] at hQ
  refine e_MS_underWay (g_MS_underWay_0 (by omega) hw hS ?_)
  have key : ∀ (rest pre : List Ent) (m : Nat), Es = pre ++ rest → Q (some (.int (nI (m + aE rest)))) μ → Wx K_MS_underWay d rc rs (fun r μ' => St μ' ∧ Q r μ') 4 [(0, .ref (hd 65 w)), (1, .int (-1)), (2, .int (nI m)), (3, .int (nI pre.length))] [] μ := by
    intro rest
    induction rest with
    | nil =>
      intro pre m e h
      rw [List.append_nil] at e
      refine g_MS_underWay_4 (by omega) hw hS ⟨fun _ => ⟨hS, h⟩, fun h => absurd ?_ h⟩
      rw [hE.1, e]; exact Int32.le_refl _
    | cons x rest ih =>
      intro pre m e h
      have hl : pre.length < Es.length := by rw [e]; simp
      have hx : Es[pre.length]? = some x := by rw [e]; simp
      obtain ⟨y1, y2, y3⟩ := hE.2 _ _ hx
      have hvp : vp_in (nI pre.length) 480 := vp_in_nI (by omega) (by decide)
      rw [aE] at h
      have ih' := ih (pre ++ [x])
      rw [List.length_append, List.length_singleton] at ih'
      refine g_MS_underWay_4 (by omega) hw hS ⟨fun h => absurd h ?_, fun _ => ⟨fun _ => ⟨hvp, ?_⟩, fun z => absurd rfl z⟩⟩
      · rw [hE.1]; exact nI_ge hl (by omega)
      rw [nI_clamp (by omega), y3]
      refine c_MM_bits (by omega) hS ⟨_, rfl, ?_⟩
      rw [nI_add, nI_1]
      exact ih' _ (by rw [e]; simp) (by rw [Nat.add_assoc]; exact h)
  exact key Es [] 0 rfl (by rw [Nat.zero_add]; exact hQ)
theorem c_MS_counted {k : Nat} (hC : XN μ w T D (mergedN D)) (hD : 5 ≤ d) (hS : St μ) (hE : YE μ w Es) (hB : EB T D (D 0 0 0) Es) (hI : Inv T D) (hk : 5 ≤ k ∧ k ≤ 11) (hQ : Q (some (.int (nI (tallyN T D k)))) μ) : Cal K_MS_counted d rc rs [.ref (hd 65 w), .int (nI k)] μ Q := by
  have hw := hC.w2; have hP := hC.P5
  refine e_MS_counted (g_MS_counted_0 (by omega) hw hS ?_)
  have no : ∀ v : Int32, nI k ≠ v → nI k = v → False := fun v h z => h z
  rcases (by omega : k = 5 ∨ k = 6 ∨ k = 7 ∨ k = 8 ∨ k = 9 ∨ k = 10 ∨ k = 11) with rfl | rfl | rfl | rfl | rfl | rfl | rfl
  · exact ⟨fun _ => ⟨hS, by rw [hC.cnt]; exact hQ⟩, fun h => absurd h (by decide), fun h => absurd h (by decide), fun h => absurd h (by decide), fun h => absurd h (by decide), fun h => absurd h (by decide), fun h => absurd h (by decide)⟩
  · exact ⟨fun h => absurd h (by decide), fun _ => c_MS_underAll hC (by omega) hS hE hB hI.2.2.2 ⟨_, rfl, hS, hQ⟩, fun h => absurd h (by decide), fun h => absurd h (by decide), fun h => absurd h (by decide), fun h => absurd h (by decide), fun h => absurd h (by decide)⟩
  · refine ⟨fun h => absurd h (by decide), fun h => absurd h (by decide), fun _ => ?_, fun h => absurd h (by decide), fun h => absurd h (by decide), fun h => absurd h (by decide), fun h => absurd h (by decide)⟩
    have key : ∀ k, k ≤ T 0 0 → Wx K_MS_counted d rc rs (fun r μ' => St μ' ∧ Q r μ') 53 [(0, .ref (hd 65 w)), (2, .int (nI (sumN (fun b => D 11 b 0) k))), (3, .int (nI k))] [] μ := by
      refine up_loop _ ?_ (fun k hk ih => ?_)
      · refine g_MS_counted_53 (by omega) hw hS ⟨fun _ => ⟨hS, hQ⟩, fun h => absurd ?_ h⟩
        rw [hC.pP]; exact Int32.le_refl _
      · refine g_MS_counted_53 (by omega) hw hS ⟨fun h => absurd h ?_, fun _ => c_MS_waits hC (by omega) hS hI.2.1 hk ⟨_, rfl, ?_⟩⟩
        · rw [hC.pP]; exact nI_ge hk (by omega)
        rw [nI_add, nI_1]; exact ih
    exact key 0 (Nat.zero_le _)
  · refine ⟨fun h => absurd h (by decide), fun h => absurd h (by decide), fun h => absurd h (by decide), fun _ => ?_, fun h => absurd h (by decide), fun h => absurd h (by decide), fun h => absurd h (by decide)⟩
    have key : ∀ k, k ≤ T 0 0 → Wx K_MS_counted d rc rs (fun r μ' => St μ' ∧ Q r μ') 85 [(0, .ref (hd 65 w)), (2, .int (nI (sumN (fun b => tornB D b 2) k))), (3, .int (nI k))] [] μ := by
      refine up_loop _ ?_ (fun k hk ih => ?_)
      · refine g_MS_counted_85 (by omega) hw hS ⟨fun _ => ⟨hS, hQ⟩, fun h => absurd ?_ h⟩
        rw [hC.pP]; exact Int32.le_refl _
      · refine g_MS_counted_85 (by omega) hw hS ⟨fun h => absurd h ?_, fun _ => c_MS_noticesOf (l := 2) hC (by omega) hS hk (by decide) (by decide) ⟨_, rfl, ?_⟩⟩
        · rw [hC.pP]; exact nI_ge hk (by omega)
        rw [nI_add, nI_1]; exact ih
    exact key 0 (Nat.zero_le _)
  · exact ⟨fun h => absurd h (by decide), fun h => absurd h (by decide), fun h => absurd h (by decide), fun h => absurd h (by decide), fun _ => ⟨hS, by rw [hC.hung]; exact hQ⟩, fun h => absurd h (by decide), fun h => absurd h (by decide)⟩
  · exact ⟨fun h => absurd h (by decide), fun h => absurd h (by decide), fun h => absurd h (by decide), fun h => absurd h (by decide), fun h => absurd h (by decide), fun _ => ⟨hS, by rw [hC.mer]; exact hQ⟩, fun h => absurd h (by decide)⟩
  · exact ⟨fun h => absurd h (by decide), fun h => absurd h (by decide), fun h => absurd h (by decide), fun h => absurd h (by decide), fun h => absurd h (by decide), fun h => absurd h (by decide), fun _ => ⟨hS, by rw [hC.car]; exact hQ⟩⟩
/-! sending -/
theorem c_MS_send {r : Nat} (hC : XN μ w T D mg) (hD : 3 ≤ d) (hS : St μ) (hr : r < T 2 0) (hE : YE μ w Es) (hB : EB T D (D 0 0 0) Es) (hSD : SD T D)
    (hQ : ∀ μ' Es', Fr (OwM w) μ μ' → mR μ' = mR μ → St μ' → XN μ' w T (sendD D r) mg → YE μ' w Es' → EB T (sendD D r) (D 0 0 0) Es' → Q (some (.int (nI (carN D r (D 1 0 0))))) μ') : Cal K_MS_send d rc rs [.ref (hd 65 w), .int (nI r)] μ Q := by
  have hw := hC.w2; have hP := hC.P5; have h60 := hC.S60; have hR := hC.R8; have hdy := hC.dayB; have h480 := hB.len hR
  obtain ⟨r1, r2, r3, r4, r5⟩ := hC.rdB hr
  refine e_MS_send (g_MS_send_0 (by omega) hw hS ?_)
  have v8 : vp_in (nI r) 8 := vp_in_nI (by omega) (by decide)
  have key : ∀ k, k ≤ D 1 0 0 → ∀ x, Bs x (fun s => s < k ∧ crC D r s) → Wx K_MS_send d rc rs (fun r μ' => St μ' ∧ Q r μ') 5 [(0, .ref (hd 65 w)), (1, .int (nI r)), (2, .long x), (4, .int (nI k))] [] μ := by
    refine up_loop _ (fun x hx => ?_) (fun k hk ih x hx => ?_)
    · have hcar : carN D r (D 1 0 0) = cnt x := by
        rw [hx.cntE, sumN_ext (m := D 1 0 0) h60 (fun s h1 h2 => bN_f (fun z => by omega))]
        exact sumN_congr _ (fun s hs => bN_congr ⟨fun z => ⟨hs, z⟩, fun z => z.2⟩)
      refine g_MS_send_5 (by omega) hw hS ⟨fun _ => ?_, fun h => absurd ?_ h⟩
      · rw [hx.ne0]
        refine ⟨fun z => ⟨hS, ?_⟩, fun z => ?_⟩
        · have h0 : carN D r (D 1 0 0) = 0 := sumN_zero _ (fun s hs => bN_f (fun y => z s (by omega) ⟨hs, y⟩))
          have e : sendD D r = D := by unfold sendD; rw [if_neg (by omega), carF_none _ h0]
          have := hQ μ Es Fr.rf rfl hS (by rw [e]; exact hC) hE (by rw [e]; exact hB)
          rw [h0] at this; exact this
        · obtain ⟨s0, q0⟩ := Classical.not_forall.mp z
          rw [Classical.not_imp, Classical.not_not] at q0
          obtain ⟨q1, q2, q3⟩ := q0
          have hlt := hB.lt hR hr (by omega) q3.1
          have hpos : 0 < carN D r (D 1 0 0) := by
            have := sumN_pos (f := fun s => bN (crC D r s)) (s := s0) (D 1 0 0) q2
            rw [bN_t q3] at this; exact this
          have eD : sendD D r = ud (carF D r (D 1 0 0)) 9 r 1 (D 9 r 1 + 1) := by unfold sendD; rw [if_pos hpos]
          have v48 : vp_in (nI Es.length) 480 := vp_in_nI hlt (by decide)
          rw [nI_clamp (by omega)]
          refine ⟨v8, v8, v8, v8, fun μ5 e5 => ?_⟩
          have u5 : mI μ5 (hd 65 w) 18 = nI Es.length := by
            rw [e5, rd_ne (by decide) (by decide) (by decide), mI_setL]; exact hE.1
          have d5 : mI μ5 (hd 65 w) 0 = nI (D 0 0 0) := by
            rw [e5, rd_ne (by decide) (by decide) (by decide), mI_setL]; exact hC.day
          have y5 : mI μ5 (hd 76 w) r = nI (D 9 r 0) := by
            rw [e5, rd_ne (by decide) (by decide) (by decide), mI_setL]; exact hC.r3 hr
          rw [u5, nI_clamp (by omega), rd_ne (by decide) (by decide) (by decide), u5, nI_clamp (by omega), rd_ne (by decide) (by decide) (by decide), d5, rd_ne (by decide) (by decide) (by decide), y5, nI_add]
          refine ⟨v48, v8, v48, fun μ9 e9 => ?_⟩
          have u9 : mI μ9 (hd 65 w) 18 = nI Es.length := by
            rw [e9, rd_ne (by decide) (by decide) (by decide), rd_ne (by decide) (by decide) (by decide)]; exact u5
          rw [u9, nI_clamp (by omega), mI_setL, u9, I1, nI_add]
          have e5' : μ5 = setI (setL μ (hd 78 w) r (mL μ (hd 78 w) r ||| x)) (hd 77 w) r (nI (D 9 r 1 + 1)) := by
            rw [e5, mI_setL, hC.r4 hr, I1, nI_add]
          have fr : Fr (OwM w) μ (setI (setL μ9 (hd 81 w) Es.length x) (hd 65 w) 18 (nI (Es.length + 1))) := by
            rw [e9, e5']
            exact (((((Fr.rf.setL (by decide) (by unfold OwM; omega)).setI (by decide) (by unfold OwM; omega)).setI (by decide) (by unfold OwM; omega)).setI (by decide) (by unfold OwM; omega)).setL (by decide) (by unfold OwM; omega)).setI (by decide) (by unfold OwM; omega)
          have mr : mR (setI (setL μ9 (hd 81 w) Es.length x) (hd 65 w) 18 (nI (Es.length + 1))) = mR μ := by rw [e9, e5']; rfl
          have hSt := hS.of_eq fr.1 mr
          refine ⟨v48, c_MM_bits (by omega) hSt ⟨_, rfl, hSt, ?_⟩⟩
          rw [← hcar]
          have hd10 : ∀ r' s, sendD D r 10 r' s = carF D r (D 1 0 0) 10 r' s := fun r' s => by rw [eD, ud_f (by decide)]
          refine hQ _ (Es ++ [(r, D 0 0 0 + D 9 r 0, x)]) fr mr hSt ?_ ?_ ?_
          · -- the world
            have x1 : YR (setI μ (hd 77 w) r (nI (D 9 r 1 + 1))) w (D 1 0 0) (T 0 0) (T 2 0) (ud D 9 r 1 (D 9 r 1 + 1)) := hC.2.2.1.set (f := 9) (i := r) (j := 1) h60 hP hR ⟨by omega, by decide⟩
            refine ⟨hw, hC.2.1.send hr, ?_, ?_, fun b hb => ?_, fun r' hr' => ?_, ?_⟩
            · rw [send_f (by decide) (by decide)]
              refine (x1.fr (fun f i j hm => ?_)).congr (fun f i j _ h10 _ _ => ?_)
              · obtain ⟨κ, e, hk⟩ := mlc_k (w := w) hm
                rw [e]
                rw [mI_set, if_neg (fun z => by have := (hd_inj (by omega) (by decide)).mp z.1; omega), mI_setL, e9, rd_ne (by decide) (by omega) (by omega), rd_ne (by decide) (by omega) (by omega), e5', mI_set, mI_set, mI_setL]
              · rw [eD]
                by_cases hq : f = 9 ∧ i = r ∧ j = 1
                · obtain ⟨rfl, rfl, rfl⟩ := hq
                  rw [ud_self, ud_self]
                · rw [ud_ne hq, ud_ne hq, carF_f _ (Or.inl h10)]
            · rw [rd_k (by decide), mI_setL, e9, rd_ne (by decide) (by decide) (by decide), rd_ne (by decide) (by decide) (by decide), e5', rd_ne (by decide) (by decide) (by decide), mI_setL]
              exact hC.mer
            · have e : mL (setI (setL μ9 (hd 81 w) Es.length x) (hd 65 w) 18 (nI (Es.length + 1))) (hd 75 w) b = mL μ (hd 75 w) b := by
                rw [mL_setI, mL_set, if_neg (fun z => hd_ne (by decide) (by decide) (by decide) z.1), e9, mL_setI, mL_setI, e5', mL_setI, mL_set, if_neg (fun z => hd_ne (by decide) (by decide) (by decide) z.1)]
              rw [e]
              exact (hC.wait hb).congr (fun s hs => by rw [send_f (by decide) (by decide)])
            · have e : mL (setI (setL μ9 (hd 81 w) Es.length x) (hd 65 w) 18 (nI (Es.length + 1))) (hd 78 w) r' = if r' = r then mL μ (hd 78 w) r ||| x else mL μ (hd 78 w) r' := by
                rw [mL_setI, mL_set, if_neg (fun z => hd_ne (by decide) (by decide) (by decide) z.1), e9, mL_setI, mL_setI, e5', mL_setI, mL_set]
                by_cases hq : r' = r
                · rw [if_pos ⟨rfl, hq⟩, if_pos hq]
                · rw [if_neg (fun z => hq z.2), if_neg hq]
              rw [e]
              by_cases hq : r' = r
              · subst hq
                rw [if_pos rfl]
                refine (hC.went hr').or hx (fun s hs => ?_)
                rw [hd10]
                by_cases hc : s < D 1 0 0 ∧ crC D r' s
                · rw [carF_in _ hc.1 hc.2]
                  exact ⟨fun _ => Or.inr hc, fun _ => by omega⟩
                · rw [carF_out _ hc]
                  exact ⟨fun z => Or.inl z, fun z => z.elim id (fun z => absurd z hc)⟩
              · rw [if_neg hq]
                exact (hC.went hr').congr (fun s hs => by rw [hd10, carF_f _ (Or.inr (Or.inl hq))])
            · obtain ⟨p1, p2, p3, p4, p5⟩ := PM.fr hC.2.2.2.2.2.2 fr mr (by unfold OwM; omega)
              exact ⟨p1, p2, p3, p4, fun r' hr' => by rw [send_f (by decide) (by decide), send_f (by decide) (by decide)]; exact p5 r' hr'⟩
          · refine ⟨by rw [rd_eq, List.length_append]; rfl, fun k e he => ?_⟩
            rw [rd_ne (by decide) (by decide) (by decide), mI_setL, rd_ne (by decide) (by decide) (by decide), mI_setL, mL_setI, mL_set]
            rcases Nat.lt_or_ge k Es.length with hk | hk
            · rw [List.getElem?_append_left hk] at he
              obtain ⟨y1, y2, y3⟩ := hE.2 k e he
              rw [if_neg (fun z => by omega), e9, rd_ne (by decide) (by decide) (by decide), rd_k (by omega), rd_k (by omega), rd_ne (by decide) (by decide) (by decide), mL_setI, mL_setI, e5', rd_ne (by decide) (by decide) (by decide), rd_ne (by decide) (by decide) (by decide), mL_setI, mI_setL, mI_setL, mL_set, if_neg (fun z => hd_ne (by decide) (by decide) (by decide) z.1)]
              exact ⟨y1, y2, y3⟩
            · rw [List.getElem?_append_right hk] at he
              have hk0 : k - Es.length = 0 := by
                rcases Nat.eq_zero_or_pos (k - Es.length) with z | z
                · exact z
                · rw [List.getElem?_eq_none (by simp; omega)] at he; cases he
              rw [hk0] at he
              have hkE : k = Es.length := by omega
              have he' : (r, D 0 0 0 + D 9 r 0, x) = e := Option.some.inj he
              rw [← he', hkE, if_pos ⟨rfl, rfl⟩, e9, rd_ne (by decide) (by decide) (by decide), rd_eq, rd_eq]
              exact ⟨rfl, rfl, rfl⟩
          · have hx0 : x ≠ 0 := fun z => by
              have := (hx s0 (by omega)).mpr ⟨q1, q2, q3⟩
              rw [z, bl_0] at this; cases this
            refine ⟨fun e he => ?_, fun r' s hr' hs => ?_⟩
            · rcases List.mem_append.mp he with he | he
              · obtain ⟨b1, b2, b3, b4, b5⟩ := hB.1 e he
                refine ⟨b1, b2, b3, b4, fun s hs hb => ?_⟩
                obtain ⟨c1, c2⟩ := b5 s hs hb
                refine ⟨c1, ?_⟩
                rw [hd10]
                by_cases hq : e.1 = r
                · rw [hq, carF_out _ (fun z => by have := z.2.1; rw [← hq] at this; omega), ← hq]; exact c2
                · rw [carF_f _ (Or.inr (Or.inl hq))]; exact c2
              · rw [List.mem_singleton] at he
                subst he
                refine ⟨hr, Nat.le_add_right _ _, by show D 0 0 0 + D 9 r 0 < _; omega, hx0, fun s hs hb => ?_⟩
                obtain ⟨c1, c2, c3⟩ := (hx s hs).mp hb
                refine ⟨c1, ?_⟩
                show sendD D r 10 r s = _
                rw [hd10, carF_in _ c2 c3]
            · rw [cE_app, hB.2 r' s hr' hs, hd10]
              by_cases hq : r' = r
              · subst hq
                by_cases hc : s < D 1 0 0 ∧ crC D r' s
                · rw [if_pos ⟨rfl, (hx s (by omega)).mpr ⟨hs, hc⟩⟩, carF_in _ hc.1 hc.2, hc.2.1, bN_f (by omega), bN_t (by omega)]
                · rw [if_neg (fun z => hc ((hx s (by omega)).mp z.2).2), carF_out _ hc]; rfl
              · rw [if_neg (fun z => hq z.1.symm), carF_f _ (Or.inr (Or.inl hq))]; rfl
      · rw [hC.cnt]; exact Int32.le_refl _
    · refine g_MS_send_5 (by omega) hw hS ⟨fun h => absurd h ?_, fun _ => ⟨v8, ?_⟩⟩
      · rw [hC.cnt]; exact nI_ge hk (by omega)
      rw [nI_clamp (by omega), (hC.pr hr).1]
      refine c_MS_knows hC (by omega) hS r1 hk ?_
      have no : ¬ crC D r k → Bs x (fun s => s < k + 1 ∧ crC D r s) := fun hn => hx.congr (fun s hs => ⟨fun z => ⟨by omega, z.2⟩, fun z => ⟨by
        rcases Nat.lt_succ_iff_lt_or_eq.mp z.1 with y | rfl
        · exact y
        · exact absurd z.2 hn, z.2⟩⟩)
      refine ⟨_, rfl, fun e => ?_, fun e => ⟨v8, ?_⟩⟩
      · rw [bI_z] at e
        rw [or0, nI_1]
        exact ih x (no (fun z => e z.2))
      · rw [bI_z, Classical.not_not] at e
        rw [(hC.went hr).t0 (by omega), Classical.not_not]
        refine ⟨fun z => ?_, fun z => ?_⟩
        · rw [nI_1]
          refine ih _ (hx.add (by omega) (fun s hs => ⟨fun y => ?_, fun y => ?_⟩))
          · rcases Nat.lt_succ_iff_lt_or_eq.mp y.1 with u | rfl
            · exact Or.inl ⟨u, y.2⟩
            · exact Or.inr rfl
          · rcases y with y | rfl
            · exact ⟨by omega, y.2⟩
            · exact ⟨by omega, z, e⟩
        · rw [or0, nI_1]
          exact ih x (no (fun y => z y.1))
  exact key 0 (Nat.zero_le _) 0 (Bs.zero (fun s _ z => absurd z.1 (Nat.not_lt_zero _)))
end MSE
