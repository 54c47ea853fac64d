/-! the model makes, hangs -/
section MSH
variable {d rc rs w mg : Nat} {Q : Option Value → Mu → Prop} {μ : Mu} {T : PT} {D : DT}
/-- only what may change in the model's world w, and no entry -/
def FrM (w : Nat) (μ μ' : Mu) : Prop := Fr (OwM w) μ μ' ∧ mR μ' = mR μ ∧ mI μ' (hd 65 w) 18 = mI μ (hd 65 w) 18 ∧ ∀ κ, 79 ≤ κ → κ ≤ 81 → ∀ k, mI μ' (hd κ w) k = mI μ (hd κ w) k ∧ mL μ' (hd κ w) k = mL μ (hd κ w) k
theorem FrM.rf {w : Nat} {μ : Mu} : FrM w μ μ := ⟨Fr.rf, rfl, rfl, fun _ _ _ _ => ⟨rfl, rfl⟩⟩
theorem FrM.trans {w : Nat} {μ1 μ2 μ3 : Mu} (h : FrM w μ1 μ2) (h' : FrM w μ2 μ3) : FrM w μ1 μ3 := ⟨h.1.trans h'.1, h'.2.1.trans h.2.1, h'.2.2.1.trans h.2.2.1, fun κ a b k => ⟨(h'.2.2.2 κ a b k).1.trans (h.2.2.2 κ a b k).1, (h'.2.2.2 κ a b k).2.trans (h.2.2.2 κ a b k).2⟩⟩
theorem FrM.setI {w κ k : Nat} {x : Int32} {μ μ' : Mu} (h : FrM w μ μ') (hκ : (65 ≤ κ ∧ κ ≤ 78) ∨ κ = 82) (hk : κ = 65 → k ≠ 18) : FrM w μ (setI μ' (hd κ w) k x) := by
  refine ⟨h.1.setI (by omega) ⟨by omega, rfl⟩, h.2.1, ?_, fun κ' a b j => ⟨?_, (h.2.2.2 κ' a b j).2⟩⟩
  · rw [mI_set, if_neg]
    · exact h.2.2.1
    · rintro ⟨z1, z2⟩
      exact hk ((hd_inj (by decide) (by omega)).mp z1).1.symm z2.symm
  · rw [rd_ne (by omega) (by omega) (by omega)]; exact (h.2.2.2 κ' a b j).1
theorem FrM.setL {w κ k : Nat} {x : Int64} {μ μ' : Mu} (h : FrM w μ μ') (hκ : 65 ≤ κ ∧ κ ≤ 78) : FrM w μ (setL μ' (hd κ w) k x) := by
  refine ⟨h.1.setL (by omega) ⟨by omega, rfl⟩, h.2.1, h.2.2.1, fun κ' a b j => ⟨(h.2.2.2 κ' a b j).1, ?_⟩⟩
  rw [mL_set, if_neg (fun z => hd_ne (by omega) (by omega) (by omega) z.1)]; exact (h.2.2.2 κ' a b j).2
theorem YE.frM {w : Nat} {μ μ' : Mu} {Es : List Ent} (h : YE μ w Es) (f : FrM w μ μ') : YE μ' w Es := by
  refine ⟨f.2.2.1.trans h.1, fun k e he => ?_⟩
  rw [(f.2.2.2 79 (by decide) (by decide) k).1, (f.2.2.2 80 (by decide) (by decide) k).1, (f.2.2.2 81 (by decide) (by decide) k).2]
  exact h.2 k e he
theorem c_MS_makeF {b n v m h : Nat} (hC : XN μ w T D mg) (hD : 2 ≤ d) (hS : St μ) (h60 : D 1 0 0 < 60) (hb : b < T 0 0) (hn : n < T 1 0) (hv : v ≤ 9999) (hm : m < 65536) (hh : h ≤ 2)
    (hQ : ∀ μ', FrM w μ μ' → St μ' → XN μ' w T (mkD T D b n v m h) (mg + bN (h = 2)) → Q (some (.int (nI (D 1 0 0)))) μ') : Cal K_MS_make d rc rs [.ref (hd 65 w), .int (nI b), .int (nI n), .int (nI v), .int (nI m), .int (nI h)] μ Q :=
  c_MS_make hC hD hS h60 hb hn hv hm hh (fun μ' f1 f2 f3 f4 f5 f6 => hQ μ' ⟨f1, f2, f3, f4⟩ f5 f6)
theorem c_MS_write {b n v : Nat} (hC : XN μ w T D mg) (hD : 4 ≤ d) (hS : St μ) (h60 : D 1 0 0 < 60) (hb : b < T 0 0) (hn : n < T 1 0) (hv : v ≤ 9999)
    (hQ : ∀ μ', FrM w μ μ' → St μ' → XN μ' w T (wrD T D b n v) mg → Q (some (.int (nI (D 1 0 0)))) μ') : Cal K_MS_write d rc rs [.ref (hd 65 w), .int (nI b), .int (nI n), .int (nI v)] μ Q := by
  have hw := hC.w2; have hN := hC.N6
  refine e_MS_write (g_MS_write_0 (by omega) hw hS (c_MS_marksOf hC (by omega) hS hb (by omega) ⟨_, rfl, ?_⟩))
  refine c_MS_makeF (h := 0) hC (by omega) hS h60 hb hn hv (marksB_lt hC.2.1 hb (by omega)) (by decide) (fun μ' f1 f2 f3 => ⟨_, rfl, f2, hQ μ' f1 f2 ?_⟩)
  rw [bN_f (by decide)] at f3; exact f3
theorem c_MS_merge {b n y : Nat} (hC : XN μ w T D mg) (hD : 4 ≤ d) (hS : St μ) (h60 : D 1 0 0 < 60) (hb : b < T 0 0) (hn : n < T 1 0) (hy : y < 3)
    (hQ : ∀ μ', FrM w μ μ' → St μ' → XN μ' w T (meD T D b n y) (mg + 1) → Q (some (.int (nI (D 1 0 0)))) μ') : Cal K_MS_merge d rc rs [.ref (hd 65 w), .int (nI b), .int (nI n), .int (nI y)] μ Q := by
  have hw := hC.w2; have hN := hC.N6
  refine e_MS_merge (g_MS_merge_0 (by omega) hw hS (c_MS_valueOf hC (by omega) hS hb (by omega) hy ⟨_, rfl, c_MS_marksOf hC (by omega) hS hb (by omega) ⟨_, rfl, ?_⟩⟩))
  refine c_MS_makeF (h := 2) hC (by omega) hS h60 hb hn (mergeV_le hC.2.1 hb (by omega)) (marksB_lt hC.2.1 hb (by omega)) (by decide) (fun μ' f1 f2 f3 => ⟨_, rfl, f2, hQ μ' f1 f2 ?_⟩)
  rw [bN_t rfl] at f3; exact f3
theorem least_one {b n : Nat} (hB : DB T D) (hb : b < T 0 0) (hn : n < 6) (h1 : (shL D b n).length = 1) : mergeV D b n 0 = valB D b n := by
  obtain ⟨v, hv⟩ := List.length_eq_one_iff.mp h1
  obtain ⟨v0, v1⟩ := shL_mem hB hb hn (v := v) (by rw [hv]; exact List.mem_cons_self)
  have := (hB.2.1 _ v1).2.2.1
  unfold mergeV leastB valB
  rw [if_pos rfl, hv, List.getD_cons_zero, if_neg v0]
  simp only [List.foldl_cons, List.foldl_nil]
  omega
theorem c_MS_note {b n k : Nat} (hC : XN μ w T D mg) (hD : 4 ≤ d) (hS : St μ) (h60 : D 1 0 0 < 60) (hb : b < T 0 0) (hn : n < T 1 0) (hk : k < 16) (h1 : (shL D b n).length = 1)
    (hQ : ∀ μ', FrM w μ μ' → St μ' → XN μ' w T (noD T D b n k) mg → Q (some (.int (nI (D 1 0 0)))) μ') : Cal K_MS_note d rc rs [.ref (hd 65 w), .int (nI b), .int (nI n), .int (nI k)] μ Q := by
  have hw := hC.w2; have hN := hC.N6
  refine e_MS_note (g_MS_note_0 (by omega) hw hS (c_MS_valueOf (y := 0) hC (by omega) hS hb (by omega) (by decide) ⟨_, rfl, c_MS_marksOf hC (by omega) hS hb (by omega) ⟨_, rfl, ?_⟩⟩))
  have hp : 2 ^ k < 2 ^ 16 := Nat.pow_lt_pow_right (by decide) hk
  rw [shl_1 k hk, nI_or, least_one hC.2.1 hb (by omega) h1]
  refine c_MS_makeF (h := 1) hC (by omega) hS h60 hb hn (valB_le hC.2.1 hb (by omega)) (Nat.or_lt_two_pow (n := 16) (marksB_lt hC.2.1 hb (by omega)) hp) (by decide) (fun μ' f1 f2 f3 => ⟨_, rfl, f2, hQ μ' f1 f2 ?_⟩)
  rw [bN_f (by decide)] at f3; exact f3
/-! hanging -/
theorem iand_b (p : Prop) (q : Prop) : bI p &&& bI q = bI (p ∧ q) := by
  by_cases hp : p
  · by_cases hq : q
    · rw [bI_t hp, bI_t hq, bI_t ⟨hp, hq⟩]; decide
    · rw [bI_t hp, bI_f hq, bI_f (fun z => hq z.2)]; decide
  · by_cases hq : q
    · rw [bI_f hp, bI_t hq, bI_f (fun z => hp z.1)]; decide
    · rw [bI_f hp, bI_f hq, bI_f (fun z => hp z.1)]; decide
theorem c_MS_canHang {b s : Nat} (hC : XN μ w T D mg) (hD : 2 ≤ d) (hS : St μ) (hN : NU T D) (hb : b < T 0 0) (hs : s < D 1 0 0) (hQ : Q (some (.int (bI (D 8 b s ≠ 0 ∧ cH D b s)))) μ) : Cal K_MS_canHang d rc rs [.ref (hd 65 w), .int (nI b), .int (nI s)] μ Q := by
  have hw := hC.w2; have hP := hC.P5; have h60 := hC.S60
  obtain ⟨a1, a2, a3, a4, a5, a6, a7⟩ := hC.shB hs
  obtain ⟨b1, b2, b3, b4, b5⟩ := hC.bdB hb
  have key : ∀ (X : Prop), (X ↔ D 8 b s ≠ 0 ∧ D 5 s (D 4 s 0) = D 6 b (D 4 s 0) + 1) → ∀ k, k ≤ T 0 0 → Wx K_MS_canHang d rc rs (fun r μ' => St μ' ∧ Q r μ') 51 [(0, .ref (hd 65 w)), (1, .int (nI b)), (2, .int (nI s)), (3, .int (bI (X ∧ ∀ p, p < k → p ≠ D 4 s 0 → D 5 s p ≤ D 6 b p))), (4, .int (nI k))] [] μ := by
    intro X hX
    refine up_loop _ ?_ (fun k hk ih => ?_)
    · refine g_MS_canHang_51 (by omega) hw hS ⟨fun _ => ⟨bI_01, hS, ?_⟩, fun h => absurd ?_ h⟩
      · rw [bI_congr (q := D 8 b s ≠ 0 ∧ cH D b s)]
        · exact hQ
        · rw [hX]
          unfold cH
          constructor
          · rintro ⟨⟨x1, x2⟩, x3⟩
            refine ⟨x1, fun p hp => ?_⟩
            by_cases hpa : p = D 4 s 0
            · rw [if_pos hpa, hpa]; exact x2
            · rw [if_neg hpa]
              by_cases hpP : p < T 0 0
              · exact x3 p hpP hpa
              · rw [hN.z5 hC.2.1 hs (by omega) hp]; exact Nat.zero_le _
          · rintro ⟨x1, x2⟩
            refine ⟨⟨x1, ?_⟩, fun p hp hpa => ?_⟩
            · have := x2 (D 4 s 0) (by omega); rw [if_pos rfl] at this; exact this
            · have := x2 p (by omega); rw [if_neg hpa] at this; exact this
      · rw [hC.pP]; exact Int32.le_refl _
    · have step : ∀ (y : Prop) (x : Int32), x = bI y → (y ↔ (k ≠ D 4 s 0 → D 5 s k ≤ D 6 b k)) → Wx K_MS_canHang d rc rs (fun r μ' => St μ' ∧ Q r μ') 51 [(0, .ref (hd 65 w)), (1, .int (nI b)), (2, .int (nI s)), (3, .int (bI (X ∧ ∀ p, p < k → p ≠ D 4 s 0 → D 5 s p ≤ D 6 b p) &&& x)), (4, .int (nI k + 1))] [] μ := fun y x hx hy => by
        rw [hx, iand_b, nI_1]
        rw [bI_congr (q := X ∧ ∀ p, p < k + 1 → p ≠ D 4 s 0 → D 5 s p ≤ D 6 b p)]
        · exact ih
        · rw [hy]
          constructor
          · rintro ⟨⟨x1, x2⟩, x3⟩
            refine ⟨x1, fun p hp => ?_⟩
            rcases Nat.lt_succ_iff_lt_or_eq.mp hp with z | rfl
            · exact x2 p z
            · exact x3
          · rintro ⟨x1, x2⟩
            exact ⟨⟨x1, fun p hp => x2 p (by omega)⟩, x2 k (by omega)⟩
      refine g_MS_canHang_51 (by omega) hw hS ⟨fun h => absurd h ?_, fun _ => ⟨vp_in_nI (by omega) (by decide), ?_⟩⟩
      · rw [hC.pP]; exact nI_ge hk (by omega)
      rw [nI_clamp (by omega), hC.s1 hs, nI_eq (by omega) (by omega)]
      refine ⟨fun z => step True 1 (bI_t trivial).symm ⟨fun _ h => absurd z h, fun _ => trivial⟩, fun z => ?_⟩
      refine c_MS_stampOf hC (by omega) hS hs (by omega) ⟨_, rfl, c_MS_numberOf hC (by omega) hS hb (by omega) ⟨_, rfl, ?_⟩⟩
      have := a7 k (by omega)
      have := b1 k (by omega)
      rw [nI_ltI (by omega) (by omega)]
      exact ⟨fun h => step False 0 (bI_f id).symm ⟨fun x => absurd x id, fun x => by have := x z; omega⟩, fun h => step True 1 (bI_t trivial).symm ⟨fun _ _ => by omega, fun _ => trivial⟩⟩
  refine e_MS_canHang (g_MS_canHang_0 (by omega) hw hS ⟨vp_in_nI (by omega) (by decide), ?_⟩)
  rw [nI_clamp (by omega), (hC.wait hb).t1 (by omega), nI_clamp (by omega), hC.s1 hs]
  refine ⟨fun z => ⟨vp_in_nI (by omega) (by decide), c_MS_stampOf hC (by omega) hS hs (by omega) ⟨_, rfl, vp_in_nI (by omega) (by decide), ?_⟩⟩, fun z => ?_⟩
  · rw [hC.s1 hs]
    refine c_MS_numberOf hC (by omega) hS hb (by omega) ⟨_, rfl, ?_⟩
    have := a7 (D 4 s 0) (by omega)
    have := b1 (D 4 s 0) (by omega)
    rw [I1, nI_add, nI_eq (by omega) (by omega)]
    refine ⟨fun e => ?_, fun e => ?_⟩
    · have hk := key True ⟨fun _ => ⟨z, e⟩, fun _ => trivial⟩ 0 (Nat.zero_le _)
      rw [bI_t ⟨trivial, fun p hp => absurd hp (Nat.not_lt_zero _)⟩] at hk
      exact hk
    · have hk := key False ⟨fun h => absurd h id, fun h => absurd h.2 e⟩ 0 (Nat.zero_le _)
      rw [bI_f (fun h => h.1)] at hk
      exact hk
  · have hk := key False ⟨fun h => absurd h id, fun h => absurd h.1 z⟩ 0 (Nat.zero_le _)
    rw [bI_f (fun h => h.1)] at hk
    exact hk
/-- can be hung -/
def hng (D : DT) (b s : Nat) : Prop := D 8 b s ≠ 0 ∧ cH D b s
theorem c_MS_next {b : Nat} (hC : XN μ w T D mg) (hD : 3 ≤ d) (hS : St μ) (hN : NU T D) (hb : b < T 0 0) (hQ : ∀ s, s ≤ D 1 0 0 → (∀ t, t < s → ¬ hng D b t) → (s < D 1 0 0 → hng D b s) → Q (some (.int (nI s))) μ) : Cal K_MS_next d rc rs [.ref (hd 65 w), .int (nI b)] μ Q := by
  have hw := hC.w2; have hP := hC.P5; have h60 := hC.S60
  refine e_MS_next (g_MS_next_0 (by omega) hw hS ?_)
  have key : ∀ k, k ≤ D 1 0 0 → (∀ t, t < k → ¬ hng D b t) → Wx K_MS_next d rc rs (fun r μ' => St μ' ∧ Q r μ') 2 [(0, .ref (hd 65 w)), (1, .int (nI b)), (2, .int (nI k))] [] μ := by
    refine up_loop _ (fun h => ?_) (fun k hk ih h => ?_)
    · refine g_MS_next_2 (by omega) hw hS ⟨fun _ => ⟨hS, hQ _ (Nat.le_refl _) h (fun z => absurd z (Nat.lt_irrefl _))⟩, fun h => absurd ?_ h⟩
      rw [hC.cnt]; exact Int32.le_refl _
    · refine g_MS_next_2 (by omega) hw hS ⟨fun h => absurd h ?_, fun _ => c_MS_canHang hC (by omega) hS hN hb hk ⟨_, rfl, fun e => ?_, fun e => ?_⟩⟩
      · rw [hC.cnt]; exact nI_ge hk (by omega)
      · rw [bI_z] at e
        rw [nI_1]
        refine ih (fun t ht => ?_)
        rcases Nat.lt_succ_iff_lt_or_eq.mp ht with z | rfl
        · exact h t z
        · exact e
      · rw [bI_z, Classical.not_not] at e
        exact ⟨hS, hQ k (by omega) h (fun _ => e)⟩
  exact key 0 (Nat.zero_le _) (fun t ht => absurd ht (Nat.not_lt_zero _))
theorem XN.setW {b : Nat} {x : Int64} {v8 : Nat} {s : Nat} (h : XN μ w T D mg) (hb5 : b < T 0 0) (hB : DB T (ud D 8 b s v8)) (hx : Bs x (fun t => ud D 8 b s v8 8 b t ≠ 0)) : XN (setL μ (hd 75 w) b x) w T (ud D 8 b s v8) mg := by
  obtain ⟨h1, h2, h3, h4, h5, h6, h7⟩ := h
  refine ⟨h1, hB, ?_, h4, fun c hc => ?_, fun r hr => ?_, ?_⟩
  · rw [show ud D 8 b s v8 1 0 0 = D 1 0 0 from ud_f (by decide)]
    exact YR.congr h3 (fun f i j a _ _ _ => ud_f a)
  · rw [mL_set]
    by_cases hcb : c = b
    · rw [if_pos ⟨rfl, hcb⟩, hcb]; exact hx
    · rw [if_neg (fun z => hcb z.2)]
      exact (h5 c hc).congr (fun t ht => by rw [ud_ne (fun z => hcb z.2.1)])
  · rw [mL_set, if_neg (fun z => hd_ne (by decide) (by decide) (by decide) z.1)]
    exact (h6 r hr).congr (fun t ht => by rw [ud_f (by decide)])
  · obtain ⟨p1, p2, p3, p4, p5⟩ := h7
    exact ⟨p1, p2, p3, p4, fun r hr => by rw [ud_f (by decide), ud_f (by decide)]; exact p5 r hr⟩
theorem XN.set11 {b v : Nat} (h : XN μ w T D mg) (hB : DB T (ud D 11 b 0 v)) : XN μ w T (ud D 11 b 0 v) mg :=
  h.congr hB (fun f i j _ h11 => ud_f h11) (fun c s _ _ => by rw [ud_f (by decide)])
theorem c_MS_hang {b s : Nat} (hC : XN μ w T D mg) (hD : 3 ≤ d) (hS : St μ) (hb : b < T 0 0) (hs : s < D 1 0 0) (hch : hng D b s)
    (hQ : ∀ μ', FrM w μ μ' → St μ' → XN μ' w T (hangD T D b s) mg → Q none μ') : Cal K_MS_hang d rc rs [.ref (hd 65 w), .int (nI b), .int (nI s)] μ Q := by
  have hw := hC.w2; have hP := hC.P5; have h60 := hC.S60; have hN := hC.N6
  obtain ⟨a1, a2, a3, a4, a5, a6, a7⟩ := hC.shB hs
  obtain ⟨b1, b2, b3, b4, b5⟩ := hC.bdB hb
  refine e_MS_hang (g_MS_hang_0 (by omega) hw hS ?_)
  rw [nI_clamp (by omega), nI_clamp (by omega), hC.s1 hs, I5, nI_mul, nI_add, nI_clamp (by omega), hC.num hb (by omega), I1, nI_add]
  have v1 : vp_in (nI (5 * b + D 4 s 0)) 25 := vp_in_nI (by omega) (by decide)
  have v2 : vp_in (nI b) 5 := vp_in_nI (by omega) (by decide)
  refine ⟨vp_in_nI (by omega) (by decide), v1, v1, v2, v2, fun μ6 e6 => ?_⟩
  have hk := hch.2 (D 4 s 0) (by omega)
  rw [if_pos rfl] at hk
  have hst := a7 (D 4 s 0) (by omega)
  have hC1 := hC.set (f := 6) (i := b) (j := D 4 s 0) (v := D 6 b (D 4 s 0) + 1) (by decide) ⟨by omega, by omega⟩ (hC.2.1.ud6 (by omega))
  have hw0 := hC1.wait hb
  have hC2 := hC1.setW (s := s) (v8 := 0) hb (hC1.2.1.ud8 (by decide)) (hw0.del (k := s) (by omega) (fun t ht => by
    by_cases hts : t = s
    · subst hts
      rw [ud_self]
      exact ⟨fun z => absurd rfl z, fun z => absurd rfl z.2⟩
    · rw [ud_ne (fun z => hts z.2.2)]
      exact ⟨fun z => ⟨z, hts⟩, fun z => z.1⟩))
  have hC3 := hC2.set11 (b := b) (v := D 11 b 0 - 1) (hC2.2.1.ud11 (by omega))
  have eD : ud (ud (ud D 6 b (D 4 s 0) (D 6 b (D 4 s 0) + 1)) 8 b s 0) 11 b 0 (D 11 b 0 - 1) = ud (ud (ud D 8 b s 0) 11 b 0 (D 11 b 0 - 1)) 6 b (D 4 s 0) (D 6 b (D 4 s 0) + 1) := by
    funext f i j
    unfold ud
    by_cases h6 : f = 6
    · subst h6; simp
    · by_cases h8 : f = 8
      · subst h8; simp
      · by_cases h11 : f = 11
        · subst h11; simp
        · simp [h6, h8, h11]
  rw [eD] at hC3
  have hC3' : XN μ6 w T (ud (ud (ud D 8 b s 0) 11 b 0 (D 11 b 0 - 1)) 6 b (D 4 s 0) (D 6 b (D 4 s 0) + 1)) mg := by rw [e6]; exact hC3
  have fr3 : FrM w μ μ6 := by
    rw [e6]
    exact (FrM.rf.setI (by decide) (fun z => absurd z (by decide))).setL (by decide)
  have hS3 : St μ6 := hS.of_eq fr3.1.1 fr3.2.1
  clear hC1 hC2 hC3 hw0 e6 eD
  generalize hD1 : ud (ud (ud D 8 b s 0) 11 b 0 (D 11 b 0 - 1)) 6 b (D 4 s 0) (D 6 b (D 4 s 0) + 1) = D1 at hC3'
  have d4 : ∀ i j, D1 4 i j = D 4 i j := fun i j => by rw [← hD1]; rfl
  have d1 : D1 1 0 0 = D 1 0 0 := by rw [← hD1]; rfl
  have d2 : D1 2 0 0 = D 2 0 0 := by rw [← hD1]; rfl
  have hQ' : ∀ μ', FrM w μ μ' → St μ' → XN μ' w T (ud (ud (clrD D1 b s (T 0 0)) 7 b (5 * D 4 s 1 + D 4 s 0) (s + 1)) 2 0 0 (D 2 0 0 + 1)) mg → Q none μ' := fun μ' f1 f3 f4 => hQ μ' f1 f3 (by unfold hangD; rw [hD1]; exact f4)
  have key : ∀ k, k ≤ 5 → ∀ μ', FrM w μ μ' → St μ' → XN μ' w T (clrD D1 b s (min k (T 0 0))) mg → Wx K_MS_hang d rc rs (fun r μ' => St μ' ∧ Q r μ') 37 [(0, .ref (hd 65 w)), (1, .int (nI b)), (2, .int (nI s)), (3, .int (nI k))] [] μ' := by
    refine up_loop _ (fun μ' f1 f3 f4 => ?_) (fun k hk ih μ' f1 f3 f4 => ?_)
    · rw [show min 5 (T 0 0) = T 0 0 by omega] at f4
      have c4 : ∀ i j, clrD D1 b s (T 0 0) 4 i j = D 4 i j := fun i j => (clrD_f _ _ _ _ (Or.inl (by decide))).trans (d4 i j)
      have c1 : clrD D1 b s (T 0 0) 1 0 0 = D 1 0 0 := (clrD_f _ _ _ _ (Or.inl (by decide))).trans d1
      have hs' : s < clrD D1 b s (T 0 0) 1 0 0 := by rw [c1]; exact hs
      refine g_MS_hang_37 (by omega) hw f3 ⟨fun _ => ?_, fun h => absurd (by decide) h⟩
      rw [nI_clamp (by omega), f4.s1 hs', f4.s2 hs', c4, c4]
      have v60 : vp_in (nI s) 60 := vp_in_nI (by omega) (by decide)
      refine ⟨v60, v60, c_MS_spot (by omega) f3 hw ⟨_, rfl, vp_in_nI (by omega) (by decide), ?_⟩⟩
      rw [nI_clamp (by omega)]
      have g1 := f4.set (f := 7) (i := b) (j := 5 * D 4 s 1 + D 4 s 0) (v := s + 1) (by decide) ⟨by omega, by omega⟩ (f4.2.1.ud7 (by rw [c1]; omega) (fun _ => by rw [Nat.add_sub_cancel, c4, c4]; omega))
      have g1' : XN (setI μ' (hd 74 w) (30 * b + (5 * D 4 s 1 + D 4 s 0)) (nI s)) w T (ud (clrD D1 b s (T 0 0)) 7 b (5 * D 4 s 1 + D 4 s 0) (s + 1)) mg := by rw [← oI_s]; exact g1
      have g2 := g1'.set (f := 2) (i := 0) (j := 0) (v := D 2 0 0 + 1) (by decide) ⟨rfl, rfl⟩ g1'.2.1.ud2
      have q : mI (setI μ' (hd 74 w) (30 * b + (5 * D 4 s 1 + D 4 s 0)) (nI s)) (hd 65 w) 2 + 1 = nI (D 2 0 0 + 1) := by
        rw [g1'.hung, I1, nI_add, ud_f (by decide), clrD_f _ _ _ _ (Or.inl (by decide)), d2]
      rw [q]
      have hSt : St (setI (setI μ' (hd 74 w) (30 * b + (5 * D 4 s 1 + D 4 s 0)) (nI s)) (hd 65 w) 2 (nI (D 2 0 0 + 1))) := f3
      exact ⟨hSt, hQ' _ ((f1.setI (by decide) (fun z => absurd z (by decide))).setI (by decide) (by decide)) hSt g2⟩
    · have c4 : ∀ i j, clrD D1 b s (min k (T 0 0)) 4 i j = D 4 i j := fun i j => (clrD_f _ _ _ _ (Or.inl (by decide))).trans (d4 i j)
      have c5 : ∀ i j, clrD D1 b s (min k (T 0 0)) 5 i j = D1 5 i j := fun i j => (clrD_f _ _ _ _ (Or.inl (by decide)))
      have c1 : clrD D1 b s (min k (T 0 0)) 1 0 0 = D 1 0 0 := (clrD_f _ _ _ _ (Or.inl (by decide))).trans d1
      have c7 : clrD D1 b s (min k (T 0 0)) 7 b (5 * D 4 s 1 + k) = D1 7 b (5 * D1 4 s 1 + k) := by rw [clrD_ge _ _ (by rw [d4]; omega), d4]
      have hs' : s < clrD D1 b s (min k (T 0 0)) 1 0 0 := by rw [c1]; exact hs
      have hv60 : vp_in (nI s) 60 := vp_in_nI (by omega) (by decide)
      have hz : ¬ k < T 0 0 → D1 7 b (5 * D1 4 s 1 + k) = 0 := fun h => by
        rw [← c7]; exact f4.2.1.shZ hb (by omega) (by omega) hk
      refine g_MS_hang_37 (by omega) hw f3 ⟨fun h => absurd h (nI_ge hk (by decide)), fun _ => ⟨hv60, ?_⟩⟩
      rw [nI_clamp (by omega), f4.s2 hs', c4]
      refine c_MS_spot (by omega) f3 hw ⟨_, rfl, vp_in_nI (by omega) (by decide), ?_⟩
      rw [nI_clamp (by omega), f4.shw hb (by omega), c7]
      have e3 := (f4.bdB hb).2.1 (5 * D 4 s 1 + k) (by omega)
      rw [c7, c1] at e3
      have keep : ∀ μ', FrM w μ μ' → St μ' → XN μ' w T (clrD D1 b s (min k (T 0 0))) mg → ¬ (D1 7 b (5 * D1 4 s 1 + k) ≠ 0 ∧ ah D1 (D1 7 b (5 * D1 4 s 1 + k) - 1) s) → Wx K_MS_hang d rc rs (fun r μ' => St μ' ∧ Q r μ') 37 [(0, .ref (hd 65 w)), (1, .int (nI b)), (2, .int (nI s)), (3, .int (nI k + 1))] [] μ' := fun μ' f1 f3 f4 hn => by
        rw [nI_1]
        refine ih μ' f1 f3 ?_
        by_cases hkP : k < T 0 0
        · rw [show min (k + 1) (T 0 0) = k + 1 by omega, clrD, if_neg hn]
          rw [show min k (T 0 0) = k by omega] at f4; exact f4
        · rw [show min (k + 1) (T 0 0) = min k (T 0 0) by omega]; exact f4
      rw [oI_m1 (by omega)]
      refine ⟨fun z => keep μ' f1 f3 f4 (fun y => y.1 z), fun z => ?_⟩
      have ht : D1 7 b (5 * D1 4 s 1 + k) - 1 < clrD D1 b s (min k (T 0 0)) 1 0 0 := by rw [c1]; omega
      rw [oI_p (by omega)]
      refine c_MS_isAhead f4 (by omega) f3 ht hs' ?_
      have hah : ah (clrD D1 b s (min k (T 0 0))) (D1 7 b (5 * D1 4 s 1 + k) - 1) s = ah D1 (D1 7 b (5 * D1 4 s 1 + k) - 1) s := by
        simp only [ah, c5, c4, d4]
      rw [hah]
      refine ⟨_, rfl, fun y => ?_, fun y => ⟨hv60, ?_⟩⟩
      · rw [bI_z] at y
        exact keep μ' f1 f3 f4 (fun x => y x.2)
      · rw [bI_z, Classical.not_not] at y
        rw [f4.s2 hs', c4]
        refine c_MS_spot (by omega) f3 hw ⟨_, rfl, vp_in_nI (by omega) (by decide), ?_⟩
        rw [nI_clamp (by omega), nI_1]
        have hkP : k < T 0 0 := Classical.byContradiction (fun h => z (hz h))
        have g1 := f4.set (f := 7) (i := b) (j := 5 * D 4 s 1 + k) (v := 0) (by decide) ⟨by omega, by omega⟩ (f4.2.1.ud7 (Nat.zero_le _) (fun x => absurd rfl x))
        have hSt : St (setI μ' (hd 74 w) (30 * b + (5 * D 4 s 1 + k)) (-1)) := f3
        refine ih _ (f1.setI (by decide) (fun z => absurd z (by decide))) hSt ?_
        rw [show min (k + 1) (T 0 0) = k + 1 by omega, clrD, if_pos ⟨z, y⟩, d4]
        rw [show min k (T 0 0) = k by omega] at g1
        exact g1
  exact key 0 (Nat.zero_le _) μ6 fr3 hS3 (by rw [show min 0 (T 0 0) = 0 by omega]; exact hC3')
end MSH
