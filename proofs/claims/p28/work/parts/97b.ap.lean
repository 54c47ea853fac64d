/-! text: what is put behind -/
section APS
variable {d rc rs : Nat} {Q : Option Value → Mu → Prop} {μ μ' : Mu} {c κ i v n m M : Nat} {X Y : List Nat}
theorem c9_coder {κb ib κa ia : Nat} (h : StrR μ κb ib κa ia Y) (hD : 1 ≤ d) (hS : S8 μ) (hQ : Q (some (.int 0)) μ) : CalS K_Str_coder_7d493 d rc rs [.ref (hd κb ib)] μ Q := by
  refine z_Str_coder_7d493 (y_Str_coder_7d493_0 hD ⟨h.1, ?_⟩)
  rw [h.2.1]
  exact ⟨rfl, hS, hQ⟩
theorem c9_lat {κb ib κa ia : Nat} (h : StrR μ κb ib κa ia Y) (hD : 1 ≤ d) (hS : S8 μ) (hQ : Q (some (.int 1)) μ) : CalS K_Str_isLatin1_aae02 d rc rs [.ref (hd κb ib)] μ Q :=
  z_Str_isLatin1_aae02 (y_Str_isLatin1_aae02_0 hD ⟨h.1, fun _ => ⟨hS, hQ⟩, fun z => absurd h.2.1 z⟩)
theorem c9_len {κb ib κa ia : Nat} (h : StrR μ κb ib κa ia Y) (hD : 2 ≤ d) (hS : S8 μ) (hQ : Q (some (.int (nI Y.length))) μ) : CalS K_Str_length_8abf5 d rc rs [.ref (hd κb ib)] μ Q := by
  refine z_Str_length_8abf5 (y_Str_length_8abf5_0 (by omega) ⟨h.1, _, h.2.2.1, _, h.2.2.2.1, h.1, c9_coder h (by omega) hS ⟨0, rfl, hS, ?_⟩⟩)
  rw [sh_0]; exact hQ
theorem c9_get {κb ib κa ia vd p : Nat} (h : StrR μ κb ib κa ia Y) (hD : 2 ≤ d) (hS : S8 μ) (hY : Y.length < 2 ^ 30) (hp : p < 2 ^ 30) (hA : mS μ (hd 132 vd) = (4, n)) (hpn : p + Y.length ≤ n) (hQ : ∀ μ', μ' = cpG μ (hd κa ia) (hd 132 vd) 0 p Y.length → S8 μ' → Q none μ') : CalS K_Str_getBytes_840e7 d rc rs [.ref (hd κb ib), .ref (hd 132 vd), .int (nI p), .int 0] μ Q := by
  refine z_Str_getBytes_840e7 (y_Str_getBytes_840e7_0 (by omega) ⟨h.1, c9_coder h (by omega) hS ⟨0, rfl, fun _ => ⟨h.1, _, h.2.2.1, h.1, _, h.2.2.1, _, h.2.2.2.1, ?_⟩, fun z => absurd rfl z⟩⟩)
  rw [sl_0, nI_clamp (show p < 2 ^ 31 by omega), nI_clamp (show Y.length < 2 ^ 31 by omega)]
  refine ⟨_, n, ⟨h.2.2.2.1, hA, hi_hd (by decide) (by decide), by decide, ip0 (by omega), ip0 (by omega), by show 0 + Y.length ≤ Y.length; omega, hpn⟩, fun k hk => ?_, ?_⟩
  · show fits .byte (.int (gI μ (hd κa ia) (0 + k))) = true
    rw [Nat.zero_add, h.2.2.2.2.2 k hk]; exact (by_f _ (gD_lt h.2.2.2.2.1 hk)).1
  · have S' : S8 (cpG μ (hd κa ia) (hd 132 vd) 0 p Y.length) := hS.lo (Lo.cpG (hi_hd (by decide) (by decide)))
    exact ⟨S', hQ _ rfl S'⟩
theorem cpG_I {a0 a sp dp k b : Nat} (h : 100 ≤ b % 256) : gI (cpG μ a0 a sp dp m) b k = if b = a then (if dp ≤ k ∧ k < dp + m then gI μ a0 (sp + (k - dp)) else gI μ b k) else gI μ b k := by
  rw [gI_hi (show hiN b from h)]
  show (if b = a then va_cpy (gI μ a0) (mI μ a) sp dp m k else mI μ b k) = _
  by_cases e : b = a
  · rw [if_pos e, if_pos e]
    unfold va_cpy
    split
    · rfl
    · rw [← e, gI_hi (show hiN b from h)]
  · rw [if_neg e, if_neg e, gI_hi (show hiN b from h)]
theorem FrS.cg {own : Nat → Nat → Prop} {κ i a0 sp dp n : Nat} (h : FrS own μ μ') (hκ : κ < 256) (ho : own κ i) : FrS own μ (cpG μ' a0 (hd κ i) sp dp n) := fun κ' i' a b => by
  have ne : hd κ' i' ≠ hd κ i := fun z => by obtain ⟨rfl, rfl⟩ := (hd_inj a hκ).mp z; exact b ho
  exact ⟨(h κ' i' a b).1, fun k => ⟨(if_neg ne).trans ((h κ' i' a b).2 k).1, ((h κ' i' a b).2 k).2⟩⟩
/-- there is room for m -/
theorem c9_ens (h : SbV μ κ i v n X) (hκ : 100 ≤ κ ∧ κ < 256 ∧ κ ≠ 132) (hf : FC μ c) (hv : v < c) (hD : 3 ≤ d) (hS : S8 μ) (hm : X.length ≤ m ∧ m ≤ M) (hM : M ≤ 5000) (hc : 1 ≤ rc) (hs : 2 * M + 2 ≤ rs)
    (hQ : ∀ μ' v' n', (v' = v ∨ v' = c) → m ≤ n' → FrS (OwV κ i v c (c + 1)) μ μ' → S8 μ' → SbV μ' κ i v' n' X → Q none μ') : CalS K_AB_ensureCapacityInternal_d00df d rc rs [.ref (hd κ i), .int (nI m)] μ Q := by
  obtain ⟨h1, h2, h3, h4, h5, h6, h7, h8, h9, h10⟩ := id h
  refine z_AB_ensureCapacityInternal_d00df (y_AB_ensureCapacityInternal_d00df_0 (by omega) ⟨h1, _, h4, _, h5, h1, ?_⟩)
  rw [h2, sh_0]
  refine ⟨fun z => ?_, fun z => ?_⟩
  · exact ⟨hS, hQ μ v n (Or.inl rfl) ((sub_le (by omega) (by omega)).mp z) FrS.rf hS h⟩
  · have hmn : n < m := Nat.lt_of_not_le (fun y => z ((sub_le (by omega) (by omega)).mpr y))
    refine ⟨h1, _, h4, h1, z_AB_newCapacity_0f7a4 (y_AB_newCapacity_0f7a4_0 (by omega) ⟨h1, _, h4, _, h5, h1, h1, ?_⟩)⟩
    rw [h2, sl_0, nI_sub (Nat.le_of_lt hmn), show nI n + ((2 : Int32) <<< ((0 : Int32) &&& 31)) = nI (n + 2) by rw [sl_0, I2, nI_add]]
    have hx : imax (nI (m - n)) (nI (n + 2)) = nI (max (m - n) (n + 2)) := imax_nI (by omega) (by omega)
    generalize hN : n + max (m - n) (n + 2) = N
    have hN1 : m ≤ N ∧ N ≤ 2 * M + 2 ∧ n < N := by omega
    have hNle : nI N ≤ 0 ↔ N ≤ 0 := nI_leI (b := 0) (by omega) (by decide)
    have hNb : ((2147483639 : Int32) < nI N) ↔ 2147483639 < N := nI_ltI (a := 2147483639) (by decide) (by omega)
    refine z_Asu_newLength_cabcc (y_Asu_newLength_cabcc_0 (by omega) ?_)
    rw [hx, nI_add, hN]
    refine ⟨fun y => absurd (hNle.mp y) (by omega), fun _ => ⟨fun y => absurd (hNb.mp y) (by omega), fun _ => ⟨hS, _, rfl, fun y => ?_, fun _ => ?_⟩⟩⟩
    · have := (nI_eq (a := N) (b := 2147483647) (by omega) (by decide)).mp y; omega
    · rw [h2, sh_0]
      refine ⟨h1, hS, _, rfl, h1, 1, N, ⟨by omega, by omega⟩, ?_⟩
      rw [sl_0]
      refine z_Ars_copyOf_9075b (y_Ars_copyOf_9075b_0 (by omega) ⟨n, h5, fun y => ?_, fun _ => ?_⟩)
      · have := (nI_eq (by omega) (by omega)).mp y; omega
      · rw [nI_clamp (show N < 2 ^ 31 by omega)]
        have him : imin (nI n) (nI N) = nI n := by rw [imin_nI (by omega) (by omega), show min n N = n by omega]
        have fq : FreN μ (hd 132 c) := hf.fr (by decide) (by decide)
        have ne : hd 132 v ≠ hd 132 c := fun e => by have := ((hd_inj (by decide) (by decide)).mp e).2; omega
        have nk : hd κ i ≠ hd 132 c := hd_ne hκ.2.1 (by decide) hκ.2.2
        have s0 : mS (mkA μ (hd 132 c) (4, N)) (hd 132 v) = (4, n) := (if_neg ne).trans h5
        have s1 : mS (mkA μ (hd 132 c) (4, N)) (hd 132 c) = (4, N) := if_pos rfl
        have s2 : mS (mkA μ (hd 132 c) (4, N)) (hd κ i) = (1, 12) := (if_neg nk).trans h1
        have hg : ∀ k, gI (mkA μ (hd 132 c) (4, N)) (hd 132 v) k = gI μ (hd 132 v) k := fun k => by rw [gI_h (by decide) (by decide), gI_h (by decide) (by decide)]; exact if_neg ne
        have hb : hiN (hd κ i) := hi_hd hκ.1 hκ.2.1
        have f1 : FrS (OwV κ i v c (c + 1)) μ (setR (cpG (mkA μ (hd 132 c) (4, N)) (hd 132 v) (hd 132 c) 0 0 n) (hd κ i) 0 (hd 132 c)) :=
          ((FrS.rf.mk (by decide) (by unfold OwV Dy; omega)).cg (by decide) (by unfold OwV Dy; omega)).sR hκ.2.1 (by unfold OwV; omega)
        have S1 := f1.s8 (fun κ i z => z.lo hκ.1) hS
        have S0 : S8 (cpG (mkA μ (hd 132 c) (4, N)) (hd 132 v) (hd 132 c) 0 0 n) := ((FrS.rf.mk (own := OwV κ i v c (c + 1)) (by decide) (by unfold OwV Dy; omega)).cg (by decide) (by unfold OwV Dy; omega)).s8 (fun κ i z => z.lo hκ.1) hS
        have gk : ∀ k, gI (setR (cpG (mkA μ (hd 132 c) (4, N)) (hd 132 v) (hd 132 c) 0 0 n) (hd κ i) 0 (hd 132 c)) (hd κ i) k = gI μ (hd κ i) k := fun k => by
          have : gI (cpG (mkA μ (hd 132 c) (4, N)) (hd 132 v) (hd 132 c) 0 0 n) (hd κ i) k = gI μ (hd κ i) k := by
            rw [cpG_I hb, if_neg nk, gI_hi hb, gI_hi hb]; exact if_neg nk
          rw [← this, gI_hi hb, gI_hi hb]; rfl
        have ga : ∀ k, gI (setR (cpG (mkA μ (hd 132 c) (4, N)) (hd 132 v) (hd 132 c) 0 0 n) (hd κ i) 0 (hd 132 c)) (hd 132 c) k = if k < n then gI μ (hd 132 v) k else 0 := fun k => by
          have : gI (cpG (mkA μ (hd 132 c) (4, N)) (hd 132 v) (hd 132 c) 0 0 n) (hd 132 c) k = if k < n then gI μ (hd 132 v) k else 0 := by
            rw [cpG_I (hi_hd (by decide) (by decide)), if_pos rfl]
            by_cases hk : k < n
            · rw [if_pos ⟨Nat.zero_le _, by omega⟩, if_pos hk, hg, Nat.sub_zero, Nat.zero_add]
            · rw [if_neg (by omega), if_neg hk, gI_h (by decide) (by decide)]; exact if_pos rfl
          rw [← this, gI_h (by decide) (by decide), gI_h (by decide) (by decide)]; rfl
        refine ⟨⟨ip0 (by omega), by omega, by omega, by omega⟩, hd 132 c, fq, n, s0, ?_⟩
        rw [him, nI_clamp (show n < 2 ^ 31 by omega)]
        refine ⟨n, N, ⟨s0, s1, hi_hd (by decide) (by decide), by decide, by decide, ip0 (by omega), by show 0 + n ≤ n; omega, by show 0 + n ≤ N; omega⟩, fun k hk => ?_, S0, _, rfl, ⟨s2, hb⟩, ?_⟩
        · show fits .byte (.int (gI (mkA μ (hd 132 c) (4, N)) (hd 132 v) (0 + k))) = true
          rw [Nat.zero_add, hg]
          obtain ⟨b, b1, b2⟩ := h10 k hk
          rw [b2]; exact (by_f b b1).1
        · refine ⟨S1, hQ _ c N (Or.inr rfl) hN1.1 f1 S1 ⟨s2, (gk 1).trans h2, (gk 3).trans h3, ?_, s1, by omega, by omega, h8, fun k hk => ?_, fun k hk => ?_⟩⟩
          · rw [gR_h hκ.1 hκ.2.1, R_eq]
          · exact (ga k).trans (by rw [if_pos (by omega)]; exact h9 k hk)
          · have e := ga k
            by_cases hk' : k < n
            · rw [if_pos hk'] at e
              obtain ⟨b, b1, b2⟩ := h10 k hk'
              exact ⟨b, b1, e.trans b2⟩
            · rw [if_neg hk'] at e
              exact ⟨0, by decide, e⟩
/-- a string is put behind -/
theorem c9_put {κb ib κa ia : Nat} (h : SbV μ κ i v n X) (hκ : 100 ≤ κ ∧ κ < 256 ∧ κ ≠ 132) (hY : StrR μ κb ib κa ia Y) (hbw : κb < 256 ∧ κa < 256 ∧ ¬ (κa = 132 ∧ ia = v) ∧ ¬ (κa = κ ∧ ia = i)) (hD : 3 ≤ d) (hS : S8 μ) (hn : X.length + Y.length ≤ n)
    (hQ : ∀ μ', FrS (OwV κ i v c (c + 1)) μ μ' → S8 μ' → SbV μ' κ i v n (X ++ Y) → Q (some (.ref (hd κ i))) μ') :
    CalS K_AB_putStringAt_47b60 d rc rs [.ref (hd κ i), .int (nI X.length), .ref (hd κb ib)] μ (fun r μ11 => r = none ∧ (mS μ11 (hd κ i) = (1, 12) ∧ ((mS μ11 (hd κ i) = (1, 12) ∧ hiN (hd κ i)) ∧ S8 (setI μ11 (hd κ i) 3 ((gI μ11 (hd κ i) 3) + nI Y.length)) ∧ Q (some (.ref (hd κ i))) (setI μ11 (hd κ i) 3 ((gI μ11 (hd κ i) 3) + nI Y.length))))) := by
  obtain ⟨h1, h2, h3, h4, h5, h6, h7, h8, h9, h10⟩ := id h
  have hb : hiN (hd κ i) := hi_hd hκ.1 hκ.2.1
  have hb2 : hiN (hd 132 v) := hi_hd (by decide) (by decide)
  have nk : hd κ i ≠ hd 132 v := hd_ne hκ.2.1 (by decide) hκ.2.2
  have nab : hd κa ia ≠ hd 132 v := fun e => hbw.2.2.1 ((hd_inj hbw.2.1 (by decide)).mp e)
  refine z_AB_putStringAt_47b60 (y_AB_putStringAt_47b60_0 (by omega) ⟨h1, z_AB_inflateIfNeededFor_a7421 (y_AB_inflateIfNeededFor_a7421_0 (by omega) ⟨h1, hY.1, c9_coder hY (by omega) hS ⟨0, rfl, fun _ => ⟨hS, rfl, h1, _, h4, h1, hY.1, ?_⟩, fun z => absurd h2 z⟩⟩)⟩)
  rw [h2]
  refine c9_get hY (by omega) hS (by omega) (by omega) h5 hn (fun μ2 e2 S2 => ⟨rfl, S2, rfl, ?_⟩)
  have s2 : mS μ2 (hd κ i) = (1, 12) := by rw [e2]; exact h1
  have g2 : ∀ k, gI μ2 (hd κ i) k = gI μ (hd κ i) k := fun k => by rw [e2, cpG_I hb, if_neg nk]
  have a2 : ∀ k, gI μ2 (hd 132 v) k = if X.length ≤ k ∧ k < X.length + Y.length then gI μ (hd κa ia) (0 + (k - X.length)) else gI μ (hd 132 v) k := fun k => by rw [e2, cpG_I (hi_hd (by decide) (by decide)), if_pos rfl]
  have f2 : FrS (OwV κ i v c (c + 1)) μ (setI μ2 (hd κ i) 3 (gI μ2 (hd κ i) 3 + nI Y.length)) := by
    rw [e2]
    exact (FrS.rf.cg (by decide) (by unfold OwV; omega)).sI hκ.2.1 (by unfold OwV; omega)
  have S3 := f2.s8 (fun κ i z => z.lo hκ.1) hS
  have g3 : ∀ k, gI (setI μ2 (hd κ i) 3 (gI μ2 (hd κ i) 3 + nI Y.length)) (hd κ i) k = if k = 3 then nI (X.length + Y.length) else gI μ (hd κ i) k := fun k => by
    rw [gI_hi hb, mI_set, g2, h3, nI_add]
    by_cases e : k = 3
    · rw [if_pos ⟨rfl, e⟩, if_pos e]
    · rw [if_neg (fun z => e z.2), if_neg e, ← gI_hi hb, g2]
  have a3 : ∀ k, gI (setI μ2 (hd κ i) 3 (gI μ2 (hd κ i) 3 + nI Y.length)) (hd 132 v) k = gI μ2 (hd 132 v) k := fun k => by
    rw [gI_hi hb2, gI_hi hb2, mI_set, if_neg (fun z => nk z.1.symm)]
  refine ⟨s2, ⟨s2, hb⟩, S3, hQ _ f2 S3 ⟨s2, (g3 1).trans ((if_neg (by decide)).trans h2), ?_, ?_, ?_, ?_, h7, ?_, ?_, ?_⟩⟩
  · rw [g3, if_pos rfl, List.length_append]
  · rw [gR_hi hb]
    have := h4
    rw [gR_hi hb] at this
    rw [← this, e2]; rfl
  · rw [e2]; exact h5
  · rw [List.length_append]; exact hn
  · intro b hb
    rcases List.mem_append.mp hb with z | z
    · exact h8 b z
    · exact hY.2.2.2.2.1 b z
  · intro k hk
    rw [List.length_append] at hk
    rw [a3, a2]
    by_cases z : k < X.length
    · rw [if_neg (by omega), h9 k z, List.getD_eq_getElem?_getD, List.getD_eq_getElem?_getD, List.getElem?_append_left z]
    · rw [if_pos (by omega), Nat.zero_add, hY.2.2.2.2.2 _ (by omega), List.getD_eq_getElem?_getD, List.getD_eq_getElem?_getD, List.getElem?_append_right (by omega)]
  · intro k hk
    rw [a3, a2]
    split
    · rw [Nat.zero_add, hY.2.2.2.2.2 _ (by omega)]
      exact ⟨_, gD_lt hY.2.2.2.2.1 (by omega), rfl⟩
    · exact h10 k hk
theorem c9_app {κb ib κa ia : Nat} (h : SbV μ κ i v n X) (hκ : 100 ≤ κ ∧ κ < 256 ∧ κ ≠ 132) (hY : StrR μ κb ib κa ia Y) (hbw : κb < 256 ∧ κa < 256 ∧ ¬ OwV κ i v c (c + 1) κb ib ∧ ¬ OwV κ i v c (c + 1) κa ia) (hf : FC μ c) (hv : v < c) (hD : 5 ≤ d) (hS : S8 μ) (hM : X.length + Y.length ≤ M ∧ M ≤ 5000) (hc : 1 ≤ rc) (hs : 2 * M + 2 ≤ rs)
    (hQ : ∀ μ' v' n', (v' = v ∨ v' = c) → FrS (OwV κ i v c (c + 1)) μ μ' → S8 μ' → SbV μ' κ i v' n' (X ++ Y) → Q (some (.ref (hd κ i))) μ') : CalS K_SB_append_15ec4 d rc rs [.ref (hd κ i), .ref (hd κb ib)] μ Q := by
  refine z_SB_append_15ec4 (y_SB_append_15ec4_0 (by omega) ⟨rc, rs, ⟨Nat.le_refl _, Nat.le_refl _⟩, h.1, ?_⟩)
  refine z_AB_append_cf1ce (y_AB_append_cf1ce_0 (by omega) ⟨hY.1, c9_len hY (by omega) hS ⟨_, rfl, h.1, rc, rs, ⟨by omega, by omega⟩, h.1, ?_⟩⟩)
  rw [h.2.2.1, nI_add]
  refine c9_ens h hκ hf hv (by omega) hS ⟨Nat.le_add_right _ _, hM.1⟩ hM.2 hc hs (fun μ1 v1 n1 e1 hn1 f1 S1 h1 => ⟨rfl, h1.1, h1.1, ?_⟩)
  have hY1 := hY.fr f1 hbw.1 hbw.2.1 hbw.2.2.1 hbw.2.2.2
  rw [h1.2.2.1]
  have o1 := hbw.2.2.2
  unfold OwV Dy at o1
  exact c9_put (Q := fun r μ4 => ∃ b6, r = some (.ref b6) ∧ (S8 μ4 ∧ Q (some (.ref (hd κ i))) μ4)) (c := c) h1 hκ hY1 ⟨hbw.1, hbw.2.1, by omega, by omega⟩ (by omega) S1 hn1 (fun μ2 f2 S2 h2 => ⟨_, rfl, S2, hQ μ2 v1 n1 e1 (f1.trans (f2.mono (fun κ' i' z => by unfold OwV Dy at z ⊢; omega))) S2 h2⟩)
end APS
