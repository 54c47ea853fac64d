/-! text: numbers put behind, and strings made -/
def dgN (v : Nat) : List Nat := if v < 10 then [48 + v] else [48 + v / 10, 48 + v % 10]
section API
variable {d rc rs : Nat} {Q : Option Value → Mu → Prop} {μ μ' : Mu} {c κ i v n m M x : Nat} {X Y : List Nat}
theorem dg_c : ∀ x, x < 100 → (¬ nI x < 0) ∧ (-(nI x) ≤ (-10 : Int32) ↔ 10 ≤ x) ∧ (¬ -(nI x) ≤ ((10 : Int32) * (-10))) ∧ (0 ≤ nI x) ∧ ((-100 : Int32) < -(nI x)) ∧ ((-9 : Int32) ≤ -(nI x) ↔ x < 10) ∧ -(-(nI x)) = nI x ∧ (nI x).toNatClampNeg = x ∧ (dgN x).length = (if x < 10 then 1 else 2) ∧ (∀ b ∈ dgN x, b < 128) ∧ vp_nar .byte (nI (48 + x % 10)) = nI (48 + x % 10) ∧ vp_nar .byte (nI (48 + x / 10)) = nI (48 + x / 10) := by decide +kernel
theorem c9_size (hx : x < 100) (hD : 1 ≤ d) (hS : S8 μ) (hQ : Q (some (.int (nI (dgN x).length))) μ) : CalS K_JI_stringSize_0f7a4 d rc rs [.int (nI x)] μ Q := by
  obtain ⟨h1, h2, h3, -, -, -, -, -, h9, -⟩ := dg_c x hx
  refine z_JI_stringSize_0f7a4 (y_JI_stringSize_0f7a4_0 hD ⟨fun z => absurd z h1, fun _ => ?_⟩)
  refine y_JI_stringSize_0f7a4_16 hD ⟨fun z => absurd z (by decide), fun _ => ⟨fun z => ?_, fun z => ?_⟩⟩
  · refine y_JI_stringSize_0f7a4_16 hD ⟨fun z => absurd z (by decide), fun _ => ⟨fun y => absurd y h3, fun _ => ⟨hS, ?_⟩⟩⟩
    rw [h9, if_neg (by have := h2.mp z; omega)] at hQ
    exact hQ
  · rw [h9, if_pos (Nat.lt_of_not_le (fun y => z (h2.mpr y)))] at hQ
    exact ⟨hS, hQ⟩
theorem s5_g {k j : Nat} (hj : j < 2) : gI μ (hd 5 j) k = nI (48 + (if j = 0 then k % 10 else k / 10)) := by
  unfold gI cI
  rw [hd_mod (by decide), hd_div (by decide)]; rfl
/-- the digits of x, up to p -/
theorem c9_chars {p : Nat} (hx : x < 100) (hD : 1 ≤ d) (hS : S8 μ) (hA : mS μ (hd 132 v) = (4, n)) (hp : (dgN x).length ≤ p) (hpn : p ≤ n) (hn : n ≤ 20000)
    (hQ : ∀ μ' y, FrS (fun κ' i' => κ' = 132 ∧ i' = v) μ μ' → S8 μ' → mS μ' (hd 132 v) = mS μ (hd 132 v) → (∀ k, gI μ' (hd 132 v) k = if p - (dgN x).length ≤ k ∧ k < p then nI ((dgN x).getD (k - (p - (dgN x).length)) 0) else gI μ (hd 132 v) k) → mR μ' = mR μ → Q (some (.int y)) μ') :
    CalS K_JI_getChars_ba4f3 d rc rs [.int (nI x), .int (nI p), .ref (hd 132 v)] μ Q := by
  obtain ⟨h1, h2, h3, h4, h5, h6, h7, h8, h9, h10, h11, h12⟩ := dg_c x hx
  have hb : hiN (hd 132 v) := hi_hd (by decide) (by decide)
  have e1 : nI p + (-1 : Int32) = nI (p - 1) := by
    have hl : 1 ≤ p := by rw [h9] at hp; split at hp <;> omega
    obtain ⟨q, rfl⟩ : ∃ q, p = q + 1 := ⟨p - 1, by omega⟩
    rw [Nat.add_sub_cancel, ← nI_m q, Int32.sub_eq_add_neg]
  have hl : 1 ≤ p := by rw [h9] at hp; split at hp <;> omega
  refine z_JI_getChars_ba4f3 (y_JI_getChars_ba4f3_0 hD ⟨fun _ => ?_, fun z => absurd h4 z⟩)
  refine y_JI_getChars_ba4f3_22 hD ⟨fun _ => ?_, fun z => absurd h5 z⟩
  rw [h7, e1, h8, nI_clamp (show p - 1 < 2 ^ 31 by omega), s5_g (by decide), if_pos rfl, h11]
  have f1 : FrS (fun κ' i' => κ' = 132 ∧ i' = v) μ (setI μ (hd 132 v) (p - 1) (nI (48 + x % 10))) := FrS.rf.sI (by decide) ⟨rfl, rfl⟩
  have S1 := f1.s8 (fun κ i z => by omega) hS
  refine ⟨100, ⟨s8_5 hS (by decide), vI hx (by decide)⟩, n, ⟨hA, vI (by omega) (by omega), hb⟩, fun z => ⟨fun _ => ?_, fun y => absurd rfl y⟩, fun z => ?_⟩
  · have hx10 := h6.mp z
    refine ⟨S1, hQ _ _ f1 S1 rfl (fun k => ?_) rfl⟩
    have ed : dgN x = [48 + x] := if_pos hx10
    rw [ed]
    show gI (setI μ (hd 132 v) (p - 1) (nI (48 + x % 10))) (hd 132 v) k = if p - 1 ≤ k ∧ k < p then nI ([48 + x].getD (k - (p - 1)) 0) else gI μ (hd 132 v) k
    rw [gI_hi hb, mI_set]
    by_cases e : k = p - 1
    · rw [if_pos ⟨rfl, e⟩, if_pos (by omega), e, Nat.sub_self, Nat.mod_eq_of_lt hx10]; rfl
    · rw [if_neg (fun y => e y.2), if_neg (by omega), gI_hi hb]
  · have hx10 : ¬ x < 10 := fun y => z (h6.mpr y)
    have ed : dgN x = [48 + x / 10, 48 + x % 10] := if_neg hx10
    rw [ed] at hp
    have hp2 : 2 ≤ p := hp
    have e2 : nI (p - 1) + (-1 : Int32) = nI (p - 2) := by
      obtain ⟨q, rfl⟩ : ∃ q, p = q + 2 := ⟨p - 2, by omega⟩
      rw [show q + 2 - 1 = q + 1 by omega, show q + 2 - 2 = q by omega, ← nI_m q, Int32.sub_eq_add_neg]
    rw [e2, nI_clamp (show p - 2 < 2 ^ 31 by omega), s5_g (by decide), if_neg (by decide), h12]
    refine ⟨100, ⟨(f1.S (by decide) (by omega)).trans (s8_5 hS (by decide)), vI hx (by decide)⟩, n, ⟨hA, vI (by omega) (by omega), hb⟩, fun _ => ?_, fun y => absurd rfl y⟩
    have f2 : FrS (fun κ' i' => κ' = 132 ∧ i' = v) μ (setI (setI μ (hd 132 v) (p - 1) (nI (48 + x % 10))) (hd 132 v) (p - 2) (nI (48 + x / 10))) := f1.sI (by decide) ⟨rfl, rfl⟩
    have S2 := f2.s8 (fun κ i z => by omega) hS
    refine ⟨S2, hQ _ _ f2 S2 rfl (fun k => ?_) rfl⟩
    rw [ed]
    show gI (setI (setI μ (hd 132 v) (p - 1) (nI (48 + x % 10))) (hd 132 v) (p - 2) (nI (48 + x / 10))) (hd 132 v) k = if p - 2 ≤ k ∧ k < p then nI ([48 + x / 10, 48 + x % 10].getD (k - (p - 2)) 0) else gI μ (hd 132 v) k
    rw [gI_hi hb, mI_set, mI_set]
    by_cases e : k = p - 2
    · rw [if_pos ⟨rfl, e⟩, if_pos (by omega), e, Nat.sub_self]; rfl
    · rw [if_neg (fun y => e y.2)]
      by_cases e' : k = p - 1
      · rw [if_pos ⟨rfl, e'⟩, if_pos (by omega), show k - (p - 2) = 1 by omega]; rfl
      · rw [if_neg (fun y => e' y.2), if_neg (by omega), gI_hi hb]
theorem c9_api (h : SbV μ κ i v n X) (hκ : 100 ≤ κ ∧ κ < 256 ∧ κ ≠ 132) (hx : x < 100) (hf : FC μ c) (hv : v < c) (hD : 5 ≤ d) (hS : S8 μ) (hM : X.length + 2 ≤ M ∧ M ≤ 5000) (hc : 1 ≤ rc) (hs : 2 * M + 2 ≤ rs)
    (hQ : ∀ μ' v' n', (v' = v ∨ v' = c) → FrS (OwV κ i v c (c + 1)) μ μ' → S8 μ' → SbV μ' κ i v' n' (X ++ dgN x) → Q (some (.ref (hd κ i))) μ') : CalS K_SB_append_bf812 d rc rs [.ref (hd κ i), .int (nI x)] μ Q := by
  obtain ⟨-, -, -, -, -, -, -, -, q9, q10, -⟩ := dg_c x hx
  have hdl : (dgN x).length ≤ 2 := by rw [q9]; split <;> decide
  have hb : hiN (hd κ i) := hi_hd hκ.1 hκ.2.1
  have h3 := h.2.2.1
  refine z_SB_append_bf812 (y_SB_append_bf812_0 (by omega) ⟨rc, rs, ⟨Nat.le_refl _, Nat.le_refl _⟩, h.1, ?_⟩)
  refine z_AB_append_c97b9 (y_AB_append_c97b9_0 (by omega) ⟨h.1, c9_size hx (by omega) hS ⟨_, rfl, rc, rs, ⟨by omega, by omega⟩, h.1, ?_⟩⟩)
  rw [h3, nI_add]
  refine c9_ens h hκ hf hv (by omega) hS ⟨Nat.le_add_right _ _, by omega⟩ hM.2 hc hs (fun μ1 v1 n1 e1 hn1 f1 S1 h1 => ⟨rfl, h1.1, ?_⟩)
  obtain ⟨g1, g2, g3, g4, g5, g6, g7, g8, g9, g10⟩ := id h1
  refine z_AB_isLatin1_aae02 (y_AB_isLatin1_aae02_0 (by omega) ⟨g1, fun _ => ⟨S1, _, rfl, fun z => absurd z (by decide), fun _ => ⟨g1, _, g4, ?_⟩⟩, fun z => absurd g2 z⟩)
  refine c9_chars hx (by omega) S1 g5 (Nat.le_add_left _ _) hn1 g7 (fun μ2 y f2 S2 s2 a2 r2 => ⟨_, rfl, ?_⟩)
  have nk : hd κ i ≠ hd 132 v1 := hd_ne hκ.2.1 (by decide) hκ.2.2
  have ob : ¬ (κ = 132 ∧ i = v1) := fun z => hκ.2.2 z.1
  have k2 : mS μ2 (hd κ i) = (1, 12) := (f2.S hκ.2.1 ob).trans g1
  have f3 : FrS (OwV κ i v c (c + 1)) μ (setI μ2 (hd κ i) 3 (nI (X.length + (dgN x).length))) := by
    refine (f1.trans (f2.mono (fun κ' i' z => ?_))).sI hκ.2.1 (by unfold OwV; omega)
    unfold OwV Dy; omega
  have S3 := f3.s8 (fun κ i z => z.lo hκ.1) hS
  have hb2 : hiN (hd 132 v1) := hi_hd (by decide) (by decide)
  have a3 : ∀ k, gI (setI μ2 (hd κ i) 3 (nI (X.length + (dgN x).length))) (hd 132 v1) k = gI μ2 (hd 132 v1) k := fun k => by
    rw [gI_hi hb2, gI_hi hb2, mI_set, if_neg (fun z => nk z.1.symm)]
  rw [show X.length + (dgN x).length - (dgN x).length = X.length by omega] at a2
  refine ⟨⟨k2, hb⟩, S3, _, rfl, S3, hQ _ v1 n1 e1 f3 S3 ⟨k2, ?_, ?_, ?_, s2.trans g5, by rw [List.length_append]; exact hn1, g7, ?_, ?_, ?_⟩⟩
  · rw [gI_hi hb, mI_set, if_neg (by omega), ← gI_hi hb, f2.gi hκ.2.1 ob]; exact g2
  · rw [gI_hi hb, mI_set, if_pos ⟨rfl, rfl⟩, List.length_append]
  · rw [← g4, gR_hi hb, gR_hi hb]
    show mR μ2 (hd κ i) 0 = _
    rw [r2]
  · intro b hb
    rcases List.mem_append.mp hb with z | z
    · exact g8 b z
    · exact q10 b z
  · intro k hk
    rw [List.length_append] at hk
    rw [a3, a2]
    by_cases z : k < X.length
    · rw [if_neg (by omega), g9 k z, List.getD_eq_getElem?_getD, List.getD_eq_getElem?_getD, List.getElem?_append_left z]
    · rw [if_pos (by omega), List.getD_eq_getElem?_getD, List.getD_eq_getElem?_getD, List.getElem?_append_right (by omega)]
  · intro k hk
    rw [a3, a2]
    split
    · exact ⟨_, gD_lt q10 (by omega), rfl⟩
    · exact g10 k hk
/-- a range of bytes is copied -/
theorem c9_range (hA : mS μ (hd 132 v) = (4, n)) (hX : X.length ≤ n) (hn : n ≤ 20000) (h9 : ∀ k, k < X.length → gI μ (hd 132 v) k = nI (X.getD k 0)) (h10 : ∀ k, k < n → ∃ b, b < 128 ∧ gI μ (hd 132 v) k = nI b) (fq : FreN μ (hd 132 c)) (hv : v ≠ c) (hD : 3 ≤ d) (hS : S8 μ) (hc : 1 ≤ rc) (hs : n ≤ rs)
    (hQ : ∀ μ', FrS (fun κ' i' => κ' = 132 ∧ i' = c) μ μ' → S8 μ' → mS μ' (hd 132 c) = (4, X.length) → (∀ k, k < X.length → gI μ' (hd 132 c) k = nI (X.getD k 0)) → Q (some (.ref (hd 132 c))) μ') : CalS K_Ars_copyOfRange_39247 d rc rs [.ref (hd 132 v), .int 0, .int (nI X.length)] μ Q := by
  have bv : hiN (hd 132 v) := hi_hd (by decide) (by decide)
  have bc : hiN (hd 132 c) := hi_hd (by decide) (by decide)
  have ne : hd 132 v ≠ hd 132 c := fun e => hv ((hd_inj (by decide) (by decide)).mp e).2
  refine z_Ars_copyOfRange_39247 (y_Ars_copyOfRange_39247_0 (by omega) ⟨fun _ => ⟨n, hA, fun z => ?_, fun z => ?_⟩, fun z => absurd rfl z⟩)
  · have hz : X.length = n := (nI_eq (by omega) (by omega)).mp z
    have f1 : FrS (fun κ' i' => κ' = 132 ∧ i' = c) μ (clA μ (hd 132 v) (hd 132 c)) := FrS.rf.cl (by decide) ⟨rfl, rfl⟩
    have S1 := f1.s8 (fun κ i z => by omega) hS
    have s1 : mS (clA μ (hd 132 v) (hd 132 c)) (hd 132 c) = (4, n) := (if_pos rfl : up1 (mS μ) (hd 132 c) (mS μ (hd 132 v)) (hd 132 c) = mS μ (hd 132 v)).trans hA
    refine ⟨n, ⟨hA, bv, fun k hk => ?_, hc, hs⟩, hd 132 c, fq, n, ⟨s1, bc⟩, S1, hQ _ f1 S1 (by rw [s1, hz]) (fun k hk => ?_)⟩
    · obtain ⟨b, b1, b2⟩ := h10 k hk
      rw [b2]; exact (by_f b b1).1
    · rw [gI_hi bc]
      show (if hd 132 c = hd 132 c then mI μ (hd 132 v) k else mI μ (hd 132 c) k) = _
      rw [if_pos rfl, ← gI_hi bv]; exact h9 k hk
  · have hz : X.length < n := by
      rcases Nat.eq_or_lt_of_le hX with y | y
      · exact absurd (by rw [y]) z
      · exact y
    refine ⟨rc, rs, ⟨Nat.le_refl _, Nat.le_refl _⟩, z_Ars_copyOfRangeByte_39247 (y_Ars_copyOfRangeByte_39247_0 (by omega) (z_Ars_checkLength_df160 (y_Ars_checkLength_df160_0 (by omega) ⟨fun _ => ⟨hS, rfl, ?_⟩, fun y => y ((by rw [I0, nI_leI (by decide) (by omega)]; exact Nat.zero_le _ : (0 : Int32) ≤ nI X.length))⟩)))⟩
    rw [Int32.sub_zero, nI_clamp (show X.length < 2 ^ 31 by omega)]
    have s1 : mS (mkA μ (hd 132 c) (4, X.length)) (hd 132 v) = (4, n) := (if_neg ne).trans hA
    have s2 : mS (mkA μ (hd 132 c) (4, X.length)) (hd 132 c) = (4, X.length) := if_pos rfl
    have gv : ∀ k, gI (mkA μ (hd 132 c) (4, X.length)) (hd 132 v) k = gI μ (hd 132 v) k := fun k => by rw [gI_hi bv, gI_hi bv]; exact if_neg ne
    have him : imin (nI n - 0) (nI X.length) = nI X.length := by rw [Int32.sub_zero, imin_nI (by omega) (by omega), show min n X.length = X.length by omega]
    refine ⟨⟨ip0 (by omega), by omega, by omega, by omega⟩, hd 132 c, fq, n, s1, ?_⟩
    rw [him, nI_clamp (show X.length < 2 ^ 31 by omega)]
    have f1 : FrS (fun κ' i' => κ' = 132 ∧ i' = c) μ (cpG (mkA μ (hd 132 c) (4, X.length)) (hd 132 v) (hd 132 c) 0 0 X.length) := (FrS.rf.mk (by decide) ⟨rfl, rfl⟩).cg (by decide) ⟨rfl, rfl⟩
    have S1 := f1.s8 (fun κ i z => by omega) hS
    refine ⟨n, X.length, ⟨s1, s2, bc, by decide, by decide, ip0 (by omega), by show 0 + X.length ≤ n; omega, by show 0 + X.length ≤ X.length; omega⟩, fun k hk => ?_, S1, ⟨_, rfl, S1, hQ _ f1 S1 s2 (fun k hk => ?_)⟩⟩
    · show fits .byte (.int (gI (mkA μ (hd 132 c) (4, X.length)) (hd 132 v) (0 + k))) = true
      rw [Nat.zero_add, gv]
      obtain ⟨b, b1, b2⟩ := h10 k (by omega)
      rw [b2]; exact (by_f b b1).1
    · refine (cpG_I (m := X.length) (sp := 0) (dp := 0) bc).trans ?_
      rw [if_pos rfl, if_pos ⟨Nat.zero_le _, by omega⟩, Nat.sub_zero, Nat.zero_add, gv]; exact h9 k hk
/-- a string is made of it -/
theorem c9_str (h : SbV μ κ i v n X) (hκ : 100 ≤ κ ∧ κ < 256 ∧ κ ≠ 132 ∧ κ ≠ 133) (hf : FC μ c) (hv : v < c) (hD : 6 ≤ d) (hS : S8 μ) (hM : X.length ≤ 5000) (hc : 2 ≤ rc) (hs : n + 4 ≤ rs)
    (hQ : ∀ μ', FrS (Dy c (c + 1)) μ μ' → S8 μ' → StrR μ' 133 c 132 c X → Q (some (.ref (hd 133 c))) μ') : CalS K_SB_toString_0e30d d rc rs [.ref (hd κ i)] μ Q := by
  obtain ⟨h1, h2, h3, h4, h5, h6, h7, h8, h9, h10⟩ := id h
  have fq : FreN μ (hd 133 c) := hf.fr (by decide) (by decide)
  have b3 : hiN (hd 133 c) := hi_hd (by decide) (by decide)
  have b2 : hiN (hd 132 c) := hi_hd (by decide) (by decide)
  have hb : hiN (hd κ i) := hi_hd hκ.1 hκ.2.1
  have f0 : FrS (Dy c (c + 1)) μ (mkA μ (hd 133 c) (1, 13)) := FrS.rf.mk (by decide) (by unfold Dy; omega)
  have f1 : FrS (Dy c (c + 1)) μ (setI (mkA μ (hd 133 c) (1, 13)) (hd 133 c) 1 0) := f0.sI (by decide) (by unfold Dy; omega)
  have S0 := f0.s8 (fun κ i z => z.lo) hS
  have S1 := f1.s8 (fun κ i z => z.lo) hS
  have ok : ¬ Dy c (c + 1) κ i ∨ (130 ≤ κ ∧ c ≤ i ∧ i < c + 1) := by unfold Dy; omega
  have ov : ¬ Dy c (c + 1) 132 v := fun b => by unfold Dy at b; omega
  have nk : hd κ i ≠ hd 133 c := hd_ne hκ.2.1 (by decide) hκ.2.2.2
  have sk : ∀ k, gI (mkA μ (hd 133 c) (1, 13)) (hd κ i) k = gI μ (hd κ i) k := fun k => by rw [gI_hi hb, gI_hi hb]; exact if_neg nk
  have rk : ∀ k, gR (mkA μ (hd 133 c) (1, 13)) (hd κ i) k = gR μ (hd κ i) k := fun k => by rw [gR_hi hb, gR_hi hb]; exact if_neg nk
  have mk : mS (mkA μ (hd 133 c) (1, 13)) (hd κ i) = (1, 12) := (if_neg nk).trans h1
  have hF : CalS K_Str_init_81219 (d - 1) (rc - 1) (rs - 4) [.ref (hd 133 c), .ref (hd κ i)] (mkA μ (hd 133 c) (1, 13)) (fun r μ7 => r = none ∧ (FrS (Dy c (c + 1)) μ μ7 ∧ mS μ7 (hd 133 c) = (1, 13) ∧ gI μ7 (hd 133 c) 1 = 0 ∧ gR μ7 (hd 133 c) 0 = some (hd 132 c) ∧ mS μ7 (hd 132 c) = (4, X.length) ∧ ∀ k, k < X.length → gI μ7 (hd 132 c) k = nI (X.getD k 0))) := by
    refine z_Str_init_81219 (y_Str_init_81219_0 (by omega) ⟨rc - 1, rs - 4, ⟨Nat.le_refl _, Nat.le_refl _⟩, z_Str_init_db425 (y_Str_init_db425_0 (by omega) ⟨mk, z_AB_getValue_6d5f1 (y_AB_getValue_6d5f1_0 (by omega) ⟨mk, _, (rk 0).trans h4, S0, _, rfl, mk, z_SB_length_8abf5 (y_SB_length_8abf5_0 (by omega) ⟨mk, z_AB_length_8abf5 (y_AB_length_8abf5_0 (by omega) ⟨mk, S0, _, rfl, S0, _, rfl, mk, z_AB_isLatin1_aae02 (y_AB_isLatin1_aae02_0 (by omega) ⟨mk, fun _ => ⟨S0, _, rfl, fun z => absurd z (by decide), fun _ => ⟨⟨if_pos rfl, b3⟩, rc - 1, rs - 4, ⟨by omega, by omega⟩, ?_⟩⟩, fun z => absurd ((sk 1).trans h2) z⟩)⟩)⟩)⟩)⟩)⟩)
    rw [sk 3, h3]
    have g1 : ∀ k, gI (setI (mkA μ (hd 133 c) (1, 13)) (hd 133 c) 1 0) (hd 132 v) k = gI μ (hd 132 v) k := fun k => f1.gi (by decide) ov
    refine c9_range (v := v) (n := n) ((f1.S (by decide) ov).trans h5) h6 h7 (fun k hk => (g1 k).trans (h9 k hk)) (fun k hk => by rw [g1]; exact h10 k hk) ⟨(if_neg (hd_ne (by decide) (by decide) (by decide))).trans (hf.fr (κ := 132) (by decide) (by decide)).1, b2⟩ (by omega) (by omega) S1 (by omega) (by omega) (fun μ2 f2 S2 s2 a2 => ⟨_, rfl, ?_⟩)
    have o2 : ¬ ((133 : Nat) = 132 ∧ c = c) := by omega
    have m2 : mS μ2 (hd 133 c) = (1, 13) := (f2.S (by decide) o2).trans (if_pos rfl)
    have f3 : FrS (Dy c (c + 1)) μ (setR μ2 (hd 133 c) 0 (hd 132 c)) := (f1.trans (f2.mono (fun κ' i' z => by unfold Dy; omega))).sR (by decide) (by unfold Dy; omega)
    have S3 := f3.s8 (fun κ i z => z.lo) hS
    refine ⟨⟨m2, b3⟩, S3, rfl, S3, rfl, f3, m2, ?_, ?_, s2, fun k hk => ?_⟩
    · have e : gI (setR μ2 (hd 133 c) 0 (hd 132 c)) (hd 133 c) 1 = gI μ2 (hd 133 c) 1 := by rw [gI_hi b3, gI_hi b3]; rfl
      rw [e, f2.gi (by decide) o2, gI_hi b3, mI_set, if_pos ⟨rfl, rfl⟩]
    · rw [gR_hi b3, mR_set, if_pos ⟨rfl, rfl⟩]
    · rw [← a2 k hk, gI_hi b2, gI_hi b2]; rfl
  refine z_SB_toString_0e30d ?_
  refine Wa.new (q := E_St) (hd 133 c) 13 d_SB_toString_0e30d_0 rfl ok_St (by decide +kernel) cl_SB_18 (by omega) (by show 4 ≤ rs; omega) fq.1 fq.2.rw ?_
  refine Wa.dup d_SB_toString_0e30d_3 rfl ?_
  refine Wa.aload_n (j := 0) d_SB_toString_0e30d_4 rfl ?_
  refine Ws.cIv (As := [.ref (hd κ i)]) (d - 1) (rc - 1) (rs - 4) _ d_SB_toString_0e30d_5 mok_Str_init_81219 rfl il_SB_137 rfl rfl (Nat.le_of_ble_eq_true rfl) (by omega) (Nat.le_refl _) (Nat.le_refl _) hF (fun μ7 hS7 hF7 => ?_)
  obtain ⟨f7, s7, c7, r7, a7, x7⟩ := hF7
  refine Wa.reshape (hd 133 c) 13 15 (q := E_St) (q' := E_Str) s7 rfl rfl rfl (by decide) (fun k hk => ?_) ?_
  · have : k < 2 := hk
    rcases (by omega : k = 0 ∨ k = 1) with rfl | rfl <;> exact ⟨rfl, rfl⟩
  have f8 : FrS (Dy c (c + 1)) μ (reS μ7 (hd 133 c) (1, 15)) := f7.re (by decide) (by unfold Dy; omega)
  have Sz8 := f8.s8 (fun κ i z => z.lo) hS
  have e8 : ∀ a k, hiN a → gI (reS μ7 (hd 133 c) (1, 15)) a k = gI μ7 a k := fun a k z => by rw [gI_hi z, gI_hi z]; rfl
  refine Wx.reta d_SB_toString_0e30d_8 rfl ⟨Sz8, hQ _ f8 Sz8 ⟨if_pos rfl, (e8 _ _ b3).trans c7, ?_, ?_, h8, fun k hk => (e8 _ _ b2).trans (x7 k hk)⟩⟩
  · rw [← r7, gR_hi b3, gR_hi b3]; rfl
  · exact (if_neg (hd_ne (by decide) (by decide) (by decide))).trans a7
end API
