/-! a text is taught -/
section BYB
variable {x : Int32} {k s b j : Nat} {B : Nat → Nat}
theorem bq_or (x y : Int32) (s : Nat) : bq (x ||| y) s = (bq x s || bq y s) := by unfold bq; rw [Int32.toBitVec_or, BitVec.getLsbD_or]
theorem bq_shr (hk : k < 32) (h : k + s < 32) : bq (x >>> (nI k &&& 31)) s = bq x (k + s) := by
  unfold bq
  rw [Int32.toBitVec_shiftRight, cw_c k hk, cw_sm k hk]
  show (x.toBitVec.sshiftRight (BitVec.ofNat 32 k).toNat).getLsbD s = _
  rw [BitVec.getLsbD_sshiftRight, BitVec.toNat_ofNat, Nat.mod_eq_of_lt (by omega), if_pos h, decide_eq_false (by omega)]; rfl
theorem bq_shl (hs : s < 32) : bq (x <<< ((8 : Int32) &&& 31)) s = (decide (8 ≤ s) && bq x (s - 8)) := by
  unfold bq
  rw [Int32.toBitVec_shiftLeft, show ((8 : Int32) &&& 31).toBitVec = BitVec.ofNat 32 8 from cw_c 8 (by decide), cw_sm 8 (by decide), BitVec.shiftLeft_eq', BitVec.getLsbD_shiftLeft, BitVec.toNat_ofNat, Nat.mod_eq_of_lt (by decide), decide_eq_true hs]
  by_cases h : 8 ≤ s
  · rw [decide_eq_true h, decide_eq_false (by omega)]; rfl
  · rw [decide_eq_false h, decide_eq_true (by omega)]; rfl
theorem bq_n (hb : b < 256) : bq (nI b) s = b.testBit s := by
  show (BitVec.ofNat 32 b).getLsbD s = _
  rw [BitVec.getLsbD_ofNat]
  by_cases h : s < 32
  · rw [decide_eq_true h, Bool.true_and]
  · rw [decide_eq_false h, Bool.false_and, Nat.testBit_lt_two_pow]
    exact Nat.lt_of_lt_of_le hb (Nat.le_trans (by decide : 256 ≤ 2 ^ 8) (Nat.pow_le_pow_right (by decide) (by omega)))
theorem by_b (hk : k ≤ 24) : (byN (x >>> (nI k &&& 31))).testBit s = (decide (s < 8) && bq x (k + s)) := by
  unfold byN
  rw [show (256 : Nat) = 2 ^ 8 from rfl, Nat.testBit_mod_two_pow]
  by_cases h : s < 8
  · rw [decide_eq_true h, Bool.true_and, Bool.true_and, ← bq_shr (by omega) (by omega)]; rfl
  · rw [decide_eq_false h]; rfl
/-- the last j bytes of x -/
def pk (x : Int32) (j : Nat) (B : Nat → Nat) : Prop := ∀ i, i < j → byN (x >>> (nI (8 * (j - 1 - i)) &&& 31)) = B i
theorem pk_s (hj : j ≤ 3) (h : pk x j B) (hb : b < 256) (hB : B j = b) : pk (x <<< ((8 : Int32) &&& 31) ||| nI b) (j + 1) B := fun i hi => by
  by_cases e : i = j
  · rw [e, show 8 * (j + 1 - 1 - j) = 0 by omega, hB]
    refine Nat.eq_of_testBit_eq (fun s => ?_)
    rw [by_b (by decide), Nat.zero_add, bq_or]
    by_cases h8 : s < 8
    · rw [decide_eq_true h8, Bool.true_and, bq_shl (by omega), decide_eq_false (by omega), Bool.false_and, Bool.false_or, bq_n hb]
    · rw [decide_eq_false h8, Bool.false_and, Nat.testBit_lt_two_pow]
      exact Nat.lt_of_lt_of_le hb (Nat.le_trans (by decide : 256 ≤ 2 ^ 8) (Nat.pow_le_pow_right (by decide) (by omega)))
  · rw [← h i (by omega)]
    refine Nat.eq_of_testBit_eq (fun s => ?_)
    rw [by_b (by omega), by_b (by omega), bq_or]
    by_cases h8 : s < 8
    · rw [decide_eq_true h8, Bool.true_and, Bool.true_and, bq_shl (by omega), decide_eq_true (by omega), Bool.true_and, bq_n hb, Nat.testBit_lt_two_pow, Bool.or_false]
      · congr 1; omega
      · exact Nat.lt_of_lt_of_le hb (Nat.le_trans (by decide : 256 ≤ 2 ^ 8) (Nat.pow_le_pow_right (by decide) (by omega)))
    · rw [decide_eq_false h8, Bool.false_and, Bool.false_and]
end BYB
section TAU
variable {d rc rs : Nat} {Q : Option Value → Mu → Prop} {μ μ' : Mu} {T : PT} {C Ct : Nat → List Op} {D : DT} {t : Nat → Nat} {L c c' k κb ib κa ia : Nat} {x : Int32} {Y : List Nat}
theorem c9T_coder {κb ib κa ia : Nat} (h : StrR μ κb ib κa ia Y) (hD : 1 ≤ d) (hS : St μ) (hQ : Q (some (.int 0)) μ) : Cal K_Str_coder_7d493 d rc rs [.ref (hd κb ib)] μ Q := by
  refine e_Str_coder_7d493 (r_Str_coder_7d493_0 hD ⟨h.1, ?_⟩)
  rw [h.2.1]
  exact ⟨rfl, hS, hQ⟩
theorem c9T_lat {κb ib κa ia : Nat} (h : StrR μ κb ib κa ia Y) (hD : 1 ≤ d) (hS : St μ) (hQ : Q (some (.int 1)) μ) : Cal K_Str_isLatin1_aae02 d rc rs [.ref (hd κb ib)] μ Q :=
  e_Str_isLatin1_aae02 (r_Str_isLatin1_aae02_0 hD ⟨h.1, fun _ => ⟨hS, hQ⟩, fun z => absurd h.2.1 z⟩)
theorem c9T_len {κb ib κa ia : Nat} (h : StrR μ κb ib κa ia Y) (hD : 2 ≤ d) (hS : St μ) (hQ : Q (some (.int (nI Y.length))) μ) : Cal K_Str_length_8abf5 d rc rs [.ref (hd κb ib)] μ Q := by
  refine e_Str_length_8abf5 (r_Str_length_8abf5_0 (by omega) ⟨h.1, _, h.2.2.1, _, h.2.2.2.1, h.1, c9T_coder h (by omega) hS ⟨0, rfl, hS, ?_⟩⟩)
  rw [sh_0]; exact hQ
def OwQ (c c' κ i : Nat) : Prop := OwC8 κ i ∨ Dy c c' κ i
theorem c9_trim (hC : CI μ T C Ct D t L x) (hk : k ≤ L) (hL : L ≤ 2000) (hD : 6 ≤ d) (hS : St μ) (hQ : ∀ μ', Fr OwC8 μ μ' → St μ' → CI μ' T C Ct D t k x → Q (some (.int (nI k))) μ') : Cal K_PB_trim d rc rs [.ref (hd 8 0), .int (nI k)] μ Q := by
  have ed : dvTrim L (nI k) = (.ok (nI k), k) := by
    unfold dvTrim; rw [ifP_t ((inR.of (by omega)).mpr (by omega)), nI_clamp (by omega)]
  have ed1 : (dvTrim L (nI k)).1 = .ok (nI k) := by rw [ed]
  refine Cal.mono (CalT.call (c_PB_trim (Q := fun q μ2 => q = some (.int (nI k)) ∧ Fr OwC8 μ μ2 ∧ St μ2 ∧ CI μ2 T C Ct D t k x) hC hD (noex ed1) hS (fun μ2 f S2 C2 => ?_)) (fun q μ' y => by have := y.1; cases this)) (fun q μ2 _ y => ?_)
  · rw [ed] at C2 ⊢
    exact ⟨rfl, f, S2, C2⟩
  · obtain ⟨rfl, f, S2, C2⟩ := y
    exact hQ μ2 f S2 C2
theorem c9_feed {x1 x2 x3 x4 x5 : Int32} (hC : CI μ T C Ct D t L x) (hL : L + 20 ≤ 2000) (hD : 6 ≤ d) (hS : St μ) (hQ : ∀ μ', Fr OwC8 μ μ' → St μ' → CI μ' T C Ct D (fdT t L (fB x1 x2 x3 x4 x5)) (L + 20) x → Q (some (.int (nI (L + 20)))) μ') : Cal K_PB_feed d rc rs [.ref (hd 8 0), .int x1, .int x2, .int x3, .int x4, .int x5] μ Q := by
  have ed : dvFeed t L x1 x2 x3 x4 x5 = (.ok (nI (L + 20)), fdT t L (fB x1 x2 x3 x4 x5), L + 20) := by
    unfold dvFeed; rw [ifP_t hL]
  have ed1 : (dvFeed t L x1 x2 x3 x4 x5).1 = .ok (nI (L + 20)) := by rw [ed]
  refine Cal.mono (CalT.call (c_PB_feed (Q := fun q μ2 => q = some (.int (nI (L + 20))) ∧ Fr OwC8 μ μ2 ∧ St μ2 ∧ CI μ2 T C Ct D (fdT t L (fB x1 x2 x3 x4 x5)) (L + 20) x) hC hD (noex ed1) hS (fun μ2 f S2 C2 => ?_)) (fun q μ' y => by have := y.1; cases this)) (fun q μ2 _ y => ?_)
  · rw [ed] at C2 ⊢
    exact ⟨rfl, f, S2, C2⟩
  · obtain ⟨rfl, f, S2, C2⟩ := y
    exact hQ μ2 f S2 C2
theorem c9_char (h : StrR μ κb ib κa ia Y) (hk : k < Y.length) (hY : Y.length < 2 ^ 30) (hD : 3 ≤ d) (hS : St μ) (hQ : Q (some (.int (nI (Y.getD k 0)))) μ) : Cal K_Str_charAt_5068e d rc rs [.ref (hd κb ib), .int (nI k)] μ Q := by
  obtain ⟨h1, h2, h3, h4, h5, h6⟩ := id h
  obtain ⟨-, -, b3, b4⟩ := by_f _ (gD_lt h5 hk)
  refine e_Str_charAt_5068e (r_Str_charAt_5068e_0 (by omega) ⟨h1, c9T_lat h (by omega) hS ⟨1, rfl, fun z => absurd z (by decide), fun _ => ⟨h1, _, h3, e_SL_charAt_3b067 (r_SL_charAt_3b067_0 (by omega) ⟨_, h4, c_Str_checkIndex (by omega) hS (ip0 (by omega)) ((nI_ltI (by omega) (by omega)).mpr hk) ⟨rfl, _, ⟨h4, vI hk (by omega)⟩, ?_⟩⟩)⟩⟩⟩)
  rw [nI_clamp (by omega), h6 k hk, b3]
  exact ⟨b4, hS, _, rfl, b4, hS, hQ⟩
/-- the text with blanks behind it -/
def pdB (Y : List Nat) (i : Nat) : Nat := if i < Y.length then Y.getD i 0 else 32
theorem pdB_lt (h : ∀ b ∈ Y, b < 128) (i : Nat) : pdB Y i < 128 := by
  unfold pdB
  split
  · rename_i z; exact gD_lt h z
  · decide
/-- five words, k bytes of which are in -/
def FvR (μ : Mu) (q m k : Nat) (Y : List Nat) : Prop := mS μ (hd 130 q) = (2, 5) ∧ ∀ u, u < 5 → pk (gI μ (hd 130 q) u) (min 4 (k - 4 * u)) (fun i => pdB Y (20 * m + 4 * u + i))
set_option maxRecDepth 100000 in
theorem ta_23 {q m : Nat} (hD : 8 ≤ d) (hm : 20 * m + 20 ≤ 2000) (hY : StrR μ κb ib κa ia Y) (hlen : Y.length ≤ 1980) (hb : 100 ≤ κb ∧ κb < 256 ∧ κb ≠ 130) (ha : 100 ≤ κa ∧ κa < 256 ∧ κa ≠ 130) (hC : CI μ T C Ct D t (20 * m) x)
    (kk : ∀ μ' t', FrS (fun κ i => OwC8 κ i ∨ (κ = 130 ∧ i = q)) μ μ' → St μ' → mS μ' (hd 130 q) = (2, 5) → CI μ' T C Ct D t' (20 * m + 20) x → (∀ i, i < 20 * m → t' i = t i) → (∀ i, i < 20 → t' (20 * m + i) = pdB Y (20 * m + i)) → Wx K_LW_taught d rc rs Q 12 [(0, .ref (hd 8 0)), (1, .ref (hd κb ib)), (2, .ref (hd 130 q)), (3, .int (nI (20 * m) + 20))] [] μ') :
    ∀ k, k ≤ 20 → ∀ μ1, FrS (fun κ i => κ = 130 ∧ i = q) μ μ1 → St μ1 → FvR μ1 q m k Y → Wx K_LW_taught d rc rs Q 23 [(0, .ref (hd 8 0)), (1, .ref (hd κb ib)), (2, .ref (hd 130 q)), (3, .int (nI (20 * m))), (4, .int (nI k))] [] μ1 := by
  have b3 : hiN (hd 130 q) := hi_hd (by decide) (by decide)
  refine up_loop 20 (fun μ1 f S F => ?_) (fun k hk ih μ1 f S F => ?_)
  · have C1 : CI μ1 T C Ct D t (20 * m) x := hC.lo (f.lo (fun κ i z => by omega))
    have s8 : mS μ1 (hd 8 0) = (1, 0) := s_8 S (by decide)
    have v5 : ∀ {j}, j < 5 → vp_in (nI j) 5 := fun h => vI h (by decide)
    refine r_LW_taught_23 (by omega) ⟨fun _ => ⟨5, ⟨F.1, v5 (j := 0) (by decide)⟩, 5, ⟨F.1, v5 (j := 1) (by decide)⟩, 5, ⟨F.1, v5 (j := 2) (by decide)⟩, 5, ⟨F.1, v5 (j := 3) (by decide)⟩, 5, ⟨F.1, v5 (j := 4) (by decide)⟩, 0, 0, ⟨Nat.zero_le _, Nat.zero_le _⟩, s8, ?_⟩, fun h => absurd (Int32.le_refl _) h⟩
    refine c9_feed C1 hm (by omega) S (fun μ2 f2 S2 C2 => ⟨_, rfl, ?_⟩)
    refine kk μ2 _ ((f.mono (fun κ i z => Or.inr z)).trans ((FrS.of f2).mono (fun κ i z => Or.inl z))) S2 (((FrS.of f2).S (by decide) (by unfold OwC8; omega)).trans F.1) C2 (fun i hi => by unfold fdT; rw [if_pos hi]) (fun i hi => ?_)
    have hu : i / 4 < 5 := by omega
    have hj : i % 4 < 4 := Nat.mod_lt _ (by decide)
    have e := fd_at (t := t) (L := 20 * m) (x1 := gI μ1 (hd 130 q) (0 : Int32).toNatClampNeg) (x2 := gI μ1 (hd 130 q) (1 : Int32).toNatClampNeg) (x3 := gI μ1 (hd 130 q) (2 : Int32).toNatClampNeg) (x4 := gI μ1 (hd 130 q) (3 : Int32).toNatClampNeg) (x5 := gI μ1 (hd 130 q) (4 : Int32).toNatClampNeg) hu hj
    rw [show 20 * m + 4 * (i / 4) + i % 4 = 20 * m + i by omega] at e
    rw [e]
    have h1 := F.2 (i / 4) hu
    rw [show min 4 (20 - 4 * (i / 4)) = 4 by omega] at h1
    have h2 := h1 (i % 4) hj
    rw [show 8 * (4 - 1 - i % 4) = 24 - 8 * (i % 4) by omega] at h2
    have e3 : (if i / 4 = 0 then gI μ1 (hd 130 q) (0 : Int32).toNatClampNeg else if i / 4 = 1 then gI μ1 (hd 130 q) (1 : Int32).toNatClampNeg else if i / 4 = 2 then gI μ1 (hd 130 q) (2 : Int32).toNatClampNeg else if i / 4 = 3 then gI μ1 (hd 130 q) (3 : Int32).toNatClampNeg else gI μ1 (hd 130 q) (4 : Int32).toNatClampNeg) = gI μ1 (hd 130 q) (i / 4) := by
      rcases (by omega : i / 4 = 0 ∨ i / 4 = 1 ∨ i / 4 = 2 ∨ i / 4 = 3 ∨ i / 4 = 4) with z | z | z | z | z <;> rw [z] <;> rfl
    rw [e3, h2]
    show pdB Y (20 * m + 4 * (i / 4) + i % 4) = _
    congr 1; omega
  · have hY1 := hY.fr f hb.2.1 ha.2.1 (by omega) (by omega)
    have hu : k / 4 < 5 := by omega
    have ed : nI k / (4 : Int32) = nI (k / 4) := by rw [I4]; exact nI_div (by omega) (by decide)
    refine r_LW_taught_23 (by omega) ⟨fun h => absurd ((nI_leI (a := 20) (by decide) (by omega)).mp h) (by omega), fun _ => ⟨by decide, by decide, ?_⟩⟩
    rw [ed, nI_add]
    -- one more byte
    have nx : ∀ b, b < 128 → b = pdB Y (20 * m + k) → Wx K_LW_taught d rc rs Q 23 [(0, .ref (hd 8 0)), (1, .ref (hd κb ib)), (2, .ref (hd 130 q)), (3, .int (nI (20 * m))), (4, .int (nI k + 1))] [] (setI μ1 (hd 130 q) (nI (k / 4)).toNatClampNeg (((gI μ1 (hd 130 q) (nI (k / 4)).toNatClampNeg) <<< ((8 : Int32) &&& 31)) ||| nI b)) := fun b hb2 e => by
      rw [nI_clamp (show k / 4 < 2 ^ 31 by omega), nI_s]
      have f2 : FrS (fun κ i => κ = 130 ∧ i = q) μ (setI μ1 (hd 130 q) (k / 4) (gI μ1 (hd 130 q) (k / 4) <<< ((8 : Int32) &&& 31) ||| nI b)) := f.sI (by decide) ⟨rfl, rfl⟩
      refine ih _ f2 ((FrS.rf.sI (own := fun κ i => κ = 130 ∧ i = q) (by decide) ⟨rfl, rfl⟩ : FrS _ μ1 _).st (fun κ i z => by omega) S) ⟨F.1, fun u hu2 => ?_⟩
      rw [gI_hi b3, mI_set]
      by_cases z : u = k / 4
      · rw [if_pos ⟨rfl, z⟩, z, show min 4 (k + 1 - 4 * (k / 4)) = k % 4 + 1 by omega]
        have h1 := F.2 (k / 4) hu
        rw [show min 4 (k - 4 * (k / 4)) = k % 4 by omega] at h1
        exact pk_s (by omega) h1 (by omega) (by show pdB Y (20 * m + 4 * (k / 4) + k % 4) = b; rw [e]; congr 1; omega)
      · rw [if_neg (fun y => z y.2), ← gI_hi b3]
        have h1 := F.2 u hu2
        rw [show min 4 (k + 1 - 4 * u) = min 4 (k - 4 * u) by omega]
        exact h1
    refine ⟨5, ⟨F.1, vI hu (by decide)⟩, hY1.1, c9T_len hY1 (by omega) S ⟨_, rfl, fun z => ?_, fun z => ?_⟩⟩
    · have := (nI_leI (by omega) (by omega)).mp z
      refine ⟨5, ⟨F.1, vI hu (by decide), b3⟩, ?_⟩
      exact nx 32 (by decide) (by unfold pdB; rw [if_neg (by omega)])
    · have hlt : 20 * m + k < Y.length := Nat.lt_of_not_le (fun y => z ((nI_leI (by omega) (by omega)).mpr y))
      refine ⟨hY1.1, c9_char hY1 hlt (by omega) (by omega) S ⟨_, rfl, 5, ⟨F.1, vI hu (by decide), b3⟩, ?_⟩⟩
      exact nx _ (gD_lt hY.2.2.2.2.1 hlt) (by unfold pdB; rw [if_pos hlt])
set_option maxRecDepth 100000 in
theorem c_LW_taught (hC : CI μ T C Ct D t L x) (hL : L ≤ 2000) (hY : StrR μ κb ib κa ia Y) (hlen : Y.length ≤ 1980) (hb : 100 ≤ κb ∧ κb < 256 ∧ κb ≠ 130) (ha : 100 ≤ κa ∧ κa < 256 ∧ κa ≠ 130) (hf : FC μ c) (hS : St μ) (hD : 108 ≤ d) (hc : 1 ≤ rc) (hs : 5 ≤ rs)
    (hQ : ∀ μ' cd p r t, TchO t Y.length cd p r → (∀ k, k < Y.length → t k = Y.getD k 0) → FrS (OwQ c (c + 1)) μ μ' → St μ' → CI μ' (nxT t Y.length r T) (nxC t Y.length r C) (nxE t Y.length r Ct) (nxD t Y.length r D) t 0 p → Q (some (.int cd)) μ') : Cal K_LW_taught d rc rs [.ref (hd 8 0), .ref (hd κb ib)] μ Q := by
  have fq : FreN μ (hd 130 c) := hf.fr (by decide) (by decide)
  have f1 : FrS (Dy c (c + 1)) μ (mkA μ (hd 130 c) (2, 5)) := FrS.rf.mk (by decide) (by unfold Dy; omega)
  have S1 := f1.st (fun κ i z => z.lo) hS
  have a1 : mS (mkA μ (hd 130 c) (2, 5)) (hd 130 c) = (2, 5) := if_pos rfl
  refine e_LW_taught (r_LW_taught_0 (by omega) ⟨⟨by decide, by decide, by omega, by omega⟩, hd 130 c, fq, 0, 0, ⟨Nat.zero_le _, Nat.zero_le _⟩, s_8 S1 (by decide), c9_trim (k := 0) (hC.dy f1) (Nat.zero_le _) hL (by omega) S1 (fun μ2 f2 S2 C2 => ⟨_, rfl, ?_⟩)⟩)
  generalize hM : (Y.length + 19) / 20 = M
  have loop : ∀ m, m ≤ M → ∀ μ1 t1, FrS (OwQ c (c + 1)) μ μ1 → St μ1 → mS μ1 (hd 130 c) = (2, 5) → CI μ1 T C Ct D t1 (20 * m) x → (∀ i, i < 20 * m → t1 i = pdB Y i) → Wx K_LW_taught d (rc - 1 - 0) (rs - 5 - 0) (fun r μ' => St μ' ∧ Q r μ') 12 [(0, .ref (hd 8 0)), (1, .ref (hd κb ib)), (2, .ref (hd 130 c)), (3, .int (nI (20 * m)))] [] μ1 := by
    have on : ∀ {κ i : Nat}, 100 ≤ κ → κ ≠ 130 → mS μ (hd κ i) ≠ (0, 0) → κ < 256 → ¬ OwQ c (c + 1) κ i := fun {κ i} z1 z2 z3 z4 z => by
      unfold OwQ OwC8 Dy at z
      exact z3 (hf κ i (by omega) z4 (by omega))
    have nb : ¬ OwQ c (c + 1) κb ib := on hb.1 hb.2.2 (by rw [hY.1]; decide) hb.2.1
    have na : ¬ OwQ c (c + 1) κa ia := on ha.1 ha.2.2 (by rw [hY.2.2.2.1]; exact fun z => by cases z) ha.2.1
    refine up_loop M (fun μ1 t1 g S F Cc ht => ?_) (fun m hm ih μ1 t1 g S F Cc ht => ?_)
    · have Y1 := hY.fr g hb.2.1 ha.2.1 nb na
      refine r_LW_taught_12 (by omega) ⟨Y1.1, c9T_len Y1 (by omega) S ⟨_, rfl, fun _ => ⟨Y1.1, c9T_len Y1 (by omega) S ⟨_, rfl, 0, 0, ⟨Nat.zero_le _, Nat.zero_le _⟩, s_8 S (by decide), c9_trim Cc (by omega) (by omega) (by omega) S (fun μ3 f3 S3 C3 => ⟨_, rfl, 0, 0, ⟨Nat.zero_le _, Nat.zero_le _⟩, s_8 S3 (by decide), ?_⟩)⟩⟩, fun z => absurd ((nI_leI (by omega) (by omega)).mpr (by omega)) z⟩⟩
      refine c_PB_teach (by omega) S3 C3 (fun μ4 cd p r hT f4 S4 C4 => ⟨_, rfl, S4, hQ μ4 cd p r t1 hT (fun k hk => ?_) (g.trans (((FrS.of f3).mono (fun κ i z => Or.inl z)).trans ((FrS.of f4).mono (fun κ i z => Or.inl z)))) S4 C4⟩)
      rw [ht k (by omega)]; unfold pdB; rw [if_pos hk]
    · have Y1 := hY.fr g hb.2.1 ha.2.1 nb na
      refine r_LW_taught_12 (by omega) ⟨Y1.1, c9T_len Y1 (by omega) S ⟨_, rfl, fun z => absurd ((nI_leI (by omega) (by omega)).mp z) (by omega), fun _ => ?_⟩⟩
      refine ta_23 (μ := μ1) (m := m) (q := c) (by omega) (by omega) Y1 hlen hb ha Cc (fun μ2 t2 f2 S2 F2 C2 h1 h2 => ?_) 0 (Nat.zero_le _) μ1 FrS.rf S ⟨F, fun u hu => fun i hi => absurd hi (by omega)⟩
      rw [show nI (20 * m) + 20 = nI (20 * (m + 1)) by rw [I20, nI_add]; rfl]
      refine ih μ2 t2 (g.trans (f2.mono (fun κ i z => ?_))) S2 F2 C2 (fun i hi => ?_)
      · rcases z with z | ⟨z1, z2⟩
        · exact Or.inl z
        · exact Or.inr ⟨by omega, by omega, by omega⟩
      · rcases Nat.lt_or_ge i (20 * m) with y | y
        · rw [h1 i y]; exact ht i y
        · have := h2 (i - 20 * m) (by omega)
          rwa [show 20 * m + (i - 20 * m) = i by omega] at this
  exact loop 0 (Nat.zero_le _) μ2 t ((f1.mono (fun κ i z => Or.inr z)).trans ((FrS.of f2).mono (fun κ i z => Or.inl z))) S2 (((FrS.of f2).S (by decide) (by unfold OwC8; omega)).trans a1) C2 (fun i hi => absurd hi (Nat.not_lt_zero _))
end TAU
