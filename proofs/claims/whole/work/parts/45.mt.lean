/-! the model cuts the tape into tokens -/
def mk (k : Nat) : Nat := if k ≤ 28 then k else if k = 44 then 40 else if k = 45 then 41 else if k = 42 then 300 else if k = 43 then 301 else if k = 46 then 900 else if k = 47 then 901 else 50 + (txC k 0).toNatClampNeg
theorem mk_sy1 : ∀ b, b < 128 → sy1 b ≠ 47 → mk (sy1 b) = 50 + b := by decide +kernel
theorem mk_lt : ∀ k, k < 46 → mk k < 900 := by decide +kernel
theorem mk_46 : mk 46 = 900 := by decide
theorem mk_47 : mk 47 = 901 := by decide
theorem tx45 : txL 45 = 13 := by decide +kernel
theorem tx45_sy : ∀ b, b < 128 → ((∃ j, j < 13 ∧ txC 45 j = nI b) ↔ sy1 b ≠ 47) := by
  have h : ∀ b, b < 128 → ((∃ j : Fin 13, txC 45 j.val = nI b) ↔ sy1 b ≠ 47) := by decide +kernel
  intro b hb
  rw [← h b hb]
  exact ⟨fun ⟨j, h1, h2⟩ => ⟨⟨j, h1⟩, h2⟩, fun ⟨j, h2⟩ => ⟨j.val, j.isLt, h2⟩⟩
theorem nI_byte : ∀ b, b < 128 → (nI b).toInt8.toInt32 = nI b ∧ ((nI b).toUInt32 % 65536).toInt32 = nI b := by decide +kernel
section SLI
variable {d rc rs : Nat} {Q : Option Value → Mu → Prop} {μ : Mu}
theorem c_SL_canEncode {c : Nat} (hD : 1 ≤ d) (hS : St μ) (hc : c < 128) (hQ : Q (some (.int 1)) μ) : Cal K_SL_canEncode_9a6ad d rc rs [.int (nI c)] μ Q := by
  refine Cal.of (by decide +kernel) rfl rfl (Nat.le_of_ble_eq_true rfl) rfl ?_
  refine Wa.iload_n (j := 0) d_SL_canEncode_9a6ad_0 rfl ?_
  refine Wa.if_lt 15 d_SL_canEncode_9a6ad_1 (by decide) (fun h => absurd h (nI_pos (by omega))) (fun _ => ?_)
  refine Wa.iload_n (j := 0) d_SL_canEncode_9a6ad_4 rfl ?_
  refine Wa.sipush (v := 255) d_SL_canEncode_9a6ad_5 rfl ?_
  refine Wa.icmp_gt 15 d_SL_canEncode_9a6ad_8 (by decide) (fun h => absurd h ?_) (fun _ => ?_)
  · rw [I255, nI_ltI (by decide) (by omega)]; omega
  refine Wa.iconst (v := 1) d_SL_canEncode_9a6ad_11 rfl ?_
  refine Wa.goto 16 d_SL_canEncode_9a6ad_12 (by decide) ?_
  exact Wx.retz d_SL_canEncode_9a6ad_16 rfl (Or.inr rfl) ⟨hS, hQ⟩
theorem c_SL_indexOfChar {c : Nat} (hD : 1 ≤ d) (hS : St μ) (hc : c < 128) (hQ : ∀ x : Int32, (x < 0 ↔ ¬ ∃ j, j < 13 ∧ txC 45 j = nI c) → Q (some (.int x)) μ) : Cal K_SL_indexOfChar_4cfef d rc rs [.ref (hd 2 45), .int (nI c), .int 0, .int (nI 13)] μ Q := by
  refine Cal.of (by decide +kernel) rfl rfl (Nat.le_of_ble_eq_true rfl) rfl ?_
  refine Wa.iload_n (j := 1) d_SL_indexOfChar_4cfef_0 rfl ?_
  refine Wa.i2b d_SL_indexOfChar_4cfef_1 ?_
  rw [(nI_byte c hc).1]
  refine Wa.istore (i := 4) (L' := [(4, .int (nI c)), (0, .ref (hd 2 45)), (1, .int (nI c)), (2, .int 0), (3, .int (nI 13))]) d_SL_indexOfChar_4cfef_2 (by decide) rfl ?_
  refine Wa.iload_n (j := 3) d_SL_indexOfChar_4cfef_4 rfl ?_
  refine Wa.istore (i := 5) (L' := [(5, .int 0), (4, .int (nI c)), (0, .ref (hd 2 45)), (1, .int (nI c)), (2, .int 0), (3, .int (nI 13))]) d_SL_indexOfChar_4cfef_5 (by decide) rfl ?_
  have key : ∀ k, k ≤ 13 → (∀ j, j < k → txC 45 j ≠ nI c) → Wx K_SL_indexOfChar_4cfef d rc rs (fun r μ' => St μ' ∧ Q r μ') 7 [(5, .int (nI k)), (4, .int (nI c)), (0, .ref (hd 2 45)), (1, .int (nI c)), (2, .int 0), (3, .int (nI 13))] [] μ := by
    refine up_loop _ (fun h => ?_) (fun k hk ih h => ?_)
    · refine Wa.iload (j := 0) d_SL_indexOfChar_4cfef_7 rfl ?_
      refine Wa.iload_n (j := 5) d_SL_indexOfChar_4cfef_9 rfl ?_
      refine Wa.icmp_ge 31 d_SL_indexOfChar_4cfef_10 (by decide) (fun _ => ?_) (fun h => absurd (Int32.le_refl _) h)
      refine Wa.iconst (v := -1) d_SL_indexOfChar_4cfef_31 rfl ?_
      exact Wx.reti d_SL_indexOfChar_4cfef_32 rfl ⟨hS, hQ _ ⟨fun _ => fun ⟨j, h1, h2⟩ => h j h1 h2, fun _ => by decide⟩⟩
    · refine Wa.iload (j := 0) d_SL_indexOfChar_4cfef_7 rfl ?_
      refine Wa.iload_n (j := 5) d_SL_indexOfChar_4cfef_9 rfl ?_
      refine Wa.icmp_ge 31 d_SL_indexOfChar_4cfef_10 (by decide) (fun h => absurd h (nI_ge hk (by decide))) (fun _ => ?_)
      refine Wa.aload_n (j := 2) d_SL_indexOfChar_4cfef_13 rfl ?_
      refine Wa.iload (j := 0) d_SL_indexOfChar_4cfef_14 rfl ?_
      refine Wa.bald d_SL_indexOfChar_4cfef_16 (s_2 hS (by decide)) (vp_in_nI (by rw [show (kTx.getD 45 []).length = 13 from tx45]; exact hk) (by decide +kernel)) ?_
      rw [nI_clamp (by omega), s2_g]
      refine Wa.iload (j := 1) d_SL_indexOfChar_4cfef_17 rfl ?_
      refine Wa.icmp_ne 25 d_SL_indexOfChar_4cfef_19 (by decide) (fun z => ?_) (fun z => ?_)
      · refine Wa.iinc (i := 5) (j := 0) (v := (nI k + 1)) (L' := [(5, .int (nI k + 1)), (4, .int (nI c)), (0, .ref (hd 2 45)), (1, .int (nI c)), (2, .int 0), (3, .int (nI 13))]) d_SL_indexOfChar_4cfef_25 rfl rfl (by decide) rfl ?_
        refine Wa.goto 7 d_SL_indexOfChar_4cfef_28 (by decide) ?_
        rw [nI_1]
        refine ih (fun j hj => ?_)
        rcases Nat.lt_succ_iff_lt_or_eq.mp hj with y | rfl
        · exact h j y
        · exact z
      · refine Wa.iload (j := 0) d_SL_indexOfChar_4cfef_22 rfl ?_
        exact Wx.reti d_SL_indexOfChar_4cfef_24 rfl ⟨hS, hQ _ ⟨fun y => absurd y (nI_pos (by omega)), fun y => absurd ⟨k, hk, z⟩ y⟩⟩
  exact key 0 (Nat.zero_le _) (fun j hj => absurd hj (Nat.not_lt_zero _))
theorem c_SL_indexOf {c : Nat} (hD : 2 ≤ d) (hS : St μ) (hc : c < 128) (hQ : ∀ x : Int32, (x < 0 ↔ ¬ ∃ j, j < 13 ∧ txC 45 j = nI c) → Q (some (.int x)) μ) : Cal K_SL_indexOf_4cfef d rc rs [.ref (hd 2 45), .int (nI c), .int 0, .int (nI 13)] μ Q := by
  refine Cal.of (by decide +kernel) rfl rfl (Nat.le_of_ble_eq_true rfl) rfl ?_
  refine Wa.iload_n (j := 1) d_SL_indexOf_4cfef_0 rfl ?_
  refine Wx.cSi (As := [.int (nI c)]) (d - 1) 0 0 (fun x μ' => x = 1 ∧ μ' = μ) d_SL_indexOf_4cfef_1 mok_SL_canEncode_9a6ad sl_SL_88 rfl rfl (Nat.le_of_ble_eq_true rfl) (by omega) (Nat.zero_le _) (Nat.zero_le _) (c_SL_canEncode (by omega) hS hc ⟨_, rfl, rfl, rfl⟩) (fun x μ' hS' hF => ?_)
  obtain ⟨rfl, rfl⟩ := hF
  refine Wa.if_ne 9 d_SL_indexOf_4cfef_4 (by decide) (fun _ => ?_) (fun h => absurd h (by decide))
  refine Wa.iload_n (j := 2) d_SL_indexOf_4cfef_9 rfl ?_
  refine Wa.iconst (v := 0) d_SL_indexOf_4cfef_10 rfl ?_
  refine Wx.mmax d_SL_indexOf_4cfef_11 mm_SL_92 (by decide) (by omega) ?_
  refine Wa.istore_n (i := 2) (L' := [(2, .int (imax 0 0)), (0, .ref (hd 2 45)), (1, .int (nI c)), (3, .int (nI 13))]) d_SL_indexOf_4cfef_14 rfl (by decide) rfl ?_
  refine Wa.iload_n (j := 3) d_SL_indexOf_4cfef_15 rfl ?_
  refine Wa.aload_n (j := 1) d_SL_indexOf_4cfef_16 rfl ?_
  refine Wa.alen d_SL_indexOf_4cfef_17 (s_2 hS' (by decide)) (by decide) ?_
  rw [show (kTx.getD 45 []).length = 13 from tx45]
  refine Wx.mmin d_SL_indexOf_4cfef_18 mm_SL_38 (by decide) (by omega) ?_
  refine Wa.istore_n (i := 3) (L' := [(3, .int (imin (nI 13) (nI 13))), (2, .int (imax 0 0)), (0, .ref (hd 2 45)), (1, .int (nI c))]) d_SL_indexOf_4cfef_21 rfl (by decide) rfl ?_
  rw [show imax 0 0 = 0 by decide, show imin (nI 13) (nI 13) = nI 13 by decide]
  refine Wa.iload_n (j := 1) d_SL_indexOf_4cfef_22 rfl ?_
  refine Wa.iload_n (j := 0) d_SL_indexOf_4cfef_23 rfl ?_
  refine Wa.icmp_lt 29 d_SL_indexOf_4cfef_24 (by decide) (fun _ => ?_) (fun h => absurd (by decide) h)
  refine Wa.aload_n (j := 2) d_SL_indexOf_4cfef_29 rfl ?_
  refine Wa.iload_n (j := 3) d_SL_indexOf_4cfef_30 rfl ?_
  refine Wa.iload_n (j := 1) d_SL_indexOf_4cfef_31 rfl ?_
  refine Wa.iload_n (j := 0) d_SL_indexOf_4cfef_32 rfl ?_
  refine Wx.cSi (As := [.ref (hd 2 45), .int (nI c), .int 0, .int (nI 13)]) (d - 1) 0 0 (fun x μ2 => (x < 0 ↔ ¬ ∃ j, j < 13 ∧ txC 45 j = nI c) ∧ μ2 = μ') d_SL_indexOf_4cfef_33 mok_SL_indexOfChar_4cfef sl_SL_95 rfl rfl (Nat.le_of_ble_eq_true rfl) (by omega) (Nat.zero_le _) (Nat.zero_le _) (c_SL_indexOfChar (by omega) hS' hc (fun x hx => ⟨_, rfl, hx, rfl⟩)) (fun x μ2 hS2 hF => ?_)
  obtain ⟨hx, rfl⟩ := hF
  exact Wx.reti d_SL_indexOf_4cfef_36 rfl ⟨hS2, hQ x hx⟩
theorem c_Str_indexOf2 {c : Nat} (hD : 3 ≤ d) (hS : St μ) (hc : c < 128) (hQ : ∀ x : Int32, (x < 0 ↔ ¬ ∃ j, j < 13 ∧ txC 45 j = nI c) → Q (some (.int x)) μ) : Cal K_Str_indexOf_7cf53 d rc rs [.ref (hd 1 45), .int (nI c), .int 0] μ Q := by
  refine Cal.of (by decide +kernel) rfl rfl (Nat.le_of_ble_eq_true rfl) rfl ?_
  refine Wa.aload_n (j := 0) d_Str_indexOf_7cf53_0 rfl ?_
  refine Wx.cVi (q := E_Str) (As := []) 15 (d - 1) 0 0 (fun x μ' => x = 1 ∧ μ' = μ) d_Str_indexOf_7cf53_1 mok_Str_isLatin1_aae02 vl_Str_492 rfl rfl rfl (Nat.le_of_ble_eq_true rfl) (by omega) (Nat.zero_le _) (Nat.zero_le _) (s_1 hS (by decide)) (c_Str_isLatin1 (by omega) hS (by decide) ⟨_, rfl, rfl, rfl⟩) (fun x μ' hS' hF => ?_)
  obtain ⟨rfl, rfl⟩ := hF
  refine Wa.if_eq 23 d_Str_indexOf_7cf53_4 (by decide) (fun h => absurd h (by decide)) (fun _ => ?_)
  refine Wa.aload_n (j := 0) d_Str_indexOf_7cf53_7 rfl ?_
  refine Wx.getR 15 0 d_Str_indexOf_7cf53_8 f_Str_0 rfl fl_Str_9 (s_1 hS' (by decide)) s1_r ?_
  refine Wa.iload_n (j := 1) d_Str_indexOf_7cf53_11 rfl ?_
  refine Wa.iload_n (j := 2) d_Str_indexOf_7cf53_12 rfl ?_
  refine Wa.aload_n (j := 0) d_Str_indexOf_7cf53_13 rfl ?_
  refine Wx.cVi (q := E_Str) (As := []) 15 (d - 1) 0 0 (fun x μ2 => x = nI 13 ∧ μ2 = μ') d_Str_indexOf_7cf53_14 mok_Str_length_8abf5 vl_Str_505 rfl rfl rfl (Nat.le_of_ble_eq_true rfl) (by omega) (Nat.zero_le _) (Nat.zero_le _) (s_1 hS' (by decide)) (c_Str_length (by omega) hS' (by decide) ⟨_, rfl, by rw [tx45], rfl⟩) (fun x μ2 hS2 hF => ?_)
  obtain ⟨rfl, rfl⟩ := hF
  refine Wx.cSi (As := [.ref (hd 2 45), .int (nI c), .int 0, .int (nI 13)]) (d - 1) 0 0 (fun x μ3 => (x < 0 ↔ ¬ ∃ j, j < 13 ∧ txC 45 j = nI c) ∧ μ3 = μ2) d_Str_indexOf_7cf53_17 mok_SL_indexOf_4cfef sl_Str_637 rfl rfl (Nat.le_of_ble_eq_true rfl) (by omega) (Nat.zero_le _) (Nat.zero_le _) (c_SL_indexOf (by omega) hS2 hc (fun x hx => ⟨_, rfl, hx, rfl⟩)) (fun x μ3 hS3 hF => ?_)
  obtain ⟨hx, rfl⟩ := hF
  refine Wa.goto 36 d_Str_indexOf_7cf53_20 (by decide) ?_
  exact Wx.reti d_Str_indexOf_7cf53_36 rfl ⟨hS3, hQ x hx⟩
theorem c_Str_indexOf {c : Nat} (hD : 4 ≤ d) (hS : St μ) (hc : c < 128) (hQ : ∀ x : Int32, (x < 0 ↔ ¬ ∃ j, j < 13 ∧ txC 45 j = nI c) → Q (some (.int x)) μ) : Cal K_Str_indexOf_0f7a4 d rc rs [.ref (hd 1 45), .int (nI c)] μ Q := by
  refine Cal.of (by decide +kernel) rfl rfl (Nat.le_of_ble_eq_true rfl) rfl ?_
  refine Wa.aload_n (j := 0) d_Str_indexOf_0f7a4_0 rfl ?_
  refine Wa.iload_n (j := 1) d_Str_indexOf_0f7a4_1 rfl ?_
  refine Wa.iconst (v := 0) d_Str_indexOf_0f7a4_2 rfl ?_
  refine Wx.cVi (q := E_Str) (As := [.int (nI c), .int 0]) 15 (d - 1) 0 0 (fun x μ' => (x < 0 ↔ ¬ ∃ j, j < 13 ∧ txC 45 j = nI c) ∧ μ' = μ) d_Str_indexOf_0f7a4_3 mok_Str_indexOf_7cf53 vl_Str_633 rfl rfl rfl (Nat.le_of_ble_eq_true rfl) (by omega) (Nat.zero_le _) (Nat.zero_le _) (s_1 hS (by decide)) (c_Str_indexOf2 (by omega) hS hc (fun x hx => ⟨_, rfl, hx, rfl⟩)) (fun x μ' hS' hF => ?_)
  obtain ⟨hx, rfl⟩ := hF
  exact Wx.reti d_Str_indexOf_0f7a4_6 rfl ⟨hS', hQ x hx⟩
end SLI
/-- the tape stands in the model -/
def TM (μ : Mu) (t : Nat → Nat) (L : Nat) : Prop := L ≤ 2000 ∧ (∀ k, k < L → t k < 256) ∧ mI μ (hd 40 0) 2 = nI L ∧ ∀ k, k < L → mI μ (hd 41 0) k = nI (t k)
theorem isL_nI {b : Nat} (h : b < 256) : (97 ≤ (nI b).toInt ∧ (nI b).toInt ≤ 122) ↔ isL b := by
  rw [nI_toInt (by omega)]; unfold isL; omega
theorem isD_nI {b : Nat} (h : b < 256) : (48 ≤ (nI b).toInt ∧ (nI b).toInt ≤ 57) ↔ isD b := by
  rw [nI_toInt (by omega)]; unfold isD; omega
section MTK
variable {d rc rs : Nat} {Q : Option Value → Mu → Prop} {μ : Mu} {t : Nat → Nat} {L : Nat}
theorem c_MM_isLetterX {x : Int32} (hD : 1 ≤ d) (hS : St μ) (hQ : Q (some (.int (bI (97 ≤ x.toInt ∧ x.toInt ≤ 122)))) μ) : Cal K_MM_isLetter d rc rs [.int x] μ Q := by
  refine e_MM_isLetter (g_MM_isLetter_0 hD hS ?_)
  have e1 : x < 97 ↔ x.toInt < 97 := by rw [Int32.lt_iff_toInt_lt]; exact Iff.rfl
  have e2 : (122 : Int32) < x ↔ 122 < x.toInt := by rw [Int32.lt_iff_toInt_lt]; exact Iff.rfl
  rw [e1, e2]
  refine ⟨fun h => ⟨hS, ?_⟩, fun h => ⟨fun h2 => ⟨hS, ?_⟩, fun h2 => ⟨hS, ?_⟩⟩⟩
  · rw [bI_f (by omega)] at hQ; exact hQ
  · rw [bI_f (by omega)] at hQ; exact hQ
  · rw [bI_t (by omega)] at hQ; exact hQ
theorem c_MM_isDigitX {x : Int32} (hD : 1 ≤ d) (hS : St μ) (hQ : Q (some (.int (bI (48 ≤ x.toInt ∧ x.toInt ≤ 57)))) μ) : Cal K_MM_isDigit d rc rs [.int x] μ Q := by
  refine e_MM_isDigit (g_MM_isDigit_0 hD hS ?_)
  have e1 : x < 48 ↔ x.toInt < 48 := by rw [Int32.lt_iff_toInt_lt]; exact Iff.rfl
  have e2 : (57 : Int32) < x ↔ 57 < x.toInt := by rw [Int32.lt_iff_toInt_lt]; exact Iff.rfl
  rw [e1, e2]
  refine ⟨fun h => ⟨hS, ?_⟩, fun h => ⟨fun h2 => ⟨hS, ?_⟩, fun h2 => ⟨hS, ?_⟩⟩⟩
  · rw [bI_f (by omega)] at hQ; exact hQ
  · rw [bI_f (by omega)] at hQ; exact hQ
  · rw [bI_t (by omega)] at hQ; exact hQ
/-- the byte there; 256 behind the end -/
noncomputable def bA (t : Nat → Nat) (L p : Nat) : Int32 := if p < L then nI (t p) else -1
theorem c_MM_byteOf {p : Nat} (hT : TM μ t L) (hD : 1 ≤ d) (hS : St μ) (hp : p < 2 ^ 30) (hQ : Q (some (.int (bA t L p))) μ) : Cal K_MM_byteOf d rc rs [.ref (hd 40 0), .int (nI p)] μ Q := by
  obtain ⟨h1, h2, h3, h5⟩ := hT
  refine e_MM_byteOf (g_MM_byteOf_0 hD hS ?_)
  rw [h3, nI_leI (by omega) (by omega), nI_clamp (by omega)]
  unfold bA at hQ
  refine ⟨fun h => ⟨hS, ?_⟩, fun h => ⟨vp_in_nI (by omega) (by decide), hS, ?_⟩⟩
  · rw [if_neg (by omega)] at hQ; exact hQ
  · rw [if_pos (by omega)] at hQ; rw [h5 p (by omega)]; exact hQ
theorem bA_L {p : Nat} (h2 : ∀ k, k < L → t k < 256) : (97 ≤ (bA t L p).toInt ∧ (bA t L p).toInt ≤ 122) ↔ (p < L ∧ isL (t p)) := by
  unfold bA
  split
  · rename_i h; rw [isL_nI (h2 p h)]; exact ⟨fun z => ⟨h, z⟩, fun z => z.2⟩
  · rename_i h
    exact ⟨fun z => absurd z.1 (by decide), fun z => absurd z.1 h⟩
theorem bA_D {p : Nat} (h2 : ∀ k, k < L → t k < 256) : (48 ≤ (bA t L p).toInt ∧ (bA t L p).toInt ≤ 57) ↔ (p < L ∧ isD (t p)) := by
  unfold bA
  split
  · rename_i h; rw [isD_nI (h2 p h)]; exact ⟨fun z => ⟨h, z⟩, fun z => z.2⟩
  · rename_i h
    exact ⟨fun z => absurd z.1 (by decide), fun z => absurd z.1 h⟩
theorem bA_c {p c : Nat} (h2 : ∀ k, k < L → t k < 256) (hc : c < 256) : bA t L p = nI c ↔ (p < L ∧ t p = c) := by
  unfold bA
  split
  · rename_i h
    have := h2 p h
    rw [nI_eq (by omega) (by omega)]; exact ⟨fun z => ⟨h, z⟩, fun z => z.2⟩
  · rename_i h
    refine ⟨fun z => ?_, fun z => absurd z.1 h⟩
    exact absurd z.symm (by rw [← oI_s, oI_m1 (by omega)]; omega)
theorem c_MM_word {p n : Nat} (hT : TM μ t L) (hD : 4 ≤ d) (hS : St μ) (hn : p + n ≤ L) (h0 : 1 ≤ n) (hQ : Q (some (.int (nI (mk (wdK t p n))))) μ) : Cal K_MM_word d rc rs [.ref (hd 40 0), .int (nI p), .int (nI n)] μ Q := by
  obtain ⟨h1, h2, h3, h5⟩ := hT
  refine e_MM_word (g_MM_word_0 (by omega) hS ?_)
  have key : ∀ k, k ≤ 29 → (∀ i, i < k → ¬ ew t p n i) → Wx K_MM_word d rc rs (fun r μ' => St μ' ∧ Q r μ') 2 [(0, .ref (hd 40 0)), (1, .int (nI p)), (2, .int (nI n)), (3, .int (nI k))] [] μ := by
    refine up_loop _ (fun h => ?_) (fun k hk ih h => ?_)
    · refine g_MM_word_2 (by omega) hS ⟨fun _ => ⟨hS, ?_⟩, fun h => absurd (Int32.le_refl _) h⟩
      have e : wdK t p n = 44 := by
        unfold wdK
        rw [if_pos (sc_at 29 0 rfl (fun q _ hq => ⟨hq, h q hq⟩) (fun u => absurd u.1 (by decide)) (by decide))]
      rw [e] at hQ; exact hQ
    · have hlk := txL_lt k (by omega)
      have go : ¬ ew t p n k → Wx K_MM_word d rc rs (fun r μ' => St μ' ∧ Q r μ') 2 [(0, .ref (hd 40 0)), (1, .int (nI p)), (2, .int (nI n)), (3, .int (nI k + 1))] [] μ := fun hn => by
        rw [nI_1]
        refine ih (fun i hi => ?_)
        rcases Nat.lt_succ_iff_lt_or_eq.mp hi with u | rfl
        · exact h i u
        · exact hn
      have no : ∀ j, ¬ ew t p n k → Wx K_MM_word d rc rs (fun r μ' => St μ' ∧ Q r μ') 32 [(0, .ref (hd 40 0)), (1, .int (nI p)), (2, .int (nI n)), (3, .int (nI k)), (4, .int 0), (5, .int j)] [] μ := fun j hn => g_MM_word_32 (by omega) hS ⟨fun _ => ⟨fun _ => go hn, fun z => absurd rfl z⟩, fun z => absurd rfl z⟩
      refine g_MM_word_2 (by omega) hS ⟨fun h => absurd h (nI_ge hk (by decide)), fun _ => ⟨vp_in_nI hk (by decide), ?_⟩⟩
      rw [nI_clamp (by omega)]
      refine c_Str_length (by omega) hS (by omega) ⟨_, rfl, ?_⟩
      rw [nI_eq (by omega) (by omega)]
      refine ⟨fun hl => ?_, fun hl => no 0 (fun u => hl u.1)⟩
      have k32 : ∀ j, j ≤ n → (∀ i, i < j → nI (t (p + i)) = txC k i) → Wx K_MM_word d rc rs (fun r μ' => St μ' ∧ Q r μ') 32 [(0, .ref (hd 40 0)), (1, .int (nI p)), (2, .int (nI n)), (3, .int (nI k)), (4, .int 1), (5, .int (nI j))] [] μ := by
        refine up_loop _ (fun ha => ?_) (fun j hj ihj ha => ?_)
        · refine g_MM_word_32 (by omega) hS ⟨fun z => absurd z (by decide), fun _ => ⟨fun _ => ⟨fun z => absurd z (by decide), fun _ => ⟨hS, ?_⟩⟩, fun z => absurd (Int32.le_refl _) z⟩⟩
          have hew : ew t p n k := ⟨hl, ha⟩
          have e : wdK t p n = k := by
            have es : sc (fun i => i < 29 ∧ ¬ ew t p n i) 29 0 = k := sc_at k 0 (by omega) (fun q _ hq => ⟨by omega, h q hq⟩) (fun x => x.2 hew) (by omega)
            unfold wdK
            rw [es, if_neg (by omega)]
          rw [e, show mk k = k by unfold mk; rw [if_pos (by omega)]] at hQ; exact hQ
        · refine g_MM_word_32 (by omega) hS ⟨fun z => absurd z (by decide), fun _ => ⟨fun z => absurd z (nI_ge hj (by omega)), fun _ => ⟨vp_in_nI hk (by decide), ?_⟩⟩⟩
          rw [nI_clamp (by omega), nI_add, nI_clamp (by omega)]
          refine c_Str_charAt (by omega) hS (by omega) (by omega) ⟨_, rfl, vp_in_nI (by omega) (by decide), ?_⟩
          rw [h5 (p + j) (by omega)]
          refine ⟨fun z => ?_, fun z => ?_⟩
          · rw [nI_1]
            refine ihj (fun i hi => ?_)
            rcases Nat.lt_succ_iff_lt_or_eq.mp hi with u | rfl
            · exact ha i u
            · exact z.symm
          · exact no _ (fun u => z (u.2 j hj).symm)
      exact k32 0 (Nat.zero_le _) (fun i hi => absurd hi (Nat.not_lt_zero _))
  exact key 0 (Nat.zero_le _) (fun i hi => absurd hi (Nat.not_lt_zero _))
/-- how long, as the model keeps it -/
noncomputable def tkM (t : Nat → Nat) (L p : Nat) : Nat := @ite _ (isL (t p) ∨ isD (t p)) (Classical.propDecidable _) (tkE t L p - p) (@ite _ (isLong t L p) (Classical.propDecidable _) 2 1)
theorem tkM_E {p : Nat} (h : tkK t L p ≠ 47) : tkM t L p = tkE t L p - p := by
  unfold tkM
  by_cases hw : isL (t p) ∨ isD (t p)
  · rw [if_pos hw]
  · rw [if_neg hw]
    have e : tkE t L p = p + syN t L p := by unfold tkE; rw [if_neg hw]
    have ek : tkK t L p = syK t L p := by unfold tkK; rw [if_neg (fun z => hw (Or.inr z)), if_neg (fun z => hw (Or.inl z))]
    rw [ek] at h
    rw [e]
    unfold syN syK at *
    by_cases hl : isLong t L p
    · rw [if_pos hl, if_pos hl]; omega
    · rw [if_neg hl] at h
      rw [if_neg hl, if_neg hl, if_neg h]; omega
theorem c_MM_kindEnd {p i : Nat} (hT : TM μ t L) (hD : 2 ≤ d) (hS : St μ) (hp : L ≤ p) (hp2 : p < 2 ^ 30) (hQ : Q (some (.int 900)) μ) : Cal K_MM_kindAt d rc rs [.ref (hd 40 0), .int (nI p), .int (nI i)] μ Q := by
  refine e_MM_kindAt (g_MM_kindAt_0 (by omega) hS (c_MM_byteOf hT (by omega) hS hp2 ⟨_, rfl, fun _ => ⟨hS, hQ⟩, fun z => absurd ?_ z⟩))
  unfold bA; rw [if_neg (by omega)]
theorem c_MM_kindAt {p i : Nat} (hT : TM μ t L) (hD : 6 ≤ d) (hS : St μ) (hp : p < L) (hi : i ≤ 400) (hQ : Q (some (.int (nI (mk (tkK t L p))))) (setI μ (hd 44 0) i (nI (tkM t L p)))) : Cal K_MM_kindAt d rc rs [.ref (hd 40 0), .int (nI p), .int (nI i)] μ Q := by
  have hT' := hT
  obtain ⟨h1, h2, h3, h5⟩ := hT
  have hb := h2 p hp
  have vi : vp_in (nI i) 401 := vp_in_nI (by omega) (by decide)
  have ebA : bA t L p = nI (t p) := by unfold bA; rw [if_pos hp]
  have hSt : ∀ x, St (setI μ (hd 44 0) i x) := fun _ => hS
  have hTm : ∀ x, TM (setI μ (hd 44 0) i x) t L := fun x => ⟨h1, h2, by rw [rd_ne (by decide) (by decide) (by decide)]; exact h3, fun k hk => by rw [rd_ne (by decide) (by decide) (by decide)]; exact h5 k hk⟩
  -- a run
  have run : (isL (t p) ∨ isD (t p)) → Wx K_MM_kindAt d rc rs (fun r μ' => St μ' ∧ Q r μ') 34 [(0, .ref (hd 40 0)), (1, .int (nI p)), (2, .int (nI i)), (3, .int (nI (t p))), (4, .int (nI p + 1))] [] μ := by
    intro hw
    have eT : tkE t L p = skR t L (isL (t p)) p := by unfold tkE; rw [if_pos hw]
    have eT1 : tkE t L p = skR t L (isL (t p)) (p + 1) := by
      rw [eT]
      exact sc_yes (p := p) ⟨hp, hw.elim (fun z => Or.inr ⟨z, z⟩) Or.inl⟩ hp
    have eM : tkM t L p = tkE t L p - p := by unfold tkM; rw [if_pos hw]
    obtain ⟨g1, g2⟩ := tkE_le (t := t) hp
    have g3 : p < tkE t L p := by rw [eT1]; exact Nat.lt_of_lt_of_le (Nat.lt_succ_self p) skR_ge
    have fin : Wx K_MM_kindAt d rc rs (fun r μ' => St μ' ∧ Q r μ') 71 [(0, .ref (hd 40 0)), (1, .int (nI p)), (2, .int (nI i)), (3, .int (nI (t p))), (4, .int (nI (tkE t L p)))] [] μ := by
      refine g_MM_kindAt_71 (by omega) hS ⟨vi, ?_⟩
      rw [nI_sub g1, nI_clamp (by omega), ← eM]
      refine c_MM_isLetterX (by omega) (hSt _) ⟨_, rfl, ?_⟩
      rw [bI_congr (isL_nI hb)]
      rw [show (6 : Int32) = nI 6 from rfl, show (10 : Int32) = nI 10 from rfl, nI_leI (by omega) (by decide), nI_leI (by omega) (by decide), eM]
      refine ⟨fun z => ?_, fun z => ?_⟩
      · rw [bI_z] at z
        have hd0 : isD (t p) := hw.resolve_left z
        have ek : tkK t L p = if tkE t L p - p ≤ 6 then 45 else 47 := by unfold tkK; rw [if_pos hd0]
        rw [ek] at hQ
        refine ⟨fun y => ?_, fun y => ⟨hSt _, ?_⟩⟩
        · rw [if_pos y] at hQ
          refine c_MM_isLetterX (by omega) (hSt _) ⟨_, rfl, ?_⟩
          rw [bI_congr (isL_nI hb)]
          refine ⟨fun _ => ⟨hSt _, ?_⟩, fun x => absurd (bI_f z) x⟩
          rw [← eM]; exact hQ
        · rw [if_neg y] at hQ; rw [← eM]; exact hQ
      · rw [bI_z, Classical.not_not] at z
        have hnd : ¬ isD (t p) := fun y => by unfold isD isL at *; omega
        have ek : tkK t L p = if tkE t L p - p ≤ 10 then wdK t p (tkE t L p - p) else 47 := by unfold tkK; rw [if_neg hnd, if_pos z]
        rw [ek] at hQ
        refine ⟨fun y => ?_, fun y => ⟨hSt _, ?_⟩⟩
        · rw [if_pos y] at hQ
          refine c_MM_isLetterX (by omega) (hSt _) ⟨_, rfl, ?_⟩
          rw [bI_congr (isL_nI hb)]
          refine ⟨fun x => absurd (bI_t z) (by rw [x]; decide), fun _ => ?_⟩
          rw [← eM] at hQ ⊢
          exact c_MM_word (hTm _) (by omega) (hSt _) (by omega) (by omega) ⟨_, rfl, hSt _, hQ⟩
        · rw [if_neg y] at hQ; rw [← eM]; exact hQ
    have key : ∀ k, k ≤ L → skR t L (isL (t p)) k = tkE t L p → Wx K_MM_kindAt d rc rs (fun r μ' => St μ' ∧ Q r μ') 34 [(0, .ref (hd 40 0)), (1, .int (nI p)), (2, .int (nI i)), (3, .int (nI (t p))), (4, .int (nI k))] [] μ := by
      have at34 : ∀ k, k ≤ L → skR t L (isL (t p)) k = tkE t L p → (k < L → skR t L (isL (t p)) (k + 1) = tkE t L p → Wx K_MM_kindAt d rc rs (fun r μ' => St μ' ∧ Q r μ') 34 [(0, .ref (hd 40 0)), (1, .int (nI p)), (2, .int (nI i)), (3, .int (nI (t p))), (4, .int (nI (k + 1)))] [] μ) → Wx K_MM_kindAt d rc rs (fun r μ' => St μ' ∧ Q r μ') 34 [(0, .ref (hd 40 0)), (1, .int (nI p)), (2, .int (nI i)), (3, .int (nI (t p))), (4, .int (nI k))] [] μ := by
        intro k hk hs ih
        have yes : k < L → (isD (t k) ∨ (isL (t p) ∧ isL (t k))) → Wx K_MM_kindAt d rc rs (fun r μ' => St μ' ∧ Q r μ') 65 [(0, .ref (hd 40 0)), (1, .int (nI p)), (2, .int (nI i)), (3, .int (nI (t p))), (4, .int (nI k))] [] μ := fun hkL z => by
          refine g_MM_kindAt_65 (by omega) hS ?_
          rw [nI_1]
          refine ih hkL ?_
          rw [← hs]
          exact (sc_yes ⟨hkL, z⟩ hkL).symm
        have no : ¬ (k < L ∧ (isD (t k) ∨ (isL (t p) ∧ isL (t k)))) → Wx K_MM_kindAt d rc rs (fun r μ' => St μ' ∧ Q r μ') 71 [(0, .ref (hd 40 0)), (1, .int (nI p)), (2, .int (nI i)), (3, .int (nI (t p))), (4, .int (nI k))] [] μ := fun z => by
          have e : skR t L (isL (t p)) k = k := sc_no z
          rw [e] at hs; rw [hs]; exact fin
        refine g_MM_kindAt_34 (by omega) hS (c_MM_byteOf hT' (by omega) hS (by omega) ⟨_, rfl, c_MM_isDigitX (by omega) hS ⟨_, rfl, ?_⟩⟩)
        rw [bI_congr (bA_D h2)]
        refine ⟨fun z => ?_, fun z => ?_⟩
        · rw [bI_z] at z
          refine c_MM_isLetterX (by omega) hS ⟨_, rfl, ?_⟩
          rw [bI_congr (isL_nI hb)]
          refine ⟨fun y => ?_, fun y => ?_⟩
          · rw [bI_z] at y
            exact no (fun u => u.2.elim (fun v => z ⟨u.1, v⟩) (fun v => y v.1))
          · rw [bI_z, Classical.not_not] at y
            refine c_MM_byteOf hT' (by omega) hS (by omega) ⟨_, rfl, c_MM_isLetterX (by omega) hS ⟨_, rfl, ?_⟩⟩
            rw [bI_congr (bA_L h2)]
            refine ⟨fun x => ?_, fun x => ?_⟩
            · rw [bI_z] at x
              exact no (fun u => u.2.elim (fun v => z ⟨u.1, v⟩) (fun v => x ⟨u.1, v.2⟩))
            · rw [bI_z, Classical.not_not] at x
              exact yes x.1 (Or.inr ⟨y, x.2⟩)
        · rw [bI_z, Classical.not_not] at z
          exact yes z.1 (Or.inl z.2)
      refine up_loop _ (fun hs => at34 L (Nat.le_refl _) hs (fun z => absurd z (Nat.lt_irrefl _))) (fun k hk ih hs => at34 k (by omega) hs (fun _ h => ih h))
    rw [nI_1]
    exact key (p + 1) hp eT1.symm
  -- a symbol
  have sym : ¬ isL (t p) → ¬ isD (t p) → ¬ isLong t L p → Wx K_MM_kindAt d rc rs (fun r μ' => St μ' ∧ Q r μ') 155 [(0, .ref (hd 40 0)), (2, .int (nI i)), (3, .int (nI (t p)))] [] μ := by
    intro hl hd' hlg
    have eM : tkM t L p = 1 := by unfold tkM; rw [if_neg (fun z => z.elim hl hd'), if_neg hlg]
    have ek : tkK t L p = sy1 (t p) := by unfold tkK syK; rw [if_neg hd', if_neg hl, if_neg hlg]
    rw [eM, ek] at hQ
    have wrong : sy1 (t p) = 47 → Wx K_MM_kindAt d rc rs (fun r μ' => St μ' ∧ Q r μ') 223 [] [] (setI μ (hd 44 0) i 1) := fun h => by
      rw [h] at hQ
      exact g_MM_kindAt_223 (by omega) (hSt _) ⟨hSt _, hQ⟩
    refine g_MM_kindAt_155 (by omega) hS ⟨fun _ => ⟨vi, fun _ => ?_, fun z => absurd rfl z⟩, fun z => absurd rfl z⟩
    rw [nI_clamp (by omega)]
    have e0 : nI (t p) ≤ 0 ↔ t p ≤ 0 := by rw [I0, nI_leI (by omega) (by decide)]
    have e128 : (128 : Int32) ≤ nI (t p) ↔ 128 ≤ t p := by rw [show (128 : Int32) = nI 128 from rfl, nI_leI (by decide) (by omega)]
    rw [e0, e128]
    refine ⟨fun z => wrong ?_, fun z => ⟨fun y => wrong (sy1_big y), fun y => ?_⟩⟩
    · rw [show t p = 0 by omega]; decide
    · rw [(nI_byte (t p) (by omega)).2]
      refine c_Str_indexOf (by omega) (hSt _) (by omega) (fun x hx => ⟨_, rfl, ?_⟩)
      rw [hx, tx45_sy (t p) (by omega), Classical.not_not]
      refine ⟨fun u => wrong u, fun u => ⟨hSt _, ?_⟩⟩
      rw [mk_sy1 (t p) (by omega) u] at hQ
      rw [I50, nI_add]; exact hQ
  have ne1 : nI (t p) ≠ -1 := fun z => by rw [← oI_s, oI_m1 (by omega)] at z; omega
  refine e_MM_kindAt (g_MM_kindAt_0 (by omega) hS (c_MM_byteOf hT' (by omega) hS (by omega) ⟨_, rfl, ?_⟩))
  rw [ebA]
  refine ⟨fun z => absurd z ne1, fun _ => c_MM_isLetterX (by omega) hS ⟨_, rfl, ?_⟩⟩
  rw [bI_congr (isL_nI hb)]
  refine ⟨fun z => ?_, fun z => ?_⟩
  · rw [bI_z] at z
    refine c_MM_isDigitX (by omega) hS ⟨_, rfl, ?_⟩
    rw [bI_congr (isD_nI hb)]
    refine ⟨fun y => ?_, fun y => ?_⟩
    · rw [bI_z] at y
      have at140 : (t p = 60 ∨ t p = 62) → Wx K_MM_kindAt d rc rs (fun r μ' => St μ' ∧ Q r μ') 140 [(0, .ref (hd 40 0)), (2, .int (nI i)), (3, .int (nI (t p))), (4, .int (nI p + 1))] [] μ := by
        intro hs
        rw [nI_1]
        refine g_MM_kindAt_140 (by omega) hS (c_MM_byteOf hT' (by omega) hS (by omega) ⟨_, rfl, ?_⟩)
        rw [show (61 : Int32) = nI 61 from rfl, bA_c h2 (by decide)]
        refine ⟨fun u => ⟨fun v => absurd v (by decide), fun _ => ⟨vi, fun v => absurd v (by decide), fun _ => ?_⟩⟩, fun u => sym z y (fun v => u v.2)⟩
        have hlg : isLong t L p := ⟨hs, u⟩
        have eM : tkM t L p = 2 := by unfold tkM; rw [if_neg (fun v => v.elim z y), if_pos hlg]
        have ek : tkK t L p = if t p = 60 then 42 else 43 := by unfold tkK syK; rw [if_neg y, if_neg z, if_pos hlg]
        rw [eM, ek] at hQ
        rw [I60, nI_eq (by omega) (by decide), nI_clamp (by omega)]
        refine ⟨fun v => ⟨hSt _, ?_⟩, fun v => ⟨hSt _, ?_⟩⟩
        · rw [if_pos v] at hQ; exact hQ
        · rw [if_neg v] at hQ; exact hQ
      rw [I60, show (62 : Int32) = nI 62 from rfl, nI_eq (by omega) (by decide), nI_eq (by omega) (by decide), I1]
      exact ⟨fun u => at140 (Or.inl u), fun u => ⟨fun v => at140 (Or.inr v), fun v => sym z y (fun x => x.1.elim u v)⟩⟩
    · rw [bI_z, Classical.not_not] at y
      exact run (Or.inr y)
  · rw [bI_z, Classical.not_not] at z
    exact run (Or.inl z)
/-- the first k tokens, in the model -/
def MKP (μ : Mu) (t : Nat → Nat) (L k : Nat) : Prop := TM μ t L ∧ ∀ i, i < k → mI μ (hd 42 0) i = nI (mk (tK t L i)) ∧ mI μ (hd 43 0) i = nI (tS t L i) ∧ (i < nT t L → mI μ (hd 44 0) i = nI (tkE t L (tS t L i) - tS t L i)) ∧ mI μ (hd 45 0) i = 0 ∧ mI μ (hd 46 0) i = 0
def OwK (κ _i : Nat) : Prop := 42 ≤ κ ∧ κ ≤ 46
theorem MKP.step {μ μ' : Mu} {k : Nat} (h : MKP μ t L k) (f : Fr OwK μ μ') (hl : ∀ κ, 42 ≤ κ → κ ≤ 46 → ∀ i, i < k → mI μ' (hd κ 0) i = mI μ (hd κ 0) i) (e42 : mI μ' (hd 42 0) k = nI (mk (tK t L k))) (e43 : mI μ' (hd 43 0) k = nI (tS t L k)) (e44 : k < nT t L → mI μ' (hd 44 0) k = nI (tkE t L (tS t L k) - tS t L k)) (e45 : mI μ' (hd 45 0) k = 0) (e46 : mI μ' (hd 46 0) k = 0) : MKP μ' t L (k + 1) := by
  obtain ⟨⟨a1, a2, a3, a4⟩, h2⟩ := h
  refine ⟨⟨a1, a2, (f.I (by decide) (by unfold OwK; omega)).trans a3, fun j hj => (f.I (by decide) (by unfold OwK; omega)).trans (a4 j hj)⟩, fun i hi => ?_⟩
  rcases Nat.lt_succ_iff_lt_or_eq.mp hi with z | rfl
  · obtain ⟨b1, b2, b3, b4, b5⟩ := h2 i z
    exact ⟨(hl 42 (by decide) (by decide) i z).trans b1, (hl 43 (by decide) (by decide) i z).trans b2, fun y => (hl 44 (by decide) (by decide) i z).trans (b3 y), (hl 45 (by decide) (by decide) i z).trans b4, (hl 46 (by decide) (by decide) i z).trans b5⟩
  · exact ⟨e42, e43, e44, e45, e46⟩
theorem rd_o {μ : Mu} {a b k j : Nat} {x : Int32} (h : j ≠ k) : mI (setI μ a k x) b j = mI μ b j := if_neg (fun z => h z.2)

theorem c_MM_cut (hT : TM μ t L) (hD : 7 ≤ d) (hS : St μ)
    (hQ : ∀ μ', Fr OwK μ μ' → mR μ' = mR μ → St μ' → MKP μ' t L (nT t L + 1) → Q none μ') : Cal K_MM_cut d rc rs [.ref (hd 40 0)] μ Q := by
  have hn4 := nT_le (t := t) (L := L)
  have h1 := hT.1
  have h2 := hT.2.1
  refine e_MM_cut (g_MM_cut_0 (by omega) hS ?_)
  -- one token
  have step : ∀ k, k ≤ nT t L → (k < nT t L → ∀ μ', Fr OwK μ μ' → mR μ' = mR μ → St μ' → MKP μ' t L (k + 1) → Wx K_MM_cut d rc rs (fun r μ' => St μ' ∧ Q r μ') 4 [(0, .ref (hd 40 0)), (1, .int (nI (aT t L (k + 1)))), (2, .int (nI (k + 1)))] [] μ') → ∀ μ', Fr OwK μ μ' → mR μ' = mR μ → St μ' → MKP μ' t L k → Wx K_MM_cut d rc rs (fun r μ' => St μ' ∧ Q r μ') 4 [(0, .ref (hd 40 0)), (1, .int (nI (aT t L k))), (2, .int (nI k))] [] μ' := by
    intro k hk ih μ' f1 fr f2 f3
    have hT := f3.1
    have haL : aT t L k ≤ L := by
      cases k with
      | zero => exact Nat.zero_le _
      | succ j => exact (tkE_le (tS_lt (by omega))).2
    have hsL := tS_le k hk
    have v4 : vp_in (nI k) 401 := vp_in_nI (by omega) (by decide)
    refine g_MM_cut_4 (by omega) f2 ⟨fun h => absurd h ?_, fun _ => ?_⟩
    · rw [I400, nI_ltI (by omega) (by omega)]; omega
    -- behind blanks
    have tok : Cal K_MM_kindAt (d - 1) 0 0 [.ref (hd 40 0), .int (nI (tS t L k)), .int (nI k)] (setI (setI (setI μ' (hd 43 0) k (nI (tS t L k))) (hd 45 0) k 0) (hd 46 0) k 0) (fun r μ8 => ∃ y9, r = some (.int y9) ∧ (vp_in (nI k) 401 ∧ ((nI k = 400 → (vp_in (nI k) 401 ∧ (((mI (setI μ8 (hd 42 0) k y9) (hd 42 0) k) = 900 → (vp_in (nI k) 401 ∧ (((mI (setI μ8 (hd 42 0) k y9) (hd 42 0) k) < 900 → (vp_in (nI k) 401 ∧ Wx K_MM_cut d rc rs (fun r μ' => St μ' ∧ Q r μ') 4 [(0, .ref (hd 40 0)), (1, .int (nI (tS t L k) + (mI (setI μ8 (hd 42 0) k y9) (hd 44 0) k))), (2, .int (nI k + 1))] [] (setI μ8 (hd 42 0) k y9))) ∧ (¬ (mI (setI μ8 (hd 42 0) k y9) (hd 42 0) k) < 900 → St (setI μ8 (hd 42 0) k y9) ∧ Q none (setI μ8 (hd 42 0) k y9))))) ∧ (¬ (mI (setI μ8 (hd 42 0) k y9) (hd 42 0) k) = 900 → (vp_in (nI k) 401 ∧ (vp_in (nI k) 401 ∧ (((mI (setI (setI μ8 (hd 42 0) k y9) (hd 42 0) k 901) (hd 42 0) k) < 900 → (vp_in (nI k) 401 ∧ Wx K_MM_cut d rc rs (fun r μ' => St μ' ∧ Q r μ') 4 [(0, .ref (hd 40 0)), (1, .int (nI (tS t L k) + (mI (setI (setI μ8 (hd 42 0) k y9) (hd 42 0) k 901) (hd 44 0) k))), (2, .int (nI k + 1))] [] (setI (setI μ8 (hd 42 0) k y9) (hd 42 0) k 901))) ∧ (¬ (mI (setI (setI μ8 (hd 42 0) k y9) (hd 42 0) k 901) (hd 42 0) k) < 900 → St (setI (setI μ8 (hd 42 0) k y9) (hd 42 0) k 901) ∧ Q none (setI (setI μ8 (hd 42 0) k y9) (hd 42 0) k 901))))))))) ∧ (¬ nI k = 400 → (vp_in (nI k) 401 ∧ (((mI (setI μ8 (hd 42 0) k y9) (hd 42 0) k) < 900 → (vp_in (nI k) 401 ∧ Wx K_MM_cut d rc rs (fun r μ' => St μ' ∧ Q r μ') 4 [(0, .ref (hd 40 0)), (1, .int (nI (tS t L k) + (mI (setI μ8 (hd 42 0) k y9) (hd 44 0) k))), (2, .int (nI k + 1))] [] (setI μ8 (hd 42 0) k y9))) ∧ (¬ (mI (setI μ8 (hd 42 0) k y9) (hd 42 0) k) < 900 → St (setI μ8 (hd 42 0) k y9) ∧ Q none (setI μ8 (hd 42 0) k y9)))))))) := by
      have hS3 : St (setI (setI (setI μ' (hd 43 0) k (nI (tS t L k))) (hd 45 0) k 0) (hd 46 0) k 0) := f2
      have hT3 : TM (setI (setI (setI μ' (hd 43 0) k (nI (tS t L k))) (hd 45 0) k 0) (hd 46 0) k 0) t L := ⟨h1, h2, by rw [rd_ne (by decide) (by decide) (by decide), rd_ne (by decide) (by decide) (by decide), rd_ne (by decide) (by decide) (by decide)]; exact hT.2.2.1, fun j hj => by rw [rd_ne (by decide) (by decide) (by decide), rd_ne (by decide) (by decide) (by decide), rd_ne (by decide) (by decide) (by decide)]; exact hT.2.2.2 j hj⟩
      have fr3 : Fr OwK μ (setI (setI (setI μ' (hd 43 0) k (nI (tS t L k))) (hd 45 0) k 0) (hd 46 0) k 0) := ((f1.setI (by decide) (by unfold OwK; decide)).setI (by decide) (by unfold OwK; decide)).setI (by decide) (by unfold OwK; decide)
      -- what is left, given the kind
      have done : ∀ (M : Mu) (x : Int32), (M = setI (setI (setI μ' (hd 43 0) k (nI (tS t L k))) (hd 45 0) k 0) (hd 46 0) k 0 ∨ ∃ v, M = setI (setI (setI (setI μ' (hd 43 0) k (nI (tS t L k))) (hd 45 0) k 0) (hd 46 0) k 0) (hd 44 0) k v ∧ (k < nT t L → v = nI (tkE t L (tS t L k) - tS t L k))) → (k < nT t L → ∃ v, M = setI (setI (setI (setI μ' (hd 43 0) k (nI (tS t L k))) (hd 45 0) k 0) (hd 46 0) k 0) (hd 44 0) k v ∧ (k < nT t L → v = nI (tkE t L (tS t L k) - tS t L k))) → x = nI (mk (tK t L k)) → ∀ M', (∀ j, j ≠ k → mI M' (hd 42 0) j = mI M (hd 42 0) j) → mI M' (hd 42 0) k = x → Fr (fun κ i => κ = 42) M M' → mR M' = mR M → Fr OwK μ M' ∧ mR M' = mR μ ∧ St M' ∧ MKP M' t L (k + 1) := by
        intro M x hM hM2 hx M' h42 h42k hfr hmr
        have hfM : Fr OwK μ M ∧ mR M = mR μ ∧ (∀ κ, 42 ≤ κ → κ ≤ 46 → ∀ i, i < k → mI M (hd κ 0) i = mI μ' (hd κ 0) i) ∧ mI M (hd 43 0) k = nI (tS t L k) ∧ mI M (hd 45 0) k = 0 ∧ mI M (hd 46 0) k = 0 := by
          rcases hM with rfl | ⟨v, rfl, hv⟩
          · refine ⟨fr3, fr, fun κ a b i hi => ?_, ?_, ?_, ?_⟩
            · rw [rd_o (by omega), rd_o (by omega), rd_o (by omega)]
            · rw [rd_ne (by decide) (by decide) (by decide), rd_ne (by decide) (by decide) (by decide), rd_eq]
            · rw [rd_ne (by decide) (by decide) (by decide), rd_eq]
            · rw [rd_eq]
          · refine ⟨fr3.setI (by decide) (by unfold OwK; decide), fr, fun κ a b i hi => ?_, ?_, ?_, ?_⟩
            · rw [rd_o (by omega), rd_o (by omega), rd_o (by omega), rd_o (by omega)]
            · rw [rd_ne (by decide) (by decide) (by decide), rd_ne (by decide) (by decide) (by decide), rd_ne (by decide) (by decide) (by decide), rd_eq]
            · rw [rd_ne (by decide) (by decide) (by decide), rd_ne (by decide) (by decide) (by decide), rd_eq]
            · rw [rd_ne (by decide) (by decide) (by decide), rd_eq]
        obtain ⟨m1, m2, m3, m4, m5, m6⟩ := hfM
        have fA : Fr OwK μ M' := m1.trans (hfr.mono (fun κ i z => by subst z; unfold OwK; decide))
        have fB : Fr OwK μ' M' := by
          refine Fr.trans (μ2 := M) ?_ (hfr.mono (fun κ i z => by subst z; unfold OwK; decide))
          rcases hM with rfl | ⟨v, rfl, hv⟩
          · exact ((Fr.rf.setI (by decide) (by unfold OwK; decide)).setI (by decide) (by unfold OwK; decide)).setI (by decide) (by unfold OwK; decide)
          · exact (((Fr.rf.setI (by decide) (by unfold OwK; decide)).setI (by decide) (by unfold OwK; decide)).setI (by decide) (by unfold OwK; decide)).setI (by decide) (by unfold OwK; decide)
        refine ⟨fA, hmr.trans m2, f2.of_eq fB.1 (hmr.trans (m2.trans fr.symm)), f3.step fB (fun κ a b i hi => ?_) (h42k.trans hx) ?_ (fun z => ?_) ?_ ?_⟩
        · rcases Nat.eq_or_lt_of_le a with rfl | a'
          · rw [h42 i (by omega)]; exact m3 42 (by decide) (by decide) i hi
          · rw [hfr.I (by omega) (by omega)]; exact m3 κ a b i hi
        · rw [hfr.I (by decide) (by decide)]; exact m4
        · rw [hfr.I (by decide) (by decide)]
          obtain ⟨v, rfl, hv⟩ := hM2 z
          rw [rd_eq]; exact hv z
        · rw [hfr.I (by decide) (by decide)]; exact m5
        · rw [hfr.I (by decide) (by decide)]; exact m6
      have set1 : ∀ (M : Mu) (x : Int32), (∀ j, j ≠ k → mI (setI M (hd 42 0) k x) (hd 42 0) j = mI M (hd 42 0) j) ∧ mI (setI M (hd 42 0) k x) (hd 42 0) k = x ∧ Fr (fun κ i => κ = 42) M (setI M (hd 42 0) k x) := fun M x => ⟨fun j hj => rd_k hj, rd_eq, Fr.rf.setI (by decide) rfl⟩
      have tl : ∀ (M : Mu) (x : Int32), (M = setI (setI (setI μ' (hd 43 0) k (nI (tS t L k))) (hd 45 0) k 0) (hd 46 0) k 0 ∨ ∃ v, M = setI (setI (setI (setI μ' (hd 43 0) k (nI (tS t L k))) (hd 45 0) k 0) (hd 46 0) k 0) (hd 44 0) k v ∧ (k < nT t L → v = nI (tkE t L (tS t L k) - tS t L k))) → (k < nT t L → ∃ v, M = setI (setI (setI (setI μ' (hd 43 0) k (nI (tS t L k))) (hd 45 0) k 0) (hd 46 0) k 0) (hd 44 0) k v ∧ (k < nT t L → v = nI (tkE t L (tS t L k) - tS t L k))) → 46 ≤ tK t L k → k = nT t L → (k ≠ 400 → x = nI (mk (tK t L k))) → (k = 400 → (tK t L k = 46 → x = 900) ∧ (tK t L k = 47 → x ≠ 900)) → (vp_in (nI k) 401 ∧ ((nI k = 400 → (vp_in (nI k) 401 ∧ (((mI (setI M (hd 42 0) k x) (hd 42 0) k) = 900 → (vp_in (nI k) 401 ∧ (((mI (setI M (hd 42 0) k x) (hd 42 0) k) < 900 → (vp_in (nI k) 401 ∧ Wx K_MM_cut d rc rs (fun r μ' => St μ' ∧ Q r μ') 4 [(0, .ref (hd 40 0)), (1, .int (nI (tS t L k) + (mI (setI M (hd 42 0) k x) (hd 44 0) k))), (2, .int (nI k + 1))] [] (setI M (hd 42 0) k x))) ∧ (¬ (mI (setI M (hd 42 0) k x) (hd 42 0) k) < 900 → St (setI M (hd 42 0) k x) ∧ Q none (setI M (hd 42 0) k x))))) ∧ (¬ (mI (setI M (hd 42 0) k x) (hd 42 0) k) = 900 → (vp_in (nI k) 401 ∧ (vp_in (nI k) 401 ∧ (((mI (setI (setI M (hd 42 0) k x) (hd 42 0) k 901) (hd 42 0) k) < 900 → (vp_in (nI k) 401 ∧ Wx K_MM_cut d rc rs (fun r μ' => St μ' ∧ Q r μ') 4 [(0, .ref (hd 40 0)), (1, .int (nI (tS t L k) + (mI (setI (setI M (hd 42 0) k x) (hd 42 0) k 901) (hd 44 0) k))), (2, .int (nI k + 1))] [] (setI (setI M (hd 42 0) k x) (hd 42 0) k 901))) ∧ (¬ (mI (setI (setI M (hd 42 0) k x) (hd 42 0) k 901) (hd 42 0) k) < 900 → St (setI (setI M (hd 42 0) k x) (hd 42 0) k 901) ∧ Q none (setI (setI M (hd 42 0) k x) (hd 42 0) k 901))))))))) ∧ (¬ nI k = 400 → (vp_in (nI k) 401 ∧ (((mI (setI M (hd 42 0) k x) (hd 42 0) k) < 900 → (vp_in (nI k) 401 ∧ Wx K_MM_cut d rc rs (fun r μ' => St μ' ∧ Q r μ') 4 [(0, .ref (hd 40 0)), (1, .int (nI (tS t L k) + (mI (setI M (hd 42 0) k x) (hd 44 0) k))), (2, .int (nI k + 1))] [] (setI M (hd 42 0) k x))) ∧ (¬ (mI (setI M (hd 42 0) k x) (hd 42 0) k) < 900 → St (setI M (hd 42 0) k x) ∧ Q none (setI M (hd 42 0) k x))))))) := by
        intro M x hM hM2 h46 hke hx1 hx2
        have hr := tK_rng (t := t) (L := L) (i := k)
        obtain ⟨s1, s2, s3⟩ := set1 M x
        rw [s2, I400, nI_eq (by omega) (by decide)]
        refine ⟨v4, fun z => ⟨v4, fun y => ⟨v4, fun u => ?_, fun _ => ?_⟩, fun y => ⟨v4, v4, ?_⟩⟩, fun z => ⟨v4, fun u => ?_, fun u => ?_⟩⟩
        · rw [y] at u; exact absurd u (by decide)
        · have hk46 : tK t L k = 46 := by
            rcases (by omega : tK t L k = 46 ∨ tK t L k = 47) with w | w
            · exact w
            · exact absurd y ((hx2 z).2 w)
          obtain ⟨d1, d2, d3, d4⟩ := done M x hM hM2 (by rw [hk46, mk_46]; exact y) _ s1 s2 s3 rfl
          exact ⟨d3, hQ _ d1 d2 d3 (by rw [← hke]; exact d4)⟩
        · have hk47 : tK t L k = 47 := by
            rcases (by omega : tK t L k = 46 ∨ tK t L k = 47) with w | w
            · exact absurd ((hx2 z).1 w) y
            · exact w
          rw [rd_eq]
          refine ⟨fun u => absurd u (by decide), fun _ => ?_⟩
          obtain ⟨d1, d2, d3, d4⟩ := done M 901 hM hM2 (by rw [hk47, mk_47]; rfl) (setI (setI M (hd 42 0) k x) (hd 42 0) k 901) (fun j hj => by rw [rd_k hj, rd_k hj]) rd_eq (((s3.setI (κ := 42) (i := 0) (by decide) rfl))) rfl
          exact ⟨d3, hQ _ d1 d2 d3 (by rw [← hke]; exact d4)⟩
        · rw [hx1 z] at u
          rcases (by omega : tK t L k = 46 ∨ tK t L k = 47) with w | w
          · rw [w, mk_46] at u; exact absurd u (by decide)
          · rw [w, mk_47] at u; exact absurd u (by decide)
        · obtain ⟨d1, d2, d3, d4⟩ := done M x hM hM2 (hx1 z) _ s1 s2 s3 rfl
          exact ⟨d3, hQ _ d1 d2 d3 (by rw [← hke]; exact d4)⟩
      rcases Nat.lt_or_ge (tS t L k) L with hlt | hge
      · refine c_MM_kindAt hT3 (by omega) hS3 hlt (by omega) ⟨_, rfl, ?_⟩
        rcases Nat.eq_or_lt_of_le hk with hke | hkl
        · have hend := nT_end (t := t) (L := L)
          rw [← hke] at hend
          refine tl _ _ (Or.inr ⟨_, rfl, fun z => absurd z (by omega)⟩) (fun z => absurd z (by omega)) hend hke (fun z => ?_) (fun z => ⟨fun y => ?_, fun y u => ?_⟩)
          · have : tK t L k = tkK t L (tS t L k) := by unfold tK; rw [if_neg (by omega), if_neg z]
            rw [this]
          · exfalso; unfold tK at y; rw [if_neg (by omega), if_pos z] at y; omega
          · have hr := tkK_rng (t := t) (L := L) (p := tS t L k)
            rw [I900] at u
            have hm : mk (tkK t L (tS t L k)) = 900 → False := fun v => by
              rcases hr with w | w
              · have := mk_lt _ (by omega : tkK t L (tS t L k) < 46); omega
              · rw [w, mk_47] at v; omega
            rw [nI_eq] at u
            · exact hm u
            · rcases hr with w | w
              · have := mk_lt _ (by omega : tkK t L (tS t L k) < 46); omega
              · rw [w, mk_47]; decide
            · decide
        · have hkk := tK_in hkl
          have hin := nT_in hkl
          rw [hkk] at hin
          have hM := tkM_E (t := t) (L := L) (p := tS t L k) (by omega)
          have hml := mk_lt _ hin
          obtain ⟨g1, g2⟩ := tkE_le (t := t) hlt
          obtain ⟨s1, s2, s3⟩ := set1 (setI (setI (setI (setI μ' (hd 43 0) k (nI (tS t L k))) (hd 45 0) k 0) (hd 46 0) k 0) (hd 44 0) k (nI (tkM t L (tS t L k)))) (nI (mk (tkK t L (tS t L k))))
          obtain ⟨d1, d2, d3, d4⟩ := done _ _ (Or.inr ⟨_, rfl, fun _ => by rw [hM]⟩) (fun _ => ⟨_, rfl, fun _ => by rw [hM]⟩) (by rw [hkk]) _ s1 s2 s3 rfl
          rw [I400, nI_eq (by omega) (by decide), s2, rd_ne (by decide) (by decide) (by decide), rd_eq, hM, nI_add, I900, nI_ltI (by omega) (by decide)]
          refine ⟨v4, fun z => absurd z (by omega), fun _ => ⟨v4, fun _ => ⟨v4, ?_⟩, fun z => absurd hml z⟩⟩
          rw [nI_1, show tS t L k + (tkE t L (tS t L k) - tS t L k) = aT t L (k + 1) by show _ = tkE t L (tS t L k); omega]
          rw [hM] at d1 d2 d3 d4
          exact ih hkl _ d1 d2 d3 d4
      · have hk46 : tK t L k = 46 := by unfold tK; rw [if_pos hge]
        have hke : k = nT t L := by
          rcases Nat.eq_or_lt_of_le hk with z | z
          · exact z
          · have := nT_in z; omega
        refine c_MM_kindEnd hT3 (by omega) hS3 hge (by omega) ⟨_, rfl, tl _ _ (Or.inl rfl) (fun z => absurd z (by omega)) (by omega) hke (fun _ => by rw [hk46, mk_46]; rfl) (fun _ => ⟨fun _ => rfl, fun z => by omega⟩)⟩
    have k11 : ∀ q, q ≤ L → skB t L q = tS t L k → Wx K_MM_cut d rc rs (fun r μ' => St μ' ∧ Q r μ') 11 [(0, .ref (hd 40 0)), (1, .int (nI q)), (2, .int (nI k))] [] μ' := by
      have at11 : ∀ q, q ≤ L → skB t L q = tS t L k → (q < L → skB t L (q + 1) = tS t L k → Wx K_MM_cut d rc rs (fun r μ' => St μ' ∧ Q r μ') 11 [(0, .ref (hd 40 0)), (1, .int (nI (q + 1))), (2, .int (nI k))] [] μ') → Wx K_MM_cut d rc rs (fun r μ' => St μ' ∧ Q r μ') 11 [(0, .ref (hd 40 0)), (1, .int (nI q)), (2, .int (nI k))] [] μ' := by
        intro q hq hs ihq
        have yes : q < L ∧ (t q = 32 ∨ t q = 10) → Wx K_MM_cut d rc rs (fun r μ' => St μ' ∧ Q r μ') 11 [(0, .ref (hd 40 0)), (1, .int (nI q + 1)), (2, .int (nI k))] [] μ' := fun z => by
          rw [nI_1]
          exact ihq z.1 (by rw [← hs]; exact (sc_yes z z.1).symm)
        refine g_MM_cut_11 (by omega) f2 (c_MM_byteOf hT (by omega) f2 (by omega) ⟨_, rfl, ?_⟩)
        rw [I32, bA_c h2 (by decide)]
        refine ⟨fun z => yes ⟨z.1, Or.inl z.2⟩, fun z => c_MM_byteOf hT (by omega) f2 (by omega) ⟨_, rfl, ?_⟩⟩
        rw [show (10 : Int32) = nI 10 from rfl, bA_c h2 (by decide)]
        refine ⟨fun y => yes ⟨y.1, Or.inr y.2⟩, fun y => ⟨v4, v4, v4, ?_⟩⟩
        have e : skB t L q = q := sc_no (fun u => u.2.elim (fun v => z ⟨u.1, v⟩) (fun v => y ⟨u.1, v⟩))
        rw [e] at hs
        rw [nI_clamp (by omega), hs]
        exact tok
      exact up_loop _ (fun hs => at11 L (Nat.le_refl _) hs (fun z => absurd z (Nat.lt_irrefl _))) (fun q hq ihq hs => at11 q (by omega) hs (fun _ h => ihq h))
    exact k11 (aT t L k) haL (aT_S k)
  have key : ∀ k, k ≤ nT t L → ∀ μ', Fr OwK μ μ' → mR μ' = mR μ → St μ' → MKP μ' t L k → Wx K_MM_cut d rc rs (fun r μ' => St μ' ∧ Q r μ') 4 [(0, .ref (hd 40 0)), (1, .int (nI (aT t L k))), (2, .int (nI k))] [] μ' := by
    intro k hk
    obtain ⟨j, hj⟩ : ∃ j, nT t L = k + j := ⟨nT t L - k, by omega⟩
    clear hk
    induction j generalizing k with
    | zero => exact step k (by omega) (fun h => absurd h (by omega))
    | succ j ih => exact step k (by omega) (fun _ => ih (k + 1) (by omega))
  exact key 0 (Nat.zero_le _) μ Fr.rf rfl hS ⟨hT, fun i hi => absurd hi (Nat.not_lt_zero _)⟩
end MTK
