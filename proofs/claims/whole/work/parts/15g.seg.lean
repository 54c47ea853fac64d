/-! segments of methods, by machine -/
set_option maxHeartbeats 4000000 in
set_option maxRecDepth 20000 in
theorem g_MM_thrown_0 {d rc rs : Nat} {Q : Option Value → Mu → Prop} {μ : Mu}  (hD : 1 ≤ d)  (hS : St μ)
    (hF : Q (some (.int (mI μ (hd 40 0) 0))) μ) : Wx K_MM_thrown d rc rs Q 0 [(0, .ref (hd 40 0))] [] μ := by
  refine Wa.aload_n (j := 0) d_MM_thrown_0 rfl ?_
  refine Wx.getI 11 0 d_MM_thrown_1 f_MM_0 fl_MM_57 w_40 (s_40 hS (by decide)) ?_
  exact Wx.reti d_MM_thrown_4 rfl hF
theorem e_MM_thrown {d rc rs : Nat} {Q : Option Value → Mu → Prop} {μ : Mu}  (hk : Wx K_MM_thrown d rc rs (fun r μ' => St μ' ∧ Q r μ') 0 [(0, .ref (hd 40 0))] [] μ) : Cal K_MM_thrown d rc rs [.ref (hd 40 0)] μ Q := Cal.of (by decide +kernel) rfl rfl (Nat.le_of_ble_eq_true rfl) rfl hk
set_option maxHeartbeats 4000000 in
set_option maxRecDepth 20000 in
theorem g_MM_no_0 {d rc rs : Nat} {Q : Option Value → Mu → Prop} {μ : Mu} {x1 : Int32} (hD : 1 ≤ d)  (hS : St μ)
    (hF : Q (some (.int 0)) (setI μ (hd 40 0) 0 x1)) : Wx K_MM_no d rc rs Q 0 [(0, .ref (hd 40 0)), (1, .int x1)] [] μ := by
  refine Wa.aload_n (j := 0) d_MM_no_0 rfl ?_
  refine Wa.iload_n (j := 1) d_MM_no_1 rfl ?_
  refine Wx.putI 11 0 d_MM_no_2 f_MM_0 ok_MM fl_MM_57 (Or.inl rfl) w_40 (s_40 hS (by decide)) ?_
  refine Wa.iconst (v := 0) d_MM_no_5 rfl ?_
  exact Wx.reti d_MM_no_6 rfl hF
theorem e_MM_no {d rc rs : Nat} {Q : Option Value → Mu → Prop} {μ : Mu} {x1 : Int32} (hk : Wx K_MM_no d rc rs (fun r μ' => St μ' ∧ Q r μ') 0 [(0, .ref (hd 40 0)), (1, .int x1)] [] μ) : Cal K_MM_no d rc rs [.ref (hd 40 0), .int x1] μ Q := Cal.of (by decide +kernel) rfl rfl (Nat.le_of_ble_eq_true rfl) rfl hk
set_option maxHeartbeats 4000000 in
set_option maxRecDepth 20000 in
theorem g_MM_bits_0 {d rc rs : Nat} {Q : Option Value → Mu → Prop} {μ : Mu} {x0 : Int64} (hD : 1 ≤ d)  (hS : St μ)
    (hF : Wx K_MM_bits d rc rs Q 4 [(2, .int 0), (3, .long x0)] [] μ) : Wx K_MM_bits d rc rs Q 0 [(0, .long x0)] [] μ := by
  refine Wa.iconst (v := 0) d_MM_bits_0 rfl ?_
  refine Wa.istore_n (i := 2) (L' := [(2, .int 0), (0, .long x0)]) d_MM_bits_1 rfl (by decide) rfl ?_
  refine Wa.lload_n (j := 1) d_MM_bits_2 rfl ?_
  refine Wa.lstore_n (i := 3) (L' := [(3, .long x0), (2, .int 0), (0, .long x0)]) d_MM_bits_3 rfl (by decide) rfl ?_
  exact Wa.loc [1, 0] rfl hF
theorem e_MM_bits {d rc rs : Nat} {Q : Option Value → Mu → Prop} {μ : Mu} {x0 : Int64} (hk : Wx K_MM_bits d rc rs (fun r μ' => St μ' ∧ Q r μ') 0 [(0, .long x0)] [] μ) : Cal K_MM_bits d rc rs [.long x0] μ Q := Cal.of (by decide +kernel) rfl rfl (Nat.le_of_ble_eq_true rfl) rfl hk
set_option maxHeartbeats 4000000 in
set_option maxRecDepth 20000 in
theorem g_MM_bits_4 {d rc rs : Nat} {Q : Option Value → Mu → Prop} {μ : Mu} {x2 : Int32} {x3 : Int64} (hD : 1 ≤ d)  (hS : St μ)
    (hF : (((lg_cmp x3 0) = 0 → Q (some (.int x2)) μ) ∧ (¬ (lg_cmp x3 0) = 0 → Wx K_MM_bits d rc rs Q 4 [(2, .int (x2 + 1)), (3, .long (x3 &&& (x3 - 1)))] [] μ))) : Wx K_MM_bits d rc rs Q 4 [(2, .int x2), (3, .long x3)] [] μ := by
  refine Wa.lload_n (j := 1) d_MM_bits_4 rfl ?_
  refine Wa.lconst (v := 0) d_MM_bits_5 rfl ?_
  refine Wa.lcmp d_MM_bits_6 ?_
  refine Wa.if_eq 22 d_MM_bits_7 (by decide) (fun hb => ?_) (fun hb => ?_)
  · have hF := hF.1 hb
    refine Wa.iload_n (j := 0) d_MM_bits_22 rfl ?_
    exact Wx.reti d_MM_bits_23 rfl hF
  · have hF := hF.2 hb
    refine Wa.iinc (i := 2) (j := 0) (v := (x2 + 1)) (L' := [(2, .int (x2 + 1)), (3, .long x3)]) d_MM_bits_10 rfl rfl (by decide) rfl ?_
    refine Wa.lload_n (j := 1) d_MM_bits_13 rfl ?_
    refine Wa.lload_n (j := 1) d_MM_bits_14 rfl ?_
    refine Wa.lconst (v := 1) d_MM_bits_15 rfl ?_
    refine Wa.lsub d_MM_bits_16 ?_
    refine Wa.land d_MM_bits_17 ?_
    refine Wa.lstore_n (i := 3) (L' := [(3, .long (x3 &&& (x3 - 1))), (2, .int (x2 + 1))]) d_MM_bits_18 rfl (by decide) rfl ?_
    refine Wa.goto 4 d_MM_bits_19 (by decide) ?_
    exact Wa.loc [1, 0] rfl hF
set_option maxHeartbeats 4000000 in
set_option maxRecDepth 20000 in
theorem g_MM_isIn_0 {d rc rs : Nat} {Q : Option Value → Mu → Prop} {μ : Mu} {x0 : Int32} {x1 : Int32} {x2 : Int32} (hD : 1 ≤ d)  (hS : St μ)
    (hF : ((x0 < x1 → Q (some (.int 0)) μ) ∧ (¬ x0 < x1 → ((x2 < x0 → Q (some (.int 0)) μ) ∧ (¬ x2 < x0 → Q (some (.int 1)) μ))))) : Wx K_MM_isIn d rc rs Q 0 [(0, .int x0), (1, .int x1), (2, .int x2)] [] μ := by
  refine Wa.iload_n (j := 0) d_MM_isIn_0 rfl ?_
  refine Wa.iload_n (j := 1) d_MM_isIn_1 rfl ?_
  refine Wa.icmp_lt 14 d_MM_isIn_2 (by decide) (fun hb => ?_) (fun hb => ?_)
  · have hF := hF.1 hb
    refine Wa.iconst (v := 0) d_MM_isIn_14 rfl ?_
    exact Wx.retz d_MM_isIn_15 rfl (Or.inl rfl) hF
  · have hF := hF.2 hb
    refine Wa.iload_n (j := 0) d_MM_isIn_5 rfl ?_
    refine Wa.iload_n (j := 2) d_MM_isIn_6 rfl ?_
    refine Wa.icmp_gt 14 d_MM_isIn_7 (by decide) (fun hb => ?_) (fun hb => ?_)
    · have hF := hF.1 hb
      refine Wa.iconst (v := 0) d_MM_isIn_14 rfl ?_
      exact Wx.retz d_MM_isIn_15 rfl (Or.inl rfl) hF
    · have hF := hF.2 hb
      refine Wa.iconst (v := 1) d_MM_isIn_10 rfl ?_
      refine Wa.goto 15 d_MM_isIn_11 (by decide) ?_
      exact Wx.retz d_MM_isIn_15 rfl (Or.inr rfl) hF
theorem e_MM_isIn {d rc rs : Nat} {Q : Option Value → Mu → Prop} {μ : Mu} {x0 : Int32} {x1 : Int32} {x2 : Int32} (hk : Wx K_MM_isIn d rc rs (fun r μ' => St μ' ∧ Q r μ') 0 [(0, .int x0), (1, .int x1), (2, .int x2)] [] μ) : Cal K_MM_isIn d rc rs [.int x0, .int x1, .int x2] μ Q := Cal.of (by decide +kernel) rfl rfl (Nat.le_of_ble_eq_true rfl) rfl hk
set_option maxHeartbeats 4000000 in
set_option maxRecDepth 20000 in
theorem g_MM_isParish_0 {d rc rs : Nat} {Q : Option Value → Mu → Prop} {μ : Mu} {x1 : Int32} (hD : 1 ≤ d)  (hS : St μ)
    (hF : (Cal K_MM_isIn (d - 1) 0 0 [.int x1, .int 0, .int ((mI μ (hd 50 (px μ (hd 40 0) 11)) 0) - (1 : Int32))] μ (fun r μ2 => ∃ y3, r = some (.int y3) ∧ ((y3 = 0 ∨ y3 = 1) ∧ Q (some (.int y3)) μ2)))) : Wx K_MM_isParish d rc rs Q 0 [(0, .ref (hd 40 0)), (1, .int x1)] [] μ := by
  refine Wa.iload_n (j := 1) d_MM_isParish_0 rfl ?_
  refine Wa.iconst (v := 0) d_MM_isParish_1 rfl ?_
  refine Wa.aload_n (j := 0) d_MM_isParish_2 rfl ?_
  have hp1 := St.plan hS
  refine Wx.getR 11 11 d_MM_isParish_3 f_MM_11 rfl fl_MM_35 (s_40 hS (by decide)) (hp1.1) ?_
  refine Wx.getI 12 0 d_MM_isParish_6 f_MP_0 fl_MM_60 w_50 (s_50 hp1.2) ?_
  refine Wa.iconst (v := 1) d_MM_isParish_9 rfl ?_
  refine Wa.isub d_MM_isParish_10 ?_
  refine Wx.cSi (As := [.int x1, .int 0, .int ((mI μ (hd 50 (px μ (hd 40 0) 11)) 0) - (1 : Int32))]) (d - 1) 0 0 _ d_MM_isParish_11 mok_MM_isIn sl_MM_63 rfl rfl (Nat.le_of_ble_eq_true rfl) (by omega) (Nat.zero_le _) (Nat.zero_le _) hF (fun y3 μ2 hS hF => ?_)
  exact Wx.retz d_MM_isParish_14 rfl hF.1 hF.2
theorem e_MM_isParish {d rc rs : Nat} {Q : Option Value → Mu → Prop} {μ : Mu} {x1 : Int32} (hk : Wx K_MM_isParish d rc rs (fun r μ' => St μ' ∧ Q r μ') 0 [(0, .ref (hd 40 0)), (1, .int x1)] [] μ) : Cal K_MM_isParish d rc rs [.ref (hd 40 0), .int x1] μ Q := Cal.of (by decide +kernel) rfl rfl (Nat.le_of_ble_eq_true rfl) rfl hk
set_option maxHeartbeats 4000000 in
set_option maxRecDepth 20000 in
theorem g_MM_isNotice_0 {d rc rs : Nat} {Q : Option Value → Mu → Prop} {μ : Mu} {x1 : Int32} {x2 : Int32} (hD : 1 ≤ d)  (hS : St μ)
    (hF : (Cal K_MM_isParish (d - 1) 0 0 [.ref (hd 40 0), .int x1] μ (fun r μ1 => ∃ y2, r = some (.int y2) ∧ ((y2 = 0 → Q (some (.int 0)) μ1) ∧ (¬ y2 = 0 → (Cal K_MM_isIn (d - 1) 0 0 [.int x2, .int 0, .int ((mI μ1 (hd 50 (px μ1 (hd 40 0) 11)) 1) - (1 : Int32))] μ1 (fun r μ4 => ∃ y5, r = some (.int y5) ∧ ((y5 = 0 → Q (some (.int 0)) μ4) ∧ (¬ y5 = 0 → Q (some (.int 1)) μ4))))))))) : Wx K_MM_isNotice d rc rs Q 0 [(0, .ref (hd 40 0)), (1, .int x1), (2, .int x2)] [] μ := by
  refine Wa.aload_n (j := 0) d_MM_isNotice_0 rfl ?_
  refine Wa.iload_n (j := 1) d_MM_isNotice_1 rfl ?_
  refine Wx.cVi (q := E_MM) (As := [.int x1]) 11 (d - 1) 0 0 _ d_MM_isNotice_2 mok_MM_isParish vl_MM_67 rfl rfl rfl (Nat.le_of_ble_eq_true rfl) (by omega) (Nat.zero_le _) (Nat.zero_le _) (s_40 hS (by decide)) hF (fun y2 μ1 hS hF => ?_)
  refine Wa.if_eq 29 d_MM_isNotice_5 (by decide) (fun hb => ?_) (fun hb => ?_)
  · have hF := hF.1 hb
    refine Wa.iconst (v := 0) d_MM_isNotice_29 rfl ?_
    exact Wx.retz d_MM_isNotice_30 rfl (Or.inl rfl) hF
  · have hF := hF.2 hb
    refine Wa.iload_n (j := 2) d_MM_isNotice_8 rfl ?_
    refine Wa.iconst (v := 0) d_MM_isNotice_9 rfl ?_
    refine Wa.aload_n (j := 0) d_MM_isNotice_10 rfl ?_
    have hp3 := St.plan hS
    refine Wx.getR 11 11 d_MM_isNotice_11 f_MM_11 rfl fl_MM_35 (s_40 hS (by decide)) (hp3.1) ?_
    refine Wx.getI 12 1 d_MM_isNotice_14 f_MP_1 fl_MM_71 w_50 (s_50 hp3.2) ?_
    refine Wa.iconst (v := 1) d_MM_isNotice_17 rfl ?_
    refine Wa.isub d_MM_isNotice_18 ?_
    refine Wx.cSi (As := [.int x2, .int 0, .int ((mI μ1 (hd 50 (px μ1 (hd 40 0) 11)) 1) - (1 : Int32))]) (d - 1) 0 0 _ d_MM_isNotice_19 mok_MM_isIn sl_MM_63 rfl rfl (Nat.le_of_ble_eq_true rfl) (by omega) (Nat.zero_le _) (Nat.zero_le _) hF (fun y5 μ4 hS hF => ?_)
    refine Wa.if_eq 29 d_MM_isNotice_22 (by decide) (fun hb => ?_) (fun hb => ?_)
    · have hF := hF.1 hb
      refine Wa.iconst (v := 0) d_MM_isNotice_29 rfl ?_
      exact Wx.retz d_MM_isNotice_30 rfl (Or.inl rfl) hF
    · have hF := hF.2 hb
      refine Wa.iconst (v := 1) d_MM_isNotice_25 rfl ?_
      refine Wa.goto 30 d_MM_isNotice_26 (by decide) ?_
      exact Wx.retz d_MM_isNotice_30 rfl (Or.inr rfl) hF
theorem e_MM_isNotice {d rc rs : Nat} {Q : Option Value → Mu → Prop} {μ : Mu} {x1 : Int32} {x2 : Int32} (hk : Wx K_MM_isNotice d rc rs (fun r μ' => St μ' ∧ Q r μ') 0 [(0, .ref (hd 40 0)), (1, .int x1), (2, .int x2)] [] μ) : Cal K_MM_isNotice d rc rs [.ref (hd 40 0), .int x1, .int x2] μ Q := Cal.of (by decide +kernel) rfl rfl (Nat.le_of_ble_eq_true rfl) rfl hk
set_option maxHeartbeats 4000000 in
set_option maxRecDepth 20000 in
theorem g_MM_isRoad_0 {d rc rs : Nat} {Q : Option Value → Mu → Prop} {μ : Mu} {x1 : Int32} (hD : 1 ≤ d)  (hS : St μ)
    (hF : (Cal K_MM_isIn (d - 1) 0 0 [.int x1, .int 0, .int ((mI μ (hd 50 (px μ (hd 40 0) 11)) 2) - (1 : Int32))] μ (fun r μ2 => ∃ y3, r = some (.int y3) ∧ ((y3 = 0 ∨ y3 = 1) ∧ Q (some (.int y3)) μ2)))) : Wx K_MM_isRoad d rc rs Q 0 [(0, .ref (hd 40 0)), (1, .int x1)] [] μ := by
  refine Wa.iload_n (j := 1) d_MM_isRoad_0 rfl ?_
  refine Wa.iconst (v := 0) d_MM_isRoad_1 rfl ?_
  refine Wa.aload_n (j := 0) d_MM_isRoad_2 rfl ?_
  have hp1 := St.plan hS
  refine Wx.getR 11 11 d_MM_isRoad_3 f_MM_11 rfl fl_MM_35 (s_40 hS (by decide)) (hp1.1) ?_
  refine Wx.getI 12 2 d_MM_isRoad_6 f_MP_2 fl_MM_74 w_50 (s_50 hp1.2) ?_
  refine Wa.iconst (v := 1) d_MM_isRoad_9 rfl ?_
  refine Wa.isub d_MM_isRoad_10 ?_
  refine Wx.cSi (As := [.int x1, .int 0, .int ((mI μ (hd 50 (px μ (hd 40 0) 11)) 2) - (1 : Int32))]) (d - 1) 0 0 _ d_MM_isRoad_11 mok_MM_isIn sl_MM_63 rfl rfl (Nat.le_of_ble_eq_true rfl) (by omega) (Nat.zero_le _) (Nat.zero_le _) hF (fun y3 μ2 hS hF => ?_)
  exact Wx.retz d_MM_isRoad_14 rfl hF.1 hF.2
theorem e_MM_isRoad {d rc rs : Nat} {Q : Option Value → Mu → Prop} {μ : Mu} {x1 : Int32} (hk : Wx K_MM_isRoad d rc rs (fun r μ' => St μ' ∧ Q r μ') 0 [(0, .ref (hd 40 0)), (1, .int x1)] [] μ) : Cal K_MM_isRoad d rc rs [.ref (hd 40 0), .int x1] μ Q := Cal.of (by decide +kernel) rfl rfl (Nat.le_of_ble_eq_true rfl) rfl hk
set_option maxHeartbeats 4000000 in
set_option maxRecDepth 20000 in
theorem g_MM_isSheet_0 {d rc rs : Nat} {Q : Option Value → Mu → Prop} {μ : Mu} {x1 : Int32} (hD : 1 ≤ d)  (hS : St μ)
    (hF : (Cal K_MM_isIn (d - 1) 0 0 [.int x1, .int 0, .int ((mI μ (hd 65 0) 1) - (1 : Int32))] μ (fun r μ1 => ∃ y2, r = some (.int y2) ∧ ((y2 = 0 ∨ y2 = 1) ∧ Q (some (.int y2)) μ1)))) : Wx K_MM_isSheet d rc rs Q 0 [(0, .ref (hd 40 0)), (1, .int x1)] [] μ := by
  refine Wa.iload_n (j := 1) d_MM_isSheet_0 rfl ?_
  refine Wa.iconst (v := 0) d_MM_isSheet_1 rfl ?_
  refine Wa.aload_n (j := 0) d_MM_isSheet_2 rfl ?_
  refine Wx.getR 11 13 d_MM_isSheet_3 f_MM_13 rfl fl_MM_47 (s_40 hS (by decide)) (r_40_13 hS (by decide)) ?_
  refine Wx.getI 13 1 d_MM_isSheet_6 f_MS_1 fl_MM_77 w_65 (s_65 hS (by decide)) ?_
  refine Wa.iconst (v := 1) d_MM_isSheet_9 rfl ?_
  refine Wa.isub d_MM_isSheet_10 ?_
  refine Wx.cSi (As := [.int x1, .int 0, .int ((mI μ (hd 65 0) 1) - (1 : Int32))]) (d - 1) 0 0 _ d_MM_isSheet_11 mok_MM_isIn sl_MM_63 rfl rfl (Nat.le_of_ble_eq_true rfl) (by omega) (Nat.zero_le _) (Nat.zero_le _) hF (fun y2 μ1 hS hF => ?_)
  exact Wx.retz d_MM_isSheet_14 rfl hF.1 hF.2
theorem e_MM_isSheet {d rc rs : Nat} {Q : Option Value → Mu → Prop} {μ : Mu} {x1 : Int32} (hk : Wx K_MM_isSheet d rc rs (fun r μ' => St μ' ∧ Q r μ') 0 [(0, .ref (hd 40 0)), (1, .int x1)] [] μ) : Cal K_MM_isSheet d rc rs [.ref (hd 40 0), .int x1] μ Q := Cal.of (by decide +kernel) rfl rfl (Nat.le_of_ble_eq_true rfl) rfl hk
set_option maxHeartbeats 4000000 in
set_option maxRecDepth 20000 in
theorem g_MM_both_0 {d rc rs : Nat} {Q : Option Value → Mu → Prop} {μ : Mu} {x0 : Int32} {x1 : Int32} {x2 : Int32} (hD : 1 ≤ d)  (hS : St μ)
    (hF : (((x0 = 25) → Q (some (.int (x1 &&& x2))) μ) ∧ ((x0 = 27) → Q (some (.int (imin x1 x2))) μ) ∧ ((x0 = 28) → Q (some (.int (imax x1 x2))) μ) ∧ ((x0 = 34) → Q (some (.int (x1 + x2))) μ) ∧ ((x0 = 35) → Q (some (.int (x1 - x2))) μ) ∧ ((x0 = 36) → Q (some (.int (x1 * x2))) μ) ∧ ((x0 = 37) → ((x2 = 0 → Q (some (.int 0)) μ) ∧ (¬ x2 = 0 → (¬ x2 = 0 ∧ Q (some (.int (x1 / x2))) μ)))) ∧ ((x0 = 38) → ((x2 ≤ x1 → Q (some (.int 0)) μ) ∧ (¬ x2 ≤ x1 → Q (some (.int 1)) μ))) ∧ ((x0 = 39) → ((x1 ≤ x2 → Q (some (.int 0)) μ) ∧ (¬ x1 ≤ x2 → Q (some (.int 1)) μ))) ∧ ((x0 = 42) → ((x1 = x2 → Q (some (.int 1)) μ) ∧ (¬ x1 = x2 → Q (some (.int 0)) μ))) ∧ ((x0 = 43) → ((x2 < x1 → Q (some (.int 0)) μ) ∧ (¬ x2 < x1 → Q (some (.int 1)) μ))) ∧ ((x0 = 44) → ((x1 < x2 → Q (some (.int 0)) μ) ∧ (¬ x1 < x2 → Q (some (.int 1)) μ))) ∧ ((x0.toInt < 25 ∨ 44 < x0.toInt ∨ x0 = 26 ∨ x0 = 29 ∨ x0 = 30 ∨ x0 = 31 ∨ x0 = 32 ∨ x0 = 33 ∨ x0 = 40 ∨ x0 = 41) → Q (some (.int (x1 ||| x2))) μ))) : Wx K_MM_both d rc rs Q 0 [(0, .int x0), (1, .int x1), (2, .int x2)] [] μ := by
  refine Wa.iload_n (j := 0) d_MM_both_0 rfl ?_
  have k1 : (x0 = 25) → Wx K_MM_both d rc rs Q 187 [(0, .int x0), (1, .int x1), (2, .int x2)] [] μ := by
    intro hb
    have hF := hF.1 hb
    refine Wa.iload_n (j := 1) d_MM_both_187 rfl ?_
    refine Wa.iload_n (j := 2) d_MM_both_188 rfl ?_
    refine Wa.iand d_MM_both_189 ?_
    exact Wx.reti d_MM_both_190 rfl hF
  have k2 : (x0 = 27) → Wx K_MM_both d rc rs Q 120 [(0, .int x0), (1, .int x1), (2, .int x2)] [] μ := by
    intro hb
    have hF := hF.2.1 hb
    refine Wa.iload_n (j := 1) d_MM_both_120 rfl ?_
    refine Wa.iload_n (j := 2) d_MM_both_121 rfl ?_
    refine Wx.mmin d_MM_both_122 mm_MM_80 (Nat.le_of_ble_eq_true rfl) hD ?_
    exact Wx.reti d_MM_both_125 rfl hF
  have k3 : (x0 = 28) → Wx K_MM_both d rc rs Q 126 [(0, .int x0), (1, .int x1), (2, .int x2)] [] μ := by
    intro hb
    have hF := hF.2.2.1 hb
    refine Wa.iload_n (j := 1) d_MM_both_126 rfl ?_
    refine Wa.iload_n (j := 2) d_MM_both_127 rfl ?_
    refine Wx.mmax d_MM_both_128 mm_MM_86 (Nat.le_of_ble_eq_true rfl) hD ?_
    exact Wx.reti d_MM_both_131 rfl hF
  have k4 : (x0 = 34) → Wx K_MM_both d rc rs Q 96 [(0, .int x0), (1, .int x1), (2, .int x2)] [] μ := by
    intro hb
    have hF := hF.2.2.2.1 hb
    refine Wa.iload_n (j := 1) d_MM_both_96 rfl ?_
    refine Wa.iload_n (j := 2) d_MM_both_97 rfl ?_
    refine Wa.iadd d_MM_both_98 ?_
    exact Wx.reti d_MM_both_99 rfl hF
  have k5 : (x0 = 35) → Wx K_MM_both d rc rs Q 100 [(0, .int x0), (1, .int x1), (2, .int x2)] [] μ := by
    intro hb
    have hF := hF.2.2.2.2.1 hb
    refine Wa.iload_n (j := 1) d_MM_both_100 rfl ?_
    refine Wa.iload_n (j := 2) d_MM_both_101 rfl ?_
    refine Wa.isub d_MM_both_102 ?_
    exact Wx.reti d_MM_both_103 rfl hF
  have k6 : (x0 = 36) → Wx K_MM_both d rc rs Q 104 [(0, .int x0), (1, .int x1), (2, .int x2)] [] μ := by
    intro hb
    have hF := hF.2.2.2.2.2.1 hb
    refine Wa.iload_n (j := 1) d_MM_both_104 rfl ?_
    refine Wa.iload_n (j := 2) d_MM_both_105 rfl ?_
    refine Wa.imul d_MM_both_106 ?_
    exact Wx.reti d_MM_both_107 rfl hF
  have k7 : (x0 = 37) → Wx K_MM_both d rc rs Q 108 [(0, .int x0), (1, .int x1), (2, .int x2)] [] μ := by
    intro hb
    have hF := hF.2.2.2.2.2.2.1 hb
    refine Wa.iload_n (j := 2) d_MM_both_108 rfl ?_
    refine Wa.if_ne 116 d_MM_both_109 (by decide) (fun hb => ?_) (fun hb => ?_)
    · have hF := hF.2 hb
      refine Wa.iload_n (j := 1) d_MM_both_116 rfl ?_
      refine Wa.iload_n (j := 2) d_MM_both_117 rfl ?_
      have hc8 := hF.1
      have hF := hF.2
      refine Wa.idiv d_MM_both_118 hc8 ?_
      exact Wx.reti d_MM_both_119 rfl hF
    · have hF := hF.1 hb
      refine Wa.iconst (v := 0) d_MM_both_112 rfl ?_
      refine Wa.goto 119 d_MM_both_113 (by decide) ?_
      exact Wx.reti d_MM_both_119 rfl hF
  have k9 : (x0 = 38) → Wx K_MM_both d rc rs Q 132 [(0, .int x0), (1, .int x1), (2, .int x2)] [] μ := by
    intro hb
    have hF := hF.2.2.2.2.2.2.2.1 hb
    refine Wa.iload_n (j := 1) d_MM_both_132 rfl ?_
    refine Wa.iload_n (j := 2) d_MM_both_133 rfl ?_
    refine Wa.icmp_ge 141 d_MM_both_134 (by decide) (fun hb => ?_) (fun hb => ?_)
    · have hF := hF.1 hb
      refine Wa.iconst (v := 0) d_MM_both_141 rfl ?_
      exact Wx.reti d_MM_both_142 rfl hF
    · have hF := hF.2 hb
      refine Wa.iconst (v := 1) d_MM_both_137 rfl ?_
      refine Wa.goto 142 d_MM_both_138 (by decide) ?_
      exact Wx.reti d_MM_both_142 rfl hF
  have k10 : (x0 = 39) → Wx K_MM_both d rc rs Q 143 [(0, .int x0), (1, .int x1), (2, .int x2)] [] μ := by
    intro hb
    have hF := hF.2.2.2.2.2.2.2.2.1 hb
    refine Wa.iload_n (j := 1) d_MM_both_143 rfl ?_
    refine Wa.iload_n (j := 2) d_MM_both_144 rfl ?_
    refine Wa.icmp_le 152 d_MM_both_145 (by decide) (fun hb => ?_) (fun hb => ?_)
    · have hF := hF.1 hb
      refine Wa.iconst (v := 0) d_MM_both_152 rfl ?_
      exact Wx.reti d_MM_both_153 rfl hF
    · have hF := hF.2 hb
      refine Wa.iconst (v := 1) d_MM_both_148 rfl ?_
      refine Wa.goto 153 d_MM_both_149 (by decide) ?_
      exact Wx.reti d_MM_both_153 rfl hF
  have k11 : (x0 = 42) → Wx K_MM_both d rc rs Q 154 [(0, .int x0), (1, .int x1), (2, .int x2)] [] μ := by
    intro hb
    have hF := hF.2.2.2.2.2.2.2.2.2.1 hb
    refine Wa.iload_n (j := 1) d_MM_both_154 rfl ?_
    refine Wa.iload_n (j := 2) d_MM_both_155 rfl ?_
    refine Wa.icmp_ne 163 d_MM_both_156 (by decide) (fun hb => ?_) (fun hb => ?_)
    · have hF := hF.2 hb
      refine Wa.iconst (v := 0) d_MM_both_163 rfl ?_
      exact Wx.reti d_MM_both_164 rfl hF
    · have hF := hF.1 hb
      refine Wa.iconst (v := 1) d_MM_both_159 rfl ?_
      refine Wa.goto 164 d_MM_both_160 (by decide) ?_
      exact Wx.reti d_MM_both_164 rfl hF
  have k12 : (x0 = 43) → Wx K_MM_both d rc rs Q 165 [(0, .int x0), (1, .int x1), (2, .int x2)] [] μ := by
    intro hb
    have hF := hF.2.2.2.2.2.2.2.2.2.2.1 hb
    refine Wa.iload_n (j := 1) d_MM_both_165 rfl ?_
    refine Wa.iload_n (j := 2) d_MM_both_166 rfl ?_
    refine Wa.icmp_gt 174 d_MM_both_167 (by decide) (fun hb => ?_) (fun hb => ?_)
    · have hF := hF.1 hb
      refine Wa.iconst (v := 0) d_MM_both_174 rfl ?_
      exact Wx.reti d_MM_both_175 rfl hF
    · have hF := hF.2 hb
      refine Wa.iconst (v := 1) d_MM_both_170 rfl ?_
      refine Wa.goto 175 d_MM_both_171 (by decide) ?_
      exact Wx.reti d_MM_both_175 rfl hF
  have k13 : (x0 = 44) → Wx K_MM_both d rc rs Q 176 [(0, .int x0), (1, .int x1), (2, .int x2)] [] μ := by
    intro hb
    have hF := hF.2.2.2.2.2.2.2.2.2.2.2.1 hb
    refine Wa.iload_n (j := 1) d_MM_both_176 rfl ?_
    refine Wa.iload_n (j := 2) d_MM_both_177 rfl ?_
    refine Wa.icmp_lt 185 d_MM_both_178 (by decide) (fun hb => ?_) (fun hb => ?_)
    · have hF := hF.1 hb
      refine Wa.iconst (v := 0) d_MM_both_185 rfl ?_
      exact Wx.reti d_MM_both_186 rfl hF
    · have hF := hF.2 hb
      refine Wa.iconst (v := 1) d_MM_both_181 rfl ?_
      refine Wa.goto 186 d_MM_both_182 (by decide) ?_
      exact Wx.reti d_MM_both_186 rfl hF
  have k14 : (x0.toInt < 25 ∨ 44 < x0.toInt ∨ x0 = 26 ∨ x0 = 29 ∨ x0 = 30 ∨ x0 = 31 ∨ x0 = 32 ∨ x0 = 33 ∨ x0 = 40 ∨ x0 = 41) → Wx K_MM_both d rc rs Q 191 [(0, .int x0), (1, .int x1), (2, .int x2)] [] μ := by
    intro hb
    have hF := hF.2.2.2.2.2.2.2.2.2.2.2.2 hb
    refine Wa.iload_n (j := 1) d_MM_both_191 rfl ?_
    refine Wa.iload_n (j := 2) d_MM_both_192 rfl ?_
    refine Wa.ior d_MM_both_193 ?_
    exact Wx.reti d_MM_both_194 rfl hF
  rcases sw_25_44 x0 with hb | hb | hb | hb | hb | hb | hb | hb | hb | hb | hb | hb | hb | hb | hb | hb | hb | hb | hb | hb | hb | hb
  · exact Wa.tabOut 191 d_MM_both_1 (Or.inl hb) (by decide) (k14 (Or.inl hb))
  · exact Wa.tabOut 191 d_MM_both_1 (Or.inr hb) (by decide) (k14 (Or.inr (Or.inl hb)))
  · exact Wa.tabIn 187 d_MM_both_1 (by rw [hb]; decide) (by rw [hb]; decide) (by rw [hb]; rfl) (by decide) (k1 hb)
  · exact Wa.tabIn 191 d_MM_both_1 (by rw [hb]; decide) (by rw [hb]; decide) (by rw [hb]; rfl) (by decide) (k14 (Or.inr (Or.inr (Or.inl hb))))
  · exact Wa.tabIn 120 d_MM_both_1 (by rw [hb]; decide) (by rw [hb]; decide) (by rw [hb]; rfl) (by decide) (k2 hb)
  · exact Wa.tabIn 126 d_MM_both_1 (by rw [hb]; decide) (by rw [hb]; decide) (by rw [hb]; rfl) (by decide) (k3 hb)
  · exact Wa.tabIn 191 d_MM_both_1 (by rw [hb]; decide) (by rw [hb]; decide) (by rw [hb]; rfl) (by decide) (k14 (Or.inr (Or.inr (Or.inr (Or.inl hb)))))
  · exact Wa.tabIn 191 d_MM_both_1 (by rw [hb]; decide) (by rw [hb]; decide) (by rw [hb]; rfl) (by decide) (k14 (Or.inr (Or.inr (Or.inr (Or.inr (Or.inl hb))))))
  · exact Wa.tabIn 191 d_MM_both_1 (by rw [hb]; decide) (by rw [hb]; decide) (by rw [hb]; rfl) (by decide) (k14 (Or.inr (Or.inr (Or.inr (Or.inr (Or.inr (Or.inl hb)))))))
  · exact Wa.tabIn 191 d_MM_both_1 (by rw [hb]; decide) (by rw [hb]; decide) (by rw [hb]; rfl) (by decide) (k14 (Or.inr (Or.inr (Or.inr (Or.inr (Or.inr (Or.inr (Or.inl hb))))))))
  · exact Wa.tabIn 191 d_MM_both_1 (by rw [hb]; decide) (by rw [hb]; decide) (by rw [hb]; rfl) (by decide) (k14 (Or.inr (Or.inr (Or.inr (Or.inr (Or.inr (Or.inr (Or.inr (Or.inl hb)))))))))
  · exact Wa.tabIn 96 d_MM_both_1 (by rw [hb]; decide) (by rw [hb]; decide) (by rw [hb]; rfl) (by decide) (k4 hb)
  · exact Wa.tabIn 100 d_MM_both_1 (by rw [hb]; decide) (by rw [hb]; decide) (by rw [hb]; rfl) (by decide) (k5 hb)
  · exact Wa.tabIn 104 d_MM_both_1 (by rw [hb]; decide) (by rw [hb]; decide) (by rw [hb]; rfl) (by decide) (k6 hb)
  · exact Wa.tabIn 108 d_MM_both_1 (by rw [hb]; decide) (by rw [hb]; decide) (by rw [hb]; rfl) (by decide) (k7 hb)
  · exact Wa.tabIn 132 d_MM_both_1 (by rw [hb]; decide) (by rw [hb]; decide) (by rw [hb]; rfl) (by decide) (k9 hb)
  · exact Wa.tabIn 143 d_MM_both_1 (by rw [hb]; decide) (by rw [hb]; decide) (by rw [hb]; rfl) (by decide) (k10 hb)
  · exact Wa.tabIn 191 d_MM_both_1 (by rw [hb]; decide) (by rw [hb]; decide) (by rw [hb]; rfl) (by decide) (k14 (Or.inr (Or.inr (Or.inr (Or.inr (Or.inr (Or.inr (Or.inr (Or.inr (Or.inl hb))))))))))
  · exact Wa.tabIn 191 d_MM_both_1 (by rw [hb]; decide) (by rw [hb]; decide) (by rw [hb]; rfl) (by decide) (k14 (Or.inr (Or.inr (Or.inr (Or.inr (Or.inr (Or.inr (Or.inr (Or.inr (Or.inr hb))))))))))
  · exact Wa.tabIn 154 d_MM_both_1 (by rw [hb]; decide) (by rw [hb]; decide) (by rw [hb]; rfl) (by decide) (k11 hb)
  · exact Wa.tabIn 165 d_MM_both_1 (by rw [hb]; decide) (by rw [hb]; decide) (by rw [hb]; rfl) (by decide) (k12 hb)
  · exact Wa.tabIn 176 d_MM_both_1 (by rw [hb]; decide) (by rw [hb]; decide) (by rw [hb]; rfl) (by decide) (k13 hb)
theorem e_MM_both {d rc rs : Nat} {Q : Option Value → Mu → Prop} {μ : Mu} {x0 : Int32} {x1 : Int32} {x2 : Int32} (hk : Wx K_MM_both d rc rs (fun r μ' => St μ' ∧ Q r μ') 0 [(0, .int x0), (1, .int x1), (2, .int x2)] [] μ) : Cal K_MM_both d rc rs [.int x0, .int x1, .int x2] μ Q := Cal.of (by decide +kernel) rfl rfl (Nat.le_of_ble_eq_true rfl) rfl hk
set_option maxHeartbeats 4000000 in
set_option maxRecDepth 20000 in
theorem g_MM_isLetter_0 {d rc rs : Nat} {Q : Option Value → Mu → Prop} {μ : Mu} {x0 : Int32} (hD : 1 ≤ d)  (hS : St μ)
    (hF : ((x0 < 97 → Q (some (.int 0)) μ) ∧ (¬ x0 < 97 → ((122 < x0 → Q (some (.int 0)) μ) ∧ (¬ 122 < x0 → Q (some (.int 1)) μ))))) : Wx K_MM_isLetter d rc rs Q 0 [(0, .int x0)] [] μ := by
  refine Wa.iload_n (j := 0) d_MM_isLetter_0 rfl ?_
  refine Wa.bipush (v := 97) d_MM_isLetter_1 rfl ?_
  refine Wa.icmp_lt 16 d_MM_isLetter_3 (by decide) (fun hb => ?_) (fun hb => ?_)
  · have hF := hF.1 hb
    refine Wa.iconst (v := 0) d_MM_isLetter_16 rfl ?_
    exact Wx.retz d_MM_isLetter_17 rfl (Or.inl rfl) hF
  · have hF := hF.2 hb
    refine Wa.iload_n (j := 0) d_MM_isLetter_6 rfl ?_
    refine Wa.bipush (v := 122) d_MM_isLetter_7 rfl ?_
    refine Wa.icmp_gt 16 d_MM_isLetter_9 (by decide) (fun hb => ?_) (fun hb => ?_)
    · have hF := hF.1 hb
      refine Wa.iconst (v := 0) d_MM_isLetter_16 rfl ?_
      exact Wx.retz d_MM_isLetter_17 rfl (Or.inl rfl) hF
    · have hF := hF.2 hb
      refine Wa.iconst (v := 1) d_MM_isLetter_12 rfl ?_
      refine Wa.goto 17 d_MM_isLetter_13 (by decide) ?_
      exact Wx.retz d_MM_isLetter_17 rfl (Or.inr rfl) hF
theorem e_MM_isLetter {d rc rs : Nat} {Q : Option Value → Mu → Prop} {μ : Mu} {x0 : Int32} (hk : Wx K_MM_isLetter d rc rs (fun r μ' => St μ' ∧ Q r μ') 0 [(0, .int x0)] [] μ) : Cal K_MM_isLetter d rc rs [.int x0] μ Q := Cal.of (by decide +kernel) rfl rfl (Nat.le_of_ble_eq_true rfl) rfl hk
set_option maxHeartbeats 4000000 in
set_option maxRecDepth 20000 in
theorem g_MM_isDigit_0 {d rc rs : Nat} {Q : Option Value → Mu → Prop} {μ : Mu} {x0 : Int32} (hD : 1 ≤ d)  (hS : St μ)
    (hF : ((x0 < 48 → Q (some (.int 0)) μ) ∧ (¬ x0 < 48 → ((57 < x0 → Q (some (.int 0)) μ) ∧ (¬ 57 < x0 → Q (some (.int 1)) μ))))) : Wx K_MM_isDigit d rc rs Q 0 [(0, .int x0)] [] μ := by
  refine Wa.iload_n (j := 0) d_MM_isDigit_0 rfl ?_
  refine Wa.bipush (v := 48) d_MM_isDigit_1 rfl ?_
  refine Wa.icmp_lt 16 d_MM_isDigit_3 (by decide) (fun hb => ?_) (fun hb => ?_)
  · have hF := hF.1 hb
    refine Wa.iconst (v := 0) d_MM_isDigit_16 rfl ?_
    exact Wx.retz d_MM_isDigit_17 rfl (Or.inl rfl) hF
  · have hF := hF.2 hb
    refine Wa.iload_n (j := 0) d_MM_isDigit_6 rfl ?_
    refine Wa.bipush (v := 57) d_MM_isDigit_7 rfl ?_
    refine Wa.icmp_gt 16 d_MM_isDigit_9 (by decide) (fun hb => ?_) (fun hb => ?_)
    · have hF := hF.1 hb
      refine Wa.iconst (v := 0) d_MM_isDigit_16 rfl ?_
      exact Wx.retz d_MM_isDigit_17 rfl (Or.inl rfl) hF
    · have hF := hF.2 hb
      refine Wa.iconst (v := 1) d_MM_isDigit_12 rfl ?_
      refine Wa.goto 17 d_MM_isDigit_13 (by decide) ?_
      exact Wx.retz d_MM_isDigit_17 rfl (Or.inr rfl) hF
theorem e_MM_isDigit {d rc rs : Nat} {Q : Option Value → Mu → Prop} {μ : Mu} {x0 : Int32} (hk : Wx K_MM_isDigit d rc rs (fun r μ' => St μ' ∧ Q r μ') 0 [(0, .int x0)] [] μ) : Cal K_MM_isDigit d rc rs [.int x0] μ Q := Cal.of (by decide +kernel) rfl rfl (Nat.le_of_ble_eq_true rfl) rfl hk
set_option maxHeartbeats 4000000 in
set_option maxRecDepth 20000 in
theorem g_MM_byteOf_0 {d rc rs : Nat} {Q : Option Value → Mu → Prop} {μ : Mu} {x1 : Int32} (hD : 1 ≤ d)  (hS : St μ)
    (hF : (((mI μ (hd 40 0) 2) ≤ x1 → Q (some (.int (-1))) μ) ∧ (¬ (mI μ (hd 40 0) 2) ≤ x1 → (vp_in x1 2000 ∧ Q (some (.int (mI μ (hd 41 0) x1.toNatClampNeg))) μ)))) : Wx K_MM_byteOf d rc rs Q 0 [(0, .ref (hd 40 0)), (1, .int x1)] [] μ := by
  refine Wa.iload_n (j := 1) d_MM_byteOf_0 rfl ?_
  refine Wa.aload_n (j := 0) d_MM_byteOf_1 rfl ?_
  refine Wx.getI 11 2 d_MM_byteOf_2 f_MM_2 fl_MM_89 w_40 (s_40 hS (by decide)) ?_
  refine Wa.icmp_ge 17 d_MM_byteOf_5 (by decide) (fun hb => ?_) (fun hb => ?_)
  · have hF := hF.1 hb
    refine Wa.iconst (v := (-1)) d_MM_byteOf_17 rfl ?_
    exact Wx.reti d_MM_byteOf_18 rfl hF
  · have hF := hF.2 hb
    refine Wa.aload_n (j := 0) d_MM_byteOf_8 rfl ?_
    refine Wx.getR 11 1 d_MM_byteOf_9 f_MM_1 rfl fl_MM_9 (s_40 hS (by decide)) (r_40_1 hS (by decide)) ?_
    refine Wa.iload_n (j := 1) d_MM_byteOf_12 rfl ?_
    have hc1 := hF.1
    have hF := hF.2
    have hlhc1 := vp_in_lt hc1
    refine Wx.iald d_MM_byteOf_13 w_41 (s_41 hS (by decide)) hc1 ?_
    refine Wa.goto 18 d_MM_byteOf_14 (by decide) ?_
    exact Wx.reti d_MM_byteOf_18 rfl hF
theorem e_MM_byteOf {d rc rs : Nat} {Q : Option Value → Mu → Prop} {μ : Mu} {x1 : Int32} (hk : Wx K_MM_byteOf d rc rs (fun r μ' => St μ' ∧ Q r μ') 0 [(0, .ref (hd 40 0)), (1, .int x1)] [] μ) : Cal K_MM_byteOf d rc rs [.ref (hd 40 0), .int x1] μ Q := Cal.of (by decide +kernel) rfl rfl (Nat.le_of_ble_eq_true rfl) rfl hk
set_option maxHeartbeats 4000000 in
set_option maxRecDepth 20000 in
theorem g_MM_kindAt_0 {d rc rs : Nat} {Q : Option Value → Mu → Prop} {μ : Mu} {x1 : Int32} {x2 : Int32} (hD : 1 ≤ d)  (hS : St μ)
    (hF : (Cal K_MM_byteOf (d - 1) 0 0 [.ref (hd 40 0), .int x1] μ (fun r μ1 => ∃ y2, r = some (.int y2) ∧ ((y2 = (-1) → Q (some (.int 900)) μ1) ∧ (¬ y2 = (-1) → (Cal K_MM_isLetter (d - 1) 0 0 [.int y2] μ1 (fun r μ3 => ∃ y4, r = some (.int y4) ∧ ((y4 = 0 → (Cal K_MM_isDigit (d - 1) 0 0 [.int y2] μ3 (fun r μ5 => ∃ y6, r = some (.int y6) ∧ ((y6 = 0 → ((y2 = 60 → Wx K_MM_kindAt d rc rs Q 140 [(0, .ref (hd 40 0)), (2, .int x2), (3, .int y2), (4, .int (x1 + (1 : Int32)))] [] μ5) ∧ (¬ y2 = 60 → ((y2 = 62 → Wx K_MM_kindAt d rc rs Q 140 [(0, .ref (hd 40 0)), (2, .int x2), (3, .int y2), (4, .int (x1 + (1 : Int32)))] [] μ5) ∧ (¬ y2 = 62 → Wx K_MM_kindAt d rc rs Q 155 [(0, .ref (hd 40 0)), (2, .int x2), (3, .int y2)] [] μ5))))) ∧ (¬ y6 = 0 → Wx K_MM_kindAt d rc rs Q 34 [(0, .ref (hd 40 0)), (1, .int x1), (2, .int x2), (3, .int y2), (4, .int (x1 + (1 : Int32)))] [] μ5))))) ∧ (¬ y4 = 0 → Wx K_MM_kindAt d rc rs Q 34 [(0, .ref (hd 40 0)), (1, .int x1), (2, .int x2), (3, .int y2), (4, .int (x1 + (1 : Int32)))] [] μ3))))))))) : Wx K_MM_kindAt d rc rs Q 0 [(0, .ref (hd 40 0)), (1, .int x1), (2, .int x2)] [] μ := by
  refine Wa.aload_n (j := 0) d_MM_kindAt_0 rfl ?_
  refine Wa.iload_n (j := 1) d_MM_kindAt_1 rfl ?_
  refine Wx.cVi (q := E_MM) (As := [.int x1]) 11 (d - 1) 0 0 _ d_MM_kindAt_2 mok_MM_byteOf vl_MM_92 rfl rfl rfl (Nat.le_of_ble_eq_true rfl) (by omega) (Nat.zero_le _) (Nat.zero_le _) (s_40 hS (by decide)) hF (fun y2 μ1 hS hF => ?_)
  refine Wa.istore_n (i := 3) (L' := [(3, .int y2), (0, .ref (hd 40 0)), (1, .int x1), (2, .int x2)]) d_MM_kindAt_5 rfl (by decide) rfl ?_
  refine Wa.iload_n (j := 2) d_MM_kindAt_6 rfl ?_
  refine Wa.iconst (v := 1) d_MM_kindAt_7 rfl ?_
  refine Wa.iadd d_MM_kindAt_8 ?_
  refine Wa.istore (i := 4) (L' := [(4, .int (x1 + (1 : Int32))), (3, .int y2), (0, .ref (hd 40 0)), (1, .int x1), (2, .int x2)]) d_MM_kindAt_9 (by decide) rfl ?_
  refine Wa.iload_n (j := 1) d_MM_kindAt_11 rfl ?_
  refine Wa.iconst (v := (-1)) d_MM_kindAt_12 rfl ?_
  refine Wa.icmp_ne 20 d_MM_kindAt_13 (by decide) (fun hb => ?_) (fun hb => ?_)
  · have hF := hF.2 hb
    refine Wa.iload_n (j := 1) d_MM_kindAt_20 rfl ?_
    refine Wx.cSi (As := [.int y2]) (d - 1) 0 0 _ d_MM_kindAt_21 mok_MM_isLetter sl_MM_96 rfl rfl (Nat.le_of_ble_eq_true rfl) (by omega) (Nat.zero_le _) (Nat.zero_le _) hF (fun y4 μ3 hS hF => ?_)
    refine Wa.if_ne 34 d_MM_kindAt_24 (by decide) (fun hb => ?_) (fun hb => ?_)
    · have hF := hF.2 hb
      exact Wa.loc [2, 3, 4, 1, 0] rfl hF
    · have hF := hF.1 hb
      refine Wa.iload_n (j := 1) d_MM_kindAt_27 rfl ?_
      refine Wx.cSi (As := [.int y2]) (d - 1) 0 0 _ d_MM_kindAt_28 mok_MM_isDigit sl_MM_99 rfl rfl (Nat.le_of_ble_eq_true rfl) (by omega) (Nat.zero_le _) (Nat.zero_le _) hF (fun y6 μ5 hS hF => ?_)
      refine Wa.if_eq 128 d_MM_kindAt_31 (by decide) (fun hb => ?_) (fun hb => ?_)
      · have hF := hF.1 hb
        refine Wa.iload_n (j := 1) d_MM_kindAt_128 rfl ?_
        refine Wa.bipush (v := 60) d_MM_kindAt_129 rfl ?_
        refine Wa.icmp_eq 140 d_MM_kindAt_131 (by decide) (fun hb => ?_) (fun hb => ?_)
        · have hF := hF.1 hb
          exact Wa.loc [2, 4, 1, 0] rfl hF
        · have hF := hF.2 hb
          refine Wa.iload_n (j := 1) d_MM_kindAt_134 rfl ?_
          refine Wa.bipush (v := 62) d_MM_kindAt_135 rfl ?_
          refine Wa.icmp_ne 155 d_MM_kindAt_137 (by decide) (fun hb => ?_) (fun hb => ?_)
          · have hF := hF.2 hb
            exact Wa.loc [2, 4, 1] rfl hF
          · have hF := hF.1 hb
            exact Wa.loc [2, 4, 1, 0] rfl hF
      · have hF := hF.2 hb
        exact Wa.loc [2, 3, 4, 1, 0] rfl hF
  · have hF := hF.1 hb
    refine Wa.sipush (v := 900) d_MM_kindAt_16 rfl ?_
    exact Wx.reti d_MM_kindAt_19 rfl hF
theorem e_MM_kindAt {d rc rs : Nat} {Q : Option Value → Mu → Prop} {μ : Mu} {x1 : Int32} {x2 : Int32} (hk : Wx K_MM_kindAt d rc rs (fun r μ' => St μ' ∧ Q r μ') 0 [(0, .ref (hd 40 0)), (1, .int x1), (2, .int x2)] [] μ) : Cal K_MM_kindAt d rc rs [.ref (hd 40 0), .int x1, .int x2] μ Q := Cal.of (by decide +kernel) rfl rfl (Nat.le_of_ble_eq_true rfl) rfl hk
set_option maxHeartbeats 4000000 in
set_option maxRecDepth 20000 in
theorem g_MM_kindAt_34 {d rc rs : Nat} {Q : Option Value → Mu → Prop} {μ : Mu} {x1 : Int32} {x2 : Int32} {x3 : Int32} {x4 : Int32} (hD : 1 ≤ d)  (hS : St μ)
    (hF : (Cal K_MM_byteOf (d - 1) 0 0 [.ref (hd 40 0), .int x4] μ (fun r μ1 => ∃ y2, r = some (.int y2) ∧ (Cal K_MM_isDigit (d - 1) 0 0 [.int y2] μ1 (fun r μ3 => ∃ y4, r = some (.int y4) ∧ ((y4 = 0 → (Cal K_MM_isLetter (d - 1) 0 0 [.int x3] μ3 (fun r μ5 => ∃ y6, r = some (.int y6) ∧ ((y6 = 0 → Wx K_MM_kindAt d rc rs Q 71 [(0, .ref (hd 40 0)), (1, .int x1), (2, .int x2), (3, .int x3), (4, .int x4)] [] μ5) ∧ (¬ y6 = 0 → (Cal K_MM_byteOf (d - 1) 0 0 [.ref (hd 40 0), .int x4] μ5 (fun r μ7 => ∃ y8, r = some (.int y8) ∧ (Cal K_MM_isLetter (d - 1) 0 0 [.int y8] μ7 (fun r μ9 => ∃ y10, r = some (.int y10) ∧ ((y10 = 0 → Wx K_MM_kindAt d rc rs Q 71 [(0, .ref (hd 40 0)), (1, .int x1), (2, .int x2), (3, .int x3), (4, .int x4)] [] μ9) ∧ (¬ y10 = 0 → Wx K_MM_kindAt d rc rs Q 65 [(0, .ref (hd 40 0)), (1, .int x1), (2, .int x2), (3, .int x3), (4, .int x4)] [] μ9))))))))))) ∧ (¬ y4 = 0 → Wx K_MM_kindAt d rc rs Q 65 [(0, .ref (hd 40 0)), (1, .int x1), (2, .int x2), (3, .int x3), (4, .int x4)] [] μ3))))))) : Wx K_MM_kindAt d rc rs Q 34 [(0, .ref (hd 40 0)), (1, .int x1), (2, .int x2), (3, .int x3), (4, .int x4)] [] μ := by
  refine Wa.aload_n (j := 0) d_MM_kindAt_34 rfl ?_
  refine Wa.iload (j := 4) d_MM_kindAt_35 rfl ?_
  refine Wx.cVi (q := E_MM) (As := [.int x4]) 11 (d - 1) 0 0 _ d_MM_kindAt_37 mok_MM_byteOf vl_MM_92 rfl rfl rfl (Nat.le_of_ble_eq_true rfl) (by omega) (Nat.zero_le _) (Nat.zero_le _) (s_40 hS (by decide)) hF (fun y2 μ1 hS hF => ?_)
  refine Wx.cSi (As := [.int y2]) (d - 1) 0 0 _ d_MM_kindAt_40 mok_MM_isDigit sl_MM_99 rfl rfl (Nat.le_of_ble_eq_true rfl) (by omega) (Nat.zero_le _) (Nat.zero_le _) hF (fun y4 μ3 hS hF => ?_)
  refine Wa.if_ne 65 d_MM_kindAt_43 (by decide) (fun hb => ?_) (fun hb => ?_)
  · have hF := hF.2 hb
    exact Wa.loc [0, 1, 2, 3, 4] rfl hF
  · have hF := hF.1 hb
    refine Wa.iload_n (j := 3) d_MM_kindAt_46 rfl ?_
    refine Wx.cSi (As := [.int x3]) (d - 1) 0 0 _ d_MM_kindAt_47 mok_MM_isLetter sl_MM_96 rfl rfl (Nat.le_of_ble_eq_true rfl) (by omega) (Nat.zero_le _) (Nat.zero_le _) hF (fun y6 μ5 hS hF => ?_)
    refine Wa.if_eq 71 d_MM_kindAt_50 (by decide) (fun hb => ?_) (fun hb => ?_)
    · have hF := hF.1 hb
      exact Wa.loc [0, 1, 2, 3, 4] rfl hF
    · have hF := hF.2 hb
      refine Wa.aload_n (j := 0) d_MM_kindAt_53 rfl ?_
      refine Wa.iload (j := 4) d_MM_kindAt_54 rfl ?_
      refine Wx.cVi (q := E_MM) (As := [.int x4]) 11 (d - 1) 0 0 _ d_MM_kindAt_56 mok_MM_byteOf vl_MM_92 rfl rfl rfl (Nat.le_of_ble_eq_true rfl) (by omega) (Nat.zero_le _) (Nat.zero_le _) (s_40 hS (by decide)) hF (fun y8 μ7 hS hF => ?_)
      refine Wx.cSi (As := [.int y8]) (d - 1) 0 0 _ d_MM_kindAt_59 mok_MM_isLetter sl_MM_96 rfl rfl (Nat.le_of_ble_eq_true rfl) (by omega) (Nat.zero_le _) (Nat.zero_le _) hF (fun y10 μ9 hS hF => ?_)
      refine Wa.if_eq 71 d_MM_kindAt_62 (by decide) (fun hb => ?_) (fun hb => ?_)
      · have hF := hF.1 hb
        exact Wa.loc [0, 1, 2, 3, 4] rfl hF
      · have hF := hF.2 hb
        exact Wa.loc [0, 1, 2, 3, 4] rfl hF
set_option maxHeartbeats 4000000 in
set_option maxRecDepth 20000 in
theorem g_MM_kindAt_65 {d rc rs : Nat} {Q : Option Value → Mu → Prop} {μ : Mu} {x1 : Int32} {x2 : Int32} {x3 : Int32} {x4 : Int32} (hD : 1 ≤ d)  (hS : St μ)
    (hF : Wx K_MM_kindAt d rc rs Q 34 [(0, .ref (hd 40 0)), (1, .int x1), (2, .int x2), (3, .int x3), (4, .int (x4 + 1))] [] μ) : Wx K_MM_kindAt d rc rs Q 65 [(0, .ref (hd 40 0)), (1, .int x1), (2, .int x2), (3, .int x3), (4, .int x4)] [] μ := by
  refine Wa.iinc (i := 4) (j := 4) (v := (x4 + 1)) (L' := [(4, .int (x4 + 1)), (0, .ref (hd 40 0)), (1, .int x1), (2, .int x2), (3, .int x3)]) d_MM_kindAt_65 rfl rfl (by decide) rfl ?_
  refine Wa.goto 34 d_MM_kindAt_68 (by decide) ?_
  exact Wa.loc [1, 2, 3, 4, 0] rfl hF
set_option maxHeartbeats 4000000 in
set_option maxRecDepth 20000 in
theorem g_MM_kindAt_71 {d rc rs : Nat} {Q : Option Value → Mu → Prop} {μ : Mu} {x1 : Int32} {x2 : Int32} {x3 : Int32} {x4 : Int32} (hD : 1 ≤ d)  (hS : St μ)
    (hF : (vp_in x2 401 ∧ (Cal K_MM_isLetter (d - 1) 0 0 [.int x3] (setI μ (hd 44 0) x2.toNatClampNeg (x4 - x1)) (fun r μ2 => ∃ y3, r = some (.int y3) ∧ ((y3 = 0 → (((x4 - x1) ≤ 6 → (Cal K_MM_isLetter (d - 1) 0 0 [.int x3] μ2 (fun r μ4 => ∃ y5, r = some (.int y5) ∧ ((y5 = 0 → Q (some (.int 41)) μ4) ∧ (¬ y5 = 0 → (Cal K_MM_word (d - 1) 0 0 [.ref (hd 40 0), .int x1, .int (x4 - x1)] μ4 (fun r μ6 => ∃ y7, r = some (.int y7) ∧ Q (some (.int y7)) μ6))))))) ∧ (¬ (x4 - x1) ≤ 6 → Q (some (.int 901)) μ2))) ∧ (¬ y3 = 0 → (((x4 - x1) ≤ 10 → (Cal K_MM_isLetter (d - 1) 0 0 [.int x3] μ2 (fun r μ8 => ∃ y9, r = some (.int y9) ∧ ((y9 = 0 → Q (some (.int 41)) μ8) ∧ (¬ y9 = 0 → (Cal K_MM_word (d - 1) 0 0 [.ref (hd 40 0), .int x1, .int (x4 - x1)] μ8 (fun r μ10 => ∃ y11, r = some (.int y11) ∧ Q (some (.int y11)) μ10))))))) ∧ (¬ (x4 - x1) ≤ 10 → Q (some (.int 901)) μ2)))))))) : Wx K_MM_kindAt d rc rs Q 71 [(0, .ref (hd 40 0)), (1, .int x1), (2, .int x2), (3, .int x3), (4, .int x4)] [] μ := by
  refine Wa.aload_n (j := 0) d_MM_kindAt_71 rfl ?_
  refine Wx.getR 11 6 d_MM_kindAt_72 f_MM_6 rfl fl_MM_23 (s_40 hS (by decide)) (r_40_6 hS (by decide)) ?_
  refine Wa.iload_n (j := 2) d_MM_kindAt_75 rfl ?_
  refine Wa.iload (j := 4) d_MM_kindAt_76 rfl ?_
  refine Wa.iload_n (j := 1) d_MM_kindAt_78 rfl ?_
  refine Wa.isub d_MM_kindAt_79 ?_
  have hc1 := hF.1
  have hF := hF.2
  have hlhc1 := vp_in_lt hc1
  refine Wa.iast d_MM_kindAt_80 w_44 (s_44 hS (by decide)) hc1 ?_
  refine Wa.iload (j := 4) d_MM_kindAt_81 rfl ?_
  refine Wa.iload_n (j := 1) d_MM_kindAt_83 rfl ?_
  refine Wa.isub d_MM_kindAt_84 ?_
  refine Wa.iload_n (j := 3) d_MM_kindAt_85 rfl ?_
  refine Wx.cSi (As := [.int x3]) (d - 1) 0 0 _ d_MM_kindAt_86 mok_MM_isLetter sl_MM_96 rfl rfl (Nat.le_of_ble_eq_true rfl) (by omega) (Nat.zero_le _) (Nat.zero_le _) hF (fun y3 μ2 hS hF => ?_)
  refine Wa.if_eq 97 d_MM_kindAt_89 (by decide) (fun hb => ?_) (fun hb => ?_)
  · have hF := hF.1 hb
    refine Wa.bipush (v := 6) d_MM_kindAt_97 rfl ?_
    refine Wa.icmp_le 106 d_MM_kindAt_99 (by decide) (fun hb => ?_) (fun hb => ?_)
    · have hF := hF.1 hb
      refine Wa.iload_n (j := 3) d_MM_kindAt_106 rfl ?_
      refine Wx.cSi (As := [.int x3]) (d - 1) 0 0 _ d_MM_kindAt_107 mok_MM_isLetter sl_MM_96 rfl rfl (Nat.le_of_ble_eq_true rfl) (by omega) (Nat.zero_le _) (Nat.zero_le _) hF (fun y5 μ4 hS hF => ?_)
      refine Wa.if_eq 125 d_MM_kindAt_110 (by decide) (fun hb => ?_) (fun hb => ?_)
      · have hF := hF.1 hb
        refine Wa.bipush (v := 41) d_MM_kindAt_125 rfl ?_
        exact Wx.reti d_MM_kindAt_127 rfl hF
      · have hF := hF.2 hb
        refine Wa.aload_n (j := 0) d_MM_kindAt_113 rfl ?_
        refine Wa.iload_n (j := 1) d_MM_kindAt_114 rfl ?_
        refine Wa.iload (j := 4) d_MM_kindAt_115 rfl ?_
        refine Wa.iload_n (j := 1) d_MM_kindAt_117 rfl ?_
        refine Wa.isub d_MM_kindAt_118 ?_
        refine Wx.cVi (q := E_MM) (As := [.int x1, .int (x4 - x1)]) 11 (d - 1) 0 0 _ d_MM_kindAt_119 mok_MM_word vl_MM_102 rfl rfl rfl (Nat.le_of_ble_eq_true rfl) (by omega) (Nat.zero_le _) (Nat.zero_le _) (s_40 hS (by decide)) hF (fun y7 μ6 hS hF => ?_)
        refine Wa.goto 127 d_MM_kindAt_122 (by decide) ?_
        exact Wx.reti d_MM_kindAt_127 rfl hF
    · have hF := hF.2 hb
      refine Wa.sipush (v := 901) d_MM_kindAt_102 rfl ?_
      exact Wx.reti d_MM_kindAt_105 rfl hF
  · have hF := hF.2 hb
    refine Wa.bipush (v := 10) d_MM_kindAt_92 rfl ?_
    refine Wa.goto 99 d_MM_kindAt_94 (by decide) ?_
    refine Wa.icmp_le 106 d_MM_kindAt_99 (by decide) (fun hb => ?_) (fun hb => ?_)
    · have hF := hF.1 hb
      refine Wa.iload_n (j := 3) d_MM_kindAt_106 rfl ?_
      refine Wx.cSi (As := [.int x3]) (d - 1) 0 0 _ d_MM_kindAt_107 mok_MM_isLetter sl_MM_96 rfl rfl (Nat.le_of_ble_eq_true rfl) (by omega) (Nat.zero_le _) (Nat.zero_le _) hF (fun y9 μ8 hS hF => ?_)
      refine Wa.if_eq 125 d_MM_kindAt_110 (by decide) (fun hb => ?_) (fun hb => ?_)
      · have hF := hF.1 hb
        refine Wa.bipush (v := 41) d_MM_kindAt_125 rfl ?_
        exact Wx.reti d_MM_kindAt_127 rfl hF
      · have hF := hF.2 hb
        refine Wa.aload_n (j := 0) d_MM_kindAt_113 rfl ?_
        refine Wa.iload_n (j := 1) d_MM_kindAt_114 rfl ?_
        refine Wa.iload (j := 4) d_MM_kindAt_115 rfl ?_
        refine Wa.iload_n (j := 1) d_MM_kindAt_117 rfl ?_
        refine Wa.isub d_MM_kindAt_118 ?_
        refine Wx.cVi (q := E_MM) (As := [.int x1, .int (x4 - x1)]) 11 (d - 1) 0 0 _ d_MM_kindAt_119 mok_MM_word vl_MM_102 rfl rfl rfl (Nat.le_of_ble_eq_true rfl) (by omega) (Nat.zero_le _) (Nat.zero_le _) (s_40 hS (by decide)) hF (fun y11 μ10 hS hF => ?_)
        refine Wa.goto 127 d_MM_kindAt_122 (by decide) ?_
        exact Wx.reti d_MM_kindAt_127 rfl hF
    · have hF := hF.2 hb
      refine Wa.sipush (v := 901) d_MM_kindAt_102 rfl ?_
      exact Wx.reti d_MM_kindAt_105 rfl hF
set_option maxHeartbeats 4000000 in
set_option maxRecDepth 20000 in
theorem g_MM_kindAt_140 {d rc rs : Nat} {Q : Option Value → Mu → Prop} {μ : Mu} {x2 : Int32} {x3 : Int32} {x4 : Int32} (hD : 1 ≤ d)  (hS : St μ)
    (hF : (Cal K_MM_byteOf (d - 1) 0 0 [.ref (hd 40 0), .int x4] μ (fun r μ1 => ∃ y2, r = some (.int y2) ∧ ((y2 = 61 → (((1 : Int32) = 0 → (vp_in x2 401 ∧ (((1 : Int32) = 0 → ((x3 ≤ 0 → Wx K_MM_kindAt d rc rs Q 223 [] [] (setI μ1 (hd 44 0) x2.toNatClampNeg 1)) ∧ (¬ x3 ≤ 0 → ((128 ≤ x3 → Wx K_MM_kindAt d rc rs Q 223 [] [] (setI μ1 (hd 44 0) x2.toNatClampNeg 1)) ∧ (¬ 128 ≤ x3 → (Cal K_Str_indexOf_0f7a4 (d - 1) 0 0 [.ref (hd 1 45), .int ((x3.toUInt32 % 65536).toInt32)] (setI μ1 (hd 44 0) x2.toNatClampNeg 1) (fun r μ4 => ∃ y5, r = some (.int y5) ∧ ((y5 < 0 → Wx K_MM_kindAt d rc rs Q 223 [] [] μ4) ∧ (¬ y5 < 0 → Q (some (.int ((50 : Int32) + x3))) μ4))))))))) ∧ (¬ (1 : Int32) = 0 → ((x3 = 60 → Q (some (.int 300)) (setI μ1 (hd 44 0) x2.toNatClampNeg 1)) ∧ (¬ x3 = 60 → Q (some (.int 301)) (setI μ1 (hd 44 0) x2.toNatClampNeg 1))))))) ∧ (¬ (1 : Int32) = 0 → (vp_in x2 401 ∧ (((1 : Int32) = 0 → ((x3 ≤ 0 → Wx K_MM_kindAt d rc rs Q 223 [] [] (setI μ1 (hd 44 0) x2.toNatClampNeg 2)) ∧ (¬ x3 ≤ 0 → ((128 ≤ x3 → Wx K_MM_kindAt d rc rs Q 223 [] [] (setI μ1 (hd 44 0) x2.toNatClampNeg 2)) ∧ (¬ 128 ≤ x3 → (Cal K_Str_indexOf_0f7a4 (d - 1) 0 0 [.ref (hd 1 45), .int ((x3.toUInt32 % 65536).toInt32)] (setI μ1 (hd 44 0) x2.toNatClampNeg 2) (fun r μ7 => ∃ y8, r = some (.int y8) ∧ ((y8 < 0 → Wx K_MM_kindAt d rc rs Q 223 [] [] μ7) ∧ (¬ y8 < 0 → Q (some (.int ((50 : Int32) + x3))) μ7))))))))) ∧ (¬ (1 : Int32) = 0 → ((x3 = 60 → Q (some (.int 300)) (setI μ1 (hd 44 0) x2.toNatClampNeg 2)) ∧ (¬ x3 = 60 → Q (some (.int 301)) (setI μ1 (hd 44 0) x2.toNatClampNeg 2))))))))) ∧ (¬ y2 = 61 → Wx K_MM_kindAt d rc rs Q 155 [(0, .ref (hd 40 0)), (2, .int x2), (3, .int x3)] [] μ1))))) : Wx K_MM_kindAt d rc rs Q 140 [(0, .ref (hd 40 0)), (2, .int x2), (3, .int x3), (4, .int x4)] [] μ := by
  refine Wa.aload_n (j := 0) d_MM_kindAt_140 rfl ?_
  refine Wa.iload (j := 3) d_MM_kindAt_141 rfl ?_
  refine Wx.cVi (q := E_MM) (As := [.int x4]) 11 (d - 1) 0 0 _ d_MM_kindAt_143 mok_MM_byteOf vl_MM_92 rfl rfl rfl (Nat.le_of_ble_eq_true rfl) (by omega) (Nat.zero_le _) (Nat.zero_le _) (s_40 hS (by decide)) hF (fun y2 μ1 hS hF => ?_)
  refine Wa.bipush (v := 61) d_MM_kindAt_146 rfl ?_
  refine Wa.icmp_ne 155 d_MM_kindAt_148 (by decide) (fun hb => ?_) (fun hb => ?_)
  · have hF := hF.2 hb
    exact Wa.loc [0, 1, 2] rfl hF
  · have hF := hF.1 hb
    refine Wa.iconst (v := 1) d_MM_kindAt_151 rfl ?_
    refine Wa.goto 156 d_MM_kindAt_152 (by decide) ?_
    refine Wa.istore (i := 5) (L' := [(5, .int 1), (0, .ref (hd 40 0)), (2, .int x2), (3, .int x3), (4, .int x4)]) d_MM_kindAt_156 (by decide) rfl ?_
    refine Wa.aload_n (j := 1) d_MM_kindAt_158 rfl ?_
    refine Wx.getR 11 6 d_MM_kindAt_159 f_MM_6 rfl fl_MM_23 (s_40 hS (by decide)) (r_40_6 hS (by decide)) ?_
    refine Wa.iload_n (j := 2) d_MM_kindAt_162 rfl ?_
    refine Wa.iload (j := 0) d_MM_kindAt_163 rfl ?_
    refine Wa.if_eq 172 d_MM_kindAt_165 (by decide) (fun hb => ?_) (fun hb => ?_)
    · have hF := hF.1 hb
      refine Wa.iconst (v := 1) d_MM_kindAt_172 rfl ?_
      have hc3 := hF.1
      have hF := hF.2
      have hlhc3 := vp_in_lt hc3
      refine Wa.iast d_MM_kindAt_173 w_44 (s_44 hS (by decide)) hc3 ?_
      refine Wa.iload (j := 0) d_MM_kindAt_174 rfl ?_
      refine Wa.if_eq 195 d_MM_kindAt_176 (by decide) (fun hb => ?_) (fun hb => ?_)
      · have hF := hF.1 hb
        refine Wa.iload_n (j := 3) d_MM_kindAt_195 rfl ?_
        refine Wa.if_le 223 d_MM_kindAt_196 (by decide) (fun hb => ?_) (fun hb => ?_)
        · have hF := hF.1 hb
          exact Wa.loc [] rfl hF
        · have hF := hF.2 hb
          refine Wa.iload_n (j := 3) d_MM_kindAt_199 rfl ?_
          refine Wa.sipush (v := 128) d_MM_kindAt_200 rfl ?_
          refine Wa.icmp_ge 223 d_MM_kindAt_203 (by decide) (fun hb => ?_) (fun hb => ?_)
          · have hF := hF.1 hb
            exact Wa.loc [] rfl hF
          · have hF := hF.2 hb
            refine Wa.ldcS d_MM_kindAt_206 rfl ?_
            refine Wa.iload_n (j := 3) d_MM_kindAt_208 rfl ?_
            refine Wa.i2c d_MM_kindAt_209 ?_
            refine Wx.cVi (q := E_Str) (As := [.int ((x3.toUInt32 % 65536).toInt32)]) 15 (d - 1) 0 0 _ d_MM_kindAt_210 mok_Str_indexOf_0f7a4 vl_MM_107 rfl rfl rfl (Nat.le_of_ble_eq_true rfl) (by omega) (Nat.zero_le _) (Nat.zero_le _) (s_1 hS (by decide)) hF (fun y5 μ4 hS hF => ?_)
            refine Wa.if_lt 223 d_MM_kindAt_213 (by decide) (fun hb => ?_) (fun hb => ?_)
            · have hF := hF.1 hb
              exact Wa.loc [] rfl hF
            · have hF := hF.2 hb
              refine Wa.bipush (v := 50) d_MM_kindAt_216 rfl ?_
              refine Wa.iload_n (j := 3) d_MM_kindAt_218 rfl ?_
              refine Wa.iadd d_MM_kindAt_219 ?_
              refine Wa.goto 226 d_MM_kindAt_220 (by decide) ?_
              exact Wx.reti d_MM_kindAt_226 rfl hF
      · have hF := hF.2 hb
        refine Wa.iload_n (j := 3) d_MM_kindAt_179 rfl ?_
        refine Wa.bipush (v := 60) d_MM_kindAt_180 rfl ?_
        refine Wa.icmp_ne 191 d_MM_kindAt_182 (by decide) (fun hb => ?_) (fun hb => ?_)
        · have hF := hF.2 hb
          refine Wa.sipush (v := 301) d_MM_kindAt_191 rfl ?_
          exact Wx.reti d_MM_kindAt_194 rfl hF
        · have hF := hF.1 hb
          refine Wa.sipush (v := 300) d_MM_kindAt_185 rfl ?_
          refine Wa.goto 194 d_MM_kindAt_188 (by decide) ?_
          exact Wx.reti d_MM_kindAt_194 rfl hF
    · have hF := hF.2 hb
      refine Wa.iconst (v := 2) d_MM_kindAt_168 rfl ?_
      refine Wa.goto 173 d_MM_kindAt_169 (by decide) ?_
      have hc6 := hF.1
      have hF := hF.2
      have hlhc6 := vp_in_lt hc6
      refine Wa.iast d_MM_kindAt_173 w_44 (s_44 hS (by decide)) hc6 ?_
      refine Wa.iload (j := 0) d_MM_kindAt_174 rfl ?_
      refine Wa.if_eq 195 d_MM_kindAt_176 (by decide) (fun hb => ?_) (fun hb => ?_)
      · have hF := hF.1 hb
        refine Wa.iload_n (j := 3) d_MM_kindAt_195 rfl ?_
        refine Wa.if_le 223 d_MM_kindAt_196 (by decide) (fun hb => ?_) (fun hb => ?_)
        · have hF := hF.1 hb
          exact Wa.loc [] rfl hF
        · have hF := hF.2 hb
          refine Wa.iload_n (j := 3) d_MM_kindAt_199 rfl ?_
          refine Wa.sipush (v := 128) d_MM_kindAt_200 rfl ?_
          refine Wa.icmp_ge 223 d_MM_kindAt_203 (by decide) (fun hb => ?_) (fun hb => ?_)
          · have hF := hF.1 hb
            exact Wa.loc [] rfl hF
          · have hF := hF.2 hb
            refine Wa.ldcS d_MM_kindAt_206 rfl ?_
            refine Wa.iload_n (j := 3) d_MM_kindAt_208 rfl ?_
            refine Wa.i2c d_MM_kindAt_209 ?_
            refine Wx.cVi (q := E_Str) (As := [.int ((x3.toUInt32 % 65536).toInt32)]) 15 (d - 1) 0 0 _ d_MM_kindAt_210 mok_Str_indexOf_0f7a4 vl_MM_107 rfl rfl rfl (Nat.le_of_ble_eq_true rfl) (by omega) (Nat.zero_le _) (Nat.zero_le _) (s_1 hS (by decide)) hF (fun y8 μ7 hS hF => ?_)
            refine Wa.if_lt 223 d_MM_kindAt_213 (by decide) (fun hb => ?_) (fun hb => ?_)
            · have hF := hF.1 hb
              exact Wa.loc [] rfl hF
            · have hF := hF.2 hb
              refine Wa.bipush (v := 50) d_MM_kindAt_216 rfl ?_
              refine Wa.iload_n (j := 3) d_MM_kindAt_218 rfl ?_
              refine Wa.iadd d_MM_kindAt_219 ?_
              refine Wa.goto 226 d_MM_kindAt_220 (by decide) ?_
              exact Wx.reti d_MM_kindAt_226 rfl hF
      · have hF := hF.2 hb
        refine Wa.iload_n (j := 3) d_MM_kindAt_179 rfl ?_
        refine Wa.bipush (v := 60) d_MM_kindAt_180 rfl ?_
        refine Wa.icmp_ne 191 d_MM_kindAt_182 (by decide) (fun hb => ?_) (fun hb => ?_)
        · have hF := hF.2 hb
          refine Wa.sipush (v := 301) d_MM_kindAt_191 rfl ?_
          exact Wx.reti d_MM_kindAt_194 rfl hF
        · have hF := hF.1 hb
          refine Wa.sipush (v := 300) d_MM_kindAt_185 rfl ?_
          refine Wa.goto 194 d_MM_kindAt_188 (by decide) ?_
          exact Wx.reti d_MM_kindAt_194 rfl hF
set_option maxHeartbeats 4000000 in
set_option maxRecDepth 20000 in
theorem g_MM_kindAt_155 {d rc rs : Nat} {Q : Option Value → Mu → Prop} {μ : Mu} {x2 : Int32} {x3 : Int32} (hD : 1 ≤ d)  (hS : St μ)
    (hF : (((0 : Int32) = 0 → (vp_in x2 401 ∧ (((0 : Int32) = 0 → ((x3 ≤ 0 → Wx K_MM_kindAt d rc rs Q 223 [] [] (setI μ (hd 44 0) x2.toNatClampNeg 1)) ∧ (¬ x3 ≤ 0 → ((128 ≤ x3 → Wx K_MM_kindAt d rc rs Q 223 [] [] (setI μ (hd 44 0) x2.toNatClampNeg 1)) ∧ (¬ 128 ≤ x3 → (Cal K_Str_indexOf_0f7a4 (d - 1) 0 0 [.ref (hd 1 45), .int ((x3.toUInt32 % 65536).toInt32)] (setI μ (hd 44 0) x2.toNatClampNeg 1) (fun r μ2 => ∃ y3, r = some (.int y3) ∧ ((y3 < 0 → Wx K_MM_kindAt d rc rs Q 223 [] [] μ2) ∧ (¬ y3 < 0 → Q (some (.int ((50 : Int32) + x3))) μ2))))))))) ∧ (¬ (0 : Int32) = 0 → ((x3 = 60 → Q (some (.int 300)) (setI μ (hd 44 0) x2.toNatClampNeg 1)) ∧ (¬ x3 = 60 → Q (some (.int 301)) (setI μ (hd 44 0) x2.toNatClampNeg 1))))))) ∧ (¬ (0 : Int32) = 0 → (vp_in x2 401 ∧ (((0 : Int32) = 0 → ((x3 ≤ 0 → Wx K_MM_kindAt d rc rs Q 223 [] [] (setI μ (hd 44 0) x2.toNatClampNeg 2)) ∧ (¬ x3 ≤ 0 → ((128 ≤ x3 → Wx K_MM_kindAt d rc rs Q 223 [] [] (setI μ (hd 44 0) x2.toNatClampNeg 2)) ∧ (¬ 128 ≤ x3 → (Cal K_Str_indexOf_0f7a4 (d - 1) 0 0 [.ref (hd 1 45), .int ((x3.toUInt32 % 65536).toInt32)] (setI μ (hd 44 0) x2.toNatClampNeg 2) (fun r μ5 => ∃ y6, r = some (.int y6) ∧ ((y6 < 0 → Wx K_MM_kindAt d rc rs Q 223 [] [] μ5) ∧ (¬ y6 < 0 → Q (some (.int ((50 : Int32) + x3))) μ5))))))))) ∧ (¬ (0 : Int32) = 0 → ((x3 = 60 → Q (some (.int 300)) (setI μ (hd 44 0) x2.toNatClampNeg 2)) ∧ (¬ x3 = 60 → Q (some (.int 301)) (setI μ (hd 44 0) x2.toNatClampNeg 2))))))))) : Wx K_MM_kindAt d rc rs Q 155 [(0, .ref (hd 40 0)), (2, .int x2), (3, .int x3)] [] μ := by
  refine Wa.iconst (v := 0) d_MM_kindAt_155 rfl ?_
  refine Wa.istore (i := 5) (L' := [(5, .int 0), (0, .ref (hd 40 0)), (2, .int x2), (3, .int x3)]) d_MM_kindAt_156 (by decide) rfl ?_
  refine Wa.aload_n (j := 1) d_MM_kindAt_158 rfl ?_
  refine Wx.getR 11 6 d_MM_kindAt_159 f_MM_6 rfl fl_MM_23 (s_40 hS (by decide)) (r_40_6 hS (by decide)) ?_
  refine Wa.iload_n (j := 2) d_MM_kindAt_162 rfl ?_
  refine Wa.iload (j := 0) d_MM_kindAt_163 rfl ?_
  refine Wa.if_eq 172 d_MM_kindAt_165 (by decide) (fun hb => ?_) (fun hb => ?_)
  · have hF := hF.1 hb
    refine Wa.iconst (v := 1) d_MM_kindAt_172 rfl ?_
    have hc1 := hF.1
    have hF := hF.2
    have hlhc1 := vp_in_lt hc1
    refine Wa.iast d_MM_kindAt_173 w_44 (s_44 hS (by decide)) hc1 ?_
    refine Wa.iload (j := 0) d_MM_kindAt_174 rfl ?_
    refine Wa.if_eq 195 d_MM_kindAt_176 (by decide) (fun hb => ?_) (fun hb => ?_)
    · have hF := hF.1 hb
      refine Wa.iload_n (j := 3) d_MM_kindAt_195 rfl ?_
      refine Wa.if_le 223 d_MM_kindAt_196 (by decide) (fun hb => ?_) (fun hb => ?_)
      · have hF := hF.1 hb
        exact Wa.loc [] rfl hF
      · have hF := hF.2 hb
        refine Wa.iload_n (j := 3) d_MM_kindAt_199 rfl ?_
        refine Wa.sipush (v := 128) d_MM_kindAt_200 rfl ?_
        refine Wa.icmp_ge 223 d_MM_kindAt_203 (by decide) (fun hb => ?_) (fun hb => ?_)
        · have hF := hF.1 hb
          exact Wa.loc [] rfl hF
        · have hF := hF.2 hb
          refine Wa.ldcS d_MM_kindAt_206 rfl ?_
          refine Wa.iload_n (j := 3) d_MM_kindAt_208 rfl ?_
          refine Wa.i2c d_MM_kindAt_209 ?_
          refine Wx.cVi (q := E_Str) (As := [.int ((x3.toUInt32 % 65536).toInt32)]) 15 (d - 1) 0 0 _ d_MM_kindAt_210 mok_Str_indexOf_0f7a4 vl_MM_107 rfl rfl rfl (Nat.le_of_ble_eq_true rfl) (by omega) (Nat.zero_le _) (Nat.zero_le _) (s_1 hS (by decide)) hF (fun y3 μ2 hS hF => ?_)
          refine Wa.if_lt 223 d_MM_kindAt_213 (by decide) (fun hb => ?_) (fun hb => ?_)
          · have hF := hF.1 hb
            exact Wa.loc [] rfl hF
          · have hF := hF.2 hb
            refine Wa.bipush (v := 50) d_MM_kindAt_216 rfl ?_
            refine Wa.iload_n (j := 3) d_MM_kindAt_218 rfl ?_
            refine Wa.iadd d_MM_kindAt_219 ?_
            refine Wa.goto 226 d_MM_kindAt_220 (by decide) ?_
            exact Wx.reti d_MM_kindAt_226 rfl hF
    · have hF := hF.2 hb
      refine Wa.iload_n (j := 3) d_MM_kindAt_179 rfl ?_
      refine Wa.bipush (v := 60) d_MM_kindAt_180 rfl ?_
      refine Wa.icmp_ne 191 d_MM_kindAt_182 (by decide) (fun hb => ?_) (fun hb => ?_)
      · have hF := hF.2 hb
        refine Wa.sipush (v := 301) d_MM_kindAt_191 rfl ?_
        exact Wx.reti d_MM_kindAt_194 rfl hF
      · have hF := hF.1 hb
        refine Wa.sipush (v := 300) d_MM_kindAt_185 rfl ?_
        refine Wa.goto 194 d_MM_kindAt_188 (by decide) ?_
        exact Wx.reti d_MM_kindAt_194 rfl hF
  · have hF := hF.2 hb
    refine Wa.iconst (v := 2) d_MM_kindAt_168 rfl ?_
    refine Wa.goto 173 d_MM_kindAt_169 (by decide) ?_
    have hc4 := hF.1
    have hF := hF.2
    have hlhc4 := vp_in_lt hc4
    refine Wa.iast d_MM_kindAt_173 w_44 (s_44 hS (by decide)) hc4 ?_
    refine Wa.iload (j := 0) d_MM_kindAt_174 rfl ?_
    refine Wa.if_eq 195 d_MM_kindAt_176 (by decide) (fun hb => ?_) (fun hb => ?_)
    · have hF := hF.1 hb
      refine Wa.iload_n (j := 3) d_MM_kindAt_195 rfl ?_
      refine Wa.if_le 223 d_MM_kindAt_196 (by decide) (fun hb => ?_) (fun hb => ?_)
      · have hF := hF.1 hb
        exact Wa.loc [] rfl hF
      · have hF := hF.2 hb
        refine Wa.iload_n (j := 3) d_MM_kindAt_199 rfl ?_
        refine Wa.sipush (v := 128) d_MM_kindAt_200 rfl ?_
        refine Wa.icmp_ge 223 d_MM_kindAt_203 (by decide) (fun hb => ?_) (fun hb => ?_)
        · have hF := hF.1 hb
          exact Wa.loc [] rfl hF
        · have hF := hF.2 hb
          refine Wa.ldcS d_MM_kindAt_206 rfl ?_
          refine Wa.iload_n (j := 3) d_MM_kindAt_208 rfl ?_
          refine Wa.i2c d_MM_kindAt_209 ?_
          refine Wx.cVi (q := E_Str) (As := [.int ((x3.toUInt32 % 65536).toInt32)]) 15 (d - 1) 0 0 _ d_MM_kindAt_210 mok_Str_indexOf_0f7a4 vl_MM_107 rfl rfl rfl (Nat.le_of_ble_eq_true rfl) (by omega) (Nat.zero_le _) (Nat.zero_le _) (s_1 hS (by decide)) hF (fun y6 μ5 hS hF => ?_)
          refine Wa.if_lt 223 d_MM_kindAt_213 (by decide) (fun hb => ?_) (fun hb => ?_)
          · have hF := hF.1 hb
            exact Wa.loc [] rfl hF
          · have hF := hF.2 hb
            refine Wa.bipush (v := 50) d_MM_kindAt_216 rfl ?_
            refine Wa.iload_n (j := 3) d_MM_kindAt_218 rfl ?_
            refine Wa.iadd d_MM_kindAt_219 ?_
            refine Wa.goto 226 d_MM_kindAt_220 (by decide) ?_
            exact Wx.reti d_MM_kindAt_226 rfl hF
    · have hF := hF.2 hb
      refine Wa.iload_n (j := 3) d_MM_kindAt_179 rfl ?_
      refine Wa.bipush (v := 60) d_MM_kindAt_180 rfl ?_
      refine Wa.icmp_ne 191 d_MM_kindAt_182 (by decide) (fun hb => ?_) (fun hb => ?_)
      · have hF := hF.2 hb
        refine Wa.sipush (v := 301) d_MM_kindAt_191 rfl ?_
        exact Wx.reti d_MM_kindAt_194 rfl hF
      · have hF := hF.1 hb
        refine Wa.sipush (v := 300) d_MM_kindAt_185 rfl ?_
        refine Wa.goto 194 d_MM_kindAt_188 (by decide) ?_
        exact Wx.reti d_MM_kindAt_194 rfl hF
set_option maxHeartbeats 4000000 in
set_option maxRecDepth 20000 in
theorem g_MM_kindAt_223 {d rc rs : Nat} {Q : Option Value → Mu → Prop} {μ : Mu}  (hD : 1 ≤ d)  (hS : St μ)
    (hF : Q (some (.int 901)) μ) : Wx K_MM_kindAt d rc rs Q 223 [] [] μ := by
  refine Wa.sipush (v := 901) d_MM_kindAt_223 rfl ?_
  exact Wx.reti d_MM_kindAt_226 rfl hF
set_option maxHeartbeats 4000000 in
set_option maxRecDepth 20000 in
theorem g_MM_word_0 {d rc rs : Nat} {Q : Option Value → Mu → Prop} {μ : Mu} {x1 : Int32} {x2 : Int32} (hD : 1 ≤ d)  (hS : St μ)
    (hF : Wx K_MM_word d rc rs Q 2 [(0, .ref (hd 40 0)), (1, .int x1), (2, .int x2), (3, .int 0)] [] μ) : Wx K_MM_word d rc rs Q 0 [(0, .ref (hd 40 0)), (1, .int x1), (2, .int x2)] [] μ := by
  refine Wa.iconst (v := 0) d_MM_word_0 rfl ?_
  refine Wa.istore_n (i := 3) (L' := [(3, .int 0), (0, .ref (hd 40 0)), (1, .int x1), (2, .int x2)]) d_MM_word_1 rfl (by decide) rfl ?_
  exact Wa.loc [1, 2, 3, 0] rfl hF
theorem e_MM_word {d rc rs : Nat} {Q : Option Value → Mu → Prop} {μ : Mu} {x1 : Int32} {x2 : Int32} (hk : Wx K_MM_word d rc rs (fun r μ' => St μ' ∧ Q r μ') 0 [(0, .ref (hd 40 0)), (1, .int x1), (2, .int x2)] [] μ) : Cal K_MM_word d rc rs [.ref (hd 40 0), .int x1, .int x2] μ Q := Cal.of (by decide +kernel) rfl rfl (Nat.le_of_ble_eq_true rfl) rfl hk
set_option maxHeartbeats 4000000 in
set_option maxRecDepth 20000 in
theorem g_MM_word_2 {d rc rs : Nat} {Q : Option Value → Mu → Prop} {μ : Mu} {x1 : Int32} {x2 : Int32} {x3 : Int32} (hD : 1 ≤ d)  (hS : St μ)
    (hF : (((nI 29) ≤ x3 → Q (some (.int 40)) μ) ∧ (¬ (nI 29) ≤ x3 → (vp_in x3 29 ∧ (Cal K_Str_length_8abf5 (d - 1) 0 0 [.ref (hd 1 x3.toNatClampNeg)] μ (fun r μ3 => ∃ y4, r = some (.int y4) ∧ ((y4 = x2 → Wx K_MM_word d rc rs Q 32 [(0, .ref (hd 40 0)), (1, .int x1), (2, .int x2), (3, .int x3), (4, .int 1), (5, .int 0)] [] μ3) ∧ (¬ y4 = x2 → Wx K_MM_word d rc rs Q 32 [(0, .ref (hd 40 0)), (1, .int x1), (2, .int x2), (3, .int x3), (4, .int 0), (5, .int 0)] [] μ3)))))))) : Wx K_MM_word d rc rs Q 2 [(0, .ref (hd 40 0)), (1, .int x1), (2, .int x2), (3, .int x3)] [] μ := by
  refine Wa.iload_n (j := 3) d_MM_word_2 rfl ?_
  refine Wx.gets d_MM_word_3 st_2 sf_MM_112 ?_
  refine Wa.alen d_MM_word_6 (s_5 hS (by decide)) (by decide) ?_
  refine Wa.icmp_ge 91 d_MM_word_7 (by decide) (fun hb => ?_) (fun hb => ?_)
  · have hF := hF.1 hb
    refine Wa.bipush (v := 40) d_MM_word_91 rfl ?_
    exact Wx.reti d_MM_word_93 rfl hF
  · have hF := hF.2 hb
    refine Wx.gets d_MM_word_10 st_2 sf_MM_112 ?_
    refine Wa.iload_n (j := 3) d_MM_word_13 rfl ?_
    have hc1 := hF.1
    have hF := hF.2
    have hlhc1 := vp_in_lt hc1
    refine Wa.aald (t := 15) (q := E_Str) d_MM_word_14 rfl (s_5 hS (by decide)) hc1 (kk_5 hlhc1) ?_
    have hb2 : x3.toNatClampNeg < 46 := by omega
    refine Wx.cVi (q := E_Str) (As := []) 15 (d - 1) 0 0 _ d_MM_word_15 mok_Str_length_8abf5 vl_MM_116 rfl rfl rfl (Nat.le_of_ble_eq_true rfl) (by omega) (Nat.zero_le _) (Nat.zero_le _) (s_1 hS hb2) hF (fun y4 μ3 hS hF => ?_)
    refine Wa.iload_n (j := 2) d_MM_word_18 rfl ?_
    refine Wa.icmp_ne 26 d_MM_word_19 (by decide) (fun hb => ?_) (fun hb => ?_)
    · have hF := hF.2 hb
      refine Wa.iconst (v := 0) d_MM_word_26 rfl ?_
      refine Wa.istore (i := 4) (L' := [(4, .int 0), (0, .ref (hd 40 0)), (1, .int x1), (2, .int x2), (3, .int x3)]) d_MM_word_27 (by decide) rfl ?_
      refine Wa.iconst (v := 0) d_MM_word_29 rfl ?_
      refine Wa.istore (i := 5) (L' := [(5, .int 0), (4, .int 0), (0, .ref (hd 40 0)), (1, .int x1), (2, .int x2), (3, .int x3)]) d_MM_word_30 (by decide) rfl ?_
      exact Wa.loc [2, 3, 4, 5, 1, 0] rfl hF
    · have hF := hF.1 hb
      refine Wa.iconst (v := 1) d_MM_word_22 rfl ?_
      refine Wa.goto 27 d_MM_word_23 (by decide) ?_
      refine Wa.istore (i := 4) (L' := [(4, .int 1), (0, .ref (hd 40 0)), (1, .int x1), (2, .int x2), (3, .int x3)]) d_MM_word_27 (by decide) rfl ?_
      refine Wa.iconst (v := 0) d_MM_word_29 rfl ?_
      refine Wa.istore (i := 5) (L' := [(5, .int 0), (4, .int 1), (0, .ref (hd 40 0)), (1, .int x1), (2, .int x2), (3, .int x3)]) d_MM_word_30 (by decide) rfl ?_
      exact Wa.loc [2, 3, 4, 5, 1, 0] rfl hF
set_option maxHeartbeats 4000000 in
set_option maxRecDepth 20000 in
theorem g_MM_word_32 {d rc rs : Nat} {Q : Option Value → Mu → Prop} {μ : Mu} {x1 : Int32} {x2 : Int32} {x3 : Int32} {x4 : Int32} {x5 : Int32} (hD : 1 ≤ d)  (hS : St μ)
    (hF : ((x4 = 0 → ((x4 = 0 → Wx K_MM_word d rc rs Q 2 [(0, .ref (hd 40 0)), (1, .int x1), (2, .int x2), (3, .int (x3 + 1))] [] μ) ∧ (¬ x4 = 0 → Q (some (.int x3)) μ))) ∧ (¬ x4 = 0 → ((x2 ≤ x5 → ((x4 = 0 → Wx K_MM_word d rc rs Q 2 [(0, .ref (hd 40 0)), (1, .int x1), (2, .int x2), (3, .int (x3 + 1))] [] μ) ∧ (¬ x4 = 0 → Q (some (.int x3)) μ))) ∧ (¬ x2 ≤ x5 → (vp_in x3 29 ∧ (Cal K_Str_charAt_5068e (d - 1) 0 0 [.ref (hd 1 x3.toNatClampNeg), .int x5] μ (fun r μ3 => ∃ y4, r = some (.int y4) ∧ (vp_in (x1 + x5) 2000 ∧ ((y4 = (mI μ3 (hd 41 0) (x1 + x5).toNatClampNeg) → Wx K_MM_word d rc rs Q 32 [(0, .ref (hd 40 0)), (1, .int x1), (2, .int x2), (3, .int x3), (4, .int 1), (5, .int (x5 + 1))] [] μ3) ∧ (¬ y4 = (mI μ3 (hd 41 0) (x1 + x5).toNatClampNeg) → Wx K_MM_word d rc rs Q 32 [(0, .ref (hd 40 0)), (1, .int x1), (2, .int x2), (3, .int x3), (4, .int 0), (5, .int (x5 + 1))] [] μ3))))))))))) : Wx K_MM_word d rc rs Q 32 [(0, .ref (hd 40 0)), (1, .int x1), (2, .int x2), (3, .int x3), (4, .int x4), (5, .int x5)] [] μ := by
  refine Wa.iload (j := 4) d_MM_word_32 rfl ?_
  refine Wa.if_eq 78 d_MM_word_34 (by decide) (fun hb => ?_) (fun hb => ?_)
  · have hF := hF.1 hb
    refine Wa.iload (j := 4) d_MM_word_78 rfl ?_
    refine Wa.if_eq 85 d_MM_word_80 (by decide) (fun hb => ?_) (fun hb => ?_)
    · have hF := hF.1 hb
      refine Wa.iinc (i := 3) (j := 3) (v := (x3 + 1)) (L' := [(3, .int (x3 + 1)), (0, .ref (hd 40 0)), (1, .int x1), (2, .int x2), (4, .int x4), (5, .int x5)]) d_MM_word_85 rfl rfl (by decide) rfl ?_
      refine Wa.goto 2 d_MM_word_88 (by decide) ?_
      exact Wa.loc [1, 2, 3, 0] rfl hF
    · have hF := hF.2 hb
      refine Wa.iload_n (j := 3) d_MM_word_83 rfl ?_
      exact Wx.reti d_MM_word_84 rfl hF
  · have hF := hF.2 hb
    refine Wa.iload (j := 5) d_MM_word_37 rfl ?_
    refine Wa.iload_n (j := 2) d_MM_word_39 rfl ?_
    refine Wa.icmp_ge 78 d_MM_word_40 (by decide) (fun hb => ?_) (fun hb => ?_)
    · have hF := hF.1 hb
      refine Wa.iload (j := 4) d_MM_word_78 rfl ?_
      refine Wa.if_eq 85 d_MM_word_80 (by decide) (fun hb => ?_) (fun hb => ?_)
      · have hF := hF.1 hb
        refine Wa.iinc (i := 3) (j := 3) (v := (x3 + 1)) (L' := [(3, .int (x3 + 1)), (0, .ref (hd 40 0)), (1, .int x1), (2, .int x2), (4, .int x4), (5, .int x5)]) d_MM_word_85 rfl rfl (by decide) rfl ?_
        refine Wa.goto 2 d_MM_word_88 (by decide) ?_
        exact Wa.loc [1, 2, 3, 0] rfl hF
      · have hF := hF.2 hb
        refine Wa.iload_n (j := 3) d_MM_word_83 rfl ?_
        exact Wx.reti d_MM_word_84 rfl hF
    · have hF := hF.2 hb
      refine Wx.gets d_MM_word_43 st_2 sf_MM_112 ?_
      refine Wa.iload_n (j := 3) d_MM_word_46 rfl ?_
      have hc1 := hF.1
      have hF := hF.2
      have hlhc1 := vp_in_lt hc1
      refine Wa.aald (t := 15) (q := E_Str) d_MM_word_47 rfl (s_5 hS (by decide)) hc1 (kk_5 hlhc1) ?_
      have hb2 : x3.toNatClampNeg < 46 := by omega
      refine Wa.iload (j := 5) d_MM_word_48 rfl ?_
      refine Wx.cVi (q := E_Str) (As := [.int x5]) 15 (d - 1) 0 0 _ d_MM_word_50 mok_Str_charAt_5068e vl_MM_120 rfl rfl rfl (Nat.le_of_ble_eq_true rfl) (by omega) (Nat.zero_le _) (Nat.zero_le _) (s_1 hS hb2) hF (fun y4 μ3 hS hF => ?_)
      refine Wa.aload_n (j := 0) d_MM_word_53 rfl ?_
      refine Wx.getR 11 1 d_MM_word_54 f_MM_1 rfl fl_MM_9 (s_40 hS (by decide)) (r_40_1 hS (by decide)) ?_
      refine Wa.iload_n (j := 1) d_MM_word_57 rfl ?_
      refine Wa.iload (j := 5) d_MM_word_58 rfl ?_
      refine Wa.iadd d_MM_word_60 ?_
      have hc5 := hF.1
      have hF := hF.2
      have hlhc5 := vp_in_lt hc5
      refine Wx.iald d_MM_word_61 w_41 (s_41 hS (by decide)) hc5 ?_
      refine Wa.icmp_ne 69 d_MM_word_62 (by decide) (fun hb => ?_) (fun hb => ?_)
      · have hF := hF.2 hb
        refine Wa.iconst (v := 0) d_MM_word_69 rfl ?_
        refine Wa.istore (i := 4) (L' := [(4, .int 0), (0, .ref (hd 40 0)), (1, .int x1), (2, .int x2), (3, .int x3), (5, .int x5)]) d_MM_word_70 (by decide) rfl ?_
        refine Wa.iinc (i := 5) (j := 5) (v := (x5 + 1)) (L' := [(5, .int (x5 + 1)), (4, .int 0), (0, .ref (hd 40 0)), (1, .int x1), (2, .int x2), (3, .int x3)]) d_MM_word_72 rfl rfl (by decide) rfl ?_
        refine Wa.goto 32 d_MM_word_75 (by decide) ?_
        exact Wa.loc [2, 3, 4, 5, 1, 0] rfl hF
      · have hF := hF.1 hb
        refine Wa.iconst (v := 1) d_MM_word_65 rfl ?_
        refine Wa.goto 70 d_MM_word_66 (by decide) ?_
        refine Wa.istore (i := 4) (L' := [(4, .int 1), (0, .ref (hd 40 0)), (1, .int x1), (2, .int x2), (3, .int x3), (5, .int x5)]) d_MM_word_70 (by decide) rfl ?_
        refine Wa.iinc (i := 5) (j := 5) (v := (x5 + 1)) (L' := [(5, .int (x5 + 1)), (4, .int 1), (0, .ref (hd 40 0)), (1, .int x1), (2, .int x2), (3, .int x3)]) d_MM_word_72 rfl rfl (by decide) rfl ?_
        refine Wa.goto 32 d_MM_word_75 (by decide) ?_
        exact Wa.loc [2, 3, 4, 5, 1, 0] rfl hF
set_option maxHeartbeats 4000000 in
set_option maxRecDepth 20000 in
theorem g_MM_cut_0 {d rc rs : Nat} {Q : Option Value → Mu → Prop} {μ : Mu}  (hD : 1 ≤ d)  (hS : St μ)
    (hF : Wx K_MM_cut d rc rs Q 4 [(0, .ref (hd 40 0)), (1, .int 0), (2, .int 0)] [] μ) : Wx K_MM_cut d rc rs Q 0 [(0, .ref (hd 40 0))] [] μ := by
  refine Wa.iconst (v := 0) d_MM_cut_0 rfl ?_
  refine Wa.istore_n (i := 1) (L' := [(1, .int 0), (0, .ref (hd 40 0))]) d_MM_cut_1 rfl (by decide) rfl ?_
  refine Wa.iconst (v := 0) d_MM_cut_2 rfl ?_
  refine Wa.istore_n (i := 2) (L' := [(2, .int 0), (1, .int 0), (0, .ref (hd 40 0))]) d_MM_cut_3 rfl (by decide) rfl ?_
  exact Wa.loc [2, 1, 0] rfl hF
theorem e_MM_cut {d rc rs : Nat} {Q : Option Value → Mu → Prop} {μ : Mu}  (hk : Wx K_MM_cut d rc rs (fun r μ' => St μ' ∧ Q r μ') 0 [(0, .ref (hd 40 0))] [] μ) : Cal K_MM_cut d rc rs [.ref (hd 40 0)] μ Q := Cal.of (by decide +kernel) rfl rfl (Nat.le_of_ble_eq_true rfl) rfl hk
set_option maxHeartbeats 4000000 in
set_option maxRecDepth 20000 in
theorem g_MM_cut_4 {d rc rs : Nat} {Q : Option Value → Mu → Prop} {μ : Mu} {x1 : Int32} {x2 : Int32} (hD : 1 ≤ d)  (hS : St μ)
    (hF : ((400 < x2 → Q none μ) ∧ (¬ 400 < x2 → Wx K_MM_cut d rc rs Q 11 [(0, .ref (hd 40 0)), (1, .int x1), (2, .int x2)] [] μ))) : Wx K_MM_cut d rc rs Q 4 [(0, .ref (hd 40 0)), (1, .int x1), (2, .int x2)] [] μ := by
  refine Wa.iload_n (j := 2) d_MM_cut_4 rfl ?_
  refine Wa.sipush (v := 400) d_MM_cut_5 rfl ?_
  refine Wa.icmp_gt 126 d_MM_cut_8 (by decide) (fun hb => ?_) (fun hb => ?_)
  · have hF := hF.1 hb
    exact Wx.retv d_MM_cut_126 rfl hF
  · have hF := hF.2 hb
    exact Wa.loc [0, 1, 2] rfl hF
set_option maxHeartbeats 4000000 in
set_option maxRecDepth 20000 in
theorem g_MM_cut_11 {d rc rs : Nat} {Q : Option Value → Mu → Prop} {μ : Mu} {x1 : Int32} {x2 : Int32} (hD : 1 ≤ d)  (hS : St μ)
    (hF : (Cal K_MM_byteOf (d - 1) 0 0 [.ref (hd 40 0), .int x1] μ (fun r μ1 => ∃ y2, r = some (.int y2) ∧ ((y2 = 32 → Wx K_MM_cut d rc rs Q 11 [(0, .ref (hd 40 0)), (1, .int (x1 + 1)), (2, .int x2)] [] μ1) ∧ (¬ y2 = 32 → (Cal K_MM_byteOf (d - 1) 0 0 [.ref (hd 40 0), .int x1] μ1 (fun r μ3 => ∃ y4, r = some (.int y4) ∧ ((y4 = 10 → Wx K_MM_cut d rc rs Q 11 [(0, .ref (hd 40 0)), (1, .int (x1 + 1)), (2, .int x2)] [] μ3) ∧ (¬ y4 = 10 → (vp_in x2 401 ∧ (vp_in x2 401 ∧ (vp_in x2 401 ∧ (Cal K_MM_kindAt (d - 1) 0 0 [.ref (hd 40 0), .int x1, .int x2] (setI (setI (setI μ3 (hd 43 0) x2.toNatClampNeg x1) (hd 45 0) x2.toNatClampNeg 0) (hd 46 0) x2.toNatClampNeg 0) (fun r μ8 => ∃ y9, r = some (.int y9) ∧ (vp_in x2 401 ∧ ((x2 = 400 → (vp_in x2 401 ∧ (((mI (setI μ8 (hd 42 0) x2.toNatClampNeg y9) (hd 42 0) x2.toNatClampNeg) = 900 → (vp_in x2 401 ∧ (((mI (setI μ8 (hd 42 0) x2.toNatClampNeg y9) (hd 42 0) x2.toNatClampNeg) < 900 → (vp_in x2 401 ∧ Wx K_MM_cut d rc rs Q 4 [(0, .ref (hd 40 0)), (1, .int (x1 + (mI (setI μ8 (hd 42 0) x2.toNatClampNeg y9) (hd 44 0) x2.toNatClampNeg))), (2, .int (x2 + 1))] [] (setI μ8 (hd 42 0) x2.toNatClampNeg y9))) ∧ (¬ (mI (setI μ8 (hd 42 0) x2.toNatClampNeg y9) (hd 42 0) x2.toNatClampNeg) < 900 → Q none (setI μ8 (hd 42 0) x2.toNatClampNeg y9))))) ∧ (¬ (mI (setI μ8 (hd 42 0) x2.toNatClampNeg y9) (hd 42 0) x2.toNatClampNeg) = 900 → (vp_in x2 401 ∧ (vp_in x2 401 ∧ (((mI (setI (setI μ8 (hd 42 0) x2.toNatClampNeg y9) (hd 42 0) x2.toNatClampNeg 901) (hd 42 0) x2.toNatClampNeg) < 900 → (vp_in x2 401 ∧ Wx K_MM_cut d rc rs Q 4 [(0, .ref (hd 40 0)), (1, .int (x1 + (mI (setI (setI μ8 (hd 42 0) x2.toNatClampNeg y9) (hd 42 0) x2.toNatClampNeg 901) (hd 44 0) x2.toNatClampNeg))), (2, .int (x2 + 1))] [] (setI (setI μ8 (hd 42 0) x2.toNatClampNeg y9) (hd 42 0) x2.toNatClampNeg 901))) ∧ (¬ (mI (setI (setI μ8 (hd 42 0) x2.toNatClampNeg y9) (hd 42 0) x2.toNatClampNeg 901) (hd 42 0) x2.toNatClampNeg) < 900 → Q none (setI (setI μ8 (hd 42 0) x2.toNatClampNeg y9) (hd 42 0) x2.toNatClampNeg 901))))))))) ∧ (¬ x2 = 400 → (vp_in x2 401 ∧ (((mI (setI μ8 (hd 42 0) x2.toNatClampNeg y9) (hd 42 0) x2.toNatClampNeg) < 900 → (vp_in x2 401 ∧ Wx K_MM_cut d rc rs Q 4 [(0, .ref (hd 40 0)), (1, .int (x1 + (mI (setI μ8 (hd 42 0) x2.toNatClampNeg y9) (hd 44 0) x2.toNatClampNeg))), (2, .int (x2 + 1))] [] (setI μ8 (hd 42 0) x2.toNatClampNeg y9))) ∧ (¬ (mI (setI μ8 (hd 42 0) x2.toNatClampNeg y9) (hd 42 0) x2.toNatClampNeg) < 900 → Q none (setI μ8 (hd 42 0) x2.toNatClampNeg y9))))))))))))))))))))) : Wx K_MM_cut d rc rs Q 11 [(0, .ref (hd 40 0)), (1, .int x1), (2, .int x2)] [] μ := by
  refine Wa.aload_n (j := 0) d_MM_cut_11 rfl ?_
  refine Wa.iload_n (j := 1) d_MM_cut_12 rfl ?_
  refine Wx.cVi (q := E_MM) (As := [.int x1]) 11 (d - 1) 0 0 _ d_MM_cut_13 mok_MM_byteOf vl_MM_92 rfl rfl rfl (Nat.le_of_ble_eq_true rfl) (by omega) (Nat.zero_le _) (Nat.zero_le _) (s_40 hS (by decide)) hF (fun y2 μ1 hS hF => ?_)
  refine Wa.bipush (v := 32) d_MM_cut_16 rfl ?_
  refine Wa.icmp_eq 31 d_MM_cut_18 (by decide) (fun hb => ?_) (fun hb => ?_)
  · have hF := hF.1 hb
    refine Wa.iinc (i := 1) (j := 1) (v := (x1 + 1)) (L' := [(1, .int (x1 + 1)), (0, .ref (hd 40 0)), (2, .int x2)]) d_MM_cut_31 rfl rfl (by decide) rfl ?_
    refine Wa.goto 11 d_MM_cut_34 (by decide) ?_
    exact Wa.loc [1, 0, 2] rfl hF
  · have hF := hF.2 hb
    refine Wa.aload_n (j := 0) d_MM_cut_21 rfl ?_
    refine Wa.iload_n (j := 1) d_MM_cut_22 rfl ?_
    refine Wx.cVi (q := E_MM) (As := [.int x1]) 11 (d - 1) 0 0 _ d_MM_cut_23 mok_MM_byteOf vl_MM_92 rfl rfl rfl (Nat.le_of_ble_eq_true rfl) (by omega) (Nat.zero_le _) (Nat.zero_le _) (s_40 hS (by decide)) hF (fun y4 μ3 hS hF => ?_)
    refine Wa.bipush (v := 10) d_MM_cut_26 rfl ?_
    refine Wa.icmp_ne 37 d_MM_cut_28 (by decide) (fun hb => ?_) (fun hb => ?_)
    · have hF := hF.2 hb
      refine Wa.aload_n (j := 0) d_MM_cut_37 rfl ?_
      refine Wx.getR 11 5 d_MM_cut_38 f_MM_5 rfl fl_MM_20 (s_40 hS (by decide)) (r_40_5 hS (by decide)) ?_
      refine Wa.iload_n (j := 2) d_MM_cut_41 rfl ?_
      refine Wa.iload_n (j := 1) d_MM_cut_42 rfl ?_
      have hc5 := hF.1
      have hF := hF.2
      have hlhc5 := vp_in_lt hc5
      refine Wa.iast d_MM_cut_43 w_43 (s_43 hS (by decide)) hc5 ?_
      refine Wa.aload_n (j := 0) d_MM_cut_44 rfl ?_
      refine Wx.getR 11 7 d_MM_cut_45 f_MM_7 rfl fl_MM_26 (s_40 hS (by decide)) (r_40_7 hS (by decide)) ?_
      refine Wa.iload_n (j := 2) d_MM_cut_48 rfl ?_
      refine Wa.iconst (v := 0) d_MM_cut_49 rfl ?_
      have hc6 := hF.1
      have hF := hF.2
      have hlhc6 := vp_in_lt hc6
      refine Wa.iast d_MM_cut_50 w_45 (s_45 hS (by decide)) hc6 ?_
      refine Wa.aload_n (j := 0) d_MM_cut_51 rfl ?_
      refine Wx.getR 11 8 d_MM_cut_52 f_MM_8 rfl fl_MM_29 (s_40 hS (by decide)) (r_40_8 hS (by decide)) ?_
      refine Wa.iload_n (j := 2) d_MM_cut_55 rfl ?_
      refine Wa.iconst (v := 0) d_MM_cut_56 rfl ?_
      have hc7 := hF.1
      have hF := hF.2
      have hlhc7 := vp_in_lt hc7
      refine Wa.iast d_MM_cut_57 w_46 (s_46 hS (by decide)) hc7 ?_
      refine Wa.aload_n (j := 0) d_MM_cut_58 rfl ?_
      refine Wx.getR 11 4 d_MM_cut_59 f_MM_4 rfl fl_MM_17 (s_40 hS (by decide)) (r_40_4 hS (by decide)) ?_
      refine Wa.iload_n (j := 2) d_MM_cut_62 rfl ?_
      refine Wa.aload_n (j := 0) d_MM_cut_63 rfl ?_
      refine Wa.iload_n (j := 1) d_MM_cut_64 rfl ?_
      refine Wa.iload_n (j := 2) d_MM_cut_65 rfl ?_
      refine Wx.cVi (q := E_MM) (As := [.int x1, .int x2]) 11 (d - 1) 0 0 _ d_MM_cut_66 mok_MM_kindAt vl_MM_124 rfl rfl rfl (Nat.le_of_ble_eq_true rfl) (by omega) (Nat.zero_le _) (Nat.zero_le _) (s_40 hS (by decide)) hF (fun y9 μ8 hS hF => ?_)
      have hc10 := hF.1
      have hF := hF.2
      have hlhc10 := vp_in_lt hc10
      refine Wa.iast d_MM_cut_69 w_42 (s_42 hS (by decide)) hc10 ?_
      refine Wa.iload_n (j := 2) d_MM_cut_70 rfl ?_
      refine Wa.sipush (v := 400) d_MM_cut_71 rfl ?_
      refine Wa.icmp_ne 98 d_MM_cut_74 (by decide) (fun hb => ?_) (fun hb => ?_)
      · have hF := hF.2 hb
        refine Wa.aload_n (j := 0) d_MM_cut_98 rfl ?_
        refine Wx.getR 11 4 d_MM_cut_99 f_MM_4 rfl fl_MM_17 (s_40 hS (by decide)) (r_40_4 hS (by decide)) ?_
        refine Wa.iload_n (j := 2) d_MM_cut_102 rfl ?_
        have hc11 := hF.1
        have hF := hF.2
        have hlhc11 := vp_in_lt hc11
        refine Wx.iald d_MM_cut_103 w_42 (s_42 hS (by decide)) hc11 ?_
        refine Wa.sipush (v := 900) d_MM_cut_104 rfl ?_
        refine Wa.icmp_lt 111 d_MM_cut_107 (by decide) (fun hb => ?_) (fun hb => ?_)
        · have hF := hF.1 hb
          refine Wa.iload_n (j := 1) d_MM_cut_111 rfl ?_
          refine Wa.aload_n (j := 0) d_MM_cut_112 rfl ?_
          refine Wx.getR 11 6 d_MM_cut_113 f_MM_6 rfl fl_MM_23 (s_40 hS (by decide)) (r_40_6 hS (by decide)) ?_
          refine Wa.iload_n (j := 2) d_MM_cut_116 rfl ?_
          have hc12 := hF.1
          have hF := hF.2
          have hlhc12 := vp_in_lt hc12
          refine Wx.iald d_MM_cut_117 w_44 (s_44 hS (by decide)) hc12 ?_
          refine Wa.iadd d_MM_cut_118 ?_
          refine Wa.istore_n (i := 1) (L' := [(1, .int (x1 + (mI (setI μ8 (hd 42 0) x2.toNatClampNeg y9) (hd 44 0) x2.toNatClampNeg))), (0, .ref (hd 40 0)), (2, .int x2)]) d_MM_cut_119 rfl (by decide) rfl ?_
          refine Wa.iinc (i := 2) (j := 2) (v := (x2 + 1)) (L' := [(2, .int (x2 + 1)), (1, .int (x1 + (mI (setI μ8 (hd 42 0) x2.toNatClampNeg y9) (hd 44 0) x2.toNatClampNeg))), (0, .ref (hd 40 0))]) d_MM_cut_120 rfl rfl (by decide) rfl ?_
          refine Wa.goto 4 d_MM_cut_123 (by decide) ?_
          exact Wa.loc [2, 1, 0] rfl hF
        · have hF := hF.2 hb
          exact Wx.retv d_MM_cut_110 rfl hF
      · have hF := hF.1 hb
        refine Wa.aload_n (j := 0) d_MM_cut_77 rfl ?_
        refine Wx.getR 11 4 d_MM_cut_78 f_MM_4 rfl fl_MM_17 (s_40 hS (by decide)) (r_40_4 hS (by decide)) ?_
        refine Wa.iload_n (j := 2) d_MM_cut_81 rfl ?_
        have hc13 := hF.1
        have hF := hF.2
        have hlhc13 := vp_in_lt hc13
        refine Wx.iald d_MM_cut_82 w_42 (s_42 hS (by decide)) hc13 ?_
        refine Wa.sipush (v := 900) d_MM_cut_83 rfl ?_
        refine Wa.icmp_eq 98 d_MM_cut_86 (by decide) (fun hb => ?_) (fun hb => ?_)
        · have hF := hF.1 hb
          refine Wa.aload_n (j := 0) d_MM_cut_98 rfl ?_
          refine Wx.getR 11 4 d_MM_cut_99 f_MM_4 rfl fl_MM_17 (s_40 hS (by decide)) (r_40_4 hS (by decide)) ?_
          refine Wa.iload_n (j := 2) d_MM_cut_102 rfl ?_
          have hc14 := hF.1
          have hF := hF.2
          have hlhc14 := vp_in_lt hc14
          refine Wx.iald d_MM_cut_103 w_42 (s_42 hS (by decide)) hc14 ?_
          refine Wa.sipush (v := 900) d_MM_cut_104 rfl ?_
          refine Wa.icmp_lt 111 d_MM_cut_107 (by decide) (fun hb => ?_) (fun hb => ?_)
          · have hF := hF.1 hb
            refine Wa.iload_n (j := 1) d_MM_cut_111 rfl ?_
            refine Wa.aload_n (j := 0) d_MM_cut_112 rfl ?_
            refine Wx.getR 11 6 d_MM_cut_113 f_MM_6 rfl fl_MM_23 (s_40 hS (by decide)) (r_40_6 hS (by decide)) ?_
            refine Wa.iload_n (j := 2) d_MM_cut_116 rfl ?_
            have hc15 := hF.1
            have hF := hF.2
            have hlhc15 := vp_in_lt hc15
            refine Wx.iald d_MM_cut_117 w_44 (s_44 hS (by decide)) hc15 ?_
            refine Wa.iadd d_MM_cut_118 ?_
            refine Wa.istore_n (i := 1) (L' := [(1, .int (x1 + (mI (setI μ8 (hd 42 0) x2.toNatClampNeg y9) (hd 44 0) x2.toNatClampNeg))), (0, .ref (hd 40 0)), (2, .int x2)]) d_MM_cut_119 rfl (by decide) rfl ?_
            refine Wa.iinc (i := 2) (j := 2) (v := (x2 + 1)) (L' := [(2, .int (x2 + 1)), (1, .int (x1 + (mI (setI μ8 (hd 42 0) x2.toNatClampNeg y9) (hd 44 0) x2.toNatClampNeg))), (0, .ref (hd 40 0))]) d_MM_cut_120 rfl rfl (by decide) rfl ?_
            refine Wa.goto 4 d_MM_cut_123 (by decide) ?_
            exact Wa.loc [2, 1, 0] rfl hF
          · have hF := hF.2 hb
            exact Wx.retv d_MM_cut_110 rfl hF
        · have hF := hF.2 hb
          refine Wa.aload_n (j := 0) d_MM_cut_89 rfl ?_
          refine Wx.getR 11 4 d_MM_cut_90 f_MM_4 rfl fl_MM_17 (s_40 hS (by decide)) (r_40_4 hS (by decide)) ?_
          refine Wa.iload_n (j := 2) d_MM_cut_93 rfl ?_
          refine Wa.sipush (v := 901) d_MM_cut_94 rfl ?_
          have hc16 := hF.1
          have hF := hF.2
          have hlhc16 := vp_in_lt hc16
          refine Wa.iast d_MM_cut_97 w_42 (s_42 hS (by decide)) hc16 ?_
          refine Wa.aload_n (j := 0) d_MM_cut_98 rfl ?_
          refine Wx.getR 11 4 d_MM_cut_99 f_MM_4 rfl fl_MM_17 (s_40 hS (by decide)) (r_40_4 hS (by decide)) ?_
          refine Wa.iload_n (j := 2) d_MM_cut_102 rfl ?_
          have hc17 := hF.1
          have hF := hF.2
          have hlhc17 := vp_in_lt hc17
          refine Wx.iald d_MM_cut_103 w_42 (s_42 hS (by decide)) hc17 ?_
          refine Wa.sipush (v := 900) d_MM_cut_104 rfl ?_
          refine Wa.icmp_lt 111 d_MM_cut_107 (by decide) (fun hb => ?_) (fun hb => ?_)
          · have hF := hF.1 hb
            refine Wa.iload_n (j := 1) d_MM_cut_111 rfl ?_
            refine Wa.aload_n (j := 0) d_MM_cut_112 rfl ?_
            refine Wx.getR 11 6 d_MM_cut_113 f_MM_6 rfl fl_MM_23 (s_40 hS (by decide)) (r_40_6 hS (by decide)) ?_
            refine Wa.iload_n (j := 2) d_MM_cut_116 rfl ?_
            have hc18 := hF.1
            have hF := hF.2
            have hlhc18 := vp_in_lt hc18
            refine Wx.iald d_MM_cut_117 w_44 (s_44 hS (by decide)) hc18 ?_
            refine Wa.iadd d_MM_cut_118 ?_
            refine Wa.istore_n (i := 1) (L' := [(1, .int (x1 + (mI (setI (setI μ8 (hd 42 0) x2.toNatClampNeg y9) (hd 42 0) x2.toNatClampNeg 901) (hd 44 0) x2.toNatClampNeg))), (0, .ref (hd 40 0)), (2, .int x2)]) d_MM_cut_119 rfl (by decide) rfl ?_
            refine Wa.iinc (i := 2) (j := 2) (v := (x2 + 1)) (L' := [(2, .int (x2 + 1)), (1, .int (x1 + (mI (setI (setI μ8 (hd 42 0) x2.toNatClampNeg y9) (hd 42 0) x2.toNatClampNeg 901) (hd 44 0) x2.toNatClampNeg))), (0, .ref (hd 40 0))]) d_MM_cut_120 rfl rfl (by decide) rfl ?_
            refine Wa.goto 4 d_MM_cut_123 (by decide) ?_
            exact Wa.loc [2, 1, 0] rfl hF
          · have hF := hF.2 hb
            exact Wx.retv d_MM_cut_110 rfl hF
    · have hF := hF.1 hb
      refine Wa.iinc (i := 1) (j := 1) (v := (x1 + 1)) (L' := [(1, .int (x1 + 1)), (0, .ref (hd 40 0)), (2, .int x2)]) d_MM_cut_31 rfl rfl (by decide) rfl ?_
      refine Wa.goto 11 d_MM_cut_34 (by decide) ?_
      exact Wa.loc [1, 0, 2] rfl hF
set_option maxHeartbeats 4000000 in
set_option maxRecDepth 20000 in
theorem g_MM_is_0 {d rc rs : Nat} {Q : Option Value → Mu → Prop} {μ : Mu} {x1 : Int32} (hD : 1 ≤ d)  (hS : St μ)
    (hF : (vp_in (mI μ (hd 40 0) 9) 401 ∧ (((mI μ (hd 42 0) (mI μ (hd 40 0) 9).toNatClampNeg) = x1 → Q (some (.int 1)) μ) ∧ (¬ (mI μ (hd 42 0) (mI μ (hd 40 0) 9).toNatClampNeg) = x1 → Q (some (.int 0)) μ)))) : Wx K_MM_is d rc rs Q 0 [(0, .ref (hd 40 0)), (1, .int x1)] [] μ := by
  refine Wa.aload_n (j := 0) d_MM_is_0 rfl ?_
  refine Wx.getR 11 4 d_MM_is_1 f_MM_4 rfl fl_MM_17 (s_40 hS (by decide)) (r_40_4 hS (by decide)) ?_
  refine Wa.aload_n (j := 0) d_MM_is_4 rfl ?_
  refine Wx.getI 11 9 d_MM_is_5 f_MM_9 fl_MM_127 w_40 (s_40 hS (by decide)) ?_
  have hc1 := hF.1
  have hF := hF.2
  have hlhc1 := vp_in_lt hc1
  refine Wx.iald d_MM_is_8 w_42 (s_42 hS (by decide)) hc1 ?_
  refine Wa.iload_n (j := 1) d_MM_is_9 rfl ?_
  refine Wa.icmp_ne 17 d_MM_is_10 (by decide) (fun hb => ?_) (fun hb => ?_)
  · have hF := hF.2 hb
    refine Wa.iconst (v := 0) d_MM_is_17 rfl ?_
    exact Wx.retz d_MM_is_18 rfl (Or.inl rfl) hF
  · have hF := hF.1 hb
    refine Wa.iconst (v := 1) d_MM_is_13 rfl ?_
    refine Wa.goto 18 d_MM_is_14 (by decide) ?_
    exact Wx.retz d_MM_is_18 rfl (Or.inr rfl) hF
theorem e_MM_is {d rc rs : Nat} {Q : Option Value → Mu → Prop} {μ : Mu} {x1 : Int32} (hk : Wx K_MM_is d rc rs (fun r μ' => St μ' ∧ Q r μ') 0 [(0, .ref (hd 40 0)), (1, .int x1)] [] μ) : Cal K_MM_is d rc rs [.ref (hd 40 0), .int x1] μ Q := Cal.of (by decide +kernel) rfl rfl (Nat.le_of_ble_eq_true rfl) rfl hk
set_option maxHeartbeats 4000000 in
set_option maxRecDepth 20000 in
theorem g_MM_isSign_0 {d rc rs : Nat} {Q : Option Value → Mu → Prop} {μ : Mu} {x1 : Int32} (hD : 1 ≤ d)  (hS : St μ)
    (hF : (vp_in (mI μ (hd 40 0) 9) 401 ∧ (((mI μ (hd 42 0) (mI μ (hd 40 0) 9).toNatClampNeg) = ((50 : Int32) + x1) → Q (some (.int 1)) μ) ∧ (¬ (mI μ (hd 42 0) (mI μ (hd 40 0) 9).toNatClampNeg) = ((50 : Int32) + x1) → Q (some (.int 0)) μ)))) : Wx K_MM_isSign d rc rs Q 0 [(0, .ref (hd 40 0)), (1, .int x1)] [] μ := by
  refine Wa.aload_n (j := 0) d_MM_isSign_0 rfl ?_
  refine Wx.getR 11 4 d_MM_isSign_1 f_MM_4 rfl fl_MM_17 (s_40 hS (by decide)) (r_40_4 hS (by decide)) ?_
  refine Wa.aload_n (j := 0) d_MM_isSign_4 rfl ?_
  refine Wx.getI 11 9 d_MM_isSign_5 f_MM_9 fl_MM_127 w_40 (s_40 hS (by decide)) ?_
  have hc1 := hF.1
  have hF := hF.2
  have hlhc1 := vp_in_lt hc1
  refine Wx.iald d_MM_isSign_8 w_42 (s_42 hS (by decide)) hc1 ?_
  refine Wa.bipush (v := 50) d_MM_isSign_9 rfl ?_
  refine Wa.iload_n (j := 1) d_MM_isSign_11 rfl ?_
  refine Wa.iadd d_MM_isSign_12 ?_
  refine Wa.icmp_ne 20 d_MM_isSign_13 (by decide) (fun hb => ?_) (fun hb => ?_)
  · have hF := hF.2 hb
    refine Wa.iconst (v := 0) d_MM_isSign_20 rfl ?_
    exact Wx.retz d_MM_isSign_21 rfl (Or.inl rfl) hF
  · have hF := hF.1 hb
    refine Wa.iconst (v := 1) d_MM_isSign_16 rfl ?_
    refine Wa.goto 21 d_MM_isSign_17 (by decide) ?_
    exact Wx.retz d_MM_isSign_21 rfl (Or.inr rfl) hF
theorem e_MM_isSign {d rc rs : Nat} {Q : Option Value → Mu → Prop} {μ : Mu} {x1 : Int32} (hk : Wx K_MM_isSign d rc rs (fun r μ' => St μ' ∧ Q r μ') 0 [(0, .ref (hd 40 0)), (1, .int x1)] [] μ) : Cal K_MM_isSign d rc rs [.ref (hd 40 0), .int x1] μ Q := Cal.of (by decide +kernel) rfl rfl (Nat.le_of_ble_eq_true rfl) rfl hk
set_option maxHeartbeats 4000000 in
set_option maxRecDepth 20000 in
theorem g_MM_eat_0 {d rc rs : Nat} {Q : Option Value → Mu → Prop} {μ : Mu} {x1 : Int32} (hD : 1 ≤ d)  (hS : St μ)
    (hF : (Cal K_MM_is (d - 1) 0 0 [.ref (hd 40 0), .int x1] μ (fun r μ1 => ∃ y2, r = some (.int y2) ∧ ((y2 = 0 → Q (some (.int 0)) μ1) ∧ (¬ y2 = 0 → Q (some (.int 1)) (setI μ1 (hd 40 0) 9 ((mI μ1 (hd 40 0) 9) + (1 : Int32)))))))) : Wx K_MM_eat d rc rs Q 0 [(0, .ref (hd 40 0)), (1, .int x1)] [] μ := by
  refine Wa.aload_n (j := 0) d_MM_eat_0 rfl ?_
  refine Wa.iload_n (j := 1) d_MM_eat_1 rfl ?_
  refine Wx.cVi (q := E_MM) (As := [.int x1]) 11 (d - 1) 0 0 _ d_MM_eat_2 mok_MM_is vl_MM_130 rfl rfl rfl (Nat.le_of_ble_eq_true rfl) (by omega) (Nat.zero_le _) (Nat.zero_le _) (s_40 hS (by decide)) hF (fun y2 μ1 hS hF => ?_)
  refine Wa.if_ne 10 d_MM_eat_5 (by decide) (fun hb => ?_) (fun hb => ?_)
  · have hF := hF.2 hb
    refine Wa.aload_n (j := 0) d_MM_eat_10 rfl ?_
    refine Wa.dup d_MM_eat_11 rfl ?_
    refine Wx.getI 11 9 d_MM_eat_12 f_MM_9 fl_MM_127 w_40 (s_40 hS (by decide)) ?_
    refine Wa.iconst (v := 1) d_MM_eat_15 rfl ?_
    refine Wa.iadd d_MM_eat_16 ?_
    refine Wx.putI 11 9 d_MM_eat_17 f_MM_9 ok_MM fl_MM_127 (Or.inl rfl) w_40 (s_40 hS (by decide)) ?_
    refine Wa.iconst (v := 1) d_MM_eat_20 rfl ?_
    exact Wx.retz d_MM_eat_21 rfl (Or.inr rfl) hF
  · have hF := hF.1 hb
    refine Wa.iconst (v := 0) d_MM_eat_8 rfl ?_
    exact Wx.retz d_MM_eat_9 rfl (Or.inl rfl) hF
theorem e_MM_eat {d rc rs : Nat} {Q : Option Value → Mu → Prop} {μ : Mu} {x1 : Int32} (hk : Wx K_MM_eat d rc rs (fun r μ' => St μ' ∧ Q r μ') 0 [(0, .ref (hd 40 0)), (1, .int x1)] [] μ) : Cal K_MM_eat d rc rs [.ref (hd 40 0), .int x1] μ Q := Cal.of (by decide +kernel) rfl rfl (Nat.le_of_ble_eq_true rfl) rfl hk
set_option maxHeartbeats 4000000 in
set_option maxRecDepth 20000 in
theorem g_MM_eatSign_0 {d rc rs : Nat} {Q : Option Value → Mu → Prop} {μ : Mu} {x1 : Int32} (hD : 1 ≤ d)  (hS : St μ)
    (hF : (Cal K_MM_eat (d - 1) 0 0 [.ref (hd 40 0), .int ((50 : Int32) + x1)] μ (fun r μ1 => ∃ y2, r = some (.int y2) ∧ ((y2 = 0 ∨ y2 = 1) ∧ Q (some (.int y2)) μ1)))) : Wx K_MM_eatSign d rc rs Q 0 [(0, .ref (hd 40 0)), (1, .int x1)] [] μ := by
  refine Wa.aload_n (j := 0) d_MM_eatSign_0 rfl ?_
  refine Wa.bipush (v := 50) d_MM_eatSign_1 rfl ?_
  refine Wa.iload_n (j := 1) d_MM_eatSign_3 rfl ?_
  refine Wa.iadd d_MM_eatSign_4 ?_
  refine Wx.cVi (q := E_MM) (As := [.int ((50 : Int32) + x1)]) 11 (d - 1) 0 0 _ d_MM_eatSign_5 mok_MM_eat vl_MM_133 rfl rfl rfl (Nat.le_of_ble_eq_true rfl) (by omega) (Nat.zero_le _) (Nat.zero_le _) (s_40 hS (by decide)) hF (fun y2 μ1 hS hF => ?_)
  exact Wx.retz d_MM_eatSign_8 rfl hF.1 hF.2
theorem e_MM_eatSign {d rc rs : Nat} {Q : Option Value → Mu → Prop} {μ : Mu} {x1 : Int32} (hk : Wx K_MM_eatSign d rc rs (fun r μ' => St μ' ∧ Q r μ') 0 [(0, .ref (hd 40 0)), (1, .int x1)] [] μ) : Cal K_MM_eatSign d rc rs [.ref (hd 40 0), .int x1] μ Q := Cal.of (by decide +kernel) rfl rfl (Nat.le_of_ble_eq_true rfl) rfl hk
set_option maxHeartbeats 4000000 in
set_option maxRecDepth 20000 in
theorem g_MM_eatAs_0 {d rc rs : Nat} {Q : Option Value → Mu → Prop} {μ : Mu} {x1 : Int32} {x2 : Int32} (hD : 1 ≤ d)  (hS : St μ)
    (hF : (vp_in (mI μ (hd 40 0) 9) 401 ∧ (Cal K_MM_eat (d - 1) 0 0 [.ref (hd 40 0), .int x1] (setI μ (hd 45 0) (mI μ (hd 40 0) 9).toNatClampNeg x2) (fun r μ2 => ∃ y3, r = some (.int y3) ∧ ((y3 = 0 ∨ y3 = 1) ∧ Q (some (.int y3)) μ2))))) : Wx K_MM_eatAs d rc rs Q 0 [(0, .ref (hd 40 0)), (1, .int x1), (2, .int x2)] [] μ := by
  refine Wa.aload_n (j := 0) d_MM_eatAs_0 rfl ?_
  refine Wx.getR 11 7 d_MM_eatAs_1 f_MM_7 rfl fl_MM_26 (s_40 hS (by decide)) (r_40_7 hS (by decide)) ?_
  refine Wa.aload_n (j := 0) d_MM_eatAs_4 rfl ?_
  refine Wx.getI 11 9 d_MM_eatAs_5 f_MM_9 fl_MM_127 w_40 (s_40 hS (by decide)) ?_
  refine Wa.iload_n (j := 2) d_MM_eatAs_8 rfl ?_
  have hc1 := hF.1
  have hF := hF.2
  have hlhc1 := vp_in_lt hc1
  refine Wa.iast d_MM_eatAs_9 w_45 (s_45 hS (by decide)) hc1 ?_
  refine Wa.aload_n (j := 0) d_MM_eatAs_10 rfl ?_
  refine Wa.iload_n (j := 1) d_MM_eatAs_11 rfl ?_
  refine Wx.cVi (q := E_MM) (As := [.int x1]) 11 (d - 1) 0 0 _ d_MM_eatAs_12 mok_MM_eat vl_MM_133 rfl rfl rfl (Nat.le_of_ble_eq_true rfl) (by omega) (Nat.zero_le _) (Nat.zero_le _) (s_40 hS (by decide)) hF (fun y3 μ2 hS hF => ?_)
  exact Wx.retz d_MM_eatAs_15 rfl hF.1 hF.2
theorem e_MM_eatAs {d rc rs : Nat} {Q : Option Value → Mu → Prop} {μ : Mu} {x1 : Int32} {x2 : Int32} (hk : Wx K_MM_eatAs d rc rs (fun r μ' => St μ' ∧ Q r μ') 0 [(0, .ref (hd 40 0)), (1, .int x1), (2, .int x2)] [] μ) : Cal K_MM_eatAs d rc rs [.ref (hd 40 0), .int x1, .int x2] μ Q := Cal.of (by decide +kernel) rfl rfl (Nat.le_of_ble_eq_true rfl) rfl hk
set_option maxHeartbeats 4000000 in
set_option maxRecDepth 20000 in
theorem g_MM_put_0 {d rc rs : Nat} {Q : Option Value → Mu → Prop} {μ : Mu} {x1 : Int32} (hD : 1 ≤ d)  (hS : St μ)
    (hF : (vp_in (mI μ (hd 50 (px μ (hd 40 0) 12)) 16) 800 ∧ (∀ μ5 : Mu, μ5 = (setI (setI μ (hd 61 (px μ (hd 40 0) 12)) (mI μ (hd 50 (px μ (hd 40 0) 12)) 16).toNatClampNeg x1) (hd 50 (px μ (hd 40 0) 12)) 16 ((mI (setI μ (hd 61 (px μ (hd 40 0) 12)) (mI μ (hd 50 (px μ (hd 40 0) 12)) 16).toNatClampNeg x1) (hd 50 (px μ (hd 40 0) 12)) 16) + (1 : Int32))) → Q none μ5))) : Wx K_MM_put d rc rs Q 0 [(0, .ref (hd 40 0)), (1, .int x1)] [] μ := by
  refine Wa.aload_n (j := 0) d_MM_put_0 rfl ?_
  have hp1 := St.reading hS
  refine Wx.getR 11 12 d_MM_put_1 f_MM_12 rfl fl_MM_39 (s_40 hS (by decide)) (hp1.1) ?_
  refine Wx.getR 12 15 d_MM_put_4 f_MP_15 rfl fl_MM_136 (s_50 hp1.2) (r_50_15 hp1.2) ?_
  refine Wa.aload_n (j := 0) d_MM_put_7 rfl ?_
  have hp2 := St.reading hS
  refine Wx.getR 11 12 d_MM_put_8 f_MM_12 rfl fl_MM_39 (s_40 hS (by decide)) (hp2.1) ?_
  refine Wx.getI 12 16 d_MM_put_11 f_MP_16 fl_MM_139 w_50 (s_50 hp2.2) ?_
  refine Wa.iload_n (j := 1) d_MM_put_14 rfl ?_
  have hc3 := hF.1
  have hF := hF.2
  have hlhc3 := vp_in_lt hc3
  refine Wa.iast d_MM_put_15 w_61 (s_61 hp1.2) hc3 ?_
  refine Wa.aload_n (j := 0) d_MM_put_16 rfl ?_
  have hp4 := St.reading hS
  refine Wx.getR 11 12 d_MM_put_17 f_MM_12 rfl fl_MM_39 (s_40 hS (by decide)) (hp4.1) ?_
  refine Wa.dup d_MM_put_20 rfl ?_
  refine Wx.getI 12 16 d_MM_put_21 f_MP_16 fl_MM_139 w_50 (s_50 hp4.2) ?_
  refine Wa.iconst (v := 1) d_MM_put_24 rfl ?_
  refine Wa.iadd d_MM_put_25 ?_
  refine Wx.putI 12 16 d_MM_put_26 f_MP_16 ok_MP fl_MM_139 (Or.inl rfl) w_50 (s_50 hp4.2) ?_
  suffices hh : ∀ μ5 : Mu, μ5 = (setI (setI μ (hd 61 (px μ (hd 40 0) 12)) (mI μ (hd 50 (px μ (hd 40 0) 12)) 16).toNatClampNeg x1) (hd 50 (px μ (hd 40 0) 12)) 16 ((mI (setI μ (hd 61 (px μ (hd 40 0) 12)) (mI μ (hd 50 (px μ (hd 40 0) 12)) 16).toNatClampNeg x1) (hd 50 (px μ (hd 40 0) 12)) 16) + (1 : Int32))) → Wx K_MM_put d rc rs Q 29 [(0, .ref (hd 40 0)), (1, .int x1)] [] μ5 from hh _ rfl
  intro μ5 em
  have hF := hF μ5 em
  have hS : St μ5 := by rw [em]; exact hS
  exact Wx.retv d_MM_put_29 rfl hF
theorem e_MM_put {d rc rs : Nat} {Q : Option Value → Mu → Prop} {μ : Mu} {x1 : Int32} (hk : Wx K_MM_put d rc rs (fun r μ' => St μ' ∧ Q r μ') 0 [(0, .ref (hd 40 0)), (1, .int x1)] [] μ) : Cal K_MM_put d rc rs [.ref (hd 40 0), .int x1] μ Q := Cal.of (by decide +kernel) rfl rfl (Nat.le_of_ble_eq_true rfl) rfl hk
set_option maxHeartbeats 4000000 in
set_option maxRecDepth 20000 in
theorem g_MM_isPlan_0 {d rc rs : Nat} {Q : Option Value → Mu → Prop} {μ : Mu}  (hD : 1 ≤ d)  (hS : St μ)
    (hF : (Cal K_MM_is (d - 1) 0 0 [.ref (hd 40 0), .int 900] μ (fun r μ1 => ∃ y2, r = some (.int y2) ∧ ((y2 = 0 → (Cal K_MM_is (d - 1) 0 0 [.ref (hd 40 0), .int 0] μ1 (fun r μ3 => ∃ y4, r = some (.int y4) ∧ ((y4 = 0 → (Cal K_MM_is (d - 1) 0 0 [.ref (hd 40 0), .int 5] μ3 (fun r μ5 => ∃ y6, r = some (.int y6) ∧ ((y6 = 0 → (Cal K_MM_is (d - 1) 0 0 [.ref (hd 40 0), .int 1] μ5 (fun r μ7 => ∃ y8, r = some (.int y8) ∧ ((y8 = 0 → (Cal K_MM_isOrderLine (d - 1) 0 0 [.ref (hd 40 0)] μ7 (fun r μ9 => ∃ y10, r = some (.int y10) ∧ ((y10 = 0 → Q (some (.int 0)) μ9) ∧ (¬ y10 = 0 → (Cal K_MM_eatSign (d - 1) 0 0 [.ref (hd 40 0), .int 59] μ9 (fun r μ11 => ∃ y12, r = some (.int y12) ∧ ((y12 = 0 → Q (some (.int 0)) μ11) ∧ (¬ y12 = 0 → Wx K_MM_isPlan d rc rs Q 0 [(0, .ref (hd 40 0))] [] μ11))))))))) ∧ (¬ y8 = 0 → (Cal K_MM_isRoadLine (d - 1) 0 0 [.ref (hd 40 0)] μ7 (fun r μ13 => ∃ y14, r = some (.int y14) ∧ ((y14 = 0 → Q (some (.int 0)) μ13) ∧ (¬ y14 = 0 → (Cal K_MM_eatSign (d - 1) 0 0 [.ref (hd 40 0), .int 59] μ13 (fun r μ15 => ∃ y16, r = some (.int y16) ∧ ((y16 = 0 → Q (some (.int 0)) μ15) ∧ (¬ y16 = 0 → Wx K_MM_isPlan d rc rs Q 0 [(0, .ref (hd 40 0))] [] μ15))))))))))))) ∧ (¬ y6 = 0 → (Cal K_MM_isNew (d - 1) 0 0 [.ref (hd 40 0), .int 2] μ5 (fun r μ17 => ∃ y18, r = some (.int y18) ∧ ((y18 = 0 → Q (some (.int 0)) μ17) ∧ (¬ y18 = 0 → (Cal K_MM_eatSign (d - 1) 0 0 [.ref (hd 40 0), .int 59] μ17 (fun r μ19 => ∃ y20, r = some (.int y20) ∧ ((y20 = 0 → Q (some (.int 0)) μ19) ∧ (¬ y20 = 0 → Wx K_MM_isPlan d rc rs Q 0 [(0, .ref (hd 40 0))] [] μ19))))))))))))) ∧ (¬ y4 = 0 → (Cal K_MM_isNew (d - 1) 0 0 [.ref (hd 40 0), .int 1] μ3 (fun r μ21 => ∃ y22, r = some (.int y22) ∧ ((y22 = 0 → Q (some (.int 0)) μ21) ∧ (¬ y22 = 0 → (Cal K_MM_eatSign (d - 1) 0 0 [.ref (hd 40 0), .int 59] μ21 (fun r μ23 => ∃ y24, r = some (.int y24) ∧ ((y24 = 0 → Q (some (.int 0)) μ23) ∧ (¬ y24 = 0 → Wx K_MM_isPlan d rc rs Q 0 [(0, .ref (hd 40 0))] [] μ23))))))))))))) ∧ (¬ y2 = 0 → Q (some (.int 1)) μ1))))) : Wx K_MM_isPlan d rc rs Q 0 [(0, .ref (hd 40 0))] [] μ := by
  refine Wa.aload_n (j := 0) d_MM_isPlan_0 rfl ?_
  refine Wa.sipush (v := 900) d_MM_isPlan_1 rfl ?_
  refine Wx.cVi (q := E_MM) (As := [.int 900]) 11 (d - 1) 0 0 _ d_MM_isPlan_4 mok_MM_is vl_MM_130 rfl rfl rfl (Nat.le_of_ble_eq_true rfl) (by omega) (Nat.zero_le _) (Nat.zero_le _) (s_40 hS (by decide)) hF (fun y2 μ1 hS hF => ?_)
  refine Wa.if_ne 80 d_MM_isPlan_7 (by decide) (fun hb => ?_) (fun hb => ?_)
  · have hF := hF.2 hb
    refine Wa.iconst (v := 1) d_MM_isPlan_80 rfl ?_
    exact Wx.retz d_MM_isPlan_81 rfl (Or.inr rfl) hF
  · have hF := hF.1 hb
    refine Wa.aload_n (j := 0) d_MM_isPlan_10 rfl ?_
    refine Wa.iconst (v := 0) d_MM_isPlan_11 rfl ?_
    refine Wx.cVi (q := E_MM) (As := [.int 0]) 11 (d - 1) 0 0 _ d_MM_isPlan_12 mok_MM_is vl_MM_130 rfl rfl rfl (Nat.le_of_ble_eq_true rfl) (by omega) (Nat.zero_le _) (Nat.zero_le _) (s_40 hS (by decide)) hF (fun y4 μ3 hS hF => ?_)
    refine Wa.if_eq 26 d_MM_isPlan_15 (by decide) (fun hb => ?_) (fun hb => ?_)
    · have hF := hF.1 hb
      refine Wa.aload_n (j := 0) d_MM_isPlan_26 rfl ?_
      refine Wa.iconst (v := 5) d_MM_isPlan_27 rfl ?_
      refine Wx.cVi (q := E_MM) (As := [.int 5]) 11 (d - 1) 0 0 _ d_MM_isPlan_28 mok_MM_is vl_MM_130 rfl rfl rfl (Nat.le_of_ble_eq_true rfl) (by omega) (Nat.zero_le _) (Nat.zero_le _) (s_40 hS (by decide)) hF (fun y6 μ5 hS hF => ?_)
      refine Wa.if_eq 42 d_MM_isPlan_31 (by decide) (fun hb => ?_) (fun hb => ?_)
      · have hF := hF.1 hb
        refine Wa.aload_n (j := 0) d_MM_isPlan_42 rfl ?_
        refine Wa.iconst (v := 1) d_MM_isPlan_43 rfl ?_
        refine Wx.cVi (q := E_MM) (As := [.int 1]) 11 (d - 1) 0 0 _ d_MM_isPlan_44 mok_MM_is vl_MM_130 rfl rfl rfl (Nat.le_of_ble_eq_true rfl) (by omega) (Nat.zero_le _) (Nat.zero_le _) (s_40 hS (by decide)) hF (fun y8 μ7 hS hF => ?_)
        refine Wa.if_eq 57 d_MM_isPlan_47 (by decide) (fun hb => ?_) (fun hb => ?_)
        · have hF := hF.1 hb
          refine Wa.aload_n (j := 0) d_MM_isPlan_57 rfl ?_
          refine Wx.cVi (q := E_MM) (As := []) 11 (d - 1) 0 0 _ d_MM_isPlan_58 mok_MM_isOrderLine vl_MM_147 rfl rfl rfl (Nat.le_of_ble_eq_true rfl) (by omega) (Nat.zero_le _) (Nat.zero_le _) (s_40 hS (by decide)) hF (fun y10 μ9 hS hF => ?_)
          refine Wa.istore_n (i := 1) (L' := [(1, .int y10), (0, .ref (hd 40 0))]) d_MM_isPlan_61 rfl (by decide) rfl ?_
          refine Wa.iload_n (j := 0) d_MM_isPlan_62 rfl ?_
          refine Wa.if_eq 75 d_MM_isPlan_63 (by decide) (fun hb => ?_) (fun hb => ?_)
          · have hF := hF.1 hb
            refine Wa.iconst (v := 0) d_MM_isPlan_75 rfl ?_
            exact Wx.retz d_MM_isPlan_76 rfl (Or.inl rfl) hF
          · have hF := hF.2 hb
            refine Wa.aload_n (j := 1) d_MM_isPlan_66 rfl ?_
            refine Wa.bipush (v := 59) d_MM_isPlan_67 rfl ?_
            refine Wx.cVi (q := E_MM) (As := [.int 59]) 11 (d - 1) 0 0 _ d_MM_isPlan_69 mok_MM_eatSign vl_MM_150 rfl rfl rfl (Nat.le_of_ble_eq_true rfl) (by omega) (Nat.zero_le _) (Nat.zero_le _) (s_40 hS (by decide)) hF (fun y12 μ11 hS hF => ?_)
            refine Wa.if_ne 77 d_MM_isPlan_72 (by decide) (fun hb => ?_) (fun hb => ?_)
            · have hF := hF.2 hb
              refine Wa.goto 0 d_MM_isPlan_77 (by decide) ?_
              exact Wa.loc [1] rfl hF
            · have hF := hF.1 hb
              refine Wa.iconst (v := 0) d_MM_isPlan_75 rfl ?_
              exact Wx.retz d_MM_isPlan_76 rfl (Or.inl rfl) hF
        · have hF := hF.2 hb
          refine Wa.aload_n (j := 0) d_MM_isPlan_50 rfl ?_
          refine Wx.cVi (q := E_MM) (As := []) 11 (d - 1) 0 0 _ d_MM_isPlan_51 mok_MM_isRoadLine vl_MM_143 rfl rfl rfl (Nat.le_of_ble_eq_true rfl) (by omega) (Nat.zero_le _) (Nat.zero_le _) (s_40 hS (by decide)) hF (fun y14 μ13 hS hF => ?_)
          refine Wa.goto 61 d_MM_isPlan_54 (by decide) ?_
          refine Wa.istore_n (i := 1) (L' := [(1, .int y14), (0, .ref (hd 40 0))]) d_MM_isPlan_61 rfl (by decide) rfl ?_
          refine Wa.iload_n (j := 0) d_MM_isPlan_62 rfl ?_
          refine Wa.if_eq 75 d_MM_isPlan_63 (by decide) (fun hb => ?_) (fun hb => ?_)
          · have hF := hF.1 hb
            refine Wa.iconst (v := 0) d_MM_isPlan_75 rfl ?_
            exact Wx.retz d_MM_isPlan_76 rfl (Or.inl rfl) hF
          · have hF := hF.2 hb
            refine Wa.aload_n (j := 1) d_MM_isPlan_66 rfl ?_
            refine Wa.bipush (v := 59) d_MM_isPlan_67 rfl ?_
            refine Wx.cVi (q := E_MM) (As := [.int 59]) 11 (d - 1) 0 0 _ d_MM_isPlan_69 mok_MM_eatSign vl_MM_150 rfl rfl rfl (Nat.le_of_ble_eq_true rfl) (by omega) (Nat.zero_le _) (Nat.zero_le _) (s_40 hS (by decide)) hF (fun y16 μ15 hS hF => ?_)
            refine Wa.if_ne 77 d_MM_isPlan_72 (by decide) (fun hb => ?_) (fun hb => ?_)
            · have hF := hF.2 hb
              refine Wa.goto 0 d_MM_isPlan_77 (by decide) ?_
              exact Wa.loc [1] rfl hF
            · have hF := hF.1 hb
              refine Wa.iconst (v := 0) d_MM_isPlan_75 rfl ?_
              exact Wx.retz d_MM_isPlan_76 rfl (Or.inl rfl) hF
      · have hF := hF.2 hb
        refine Wa.aload_n (j := 0) d_MM_isPlan_34 rfl ?_
        refine Wa.iconst (v := 2) d_MM_isPlan_35 rfl ?_
        refine Wx.cVi (q := E_MM) (As := [.int 2]) 11 (d - 1) 0 0 _ d_MM_isPlan_36 mok_MM_isNew vl_MM_140 rfl rfl rfl (Nat.le_of_ble_eq_true rfl) (by omega) (Nat.zero_le _) (Nat.zero_le _) (s_40 hS (by decide)) hF (fun y18 μ17 hS hF => ?_)
        refine Wa.goto 61 d_MM_isPlan_39 (by decide) ?_
        refine Wa.istore_n (i := 1) (L' := [(1, .int y18), (0, .ref (hd 40 0))]) d_MM_isPlan_61 rfl (by decide) rfl ?_
        refine Wa.iload_n (j := 0) d_MM_isPlan_62 rfl ?_
        refine Wa.if_eq 75 d_MM_isPlan_63 (by decide) (fun hb => ?_) (fun hb => ?_)
        · have hF := hF.1 hb
          refine Wa.iconst (v := 0) d_MM_isPlan_75 rfl ?_
          exact Wx.retz d_MM_isPlan_76 rfl (Or.inl rfl) hF
        · have hF := hF.2 hb
          refine Wa.aload_n (j := 1) d_MM_isPlan_66 rfl ?_
          refine Wa.bipush (v := 59) d_MM_isPlan_67 rfl ?_
          refine Wx.cVi (q := E_MM) (As := [.int 59]) 11 (d - 1) 0 0 _ d_MM_isPlan_69 mok_MM_eatSign vl_MM_150 rfl rfl rfl (Nat.le_of_ble_eq_true rfl) (by omega) (Nat.zero_le _) (Nat.zero_le _) (s_40 hS (by decide)) hF (fun y20 μ19 hS hF => ?_)
          refine Wa.if_ne 77 d_MM_isPlan_72 (by decide) (fun hb => ?_) (fun hb => ?_)
          · have hF := hF.2 hb
            refine Wa.goto 0 d_MM_isPlan_77 (by decide) ?_
            exact Wa.loc [1] rfl hF
          · have hF := hF.1 hb
            refine Wa.iconst (v := 0) d_MM_isPlan_75 rfl ?_
            exact Wx.retz d_MM_isPlan_76 rfl (Or.inl rfl) hF
    · have hF := hF.2 hb
      refine Wa.aload_n (j := 0) d_MM_isPlan_18 rfl ?_
      refine Wa.iconst (v := 1) d_MM_isPlan_19 rfl ?_
      refine Wx.cVi (q := E_MM) (As := [.int 1]) 11 (d - 1) 0 0 _ d_MM_isPlan_20 mok_MM_isNew vl_MM_140 rfl rfl rfl (Nat.le_of_ble_eq_true rfl) (by omega) (Nat.zero_le _) (Nat.zero_le _) (s_40 hS (by decide)) hF (fun y22 μ21 hS hF => ?_)
      refine Wa.goto 61 d_MM_isPlan_23 (by decide) ?_
      refine Wa.istore_n (i := 1) (L' := [(1, .int y22), (0, .ref (hd 40 0))]) d_MM_isPlan_61 rfl (by decide) rfl ?_
      refine Wa.iload_n (j := 0) d_MM_isPlan_62 rfl ?_
      refine Wa.if_eq 75 d_MM_isPlan_63 (by decide) (fun hb => ?_) (fun hb => ?_)
      · have hF := hF.1 hb
        refine Wa.iconst (v := 0) d_MM_isPlan_75 rfl ?_
        exact Wx.retz d_MM_isPlan_76 rfl (Or.inl rfl) hF
      · have hF := hF.2 hb
        refine Wa.aload_n (j := 1) d_MM_isPlan_66 rfl ?_
        refine Wa.bipush (v := 59) d_MM_isPlan_67 rfl ?_
        refine Wx.cVi (q := E_MM) (As := [.int 59]) 11 (d - 1) 0 0 _ d_MM_isPlan_69 mok_MM_eatSign vl_MM_150 rfl rfl rfl (Nat.le_of_ble_eq_true rfl) (by omega) (Nat.zero_le _) (Nat.zero_le _) (s_40 hS (by decide)) hF (fun y24 μ23 hS hF => ?_)
        refine Wa.if_ne 77 d_MM_isPlan_72 (by decide) (fun hb => ?_) (fun hb => ?_)
        · have hF := hF.2 hb
          refine Wa.goto 0 d_MM_isPlan_77 (by decide) ?_
          exact Wa.loc [1] rfl hF
        · have hF := hF.1 hb
          refine Wa.iconst (v := 0) d_MM_isPlan_75 rfl ?_
          exact Wx.retz d_MM_isPlan_76 rfl (Or.inl rfl) hF
theorem e_MM_isPlan {d rc rs : Nat} {Q : Option Value → Mu → Prop} {μ : Mu}  (hk : Wx K_MM_isPlan d rc rs (fun r μ' => St μ' ∧ Q r μ') 0 [(0, .ref (hd 40 0))] [] μ) : Cal K_MM_isPlan d rc rs [.ref (hd 40 0)] μ Q := Cal.of (by decide +kernel) rfl rfl (Nat.le_of_ble_eq_true rfl) rfl hk
set_option maxHeartbeats 4000000 in
set_option maxRecDepth 20000 in
theorem g_MM_isNew_0 {d rc rs : Nat} {Q : Option Value → Mu → Prop} {μ : Mu} {x1 : Int32} (hD : 1 ≤ d)  (hS : St μ)
    (hF : (Cal K_MM_eatAs (d - 1) 0 0 [.ref (hd 40 0), .int 40, .int x1] (setI μ (hd 40 0) 9 ((mI μ (hd 40 0) 9) + (1 : Int32))) (fun r μ1 => ∃ y2, r = some (.int y2) ∧ ((y2 = 0 ∨ y2 = 1) ∧ Q (some (.int y2)) μ1)))) : Wx K_MM_isNew d rc rs Q 0 [(0, .ref (hd 40 0)), (1, .int x1)] [] μ := by
  refine Wa.aload_n (j := 0) d_MM_isNew_0 rfl ?_
  refine Wa.dup d_MM_isNew_1 rfl ?_
  refine Wx.getI 11 9 d_MM_isNew_2 f_MM_9 fl_MM_127 w_40 (s_40 hS (by decide)) ?_
  refine Wa.iconst (v := 1) d_MM_isNew_5 rfl ?_
  refine Wa.iadd d_MM_isNew_6 ?_
  refine Wx.putI 11 9 d_MM_isNew_7 f_MM_9 ok_MM fl_MM_127 (Or.inl rfl) w_40 (s_40 hS (by decide)) ?_
  refine Wa.aload_n (j := 0) d_MM_isNew_10 rfl ?_
  refine Wa.bipush (v := 40) d_MM_isNew_11 rfl ?_
  refine Wa.iload_n (j := 1) d_MM_isNew_13 rfl ?_
  refine Wx.cVi (q := E_MM) (As := [.int 40, .int x1]) 11 (d - 1) 0 0 _ d_MM_isNew_14 mok_MM_eatAs vl_MM_154 rfl rfl rfl (Nat.le_of_ble_eq_true rfl) (by omega) (Nat.zero_le _) (Nat.zero_le _) (s_40 hS (by decide)) hF (fun y2 μ1 hS hF => ?_)
  exact Wx.retz d_MM_isNew_17 rfl hF.1 hF.2
theorem e_MM_isNew {d rc rs : Nat} {Q : Option Value → Mu → Prop} {μ : Mu} {x1 : Int32} (hk : Wx K_MM_isNew d rc rs (fun r μ' => St μ' ∧ Q r μ') 0 [(0, .ref (hd 40 0)), (1, .int x1)] [] μ) : Cal K_MM_isNew d rc rs [.ref (hd 40 0), .int x1] μ Q := Cal.of (by decide +kernel) rfl rfl (Nat.le_of_ble_eq_true rfl) rfl hk
set_option maxHeartbeats 4000000 in
set_option maxRecDepth 20000 in
theorem g_MM_isRoadLine_0 {d rc rs : Nat} {Q : Option Value → Mu → Prop} {μ : Mu}  (hD : 1 ≤ d)  (hS : St μ)
    (hF : (Cal K_MM_isNew (d - 1) 0 0 [.ref (hd 40 0), .int 3] μ (fun r μ1 => ∃ y2, r = some (.int y2) ∧ ((y2 = 0 → Q (some (.int 0)) μ1) ∧ (¬ y2 = 0 → (Cal K_MM_eat (d - 1) 0 0 [.ref (hd 40 0), .int 2] μ1 (fun r μ3 => ∃ y4, r = some (.int y4) ∧ ((y4 = 0 → Q (some (.int 0)) μ3) ∧ (¬ y4 = 0 → (Cal K_MM_eatAs (d - 1) 0 0 [.ref (hd 40 0), .int 40, .int 4] μ3 (fun r μ5 => ∃ y6, r = some (.int y6) ∧ ((y6 = 0 → Q (some (.int 0)) μ5) ∧ (¬ y6 = 0 → (Cal K_MM_eat (d - 1) 0 0 [.ref (hd 40 0), .int 3] μ5 (fun r μ7 => ∃ y8, r = some (.int y8) ∧ ((y8 = 0 → Q (some (.int 0)) μ7) ∧ (¬ y8 = 0 → (Cal K_MM_eatAs (d - 1) 0 0 [.ref (hd 40 0), .int 40, .int 5] μ7 (fun r μ9 => ∃ y10, r = some (.int y10) ∧ ((y10 = 0 → Q (some (.int 0)) μ9) ∧ (¬ y10 = 0 → (Cal K_MM_eat (d - 1) 0 0 [.ref (hd 40 0), .int 4] μ9 (fun r μ11 => ∃ y12, r = some (.int y12) ∧ ((y12 = 0 → Q (some (.int 0)) μ11) ∧ (¬ y12 = 0 → (Cal K_MM_eatAs (d - 1) 0 0 [.ref (hd 40 0), .int 41, .int 6] μ11 (fun r μ13 => ∃ y14, r = some (.int y14) ∧ ((y14 = 0 → Q (some (.int 0)) μ13) ∧ (¬ y14 = 0 → Q (some (.int 1)) μ13))))))))))))))))))))))))))))) : Wx K_MM_isRoadLine d rc rs Q 0 [(0, .ref (hd 40 0))] [] μ := by
  refine Wa.aload_n (j := 0) d_MM_isRoadLine_0 rfl ?_
  refine Wa.iconst (v := 3) d_MM_isRoadLine_1 rfl ?_
  refine Wx.cVi (q := E_MM) (As := [.int 3]) 11 (d - 1) 0 0 _ d_MM_isRoadLine_2 mok_MM_isNew vl_MM_140 rfl rfl rfl (Nat.le_of_ble_eq_true rfl) (by omega) (Nat.zero_le _) (Nat.zero_le _) (s_40 hS (by decide)) hF (fun y2 μ1 hS hF => ?_)
  refine Wa.if_eq 67 d_MM_isRoadLine_5 (by decide) (fun hb => ?_) (fun hb => ?_)
  · have hF := hF.1 hb
    refine Wa.iconst (v := 0) d_MM_isRoadLine_67 rfl ?_
    exact Wx.retz d_MM_isRoadLine_68 rfl (Or.inl rfl) hF
  · have hF := hF.2 hb
    refine Wa.aload_n (j := 0) d_MM_isRoadLine_8 rfl ?_
    refine Wa.iconst (v := 2) d_MM_isRoadLine_9 rfl ?_
    refine Wx.cVi (q := E_MM) (As := [.int 2]) 11 (d - 1) 0 0 _ d_MM_isRoadLine_10 mok_MM_eat vl_MM_133 rfl rfl rfl (Nat.le_of_ble_eq_true rfl) (by omega) (Nat.zero_le _) (Nat.zero_le _) (s_40 hS (by decide)) hF (fun y4 μ3 hS hF => ?_)
    refine Wa.if_eq 67 d_MM_isRoadLine_13 (by decide) (fun hb => ?_) (fun hb => ?_)
    · have hF := hF.1 hb
      refine Wa.iconst (v := 0) d_MM_isRoadLine_67 rfl ?_
      exact Wx.retz d_MM_isRoadLine_68 rfl (Or.inl rfl) hF
    · have hF := hF.2 hb
      refine Wa.aload_n (j := 0) d_MM_isRoadLine_16 rfl ?_
      refine Wa.bipush (v := 40) d_MM_isRoadLine_17 rfl ?_
      refine Wa.iconst (v := 4) d_MM_isRoadLine_19 rfl ?_
      refine Wx.cVi (q := E_MM) (As := [.int 40, .int 4]) 11 (d - 1) 0 0 _ d_MM_isRoadLine_20 mok_MM_eatAs vl_MM_154 rfl rfl rfl (Nat.le_of_ble_eq_true rfl) (by omega) (Nat.zero_le _) (Nat.zero_le _) (s_40 hS (by decide)) hF (fun y6 μ5 hS hF => ?_)
      refine Wa.if_eq 67 d_MM_isRoadLine_23 (by decide) (fun hb => ?_) (fun hb => ?_)
      · have hF := hF.1 hb
        refine Wa.iconst (v := 0) d_MM_isRoadLine_67 rfl ?_
        exact Wx.retz d_MM_isRoadLine_68 rfl (Or.inl rfl) hF
      · have hF := hF.2 hb
        refine Wa.aload_n (j := 0) d_MM_isRoadLine_26 rfl ?_
        refine Wa.iconst (v := 3) d_MM_isRoadLine_27 rfl ?_
        refine Wx.cVi (q := E_MM) (As := [.int 3]) 11 (d - 1) 0 0 _ d_MM_isRoadLine_28 mok_MM_eat vl_MM_133 rfl rfl rfl (Nat.le_of_ble_eq_true rfl) (by omega) (Nat.zero_le _) (Nat.zero_le _) (s_40 hS (by decide)) hF (fun y8 μ7 hS hF => ?_)
        refine Wa.if_eq 67 d_MM_isRoadLine_31 (by decide) (fun hb => ?_) (fun hb => ?_)
        · have hF := hF.1 hb
          refine Wa.iconst (v := 0) d_MM_isRoadLine_67 rfl ?_
          exact Wx.retz d_MM_isRoadLine_68 rfl (Or.inl rfl) hF
        · have hF := hF.2 hb
          refine Wa.aload_n (j := 0) d_MM_isRoadLine_34 rfl ?_
          refine Wa.bipush (v := 40) d_MM_isRoadLine_35 rfl ?_
          refine Wa.iconst (v := 5) d_MM_isRoadLine_37 rfl ?_
          refine Wx.cVi (q := E_MM) (As := [.int 40, .int 5]) 11 (d - 1) 0 0 _ d_MM_isRoadLine_38 mok_MM_eatAs vl_MM_154 rfl rfl rfl (Nat.le_of_ble_eq_true rfl) (by omega) (Nat.zero_le _) (Nat.zero_le _) (s_40 hS (by decide)) hF (fun y10 μ9 hS hF => ?_)
          refine Wa.if_eq 67 d_MM_isRoadLine_41 (by decide) (fun hb => ?_) (fun hb => ?_)
          · have hF := hF.1 hb
            refine Wa.iconst (v := 0) d_MM_isRoadLine_67 rfl ?_
            exact Wx.retz d_MM_isRoadLine_68 rfl (Or.inl rfl) hF
          · have hF := hF.2 hb
            refine Wa.aload_n (j := 0) d_MM_isRoadLine_44 rfl ?_
            refine Wa.iconst (v := 4) d_MM_isRoadLine_45 rfl ?_
            refine Wx.cVi (q := E_MM) (As := [.int 4]) 11 (d - 1) 0 0 _ d_MM_isRoadLine_46 mok_MM_eat vl_MM_133 rfl rfl rfl (Nat.le_of_ble_eq_true rfl) (by omega) (Nat.zero_le _) (Nat.zero_le _) (s_40 hS (by decide)) hF (fun y12 μ11 hS hF => ?_)
            refine Wa.if_eq 67 d_MM_isRoadLine_49 (by decide) (fun hb => ?_) (fun hb => ?_)
            · have hF := hF.1 hb
              refine Wa.iconst (v := 0) d_MM_isRoadLine_67 rfl ?_
              exact Wx.retz d_MM_isRoadLine_68 rfl (Or.inl rfl) hF
            · have hF := hF.2 hb
              refine Wa.aload_n (j := 0) d_MM_isRoadLine_52 rfl ?_
              refine Wa.bipush (v := 41) d_MM_isRoadLine_53 rfl ?_
              refine Wa.bipush (v := 6) d_MM_isRoadLine_55 rfl ?_
              refine Wx.cVi (q := E_MM) (As := [.int 41, .int 6]) 11 (d - 1) 0 0 _ d_MM_isRoadLine_57 mok_MM_eatAs vl_MM_154 rfl rfl rfl (Nat.le_of_ble_eq_true rfl) (by omega) (Nat.zero_le _) (Nat.zero_le _) (s_40 hS (by decide)) hF (fun y14 μ13 hS hF => ?_)
              refine Wa.if_eq 67 d_MM_isRoadLine_60 (by decide) (fun hb => ?_) (fun hb => ?_)
              · have hF := hF.1 hb
                refine Wa.iconst (v := 0) d_MM_isRoadLine_67 rfl ?_
                exact Wx.retz d_MM_isRoadLine_68 rfl (Or.inl rfl) hF
              · have hF := hF.2 hb
                refine Wa.iconst (v := 1) d_MM_isRoadLine_63 rfl ?_
                refine Wa.goto 68 d_MM_isRoadLine_64 (by decide) ?_
                exact Wx.retz d_MM_isRoadLine_68 rfl (Or.inr rfl) hF
theorem e_MM_isRoadLine {d rc rs : Nat} {Q : Option Value → Mu → Prop} {μ : Mu}  (hk : Wx K_MM_isRoadLine d rc rs (fun r μ' => St μ' ∧ Q r μ') 0 [(0, .ref (hd 40 0))] [] μ) : Cal K_MM_isRoadLine d rc rs [.ref (hd 40 0)] μ Q := Cal.of (by decide +kernel) rfl rfl (Nat.le_of_ble_eq_true rfl) rfl hk
set_option maxHeartbeats 4000000 in
set_option maxRecDepth 20000 in
theorem g_MM_isOrderLine_0 {d rc rs : Nat} {Q : Option Value → Mu → Prop} {μ : Mu}  (hD : 1 ≤ d)  (hS : St μ)
    (hF : (vp_in (mI μ (hd 40 0) 9) 401 ∧ (Cal K_MM_isIn (d - 1) 0 0 [.int (mI μ (hd 42 0) (mI μ (hd 40 0) 9).toNatClampNeg), .int 6, .int 9] μ (fun r μ2 => ∃ y3, r = some (.int y3) ∧ ((y3 = 0 → Q (some (.int 0)) μ2) ∧ (¬ y3 = 0 → (vp_in (mI μ2 (hd 40 0) 9) 401 ∧ (∀ μ7 : Mu, μ7 = (setI (setI (setI μ2 (hd 45 0) (mI μ2 (hd 40 0) 9).toNatClampNeg 7) (hd 40 0) 9 ((mI (setI μ2 (hd 45 0) (mI μ2 (hd 40 0) 9).toNatClampNeg 7) (hd 40 0) 9) + (1 : Int32))) (hd 50 (px μ2 (hd 40 0) 12)) 7 ((mI (setI (setI μ2 (hd 45 0) (mI μ2 (hd 40 0) 9).toNatClampNeg 7) (hd 40 0) 9 ((mI (setI μ2 (hd 45 0) (mI μ2 (hd 40 0) 9).toNatClampNeg 7) (hd 40 0) 9) + (1 : Int32))) (hd 50 (px μ2 (hd 40 0) 12)) 7) + (1 : Int32))) → (((mI μ (hd 42 0) (mI μ (hd 40 0) 9).toNatClampNeg) = 9 → (Cal K_MM_eatAs (d - 1) 0 0 [.ref (hd 40 0), .int 40, .int 10] μ7 (fun r μ12 => ∃ y13, r = some (.int y13) ∧ ((y13 = 0 → Wx K_MM_isOrderLine d rc rs Q 112 [] [] μ12) ∧ (¬ y13 = 0 → Wx K_MM_isOrderLine d rc rs Q 114 [(0, .ref (hd 40 0)), (1, .int (mI μ (hd 42 0) (mI μ (hd 40 0) 9).toNatClampNeg)), (2, .int (imin (mI (setI (setI μ2 (hd 45 0) (mI μ2 (hd 40 0) 9).toNatClampNeg 7) (hd 40 0) 9 ((mI (setI μ2 (hd 45 0) (mI μ2 (hd 40 0) 9).toNatClampNeg 7) (hd 40 0) 9) + (1 : Int32))) (hd 50 (px μ2 (hd 40 0) 12)) 7) 20))] [] μ12))))) ∧ (¬ (mI μ (hd 42 0) (mI μ (hd 40 0) 9).toNatClampNeg) = 9 → (Cal K_MM_eatAs (d - 1) 0 0 [.ref (hd 40 0), .int 40, .int 8] μ7 (fun r μ8 => ∃ y9, r = some (.int y9) ∧ ((y9 = 0 → Wx K_MM_isOrderLine d rc rs Q 112 [] [] μ8) ∧ (¬ y9 = 0 → (Cal K_MM_eatAs (d - 1) 0 0 [.ref (hd 40 0), .int 40, .int 9] μ8 (fun r μ10 => ∃ y11, r = some (.int y11) ∧ ((y11 = 0 → Wx K_MM_isOrderLine d rc rs Q 112 [] [] μ10) ∧ (¬ y11 = 0 → Wx K_MM_isOrderLine d rc rs Q 114 [(0, .ref (hd 40 0)), (1, .int (mI μ (hd 42 0) (mI μ (hd 40 0) 9).toNatClampNeg)), (2, .int (imin (mI (setI (setI μ2 (hd 45 0) (mI μ2 (hd 40 0) 9).toNatClampNeg 7) (hd 40 0) 9 ((mI (setI μ2 (hd 45 0) (mI μ2 (hd 40 0) 9).toNatClampNeg 7) (hd 40 0) 9) + (1 : Int32))) (hd 50 (px μ2 (hd 40 0) 12)) 7) 20))] [] μ10)))))))))))))))))) : Wx K_MM_isOrderLine d rc rs Q 0 [(0, .ref (hd 40 0))] [] μ := by
  refine Wa.aload_n (j := 0) d_MM_isOrderLine_0 rfl ?_
  refine Wx.getR 11 4 d_MM_isOrderLine_1 f_MM_4 rfl fl_MM_17 (s_40 hS (by decide)) (r_40_4 hS (by decide)) ?_
  refine Wa.aload_n (j := 0) d_MM_isOrderLine_4 rfl ?_
  refine Wx.getI 11 9 d_MM_isOrderLine_5 f_MM_9 fl_MM_127 w_40 (s_40 hS (by decide)) ?_
  have hc1 := hF.1
  have hF := hF.2
  have hlhc1 := vp_in_lt hc1
  refine Wx.iald d_MM_isOrderLine_8 w_42 (s_42 hS (by decide)) hc1 ?_
  refine Wa.istore_n (i := 1) (L' := [(1, .int (mI μ (hd 42 0) (mI μ (hd 40 0) 9).toNatClampNeg)), (0, .ref (hd 40 0))]) d_MM_isOrderLine_9 rfl (by decide) rfl ?_
  refine Wa.iload_n (j := 0) d_MM_isOrderLine_10 rfl ?_
  refine Wa.bipush (v := 6) d_MM_isOrderLine_11 rfl ?_
  refine Wa.bipush (v := 9) d_MM_isOrderLine_13 rfl ?_
  refine Wx.cSi (As := [.int (mI μ (hd 42 0) (mI μ (hd 40 0) 9).toNatClampNeg), .int 6, .int 9]) (d - 1) 0 0 _ d_MM_isOrderLine_15 mok_MM_isIn sl_MM_63 rfl rfl (Nat.le_of_ble_eq_true rfl) (by omega) (Nat.zero_le _) (Nat.zero_le _) hF (fun y3 μ2 hS hF => ?_)
  refine Wa.if_ne 23 d_MM_isOrderLine_18 (by decide) (fun hb => ?_) (fun hb => ?_)
  · have hF := hF.2 hb
    refine Wa.aload_n (j := 1) d_MM_isOrderLine_23 rfl ?_
    refine Wx.getR 11 7 d_MM_isOrderLine_24 f_MM_7 rfl fl_MM_26 (s_40 hS (by decide)) (r_40_7 hS (by decide)) ?_
    refine Wa.aload_n (j := 1) d_MM_isOrderLine_27 rfl ?_
    refine Wx.getI 11 9 d_MM_isOrderLine_28 f_MM_9 fl_MM_127 w_40 (s_40 hS (by decide)) ?_
    refine Wa.bipush (v := 7) d_MM_isOrderLine_31 rfl ?_
    have hc4 := hF.1
    have hF := hF.2
    have hlhc4 := vp_in_lt hc4
    refine Wa.iast d_MM_isOrderLine_33 w_45 (s_45 hS (by decide)) hc4 ?_
    refine Wa.aload_n (j := 1) d_MM_isOrderLine_34 rfl ?_
    refine Wa.dup d_MM_isOrderLine_35 rfl ?_
    refine Wx.getI 11 9 d_MM_isOrderLine_36 f_MM_9 fl_MM_127 w_40 (s_40 hS (by decide)) ?_
    refine Wa.iconst (v := 1) d_MM_isOrderLine_39 rfl ?_
    refine Wa.iadd d_MM_isOrderLine_40 ?_
    refine Wx.putI 11 9 d_MM_isOrderLine_41 f_MM_9 ok_MM fl_MM_127 (Or.inl rfl) w_40 (s_40 hS (by decide)) ?_
    refine Wa.aload_n (j := 1) d_MM_isOrderLine_44 rfl ?_
    have hp5 := St.reading hS
    refine Wx.getR 11 12 d_MM_isOrderLine_45 f_MM_12 rfl fl_MM_39 (s_40 hS (by decide)) (hp5.1) ?_
    refine Wx.getI 12 7 d_MM_isOrderLine_48 f_MP_7 fl_MM_158 w_50 (s_50 hp5.2) ?_
    refine Wa.bipush (v := 20) d_MM_isOrderLine_51 rfl ?_
    refine Wx.mmin d_MM_isOrderLine_53 mm_MM_80 (Nat.le_of_ble_eq_true rfl) hD ?_
    refine Wa.istore_n (i := 2) (L' := [(2, .int (imin (mI (setI (setI μ2 (hd 45 0) (mI μ2 (hd 40 0) 9).toNatClampNeg 7) (hd 40 0) 9 ((mI (setI μ2 (hd 45 0) (mI μ2 (hd 40 0) 9).toNatClampNeg 7) (hd 40 0) 9) + (1 : Int32))) (hd 50 (px μ2 (hd 40 0) 12)) 7) 20)), (1, .int (mI μ (hd 42 0) (mI μ (hd 40 0) 9).toNatClampNeg)), (0, .ref (hd 40 0))]) d_MM_isOrderLine_56 rfl (by decide) rfl ?_
    refine Wa.aload_n (j := 2) d_MM_isOrderLine_57 rfl ?_
    have hp6 := St.reading hS
    refine Wx.getR 11 12 d_MM_isOrderLine_58 f_MM_12 rfl fl_MM_39 (s_40 hS (by decide)) (hp6.1) ?_
    refine Wa.dup d_MM_isOrderLine_61 rfl ?_
    refine Wx.getI 12 7 d_MM_isOrderLine_62 f_MP_7 fl_MM_158 w_50 (s_50 hp6.2) ?_
    refine Wa.iconst (v := 1) d_MM_isOrderLine_65 rfl ?_
    refine Wa.iadd d_MM_isOrderLine_66 ?_
    refine Wx.putI 12 7 d_MM_isOrderLine_67 f_MP_7 ok_MP fl_MM_158 (Or.inl rfl) w_50 (s_50 hp6.2) ?_
    suffices hh : ∀ μ7 : Mu, μ7 = (setI (setI (setI μ2 (hd 45 0) (mI μ2 (hd 40 0) 9).toNatClampNeg 7) (hd 40 0) 9 ((mI (setI μ2 (hd 45 0) (mI μ2 (hd 40 0) 9).toNatClampNeg 7) (hd 40 0) 9) + (1 : Int32))) (hd 50 (px μ2 (hd 40 0) 12)) 7 ((mI (setI (setI μ2 (hd 45 0) (mI μ2 (hd 40 0) 9).toNatClampNeg 7) (hd 40 0) 9 ((mI (setI μ2 (hd 45 0) (mI μ2 (hd 40 0) 9).toNatClampNeg 7) (hd 40 0) 9) + (1 : Int32))) (hd 50 (px μ2 (hd 40 0) 12)) 7) + (1 : Int32))) → Wx K_MM_isOrderLine d rc rs Q 70 [(2, .int (imin (mI (setI (setI μ2 (hd 45 0) (mI μ2 (hd 40 0) 9).toNatClampNeg 7) (hd 40 0) 9 ((mI (setI μ2 (hd 45 0) (mI μ2 (hd 40 0) 9).toNatClampNeg 7) (hd 40 0) 9) + (1 : Int32))) (hd 50 (px μ2 (hd 40 0) 12)) 7) 20)), (1, .int (mI μ (hd 42 0) (mI μ (hd 40 0) 9).toNatClampNeg)), (0, .ref (hd 40 0))] [] μ7 from hh _ rfl
    intro μ7 em
    have hF := hF μ7 em
    have hS : St μ7 := by rw [em]; exact hS
    refine Wa.iload_n (j := 1) d_MM_isOrderLine_70 rfl ?_
    refine Wa.bipush (v := 9) d_MM_isOrderLine_71 rfl ?_
    refine Wa.icmp_ne 90 d_MM_isOrderLine_73 (by decide) (fun hb => ?_) (fun hb => ?_)
    · have hF := hF.2 hb
      refine Wa.aload_n (j := 2) d_MM_isOrderLine_90 rfl ?_
      refine Wa.bipush (v := 40) d_MM_isOrderLine_91 rfl ?_
      refine Wa.bipush (v := 8) d_MM_isOrderLine_93 rfl ?_
      refine Wx.cVi (q := E_MM) (As := [.int 40, .int 8]) 11 (d - 1) 0 0 _ d_MM_isOrderLine_95 mok_MM_eatAs vl_MM_154 rfl rfl rfl (Nat.le_of_ble_eq_true rfl) (by omega) (Nat.zero_le _) (Nat.zero_le _) (s_40 hS (by decide)) hF (fun y9 μ8 hS hF => ?_)
      refine Wa.if_eq 112 d_MM_isOrderLine_98 (by decide) (fun hb => ?_) (fun hb => ?_)
      · have hF := hF.1 hb
        exact Wa.loc [] rfl hF
      · have hF := hF.2 hb
        refine Wa.aload_n (j := 2) d_MM_isOrderLine_101 rfl ?_
        refine Wa.bipush (v := 40) d_MM_isOrderLine_102 rfl ?_
        refine Wa.bipush (v := 9) d_MM_isOrderLine_104 rfl ?_
        refine Wx.cVi (q := E_MM) (As := [.int 40, .int 9]) 11 (d - 1) 0 0 _ d_MM_isOrderLine_106 mok_MM_eatAs vl_MM_154 rfl rfl rfl (Nat.le_of_ble_eq_true rfl) (by omega) (Nat.zero_le _) (Nat.zero_le _) (s_40 hS (by decide)) hF (fun y11 μ10 hS hF => ?_)
        refine Wa.if_ne 114 d_MM_isOrderLine_109 (by decide) (fun hb => ?_) (fun hb => ?_)
        · have hF := hF.2 hb
          exact Wa.loc [2, 1, 0] rfl hF
        · have hF := hF.1 hb
          exact Wa.loc [] rfl hF
    · have hF := hF.1 hb
      refine Wa.aload_n (j := 2) d_MM_isOrderLine_76 rfl ?_
      refine Wa.bipush (v := 40) d_MM_isOrderLine_77 rfl ?_
      refine Wa.bipush (v := 10) d_MM_isOrderLine_79 rfl ?_
      refine Wx.cVi (q := E_MM) (As := [.int 40, .int 10]) 11 (d - 1) 0 0 _ d_MM_isOrderLine_81 mok_MM_eatAs vl_MM_154 rfl rfl rfl (Nat.le_of_ble_eq_true rfl) (by omega) (Nat.zero_le _) (Nat.zero_le _) (s_40 hS (by decide)) hF (fun y13 μ12 hS hF => ?_)
      refine Wa.if_ne 114 d_MM_isOrderLine_84 (by decide) (fun hb => ?_) (fun hb => ?_)
      · have hF := hF.2 hb
        exact Wa.loc [2, 1, 0] rfl hF
      · have hF := hF.1 hb
        refine Wa.goto 112 d_MM_isOrderLine_87 (by decide) ?_
        exact Wa.loc [] rfl hF
  · have hF := hF.1 hb
    refine Wa.iconst (v := 0) d_MM_isOrderLine_21 rfl ?_
    exact Wx.retz d_MM_isOrderLine_22 rfl (Or.inl rfl) hF
theorem e_MM_isOrderLine {d rc rs : Nat} {Q : Option Value → Mu → Prop} {μ : Mu}  (hk : Wx K_MM_isOrderLine d rc rs (fun r μ' => St μ' ∧ Q r μ') 0 [(0, .ref (hd 40 0))] [] μ) : Cal K_MM_isOrderLine d rc rs [.ref (hd 40 0)] μ Q := Cal.of (by decide +kernel) rfl rfl (Nat.le_of_ble_eq_true rfl) rfl hk
set_option maxHeartbeats 4000000 in
set_option maxRecDepth 20000 in
theorem g_MM_isOrderLine_112 {d rc rs : Nat} {Q : Option Value → Mu → Prop} {μ : Mu}  (hD : 1 ≤ d)  (hS : St μ)
    (hF : Q (some (.int 0)) μ) : Wx K_MM_isOrderLine d rc rs Q 112 [] [] μ := by
  refine Wa.iconst (v := 0) d_MM_isOrderLine_112 rfl ?_
  exact Wx.retz d_MM_isOrderLine_113 rfl (Or.inl rfl) hF
set_option maxHeartbeats 4000000 in
set_option maxRecDepth 20000 in
theorem g_MM_isOrderLine_114 {d rc rs : Nat} {Q : Option Value → Mu → Prop} {μ : Mu} {x1 : Int32} {x2 : Int32} (hD : 1 ≤ d)  (hS : St μ)
    (hF : (vp_in x2 21 ∧ ((x1 = 6 → Wx K_MM_isOrderLine d rc rs Q 142 [(0, .ref (hd 40 0)), (1, .int x1), (2, .int x2)] [] (setI μ (hd 58 (px μ (hd 40 0) 12)) x2.toNatClampNeg (mI μ (hd 50 (px μ (hd 40 0) 12)) 16))) ∧ (¬ x1 = 6 → ((x1 = 7 → Wx K_MM_isOrderLine d rc rs Q 142 [(0, .ref (hd 40 0)), (1, .int x1), (2, .int x2)] [] (setI μ (hd 58 (px μ (hd 40 0) 12)) x2.toNatClampNeg (mI μ (hd 50 (px μ (hd 40 0) 12)) 16))) ∧ (¬ x1 = 7 → (((0 : Int32) = 0 → Wx K_MM_isOrderLine d rc rs Q 181 [(0, .ref (hd 40 0)), (1, .int x1), (2, .int x2), (3, .int 0)] [] (setI μ (hd 58 (px μ (hd 40 0) 12)) x2.toNatClampNeg (mI μ (hd 50 (px μ (hd 40 0) 12)) 16))) ∧ (¬ (0 : Int32) = 0 → ((x1 = 6 → (Cal K_MM_eat (d - 1) 0 0 [.ref (hd 40 0), .int 10] (setI μ (hd 58 (px μ (hd 40 0) 12)) x2.toNatClampNeg (mI μ (hd 50 (px μ (hd 40 0) 12)) 16)) (fun r μ8 => ∃ y9, r = some (.int y9) ∧ ((y9 = 0 → Wx K_MM_isOrderLine d rc rs Q 179 [] [] μ8) ∧ (¬ y9 = 0 → (Cal K_MM_isSum (d - 1) 0 0 [.ref (hd 40 0)] μ8 (fun r μ10 => ∃ y11, r = some (.int y11) ∧ ((y11 = 0 → Wx K_MM_isOrderLine d rc rs Q 179 [] [] μ10) ∧ (¬ y11 = 0 → Wx K_MM_isOrderLine d rc rs Q 181 [(0, .ref (hd 40 0)), (1, .int x1), (2, .int x2), (3, .int 0)] [] μ10))))))))) ∧ (¬ x1 = 6 → (Cal K_MM_eat (d - 1) 0 0 [.ref (hd 40 0), .int 11] (setI μ (hd 58 (px μ (hd 40 0) 12)) x2.toNatClampNeg (mI μ (hd 50 (px μ (hd 40 0) 12)) 16)) (fun r μ4 => ∃ y5, r = some (.int y5) ∧ ((y5 = 0 → Wx K_MM_isOrderLine d rc rs Q 179 [] [] μ4) ∧ (¬ y5 = 0 → (Cal K_MM_isSum (d - 1) 0 0 [.ref (hd 40 0)] μ4 (fun r μ6 => ∃ y7, r = some (.int y7) ∧ ((y7 = 0 → Wx K_MM_isOrderLine d rc rs Q 179 [] [] μ6) ∧ (¬ y7 = 0 → Wx K_MM_isOrderLine d rc rs Q 181 [(0, .ref (hd 40 0)), (1, .int x1), (2, .int x2), (3, .int 0)] [] μ6)))))))))))))))))) : Wx K_MM_isOrderLine d rc rs Q 114 [(0, .ref (hd 40 0)), (1, .int x1), (2, .int x2)] [] μ := by
  refine Wa.aload_n (j := 0) d_MM_isOrderLine_114 rfl ?_
  have hp1 := St.reading hS
  refine Wx.getR 11 12 d_MM_isOrderLine_115 f_MM_12 rfl fl_MM_39 (s_40 hS (by decide)) (hp1.1) ?_
  refine Wx.getR 12 12 d_MM_isOrderLine_118 f_MP_12 rfl fl_MM_161 (s_50 hp1.2) (r_50_12 hp1.2) ?_
  refine Wa.iload_n (j := 2) d_MM_isOrderLine_121 rfl ?_
  refine Wa.aload_n (j := 0) d_MM_isOrderLine_122 rfl ?_
  have hp2 := St.reading hS
  refine Wx.getR 11 12 d_MM_isOrderLine_123 f_MM_12 rfl fl_MM_39 (s_40 hS (by decide)) (hp2.1) ?_
  refine Wx.getI 12 16 d_MM_isOrderLine_126 f_MP_16 fl_MM_139 w_50 (s_50 hp2.2) ?_
  have hc3 := hF.1
  have hF := hF.2
  have hlhc3 := vp_in_lt hc3
  refine Wa.iast d_MM_isOrderLine_129 w_58 (s_58 hp1.2) hc3 ?_
  refine Wa.iload_n (j := 1) d_MM_isOrderLine_130 rfl ?_
  refine Wa.bipush (v := 6) d_MM_isOrderLine_131 rfl ?_
  refine Wa.icmp_eq 142 d_MM_isOrderLine_133 (by decide) (fun hb => ?_) (fun hb => ?_)
  · have hF := hF.1 hb
    exact Wa.loc [0, 1, 2] rfl hF
  · have hF := hF.2 hb
    refine Wa.iload_n (j := 1) d_MM_isOrderLine_136 rfl ?_
    refine Wa.bipush (v := 7) d_MM_isOrderLine_137 rfl ?_
    refine Wa.icmp_ne 146 d_MM_isOrderLine_139 (by decide) (fun hb => ?_) (fun hb => ?_)
    · have hF := hF.2 hb
      refine Wa.iconst (v := 0) d_MM_isOrderLine_146 rfl ?_
      refine Wa.istore_n (i := 3) (L' := [(3, .int 0), (0, .ref (hd 40 0)), (1, .int x1), (2, .int x2)]) d_MM_isOrderLine_147 rfl (by decide) rfl ?_
      refine Wa.iload_n (j := 0) d_MM_isOrderLine_148 rfl ?_
      refine Wa.if_eq 181 d_MM_isOrderLine_149 (by decide) (fun hb => ?_) (fun hb => ?_)
      · have hF := hF.1 hb
        exact Wa.loc [1, 2, 3, 0] rfl hF
      · have hF := hF.2 hb
        refine Wa.aload_n (j := 1) d_MM_isOrderLine_152 rfl ?_
        refine Wa.iload_n (j := 2) d_MM_isOrderLine_153 rfl ?_
        refine Wa.bipush (v := 6) d_MM_isOrderLine_154 rfl ?_
        refine Wa.icmp_ne 164 d_MM_isOrderLine_156 (by decide) (fun hb => ?_) (fun hb => ?_)
        · have hF := hF.2 hb
          refine Wa.bipush (v := 11) d_MM_isOrderLine_164 rfl ?_
          refine Wx.cVi (q := E_MM) (As := [.int 11]) 11 (d - 1) 0 0 _ d_MM_isOrderLine_166 mok_MM_eat vl_MM_133 rfl rfl rfl (Nat.le_of_ble_eq_true rfl) (by omega) (Nat.zero_le _) (Nat.zero_le _) (s_40 hS (by decide)) hF (fun y5 μ4 hS hF => ?_)
          refine Wa.if_eq 179 d_MM_isOrderLine_169 (by decide) (fun hb => ?_) (fun hb => ?_)
          · have hF := hF.1 hb
            exact Wa.loc [] rfl hF
          · have hF := hF.2 hb
            refine Wa.aload_n (j := 1) d_MM_isOrderLine_172 rfl ?_
            refine Wx.cVi (q := E_MM) (As := []) 11 (d - 1) 0 0 _ d_MM_isOrderLine_173 mok_MM_isSum vl_MM_164 rfl rfl rfl (Nat.le_of_ble_eq_true rfl) (by omega) (Nat.zero_le _) (Nat.zero_le _) (s_40 hS (by decide)) hF (fun y7 μ6 hS hF => ?_)
            refine Wa.if_ne 181 d_MM_isOrderLine_176 (by decide) (fun hb => ?_) (fun hb => ?_)
            · have hF := hF.2 hb
              exact Wa.loc [1, 2, 3, 0] rfl hF
            · have hF := hF.1 hb
              exact Wa.loc [] rfl hF
        · have hF := hF.1 hb
          refine Wa.bipush (v := 10) d_MM_isOrderLine_159 rfl ?_
          refine Wa.goto 166 d_MM_isOrderLine_161 (by decide) ?_
          refine Wx.cVi (q := E_MM) (As := [.int 10]) 11 (d - 1) 0 0 _ d_MM_isOrderLine_166 mok_MM_eat vl_MM_133 rfl rfl rfl (Nat.le_of_ble_eq_true rfl) (by omega) (Nat.zero_le _) (Nat.zero_le _) (s_40 hS (by decide)) hF (fun y9 μ8 hS hF => ?_)
          refine Wa.if_eq 179 d_MM_isOrderLine_169 (by decide) (fun hb => ?_) (fun hb => ?_)
          · have hF := hF.1 hb
            exact Wa.loc [] rfl hF
          · have hF := hF.2 hb
            refine Wa.aload_n (j := 1) d_MM_isOrderLine_172 rfl ?_
            refine Wx.cVi (q := E_MM) (As := []) 11 (d - 1) 0 0 _ d_MM_isOrderLine_173 mok_MM_isSum vl_MM_164 rfl rfl rfl (Nat.le_of_ble_eq_true rfl) (by omega) (Nat.zero_le _) (Nat.zero_le _) (s_40 hS (by decide)) hF (fun y11 μ10 hS hF => ?_)
            refine Wa.if_ne 181 d_MM_isOrderLine_176 (by decide) (fun hb => ?_) (fun hb => ?_)
            · have hF := hF.2 hb
              exact Wa.loc [1, 2, 3, 0] rfl hF
            · have hF := hF.1 hb
              exact Wa.loc [] rfl hF
    · have hF := hF.1 hb
      exact Wa.loc [0, 1, 2] rfl hF
set_option maxHeartbeats 4000000 in
set_option maxRecDepth 20000 in
theorem g_MM_isOrderLine_142 {d rc rs : Nat} {Q : Option Value → Mu → Prop} {μ : Mu} {x1 : Int32} {x2 : Int32} (hD : 1 ≤ d)  (hS : St μ)
    (hF : (((1 : Int32) = 0 → Wx K_MM_isOrderLine d rc rs Q 181 [(0, .ref (hd 40 0)), (1, .int x1), (2, .int x2), (3, .int 1)] [] μ) ∧ (¬ (1 : Int32) = 0 → ((x1 = 6 → (Cal K_MM_eat (d - 1) 0 0 [.ref (hd 40 0), .int 10] μ (fun r μ5 => ∃ y6, r = some (.int y6) ∧ ((y6 = 0 → Wx K_MM_isOrderLine d rc rs Q 179 [] [] μ5) ∧ (¬ y6 = 0 → (Cal K_MM_isSum (d - 1) 0 0 [.ref (hd 40 0)] μ5 (fun r μ7 => ∃ y8, r = some (.int y8) ∧ ((y8 = 0 → Wx K_MM_isOrderLine d rc rs Q 179 [] [] μ7) ∧ (¬ y8 = 0 → Wx K_MM_isOrderLine d rc rs Q 181 [(0, .ref (hd 40 0)), (1, .int x1), (2, .int x2), (3, .int 1)] [] μ7))))))))) ∧ (¬ x1 = 6 → (Cal K_MM_eat (d - 1) 0 0 [.ref (hd 40 0), .int 11] μ (fun r μ1 => ∃ y2, r = some (.int y2) ∧ ((y2 = 0 → Wx K_MM_isOrderLine d rc rs Q 179 [] [] μ1) ∧ (¬ y2 = 0 → (Cal K_MM_isSum (d - 1) 0 0 [.ref (hd 40 0)] μ1 (fun r μ3 => ∃ y4, r = some (.int y4) ∧ ((y4 = 0 → Wx K_MM_isOrderLine d rc rs Q 179 [] [] μ3) ∧ (¬ y4 = 0 → Wx K_MM_isOrderLine d rc rs Q 181 [(0, .ref (hd 40 0)), (1, .int x1), (2, .int x2), (3, .int 1)] [] μ3))))))))))))) : Wx K_MM_isOrderLine d rc rs Q 142 [(0, .ref (hd 40 0)), (1, .int x1), (2, .int x2)] [] μ := by
  refine Wa.iconst (v := 1) d_MM_isOrderLine_142 rfl ?_
  refine Wa.goto 147 d_MM_isOrderLine_143 (by decide) ?_
  refine Wa.istore_n (i := 3) (L' := [(3, .int 1), (0, .ref (hd 40 0)), (1, .int x1), (2, .int x2)]) d_MM_isOrderLine_147 rfl (by decide) rfl ?_
  refine Wa.iload_n (j := 0) d_MM_isOrderLine_148 rfl ?_
  refine Wa.if_eq 181 d_MM_isOrderLine_149 (by decide) (fun hb => ?_) (fun hb => ?_)
  · have hF := hF.1 hb
    exact Wa.loc [1, 2, 3, 0] rfl hF
  · have hF := hF.2 hb
    refine Wa.aload_n (j := 1) d_MM_isOrderLine_152 rfl ?_
    refine Wa.iload_n (j := 2) d_MM_isOrderLine_153 rfl ?_
    refine Wa.bipush (v := 6) d_MM_isOrderLine_154 rfl ?_
    refine Wa.icmp_ne 164 d_MM_isOrderLine_156 (by decide) (fun hb => ?_) (fun hb => ?_)
    · have hF := hF.2 hb
      refine Wa.bipush (v := 11) d_MM_isOrderLine_164 rfl ?_
      refine Wx.cVi (q := E_MM) (As := [.int 11]) 11 (d - 1) 0 0 _ d_MM_isOrderLine_166 mok_MM_eat vl_MM_133 rfl rfl rfl (Nat.le_of_ble_eq_true rfl) (by omega) (Nat.zero_le _) (Nat.zero_le _) (s_40 hS (by decide)) hF (fun y2 μ1 hS hF => ?_)
      refine Wa.if_eq 179 d_MM_isOrderLine_169 (by decide) (fun hb => ?_) (fun hb => ?_)
      · have hF := hF.1 hb
        exact Wa.loc [] rfl hF
      · have hF := hF.2 hb
        refine Wa.aload_n (j := 1) d_MM_isOrderLine_172 rfl ?_
        refine Wx.cVi (q := E_MM) (As := []) 11 (d - 1) 0 0 _ d_MM_isOrderLine_173 mok_MM_isSum vl_MM_164 rfl rfl rfl (Nat.le_of_ble_eq_true rfl) (by omega) (Nat.zero_le _) (Nat.zero_le _) (s_40 hS (by decide)) hF (fun y4 μ3 hS hF => ?_)
        refine Wa.if_ne 181 d_MM_isOrderLine_176 (by decide) (fun hb => ?_) (fun hb => ?_)
        · have hF := hF.2 hb
          exact Wa.loc [1, 2, 3, 0] rfl hF
        · have hF := hF.1 hb
          exact Wa.loc [] rfl hF
    · have hF := hF.1 hb
      refine Wa.bipush (v := 10) d_MM_isOrderLine_159 rfl ?_
      refine Wa.goto 166 d_MM_isOrderLine_161 (by decide) ?_
      refine Wx.cVi (q := E_MM) (As := [.int 10]) 11 (d - 1) 0 0 _ d_MM_isOrderLine_166 mok_MM_eat vl_MM_133 rfl rfl rfl (Nat.le_of_ble_eq_true rfl) (by omega) (Nat.zero_le _) (Nat.zero_le _) (s_40 hS (by decide)) hF (fun y6 μ5 hS hF => ?_)
      refine Wa.if_eq 179 d_MM_isOrderLine_169 (by decide) (fun hb => ?_) (fun hb => ?_)
      · have hF := hF.1 hb
        exact Wa.loc [] rfl hF
      · have hF := hF.2 hb
        refine Wa.aload_n (j := 1) d_MM_isOrderLine_172 rfl ?_
        refine Wx.cVi (q := E_MM) (As := []) 11 (d - 1) 0 0 _ d_MM_isOrderLine_173 mok_MM_isSum vl_MM_164 rfl rfl rfl (Nat.le_of_ble_eq_true rfl) (by omega) (Nat.zero_le _) (Nat.zero_le _) (s_40 hS (by decide)) hF (fun y8 μ7 hS hF => ?_)
        refine Wa.if_ne 181 d_MM_isOrderLine_176 (by decide) (fun hb => ?_) (fun hb => ?_)
        · have hF := hF.2 hb
          exact Wa.loc [1, 2, 3, 0] rfl hF
        · have hF := hF.1 hb
          exact Wa.loc [] rfl hF
set_option maxHeartbeats 4000000 in
set_option maxRecDepth 20000 in
theorem g_MM_isOrderLine_179 {d rc rs : Nat} {Q : Option Value → Mu → Prop} {μ : Mu}  (hD : 1 ≤ d)  (hS : St μ)
    (hF : Q (some (.int 0)) μ) : Wx K_MM_isOrderLine d rc rs Q 179 [] [] μ := by
  refine Wa.iconst (v := 0) d_MM_isOrderLine_179 rfl ?_
  exact Wx.retz d_MM_isOrderLine_180 rfl (Or.inl rfl) hF
set_option maxHeartbeats 4000000 in
set_option maxRecDepth 20000 in
theorem g_MM_isOrderLine_181 {d rc rs : Nat} {Q : Option Value → Mu → Prop} {μ : Mu} {x1 : Int32} {x2 : Int32} {x3 : Int32} (hD : 1 ≤ d)  (hS : St μ)
    (hF : ((x1 = 8 → (Cal K_MM_eat (d - 1) 0 0 [.ref (hd 40 0), .int 12] μ (fun r μ1 => ∃ y2, r = some (.int y2) ∧ ((y2 = 0 → Wx K_MM_isOrderLine d rc rs Q 203 [] [] μ1) ∧ (¬ y2 = 0 → (Cal K_MM_isWay (d - 1) 0 0 [.ref (hd 40 0)] μ1 (fun r μ3 => ∃ y4, r = some (.int y4) ∧ ((y4 = 0 → Wx K_MM_isOrderLine d rc rs Q 203 [] [] μ3) ∧ (¬ y4 = 0 → Wx K_MM_isOrderLine d rc rs Q 205 [(0, .ref (hd 40 0)), (2, .int x2), (3, .int x3)] [] μ3))))))))) ∧ (¬ x1 = 8 → Wx K_MM_isOrderLine d rc rs Q 205 [(0, .ref (hd 40 0)), (2, .int x2), (3, .int x3)] [] μ))) : Wx K_MM_isOrderLine d rc rs Q 181 [(0, .ref (hd 40 0)), (1, .int x1), (2, .int x2), (3, .int x3)] [] μ := by
  refine Wa.iload_n (j := 1) d_MM_isOrderLine_181 rfl ?_
  refine Wa.bipush (v := 8) d_MM_isOrderLine_182 rfl ?_
  refine Wa.icmp_ne 205 d_MM_isOrderLine_184 (by decide) (fun hb => ?_) (fun hb => ?_)
  · have hF := hF.2 hb
    exact Wa.loc [0, 2, 3] rfl hF
  · have hF := hF.1 hb
    refine Wa.aload_n (j := 0) d_MM_isOrderLine_187 rfl ?_
    refine Wa.bipush (v := 12) d_MM_isOrderLine_188 rfl ?_
    refine Wx.cVi (q := E_MM) (As := [.int 12]) 11 (d - 1) 0 0 _ d_MM_isOrderLine_190 mok_MM_eat vl_MM_133 rfl rfl rfl (Nat.le_of_ble_eq_true rfl) (by omega) (Nat.zero_le _) (Nat.zero_le _) (s_40 hS (by decide)) hF (fun y2 μ1 hS hF => ?_)
    refine Wa.if_eq 203 d_MM_isOrderLine_193 (by decide) (fun hb => ?_) (fun hb => ?_)
    · have hF := hF.1 hb
      exact Wa.loc [] rfl hF
    · have hF := hF.2 hb
      refine Wa.aload_n (j := 0) d_MM_isOrderLine_196 rfl ?_
      refine Wx.cVi (q := E_MM) (As := []) 11 (d - 1) 0 0 _ d_MM_isOrderLine_197 mok_MM_isWay vl_MM_167 rfl rfl rfl (Nat.le_of_ble_eq_true rfl) (by omega) (Nat.zero_le _) (Nat.zero_le _) (s_40 hS (by decide)) hF (fun y4 μ3 hS hF => ?_)
      refine Wa.if_ne 205 d_MM_isOrderLine_200 (by decide) (fun hb => ?_) (fun hb => ?_)
      · have hF := hF.2 hb
        exact Wa.loc [0, 2, 3] rfl hF
      · have hF := hF.1 hb
        exact Wa.loc [] rfl hF
set_option maxHeartbeats 4000000 in
set_option maxRecDepth 20000 in
theorem g_MM_isOrderLine_203 {d rc rs : Nat} {Q : Option Value → Mu → Prop} {μ : Mu}  (hD : 1 ≤ d)  (hS : St μ)
    (hF : Q (some (.int 0)) μ) : Wx K_MM_isOrderLine d rc rs Q 203 [] [] μ := by
  refine Wa.iconst (v := 0) d_MM_isOrderLine_203 rfl ?_
  exact Wx.retz d_MM_isOrderLine_204 rfl (Or.inl rfl) hF
set_option maxHeartbeats 4000000 in
set_option maxRecDepth 20000 in
theorem g_MM_isOrderLine_205 {d rc rs : Nat} {Q : Option Value → Mu → Prop} {μ : Mu} {x2 : Int32} {x3 : Int32} (hD : 1 ≤ d)  (hS : St μ)
    (hF : (vp_in x2 21 ∧ (vp_in x2 21 ∧ (∀ μ7 : Mu, μ7 = (setI (setI μ (hd 59 (px μ (hd 40 0) 12)) x2.toNatClampNeg (mI μ (hd 50 (px μ (hd 40 0) 12)) 16)) (hd 60 (px μ (hd 40 0) 12)) x2.toNatClampNeg (mI (setI μ (hd 59 (px μ (hd 40 0) 12)) x2.toNatClampNeg (mI μ (hd 50 (px μ (hd 40 0) 12)) 16)) (hd 50 (px μ (hd 40 0) 12)) 16)) → ((x3 = 0 → (Cal K_MM_is (d - 1) 0 0 [.ref (hd 40 0), .int 16] μ7 (fun r μ15 => ∃ y16, r = some (.int y16) ∧ ((y16 = 0 → Q (some (.int 1)) μ15) ∧ (¬ y16 = 0 → (Cal K_MM_eat (d - 1) 0 0 [.ref (hd 40 0), .int 16] μ15 (fun r μ17 => ∃ y18, r = some (.int y18) ∧ ((y18 = 0 → Q (some (.int 0)) μ17) ∧ (¬ y18 = 0 → (Cal K_MM_isTest (d - 1) 0 0 [.ref (hd 40 0)] μ17 (fun r μ19 => ∃ y20, r = some (.int y20) ∧ ((y20 = 0 → Q (some (.int 0)) μ19) ∧ (¬ y20 = 0 → (vp_in x2 21 ∧ Q (some (.int 1)) (setI μ19 (hd 60 (px μ19 (hd 40 0) 12)) x2.toNatClampNeg (mI μ19 (hd 50 (px μ19 (hd 40 0) 12)) 16)))))))))))))))) ∧ (¬ x3 = 0 → (Cal K_MM_eat (d - 1) 0 0 [.ref (hd 40 0), .int 16] μ7 (fun r μ8 => ∃ y9, r = some (.int y9) ∧ ((y9 = 0 → Q (some (.int 0)) μ8) ∧ (¬ y9 = 0 → (Cal K_MM_isTest (d - 1) 0 0 [.ref (hd 40 0)] μ8 (fun r μ10 => ∃ y11, r = some (.int y11) ∧ ((y11 = 0 → Q (some (.int 0)) μ10) ∧ (¬ y11 = 0 → (vp_in x2 21 ∧ Q (some (.int 1)) (setI μ10 (hd 60 (px μ10 (hd 40 0) 12)) x2.toNatClampNeg (mI μ10 (hd 50 (px μ10 (hd 40 0) 12)) 16))))))))))))))))) : Wx K_MM_isOrderLine d rc rs Q 205 [(0, .ref (hd 40 0)), (2, .int x2), (3, .int x3)] [] μ := by
  refine Wa.aload_n (j := 0) d_MM_isOrderLine_205 rfl ?_
  have hp1 := St.reading hS
  refine Wx.getR 11 12 d_MM_isOrderLine_206 f_MM_12 rfl fl_MM_39 (s_40 hS (by decide)) (hp1.1) ?_
  refine Wx.getR 12 13 d_MM_isOrderLine_209 f_MP_13 rfl fl_MM_170 (s_50 hp1.2) (r_50_13 hp1.2) ?_
  refine Wa.iload_n (j := 1) d_MM_isOrderLine_212 rfl ?_
  refine Wa.aload_n (j := 0) d_MM_isOrderLine_213 rfl ?_
  have hp2 := St.reading hS
  refine Wx.getR 11 12 d_MM_isOrderLine_214 f_MM_12 rfl fl_MM_39 (s_40 hS (by decide)) (hp2.1) ?_
  refine Wx.getI 12 16 d_MM_isOrderLine_217 f_MP_16 fl_MM_139 w_50 (s_50 hp2.2) ?_
  have hc3 := hF.1
  have hF := hF.2
  have hlhc3 := vp_in_lt hc3
  refine Wa.iast d_MM_isOrderLine_220 w_59 (s_59 hp1.2) hc3 ?_
  refine Wa.aload_n (j := 0) d_MM_isOrderLine_221 rfl ?_
  have hp4 := St.reading hS
  refine Wx.getR 11 12 d_MM_isOrderLine_222 f_MM_12 rfl fl_MM_39 (s_40 hS (by decide)) (hp4.1) ?_
  refine Wx.getR 12 14 d_MM_isOrderLine_225 f_MP_14 rfl fl_MM_173 (s_50 hp4.2) (r_50_14 hp4.2) ?_
  refine Wa.iload_n (j := 1) d_MM_isOrderLine_228 rfl ?_
  refine Wa.aload_n (j := 0) d_MM_isOrderLine_229 rfl ?_
  have hp5 := St.reading hS
  refine Wx.getR 11 12 d_MM_isOrderLine_230 f_MM_12 rfl fl_MM_39 (s_40 hS (by decide)) (hp5.1) ?_
  refine Wx.getI 12 16 d_MM_isOrderLine_233 f_MP_16 fl_MM_139 w_50 (s_50 hp5.2) ?_
  have hc6 := hF.1
  have hF := hF.2
  have hlhc6 := vp_in_lt hc6
  refine Wa.iast d_MM_isOrderLine_236 w_60 (s_60 hp4.2) hc6 ?_
  suffices hh : ∀ μ7 : Mu, μ7 = (setI (setI μ (hd 59 (px μ (hd 40 0) 12)) x2.toNatClampNeg (mI μ (hd 50 (px μ (hd 40 0) 12)) 16)) (hd 60 (px μ (hd 40 0) 12)) x2.toNatClampNeg (mI (setI μ (hd 59 (px μ (hd 40 0) 12)) x2.toNatClampNeg (mI μ (hd 50 (px μ (hd 40 0) 12)) 16)) (hd 50 (px μ (hd 40 0) 12)) 16)) → Wx K_MM_isOrderLine d rc rs Q 237 [(0, .ref (hd 40 0)), (2, .int x2), (3, .int x3)] [] μ7 from hh _ rfl
  intro μ7 em
  have hF := hF μ7 em
  have hS : St μ7 := by rw [em]; exact hS
  refine Wa.iload_n (j := 2) d_MM_isOrderLine_237 rfl ?_
  refine Wa.if_ne 252 d_MM_isOrderLine_238 (by decide) (fun hb => ?_) (fun hb => ?_)
  · have hF := hF.2 hb
    refine Wa.aload_n (j := 0) d_MM_isOrderLine_252 rfl ?_
    refine Wa.bipush (v := 16) d_MM_isOrderLine_253 rfl ?_
    refine Wx.cVi (q := E_MM) (As := [.int 16]) 11 (d - 1) 0 0 _ d_MM_isOrderLine_255 mok_MM_eat vl_MM_133 rfl rfl rfl (Nat.le_of_ble_eq_true rfl) (by omega) (Nat.zero_le _) (Nat.zero_le _) (s_40 hS (by decide)) hF (fun y9 μ8 hS hF => ?_)
    refine Wa.if_eq 268 d_MM_isOrderLine_258 (by decide) (fun hb => ?_) (fun hb => ?_)
    · have hF := hF.1 hb
      refine Wa.iconst (v := 0) d_MM_isOrderLine_268 rfl ?_
      exact Wx.retz d_MM_isOrderLine_269 rfl (Or.inl rfl) hF
    · have hF := hF.2 hb
      refine Wa.aload_n (j := 0) d_MM_isOrderLine_261 rfl ?_
      refine Wx.cVi (q := E_MM) (As := []) 11 (d - 1) 0 0 _ d_MM_isOrderLine_262 mok_MM_isTest vl_MM_176 rfl rfl rfl (Nat.le_of_ble_eq_true rfl) (by omega) (Nat.zero_le _) (Nat.zero_le _) (s_40 hS (by decide)) hF (fun y11 μ10 hS hF => ?_)
      refine Wa.if_ne 270 d_MM_isOrderLine_265 (by decide) (fun hb => ?_) (fun hb => ?_)
      · have hF := hF.2 hb
        refine Wa.aload_n (j := 0) d_MM_isOrderLine_270 rfl ?_
        have hp12 := St.reading hS
        refine Wx.getR 11 12 d_MM_isOrderLine_271 f_MM_12 rfl fl_MM_39 (s_40 hS (by decide)) (hp12.1) ?_
        refine Wx.getR 12 14 d_MM_isOrderLine_274 f_MP_14 rfl fl_MM_173 (s_50 hp12.2) (r_50_14 hp12.2) ?_
        refine Wa.iload_n (j := 1) d_MM_isOrderLine_277 rfl ?_
        refine Wa.aload_n (j := 0) d_MM_isOrderLine_278 rfl ?_
        have hp13 := St.reading hS
        refine Wx.getR 11 12 d_MM_isOrderLine_279 f_MM_12 rfl fl_MM_39 (s_40 hS (by decide)) (hp13.1) ?_
        refine Wx.getI 12 16 d_MM_isOrderLine_282 f_MP_16 fl_MM_139 w_50 (s_50 hp13.2) ?_
        have hc14 := hF.1
        have hF := hF.2
        have hlhc14 := vp_in_lt hc14
        refine Wa.iast d_MM_isOrderLine_285 w_60 (s_60 hp12.2) hc14 ?_
        refine Wa.iconst (v := 1) d_MM_isOrderLine_286 rfl ?_
        exact Wx.retz d_MM_isOrderLine_287 rfl (Or.inr rfl) hF
      · have hF := hF.1 hb
        refine Wa.iconst (v := 0) d_MM_isOrderLine_268 rfl ?_
        exact Wx.retz d_MM_isOrderLine_269 rfl (Or.inl rfl) hF
  · have hF := hF.1 hb
    refine Wa.aload_n (j := 0) d_MM_isOrderLine_241 rfl ?_
    refine Wa.bipush (v := 16) d_MM_isOrderLine_242 rfl ?_
    refine Wx.cVi (q := E_MM) (As := [.int 16]) 11 (d - 1) 0 0 _ d_MM_isOrderLine_244 mok_MM_is vl_MM_130 rfl rfl rfl (Nat.le_of_ble_eq_true rfl) (by omega) (Nat.zero_le _) (Nat.zero_le _) (s_40 hS (by decide)) hF (fun y16 μ15 hS hF => ?_)
    refine Wa.if_ne 252 d_MM_isOrderLine_247 (by decide) (fun hb => ?_) (fun hb => ?_)
    · have hF := hF.2 hb
      refine Wa.aload_n (j := 0) d_MM_isOrderLine_252 rfl ?_
      refine Wa.bipush (v := 16) d_MM_isOrderLine_253 rfl ?_
      refine Wx.cVi (q := E_MM) (As := [.int 16]) 11 (d - 1) 0 0 _ d_MM_isOrderLine_255 mok_MM_eat vl_MM_133 rfl rfl rfl (Nat.le_of_ble_eq_true rfl) (by omega) (Nat.zero_le _) (Nat.zero_le _) (s_40 hS (by decide)) hF (fun y18 μ17 hS hF => ?_)
      refine Wa.if_eq 268 d_MM_isOrderLine_258 (by decide) (fun hb => ?_) (fun hb => ?_)
      · have hF := hF.1 hb
        refine Wa.iconst (v := 0) d_MM_isOrderLine_268 rfl ?_
        exact Wx.retz d_MM_isOrderLine_269 rfl (Or.inl rfl) hF
      · have hF := hF.2 hb
        refine Wa.aload_n (j := 0) d_MM_isOrderLine_261 rfl ?_
        refine Wx.cVi (q := E_MM) (As := []) 11 (d - 1) 0 0 _ d_MM_isOrderLine_262 mok_MM_isTest vl_MM_176 rfl rfl rfl (Nat.le_of_ble_eq_true rfl) (by omega) (Nat.zero_le _) (Nat.zero_le _) (s_40 hS (by decide)) hF (fun y20 μ19 hS hF => ?_)
        refine Wa.if_ne 270 d_MM_isOrderLine_265 (by decide) (fun hb => ?_) (fun hb => ?_)
        · have hF := hF.2 hb
          refine Wa.aload_n (j := 0) d_MM_isOrderLine_270 rfl ?_
          have hp21 := St.reading hS
          refine Wx.getR 11 12 d_MM_isOrderLine_271 f_MM_12 rfl fl_MM_39 (s_40 hS (by decide)) (hp21.1) ?_
          refine Wx.getR 12 14 d_MM_isOrderLine_274 f_MP_14 rfl fl_MM_173 (s_50 hp21.2) (r_50_14 hp21.2) ?_
          refine Wa.iload_n (j := 1) d_MM_isOrderLine_277 rfl ?_
          refine Wa.aload_n (j := 0) d_MM_isOrderLine_278 rfl ?_
          have hp22 := St.reading hS
          refine Wx.getR 11 12 d_MM_isOrderLine_279 f_MM_12 rfl fl_MM_39 (s_40 hS (by decide)) (hp22.1) ?_
          refine Wx.getI 12 16 d_MM_isOrderLine_282 f_MP_16 fl_MM_139 w_50 (s_50 hp22.2) ?_
          have hc23 := hF.1
          have hF := hF.2
          have hlhc23 := vp_in_lt hc23
          refine Wa.iast d_MM_isOrderLine_285 w_60 (s_60 hp21.2) hc23 ?_
          refine Wa.iconst (v := 1) d_MM_isOrderLine_286 rfl ?_
          exact Wx.retz d_MM_isOrderLine_287 rfl (Or.inr rfl) hF
        · have hF := hF.1 hb
          refine Wa.iconst (v := 0) d_MM_isOrderLine_268 rfl ?_
          exact Wx.retz d_MM_isOrderLine_269 rfl (Or.inl rfl) hF
    · have hF := hF.1 hb
      refine Wa.iconst (v := 1) d_MM_isOrderLine_250 rfl ?_
      exact Wx.retz d_MM_isOrderLine_251 rfl (Or.inr rfl) hF
set_option maxHeartbeats 4000000 in
set_option maxRecDepth 20000 in
theorem g_MM_isWay_0 {d rc rs : Nat} {Q : Option Value → Mu → Prop} {μ : Mu}  (hD : 1 ≤ d)  (hS : St μ)
    (hF : (vp_in (mI μ (hd 40 0) 9) 401 ∧ (vp_in (mI (setI μ (hd 45 0) (mI μ (hd 40 0) 9).toNatClampNeg 11) (hd 40 0) 9) 401 ∧ (Cal K_MM_isIn (d - 1) 0 0 [.int (mI (setI μ (hd 45 0) (mI μ (hd 40 0) 9).toNatClampNeg 11) (hd 42 0) (mI (setI μ (hd 45 0) (mI μ (hd 40 0) 9).toNatClampNeg 11) (hd 40 0) 9).toNatClampNeg), .int 13, .int 15] (setI μ (hd 45 0) (mI μ (hd 40 0) 9).toNatClampNeg 11) (fun r μ3 => ∃ y4, r = some (.int y4) ∧ ((y4 = 0 → Q (some (.int 0)) μ3) ∧ (¬ y4 = 0 → Q (some (.int 1)) (setI μ3 (hd 40 0) 9 ((mI μ3 (hd 40 0) 9) + (1 : Int32)))))))))) : Wx K_MM_isWay d rc rs Q 0 [(0, .ref (hd 40 0))] [] μ := by
  refine Wa.aload_n (j := 0) d_MM_isWay_0 rfl ?_
  refine Wx.getR 11 7 d_MM_isWay_1 f_MM_7 rfl fl_MM_26 (s_40 hS (by decide)) (r_40_7 hS (by decide)) ?_
  refine Wa.aload_n (j := 0) d_MM_isWay_4 rfl ?_
  refine Wx.getI 11 9 d_MM_isWay_5 f_MM_9 fl_MM_127 w_40 (s_40 hS (by decide)) ?_
  refine Wa.bipush (v := 11) d_MM_isWay_8 rfl ?_
  have hc1 := hF.1
  have hF := hF.2
  have hlhc1 := vp_in_lt hc1
  refine Wa.iast d_MM_isWay_10 w_45 (s_45 hS (by decide)) hc1 ?_
  refine Wa.aload_n (j := 0) d_MM_isWay_11 rfl ?_
  refine Wx.getR 11 4 d_MM_isWay_12 f_MM_4 rfl fl_MM_17 (s_40 hS (by decide)) (r_40_4 hS (by decide)) ?_
  refine Wa.aload_n (j := 0) d_MM_isWay_15 rfl ?_
  refine Wx.getI 11 9 d_MM_isWay_16 f_MM_9 fl_MM_127 w_40 (s_40 hS (by decide)) ?_
  have hc2 := hF.1
  have hF := hF.2
  have hlhc2 := vp_in_lt hc2
  refine Wx.iald d_MM_isWay_19 w_42 (s_42 hS (by decide)) hc2 ?_
  refine Wa.bipush (v := 13) d_MM_isWay_20 rfl ?_
  refine Wa.bipush (v := 15) d_MM_isWay_22 rfl ?_
  refine Wx.cSi (As := [.int (mI (setI μ (hd 45 0) (mI μ (hd 40 0) 9).toNatClampNeg 11) (hd 42 0) (mI (setI μ (hd 45 0) (mI μ (hd 40 0) 9).toNatClampNeg 11) (hd 40 0) 9).toNatClampNeg), .int 13, .int 15]) (d - 1) 0 0 _ d_MM_isWay_24 mok_MM_isIn sl_MM_63 rfl rfl (Nat.le_of_ble_eq_true rfl) (by omega) (Nat.zero_le _) (Nat.zero_le _) hF (fun y4 μ3 hS hF => ?_)
  refine Wa.if_ne 32 d_MM_isWay_27 (by decide) (fun hb => ?_) (fun hb => ?_)
  · have hF := hF.2 hb
    refine Wa.aload_n (j := 0) d_MM_isWay_32 rfl ?_
    refine Wa.dup d_MM_isWay_33 rfl ?_
    refine Wx.getI 11 9 d_MM_isWay_34 f_MM_9 fl_MM_127 w_40 (s_40 hS (by decide)) ?_
    refine Wa.iconst (v := 1) d_MM_isWay_37 rfl ?_
    refine Wa.iadd d_MM_isWay_38 ?_
    refine Wx.putI 11 9 d_MM_isWay_39 f_MM_9 ok_MM fl_MM_127 (Or.inl rfl) w_40 (s_40 hS (by decide)) ?_
    refine Wa.iconst (v := 1) d_MM_isWay_42 rfl ?_
    exact Wx.retz d_MM_isWay_43 rfl (Or.inr rfl) hF
  · have hF := hF.1 hb
    refine Wa.iconst (v := 0) d_MM_isWay_30 rfl ?_
    exact Wx.retz d_MM_isWay_31 rfl (Or.inl rfl) hF
theorem e_MM_isWay {d rc rs : Nat} {Q : Option Value → Mu → Prop} {μ : Mu}  (hk : Wx K_MM_isWay d rc rs (fun r μ' => St μ' ∧ Q r μ') 0 [(0, .ref (hd 40 0))] [] μ) : Cal K_MM_isWay d rc rs [.ref (hd 40 0)] μ Q := Cal.of (by decide +kernel) rfl rfl (Nat.le_of_ble_eq_true rfl) rfl hk
set_option maxHeartbeats 4000000 in
set_option maxRecDepth 20000 in
theorem g_MM_isTest_0 {d rc rs : Nat} {Q : Option Value → Mu → Prop} {μ : Mu}  (hD : 1 ≤ d)  (hS : St μ)
    (hF : (Cal K_MM_isBoth (d - 1) 0 0 [.ref (hd 40 0)] μ (fun r μ1 => ∃ y2, r = some (.int y2) ∧ ((y2 = 0 → Q (some (.int 0)) μ1) ∧ (¬ y2 = 0 → Wx K_MM_isTest d rc rs Q 9 [(0, .ref (hd 40 0))] [] μ1))))) : Wx K_MM_isTest d rc rs Q 0 [(0, .ref (hd 40 0))] [] μ := by
  refine Wa.aload_n (j := 0) d_MM_isTest_0 rfl ?_
  refine Wx.cVi (q := E_MM) (As := []) 11 (d - 1) 0 0 _ d_MM_isTest_1 mok_MM_isBoth vl_MM_179 rfl rfl rfl (Nat.le_of_ble_eq_true rfl) (by omega) (Nat.zero_le _) (Nat.zero_le _) (s_40 hS (by decide)) hF (fun y2 μ1 hS hF => ?_)
  refine Wa.if_ne 9 d_MM_isTest_4 (by decide) (fun hb => ?_) (fun hb => ?_)
  · have hF := hF.2 hb
    exact Wa.loc [0] rfl hF
  · have hF := hF.1 hb
    refine Wa.iconst (v := 0) d_MM_isTest_7 rfl ?_
    exact Wx.retz d_MM_isTest_8 rfl (Or.inl rfl) hF
theorem e_MM_isTest {d rc rs : Nat} {Q : Option Value → Mu → Prop} {μ : Mu}  (hk : Wx K_MM_isTest d rc rs (fun r μ' => St μ' ∧ Q r μ') 0 [(0, .ref (hd 40 0))] [] μ) : Cal K_MM_isTest d rc rs [.ref (hd 40 0)] μ Q := Cal.of (by decide +kernel) rfl rfl (Nat.le_of_ble_eq_true rfl) rfl hk
set_option maxHeartbeats 4000000 in
set_option maxRecDepth 20000 in
theorem g_MM_isTest_9 {d rc rs : Nat} {Q : Option Value → Mu → Prop} {μ : Mu}  (hD : 1 ≤ d)  (hS : St μ)
    (hF : (Cal K_MM_eat (d - 1) 0 0 [.ref (hd 40 0), .int 26] μ (fun r μ1 => ∃ y2, r = some (.int y2) ∧ ((y2 = 0 → Q (some (.int 1)) μ1) ∧ (¬ y2 = 0 → (Cal K_MM_isBoth (d - 1) 0 0 [.ref (hd 40 0)] μ1 (fun r μ3 => ∃ y4, r = some (.int y4) ∧ ((y4 = 0 → Q (some (.int 0)) μ3) ∧ (¬ y4 = 0 → (Cal K_MM_put (d - 1) 0 0 [.ref (hd 40 0), .int 26] μ3 (fun r μ5 => r = none ∧ Wx K_MM_isTest d rc rs Q 9 [(0, .ref (hd 40 0))] [] μ5))))))))))) : Wx K_MM_isTest d rc rs Q 9 [(0, .ref (hd 40 0))] [] μ := by
  refine Wa.aload_n (j := 0) d_MM_isTest_9 rfl ?_
  refine Wa.bipush (v := 26) d_MM_isTest_10 rfl ?_
  refine Wx.cVi (q := E_MM) (As := [.int 26]) 11 (d - 1) 0 0 _ d_MM_isTest_12 mok_MM_eat vl_MM_133 rfl rfl rfl (Nat.le_of_ble_eq_true rfl) (by omega) (Nat.zero_le _) (Nat.zero_le _) (s_40 hS (by decide)) hF (fun y2 μ1 hS hF => ?_)
  refine Wa.if_eq 36 d_MM_isTest_15 (by decide) (fun hb => ?_) (fun hb => ?_)
  · have hF := hF.1 hb
    refine Wa.iconst (v := 1) d_MM_isTest_36 rfl ?_
    exact Wx.retz d_MM_isTest_37 rfl (Or.inr rfl) hF
  · have hF := hF.2 hb
    refine Wa.aload_n (j := 0) d_MM_isTest_18 rfl ?_
    refine Wx.cVi (q := E_MM) (As := []) 11 (d - 1) 0 0 _ d_MM_isTest_19 mok_MM_isBoth vl_MM_179 rfl rfl rfl (Nat.le_of_ble_eq_true rfl) (by omega) (Nat.zero_le _) (Nat.zero_le _) (s_40 hS (by decide)) hF (fun y4 μ3 hS hF => ?_)
    refine Wa.if_ne 27 d_MM_isTest_22 (by decide) (fun hb => ?_) (fun hb => ?_)
    · have hF := hF.2 hb
      refine Wa.aload_n (j := 0) d_MM_isTest_27 rfl ?_
      refine Wa.bipush (v := 26) d_MM_isTest_28 rfl ?_
      refine Wx.cVv (q := E_MM) (As := [.int 26]) 11 (d - 1) 0 0 _ d_MM_isTest_30 mok_MM_put vl_MM_182 rfl rfl rfl (Nat.le_of_ble_eq_true rfl) (by omega) (Nat.zero_le _) (Nat.zero_le _) (s_40 hS (by decide)) hF (fun μ5 hS hF => ?_)
      refine Wa.goto 9 d_MM_isTest_33 (by decide) ?_
      exact Wa.loc [0] rfl hF
    · have hF := hF.1 hb
      refine Wa.iconst (v := 0) d_MM_isTest_25 rfl ?_
      exact Wx.retz d_MM_isTest_26 rfl (Or.inl rfl) hF
set_option maxHeartbeats 4000000 in
set_option maxRecDepth 20000 in
theorem g_MM_isBoth_0 {d rc rs : Nat} {Q : Option Value → Mu → Prop} {μ : Mu}  (hD : 1 ≤ d)  (hS : St μ)
    (hF : (Cal K_MM_isSingle (d - 1) 0 0 [.ref (hd 40 0)] μ (fun r μ1 => ∃ y2, r = some (.int y2) ∧ ((y2 = 0 → Q (some (.int 0)) μ1) ∧ (¬ y2 = 0 → Wx K_MM_isBoth d rc rs Q 9 [(0, .ref (hd 40 0))] [] μ1))))) : Wx K_MM_isBoth d rc rs Q 0 [(0, .ref (hd 40 0))] [] μ := by
  refine Wa.aload_n (j := 0) d_MM_isBoth_0 rfl ?_
  refine Wx.cVi (q := E_MM) (As := []) 11 (d - 1) 0 0 _ d_MM_isBoth_1 mok_MM_isSingle vl_MM_186 rfl rfl rfl (Nat.le_of_ble_eq_true rfl) (by omega) (Nat.zero_le _) (Nat.zero_le _) (s_40 hS (by decide)) hF (fun y2 μ1 hS hF => ?_)
  refine Wa.if_ne 9 d_MM_isBoth_4 (by decide) (fun hb => ?_) (fun hb => ?_)
  · have hF := hF.2 hb
    exact Wa.loc [0] rfl hF
  · have hF := hF.1 hb
    refine Wa.iconst (v := 0) d_MM_isBoth_7 rfl ?_
    exact Wx.retz d_MM_isBoth_8 rfl (Or.inl rfl) hF
theorem e_MM_isBoth {d rc rs : Nat} {Q : Option Value → Mu → Prop} {μ : Mu}  (hk : Wx K_MM_isBoth d rc rs (fun r μ' => St μ' ∧ Q r μ') 0 [(0, .ref (hd 40 0))] [] μ) : Cal K_MM_isBoth d rc rs [.ref (hd 40 0)] μ Q := Cal.of (by decide +kernel) rfl rfl (Nat.le_of_ble_eq_true rfl) rfl hk
set_option maxHeartbeats 4000000 in
set_option maxRecDepth 20000 in
theorem g_MM_isBoth_9 {d rc rs : Nat} {Q : Option Value → Mu → Prop} {μ : Mu}  (hD : 1 ≤ d)  (hS : St μ)
    (hF : (Cal K_MM_eat (d - 1) 0 0 [.ref (hd 40 0), .int 25] μ (fun r μ1 => ∃ y2, r = some (.int y2) ∧ ((y2 = 0 → Q (some (.int 1)) μ1) ∧ (¬ y2 = 0 → (Cal K_MM_isSingle (d - 1) 0 0 [.ref (hd 40 0)] μ1 (fun r μ3 => ∃ y4, r = some (.int y4) ∧ ((y4 = 0 → Q (some (.int 0)) μ3) ∧ (¬ y4 = 0 → (Cal K_MM_put (d - 1) 0 0 [.ref (hd 40 0), .int 25] μ3 (fun r μ5 => r = none ∧ Wx K_MM_isBoth d rc rs Q 9 [(0, .ref (hd 40 0))] [] μ5))))))))))) : Wx K_MM_isBoth d rc rs Q 9 [(0, .ref (hd 40 0))] [] μ := by
  refine Wa.aload_n (j := 0) d_MM_isBoth_9 rfl ?_
  refine Wa.bipush (v := 25) d_MM_isBoth_10 rfl ?_
  refine Wx.cVi (q := E_MM) (As := [.int 25]) 11 (d - 1) 0 0 _ d_MM_isBoth_12 mok_MM_eat vl_MM_133 rfl rfl rfl (Nat.le_of_ble_eq_true rfl) (by omega) (Nat.zero_le _) (Nat.zero_le _) (s_40 hS (by decide)) hF (fun y2 μ1 hS hF => ?_)
  refine Wa.if_eq 36 d_MM_isBoth_15 (by decide) (fun hb => ?_) (fun hb => ?_)
  · have hF := hF.1 hb
    refine Wa.iconst (v := 1) d_MM_isBoth_36 rfl ?_
    exact Wx.retz d_MM_isBoth_37 rfl (Or.inr rfl) hF
  · have hF := hF.2 hb
    refine Wa.aload_n (j := 0) d_MM_isBoth_18 rfl ?_
    refine Wx.cVi (q := E_MM) (As := []) 11 (d - 1) 0 0 _ d_MM_isBoth_19 mok_MM_isSingle vl_MM_186 rfl rfl rfl (Nat.le_of_ble_eq_true rfl) (by omega) (Nat.zero_le _) (Nat.zero_le _) (s_40 hS (by decide)) hF (fun y4 μ3 hS hF => ?_)
    refine Wa.if_ne 27 d_MM_isBoth_22 (by decide) (fun hb => ?_) (fun hb => ?_)
    · have hF := hF.2 hb
      refine Wa.aload_n (j := 0) d_MM_isBoth_27 rfl ?_
      refine Wa.bipush (v := 25) d_MM_isBoth_28 rfl ?_
      refine Wx.cVv (q := E_MM) (As := [.int 25]) 11 (d - 1) 0 0 _ d_MM_isBoth_30 mok_MM_put vl_MM_182 rfl rfl rfl (Nat.le_of_ble_eq_true rfl) (by omega) (Nat.zero_le _) (Nat.zero_le _) (s_40 hS (by decide)) hF (fun μ5 hS hF => ?_)
      refine Wa.goto 9 d_MM_isBoth_33 (by decide) ?_
      exact Wa.loc [0] rfl hF
    · have hF := hF.1 hb
      refine Wa.iconst (v := 0) d_MM_isBoth_25 rfl ?_
      exact Wx.retz d_MM_isBoth_26 rfl (Or.inl rfl) hF
set_option maxHeartbeats 4000000 in
set_option maxRecDepth 20000 in
theorem g_MM_isDeeper_0 {d rc rs : Nat} {Q : Option Value → Mu → Prop} {μ : Mu}  (hD : 1 ≤ d)  (hS : St μ)
    (hF : (((mI μ (hd 40 0) 10) = 8 → Q (some (.int 0)) μ) ∧ (¬ (mI μ (hd 40 0) 10) = 8 → Q (some (.int 1)) (setI (setI μ (hd 40 0) 10 ((mI μ (hd 40 0) 10) + (1 : Int32))) (hd 40 0) 9 ((mI (setI μ (hd 40 0) 10 ((mI μ (hd 40 0) 10) + (1 : Int32))) (hd 40 0) 9) + (1 : Int32)))))) : Wx K_MM_isDeeper d rc rs Q 0 [(0, .ref (hd 40 0))] [] μ := by
  refine Wa.aload_n (j := 0) d_MM_isDeeper_0 rfl ?_
  refine Wx.getI 11 10 d_MM_isDeeper_1 f_MM_10 fl_MM_189 w_40 (s_40 hS (by decide)) ?_
  refine Wa.bipush (v := 8) d_MM_isDeeper_4 rfl ?_
  refine Wa.icmp_ne 11 d_MM_isDeeper_6 (by decide) (fun hb => ?_) (fun hb => ?_)
  · have hF := hF.2 hb
    refine Wa.aload_n (j := 0) d_MM_isDeeper_11 rfl ?_
    refine Wa.dup d_MM_isDeeper_12 rfl ?_
    refine Wx.getI 11 10 d_MM_isDeeper_13 f_MM_10 fl_MM_189 w_40 (s_40 hS (by decide)) ?_
    refine Wa.iconst (v := 1) d_MM_isDeeper_16 rfl ?_
    refine Wa.iadd d_MM_isDeeper_17 ?_
    refine Wx.putI 11 10 d_MM_isDeeper_18 f_MM_10 ok_MM fl_MM_189 (Or.inl rfl) w_40 (s_40 hS (by decide)) ?_
    refine Wa.aload_n (j := 0) d_MM_isDeeper_21 rfl ?_
    refine Wa.dup d_MM_isDeeper_22 rfl ?_
    refine Wx.getI 11 9 d_MM_isDeeper_23 f_MM_9 fl_MM_127 w_40 (s_40 hS (by decide)) ?_
    refine Wa.iconst (v := 1) d_MM_isDeeper_26 rfl ?_
    refine Wa.iadd d_MM_isDeeper_27 ?_
    refine Wx.putI 11 9 d_MM_isDeeper_28 f_MM_9 ok_MM fl_MM_127 (Or.inl rfl) w_40 (s_40 hS (by decide)) ?_
    refine Wa.iconst (v := 1) d_MM_isDeeper_31 rfl ?_
    exact Wx.retz d_MM_isDeeper_32 rfl (Or.inr rfl) hF
  · have hF := hF.1 hb
    refine Wa.iconst (v := 0) d_MM_isDeeper_9 rfl ?_
    exact Wx.retz d_MM_isDeeper_10 rfl (Or.inl rfl) hF
theorem e_MM_isDeeper {d rc rs : Nat} {Q : Option Value → Mu → Prop} {μ : Mu}  (hk : Wx K_MM_isDeeper d rc rs (fun r μ' => St μ' ∧ Q r μ') 0 [(0, .ref (hd 40 0))] [] μ) : Cal K_MM_isDeeper d rc rs [.ref (hd 40 0)] μ Q := Cal.of (by decide +kernel) rfl rfl (Nat.le_of_ble_eq_true rfl) rfl hk
set_option maxHeartbeats 4000000 in
set_option maxRecDepth 20000 in
theorem g_MM_isName_0 {d rc rs : Nat} {Q : Option Value → Mu → Prop} {μ : Mu} {x1 : Int32} (hD : 1 ≤ d)  (hS : St μ)
    (hF : (vp_in (mI μ (hd 50 (px μ (hd 40 0) 12)) 18) 400 ∧ (∀ μ6 : Mu, μ6 = (setI (setI μ (hd 62 (px μ (hd 40 0) 12)) (mI μ (hd 50 (px μ (hd 40 0) 12)) 18).toNatClampNeg (mI μ (hd 50 (px μ (hd 40 0) 12)) 16)) (hd 50 (px μ (hd 40 0) 12)) 18 ((mI (setI μ (hd 62 (px μ (hd 40 0) 12)) (mI μ (hd 50 (px μ (hd 40 0) 12)) 18).toNatClampNeg (mI μ (hd 50 (px μ (hd 40 0) 12)) 16)) (hd 50 (px μ (hd 40 0) 12)) 18) + (1 : Int32))) → (Cal K_MM_put (d - 1) 0 0 [.ref (hd 40 0), .int (mI μ6 (hd 40 0) 9)] μ6 (fun r μ7 => r = none ∧ (Cal K_MM_eatAs (d - 1) 0 0 [.ref (hd 40 0), .int 40, .int x1] μ7 (fun r μ8 => ∃ y9, r = some (.int y9) ∧ ((y9 = 0 ∨ y9 = 1) ∧ Q (some (.int y9)) μ8)))))))) : Wx K_MM_isName d rc rs Q 0 [(0, .ref (hd 40 0)), (1, .int x1)] [] μ := by
  refine Wa.aload_n (j := 0) d_MM_isName_0 rfl ?_
  have hp1 := St.reading hS
  refine Wx.getR 11 12 d_MM_isName_1 f_MM_12 rfl fl_MM_39 (s_40 hS (by decide)) (hp1.1) ?_
  refine Wx.getR 12 17 d_MM_isName_4 f_MP_17 rfl fl_MM_192 (s_50 hp1.2) (r_50_17 hp1.2) ?_
  refine Wa.aload_n (j := 0) d_MM_isName_7 rfl ?_
  have hp2 := St.reading hS
  refine Wx.getR 11 12 d_MM_isName_8 f_MM_12 rfl fl_MM_39 (s_40 hS (by decide)) (hp2.1) ?_
  refine Wx.getI 12 18 d_MM_isName_11 f_MP_18 fl_MM_195 w_50 (s_50 hp2.2) ?_
  refine Wa.aload_n (j := 0) d_MM_isName_14 rfl ?_
  have hp3 := St.reading hS
  refine Wx.getR 11 12 d_MM_isName_15 f_MM_12 rfl fl_MM_39 (s_40 hS (by decide)) (hp3.1) ?_
  refine Wx.getI 12 16 d_MM_isName_18 f_MP_16 fl_MM_139 w_50 (s_50 hp3.2) ?_
  have hc4 := hF.1
  have hF := hF.2
  have hlhc4 := vp_in_lt hc4
  refine Wa.iast d_MM_isName_21 w_62 (s_62 hp1.2) hc4 ?_
  refine Wa.aload_n (j := 0) d_MM_isName_22 rfl ?_
  have hp5 := St.reading hS
  refine Wx.getR 11 12 d_MM_isName_23 f_MM_12 rfl fl_MM_39 (s_40 hS (by decide)) (hp5.1) ?_
  refine Wa.dup d_MM_isName_26 rfl ?_
  refine Wx.getI 12 18 d_MM_isName_27 f_MP_18 fl_MM_195 w_50 (s_50 hp5.2) ?_
  refine Wa.iconst (v := 1) d_MM_isName_30 rfl ?_
  refine Wa.iadd d_MM_isName_31 ?_
  refine Wx.putI 12 18 d_MM_isName_32 f_MP_18 ok_MP fl_MM_195 (Or.inl rfl) w_50 (s_50 hp5.2) ?_
  suffices hh : ∀ μ6 : Mu, μ6 = (setI (setI μ (hd 62 (px μ (hd 40 0) 12)) (mI μ (hd 50 (px μ (hd 40 0) 12)) 18).toNatClampNeg (mI μ (hd 50 (px μ (hd 40 0) 12)) 16)) (hd 50 (px μ (hd 40 0) 12)) 18 ((mI (setI μ (hd 62 (px μ (hd 40 0) 12)) (mI μ (hd 50 (px μ (hd 40 0) 12)) 18).toNatClampNeg (mI μ (hd 50 (px μ (hd 40 0) 12)) 16)) (hd 50 (px μ (hd 40 0) 12)) 18) + (1 : Int32))) → Wx K_MM_isName d rc rs Q 35 [(0, .ref (hd 40 0)), (1, .int x1)] [] μ6 from hh _ rfl
  intro μ6 em
  have hF := hF μ6 em
  have hS : St μ6 := by rw [em]; exact hS
  refine Wa.aload_n (j := 0) d_MM_isName_35 rfl ?_
  refine Wa.aload_n (j := 0) d_MM_isName_36 rfl ?_
  refine Wx.getI 11 9 d_MM_isName_37 f_MM_9 fl_MM_127 w_40 (s_40 hS (by decide)) ?_
  refine Wx.cVv (q := E_MM) (As := [.int (mI μ6 (hd 40 0) 9)]) 11 (d - 1) 0 0 _ d_MM_isName_40 mok_MM_put vl_MM_182 rfl rfl rfl (Nat.le_of_ble_eq_true rfl) (by omega) (Nat.zero_le _) (Nat.zero_le _) (s_40 hS (by decide)) hF (fun μ7 hS hF => ?_)
  refine Wa.aload_n (j := 0) d_MM_isName_43 rfl ?_
  refine Wa.bipush (v := 40) d_MM_isName_44 rfl ?_
  refine Wa.iload_n (j := 1) d_MM_isName_46 rfl ?_
  refine Wx.cVi (q := E_MM) (As := [.int 40, .int x1]) 11 (d - 1) 0 0 _ d_MM_isName_47 mok_MM_eatAs vl_MM_154 rfl rfl rfl (Nat.le_of_ble_eq_true rfl) (by omega) (Nat.zero_le _) (Nat.zero_le _) (s_40 hS (by decide)) hF (fun y9 μ8 hS hF => ?_)
  exact Wx.retz d_MM_isName_50 rfl hF.1 hF.2
theorem e_MM_isName {d rc rs : Nat} {Q : Option Value → Mu → Prop} {μ : Mu} {x1 : Int32} (hk : Wx K_MM_isName d rc rs (fun r μ' => St μ' ∧ Q r μ') 0 [(0, .ref (hd 40 0)), (1, .int x1)] [] μ) : Cal K_MM_isName d rc rs [.ref (hd 40 0), .int x1] μ Q := Cal.of (by decide +kernel) rfl rfl (Nat.le_of_ble_eq_true rfl) rfl hk
set_option maxHeartbeats 4000000 in
set_option maxRecDepth 20000 in
theorem g_MM_isNamed_0 {d rc rs : Nat} {Q : Option Value → Mu → Prop} {μ : Mu} {x1 : Int32} (hD : 1 ≤ d)  (hS : St μ)
    (hF : (vp_in (mI μ (hd 40 0) 9) 401 ∧ (Cal K_MM_put (d - 1) 0 0 [.ref (hd 40 0), .int (mI μ (hd 42 0) (mI μ (hd 40 0) 9).toNatClampNeg)] μ (fun r μ2 => r = none ∧ (Cal K_MM_isName (d - 1) 0 0 [.ref (hd 40 0), .int x1] (setI μ2 (hd 40 0) 9 ((mI μ2 (hd 40 0) 9) + (1 : Int32))) (fun r μ3 => ∃ y4, r = some (.int y4) ∧ ((y4 = 0 ∨ y4 = 1) ∧ Q (some (.int y4)) μ3))))))) : Wx K_MM_isNamed d rc rs Q 0 [(0, .ref (hd 40 0)), (1, .int x1)] [] μ := by
  refine Wa.aload_n (j := 0) d_MM_isNamed_0 rfl ?_
  refine Wa.aload_n (j := 0) d_MM_isNamed_1 rfl ?_
  refine Wx.getR 11 4 d_MM_isNamed_2 f_MM_4 rfl fl_MM_17 (s_40 hS (by decide)) (r_40_4 hS (by decide)) ?_
  refine Wa.aload_n (j := 0) d_MM_isNamed_5 rfl ?_
  refine Wx.getI 11 9 d_MM_isNamed_6 f_MM_9 fl_MM_127 w_40 (s_40 hS (by decide)) ?_
  have hc1 := hF.1
  have hF := hF.2
  have hlhc1 := vp_in_lt hc1
  refine Wx.iald d_MM_isNamed_9 w_42 (s_42 hS (by decide)) hc1 ?_
  refine Wx.cVv (q := E_MM) (As := [.int (mI μ (hd 42 0) (mI μ (hd 40 0) 9).toNatClampNeg)]) 11 (d - 1) 0 0 _ d_MM_isNamed_10 mok_MM_put vl_MM_182 rfl rfl rfl (Nat.le_of_ble_eq_true rfl) (by omega) (Nat.zero_le _) (Nat.zero_le _) (s_40 hS (by decide)) hF (fun μ2 hS hF => ?_)
  refine Wa.aload_n (j := 0) d_MM_isNamed_13 rfl ?_
  refine Wa.dup d_MM_isNamed_14 rfl ?_
  refine Wx.getI 11 9 d_MM_isNamed_15 f_MM_9 fl_MM_127 w_40 (s_40 hS (by decide)) ?_
  refine Wa.iconst (v := 1) d_MM_isNamed_18 rfl ?_
  refine Wa.iadd d_MM_isNamed_19 ?_
  refine Wx.putI 11 9 d_MM_isNamed_20 f_MM_9 ok_MM fl_MM_127 (Or.inl rfl) w_40 (s_40 hS (by decide)) ?_
  refine Wa.aload_n (j := 0) d_MM_isNamed_23 rfl ?_
  refine Wa.iload_n (j := 1) d_MM_isNamed_24 rfl ?_
  refine Wx.cVi (q := E_MM) (As := [.int x1]) 11 (d - 1) 0 0 _ d_MM_isNamed_25 mok_MM_isName vl_MM_198 rfl rfl rfl (Nat.le_of_ble_eq_true rfl) (by omega) (Nat.zero_le _) (Nat.zero_le _) (s_40 hS (by decide)) hF (fun y4 μ3 hS hF => ?_)
  exact Wx.retz d_MM_isNamed_28 rfl hF.1 hF.2
theorem e_MM_isNamed {d rc rs : Nat} {Q : Option Value → Mu → Prop} {μ : Mu} {x1 : Int32} (hk : Wx K_MM_isNamed d rc rs (fun r μ' => St μ' ∧ Q r μ') 0 [(0, .ref (hd 40 0)), (1, .int x1)] [] μ) : Cal K_MM_isNamed d rc rs [.ref (hd 40 0), .int x1] μ Q := Cal.of (by decide +kernel) rfl rfl (Nat.le_of_ble_eq_true rfl) rfl hk
set_option maxHeartbeats 4000000 in
set_option maxRecDepth 20000 in
theorem g_MM_isSingle_0 {d rc rs : Nat} {Q : Option Value → Mu → Prop} {μ : Mu}  (hD : 1 ≤ d)  (hS : St μ)
    (hF : (Cal K_MM_is (d - 1) 0 0 [.ref (hd 40 0), .int 24] μ (fun r μ1 => ∃ y2, r = some (.int y2) ∧ ((y2 = 0 → (Cal K_MM_isSign (d - 1) 0 0 [.ref (hd 40 0), .int 91] μ1 (fun r μ3 => ∃ y4, r = some (.int y4) ∧ ((y4 = 0 → (Cal K_MM_is (d - 1) 0 0 [.ref (hd 40 0), .int 22] μ3 (fun r μ5 => ∃ y6, r = some (.int y6) ∧ ((y6 = 0 → (Cal K_MM_is (d - 1) 0 0 [.ref (hd 40 0), .int 23] μ5 (fun r μ7 => ∃ y8, r = some (.int y8) ∧ ((y8 = 0 → (Cal K_MM_isSum (d - 1) 0 0 [.ref (hd 40 0)] μ7 (fun r μ9 => ∃ y10, r = some (.int y10) ∧ ((y10 = 0 → Q (some (.int 0)) μ9) ∧ (¬ y10 = 0 → (Cal K_MM_isSign (d - 1) 0 0 [.ref (hd 40 0), .int 60] μ9 (fun r μ11 => ∃ y12, r = some (.int y12) ∧ ((y12 = 0 → (Cal K_MM_isSign (d - 1) 0 0 [.ref (hd 40 0), .int 62] μ11 (fun r μ13 => ∃ y14, r = some (.int y14) ∧ ((y14 = 0 → (Cal K_MM_isSign (d - 1) 0 0 [.ref (hd 40 0), .int 61] μ13 (fun r μ15 => ∃ y16, r = some (.int y16) ∧ ((y16 = 0 → (Cal K_MM_is (d - 1) 0 0 [.ref (hd 40 0), .int 300] μ15 (fun r μ17 => ∃ y18, r = some (.int y18) ∧ ((y18 = 0 → (Cal K_MM_is (d - 1) 0 0 [.ref (hd 40 0), .int 301] μ17 (fun r μ19 => ∃ y20, r = some (.int y20) ∧ ((y20 = 0 → ((((-1) : Int32) = (-1) → Q (some (.int 0)) μ19) ∧ (¬ ((-1) : Int32) = (-1) → (Cal K_MM_isSum (d - 1) 0 0 [.ref (hd 40 0)] (setI μ19 (hd 40 0) 9 ((mI μ19 (hd 40 0) 9) + (1 : Int32))) (fun r μ21 => ∃ y22, r = some (.int y22) ∧ ((y22 = 0 → Q (some (.int 0)) μ21) ∧ (¬ y22 = 0 → (Cal K_MM_put (d - 1) 0 0 [.ref (hd 40 0), .int (-1)] μ21 (fun r μ23 => r = none ∧ Q (some (.int 1)) μ23))))))))) ∧ (¬ y20 = 0 → (((44 : Int32) = (-1) → Q (some (.int 0)) μ19) ∧ (¬ (44 : Int32) = (-1) → (Cal K_MM_isSum (d - 1) 0 0 [.ref (hd 40 0)] (setI μ19 (hd 40 0) 9 ((mI μ19 (hd 40 0) 9) + (1 : Int32))) (fun r μ24 => ∃ y25, r = some (.int y25) ∧ ((y25 = 0 → Q (some (.int 0)) μ24) ∧ (¬ y25 = 0 → (Cal K_MM_put (d - 1) 0 0 [.ref (hd 40 0), .int 44] μ24 (fun r μ26 => r = none ∧ Q (some (.int 1)) μ26))))))))))))) ∧ (¬ y18 = 0 → (((43 : Int32) = (-1) → Q (some (.int 0)) μ17) ∧ (¬ (43 : Int32) = (-1) → (Cal K_MM_isSum (d - 1) 0 0 [.ref (hd 40 0)] (setI μ17 (hd 40 0) 9 ((mI μ17 (hd 40 0) 9) + (1 : Int32))) (fun r μ27 => ∃ y28, r = some (.int y28) ∧ ((y28 = 0 → Q (some (.int 0)) μ27) ∧ (¬ y28 = 0 → (Cal K_MM_put (d - 1) 0 0 [.ref (hd 40 0), .int 43] μ27 (fun r μ29 => r = none ∧ Q (some (.int 1)) μ29))))))))))))) ∧ (¬ y16 = 0 → (((42 : Int32) = (-1) → Q (some (.int 0)) μ15) ∧ (¬ (42 : Int32) = (-1) → (Cal K_MM_isSum (d - 1) 0 0 [.ref (hd 40 0)] (setI μ15 (hd 40 0) 9 ((mI μ15 (hd 40 0) 9) + (1 : Int32))) (fun r μ30 => ∃ y31, r = some (.int y31) ∧ ((y31 = 0 → Q (some (.int 0)) μ30) ∧ (¬ y31 = 0 → (Cal K_MM_put (d - 1) 0 0 [.ref (hd 40 0), .int 42] μ30 (fun r μ32 => r = none ∧ Q (some (.int 1)) μ32))))))))))))) ∧ (¬ y14 = 0 → (((39 : Int32) = (-1) → Q (some (.int 0)) μ13) ∧ (¬ (39 : Int32) = (-1) → (Cal K_MM_isSum (d - 1) 0 0 [.ref (hd 40 0)] (setI μ13 (hd 40 0) 9 ((mI μ13 (hd 40 0) 9) + (1 : Int32))) (fun r μ33 => ∃ y34, r = some (.int y34) ∧ ((y34 = 0 → Q (some (.int 0)) μ33) ∧ (¬ y34 = 0 → (Cal K_MM_put (d - 1) 0 0 [.ref (hd 40 0), .int 39] μ33 (fun r μ35 => r = none ∧ Q (some (.int 1)) μ35))))))))))))) ∧ (¬ y12 = 0 → (((38 : Int32) = (-1) → Q (some (.int 0)) μ11) ∧ (¬ (38 : Int32) = (-1) → (Cal K_MM_isSum (d - 1) 0 0 [.ref (hd 40 0)] (setI μ11 (hd 40 0) 9 ((mI μ11 (hd 40 0) 9) + (1 : Int32))) (fun r μ36 => ∃ y37, r = some (.int y37) ∧ ((y37 = 0 → Q (some (.int 0)) μ36) ∧ (¬ y37 = 0 → (Cal K_MM_put (d - 1) 0 0 [.ref (hd 40 0), .int 38] μ36 (fun r μ38 => r = none ∧ Q (some (.int 1)) μ38))))))))))))))))) ∧ (¬ y8 = 0 → Wx K_MM_isSingle d rc rs Q 103 [(0, .ref (hd 40 0))] [] μ7))))) ∧ (¬ y6 = 0 → Wx K_MM_isSingle d rc rs Q 103 [(0, .ref (hd 40 0))] [] μ5))))) ∧ (¬ y4 = 0 → (Cal K_MM_isDeeper (d - 1) 0 0 [.ref (hd 40 0)] μ3 (fun r μ39 => ∃ y40, r = some (.int y40) ∧ ((y40 = 0 → Wx K_MM_isSingle d rc rs Q 66 [] [] μ39) ∧ (¬ y40 = 0 → (Cal K_MM_isTest (d - 1) 0 0 [.ref (hd 40 0)] μ39 (fun r μ41 => ∃ y42, r = some (.int y42) ∧ ((y42 = 0 → Wx K_MM_isSingle d rc rs Q 66 [] [] μ41) ∧ (¬ y42 = 0 → (Cal K_MM_eatSign (d - 1) 0 0 [.ref (hd 40 0), .int 93] (setI μ41 (hd 40 0) 10 ((mI μ41 (hd 40 0) 10) - (1 : Int32))) (fun r μ43 => ∃ y44, r = some (.int y44) ∧ ((y44 = 0 ∨ y44 = 1) ∧ Q (some (.int y44)) μ43)))))))))))))))) ∧ (¬ y2 = 0 → (Cal K_MM_isDeeper (d - 1) 0 0 [.ref (hd 40 0)] μ1 (fun r μ45 => ∃ y46, r = some (.int y46) ∧ ((y46 = 0 → Wx K_MM_isSingle d rc rs Q 23 [] [] μ45) ∧ (¬ y46 = 0 → (Cal K_MM_isSingle (d - 1) 0 0 [.ref (hd 40 0)] μ45 (fun r μ47 => ∃ y48, r = some (.int y48) ∧ ((y48 = 0 → Wx K_MM_isSingle d rc rs Q 23 [] [] μ47) ∧ (¬ y48 = 0 → (Cal K_MM_put (d - 1) 0 0 [.ref (hd 40 0), .int 24] (setI μ47 (hd 40 0) 10 ((mI μ47 (hd 40 0) 10) - (1 : Int32))) (fun r μ49 => r = none ∧ Q (some (.int 1)) μ49))))))))))))))) : Wx K_MM_isSingle d rc rs Q 0 [(0, .ref (hd 40 0))] [] μ := by
  refine Wa.aload_n (j := 0) d_MM_isSingle_0 rfl ?_
  refine Wa.bipush (v := 24) d_MM_isSingle_1 rfl ?_
  refine Wx.cVi (q := E_MM) (As := [.int 24]) 11 (d - 1) 0 0 _ d_MM_isSingle_3 mok_MM_is vl_MM_130 rfl rfl rfl (Nat.le_of_ble_eq_true rfl) (by omega) (Nat.zero_le _) (Nat.zero_le _) (s_40 hS (by decide)) hF (fun y2 μ1 hS hF => ?_)
  refine Wa.if_eq 43 d_MM_isSingle_6 (by decide) (fun hb => ?_) (fun hb => ?_)
  · have hF := hF.1 hb
    refine Wa.aload_n (j := 0) d_MM_isSingle_43 rfl ?_
    refine Wa.bipush (v := 91) d_MM_isSingle_44 rfl ?_
    refine Wx.cVi (q := E_MM) (As := [.int 91]) 11 (d - 1) 0 0 _ d_MM_isSingle_46 mok_MM_isSign vl_MM_204 rfl rfl rfl (Nat.le_of_ble_eq_true rfl) (by omega) (Nat.zero_le _) (Nat.zero_le _) (s_40 hS (by decide)) hF (fun y4 μ3 hS hF => ?_)
    refine Wa.if_eq 85 d_MM_isSingle_49 (by decide) (fun hb => ?_) (fun hb => ?_)
    · have hF := hF.1 hb
      refine Wa.aload_n (j := 0) d_MM_isSingle_85 rfl ?_
      refine Wa.bipush (v := 22) d_MM_isSingle_86 rfl ?_
      refine Wx.cVi (q := E_MM) (As := [.int 22]) 11 (d - 1) 0 0 _ d_MM_isSingle_88 mok_MM_is vl_MM_130 rfl rfl rfl (Nat.le_of_ble_eq_true rfl) (by omega) (Nat.zero_le _) (Nat.zero_le _) (s_40 hS (by decide)) hF (fun y6 μ5 hS hF => ?_)
      refine Wa.if_ne 103 d_MM_isSingle_91 (by decide) (fun hb => ?_) (fun hb => ?_)
      · have hF := hF.2 hb
        exact Wa.loc [0] rfl hF
      · have hF := hF.1 hb
        refine Wa.aload_n (j := 0) d_MM_isSingle_94 rfl ?_
        refine Wa.bipush (v := 23) d_MM_isSingle_95 rfl ?_
        refine Wx.cVi (q := E_MM) (As := [.int 23]) 11 (d - 1) 0 0 _ d_MM_isSingle_97 mok_MM_is vl_MM_130 rfl rfl rfl (Nat.le_of_ble_eq_true rfl) (by omega) (Nat.zero_le _) (Nat.zero_le _) (s_40 hS (by decide)) hF (fun y8 μ7 hS hF => ?_)
        refine Wa.if_eq 127 d_MM_isSingle_100 (by decide) (fun hb => ?_) (fun hb => ?_)
        · have hF := hF.1 hb
          refine Wa.aload_n (j := 0) d_MM_isSingle_127 rfl ?_
          refine Wx.cVi (q := E_MM) (As := []) 11 (d - 1) 0 0 _ d_MM_isSingle_128 mok_MM_isSum vl_MM_164 rfl rfl rfl (Nat.le_of_ble_eq_true rfl) (by omega) (Nat.zero_le _) (Nat.zero_le _) (s_40 hS (by decide)) hF (fun y10 μ9 hS hF => ?_)
          refine Wa.if_ne 136 d_MM_isSingle_131 (by decide) (fun hb => ?_) (fun hb => ?_)
          · have hF := hF.2 hb
            refine Wa.aload_n (j := 0) d_MM_isSingle_136 rfl ?_
            refine Wa.bipush (v := 60) d_MM_isSingle_137 rfl ?_
            refine Wx.cVi (q := E_MM) (As := [.int 60]) 11 (d - 1) 0 0 _ d_MM_isSingle_139 mok_MM_isSign vl_MM_204 rfl rfl rfl (Nat.le_of_ble_eq_true rfl) (by omega) (Nat.zero_le _) (Nat.zero_le _) (s_40 hS (by decide)) hF (fun y12 μ11 hS hF => ?_)
            refine Wa.if_eq 150 d_MM_isSingle_142 (by decide) (fun hb => ?_) (fun hb => ?_)
            · have hF := hF.1 hb
              refine Wa.aload_n (j := 0) d_MM_isSingle_150 rfl ?_
              refine Wa.bipush (v := 62) d_MM_isSingle_151 rfl ?_
              refine Wx.cVi (q := E_MM) (As := [.int 62]) 11 (d - 1) 0 0 _ d_MM_isSingle_153 mok_MM_isSign vl_MM_204 rfl rfl rfl (Nat.le_of_ble_eq_true rfl) (by omega) (Nat.zero_le _) (Nat.zero_le _) (s_40 hS (by decide)) hF (fun y14 μ13 hS hF => ?_)
              refine Wa.if_eq 164 d_MM_isSingle_156 (by decide) (fun hb => ?_) (fun hb => ?_)
              · have hF := hF.1 hb
                refine Wa.aload_n (j := 0) d_MM_isSingle_164 rfl ?_
                refine Wa.bipush (v := 61) d_MM_isSingle_165 rfl ?_
                refine Wx.cVi (q := E_MM) (As := [.int 61]) 11 (d - 1) 0 0 _ d_MM_isSingle_167 mok_MM_isSign vl_MM_204 rfl rfl rfl (Nat.le_of_ble_eq_true rfl) (by omega) (Nat.zero_le _) (Nat.zero_le _) (s_40 hS (by decide)) hF (fun y16 μ15 hS hF => ?_)
                refine Wa.if_eq 178 d_MM_isSingle_170 (by decide) (fun hb => ?_) (fun hb => ?_)
                · have hF := hF.1 hb
                  refine Wa.aload_n (j := 0) d_MM_isSingle_178 rfl ?_
                  refine Wa.sipush (v := 300) d_MM_isSingle_179 rfl ?_
                  refine Wx.cVi (q := E_MM) (As := [.int 300]) 11 (d - 1) 0 0 _ d_MM_isSingle_182 mok_MM_is vl_MM_130 rfl rfl rfl (Nat.le_of_ble_eq_true rfl) (by omega) (Nat.zero_le _) (Nat.zero_le _) (s_40 hS (by decide)) hF (fun y18 μ17 hS hF => ?_)
                  refine Wa.if_eq 193 d_MM_isSingle_185 (by decide) (fun hb => ?_) (fun hb => ?_)
                  · have hF := hF.1 hb
                    refine Wa.aload_n (j := 0) d_MM_isSingle_193 rfl ?_
                    refine Wa.sipush (v := 301) d_MM_isSingle_194 rfl ?_
                    refine Wx.cVi (q := E_MM) (As := [.int 301]) 11 (d - 1) 0 0 _ d_MM_isSingle_197 mok_MM_is vl_MM_130 rfl rfl rfl (Nat.le_of_ble_eq_true rfl) (by omega) (Nat.zero_le _) (Nat.zero_le _) (s_40 hS (by decide)) hF (fun y20 μ19 hS hF => ?_)
                    refine Wa.if_eq 208 d_MM_isSingle_200 (by decide) (fun hb => ?_) (fun hb => ?_)
                    · have hF := hF.1 hb
                      refine Wa.iconst (v := (-1)) d_MM_isSingle_208 rfl ?_
                      refine Wa.istore_n (i := 1) (L' := [(1, .int (-1)), (0, .ref (hd 40 0))]) d_MM_isSingle_209 rfl (by decide) rfl ?_
                      refine Wa.iload_n (j := 0) d_MM_isSingle_210 rfl ?_
                      refine Wa.iconst (v := (-1)) d_MM_isSingle_211 rfl ?_
                      refine Wa.icmp_ne 217 d_MM_isSingle_212 (by decide) (fun hb => ?_) (fun hb => ?_)
                      · have hF := hF.2 hb
                        refine Wa.aload_n (j := 1) d_MM_isSingle_217 rfl ?_
                        refine Wa.dup d_MM_isSingle_218 rfl ?_
                        refine Wx.getI 11 9 d_MM_isSingle_219 f_MM_9 fl_MM_127 w_40 (s_40 hS (by decide)) ?_
                        refine Wa.iconst (v := 1) d_MM_isSingle_222 rfl ?_
                        refine Wa.iadd d_MM_isSingle_223 ?_
                        refine Wx.putI 11 9 d_MM_isSingle_224 f_MM_9 ok_MM fl_MM_127 (Or.inl rfl) w_40 (s_40 hS (by decide)) ?_
                        refine Wa.aload_n (j := 1) d_MM_isSingle_227 rfl ?_
                        refine Wx.cVi (q := E_MM) (As := []) 11 (d - 1) 0 0 _ d_MM_isSingle_228 mok_MM_isSum vl_MM_164 rfl rfl rfl (Nat.le_of_ble_eq_true rfl) (by omega) (Nat.zero_le _) (Nat.zero_le _) (s_40 hS (by decide)) hF (fun y22 μ21 hS hF => ?_)
                        refine Wa.if_ne 236 d_MM_isSingle_231 (by decide) (fun hb => ?_) (fun hb => ?_)
                        · have hF := hF.2 hb
                          refine Wa.aload_n (j := 1) d_MM_isSingle_236 rfl ?_
                          refine Wa.iload_n (j := 0) d_MM_isSingle_237 rfl ?_
                          refine Wx.cVv (q := E_MM) (As := [.int (-1)]) 11 (d - 1) 0 0 _ d_MM_isSingle_238 mok_MM_put vl_MM_182 rfl rfl rfl (Nat.le_of_ble_eq_true rfl) (by omega) (Nat.zero_le _) (Nat.zero_le _) (s_40 hS (by decide)) hF (fun μ23 hS hF => ?_)
                          refine Wa.iconst (v := 1) d_MM_isSingle_241 rfl ?_
                          exact Wx.retz d_MM_isSingle_242 rfl (Or.inr rfl) hF
                        · have hF := hF.1 hb
                          refine Wa.iconst (v := 0) d_MM_isSingle_234 rfl ?_
                          exact Wx.retz d_MM_isSingle_235 rfl (Or.inl rfl) hF
                      · have hF := hF.1 hb
                        refine Wa.iconst (v := 0) d_MM_isSingle_215 rfl ?_
                        exact Wx.retz d_MM_isSingle_216 rfl (Or.inl rfl) hF
                    · have hF := hF.2 hb
                      refine Wa.bipush (v := 44) d_MM_isSingle_203 rfl ?_
                      refine Wa.goto 209 d_MM_isSingle_205 (by decide) ?_
                      refine Wa.istore_n (i := 1) (L' := [(1, .int 44), (0, .ref (hd 40 0))]) d_MM_isSingle_209 rfl (by decide) rfl ?_
                      refine Wa.iload_n (j := 0) d_MM_isSingle_210 rfl ?_
                      refine Wa.iconst (v := (-1)) d_MM_isSingle_211 rfl ?_
                      refine Wa.icmp_ne 217 d_MM_isSingle_212 (by decide) (fun hb => ?_) (fun hb => ?_)
                      · have hF := hF.2 hb
                        refine Wa.aload_n (j := 1) d_MM_isSingle_217 rfl ?_
                        refine Wa.dup d_MM_isSingle_218 rfl ?_
                        refine Wx.getI 11 9 d_MM_isSingle_219 f_MM_9 fl_MM_127 w_40 (s_40 hS (by decide)) ?_
                        refine Wa.iconst (v := 1) d_MM_isSingle_222 rfl ?_
                        refine Wa.iadd d_MM_isSingle_223 ?_
                        refine Wx.putI 11 9 d_MM_isSingle_224 f_MM_9 ok_MM fl_MM_127 (Or.inl rfl) w_40 (s_40 hS (by decide)) ?_
                        refine Wa.aload_n (j := 1) d_MM_isSingle_227 rfl ?_
                        refine Wx.cVi (q := E_MM) (As := []) 11 (d - 1) 0 0 _ d_MM_isSingle_228 mok_MM_isSum vl_MM_164 rfl rfl rfl (Nat.le_of_ble_eq_true rfl) (by omega) (Nat.zero_le _) (Nat.zero_le _) (s_40 hS (by decide)) hF (fun y25 μ24 hS hF => ?_)
                        refine Wa.if_ne 236 d_MM_isSingle_231 (by decide) (fun hb => ?_) (fun hb => ?_)
                        · have hF := hF.2 hb
                          refine Wa.aload_n (j := 1) d_MM_isSingle_236 rfl ?_
                          refine Wa.iload_n (j := 0) d_MM_isSingle_237 rfl ?_
                          refine Wx.cVv (q := E_MM) (As := [.int 44]) 11 (d - 1) 0 0 _ d_MM_isSingle_238 mok_MM_put vl_MM_182 rfl rfl rfl (Nat.le_of_ble_eq_true rfl) (by omega) (Nat.zero_le _) (Nat.zero_le _) (s_40 hS (by decide)) hF (fun μ26 hS hF => ?_)
                          refine Wa.iconst (v := 1) d_MM_isSingle_241 rfl ?_
                          exact Wx.retz d_MM_isSingle_242 rfl (Or.inr rfl) hF
                        · have hF := hF.1 hb
                          refine Wa.iconst (v := 0) d_MM_isSingle_234 rfl ?_
                          exact Wx.retz d_MM_isSingle_235 rfl (Or.inl rfl) hF
                      · have hF := hF.1 hb
                        refine Wa.iconst (v := 0) d_MM_isSingle_215 rfl ?_
                        exact Wx.retz d_MM_isSingle_216 rfl (Or.inl rfl) hF
                  · have hF := hF.2 hb
                    refine Wa.bipush (v := 43) d_MM_isSingle_188 rfl ?_
                    refine Wa.goto 209 d_MM_isSingle_190 (by decide) ?_
                    refine Wa.istore_n (i := 1) (L' := [(1, .int 43), (0, .ref (hd 40 0))]) d_MM_isSingle_209 rfl (by decide) rfl ?_
                    refine Wa.iload_n (j := 0) d_MM_isSingle_210 rfl ?_
                    refine Wa.iconst (v := (-1)) d_MM_isSingle_211 rfl ?_
                    refine Wa.icmp_ne 217 d_MM_isSingle_212 (by decide) (fun hb => ?_) (fun hb => ?_)
                    · have hF := hF.2 hb
                      refine Wa.aload_n (j := 1) d_MM_isSingle_217 rfl ?_
                      refine Wa.dup d_MM_isSingle_218 rfl ?_
                      refine Wx.getI 11 9 d_MM_isSingle_219 f_MM_9 fl_MM_127 w_40 (s_40 hS (by decide)) ?_
                      refine Wa.iconst (v := 1) d_MM_isSingle_222 rfl ?_
                      refine Wa.iadd d_MM_isSingle_223 ?_
                      refine Wx.putI 11 9 d_MM_isSingle_224 f_MM_9 ok_MM fl_MM_127 (Or.inl rfl) w_40 (s_40 hS (by decide)) ?_
                      refine Wa.aload_n (j := 1) d_MM_isSingle_227 rfl ?_
                      refine Wx.cVi (q := E_MM) (As := []) 11 (d - 1) 0 0 _ d_MM_isSingle_228 mok_MM_isSum vl_MM_164 rfl rfl rfl (Nat.le_of_ble_eq_true rfl) (by omega) (Nat.zero_le _) (Nat.zero_le _) (s_40 hS (by decide)) hF (fun y28 μ27 hS hF => ?_)
                      refine Wa.if_ne 236 d_MM_isSingle_231 (by decide) (fun hb => ?_) (fun hb => ?_)
                      · have hF := hF.2 hb
                        refine Wa.aload_n (j := 1) d_MM_isSingle_236 rfl ?_
                        refine Wa.iload_n (j := 0) d_MM_isSingle_237 rfl ?_
                        refine Wx.cVv (q := E_MM) (As := [.int 43]) 11 (d - 1) 0 0 _ d_MM_isSingle_238 mok_MM_put vl_MM_182 rfl rfl rfl (Nat.le_of_ble_eq_true rfl) (by omega) (Nat.zero_le _) (Nat.zero_le _) (s_40 hS (by decide)) hF (fun μ29 hS hF => ?_)
                        refine Wa.iconst (v := 1) d_MM_isSingle_241 rfl ?_
                        exact Wx.retz d_MM_isSingle_242 rfl (Or.inr rfl) hF
                      · have hF := hF.1 hb
                        refine Wa.iconst (v := 0) d_MM_isSingle_234 rfl ?_
                        exact Wx.retz d_MM_isSingle_235 rfl (Or.inl rfl) hF
                    · have hF := hF.1 hb
                      refine Wa.iconst (v := 0) d_MM_isSingle_215 rfl ?_
                      exact Wx.retz d_MM_isSingle_216 rfl (Or.inl rfl) hF
                · have hF := hF.2 hb
                  refine Wa.bipush (v := 42) d_MM_isSingle_173 rfl ?_
                  refine Wa.goto 209 d_MM_isSingle_175 (by decide) ?_
                  refine Wa.istore_n (i := 1) (L' := [(1, .int 42), (0, .ref (hd 40 0))]) d_MM_isSingle_209 rfl (by decide) rfl ?_
                  refine Wa.iload_n (j := 0) d_MM_isSingle_210 rfl ?_
                  refine Wa.iconst (v := (-1)) d_MM_isSingle_211 rfl ?_
                  refine Wa.icmp_ne 217 d_MM_isSingle_212 (by decide) (fun hb => ?_) (fun hb => ?_)
                  · have hF := hF.2 hb
                    refine Wa.aload_n (j := 1) d_MM_isSingle_217 rfl ?_
                    refine Wa.dup d_MM_isSingle_218 rfl ?_
                    refine Wx.getI 11 9 d_MM_isSingle_219 f_MM_9 fl_MM_127 w_40 (s_40 hS (by decide)) ?_
                    refine Wa.iconst (v := 1) d_MM_isSingle_222 rfl ?_
                    refine Wa.iadd d_MM_isSingle_223 ?_
                    refine Wx.putI 11 9 d_MM_isSingle_224 f_MM_9 ok_MM fl_MM_127 (Or.inl rfl) w_40 (s_40 hS (by decide)) ?_
                    refine Wa.aload_n (j := 1) d_MM_isSingle_227 rfl ?_
                    refine Wx.cVi (q := E_MM) (As := []) 11 (d - 1) 0 0 _ d_MM_isSingle_228 mok_MM_isSum vl_MM_164 rfl rfl rfl (Nat.le_of_ble_eq_true rfl) (by omega) (Nat.zero_le _) (Nat.zero_le _) (s_40 hS (by decide)) hF (fun y31 μ30 hS hF => ?_)
                    refine Wa.if_ne 236 d_MM_isSingle_231 (by decide) (fun hb => ?_) (fun hb => ?_)
                    · have hF := hF.2 hb
                      refine Wa.aload_n (j := 1) d_MM_isSingle_236 rfl ?_
                      refine Wa.iload_n (j := 0) d_MM_isSingle_237 rfl ?_
                      refine Wx.cVv (q := E_MM) (As := [.int 42]) 11 (d - 1) 0 0 _ d_MM_isSingle_238 mok_MM_put vl_MM_182 rfl rfl rfl (Nat.le_of_ble_eq_true rfl) (by omega) (Nat.zero_le _) (Nat.zero_le _) (s_40 hS (by decide)) hF (fun μ32 hS hF => ?_)
                      refine Wa.iconst (v := 1) d_MM_isSingle_241 rfl ?_
                      exact Wx.retz d_MM_isSingle_242 rfl (Or.inr rfl) hF
                    · have hF := hF.1 hb
                      refine Wa.iconst (v := 0) d_MM_isSingle_234 rfl ?_
                      exact Wx.retz d_MM_isSingle_235 rfl (Or.inl rfl) hF
                  · have hF := hF.1 hb
                    refine Wa.iconst (v := 0) d_MM_isSingle_215 rfl ?_
                    exact Wx.retz d_MM_isSingle_216 rfl (Or.inl rfl) hF
              · have hF := hF.2 hb
                refine Wa.bipush (v := 39) d_MM_isSingle_159 rfl ?_
                refine Wa.goto 209 d_MM_isSingle_161 (by decide) ?_
                refine Wa.istore_n (i := 1) (L' := [(1, .int 39), (0, .ref (hd 40 0))]) d_MM_isSingle_209 rfl (by decide) rfl ?_
                refine Wa.iload_n (j := 0) d_MM_isSingle_210 rfl ?_
                refine Wa.iconst (v := (-1)) d_MM_isSingle_211 rfl ?_
                refine Wa.icmp_ne 217 d_MM_isSingle_212 (by decide) (fun hb => ?_) (fun hb => ?_)
                · have hF := hF.2 hb
                  refine Wa.aload_n (j := 1) d_MM_isSingle_217 rfl ?_
                  refine Wa.dup d_MM_isSingle_218 rfl ?_
                  refine Wx.getI 11 9 d_MM_isSingle_219 f_MM_9 fl_MM_127 w_40 (s_40 hS (by decide)) ?_
                  refine Wa.iconst (v := 1) d_MM_isSingle_222 rfl ?_
                  refine Wa.iadd d_MM_isSingle_223 ?_
                  refine Wx.putI 11 9 d_MM_isSingle_224 f_MM_9 ok_MM fl_MM_127 (Or.inl rfl) w_40 (s_40 hS (by decide)) ?_
                  refine Wa.aload_n (j := 1) d_MM_isSingle_227 rfl ?_
                  refine Wx.cVi (q := E_MM) (As := []) 11 (d - 1) 0 0 _ d_MM_isSingle_228 mok_MM_isSum vl_MM_164 rfl rfl rfl (Nat.le_of_ble_eq_true rfl) (by omega) (Nat.zero_le _) (Nat.zero_le _) (s_40 hS (by decide)) hF (fun y34 μ33 hS hF => ?_)
                  refine Wa.if_ne 236 d_MM_isSingle_231 (by decide) (fun hb => ?_) (fun hb => ?_)
                  · have hF := hF.2 hb
                    refine Wa.aload_n (j := 1) d_MM_isSingle_236 rfl ?_
                    refine Wa.iload_n (j := 0) d_MM_isSingle_237 rfl ?_
                    refine Wx.cVv (q := E_MM) (As := [.int 39]) 11 (d - 1) 0 0 _ d_MM_isSingle_238 mok_MM_put vl_MM_182 rfl rfl rfl (Nat.le_of_ble_eq_true rfl) (by omega) (Nat.zero_le _) (Nat.zero_le _) (s_40 hS (by decide)) hF (fun μ35 hS hF => ?_)
                    refine Wa.iconst (v := 1) d_MM_isSingle_241 rfl ?_
                    exact Wx.retz d_MM_isSingle_242 rfl (Or.inr rfl) hF
                  · have hF := hF.1 hb
                    refine Wa.iconst (v := 0) d_MM_isSingle_234 rfl ?_
                    exact Wx.retz d_MM_isSingle_235 rfl (Or.inl rfl) hF
                · have hF := hF.1 hb
                  refine Wa.iconst (v := 0) d_MM_isSingle_215 rfl ?_
                  exact Wx.retz d_MM_isSingle_216 rfl (Or.inl rfl) hF
            · have hF := hF.2 hb
              refine Wa.bipush (v := 38) d_MM_isSingle_145 rfl ?_
              refine Wa.goto 209 d_MM_isSingle_147 (by decide) ?_
              refine Wa.istore_n (i := 1) (L' := [(1, .int 38), (0, .ref (hd 40 0))]) d_MM_isSingle_209 rfl (by decide) rfl ?_
              refine Wa.iload_n (j := 0) d_MM_isSingle_210 rfl ?_
              refine Wa.iconst (v := (-1)) d_MM_isSingle_211 rfl ?_
              refine Wa.icmp_ne 217 d_MM_isSingle_212 (by decide) (fun hb => ?_) (fun hb => ?_)
              · have hF := hF.2 hb
                refine Wa.aload_n (j := 1) d_MM_isSingle_217 rfl ?_
                refine Wa.dup d_MM_isSingle_218 rfl ?_
                refine Wx.getI 11 9 d_MM_isSingle_219 f_MM_9 fl_MM_127 w_40 (s_40 hS (by decide)) ?_
                refine Wa.iconst (v := 1) d_MM_isSingle_222 rfl ?_
                refine Wa.iadd d_MM_isSingle_223 ?_
                refine Wx.putI 11 9 d_MM_isSingle_224 f_MM_9 ok_MM fl_MM_127 (Or.inl rfl) w_40 (s_40 hS (by decide)) ?_
                refine Wa.aload_n (j := 1) d_MM_isSingle_227 rfl ?_
                refine Wx.cVi (q := E_MM) (As := []) 11 (d - 1) 0 0 _ d_MM_isSingle_228 mok_MM_isSum vl_MM_164 rfl rfl rfl (Nat.le_of_ble_eq_true rfl) (by omega) (Nat.zero_le _) (Nat.zero_le _) (s_40 hS (by decide)) hF (fun y37 μ36 hS hF => ?_)
                refine Wa.if_ne 236 d_MM_isSingle_231 (by decide) (fun hb => ?_) (fun hb => ?_)
                · have hF := hF.2 hb
                  refine Wa.aload_n (j := 1) d_MM_isSingle_236 rfl ?_
                  refine Wa.iload_n (j := 0) d_MM_isSingle_237 rfl ?_
                  refine Wx.cVv (q := E_MM) (As := [.int 38]) 11 (d - 1) 0 0 _ d_MM_isSingle_238 mok_MM_put vl_MM_182 rfl rfl rfl (Nat.le_of_ble_eq_true rfl) (by omega) (Nat.zero_le _) (Nat.zero_le _) (s_40 hS (by decide)) hF (fun μ38 hS hF => ?_)
                  refine Wa.iconst (v := 1) d_MM_isSingle_241 rfl ?_
                  exact Wx.retz d_MM_isSingle_242 rfl (Or.inr rfl) hF
                · have hF := hF.1 hb
                  refine Wa.iconst (v := 0) d_MM_isSingle_234 rfl ?_
                  exact Wx.retz d_MM_isSingle_235 rfl (Or.inl rfl) hF
              · have hF := hF.1 hb
                refine Wa.iconst (v := 0) d_MM_isSingle_215 rfl ?_
                exact Wx.retz d_MM_isSingle_216 rfl (Or.inl rfl) hF
          · have hF := hF.1 hb
            refine Wa.iconst (v := 0) d_MM_isSingle_134 rfl ?_
            exact Wx.retz d_MM_isSingle_135 rfl (Or.inl rfl) hF
        · have hF := hF.2 hb
          exact Wa.loc [0] rfl hF
    · have hF := hF.2 hb
      refine Wa.aload_n (j := 0) d_MM_isSingle_52 rfl ?_
      refine Wx.cVi (q := E_MM) (As := []) 11 (d - 1) 0 0 _ d_MM_isSingle_53 mok_MM_isDeeper vl_MM_201 rfl rfl rfl (Nat.le_of_ble_eq_true rfl) (by omega) (Nat.zero_le _) (Nat.zero_le _) (s_40 hS (by decide)) hF (fun y40 μ39 hS hF => ?_)
      refine Wa.if_eq 66 d_MM_isSingle_56 (by decide) (fun hb => ?_) (fun hb => ?_)
      · have hF := hF.1 hb
        exact Wa.loc [] rfl hF
      · have hF := hF.2 hb
        refine Wa.aload_n (j := 0) d_MM_isSingle_59 rfl ?_
        refine Wx.cVi (q := E_MM) (As := []) 11 (d - 1) 0 0 _ d_MM_isSingle_60 mok_MM_isTest vl_MM_176 rfl rfl rfl (Nat.le_of_ble_eq_true rfl) (by omega) (Nat.zero_le _) (Nat.zero_le _) (s_40 hS (by decide)) hF (fun y42 μ41 hS hF => ?_)
        refine Wa.if_ne 68 d_MM_isSingle_63 (by decide) (fun hb => ?_) (fun hb => ?_)
        · have hF := hF.2 hb
          refine Wa.aload_n (j := 0) d_MM_isSingle_68 rfl ?_
          refine Wa.dup d_MM_isSingle_69 rfl ?_
          refine Wx.getI 11 10 d_MM_isSingle_70 f_MM_10 fl_MM_189 w_40 (s_40 hS (by decide)) ?_
          refine Wa.iconst (v := 1) d_MM_isSingle_73 rfl ?_
          refine Wa.isub d_MM_isSingle_74 ?_
          refine Wx.putI 11 10 d_MM_isSingle_75 f_MM_10 ok_MM fl_MM_189 (Or.inl rfl) w_40 (s_40 hS (by decide)) ?_
          refine Wa.aload_n (j := 0) d_MM_isSingle_78 rfl ?_
          refine Wa.bipush (v := 93) d_MM_isSingle_79 rfl ?_
          refine Wx.cVi (q := E_MM) (As := [.int 93]) 11 (d - 1) 0 0 _ d_MM_isSingle_81 mok_MM_eatSign vl_MM_150 rfl rfl rfl (Nat.le_of_ble_eq_true rfl) (by omega) (Nat.zero_le _) (Nat.zero_le _) (s_40 hS (by decide)) hF (fun y44 μ43 hS hF => ?_)
          exact Wx.retz d_MM_isSingle_84 rfl hF.1 hF.2
        · have hF := hF.1 hb
          exact Wa.loc [] rfl hF
  · have hF := hF.2 hb
    refine Wa.aload_n (j := 0) d_MM_isSingle_9 rfl ?_
    refine Wx.cVi (q := E_MM) (As := []) 11 (d - 1) 0 0 _ d_MM_isSingle_10 mok_MM_isDeeper vl_MM_201 rfl rfl rfl (Nat.le_of_ble_eq_true rfl) (by omega) (Nat.zero_le _) (Nat.zero_le _) (s_40 hS (by decide)) hF (fun y46 μ45 hS hF => ?_)
    refine Wa.if_eq 23 d_MM_isSingle_13 (by decide) (fun hb => ?_) (fun hb => ?_)
    · have hF := hF.1 hb
      exact Wa.loc [] rfl hF
    · have hF := hF.2 hb
      refine Wa.aload_n (j := 0) d_MM_isSingle_16 rfl ?_
      refine Wx.cVi (q := E_MM) (As := []) 11 (d - 1) 0 0 _ d_MM_isSingle_17 mok_MM_isSingle vl_MM_186 rfl rfl rfl (Nat.le_of_ble_eq_true rfl) (by omega) (Nat.zero_le _) (Nat.zero_le _) (s_40 hS (by decide)) hF (fun y48 μ47 hS hF => ?_)
      refine Wa.if_ne 25 d_MM_isSingle_20 (by decide) (fun hb => ?_) (fun hb => ?_)
      · have hF := hF.2 hb
        refine Wa.aload_n (j := 0) d_MM_isSingle_25 rfl ?_
        refine Wa.dup d_MM_isSingle_26 rfl ?_
        refine Wx.getI 11 10 d_MM_isSingle_27 f_MM_10 fl_MM_189 w_40 (s_40 hS (by decide)) ?_
        refine Wa.iconst (v := 1) d_MM_isSingle_30 rfl ?_
        refine Wa.isub d_MM_isSingle_31 ?_
        refine Wx.putI 11 10 d_MM_isSingle_32 f_MM_10 ok_MM fl_MM_189 (Or.inl rfl) w_40 (s_40 hS (by decide)) ?_
        refine Wa.aload_n (j := 0) d_MM_isSingle_35 rfl ?_
        refine Wa.bipush (v := 24) d_MM_isSingle_36 rfl ?_
        refine Wx.cVv (q := E_MM) (As := [.int 24]) 11 (d - 1) 0 0 _ d_MM_isSingle_38 mok_MM_put vl_MM_182 rfl rfl rfl (Nat.le_of_ble_eq_true rfl) (by omega) (Nat.zero_le _) (Nat.zero_le _) (s_40 hS (by decide)) hF (fun μ49 hS hF => ?_)
        refine Wa.iconst (v := 1) d_MM_isSingle_41 rfl ?_
        exact Wx.retz d_MM_isSingle_42 rfl (Or.inr rfl) hF
      · have hF := hF.1 hb
        exact Wa.loc [] rfl hF
theorem e_MM_isSingle {d rc rs : Nat} {Q : Option Value → Mu → Prop} {μ : Mu}  (hk : Wx K_MM_isSingle d rc rs (fun r μ' => St μ' ∧ Q r μ') 0 [(0, .ref (hd 40 0))] [] μ) : Cal K_MM_isSingle d rc rs [.ref (hd 40 0)] μ Q := Cal.of (by decide +kernel) rfl rfl (Nat.le_of_ble_eq_true rfl) rfl hk
set_option maxHeartbeats 4000000 in
set_option maxRecDepth 20000 in
theorem g_MM_isSingle_23 {d rc rs : Nat} {Q : Option Value → Mu → Prop} {μ : Mu}  (hD : 1 ≤ d)  (hS : St μ)
    (hF : Q (some (.int 0)) μ) : Wx K_MM_isSingle d rc rs Q 23 [] [] μ := by
  refine Wa.iconst (v := 0) d_MM_isSingle_23 rfl ?_
  exact Wx.retz d_MM_isSingle_24 rfl (Or.inl rfl) hF
set_option maxHeartbeats 4000000 in
set_option maxRecDepth 20000 in
theorem g_MM_isSingle_66 {d rc rs : Nat} {Q : Option Value → Mu → Prop} {μ : Mu}  (hD : 1 ≤ d)  (hS : St μ)
    (hF : Q (some (.int 0)) μ) : Wx K_MM_isSingle d rc rs Q 66 [] [] μ := by
  refine Wa.iconst (v := 0) d_MM_isSingle_66 rfl ?_
  exact Wx.retz d_MM_isSingle_67 rfl (Or.inl rfl) hF
set_option maxHeartbeats 4000000 in
set_option maxRecDepth 20000 in
theorem g_MM_isSingle_103 {d rc rs : Nat} {Q : Option Value → Mu → Prop} {μ : Mu}  (hD : 1 ≤ d)  (hS : St μ)
    (hF : (Cal K_MM_isNamed (d - 1) 0 0 [.ref (hd 40 0), .int 12] μ (fun r μ1 => ∃ y2, r = some (.int y2) ∧ ((y2 = 0 → Q (some (.int 0)) μ1) ∧ (¬ y2 = 0 → (Cal K_MM_isName (d - 1) 0 0 [.ref (hd 40 0), .int 13] μ1 (fun r μ3 => ∃ y4, r = some (.int y4) ∧ ((y4 = 0 → Q (some (.int 0)) μ3) ∧ (¬ y4 = 0 → Q (some (.int 1)) μ3))))))))) : Wx K_MM_isSingle d rc rs Q 103 [(0, .ref (hd 40 0))] [] μ := by
  refine Wa.aload_n (j := 0) d_MM_isSingle_103 rfl ?_
  refine Wa.bipush (v := 12) d_MM_isSingle_104 rfl ?_
  refine Wx.cVi (q := E_MM) (As := [.int 12]) 11 (d - 1) 0 0 _ d_MM_isSingle_106 mok_MM_isNamed vl_MM_207 rfl rfl rfl (Nat.le_of_ble_eq_true rfl) (by omega) (Nat.zero_le _) (Nat.zero_le _) (s_40 hS (by decide)) hF (fun y2 μ1 hS hF => ?_)
  refine Wa.if_eq 125 d_MM_isSingle_109 (by decide) (fun hb => ?_) (fun hb => ?_)
  · have hF := hF.1 hb
    refine Wa.iconst (v := 0) d_MM_isSingle_125 rfl ?_
    exact Wx.retz d_MM_isSingle_126 rfl (Or.inl rfl) hF
  · have hF := hF.2 hb
    refine Wa.aload_n (j := 0) d_MM_isSingle_112 rfl ?_
    refine Wa.bipush (v := 13) d_MM_isSingle_113 rfl ?_
    refine Wx.cVi (q := E_MM) (As := [.int 13]) 11 (d - 1) 0 0 _ d_MM_isSingle_115 mok_MM_isName vl_MM_198 rfl rfl rfl (Nat.le_of_ble_eq_true rfl) (by omega) (Nat.zero_le _) (Nat.zero_le _) (s_40 hS (by decide)) hF (fun y4 μ3 hS hF => ?_)
    refine Wa.if_eq 125 d_MM_isSingle_118 (by decide) (fun hb => ?_) (fun hb => ?_)
    · have hF := hF.1 hb
      refine Wa.iconst (v := 0) d_MM_isSingle_125 rfl ?_
      exact Wx.retz d_MM_isSingle_126 rfl (Or.inl rfl) hF
    · have hF := hF.2 hb
      refine Wa.iconst (v := 1) d_MM_isSingle_121 rfl ?_
      refine Wa.goto 126 d_MM_isSingle_122 (by decide) ?_
      exact Wx.retz d_MM_isSingle_126 rfl (Or.inr rfl) hF
set_option maxHeartbeats 4000000 in
set_option maxRecDepth 20000 in
theorem g_MM_isSum_0 {d rc rs : Nat} {Q : Option Value → Mu → Prop} {μ : Mu}  (hD : 1 ≤ d)  (hS : St μ)
    (hF : (Cal K_MM_isProduct (d - 1) 0 0 [.ref (hd 40 0)] μ (fun r μ1 => ∃ y2, r = some (.int y2) ∧ ((y2 = 0 → Q (some (.int 0)) μ1) ∧ (¬ y2 = 0 → Wx K_MM_isSum d rc rs Q 9 [(0, .ref (hd 40 0))] [] μ1))))) : Wx K_MM_isSum d rc rs Q 0 [(0, .ref (hd 40 0))] [] μ := by
  refine Wa.aload_n (j := 0) d_MM_isSum_0 rfl ?_
  refine Wx.cVi (q := E_MM) (As := []) 11 (d - 1) 0 0 _ d_MM_isSum_1 mok_MM_isProduct vl_MM_210 rfl rfl rfl (Nat.le_of_ble_eq_true rfl) (by omega) (Nat.zero_le _) (Nat.zero_le _) (s_40 hS (by decide)) hF (fun y2 μ1 hS hF => ?_)
  refine Wa.if_ne 9 d_MM_isSum_4 (by decide) (fun hb => ?_) (fun hb => ?_)
  · have hF := hF.2 hb
    exact Wa.loc [0] rfl hF
  · have hF := hF.1 hb
    refine Wa.iconst (v := 0) d_MM_isSum_7 rfl ?_
    exact Wx.retz d_MM_isSum_8 rfl (Or.inl rfl) hF
theorem e_MM_isSum {d rc rs : Nat} {Q : Option Value → Mu → Prop} {μ : Mu}  (hk : Wx K_MM_isSum d rc rs (fun r μ' => St μ' ∧ Q r μ') 0 [(0, .ref (hd 40 0))] [] μ) : Cal K_MM_isSum d rc rs [.ref (hd 40 0)] μ Q := Cal.of (by decide +kernel) rfl rfl (Nat.le_of_ble_eq_true rfl) rfl hk
set_option maxHeartbeats 4000000 in
set_option maxRecDepth 20000 in
theorem g_MM_isSum_9 {d rc rs : Nat} {Q : Option Value → Mu → Prop} {μ : Mu}  (hD : 1 ≤ d)  (hS : St μ)
    (hF : (Cal K_MM_isSign (d - 1) 0 0 [.ref (hd 40 0), .int 43] μ (fun r μ1 => ∃ y2, r = some (.int y2) ∧ ((y2 = 0 → (Cal K_MM_isSign (d - 1) 0 0 [.ref (hd 40 0), .int 45] μ1 (fun r μ11 => ∃ y12, r = some (.int y12) ∧ ((y12 = 0 → Q (some (.int 1)) μ11) ∧ (¬ y12 = 0 → (Cal K_MM_isSign (d - 1) 0 0 [.ref (hd 40 0), .int 43] μ11 (fun r μ13 => ∃ y14, r = some (.int y14) ∧ ((y14 = 0 → (Cal K_MM_isProduct (d - 1) 0 0 [.ref (hd 40 0)] (setI μ13 (hd 40 0) 9 ((mI μ13 (hd 40 0) 9) + (1 : Int32))) (fun r μ15 => ∃ y16, r = some (.int y16) ∧ ((y16 = 0 → Q (some (.int 0)) μ15) ∧ (¬ y16 = 0 → (Cal K_MM_put (d - 1) 0 0 [.ref (hd 40 0), .int 35] μ15 (fun r μ17 => r = none ∧ Wx K_MM_isSum d rc rs Q 9 [(0, .ref (hd 40 0))] [] μ17))))))) ∧ (¬ y14 = 0 → (Cal K_MM_isProduct (d - 1) 0 0 [.ref (hd 40 0)] (setI μ13 (hd 40 0) 9 ((mI μ13 (hd 40 0) 9) + (1 : Int32))) (fun r μ18 => ∃ y19, r = some (.int y19) ∧ ((y19 = 0 → Q (some (.int 0)) μ18) ∧ (¬ y19 = 0 → (Cal K_MM_put (d - 1) 0 0 [.ref (hd 40 0), .int 34] μ18 (fun r μ20 => r = none ∧ Wx K_MM_isSum d rc rs Q 9 [(0, .ref (hd 40 0))] [] μ20))))))))))))))) ∧ (¬ y2 = 0 → (Cal K_MM_isSign (d - 1) 0 0 [.ref (hd 40 0), .int 43] μ1 (fun r μ3 => ∃ y4, r = some (.int y4) ∧ ((y4 = 0 → (Cal K_MM_isProduct (d - 1) 0 0 [.ref (hd 40 0)] (setI μ3 (hd 40 0) 9 ((mI μ3 (hd 40 0) 9) + (1 : Int32))) (fun r μ5 => ∃ y6, r = some (.int y6) ∧ ((y6 = 0 → Q (some (.int 0)) μ5) ∧ (¬ y6 = 0 → (Cal K_MM_put (d - 1) 0 0 [.ref (hd 40 0), .int 35] μ5 (fun r μ7 => r = none ∧ Wx K_MM_isSum d rc rs Q 9 [(0, .ref (hd 40 0))] [] μ7))))))) ∧ (¬ y4 = 0 → (Cal K_MM_isProduct (d - 1) 0 0 [.ref (hd 40 0)] (setI μ3 (hd 40 0) 9 ((mI μ3 (hd 40 0) 9) + (1 : Int32))) (fun r μ8 => ∃ y9, r = some (.int y9) ∧ ((y9 = 0 → Q (some (.int 0)) μ8) ∧ (¬ y9 = 0 → (Cal K_MM_put (d - 1) 0 0 [.ref (hd 40 0), .int 34] μ8 (fun r μ10 => r = none ∧ Wx K_MM_isSum d rc rs Q 9 [(0, .ref (hd 40 0))] [] μ10))))))))))))))) : Wx K_MM_isSum d rc rs Q 9 [(0, .ref (hd 40 0))] [] μ := by
  refine Wa.aload_n (j := 0) d_MM_isSum_9 rfl ?_
  refine Wa.bipush (v := 43) d_MM_isSum_10 rfl ?_
  refine Wx.cVi (q := E_MM) (As := [.int 43]) 11 (d - 1) 0 0 _ d_MM_isSum_12 mok_MM_isSign vl_MM_204 rfl rfl rfl (Nat.le_of_ble_eq_true rfl) (by omega) (Nat.zero_le _) (Nat.zero_le _) (s_40 hS (by decide)) hF (fun y2 μ1 hS hF => ?_)
  refine Wa.if_ne 27 d_MM_isSum_15 (by decide) (fun hb => ?_) (fun hb => ?_)
  · have hF := hF.2 hb
    refine Wa.aload_n (j := 0) d_MM_isSum_27 rfl ?_
    refine Wa.bipush (v := 43) d_MM_isSum_28 rfl ?_
    refine Wx.cVi (q := E_MM) (As := [.int 43]) 11 (d - 1) 0 0 _ d_MM_isSum_30 mok_MM_isSign vl_MM_204 rfl rfl rfl (Nat.le_of_ble_eq_true rfl) (by omega) (Nat.zero_le _) (Nat.zero_le _) (s_40 hS (by decide)) hF (fun y4 μ3 hS hF => ?_)
    refine Wa.if_eq 41 d_MM_isSum_33 (by decide) (fun hb => ?_) (fun hb => ?_)
    · have hF := hF.1 hb
      refine Wa.bipush (v := 35) d_MM_isSum_41 rfl ?_
      refine Wa.istore_n (i := 1) (L' := [(1, .int 35), (0, .ref (hd 40 0))]) d_MM_isSum_43 rfl (by decide) rfl ?_
      refine Wa.aload_n (j := 1) d_MM_isSum_44 rfl ?_
      refine Wa.dup d_MM_isSum_45 rfl ?_
      refine Wx.getI 11 9 d_MM_isSum_46 f_MM_9 fl_MM_127 w_40 (s_40 hS (by decide)) ?_
      refine Wa.iconst (v := 1) d_MM_isSum_49 rfl ?_
      refine Wa.iadd d_MM_isSum_50 ?_
      refine Wx.putI 11 9 d_MM_isSum_51 f_MM_9 ok_MM fl_MM_127 (Or.inl rfl) w_40 (s_40 hS (by decide)) ?_
      refine Wa.aload_n (j := 1) d_MM_isSum_54 rfl ?_
      refine Wx.cVi (q := E_MM) (As := []) 11 (d - 1) 0 0 _ d_MM_isSum_55 mok_MM_isProduct vl_MM_210 rfl rfl rfl (Nat.le_of_ble_eq_true rfl) (by omega) (Nat.zero_le _) (Nat.zero_le _) (s_40 hS (by decide)) hF (fun y6 μ5 hS hF => ?_)
      refine Wa.if_ne 63 d_MM_isSum_58 (by decide) (fun hb => ?_) (fun hb => ?_)
      · have hF := hF.2 hb
        refine Wa.aload_n (j := 1) d_MM_isSum_63 rfl ?_
        refine Wa.iload_n (j := 0) d_MM_isSum_64 rfl ?_
        refine Wx.cVv (q := E_MM) (As := [.int 35]) 11 (d - 1) 0 0 _ d_MM_isSum_65 mok_MM_put vl_MM_182 rfl rfl rfl (Nat.le_of_ble_eq_true rfl) (by omega) (Nat.zero_le _) (Nat.zero_le _) (s_40 hS (by decide)) hF (fun μ7 hS hF => ?_)
        refine Wa.goto 9 d_MM_isSum_68 (by decide) ?_
        exact Wa.loc [1] rfl hF
      · have hF := hF.1 hb
        refine Wa.iconst (v := 0) d_MM_isSum_61 rfl ?_
        exact Wx.retz d_MM_isSum_62 rfl (Or.inl rfl) hF
    · have hF := hF.2 hb
      refine Wa.bipush (v := 34) d_MM_isSum_36 rfl ?_
      refine Wa.goto 43 d_MM_isSum_38 (by decide) ?_
      refine Wa.istore_n (i := 1) (L' := [(1, .int 34), (0, .ref (hd 40 0))]) d_MM_isSum_43 rfl (by decide) rfl ?_
      refine Wa.aload_n (j := 1) d_MM_isSum_44 rfl ?_
      refine Wa.dup d_MM_isSum_45 rfl ?_
      refine Wx.getI 11 9 d_MM_isSum_46 f_MM_9 fl_MM_127 w_40 (s_40 hS (by decide)) ?_
      refine Wa.iconst (v := 1) d_MM_isSum_49 rfl ?_
      refine Wa.iadd d_MM_isSum_50 ?_
      refine Wx.putI 11 9 d_MM_isSum_51 f_MM_9 ok_MM fl_MM_127 (Or.inl rfl) w_40 (s_40 hS (by decide)) ?_
      refine Wa.aload_n (j := 1) d_MM_isSum_54 rfl ?_
      refine Wx.cVi (q := E_MM) (As := []) 11 (d - 1) 0 0 _ d_MM_isSum_55 mok_MM_isProduct vl_MM_210 rfl rfl rfl (Nat.le_of_ble_eq_true rfl) (by omega) (Nat.zero_le _) (Nat.zero_le _) (s_40 hS (by decide)) hF (fun y9 μ8 hS hF => ?_)
      refine Wa.if_ne 63 d_MM_isSum_58 (by decide) (fun hb => ?_) (fun hb => ?_)
      · have hF := hF.2 hb
        refine Wa.aload_n (j := 1) d_MM_isSum_63 rfl ?_
        refine Wa.iload_n (j := 0) d_MM_isSum_64 rfl ?_
        refine Wx.cVv (q := E_MM) (As := [.int 34]) 11 (d - 1) 0 0 _ d_MM_isSum_65 mok_MM_put vl_MM_182 rfl rfl rfl (Nat.le_of_ble_eq_true rfl) (by omega) (Nat.zero_le _) (Nat.zero_le _) (s_40 hS (by decide)) hF (fun μ10 hS hF => ?_)
        refine Wa.goto 9 d_MM_isSum_68 (by decide) ?_
        exact Wa.loc [1] rfl hF
      · have hF := hF.1 hb
        refine Wa.iconst (v := 0) d_MM_isSum_61 rfl ?_
        exact Wx.retz d_MM_isSum_62 rfl (Or.inl rfl) hF
  · have hF := hF.1 hb
    refine Wa.aload_n (j := 0) d_MM_isSum_18 rfl ?_
    refine Wa.bipush (v := 45) d_MM_isSum_19 rfl ?_
    refine Wx.cVi (q := E_MM) (As := [.int 45]) 11 (d - 1) 0 0 _ d_MM_isSum_21 mok_MM_isSign vl_MM_204 rfl rfl rfl (Nat.le_of_ble_eq_true rfl) (by omega) (Nat.zero_le _) (Nat.zero_le _) (s_40 hS (by decide)) hF (fun y12 μ11 hS hF => ?_)
    refine Wa.if_eq 71 d_MM_isSum_24 (by decide) (fun hb => ?_) (fun hb => ?_)
    · have hF := hF.1 hb
      refine Wa.iconst (v := 1) d_MM_isSum_71 rfl ?_
      exact Wx.retz d_MM_isSum_72 rfl (Or.inr rfl) hF
    · have hF := hF.2 hb
      refine Wa.aload_n (j := 0) d_MM_isSum_27 rfl ?_
      refine Wa.bipush (v := 43) d_MM_isSum_28 rfl ?_
      refine Wx.cVi (q := E_MM) (As := [.int 43]) 11 (d - 1) 0 0 _ d_MM_isSum_30 mok_MM_isSign vl_MM_204 rfl rfl rfl (Nat.le_of_ble_eq_true rfl) (by omega) (Nat.zero_le _) (Nat.zero_le _) (s_40 hS (by decide)) hF (fun y14 μ13 hS hF => ?_)
      refine Wa.if_eq 41 d_MM_isSum_33 (by decide) (fun hb => ?_) (fun hb => ?_)
      · have hF := hF.1 hb
        refine Wa.bipush (v := 35) d_MM_isSum_41 rfl ?_
        refine Wa.istore_n (i := 1) (L' := [(1, .int 35), (0, .ref (hd 40 0))]) d_MM_isSum_43 rfl (by decide) rfl ?_
        refine Wa.aload_n (j := 1) d_MM_isSum_44 rfl ?_
        refine Wa.dup d_MM_isSum_45 rfl ?_
        refine Wx.getI 11 9 d_MM_isSum_46 f_MM_9 fl_MM_127 w_40 (s_40 hS (by decide)) ?_
        refine Wa.iconst (v := 1) d_MM_isSum_49 rfl ?_
        refine Wa.iadd d_MM_isSum_50 ?_
        refine Wx.putI 11 9 d_MM_isSum_51 f_MM_9 ok_MM fl_MM_127 (Or.inl rfl) w_40 (s_40 hS (by decide)) ?_
        refine Wa.aload_n (j := 1) d_MM_isSum_54 rfl ?_
        refine Wx.cVi (q := E_MM) (As := []) 11 (d - 1) 0 0 _ d_MM_isSum_55 mok_MM_isProduct vl_MM_210 rfl rfl rfl (Nat.le_of_ble_eq_true rfl) (by omega) (Nat.zero_le _) (Nat.zero_le _) (s_40 hS (by decide)) hF (fun y16 μ15 hS hF => ?_)
        refine Wa.if_ne 63 d_MM_isSum_58 (by decide) (fun hb => ?_) (fun hb => ?_)
        · have hF := hF.2 hb
          refine Wa.aload_n (j := 1) d_MM_isSum_63 rfl ?_
          refine Wa.iload_n (j := 0) d_MM_isSum_64 rfl ?_
          refine Wx.cVv (q := E_MM) (As := [.int 35]) 11 (d - 1) 0 0 _ d_MM_isSum_65 mok_MM_put vl_MM_182 rfl rfl rfl (Nat.le_of_ble_eq_true rfl) (by omega) (Nat.zero_le _) (Nat.zero_le _) (s_40 hS (by decide)) hF (fun μ17 hS hF => ?_)
          refine Wa.goto 9 d_MM_isSum_68 (by decide) ?_
          exact Wa.loc [1] rfl hF
        · have hF := hF.1 hb
          refine Wa.iconst (v := 0) d_MM_isSum_61 rfl ?_
          exact Wx.retz d_MM_isSum_62 rfl (Or.inl rfl) hF
      · have hF := hF.2 hb
        refine Wa.bipush (v := 34) d_MM_isSum_36 rfl ?_
        refine Wa.goto 43 d_MM_isSum_38 (by decide) ?_
        refine Wa.istore_n (i := 1) (L' := [(1, .int 34), (0, .ref (hd 40 0))]) d_MM_isSum_43 rfl (by decide) rfl ?_
        refine Wa.aload_n (j := 1) d_MM_isSum_44 rfl ?_
        refine Wa.dup d_MM_isSum_45 rfl ?_
        refine Wx.getI 11 9 d_MM_isSum_46 f_MM_9 fl_MM_127 w_40 (s_40 hS (by decide)) ?_
        refine Wa.iconst (v := 1) d_MM_isSum_49 rfl ?_
        refine Wa.iadd d_MM_isSum_50 ?_
        refine Wx.putI 11 9 d_MM_isSum_51 f_MM_9 ok_MM fl_MM_127 (Or.inl rfl) w_40 (s_40 hS (by decide)) ?_
        refine Wa.aload_n (j := 1) d_MM_isSum_54 rfl ?_
        refine Wx.cVi (q := E_MM) (As := []) 11 (d - 1) 0 0 _ d_MM_isSum_55 mok_MM_isProduct vl_MM_210 rfl rfl rfl (Nat.le_of_ble_eq_true rfl) (by omega) (Nat.zero_le _) (Nat.zero_le _) (s_40 hS (by decide)) hF (fun y19 μ18 hS hF => ?_)
        refine Wa.if_ne 63 d_MM_isSum_58 (by decide) (fun hb => ?_) (fun hb => ?_)
        · have hF := hF.2 hb
          refine Wa.aload_n (j := 1) d_MM_isSum_63 rfl ?_
          refine Wa.iload_n (j := 0) d_MM_isSum_64 rfl ?_
          refine Wx.cVv (q := E_MM) (As := [.int 34]) 11 (d - 1) 0 0 _ d_MM_isSum_65 mok_MM_put vl_MM_182 rfl rfl rfl (Nat.le_of_ble_eq_true rfl) (by omega) (Nat.zero_le _) (Nat.zero_le _) (s_40 hS (by decide)) hF (fun μ20 hS hF => ?_)
          refine Wa.goto 9 d_MM_isSum_68 (by decide) ?_
          exact Wa.loc [1] rfl hF
        · have hF := hF.1 hb
          refine Wa.iconst (v := 0) d_MM_isSum_61 rfl ?_
          exact Wx.retz d_MM_isSum_62 rfl (Or.inl rfl) hF
set_option maxHeartbeats 4000000 in
set_option maxRecDepth 20000 in
theorem g_MM_isProduct_0 {d rc rs : Nat} {Q : Option Value → Mu → Prop} {μ : Mu}  (hD : 1 ≤ d)  (hS : St μ)
    (hF : (Cal K_MM_isValue (d - 1) 0 0 [.ref (hd 40 0)] μ (fun r μ1 => ∃ y2, r = some (.int y2) ∧ ((y2 = 0 → Q (some (.int 0)) μ1) ∧ (¬ y2 = 0 → Wx K_MM_isProduct d rc rs Q 9 [(0, .ref (hd 40 0))] [] μ1))))) : Wx K_MM_isProduct d rc rs Q 0 [(0, .ref (hd 40 0))] [] μ := by
  refine Wa.aload_n (j := 0) d_MM_isProduct_0 rfl ?_
  refine Wx.cVi (q := E_MM) (As := []) 11 (d - 1) 0 0 _ d_MM_isProduct_1 mok_MM_isValue vl_MM_213 rfl rfl rfl (Nat.le_of_ble_eq_true rfl) (by omega) (Nat.zero_le _) (Nat.zero_le _) (s_40 hS (by decide)) hF (fun y2 μ1 hS hF => ?_)
  refine Wa.if_ne 9 d_MM_isProduct_4 (by decide) (fun hb => ?_) (fun hb => ?_)
  · have hF := hF.2 hb
    exact Wa.loc [0] rfl hF
  · have hF := hF.1 hb
    refine Wa.iconst (v := 0) d_MM_isProduct_7 rfl ?_
    exact Wx.retz d_MM_isProduct_8 rfl (Or.inl rfl) hF
theorem e_MM_isProduct {d rc rs : Nat} {Q : Option Value → Mu → Prop} {μ : Mu}  (hk : Wx K_MM_isProduct d rc rs (fun r μ' => St μ' ∧ Q r μ') 0 [(0, .ref (hd 40 0))] [] μ) : Cal K_MM_isProduct d rc rs [.ref (hd 40 0)] μ Q := Cal.of (by decide +kernel) rfl rfl (Nat.le_of_ble_eq_true rfl) rfl hk
set_option maxHeartbeats 4000000 in
set_option maxRecDepth 20000 in
theorem g_MM_isProduct_9 {d rc rs : Nat} {Q : Option Value → Mu → Prop} {μ : Mu}  (hD : 1 ≤ d)  (hS : St μ)
    (hF : (Cal K_MM_isSign (d - 1) 0 0 [.ref (hd 40 0), .int 42] μ (fun r μ1 => ∃ y2, r = some (.int y2) ∧ ((y2 = 0 → (Cal K_MM_isSign (d - 1) 0 0 [.ref (hd 40 0), .int 47] μ1 (fun r μ11 => ∃ y12, r = some (.int y12) ∧ ((y12 = 0 → Q (some (.int 1)) μ11) ∧ (¬ y12 = 0 → (Cal K_MM_isSign (d - 1) 0 0 [.ref (hd 40 0), .int 42] μ11 (fun r μ13 => ∃ y14, r = some (.int y14) ∧ ((y14 = 0 → (Cal K_MM_isValue (d - 1) 0 0 [.ref (hd 40 0)] (setI μ13 (hd 40 0) 9 ((mI μ13 (hd 40 0) 9) + (1 : Int32))) (fun r μ15 => ∃ y16, r = some (.int y16) ∧ ((y16 = 0 → Q (some (.int 0)) μ15) ∧ (¬ y16 = 0 → (Cal K_MM_put (d - 1) 0 0 [.ref (hd 40 0), .int 37] μ15 (fun r μ17 => r = none ∧ Wx K_MM_isProduct d rc rs Q 9 [(0, .ref (hd 40 0))] [] μ17))))))) ∧ (¬ y14 = 0 → (Cal K_MM_isValue (d - 1) 0 0 [.ref (hd 40 0)] (setI μ13 (hd 40 0) 9 ((mI μ13 (hd 40 0) 9) + (1 : Int32))) (fun r μ18 => ∃ y19, r = some (.int y19) ∧ ((y19 = 0 → Q (some (.int 0)) μ18) ∧ (¬ y19 = 0 → (Cal K_MM_put (d - 1) 0 0 [.ref (hd 40 0), .int 36] μ18 (fun r μ20 => r = none ∧ Wx K_MM_isProduct d rc rs Q 9 [(0, .ref (hd 40 0))] [] μ20))))))))))))))) ∧ (¬ y2 = 0 → (Cal K_MM_isSign (d - 1) 0 0 [.ref (hd 40 0), .int 42] μ1 (fun r μ3 => ∃ y4, r = some (.int y4) ∧ ((y4 = 0 → (Cal K_MM_isValue (d - 1) 0 0 [.ref (hd 40 0)] (setI μ3 (hd 40 0) 9 ((mI μ3 (hd 40 0) 9) + (1 : Int32))) (fun r μ5 => ∃ y6, r = some (.int y6) ∧ ((y6 = 0 → Q (some (.int 0)) μ5) ∧ (¬ y6 = 0 → (Cal K_MM_put (d - 1) 0 0 [.ref (hd 40 0), .int 37] μ5 (fun r μ7 => r = none ∧ Wx K_MM_isProduct d rc rs Q 9 [(0, .ref (hd 40 0))] [] μ7))))))) ∧ (¬ y4 = 0 → (Cal K_MM_isValue (d - 1) 0 0 [.ref (hd 40 0)] (setI μ3 (hd 40 0) 9 ((mI μ3 (hd 40 0) 9) + (1 : Int32))) (fun r μ8 => ∃ y9, r = some (.int y9) ∧ ((y9 = 0 → Q (some (.int 0)) μ8) ∧ (¬ y9 = 0 → (Cal K_MM_put (d - 1) 0 0 [.ref (hd 40 0), .int 36] μ8 (fun r μ10 => r = none ∧ Wx K_MM_isProduct d rc rs Q 9 [(0, .ref (hd 40 0))] [] μ10))))))))))))))) : Wx K_MM_isProduct d rc rs Q 9 [(0, .ref (hd 40 0))] [] μ := by
  refine Wa.aload_n (j := 0) d_MM_isProduct_9 rfl ?_
  refine Wa.bipush (v := 42) d_MM_isProduct_10 rfl ?_
  refine Wx.cVi (q := E_MM) (As := [.int 42]) 11 (d - 1) 0 0 _ d_MM_isProduct_12 mok_MM_isSign vl_MM_204 rfl rfl rfl (Nat.le_of_ble_eq_true rfl) (by omega) (Nat.zero_le _) (Nat.zero_le _) (s_40 hS (by decide)) hF (fun y2 μ1 hS hF => ?_)
  refine Wa.if_ne 27 d_MM_isProduct_15 (by decide) (fun hb => ?_) (fun hb => ?_)
  · have hF := hF.2 hb
    refine Wa.aload_n (j := 0) d_MM_isProduct_27 rfl ?_
    refine Wa.bipush (v := 42) d_MM_isProduct_28 rfl ?_
    refine Wx.cVi (q := E_MM) (As := [.int 42]) 11 (d - 1) 0 0 _ d_MM_isProduct_30 mok_MM_isSign vl_MM_204 rfl rfl rfl (Nat.le_of_ble_eq_true rfl) (by omega) (Nat.zero_le _) (Nat.zero_le _) (s_40 hS (by decide)) hF (fun y4 μ3 hS hF => ?_)
    refine Wa.if_eq 41 d_MM_isProduct_33 (by decide) (fun hb => ?_) (fun hb => ?_)
    · have hF := hF.1 hb
      refine Wa.bipush (v := 37) d_MM_isProduct_41 rfl ?_
      refine Wa.istore_n (i := 1) (L' := [(1, .int 37), (0, .ref (hd 40 0))]) d_MM_isProduct_43 rfl (by decide) rfl ?_
      refine Wa.aload_n (j := 1) d_MM_isProduct_44 rfl ?_
      refine Wa.dup d_MM_isProduct_45 rfl ?_
      refine Wx.getI 11 9 d_MM_isProduct_46 f_MM_9 fl_MM_127 w_40 (s_40 hS (by decide)) ?_
      refine Wa.iconst (v := 1) d_MM_isProduct_49 rfl ?_
      refine Wa.iadd d_MM_isProduct_50 ?_
      refine Wx.putI 11 9 d_MM_isProduct_51 f_MM_9 ok_MM fl_MM_127 (Or.inl rfl) w_40 (s_40 hS (by decide)) ?_
      refine Wa.aload_n (j := 1) d_MM_isProduct_54 rfl ?_
      refine Wx.cVi (q := E_MM) (As := []) 11 (d - 1) 0 0 _ d_MM_isProduct_55 mok_MM_isValue vl_MM_213 rfl rfl rfl (Nat.le_of_ble_eq_true rfl) (by omega) (Nat.zero_le _) (Nat.zero_le _) (s_40 hS (by decide)) hF (fun y6 μ5 hS hF => ?_)
      refine Wa.if_ne 63 d_MM_isProduct_58 (by decide) (fun hb => ?_) (fun hb => ?_)
      · have hF := hF.2 hb
        refine Wa.aload_n (j := 1) d_MM_isProduct_63 rfl ?_
        refine Wa.iload_n (j := 0) d_MM_isProduct_64 rfl ?_
        refine Wx.cVv (q := E_MM) (As := [.int 37]) 11 (d - 1) 0 0 _ d_MM_isProduct_65 mok_MM_put vl_MM_182 rfl rfl rfl (Nat.le_of_ble_eq_true rfl) (by omega) (Nat.zero_le _) (Nat.zero_le _) (s_40 hS (by decide)) hF (fun μ7 hS hF => ?_)
        refine Wa.goto 9 d_MM_isProduct_68 (by decide) ?_
        exact Wa.loc [1] rfl hF
      · have hF := hF.1 hb
        refine Wa.iconst (v := 0) d_MM_isProduct_61 rfl ?_
        exact Wx.retz d_MM_isProduct_62 rfl (Or.inl rfl) hF
    · have hF := hF.2 hb
      refine Wa.bipush (v := 36) d_MM_isProduct_36 rfl ?_
      refine Wa.goto 43 d_MM_isProduct_38 (by decide) ?_
      refine Wa.istore_n (i := 1) (L' := [(1, .int 36), (0, .ref (hd 40 0))]) d_MM_isProduct_43 rfl (by decide) rfl ?_
      refine Wa.aload_n (j := 1) d_MM_isProduct_44 rfl ?_
      refine Wa.dup d_MM_isProduct_45 rfl ?_
      refine Wx.getI 11 9 d_MM_isProduct_46 f_MM_9 fl_MM_127 w_40 (s_40 hS (by decide)) ?_
      refine Wa.iconst (v := 1) d_MM_isProduct_49 rfl ?_
      refine Wa.iadd d_MM_isProduct_50 ?_
      refine Wx.putI 11 9 d_MM_isProduct_51 f_MM_9 ok_MM fl_MM_127 (Or.inl rfl) w_40 (s_40 hS (by decide)) ?_
      refine Wa.aload_n (j := 1) d_MM_isProduct_54 rfl ?_
      refine Wx.cVi (q := E_MM) (As := []) 11 (d - 1) 0 0 _ d_MM_isProduct_55 mok_MM_isValue vl_MM_213 rfl rfl rfl (Nat.le_of_ble_eq_true rfl) (by omega) (Nat.zero_le _) (Nat.zero_le _) (s_40 hS (by decide)) hF (fun y9 μ8 hS hF => ?_)
      refine Wa.if_ne 63 d_MM_isProduct_58 (by decide) (fun hb => ?_) (fun hb => ?_)
      · have hF := hF.2 hb
        refine Wa.aload_n (j := 1) d_MM_isProduct_63 rfl ?_
        refine Wa.iload_n (j := 0) d_MM_isProduct_64 rfl ?_
        refine Wx.cVv (q := E_MM) (As := [.int 36]) 11 (d - 1) 0 0 _ d_MM_isProduct_65 mok_MM_put vl_MM_182 rfl rfl rfl (Nat.le_of_ble_eq_true rfl) (by omega) (Nat.zero_le _) (Nat.zero_le _) (s_40 hS (by decide)) hF (fun μ10 hS hF => ?_)
        refine Wa.goto 9 d_MM_isProduct_68 (by decide) ?_
        exact Wa.loc [1] rfl hF
      · have hF := hF.1 hb
        refine Wa.iconst (v := 0) d_MM_isProduct_61 rfl ?_
        exact Wx.retz d_MM_isProduct_62 rfl (Or.inl rfl) hF
  · have hF := hF.1 hb
    refine Wa.aload_n (j := 0) d_MM_isProduct_18 rfl ?_
    refine Wa.bipush (v := 47) d_MM_isProduct_19 rfl ?_
    refine Wx.cVi (q := E_MM) (As := [.int 47]) 11 (d - 1) 0 0 _ d_MM_isProduct_21 mok_MM_isSign vl_MM_204 rfl rfl rfl (Nat.le_of_ble_eq_true rfl) (by omega) (Nat.zero_le _) (Nat.zero_le _) (s_40 hS (by decide)) hF (fun y12 μ11 hS hF => ?_)
    refine Wa.if_eq 71 d_MM_isProduct_24 (by decide) (fun hb => ?_) (fun hb => ?_)
    · have hF := hF.1 hb
      refine Wa.iconst (v := 1) d_MM_isProduct_71 rfl ?_
      exact Wx.retz d_MM_isProduct_72 rfl (Or.inr rfl) hF
    · have hF := hF.2 hb
      refine Wa.aload_n (j := 0) d_MM_isProduct_27 rfl ?_
      refine Wa.bipush (v := 42) d_MM_isProduct_28 rfl ?_
      refine Wx.cVi (q := E_MM) (As := [.int 42]) 11 (d - 1) 0 0 _ d_MM_isProduct_30 mok_MM_isSign vl_MM_204 rfl rfl rfl (Nat.le_of_ble_eq_true rfl) (by omega) (Nat.zero_le _) (Nat.zero_le _) (s_40 hS (by decide)) hF (fun y14 μ13 hS hF => ?_)
      refine Wa.if_eq 41 d_MM_isProduct_33 (by decide) (fun hb => ?_) (fun hb => ?_)
      · have hF := hF.1 hb
        refine Wa.bipush (v := 37) d_MM_isProduct_41 rfl ?_
        refine Wa.istore_n (i := 1) (L' := [(1, .int 37), (0, .ref (hd 40 0))]) d_MM_isProduct_43 rfl (by decide) rfl ?_
        refine Wa.aload_n (j := 1) d_MM_isProduct_44 rfl ?_
        refine Wa.dup d_MM_isProduct_45 rfl ?_
        refine Wx.getI 11 9 d_MM_isProduct_46 f_MM_9 fl_MM_127 w_40 (s_40 hS (by decide)) ?_
        refine Wa.iconst (v := 1) d_MM_isProduct_49 rfl ?_
        refine Wa.iadd d_MM_isProduct_50 ?_
        refine Wx.putI 11 9 d_MM_isProduct_51 f_MM_9 ok_MM fl_MM_127 (Or.inl rfl) w_40 (s_40 hS (by decide)) ?_
        refine Wa.aload_n (j := 1) d_MM_isProduct_54 rfl ?_
        refine Wx.cVi (q := E_MM) (As := []) 11 (d - 1) 0 0 _ d_MM_isProduct_55 mok_MM_isValue vl_MM_213 rfl rfl rfl (Nat.le_of_ble_eq_true rfl) (by omega) (Nat.zero_le _) (Nat.zero_le _) (s_40 hS (by decide)) hF (fun y16 μ15 hS hF => ?_)
        refine Wa.if_ne 63 d_MM_isProduct_58 (by decide) (fun hb => ?_) (fun hb => ?_)
        · have hF := hF.2 hb
          refine Wa.aload_n (j := 1) d_MM_isProduct_63 rfl ?_
          refine Wa.iload_n (j := 0) d_MM_isProduct_64 rfl ?_
          refine Wx.cVv (q := E_MM) (As := [.int 37]) 11 (d - 1) 0 0 _ d_MM_isProduct_65 mok_MM_put vl_MM_182 rfl rfl rfl (Nat.le_of_ble_eq_true rfl) (by omega) (Nat.zero_le _) (Nat.zero_le _) (s_40 hS (by decide)) hF (fun μ17 hS hF => ?_)
          refine Wa.goto 9 d_MM_isProduct_68 (by decide) ?_
          exact Wa.loc [1] rfl hF
        · have hF := hF.1 hb
          refine Wa.iconst (v := 0) d_MM_isProduct_61 rfl ?_
          exact Wx.retz d_MM_isProduct_62 rfl (Or.inl rfl) hF
      · have hF := hF.2 hb
        refine Wa.bipush (v := 36) d_MM_isProduct_36 rfl ?_
        refine Wa.goto 43 d_MM_isProduct_38 (by decide) ?_
        refine Wa.istore_n (i := 1) (L' := [(1, .int 36), (0, .ref (hd 40 0))]) d_MM_isProduct_43 rfl (by decide) rfl ?_
        refine Wa.aload_n (j := 1) d_MM_isProduct_44 rfl ?_
        refine Wa.dup d_MM_isProduct_45 rfl ?_
        refine Wx.getI 11 9 d_MM_isProduct_46 f_MM_9 fl_MM_127 w_40 (s_40 hS (by decide)) ?_
        refine Wa.iconst (v := 1) d_MM_isProduct_49 rfl ?_
        refine Wa.iadd d_MM_isProduct_50 ?_
        refine Wx.putI 11 9 d_MM_isProduct_51 f_MM_9 ok_MM fl_MM_127 (Or.inl rfl) w_40 (s_40 hS (by decide)) ?_
        refine Wa.aload_n (j := 1) d_MM_isProduct_54 rfl ?_
        refine Wx.cVi (q := E_MM) (As := []) 11 (d - 1) 0 0 _ d_MM_isProduct_55 mok_MM_isValue vl_MM_213 rfl rfl rfl (Nat.le_of_ble_eq_true rfl) (by omega) (Nat.zero_le _) (Nat.zero_le _) (s_40 hS (by decide)) hF (fun y19 μ18 hS hF => ?_)
        refine Wa.if_ne 63 d_MM_isProduct_58 (by decide) (fun hb => ?_) (fun hb => ?_)
        · have hF := hF.2 hb
          refine Wa.aload_n (j := 1) d_MM_isProduct_63 rfl ?_
          refine Wa.iload_n (j := 0) d_MM_isProduct_64 rfl ?_
          refine Wx.cVv (q := E_MM) (As := [.int 36]) 11 (d - 1) 0 0 _ d_MM_isProduct_65 mok_MM_put vl_MM_182 rfl rfl rfl (Nat.le_of_ble_eq_true rfl) (by omega) (Nat.zero_le _) (Nat.zero_le _) (s_40 hS (by decide)) hF (fun μ20 hS hF => ?_)
          refine Wa.goto 9 d_MM_isProduct_68 (by decide) ?_
          exact Wa.loc [1] rfl hF
        · have hF := hF.1 hb
          refine Wa.iconst (v := 0) d_MM_isProduct_61 rfl ?_
          exact Wx.retz d_MM_isProduct_62 rfl (Or.inl rfl) hF
set_option maxHeartbeats 4000000 in
set_option maxRecDepth 20000 in
theorem g_MM_isInside_0 {d rc rs : Nat} {Q : Option Value → Mu → Prop} {μ : Mu} {x1 : Int32} {x2 : Int32} (hD : 1 ≤ d)  (hS : St μ)
    (hF : (Cal K_MM_isSign (d - 1) 0 0 [.ref (hd 40 0), .int 40] μ (fun r μ1 => ∃ y2, r = some (.int y2) ∧ ((y2 = 0 → Q (some (.int 0)) μ1) ∧ (¬ y2 = 0 → (Cal K_MM_isDeeper (d - 1) 0 0 [.ref (hd 40 0)] μ1 (fun r μ3 => ∃ y4, r = some (.int y4) ∧ ((y4 = 0 → Q (some (.int 0)) μ3) ∧ (¬ y4 = 0 → (Cal K_MM_isSum (d - 1) 0 0 [.ref (hd 40 0)] μ3 (fun r μ5 => ∃ y6, r = some (.int y6) ∧ ((y6 = 0 → Q (some (.int 0)) μ5) ∧ (¬ y6 = 0 → ((x2 = 0 → ((x2 = 0 → (Cal K_MM_eatSign (d - 1) 0 0 [.ref (hd 40 0), .int 41] (setI μ5 (hd 40 0) 10 ((mI μ5 (hd 40 0) 10) - (1 : Int32))) (fun r μ7 => ∃ y8, r = some (.int y8) ∧ ((y8 = 0 ∨ y8 = 1) ∧ Q (some (.int y8)) μ7)))) ∧ (¬ x2 = 0 → (Cal K_MM_put (d - 1) 0 0 [.ref (hd 40 0), .int x1] (setI μ5 (hd 40 0) 10 ((mI μ5 (hd 40 0) 10) - (1 : Int32))) (fun r μ9 => r = none ∧ (Cal K_MM_eatSign (d - 1) 0 0 [.ref (hd 40 0), .int 41] μ9 (fun r μ10 => ∃ y11, r = some (.int y11) ∧ ((y11 = 0 ∨ y11 = 1) ∧ Q (some (.int y11)) μ10)))))))) ∧ (¬ x2 = 0 → (Cal K_MM_eatSign (d - 1) 0 0 [.ref (hd 40 0), .int 44] μ5 (fun r μ12 => ∃ y13, r = some (.int y13) ∧ ((y13 = 0 → Q (some (.int 0)) μ12) ∧ (¬ y13 = 0 → (Cal K_MM_isSum (d - 1) 0 0 [.ref (hd 40 0)] μ12 (fun r μ14 => ∃ y15, r = some (.int y15) ∧ ((y15 = 0 → Q (some (.int 0)) μ14) ∧ (¬ y15 = 0 → ((x2 = 0 → (Cal K_MM_eatSign (d - 1) 0 0 [.ref (hd 40 0), .int 41] (setI μ14 (hd 40 0) 10 ((mI μ14 (hd 40 0) 10) - (1 : Int32))) (fun r μ16 => ∃ y17, r = some (.int y17) ∧ ((y17 = 0 ∨ y17 = 1) ∧ Q (some (.int y17)) μ16)))) ∧ (¬ x2 = 0 → (Cal K_MM_put (d - 1) 0 0 [.ref (hd 40 0), .int x1] (setI μ14 (hd 40 0) 10 ((mI μ14 (hd 40 0) 10) - (1 : Int32))) (fun r μ18 => r = none ∧ (Cal K_MM_eatSign (d - 1) 0 0 [.ref (hd 40 0), .int 41] μ18 (fun r μ19 => ∃ y20, r = some (.int y20) ∧ ((y20 = 0 ∨ y20 = 1) ∧ Q (some (.int y20)) μ19)))))))))))))))))))))))))))))) : Wx K_MM_isInside d rc rs Q 0 [(0, .ref (hd 40 0)), (1, .int x1), (2, .int x2)] [] μ := by
  refine Wa.aload_n (j := 0) d_MM_isInside_0 rfl ?_
  refine Wa.bipush (v := 40) d_MM_isInside_1 rfl ?_
  refine Wx.cVi (q := E_MM) (As := [.int 40]) 11 (d - 1) 0 0 _ d_MM_isInside_3 mok_MM_isSign vl_MM_204 rfl rfl rfl (Nat.le_of_ble_eq_true rfl) (by omega) (Nat.zero_le _) (Nat.zero_le _) (s_40 hS (by decide)) hF (fun y2 μ1 hS hF => ?_)
  refine Wa.if_eq 43 d_MM_isInside_6 (by decide) (fun hb => ?_) (fun hb => ?_)
  · have hF := hF.1 hb
    refine Wa.iconst (v := 0) d_MM_isInside_43 rfl ?_
    exact Wx.retz d_MM_isInside_44 rfl (Or.inl rfl) hF
  · have hF := hF.2 hb
    refine Wa.aload_n (j := 0) d_MM_isInside_9 rfl ?_
    refine Wx.cVi (q := E_MM) (As := []) 11 (d - 1) 0 0 _ d_MM_isInside_10 mok_MM_isDeeper vl_MM_201 rfl rfl rfl (Nat.le_of_ble_eq_true rfl) (by omega) (Nat.zero_le _) (Nat.zero_le _) (s_40 hS (by decide)) hF (fun y4 μ3 hS hF => ?_)
    refine Wa.if_eq 43 d_MM_isInside_13 (by decide) (fun hb => ?_) (fun hb => ?_)
    · have hF := hF.1 hb
      refine Wa.iconst (v := 0) d_MM_isInside_43 rfl ?_
      exact Wx.retz d_MM_isInside_44 rfl (Or.inl rfl) hF
    · have hF := hF.2 hb
      refine Wa.aload_n (j := 0) d_MM_isInside_16 rfl ?_
      refine Wx.cVi (q := E_MM) (As := []) 11 (d - 1) 0 0 _ d_MM_isInside_17 mok_MM_isSum vl_MM_164 rfl rfl rfl (Nat.le_of_ble_eq_true rfl) (by omega) (Nat.zero_le _) (Nat.zero_le _) (s_40 hS (by decide)) hF (fun y6 μ5 hS hF => ?_)
      refine Wa.if_eq 43 d_MM_isInside_20 (by decide) (fun hb => ?_) (fun hb => ?_)
      · have hF := hF.1 hb
        refine Wa.iconst (v := 0) d_MM_isInside_43 rfl ?_
        exact Wx.retz d_MM_isInside_44 rfl (Or.inl rfl) hF
      · have hF := hF.2 hb
        refine Wa.iload_n (j := 2) d_MM_isInside_23 rfl ?_
        refine Wa.if_eq 45 d_MM_isInside_24 (by decide) (fun hb => ?_) (fun hb => ?_)
        · have hF := hF.1 hb
          refine Wa.aload_n (j := 0) d_MM_isInside_45 rfl ?_
          refine Wa.dup d_MM_isInside_46 rfl ?_
          refine Wx.getI 11 10 d_MM_isInside_47 f_MM_10 fl_MM_189 w_40 (s_40 hS (by decide)) ?_
          refine Wa.iconst (v := 1) d_MM_isInside_50 rfl ?_
          refine Wa.isub d_MM_isInside_51 ?_
          refine Wx.putI 11 10 d_MM_isInside_52 f_MM_10 ok_MM fl_MM_189 (Or.inl rfl) w_40 (s_40 hS (by decide)) ?_
          refine Wa.iload_n (j := 2) d_MM_isInside_55 rfl ?_
          refine Wa.if_eq 64 d_MM_isInside_56 (by decide) (fun hb => ?_) (fun hb => ?_)
          · have hF := hF.1 hb
            refine Wa.aload_n (j := 0) d_MM_isInside_64 rfl ?_
            refine Wa.bipush (v := 41) d_MM_isInside_65 rfl ?_
            refine Wx.cVi (q := E_MM) (As := [.int 41]) 11 (d - 1) 0 0 _ d_MM_isInside_67 mok_MM_eatSign vl_MM_150 rfl rfl rfl (Nat.le_of_ble_eq_true rfl) (by omega) (Nat.zero_le _) (Nat.zero_le _) (s_40 hS (by decide)) hF (fun y8 μ7 hS hF => ?_)
            exact Wx.retz d_MM_isInside_70 rfl hF.1 hF.2
          · have hF := hF.2 hb
            refine Wa.aload_n (j := 0) d_MM_isInside_59 rfl ?_
            refine Wa.iload_n (j := 1) d_MM_isInside_60 rfl ?_
            refine Wx.cVv (q := E_MM) (As := [.int x1]) 11 (d - 1) 0 0 _ d_MM_isInside_61 mok_MM_put vl_MM_182 rfl rfl rfl (Nat.le_of_ble_eq_true rfl) (by omega) (Nat.zero_le _) (Nat.zero_le _) (s_40 hS (by decide)) hF (fun μ9 hS hF => ?_)
            refine Wa.aload_n (j := 0) d_MM_isInside_64 rfl ?_
            refine Wa.bipush (v := 41) d_MM_isInside_65 rfl ?_
            refine Wx.cVi (q := E_MM) (As := [.int 41]) 11 (d - 1) 0 0 _ d_MM_isInside_67 mok_MM_eatSign vl_MM_150 rfl rfl rfl (Nat.le_of_ble_eq_true rfl) (by omega) (Nat.zero_le _) (Nat.zero_le _) (s_40 hS (by decide)) hF (fun y11 μ10 hS hF => ?_)
            exact Wx.retz d_MM_isInside_70 rfl hF.1 hF.2
        · have hF := hF.2 hb
          refine Wa.aload_n (j := 0) d_MM_isInside_27 rfl ?_
          refine Wa.bipush (v := 44) d_MM_isInside_28 rfl ?_
          refine Wx.cVi (q := E_MM) (As := [.int 44]) 11 (d - 1) 0 0 _ d_MM_isInside_30 mok_MM_eatSign vl_MM_150 rfl rfl rfl (Nat.le_of_ble_eq_true rfl) (by omega) (Nat.zero_le _) (Nat.zero_le _) (s_40 hS (by decide)) hF (fun y13 μ12 hS hF => ?_)
          refine Wa.if_eq 43 d_MM_isInside_33 (by decide) (fun hb => ?_) (fun hb => ?_)
          · have hF := hF.1 hb
            refine Wa.iconst (v := 0) d_MM_isInside_43 rfl ?_
            exact Wx.retz d_MM_isInside_44 rfl (Or.inl rfl) hF
          · have hF := hF.2 hb
            refine Wa.aload_n (j := 0) d_MM_isInside_36 rfl ?_
            refine Wx.cVi (q := E_MM) (As := []) 11 (d - 1) 0 0 _ d_MM_isInside_37 mok_MM_isSum vl_MM_164 rfl rfl rfl (Nat.le_of_ble_eq_true rfl) (by omega) (Nat.zero_le _) (Nat.zero_le _) (s_40 hS (by decide)) hF (fun y15 μ14 hS hF => ?_)
            refine Wa.if_ne 45 d_MM_isInside_40 (by decide) (fun hb => ?_) (fun hb => ?_)
            · have hF := hF.2 hb
              refine Wa.aload_n (j := 0) d_MM_isInside_45 rfl ?_
              refine Wa.dup d_MM_isInside_46 rfl ?_
              refine Wx.getI 11 10 d_MM_isInside_47 f_MM_10 fl_MM_189 w_40 (s_40 hS (by decide)) ?_
              refine Wa.iconst (v := 1) d_MM_isInside_50 rfl ?_
              refine Wa.isub d_MM_isInside_51 ?_
              refine Wx.putI 11 10 d_MM_isInside_52 f_MM_10 ok_MM fl_MM_189 (Or.inl rfl) w_40 (s_40 hS (by decide)) ?_
              refine Wa.iload_n (j := 2) d_MM_isInside_55 rfl ?_
              refine Wa.if_eq 64 d_MM_isInside_56 (by decide) (fun hb => ?_) (fun hb => ?_)
              · have hF := hF.1 hb
                refine Wa.aload_n (j := 0) d_MM_isInside_64 rfl ?_
                refine Wa.bipush (v := 41) d_MM_isInside_65 rfl ?_
                refine Wx.cVi (q := E_MM) (As := [.int 41]) 11 (d - 1) 0 0 _ d_MM_isInside_67 mok_MM_eatSign vl_MM_150 rfl rfl rfl (Nat.le_of_ble_eq_true rfl) (by omega) (Nat.zero_le _) (Nat.zero_le _) (s_40 hS (by decide)) hF (fun y17 μ16 hS hF => ?_)
                exact Wx.retz d_MM_isInside_70 rfl hF.1 hF.2
              · have hF := hF.2 hb
                refine Wa.aload_n (j := 0) d_MM_isInside_59 rfl ?_
                refine Wa.iload_n (j := 1) d_MM_isInside_60 rfl ?_
                refine Wx.cVv (q := E_MM) (As := [.int x1]) 11 (d - 1) 0 0 _ d_MM_isInside_61 mok_MM_put vl_MM_182 rfl rfl rfl (Nat.le_of_ble_eq_true rfl) (by omega) (Nat.zero_le _) (Nat.zero_le _) (s_40 hS (by decide)) hF (fun μ18 hS hF => ?_)
                refine Wa.aload_n (j := 0) d_MM_isInside_64 rfl ?_
                refine Wa.bipush (v := 41) d_MM_isInside_65 rfl ?_
                refine Wx.cVi (q := E_MM) (As := [.int 41]) 11 (d - 1) 0 0 _ d_MM_isInside_67 mok_MM_eatSign vl_MM_150 rfl rfl rfl (Nat.le_of_ble_eq_true rfl) (by omega) (Nat.zero_le _) (Nat.zero_le _) (s_40 hS (by decide)) hF (fun y20 μ19 hS hF => ?_)
                exact Wx.retz d_MM_isInside_70 rfl hF.1 hF.2
            · have hF := hF.1 hb
              refine Wa.iconst (v := 0) d_MM_isInside_43 rfl ?_
              exact Wx.retz d_MM_isInside_44 rfl (Or.inl rfl) hF
theorem e_MM_isInside {d rc rs : Nat} {Q : Option Value → Mu → Prop} {μ : Mu} {x1 : Int32} {x2 : Int32} (hk : Wx K_MM_isInside d rc rs (fun r μ' => St μ' ∧ Q r μ') 0 [(0, .ref (hd 40 0)), (1, .int x1), (2, .int x2)] [] μ) : Cal K_MM_isInside d rc rs [.ref (hd 40 0), .int x1, .int x2] μ Q := Cal.of (by decide +kernel) rfl rfl (Nat.le_of_ble_eq_true rfl) rfl hk
set_option maxHeartbeats 4000000 in
set_option maxRecDepth 20000 in
theorem g_MM_isValue_0 {d rc rs : Nat} {Q : Option Value → Mu → Prop} {μ : Mu}  (hD : 1 ≤ d)  (hS : St μ)
    (hF : (vp_in (mI μ (hd 40 0) 9) 401 ∧ (Cal K_MM_is (d - 1) 0 0 [.ref (hd 40 0), .int 41] μ (fun r μ2 => ∃ y3, r = some (.int y3) ∧ ((y3 = 0 → (Cal K_MM_is (d - 1) 0 0 [.ref (hd 40 0), .int 17] μ2 (fun r μ4 => ∃ y5, r = some (.int y5) ∧ ((y5 = 0 → (Cal K_MM_is (d - 1) 0 0 [.ref (hd 40 0), .int 18] μ4 (fun r μ6 => ∃ y7, r = some (.int y7) ∧ ((y7 = 0 → (Cal K_MM_is (d - 1) 0 0 [.ref (hd 40 0), .int 19] μ6 (fun r μ12 => ∃ y13, r = some (.int y13) ∧ ((y13 = 0 → (Cal K_MM_is (d - 1) 0 0 [.ref (hd 40 0), .int 20] μ12 (fun r μ18 => ∃ y19, r = some (.int y19) ∧ ((y19 = 0 → (Cal K_MM_is (d - 1) 0 0 [.ref (hd 40 0), .int 21] μ18 (fun r μ20 => ∃ y21, r = some (.int y21) ∧ ((y21 = 0 → (Cal K_MM_isSign (d - 1) 0 0 [.ref (hd 40 0), .int 45] μ20 (fun r μ22 => ∃ y23, r = some (.int y23) ∧ ((y23 = 0 → (Cal K_MM_eat (d - 1) 0 0 [.ref (hd 40 0), .int 27] μ22 (fun r μ24 => ∃ y25, r = some (.int y25) ∧ ((y25 = 0 → (Cal K_MM_eat (d - 1) 0 0 [.ref (hd 40 0), .int 28] μ24 (fun r μ28 => ∃ y29, r = some (.int y29) ∧ ((y29 = 0 → (Cal K_MM_isInside (d - 1) 0 0 [.ref (hd 40 0), .int (mI μ (hd 42 0) (mI μ (hd 40 0) 9).toNatClampNeg), .int 0] μ28 (fun r μ30 => ∃ y31, r = some (.int y31) ∧ ((y31 = 0 ∨ y31 = 1) ∧ Q (some (.int y31)) μ30)))) ∧ (¬ y29 = 0 → (Cal K_MM_isInside (d - 1) 0 0 [.ref (hd 40 0), .int (mI μ (hd 42 0) (mI μ (hd 40 0) 9).toNatClampNeg), .int 1] μ28 (fun r μ32 => ∃ y33, r = some (.int y33) ∧ ((y33 = 0 ∨ y33 = 1) ∧ Q (some (.int y33)) μ32)))))))) ∧ (¬ y25 = 0 → (Cal K_MM_isInside (d - 1) 0 0 [.ref (hd 40 0), .int (mI μ (hd 42 0) (mI μ (hd 40 0) 9).toNatClampNeg), .int 1] μ24 (fun r μ26 => ∃ y27, r = some (.int y27) ∧ ((y27 = 0 ∨ y27 = 1) ∧ Q (some (.int y27)) μ26)))))))) ∧ (¬ y23 = 0 → (Cal K_MM_isDeeper (d - 1) 0 0 [.ref (hd 40 0)] μ22 (fun r μ34 => ∃ y35, r = some (.int y35) ∧ ((y35 = 0 → Q (some (.int 0)) μ34) ∧ (¬ y35 = 0 → (Cal K_MM_isValue (d - 1) 0 0 [.ref (hd 40 0)] μ34 (fun r μ36 => ∃ y37, r = some (.int y37) ∧ ((y37 = 0 → Q (some (.int 0)) μ36) ∧ (¬ y37 = 0 → (Cal K_MM_put (d - 1) 0 0 [.ref (hd 40 0), .int 33] (setI μ36 (hd 40 0) 10 ((mI μ36 (hd 40 0) 10) - (1 : Int32))) (fun r μ38 => r = none ∧ Q (some (.int 1)) μ38))))))))))))))) ∧ (¬ y21 = 0 → (Cal K_MM_isNamed (d - 1) 0 0 [.ref (hd 40 0), .int 12] μ20 (fun r μ39 => ∃ y40, r = some (.int y40) ∧ ((y40 = 0 ∨ y40 = 1) ∧ Q (some (.int y40)) μ39)))))))) ∧ (¬ y19 = 0 → (Cal K_MM_isNamed (d - 1) 0 0 [.ref (hd 40 0), .int 12] μ18 (fun r μ41 => ∃ y42, r = some (.int y42) ∧ ((y42 = 0 → Q (some (.int 0)) μ41) ∧ (¬ y42 = 0 → (Cal K_MM_isName (d - 1) 0 0 [.ref (hd 40 0), .int 13] μ41 (fun r μ43 => ∃ y44, r = some (.int y44) ∧ ((y44 = 0 → Q (some (.int 0)) μ43) ∧ (¬ y44 = 0 → Q (some (.int 1)) μ43))))))))))))) ∧ (¬ y13 = 0 → (Cal K_MM_isNamed (d - 1) 0 0 [.ref (hd 40 0), .int 12] μ12 (fun r μ14 => ∃ y15, r = some (.int y15) ∧ ((y15 = 0 → Q (some (.int 0)) μ14) ∧ (¬ y15 = 0 → (Cal K_MM_isName (d - 1) 0 0 [.ref (hd 40 0), .int 13] μ14 (fun r μ16 => ∃ y17, r = some (.int y17) ∧ ((y17 = 0 → Q (some (.int 0)) μ16) ∧ (¬ y17 = 0 → Q (some (.int 1)) μ16))))))))))))) ∧ (¬ y7 = 0 → (Cal K_MM_isNamed (d - 1) 0 0 [.ref (hd 40 0), .int 12] μ6 (fun r μ8 => ∃ y9, r = some (.int y9) ∧ ((y9 = 0 → Q (some (.int 0)) μ8) ∧ (¬ y9 = 0 → (Cal K_MM_isName (d - 1) 0 0 [.ref (hd 40 0), .int 13] μ8 (fun r μ10 => ∃ y11, r = some (.int y11) ∧ ((y11 = 0 → Q (some (.int 0)) μ10) ∧ (¬ y11 = 0 → Q (some (.int 1)) μ10))))))))))))) ∧ (¬ y5 = 0 → (Cal K_MM_put (d - 1) 0 0 [.ref (hd 40 0), .int (mI μ (hd 42 0) (mI μ (hd 40 0) 9).toNatClampNeg)] μ4 (fun r μ45 => r = none ∧ Q (some (.int 1)) (setI μ45 (hd 40 0) 9 ((mI μ45 (hd 40 0) 9) + (1 : Int32)))))))))) ∧ (¬ y3 = 0 → (Cal K_MM_put (d - 1) 0 0 [.ref (hd 40 0), .int 32] μ2 (fun r μ46 => r = none ∧ (Cal K_MM_numberAt (d - 1) 0 0 [.ref (hd 40 0), .int (mI μ46 (hd 40 0) 9)] μ46 (fun r μ47 => ∃ y48, r = some (.int y48) ∧ (Cal K_MM_put (d - 1) 0 0 [.ref (hd 40 0), .int y48] μ47 (fun r μ49 => r = none ∧ Q (some (.int 1)) (setI μ49 (hd 40 0) 9 ((mI μ49 (hd 40 0) 9) + (1 : Int32))))))))))))))) : Wx K_MM_isValue d rc rs Q 0 [(0, .ref (hd 40 0))] [] μ := by
  refine Wa.aload_n (j := 0) d_MM_isValue_0 rfl ?_
  refine Wx.getR 11 4 d_MM_isValue_1 f_MM_4 rfl fl_MM_17 (s_40 hS (by decide)) (r_40_4 hS (by decide)) ?_
  refine Wa.aload_n (j := 0) d_MM_isValue_4 rfl ?_
  refine Wx.getI 11 9 d_MM_isValue_5 f_MM_9 fl_MM_127 w_40 (s_40 hS (by decide)) ?_
  have hc1 := hF.1
  have hF := hF.2
  have hlhc1 := vp_in_lt hc1
  refine Wx.iald d_MM_isValue_8 w_42 (s_42 hS (by decide)) hc1 ?_
  refine Wa.istore_n (i := 1) (L' := [(1, .int (mI μ (hd 42 0) (mI μ (hd 40 0) 9).toNatClampNeg)), (0, .ref (hd 40 0))]) d_MM_isValue_9 rfl (by decide) rfl ?_
  refine Wa.aload_n (j := 1) d_MM_isValue_10 rfl ?_
  refine Wa.bipush (v := 41) d_MM_isValue_11 rfl ?_
  refine Wx.cVi (q := E_MM) (As := [.int 41]) 11 (d - 1) 0 0 _ d_MM_isValue_13 mok_MM_is vl_MM_130 rfl rfl rfl (Nat.le_of_ble_eq_true rfl) (by omega) (Nat.zero_le _) (Nat.zero_le _) (s_40 hS (by decide)) hF (fun y3 μ2 hS hF => ?_)
  refine Wa.if_eq 49 d_MM_isValue_16 (by decide) (fun hb => ?_) (fun hb => ?_)
  · have hF := hF.1 hb
    refine Wa.aload_n (j := 1) d_MM_isValue_49 rfl ?_
    refine Wa.bipush (v := 17) d_MM_isValue_50 rfl ?_
    refine Wx.cVi (q := E_MM) (As := [.int 17]) 11 (d - 1) 0 0 _ d_MM_isValue_52 mok_MM_is vl_MM_130 rfl rfl rfl (Nat.le_of_ble_eq_true rfl) (by omega) (Nat.zero_le _) (Nat.zero_le _) (s_40 hS (by decide)) hF (fun y5 μ4 hS hF => ?_)
    refine Wa.if_eq 75 d_MM_isValue_55 (by decide) (fun hb => ?_) (fun hb => ?_)
    · have hF := hF.1 hb
      refine Wa.aload_n (j := 1) d_MM_isValue_75 rfl ?_
      refine Wa.bipush (v := 18) d_MM_isValue_76 rfl ?_
      refine Wx.cVi (q := E_MM) (As := [.int 18]) 11 (d - 1) 0 0 _ d_MM_isValue_78 mok_MM_is vl_MM_130 rfl rfl rfl (Nat.le_of_ble_eq_true rfl) (by omega) (Nat.zero_le _) (Nat.zero_le _) (s_40 hS (by decide)) hF (fun y7 μ6 hS hF => ?_)
      refine Wa.if_ne 102 d_MM_isValue_81 (by decide) (fun hb => ?_) (fun hb => ?_)
      · have hF := hF.2 hb
        refine Wa.aload_n (j := 1) d_MM_isValue_102 rfl ?_
        refine Wa.bipush (v := 12) d_MM_isValue_103 rfl ?_
        refine Wx.cVi (q := E_MM) (As := [.int 12]) 11 (d - 1) 0 0 _ d_MM_isValue_105 mok_MM_isNamed vl_MM_207 rfl rfl rfl (Nat.le_of_ble_eq_true rfl) (by omega) (Nat.zero_le _) (Nat.zero_le _) (s_40 hS (by decide)) hF (fun y9 μ8 hS hF => ?_)
        refine Wa.if_eq 124 d_MM_isValue_108 (by decide) (fun hb => ?_) (fun hb => ?_)
        · have hF := hF.1 hb
          refine Wa.iconst (v := 0) d_MM_isValue_124 rfl ?_
          exact Wx.retz d_MM_isValue_125 rfl (Or.inl rfl) hF
        · have hF := hF.2 hb
          refine Wa.aload_n (j := 1) d_MM_isValue_111 rfl ?_
          refine Wa.bipush (v := 13) d_MM_isValue_112 rfl ?_
          refine Wx.cVi (q := E_MM) (As := [.int 13]) 11 (d - 1) 0 0 _ d_MM_isValue_114 mok_MM_isName vl_MM_198 rfl rfl rfl (Nat.le_of_ble_eq_true rfl) (by omega) (Nat.zero_le _) (Nat.zero_le _) (s_40 hS (by decide)) hF (fun y11 μ10 hS hF => ?_)
          refine Wa.if_eq 124 d_MM_isValue_117 (by decide) (fun hb => ?_) (fun hb => ?_)
          · have hF := hF.1 hb
            refine Wa.iconst (v := 0) d_MM_isValue_124 rfl ?_
            exact Wx.retz d_MM_isValue_125 rfl (Or.inl rfl) hF
          · have hF := hF.2 hb
            refine Wa.iconst (v := 1) d_MM_isValue_120 rfl ?_
            refine Wa.goto 125 d_MM_isValue_121 (by decide) ?_
            exact Wx.retz d_MM_isValue_125 rfl (Or.inr rfl) hF
      · have hF := hF.1 hb
        refine Wa.aload_n (j := 1) d_MM_isValue_84 rfl ?_
        refine Wa.bipush (v := 19) d_MM_isValue_85 rfl ?_
        refine Wx.cVi (q := E_MM) (As := [.int 19]) 11 (d - 1) 0 0 _ d_MM_isValue_87 mok_MM_is vl_MM_130 rfl rfl rfl (Nat.le_of_ble_eq_true rfl) (by omega) (Nat.zero_le _) (Nat.zero_le _) (s_40 hS (by decide)) hF (fun y13 μ12 hS hF => ?_)
        refine Wa.if_ne 102 d_MM_isValue_90 (by decide) (fun hb => ?_) (fun hb => ?_)
        · have hF := hF.2 hb
          refine Wa.aload_n (j := 1) d_MM_isValue_102 rfl ?_
          refine Wa.bipush (v := 12) d_MM_isValue_103 rfl ?_
          refine Wx.cVi (q := E_MM) (As := [.int 12]) 11 (d - 1) 0 0 _ d_MM_isValue_105 mok_MM_isNamed vl_MM_207 rfl rfl rfl (Nat.le_of_ble_eq_true rfl) (by omega) (Nat.zero_le _) (Nat.zero_le _) (s_40 hS (by decide)) hF (fun y15 μ14 hS hF => ?_)
          refine Wa.if_eq 124 d_MM_isValue_108 (by decide) (fun hb => ?_) (fun hb => ?_)
          · have hF := hF.1 hb
            refine Wa.iconst (v := 0) d_MM_isValue_124 rfl ?_
            exact Wx.retz d_MM_isValue_125 rfl (Or.inl rfl) hF
          · have hF := hF.2 hb
            refine Wa.aload_n (j := 1) d_MM_isValue_111 rfl ?_
            refine Wa.bipush (v := 13) d_MM_isValue_112 rfl ?_
            refine Wx.cVi (q := E_MM) (As := [.int 13]) 11 (d - 1) 0 0 _ d_MM_isValue_114 mok_MM_isName vl_MM_198 rfl rfl rfl (Nat.le_of_ble_eq_true rfl) (by omega) (Nat.zero_le _) (Nat.zero_le _) (s_40 hS (by decide)) hF (fun y17 μ16 hS hF => ?_)
            refine Wa.if_eq 124 d_MM_isValue_117 (by decide) (fun hb => ?_) (fun hb => ?_)
            · have hF := hF.1 hb
              refine Wa.iconst (v := 0) d_MM_isValue_124 rfl ?_
              exact Wx.retz d_MM_isValue_125 rfl (Or.inl rfl) hF
            · have hF := hF.2 hb
              refine Wa.iconst (v := 1) d_MM_isValue_120 rfl ?_
              refine Wa.goto 125 d_MM_isValue_121 (by decide) ?_
              exact Wx.retz d_MM_isValue_125 rfl (Or.inr rfl) hF
        · have hF := hF.1 hb
          refine Wa.aload_n (j := 1) d_MM_isValue_93 rfl ?_
          refine Wa.bipush (v := 20) d_MM_isValue_94 rfl ?_
          refine Wx.cVi (q := E_MM) (As := [.int 20]) 11 (d - 1) 0 0 _ d_MM_isValue_96 mok_MM_is vl_MM_130 rfl rfl rfl (Nat.le_of_ble_eq_true rfl) (by omega) (Nat.zero_le _) (Nat.zero_le _) (s_40 hS (by decide)) hF (fun y19 μ18 hS hF => ?_)
          refine Wa.if_eq 126 d_MM_isValue_99 (by decide) (fun hb => ?_) (fun hb => ?_)
          · have hF := hF.1 hb
            refine Wa.aload_n (j := 1) d_MM_isValue_126 rfl ?_
            refine Wa.bipush (v := 21) d_MM_isValue_127 rfl ?_
            refine Wx.cVi (q := E_MM) (As := [.int 21]) 11 (d - 1) 0 0 _ d_MM_isValue_129 mok_MM_is vl_MM_130 rfl rfl rfl (Nat.le_of_ble_eq_true rfl) (by omega) (Nat.zero_le _) (Nat.zero_le _) (s_40 hS (by decide)) hF (fun y21 μ20 hS hF => ?_)
            refine Wa.if_eq 142 d_MM_isValue_132 (by decide) (fun hb => ?_) (fun hb => ?_)
            · have hF := hF.1 hb
              refine Wa.aload_n (j := 1) d_MM_isValue_142 rfl ?_
              refine Wa.bipush (v := 45) d_MM_isValue_143 rfl ?_
              refine Wx.cVi (q := E_MM) (As := [.int 45]) 11 (d - 1) 0 0 _ d_MM_isValue_145 mok_MM_isSign vl_MM_204 rfl rfl rfl (Nat.le_of_ble_eq_true rfl) (by omega) (Nat.zero_le _) (Nat.zero_le _) (s_40 hS (by decide)) hF (fun y23 μ22 hS hF => ?_)
              refine Wa.if_eq 185 d_MM_isValue_148 (by decide) (fun hb => ?_) (fun hb => ?_)
              · have hF := hF.1 hb
                refine Wa.aload_n (j := 1) d_MM_isValue_185 rfl ?_
                refine Wa.iload_n (j := 0) d_MM_isValue_186 rfl ?_
                refine Wa.aload_n (j := 1) d_MM_isValue_187 rfl ?_
                refine Wa.bipush (v := 27) d_MM_isValue_188 rfl ?_
                refine Wx.cVi (q := E_MM) (As := [.int 27]) 11 (d - 1) 0 0 _ d_MM_isValue_190 mok_MM_eat vl_MM_133 rfl rfl rfl (Nat.le_of_ble_eq_true rfl) (by omega) (Nat.zero_le _) (Nat.zero_le _) (s_40 hS (by decide)) hF (fun y25 μ24 hS hF => ?_)
                refine Wa.if_ne 205 d_MM_isValue_193 (by decide) (fun hb => ?_) (fun hb => ?_)
                · have hF := hF.2 hb
                  refine Wa.iconst (v := 1) d_MM_isValue_205 rfl ?_
                  refine Wa.goto 210 d_MM_isValue_206 (by decide) ?_
                  refine Wx.cVi (q := E_MM) (As := [.int (mI μ (hd 42 0) (mI μ (hd 40 0) 9).toNatClampNeg), .int 1]) 11 (d - 1) 0 0 _ d_MM_isValue_210 mok_MM_isInside vl_MM_219 rfl rfl rfl (Nat.le_of_ble_eq_true rfl) (by omega) (Nat.zero_le _) (Nat.zero_le _) (s_40 hS (by decide)) hF (fun y27 μ26 hS hF => ?_)
                  exact Wx.retz d_MM_isValue_213 rfl hF.1 hF.2
                · have hF := hF.1 hb
                  refine Wa.aload_n (j := 1) d_MM_isValue_196 rfl ?_
                  refine Wa.bipush (v := 28) d_MM_isValue_197 rfl ?_
                  refine Wx.cVi (q := E_MM) (As := [.int 28]) 11 (d - 1) 0 0 _ d_MM_isValue_199 mok_MM_eat vl_MM_133 rfl rfl rfl (Nat.le_of_ble_eq_true rfl) (by omega) (Nat.zero_le _) (Nat.zero_le _) (s_40 hS (by decide)) hF (fun y29 μ28 hS hF => ?_)
                  refine Wa.if_eq 209 d_MM_isValue_202 (by decide) (fun hb => ?_) (fun hb => ?_)
                  · have hF := hF.1 hb
                    refine Wa.iconst (v := 0) d_MM_isValue_209 rfl ?_
                    refine Wx.cVi (q := E_MM) (As := [.int (mI μ (hd 42 0) (mI μ (hd 40 0) 9).toNatClampNeg), .int 0]) 11 (d - 1) 0 0 _ d_MM_isValue_210 mok_MM_isInside vl_MM_219 rfl rfl rfl (Nat.le_of_ble_eq_true rfl) (by omega) (Nat.zero_le _) (Nat.zero_le _) (s_40 hS (by decide)) hF (fun y31 μ30 hS hF => ?_)
                    exact Wx.retz d_MM_isValue_213 rfl hF.1 hF.2
                  · have hF := hF.2 hb
                    refine Wa.iconst (v := 1) d_MM_isValue_205 rfl ?_
                    refine Wa.goto 210 d_MM_isValue_206 (by decide) ?_
                    refine Wx.cVi (q := E_MM) (As := [.int (mI μ (hd 42 0) (mI μ (hd 40 0) 9).toNatClampNeg), .int 1]) 11 (d - 1) 0 0 _ d_MM_isValue_210 mok_MM_isInside vl_MM_219 rfl rfl rfl (Nat.le_of_ble_eq_true rfl) (by omega) (Nat.zero_le _) (Nat.zero_le _) (s_40 hS (by decide)) hF (fun y33 μ32 hS hF => ?_)
                    exact Wx.retz d_MM_isValue_213 rfl hF.1 hF.2
              · have hF := hF.2 hb
                refine Wa.aload_n (j := 1) d_MM_isValue_151 rfl ?_
                refine Wx.cVi (q := E_MM) (As := []) 11 (d - 1) 0 0 _ d_MM_isValue_152 mok_MM_isDeeper vl_MM_201 rfl rfl rfl (Nat.le_of_ble_eq_true rfl) (by omega) (Nat.zero_le _) (Nat.zero_le _) (s_40 hS (by decide)) hF (fun y35 μ34 hS hF => ?_)
                refine Wa.if_eq 165 d_MM_isValue_155 (by decide) (fun hb => ?_) (fun hb => ?_)
                · have hF := hF.1 hb
                  refine Wa.iconst (v := 0) d_MM_isValue_165 rfl ?_
                  exact Wx.retz d_MM_isValue_166 rfl (Or.inl rfl) hF
                · have hF := hF.2 hb
                  refine Wa.aload_n (j := 1) d_MM_isValue_158 rfl ?_
                  refine Wx.cVi (q := E_MM) (As := []) 11 (d - 1) 0 0 _ d_MM_isValue_159 mok_MM_isValue vl_MM_213 rfl rfl rfl (Nat.le_of_ble_eq_true rfl) (by omega) (Nat.zero_le _) (Nat.zero_le _) (s_40 hS (by decide)) hF (fun y37 μ36 hS hF => ?_)
                  refine Wa.if_ne 167 d_MM_isValue_162 (by decide) (fun hb => ?_) (fun hb => ?_)
                  · have hF := hF.2 hb
                    refine Wa.aload_n (j := 1) d_MM_isValue_167 rfl ?_
                    refine Wa.dup d_MM_isValue_168 rfl ?_
                    refine Wx.getI 11 10 d_MM_isValue_169 f_MM_10 fl_MM_189 w_40 (s_40 hS (by decide)) ?_
                    refine Wa.iconst (v := 1) d_MM_isValue_172 rfl ?_
                    refine Wa.isub d_MM_isValue_173 ?_
                    refine Wx.putI 11 10 d_MM_isValue_174 f_MM_10 ok_MM fl_MM_189 (Or.inl rfl) w_40 (s_40 hS (by decide)) ?_
                    refine Wa.aload_n (j := 1) d_MM_isValue_177 rfl ?_
                    refine Wa.bipush (v := 33) d_MM_isValue_178 rfl ?_
                    refine Wx.cVv (q := E_MM) (As := [.int 33]) 11 (d - 1) 0 0 _ d_MM_isValue_180 mok_MM_put vl_MM_182 rfl rfl rfl (Nat.le_of_ble_eq_true rfl) (by omega) (Nat.zero_le _) (Nat.zero_le _) (s_40 hS (by decide)) hF (fun μ38 hS hF => ?_)
                    refine Wa.iconst (v := 1) d_MM_isValue_183 rfl ?_
                    exact Wx.retz d_MM_isValue_184 rfl (Or.inr rfl) hF
                  · have hF := hF.1 hb
                    refine Wa.iconst (v := 0) d_MM_isValue_165 rfl ?_
                    exact Wx.retz d_MM_isValue_166 rfl (Or.inl rfl) hF
            · have hF := hF.2 hb
              refine Wa.aload_n (j := 1) d_MM_isValue_135 rfl ?_
              refine Wa.bipush (v := 12) d_MM_isValue_136 rfl ?_
              refine Wx.cVi (q := E_MM) (As := [.int 12]) 11 (d - 1) 0 0 _ d_MM_isValue_138 mok_MM_isNamed vl_MM_207 rfl rfl rfl (Nat.le_of_ble_eq_true rfl) (by omega) (Nat.zero_le _) (Nat.zero_le _) (s_40 hS (by decide)) hF (fun y40 μ39 hS hF => ?_)
              exact Wx.retz d_MM_isValue_141 rfl hF.1 hF.2
          · have hF := hF.2 hb
            refine Wa.aload_n (j := 1) d_MM_isValue_102 rfl ?_
            refine Wa.bipush (v := 12) d_MM_isValue_103 rfl ?_
            refine Wx.cVi (q := E_MM) (As := [.int 12]) 11 (d - 1) 0 0 _ d_MM_isValue_105 mok_MM_isNamed vl_MM_207 rfl rfl rfl (Nat.le_of_ble_eq_true rfl) (by omega) (Nat.zero_le _) (Nat.zero_le _) (s_40 hS (by decide)) hF (fun y42 μ41 hS hF => ?_)
            refine Wa.if_eq 124 d_MM_isValue_108 (by decide) (fun hb => ?_) (fun hb => ?_)
            · have hF := hF.1 hb
              refine Wa.iconst (v := 0) d_MM_isValue_124 rfl ?_
              exact Wx.retz d_MM_isValue_125 rfl (Or.inl rfl) hF
            · have hF := hF.2 hb
              refine Wa.aload_n (j := 1) d_MM_isValue_111 rfl ?_
              refine Wa.bipush (v := 13) d_MM_isValue_112 rfl ?_
              refine Wx.cVi (q := E_MM) (As := [.int 13]) 11 (d - 1) 0 0 _ d_MM_isValue_114 mok_MM_isName vl_MM_198 rfl rfl rfl (Nat.le_of_ble_eq_true rfl) (by omega) (Nat.zero_le _) (Nat.zero_le _) (s_40 hS (by decide)) hF (fun y44 μ43 hS hF => ?_)
              refine Wa.if_eq 124 d_MM_isValue_117 (by decide) (fun hb => ?_) (fun hb => ?_)
              · have hF := hF.1 hb
                refine Wa.iconst (v := 0) d_MM_isValue_124 rfl ?_
                exact Wx.retz d_MM_isValue_125 rfl (Or.inl rfl) hF
              · have hF := hF.2 hb
                refine Wa.iconst (v := 1) d_MM_isValue_120 rfl ?_
                refine Wa.goto 125 d_MM_isValue_121 (by decide) ?_
                exact Wx.retz d_MM_isValue_125 rfl (Or.inr rfl) hF
    · have hF := hF.2 hb
      refine Wa.aload_n (j := 1) d_MM_isValue_58 rfl ?_
      refine Wa.iload_n (j := 0) d_MM_isValue_59 rfl ?_
      refine Wx.cVv (q := E_MM) (As := [.int (mI μ (hd 42 0) (mI μ (hd 40 0) 9).toNatClampNeg)]) 11 (d - 1) 0 0 _ d_MM_isValue_60 mok_MM_put vl_MM_182 rfl rfl rfl (Nat.le_of_ble_eq_true rfl) (by omega) (Nat.zero_le _) (Nat.zero_le _) (s_40 hS (by decide)) hF (fun μ45 hS hF => ?_)
      refine Wa.aload_n (j := 1) d_MM_isValue_63 rfl ?_
      refine Wa.dup d_MM_isValue_64 rfl ?_
      refine Wx.getI 11 9 d_MM_isValue_65 f_MM_9 fl_MM_127 w_40 (s_40 hS (by decide)) ?_
      refine Wa.iconst (v := 1) d_MM_isValue_68 rfl ?_
      refine Wa.iadd d_MM_isValue_69 ?_
      refine Wx.putI 11 9 d_MM_isValue_70 f_MM_9 ok_MM fl_MM_127 (Or.inl rfl) w_40 (s_40 hS (by decide)) ?_
      refine Wa.iconst (v := 1) d_MM_isValue_73 rfl ?_
      exact Wx.retz d_MM_isValue_74 rfl (Or.inr rfl) hF
  · have hF := hF.2 hb
    refine Wa.aload_n (j := 1) d_MM_isValue_19 rfl ?_
    refine Wa.bipush (v := 32) d_MM_isValue_20 rfl ?_
    refine Wx.cVv (q := E_MM) (As := [.int 32]) 11 (d - 1) 0 0 _ d_MM_isValue_22 mok_MM_put vl_MM_182 rfl rfl rfl (Nat.le_of_ble_eq_true rfl) (by omega) (Nat.zero_le _) (Nat.zero_le _) (s_40 hS (by decide)) hF (fun μ46 hS hF => ?_)
    refine Wa.aload_n (j := 1) d_MM_isValue_25 rfl ?_
    refine Wa.aload_n (j := 1) d_MM_isValue_26 rfl ?_
    refine Wa.aload_n (j := 1) d_MM_isValue_27 rfl ?_
    refine Wx.getI 11 9 d_MM_isValue_28 f_MM_9 fl_MM_127 w_40 (s_40 hS (by decide)) ?_
    refine Wx.cVi (q := E_MM) (As := [.int (mI μ46 (hd 40 0) 9)]) 11 (d - 1) 0 0 _ d_MM_isValue_31 mok_MM_numberAt vl_MM_216 rfl rfl rfl (Nat.le_of_ble_eq_true rfl) (by omega) (Nat.zero_le _) (Nat.zero_le _) (s_40 hS (by decide)) hF (fun y48 μ47 hS hF => ?_)
    refine Wx.cVv (q := E_MM) (As := [.int y48]) 11 (d - 1) 0 0 _ d_MM_isValue_34 mok_MM_put vl_MM_182 rfl rfl rfl (Nat.le_of_ble_eq_true rfl) (by omega) (Nat.zero_le _) (Nat.zero_le _) (s_40 hS (by decide)) hF (fun μ49 hS hF => ?_)
    refine Wa.aload_n (j := 1) d_MM_isValue_37 rfl ?_
    refine Wa.dup d_MM_isValue_38 rfl ?_
    refine Wx.getI 11 9 d_MM_isValue_39 f_MM_9 fl_MM_127 w_40 (s_40 hS (by decide)) ?_
    refine Wa.iconst (v := 1) d_MM_isValue_42 rfl ?_
    refine Wa.iadd d_MM_isValue_43 ?_
    refine Wx.putI 11 9 d_MM_isValue_44 f_MM_9 ok_MM fl_MM_127 (Or.inl rfl) w_40 (s_40 hS (by decide)) ?_
    refine Wa.iconst (v := 1) d_MM_isValue_47 rfl ?_
    exact Wx.retz d_MM_isValue_48 rfl (Or.inr rfl) hF
theorem e_MM_isValue {d rc rs : Nat} {Q : Option Value → Mu → Prop} {μ : Mu}  (hk : Wx K_MM_isValue d rc rs (fun r μ' => St μ' ∧ Q r μ') 0 [(0, .ref (hd 40 0))] [] μ) : Cal K_MM_isValue d rc rs [.ref (hd 40 0)] μ Q := Cal.of (by decide +kernel) rfl rfl (Nat.le_of_ble_eq_true rfl) rfl hk
set_option maxHeartbeats 4000000 in
set_option maxRecDepth 20000 in
theorem g_MM_numberAt_0 {d rc rs : Nat} {Q : Option Value → Mu → Prop} {μ : Mu} {x1 : Int32} (hD : 1 ≤ d)  (hS : St μ)
    (hF : Wx K_MM_numberAt d rc rs Q 4 [(0, .ref (hd 40 0)), (1, .int x1), (2, .int 0), (3, .int 0)] [] μ) : Wx K_MM_numberAt d rc rs Q 0 [(0, .ref (hd 40 0)), (1, .int x1)] [] μ := by
  refine Wa.iconst (v := 0) d_MM_numberAt_0 rfl ?_
  refine Wa.istore_n (i := 2) (L' := [(2, .int 0), (0, .ref (hd 40 0)), (1, .int x1)]) d_MM_numberAt_1 rfl (by decide) rfl ?_
  refine Wa.iconst (v := 0) d_MM_numberAt_2 rfl ?_
  refine Wa.istore_n (i := 3) (L' := [(3, .int 0), (2, .int 0), (0, .ref (hd 40 0)), (1, .int x1)]) d_MM_numberAt_3 rfl (by decide) rfl ?_
  exact Wa.loc [2, 3, 1, 0] rfl hF
theorem e_MM_numberAt {d rc rs : Nat} {Q : Option Value → Mu → Prop} {μ : Mu} {x1 : Int32} (hk : Wx K_MM_numberAt d rc rs (fun r μ' => St μ' ∧ Q r μ') 0 [(0, .ref (hd 40 0)), (1, .int x1)] [] μ) : Cal K_MM_numberAt d rc rs [.ref (hd 40 0), .int x1] μ Q := Cal.of (by decide +kernel) rfl rfl (Nat.le_of_ble_eq_true rfl) rfl hk
set_option maxHeartbeats 4000000 in
set_option maxRecDepth 20000 in
theorem g_MM_numberAt_4 {d rc rs : Nat} {Q : Option Value → Mu → Prop} {μ : Mu} {x1 : Int32} {x2 : Int32} {x3 : Int32} (hD : 1 ≤ d)  (hS : St μ)
    (hF : (vp_in x1 401 ∧ (((mI μ (hd 44 0) x1.toNatClampNeg) ≤ x3 → Q (some (.int x2)) μ) ∧ (¬ (mI μ (hd 44 0) x1.toNatClampNeg) ≤ x3 → (vp_in x1 401 ∧ (vp_in ((mI μ (hd 43 0) x1.toNatClampNeg) + x3) 2000 ∧ Wx K_MM_numberAt d rc rs Q 4 [(0, .ref (hd 40 0)), (1, .int x1), (2, .int ((((10 : Int32) * x2) + (mI μ (hd 41 0) ((mI μ (hd 43 0) x1.toNatClampNeg) + x3).toNatClampNeg)) - (48 : Int32))), (3, .int (x3 + 1))] [] μ)))))) : Wx K_MM_numberAt d rc rs Q 4 [(0, .ref (hd 40 0)), (1, .int x1), (2, .int x2), (3, .int x3)] [] μ := by
  refine Wa.iload_n (j := 3) d_MM_numberAt_4 rfl ?_
  refine Wa.aload_n (j := 0) d_MM_numberAt_5 rfl ?_
  refine Wx.getR 11 6 d_MM_numberAt_6 f_MM_6 rfl fl_MM_23 (s_40 hS (by decide)) (r_40_6 hS (by decide)) ?_
  refine Wa.iload_n (j := 1) d_MM_numberAt_9 rfl ?_
  have hc1 := hF.1
  have hF := hF.2
  have hlhc1 := vp_in_lt hc1
  refine Wx.iald d_MM_numberAt_10 w_44 (s_44 hS (by decide)) hc1 ?_
  refine Wa.icmp_ge 42 d_MM_numberAt_11 (by decide) (fun hb => ?_) (fun hb => ?_)
  · have hF := hF.1 hb
    refine Wa.iload_n (j := 2) d_MM_numberAt_42 rfl ?_
    exact Wx.reti d_MM_numberAt_43 rfl hF
  · have hF := hF.2 hb
    refine Wa.bipush (v := 10) d_MM_numberAt_14 rfl ?_
    refine Wa.iload_n (j := 2) d_MM_numberAt_16 rfl ?_
    refine Wa.imul d_MM_numberAt_17 ?_
    refine Wa.aload_n (j := 0) d_MM_numberAt_18 rfl ?_
    refine Wx.getR 11 1 d_MM_numberAt_19 f_MM_1 rfl fl_MM_9 (s_40 hS (by decide)) (r_40_1 hS (by decide)) ?_
    refine Wa.aload_n (j := 0) d_MM_numberAt_22 rfl ?_
    refine Wx.getR 11 5 d_MM_numberAt_23 f_MM_5 rfl fl_MM_20 (s_40 hS (by decide)) (r_40_5 hS (by decide)) ?_
    refine Wa.iload_n (j := 1) d_MM_numberAt_26 rfl ?_
    have hc2 := hF.1
    have hF := hF.2
    have hlhc2 := vp_in_lt hc2
    refine Wx.iald d_MM_numberAt_27 w_43 (s_43 hS (by decide)) hc2 ?_
    refine Wa.iload_n (j := 3) d_MM_numberAt_28 rfl ?_
    refine Wa.iadd d_MM_numberAt_29 ?_
    have hc3 := hF.1
    have hF := hF.2
    have hlhc3 := vp_in_lt hc3
    refine Wx.iald d_MM_numberAt_30 w_41 (s_41 hS (by decide)) hc3 ?_
    refine Wa.iadd d_MM_numberAt_31 ?_
    refine Wa.bipush (v := 48) d_MM_numberAt_32 rfl ?_
    refine Wa.isub d_MM_numberAt_34 ?_
    refine Wa.istore_n (i := 2) (L' := [(2, .int ((((10 : Int32) * x2) + (mI μ (hd 41 0) ((mI μ (hd 43 0) x1.toNatClampNeg) + x3).toNatClampNeg)) - (48 : Int32))), (0, .ref (hd 40 0)), (1, .int x1), (3, .int x3)]) d_MM_numberAt_35 rfl (by decide) rfl ?_
    refine Wa.iinc (i := 3) (j := 3) (v := (x3 + 1)) (L' := [(3, .int (x3 + 1)), (2, .int ((((10 : Int32) * x2) + (mI μ (hd 41 0) ((mI μ (hd 43 0) x1.toNatClampNeg) + x3).toNatClampNeg)) - (48 : Int32))), (0, .ref (hd 40 0)), (1, .int x1)]) d_MM_numberAt_36 rfl rfl (by decide) rfl ?_
    refine Wa.goto 4 d_MM_numberAt_39 (by decide) ?_
    exact Wa.loc [2, 3, 1, 0] rfl hF
set_option maxHeartbeats 4000000 in
set_option maxRecDepth 20000 in
theorem g_MM_isSame_0 {d rc rs : Nat} {Q : Option Value → Mu → Prop} {μ : Mu} {x1 : Int32} {x2 : Int32} (hD : 1 ≤ d)  (hS : St μ)
    (hF : (vp_in x1 401 ∧ (vp_in x2 401 ∧ (((mI μ (hd 44 0) x1.toNatClampNeg) = (mI μ (hd 44 0) x2.toNatClampNeg) → Wx K_MM_isSame d rc rs Q 19 [(0, .ref (hd 40 0)), (1, .int x1), (2, .int x2), (3, .int 0)] [] μ) ∧ (¬ (mI μ (hd 44 0) x1.toNatClampNeg) = (mI μ (hd 44 0) x2.toNatClampNeg) → Q (some (.int 0)) μ))))) : Wx K_MM_isSame d rc rs Q 0 [(0, .ref (hd 40 0)), (1, .int x1), (2, .int x2)] [] μ := by
  refine Wa.aload_n (j := 0) d_MM_isSame_0 rfl ?_
  refine Wx.getR 11 6 d_MM_isSame_1 f_MM_6 rfl fl_MM_23 (s_40 hS (by decide)) (r_40_6 hS (by decide)) ?_
  refine Wa.iload_n (j := 1) d_MM_isSame_4 rfl ?_
  have hc1 := hF.1
  have hF := hF.2
  have hlhc1 := vp_in_lt hc1
  refine Wx.iald d_MM_isSame_5 w_44 (s_44 hS (by decide)) hc1 ?_
  refine Wa.aload_n (j := 0) d_MM_isSame_6 rfl ?_
  refine Wx.getR 11 6 d_MM_isSame_7 f_MM_6 rfl fl_MM_23 (s_40 hS (by decide)) (r_40_6 hS (by decide)) ?_
  refine Wa.iload_n (j := 2) d_MM_isSame_10 rfl ?_
  have hc2 := hF.1
  have hF := hF.2
  have hlhc2 := vp_in_lt hc2
  refine Wx.iald d_MM_isSame_11 w_44 (s_44 hS (by decide)) hc2 ?_
  refine Wa.icmp_eq 17 d_MM_isSame_12 (by decide) (fun hb => ?_) (fun hb => ?_)
  · have hF := hF.1 hb
    refine Wa.iconst (v := 0) d_MM_isSame_17 rfl ?_
    refine Wa.istore_n (i := 3) (L' := [(3, .int 0), (0, .ref (hd 40 0)), (1, .int x1), (2, .int x2)]) d_MM_isSame_18 rfl (by decide) rfl ?_
    exact Wa.loc [1, 2, 3, 0] rfl hF
  · have hF := hF.2 hb
    refine Wa.iconst (v := 0) d_MM_isSame_15 rfl ?_
    exact Wx.retz d_MM_isSame_16 rfl (Or.inl rfl) hF
theorem e_MM_isSame {d rc rs : Nat} {Q : Option Value → Mu → Prop} {μ : Mu} {x1 : Int32} {x2 : Int32} (hk : Wx K_MM_isSame d rc rs (fun r μ' => St μ' ∧ Q r μ') 0 [(0, .ref (hd 40 0)), (1, .int x1), (2, .int x2)] [] μ) : Cal K_MM_isSame d rc rs [.ref (hd 40 0), .int x1, .int x2] μ Q := Cal.of (by decide +kernel) rfl rfl (Nat.le_of_ble_eq_true rfl) rfl hk
set_option maxHeartbeats 4000000 in
set_option maxRecDepth 20000 in
theorem g_MM_isSame_19 {d rc rs : Nat} {Q : Option Value → Mu → Prop} {μ : Mu} {x1 : Int32} {x2 : Int32} {x3 : Int32} (hD : 1 ≤ d)  (hS : St μ)
    (hF : (vp_in x1 401 ∧ (((mI μ (hd 44 0) x1.toNatClampNeg) ≤ x3 → Q (some (.int 1)) μ) ∧ (¬ (mI μ (hd 44 0) x1.toNatClampNeg) ≤ x3 → (vp_in x1 401 ∧ (vp_in ((mI μ (hd 43 0) x1.toNatClampNeg) + x3) 2000 ∧ (vp_in x2 401 ∧ (vp_in ((mI μ (hd 43 0) x2.toNatClampNeg) + x3) 2000 ∧ (((mI μ (hd 41 0) ((mI μ (hd 43 0) x1.toNatClampNeg) + x3).toNatClampNeg) = (mI μ (hd 41 0) ((mI μ (hd 43 0) x2.toNatClampNeg) + x3).toNatClampNeg) → Wx K_MM_isSame d rc rs Q 19 [(0, .ref (hd 40 0)), (1, .int x1), (2, .int x2), (3, .int (x3 + 1))] [] μ) ∧ (¬ (mI μ (hd 41 0) ((mI μ (hd 43 0) x1.toNatClampNeg) + x3).toNatClampNeg) = (mI μ (hd 41 0) ((mI μ (hd 43 0) x2.toNatClampNeg) + x3).toNatClampNeg) → Q (some (.int 0)) μ)))))))))) : Wx K_MM_isSame d rc rs Q 19 [(0, .ref (hd 40 0)), (1, .int x1), (2, .int x2), (3, .int x3)] [] μ := by
  refine Wa.iload_n (j := 3) d_MM_isSame_19 rfl ?_
  refine Wa.aload_n (j := 0) d_MM_isSame_20 rfl ?_
  refine Wx.getR 11 6 d_MM_isSame_21 f_MM_6 rfl fl_MM_23 (s_40 hS (by decide)) (r_40_6 hS (by decide)) ?_
  refine Wa.iload_n (j := 1) d_MM_isSame_24 rfl ?_
  have hc1 := hF.1
  have hF := hF.2
  have hlhc1 := vp_in_lt hc1
  refine Wx.iald d_MM_isSame_25 w_44 (s_44 hS (by decide)) hc1 ?_
  refine Wa.icmp_ge 66 d_MM_isSame_26 (by decide) (fun hb => ?_) (fun hb => ?_)
  · have hF := hF.1 hb
    refine Wa.iconst (v := 1) d_MM_isSame_66 rfl ?_
    exact Wx.retz d_MM_isSame_67 rfl (Or.inr rfl) hF
  · have hF := hF.2 hb
    refine Wa.aload_n (j := 0) d_MM_isSame_29 rfl ?_
    refine Wx.getR 11 1 d_MM_isSame_30 f_MM_1 rfl fl_MM_9 (s_40 hS (by decide)) (r_40_1 hS (by decide)) ?_
    refine Wa.aload_n (j := 0) d_MM_isSame_33 rfl ?_
    refine Wx.getR 11 5 d_MM_isSame_34 f_MM_5 rfl fl_MM_20 (s_40 hS (by decide)) (r_40_5 hS (by decide)) ?_
    refine Wa.iload_n (j := 1) d_MM_isSame_37 rfl ?_
    have hc2 := hF.1
    have hF := hF.2
    have hlhc2 := vp_in_lt hc2
    refine Wx.iald d_MM_isSame_38 w_43 (s_43 hS (by decide)) hc2 ?_
    refine Wa.iload_n (j := 3) d_MM_isSame_39 rfl ?_
    refine Wa.iadd d_MM_isSame_40 ?_
    have hc3 := hF.1
    have hF := hF.2
    have hlhc3 := vp_in_lt hc3
    refine Wx.iald d_MM_isSame_41 w_41 (s_41 hS (by decide)) hc3 ?_
    refine Wa.aload_n (j := 0) d_MM_isSame_42 rfl ?_
    refine Wx.getR 11 1 d_MM_isSame_43 f_MM_1 rfl fl_MM_9 (s_40 hS (by decide)) (r_40_1 hS (by decide)) ?_
    refine Wa.aload_n (j := 0) d_MM_isSame_46 rfl ?_
    refine Wx.getR 11 5 d_MM_isSame_47 f_MM_5 rfl fl_MM_20 (s_40 hS (by decide)) (r_40_5 hS (by decide)) ?_
    refine Wa.iload_n (j := 2) d_MM_isSame_50 rfl ?_
    have hc4 := hF.1
    have hF := hF.2
    have hlhc4 := vp_in_lt hc4
    refine Wx.iald d_MM_isSame_51 w_43 (s_43 hS (by decide)) hc4 ?_
    refine Wa.iload_n (j := 3) d_MM_isSame_52 rfl ?_
    refine Wa.iadd d_MM_isSame_53 ?_
    have hc5 := hF.1
    have hF := hF.2
    have hlhc5 := vp_in_lt hc5
    refine Wx.iald d_MM_isSame_54 w_41 (s_41 hS (by decide)) hc5 ?_
    refine Wa.icmp_eq 60 d_MM_isSame_55 (by decide) (fun hb => ?_) (fun hb => ?_)
    · have hF := hF.1 hb
      refine Wa.iinc (i := 3) (j := 3) (v := (x3 + 1)) (L' := [(3, .int (x3 + 1)), (0, .ref (hd 40 0)), (1, .int x1), (2, .int x2)]) d_MM_isSame_60 rfl rfl (by decide) rfl ?_
      refine Wa.goto 19 d_MM_isSame_63 (by decide) ?_
      exact Wa.loc [1, 2, 3, 0] rfl hF
    · have hF := hF.2 hb
      refine Wa.iconst (v := 0) d_MM_isSame_58 rfl ?_
      exact Wx.retz d_MM_isSame_59 rfl (Or.inl rfl) hF
set_option maxHeartbeats 4000000 in
set_option maxRecDepth 20000 in
theorem g_MM_told_0 {d rc rs : Nat} {Q : Option Value → Mu → Prop} {μ : Mu} {x1 : Int32} {x2 : Int32} (hD : 1 ≤ d)  (hS : St μ)
    (hF : Wx K_MM_told d rc rs Q 5 [(0, .ref (hd 40 0)), (1, .int x1), (2, .int x2), (3, .int 0), (4, .int 0)] [] μ) : Wx K_MM_told d rc rs Q 0 [(0, .ref (hd 40 0)), (1, .int x1), (2, .int x2)] [] μ := by
  refine Wa.iconst (v := 0) d_MM_told_0 rfl ?_
  refine Wa.istore_n (i := 3) (L' := [(3, .int 0), (0, .ref (hd 40 0)), (1, .int x1), (2, .int x2)]) d_MM_told_1 rfl (by decide) rfl ?_
  refine Wa.iconst (v := 0) d_MM_told_2 rfl ?_
  refine Wa.istore (i := 4) (L' := [(4, .int 0), (3, .int 0), (0, .ref (hd 40 0)), (1, .int x1), (2, .int x2)]) d_MM_told_3 (by decide) rfl ?_
  exact Wa.loc [2, 3, 4, 1, 0] rfl hF
theorem e_MM_told {d rc rs : Nat} {Q : Option Value → Mu → Prop} {μ : Mu} {x1 : Int32} {x2 : Int32} (hk : Wx K_MM_told d rc rs (fun r μ' => St μ' ∧ Q r μ') 0 [(0, .ref (hd 40 0)), (1, .int x1), (2, .int x2)] [] μ) : Cal K_MM_told d rc rs [.ref (hd 40 0), .int x1, .int x2] μ Q := Cal.of (by decide +kernel) rfl rfl (Nat.le_of_ble_eq_true rfl) rfl hk
set_option maxHeartbeats 4000000 in
set_option maxRecDepth 20000 in
theorem g_MM_told_5 {d rc rs : Nat} {Q : Option Value → Mu → Prop} {μ : Mu} {x1 : Int32} {x2 : Int32} {x3 : Int32} {x4 : Int32} (hD : 1 ≤ d)  (hS : St μ)
    (hF : ((x1 ≤ x4 → Q (some (.int (-1))) μ) ∧ (¬ x1 ≤ x4 → (vp_in x4 401 ∧ (((mI μ (hd 45 0) x4.toNatClampNeg) = x2 → (Cal K_MM_isSame (d - 1) 0 0 [.ref (hd 40 0), .int x4, .int x1] μ (fun r μ2 => ∃ y3, r = some (.int y3) ∧ ((y3 = 0 → Wx K_MM_told d rc rs Q 5 [(0, .ref (hd 40 0)), (1, .int x1), (2, .int x2), (3, .int (x3 + 1)), (4, .int (x4 + 1))] [] μ2) ∧ (¬ y3 = 0 → Q (some (.int x3)) μ2))))) ∧ (¬ (mI μ (hd 45 0) x4.toNatClampNeg) = x2 → Wx K_MM_told d rc rs Q 5 [(0, .ref (hd 40 0)), (1, .int x1), (2, .int x2), (3, .int x3), (4, .int (x4 + 1))] [] μ)))))) : Wx K_MM_told d rc rs Q 5 [(0, .ref (hd 40 0)), (1, .int x1), (2, .int x2), (3, .int x3), (4, .int x4)] [] μ := by
  refine Wa.iload (j := 4) d_MM_told_5 rfl ?_
  refine Wa.iload_n (j := 1) d_MM_told_7 rfl ?_
  refine Wa.icmp_ge 46 d_MM_told_8 (by decide) (fun hb => ?_) (fun hb => ?_)
  · have hF := hF.1 hb
    refine Wa.iconst (v := (-1)) d_MM_told_46 rfl ?_
    exact Wx.reti d_MM_told_47 rfl hF
  · have hF := hF.2 hb
    refine Wa.aload_n (j := 0) d_MM_told_11 rfl ?_
    refine Wx.getR 11 7 d_MM_told_12 f_MM_7 rfl fl_MM_26 (s_40 hS (by decide)) (r_40_7 hS (by decide)) ?_
    refine Wa.iload (j := 4) d_MM_told_15 rfl ?_
    have hc1 := hF.1
    have hF := hF.2
    have hlhc1 := vp_in_lt hc1
    refine Wx.iald d_MM_told_17 w_45 (s_45 hS (by decide)) hc1 ?_
    refine Wa.iload_n (j := 2) d_MM_told_18 rfl ?_
    refine Wa.icmp_eq 25 d_MM_told_19 (by decide) (fun hb => ?_) (fun hb => ?_)
    · have hF := hF.1 hb
      refine Wa.aload_n (j := 0) d_MM_told_25 rfl ?_
      refine Wa.iload (j := 4) d_MM_told_26 rfl ?_
      refine Wa.iload_n (j := 1) d_MM_told_28 rfl ?_
      refine Wx.cVi (q := E_MM) (As := [.int x4, .int x1]) 11 (d - 1) 0 0 _ d_MM_told_29 mok_MM_isSame vl_MM_223 rfl rfl rfl (Nat.le_of_ble_eq_true rfl) (by omega) (Nat.zero_le _) (Nat.zero_le _) (s_40 hS (by decide)) hF (fun y3 μ2 hS hF => ?_)
      refine Wa.if_eq 37 d_MM_told_32 (by decide) (fun hb => ?_) (fun hb => ?_)
      · have hF := hF.1 hb
        refine Wa.iinc (i := 3) (j := 3) (v := (x3 + 1)) (L' := [(3, .int (x3 + 1)), (0, .ref (hd 40 0)), (1, .int x1), (2, .int x2), (4, .int x4)]) d_MM_told_37 rfl rfl (by decide) rfl ?_
        refine Wa.iinc (i := 4) (j := 4) (v := (x4 + 1)) (L' := [(4, .int (x4 + 1)), (3, .int (x3 + 1)), (0, .ref (hd 40 0)), (1, .int x1), (2, .int x2)]) d_MM_told_40 rfl rfl (by decide) rfl ?_
        refine Wa.goto 5 d_MM_told_43 (by decide) ?_
        exact Wa.loc [2, 3, 4, 1, 0] rfl hF
      · have hF := hF.2 hb
        refine Wa.iload_n (j := 3) d_MM_told_35 rfl ?_
        exact Wx.reti d_MM_told_36 rfl hF
    · have hF := hF.2 hb
      refine Wa.goto 40 d_MM_told_22 (by decide) ?_
      refine Wa.iinc (i := 4) (j := 4) (v := (x4 + 1)) (L' := [(4, .int (x4 + 1)), (0, .ref (hd 40 0)), (1, .int x1), (2, .int x2), (3, .int x3)]) d_MM_told_40 rfl rfl (by decide) rfl ?_
      refine Wa.goto 5 d_MM_told_43 (by decide) ?_
      exact Wa.loc [1, 2, 3, 4, 0] rfl hF
set_option maxHeartbeats 4000000 in
set_option maxRecDepth 20000 in
theorem g_MM_look_0 {d rc rs : Nat} {Q : Option Value → Mu → Prop} {μ : Mu} {x1 : Int32} {x2 : Int32} (hD : 1 ≤ d)  (hS : St μ)
    (hF : (Cal K_MM_told (d - 1) 0 0 [.ref (hd 40 0), .int x1, .int x2] μ (fun r μ1 => ∃ y2, r = some (.int y2) ∧ (vp_in x1 401 ∧ (vp_in x1 401 ∧ (((mI (setI μ1 (hd 46 0) x1.toNatClampNeg y2) (hd 46 0) x1.toNatClampNeg) = (-1) → Q (some (.int 3)) (setI μ1 (hd 46 0) x1.toNatClampNeg y2)) ∧ (¬ (mI (setI μ1 (hd 46 0) x1.toNatClampNeg y2) (hd 46 0) x1.toNatClampNeg) = (-1) → Q (some (.int 0)) (setI μ1 (hd 46 0) x1.toNatClampNeg y2)))))))) : Wx K_MM_look d rc rs Q 0 [(0, .ref (hd 40 0)), (1, .int x1), (2, .int x2)] [] μ := by
  refine Wa.aload_n (j := 0) d_MM_look_0 rfl ?_
  refine Wx.getR 11 8 d_MM_look_1 f_MM_8 rfl fl_MM_29 (s_40 hS (by decide)) (r_40_8 hS (by decide)) ?_
  refine Wa.iload_n (j := 1) d_MM_look_4 rfl ?_
  refine Wa.aload_n (j := 0) d_MM_look_5 rfl ?_
  refine Wa.iload_n (j := 1) d_MM_look_6 rfl ?_
  refine Wa.iload_n (j := 2) d_MM_look_7 rfl ?_
  refine Wx.cVi (q := E_MM) (As := [.int x1, .int x2]) 11 (d - 1) 0 0 _ d_MM_look_8 mok_MM_told vl_MM_226 rfl rfl rfl (Nat.le_of_ble_eq_true rfl) (by omega) (Nat.zero_le _) (Nat.zero_le _) (s_40 hS (by decide)) hF (fun y2 μ1 hS hF => ?_)
  have hc3 := hF.1
  have hF := hF.2
  have hlhc3 := vp_in_lt hc3
  refine Wa.iast d_MM_look_11 w_46 (s_46 hS (by decide)) hc3 ?_
  refine Wa.aload_n (j := 0) d_MM_look_12 rfl ?_
  refine Wx.getR 11 8 d_MM_look_13 f_MM_8 rfl fl_MM_29 (s_40 hS (by decide)) (r_40_8 hS (by decide)) ?_
  refine Wa.iload_n (j := 1) d_MM_look_16 rfl ?_
  have hc4 := hF.1
  have hF := hF.2
  have hlhc4 := vp_in_lt hc4
  refine Wx.iald d_MM_look_17 w_46 (s_46 hS (by decide)) hc4 ?_
  refine Wa.iconst (v := (-1)) d_MM_look_18 rfl ?_
  refine Wa.icmp_ne 26 d_MM_look_19 (by decide) (fun hb => ?_) (fun hb => ?_)
  · have hF := hF.2 hb
    refine Wa.iconst (v := 0) d_MM_look_26 rfl ?_
    exact Wx.reti d_MM_look_27 rfl hF
  · have hF := hF.1 hb
    refine Wa.iconst (v := 3) d_MM_look_22 rfl ?_
    refine Wa.goto 27 d_MM_look_23 (by decide) ?_
    exact Wx.reti d_MM_look_27 rfl hF
theorem e_MM_look {d rc rs : Nat} {Q : Option Value → Mu → Prop} {μ : Mu} {x1 : Int32} {x2 : Int32} (hk : Wx K_MM_look d rc rs (fun r μ' => St μ' ∧ Q r μ') 0 [(0, .ref (hd 40 0)), (1, .int x1), (2, .int x2)] [] μ) : Cal K_MM_look d rc rs [.ref (hd 40 0), .int x1, .int x2] μ Q := Cal.of (by decide +kernel) rfl rfl (Nat.le_of_ble_eq_true rfl) rfl hk
set_option maxHeartbeats 4000000 in
set_option maxRecDepth 20000 in
theorem g_MM_isNew__0 {d rc rs : Nat} {Q : Option Value → Mu → Prop} {μ : Mu} {x1 : Int32} {x2 : Int32} {x3 : Int32} (hD : 1 ≤ d)  (hS : St μ)
    (hF : (vp_in x1 401 ∧ (Cal K_MM_told (d - 1) 0 0 [.ref (hd 40 0), .int x1, .int (mI μ (hd 45 0) x1.toNatClampNeg)] μ (fun r μ2 => ∃ y3, r = some (.int y3) ∧ ((y3 = (-1) → ((x2 = x3 → Q (some (.int 4)) μ2) ∧ (¬ x2 = x3 → Q (some (.int 0)) μ2))) ∧ (¬ y3 = (-1) → Q (some (.int 2)) μ2)))))) : Wx K_MM_isNew_ d rc rs Q 0 [(0, .ref (hd 40 0)), (1, .int x1), (2, .int x2), (3, .int x3)] [] μ := by
  refine Wa.aload_n (j := 0) d_MM_isNew__0 rfl ?_
  refine Wa.iload_n (j := 1) d_MM_isNew__1 rfl ?_
  refine Wa.aload_n (j := 0) d_MM_isNew__2 rfl ?_
  refine Wx.getR 11 7 d_MM_isNew__3 f_MM_7 rfl fl_MM_26 (s_40 hS (by decide)) (r_40_7 hS (by decide)) ?_
  refine Wa.iload_n (j := 1) d_MM_isNew__6 rfl ?_
  have hc1 := hF.1
  have hF := hF.2
  have hlhc1 := vp_in_lt hc1
  refine Wx.iald d_MM_isNew__7 w_45 (s_45 hS (by decide)) hc1 ?_
  refine Wx.cVi (q := E_MM) (As := [.int x1, .int (mI μ (hd 45 0) x1.toNatClampNeg)]) 11 (d - 1) 0 0 _ d_MM_isNew__8 mok_MM_told vl_MM_226 rfl rfl rfl (Nat.le_of_ble_eq_true rfl) (by omega) (Nat.zero_le _) (Nat.zero_le _) (s_40 hS (by decide)) hF (fun y3 μ2 hS hF => ?_)
  refine Wa.iconst (v := (-1)) d_MM_isNew__11 rfl ?_
  refine Wa.icmp_eq 19 d_MM_isNew__12 (by decide) (fun hb => ?_) (fun hb => ?_)
  · have hF := hF.1 hb
    refine Wa.iload_n (j := 2) d_MM_isNew__19 rfl ?_
    refine Wa.iload_n (j := 3) d_MM_isNew__20 rfl ?_
    refine Wa.icmp_ne 28 d_MM_isNew__21 (by decide) (fun hb => ?_) (fun hb => ?_)
    · have hF := hF.2 hb
      refine Wa.iconst (v := 0) d_MM_isNew__28 rfl ?_
      exact Wx.reti d_MM_isNew__29 rfl hF
    · have hF := hF.1 hb
      refine Wa.iconst (v := 4) d_MM_isNew__24 rfl ?_
      refine Wa.goto 29 d_MM_isNew__25 (by decide) ?_
      exact Wx.reti d_MM_isNew__29 rfl hF
  · have hF := hF.2 hb
    refine Wa.iconst (v := 2) d_MM_isNew__15 rfl ?_
    refine Wa.goto 29 d_MM_isNew__16 (by decide) ?_
    exact Wx.reti d_MM_isNew__29 rfl hF
theorem e_MM_isNew_ {d rc rs : Nat} {Q : Option Value → Mu → Prop} {μ : Mu} {x1 : Int32} {x2 : Int32} {x3 : Int32} (hk : Wx K_MM_isNew_ d rc rs (fun r μ' => St μ' ∧ Q r μ') 0 [(0, .ref (hd 40 0)), (1, .int x1), (2, .int x2), (3, .int x3)] [] μ) : Cal K_MM_isNew_ d rc rs [.ref (hd 40 0), .int x1, .int x2, .int x3] μ Q := Cal.of (by decide +kernel) rfl rfl (Nat.le_of_ble_eq_true rfl) rfl hk
set_option maxHeartbeats 4000000 in
set_option maxRecDepth 20000 in
theorem g_MM_inRange_0 {d rc rs : Nat} {Q : Option Value → Mu → Prop} {μ : Mu} {x1 : Int32} {x2 : Int32} {x3 : Int32} (hD : 1 ≤ d)  (hS : St μ)
    (hF : (Cal K_MM_numberAt (d - 1) 0 0 [.ref (hd 40 0), .int x1] μ (fun r μ1 => ∃ y2, r = some (.int y2) ∧ (Cal K_MM_isIn (d - 1) 0 0 [.int y2, .int x2, .int x3] μ1 (fun r μ3 => ∃ y4, r = some (.int y4) ∧ ((y4 = 0 → Q (some (.int 5)) μ3) ∧ (¬ y4 = 0 → Q (some (.int 0)) μ3))))))) : Wx K_MM_inRange d rc rs Q 0 [(0, .ref (hd 40 0)), (1, .int x1), (2, .int x2), (3, .int x3)] [] μ := by
  refine Wa.aload_n (j := 0) d_MM_inRange_0 rfl ?_
  refine Wa.iload_n (j := 1) d_MM_inRange_1 rfl ?_
  refine Wx.cVi (q := E_MM) (As := [.int x1]) 11 (d - 1) 0 0 _ d_MM_inRange_2 mok_MM_numberAt vl_MM_216 rfl rfl rfl (Nat.le_of_ble_eq_true rfl) (by omega) (Nat.zero_le _) (Nat.zero_le _) (s_40 hS (by decide)) hF (fun y2 μ1 hS hF => ?_)
  refine Wa.iload_n (j := 2) d_MM_inRange_5 rfl ?_
  refine Wa.iload_n (j := 3) d_MM_inRange_6 rfl ?_
  refine Wx.cSi (As := [.int y2, .int x2, .int x3]) (d - 1) 0 0 _ d_MM_inRange_7 mok_MM_isIn sl_MM_63 rfl rfl (Nat.le_of_ble_eq_true rfl) (by omega) (Nat.zero_le _) (Nat.zero_le _) hF (fun y4 μ3 hS hF => ?_)
  refine Wa.if_eq 17 d_MM_inRange_10 (by decide) (fun hb => ?_) (fun hb => ?_)
  · have hF := hF.1 hb
    refine Wa.iconst (v := 5) d_MM_inRange_17 rfl ?_
    exact Wx.reti d_MM_inRange_18 rfl hF
  · have hF := hF.2 hb
    refine Wa.iconst (v := 0) d_MM_inRange_13 rfl ?_
    refine Wa.goto 18 d_MM_inRange_14 (by decide) ?_
    exact Wx.reti d_MM_inRange_18 rfl hF
theorem e_MM_inRange {d rc rs : Nat} {Q : Option Value → Mu → Prop} {μ : Mu} {x1 : Int32} {x2 : Int32} {x3 : Int32} (hk : Wx K_MM_inRange d rc rs (fun r μ' => St μ' ∧ Q r μ') 0 [(0, .ref (hd 40 0)), (1, .int x1), (2, .int x2), (3, .int x3)] [] μ) : Cal K_MM_inRange d rc rs [.ref (hd 40 0), .int x1, .int x2, .int x3] μ Q := Cal.of (by decide +kernel) rfl rfl (Nat.le_of_ble_eq_true rfl) rfl hk
set_option maxHeartbeats 4000000 in
set_option maxRecDepth 20000 in
theorem g_MM_newParish_0 {d rc rs : Nat} {Q : Option Value → Mu → Prop} {μ : Mu} {x1 : Int32} (hD : 1 ≤ d)  (hS : St μ)
    (hF : (Cal K_MM_isNew_ (d - 1) 0 0 [.ref (hd 40 0), .int x1, .int (mI μ (hd 50 (px μ (hd 40 0) 12)) 0), .int 5] μ (fun r μ2 => ∃ y3, r = some (.int y3) ∧ ((y3 = 0 → Q (some (.int y3)) (setI μ2 (hd 50 (px μ2 (hd 40 0) 12)) 0 ((mI μ2 (hd 50 (px μ2 (hd 40 0) 12)) 0) + (1 : Int32)))) ∧ (¬ y3 = 0 → Q (some (.int y3)) (setI μ2 (hd 50 (px μ2 (hd 40 0) 12)) 0 ((mI μ2 (hd 50 (px μ2 (hd 40 0) 12)) 0) + (0 : Int32)))))))) : Wx K_MM_newParish d rc rs Q 0 [(0, .ref (hd 40 0)), (1, .int x1)] [] μ := by
  refine Wa.aload_n (j := 0) d_MM_newParish_0 rfl ?_
  refine Wa.iload_n (j := 1) d_MM_newParish_1 rfl ?_
  refine Wa.aload_n (j := 0) d_MM_newParish_2 rfl ?_
  have hp1 := St.reading hS
  refine Wx.getR 11 12 d_MM_newParish_3 f_MM_12 rfl fl_MM_39 (s_40 hS (by decide)) (hp1.1) ?_
  refine Wx.getI 12 0 d_MM_newParish_6 f_MP_0 fl_MM_60 w_50 (s_50 hp1.2) ?_
  refine Wa.iconst (v := 5) d_MM_newParish_9 rfl ?_
  refine Wx.cVi (q := E_MM) (As := [.int x1, .int (mI μ (hd 50 (px μ (hd 40 0) 12)) 0), .int 5]) 11 (d - 1) 0 0 _ d_MM_newParish_10 mok_MM_isNew_ vl_MM_229 rfl rfl rfl (Nat.le_of_ble_eq_true rfl) (by omega) (Nat.zero_le _) (Nat.zero_le _) (s_40 hS (by decide)) hF (fun y3 μ2 hS hF => ?_)
  refine Wa.istore_n (i := 2) (L' := [(2, .int y3), (0, .ref (hd 40 0)), (1, .int x1)]) d_MM_newParish_13 rfl (by decide) rfl ?_
  refine Wa.aload_n (j := 1) d_MM_newParish_14 rfl ?_
  have hp4 := St.reading hS
  refine Wx.getR 11 12 d_MM_newParish_15 f_MM_12 rfl fl_MM_39 (s_40 hS (by decide)) (hp4.1) ?_
  refine Wa.dup d_MM_newParish_18 rfl ?_
  refine Wx.getI 12 0 d_MM_newParish_19 f_MP_0 fl_MM_60 w_50 (s_50 hp4.2) ?_
  refine Wa.iload_n (j := 0) d_MM_newParish_22 rfl ?_
  refine Wa.if_ne 30 d_MM_newParish_23 (by decide) (fun hb => ?_) (fun hb => ?_)
  · have hF := hF.2 hb
    refine Wa.iconst (v := 0) d_MM_newParish_30 rfl ?_
    refine Wa.iadd d_MM_newParish_31 ?_
    refine Wx.putI 12 0 d_MM_newParish_32 f_MP_0 ok_MP fl_MM_60 (Or.inl rfl) w_50 (s_50 hp4.2) ?_
    refine Wa.iload_n (j := 0) d_MM_newParish_35 rfl ?_
    exact Wx.reti d_MM_newParish_36 rfl hF
  · have hF := hF.1 hb
    refine Wa.iconst (v := 1) d_MM_newParish_26 rfl ?_
    refine Wa.goto 31 d_MM_newParish_27 (by decide) ?_
    refine Wa.iadd d_MM_newParish_31 ?_
    refine Wx.putI 12 0 d_MM_newParish_32 f_MP_0 ok_MP fl_MM_60 (Or.inl rfl) w_50 (s_50 hp4.2) ?_
    refine Wa.iload_n (j := 0) d_MM_newParish_35 rfl ?_
    exact Wx.reti d_MM_newParish_36 rfl hF
theorem e_MM_newParish {d rc rs : Nat} {Q : Option Value → Mu → Prop} {μ : Mu} {x1 : Int32} (hk : Wx K_MM_newParish d rc rs (fun r μ' => St μ' ∧ Q r μ') 0 [(0, .ref (hd 40 0)), (1, .int x1)] [] μ) : Cal K_MM_newParish d rc rs [.ref (hd 40 0), .int x1] μ Q := Cal.of (by decide +kernel) rfl rfl (Nat.le_of_ble_eq_true rfl) rfl hk
set_option maxHeartbeats 4000000 in
set_option maxRecDepth 20000 in
theorem g_MM_newNotice_0 {d rc rs : Nat} {Q : Option Value → Mu → Prop} {μ : Mu} {x1 : Int32} (hD : 1 ≤ d)  (hS : St μ)
    (hF : (Cal K_MM_isNew_ (d - 1) 0 0 [.ref (hd 40 0), .int x1, .int (mI μ (hd 50 (px μ (hd 40 0) 12)) 1), .int 6] μ (fun r μ2 => ∃ y3, r = some (.int y3) ∧ ((y3 = 0 → Q (some (.int y3)) (setI μ2 (hd 50 (px μ2 (hd 40 0) 12)) 1 ((mI μ2 (hd 50 (px μ2 (hd 40 0) 12)) 1) + (1 : Int32)))) ∧ (¬ y3 = 0 → Q (some (.int y3)) (setI μ2 (hd 50 (px μ2 (hd 40 0) 12)) 1 ((mI μ2 (hd 50 (px μ2 (hd 40 0) 12)) 1) + (0 : Int32)))))))) : Wx K_MM_newNotice d rc rs Q 0 [(0, .ref (hd 40 0)), (1, .int x1)] [] μ := by
  refine Wa.aload_n (j := 0) d_MM_newNotice_0 rfl ?_
  refine Wa.iload_n (j := 1) d_MM_newNotice_1 rfl ?_
  refine Wa.aload_n (j := 0) d_MM_newNotice_2 rfl ?_
  have hp1 := St.reading hS
  refine Wx.getR 11 12 d_MM_newNotice_3 f_MM_12 rfl fl_MM_39 (s_40 hS (by decide)) (hp1.1) ?_
  refine Wx.getI 12 1 d_MM_newNotice_6 f_MP_1 fl_MM_71 w_50 (s_50 hp1.2) ?_
  refine Wa.bipush (v := 6) d_MM_newNotice_9 rfl ?_
  refine Wx.cVi (q := E_MM) (As := [.int x1, .int (mI μ (hd 50 (px μ (hd 40 0) 12)) 1), .int 6]) 11 (d - 1) 0 0 _ d_MM_newNotice_11 mok_MM_isNew_ vl_MM_229 rfl rfl rfl (Nat.le_of_ble_eq_true rfl) (by omega) (Nat.zero_le _) (Nat.zero_le _) (s_40 hS (by decide)) hF (fun y3 μ2 hS hF => ?_)
  refine Wa.istore_n (i := 2) (L' := [(2, .int y3), (0, .ref (hd 40 0)), (1, .int x1)]) d_MM_newNotice_14 rfl (by decide) rfl ?_
  refine Wa.aload_n (j := 1) d_MM_newNotice_15 rfl ?_
  have hp4 := St.reading hS
  refine Wx.getR 11 12 d_MM_newNotice_16 f_MM_12 rfl fl_MM_39 (s_40 hS (by decide)) (hp4.1) ?_
  refine Wa.dup d_MM_newNotice_19 rfl ?_
  refine Wx.getI 12 1 d_MM_newNotice_20 f_MP_1 fl_MM_71 w_50 (s_50 hp4.2) ?_
  refine Wa.iload_n (j := 0) d_MM_newNotice_23 rfl ?_
  refine Wa.if_ne 31 d_MM_newNotice_24 (by decide) (fun hb => ?_) (fun hb => ?_)
  · have hF := hF.2 hb
    refine Wa.iconst (v := 0) d_MM_newNotice_31 rfl ?_
    refine Wa.iadd d_MM_newNotice_32 ?_
    refine Wx.putI 12 1 d_MM_newNotice_33 f_MP_1 ok_MP fl_MM_71 (Or.inl rfl) w_50 (s_50 hp4.2) ?_
    refine Wa.iload_n (j := 0) d_MM_newNotice_36 rfl ?_
    exact Wx.reti d_MM_newNotice_37 rfl hF
  · have hF := hF.1 hb
    refine Wa.iconst (v := 1) d_MM_newNotice_27 rfl ?_
    refine Wa.goto 32 d_MM_newNotice_28 (by decide) ?_
    refine Wa.iadd d_MM_newNotice_32 ?_
    refine Wx.putI 12 1 d_MM_newNotice_33 f_MP_1 ok_MP fl_MM_71 (Or.inl rfl) w_50 (s_50 hp4.2) ?_
    refine Wa.iload_n (j := 0) d_MM_newNotice_36 rfl ?_
    exact Wx.reti d_MM_newNotice_37 rfl hF
theorem e_MM_newNotice {d rc rs : Nat} {Q : Option Value → Mu → Prop} {μ : Mu} {x1 : Int32} (hk : Wx K_MM_newNotice d rc rs (fun r μ' => St μ' ∧ Q r μ') 0 [(0, .ref (hd 40 0)), (1, .int x1)] [] μ) : Cal K_MM_newNotice d rc rs [.ref (hd 40 0), .int x1] μ Q := Cal.of (by decide +kernel) rfl rfl (Nat.le_of_ble_eq_true rfl) rfl hk
set_option maxHeartbeats 4000000 in
set_option maxRecDepth 20000 in
theorem g_MM_newRoad_0 {d rc rs : Nat} {Q : Option Value → Mu → Prop} {μ : Mu} {x1 : Int32} (hD : 1 ≤ d)  (hS : St μ)
    (hF : (Cal K_MM_isNew_ (d - 1) 0 0 [.ref (hd 40 0), .int x1, .int (mI μ (hd 50 (px μ (hd 40 0) 12)) 2), .int 8] μ (fun r μ2 => ∃ y3, r = some (.int y3) ∧ ((y3 = 0 → Q (some (.int y3)) (setI μ2 (hd 50 (px μ2 (hd 40 0) 12)) 2 ((mI μ2 (hd 50 (px μ2 (hd 40 0) 12)) 2) + (1 : Int32)))) ∧ (¬ y3 = 0 → Q (some (.int y3)) (setI μ2 (hd 50 (px μ2 (hd 40 0) 12)) 2 ((mI μ2 (hd 50 (px μ2 (hd 40 0) 12)) 2) + (0 : Int32)))))))) : Wx K_MM_newRoad d rc rs Q 0 [(0, .ref (hd 40 0)), (1, .int x1)] [] μ := by
  refine Wa.aload_n (j := 0) d_MM_newRoad_0 rfl ?_
  refine Wa.iload_n (j := 1) d_MM_newRoad_1 rfl ?_
  refine Wa.aload_n (j := 0) d_MM_newRoad_2 rfl ?_
  have hp1 := St.reading hS
  refine Wx.getR 11 12 d_MM_newRoad_3 f_MM_12 rfl fl_MM_39 (s_40 hS (by decide)) (hp1.1) ?_
  refine Wx.getI 12 2 d_MM_newRoad_6 f_MP_2 fl_MM_74 w_50 (s_50 hp1.2) ?_
  refine Wa.bipush (v := 8) d_MM_newRoad_9 rfl ?_
  refine Wx.cVi (q := E_MM) (As := [.int x1, .int (mI μ (hd 50 (px μ (hd 40 0) 12)) 2), .int 8]) 11 (d - 1) 0 0 _ d_MM_newRoad_11 mok_MM_isNew_ vl_MM_229 rfl rfl rfl (Nat.le_of_ble_eq_true rfl) (by omega) (Nat.zero_le _) (Nat.zero_le _) (s_40 hS (by decide)) hF (fun y3 μ2 hS hF => ?_)
  refine Wa.istore_n (i := 2) (L' := [(2, .int y3), (0, .ref (hd 40 0)), (1, .int x1)]) d_MM_newRoad_14 rfl (by decide) rfl ?_
  refine Wa.aload_n (j := 1) d_MM_newRoad_15 rfl ?_
  have hp4 := St.reading hS
  refine Wx.getR 11 12 d_MM_newRoad_16 f_MM_12 rfl fl_MM_39 (s_40 hS (by decide)) (hp4.1) ?_
  refine Wa.dup d_MM_newRoad_19 rfl ?_
  refine Wx.getI 12 2 d_MM_newRoad_20 f_MP_2 fl_MM_74 w_50 (s_50 hp4.2) ?_
  refine Wa.iload_n (j := 0) d_MM_newRoad_23 rfl ?_
  refine Wa.if_ne 31 d_MM_newRoad_24 (by decide) (fun hb => ?_) (fun hb => ?_)
  · have hF := hF.2 hb
    refine Wa.iconst (v := 0) d_MM_newRoad_31 rfl ?_
    refine Wa.iadd d_MM_newRoad_32 ?_
    refine Wx.putI 12 2 d_MM_newRoad_33 f_MP_2 ok_MP fl_MM_74 (Or.inl rfl) w_50 (s_50 hp4.2) ?_
    refine Wa.iload_n (j := 0) d_MM_newRoad_36 rfl ?_
    exact Wx.reti d_MM_newRoad_37 rfl hF
  · have hF := hF.1 hb
    refine Wa.iconst (v := 1) d_MM_newRoad_27 rfl ?_
    refine Wa.goto 32 d_MM_newRoad_28 (by decide) ?_
    refine Wa.iadd d_MM_newRoad_32 ?_
    refine Wx.putI 12 2 d_MM_newRoad_33 f_MP_2 ok_MP fl_MM_74 (Or.inl rfl) w_50 (s_50 hp4.2) ?_
    refine Wa.iload_n (j := 0) d_MM_newRoad_36 rfl ?_
    exact Wx.reti d_MM_newRoad_37 rfl hF
theorem e_MM_newRoad {d rc rs : Nat} {Q : Option Value → Mu → Prop} {μ : Mu} {x1 : Int32} (hk : Wx K_MM_newRoad d rc rs (fun r μ' => St μ' ∧ Q r μ') 0 [(0, .ref (hd 40 0)), (1, .int x1)] [] μ) : Cal K_MM_newRoad d rc rs [.ref (hd 40 0), .int x1] μ Q := Cal.of (by decide +kernel) rfl rfl (Nat.le_of_ble_eq_true rfl) rfl hk
set_option maxHeartbeats 4000000 in
set_option maxRecDepth 20000 in
theorem g_MM_order_0 {d rc rs : Nat} {Q : Option Value → Mu → Prop} {μ : Mu} {x1 : Int32} (hD : 1 ≤ d)  (hS : St μ)
    (hF : (((mI μ (hd 50 (px μ (hd 40 0) 12)) 6) = 20 → Q (some (.int 4)) μ) ∧ (¬ (mI μ (hd 50 (px μ (hd 40 0) 12)) 6) = 20 → (vp_in x1 401 ∧ (vp_in (mI μ (hd 50 (px μ (hd 40 0) 12)) 6) 20 ∧ (∀ μ7 : Mu, μ7 = (setI (setI μ (hd 54 (px μ (hd 40 0) 12)) (mI μ (hd 50 (px μ (hd 40 0) 12)) 6).toNatClampNeg (mI μ (hd 42 0) x1.toNatClampNeg)) (hd 50 (px μ (hd 40 0) 12)) 6 ((mI (setI μ (hd 54 (px μ (hd 40 0) 12)) (mI μ (hd 50 (px μ (hd 40 0) 12)) 6).toNatClampNeg (mI μ (hd 42 0) x1.toNatClampNeg)) (hd 50 (px μ (hd 40 0) 12)) 6) + (1 : Int32))) → Q (some (.int 0)) μ7)))))) : Wx K_MM_order d rc rs Q 0 [(0, .ref (hd 40 0)), (1, .int x1)] [] μ := by
  refine Wa.aload_n (j := 0) d_MM_order_0 rfl ?_
  have hp1 := St.reading hS
  refine Wx.getR 11 12 d_MM_order_1 f_MM_12 rfl fl_MM_39 (s_40 hS (by decide)) (hp1.1) ?_
  refine Wx.getI 12 6 d_MM_order_4 f_MP_6 fl_MM_232 w_50 (s_50 hp1.2) ?_
  refine Wa.bipush (v := 20) d_MM_order_7 rfl ?_
  refine Wa.icmp_ne 14 d_MM_order_9 (by decide) (fun hb => ?_) (fun hb => ?_)
  · have hF := hF.2 hb
    refine Wa.aload_n (j := 0) d_MM_order_14 rfl ?_
    have hp2 := St.reading hS
    refine Wx.getR 11 12 d_MM_order_15 f_MM_12 rfl fl_MM_39 (s_40 hS (by decide)) (hp2.1) ?_
    refine Wx.getR 12 8 d_MM_order_18 f_MP_8 rfl fl_MM_235 (s_50 hp2.2) (r_50_8 hp2.2) ?_
    refine Wa.aload_n (j := 0) d_MM_order_21 rfl ?_
    have hp3 := St.reading hS
    refine Wx.getR 11 12 d_MM_order_22 f_MM_12 rfl fl_MM_39 (s_40 hS (by decide)) (hp3.1) ?_
    refine Wx.getI 12 6 d_MM_order_25 f_MP_6 fl_MM_232 w_50 (s_50 hp3.2) ?_
    refine Wa.aload_n (j := 0) d_MM_order_28 rfl ?_
    refine Wx.getR 11 4 d_MM_order_29 f_MM_4 rfl fl_MM_17 (s_40 hS (by decide)) (r_40_4 hS (by decide)) ?_
    refine Wa.iload_n (j := 1) d_MM_order_32 rfl ?_
    have hc4 := hF.1
    have hF := hF.2
    have hlhc4 := vp_in_lt hc4
    refine Wx.iald d_MM_order_33 w_42 (s_42 hS (by decide)) hc4 ?_
    have hc5 := hF.1
    have hF := hF.2
    have hlhc5 := vp_in_lt hc5
    refine Wa.iast d_MM_order_34 w_54 (s_54 hp2.2) hc5 ?_
    refine Wa.aload_n (j := 0) d_MM_order_35 rfl ?_
    have hp6 := St.reading hS
    refine Wx.getR 11 12 d_MM_order_36 f_MM_12 rfl fl_MM_39 (s_40 hS (by decide)) (hp6.1) ?_
    refine Wa.dup d_MM_order_39 rfl ?_
    refine Wx.getI 12 6 d_MM_order_40 f_MP_6 fl_MM_232 w_50 (s_50 hp6.2) ?_
    refine Wa.iconst (v := 1) d_MM_order_43 rfl ?_
    refine Wa.iadd d_MM_order_44 ?_
    refine Wx.putI 12 6 d_MM_order_45 f_MP_6 ok_MP fl_MM_232 (Or.inl rfl) w_50 (s_50 hp6.2) ?_
    suffices hh : ∀ μ7 : Mu, μ7 = (setI (setI μ (hd 54 (px μ (hd 40 0) 12)) (mI μ (hd 50 (px μ (hd 40 0) 12)) 6).toNatClampNeg (mI μ (hd 42 0) x1.toNatClampNeg)) (hd 50 (px μ (hd 40 0) 12)) 6 ((mI (setI μ (hd 54 (px μ (hd 40 0) 12)) (mI μ (hd 50 (px μ (hd 40 0) 12)) 6).toNatClampNeg (mI μ (hd 42 0) x1.toNatClampNeg)) (hd 50 (px μ (hd 40 0) 12)) 6) + (1 : Int32))) → Wx K_MM_order d rc rs Q 48 [(0, .ref (hd 40 0)), (1, .int x1)] [] μ7 from hh _ rfl
    intro μ7 em
    have hF := hF μ7 em
    have hS : St μ7 := by rw [em]; exact hS
    refine Wa.iconst (v := 0) d_MM_order_48 rfl ?_
    exact Wx.reti d_MM_order_49 rfl hF
  · have hF := hF.1 hb
    refine Wa.iconst (v := 4) d_MM_order_12 rfl ?_
    exact Wx.reti d_MM_order_13 rfl hF
theorem e_MM_order {d rc rs : Nat} {Q : Option Value → Mu → Prop} {μ : Mu} {x1 : Int32} (hk : Wx K_MM_order d rc rs (fun r μ' => St μ' ∧ Q r μ') 0 [(0, .ref (hd 40 0)), (1, .int x1)] [] μ) : Cal K_MM_order d rc rs [.ref (hd 40 0), .int x1] μ Q := Cal.of (by decide +kernel) rfl rfl (Nat.le_of_ble_eq_true rfl) rfl hk
set_option maxHeartbeats 4000000 in
set_option maxRecDepth 20000 in
theorem g_MM_named_0 {d rc rs : Nat} {Q : Option Value → Mu → Prop} {μ : Mu} {x1 : Int32} {a2 n2 : Nat} {x3 : Int32} {x4 : Int32} (hD : 1 ≤ d) (h2 : mS μ a2 = (2, n2)) (w2 : rwN a2) (hS : St μ)
    (hF : (Cal K_MM_look (d - 1) 0 0 [.ref (hd 40 0), .int x1, .int x4] μ (fun r μ1 => ∃ y3, r = some (.int y3) ∧ mS μ1 a2 = (2, n2) ∧ (vp_in x1 401 ∧ (vp_in x3 n2 ∧ Q (some (.int y3)) (setI μ1 a2 x3.toNatClampNeg (mI μ1 (hd 46 0) x1.toNatClampNeg))))))) : Wx K_MM_named d rc rs Q 0 [(0, .ref (hd 40 0)), (1, .int x1), (2, .ref a2), (3, .int x3), (4, .int x4)] [] μ := by
  refine Wa.aload_n (j := 0) d_MM_named_0 rfl ?_
  refine Wa.iload_n (j := 1) d_MM_named_1 rfl ?_
  refine Wa.iload (j := 4) d_MM_named_2 rfl ?_
  refine Wx.cVi (q := E_MM) (As := [.int x1, .int x4]) 11 (d - 1) 0 0 _ d_MM_named_4 mok_MM_look vl_MM_238 rfl rfl rfl (Nat.le_of_ble_eq_true rfl) (by omega) (Nat.zero_le _) (Nat.zero_le _) (s_40 hS (by decide)) hF (fun y3 μ1 hS hF => ?_)
  have hr2 := hF.1
  have hF := hF.2
  refine Wa.istore (i := 5) (L' := [(5, .int y3), (0, .ref (hd 40 0)), (1, .int x1), (2, .ref a2), (3, .int x3), (4, .int x4)]) d_MM_named_7 (by decide) rfl ?_
  refine Wa.aload_n (j := 3) d_MM_named_9 rfl ?_
  refine Wa.iload_n (j := 4) d_MM_named_10 rfl ?_
  refine Wa.aload_n (j := 1) d_MM_named_11 rfl ?_
  refine Wx.getR 11 8 d_MM_named_12 f_MM_8 rfl fl_MM_29 (s_40 hS (by decide)) (r_40_8 hS (by decide)) ?_
  refine Wa.iload_n (j := 2) d_MM_named_15 rfl ?_
  have hc4 := hF.1
  have hF := hF.2
  have hlhc4 := vp_in_lt hc4
  refine Wx.iald d_MM_named_16 w_46 (s_46 hS (by decide)) hc4 ?_
  have hc5 := hF.1
  have hF := hF.2
  have hlhc5 := vp_in_lt hc5
  refine Wa.iast d_MM_named_17 w2 (hr2) hc5 ?_
  refine Wa.iload (j := 0) d_MM_named_18 rfl ?_
  exact Wx.reti d_MM_named_20 rfl hF
theorem e_MM_named {d rc rs : Nat} {Q : Option Value → Mu → Prop} {μ : Mu} {x1 : Int32} {a2 n2 : Nat} {x3 : Int32} {x4 : Int32} (hk : Wx K_MM_named d rc rs (fun r μ' => St μ' ∧ Q r μ') 0 [(0, .ref (hd 40 0)), (1, .int x1), (2, .ref a2), (3, .int x3), (4, .int x4)] [] μ) : Cal K_MM_named d rc rs [.ref (hd 40 0), .int x1, .ref a2, .int x3, .int x4] μ Q := Cal.of (by decide +kernel) rfl rfl (Nat.le_of_ble_eq_true rfl) rfl hk
set_option maxHeartbeats 4000000 in
set_option maxRecDepth 20000 in
theorem g_MM_whither_0 {d rc rs : Nat} {Q : Option Value → Mu → Prop} {μ : Mu} {x1 : Int32} (hD : 1 ≤ d)  (hS : St μ)
    (hF : (Cal K_MM_named (d - 1) 0 0 [.ref (hd 40 0), .int x1, .ref (hd 52 (px μ (hd 40 0) 12)), .int ((mI μ (hd 50 (px μ (hd 40 0) 12)) 2) - (1 : Int32)), .int 1] μ (fun r μ3 => ∃ y4, r = some (.int y4) ∧ ((y4 = 0 → (vp_in ((mI μ (hd 50 (px μ (hd 40 0) 12)) 2) - (1 : Int32)) 8 ∧ (vp_in ((mI μ (hd 50 (px μ (hd 40 0) 12)) 2) - (1 : Int32)) 8 ∧ (((mI μ3 (hd 52 (px μ3 (hd 40 0) 12)) ((mI μ (hd 50 (px μ (hd 40 0) 12)) 2) - (1 : Int32)).toNatClampNeg) = (mI μ3 (hd 51 (px μ3 (hd 40 0) 12)) ((mI μ (hd 50 (px μ (hd 40 0) 12)) 2) - (1 : Int32)).toNatClampNeg) → Q (some (.int 5)) μ3) ∧ (¬ (mI μ3 (hd 52 (px μ3 (hd 40 0) 12)) ((mI μ (hd 50 (px μ (hd 40 0) 12)) 2) - (1 : Int32)).toNatClampNeg) = (mI μ3 (hd 51 (px μ3 (hd 40 0) 12)) ((mI μ (hd 50 (px μ (hd 40 0) 12)) 2) - (1 : Int32)).toNatClampNeg) → Q (some (.int y4)) μ3))))) ∧ (¬ y4 = 0 → Q (some (.int y4)) μ3))))) : Wx K_MM_whither d rc rs Q 0 [(0, .ref (hd 40 0)), (1, .int x1)] [] μ := by
  refine Wa.aload_n (j := 0) d_MM_whither_0 rfl ?_
  have hp1 := St.reading hS
  refine Wx.getR 11 12 d_MM_whither_1 f_MM_12 rfl fl_MM_39 (s_40 hS (by decide)) (hp1.1) ?_
  refine Wx.getI 12 2 d_MM_whither_4 f_MP_2 fl_MM_74 w_50 (s_50 hp1.2) ?_
  refine Wa.iconst (v := 1) d_MM_whither_7 rfl ?_
  refine Wa.isub d_MM_whither_8 ?_
  refine Wa.istore_n (i := 2) (L' := [(2, .int ((mI μ (hd 50 (px μ (hd 40 0) 12)) 2) - (1 : Int32))), (0, .ref (hd 40 0)), (1, .int x1)]) d_MM_whither_9 rfl (by decide) rfl ?_
  refine Wa.aload_n (j := 1) d_MM_whither_10 rfl ?_
  refine Wa.iload_n (j := 2) d_MM_whither_11 rfl ?_
  refine Wa.aload_n (j := 1) d_MM_whither_12 rfl ?_
  have hp2 := St.reading hS
  refine Wx.getR 11 12 d_MM_whither_13 f_MM_12 rfl fl_MM_39 (s_40 hS (by decide)) (hp2.1) ?_
  refine Wx.getR 12 4 d_MM_whither_16 f_MP_4 rfl fl_MM_241 (s_50 hp2.2) (r_50_4 hp2.2) ?_
  refine Wa.iload_n (j := 0) d_MM_whither_19 rfl ?_
  refine Wa.iconst (v := 1) d_MM_whither_20 rfl ?_
  refine Wx.cVi (q := E_MM) (As := [.int x1, .ref (hd 52 (px μ (hd 40 0) 12)), .int ((mI μ (hd 50 (px μ (hd 40 0) 12)) 2) - (1 : Int32)), .int 1]) 11 (d - 1) 0 0 _ d_MM_whither_21 mok_MM_named vl_MM_244 rfl rfl rfl (Nat.le_of_ble_eq_true rfl) (by omega) (Nat.zero_le _) (Nat.zero_le _) (s_40 hS (by decide)) hF (fun y4 μ3 hS hF => ?_)
  refine Wa.istore_n (i := 3) (L' := [(3, .int y4), (2, .int ((mI μ (hd 50 (px μ (hd 40 0) 12)) 2) - (1 : Int32))), (0, .ref (hd 40 0)), (1, .int x1)]) d_MM_whither_24 rfl (by decide) rfl ?_
  refine Wa.iload_n (j := 0) d_MM_whither_25 rfl ?_
  refine Wa.if_ne 54 d_MM_whither_26 (by decide) (fun hb => ?_) (fun hb => ?_)
  · have hF := hF.2 hb
    refine Wa.iload_n (j := 0) d_MM_whither_54 rfl ?_
    exact Wx.reti d_MM_whither_55 rfl hF
  · have hF := hF.1 hb
    refine Wa.aload_n (j := 2) d_MM_whither_29 rfl ?_
    have hp5 := St.reading hS
    refine Wx.getR 11 12 d_MM_whither_30 f_MM_12 rfl fl_MM_39 (s_40 hS (by decide)) (hp5.1) ?_
    refine Wx.getR 12 4 d_MM_whither_33 f_MP_4 rfl fl_MM_241 (s_50 hp5.2) (r_50_4 hp5.2) ?_
    refine Wa.iload_n (j := 1) d_MM_whither_36 rfl ?_
    have hc6 := hF.1
    have hF := hF.2
    have hlhc6 := vp_in_lt hc6
    refine Wx.iald d_MM_whither_37 w_52 (s_52 hp5.2) hc6 ?_
    refine Wa.aload_n (j := 2) d_MM_whither_38 rfl ?_
    have hp7 := St.reading hS
    refine Wx.getR 11 12 d_MM_whither_39 f_MM_12 rfl fl_MM_39 (s_40 hS (by decide)) (hp7.1) ?_
    refine Wx.getR 12 3 d_MM_whither_42 f_MP_3 rfl fl_MM_248 (s_50 hp7.2) (r_50_3 hp7.2) ?_
    refine Wa.iload_n (j := 1) d_MM_whither_45 rfl ?_
    have hc8 := hF.1
    have hF := hF.2
    have hlhc8 := vp_in_lt hc8
    refine Wx.iald d_MM_whither_46 w_51 (s_51 hp7.2) hc8 ?_
    refine Wa.icmp_ne 54 d_MM_whither_47 (by decide) (fun hb => ?_) (fun hb => ?_)
    · have hF := hF.2 hb
      refine Wa.iload_n (j := 0) d_MM_whither_54 rfl ?_
      exact Wx.reti d_MM_whither_55 rfl hF
    · have hF := hF.1 hb
      refine Wa.iconst (v := 5) d_MM_whither_50 rfl ?_
      refine Wa.goto 55 d_MM_whither_51 (by decide) ?_
      exact Wx.reti d_MM_whither_55 rfl hF
theorem e_MM_whither {d rc rs : Nat} {Q : Option Value → Mu → Prop} {μ : Mu} {x1 : Int32} (hk : Wx K_MM_whither d rc rs (fun r μ' => St μ' ∧ Q r μ') 0 [(0, .ref (hd 40 0)), (1, .int x1)] [] μ) : Cal K_MM_whither d rc rs [.ref (hd 40 0), .int x1] μ Q := Cal.of (by decide +kernel) rfl rfl (Nat.le_of_ble_eq_true rfl) rfl hk
set_option maxHeartbeats 4000000 in
set_option maxRecDepth 20000 in
theorem g_MM_daysOf_0 {d rc rs : Nat} {Q : Option Value → Mu → Prop} {μ : Mu} {x1 : Int32} (hD : 1 ≤ d)  (hS : St μ)
    (hF : (Cal K_MM_numberAt (d - 1) 0 0 [.ref (hd 40 0), .int x1] μ (fun r μ3 => ∃ y5, r = some (.int y5) ∧ PlanOK μ3 (px μ (hd 40 0) 12) ∧ (vp_in ((mI μ (hd 50 (px μ (hd 40 0) 12)) 2) - (1 : Int32)) 8 ∧ (Cal K_MM_inRange (d - 1) 0 0 [.ref (hd 40 0), .int x1, .int 1, .int 9] (setI μ3 (hd 53 (px μ (hd 40 0) 12)) ((mI μ (hd 50 (px μ (hd 40 0) 12)) 2) - (1 : Int32)).toNatClampNeg y5) (fun r μ7 => ∃ y8, r = some (.int y8) ∧ Q (some (.int y8)) μ7)))))) : Wx K_MM_daysOf d rc rs Q 0 [(0, .ref (hd 40 0)), (1, .int x1)] [] μ := by
  refine Wa.aload_n (j := 0) d_MM_daysOf_0 rfl ?_
  have hp1 := St.reading hS
  refine Wx.getR 11 12 d_MM_daysOf_1 f_MM_12 rfl fl_MM_39 (s_40 hS (by decide)) (hp1.1) ?_
  refine Wx.getR 12 5 d_MM_daysOf_4 f_MP_5 rfl fl_MM_251 (s_50 hp1.2) (r_50_5 hp1.2) ?_
  refine Wa.aload_n (j := 0) d_MM_daysOf_7 rfl ?_
  have hp2 := St.reading hS
  refine Wx.getR 11 12 d_MM_daysOf_8 f_MM_12 rfl fl_MM_39 (s_40 hS (by decide)) (hp2.1) ?_
  refine Wx.getI 12 2 d_MM_daysOf_11 f_MP_2 fl_MM_74 w_50 (s_50 hp2.2) ?_
  refine Wa.iconst (v := 1) d_MM_daysOf_14 rfl ?_
  refine Wa.isub d_MM_daysOf_15 ?_
  refine Wa.aload_n (j := 0) d_MM_daysOf_16 rfl ?_
  refine Wa.iload_n (j := 1) d_MM_daysOf_17 rfl ?_
  refine Wx.cVi (q := E_MM) (As := [.int x1]) 11 (d - 1) 0 0 _ d_MM_daysOf_18 mok_MM_numberAt vl_MM_216 rfl rfl rfl (Nat.le_of_ble_eq_true rfl) (by omega) (Nat.zero_le _) (Nat.zero_le _) (s_40 hS (by decide)) hF (fun y5 μ3 hS hF => ?_)
  have hr4 := hF.1
  have hF := hF.2
  have hc6 := hF.1
  have hF := hF.2
  have hlhc6 := vp_in_lt hc6
  refine Wa.iast d_MM_daysOf_21 w_53 (s_53 hr4) hc6 ?_
  refine Wa.aload_n (j := 0) d_MM_daysOf_22 rfl ?_
  refine Wa.iload_n (j := 1) d_MM_daysOf_23 rfl ?_
  refine Wa.iconst (v := 1) d_MM_daysOf_24 rfl ?_
  refine Wa.bipush (v := 9) d_MM_daysOf_25 rfl ?_
  refine Wx.cVi (q := E_MM) (As := [.int x1, .int 1, .int 9]) 11 (d - 1) 0 0 _ d_MM_daysOf_27 mok_MM_inRange vl_MM_254 rfl rfl rfl (Nat.le_of_ble_eq_true rfl) (by omega) (Nat.zero_le _) (Nat.zero_le _) (s_40 hS (by decide)) hF (fun y8 μ7 hS hF => ?_)
  exact Wx.reti d_MM_daysOf_30 rfl hF
theorem e_MM_daysOf {d rc rs : Nat} {Q : Option Value → Mu → Prop} {μ : Mu} {x1 : Int32} (hk : Wx K_MM_daysOf d rc rs (fun r μ' => St μ' ∧ Q r μ') 0 [(0, .ref (hd 40 0)), (1, .int x1)] [] μ) : Cal K_MM_daysOf d rc rs [.ref (hd 40 0), .int x1] μ Q := Cal.of (by decide +kernel) rfl rfl (Nat.le_of_ble_eq_true rfl) rfl hk
set_option maxHeartbeats 4000000 in
set_option maxRecDepth 20000 in
theorem g_MM_errorOf_0 {d rc rs : Nat} {Q : Option Value → Mu → Prop} {μ : Mu} {x1 : Int32} (hD : 1 ≤ d)  (hS : St μ)
    (hF : (vp_in x1 401 ∧ ((((mI μ (hd 45 0) x1.toNatClampNeg) = 1) → (Cal K_MM_newParish (d - 1) 0 0 [.ref (hd 40 0), .int x1] μ (fun r μ4 => ∃ y5, r = some (.int y5) ∧ Q (some (.int y5)) μ4))) ∧ (((mI μ (hd 45 0) x1.toNatClampNeg) = 2) → (Cal K_MM_newNotice (d - 1) 0 0 [.ref (hd 40 0), .int x1] μ (fun r μ7 => ∃ y8, r = some (.int y8) ∧ Q (some (.int y8)) μ7))) ∧ (((mI μ (hd 45 0) x1.toNatClampNeg) = 3) → (Cal K_MM_newRoad (d - 1) 0 0 [.ref (hd 40 0), .int x1] μ (fun r μ10 => ∃ y11, r = some (.int y11) ∧ Q (some (.int y11)) μ10))) ∧ (((mI μ (hd 45 0) x1.toNatClampNeg) = 4) → (Cal K_MM_named (d - 1) 0 0 [.ref (hd 40 0), .int x1, .ref (hd 51 (px μ (hd 40 0) 12)), .int ((mI μ (hd 50 (px μ (hd 40 0) 12)) 2) - (1 : Int32)), .int 1] μ (fun r μ13 => ∃ y14, r = some (.int y14) ∧ Q (some (.int y14)) μ13))) ∧ (((mI μ (hd 45 0) x1.toNatClampNeg) = 5) → (Cal K_MM_whither (d - 1) 0 0 [.ref (hd 40 0), .int x1] μ (fun r μ16 => ∃ y17, r = some (.int y17) ∧ Q (some (.int y17)) μ16))) ∧ (((mI μ (hd 45 0) x1.toNatClampNeg) = 6) → (Cal K_MM_daysOf (d - 1) 0 0 [.ref (hd 40 0), .int x1] μ (fun r μ19 => ∃ y20, r = some (.int y20) ∧ Q (some (.int y20)) μ19))) ∧ (((mI μ (hd 45 0) x1.toNatClampNeg) = 7) → (Cal K_MM_order (d - 1) 0 0 [.ref (hd 40 0), .int x1] μ (fun r μ22 => ∃ y23, r = some (.int y23) ∧ Q (some (.int y23)) μ22))) ∧ (((mI μ (hd 45 0) x1.toNatClampNeg) = 8) → (Cal K_MM_named (d - 1) 0 0 [.ref (hd 40 0), .int x1, .ref (hd 55 (px μ (hd 40 0) 12)), .int ((mI μ (hd 50 (px μ (hd 40 0) 12)) 6) - (1 : Int32)), .int 1] μ (fun r μ25 => ∃ y26, r = some (.int y26) ∧ Q (some (.int y26)) μ25))) ∧ (((mI μ (hd 45 0) x1.toNatClampNeg) = 9) → (Cal K_MM_named (d - 1) 0 0 [.ref (hd 40 0), .int x1, .ref (hd 56 (px μ (hd 40 0) 12)), .int ((mI μ (hd 50 (px μ (hd 40 0) 12)) 6) - (1 : Int32)), .int 2] μ (fun r μ28 => ∃ y29, r = some (.int y29) ∧ Q (some (.int y29)) μ28))) ∧ (((mI μ (hd 45 0) x1.toNatClampNeg) = 10) → (Cal K_MM_named (d - 1) 0 0 [.ref (hd 40 0), .int x1, .ref (hd 55 (px μ (hd 40 0) 12)), .int ((mI μ (hd 50 (px μ (hd 40 0) 12)) 6) - (1 : Int32)), .int 3] μ (fun r μ31 => ∃ y32, r = some (.int y32) ∧ Q (some (.int y32)) μ31))) ∧ (((mI μ (hd 45 0) x1.toNatClampNeg) = 11) → (vp_in x1 401 ∧ (vp_in ((mI μ (hd 50 (px μ (hd 40 0) 12)) 6) - (1 : Int32)) 20 ∧ Q (some (.int 0)) (setI μ (hd 57 (px μ (hd 40 0) 12)) ((mI μ (hd 50 (px μ (hd 40 0) 12)) 6) - (1 : Int32)).toNatClampNeg ((mI μ (hd 42 0) x1.toNatClampNeg) - (13 : Int32)))))) ∧ (((mI μ (hd 45 0) x1.toNatClampNeg) = 12) → (Cal K_MM_look (d - 1) 0 0 [.ref (hd 40 0), .int x1, .int 1] μ (fun r μ37 => ∃ y38, r = some (.int y38) ∧ Q (some (.int y38)) μ37))) ∧ (((mI μ (hd 45 0) x1.toNatClampNeg) = 13) → (Cal K_MM_look (d - 1) 0 0 [.ref (hd 40 0), .int x1, .int 2] μ (fun r μ40 => ∃ y41, r = some (.int y41) ∧ Q (some (.int y41)) μ40))) ∧ (((mI μ (hd 45 0) x1.toNatClampNeg).toInt < 1 ∨ 13 < (mI μ (hd 45 0) x1.toNatClampNeg).toInt) → Q (some (.int 0)) μ)))) : Wx K_MM_errorOf d rc rs Q 0 [(0, .ref (hd 40 0)), (1, .int x1)] [] μ := by
  refine Wa.aload_n (j := 0) d_MM_errorOf_0 rfl ?_
  have hp1 := St.reading hS
  refine Wx.getR 11 12 d_MM_errorOf_1 f_MM_12 rfl fl_MM_39 (s_40 hS (by decide)) (hp1.1) ?_
  refine Wa.astore_n (i := 2) (L' := [(2, .ref (hd 50 (px μ (hd 40 0) 12))), (0, .ref (hd 40 0)), (1, .int x1)]) d_MM_errorOf_4 rfl (by decide) rfl ?_
  refine Wa.aload_n (j := 1) d_MM_errorOf_5 rfl ?_
  refine Wx.getR 11 7 d_MM_errorOf_6 f_MM_7 rfl fl_MM_26 (s_40 hS (by decide)) (r_40_7 hS (by decide)) ?_
  refine Wa.iload_n (j := 2) d_MM_errorOf_9 rfl ?_
  have hc2 := hF.1
  have hF := hF.2
  have hlhc2 := vp_in_lt hc2
  refine Wx.iald d_MM_errorOf_10 w_45 (s_45 hS (by decide)) hc2 ?_
  have k3 : ((mI μ (hd 45 0) x1.toNatClampNeg) = 1) → Wx K_MM_errorOf d rc rs Q 76 [(2, .ref (hd 50 (px μ (hd 40 0) 12))), (0, .ref (hd 40 0)), (1, .int x1)] [] μ := by
    intro hb
    have hF := hF.1 hb
    refine Wa.aload_n (j := 1) d_MM_errorOf_76 rfl ?_
    refine Wa.iload_n (j := 2) d_MM_errorOf_77 rfl ?_
    refine Wa.loc [] rfl ?_
    refine Wx.cVi (q := E_MM) (As := [.int x1]) 11 (d - 1) 0 0 _ d_MM_errorOf_78 mok_MM_newParish vl_MM_257 rfl rfl rfl (Nat.le_of_ble_eq_true rfl) (by omega) (Nat.zero_le _) (Nat.zero_le _) (s_40 hS (by decide)) hF (fun y5 μ4 hS hF => ?_)
    exact Wx.reti d_MM_errorOf_81 rfl hF
  have k6 : ((mI μ (hd 45 0) x1.toNatClampNeg) = 2) → Wx K_MM_errorOf d rc rs Q 82 [(2, .ref (hd 50 (px μ (hd 40 0) 12))), (0, .ref (hd 40 0)), (1, .int x1)] [] μ := by
    intro hb
    have hF := hF.2.1 hb
    refine Wa.aload_n (j := 1) d_MM_errorOf_82 rfl ?_
    refine Wa.iload_n (j := 2) d_MM_errorOf_83 rfl ?_
    refine Wa.loc [] rfl ?_
    refine Wx.cVi (q := E_MM) (As := [.int x1]) 11 (d - 1) 0 0 _ d_MM_errorOf_84 mok_MM_newNotice vl_MM_260 rfl rfl rfl (Nat.le_of_ble_eq_true rfl) (by omega) (Nat.zero_le _) (Nat.zero_le _) (s_40 hS (by decide)) hF (fun y8 μ7 hS hF => ?_)
    exact Wx.reti d_MM_errorOf_87 rfl hF
  have k9 : ((mI μ (hd 45 0) x1.toNatClampNeg) = 3) → Wx K_MM_errorOf d rc rs Q 88 [(2, .ref (hd 50 (px μ (hd 40 0) 12))), (0, .ref (hd 40 0)), (1, .int x1)] [] μ := by
    intro hb
    have hF := hF.2.2.1 hb
    refine Wa.aload_n (j := 1) d_MM_errorOf_88 rfl ?_
    refine Wa.iload_n (j := 2) d_MM_errorOf_89 rfl ?_
    refine Wa.loc [] rfl ?_
    refine Wx.cVi (q := E_MM) (As := [.int x1]) 11 (d - 1) 0 0 _ d_MM_errorOf_90 mok_MM_newRoad vl_MM_263 rfl rfl rfl (Nat.le_of_ble_eq_true rfl) (by omega) (Nat.zero_le _) (Nat.zero_le _) (s_40 hS (by decide)) hF (fun y11 μ10 hS hF => ?_)
    exact Wx.reti d_MM_errorOf_93 rfl hF
  have k12 : ((mI μ (hd 45 0) x1.toNatClampNeg) = 4) → Wx K_MM_errorOf d rc rs Q 94 [(2, .ref (hd 50 (px μ (hd 40 0) 12))), (0, .ref (hd 40 0)), (1, .int x1)] [] μ := by
    intro hb
    have hF := hF.2.2.2.1 hb
    refine Wa.aload_n (j := 1) d_MM_errorOf_94 rfl ?_
    refine Wa.iload_n (j := 2) d_MM_errorOf_95 rfl ?_
    refine Wa.aload_n (j := 0) d_MM_errorOf_96 rfl ?_
    refine Wx.getR 12 3 d_MM_errorOf_97 f_MP_3 rfl fl_MM_248 (s_50 hp1.2) (r_50_3 hp1.2) ?_
    refine Wa.aload_n (j := 0) d_MM_errorOf_100 rfl ?_
    refine Wx.getI 12 2 d_MM_errorOf_101 f_MP_2 fl_MM_74 w_50 (s_50 hp1.2) ?_
    refine Wa.iconst (v := 1) d_MM_errorOf_104 rfl ?_
    refine Wa.isub d_MM_errorOf_105 ?_
    refine Wa.iconst (v := 1) d_MM_errorOf_106 rfl ?_
    refine Wa.loc [] rfl ?_
    refine Wx.cVi (q := E_MM) (As := [.int x1, .ref (hd 51 (px μ (hd 40 0) 12)), .int ((mI μ (hd 50 (px μ (hd 40 0) 12)) 2) - (1 : Int32)), .int 1]) 11 (d - 1) 0 0 _ d_MM_errorOf_107 mok_MM_named vl_MM_244 rfl rfl rfl (Nat.le_of_ble_eq_true rfl) (by omega) (Nat.zero_le _) (Nat.zero_le _) (s_40 hS (by decide)) hF (fun y14 μ13 hS hF => ?_)
    exact Wx.reti d_MM_errorOf_110 rfl hF
  have k15 : ((mI μ (hd 45 0) x1.toNatClampNeg) = 5) → Wx K_MM_errorOf d rc rs Q 111 [(2, .ref (hd 50 (px μ (hd 40 0) 12))), (0, .ref (hd 40 0)), (1, .int x1)] [] μ := by
    intro hb
    have hF := hF.2.2.2.2.1 hb
    refine Wa.aload_n (j := 1) d_MM_errorOf_111 rfl ?_
    refine Wa.iload_n (j := 2) d_MM_errorOf_112 rfl ?_
    refine Wa.loc [] rfl ?_
    refine Wx.cVi (q := E_MM) (As := [.int x1]) 11 (d - 1) 0 0 _ d_MM_errorOf_113 mok_MM_whither vl_MM_266 rfl rfl rfl (Nat.le_of_ble_eq_true rfl) (by omega) (Nat.zero_le _) (Nat.zero_le _) (s_40 hS (by decide)) hF (fun y17 μ16 hS hF => ?_)
    exact Wx.reti d_MM_errorOf_116 rfl hF
  have k18 : ((mI μ (hd 45 0) x1.toNatClampNeg) = 6) → Wx K_MM_errorOf d rc rs Q 117 [(2, .ref (hd 50 (px μ (hd 40 0) 12))), (0, .ref (hd 40 0)), (1, .int x1)] [] μ := by
    intro hb
    have hF := hF.2.2.2.2.2.1 hb
    refine Wa.aload_n (j := 1) d_MM_errorOf_117 rfl ?_
    refine Wa.iload_n (j := 2) d_MM_errorOf_118 rfl ?_
    refine Wa.loc [] rfl ?_
    refine Wx.cVi (q := E_MM) (As := [.int x1]) 11 (d - 1) 0 0 _ d_MM_errorOf_119 mok_MM_daysOf vl_MM_268 rfl rfl rfl (Nat.le_of_ble_eq_true rfl) (by omega) (Nat.zero_le _) (Nat.zero_le _) (s_40 hS (by decide)) hF (fun y20 μ19 hS hF => ?_)
    exact Wx.reti d_MM_errorOf_122 rfl hF
  have k21 : ((mI μ (hd 45 0) x1.toNatClampNeg) = 7) → Wx K_MM_errorOf d rc rs Q 123 [(2, .ref (hd 50 (px μ (hd 40 0) 12))), (0, .ref (hd 40 0)), (1, .int x1)] [] μ := by
    intro hb
    have hF := hF.2.2.2.2.2.2.1 hb
    refine Wa.aload_n (j := 1) d_MM_errorOf_123 rfl ?_
    refine Wa.iload_n (j := 2) d_MM_errorOf_124 rfl ?_
    refine Wa.loc [] rfl ?_
    refine Wx.cVi (q := E_MM) (As := [.int x1]) 11 (d - 1) 0 0 _ d_MM_errorOf_125 mok_MM_order vl_MM_271 rfl rfl rfl (Nat.le_of_ble_eq_true rfl) (by omega) (Nat.zero_le _) (Nat.zero_le _) (s_40 hS (by decide)) hF (fun y23 μ22 hS hF => ?_)
    exact Wx.reti d_MM_errorOf_128 rfl hF
  have k24 : ((mI μ (hd 45 0) x1.toNatClampNeg) = 8) → Wx K_MM_errorOf d rc rs Q 129 [(2, .ref (hd 50 (px μ (hd 40 0) 12))), (0, .ref (hd 40 0)), (1, .int x1)] [] μ := by
    intro hb
    have hF := hF.2.2.2.2.2.2.2.1 hb
    refine Wa.aload_n (j := 1) d_MM_errorOf_129 rfl ?_
    refine Wa.iload_n (j := 2) d_MM_errorOf_130 rfl ?_
    refine Wa.aload_n (j := 0) d_MM_errorOf_131 rfl ?_
    refine Wx.getR 12 9 d_MM_errorOf_132 f_MP_9 rfl fl_MM_274 (s_50 hp1.2) (r_50_9 hp1.2) ?_
    refine Wa.aload_n (j := 0) d_MM_errorOf_135 rfl ?_
    refine Wx.getI 12 6 d_MM_errorOf_136 f_MP_6 fl_MM_232 w_50 (s_50 hp1.2) ?_
    refine Wa.iconst (v := 1) d_MM_errorOf_139 rfl ?_
    refine Wa.isub d_MM_errorOf_140 ?_
    refine Wa.iconst (v := 1) d_MM_errorOf_141 rfl ?_
    refine Wa.loc [] rfl ?_
    refine Wx.cVi (q := E_MM) (As := [.int x1, .ref (hd 55 (px μ (hd 40 0) 12)), .int ((mI μ (hd 50 (px μ (hd 40 0) 12)) 6) - (1 : Int32)), .int 1]) 11 (d - 1) 0 0 _ d_MM_errorOf_142 mok_MM_named vl_MM_244 rfl rfl rfl (Nat.le_of_ble_eq_true rfl) (by omega) (Nat.zero_le _) (Nat.zero_le _) (s_40 hS (by decide)) hF (fun y26 μ25 hS hF => ?_)
    exact Wx.reti d_MM_errorOf_145 rfl hF
  have k27 : ((mI μ (hd 45 0) x1.toNatClampNeg) = 9) → Wx K_MM_errorOf d rc rs Q 146 [(2, .ref (hd 50 (px μ (hd 40 0) 12))), (0, .ref (hd 40 0)), (1, .int x1)] [] μ := by
    intro hb
    have hF := hF.2.2.2.2.2.2.2.2.1 hb
    refine Wa.aload_n (j := 1) d_MM_errorOf_146 rfl ?_
    refine Wa.iload_n (j := 2) d_MM_errorOf_147 rfl ?_
    refine Wa.aload_n (j := 0) d_MM_errorOf_148 rfl ?_
    refine Wx.getR 12 10 d_MM_errorOf_149 f_MP_10 rfl fl_MM_277 (s_50 hp1.2) (r_50_10 hp1.2) ?_
    refine Wa.aload_n (j := 0) d_MM_errorOf_152 rfl ?_
    refine Wx.getI 12 6 d_MM_errorOf_153 f_MP_6 fl_MM_232 w_50 (s_50 hp1.2) ?_
    refine Wa.iconst (v := 1) d_MM_errorOf_156 rfl ?_
    refine Wa.isub d_MM_errorOf_157 ?_
    refine Wa.iconst (v := 2) d_MM_errorOf_158 rfl ?_
    refine Wa.loc [] rfl ?_
    refine Wx.cVi (q := E_MM) (As := [.int x1, .ref (hd 56 (px μ (hd 40 0) 12)), .int ((mI μ (hd 50 (px μ (hd 40 0) 12)) 6) - (1 : Int32)), .int 2]) 11 (d - 1) 0 0 _ d_MM_errorOf_159 mok_MM_named vl_MM_244 rfl rfl rfl (Nat.le_of_ble_eq_true rfl) (by omega) (Nat.zero_le _) (Nat.zero_le _) (s_40 hS (by decide)) hF (fun y29 μ28 hS hF => ?_)
    exact Wx.reti d_MM_errorOf_162 rfl hF
  have k30 : ((mI μ (hd 45 0) x1.toNatClampNeg) = 10) → Wx K_MM_errorOf d rc rs Q 163 [(2, .ref (hd 50 (px μ (hd 40 0) 12))), (0, .ref (hd 40 0)), (1, .int x1)] [] μ := by
    intro hb
    have hF := hF.2.2.2.2.2.2.2.2.2.1 hb
    refine Wa.aload_n (j := 1) d_MM_errorOf_163 rfl ?_
    refine Wa.iload_n (j := 2) d_MM_errorOf_164 rfl ?_
    refine Wa.aload_n (j := 0) d_MM_errorOf_165 rfl ?_
    refine Wx.getR 12 9 d_MM_errorOf_166 f_MP_9 rfl fl_MM_274 (s_50 hp1.2) (r_50_9 hp1.2) ?_
    refine Wa.aload_n (j := 0) d_MM_errorOf_169 rfl ?_
    refine Wx.getI 12 6 d_MM_errorOf_170 f_MP_6 fl_MM_232 w_50 (s_50 hp1.2) ?_
    refine Wa.iconst (v := 1) d_MM_errorOf_173 rfl ?_
    refine Wa.isub d_MM_errorOf_174 ?_
    refine Wa.iconst (v := 3) d_MM_errorOf_175 rfl ?_
    refine Wa.loc [] rfl ?_
    refine Wx.cVi (q := E_MM) (As := [.int x1, .ref (hd 55 (px μ (hd 40 0) 12)), .int ((mI μ (hd 50 (px μ (hd 40 0) 12)) 6) - (1 : Int32)), .int 3]) 11 (d - 1) 0 0 _ d_MM_errorOf_176 mok_MM_named vl_MM_244 rfl rfl rfl (Nat.le_of_ble_eq_true rfl) (by omega) (Nat.zero_le _) (Nat.zero_le _) (s_40 hS (by decide)) hF (fun y32 μ31 hS hF => ?_)
    exact Wx.reti d_MM_errorOf_179 rfl hF
  have k33 : ((mI μ (hd 45 0) x1.toNatClampNeg) = 11) → Wx K_MM_errorOf d rc rs Q 180 [(2, .ref (hd 50 (px μ (hd 40 0) 12))), (0, .ref (hd 40 0)), (1, .int x1)] [] μ := by
    intro hb
    have hF := hF.2.2.2.2.2.2.2.2.2.2.1 hb
    refine Wa.aload_n (j := 0) d_MM_errorOf_180 rfl ?_
    refine Wx.getR 12 11 d_MM_errorOf_181 f_MP_11 rfl fl_MM_280 (s_50 hp1.2) (r_50_11 hp1.2) ?_
    refine Wa.aload_n (j := 0) d_MM_errorOf_184 rfl ?_
    refine Wx.getI 12 6 d_MM_errorOf_185 f_MP_6 fl_MM_232 w_50 (s_50 hp1.2) ?_
    refine Wa.iconst (v := 1) d_MM_errorOf_188 rfl ?_
    refine Wa.isub d_MM_errorOf_189 ?_
    refine Wa.aload_n (j := 1) d_MM_errorOf_190 rfl ?_
    refine Wx.getR 11 4 d_MM_errorOf_191 f_MM_4 rfl fl_MM_17 (s_40 hS (by decide)) (r_40_4 hS (by decide)) ?_
    refine Wa.iload_n (j := 2) d_MM_errorOf_194 rfl ?_
    have hc34 := hF.1
    have hF := hF.2
    have hlhc34 := vp_in_lt hc34
    refine Wx.iald d_MM_errorOf_195 w_42 (s_42 hS (by decide)) hc34 ?_
    refine Wa.bipush (v := 13) d_MM_errorOf_196 rfl ?_
    refine Wa.isub d_MM_errorOf_198 ?_
    have hc35 := hF.1
    have hF := hF.2
    have hlhc35 := vp_in_lt hc35
    refine Wa.iast d_MM_errorOf_199 w_57 (s_57 hp1.2) hc35 ?_
    refine Wa.iconst (v := 0) d_MM_errorOf_200 rfl ?_
    exact Wx.reti d_MM_errorOf_201 rfl hF
  have k36 : ((mI μ (hd 45 0) x1.toNatClampNeg) = 12) → Wx K_MM_errorOf d rc rs Q 202 [(2, .ref (hd 50 (px μ (hd 40 0) 12))), (0, .ref (hd 40 0)), (1, .int x1)] [] μ := by
    intro hb
    have hF := hF.2.2.2.2.2.2.2.2.2.2.2.1 hb
    refine Wa.aload_n (j := 1) d_MM_errorOf_202 rfl ?_
    refine Wa.iload_n (j := 2) d_MM_errorOf_203 rfl ?_
    refine Wa.iconst (v := 1) d_MM_errorOf_204 rfl ?_
    refine Wa.loc [] rfl ?_
    refine Wx.cVi (q := E_MM) (As := [.int x1, .int 1]) 11 (d - 1) 0 0 _ d_MM_errorOf_205 mok_MM_look vl_MM_238 rfl rfl rfl (Nat.le_of_ble_eq_true rfl) (by omega) (Nat.zero_le _) (Nat.zero_le _) (s_40 hS (by decide)) hF (fun y38 μ37 hS hF => ?_)
    exact Wx.reti d_MM_errorOf_208 rfl hF
  have k39 : ((mI μ (hd 45 0) x1.toNatClampNeg) = 13) → Wx K_MM_errorOf d rc rs Q 209 [(2, .ref (hd 50 (px μ (hd 40 0) 12))), (0, .ref (hd 40 0)), (1, .int x1)] [] μ := by
    intro hb
    have hF := hF.2.2.2.2.2.2.2.2.2.2.2.2.1 hb
    refine Wa.aload_n (j := 1) d_MM_errorOf_209 rfl ?_
    refine Wa.iload_n (j := 2) d_MM_errorOf_210 rfl ?_
    refine Wa.iconst (v := 2) d_MM_errorOf_211 rfl ?_
    refine Wa.loc [] rfl ?_
    refine Wx.cVi (q := E_MM) (As := [.int x1, .int 2]) 11 (d - 1) 0 0 _ d_MM_errorOf_212 mok_MM_look vl_MM_238 rfl rfl rfl (Nat.le_of_ble_eq_true rfl) (by omega) (Nat.zero_le _) (Nat.zero_le _) (s_40 hS (by decide)) hF (fun y41 μ40 hS hF => ?_)
    exact Wx.reti d_MM_errorOf_215 rfl hF
  have k42 : ((mI μ (hd 45 0) x1.toNatClampNeg).toInt < 1 ∨ 13 < (mI μ (hd 45 0) x1.toNatClampNeg).toInt) → Wx K_MM_errorOf d rc rs Q 216 [(2, .ref (hd 50 (px μ (hd 40 0) 12))), (0, .ref (hd 40 0)), (1, .int x1)] [] μ := by
    intro hb
    have hF := hF.2.2.2.2.2.2.2.2.2.2.2.2.2 hb
    refine Wa.iconst (v := 0) d_MM_errorOf_216 rfl ?_
    exact Wx.reti d_MM_errorOf_217 rfl hF
  rcases sw_1_13 (mI μ (hd 45 0) x1.toNatClampNeg) with hb | hb | hb | hb | hb | hb | hb | hb | hb | hb | hb | hb | hb | hb | hb
  · exact Wa.tabOut 216 d_MM_errorOf_11 (Or.inl hb) (by decide) (k42 (Or.inl hb))
  · exact Wa.tabOut 216 d_MM_errorOf_11 (Or.inr hb) (by decide) (k42 (Or.inr hb))
  · exact Wa.tabIn 76 d_MM_errorOf_11 (by rw [hb]; decide) (by rw [hb]; decide) (by rw [hb]; rfl) (by decide) (k3 hb)
  · exact Wa.tabIn 82 d_MM_errorOf_11 (by rw [hb]; decide) (by rw [hb]; decide) (by rw [hb]; rfl) (by decide) (k6 hb)
  · exact Wa.tabIn 88 d_MM_errorOf_11 (by rw [hb]; decide) (by rw [hb]; decide) (by rw [hb]; rfl) (by decide) (k9 hb)
  · exact Wa.tabIn 94 d_MM_errorOf_11 (by rw [hb]; decide) (by rw [hb]; decide) (by rw [hb]; rfl) (by decide) (k12 hb)
  · exact Wa.tabIn 111 d_MM_errorOf_11 (by rw [hb]; decide) (by rw [hb]; decide) (by rw [hb]; rfl) (by decide) (k15 hb)
  · exact Wa.tabIn 117 d_MM_errorOf_11 (by rw [hb]; decide) (by rw [hb]; decide) (by rw [hb]; rfl) (by decide) (k18 hb)
  · exact Wa.tabIn 123 d_MM_errorOf_11 (by rw [hb]; decide) (by rw [hb]; decide) (by rw [hb]; rfl) (by decide) (k21 hb)
  · exact Wa.tabIn 129 d_MM_errorOf_11 (by rw [hb]; decide) (by rw [hb]; decide) (by rw [hb]; rfl) (by decide) (k24 hb)
  · exact Wa.tabIn 146 d_MM_errorOf_11 (by rw [hb]; decide) (by rw [hb]; decide) (by rw [hb]; rfl) (by decide) (k27 hb)
  · exact Wa.tabIn 163 d_MM_errorOf_11 (by rw [hb]; decide) (by rw [hb]; decide) (by rw [hb]; rfl) (by decide) (k30 hb)
  · exact Wa.tabIn 180 d_MM_errorOf_11 (by rw [hb]; decide) (by rw [hb]; decide) (by rw [hb]; rfl) (by decide) (k33 hb)
  · exact Wa.tabIn 202 d_MM_errorOf_11 (by rw [hb]; decide) (by rw [hb]; decide) (by rw [hb]; rfl) (by decide) (k36 hb)
  · exact Wa.tabIn 209 d_MM_errorOf_11 (by rw [hb]; decide) (by rw [hb]; decide) (by rw [hb]; rfl) (by decide) (k39 hb)
theorem e_MM_errorOf {d rc rs : Nat} {Q : Option Value → Mu → Prop} {μ : Mu} {x1 : Int32} (hk : Wx K_MM_errorOf d rc rs (fun r μ' => St μ' ∧ Q r μ') 0 [(0, .ref (hd 40 0)), (1, .int x1)] [] μ) : Cal K_MM_errorOf d rc rs [.ref (hd 40 0), .int x1] μ Q := Cal.of (by decide +kernel) rfl rfl (Nat.le_of_ble_eq_true rfl) rfl hk
set_option maxHeartbeats 4000000 in
set_option maxRecDepth 20000 in
theorem g_MM_read_0 {d rc rs : Nat} {Q : Option Value → Mu → Prop} {μ : Mu}  (hD : 1 ≤ d)  (hS : St μ)
    (hF : (2 ≤ d ∧ 13 ≤ rc ∧ 1386 ≤ rs ∧ ∀ q1, FrP μ q1 → (Cal K_MM_cut (d - 1) 0 0 [.ref (hd 40 0)] (setR (newMP μ q1) (hd 40 0) 12 (hd 50 q1)) (fun r μ2 => r = none ∧ (Cal K_MM_isPlan (d - 1) 0 0 [.ref (hd 40 0)] (setI (setI μ2 (hd 40 0) 9 0) (hd 40 0) 10 0) (fun r μ3 => ∃ y4, r = some (.int y4) ∧ ((y4 = 0 → (vp_in (mI μ3 (hd 40 0) 9) 401 ∧ Q (some (.int 1)) (setI μ3 (hd 40 0) 3 (mI μ3 (hd 43 0) (mI μ3 (hd 40 0) 9).toNatClampNeg)))) ∧ (¬ y4 = 0 → Wx K_MM_read d (rc - 13) (rs - 1386) Q 57 [(0, .ref (hd 40 0)), (1, .int (mI μ3 (hd 40 0) 9))] [] (setI μ3 (hd 40 0) 9 0))))))))) : Wx K_MM_read d rc rs Q 0 [(0, .ref (hd 40 0))] [] μ := by
  refine Wa.aload_n (j := 0) d_MM_read_0 rfl ?_
  have hq0 := hF.1
  have hq1 := hF.2.1
  have hq2 := hF.2.2.1
  have hF := hF.2.2.2
  refine Wx.nMP hq0 d_MM_read_1 d_MM_read_4 d_MM_read_5 cl_MM_32 il_MM_34 hq1 hq2 (Nat.le_of_ble_eq_true rfl) hS (fun q1 hq hS hP => ?_)
  have hF := hF q1 hq
  refine Wx.putR 11 12 d_MM_read_8 f_MM_12 rfl ok_MM fl_MM_39 (Or.inl rfl) w_40 (s_40 hS (by decide)) ?_
  have hS : St (setR (newMP μ q1) (hd 40 0) 12 (hd 50 q1)) := St.setPlan12 (μ := (newMP μ q1)) hS hP
  refine Wa.aload_n (j := 0) d_MM_read_11 rfl ?_
  refine Wx.cVv (q := E_MM) (As := []) 11 (d - 1) 0 0 _ d_MM_read_12 mok_MM_cut vl_MM_283 rfl rfl rfl (Nat.le_of_ble_eq_true rfl) (by omega) (Nat.zero_le _) (Nat.zero_le _) (s_40 hS (by decide)) hF (fun μ2 hS hF => ?_)
  refine Wa.aload_n (j := 0) d_MM_read_15 rfl ?_
  refine Wa.iconst (v := 0) d_MM_read_16 rfl ?_
  refine Wx.putI 11 9 d_MM_read_17 f_MM_9 ok_MM fl_MM_127 (Or.inl rfl) w_40 (s_40 hS (by decide)) ?_
  refine Wa.aload_n (j := 0) d_MM_read_20 rfl ?_
  refine Wa.iconst (v := 0) d_MM_read_21 rfl ?_
  refine Wx.putI 11 10 d_MM_read_22 f_MM_10 ok_MM fl_MM_189 (Or.inl rfl) w_40 (s_40 hS (by decide)) ?_
  refine Wa.aload_n (j := 0) d_MM_read_25 rfl ?_
  refine Wx.cVi (q := E_MM) (As := []) 11 (d - 1) 0 0 _ d_MM_read_26 mok_MM_isPlan vl_MM_286 rfl rfl rfl (Nat.le_of_ble_eq_true rfl) (by omega) (Nat.zero_le _) (Nat.zero_le _) (s_40 hS (by decide)) hF (fun y4 μ3 hS hF => ?_)
  refine Wa.if_ne 47 d_MM_read_29 (by decide) (fun hb => ?_) (fun hb => ?_)
  · have hF := hF.2 hb
    refine Wa.aload_n (j := 0) d_MM_read_47 rfl ?_
    refine Wx.getI 11 9 d_MM_read_48 f_MM_9 fl_MM_127 w_40 (s_40 hS (by decide)) ?_
    refine Wa.istore_n (i := 1) (L' := [(1, .int (mI μ3 (hd 40 0) 9)), (0, .ref (hd 40 0))]) d_MM_read_51 rfl (by decide) rfl ?_
    refine Wa.aload_n (j := 1) d_MM_read_52 rfl ?_
    refine Wa.iconst (v := 0) d_MM_read_53 rfl ?_
    refine Wx.putI 11 9 d_MM_read_54 f_MM_9 ok_MM fl_MM_127 (Or.inl rfl) w_40 (s_40 hS (by decide)) ?_
    exact Wa.loc [1, 0] rfl hF
  · have hF := hF.1 hb
    refine Wa.aload_n (j := 0) d_MM_read_32 rfl ?_
    refine Wa.aload_n (j := 0) d_MM_read_33 rfl ?_
    refine Wx.getR 11 5 d_MM_read_34 f_MM_5 rfl fl_MM_20 (s_40 hS (by decide)) (r_40_5 hS (by decide)) ?_
    refine Wa.aload_n (j := 0) d_MM_read_37 rfl ?_
    refine Wx.getI 11 9 d_MM_read_38 f_MM_9 fl_MM_127 w_40 (s_40 hS (by decide)) ?_
    have hc5 := hF.1
    have hF := hF.2
    have hlhc5 := vp_in_lt hc5
    refine Wx.iald d_MM_read_41 w_43 (s_43 hS (by decide)) hc5 ?_
    refine Wx.putI 11 3 d_MM_read_42 f_MM_3 ok_MM fl_MM_13 (Or.inl rfl) w_40 (s_40 hS (by decide)) ?_
    refine Wa.iconst (v := 1) d_MM_read_45 rfl ?_
    exact Wx.reti d_MM_read_46 rfl hF
theorem e_MM_read {d rc rs : Nat} {Q : Option Value → Mu → Prop} {μ : Mu}  (hk : Wx K_MM_read d rc rs (fun r μ' => St μ' ∧ Q r μ') 0 [(0, .ref (hd 40 0))] [] μ) : Cal K_MM_read d rc rs [.ref (hd 40 0)] μ Q := Cal.of (by decide +kernel) rfl rfl (Nat.le_of_ble_eq_true rfl) rfl hk
set_option maxHeartbeats 4000000 in
set_option maxRecDepth 20000 in
theorem g_MM_read_57 {d rc rs : Nat} {Q : Option Value → Mu → Prop} {μ : Mu} {x1 : Int32} (hD : 1 ≤ d)  (hS : St μ)
    (hF : ((x1 ≤ (mI μ (hd 40 0) 9) → Wx K_MM_read d rc rs Q 111 [(0, .ref (hd 40 0)), (2, .int 0)] [] μ) ∧ (¬ x1 ≤ (mI μ (hd 40 0) 9) → (Cal K_MM_errorOf (d - 1) 0 0 [.ref (hd 40 0), .int (mI μ (hd 40 0) 9)] μ (fun r μ1 => ∃ y2, r = some (.int y2) ∧ ((y2 = 0 → Wx K_MM_read d rc rs Q 57 [(0, .ref (hd 40 0)), (1, .int x1)] [] (setI μ1 (hd 40 0) 9 ((mI μ1 (hd 40 0) 9) + (1 : Int32)))) ∧ (¬ y2 = 0 → (vp_in (mI μ1 (hd 40 0) 9) 401 ∧ Q (some (.int y2)) (setI μ1 (hd 40 0) 3 (mI μ1 (hd 43 0) (mI μ1 (hd 40 0) 9).toNatClampNeg)))))))))) : Wx K_MM_read d rc rs Q 57 [(0, .ref (hd 40 0)), (1, .int x1)] [] μ := by
  refine Wa.aload_n (j := 0) d_MM_read_57 rfl ?_
  refine Wx.getI 11 9 d_MM_read_58 f_MM_9 fl_MM_127 w_40 (s_40 hS (by decide)) ?_
  refine Wa.iload_n (j := 1) d_MM_read_61 rfl ?_
  refine Wa.icmp_ge 109 d_MM_read_62 (by decide) (fun hb => ?_) (fun hb => ?_)
  · have hF := hF.1 hb
    refine Wa.iconst (v := 0) d_MM_read_109 rfl ?_
    refine Wa.istore_n (i := 2) (L' := [(2, .int 0), (0, .ref (hd 40 0)), (1, .int x1)]) d_MM_read_110 rfl (by decide) rfl ?_
    exact Wa.loc [1, 0] rfl hF
  · have hF := hF.2 hb
    refine Wa.aload_n (j := 0) d_MM_read_65 rfl ?_
    refine Wa.aload_n (j := 0) d_MM_read_66 rfl ?_
    refine Wx.getI 11 9 d_MM_read_67 f_MM_9 fl_MM_127 w_40 (s_40 hS (by decide)) ?_
    refine Wx.cVi (q := E_MM) (As := [.int (mI μ (hd 40 0) 9)]) 11 (d - 1) 0 0 _ d_MM_read_70 mok_MM_errorOf vl_MM_289 rfl rfl rfl (Nat.le_of_ble_eq_true rfl) (by omega) (Nat.zero_le _) (Nat.zero_le _) (s_40 hS (by decide)) hF (fun y2 μ1 hS hF => ?_)
    refine Wa.istore_n (i := 2) (L' := [(2, .int y2), (0, .ref (hd 40 0)), (1, .int x1)]) d_MM_read_73 rfl (by decide) rfl ?_
    refine Wa.iload_n (j := 0) d_MM_read_74 rfl ?_
    refine Wa.if_ne 81 d_MM_read_75 (by decide) (fun hb => ?_) (fun hb => ?_)
    · have hF := hF.2 hb
      refine Wa.aload_n (j := 1) d_MM_read_81 rfl ?_
      refine Wa.aload_n (j := 1) d_MM_read_82 rfl ?_
      refine Wx.getR 11 5 d_MM_read_83 f_MM_5 rfl fl_MM_20 (s_40 hS (by decide)) (r_40_5 hS (by decide)) ?_
      refine Wa.aload_n (j := 1) d_MM_read_86 rfl ?_
      refine Wx.getI 11 9 d_MM_read_87 f_MM_9 fl_MM_127 w_40 (s_40 hS (by decide)) ?_
      have hc3 := hF.1
      have hF := hF.2
      have hlhc3 := vp_in_lt hc3
      refine Wx.iald d_MM_read_90 w_43 (s_43 hS (by decide)) hc3 ?_
      refine Wx.putI 11 3 d_MM_read_91 f_MM_3 ok_MM fl_MM_13 (Or.inl rfl) w_40 (s_40 hS (by decide)) ?_
      refine Wa.iload_n (j := 0) d_MM_read_94 rfl ?_
      exact Wx.reti d_MM_read_95 rfl hF
    · have hF := hF.1 hb
      refine Wa.goto 96 d_MM_read_78 (by decide) ?_
      refine Wa.aload_n (j := 1) d_MM_read_96 rfl ?_
      refine Wa.dup d_MM_read_97 rfl ?_
      refine Wx.getI 11 9 d_MM_read_98 f_MM_9 fl_MM_127 w_40 (s_40 hS (by decide)) ?_
      refine Wa.iconst (v := 1) d_MM_read_101 rfl ?_
      refine Wa.iadd d_MM_read_102 ?_
      refine Wx.putI 11 9 d_MM_read_103 f_MM_9 ok_MM fl_MM_127 (Or.inl rfl) w_40 (s_40 hS (by decide)) ?_
      refine Wa.goto 57 d_MM_read_106 (by decide) ?_
      exact Wa.loc [1, 2] rfl hF
set_option maxHeartbeats 4000000 in
set_option maxRecDepth 20000 in
theorem g_MM_read_111 {d rc rs : Nat} {Q : Option Value → Mu → Prop} {μ : Mu} {x2 : Int32} (hD : 1 ≤ d)  (hS : St μ)
    (hF : (((mI μ (hd 50 (px μ (hd 40 0) 12)) 18) ≤ x2 → Q (some (.int 0)) μ) ∧ (¬ (mI μ (hd 50 (px μ (hd 40 0) 12)) 18) ≤ x2 → (vp_in x2 400 ∧ (vp_in x2 400 ∧ (vp_in (mI μ (hd 62 (px μ (hd 40 0) 12)) x2.toNatClampNeg) 800 ∧ (vp_in (mI μ (hd 61 (px μ (hd 40 0) 12)) (mI μ (hd 62 (px μ (hd 40 0) 12)) x2.toNatClampNeg).toNatClampNeg) 401 ∧ (vp_in (mI μ (hd 62 (px μ (hd 40 0) 12)) x2.toNatClampNeg) 800 ∧ (∀ μ11 : Mu, μ11 = (setI μ (hd 61 (px μ (hd 40 0) 12)) (mI μ (hd 62 (px μ (hd 40 0) 12)) x2.toNatClampNeg).toNatClampNeg (mI μ (hd 46 0) (mI μ (hd 61 (px μ (hd 40 0) 12)) (mI μ (hd 62 (px μ (hd 40 0) 12)) x2.toNatClampNeg).toNatClampNeg).toNatClampNeg)) → Wx K_MM_read d rc rs Q 111 [(0, .ref (hd 40 0)), (2, .int (x2 + 1))] [] μ11))))))))) : Wx K_MM_read d rc rs Q 111 [(0, .ref (hd 40 0)), (2, .int x2)] [] μ := by
  refine Wa.iload_n (j := 1) d_MM_read_111 rfl ?_
  refine Wa.aload_n (j := 0) d_MM_read_112 rfl ?_
  have hp1 := St.reading hS
  refine Wx.getR 11 12 d_MM_read_113 f_MM_12 rfl fl_MM_39 (s_40 hS (by decide)) (hp1.1) ?_
  refine Wx.getI 12 18 d_MM_read_116 f_MP_18 fl_MM_195 w_50 (s_50 hp1.2) ?_
  refine Wa.icmp_ge 167 d_MM_read_119 (by decide) (fun hb => ?_) (fun hb => ?_)
  · have hF := hF.1 hb
    refine Wa.iconst (v := 0) d_MM_read_167 rfl ?_
    exact Wx.reti d_MM_read_168 rfl hF
  · have hF := hF.2 hb
    refine Wa.aload_n (j := 0) d_MM_read_122 rfl ?_
    have hp2 := St.reading hS
    refine Wx.getR 11 12 d_MM_read_123 f_MM_12 rfl fl_MM_39 (s_40 hS (by decide)) (hp2.1) ?_
    refine Wx.getR 12 15 d_MM_read_126 f_MP_15 rfl fl_MM_136 (s_50 hp2.2) (r_50_15 hp2.2) ?_
    refine Wa.aload_n (j := 0) d_MM_read_129 rfl ?_
    have hp3 := St.reading hS
    refine Wx.getR 11 12 d_MM_read_130 f_MM_12 rfl fl_MM_39 (s_40 hS (by decide)) (hp3.1) ?_
    refine Wx.getR 12 17 d_MM_read_133 f_MP_17 rfl fl_MM_192 (s_50 hp3.2) (r_50_17 hp3.2) ?_
    refine Wa.iload_n (j := 1) d_MM_read_136 rfl ?_
    have hc4 := hF.1
    have hF := hF.2
    have hlhc4 := vp_in_lt hc4
    refine Wx.iald d_MM_read_137 w_62 (s_62 hp3.2) hc4 ?_
    refine Wa.aload_n (j := 0) d_MM_read_138 rfl ?_
    refine Wx.getR 11 8 d_MM_read_139 f_MM_8 rfl fl_MM_29 (s_40 hS (by decide)) (r_40_8 hS (by decide)) ?_
    refine Wa.aload_n (j := 0) d_MM_read_142 rfl ?_
    have hp5 := St.reading hS
    refine Wx.getR 11 12 d_MM_read_143 f_MM_12 rfl fl_MM_39 (s_40 hS (by decide)) (hp5.1) ?_
    refine Wx.getR 12 15 d_MM_read_146 f_MP_15 rfl fl_MM_136 (s_50 hp5.2) (r_50_15 hp5.2) ?_
    refine Wa.aload_n (j := 0) d_MM_read_149 rfl ?_
    have hp6 := St.reading hS
    refine Wx.getR 11 12 d_MM_read_150 f_MM_12 rfl fl_MM_39 (s_40 hS (by decide)) (hp6.1) ?_
    refine Wx.getR 12 17 d_MM_read_153 f_MP_17 rfl fl_MM_192 (s_50 hp6.2) (r_50_17 hp6.2) ?_
    refine Wa.iload_n (j := 1) d_MM_read_156 rfl ?_
    have hc7 := hF.1
    have hF := hF.2
    have hlhc7 := vp_in_lt hc7
    refine Wx.iald d_MM_read_157 w_62 (s_62 hp6.2) hc7 ?_
    have hc8 := hF.1
    have hF := hF.2
    have hlhc8 := vp_in_lt hc8
    refine Wx.iald d_MM_read_158 w_61 (s_61 hp5.2) hc8 ?_
    have hc9 := hF.1
    have hF := hF.2
    have hlhc9 := vp_in_lt hc9
    refine Wx.iald d_MM_read_159 w_46 (s_46 hS (by decide)) hc9 ?_
    have hc10 := hF.1
    have hF := hF.2
    have hlhc10 := vp_in_lt hc10
    refine Wa.iast d_MM_read_160 w_61 (s_61 hp2.2) hc10 ?_
    suffices hh : ∀ μ11 : Mu, μ11 = (setI μ (hd 61 (px μ (hd 40 0) 12)) (mI μ (hd 62 (px μ (hd 40 0) 12)) x2.toNatClampNeg).toNatClampNeg (mI μ (hd 46 0) (mI μ (hd 61 (px μ (hd 40 0) 12)) (mI μ (hd 62 (px μ (hd 40 0) 12)) x2.toNatClampNeg).toNatClampNeg).toNatClampNeg)) → Wx K_MM_read d rc rs Q 161 [(0, .ref (hd 40 0)), (2, .int x2)] [] μ11 from hh _ rfl
    intro μ11 em
    have hF := hF μ11 em
    have hS : St μ11 := by rw [em]; exact hS
    refine Wa.iinc (i := 2) (j := 1) (v := (x2 + 1)) (L' := [(2, .int (x2 + 1)), (0, .ref (hd 40 0))]) d_MM_read_161 rfl rfl (by decide) rfl ?_
    refine Wa.goto 111 d_MM_read_164 (by decide) ?_
    exact Wa.loc [1, 0] rfl hF
set_option maxHeartbeats 4000000 in
set_option maxRecDepth 20000 in
theorem g_MM_feed_0 {d rc rs : Nat} {Q : Option Value → Mu → Prop} {μ : Mu} {x1 : Int32} {x2 : Int32} {x3 : Int32} {x4 : Int32} {x5 : Int32} (hD : 1 ≤ d)  (hS : St μ)
    (hF : (((mI (setI μ (hd 40 0) 0 0) (hd 40 0) 2) ≤ 1980 → (1 ≤ rc ∧ 5 ≤ rs ∧ ∀ q1, mS (setI μ (hd 40 0) 0 0) (hd 85 q1) = (0, 0) → (vp_in (0 : Int32) 5 ∧ (vp_in (1 : Int32) 5 ∧ (vp_in (2 : Int32) 5 ∧ (vp_in (3 : Int32) 5 ∧ (∀ μ6 : Mu, μ6 = (setI (setI (setI (setI (mkA (setI μ (hd 40 0) 0 0) (hd 85 q1) (2, 5)) (hd 85 q1) (0 : Int32).toNatClampNeg x1) (hd 85 q1) (1 : Int32).toNatClampNeg x2) (hd 85 q1) (2 : Int32).toNatClampNeg x3) (hd 85 q1) (3 : Int32).toNatClampNeg x4) → (vp_in (4 : Int32) 5 ∧ Wx K_MM_feed d (rc - 1) (rs - 5) Q 51 [(0, .ref (hd 40 0)), (6, .ref (hd 85 q1)), (7, .int 0)] [] (setI μ6 (hd 85 q1) (4 : Int32).toNatClampNeg x5))))))))) ∧ (¬ (mI (setI μ (hd 40 0) 0 0) (hd 40 0) 2) ≤ 1980 → (Cal K_MM_no (d - 1) 0 0 [.ref (hd 40 0), .int 1] (setI μ (hd 40 0) 0 0) (fun r μ9 => ∃ y10, r = some (.int y10) ∧ Q (some (.int y10)) μ9))))) : Wx K_MM_feed d rc rs Q 0 [(0, .ref (hd 40 0)), (1, .int x1), (2, .int x2), (3, .int x3), (4, .int x4), (5, .int x5)] [] μ := by
  refine Wa.aload_n (j := 0) d_MM_feed_0 rfl ?_
  refine Wa.iconst (v := 0) d_MM_feed_1 rfl ?_
  refine Wx.putI 11 0 d_MM_feed_2 f_MM_0 ok_MM fl_MM_57 (Or.inl rfl) w_40 (s_40 hS (by decide)) ?_
  refine Wa.aload_n (j := 0) d_MM_feed_5 rfl ?_
  refine Wx.getI 11 2 d_MM_feed_6 f_MM_2 fl_MM_89 w_40 (s_40 hS (by decide)) ?_
  refine Wa.sipush (v := 1980) d_MM_feed_9 rfl ?_
  refine Wa.icmp_le 21 d_MM_feed_12 (by decide) (fun hb => ?_) (fun hb => ?_)
  · have hF := hF.1 hb
    refine Wa.iconst (v := 5) d_MM_feed_21 rfl ?_
    have hq1 := hF.1
    have hq2 := hF.2.1
    have hF := hF.2.2
    obtain ⟨q1, hq, hN⟩ := St.fr85 hS
    have hF := hF q1 hq
    refine Wa.newarr (hd 85 q1) 2 5 d_MM_feed_22 ac_int rfl (by decide) (by decide) (by decide) (by decide) hq1 hq2 hq w_85 ?_
    have hS : St (mkA (setI μ (hd 40 0) 0 0) (hd 85 q1) (2, 5)) := hN (setI μ (hd 40 0) 0 0) rfl rfl
    refine Wa.dup d_MM_feed_24 rfl ?_
    refine Wa.iconst (v := 0) d_MM_feed_25 rfl ?_
    refine Wa.iload_n (j := 1) d_MM_feed_26 rfl ?_
    have hc2 := hF.1
    have hF := hF.2
    have hlhc2 := vp_in_lt hc2
    refine Wa.iast d_MM_feed_27 w_85 (alloc_S) hc2 ?_
    refine Wa.dup d_MM_feed_28 rfl ?_
    refine Wa.iconst (v := 1) d_MM_feed_29 rfl ?_
    refine Wa.iload_n (j := 2) d_MM_feed_30 rfl ?_
    have hc3 := hF.1
    have hF := hF.2
    have hlhc3 := vp_in_lt hc3
    refine Wa.iast d_MM_feed_31 w_85 (alloc_S) hc3 ?_
    refine Wa.dup d_MM_feed_32 rfl ?_
    refine Wa.iconst (v := 2) d_MM_feed_33 rfl ?_
    refine Wa.iload_n (j := 3) d_MM_feed_34 rfl ?_
    have hc4 := hF.1
    have hF := hF.2
    have hlhc4 := vp_in_lt hc4
    refine Wa.iast d_MM_feed_35 w_85 (alloc_S) hc4 ?_
    refine Wa.dup d_MM_feed_36 rfl ?_
    refine Wa.iconst (v := 3) d_MM_feed_37 rfl ?_
    refine Wa.iload (j := 4) d_MM_feed_38 rfl ?_
    have hc5 := hF.1
    have hF := hF.2
    have hlhc5 := vp_in_lt hc5
    refine Wa.iast d_MM_feed_40 w_85 (alloc_S) hc5 ?_
    suffices hh : ∀ μ6 : Mu, μ6 = (setI (setI (setI (setI (mkA (setI μ (hd 40 0) 0 0) (hd 85 q1) (2, 5)) (hd 85 q1) (0 : Int32).toNatClampNeg x1) (hd 85 q1) (1 : Int32).toNatClampNeg x2) (hd 85 q1) (2 : Int32).toNatClampNeg x3) (hd 85 q1) (3 : Int32).toNatClampNeg x4) → Wx K_MM_feed d (rc - 1) (rs - 5) Q 41 [(0, .ref (hd 40 0)), (1, .int x1), (2, .int x2), (3, .int x3), (4, .int x4), (5, .int x5)] [.ref (hd 85 q1)] μ6 from hh _ rfl
    intro μ6 em
    have hF := hF μ6 em
    have hS : St μ6 := by rw [em]; exact hS
    have hr7 : mS μ6 (hd 85 q1) = (2, 5) := by rw [em]; exact alloc_S
    refine Wa.dup d_MM_feed_41 rfl ?_
    refine Wa.iconst (v := 4) d_MM_feed_42 rfl ?_
    refine Wa.iload (j := 5) d_MM_feed_43 rfl ?_
    have hc8 := hF.1
    have hF := hF.2
    have hlhc8 := vp_in_lt hc8
    refine Wa.iast d_MM_feed_45 w_85 (hr7) hc8 ?_
    refine Wa.astore (i := 6) (L' := [(6, .ref (hd 85 q1)), (0, .ref (hd 40 0)), (1, .int x1), (2, .int x2), (3, .int x3), (4, .int x4), (5, .int x5)]) d_MM_feed_46 (by decide) rfl ?_
    refine Wa.iconst (v := 0) d_MM_feed_48 rfl ?_
    refine Wa.istore (i := 7) (L' := [(7, .int 0), (6, .ref (hd 85 q1)), (0, .ref (hd 40 0)), (1, .int x1), (2, .int x2), (3, .int x3), (4, .int x4), (5, .int x5)]) d_MM_feed_49 (by decide) rfl ?_
    exact Wa.loc [2, 1, 0] rfl hF
  · have hF := hF.2 hb
    refine Wa.aload_n (j := 0) d_MM_feed_15 rfl ?_
    refine Wa.iconst (v := 1) d_MM_feed_16 rfl ?_
    refine Wx.cVi (q := E_MM) (As := [.int 1]) 11 (d - 1) 0 0 _ d_MM_feed_17 mok_MM_no vl_MM_292 rfl rfl rfl (Nat.le_of_ble_eq_true rfl) (by omega) (Nat.zero_le _) (Nat.zero_le _) (s_40 hS (by decide)) hF (fun y10 μ9 hS hF => ?_)
    exact Wx.reti d_MM_feed_20 rfl hF
theorem e_MM_feed {d rc rs : Nat} {Q : Option Value → Mu → Prop} {μ : Mu} {x1 : Int32} {x2 : Int32} {x3 : Int32} {x4 : Int32} {x5 : Int32} (hk : Wx K_MM_feed d rc rs (fun r μ' => St μ' ∧ Q r μ') 0 [(0, .ref (hd 40 0)), (1, .int x1), (2, .int x2), (3, .int x3), (4, .int x4), (5, .int x5)] [] μ) : Cal K_MM_feed d rc rs [.ref (hd 40 0), .int x1, .int x2, .int x3, .int x4, .int x5] μ Q := Cal.of (by decide +kernel) rfl rfl (Nat.le_of_ble_eq_true rfl) rfl hk
set_option maxHeartbeats 4000000 in
set_option maxRecDepth 20000 in
theorem g_MM_feed_51 {d rc rs : Nat} {Q : Option Value → Mu → Prop} {μ : Mu} {a6 n6 : Nat} {x7 : Int32} (hD : 1 ≤ d) (h6 : mS μ a6 = (2, n6)) (w6 : rwN a6) (hS : St μ)
    (hF : ((20 ≤ x7 → Q (some (.int (mI (setI μ (hd 40 0) 2 ((mI μ (hd 40 0) 2) + (20 : Int32))) (hd 40 0) 2))) (setI μ (hd 40 0) 2 ((mI μ (hd 40 0) 2) + (20 : Int32)))) ∧ (¬ 20 ≤ x7 → (¬ (4 : Int32) = 0 ∧ (vp_in (x7 / (4 : Int32)) n6 ∧ (¬ (4 : Int32) = 0 ∧ (vp_in ((mI μ (hd 40 0) 2) + x7) 2000 ∧ Wx K_MM_feed d rc rs Q 51 [(0, .ref (hd 40 0)), (6, .ref a6), (7, .int (x7 + 1))] [] (setI μ (hd 41 0) ((mI μ (hd 40 0) 2) + x7).toNatClampNeg (((mI μ a6 (x7 / (4 : Int32)).toNatClampNeg) >>> (((24 : Int32) - ((8 : Int32) * (x7 - x7 / (4 : Int32) * (4 : Int32)))) &&& 31)) &&& (255 : Int32)))))))))) : Wx K_MM_feed d rc rs Q 51 [(0, .ref (hd 40 0)), (6, .ref a6), (7, .int x7)] [] μ := by
  refine Wa.iload (j := 2) d_MM_feed_51 rfl ?_
  refine Wa.bipush (v := 20) d_MM_feed_53 rfl ?_
  refine Wa.icmp_ge 98 d_MM_feed_55 (by decide) (fun hb => ?_) (fun hb => ?_)
  · have hF := hF.1 hb
    refine Wa.aload_n (j := 0) d_MM_feed_98 rfl ?_
    refine Wa.dup d_MM_feed_99 rfl ?_
    refine Wx.getI 11 2 d_MM_feed_100 f_MM_2 fl_MM_89 w_40 (s_40 hS (by decide)) ?_
    refine Wa.bipush (v := 20) d_MM_feed_103 rfl ?_
    refine Wa.iadd d_MM_feed_105 ?_
    refine Wx.putI 11 2 d_MM_feed_106 f_MM_2 ok_MM fl_MM_89 (Or.inl rfl) w_40 (s_40 hS (by decide)) ?_
    refine Wa.aload_n (j := 0) d_MM_feed_109 rfl ?_
    refine Wx.getI 11 2 d_MM_feed_110 f_MM_2 fl_MM_89 w_40 (s_40 hS (by decide)) ?_
    exact Wx.reti d_MM_feed_113 rfl hF
  · have hF := hF.2 hb
    refine Wa.aload_n (j := 0) d_MM_feed_58 rfl ?_
    refine Wx.getR 11 1 d_MM_feed_59 f_MM_1 rfl fl_MM_9 (s_40 hS (by decide)) (r_40_1 hS (by decide)) ?_
    refine Wa.aload_n (j := 0) d_MM_feed_62 rfl ?_
    refine Wx.getI 11 2 d_MM_feed_63 f_MM_2 fl_MM_89 w_40 (s_40 hS (by decide)) ?_
    refine Wa.iload (j := 2) d_MM_feed_66 rfl ?_
    refine Wa.iadd d_MM_feed_68 ?_
    refine Wa.aload (j := 1) d_MM_feed_69 rfl ?_
    refine Wa.iload (j := 2) d_MM_feed_71 rfl ?_
    refine Wa.iconst (v := 4) d_MM_feed_73 rfl ?_
    have hc1 := hF.1
    have hF := hF.2
    refine Wa.idiv d_MM_feed_74 hc1 ?_
    have hc2 := hF.1
    have hF := hF.2
    have hlhc2 := vp_in_lt hc2
    refine Wx.iald d_MM_feed_75 w6 (h6) hc2 ?_
    refine Wa.bipush (v := 24) d_MM_feed_76 rfl ?_
    refine Wa.bipush (v := 8) d_MM_feed_78 rfl ?_
    refine Wa.iload (j := 2) d_MM_feed_80 rfl ?_
    refine Wa.iconst (v := 4) d_MM_feed_82 rfl ?_
    have hc3 := hF.1
    have hF := hF.2
    refine Wa.irem d_MM_feed_83 hc3 ?_
    refine Wa.imul d_MM_feed_84 ?_
    refine Wa.isub d_MM_feed_85 ?_
    refine Wa.ishr d_MM_feed_86 ?_
    refine Wa.sipush (v := 255) d_MM_feed_87 rfl ?_
    refine Wa.iand d_MM_feed_90 ?_
    have hc4 := hF.1
    have hF := hF.2
    have hlhc4 := vp_in_lt hc4
    refine Wa.iast d_MM_feed_91 w_41 (s_41 hS (by decide)) hc4 ?_
    refine Wa.iinc (i := 7) (j := 2) (v := (x7 + 1)) (L' := [(7, .int (x7 + 1)), (0, .ref (hd 40 0)), (6, .ref a6)]) d_MM_feed_92 rfl rfl (by decide) rfl ?_
    refine Wa.goto 51 d_MM_feed_95 (by decide) ?_
    exact Wa.loc [1, 2, 0] rfl hF
set_option maxHeartbeats 4000000 in
set_option maxRecDepth 20000 in
theorem g_MM_trim_0 {d rc rs : Nat} {Q : Option Value → Mu → Prop} {μ : Mu} {x1 : Int32} (hD : 1 ≤ d)  (hS : St μ)
    (hF : (Cal K_MM_isIn (d - 1) 0 0 [.int x1, .int 0, .int (mI (setI μ (hd 40 0) 0 0) (hd 40 0) 2)] (setI μ (hd 40 0) 0 0) (fun r μ1 => ∃ y2, r = some (.int y2) ∧ ((y2 = 0 → (Cal K_MM_no (d - 1) 0 0 [.ref (hd 40 0), .int 1] μ1 (fun r μ3 => ∃ y4, r = some (.int y4) ∧ Q (some (.int y4)) μ3))) ∧ (¬ y2 = 0 → Q (some (.int x1)) (setI μ1 (hd 40 0) 2 x1)))))) : Wx K_MM_trim d rc rs Q 0 [(0, .ref (hd 40 0)), (1, .int x1)] [] μ := by
  refine Wa.aload_n (j := 0) d_MM_trim_0 rfl ?_
  refine Wa.iconst (v := 0) d_MM_trim_1 rfl ?_
  refine Wx.putI 11 0 d_MM_trim_2 f_MM_0 ok_MM fl_MM_57 (Or.inl rfl) w_40 (s_40 hS (by decide)) ?_
  refine Wa.iload_n (j := 1) d_MM_trim_5 rfl ?_
  refine Wa.iconst (v := 0) d_MM_trim_6 rfl ?_
  refine Wa.aload_n (j := 0) d_MM_trim_7 rfl ?_
  refine Wx.getI 11 2 d_MM_trim_8 f_MM_2 fl_MM_89 w_40 (s_40 hS (by decide)) ?_
  refine Wx.cSi (As := [.int x1, .int 0, .int (mI (setI μ (hd 40 0) 0 0) (hd 40 0) 2)]) (d - 1) 0 0 _ d_MM_trim_11 mok_MM_isIn sl_MM_63 rfl rfl (Nat.le_of_ble_eq_true rfl) (by omega) (Nat.zero_le _) (Nat.zero_le _) hF (fun y2 μ1 hS hF => ?_)
  refine Wa.if_ne 23 d_MM_trim_14 (by decide) (fun hb => ?_) (fun hb => ?_)
  · have hF := hF.2 hb
    refine Wa.aload_n (j := 0) d_MM_trim_23 rfl ?_
    refine Wa.iload_n (j := 1) d_MM_trim_24 rfl ?_
    refine Wx.putI 11 2 d_MM_trim_25 f_MM_2 ok_MM fl_MM_89 (Or.inl rfl) w_40 (s_40 hS (by decide)) ?_
    refine Wa.iload_n (j := 1) d_MM_trim_28 rfl ?_
    exact Wx.reti d_MM_trim_29 rfl hF
  · have hF := hF.1 hb
    refine Wa.aload_n (j := 0) d_MM_trim_17 rfl ?_
    refine Wa.iconst (v := 1) d_MM_trim_18 rfl ?_
    refine Wx.cVi (q := E_MM) (As := [.int 1]) 11 (d - 1) 0 0 _ d_MM_trim_19 mok_MM_no vl_MM_292 rfl rfl rfl (Nat.le_of_ble_eq_true rfl) (by omega) (Nat.zero_le _) (Nat.zero_le _) (s_40 hS (by decide)) hF (fun y4 μ3 hS hF => ?_)
    exact Wx.reti d_MM_trim_22 rfl hF
theorem e_MM_trim {d rc rs : Nat} {Q : Option Value → Mu → Prop} {μ : Mu} {x1 : Int32} (hk : Wx K_MM_trim d rc rs (fun r μ' => St μ' ∧ Q r μ') 0 [(0, .ref (hd 40 0)), (1, .int x1)] [] μ) : Cal K_MM_trim d rc rs [.ref (hd 40 0), .int x1] μ Q := Cal.of (by decide +kernel) rfl rfl (Nat.le_of_ble_eq_true rfl) rfl hk
set_option maxHeartbeats 4000000 in
set_option maxRecDepth 20000 in
theorem g_MM_teach_0 {d rc rs : Nat} {Q : Option Value → Mu → Prop} {μ : Mu}  (hD : 1 ≤ d)  (hS : St μ)
    (hF : (13 ≤ rc ∧ 1386 ≤ rs ∧ Cal K_MM_read (d - 1) 13 1386 [.ref (hd 40 0)] (setI (setI μ (hd 40 0) 0 0) (hd 40 0) 3 (-1)) (fun r μ1 => ∃ y2, r = some (.int y2) ∧ ((y2 ≤ 0 → (Cal K_MS_begin (d - 1) 0 0 [.ref (hd 65 0)] (setR (setI μ1 (hd 40 0) 2 0) (hd 40 0) 11 (hd 50 (px μ1 (hd 40 0) 12))) (fun r μ4 => r = none ∧ Q (some (.int 0)) μ4))) ∧ (¬ y2 ≤ 0 → Q (some (.int y2)) (setI μ1 (hd 40 0) 2 0)))))) : Wx K_MM_teach d rc rs Q 0 [(0, .ref (hd 40 0))] [] μ := by
  refine Wa.aload_n (j := 0) d_MM_teach_0 rfl ?_
  refine Wa.iconst (v := 0) d_MM_teach_1 rfl ?_
  refine Wx.putI 11 0 d_MM_teach_2 f_MM_0 ok_MM fl_MM_57 (Or.inl rfl) w_40 (s_40 hS (by decide)) ?_
  refine Wa.aload_n (j := 0) d_MM_teach_5 rfl ?_
  refine Wa.iconst (v := (-1)) d_MM_teach_6 rfl ?_
  refine Wx.putI 11 3 d_MM_teach_7 f_MM_3 ok_MM fl_MM_13 (Or.inl rfl) w_40 (s_40 hS (by decide)) ?_
  refine Wa.aload_n (j := 0) d_MM_teach_10 rfl ?_
  have hq1 := hF.1
  have hq2 := hF.2.1
  have hF := hF.2.2
  refine Wx.cVi (q := E_MM) (As := []) 11 (d - 1) 13 1386 _ d_MM_teach_11 mok_MM_read vl_MM_295 rfl rfl rfl (Nat.le_of_ble_eq_true rfl) (by omega) hq1 hq2 (s_40 hS (by decide)) hF (fun y2 μ1 hS hF => ?_)
  refine Wa.istore_n (i := 1) (L' := [(1, .int y2), (0, .ref (hd 40 0))]) d_MM_teach_14 rfl (by decide) rfl ?_
  refine Wa.aload_n (j := 1) d_MM_teach_15 rfl ?_
  refine Wa.iconst (v := 0) d_MM_teach_16 rfl ?_
  refine Wx.putI 11 2 d_MM_teach_17 f_MM_2 ok_MM fl_MM_89 (Or.inl rfl) w_40 (s_40 hS (by decide)) ?_
  refine Wa.iload_n (j := 0) d_MM_teach_20 rfl ?_
  refine Wa.if_le 26 d_MM_teach_21 (by decide) (fun hb => ?_) (fun hb => ?_)
  · have hF := hF.1 hb
    refine Wa.aload_n (j := 1) d_MM_teach_26 rfl ?_
    refine Wa.aload_n (j := 1) d_MM_teach_27 rfl ?_
    have hp3 := St.reading hS
    refine Wx.getR 11 12 d_MM_teach_28 f_MM_12 rfl fl_MM_39 (s_40 hS (by decide)) (hp3.1) ?_
    refine Wx.putR 11 11 d_MM_teach_31 f_MM_11 rfl ok_MM fl_MM_35 (Or.inl rfl) w_40 (s_40 hS (by decide)) ?_
    have hS : St (setR (setI μ1 (hd 40 0) 2 0) (hd 40 0) 11 (hd 50 (px μ1 (hd 40 0) 12))) := St.setPlan11 (μ := (setI μ1 (hd 40 0) 2 0)) hS hp3.2
    refine Wa.aload_n (j := 1) d_MM_teach_34 rfl ?_
    refine Wx.getR 11 13 d_MM_teach_35 f_MM_13 rfl fl_MM_47 (s_40 hS (by decide)) (r_40_13 hS (by decide)) ?_
    refine Wx.cVv (q := E_MS) (As := []) 13 (d - 1) 0 0 _ d_MM_teach_38 mok_MS_begin vl_MM_54 rfl rfl rfl (Nat.le_of_ble_eq_true rfl) (by omega) (Nat.zero_le _) (Nat.zero_le _) (s_65 hS (by decide)) hF (fun μ4 hS hF => ?_)
    refine Wa.iconst (v := 0) d_MM_teach_41 rfl ?_
    exact Wx.reti d_MM_teach_42 rfl hF
  · have hF := hF.2 hb
    refine Wa.iload_n (j := 0) d_MM_teach_24 rfl ?_
    exact Wx.reti d_MM_teach_25 rfl hF
theorem e_MM_teach {d rc rs : Nat} {Q : Option Value → Mu → Prop} {μ : Mu}  (hk : Wx K_MM_teach d rc rs (fun r μ' => St μ' ∧ Q r μ') 0 [(0, .ref (hd 40 0))] [] μ) : Cal K_MM_teach d rc rs [.ref (hd 40 0)] μ Q := Cal.of (by decide +kernel) rfl rfl (Nat.le_of_ble_eq_true rfl) rfl hk
set_option maxHeartbeats 4000000 in
set_option maxRecDepth 20000 in
theorem g_MM_errorAt_0 {d rc rs : Nat} {Q : Option Value → Mu → Prop} {μ : Mu}  (hD : 1 ≤ d)  (hS : St μ)
    (hF : Q (some (.int (mI (setI μ (hd 40 0) 0 0) (hd 40 0) 3))) (setI μ (hd 40 0) 0 0)) : Wx K_MM_errorAt d rc rs Q 0 [(0, .ref (hd 40 0))] [] μ := by
  refine Wa.aload_n (j := 0) d_MM_errorAt_0 rfl ?_
  refine Wa.iconst (v := 0) d_MM_errorAt_1 rfl ?_
  refine Wx.putI 11 0 d_MM_errorAt_2 f_MM_0 ok_MM fl_MM_57 (Or.inl rfl) w_40 (s_40 hS (by decide)) ?_
  refine Wa.aload_n (j := 0) d_MM_errorAt_5 rfl ?_
  refine Wx.getI 11 3 d_MM_errorAt_6 f_MM_3 fl_MM_13 w_40 (s_40 hS (by decide)) ?_
  exact Wx.reti d_MM_errorAt_9 rfl hF
theorem e_MM_errorAt {d rc rs : Nat} {Q : Option Value → Mu → Prop} {μ : Mu}  (hk : Wx K_MM_errorAt d rc rs (fun r μ' => St μ' ∧ Q r μ') 0 [(0, .ref (hd 40 0))] [] μ) : Cal K_MM_errorAt d rc rs [.ref (hd 40 0)] μ Q := Cal.of (by decide +kernel) rfl rfl (Nat.le_of_ble_eq_true rfl) rfl hk
set_option maxHeartbeats 4000000 in
set_option maxRecDepth 20000 in
theorem g_MM_counted_0 {d rc rs : Nat} {Q : Option Value → Mu → Prop} {μ : Mu} {x1 : Int32} (hD : 1 ≤ d)  (hS : St μ)
    (hF : (Cal K_MM_isIn (d - 1) 0 0 [.int x1, .int 5, .int 11] μ (fun r μ1 => ∃ y2, r = some (.int y2) ∧ ((y2 = 0 → (1 ≤ rc ∧ 5 ≤ rs ∧ ∀ q3, mS μ1 (hd 85 q3) = (0, 0) → (vp_in (0 : Int32) 5 ∧ (vp_in (1 : Int32) 5 ∧ (∀ μ7 : Mu, μ7 = (setI (setI (mkA μ1 (hd 85 q3) (2, 5)) (hd 85 q3) (0 : Int32).toNatClampNeg (mI (mkA μ1 (hd 85 q3) (2, 5)) (hd 65 0) 0)) (hd 85 q3) (1 : Int32).toNatClampNeg (mI (setI (mkA μ1 (hd 85 q3) (2, 5)) (hd 85 q3) (0 : Int32).toNatClampNeg (mI (mkA μ1 (hd 85 q3) (2, 5)) (hd 65 0) 0)) (hd 50 (px (mkA μ1 (hd 85 q3) (2, 5)) (hd 40 0) 11)) 0)) → (vp_in (2 : Int32) 5 ∧ (vp_in (3 : Int32) 5 ∧ (∀ μ13 : Mu, μ13 = (setI (setI μ7 (hd 85 q3) (2 : Int32).toNatClampNeg (mI μ7 (hd 50 (px μ7 (hd 40 0) 11)) 1)) (hd 85 q3) (3 : Int32).toNatClampNeg (mI (setI μ7 (hd 85 q3) (2 : Int32).toNatClampNeg (mI μ7 (hd 50 (px μ7 (hd 40 0) 11)) 1)) (hd 50 (px μ7 (hd 40 0) 11)) 2)) → (vp_in (4 : Int32) 5 ∧ ((5 ≤ x1 → Q (some (.int (mI (setI μ13 (hd 85 q3) (4 : Int32).toNatClampNeg (mI μ13 (hd 50 (px μ13 (hd 40 0) 11)) 6)) (hd 40 0) 2))) (setI μ13 (hd 85 q3) (4 : Int32).toNatClampNeg (mI μ13 (hd 50 (px μ13 (hd 40 0) 11)) 6))) ∧ (¬ 5 ≤ x1 → (vp_in x1 5 ∧ Q (some (.int (mI (setI μ13 (hd 85 q3) (4 : Int32).toNatClampNeg (mI μ13 (hd 50 (px μ13 (hd 40 0) 11)) 6)) (hd 85 q3) x1.toNatClampNeg))) (setI μ13 (hd 85 q3) (4 : Int32).toNatClampNeg (mI μ13 (hd 50 (px μ13 (hd 40 0) 11)) 6)))))))))))))) ∧ (¬ y2 = 0 → (Cal K_MS_counted (d - 1) 0 0 [.ref (hd 65 0), .int x1] μ1 (fun r μ18 => ∃ y19, r = some (.int y19) ∧ Q (some (.int y19)) μ18))))))) : Wx K_MM_counted d rc rs Q 0 [(0, .ref (hd 40 0)), (1, .int x1)] [] μ := by
  refine Wa.iload_n (j := 1) d_MM_counted_0 rfl ?_
  refine Wa.iconst (v := 5) d_MM_counted_1 rfl ?_
  refine Wa.bipush (v := 11) d_MM_counted_2 rfl ?_
  refine Wx.cSi (As := [.int x1, .int 5, .int 11]) (d - 1) 0 0 _ d_MM_counted_4 mok_MM_isIn sl_MM_63 rfl rfl (Nat.le_of_ble_eq_true rfl) (by omega) (Nat.zero_le _) (Nat.zero_le _) hF (fun y2 μ1 hS hF => ?_)
  refine Wa.if_eq 19 d_MM_counted_7 (by decide) (fun hb => ?_) (fun hb => ?_)
  · have hF := hF.1 hb
    refine Wa.iconst (v := 5) d_MM_counted_19 rfl ?_
    have hq1 := hF.1
    have hq2 := hF.2.1
    have hF := hF.2.2
    obtain ⟨q3, hq, hN⟩ := St.fr85 hS
    have hF := hF q3 hq
    refine Wa.newarr (hd 85 q3) 2 5 d_MM_counted_20 ac_int rfl (by decide) (by decide) (by decide) (by decide) hq1 hq2 hq w_85 ?_
    have hS : St (mkA μ1 (hd 85 q3) (2, 5)) := hN μ1 rfl rfl
    refine Wa.dup d_MM_counted_22 rfl ?_
    refine Wa.iconst (v := 0) d_MM_counted_23 rfl ?_
    refine Wa.aload_n (j := 0) d_MM_counted_24 rfl ?_
    refine Wx.getR 11 13 d_MM_counted_25 f_MM_13 rfl fl_MM_47 (s_40 hS (by decide)) (r_40_13 hS (by decide)) ?_
    refine Wx.getI 13 0 d_MM_counted_28 f_MS_0 fl_MM_301 w_65 (s_65 hS (by decide)) ?_
    have hc4 := hF.1
    have hF := hF.2
    have hlhc4 := vp_in_lt hc4
    refine Wa.iast d_MM_counted_31 w_85 (alloc_S) hc4 ?_
    refine Wa.dup d_MM_counted_32 rfl ?_
    refine Wa.iconst (v := 1) d_MM_counted_33 rfl ?_
    refine Wa.aload_n (j := 0) d_MM_counted_34 rfl ?_
    have hp5 := St.plan hS
    refine Wx.getR 11 11 d_MM_counted_35 f_MM_11 rfl fl_MM_35 (s_40 hS (by decide)) (hp5.1) ?_
    refine Wx.getI 12 0 d_MM_counted_38 f_MP_0 fl_MM_60 w_50 (s_50 hp5.2) ?_
    have hc6 := hF.1
    have hF := hF.2
    have hlhc6 := vp_in_lt hc6
    refine Wa.iast d_MM_counted_41 w_85 (alloc_S) hc6 ?_
    suffices hh : ∀ μ7 : Mu, μ7 = (setI (setI (mkA μ1 (hd 85 q3) (2, 5)) (hd 85 q3) (0 : Int32).toNatClampNeg (mI (mkA μ1 (hd 85 q3) (2, 5)) (hd 65 0) 0)) (hd 85 q3) (1 : Int32).toNatClampNeg (mI (setI (mkA μ1 (hd 85 q3) (2, 5)) (hd 85 q3) (0 : Int32).toNatClampNeg (mI (mkA μ1 (hd 85 q3) (2, 5)) (hd 65 0) 0)) (hd 50 (px (mkA μ1 (hd 85 q3) (2, 5)) (hd 40 0) 11)) 0)) → Wx K_MM_counted d (rc - 1) (rs - 5) Q 42 [(0, .ref (hd 40 0)), (1, .int x1)] [.ref (hd 85 q3)] μ7 from hh _ rfl
    intro μ7 em
    have hF := hF μ7 em
    have hS : St μ7 := by rw [em]; exact hS
    have hr8 : mS μ7 (hd 85 q3) = (2, 5) := by rw [em]; exact alloc_S
    refine Wa.dup d_MM_counted_42 rfl ?_
    refine Wa.iconst (v := 2) d_MM_counted_43 rfl ?_
    refine Wa.aload_n (j := 0) d_MM_counted_44 rfl ?_
    have hp9 := St.plan hS
    refine Wx.getR 11 11 d_MM_counted_45 f_MM_11 rfl fl_MM_35 (s_40 hS (by decide)) (hp9.1) ?_
    refine Wx.getI 12 1 d_MM_counted_48 f_MP_1 fl_MM_71 w_50 (s_50 hp9.2) ?_
    have hc10 := hF.1
    have hF := hF.2
    have hlhc10 := vp_in_lt hc10
    refine Wa.iast d_MM_counted_51 w_85 (hr8) hc10 ?_
    refine Wa.dup d_MM_counted_52 rfl ?_
    refine Wa.iconst (v := 3) d_MM_counted_53 rfl ?_
    refine Wa.aload_n (j := 0) d_MM_counted_54 rfl ?_
    have hp11 := St.plan hS
    refine Wx.getR 11 11 d_MM_counted_55 f_MM_11 rfl fl_MM_35 (s_40 hS (by decide)) (hp11.1) ?_
    refine Wx.getI 12 2 d_MM_counted_58 f_MP_2 fl_MM_74 w_50 (s_50 hp11.2) ?_
    have hc12 := hF.1
    have hF := hF.2
    have hlhc12 := vp_in_lt hc12
    refine Wa.iast d_MM_counted_61 w_85 (hr8) hc12 ?_
    suffices hh : ∀ μ13 : Mu, μ13 = (setI (setI μ7 (hd 85 q3) (2 : Int32).toNatClampNeg (mI μ7 (hd 50 (px μ7 (hd 40 0) 11)) 1)) (hd 85 q3) (3 : Int32).toNatClampNeg (mI (setI μ7 (hd 85 q3) (2 : Int32).toNatClampNeg (mI μ7 (hd 50 (px μ7 (hd 40 0) 11)) 1)) (hd 50 (px μ7 (hd 40 0) 11)) 2)) → Wx K_MM_counted d (rc - 1) (rs - 5) Q 62 [(0, .ref (hd 40 0)), (1, .int x1)] [.ref (hd 85 q3)] μ13 from hh _ rfl
    intro μ13 em
    have hF := hF μ13 em
    have hS : St μ13 := by rw [em]; exact hS
    have hr14 : mS μ13 (hd 85 q3) = (2, 5) := by rw [em]; exact hr8
    refine Wa.dup d_MM_counted_62 rfl ?_
    refine Wa.iconst (v := 4) d_MM_counted_63 rfl ?_
    refine Wa.aload_n (j := 0) d_MM_counted_64 rfl ?_
    have hp15 := St.plan hS
    refine Wx.getR 11 11 d_MM_counted_65 f_MM_11 rfl fl_MM_35 (s_40 hS (by decide)) (hp15.1) ?_
    refine Wx.getI 12 6 d_MM_counted_68 f_MP_6 fl_MM_232 w_50 (s_50 hp15.2) ?_
    have hc16 := hF.1
    have hF := hF.2
    have hlhc16 := vp_in_lt hc16
    refine Wa.iast d_MM_counted_71 w_85 (hr14) hc16 ?_
    refine Wa.astore_n (i := 2) (L' := [(2, .ref (hd 85 q3)), (0, .ref (hd 40 0)), (1, .int x1)]) d_MM_counted_72 rfl (by decide) rfl ?_
    refine Wa.iload_n (j := 2) d_MM_counted_73 rfl ?_
    refine Wa.iconst (v := 5) d_MM_counted_74 rfl ?_
    refine Wa.icmp_ge 84 d_MM_counted_75 (by decide) (fun hb => ?_) (fun hb => ?_)
    · have hF := hF.1 hb
      refine Wa.aload_n (j := 1) d_MM_counted_84 rfl ?_
      refine Wx.getI 11 2 d_MM_counted_85 f_MM_2 fl_MM_89 w_40 (s_40 hS (by decide)) ?_
      exact Wx.reti d_MM_counted_88 rfl hF
    · have hF := hF.2 hb
      refine Wa.aload_n (j := 0) d_MM_counted_78 rfl ?_
      refine Wa.iload_n (j := 2) d_MM_counted_79 rfl ?_
      have hc17 := hF.1
      have hF := hF.2
      have hlhc17 := vp_in_lt hc17
      refine Wx.iald d_MM_counted_80 w_85 (hr14) hc17 ?_
      refine Wa.goto 88 d_MM_counted_81 (by decide) ?_
      exact Wx.reti d_MM_counted_88 rfl hF
  · have hF := hF.2 hb
    refine Wa.aload_n (j := 0) d_MM_counted_10 rfl ?_
    refine Wx.getR 11 13 d_MM_counted_11 f_MM_13 rfl fl_MM_47 (s_40 hS (by decide)) (r_40_13 hS (by decide)) ?_
    refine Wa.iload_n (j := 1) d_MM_counted_14 rfl ?_
    refine Wx.cVi (q := E_MS) (As := [.int x1]) 13 (d - 1) 0 0 _ d_MM_counted_15 mok_MS_counted vl_MM_298 rfl rfl rfl (Nat.le_of_ble_eq_true rfl) (by omega) (Nat.zero_le _) (Nat.zero_le _) (s_65 hS (by decide)) hF (fun y19 μ18 hS hF => ?_)
    exact Wx.reti d_MM_counted_18 rfl hF
theorem e_MM_counted {d rc rs : Nat} {Q : Option Value → Mu → Prop} {μ : Mu} {x1 : Int32} (hk : Wx K_MM_counted d rc rs (fun r μ' => St μ' ∧ Q r μ') 0 [(0, .ref (hd 40 0)), (1, .int x1)] [] μ) : Cal K_MM_counted d rc rs [.ref (hd 40 0), .int x1] μ Q := Cal.of (by decide +kernel) rfl rfl (Nat.le_of_ble_eq_true rfl) rfl hk
set_option maxHeartbeats 4000000 in
set_option maxRecDepth 20000 in
theorem g_MM_count_0 {d rc rs : Nat} {Q : Option Value → Mu → Prop} {μ : Mu} {x1 : Int32} (hD : 1 ≤ d)  (hS : St μ)
    (hF : (Cal K_MM_isIn (d - 1) 0 0 [.int x1, .int 0, .int 12] (setI μ (hd 40 0) 0 0) (fun r μ1 => ∃ y2, r = some (.int y2) ∧ ((y2 = 0 → (Cal K_MM_no (d - 1) 0 0 [.ref (hd 40 0), .int 1] μ1 (fun r μ3 => ∃ y4, r = some (.int y4) ∧ Q (some (.int y4)) μ3))) ∧ (¬ y2 = 0 → (1 ≤ rc ∧ 5 ≤ rs ∧ Cal K_MM_counted (d - 1) 1 5 [.ref (hd 40 0), .int x1] μ1 (fun r μ5 => ∃ y6, r = some (.int y6) ∧ Q (some (.int y6)) μ5))))))) : Wx K_MM_count d rc rs Q 0 [(0, .ref (hd 40 0)), (1, .int x1)] [] μ := by
  refine Wa.aload_n (j := 0) d_MM_count_0 rfl ?_
  refine Wa.iconst (v := 0) d_MM_count_1 rfl ?_
  refine Wx.putI 11 0 d_MM_count_2 f_MM_0 ok_MM fl_MM_57 (Or.inl rfl) w_40 (s_40 hS (by decide)) ?_
  refine Wa.iload_n (j := 1) d_MM_count_5 rfl ?_
  refine Wa.iconst (v := 0) d_MM_count_6 rfl ?_
  refine Wa.bipush (v := 12) d_MM_count_7 rfl ?_
  refine Wx.cSi (As := [.int x1, .int 0, .int 12]) (d - 1) 0 0 _ d_MM_count_9 mok_MM_isIn sl_MM_63 rfl rfl (Nat.le_of_ble_eq_true rfl) (by omega) (Nat.zero_le _) (Nat.zero_le _) hF (fun y2 μ1 hS hF => ?_)
  refine Wa.if_eq 23 d_MM_count_12 (by decide) (fun hb => ?_) (fun hb => ?_)
  · have hF := hF.1 hb
    refine Wa.aload_n (j := 0) d_MM_count_23 rfl ?_
    refine Wa.iconst (v := 1) d_MM_count_24 rfl ?_
    refine Wx.cVi (q := E_MM) (As := [.int 1]) 11 (d - 1) 0 0 _ d_MM_count_25 mok_MM_no vl_MM_292 rfl rfl rfl (Nat.le_of_ble_eq_true rfl) (by omega) (Nat.zero_le _) (Nat.zero_le _) (s_40 hS (by decide)) hF (fun y4 μ3 hS hF => ?_)
    exact Wx.reti d_MM_count_28 rfl hF
  · have hF := hF.2 hb
    refine Wa.aload_n (j := 0) d_MM_count_15 rfl ?_
    refine Wa.iload_n (j := 1) d_MM_count_16 rfl ?_
    have hq1 := hF.1
    have hq2 := hF.2.1
    have hF := hF.2.2
    refine Wx.cVi (q := E_MM) (As := [.int x1]) 11 (d - 1) 1 5 _ d_MM_count_17 mok_MM_counted vl_MM_304 rfl rfl rfl (Nat.le_of_ble_eq_true rfl) (by omega) hq1 hq2 (s_40 hS (by decide)) hF (fun y6 μ5 hS hF => ?_)
    refine Wa.goto 28 d_MM_count_20 (by decide) ?_
    exact Wx.reti d_MM_count_28 rfl hF
theorem e_MM_count {d rc rs : Nat} {Q : Option Value → Mu → Prop} {μ : Mu} {x1 : Int32} (hk : Wx K_MM_count d rc rs (fun r μ' => St μ' ∧ Q r μ') 0 [(0, .ref (hd 40 0)), (1, .int x1)] [] μ) : Cal K_MM_count d rc rs [.ref (hd 40 0), .int x1] μ Q := Cal.of (by decide +kernel) rfl rfl (Nat.le_of_ble_eq_true rfl) rfl hk
set_option maxHeartbeats 4000000 in
set_option maxRecDepth 20000 in
theorem g_MM_roadsFrom_0 {d rc rs : Nat} {Q : Option Value → Mu → Prop} {μ : Mu} {x1 : Int32} (hD : 1 ≤ d)  (hS : St μ)
    (hF : Wx K_MM_roadsFrom d rc rs Q 4 [(0, .ref (hd 40 0)), (1, .int x1), (2, .int 0), (3, .int 0)] [] μ) : Wx K_MM_roadsFrom d rc rs Q 0 [(0, .ref (hd 40 0)), (1, .int x1)] [] μ := by
  refine Wa.iconst (v := 0) d_MM_roadsFrom_0 rfl ?_
  refine Wa.istore_n (i := 2) (L' := [(2, .int 0), (0, .ref (hd 40 0)), (1, .int x1)]) d_MM_roadsFrom_1 rfl (by decide) rfl ?_
  refine Wa.iconst (v := 0) d_MM_roadsFrom_2 rfl ?_
  refine Wa.istore_n (i := 3) (L' := [(3, .int 0), (2, .int 0), (0, .ref (hd 40 0)), (1, .int x1)]) d_MM_roadsFrom_3 rfl (by decide) rfl ?_
  exact Wa.loc [2, 3, 1, 0] rfl hF
theorem e_MM_roadsFrom {d rc rs : Nat} {Q : Option Value → Mu → Prop} {μ : Mu} {x1 : Int32} (hk : Wx K_MM_roadsFrom d rc rs (fun r μ' => St μ' ∧ Q r μ') 0 [(0, .ref (hd 40 0)), (1, .int x1)] [] μ) : Cal K_MM_roadsFrom d rc rs [.ref (hd 40 0), .int x1] μ Q := Cal.of (by decide +kernel) rfl rfl (Nat.le_of_ble_eq_true rfl) rfl hk
set_option maxHeartbeats 4000000 in
set_option maxRecDepth 20000 in
theorem g_MM_roadsFrom_4 {d rc rs : Nat} {Q : Option Value → Mu → Prop} {μ : Mu} {x1 : Int32} {x2 : Int32} {x3 : Int32} (hD : 1 ≤ d)  (hS : St μ)
    (hF : (((mI μ (hd 50 (px μ (hd 40 0) 11)) 2) ≤ x3 → Q (some (.int x2)) μ) ∧ (¬ (mI μ (hd 50 (px μ (hd 40 0) 11)) 2) ≤ x3 → (vp_in x3 8 ∧ (((mI μ (hd 51 (px μ (hd 40 0) 11)) x3.toNatClampNeg) = x1 → Wx K_MM_roadsFrom d rc rs Q 4 [(0, .ref (hd 40 0)), (1, .int x1), (2, .int (x2 + (1 : Int32))), (3, .int (x3 + 1))] [] μ) ∧ (¬ (mI μ (hd 51 (px μ (hd 40 0) 11)) x3.toNatClampNeg) = x1 → Wx K_MM_roadsFrom d rc rs Q 4 [(0, .ref (hd 40 0)), (1, .int x1), (2, .int (x2 + (0 : Int32))), (3, .int (x3 + 1))] [] μ)))))) : Wx K_MM_roadsFrom d rc rs Q 4 [(0, .ref (hd 40 0)), (1, .int x1), (2, .int x2), (3, .int x3)] [] μ := by
  refine Wa.iload_n (j := 3) d_MM_roadsFrom_4 rfl ?_
  refine Wa.aload_n (j := 0) d_MM_roadsFrom_5 rfl ?_
  have hp1 := St.plan hS
  refine Wx.getR 11 11 d_MM_roadsFrom_6 f_MM_11 rfl fl_MM_35 (s_40 hS (by decide)) (hp1.1) ?_
  refine Wx.getI 12 2 d_MM_roadsFrom_9 f_MP_2 fl_MM_74 w_50 (s_50 hp1.2) ?_
  refine Wa.icmp_ge 42 d_MM_roadsFrom_12 (by decide) (fun hb => ?_) (fun hb => ?_)
  · have hF := hF.1 hb
    refine Wa.iload_n (j := 2) d_MM_roadsFrom_42 rfl ?_
    exact Wx.reti d_MM_roadsFrom_43 rfl hF
  · have hF := hF.2 hb
    refine Wa.iload_n (j := 2) d_MM_roadsFrom_15 rfl ?_
    refine Wa.aload_n (j := 0) d_MM_roadsFrom_16 rfl ?_
    have hp2 := St.plan hS
    refine Wx.getR 11 11 d_MM_roadsFrom_17 f_MM_11 rfl fl_MM_35 (s_40 hS (by decide)) (hp2.1) ?_
    refine Wx.getR 12 3 d_MM_roadsFrom_20 f_MP_3 rfl fl_MM_248 (s_50 hp2.2) (r_50_3 hp2.2) ?_
    refine Wa.iload_n (j := 3) d_MM_roadsFrom_23 rfl ?_
    have hc3 := hF.1
    have hF := hF.2
    have hlhc3 := vp_in_lt hc3
    refine Wx.iald d_MM_roadsFrom_24 w_51 (s_51 hp2.2) hc3 ?_
    refine Wa.iload_n (j := 1) d_MM_roadsFrom_25 rfl ?_
    refine Wa.icmp_ne 33 d_MM_roadsFrom_26 (by decide) (fun hb => ?_) (fun hb => ?_)
    · have hF := hF.2 hb
      refine Wa.iconst (v := 0) d_MM_roadsFrom_33 rfl ?_
      refine Wa.iadd d_MM_roadsFrom_34 ?_
      refine Wa.istore_n (i := 2) (L' := [(2, .int (x2 + (0 : Int32))), (0, .ref (hd 40 0)), (1, .int x1), (3, .int x3)]) d_MM_roadsFrom_35 rfl (by decide) rfl ?_
      refine Wa.iinc (i := 3) (j := 3) (v := (x3 + 1)) (L' := [(3, .int (x3 + 1)), (2, .int (x2 + (0 : Int32))), (0, .ref (hd 40 0)), (1, .int x1)]) d_MM_roadsFrom_36 rfl rfl (by decide) rfl ?_
      refine Wa.goto 4 d_MM_roadsFrom_39 (by decide) ?_
      exact Wa.loc [2, 3, 1, 0] rfl hF
    · have hF := hF.1 hb
      refine Wa.iconst (v := 1) d_MM_roadsFrom_29 rfl ?_
      refine Wa.goto 34 d_MM_roadsFrom_30 (by decide) ?_
      refine Wa.iadd d_MM_roadsFrom_34 ?_
      refine Wa.istore_n (i := 2) (L' := [(2, .int (x2 + (1 : Int32))), (0, .ref (hd 40 0)), (1, .int x1), (3, .int x3)]) d_MM_roadsFrom_35 rfl (by decide) rfl ?_
      refine Wa.iinc (i := 3) (j := 3) (v := (x3 + 1)) (L' := [(3, .int (x3 + 1)), (2, .int (x2 + (1 : Int32))), (0, .ref (hd 40 0)), (1, .int x1)]) d_MM_roadsFrom_36 rfl rfl (by decide) rfl ?_
      refine Wa.goto 4 d_MM_roadsFrom_39 (by decide) ?_
      exact Wa.loc [2, 3, 1, 0] rfl hF
set_option maxHeartbeats 4000000 in
set_option maxRecDepth 20000 in
theorem g_MM_parishTold_0 {d rc rs : Nat} {Q : Option Value → Mu → Prop} {μ : Mu} {x1 : Int32} {x2 : Int32} (hD : 1 ≤ d)  (hS : St μ)
    (hF : (((x2 = 0) → (Cal K_MS_known (d - 1) 0 0 [.ref (hd 65 0), .int x1] μ (fun r μ2 => ∃ y3, r = some (.int y3) ∧ Q (some (.int y3)) μ2))) ∧ ((x2 = 1) → (Cal K_MS_waits (d - 1) 0 0 [.ref (hd 65 0), .int x1] μ (fun r μ5 => ∃ y6, r = some (.int y6) ∧ Q (some (.int y6)) μ5))) ∧ ((x2 = 2) → (Cal K_MS_noticesOf (d - 1) 0 0 [.ref (hd 65 0), .int x1, .int 1] μ (fun r μ8 => ∃ y9, r = some (.int y9) ∧ Q (some (.int y9)) μ8))) ∧ ((x2 = 3) → (Cal K_MS_noticesOf (d - 1) 0 0 [.ref (hd 65 0), .int x1, .int 2] μ (fun r μ11 => ∃ y12, r = some (.int y12) ∧ Q (some (.int y12)) μ11))) ∧ ((x2 = 4) → (Cal K_MS_numberOf (d - 1) 0 0 [.ref (hd 65 0), .int x1, .int x1] μ (fun r μ14 => ∃ y15, r = some (.int y15) ∧ Q (some (.int y15)) μ14))) ∧ ((x2.toInt < 0 ∨ 4 < x2.toInt) → (Cal K_MM_roadsFrom (d - 1) 0 0 [.ref (hd 40 0), .int x1] μ (fun r μ17 => ∃ y18, r = some (.int y18) ∧ Q (some (.int y18)) μ17))))) : Wx K_MM_parishTold d rc rs Q 0 [(0, .ref (hd 40 0)), (1, .int x1), (2, .int x2)] [] μ := by
  refine Wa.iload_n (j := 2) d_MM_parishTold_0 rfl ?_
  have k1 : (x2 = 0) → Wx K_MM_parishTold d rc rs Q 36 [(0, .ref (hd 40 0)), (1, .int x1), (2, .int x2)] [] μ := by
    intro hb
    have hF := hF.1 hb
    refine Wa.aload_n (j := 0) d_MM_parishTold_36 rfl ?_
    refine Wx.getR 11 13 d_MM_parishTold_37 f_MM_13 rfl fl_MM_47 (s_40 hS (by decide)) (r_40_13 hS (by decide)) ?_
    refine Wa.iload_n (j := 1) d_MM_parishTold_40 rfl ?_
    refine Wx.cVi (q := E_MS) (As := [.int x1]) 13 (d - 1) 0 0 _ d_MM_parishTold_41 mok_MS_known vl_MM_305 rfl rfl rfl (Nat.le_of_ble_eq_true rfl) (by omega) (Nat.zero_le _) (Nat.zero_le _) (s_65 hS (by decide)) hF (fun y3 μ2 hS hF => ?_)
    exact Wx.reti d_MM_parishTold_44 rfl hF
  have k4 : (x2 = 1) → Wx K_MM_parishTold d rc rs Q 45 [(0, .ref (hd 40 0)), (1, .int x1), (2, .int x2)] [] μ := by
    intro hb
    have hF := hF.2.1 hb
    refine Wa.aload_n (j := 0) d_MM_parishTold_45 rfl ?_
    refine Wx.getR 11 13 d_MM_parishTold_46 f_MM_13 rfl fl_MM_47 (s_40 hS (by decide)) (r_40_13 hS (by decide)) ?_
    refine Wa.iload_n (j := 1) d_MM_parishTold_49 rfl ?_
    refine Wx.cVi (q := E_MS) (As := [.int x1]) 13 (d - 1) 0 0 _ d_MM_parishTold_50 mok_MS_waits vl_MM_308 rfl rfl rfl (Nat.le_of_ble_eq_true rfl) (by omega) (Nat.zero_le _) (Nat.zero_le _) (s_65 hS (by decide)) hF (fun y6 μ5 hS hF => ?_)
    exact Wx.reti d_MM_parishTold_53 rfl hF
  have k7 : (x2 = 2) → Wx K_MM_parishTold d rc rs Q 54 [(0, .ref (hd 40 0)), (1, .int x1), (2, .int x2)] [] μ := by
    intro hb
    have hF := hF.2.2.1 hb
    refine Wa.aload_n (j := 0) d_MM_parishTold_54 rfl ?_
    refine Wx.getR 11 13 d_MM_parishTold_55 f_MM_13 rfl fl_MM_47 (s_40 hS (by decide)) (r_40_13 hS (by decide)) ?_
    refine Wa.iload_n (j := 1) d_MM_parishTold_58 rfl ?_
    refine Wa.iconst (v := 1) d_MM_parishTold_59 rfl ?_
    refine Wx.cVi (q := E_MS) (As := [.int x1, .int 1]) 13 (d - 1) 0 0 _ d_MM_parishTold_60 mok_MS_noticesOf vl_MM_311 rfl rfl rfl (Nat.le_of_ble_eq_true rfl) (by omega) (Nat.zero_le _) (Nat.zero_le _) (s_65 hS (by decide)) hF (fun y9 μ8 hS hF => ?_)
    exact Wx.reti d_MM_parishTold_63 rfl hF
  have k10 : (x2 = 3) → Wx K_MM_parishTold d rc rs Q 64 [(0, .ref (hd 40 0)), (1, .int x1), (2, .int x2)] [] μ := by
    intro hb
    have hF := hF.2.2.2.1 hb
    refine Wa.aload_n (j := 0) d_MM_parishTold_64 rfl ?_
    refine Wx.getR 11 13 d_MM_parishTold_65 f_MM_13 rfl fl_MM_47 (s_40 hS (by decide)) (r_40_13 hS (by decide)) ?_
    refine Wa.iload_n (j := 1) d_MM_parishTold_68 rfl ?_
    refine Wa.iconst (v := 2) d_MM_parishTold_69 rfl ?_
    refine Wx.cVi (q := E_MS) (As := [.int x1, .int 2]) 13 (d - 1) 0 0 _ d_MM_parishTold_70 mok_MS_noticesOf vl_MM_311 rfl rfl rfl (Nat.le_of_ble_eq_true rfl) (by omega) (Nat.zero_le _) (Nat.zero_le _) (s_65 hS (by decide)) hF (fun y12 μ11 hS hF => ?_)
    exact Wx.reti d_MM_parishTold_73 rfl hF
  have k13 : (x2 = 4) → Wx K_MM_parishTold d rc rs Q 74 [(0, .ref (hd 40 0)), (1, .int x1), (2, .int x2)] [] μ := by
    intro hb
    have hF := hF.2.2.2.2.1 hb
    refine Wa.aload_n (j := 0) d_MM_parishTold_74 rfl ?_
    refine Wx.getR 11 13 d_MM_parishTold_75 f_MM_13 rfl fl_MM_47 (s_40 hS (by decide)) (r_40_13 hS (by decide)) ?_
    refine Wa.iload_n (j := 1) d_MM_parishTold_78 rfl ?_
    refine Wa.iload_n (j := 1) d_MM_parishTold_79 rfl ?_
    refine Wx.cVi (q := E_MS) (As := [.int x1, .int x1]) 13 (d - 1) 0 0 _ d_MM_parishTold_80 mok_MS_numberOf vl_MM_314 rfl rfl rfl (Nat.le_of_ble_eq_true rfl) (by omega) (Nat.zero_le _) (Nat.zero_le _) (s_65 hS (by decide)) hF (fun y15 μ14 hS hF => ?_)
    exact Wx.reti d_MM_parishTold_83 rfl hF
  have k16 : (x2.toInt < 0 ∨ 4 < x2.toInt) → Wx K_MM_parishTold d rc rs Q 84 [(0, .ref (hd 40 0)), (1, .int x1), (2, .int x2)] [] μ := by
    intro hb
    have hF := hF.2.2.2.2.2 hb
    refine Wa.aload_n (j := 0) d_MM_parishTold_84 rfl ?_
    refine Wa.iload_n (j := 1) d_MM_parishTold_85 rfl ?_
    refine Wx.cVi (q := E_MM) (As := [.int x1]) 11 (d - 1) 0 0 _ d_MM_parishTold_86 mok_MM_roadsFrom vl_MM_317 rfl rfl rfl (Nat.le_of_ble_eq_true rfl) (by omega) (Nat.zero_le _) (Nat.zero_le _) (s_40 hS (by decide)) hF (fun y18 μ17 hS hF => ?_)
    exact Wx.reti d_MM_parishTold_89 rfl hF
  rcases sw_0_4 x2 with hb | hb | hb | hb | hb | hb | hb
  · exact Wa.tabOut 84 d_MM_parishTold_1 (Or.inl hb) (by decide) (k16 (Or.inl hb))
  · exact Wa.tabOut 84 d_MM_parishTold_1 (Or.inr hb) (by decide) (k16 (Or.inr hb))
  · exact Wa.tabIn 36 d_MM_parishTold_1 (by rw [hb]; decide) (by rw [hb]; decide) (by rw [hb]; rfl) (by decide) (k1 hb)
  · exact Wa.tabIn 45 d_MM_parishTold_1 (by rw [hb]; decide) (by rw [hb]; decide) (by rw [hb]; rfl) (by decide) (k4 hb)
  · exact Wa.tabIn 54 d_MM_parishTold_1 (by rw [hb]; decide) (by rw [hb]; decide) (by rw [hb]; rfl) (by decide) (k7 hb)
  · exact Wa.tabIn 64 d_MM_parishTold_1 (by rw [hb]; decide) (by rw [hb]; decide) (by rw [hb]; rfl) (by decide) (k10 hb)
  · exact Wa.tabIn 74 d_MM_parishTold_1 (by rw [hb]; decide) (by rw [hb]; decide) (by rw [hb]; rfl) (by decide) (k13 hb)
theorem e_MM_parishTold {d rc rs : Nat} {Q : Option Value → Mu → Prop} {μ : Mu} {x1 : Int32} {x2 : Int32} (hk : Wx K_MM_parishTold d rc rs (fun r μ' => St μ' ∧ Q r μ') 0 [(0, .ref (hd 40 0)), (1, .int x1), (2, .int x2)] [] μ) : Cal K_MM_parishTold d rc rs [.ref (hd 40 0), .int x1, .int x2] μ Q := Cal.of (by decide +kernel) rfl rfl (Nat.le_of_ble_eq_true rfl) rfl hk
set_option maxHeartbeats 4000000 in
set_option maxRecDepth 20000 in
theorem g_MM_parish_0 {d rc rs : Nat} {Q : Option Value → Mu → Prop} {μ : Mu} {x1 : Int32} {x2 : Int32} (hD : 1 ≤ d)  (hS : St μ)
    (hF : (Cal K_MM_isParish (d - 1) 0 0 [.ref (hd 40 0), .int x1] (setI μ (hd 40 0) 0 0) (fun r μ1 => ∃ y2, r = some (.int y2) ∧ ((y2 = 0 → (Cal K_MM_no (d - 1) 0 0 [.ref (hd 40 0), .int 1] μ1 (fun r μ3 => ∃ y4, r = some (.int y4) ∧ Q (some (.int y4)) μ3))) ∧ (¬ y2 = 0 → (Cal K_MM_isIn (d - 1) 0 0 [.int x2, .int 0, .int 5] μ1 (fun r μ5 => ∃ y6, r = some (.int y6) ∧ ((y6 = 0 → (Cal K_MM_no (d - 1) 0 0 [.ref (hd 40 0), .int 1] μ5 (fun r μ7 => ∃ y8, r = some (.int y8) ∧ Q (some (.int y8)) μ7))) ∧ (¬ y6 = 0 → (Cal K_MM_parishTold (d - 1) 0 0 [.ref (hd 40 0), .int x1, .int x2] μ5 (fun r μ9 => ∃ y10, r = some (.int y10) ∧ Q (some (.int y10)) μ9))))))))))) : Wx K_MM_parish d rc rs Q 0 [(0, .ref (hd 40 0)), (1, .int x1), (2, .int x2)] [] μ := by
  refine Wa.aload_n (j := 0) d_MM_parish_0 rfl ?_
  refine Wa.iconst (v := 0) d_MM_parish_1 rfl ?_
  refine Wx.putI 11 0 d_MM_parish_2 f_MM_0 ok_MM fl_MM_57 (Or.inl rfl) w_40 (s_40 hS (by decide)) ?_
  refine Wa.aload_n (j := 0) d_MM_parish_5 rfl ?_
  refine Wa.iload_n (j := 1) d_MM_parish_6 rfl ?_
  refine Wx.cVi (q := E_MM) (As := [.int x1]) 11 (d - 1) 0 0 _ d_MM_parish_7 mok_MM_isParish vl_MM_67 rfl rfl rfl (Nat.le_of_ble_eq_true rfl) (by omega) (Nat.zero_le _) (Nat.zero_le _) (s_40 hS (by decide)) hF (fun y2 μ1 hS hF => ?_)
  refine Wa.if_eq 31 d_MM_parish_10 (by decide) (fun hb => ?_) (fun hb => ?_)
  · have hF := hF.1 hb
    refine Wa.aload_n (j := 0) d_MM_parish_31 rfl ?_
    refine Wa.iconst (v := 1) d_MM_parish_32 rfl ?_
    refine Wx.cVi (q := E_MM) (As := [.int 1]) 11 (d - 1) 0 0 _ d_MM_parish_33 mok_MM_no vl_MM_292 rfl rfl rfl (Nat.le_of_ble_eq_true rfl) (by omega) (Nat.zero_le _) (Nat.zero_le _) (s_40 hS (by decide)) hF (fun y4 μ3 hS hF => ?_)
    exact Wx.reti d_MM_parish_36 rfl hF
  · have hF := hF.2 hb
    refine Wa.iload_n (j := 2) d_MM_parish_13 rfl ?_
    refine Wa.iconst (v := 0) d_MM_parish_14 rfl ?_
    refine Wa.iconst (v := 5) d_MM_parish_15 rfl ?_
    refine Wx.cSi (As := [.int x2, .int 0, .int 5]) (d - 1) 0 0 _ d_MM_parish_16 mok_MM_isIn sl_MM_63 rfl rfl (Nat.le_of_ble_eq_true rfl) (by omega) (Nat.zero_le _) (Nat.zero_le _) hF (fun y6 μ5 hS hF => ?_)
    refine Wa.if_eq 31 d_MM_parish_19 (by decide) (fun hb => ?_) (fun hb => ?_)
    · have hF := hF.1 hb
      refine Wa.aload_n (j := 0) d_MM_parish_31 rfl ?_
      refine Wa.iconst (v := 1) d_MM_parish_32 rfl ?_
      refine Wx.cVi (q := E_MM) (As := [.int 1]) 11 (d - 1) 0 0 _ d_MM_parish_33 mok_MM_no vl_MM_292 rfl rfl rfl (Nat.le_of_ble_eq_true rfl) (by omega) (Nat.zero_le _) (Nat.zero_le _) (s_40 hS (by decide)) hF (fun y8 μ7 hS hF => ?_)
      exact Wx.reti d_MM_parish_36 rfl hF
    · have hF := hF.2 hb
      refine Wa.aload_n (j := 0) d_MM_parish_22 rfl ?_
      refine Wa.iload_n (j := 1) d_MM_parish_23 rfl ?_
      refine Wa.iload_n (j := 2) d_MM_parish_24 rfl ?_
      refine Wx.cVi (q := E_MM) (As := [.int x1, .int x2]) 11 (d - 1) 0 0 _ d_MM_parish_25 mok_MM_parishTold vl_MM_320 rfl rfl rfl (Nat.le_of_ble_eq_true rfl) (by omega) (Nat.zero_le _) (Nat.zero_le _) (s_40 hS (by decide)) hF (fun y10 μ9 hS hF => ?_)
      refine Wa.goto 36 d_MM_parish_28 (by decide) ?_
      exact Wx.reti d_MM_parish_36 rfl hF
theorem e_MM_parish {d rc rs : Nat} {Q : Option Value → Mu → Prop} {μ : Mu} {x1 : Int32} {x2 : Int32} (hk : Wx K_MM_parish d rc rs (fun r μ' => St μ' ∧ Q r μ') 0 [(0, .ref (hd 40 0)), (1, .int x1), (2, .int x2)] [] μ) : Cal K_MM_parish d rc rs [.ref (hd 40 0), .int x1, .int x2] μ Q := Cal.of (by decide +kernel) rfl rfl (Nat.le_of_ble_eq_true rfl) rfl hk
set_option maxHeartbeats 4000000 in
set_option maxRecDepth 20000 in
theorem g_MM_knows_0 {d rc rs : Nat} {Q : Option Value → Mu → Prop} {μ : Mu} {x1 : Int32} {x2 : Int32} (hD : 1 ≤ d)  (hS : St μ)
    (hF : (Cal K_MM_isParish (d - 1) 0 0 [.ref (hd 40 0), .int x1] (setI μ (hd 40 0) 0 0) (fun r μ1 => ∃ y2, r = some (.int y2) ∧ ((y2 = 0 → (Cal K_MM_no (d - 1) 0 0 [.ref (hd 40 0), .int 1] μ1 (fun r μ3 => ∃ y4, r = some (.int y4) ∧ Q (some (.int y4)) μ3))) ∧ (¬ y2 = 0 → (Cal K_MM_isParish (d - 1) 0 0 [.ref (hd 40 0), .int x2] μ1 (fun r μ5 => ∃ y6, r = some (.int y6) ∧ ((y6 = 0 → (Cal K_MM_no (d - 1) 0 0 [.ref (hd 40 0), .int 1] μ5 (fun r μ7 => ∃ y8, r = some (.int y8) ∧ Q (some (.int y8)) μ7))) ∧ (¬ y6 = 0 → (Cal K_MS_numberOf (d - 1) 0 0 [.ref (hd 65 0), .int x1, .int x2] μ5 (fun r μ9 => ∃ y10, r = some (.int y10) ∧ Q (some (.int y10)) μ9))))))))))) : Wx K_MM_knows d rc rs Q 0 [(0, .ref (hd 40 0)), (1, .int x1), (2, .int x2)] [] μ := by
  refine Wa.aload_n (j := 0) d_MM_knows_0 rfl ?_
  refine Wa.iconst (v := 0) d_MM_knows_1 rfl ?_
  refine Wx.putI 11 0 d_MM_knows_2 f_MM_0 ok_MM fl_MM_57 (Or.inl rfl) w_40 (s_40 hS (by decide)) ?_
  refine Wa.aload_n (j := 0) d_MM_knows_5 rfl ?_
  refine Wa.iload_n (j := 1) d_MM_knows_6 rfl ?_
  refine Wx.cVi (q := E_MM) (As := [.int x1]) 11 (d - 1) 0 0 _ d_MM_knows_7 mok_MM_isParish vl_MM_67 rfl rfl rfl (Nat.le_of_ble_eq_true rfl) (by omega) (Nat.zero_le _) (Nat.zero_le _) (s_40 hS (by decide)) hF (fun y2 μ1 hS hF => ?_)
  refine Wa.if_eq 33 d_MM_knows_10 (by decide) (fun hb => ?_) (fun hb => ?_)
  · have hF := hF.1 hb
    refine Wa.aload_n (j := 0) d_MM_knows_33 rfl ?_
    refine Wa.iconst (v := 1) d_MM_knows_34 rfl ?_
    refine Wx.cVi (q := E_MM) (As := [.int 1]) 11 (d - 1) 0 0 _ d_MM_knows_35 mok_MM_no vl_MM_292 rfl rfl rfl (Nat.le_of_ble_eq_true rfl) (by omega) (Nat.zero_le _) (Nat.zero_le _) (s_40 hS (by decide)) hF (fun y4 μ3 hS hF => ?_)
    exact Wx.reti d_MM_knows_38 rfl hF
  · have hF := hF.2 hb
    refine Wa.aload_n (j := 0) d_MM_knows_13 rfl ?_
    refine Wa.iload_n (j := 2) d_MM_knows_14 rfl ?_
    refine Wx.cVi (q := E_MM) (As := [.int x2]) 11 (d - 1) 0 0 _ d_MM_knows_15 mok_MM_isParish vl_MM_67 rfl rfl rfl (Nat.le_of_ble_eq_true rfl) (by omega) (Nat.zero_le _) (Nat.zero_le _) (s_40 hS (by decide)) hF (fun y6 μ5 hS hF => ?_)
    refine Wa.if_eq 33 d_MM_knows_18 (by decide) (fun hb => ?_) (fun hb => ?_)
    · have hF := hF.1 hb
      refine Wa.aload_n (j := 0) d_MM_knows_33 rfl ?_
      refine Wa.iconst (v := 1) d_MM_knows_34 rfl ?_
      refine Wx.cVi (q := E_MM) (As := [.int 1]) 11 (d - 1) 0 0 _ d_MM_knows_35 mok_MM_no vl_MM_292 rfl rfl rfl (Nat.le_of_ble_eq_true rfl) (by omega) (Nat.zero_le _) (Nat.zero_le _) (s_40 hS (by decide)) hF (fun y8 μ7 hS hF => ?_)
      exact Wx.reti d_MM_knows_38 rfl hF
    · have hF := hF.2 hb
      refine Wa.aload_n (j := 0) d_MM_knows_21 rfl ?_
      refine Wx.getR 11 13 d_MM_knows_22 f_MM_13 rfl fl_MM_47 (s_40 hS (by decide)) (r_40_13 hS (by decide)) ?_
      refine Wa.iload_n (j := 1) d_MM_knows_25 rfl ?_
      refine Wa.iload_n (j := 2) d_MM_knows_26 rfl ?_
      refine Wx.cVi (q := E_MS) (As := [.int x1, .int x2]) 13 (d - 1) 0 0 _ d_MM_knows_27 mok_MS_numberOf vl_MM_314 rfl rfl rfl (Nat.le_of_ble_eq_true rfl) (by omega) (Nat.zero_le _) (Nat.zero_le _) (s_65 hS (by decide)) hF (fun y10 μ9 hS hF => ?_)
      refine Wa.goto 38 d_MM_knows_30 (by decide) ?_
      exact Wx.reti d_MM_knows_38 rfl hF
theorem e_MM_knows {d rc rs : Nat} {Q : Option Value → Mu → Prop} {μ : Mu} {x1 : Int32} {x2 : Int32} (hk : Wx K_MM_knows d rc rs (fun r μ' => St μ' ∧ Q r μ') 0 [(0, .ref (hd 40 0)), (1, .int x1), (2, .int x2)] [] μ) : Cal K_MM_knows d rc rs [.ref (hd 40 0), .int x1, .int x2] μ Q := Cal.of (by decide +kernel) rfl rfl (Nat.le_of_ble_eq_true rfl) rfl hk
set_option maxHeartbeats 4000000 in
set_option maxRecDepth 20000 in
theorem g_MM_boards_0 {d rc rs : Nat} {Q : Option Value → Mu → Prop} {μ : Mu} {x1 : Int32} {x2 : Int32} (hD : 1 ≤ d)  (hS : St μ)
    (hF : Wx K_MM_boards d rc rs Q 5 [(0, .ref (hd 40 0)), (1, .int x1), (2, .int x2), (3, .int 0), (4, .int 0)] [] μ) : Wx K_MM_boards d rc rs Q 0 [(0, .ref (hd 40 0)), (1, .int x1), (2, .int x2)] [] μ := by
  refine Wa.iconst (v := 0) d_MM_boards_0 rfl ?_
  refine Wa.istore_n (i := 3) (L' := [(3, .int 0), (0, .ref (hd 40 0)), (1, .int x1), (2, .int x2)]) d_MM_boards_1 rfl (by decide) rfl ?_
  refine Wa.iconst (v := 0) d_MM_boards_2 rfl ?_
  refine Wa.istore (i := 4) (L' := [(4, .int 0), (3, .int 0), (0, .ref (hd 40 0)), (1, .int x1), (2, .int x2)]) d_MM_boards_3 (by decide) rfl ?_
  exact Wa.loc [2, 3, 4, 1, 0] rfl hF
theorem e_MM_boards {d rc rs : Nat} {Q : Option Value → Mu → Prop} {μ : Mu} {x1 : Int32} {x2 : Int32} (hk : Wx K_MM_boards d rc rs (fun r μ' => St μ' ∧ Q r μ') 0 [(0, .ref (hd 40 0)), (1, .int x1), (2, .int x2)] [] μ) : Cal K_MM_boards d rc rs [.ref (hd 40 0), .int x1, .int x2] μ Q := Cal.of (by decide +kernel) rfl rfl (Nat.le_of_ble_eq_true rfl) rfl hk
set_option maxHeartbeats 4000000 in
set_option maxRecDepth 20000 in
theorem g_MM_boards_5 {d rc rs : Nat} {Q : Option Value → Mu → Prop} {μ : Mu} {x1 : Int32} {x2 : Int32} {x3 : Int32} {x4 : Int32} (hD : 1 ≤ d)  (hS : St μ)
    (hF : (((mI μ (hd 50 (px μ (hd 40 0) 11)) 0) ≤ x4 → Q (some (.int x3)) μ) ∧ (¬ (mI μ (hd 50 (px μ (hd 40 0) 11)) 0) ≤ x4 → ((x2 = 0 → (Cal K_MS_knows (d - 1) 0 0 [.ref (hd 65 0), .int x4, .int x1] μ (fun r μ2 => ∃ y3, r = some (.int y3) ∧ ((y3 = 0 → Wx K_MM_boards d rc rs Q 5 [(0, .ref (hd 40 0)), (1, .int x1), (2, .int x2), (3, .int (x3 + (0 : Int32))), (4, .int (x4 + 1))] [] μ2) ∧ (¬ y3 = 0 → Wx K_MM_boards d rc rs Q 5 [(0, .ref (hd 40 0)), (1, .int x1), (2, .int x2), (3, .int (x3 + (1 : Int32))), (4, .int (x4 + 1))] [] μ2))))) ∧ (¬ x2 = 0 → (vp_in x1 60 ∧ (vp_in x1 60 ∧ (Cal K_MS_spot (d - 1) 0 0 [.ref (hd 65 0), .int x4, .int (mI μ (hd 67 0) x1.toNatClampNeg), .int (mI μ (hd 66 0) x1.toNatClampNeg)] μ (fun r μ6 => ∃ y7, r = some (.int y7) ∧ (vp_in y7 150 ∧ (((mI μ6 (hd 74 0) y7.toNatClampNeg) = x1 → Wx K_MM_boards d rc rs Q 5 [(0, .ref (hd 40 0)), (1, .int x1), (2, .int x2), (3, .int (x3 + (1 : Int32))), (4, .int (x4 + 1))] [] μ6) ∧ (¬ (mI μ6 (hd 74 0) y7.toNatClampNeg) = x1 → Wx K_MM_boards d rc rs Q 5 [(0, .ref (hd 40 0)), (1, .int x1), (2, .int x2), (3, .int (x3 + (0 : Int32))), (4, .int (x4 + 1))] [] μ6)))))))))))) : Wx K_MM_boards d rc rs Q 5 [(0, .ref (hd 40 0)), (1, .int x1), (2, .int x2), (3, .int x3), (4, .int x4)] [] μ := by
  refine Wa.iload (j := 4) d_MM_boards_5 rfl ?_
  refine Wa.aload_n (j := 0) d_MM_boards_7 rfl ?_
  have hp1 := St.plan hS
  refine Wx.getR 11 11 d_MM_boards_8 f_MM_11 rfl fl_MM_35 (s_40 hS (by decide)) (hp1.1) ?_
  refine Wx.getI 12 0 d_MM_boards_11 f_MP_0 fl_MM_60 w_50 (s_50 hp1.2) ?_
  refine Wa.icmp_ge 95 d_MM_boards_14 (by decide) (fun hb => ?_) (fun hb => ?_)
  · have hF := hF.1 hb
    refine Wa.iload_n (j := 3) d_MM_boards_95 rfl ?_
    exact Wx.reti d_MM_boards_96 rfl hF
  · have hF := hF.2 hb
    refine Wa.iload_n (j := 3) d_MM_boards_17 rfl ?_
    refine Wa.iload_n (j := 2) d_MM_boards_18 rfl ?_
    refine Wa.if_eq 69 d_MM_boards_19 (by decide) (fun hb => ?_) (fun hb => ?_)
    · have hF := hF.1 hb
      refine Wa.aload_n (j := 0) d_MM_boards_69 rfl ?_
      refine Wx.getR 11 13 d_MM_boards_70 f_MM_13 rfl fl_MM_47 (s_40 hS (by decide)) (r_40_13 hS (by decide)) ?_
      refine Wa.iload (j := 4) d_MM_boards_73 rfl ?_
      refine Wa.iload_n (j := 1) d_MM_boards_75 rfl ?_
      refine Wx.cVi (q := E_MS) (As := [.int x4, .int x1]) 13 (d - 1) 0 0 _ d_MM_boards_76 mok_MS_knows vl_MM_335 rfl rfl rfl (Nat.le_of_ble_eq_true rfl) (by omega) (Nat.zero_le _) (Nat.zero_le _) (s_65 hS (by decide)) hF (fun y3 μ2 hS hF => ?_)
      refine Wa.if_eq 86 d_MM_boards_79 (by decide) (fun hb => ?_) (fun hb => ?_)
      · have hF := hF.1 hb
        refine Wa.iconst (v := 0) d_MM_boards_86 rfl ?_
        refine Wa.iadd d_MM_boards_87 ?_
        refine Wa.istore_n (i := 3) (L' := [(3, .int (x3 + (0 : Int32))), (0, .ref (hd 40 0)), (1, .int x1), (2, .int x2), (4, .int x4)]) d_MM_boards_88 rfl (by decide) rfl ?_
        refine Wa.iinc (i := 4) (j := 4) (v := (x4 + 1)) (L' := [(4, .int (x4 + 1)), (3, .int (x3 + (0 : Int32))), (0, .ref (hd 40 0)), (1, .int x1), (2, .int x2)]) d_MM_boards_89 rfl rfl (by decide) rfl ?_
        refine Wa.goto 5 d_MM_boards_92 (by decide) ?_
        exact Wa.loc [2, 3, 4, 1, 0] rfl hF
      · have hF := hF.2 hb
        refine Wa.iconst (v := 1) d_MM_boards_82 rfl ?_
        refine Wa.goto 87 d_MM_boards_83 (by decide) ?_
        refine Wa.iadd d_MM_boards_87 ?_
        refine Wa.istore_n (i := 3) (L' := [(3, .int (x3 + (1 : Int32))), (0, .ref (hd 40 0)), (1, .int x1), (2, .int x2), (4, .int x4)]) d_MM_boards_88 rfl (by decide) rfl ?_
        refine Wa.iinc (i := 4) (j := 4) (v := (x4 + 1)) (L' := [(4, .int (x4 + 1)), (3, .int (x3 + (1 : Int32))), (0, .ref (hd 40 0)), (1, .int x1), (2, .int x2)]) d_MM_boards_89 rfl rfl (by decide) rfl ?_
        refine Wa.goto 5 d_MM_boards_92 (by decide) ?_
        exact Wa.loc [2, 3, 4, 1, 0] rfl hF
    · have hF := hF.2 hb
      refine Wa.aload_n (j := 0) d_MM_boards_22 rfl ?_
      refine Wx.getR 11 13 d_MM_boards_23 f_MM_13 rfl fl_MM_47 (s_40 hS (by decide)) (r_40_13 hS (by decide)) ?_
      refine Wx.getR 13 13 d_MM_boards_26 f_MS_13 rfl fl_MM_323 (s_65 hS (by decide)) (r_65_13 hS (by decide)) ?_
      refine Wa.aload_n (j := 0) d_MM_boards_29 rfl ?_
      refine Wx.getR 11 13 d_MM_boards_30 f_MM_13 rfl fl_MM_47 (s_40 hS (by decide)) (r_40_13 hS (by decide)) ?_
      refine Wa.iload (j := 4) d_MM_boards_33 rfl ?_
      refine Wa.aload_n (j := 0) d_MM_boards_35 rfl ?_
      refine Wx.getR 11 13 d_MM_boards_36 f_MM_13 rfl fl_MM_47 (s_40 hS (by decide)) (r_40_13 hS (by decide)) ?_
      refine Wx.getR 13 6 d_MM_boards_39 f_MS_6 rfl fl_MM_326 (s_65 hS (by decide)) (r_65_6 hS (by decide)) ?_
      refine Wa.iload_n (j := 1) d_MM_boards_42 rfl ?_
      have hc4 := hF.1
      have hF := hF.2
      have hlhc4 := vp_in_lt hc4
      refine Wx.iald d_MM_boards_43 w_67 (s_67 hS (by decide)) hc4 ?_
      refine Wa.aload_n (j := 0) d_MM_boards_44 rfl ?_
      refine Wx.getR 11 13 d_MM_boards_45 f_MM_13 rfl fl_MM_47 (s_40 hS (by decide)) (r_40_13 hS (by decide)) ?_
      refine Wx.getR 13 5 d_MM_boards_48 f_MS_5 rfl fl_MM_329 (s_65 hS (by decide)) (r_65_5 hS (by decide)) ?_
      refine Wa.iload_n (j := 1) d_MM_boards_51 rfl ?_
      have hc5 := hF.1
      have hF := hF.2
      have hlhc5 := vp_in_lt hc5
      refine Wx.iald d_MM_boards_52 w_66 (s_66 hS (by decide)) hc5 ?_
      refine Wx.cVi (q := E_MS) (As := [.int x4, .int (mI μ (hd 67 0) x1.toNatClampNeg), .int (mI μ (hd 66 0) x1.toNatClampNeg)]) 13 (d - 1) 0 0 _ d_MM_boards_53 mok_MS_spot vl_MM_332 rfl rfl rfl (Nat.le_of_ble_eq_true rfl) (by omega) (Nat.zero_le _) (Nat.zero_le _) (s_65 hS (by decide)) hF (fun y7 μ6 hS hF => ?_)
      have hc8 := hF.1
      have hF := hF.2
      have hlhc8 := vp_in_lt hc8
      refine Wx.iald d_MM_boards_56 w_74 (s_74 hS (by decide)) hc8 ?_
      refine Wa.iload_n (j := 1) d_MM_boards_57 rfl ?_
      refine Wa.icmp_ne 65 d_MM_boards_58 (by decide) (fun hb => ?_) (fun hb => ?_)
      · have hF := hF.2 hb
        refine Wa.iconst (v := 0) d_MM_boards_65 rfl ?_
        refine Wa.goto 87 d_MM_boards_66 (by decide) ?_
        refine Wa.iadd d_MM_boards_87 ?_
        refine Wa.istore_n (i := 3) (L' := [(3, .int (x3 + (0 : Int32))), (0, .ref (hd 40 0)), (1, .int x1), (2, .int x2), (4, .int x4)]) d_MM_boards_88 rfl (by decide) rfl ?_
        refine Wa.iinc (i := 4) (j := 4) (v := (x4 + 1)) (L' := [(4, .int (x4 + 1)), (3, .int (x3 + (0 : Int32))), (0, .ref (hd 40 0)), (1, .int x1), (2, .int x2)]) d_MM_boards_89 rfl rfl (by decide) rfl ?_
        refine Wa.goto 5 d_MM_boards_92 (by decide) ?_
        exact Wa.loc [2, 3, 4, 1, 0] rfl hF
      · have hF := hF.1 hb
        refine Wa.iconst (v := 1) d_MM_boards_61 rfl ?_
        refine Wa.goto 87 d_MM_boards_62 (by decide) ?_
        refine Wa.iadd d_MM_boards_87 ?_
        refine Wa.istore_n (i := 3) (L' := [(3, .int (x3 + (1 : Int32))), (0, .ref (hd 40 0)), (1, .int x1), (2, .int x2), (4, .int x4)]) d_MM_boards_88 rfl (by decide) rfl ?_
        refine Wa.iinc (i := 4) (j := 4) (v := (x4 + 1)) (L' := [(4, .int (x4 + 1)), (3, .int (x3 + (1 : Int32))), (0, .ref (hd 40 0)), (1, .int x1), (2, .int x2)]) d_MM_boards_89 rfl rfl (by decide) rfl ?_
        refine Wa.goto 5 d_MM_boards_92 (by decide) ?_
        exact Wa.loc [2, 3, 4, 1, 0] rfl hF
set_option maxHeartbeats 4000000 in
set_option maxRecDepth 20000 in
theorem g_MM_sheetTold_0 {d rc rs : Nat} {Q : Option Value → Mu → Prop} {μ : Mu} {x1 : Int32} {x2 : Int32} (hD : 1 ≤ d)  (hS : St μ)
    (hF : (((x2 = 0) → (vp_in x1 60 ∧ Q (some (.int (mI μ (hd 66 0) x1.toNatClampNeg))) μ)) ∧ ((x2 = 1) → (vp_in x1 60 ∧ Q (some (.int (mI μ (hd 67 0) x1.toNatClampNeg))) μ)) ∧ ((x2 = 2) → (vp_in x1 60 ∧ Q (some (.int (mI μ (hd 68 0) x1.toNatClampNeg))) μ)) ∧ ((x2 = 3) → (vp_in x1 60 ∧ Q (some (.int (mI μ (hd 69 0) x1.toNatClampNeg))) μ)) ∧ ((x2 = 4) → (vp_in x1 60 ∧ Q (some (.int (mI μ (hd 70 0) x1.toNatClampNeg))) μ)) ∧ ((x2 = 5) → (vp_in x1 60 ∧ Q (some (.int (mI μ (hd 71 0) x1.toNatClampNeg))) μ)) ∧ ((x2.toInt < 0 ∨ 5 < x2.toInt) → ((x2 = 7 → (Cal K_MM_boards (d - 1) 0 0 [.ref (hd 40 0), .int x1, .int 1] μ (fun r μ16 => ∃ y17, r = some (.int y17) ∧ Q (some (.int y17)) μ16))) ∧ (¬ x2 = 7 → (Cal K_MM_boards (d - 1) 0 0 [.ref (hd 40 0), .int x1, .int 0] μ (fun r μ14 => ∃ y15, r = some (.int y15) ∧ Q (some (.int y15)) μ14))))))) : Wx K_MM_sheetTold d rc rs Q 0 [(0, .ref (hd 40 0)), (1, .int x1), (2, .int x2)] [] μ := by
  refine Wa.iload_n (j := 2) d_MM_sheetTold_0 rfl ?_
  have k1 : (x2 = 0) → Wx K_MM_sheetTold d rc rs Q 40 [(0, .ref (hd 40 0)), (1, .int x1), (2, .int x2)] [] μ := by
    intro hb
    have hF := hF.1 hb
    refine Wa.aload_n (j := 0) d_MM_sheetTold_40 rfl ?_
    refine Wx.getR 11 13 d_MM_sheetTold_41 f_MM_13 rfl fl_MM_47 (s_40 hS (by decide)) (r_40_13 hS (by decide)) ?_
    refine Wx.getR 13 5 d_MM_sheetTold_44 f_MS_5 rfl fl_MM_329 (s_65 hS (by decide)) (r_65_5 hS (by decide)) ?_
    refine Wa.iload_n (j := 1) d_MM_sheetTold_47 rfl ?_
    have hc2 := hF.1
    have hF := hF.2
    have hlhc2 := vp_in_lt hc2
    refine Wx.iald d_MM_sheetTold_48 w_66 (s_66 hS (by decide)) hc2 ?_
    exact Wx.reti d_MM_sheetTold_49 rfl hF
  have k3 : (x2 = 1) → Wx K_MM_sheetTold d rc rs Q 50 [(0, .ref (hd 40 0)), (1, .int x1), (2, .int x2)] [] μ := by
    intro hb
    have hF := hF.2.1 hb
    refine Wa.aload_n (j := 0) d_MM_sheetTold_50 rfl ?_
    refine Wx.getR 11 13 d_MM_sheetTold_51 f_MM_13 rfl fl_MM_47 (s_40 hS (by decide)) (r_40_13 hS (by decide)) ?_
    refine Wx.getR 13 6 d_MM_sheetTold_54 f_MS_6 rfl fl_MM_326 (s_65 hS (by decide)) (r_65_6 hS (by decide)) ?_
    refine Wa.iload_n (j := 1) d_MM_sheetTold_57 rfl ?_
    have hc4 := hF.1
    have hF := hF.2
    have hlhc4 := vp_in_lt hc4
    refine Wx.iald d_MM_sheetTold_58 w_67 (s_67 hS (by decide)) hc4 ?_
    exact Wx.reti d_MM_sheetTold_59 rfl hF
  have k5 : (x2 = 2) → Wx K_MM_sheetTold d rc rs Q 60 [(0, .ref (hd 40 0)), (1, .int x1), (2, .int x2)] [] μ := by
    intro hb
    have hF := hF.2.2.1 hb
    refine Wa.aload_n (j := 0) d_MM_sheetTold_60 rfl ?_
    refine Wx.getR 11 13 d_MM_sheetTold_61 f_MM_13 rfl fl_MM_47 (s_40 hS (by decide)) (r_40_13 hS (by decide)) ?_
    refine Wx.getR 13 7 d_MM_sheetTold_64 f_MS_7 rfl fl_MM_338 (s_65 hS (by decide)) (r_65_7 hS (by decide)) ?_
    refine Wa.iload_n (j := 1) d_MM_sheetTold_67 rfl ?_
    have hc6 := hF.1
    have hF := hF.2
    have hlhc6 := vp_in_lt hc6
    refine Wx.iald d_MM_sheetTold_68 w_68 (s_68 hS (by decide)) hc6 ?_
    exact Wx.reti d_MM_sheetTold_69 rfl hF
  have k7 : (x2 = 3) → Wx K_MM_sheetTold d rc rs Q 70 [(0, .ref (hd 40 0)), (1, .int x1), (2, .int x2)] [] μ := by
    intro hb
    have hF := hF.2.2.2.1 hb
    refine Wa.aload_n (j := 0) d_MM_sheetTold_70 rfl ?_
    refine Wx.getR 11 13 d_MM_sheetTold_71 f_MM_13 rfl fl_MM_47 (s_40 hS (by decide)) (r_40_13 hS (by decide)) ?_
    refine Wx.getR 13 8 d_MM_sheetTold_74 f_MS_8 rfl fl_MM_341 (s_65 hS (by decide)) (r_65_8 hS (by decide)) ?_
    refine Wa.iload_n (j := 1) d_MM_sheetTold_77 rfl ?_
    have hc8 := hF.1
    have hF := hF.2
    have hlhc8 := vp_in_lt hc8
    refine Wx.iald d_MM_sheetTold_78 w_69 (s_69 hS (by decide)) hc8 ?_
    exact Wx.reti d_MM_sheetTold_79 rfl hF
  have k9 : (x2 = 4) → Wx K_MM_sheetTold d rc rs Q 80 [(0, .ref (hd 40 0)), (1, .int x1), (2, .int x2)] [] μ := by
    intro hb
    have hF := hF.2.2.2.2.1 hb
    refine Wa.aload_n (j := 0) d_MM_sheetTold_80 rfl ?_
    refine Wx.getR 11 13 d_MM_sheetTold_81 f_MM_13 rfl fl_MM_47 (s_40 hS (by decide)) (r_40_13 hS (by decide)) ?_
    refine Wx.getR 13 9 d_MM_sheetTold_84 f_MS_9 rfl fl_MM_344 (s_65 hS (by decide)) (r_65_9 hS (by decide)) ?_
    refine Wa.iload_n (j := 1) d_MM_sheetTold_87 rfl ?_
    have hc10 := hF.1
    have hF := hF.2
    have hlhc10 := vp_in_lt hc10
    refine Wx.iald d_MM_sheetTold_88 w_70 (s_70 hS (by decide)) hc10 ?_
    exact Wx.reti d_MM_sheetTold_89 rfl hF
  have k11 : (x2 = 5) → Wx K_MM_sheetTold d rc rs Q 90 [(0, .ref (hd 40 0)), (1, .int x1), (2, .int x2)] [] μ := by
    intro hb
    have hF := hF.2.2.2.2.2.1 hb
    refine Wa.aload_n (j := 0) d_MM_sheetTold_90 rfl ?_
    refine Wx.getR 11 13 d_MM_sheetTold_91 f_MM_13 rfl fl_MM_47 (s_40 hS (by decide)) (r_40_13 hS (by decide)) ?_
    refine Wx.getR 13 10 d_MM_sheetTold_94 f_MS_10 rfl fl_MM_347 (s_65 hS (by decide)) (r_65_10 hS (by decide)) ?_
    refine Wa.iload_n (j := 1) d_MM_sheetTold_97 rfl ?_
    have hc12 := hF.1
    have hF := hF.2
    have hlhc12 := vp_in_lt hc12
    refine Wx.iald d_MM_sheetTold_98 w_71 (s_71 hS (by decide)) hc12 ?_
    exact Wx.reti d_MM_sheetTold_99 rfl hF
  have k13 : (x2.toInt < 0 ∨ 5 < x2.toInt) → Wx K_MM_sheetTold d rc rs Q 100 [(0, .ref (hd 40 0)), (1, .int x1), (2, .int x2)] [] μ := by
    intro hb
    have hF := hF.2.2.2.2.2.2 hb
    refine Wa.aload_n (j := 0) d_MM_sheetTold_100 rfl ?_
    refine Wa.iload_n (j := 1) d_MM_sheetTold_101 rfl ?_
    refine Wa.iload_n (j := 2) d_MM_sheetTold_102 rfl ?_
    refine Wa.bipush (v := 7) d_MM_sheetTold_103 rfl ?_
    refine Wa.icmp_ne 112 d_MM_sheetTold_105 (by decide) (fun hb => ?_) (fun hb => ?_)
    · have hF := hF.2 hb
      refine Wa.iconst (v := 0) d_MM_sheetTold_112 rfl ?_
      refine Wx.cVi (q := E_MM) (As := [.int x1, .int 0]) 11 (d - 1) 0 0 _ d_MM_sheetTold_113 mok_MM_boards vl_MM_350 rfl rfl rfl (Nat.le_of_ble_eq_true rfl) (by omega) (Nat.zero_le _) (Nat.zero_le _) (s_40 hS (by decide)) hF (fun y15 μ14 hS hF => ?_)
      exact Wx.reti d_MM_sheetTold_116 rfl hF
    · have hF := hF.1 hb
      refine Wa.iconst (v := 1) d_MM_sheetTold_108 rfl ?_
      refine Wa.goto 113 d_MM_sheetTold_109 (by decide) ?_
      refine Wx.cVi (q := E_MM) (As := [.int x1, .int 1]) 11 (d - 1) 0 0 _ d_MM_sheetTold_113 mok_MM_boards vl_MM_350 rfl rfl rfl (Nat.le_of_ble_eq_true rfl) (by omega) (Nat.zero_le _) (Nat.zero_le _) (s_40 hS (by decide)) hF (fun y17 μ16 hS hF => ?_)
      exact Wx.reti d_MM_sheetTold_116 rfl hF
  rcases sw_0_5 x2 with hb | hb | hb | hb | hb | hb | hb | hb
  · exact Wa.tabOut 100 d_MM_sheetTold_1 (Or.inl hb) (by decide) (k13 (Or.inl hb))
  · exact Wa.tabOut 100 d_MM_sheetTold_1 (Or.inr hb) (by decide) (k13 (Or.inr hb))
  · exact Wa.tabIn 40 d_MM_sheetTold_1 (by rw [hb]; decide) (by rw [hb]; decide) (by rw [hb]; rfl) (by decide) (k1 hb)
  · exact Wa.tabIn 50 d_MM_sheetTold_1 (by rw [hb]; decide) (by rw [hb]; decide) (by rw [hb]; rfl) (by decide) (k3 hb)
  · exact Wa.tabIn 60 d_MM_sheetTold_1 (by rw [hb]; decide) (by rw [hb]; decide) (by rw [hb]; rfl) (by decide) (k5 hb)
  · exact Wa.tabIn 70 d_MM_sheetTold_1 (by rw [hb]; decide) (by rw [hb]; decide) (by rw [hb]; rfl) (by decide) (k7 hb)
  · exact Wa.tabIn 80 d_MM_sheetTold_1 (by rw [hb]; decide) (by rw [hb]; decide) (by rw [hb]; rfl) (by decide) (k9 hb)
  · exact Wa.tabIn 90 d_MM_sheetTold_1 (by rw [hb]; decide) (by rw [hb]; decide) (by rw [hb]; rfl) (by decide) (k11 hb)
theorem e_MM_sheetTold {d rc rs : Nat} {Q : Option Value → Mu → Prop} {μ : Mu} {x1 : Int32} {x2 : Int32} (hk : Wx K_MM_sheetTold d rc rs (fun r μ' => St μ' ∧ Q r μ') 0 [(0, .ref (hd 40 0)), (1, .int x1), (2, .int x2)] [] μ) : Cal K_MM_sheetTold d rc rs [.ref (hd 40 0), .int x1, .int x2] μ Q := Cal.of (by decide +kernel) rfl rfl (Nat.le_of_ble_eq_true rfl) rfl hk
set_option maxHeartbeats 4000000 in
set_option maxRecDepth 20000 in
theorem g_MM_sheet_0 {d rc rs : Nat} {Q : Option Value → Mu → Prop} {μ : Mu} {x1 : Int32} {x2 : Int32} (hD : 1 ≤ d)  (hS : St μ)
    (hF : (Cal K_MM_isSheet (d - 1) 0 0 [.ref (hd 40 0), .int x1] (setI μ (hd 40 0) 0 0) (fun r μ1 => ∃ y2, r = some (.int y2) ∧ ((y2 = 0 → (Cal K_MM_no (d - 1) 0 0 [.ref (hd 40 0), .int 1] μ1 (fun r μ3 => ∃ y4, r = some (.int y4) ∧ Q (some (.int y4)) μ3))) ∧ (¬ y2 = 0 → (Cal K_MM_isIn (d - 1) 0 0 [.int x2, .int 0, .int 7] μ1 (fun r μ5 => ∃ y6, r = some (.int y6) ∧ ((y6 = 0 → (Cal K_MM_no (d - 1) 0 0 [.ref (hd 40 0), .int 1] μ5 (fun r μ7 => ∃ y8, r = some (.int y8) ∧ Q (some (.int y8)) μ7))) ∧ (¬ y6 = 0 → (Cal K_MM_sheetTold (d - 1) 0 0 [.ref (hd 40 0), .int x1, .int x2] μ5 (fun r μ9 => ∃ y10, r = some (.int y10) ∧ Q (some (.int y10)) μ9))))))))))) : Wx K_MM_sheet d rc rs Q 0 [(0, .ref (hd 40 0)), (1, .int x1), (2, .int x2)] [] μ := by
  refine Wa.aload_n (j := 0) d_MM_sheet_0 rfl ?_
  refine Wa.iconst (v := 0) d_MM_sheet_1 rfl ?_
  refine Wx.putI 11 0 d_MM_sheet_2 f_MM_0 ok_MM fl_MM_57 (Or.inl rfl) w_40 (s_40 hS (by decide)) ?_
  refine Wa.aload_n (j := 0) d_MM_sheet_5 rfl ?_
  refine Wa.iload_n (j := 1) d_MM_sheet_6 rfl ?_
  refine Wx.cVi (q := E_MM) (As := [.int x1]) 11 (d - 1) 0 0 _ d_MM_sheet_7 mok_MM_isSheet vl_MM_354 rfl rfl rfl (Nat.le_of_ble_eq_true rfl) (by omega) (Nat.zero_le _) (Nat.zero_le _) (s_40 hS (by decide)) hF (fun y2 μ1 hS hF => ?_)
  refine Wa.if_eq 32 d_MM_sheet_10 (by decide) (fun hb => ?_) (fun hb => ?_)
  · have hF := hF.1 hb
    refine Wa.aload_n (j := 0) d_MM_sheet_32 rfl ?_
    refine Wa.iconst (v := 1) d_MM_sheet_33 rfl ?_
    refine Wx.cVi (q := E_MM) (As := [.int 1]) 11 (d - 1) 0 0 _ d_MM_sheet_34 mok_MM_no vl_MM_292 rfl rfl rfl (Nat.le_of_ble_eq_true rfl) (by omega) (Nat.zero_le _) (Nat.zero_le _) (s_40 hS (by decide)) hF (fun y4 μ3 hS hF => ?_)
    exact Wx.reti d_MM_sheet_37 rfl hF
  · have hF := hF.2 hb
    refine Wa.iload_n (j := 2) d_MM_sheet_13 rfl ?_
    refine Wa.iconst (v := 0) d_MM_sheet_14 rfl ?_
    refine Wa.bipush (v := 7) d_MM_sheet_15 rfl ?_
    refine Wx.cSi (As := [.int x2, .int 0, .int 7]) (d - 1) 0 0 _ d_MM_sheet_17 mok_MM_isIn sl_MM_63 rfl rfl (Nat.le_of_ble_eq_true rfl) (by omega) (Nat.zero_le _) (Nat.zero_le _) hF (fun y6 μ5 hS hF => ?_)
    refine Wa.if_eq 32 d_MM_sheet_20 (by decide) (fun hb => ?_) (fun hb => ?_)
    · have hF := hF.1 hb
      refine Wa.aload_n (j := 0) d_MM_sheet_32 rfl ?_
      refine Wa.iconst (v := 1) d_MM_sheet_33 rfl ?_
      refine Wx.cVi (q := E_MM) (As := [.int 1]) 11 (d - 1) 0 0 _ d_MM_sheet_34 mok_MM_no vl_MM_292 rfl rfl rfl (Nat.le_of_ble_eq_true rfl) (by omega) (Nat.zero_le _) (Nat.zero_le _) (s_40 hS (by decide)) hF (fun y8 μ7 hS hF => ?_)
      exact Wx.reti d_MM_sheet_37 rfl hF
    · have hF := hF.2 hb
      refine Wa.aload_n (j := 0) d_MM_sheet_23 rfl ?_
      refine Wa.iload_n (j := 1) d_MM_sheet_24 rfl ?_
      refine Wa.iload_n (j := 2) d_MM_sheet_25 rfl ?_
      refine Wx.cVi (q := E_MM) (As := [.int x1, .int x2]) 11 (d - 1) 0 0 _ d_MM_sheet_26 mok_MM_sheetTold vl_MM_357 rfl rfl rfl (Nat.le_of_ble_eq_true rfl) (by omega) (Nat.zero_le _) (Nat.zero_le _) (s_40 hS (by decide)) hF (fun y10 μ9 hS hF => ?_)
      refine Wa.goto 37 d_MM_sheet_29 (by decide) ?_
      exact Wx.reti d_MM_sheet_37 rfl hF
theorem e_MM_sheet {d rc rs : Nat} {Q : Option Value → Mu → Prop} {μ : Mu} {x1 : Int32} {x2 : Int32} (hk : Wx K_MM_sheet d rc rs (fun r μ' => St μ' ∧ Q r μ') 0 [(0, .ref (hd 40 0)), (1, .int x1), (2, .int x2)] [] μ) : Cal K_MM_sheet d rc rs [.ref (hd 40 0), .int x1, .int x2] μ Q := Cal.of (by decide +kernel) rfl rfl (Nat.le_of_ble_eq_true rfl) rfl hk
set_option maxHeartbeats 4000000 in
set_option maxRecDepth 20000 in
theorem g_MM_stamp_0 {d rc rs : Nat} {Q : Option Value → Mu → Prop} {μ : Mu} {x1 : Int32} {x2 : Int32} (hD : 1 ≤ d)  (hS : St μ)
    (hF : (Cal K_MM_isSheet (d - 1) 0 0 [.ref (hd 40 0), .int x1] (setI μ (hd 40 0) 0 0) (fun r μ1 => ∃ y2, r = some (.int y2) ∧ ((y2 = 0 → (Cal K_MM_no (d - 1) 0 0 [.ref (hd 40 0), .int 1] μ1 (fun r μ3 => ∃ y4, r = some (.int y4) ∧ Q (some (.int y4)) μ3))) ∧ (¬ y2 = 0 → (Cal K_MM_isParish (d - 1) 0 0 [.ref (hd 40 0), .int x2] μ1 (fun r μ5 => ∃ y6, r = some (.int y6) ∧ ((y6 = 0 → (Cal K_MM_no (d - 1) 0 0 [.ref (hd 40 0), .int 1] μ5 (fun r μ7 => ∃ y8, r = some (.int y8) ∧ Q (some (.int y8)) μ7))) ∧ (¬ y6 = 0 → (Cal K_MS_stampOf (d - 1) 0 0 [.ref (hd 65 0), .int x1, .int x2] μ5 (fun r μ9 => ∃ y10, r = some (.int y10) ∧ Q (some (.int y10)) μ9))))))))))) : Wx K_MM_stamp d rc rs Q 0 [(0, .ref (hd 40 0)), (1, .int x1), (2, .int x2)] [] μ := by
  refine Wa.aload_n (j := 0) d_MM_stamp_0 rfl ?_
  refine Wa.iconst (v := 0) d_MM_stamp_1 rfl ?_
  refine Wx.putI 11 0 d_MM_stamp_2 f_MM_0 ok_MM fl_MM_57 (Or.inl rfl) w_40 (s_40 hS (by decide)) ?_
  refine Wa.aload_n (j := 0) d_MM_stamp_5 rfl ?_
  refine Wa.iload_n (j := 1) d_MM_stamp_6 rfl ?_
  refine Wx.cVi (q := E_MM) (As := [.int x1]) 11 (d - 1) 0 0 _ d_MM_stamp_7 mok_MM_isSheet vl_MM_354 rfl rfl rfl (Nat.le_of_ble_eq_true rfl) (by omega) (Nat.zero_le _) (Nat.zero_le _) (s_40 hS (by decide)) hF (fun y2 μ1 hS hF => ?_)
  refine Wa.if_eq 33 d_MM_stamp_10 (by decide) (fun hb => ?_) (fun hb => ?_)
  · have hF := hF.1 hb
    refine Wa.aload_n (j := 0) d_MM_stamp_33 rfl ?_
    refine Wa.iconst (v := 1) d_MM_stamp_34 rfl ?_
    refine Wx.cVi (q := E_MM) (As := [.int 1]) 11 (d - 1) 0 0 _ d_MM_stamp_35 mok_MM_no vl_MM_292 rfl rfl rfl (Nat.le_of_ble_eq_true rfl) (by omega) (Nat.zero_le _) (Nat.zero_le _) (s_40 hS (by decide)) hF (fun y4 μ3 hS hF => ?_)
    exact Wx.reti d_MM_stamp_38 rfl hF
  · have hF := hF.2 hb
    refine Wa.aload_n (j := 0) d_MM_stamp_13 rfl ?_
    refine Wa.iload_n (j := 2) d_MM_stamp_14 rfl ?_
    refine Wx.cVi (q := E_MM) (As := [.int x2]) 11 (d - 1) 0 0 _ d_MM_stamp_15 mok_MM_isParish vl_MM_67 rfl rfl rfl (Nat.le_of_ble_eq_true rfl) (by omega) (Nat.zero_le _) (Nat.zero_le _) (s_40 hS (by decide)) hF (fun y6 μ5 hS hF => ?_)
    refine Wa.if_eq 33 d_MM_stamp_18 (by decide) (fun hb => ?_) (fun hb => ?_)
    · have hF := hF.1 hb
      refine Wa.aload_n (j := 0) d_MM_stamp_33 rfl ?_
      refine Wa.iconst (v := 1) d_MM_stamp_34 rfl ?_
      refine Wx.cVi (q := E_MM) (As := [.int 1]) 11 (d - 1) 0 0 _ d_MM_stamp_35 mok_MM_no vl_MM_292 rfl rfl rfl (Nat.le_of_ble_eq_true rfl) (by omega) (Nat.zero_le _) (Nat.zero_le _) (s_40 hS (by decide)) hF (fun y8 μ7 hS hF => ?_)
      exact Wx.reti d_MM_stamp_38 rfl hF
    · have hF := hF.2 hb
      refine Wa.aload_n (j := 0) d_MM_stamp_21 rfl ?_
      refine Wx.getR 11 13 d_MM_stamp_22 f_MM_13 rfl fl_MM_47 (s_40 hS (by decide)) (r_40_13 hS (by decide)) ?_
      refine Wa.iload_n (j := 1) d_MM_stamp_25 rfl ?_
      refine Wa.iload_n (j := 2) d_MM_stamp_26 rfl ?_
      refine Wx.cVi (q := E_MS) (As := [.int x1, .int x2]) 13 (d - 1) 0 0 _ d_MM_stamp_27 mok_MS_stampOf vl_MM_360 rfl rfl rfl (Nat.le_of_ble_eq_true rfl) (by omega) (Nat.zero_le _) (Nat.zero_le _) (s_65 hS (by decide)) hF (fun y10 μ9 hS hF => ?_)
      refine Wa.goto 38 d_MM_stamp_30 (by decide) ?_
      exact Wx.reti d_MM_stamp_38 rfl hF
theorem e_MM_stamp {d rc rs : Nat} {Q : Option Value → Mu → Prop} {μ : Mu} {x1 : Int32} {x2 : Int32} (hk : Wx K_MM_stamp d rc rs (fun r μ' => St μ' ∧ Q r μ') 0 [(0, .ref (hd 40 0)), (1, .int x1), (2, .int x2)] [] μ) : Cal K_MM_stamp d rc rs [.ref (hd 40 0), .int x1, .int x2] μ Q := Cal.of (by decide +kernel) rfl rfl (Nat.le_of_ble_eq_true rfl) rfl hk
set_option maxHeartbeats 4000000 in
set_option maxRecDepth 20000 in
theorem g_MM_shown_0 {d rc rs : Nat} {Q : Option Value → Mu → Prop} {μ : Mu} {x1 : Int32} {x2 : Int32} {x3 : Int32} (hD : 1 ≤ d)  (hS : St μ)
    (hF : (Cal K_MM_isNotice (d - 1) 0 0 [.ref (hd 40 0), .int x1, .int x2] (setI μ (hd 40 0) 0 0) (fun r μ1 => ∃ y2, r = some (.int y2) ∧ ((y2 = 0 → (Cal K_MM_no (d - 1) 0 0 [.ref (hd 40 0), .int 1] μ1 (fun r μ3 => ∃ y4, r = some (.int y4) ∧ Q (some (.int y4)) μ3))) ∧ (¬ y2 = 0 → (Cal K_MS_shows (d - 1) 0 0 [.ref (hd 65 0), .int x1, .int x2] μ1 (fun r μ5 => ∃ y6, r = some (.int y6) ∧ (Cal K_MM_isIn (d - 1) 0 0 [.int x3, .int 0, .int (y6 - (1 : Int32))] μ5 (fun r μ7 => ∃ y8, r = some (.int y8) ∧ ((y8 = 0 → (Cal K_MM_no (d - 1) 0 0 [.ref (hd 40 0), .int 1] μ7 (fun r μ9 => ∃ y10, r = some (.int y10) ∧ Q (some (.int y10)) μ9))) ∧ (¬ y8 = 0 → (Cal K_MS_shown (d - 1) 0 0 [.ref (hd 65 0), .int x1, .int x2, .int x3] μ7 (fun r μ11 => ∃ y12, r = some (.int y12) ∧ Q (some (.int y12)) μ11))))))))))))) : Wx K_MM_shown d rc rs Q 0 [(0, .ref (hd 40 0)), (1, .int x1), (2, .int x2), (3, .int x3)] [] μ := by
  refine Wa.aload_n (j := 0) d_MM_shown_0 rfl ?_
  refine Wa.iconst (v := 0) d_MM_shown_1 rfl ?_
  refine Wx.putI 11 0 d_MM_shown_2 f_MM_0 ok_MM fl_MM_57 (Or.inl rfl) w_40 (s_40 hS (by decide)) ?_
  refine Wa.aload_n (j := 0) d_MM_shown_5 rfl ?_
  refine Wa.iload_n (j := 1) d_MM_shown_6 rfl ?_
  refine Wa.iload_n (j := 2) d_MM_shown_7 rfl ?_
  refine Wx.cVi (q := E_MM) (As := [.int x1, .int x2]) 11 (d - 1) 0 0 _ d_MM_shown_8 mok_MM_isNotice vl_MM_363 rfl rfl rfl (Nat.le_of_ble_eq_true rfl) (by omega) (Nat.zero_le _) (Nat.zero_le _) (s_40 hS (by decide)) hF (fun y2 μ1 hS hF => ?_)
  refine Wa.if_eq 46 d_MM_shown_11 (by decide) (fun hb => ?_) (fun hb => ?_)
  · have hF := hF.1 hb
    refine Wa.aload_n (j := 0) d_MM_shown_46 rfl ?_
    refine Wa.iconst (v := 1) d_MM_shown_47 rfl ?_
    refine Wx.cVi (q := E_MM) (As := [.int 1]) 11 (d - 1) 0 0 _ d_MM_shown_48 mok_MM_no vl_MM_292 rfl rfl rfl (Nat.le_of_ble_eq_true rfl) (by omega) (Nat.zero_le _) (Nat.zero_le _) (s_40 hS (by decide)) hF (fun y4 μ3 hS hF => ?_)
    exact Wx.reti d_MM_shown_51 rfl hF
  · have hF := hF.2 hb
    refine Wa.iload_n (j := 3) d_MM_shown_14 rfl ?_
    refine Wa.iconst (v := 0) d_MM_shown_15 rfl ?_
    refine Wa.aload_n (j := 0) d_MM_shown_16 rfl ?_
    refine Wx.getR 11 13 d_MM_shown_17 f_MM_13 rfl fl_MM_47 (s_40 hS (by decide)) (r_40_13 hS (by decide)) ?_
    refine Wa.iload_n (j := 1) d_MM_shown_20 rfl ?_
    refine Wa.iload_n (j := 2) d_MM_shown_21 rfl ?_
    refine Wx.cVi (q := E_MS) (As := [.int x1, .int x2]) 13 (d - 1) 0 0 _ d_MM_shown_22 mok_MS_shows vl_MM_366 rfl rfl rfl (Nat.le_of_ble_eq_true rfl) (by omega) (Nat.zero_le _) (Nat.zero_le _) (s_65 hS (by decide)) hF (fun y6 μ5 hS hF => ?_)
    refine Wa.iconst (v := 1) d_MM_shown_25 rfl ?_
    refine Wa.isub d_MM_shown_26 ?_
    refine Wx.cSi (As := [.int x3, .int 0, .int (y6 - (1 : Int32))]) (d - 1) 0 0 _ d_MM_shown_27 mok_MM_isIn sl_MM_63 rfl rfl (Nat.le_of_ble_eq_true rfl) (by omega) (Nat.zero_le _) (Nat.zero_le _) hF (fun y8 μ7 hS hF => ?_)
    refine Wa.if_eq 46 d_MM_shown_30 (by decide) (fun hb => ?_) (fun hb => ?_)
    · have hF := hF.1 hb
      refine Wa.aload_n (j := 0) d_MM_shown_46 rfl ?_
      refine Wa.iconst (v := 1) d_MM_shown_47 rfl ?_
      refine Wx.cVi (q := E_MM) (As := [.int 1]) 11 (d - 1) 0 0 _ d_MM_shown_48 mok_MM_no vl_MM_292 rfl rfl rfl (Nat.le_of_ble_eq_true rfl) (by omega) (Nat.zero_le _) (Nat.zero_le _) (s_40 hS (by decide)) hF (fun y10 μ9 hS hF => ?_)
      exact Wx.reti d_MM_shown_51 rfl hF
    · have hF := hF.2 hb
      refine Wa.aload_n (j := 0) d_MM_shown_33 rfl ?_
      refine Wx.getR 11 13 d_MM_shown_34 f_MM_13 rfl fl_MM_47 (s_40 hS (by decide)) (r_40_13 hS (by decide)) ?_
      refine Wa.iload_n (j := 1) d_MM_shown_37 rfl ?_
      refine Wa.iload_n (j := 2) d_MM_shown_38 rfl ?_
      refine Wa.iload_n (j := 3) d_MM_shown_39 rfl ?_
      refine Wx.cVi (q := E_MS) (As := [.int x1, .int x2, .int x3]) 13 (d - 1) 0 0 _ d_MM_shown_40 mok_MS_shown vl_MM_369 rfl rfl rfl (Nat.le_of_ble_eq_true rfl) (by omega) (Nat.zero_le _) (Nat.zero_le _) (s_65 hS (by decide)) hF (fun y12 μ11 hS hF => ?_)
      refine Wa.goto 51 d_MM_shown_43 (by decide) ?_
      exact Wx.reti d_MM_shown_51 rfl hF
theorem e_MM_shown {d rc rs : Nat} {Q : Option Value → Mu → Prop} {μ : Mu} {x1 : Int32} {x2 : Int32} {x3 : Int32} (hk : Wx K_MM_shown d rc rs (fun r μ' => St μ' ∧ Q r μ') 0 [(0, .ref (hd 40 0)), (1, .int x1), (2, .int x2), (3, .int x3)] [] μ) : Cal K_MM_shown d rc rs [.ref (hd 40 0), .int x1, .int x2, .int x3] μ Q := Cal.of (by decide +kernel) rfl rfl (Nat.le_of_ble_eq_true rfl) rfl hk
set_option maxHeartbeats 4000000 in
set_option maxRecDepth 20000 in
theorem g_MM_compare_0 {d rc rs : Nat} {Q : Option Value → Mu → Prop} {μ : Mu} {x1 : Int32} {x2 : Int32} (hD : 1 ≤ d)  (hS : St μ)
    (hF : (Cal K_MM_isSheet (d - 1) 0 0 [.ref (hd 40 0), .int x1] (setI μ (hd 40 0) 0 0) (fun r μ1 => ∃ y2, r = some (.int y2) ∧ ((y2 = 0 → (Cal K_MM_no (d - 1) 0 0 [.ref (hd 40 0), .int 1] μ1 (fun r μ3 => ∃ y4, r = some (.int y4) ∧ Q (some (.int y4)) μ3))) ∧ (¬ y2 = 0 → (Cal K_MM_isSheet (d - 1) 0 0 [.ref (hd 40 0), .int x2] μ1 (fun r μ5 => ∃ y6, r = some (.int y6) ∧ ((y6 = 0 → (Cal K_MM_no (d - 1) 0 0 [.ref (hd 40 0), .int 1] μ5 (fun r μ11 => ∃ y12, r = some (.int y12) ∧ Q (some (.int y12)) μ11))) ∧ (¬ y6 = 0 → ((x1 = x2 → Q (some (.int 0)) μ5) ∧ (¬ x1 = x2 → (Cal K_MS_isAhead (d - 1) 0 0 [.ref (hd 65 0), .int x1, .int x2] μ5 (fun r μ7 => ∃ y8, r = some (.int y8) ∧ ((y8 = 0 → (Cal K_MS_isAhead (d - 1) 0 0 [.ref (hd 65 0), .int x2, .int x1] μ7 (fun r μ9 => ∃ y10, r = some (.int y10) ∧ ((y10 = 0 → Q (some (.int 3)) μ9) ∧ (¬ y10 = 0 → Q (some (.int 2)) μ9))))) ∧ (¬ y8 = 0 → Q (some (.int 1)) μ7))))))))))))))) : Wx K_MM_compare d rc rs Q 0 [(0, .ref (hd 40 0)), (1, .int x1), (2, .int x2)] [] μ := by
  refine Wa.aload_n (j := 0) d_MM_compare_0 rfl ?_
  refine Wa.iconst (v := 0) d_MM_compare_1 rfl ?_
  refine Wx.putI 11 0 d_MM_compare_2 f_MM_0 ok_MM fl_MM_57 (Or.inl rfl) w_40 (s_40 hS (by decide)) ?_
  refine Wa.aload_n (j := 0) d_MM_compare_5 rfl ?_
  refine Wa.iload_n (j := 1) d_MM_compare_6 rfl ?_
  refine Wx.cVi (q := E_MM) (As := [.int x1]) 11 (d - 1) 0 0 _ d_MM_compare_7 mok_MM_isSheet vl_MM_354 rfl rfl rfl (Nat.le_of_ble_eq_true rfl) (by omega) (Nat.zero_le _) (Nat.zero_le _) (s_40 hS (by decide)) hF (fun y2 μ1 hS hF => ?_)
  refine Wa.if_eq 21 d_MM_compare_10 (by decide) (fun hb => ?_) (fun hb => ?_)
  · have hF := hF.1 hb
    refine Wa.aload_n (j := 0) d_MM_compare_21 rfl ?_
    refine Wa.iconst (v := 1) d_MM_compare_22 rfl ?_
    refine Wx.cVi (q := E_MM) (As := [.int 1]) 11 (d - 1) 0 0 _ d_MM_compare_23 mok_MM_no vl_MM_292 rfl rfl rfl (Nat.le_of_ble_eq_true rfl) (by omega) (Nat.zero_le _) (Nat.zero_le _) (s_40 hS (by decide)) hF (fun y4 μ3 hS hF => ?_)
    exact Wx.reti d_MM_compare_26 rfl hF
  · have hF := hF.2 hb
    refine Wa.aload_n (j := 0) d_MM_compare_13 rfl ?_
    refine Wa.iload_n (j := 2) d_MM_compare_14 rfl ?_
    refine Wx.cVi (q := E_MM) (As := [.int x2]) 11 (d - 1) 0 0 _ d_MM_compare_15 mok_MM_isSheet vl_MM_354 rfl rfl rfl (Nat.le_of_ble_eq_true rfl) (by omega) (Nat.zero_le _) (Nat.zero_le _) (s_40 hS (by decide)) hF (fun y6 μ5 hS hF => ?_)
    refine Wa.if_ne 27 d_MM_compare_18 (by decide) (fun hb => ?_) (fun hb => ?_)
    · have hF := hF.2 hb
      refine Wa.iload_n (j := 1) d_MM_compare_27 rfl ?_
      refine Wa.iload_n (j := 2) d_MM_compare_28 rfl ?_
      refine Wa.icmp_ne 36 d_MM_compare_29 (by decide) (fun hb => ?_) (fun hb => ?_)
      · have hF := hF.2 hb
        refine Wa.aload_n (j := 0) d_MM_compare_36 rfl ?_
        refine Wx.getR 11 13 d_MM_compare_37 f_MM_13 rfl fl_MM_47 (s_40 hS (by decide)) (r_40_13 hS (by decide)) ?_
        refine Wa.iload_n (j := 1) d_MM_compare_40 rfl ?_
        refine Wa.iload_n (j := 2) d_MM_compare_41 rfl ?_
        refine Wx.cVi (q := E_MS) (As := [.int x1, .int x2]) 13 (d - 1) 0 0 _ d_MM_compare_42 mok_MS_isAhead vl_MM_372 rfl rfl rfl (Nat.le_of_ble_eq_true rfl) (by omega) (Nat.zero_le _) (Nat.zero_le _) (s_65 hS (by decide)) hF (fun y8 μ7 hS hF => ?_)
        refine Wa.if_eq 52 d_MM_compare_45 (by decide) (fun hb => ?_) (fun hb => ?_)
        · have hF := hF.1 hb
          refine Wa.aload_n (j := 0) d_MM_compare_52 rfl ?_
          refine Wx.getR 11 13 d_MM_compare_53 f_MM_13 rfl fl_MM_47 (s_40 hS (by decide)) (r_40_13 hS (by decide)) ?_
          refine Wa.iload_n (j := 2) d_MM_compare_56 rfl ?_
          refine Wa.iload_n (j := 1) d_MM_compare_57 rfl ?_
          refine Wx.cVi (q := E_MS) (As := [.int x2, .int x1]) 13 (d - 1) 0 0 _ d_MM_compare_58 mok_MS_isAhead vl_MM_372 rfl rfl rfl (Nat.le_of_ble_eq_true rfl) (by omega) (Nat.zero_le _) (Nat.zero_le _) (s_65 hS (by decide)) hF (fun y10 μ9 hS hF => ?_)
          refine Wa.if_eq 68 d_MM_compare_61 (by decide) (fun hb => ?_) (fun hb => ?_)
          · have hF := hF.1 hb
            refine Wa.iconst (v := 3) d_MM_compare_68 rfl ?_
            exact Wx.reti d_MM_compare_69 rfl hF
          · have hF := hF.2 hb
            refine Wa.iconst (v := 2) d_MM_compare_64 rfl ?_
            refine Wa.goto 69 d_MM_compare_65 (by decide) ?_
            exact Wx.reti d_MM_compare_69 rfl hF
        · have hF := hF.2 hb
          refine Wa.iconst (v := 1) d_MM_compare_48 rfl ?_
          refine Wa.goto 69 d_MM_compare_49 (by decide) ?_
          exact Wx.reti d_MM_compare_69 rfl hF
      · have hF := hF.1 hb
        refine Wa.iconst (v := 0) d_MM_compare_32 rfl ?_
        refine Wa.goto 69 d_MM_compare_33 (by decide) ?_
        exact Wx.reti d_MM_compare_69 rfl hF
    · have hF := hF.1 hb
      refine Wa.aload_n (j := 0) d_MM_compare_21 rfl ?_
      refine Wa.iconst (v := 1) d_MM_compare_22 rfl ?_
      refine Wx.cVi (q := E_MM) (As := [.int 1]) 11 (d - 1) 0 0 _ d_MM_compare_23 mok_MM_no vl_MM_292 rfl rfl rfl (Nat.le_of_ble_eq_true rfl) (by omega) (Nat.zero_le _) (Nat.zero_le _) (s_40 hS (by decide)) hF (fun y12 μ11 hS hF => ?_)
      exact Wx.reti d_MM_compare_26 rfl hF
theorem e_MM_compare {d rc rs : Nat} {Q : Option Value → Mu → Prop} {μ : Mu} {x1 : Int32} {x2 : Int32} (hk : Wx K_MM_compare d rc rs (fun r μ' => St μ' ∧ Q r μ') 0 [(0, .ref (hd 40 0)), (1, .int x1), (2, .int x2)] [] μ) : Cal K_MM_compare d rc rs [.ref (hd 40 0), .int x1, .int x2] μ Q := Cal.of (by decide +kernel) rfl rfl (Nat.le_of_ble_eq_true rfl) rfl hk
set_option maxHeartbeats 4000000 in
set_option maxRecDepth 20000 in
theorem g_MM_roadTold_0 {d rc rs : Nat} {Q : Option Value → Mu → Prop} {μ : Mu} {x1 : Int32} {x2 : Int32} (hD : 1 ≤ d)  (hS : St μ)
    (hF : (((x2 = 0) → (vp_in x1 8 ∧ Q (some (.int (mI μ (hd 51 (px μ (hd 40 0) 11)) x1.toNatClampNeg))) μ)) ∧ ((x2 = 1) → (vp_in x1 8 ∧ Q (some (.int (mI μ (hd 52 (px μ (hd 40 0) 11)) x1.toNatClampNeg))) μ)) ∧ ((x2 = 2) → (vp_in x1 8 ∧ Q (some (.int (mI μ (hd 76 0) x1.toNatClampNeg))) μ)) ∧ ((x2 = 3) → (Cal K_MS_underWay (d - 1) 0 0 [.ref (hd 65 0), .int x1] μ (fun r μ10 => ∃ y11, r = some (.int y11) ∧ Q (some (.int y11)) μ10))) ∧ ((x2.toInt < 0 ∨ 3 < x2.toInt) → (vp_in x1 8 ∧ Q (some (.int (mI μ (hd 77 0) x1.toNatClampNeg))) μ)))) : Wx K_MM_roadTold d rc rs Q 0 [(0, .ref (hd 40 0)), (1, .int x1), (2, .int x2)] [] μ := by
  refine Wa.iload_n (j := 2) d_MM_roadTold_0 rfl ?_
  have k1 : (x2 = 0) → Wx K_MM_roadTold d rc rs Q 32 [(0, .ref (hd 40 0)), (1, .int x1), (2, .int x2)] [] μ := by
    intro hb
    have hF := hF.1 hb
    refine Wa.aload_n (j := 0) d_MM_roadTold_32 rfl ?_
    have hp2 := St.plan hS
    refine Wx.getR 11 11 d_MM_roadTold_33 f_MM_11 rfl fl_MM_35 (s_40 hS (by decide)) (hp2.1) ?_
    refine Wx.getR 12 3 d_MM_roadTold_36 f_MP_3 rfl fl_MM_248 (s_50 hp2.2) (r_50_3 hp2.2) ?_
    refine Wa.iload_n (j := 1) d_MM_roadTold_39 rfl ?_
    have hc3 := hF.1
    have hF := hF.2
    have hlhc3 := vp_in_lt hc3
    refine Wx.iald d_MM_roadTold_40 w_51 (s_51 hp2.2) hc3 ?_
    exact Wx.reti d_MM_roadTold_41 rfl hF
  have k4 : (x2 = 1) → Wx K_MM_roadTold d rc rs Q 42 [(0, .ref (hd 40 0)), (1, .int x1), (2, .int x2)] [] μ := by
    intro hb
    have hF := hF.2.1 hb
    refine Wa.aload_n (j := 0) d_MM_roadTold_42 rfl ?_
    have hp5 := St.plan hS
    refine Wx.getR 11 11 d_MM_roadTold_43 f_MM_11 rfl fl_MM_35 (s_40 hS (by decide)) (hp5.1) ?_
    refine Wx.getR 12 4 d_MM_roadTold_46 f_MP_4 rfl fl_MM_241 (s_50 hp5.2) (r_50_4 hp5.2) ?_
    refine Wa.iload_n (j := 1) d_MM_roadTold_49 rfl ?_
    have hc6 := hF.1
    have hF := hF.2
    have hlhc6 := vp_in_lt hc6
    refine Wx.iald d_MM_roadTold_50 w_52 (s_52 hp5.2) hc6 ?_
    exact Wx.reti d_MM_roadTold_51 rfl hF
  have k7 : (x2 = 2) → Wx K_MM_roadTold d rc rs Q 52 [(0, .ref (hd 40 0)), (1, .int x1), (2, .int x2)] [] μ := by
    intro hb
    have hF := hF.2.2.1 hb
    refine Wa.aload_n (j := 0) d_MM_roadTold_52 rfl ?_
    refine Wx.getR 11 13 d_MM_roadTold_53 f_MM_13 rfl fl_MM_47 (s_40 hS (by decide)) (r_40_13 hS (by decide)) ?_
    refine Wx.getR 13 15 d_MM_roadTold_56 f_MS_15 rfl fl_MM_375 (s_65 hS (by decide)) (r_65_15 hS (by decide)) ?_
    refine Wa.iload_n (j := 1) d_MM_roadTold_59 rfl ?_
    have hc8 := hF.1
    have hF := hF.2
    have hlhc8 := vp_in_lt hc8
    refine Wx.iald d_MM_roadTold_60 w_76 (s_76 hS (by decide)) hc8 ?_
    exact Wx.reti d_MM_roadTold_61 rfl hF
  have k9 : (x2 = 3) → Wx K_MM_roadTold d rc rs Q 62 [(0, .ref (hd 40 0)), (1, .int x1), (2, .int x2)] [] μ := by
    intro hb
    have hF := hF.2.2.2.1 hb
    refine Wa.aload_n (j := 0) d_MM_roadTold_62 rfl ?_
    refine Wx.getR 11 13 d_MM_roadTold_63 f_MM_13 rfl fl_MM_47 (s_40 hS (by decide)) (r_40_13 hS (by decide)) ?_
    refine Wa.iload_n (j := 1) d_MM_roadTold_66 rfl ?_
    refine Wx.cVi (q := E_MS) (As := [.int x1]) 13 (d - 1) 0 0 _ d_MM_roadTold_67 mok_MS_underWay vl_MM_376 rfl rfl rfl (Nat.le_of_ble_eq_true rfl) (by omega) (Nat.zero_le _) (Nat.zero_le _) (s_65 hS (by decide)) hF (fun y11 μ10 hS hF => ?_)
    exact Wx.reti d_MM_roadTold_70 rfl hF
  have k12 : (x2.toInt < 0 ∨ 3 < x2.toInt) → Wx K_MM_roadTold d rc rs Q 71 [(0, .ref (hd 40 0)), (1, .int x1), (2, .int x2)] [] μ := by
    intro hb
    have hF := hF.2.2.2.2 hb
    refine Wa.aload_n (j := 0) d_MM_roadTold_71 rfl ?_
    refine Wx.getR 11 13 d_MM_roadTold_72 f_MM_13 rfl fl_MM_47 (s_40 hS (by decide)) (r_40_13 hS (by decide)) ?_
    refine Wx.getR 13 16 d_MM_roadTold_75 f_MS_16 rfl fl_MM_379 (s_65 hS (by decide)) (r_65_16 hS (by decide)) ?_
    refine Wa.iload_n (j := 1) d_MM_roadTold_78 rfl ?_
    have hc13 := hF.1
    have hF := hF.2
    have hlhc13 := vp_in_lt hc13
    refine Wx.iald d_MM_roadTold_79 w_77 (s_77 hS (by decide)) hc13 ?_
    exact Wx.reti d_MM_roadTold_80 rfl hF
  rcases sw_0_3 x2 with hb | hb | hb | hb | hb | hb
  · exact Wa.tabOut 71 d_MM_roadTold_1 (Or.inl hb) (by decide) (k12 (Or.inl hb))
  · exact Wa.tabOut 71 d_MM_roadTold_1 (Or.inr hb) (by decide) (k12 (Or.inr hb))
  · exact Wa.tabIn 32 d_MM_roadTold_1 (by rw [hb]; decide) (by rw [hb]; decide) (by rw [hb]; rfl) (by decide) (k1 hb)
  · exact Wa.tabIn 42 d_MM_roadTold_1 (by rw [hb]; decide) (by rw [hb]; decide) (by rw [hb]; rfl) (by decide) (k4 hb)
  · exact Wa.tabIn 52 d_MM_roadTold_1 (by rw [hb]; decide) (by rw [hb]; decide) (by rw [hb]; rfl) (by decide) (k7 hb)
  · exact Wa.tabIn 62 d_MM_roadTold_1 (by rw [hb]; decide) (by rw [hb]; decide) (by rw [hb]; rfl) (by decide) (k9 hb)
theorem e_MM_roadTold {d rc rs : Nat} {Q : Option Value → Mu → Prop} {μ : Mu} {x1 : Int32} {x2 : Int32} (hk : Wx K_MM_roadTold d rc rs (fun r μ' => St μ' ∧ Q r μ') 0 [(0, .ref (hd 40 0)), (1, .int x1), (2, .int x2)] [] μ) : Cal K_MM_roadTold d rc rs [.ref (hd 40 0), .int x1, .int x2] μ Q := Cal.of (by decide +kernel) rfl rfl (Nat.le_of_ble_eq_true rfl) rfl hk
set_option maxHeartbeats 4000000 in
set_option maxRecDepth 20000 in
theorem g_MM_road_0 {d rc rs : Nat} {Q : Option Value → Mu → Prop} {μ : Mu} {x1 : Int32} {x2 : Int32} (hD : 1 ≤ d)  (hS : St μ)
    (hF : (Cal K_MM_isRoad (d - 1) 0 0 [.ref (hd 40 0), .int x1] (setI μ (hd 40 0) 0 0) (fun r μ1 => ∃ y2, r = some (.int y2) ∧ ((y2 = 0 → (Cal K_MM_no (d - 1) 0 0 [.ref (hd 40 0), .int 1] μ1 (fun r μ3 => ∃ y4, r = some (.int y4) ∧ Q (some (.int y4)) μ3))) ∧ (¬ y2 = 0 → (Cal K_MM_isIn (d - 1) 0 0 [.int x2, .int 0, .int 4] μ1 (fun r μ5 => ∃ y6, r = some (.int y6) ∧ ((y6 = 0 → (Cal K_MM_no (d - 1) 0 0 [.ref (hd 40 0), .int 1] μ5 (fun r μ7 => ∃ y8, r = some (.int y8) ∧ Q (some (.int y8)) μ7))) ∧ (¬ y6 = 0 → (Cal K_MM_roadTold (d - 1) 0 0 [.ref (hd 40 0), .int x1, .int x2] μ5 (fun r μ9 => ∃ y10, r = some (.int y10) ∧ Q (some (.int y10)) μ9))))))))))) : Wx K_MM_road d rc rs Q 0 [(0, .ref (hd 40 0)), (1, .int x1), (2, .int x2)] [] μ := by
  refine Wa.aload_n (j := 0) d_MM_road_0 rfl ?_
  refine Wa.iconst (v := 0) d_MM_road_1 rfl ?_
  refine Wx.putI 11 0 d_MM_road_2 f_MM_0 ok_MM fl_MM_57 (Or.inl rfl) w_40 (s_40 hS (by decide)) ?_
  refine Wa.aload_n (j := 0) d_MM_road_5 rfl ?_
  refine Wa.iload_n (j := 1) d_MM_road_6 rfl ?_
  refine Wx.cVi (q := E_MM) (As := [.int x1]) 11 (d - 1) 0 0 _ d_MM_road_7 mok_MM_isRoad vl_MM_382 rfl rfl rfl (Nat.le_of_ble_eq_true rfl) (by omega) (Nat.zero_le _) (Nat.zero_le _) (s_40 hS (by decide)) hF (fun y2 μ1 hS hF => ?_)
  refine Wa.if_eq 31 d_MM_road_10 (by decide) (fun hb => ?_) (fun hb => ?_)
  · have hF := hF.1 hb
    refine Wa.aload_n (j := 0) d_MM_road_31 rfl ?_
    refine Wa.iconst (v := 1) d_MM_road_32 rfl ?_
    refine Wx.cVi (q := E_MM) (As := [.int 1]) 11 (d - 1) 0 0 _ d_MM_road_33 mok_MM_no vl_MM_292 rfl rfl rfl (Nat.le_of_ble_eq_true rfl) (by omega) (Nat.zero_le _) (Nat.zero_le _) (s_40 hS (by decide)) hF (fun y4 μ3 hS hF => ?_)
    exact Wx.reti d_MM_road_36 rfl hF
  · have hF := hF.2 hb
    refine Wa.iload_n (j := 2) d_MM_road_13 rfl ?_
    refine Wa.iconst (v := 0) d_MM_road_14 rfl ?_
    refine Wa.iconst (v := 4) d_MM_road_15 rfl ?_
    refine Wx.cSi (As := [.int x2, .int 0, .int 4]) (d - 1) 0 0 _ d_MM_road_16 mok_MM_isIn sl_MM_63 rfl rfl (Nat.le_of_ble_eq_true rfl) (by omega) (Nat.zero_le _) (Nat.zero_le _) hF (fun y6 μ5 hS hF => ?_)
    refine Wa.if_eq 31 d_MM_road_19 (by decide) (fun hb => ?_) (fun hb => ?_)
    · have hF := hF.1 hb
      refine Wa.aload_n (j := 0) d_MM_road_31 rfl ?_
      refine Wa.iconst (v := 1) d_MM_road_32 rfl ?_
      refine Wx.cVi (q := E_MM) (As := [.int 1]) 11 (d - 1) 0 0 _ d_MM_road_33 mok_MM_no vl_MM_292 rfl rfl rfl (Nat.le_of_ble_eq_true rfl) (by omega) (Nat.zero_le _) (Nat.zero_le _) (s_40 hS (by decide)) hF (fun y8 μ7 hS hF => ?_)
      exact Wx.reti d_MM_road_36 rfl hF
    · have hF := hF.2 hb
      refine Wa.aload_n (j := 0) d_MM_road_22 rfl ?_
      refine Wa.iload_n (j := 1) d_MM_road_23 rfl ?_
      refine Wa.iload_n (j := 2) d_MM_road_24 rfl ?_
      refine Wx.cVi (q := E_MM) (As := [.int x1, .int x2]) 11 (d - 1) 0 0 _ d_MM_road_25 mok_MM_roadTold vl_MM_385 rfl rfl rfl (Nat.le_of_ble_eq_true rfl) (by omega) (Nat.zero_le _) (Nat.zero_le _) (s_40 hS (by decide)) hF (fun y10 μ9 hS hF => ?_)
      refine Wa.goto 36 d_MM_road_28 (by decide) ?_
      exact Wx.reti d_MM_road_36 rfl hF
theorem e_MM_road {d rc rs : Nat} {Q : Option Value → Mu → Prop} {μ : Mu} {x1 : Int32} {x2 : Int32} (hk : Wx K_MM_road d rc rs (fun r μ' => St μ' ∧ Q r μ') 0 [(0, .ref (hd 40 0)), (1, .int x1), (2, .int x2)] [] μ) : Cal K_MM_road d rc rs [.ref (hd 40 0), .int x1, .int x2] μ Q := Cal.of (by decide +kernel) rfl rfl (Nat.le_of_ble_eq_true rfl) rfl hk
set_option maxHeartbeats 4000000 in
set_option maxRecDepth 20000 in
theorem g_MM_write_0 {d rc rs : Nat} {Q : Option Value → Mu → Prop} {μ : Mu} {x1 : Int32} {x2 : Int32} {x3 : Int32} (hD : 1 ≤ d)  (hS : St μ)
    (hF : (Cal K_MM_isNotice (d - 1) 0 0 [.ref (hd 40 0), .int x1, .int x2] (setI μ (hd 40 0) 0 0) (fun r μ1 => ∃ y2, r = some (.int y2) ∧ ((y2 = 0 → (Cal K_MM_no (d - 1) 0 0 [.ref (hd 40 0), .int 1] μ1 (fun r μ11 => ∃ y12, r = some (.int y12) ∧ Q (some (.int y12)) μ11))) ∧ (¬ y2 = 0 → (Cal K_MM_isIn (d - 1) 0 0 [.int x3, .int 0, .int 9999] μ1 (fun r μ3 => ∃ y4, r = some (.int y4) ∧ ((y4 = 0 → (Cal K_MM_no (d - 1) 0 0 [.ref (hd 40 0), .int 2] μ3 (fun r μ9 => ∃ y10, r = some (.int y10) ∧ Q (some (.int y10)) μ9))) ∧ (¬ y4 = 0 → (((mI μ3 (hd 65 0) 1) = 60 → (Cal K_MM_no (d - 1) 0 0 [.ref (hd 40 0), .int 3] μ3 (fun r μ7 => ∃ y8, r = some (.int y8) ∧ Q (some (.int y8)) μ7))) ∧ (¬ (mI μ3 (hd 65 0) 1) = 60 → (Cal K_MS_write (d - 1) 0 0 [.ref (hd 65 0), .int x1, .int x2, .int x3] μ3 (fun r μ5 => ∃ y6, r = some (.int y6) ∧ Q (some (.int y6)) μ5))))))))))))) : Wx K_MM_write d rc rs Q 0 [(0, .ref (hd 40 0)), (1, .int x1), (2, .int x2), (3, .int x3)] [] μ := by
  refine Wa.aload_n (j := 0) d_MM_write_0 rfl ?_
  refine Wa.iconst (v := 0) d_MM_write_1 rfl ?_
  refine Wx.putI 11 0 d_MM_write_2 f_MM_0 ok_MM fl_MM_57 (Or.inl rfl) w_40 (s_40 hS (by decide)) ?_
  refine Wa.aload_n (j := 0) d_MM_write_5 rfl ?_
  refine Wa.iload_n (j := 1) d_MM_write_6 rfl ?_
  refine Wa.iload_n (j := 2) d_MM_write_7 rfl ?_
  refine Wx.cVi (q := E_MM) (As := [.int x1, .int x2]) 11 (d - 1) 0 0 _ d_MM_write_8 mok_MM_isNotice vl_MM_363 rfl rfl rfl (Nat.le_of_ble_eq_true rfl) (by omega) (Nat.zero_le _) (Nat.zero_le _) (s_40 hS (by decide)) hF (fun y2 μ1 hS hF => ?_)
  refine Wa.if_ne 20 d_MM_write_11 (by decide) (fun hb => ?_) (fun hb => ?_)
  · have hF := hF.2 hb
    refine Wa.iload_n (j := 3) d_MM_write_20 rfl ?_
    refine Wa.iconst (v := 0) d_MM_write_21 rfl ?_
    refine Wa.sipush (v := 9999) d_MM_write_22 rfl ?_
    refine Wx.cSi (As := [.int x3, .int 0, .int 9999]) (d - 1) 0 0 _ d_MM_write_25 mok_MM_isIn sl_MM_63 rfl rfl (Nat.le_of_ble_eq_true rfl) (by omega) (Nat.zero_le _) (Nat.zero_le _) hF (fun y4 μ3 hS hF => ?_)
    refine Wa.if_ne 37 d_MM_write_28 (by decide) (fun hb => ?_) (fun hb => ?_)
    · have hF := hF.2 hb
      refine Wa.aload_n (j := 0) d_MM_write_37 rfl ?_
      refine Wx.getR 11 13 d_MM_write_38 f_MM_13 rfl fl_MM_47 (s_40 hS (by decide)) (r_40_13 hS (by decide)) ?_
      refine Wx.getI 13 1 d_MM_write_41 f_MS_1 fl_MM_77 w_65 (s_65 hS (by decide)) ?_
      refine Wa.bipush (v := 60) d_MM_write_44 rfl ?_
      refine Wa.icmp_ne 57 d_MM_write_46 (by decide) (fun hb => ?_) (fun hb => ?_)
      · have hF := hF.2 hb
        refine Wa.aload_n (j := 0) d_MM_write_57 rfl ?_
        refine Wx.getR 11 13 d_MM_write_58 f_MM_13 rfl fl_MM_47 (s_40 hS (by decide)) (r_40_13 hS (by decide)) ?_
        refine Wa.iload_n (j := 1) d_MM_write_61 rfl ?_
        refine Wa.iload_n (j := 2) d_MM_write_62 rfl ?_
        refine Wa.iload_n (j := 3) d_MM_write_63 rfl ?_
        refine Wx.cVi (q := E_MS) (As := [.int x1, .int x2, .int x3]) 13 (d - 1) 0 0 _ d_MM_write_64 mok_MS_write vl_MM_388 rfl rfl rfl (Nat.le_of_ble_eq_true rfl) (by omega) (Nat.zero_le _) (Nat.zero_le _) (s_65 hS (by decide)) hF (fun y6 μ5 hS hF => ?_)
        exact Wx.reti d_MM_write_67 rfl hF
      · have hF := hF.1 hb
        refine Wa.aload_n (j := 0) d_MM_write_49 rfl ?_
        refine Wa.iconst (v := 3) d_MM_write_50 rfl ?_
        refine Wx.cVi (q := E_MM) (As := [.int 3]) 11 (d - 1) 0 0 _ d_MM_write_51 mok_MM_no vl_MM_292 rfl rfl rfl (Nat.le_of_ble_eq_true rfl) (by omega) (Nat.zero_le _) (Nat.zero_le _) (s_40 hS (by decide)) hF (fun y8 μ7 hS hF => ?_)
        refine Wa.goto 67 d_MM_write_54 (by decide) ?_
        exact Wx.reti d_MM_write_67 rfl hF
    · have hF := hF.1 hb
      refine Wa.aload_n (j := 0) d_MM_write_31 rfl ?_
      refine Wa.iconst (v := 2) d_MM_write_32 rfl ?_
      refine Wx.cVi (q := E_MM) (As := [.int 2]) 11 (d - 1) 0 0 _ d_MM_write_33 mok_MM_no vl_MM_292 rfl rfl rfl (Nat.le_of_ble_eq_true rfl) (by omega) (Nat.zero_le _) (Nat.zero_le _) (s_40 hS (by decide)) hF (fun y10 μ9 hS hF => ?_)
      exact Wx.reti d_MM_write_36 rfl hF
  · have hF := hF.1 hb
    refine Wa.aload_n (j := 0) d_MM_write_14 rfl ?_
    refine Wa.iconst (v := 1) d_MM_write_15 rfl ?_
    refine Wx.cVi (q := E_MM) (As := [.int 1]) 11 (d - 1) 0 0 _ d_MM_write_16 mok_MM_no vl_MM_292 rfl rfl rfl (Nat.le_of_ble_eq_true rfl) (by omega) (Nat.zero_le _) (Nat.zero_le _) (s_40 hS (by decide)) hF (fun y12 μ11 hS hF => ?_)
    exact Wx.reti d_MM_write_19 rfl hF
theorem e_MM_write {d rc rs : Nat} {Q : Option Value → Mu → Prop} {μ : Mu} {x1 : Int32} {x2 : Int32} {x3 : Int32} (hk : Wx K_MM_write d rc rs (fun r μ' => St μ' ∧ Q r μ') 0 [(0, .ref (hd 40 0)), (1, .int x1), (2, .int x2), (3, .int x3)] [] μ) : Cal K_MM_write d rc rs [.ref (hd 40 0), .int x1, .int x2, .int x3] μ Q := Cal.of (by decide +kernel) rfl rfl (Nat.le_of_ble_eq_true rfl) rfl hk
set_option maxHeartbeats 4000000 in
set_option maxRecDepth 20000 in
theorem g_MM_note_0 {d rc rs : Nat} {Q : Option Value → Mu → Prop} {μ : Mu} {x1 : Int32} {x2 : Int32} {x3 : Int32} (hD : 1 ≤ d)  (hS : St μ)
    (hF : (Cal K_MM_isNotice (d - 1) 0 0 [.ref (hd 40 0), .int x1, .int x2] (setI μ (hd 40 0) 0 0) (fun r μ1 => ∃ y2, r = some (.int y2) ∧ ((y2 = 0 → (Cal K_MM_no (d - 1) 0 0 [.ref (hd 40 0), .int 1] μ1 (fun r μ15 => ∃ y16, r = some (.int y16) ∧ Q (some (.int y16)) μ15))) ∧ (¬ y2 = 0 → (Cal K_MM_isIn (d - 1) 0 0 [.int x3, .int 0, .int 15] μ1 (fun r μ3 => ∃ y4, r = some (.int y4) ∧ ((y4 = 0 → (Cal K_MM_no (d - 1) 0 0 [.ref (hd 40 0), .int 2] μ3 (fun r μ13 => ∃ y14, r = some (.int y14) ∧ Q (some (.int y14)) μ13))) ∧ (¬ y4 = 0 → (((mI μ3 (hd 65 0) 1) = 60 → (Cal K_MM_no (d - 1) 0 0 [.ref (hd 40 0), .int 3] μ3 (fun r μ5 => ∃ y6, r = some (.int y6) ∧ Q (some (.int y6)) μ5))) ∧ (¬ (mI μ3 (hd 65 0) 1) = 60 → (Cal K_MS_shows (d - 1) 0 0 [.ref (hd 65 0), .int x1, .int x2] μ3 (fun r μ7 => ∃ y8, r = some (.int y8) ∧ ((y8 = 1 → (Cal K_MS_note (d - 1) 0 0 [.ref (hd 65 0), .int x1, .int x2, .int x3] μ7 (fun r μ9 => ∃ y10, r = some (.int y10) ∧ Q (some (.int y10)) μ9))) ∧ (¬ y8 = 1 → (Cal K_MM_no (d - 1) 0 0 [.ref (hd 40 0), .int 3] μ7 (fun r μ11 => ∃ y12, r = some (.int y12) ∧ Q (some (.int y12)) μ11))))))))))))))))) : Wx K_MM_note d rc rs Q 0 [(0, .ref (hd 40 0)), (1, .int x1), (2, .int x2), (3, .int x3)] [] μ := by
  refine Wa.aload_n (j := 0) d_MM_note_0 rfl ?_
  refine Wa.iconst (v := 0) d_MM_note_1 rfl ?_
  refine Wx.putI 11 0 d_MM_note_2 f_MM_0 ok_MM fl_MM_57 (Or.inl rfl) w_40 (s_40 hS (by decide)) ?_
  refine Wa.aload_n (j := 0) d_MM_note_5 rfl ?_
  refine Wa.iload_n (j := 1) d_MM_note_6 rfl ?_
  refine Wa.iload_n (j := 2) d_MM_note_7 rfl ?_
  refine Wx.cVi (q := E_MM) (As := [.int x1, .int x2]) 11 (d - 1) 0 0 _ d_MM_note_8 mok_MM_isNotice vl_MM_363 rfl rfl rfl (Nat.le_of_ble_eq_true rfl) (by omega) (Nat.zero_le _) (Nat.zero_le _) (s_40 hS (by decide)) hF (fun y2 μ1 hS hF => ?_)
  refine Wa.if_ne 20 d_MM_note_11 (by decide) (fun hb => ?_) (fun hb => ?_)
  · have hF := hF.2 hb
    refine Wa.iload_n (j := 3) d_MM_note_20 rfl ?_
    refine Wa.iconst (v := 0) d_MM_note_21 rfl ?_
    refine Wa.bipush (v := 15) d_MM_note_22 rfl ?_
    refine Wx.cSi (As := [.int x3, .int 0, .int 15]) (d - 1) 0 0 _ d_MM_note_24 mok_MM_isIn sl_MM_63 rfl rfl (Nat.le_of_ble_eq_true rfl) (by omega) (Nat.zero_le _) (Nat.zero_le _) hF (fun y4 μ3 hS hF => ?_)
    refine Wa.if_ne 36 d_MM_note_27 (by decide) (fun hb => ?_) (fun hb => ?_)
    · have hF := hF.2 hb
      refine Wa.aload_n (j := 0) d_MM_note_36 rfl ?_
      refine Wx.getR 11 13 d_MM_note_37 f_MM_13 rfl fl_MM_47 (s_40 hS (by decide)) (r_40_13 hS (by decide)) ?_
      refine Wx.getI 13 1 d_MM_note_40 f_MS_1 fl_MM_77 w_65 (s_65 hS (by decide)) ?_
      refine Wa.bipush (v := 60) d_MM_note_43 rfl ?_
      refine Wa.icmp_eq 61 d_MM_note_45 (by decide) (fun hb => ?_) (fun hb => ?_)
      · have hF := hF.1 hb
        refine Wa.aload_n (j := 0) d_MM_note_61 rfl ?_
        refine Wa.iconst (v := 3) d_MM_note_62 rfl ?_
        refine Wx.cVi (q := E_MM) (As := [.int 3]) 11 (d - 1) 0 0 _ d_MM_note_63 mok_MM_no vl_MM_292 rfl rfl rfl (Nat.le_of_ble_eq_true rfl) (by omega) (Nat.zero_le _) (Nat.zero_le _) (s_40 hS (by decide)) hF (fun y6 μ5 hS hF => ?_)
        refine Wa.goto 79 d_MM_note_66 (by decide) ?_
        exact Wx.reti d_MM_note_79 rfl hF
      · have hF := hF.2 hb
        refine Wa.aload_n (j := 0) d_MM_note_48 rfl ?_
        refine Wx.getR 11 13 d_MM_note_49 f_MM_13 rfl fl_MM_47 (s_40 hS (by decide)) (r_40_13 hS (by decide)) ?_
        refine Wa.iload_n (j := 1) d_MM_note_52 rfl ?_
        refine Wa.iload_n (j := 2) d_MM_note_53 rfl ?_
        refine Wx.cVi (q := E_MS) (As := [.int x1, .int x2]) 13 (d - 1) 0 0 _ d_MM_note_54 mok_MS_shows vl_MM_366 rfl rfl rfl (Nat.le_of_ble_eq_true rfl) (by omega) (Nat.zero_le _) (Nat.zero_le _) (s_65 hS (by decide)) hF (fun y8 μ7 hS hF => ?_)
        refine Wa.iconst (v := 1) d_MM_note_57 rfl ?_
        refine Wa.icmp_eq 69 d_MM_note_58 (by decide) (fun hb => ?_) (fun hb => ?_)
        · have hF := hF.1 hb
          refine Wa.aload_n (j := 0) d_MM_note_69 rfl ?_
          refine Wx.getR 11 13 d_MM_note_70 f_MM_13 rfl fl_MM_47 (s_40 hS (by decide)) (r_40_13 hS (by decide)) ?_
          refine Wa.iload_n (j := 1) d_MM_note_73 rfl ?_
          refine Wa.iload_n (j := 2) d_MM_note_74 rfl ?_
          refine Wa.iload_n (j := 3) d_MM_note_75 rfl ?_
          refine Wx.cVi (q := E_MS) (As := [.int x1, .int x2, .int x3]) 13 (d - 1) 0 0 _ d_MM_note_76 mok_MS_note vl_MM_391 rfl rfl rfl (Nat.le_of_ble_eq_true rfl) (by omega) (Nat.zero_le _) (Nat.zero_le _) (s_65 hS (by decide)) hF (fun y10 μ9 hS hF => ?_)
          exact Wx.reti d_MM_note_79 rfl hF
        · have hF := hF.2 hb
          refine Wa.aload_n (j := 0) d_MM_note_61 rfl ?_
          refine Wa.iconst (v := 3) d_MM_note_62 rfl ?_
          refine Wx.cVi (q := E_MM) (As := [.int 3]) 11 (d - 1) 0 0 _ d_MM_note_63 mok_MM_no vl_MM_292 rfl rfl rfl (Nat.le_of_ble_eq_true rfl) (by omega) (Nat.zero_le _) (Nat.zero_le _) (s_40 hS (by decide)) hF (fun y12 μ11 hS hF => ?_)
          refine Wa.goto 79 d_MM_note_66 (by decide) ?_
          exact Wx.reti d_MM_note_79 rfl hF
    · have hF := hF.1 hb
      refine Wa.aload_n (j := 0) d_MM_note_30 rfl ?_
      refine Wa.iconst (v := 2) d_MM_note_31 rfl ?_
      refine Wx.cVi (q := E_MM) (As := [.int 2]) 11 (d - 1) 0 0 _ d_MM_note_32 mok_MM_no vl_MM_292 rfl rfl rfl (Nat.le_of_ble_eq_true rfl) (by omega) (Nat.zero_le _) (Nat.zero_le _) (s_40 hS (by decide)) hF (fun y14 μ13 hS hF => ?_)
      exact Wx.reti d_MM_note_35 rfl hF
  · have hF := hF.1 hb
    refine Wa.aload_n (j := 0) d_MM_note_14 rfl ?_
    refine Wa.iconst (v := 1) d_MM_note_15 rfl ?_
    refine Wx.cVi (q := E_MM) (As := [.int 1]) 11 (d - 1) 0 0 _ d_MM_note_16 mok_MM_no vl_MM_292 rfl rfl rfl (Nat.le_of_ble_eq_true rfl) (by omega) (Nat.zero_le _) (Nat.zero_le _) (s_40 hS (by decide)) hF (fun y16 μ15 hS hF => ?_)
    exact Wx.reti d_MM_note_19 rfl hF
theorem e_MM_note {d rc rs : Nat} {Q : Option Value → Mu → Prop} {μ : Mu} {x1 : Int32} {x2 : Int32} {x3 : Int32} (hk : Wx K_MM_note d rc rs (fun r μ' => St μ' ∧ Q r μ') 0 [(0, .ref (hd 40 0)), (1, .int x1), (2, .int x2), (3, .int x3)] [] μ) : Cal K_MM_note d rc rs [.ref (hd 40 0), .int x1, .int x2, .int x3] μ Q := Cal.of (by decide +kernel) rfl rfl (Nat.le_of_ble_eq_true rfl) rfl hk
set_option maxHeartbeats 4000000 in
set_option maxRecDepth 20000 in
theorem g_MM_merge_0 {d rc rs : Nat} {Q : Option Value → Mu → Prop} {μ : Mu} {x1 : Int32} {x2 : Int32} {x3 : Int32} (hD : 1 ≤ d)  (hS : St μ)
    (hF : (Cal K_MM_isNotice (d - 1) 0 0 [.ref (hd 40 0), .int x1, .int x2] (setI μ (hd 40 0) 0 0) (fun r μ1 => ∃ y2, r = some (.int y2) ∧ ((y2 = 0 → (Cal K_MM_no (d - 1) 0 0 [.ref (hd 40 0), .int 1] μ1 (fun r μ3 => ∃ y4, r = some (.int y4) ∧ Q (some (.int y4)) μ3))) ∧ (¬ y2 = 0 → (Cal K_MM_isIn (d - 1) 0 0 [.int x3, .int 0, .int 2] μ1 (fun r μ5 => ∃ y6, r = some (.int y6) ∧ ((y6 = 0 → (Cal K_MM_no (d - 1) 0 0 [.ref (hd 40 0), .int 1] μ5 (fun r μ15 => ∃ y16, r = some (.int y16) ∧ Q (some (.int y16)) μ15))) ∧ (¬ y6 = 0 → (((mI μ5 (hd 65 0) 1) = 60 → (Cal K_MM_no (d - 1) 0 0 [.ref (hd 40 0), .int 2] μ5 (fun r μ7 => ∃ y8, r = some (.int y8) ∧ Q (some (.int y8)) μ7))) ∧ (¬ (mI μ5 (hd 65 0) 1) = 60 → (Cal K_MS_shows (d - 1) 0 0 [.ref (hd 65 0), .int x1, .int x2] μ5 (fun r μ9 => ∃ y10, r = some (.int y10) ∧ ((2 ≤ y10 → (Cal K_MS_merge (d - 1) 0 0 [.ref (hd 65 0), .int x1, .int x2, .int x3] μ9 (fun r μ11 => ∃ y12, r = some (.int y12) ∧ Q (some (.int y12)) μ11))) ∧ (¬ 2 ≤ y10 → (Cal K_MM_no (d - 1) 0 0 [.ref (hd 40 0), .int 2] μ9 (fun r μ13 => ∃ y14, r = some (.int y14) ∧ Q (some (.int y14)) μ13))))))))))))))))) : Wx K_MM_merge d rc rs Q 0 [(0, .ref (hd 40 0)), (1, .int x1), (2, .int x2), (3, .int x3)] [] μ := by
  refine Wa.aload_n (j := 0) d_MM_merge_0 rfl ?_
  refine Wa.iconst (v := 0) d_MM_merge_1 rfl ?_
  refine Wx.putI 11 0 d_MM_merge_2 f_MM_0 ok_MM fl_MM_57 (Or.inl rfl) w_40 (s_40 hS (by decide)) ?_
  refine Wa.aload_n (j := 0) d_MM_merge_5 rfl ?_
  refine Wa.iload_n (j := 1) d_MM_merge_6 rfl ?_
  refine Wa.iload_n (j := 2) d_MM_merge_7 rfl ?_
  refine Wx.cVi (q := E_MM) (As := [.int x1, .int x2]) 11 (d - 1) 0 0 _ d_MM_merge_8 mok_MM_isNotice vl_MM_363 rfl rfl rfl (Nat.le_of_ble_eq_true rfl) (by omega) (Nat.zero_le _) (Nat.zero_le _) (s_40 hS (by decide)) hF (fun y2 μ1 hS hF => ?_)
  refine Wa.if_eq 23 d_MM_merge_11 (by decide) (fun hb => ?_) (fun hb => ?_)
  · have hF := hF.1 hb
    refine Wa.aload_n (j := 0) d_MM_merge_23 rfl ?_
    refine Wa.iconst (v := 1) d_MM_merge_24 rfl ?_
    refine Wx.cVi (q := E_MM) (As := [.int 1]) 11 (d - 1) 0 0 _ d_MM_merge_25 mok_MM_no vl_MM_292 rfl rfl rfl (Nat.le_of_ble_eq_true rfl) (by omega) (Nat.zero_le _) (Nat.zero_le _) (s_40 hS (by decide)) hF (fun y4 μ3 hS hF => ?_)
    exact Wx.reti d_MM_merge_28 rfl hF
  · have hF := hF.2 hb
    refine Wa.iload_n (j := 3) d_MM_merge_14 rfl ?_
    refine Wa.iconst (v := 0) d_MM_merge_15 rfl ?_
    refine Wa.iconst (v := 2) d_MM_merge_16 rfl ?_
    refine Wx.cSi (As := [.int x3, .int 0, .int 2]) (d - 1) 0 0 _ d_MM_merge_17 mok_MM_isIn sl_MM_63 rfl rfl (Nat.le_of_ble_eq_true rfl) (by omega) (Nat.zero_le _) (Nat.zero_le _) hF (fun y6 μ5 hS hF => ?_)
    refine Wa.if_ne 29 d_MM_merge_20 (by decide) (fun hb => ?_) (fun hb => ?_)
    · have hF := hF.2 hb
      refine Wa.aload_n (j := 0) d_MM_merge_29 rfl ?_
      refine Wx.getR 11 13 d_MM_merge_30 f_MM_13 rfl fl_MM_47 (s_40 hS (by decide)) (r_40_13 hS (by decide)) ?_
      refine Wx.getI 13 1 d_MM_merge_33 f_MS_1 fl_MM_77 w_65 (s_65 hS (by decide)) ?_
      refine Wa.bipush (v := 60) d_MM_merge_36 rfl ?_
      refine Wa.icmp_eq 54 d_MM_merge_38 (by decide) (fun hb => ?_) (fun hb => ?_)
      · have hF := hF.1 hb
        refine Wa.aload_n (j := 0) d_MM_merge_54 rfl ?_
        refine Wa.iconst (v := 2) d_MM_merge_55 rfl ?_
        refine Wx.cVi (q := E_MM) (As := [.int 2]) 11 (d - 1) 0 0 _ d_MM_merge_56 mok_MM_no vl_MM_292 rfl rfl rfl (Nat.le_of_ble_eq_true rfl) (by omega) (Nat.zero_le _) (Nat.zero_le _) (s_40 hS (by decide)) hF (fun y8 μ7 hS hF => ?_)
        refine Wa.goto 72 d_MM_merge_59 (by decide) ?_
        exact Wx.reti d_MM_merge_72 rfl hF
      · have hF := hF.2 hb
        refine Wa.aload_n (j := 0) d_MM_merge_41 rfl ?_
        refine Wx.getR 11 13 d_MM_merge_42 f_MM_13 rfl fl_MM_47 (s_40 hS (by decide)) (r_40_13 hS (by decide)) ?_
        refine Wa.iload_n (j := 1) d_MM_merge_45 rfl ?_
        refine Wa.iload_n (j := 2) d_MM_merge_46 rfl ?_
        refine Wx.cVi (q := E_MS) (As := [.int x1, .int x2]) 13 (d - 1) 0 0 _ d_MM_merge_47 mok_MS_shows vl_MM_366 rfl rfl rfl (Nat.le_of_ble_eq_true rfl) (by omega) (Nat.zero_le _) (Nat.zero_le _) (s_65 hS (by decide)) hF (fun y10 μ9 hS hF => ?_)
        refine Wa.iconst (v := 2) d_MM_merge_50 rfl ?_
        refine Wa.icmp_ge 62 d_MM_merge_51 (by decide) (fun hb => ?_) (fun hb => ?_)
        · have hF := hF.1 hb
          refine Wa.aload_n (j := 0) d_MM_merge_62 rfl ?_
          refine Wx.getR 11 13 d_MM_merge_63 f_MM_13 rfl fl_MM_47 (s_40 hS (by decide)) (r_40_13 hS (by decide)) ?_
          refine Wa.iload_n (j := 1) d_MM_merge_66 rfl ?_
          refine Wa.iload_n (j := 2) d_MM_merge_67 rfl ?_
          refine Wa.iload_n (j := 3) d_MM_merge_68 rfl ?_
          refine Wx.cVi (q := E_MS) (As := [.int x1, .int x2, .int x3]) 13 (d - 1) 0 0 _ d_MM_merge_69 mok_MS_merge vl_MM_394 rfl rfl rfl (Nat.le_of_ble_eq_true rfl) (by omega) (Nat.zero_le _) (Nat.zero_le _) (s_65 hS (by decide)) hF (fun y12 μ11 hS hF => ?_)
          exact Wx.reti d_MM_merge_72 rfl hF
        · have hF := hF.2 hb
          refine Wa.aload_n (j := 0) d_MM_merge_54 rfl ?_
          refine Wa.iconst (v := 2) d_MM_merge_55 rfl ?_
          refine Wx.cVi (q := E_MM) (As := [.int 2]) 11 (d - 1) 0 0 _ d_MM_merge_56 mok_MM_no vl_MM_292 rfl rfl rfl (Nat.le_of_ble_eq_true rfl) (by omega) (Nat.zero_le _) (Nat.zero_le _) (s_40 hS (by decide)) hF (fun y14 μ13 hS hF => ?_)
          refine Wa.goto 72 d_MM_merge_59 (by decide) ?_
          exact Wx.reti d_MM_merge_72 rfl hF
    · have hF := hF.1 hb
      refine Wa.aload_n (j := 0) d_MM_merge_23 rfl ?_
      refine Wa.iconst (v := 1) d_MM_merge_24 rfl ?_
      refine Wx.cVi (q := E_MM) (As := [.int 1]) 11 (d - 1) 0 0 _ d_MM_merge_25 mok_MM_no vl_MM_292 rfl rfl rfl (Nat.le_of_ble_eq_true rfl) (by omega) (Nat.zero_le _) (Nat.zero_le _) (s_40 hS (by decide)) hF (fun y16 μ15 hS hF => ?_)
      exact Wx.reti d_MM_merge_28 rfl hF
theorem e_MM_merge {d rc rs : Nat} {Q : Option Value → Mu → Prop} {μ : Mu} {x1 : Int32} {x2 : Int32} {x3 : Int32} (hk : Wx K_MM_merge d rc rs (fun r μ' => St μ' ∧ Q r μ') 0 [(0, .ref (hd 40 0)), (1, .int x1), (2, .int x2), (3, .int x3)] [] μ) : Cal K_MM_merge d rc rs [.ref (hd 40 0), .int x1, .int x2, .int x3] μ Q := Cal.of (by decide +kernel) rfl rfl (Nat.le_of_ble_eq_true rfl) rfl hk
set_option maxHeartbeats 4000000 in
set_option maxRecDepth 20000 in
theorem g_MM_send_0 {d rc rs : Nat} {Q : Option Value → Mu → Prop} {μ : Mu} {x1 : Int32} (hD : 1 ≤ d)  (hS : St μ)
    (hF : (Cal K_MM_isRoad (d - 1) 0 0 [.ref (hd 40 0), .int x1] (setI μ (hd 40 0) 0 0) (fun r μ1 => ∃ y2, r = some (.int y2) ∧ ((y2 = 0 → (Cal K_MM_no (d - 1) 0 0 [.ref (hd 40 0), .int 1] μ1 (fun r μ3 => ∃ y4, r = some (.int y4) ∧ Q (some (.int y4)) μ3))) ∧ (¬ y2 = 0 → (Cal K_MS_send (d - 1) 0 0 [.ref (hd 65 0), .int x1] μ1 (fun r μ5 => ∃ y6, r = some (.int y6) ∧ Q (some (.int y6)) μ5))))))) : Wx K_MM_send d rc rs Q 0 [(0, .ref (hd 40 0)), (1, .int x1)] [] μ := by
  refine Wa.aload_n (j := 0) d_MM_send_0 rfl ?_
  refine Wa.iconst (v := 0) d_MM_send_1 rfl ?_
  refine Wx.putI 11 0 d_MM_send_2 f_MM_0 ok_MM fl_MM_57 (Or.inl rfl) w_40 (s_40 hS (by decide)) ?_
  refine Wa.aload_n (j := 0) d_MM_send_5 rfl ?_
  refine Wa.iload_n (j := 1) d_MM_send_6 rfl ?_
  refine Wx.cVi (q := E_MM) (As := [.int x1]) 11 (d - 1) 0 0 _ d_MM_send_7 mok_MM_isRoad vl_MM_382 rfl rfl rfl (Nat.le_of_ble_eq_true rfl) (by omega) (Nat.zero_le _) (Nat.zero_le _) (s_40 hS (by decide)) hF (fun y2 μ1 hS hF => ?_)
  refine Wa.if_eq 24 d_MM_send_10 (by decide) (fun hb => ?_) (fun hb => ?_)
  · have hF := hF.1 hb
    refine Wa.aload_n (j := 0) d_MM_send_24 rfl ?_
    refine Wa.iconst (v := 1) d_MM_send_25 rfl ?_
    refine Wx.cVi (q := E_MM) (As := [.int 1]) 11 (d - 1) 0 0 _ d_MM_send_26 mok_MM_no vl_MM_292 rfl rfl rfl (Nat.le_of_ble_eq_true rfl) (by omega) (Nat.zero_le _) (Nat.zero_le _) (s_40 hS (by decide)) hF (fun y4 μ3 hS hF => ?_)
    exact Wx.reti d_MM_send_29 rfl hF
  · have hF := hF.2 hb
    refine Wa.aload_n (j := 0) d_MM_send_13 rfl ?_
    refine Wx.getR 11 13 d_MM_send_14 f_MM_13 rfl fl_MM_47 (s_40 hS (by decide)) (r_40_13 hS (by decide)) ?_
    refine Wa.iload_n (j := 1) d_MM_send_17 rfl ?_
    refine Wx.cVi (q := E_MS) (As := [.int x1]) 13 (d - 1) 0 0 _ d_MM_send_18 mok_MS_send vl_MM_397 rfl rfl rfl (Nat.le_of_ble_eq_true rfl) (by omega) (Nat.zero_le _) (Nat.zero_le _) (s_65 hS (by decide)) hF (fun y6 μ5 hS hF => ?_)
    refine Wa.goto 29 d_MM_send_21 (by decide) ?_
    exact Wx.reti d_MM_send_29 rfl hF
theorem e_MM_send {d rc rs : Nat} {Q : Option Value → Mu → Prop} {μ : Mu} {x1 : Int32} (hk : Wx K_MM_send d rc rs (fun r μ' => St μ' ∧ Q r μ') 0 [(0, .ref (hd 40 0)), (1, .int x1)] [] μ) : Cal K_MM_send d rc rs [.ref (hd 40 0), .int x1] μ Q := Cal.of (by decide +kernel) rfl rfl (Nat.le_of_ble_eq_true rfl) rfl hk
set_option maxHeartbeats 4000000 in
set_option maxRecDepth 20000 in
theorem g_MM_setDays_0 {d rc rs : Nat} {Q : Option Value → Mu → Prop} {μ : Mu} {x1 : Int32} {x2 : Int32} (hD : 1 ≤ d)  (hS : St μ)
    (hF : (Cal K_MM_isRoad (d - 1) 0 0 [.ref (hd 40 0), .int x1] (setI μ (hd 40 0) 0 0) (fun r μ1 => ∃ y2, r = some (.int y2) ∧ ((y2 = 0 → (Cal K_MM_no (d - 1) 0 0 [.ref (hd 40 0), .int 1] μ1 (fun r μ9 => ∃ y10, r = some (.int y10) ∧ Q (some (.int y10)) μ9))) ∧ (¬ y2 = 0 → (Cal K_MM_isIn (d - 1) 0 0 [.int x2, .int 1, .int 9] μ1 (fun r μ3 => ∃ y4, r = some (.int y4) ∧ ((y4 = 0 → (Cal K_MM_no (d - 1) 0 0 [.ref (hd 40 0), .int 2] μ3 (fun r μ7 => ∃ y8, r = some (.int y8) ∧ Q (some (.int y8)) μ7))) ∧ (¬ y4 = 0 → (vp_in x1 8 ∧ (vp_in x1 8 ∧ Q (some (.int (mI μ3 (hd 76 0) x1.toNatClampNeg))) (setI μ3 (hd 76 0) x1.toNatClampNeg x2)))))))))))) : Wx K_MM_setDays d rc rs Q 0 [(0, .ref (hd 40 0)), (1, .int x1), (2, .int x2)] [] μ := by
  refine Wa.aload_n (j := 0) d_MM_setDays_0 rfl ?_
  refine Wa.iconst (v := 0) d_MM_setDays_1 rfl ?_
  refine Wx.putI 11 0 d_MM_setDays_2 f_MM_0 ok_MM fl_MM_57 (Or.inl rfl) w_40 (s_40 hS (by decide)) ?_
  refine Wa.aload_n (j := 0) d_MM_setDays_5 rfl ?_
  refine Wa.iload_n (j := 1) d_MM_setDays_6 rfl ?_
  refine Wx.cVi (q := E_MM) (As := [.int x1]) 11 (d - 1) 0 0 _ d_MM_setDays_7 mok_MM_isRoad vl_MM_382 rfl rfl rfl (Nat.le_of_ble_eq_true rfl) (by omega) (Nat.zero_le _) (Nat.zero_le _) (s_40 hS (by decide)) hF (fun y2 μ1 hS hF => ?_)
  refine Wa.if_ne 19 d_MM_setDays_10 (by decide) (fun hb => ?_) (fun hb => ?_)
  · have hF := hF.2 hb
    refine Wa.iload_n (j := 2) d_MM_setDays_19 rfl ?_
    refine Wa.iconst (v := 1) d_MM_setDays_20 rfl ?_
    refine Wa.bipush (v := 9) d_MM_setDays_21 rfl ?_
    refine Wx.cSi (As := [.int x2, .int 1, .int 9]) (d - 1) 0 0 _ d_MM_setDays_23 mok_MM_isIn sl_MM_63 rfl rfl (Nat.le_of_ble_eq_true rfl) (by omega) (Nat.zero_le _) (Nat.zero_le _) hF (fun y4 μ3 hS hF => ?_)
    refine Wa.if_ne 35 d_MM_setDays_26 (by decide) (fun hb => ?_) (fun hb => ?_)
    · have hF := hF.2 hb
      refine Wa.aload_n (j := 0) d_MM_setDays_35 rfl ?_
      refine Wx.getR 11 13 d_MM_setDays_36 f_MM_13 rfl fl_MM_47 (s_40 hS (by decide)) (r_40_13 hS (by decide)) ?_
      refine Wx.getR 13 15 d_MM_setDays_39 f_MS_15 rfl fl_MM_375 (s_65 hS (by decide)) (r_65_15 hS (by decide)) ?_
      refine Wa.iload_n (j := 1) d_MM_setDays_42 rfl ?_
      have hc5 := hF.1
      have hF := hF.2
      have hlhc5 := vp_in_lt hc5
      refine Wx.iald d_MM_setDays_43 w_76 (s_76 hS (by decide)) hc5 ?_
      refine Wa.istore_n (i := 3) (L' := [(3, .int (mI μ3 (hd 76 0) x1.toNatClampNeg)), (0, .ref (hd 40 0)), (1, .int x1), (2, .int x2)]) d_MM_setDays_44 rfl (by decide) rfl ?_
      refine Wa.aload_n (j := 1) d_MM_setDays_45 rfl ?_
      refine Wx.getR 11 13 d_MM_setDays_46 f_MM_13 rfl fl_MM_47 (s_40 hS (by decide)) (r_40_13 hS (by decide)) ?_
      refine Wx.getR 13 15 d_MM_setDays_49 f_MS_15 rfl fl_MM_375 (s_65 hS (by decide)) (r_65_15 hS (by decide)) ?_
      refine Wa.iload_n (j := 2) d_MM_setDays_52 rfl ?_
      refine Wa.iload_n (j := 3) d_MM_setDays_53 rfl ?_
      have hc6 := hF.1
      have hF := hF.2
      have hlhc6 := vp_in_lt hc6
      refine Wa.iast d_MM_setDays_54 w_76 (s_76 hS (by decide)) hc6 ?_
      refine Wa.iload_n (j := 0) d_MM_setDays_55 rfl ?_
      exact Wx.reti d_MM_setDays_56 rfl hF
    · have hF := hF.1 hb
      refine Wa.aload_n (j := 0) d_MM_setDays_29 rfl ?_
      refine Wa.iconst (v := 2) d_MM_setDays_30 rfl ?_
      refine Wx.cVi (q := E_MM) (As := [.int 2]) 11 (d - 1) 0 0 _ d_MM_setDays_31 mok_MM_no vl_MM_292 rfl rfl rfl (Nat.le_of_ble_eq_true rfl) (by omega) (Nat.zero_le _) (Nat.zero_le _) (s_40 hS (by decide)) hF (fun y8 μ7 hS hF => ?_)
      exact Wx.reti d_MM_setDays_34 rfl hF
  · have hF := hF.1 hb
    refine Wa.aload_n (j := 0) d_MM_setDays_13 rfl ?_
    refine Wa.iconst (v := 1) d_MM_setDays_14 rfl ?_
    refine Wx.cVi (q := E_MM) (As := [.int 1]) 11 (d - 1) 0 0 _ d_MM_setDays_15 mok_MM_no vl_MM_292 rfl rfl rfl (Nat.le_of_ble_eq_true rfl) (by omega) (Nat.zero_le _) (Nat.zero_le _) (s_40 hS (by decide)) hF (fun y10 μ9 hS hF => ?_)
    exact Wx.reti d_MM_setDays_18 rfl hF
theorem e_MM_setDays {d rc rs : Nat} {Q : Option Value → Mu → Prop} {μ : Mu} {x1 : Int32} {x2 : Int32} (hk : Wx K_MM_setDays d rc rs (fun r μ' => St μ' ∧ Q r μ') 0 [(0, .ref (hd 40 0)), (1, .int x1), (2, .int x2)] [] μ) : Cal K_MM_setDays d rc rs [.ref (hd 40 0), .int x1, .int x2] μ Q := Cal.of (by decide +kernel) rfl rfl (Nat.le_of_ble_eq_true rfl) rfl hk
set_option maxHeartbeats 4000000 in
set_option maxRecDepth 20000 in
theorem g_MM_pass_0 {d rc rs : Nat} {Q : Option Value → Mu → Prop} {μ : Mu} {x1 : Int32} (hD : 1 ≤ d)  (hS : St μ)
    (hF : (Cal K_MM_isIn (d - 1) 0 0 [.int x1, .int 1, .int 60] (setI μ (hd 40 0) 0 0) (fun r μ1 => ∃ y2, r = some (.int y2) ∧ ((y2 = 0 → (Cal K_MM_no (d - 1) 0 0 [.ref (hd 40 0), .int 1] μ1 (fun r μ6 => ∃ y7, r = some (.int y7) ∧ Q (some (.int y7)) μ6))) ∧ (¬ y2 = 0 → (Cal K_MS_pass_ (d - 1) 0 0 [.ref (hd 65 0), .int x1] μ1 (fun r μ3 => ∃ y4, r = some (.ref (hd 65 y4)) ∧ y4 < 2 ∧ Q (some (.int ((mI μ3 (hd 65 y4) 2) - (mI μ1 (hd 65 0) 2)))) μ3))))))) : Wx K_MM_pass d rc rs Q 0 [(0, .ref (hd 40 0)), (1, .int x1)] [] μ := by
  refine Wa.aload_n (j := 0) d_MM_pass_0 rfl ?_
  refine Wa.iconst (v := 0) d_MM_pass_1 rfl ?_
  refine Wx.putI 11 0 d_MM_pass_2 f_MM_0 ok_MM fl_MM_57 (Or.inl rfl) w_40 (s_40 hS (by decide)) ?_
  refine Wa.iload_n (j := 1) d_MM_pass_5 rfl ?_
  refine Wa.iconst (v := 1) d_MM_pass_6 rfl ?_
  refine Wa.bipush (v := 60) d_MM_pass_7 rfl ?_
  refine Wx.cSi (As := [.int x1, .int 1, .int 60]) (d - 1) 0 0 _ d_MM_pass_9 mok_MM_isIn sl_MM_63 rfl rfl (Nat.le_of_ble_eq_true rfl) (by omega) (Nat.zero_le _) (Nat.zero_le _) hF (fun y2 μ1 hS hF => ?_)
  refine Wa.if_ne 21 d_MM_pass_12 (by decide) (fun hb => ?_) (fun hb => ?_)
  · have hF := hF.2 hb
    refine Wa.aload_n (j := 0) d_MM_pass_21 rfl ?_
    refine Wx.getR 11 13 d_MM_pass_22 f_MM_13 rfl fl_MM_47 (s_40 hS (by decide)) (r_40_13 hS (by decide)) ?_
    refine Wx.getI 13 2 d_MM_pass_25 f_MS_2 fl_MM_400 w_65 (s_65 hS (by decide)) ?_
    refine Wa.istore_n (i := 2) (L' := [(2, .int (mI μ1 (hd 65 0) 2)), (0, .ref (hd 40 0)), (1, .int x1)]) d_MM_pass_28 rfl (by decide) rfl ?_
    refine Wa.aload_n (j := 1) d_MM_pass_29 rfl ?_
    refine Wx.getR 11 13 d_MM_pass_30 f_MM_13 rfl fl_MM_47 (s_40 hS (by decide)) (r_40_13 hS (by decide)) ?_
    refine Wa.iload_n (j := 2) d_MM_pass_33 rfl ?_
    refine Wx.cVr (q := E_MS) (As := [.int x1]) 13 (d - 1) 0 0 _ d_MM_pass_34 mok_MS_pass_ vl_MM_403 rfl rfl rfl (Nat.le_of_ble_eq_true rfl) (by omega) (Nat.zero_le _) (Nat.zero_le _) (s_65 hS (by decide)) hF (fun y4 μ3 hS hy5 hF => ?_)
    refine Wx.getI 13 2 d_MM_pass_37 f_MS_2 fl_MM_400 w_65 (s_65 hS hy5) ?_
    refine Wa.iload_n (j := 0) d_MM_pass_40 rfl ?_
    refine Wa.isub d_MM_pass_41 ?_
    exact Wx.reti d_MM_pass_42 rfl hF
  · have hF := hF.1 hb
    refine Wa.aload_n (j := 0) d_MM_pass_15 rfl ?_
    refine Wa.iconst (v := 1) d_MM_pass_16 rfl ?_
    refine Wx.cVi (q := E_MM) (As := [.int 1]) 11 (d - 1) 0 0 _ d_MM_pass_17 mok_MM_no vl_MM_292 rfl rfl rfl (Nat.le_of_ble_eq_true rfl) (by omega) (Nat.zero_le _) (Nat.zero_le _) (s_40 hS (by decide)) hF (fun y7 μ6 hS hF => ?_)
    exact Wx.reti d_MM_pass_20 rfl hF
theorem e_MM_pass {d rc rs : Nat} {Q : Option Value → Mu → Prop} {μ : Mu} {x1 : Int32} (hk : Wx K_MM_pass d rc rs (fun r μ' => St μ' ∧ Q r μ') 0 [(0, .ref (hd 40 0)), (1, .int x1)] [] μ) : Cal K_MM_pass d rc rs [.ref (hd 40 0), .int x1] μ Q := Cal.of (by decide +kernel) rfl rfl (Nat.le_of_ble_eq_true rfl) rfl hk
set_option maxHeartbeats 4000000 in
set_option maxRecDepth 20000 in
theorem g_MM_foresee_0 {d rc rs : Nat} {Q : Option Value → Mu → Prop} {μ : Mu} {x1 : Int32} {x2 : Int32} (hD : 1 ≤ d)  (hS : St μ)
    (hF : (Cal K_MM_isIn (d - 1) 0 0 [.int x1, .int 1, .int 60] (setI μ (hd 40 0) 0 0) (fun r μ1 => ∃ y2, r = some (.int y2) ∧ ((y2 = 0 → (Cal K_MM_no (d - 1) 0 0 [.ref (hd 40 0), .int 1] μ1 (fun r μ15 => ∃ y16, r = some (.int y16) ∧ Q (some (.int y16)) μ15))) ∧ (¬ y2 = 0 → (Cal K_MM_isIn (d - 1) 0 0 [.int x2, .int 5, .int 11] μ1 (fun r μ3 => ∃ y4, r = some (.int y4) ∧ ((y4 = 0 → (Cal K_MM_no (d - 1) 0 0 [.ref (hd 40 0), .int 2] μ3 (fun r μ5 => ∃ y6, r = some (.int y6) ∧ Q (some (.int y6)) μ5))) ∧ (¬ y4 = 0 → (Cal K_MS_become (d - 1) 0 0 [.ref (hd 65 1), .ref (hd 65 0)] μ3 (fun r μ7 => ∃ y8, r = some (.ref (hd 65 y8)) ∧ y8 < 2 ∧ (Cal K_MS_pass_ (d - 1) 0 0 [.ref (hd 65 y8), .int x1] μ7 (fun r μ10 => ∃ y11, r = some (.ref (hd 65 y11)) ∧ y11 < 2 ∧ (Cal K_MS_counted (d - 1) 0 0 [.ref (hd 65 y11), .int x2] μ10 (fun r μ13 => ∃ y14, r = some (.int y14) ∧ Q (some (.int y14)) μ13))))))))))))))) : Wx K_MM_foresee d rc rs Q 0 [(0, .ref (hd 40 0)), (1, .int x1), (2, .int x2)] [] μ := by
  refine Wa.aload_n (j := 0) d_MM_foresee_0 rfl ?_
  refine Wa.iconst (v := 0) d_MM_foresee_1 rfl ?_
  refine Wx.putI 11 0 d_MM_foresee_2 f_MM_0 ok_MM fl_MM_57 (Or.inl rfl) w_40 (s_40 hS (by decide)) ?_
  refine Wa.iload_n (j := 1) d_MM_foresee_5 rfl ?_
  refine Wa.iconst (v := 1) d_MM_foresee_6 rfl ?_
  refine Wa.bipush (v := 60) d_MM_foresee_7 rfl ?_
  refine Wx.cSi (As := [.int x1, .int 1, .int 60]) (d - 1) 0 0 _ d_MM_foresee_9 mok_MM_isIn sl_MM_63 rfl rfl (Nat.le_of_ble_eq_true rfl) (by omega) (Nat.zero_le _) (Nat.zero_le _) hF (fun y2 μ1 hS hF => ?_)
  refine Wa.if_ne 21 d_MM_foresee_12 (by decide) (fun hb => ?_) (fun hb => ?_)
  · have hF := hF.2 hb
    refine Wa.iload_n (j := 2) d_MM_foresee_21 rfl ?_
    refine Wa.iconst (v := 5) d_MM_foresee_22 rfl ?_
    refine Wa.bipush (v := 11) d_MM_foresee_23 rfl ?_
    refine Wx.cSi (As := [.int x2, .int 5, .int 11]) (d - 1) 0 0 _ d_MM_foresee_25 mok_MM_isIn sl_MM_63 rfl rfl (Nat.le_of_ble_eq_true rfl) (by omega) (Nat.zero_le _) (Nat.zero_le _) hF (fun y4 μ3 hS hF => ?_)
    refine Wa.if_eq 53 d_MM_foresee_28 (by decide) (fun hb => ?_) (fun hb => ?_)
    · have hF := hF.1 hb
      refine Wa.aload_n (j := 0) d_MM_foresee_53 rfl ?_
      refine Wa.iconst (v := 2) d_MM_foresee_54 rfl ?_
      refine Wx.cVi (q := E_MM) (As := [.int 2]) 11 (d - 1) 0 0 _ d_MM_foresee_55 mok_MM_no vl_MM_292 rfl rfl rfl (Nat.le_of_ble_eq_true rfl) (by omega) (Nat.zero_le _) (Nat.zero_le _) (s_40 hS (by decide)) hF (fun y6 μ5 hS hF => ?_)
      exact Wx.reti d_MM_foresee_58 rfl hF
    · have hF := hF.2 hb
      refine Wa.aload_n (j := 0) d_MM_foresee_31 rfl ?_
      refine Wx.getR 11 14 d_MM_foresee_32 f_MM_14 rfl fl_MM_51 (s_40 hS (by decide)) (r_40_14 hS (by decide)) ?_
      refine Wa.aload_n (j := 0) d_MM_foresee_35 rfl ?_
      refine Wx.getR 11 13 d_MM_foresee_36 f_MM_13 rfl fl_MM_47 (s_40 hS (by decide)) (r_40_13 hS (by decide)) ?_
      refine Wx.cVr (q := E_MS) (As := [.ref (hd 65 0)]) 13 (d - 1) 0 0 _ d_MM_foresee_39 mok_MS_become vl_MM_407 rfl rfl rfl (Nat.le_of_ble_eq_true rfl) (by omega) (Nat.zero_le _) (Nat.zero_le _) (s_65 hS (by decide)) hF (fun y8 μ7 hS hy9 hF => ?_)
      refine Wa.iload_n (j := 1) d_MM_foresee_42 rfl ?_
      refine Wx.cVr (q := E_MS) (As := [.int x1]) 13 (d - 1) 0 0 _ d_MM_foresee_43 mok_MS_pass_ vl_MM_403 rfl rfl rfl (Nat.le_of_ble_eq_true rfl) (by omega) (Nat.zero_le _) (Nat.zero_le _) (s_65 hS hy9) hF (fun y11 μ10 hS hy12 hF => ?_)
      refine Wa.iload_n (j := 2) d_MM_foresee_46 rfl ?_
      refine Wx.cVi (q := E_MS) (As := [.int x2]) 13 (d - 1) 0 0 _ d_MM_foresee_47 mok_MS_counted vl_MM_298 rfl rfl rfl (Nat.le_of_ble_eq_true rfl) (by omega) (Nat.zero_le _) (Nat.zero_le _) (s_65 hS hy12) hF (fun y14 μ13 hS hF => ?_)
      refine Wa.goto 58 d_MM_foresee_50 (by decide) ?_
      exact Wx.reti d_MM_foresee_58 rfl hF
  · have hF := hF.1 hb
    refine Wa.aload_n (j := 0) d_MM_foresee_15 rfl ?_
    refine Wa.iconst (v := 1) d_MM_foresee_16 rfl ?_
    refine Wx.cVi (q := E_MM) (As := [.int 1]) 11 (d - 1) 0 0 _ d_MM_foresee_17 mok_MM_no vl_MM_292 rfl rfl rfl (Nat.le_of_ble_eq_true rfl) (by omega) (Nat.zero_le _) (Nat.zero_le _) (s_40 hS (by decide)) hF (fun y16 μ15 hS hF => ?_)
    exact Wx.reti d_MM_foresee_20 rfl hF
theorem e_MM_foresee {d rc rs : Nat} {Q : Option Value → Mu → Prop} {μ : Mu} {x1 : Int32} {x2 : Int32} (hk : Wx K_MM_foresee d rc rs (fun r μ' => St μ' ∧ Q r μ') 0 [(0, .ref (hd 40 0)), (1, .int x1), (2, .int x2)] [] μ) : Cal K_MM_foresee d rc rs [.ref (hd 40 0), .int x1, .int x2] μ Q := Cal.of (by decide +kernel) rfl rfl (Nat.le_of_ble_eq_true rfl) rfl hk
set_option maxHeartbeats 4000000 in
set_option maxRecDepth 20000 in
theorem g_MM_until_0 {d rc rs : Nat} {Q : Option Value → Mu → Prop} {μ : Mu} {x1 : Int32} {x2 : Int32} (hD : 1 ≤ d)  (hS : St μ)
    (hF : (Cal K_MM_isParish (d - 1) 0 0 [.ref (hd 40 0), .int x1] (setI μ (hd 40 0) 0 0) (fun r μ1 => ∃ y2, r = some (.int y2) ∧ ((y2 = 0 → (Cal K_MM_no (d - 1) 0 0 [.ref (hd 40 0), .int 1] μ1 (fun r μ3 => ∃ y4, r = some (.int y4) ∧ Q (some (.int y4)) μ3))) ∧ (¬ y2 = 0 → (Cal K_MM_isSheet (d - 1) 0 0 [.ref (hd 40 0), .int x2] μ1 (fun r μ5 => ∃ y6, r = some (.int y6) ∧ ((y6 = 0 → (Cal K_MM_no (d - 1) 0 0 [.ref (hd 40 0), .int 1] μ5 (fun r μ10 => ∃ y11, r = some (.int y11) ∧ Q (some (.int y11)) μ10))) ∧ (¬ y6 = 0 → (Cal K_MS_become (d - 1) 0 0 [.ref (hd 65 1), .ref (hd 65 0)] μ5 (fun r μ7 => ∃ y8, r = some (.ref (hd 65 y8)) ∧ y8 < 2 ∧ Wx K_MM_until d rc rs Q 41 [(0, .ref (hd 40 0)), (1, .int x1), (2, .int x2), (3, .int 0)] [] μ7))))))))))) : Wx K_MM_until d rc rs Q 0 [(0, .ref (hd 40 0)), (1, .int x1), (2, .int x2)] [] μ := by
  refine Wa.aload_n (j := 0) d_MM_until_0 rfl ?_
  refine Wa.iconst (v := 0) d_MM_until_1 rfl ?_
  refine Wx.putI 11 0 d_MM_until_2 f_MM_0 ok_MM fl_MM_57 (Or.inl rfl) w_40 (s_40 hS (by decide)) ?_
  refine Wa.aload_n (j := 0) d_MM_until_5 rfl ?_
  refine Wa.iload_n (j := 1) d_MM_until_6 rfl ?_
  refine Wx.cVi (q := E_MM) (As := [.int x1]) 11 (d - 1) 0 0 _ d_MM_until_7 mok_MM_isParish vl_MM_67 rfl rfl rfl (Nat.le_of_ble_eq_true rfl) (by omega) (Nat.zero_le _) (Nat.zero_le _) (s_40 hS (by decide)) hF (fun y2 μ1 hS hF => ?_)
  refine Wa.if_eq 21 d_MM_until_10 (by decide) (fun hb => ?_) (fun hb => ?_)
  · have hF := hF.1 hb
    refine Wa.aload_n (j := 0) d_MM_until_21 rfl ?_
    refine Wa.iconst (v := 1) d_MM_until_22 rfl ?_
    refine Wx.cVi (q := E_MM) (As := [.int 1]) 11 (d - 1) 0 0 _ d_MM_until_23 mok_MM_no vl_MM_292 rfl rfl rfl (Nat.le_of_ble_eq_true rfl) (by omega) (Nat.zero_le _) (Nat.zero_le _) (s_40 hS (by decide)) hF (fun y4 μ3 hS hF => ?_)
    exact Wx.reti d_MM_until_26 rfl hF
  · have hF := hF.2 hb
    refine Wa.aload_n (j := 0) d_MM_until_13 rfl ?_
    refine Wa.iload_n (j := 2) d_MM_until_14 rfl ?_
    refine Wx.cVi (q := E_MM) (As := [.int x2]) 11 (d - 1) 0 0 _ d_MM_until_15 mok_MM_isSheet vl_MM_354 rfl rfl rfl (Nat.le_of_ble_eq_true rfl) (by omega) (Nat.zero_le _) (Nat.zero_le _) (s_40 hS (by decide)) hF (fun y6 μ5 hS hF => ?_)
    refine Wa.if_ne 27 d_MM_until_18 (by decide) (fun hb => ?_) (fun hb => ?_)
    · have hF := hF.2 hb
      refine Wa.aload_n (j := 0) d_MM_until_27 rfl ?_
      refine Wx.getR 11 14 d_MM_until_28 f_MM_14 rfl fl_MM_51 (s_40 hS (by decide)) (r_40_14 hS (by decide)) ?_
      refine Wa.aload_n (j := 0) d_MM_until_31 rfl ?_
      refine Wx.getR 11 13 d_MM_until_32 f_MM_13 rfl fl_MM_47 (s_40 hS (by decide)) (r_40_13 hS (by decide)) ?_
      refine Wx.cVr (q := E_MS) (As := [.ref (hd 65 0)]) 13 (d - 1) 0 0 _ d_MM_until_35 mok_MS_become vl_MM_407 rfl rfl rfl (Nat.le_of_ble_eq_true rfl) (by omega) (Nat.zero_le _) (Nat.zero_le _) (s_65 hS (by decide)) hF (fun y8 μ7 hS hy9 hF => ?_)
      refine Wa.pop d_MM_until_38 rfl ?_
      refine Wa.iconst (v := 0) d_MM_until_39 rfl ?_
      refine Wa.istore_n (i := 3) (L' := [(3, .int 0), (0, .ref (hd 40 0)), (1, .int x1), (2, .int x2)]) d_MM_until_40 rfl (by decide) rfl ?_
      exact Wa.loc [1, 2, 3, 0] rfl hF
    · have hF := hF.1 hb
      refine Wa.aload_n (j := 0) d_MM_until_21 rfl ?_
      refine Wa.iconst (v := 1) d_MM_until_22 rfl ?_
      refine Wx.cVi (q := E_MM) (As := [.int 1]) 11 (d - 1) 0 0 _ d_MM_until_23 mok_MM_no vl_MM_292 rfl rfl rfl (Nat.le_of_ble_eq_true rfl) (by omega) (Nat.zero_le _) (Nat.zero_le _) (s_40 hS (by decide)) hF (fun y11 μ10 hS hF => ?_)
      exact Wx.reti d_MM_until_26 rfl hF
theorem e_MM_until {d rc rs : Nat} {Q : Option Value → Mu → Prop} {μ : Mu} {x1 : Int32} {x2 : Int32} (hk : Wx K_MM_until d rc rs (fun r μ' => St μ' ∧ Q r μ') 0 [(0, .ref (hd 40 0)), (1, .int x1), (2, .int x2)] [] μ) : Cal K_MM_until d rc rs [.ref (hd 40 0), .int x1, .int x2] μ Q := Cal.of (by decide +kernel) rfl rfl (Nat.le_of_ble_eq_true rfl) rfl hk
set_option maxHeartbeats 4000000 in
set_option maxRecDepth 20000 in
theorem g_MM_until_41 {d rc rs : Nat} {Q : Option Value → Mu → Prop} {μ : Mu} {x1 : Int32} {x2 : Int32} {x3 : Int32} (hD : 1 ≤ d)  (hS : St μ)
    (hF : ((60 < x3 → Q (some (.int (-1))) μ) ∧ (¬ 60 < x3 → (Cal K_MS_knows (d - 1) 0 0 [.ref (hd 65 1), .int x1, .int x2] μ (fun r μ1 => ∃ y2, r = some (.int y2) ∧ ((y2 = 0 → (Cal K_MS_pass (d - 1) 0 0 [.ref (hd 65 1)] μ1 (fun r μ3 => r = none ∧ Wx K_MM_until d rc rs Q 41 [(0, .ref (hd 40 0)), (1, .int x1), (2, .int x2), (3, .int (x3 + 1))] [] μ3))) ∧ (¬ y2 = 0 → Q (some (.int x3)) μ1))))))) : Wx K_MM_until d rc rs Q 41 [(0, .ref (hd 40 0)), (1, .int x1), (2, .int x2), (3, .int x3)] [] μ := by
  refine Wa.iload_n (j := 3) d_MM_until_41 rfl ?_
  refine Wa.bipush (v := 60) d_MM_until_42 rfl ?_
  refine Wa.icmp_gt 74 d_MM_until_44 (by decide) (fun hb => ?_) (fun hb => ?_)
  · have hF := hF.1 hb
    refine Wa.iconst (v := (-1)) d_MM_until_74 rfl ?_
    exact Wx.reti d_MM_until_75 rfl hF
  · have hF := hF.2 hb
    refine Wa.aload_n (j := 0) d_MM_until_47 rfl ?_
    refine Wx.getR 11 14 d_MM_until_48 f_MM_14 rfl fl_MM_51 (s_40 hS (by decide)) (r_40_14 hS (by decide)) ?_
    refine Wa.iload_n (j := 1) d_MM_until_51 rfl ?_
    refine Wa.iload_n (j := 2) d_MM_until_52 rfl ?_
    refine Wx.cVi (q := E_MS) (As := [.int x1, .int x2]) 13 (d - 1) 0 0 _ d_MM_until_53 mok_MS_knows vl_MM_335 rfl rfl rfl (Nat.le_of_ble_eq_true rfl) (by omega) (Nat.zero_le _) (Nat.zero_le _) (s_65 hS (by decide)) hF (fun y2 μ1 hS hF => ?_)
    refine Wa.if_eq 61 d_MM_until_56 (by decide) (fun hb => ?_) (fun hb => ?_)
    · have hF := hF.1 hb
      refine Wa.aload_n (j := 0) d_MM_until_61 rfl ?_
      refine Wx.getR 11 14 d_MM_until_62 f_MM_14 rfl fl_MM_51 (s_40 hS (by decide)) (r_40_14 hS (by decide)) ?_
      refine Wx.cVv (q := E_MS) (As := []) 13 (d - 1) 0 0 _ d_MM_until_65 mok_MS_pass vl_MM_411 rfl rfl rfl (Nat.le_of_ble_eq_true rfl) (by omega) (Nat.zero_le _) (Nat.zero_le _) (s_65 hS (by decide)) hF (fun μ3 hS hF => ?_)
      refine Wa.iinc (i := 3) (j := 3) (v := (x3 + 1)) (L' := [(3, .int (x3 + 1)), (0, .ref (hd 40 0)), (1, .int x1), (2, .int x2)]) d_MM_until_68 rfl rfl (by decide) rfl ?_
      refine Wa.goto 41 d_MM_until_71 (by decide) ?_
      exact Wa.loc [1, 2, 3, 0] rfl hF
    · have hF := hF.2 hb
      refine Wa.iload_n (j := 3) d_MM_until_59 rfl ?_
      exact Wx.reti d_MM_until_60 rfl hF
set_option maxHeartbeats 4000000 in
set_option maxRecDepth 20000 in
theorem g_MM_alike_0 {d rc rs : Nat} {Q : Option Value → Mu → Prop} {μ : Mu}  (hD : 1 ≤ d)  (hS : St μ)
    (hF : Wx K_MM_alike d rc rs Q 10 [(0, .ref (hd 40 0)), (1, .int 30), (2, .int 0)] [] (setI μ (hd 40 0) 0 0)) : Wx K_MM_alike d rc rs Q 0 [(0, .ref (hd 40 0))] [] μ := by
  refine Wa.aload_n (j := 0) d_MM_alike_0 rfl ?_
  refine Wa.iconst (v := 0) d_MM_alike_1 rfl ?_
  refine Wx.putI 11 0 d_MM_alike_2 f_MM_0 ok_MM fl_MM_57 (Or.inl rfl) w_40 (s_40 hS (by decide)) ?_
  refine Wa.bipush (v := 30) d_MM_alike_5 rfl ?_
  refine Wa.istore_n (i := 1) (L' := [(1, .int 30), (0, .ref (hd 40 0))]) d_MM_alike_7 rfl (by decide) rfl ?_
  refine Wa.iconst (v := 0) d_MM_alike_8 rfl ?_
  refine Wa.istore_n (i := 2) (L' := [(2, .int 0), (1, .int 30), (0, .ref (hd 40 0))]) d_MM_alike_9 rfl (by decide) rfl ?_
  exact Wa.loc [2, 1, 0] rfl hF
theorem e_MM_alike {d rc rs : Nat} {Q : Option Value → Mu → Prop} {μ : Mu}  (hk : Wx K_MM_alike d rc rs (fun r μ' => St μ' ∧ Q r μ') 0 [(0, .ref (hd 40 0))] [] μ) : Cal K_MM_alike d rc rs [.ref (hd 40 0)] μ Q := Cal.of (by decide +kernel) rfl rfl (Nat.le_of_ble_eq_true rfl) rfl hk
set_option maxHeartbeats 4000000 in
set_option maxRecDepth 20000 in
theorem g_MM_alike_10 {d rc rs : Nat} {Q : Option Value → Mu → Prop} {μ : Mu} {x1 : Int32} {x2 : Int32} (hD : 1 ≤ d)  (hS : St μ)
    (hF : (((x1 * (mI μ (hd 50 (px μ (hd 40 0) 11)) 0)) ≤ x2 → Q (some (.int 1)) μ) ∧ (¬ (x1 * (mI μ (hd 50 (px μ (hd 40 0) 11)) 0)) ≤ x2 → (vp_in x2 150 ∧ (¬ x1 = 0 ∧ (vp_in (x2 - x2 / x1 * x1) 150 ∧ (((mI μ (hd 74 0) x2.toNatClampNeg) = (mI μ (hd 74 0) (x2 - x2 / x1 * x1).toNatClampNeg) → Wx K_MM_alike d rc rs Q 10 [(0, .ref (hd 40 0)), (1, .int x1), (2, .int (x2 + 1))] [] μ) ∧ (¬ (mI μ (hd 74 0) x2.toNatClampNeg) = (mI μ (hd 74 0) (x2 - x2 / x1 * x1).toNatClampNeg) → Q (some (.int 0)) μ)))))))) : Wx K_MM_alike d rc rs Q 10 [(0, .ref (hd 40 0)), (1, .int x1), (2, .int x2)] [] μ := by
  refine Wa.iload_n (j := 2) d_MM_alike_10 rfl ?_
  refine Wa.iload_n (j := 1) d_MM_alike_11 rfl ?_
  refine Wa.aload_n (j := 0) d_MM_alike_12 rfl ?_
  have hp1 := St.plan hS
  refine Wx.getR 11 11 d_MM_alike_13 f_MM_11 rfl fl_MM_35 (s_40 hS (by decide)) (hp1.1) ?_
  refine Wx.getI 12 0 d_MM_alike_16 f_MP_0 fl_MM_60 w_50 (s_50 hp1.2) ?_
  refine Wa.imul d_MM_alike_19 ?_
  refine Wa.icmp_ge 54 d_MM_alike_20 (by decide) (fun hb => ?_) (fun hb => ?_)
  · have hF := hF.1 hb
    refine Wa.iconst (v := 1) d_MM_alike_54 rfl ?_
    exact Wx.retz d_MM_alike_55 rfl (Or.inr rfl) hF
  · have hF := hF.2 hb
    refine Wa.aload_n (j := 0) d_MM_alike_23 rfl ?_
    refine Wx.getR 11 13 d_MM_alike_24 f_MM_13 rfl fl_MM_47 (s_40 hS (by decide)) (r_40_13 hS (by decide)) ?_
    refine Wx.getR 13 13 d_MM_alike_27 f_MS_13 rfl fl_MM_323 (s_65 hS (by decide)) (r_65_13 hS (by decide)) ?_
    refine Wa.iload_n (j := 2) d_MM_alike_30 rfl ?_
    have hc2 := hF.1
    have hF := hF.2
    have hlhc2 := vp_in_lt hc2
    refine Wx.iald d_MM_alike_31 w_74 (s_74 hS (by decide)) hc2 ?_
    refine Wa.aload_n (j := 0) d_MM_alike_32 rfl ?_
    refine Wx.getR 11 13 d_MM_alike_33 f_MM_13 rfl fl_MM_47 (s_40 hS (by decide)) (r_40_13 hS (by decide)) ?_
    refine Wx.getR 13 13 d_MM_alike_36 f_MS_13 rfl fl_MM_323 (s_65 hS (by decide)) (r_65_13 hS (by decide)) ?_
    refine Wa.iload_n (j := 2) d_MM_alike_39 rfl ?_
    refine Wa.iload_n (j := 1) d_MM_alike_40 rfl ?_
    have hc3 := hF.1
    have hF := hF.2
    refine Wa.irem d_MM_alike_41 hc3 ?_
    have hc4 := hF.1
    have hF := hF.2
    have hlhc4 := vp_in_lt hc4
    refine Wx.iald d_MM_alike_42 w_74 (s_74 hS (by decide)) hc4 ?_
    refine Wa.icmp_eq 48 d_MM_alike_43 (by decide) (fun hb => ?_) (fun hb => ?_)
    · have hF := hF.1 hb
      refine Wa.iinc (i := 2) (j := 2) (v := (x2 + 1)) (L' := [(2, .int (x2 + 1)), (0, .ref (hd 40 0)), (1, .int x1)]) d_MM_alike_48 rfl rfl (by decide) rfl ?_
      refine Wa.goto 10 d_MM_alike_51 (by decide) ?_
      exact Wa.loc [1, 2, 0] rfl hF
    · have hF := hF.2 hb
      refine Wa.iconst (v := 0) d_MM_alike_46 rfl ?_
      exact Wx.retz d_MM_alike_47 rfl (Or.inl rfl) hF
set_option maxHeartbeats 4000000 in
set_option maxRecDepth 20000 in
theorem g_MM_missed_0 {d rc rs : Nat} {Q : Option Value → Mu → Prop} {μ : Mu}  (hD : 1 ≤ d)  (hS : St μ)
    (hF : Wx K_MM_missed d rc rs Q 7 [(0, .ref (hd 40 0)), (1, .int 0)] [] (setI μ (hd 40 0) 0 0)) : Wx K_MM_missed d rc rs Q 0 [(0, .ref (hd 40 0))] [] μ := by
  refine Wa.aload_n (j := 0) d_MM_missed_0 rfl ?_
  refine Wa.iconst (v := 0) d_MM_missed_1 rfl ?_
  refine Wx.putI 11 0 d_MM_missed_2 f_MM_0 ok_MM fl_MM_57 (Or.inl rfl) w_40 (s_40 hS (by decide)) ?_
  refine Wa.iconst (v := 0) d_MM_missed_5 rfl ?_
  refine Wa.istore_n (i := 1) (L' := [(1, .int 0), (0, .ref (hd 40 0))]) d_MM_missed_6 rfl (by decide) rfl ?_
  exact Wa.loc [1, 0] rfl hF
theorem e_MM_missed {d rc rs : Nat} {Q : Option Value → Mu → Prop} {μ : Mu}  (hk : Wx K_MM_missed d rc rs (fun r μ' => St μ' ∧ Q r μ') 0 [(0, .ref (hd 40 0))] [] μ) : Cal K_MM_missed d rc rs [.ref (hd 40 0)] μ Q := Cal.of (by decide +kernel) rfl rfl (Nat.le_of_ble_eq_true rfl) rfl hk
set_option maxHeartbeats 4000000 in
set_option maxRecDepth 20000 in
theorem g_MM_missed_7 {d rc rs : Nat} {Q : Option Value → Mu → Prop} {μ : Mu} {x1 : Int32} (hD : 1 ≤ d)  (hS : St μ)
    (hF : (((mI μ (hd 65 0) 1) ≤ x1 → Q (some (.int (-1))) μ) ∧ (¬ (mI μ (hd 65 0) 1) ≤ x1 → (Cal K_MM_boards (d - 1) 0 0 [.ref (hd 40 0), .int x1, .int 0] μ (fun r μ1 => ∃ y2, r = some (.int y2) ∧ (((mI μ1 (hd 50 (px μ1 (hd 40 0) 11)) 0) ≤ y2 → Wx K_MM_missed d rc rs Q 7 [(0, .ref (hd 40 0)), (1, .int (x1 + 1))] [] μ1) ∧ (¬ (mI μ1 (hd 50 (px μ1 (hd 40 0) 11)) 0) ≤ y2 → Q (some (.int x1)) μ1))))))) : Wx K_MM_missed d rc rs Q 7 [(0, .ref (hd 40 0)), (1, .int x1)] [] μ := by
  refine Wa.iload_n (j := 1) d_MM_missed_7 rfl ?_
  refine Wa.aload_n (j := 0) d_MM_missed_8 rfl ?_
  refine Wx.getR 11 13 d_MM_missed_9 f_MM_13 rfl fl_MM_47 (s_40 hS (by decide)) (r_40_13 hS (by decide)) ?_
  refine Wx.getI 13 1 d_MM_missed_12 f_MS_1 fl_MM_77 w_65 (s_65 hS (by decide)) ?_
  refine Wa.icmp_ge 42 d_MM_missed_15 (by decide) (fun hb => ?_) (fun hb => ?_)
  · have hF := hF.1 hb
    refine Wa.iconst (v := (-1)) d_MM_missed_42 rfl ?_
    exact Wx.reti d_MM_missed_43 rfl hF
  · have hF := hF.2 hb
    refine Wa.aload_n (j := 0) d_MM_missed_18 rfl ?_
    refine Wa.iload_n (j := 1) d_MM_missed_19 rfl ?_
    refine Wa.iconst (v := 0) d_MM_missed_20 rfl ?_
    refine Wx.cVi (q := E_MM) (As := [.int x1, .int 0]) 11 (d - 1) 0 0 _ d_MM_missed_21 mok_MM_boards vl_MM_350 rfl rfl rfl (Nat.le_of_ble_eq_true rfl) (by omega) (Nat.zero_le _) (Nat.zero_le _) (s_40 hS (by decide)) hF (fun y2 μ1 hS hF => ?_)
    refine Wa.aload_n (j := 0) d_MM_missed_24 rfl ?_
    have hp3 := St.plan hS
    refine Wx.getR 11 11 d_MM_missed_25 f_MM_11 rfl fl_MM_35 (s_40 hS (by decide)) (hp3.1) ?_
    refine Wx.getI 12 0 d_MM_missed_28 f_MP_0 fl_MM_60 w_50 (s_50 hp3.2) ?_
    refine Wa.icmp_ge 36 d_MM_missed_31 (by decide) (fun hb => ?_) (fun hb => ?_)
    · have hF := hF.1 hb
      refine Wa.iinc (i := 1) (j := 1) (v := (x1 + 1)) (L' := [(1, .int (x1 + 1)), (0, .ref (hd 40 0))]) d_MM_missed_36 rfl rfl (by decide) rfl ?_
      refine Wa.goto 7 d_MM_missed_39 (by decide) ?_
      exact Wa.loc [1, 0] rfl hF
    · have hF := hF.2 hb
      refine Wa.iload_n (j := 1) d_MM_missed_34 rfl ?_
      exact Wx.reti d_MM_missed_35 rfl hF
set_option maxHeartbeats 4000000 in
set_option maxRecDepth 20000 in
theorem g_MM_advise_0 {d rc rs : Nat} {Q : Option Value → Mu → Prop} {μ : Mu} {x1 : Int32} (hD : 1 ≤ d)  (hS : St μ)
    (hF : (Cal K_MM_isIn (d - 1) 0 0 [.int x1, .int 1, .int 30] (setI μ (hd 40 0) 0 0) (fun r μ1 => ∃ y2, r = some (.int y2) ∧ ((y2 = 0 → (Cal K_MM_no (d - 1) 0 0 [.ref (hd 40 0), .int 1] μ1 (fun r μ11 => ∃ y12, r = some (.int y12) ∧ Q (some (.int y12)) μ11))) ∧ (¬ y2 = 0 → (Cal K_MS_become (d - 1) 0 0 [.ref (hd 65 1), .ref (hd 65 0)] μ1 (fun r μ3 => ∃ y4, r = some (.ref (hd 65 y4)) ∧ y4 < 2 ∧ (Cal K_MS_pass_ (d - 1) 0 0 [.ref (hd 65 y4), .int x1] μ3 (fun r μ6 => ∃ y7, r = some (.ref (hd 65 y7)) ∧ y7 < 2 ∧ (Cal K_MS_allKnown (d - 1) 0 0 [.ref (hd 65 y7)] μ6 (fun r μ9 => ∃ y10, r = some (.int y10) ∧ Wx K_MM_advise d rc rs Q 45 [(0, .ref (hd 40 0)), (1, .int x1), (2, .int (-1)), (3, .int y10), (4, .int 0)] [] μ9))))))))))) : Wx K_MM_advise d rc rs Q 0 [(0, .ref (hd 40 0)), (1, .int x1)] [] μ := by
  refine Wa.aload_n (j := 0) d_MM_advise_0 rfl ?_
  refine Wa.iconst (v := 0) d_MM_advise_1 rfl ?_
  refine Wx.putI 11 0 d_MM_advise_2 f_MM_0 ok_MM fl_MM_57 (Or.inl rfl) w_40 (s_40 hS (by decide)) ?_
  refine Wa.iload_n (j := 1) d_MM_advise_5 rfl ?_
  refine Wa.iconst (v := 1) d_MM_advise_6 rfl ?_
  refine Wa.bipush (v := 30) d_MM_advise_7 rfl ?_
  refine Wx.cSi (As := [.int x1, .int 1, .int 30]) (d - 1) 0 0 _ d_MM_advise_9 mok_MM_isIn sl_MM_63 rfl rfl (Nat.le_of_ble_eq_true rfl) (by omega) (Nat.zero_le _) (Nat.zero_le _) hF (fun y2 μ1 hS hF => ?_)
  refine Wa.if_ne 21 d_MM_advise_12 (by decide) (fun hb => ?_) (fun hb => ?_)
  · have hF := hF.2 hb
    refine Wa.iconst (v := (-1)) d_MM_advise_21 rfl ?_
    refine Wa.istore_n (i := 2) (L' := [(2, .int (-1)), (0, .ref (hd 40 0)), (1, .int x1)]) d_MM_advise_22 rfl (by decide) rfl ?_
    refine Wa.aload_n (j := 1) d_MM_advise_23 rfl ?_
    refine Wx.getR 11 14 d_MM_advise_24 f_MM_14 rfl fl_MM_51 (s_40 hS (by decide)) (r_40_14 hS (by decide)) ?_
    refine Wa.aload_n (j := 1) d_MM_advise_27 rfl ?_
    refine Wx.getR 11 13 d_MM_advise_28 f_MM_13 rfl fl_MM_47 (s_40 hS (by decide)) (r_40_13 hS (by decide)) ?_
    refine Wx.cVr (q := E_MS) (As := [.ref (hd 65 0)]) 13 (d - 1) 0 0 _ d_MM_advise_31 mok_MS_become vl_MM_407 rfl rfl rfl (Nat.le_of_ble_eq_true rfl) (by omega) (Nat.zero_le _) (Nat.zero_le _) (s_65 hS (by decide)) hF (fun y4 μ3 hS hy5 hF => ?_)
    refine Wa.iload_n (j := 2) d_MM_advise_34 rfl ?_
    refine Wx.cVr (q := E_MS) (As := [.int x1]) 13 (d - 1) 0 0 _ d_MM_advise_35 mok_MS_pass_ vl_MM_403 rfl rfl rfl (Nat.le_of_ble_eq_true rfl) (by omega) (Nat.zero_le _) (Nat.zero_le _) (s_65 hS hy5) hF (fun y7 μ6 hS hy8 hF => ?_)
    refine Wx.cVi (q := E_MS) (As := []) 13 (d - 1) 0 0 _ d_MM_advise_38 mok_MS_allKnown vl_MM_413 rfl rfl rfl (Nat.le_of_ble_eq_true rfl) (by omega) (Nat.zero_le _) (Nat.zero_le _) (s_65 hS hy8) hF (fun y10 μ9 hS hF => ?_)
    refine Wa.istore_n (i := 3) (L' := [(3, .int y10), (2, .int (-1)), (0, .ref (hd 40 0)), (1, .int x1)]) d_MM_advise_41 rfl (by decide) rfl ?_
    refine Wa.iconst (v := 0) d_MM_advise_42 rfl ?_
    refine Wa.istore (i := 4) (L' := [(4, .int 0), (3, .int y10), (2, .int (-1)), (0, .ref (hd 40 0)), (1, .int x1)]) d_MM_advise_43 (by decide) rfl ?_
    exact Wa.loc [3, 4, 2, 1, 0] rfl hF
  · have hF := hF.1 hb
    refine Wa.aload_n (j := 0) d_MM_advise_15 rfl ?_
    refine Wa.iconst (v := 1) d_MM_advise_16 rfl ?_
    refine Wx.cVi (q := E_MM) (As := [.int 1]) 11 (d - 1) 0 0 _ d_MM_advise_17 mok_MM_no vl_MM_292 rfl rfl rfl (Nat.le_of_ble_eq_true rfl) (by omega) (Nat.zero_le _) (Nat.zero_le _) (s_40 hS (by decide)) hF (fun y12 μ11 hS hF => ?_)
    exact Wx.reti d_MM_advise_20 rfl hF
theorem e_MM_advise {d rc rs : Nat} {Q : Option Value → Mu → Prop} {μ : Mu} {x1 : Int32} (hk : Wx K_MM_advise d rc rs (fun r μ' => St μ' ∧ Q r μ') 0 [(0, .ref (hd 40 0)), (1, .int x1)] [] μ) : Cal K_MM_advise d rc rs [.ref (hd 40 0), .int x1] μ Q := Cal.of (by decide +kernel) rfl rfl (Nat.le_of_ble_eq_true rfl) rfl hk
set_option maxHeartbeats 4000000 in
set_option maxRecDepth 20000 in
theorem g_MM_advise_45 {d rc rs : Nat} {Q : Option Value → Mu → Prop} {μ : Mu} {x1 : Int32} {x2 : Int32} {x3 : Int32} {x4 : Int32} (hD : 1 ≤ d)  (hS : St μ)
    (hF : (((mI μ (hd 50 (px μ (hd 40 0) 11)) 2) ≤ x4 → Q (some (.int x2)) μ) ∧ (¬ (mI μ (hd 50 (px μ (hd 40 0) 11)) 2) ≤ x4 → (Cal K_MS_become (d - 1) 0 0 [.ref (hd 65 1), .ref (hd 65 0)] μ (fun r μ2 => ∃ y3, r = some (.ref (hd 65 y3)) ∧ y3 < 2 ∧ (Cal K_MS_send (d - 1) 0 0 [.ref (hd 65 y3), .int x4] μ2 (fun r μ5 => ∃ y6, r = some (.int y6) ∧ (Cal K_MS_pass_ (d - 1) 0 0 [.ref (hd 65 1), .int x1] μ5 (fun r μ7 => ∃ y8, r = some (.ref (hd 65 y8)) ∧ y8 < 2 ∧ (Cal K_MS_allKnown (d - 1) 0 0 [.ref (hd 65 y8)] μ7 (fun r μ10 => ∃ y11, r = some (.int y11) ∧ ((x3 < y11 → Wx K_MM_advise d rc rs Q 45 [(0, .ref (hd 40 0)), (1, .int x1), (2, .int x4), (3, .int y11), (4, .int (x4 + 1))] [] μ10) ∧ (¬ x3 < y11 → Wx K_MM_advise d rc rs Q 45 [(0, .ref (hd 40 0)), (1, .int x1), (2, .int x2), (3, .int x3), (4, .int (x4 + 1))] [] μ10))))))))))))) : Wx K_MM_advise d rc rs Q 45 [(0, .ref (hd 40 0)), (1, .int x1), (2, .int x2), (3, .int x3), (4, .int x4)] [] μ := by
  refine Wa.iload (j := 4) d_MM_advise_45 rfl ?_
  refine Wa.aload_n (j := 0) d_MM_advise_47 rfl ?_
  have hp1 := St.plan hS
  refine Wx.getR 11 11 d_MM_advise_48 f_MM_11 rfl fl_MM_35 (s_40 hS (by decide)) (hp1.1) ?_
  refine Wx.getI 12 2 d_MM_advise_51 f_MP_2 fl_MM_74 w_50 (s_50 hp1.2) ?_
  refine Wa.icmp_ge 108 d_MM_advise_54 (by decide) (fun hb => ?_) (fun hb => ?_)
  · have hF := hF.1 hb
    refine Wa.iload_n (j := 2) d_MM_advise_108 rfl ?_
    exact Wx.reti d_MM_advise_109 rfl hF
  · have hF := hF.2 hb
    refine Wa.aload_n (j := 0) d_MM_advise_57 rfl ?_
    refine Wx.getR 11 14 d_MM_advise_58 f_MM_14 rfl fl_MM_51 (s_40 hS (by decide)) (r_40_14 hS (by decide)) ?_
    refine Wa.aload_n (j := 0) d_MM_advise_61 rfl ?_
    refine Wx.getR 11 13 d_MM_advise_62 f_MM_13 rfl fl_MM_47 (s_40 hS (by decide)) (r_40_13 hS (by decide)) ?_
    refine Wx.cVr (q := E_MS) (As := [.ref (hd 65 0)]) 13 (d - 1) 0 0 _ d_MM_advise_65 mok_MS_become vl_MM_407 rfl rfl rfl (Nat.le_of_ble_eq_true rfl) (by omega) (Nat.zero_le _) (Nat.zero_le _) (s_65 hS (by decide)) hF (fun y3 μ2 hS hy4 hF => ?_)
    refine Wa.iload (j := 4) d_MM_advise_68 rfl ?_
    refine Wx.cVi (q := E_MS) (As := [.int x4]) 13 (d - 1) 0 0 _ d_MM_advise_70 mok_MS_send vl_MM_397 rfl rfl rfl (Nat.le_of_ble_eq_true rfl) (by omega) (Nat.zero_le _) (Nat.zero_le _) (s_65 hS hy4) hF (fun y6 μ5 hS hF => ?_)
    refine Wa.pop d_MM_advise_73 rfl ?_
    refine Wa.aload_n (j := 0) d_MM_advise_74 rfl ?_
    refine Wx.getR 11 14 d_MM_advise_75 f_MM_14 rfl fl_MM_51 (s_40 hS (by decide)) (r_40_14 hS (by decide)) ?_
    refine Wa.iload_n (j := 1) d_MM_advise_78 rfl ?_
    refine Wx.cVr (q := E_MS) (As := [.int x1]) 13 (d - 1) 0 0 _ d_MM_advise_79 mok_MS_pass_ vl_MM_403 rfl rfl rfl (Nat.le_of_ble_eq_true rfl) (by omega) (Nat.zero_le _) (Nat.zero_le _) (s_65 hS (by decide)) hF (fun y8 μ7 hS hy9 hF => ?_)
    refine Wx.cVi (q := E_MS) (As := []) 13 (d - 1) 0 0 _ d_MM_advise_82 mok_MS_allKnown vl_MM_413 rfl rfl rfl (Nat.le_of_ble_eq_true rfl) (by omega) (Nat.zero_le _) (Nat.zero_le _) (s_65 hS hy9) hF (fun y11 μ10 hS hF => ?_)
    refine Wa.istore (i := 5) (L' := [(5, .int y11), (0, .ref (hd 40 0)), (1, .int x1), (2, .int x2), (3, .int x3), (4, .int x4)]) d_MM_advise_85 (by decide) rfl ?_
    refine Wa.iload (j := 0) d_MM_advise_87 rfl ?_
    refine Wa.iload_n (j := 4) d_MM_advise_89 rfl ?_
    refine Wa.icmp_gt 96 d_MM_advise_90 (by decide) (fun hb => ?_) (fun hb => ?_)
    · have hF := hF.1 hb
      refine Wa.iload (j := 5) d_MM_advise_96 rfl ?_
      refine Wa.istore_n (i := 2) (L' := [(2, .int x4), (5, .int y11), (0, .ref (hd 40 0)), (1, .int x1), (3, .int x3), (4, .int x4)]) d_MM_advise_98 rfl (by decide) rfl ?_
      refine Wa.iload (j := 1) d_MM_advise_99 rfl ?_
      refine Wa.istore_n (i := 3) (L' := [(3, .int y11), (2, .int x4), (5, .int y11), (0, .ref (hd 40 0)), (1, .int x1), (4, .int x4)]) d_MM_advise_101 rfl (by decide) rfl ?_
      refine Wa.iinc (i := 4) (j := 5) (v := (x4 + 1)) (L' := [(4, .int (x4 + 1)), (3, .int y11), (2, .int x4), (5, .int y11), (0, .ref (hd 40 0)), (1, .int x1)]) d_MM_advise_102 rfl rfl (by decide) rfl ?_
      refine Wa.goto 45 d_MM_advise_105 (by decide) ?_
      exact Wa.loc [4, 5, 2, 1, 0] rfl hF
    · have hF := hF.2 hb
      refine Wa.goto 102 d_MM_advise_93 (by decide) ?_
      refine Wa.iinc (i := 4) (j := 5) (v := (x4 + 1)) (L' := [(4, .int (x4 + 1)), (5, .int y11), (0, .ref (hd 40 0)), (1, .int x1), (2, .int x2), (3, .int x3)]) d_MM_advise_102 rfl rfl (by decide) rfl ?_
      refine Wa.goto 45 d_MM_advise_105 (by decide) ?_
      exact Wa.loc [2, 3, 4, 5, 0] rfl hF
set_option maxHeartbeats 4000000 in
set_option maxRecDepth 20000 in
theorem g_MM_mean_0 {d rc rs : Nat} {Q : Option Value → Mu → Prop} {μ : Mu}  (hD : 1 ≤ d)  (hS : St μ)
    (hF : (((mI (setI μ (hd 40 0) 0 0) (hd 50 (px μ (hd 40 0) 11)) 0) = 0 → Q (some (.double 0)) (setI μ (hd 40 0) 0 0)) ∧ (¬ (mI (setI μ (hd 40 0) 0 0) (hd 50 (px μ (hd 40 0) 11)) 0) = 0 → (Cal K_MS_allKnown (d - 1) 0 0 [.ref (hd 65 0)] (setI μ (hd 40 0) 0 0) (fun r μ2 => ∃ y3, r = some (.int y3) ∧ (vf_n64 (FP.ddiv (FP.i2d y3) (FP.i2d (mI μ2 (hd 50 (px μ2 (hd 40 0) 11)) 0))) ∧ Q (some (.double (FP.ddiv (FP.i2d y3) (FP.i2d (mI μ2 (hd 50 (px μ2 (hd 40 0) 11)) 0))))) μ2)))))) : Wx K_MM_mean d rc rs Q 0 [(0, .ref (hd 40 0))] [] μ := by
  refine Wa.aload_n (j := 0) d_MM_mean_0 rfl ?_
  refine Wa.iconst (v := 0) d_MM_mean_1 rfl ?_
  refine Wx.putI 11 0 d_MM_mean_2 f_MM_0 ok_MM fl_MM_57 (Or.inl rfl) w_40 (s_40 hS (by decide)) ?_
  refine Wa.aload_n (j := 0) d_MM_mean_5 rfl ?_
  have hp1 := St.plan hS
  refine Wx.getR 11 11 d_MM_mean_6 f_MM_11 rfl fl_MM_35 (s_40 hS (by decide)) (hp1.1) ?_
  refine Wx.getI 12 0 d_MM_mean_9 f_MP_0 fl_MM_60 w_50 (s_50 hp1.2) ?_
  refine Wa.if_ne 19 d_MM_mean_12 (by decide) (fun hb => ?_) (fun hb => ?_)
  · have hF := hF.2 hb
    refine Wa.aload_n (j := 0) d_MM_mean_19 rfl ?_
    refine Wx.getR 11 13 d_MM_mean_20 f_MM_13 rfl fl_MM_47 (s_40 hS (by decide)) (r_40_13 hS (by decide)) ?_
    refine Wx.cVi (q := E_MS) (As := []) 13 (d - 1) 0 0 _ d_MM_mean_23 mok_MS_allKnown vl_MM_413 rfl rfl rfl (Nat.le_of_ble_eq_true rfl) (by omega) (Nat.zero_le _) (Nat.zero_le _) (s_65 hS (by decide)) hF (fun y3 μ2 hS hF => ?_)
    refine Wa.i2d d_MM_mean_26 ?_
    refine Wa.aload_n (j := 0) d_MM_mean_27 rfl ?_
    have hp4 := St.plan hS
    refine Wx.getR 11 11 d_MM_mean_28 f_MM_11 rfl fl_MM_35 (s_40 hS (by decide)) (hp4.1) ?_
    refine Wx.getI 12 0 d_MM_mean_31 f_MP_0 fl_MM_60 w_50 (s_50 hp4.2) ?_
    refine Wa.i2d d_MM_mean_34 ?_
    have hc5 := hF.1
    have hF := hF.2
    refine Wa.ddiv d_MM_mean_35 hc5 ?_
    exact Wx.retd d_MM_mean_36 rfl hF
  · have hF := hF.1 hb
    refine Wa.dconst0 d_MM_mean_15 ?_
    refine Wa.goto 36 d_MM_mean_16 (by decide) ?_
    exact Wx.retd d_MM_mean_36 rfl hF
theorem e_MM_mean {d rc rs : Nat} {Q : Option Value → Mu → Prop} {μ : Mu}  (hk : Wx K_MM_mean d rc rs (fun r μ' => St μ' ∧ Q r μ') 0 [(0, .ref (hd 40 0))] [] μ) : Cal K_MM_mean d rc rs [.ref (hd 40 0)] μ Q := Cal.of (by decide +kernel) rfl rfl (Nat.le_of_ble_eq_true rfl) rfl hk
set_option maxHeartbeats 4000000 in
set_option maxRecDepth 20000 in
theorem g_MM_digest_0 {d rc rs : Nat} {Q : Option Value → Mu → Prop} {μ : Mu}  (hD : 1 ≤ d)  (hS : St μ)
    (hF : Wx K_MM_digest d rc rs Q 11 [(0, .ref (hd 40 0)), (1, .long 929), (3, .int 0)] [] (setI μ (hd 40 0) 0 0)) : Wx K_MM_digest d rc rs Q 0 [(0, .ref (hd 40 0))] [] μ := by
  refine Wa.aload_n (j := 0) d_MM_digest_0 rfl ?_
  refine Wa.iconst (v := 0) d_MM_digest_1 rfl ?_
  refine Wx.putI 11 0 d_MM_digest_2 f_MM_0 ok_MM fl_MM_57 (Or.inl rfl) w_40 (s_40 hS (by decide)) ?_
  refine Wa.ldc2 d_MM_digest_5 k_MM_416 ?_
  refine Wa.lstore_n (i := 1) (L' := [(1, .long 929), (0, .ref (hd 40 0))]) d_MM_digest_8 rfl (by decide) rfl ?_
  refine Wa.iconst (v := 0) d_MM_digest_9 rfl ?_
  refine Wa.istore_n (i := 3) (L' := [(3, .int 0), (1, .long 929), (0, .ref (hd 40 0))]) d_MM_digest_10 rfl (by decide) rfl ?_
  exact Wa.loc [2, 1, 0] rfl hF
theorem e_MM_digest {d rc rs : Nat} {Q : Option Value → Mu → Prop} {μ : Mu}  (hk : Wx K_MM_digest d rc rs (fun r μ' => St μ' ∧ Q r μ') 0 [(0, .ref (hd 40 0))] [] μ) : Cal K_MM_digest d rc rs [.ref (hd 40 0)] μ Q := Cal.of (by decide +kernel) rfl rfl (Nat.le_of_ble_eq_true rfl) rfl hk
set_option maxHeartbeats 4000000 in
set_option maxRecDepth 20000 in
theorem g_MM_digest_11 {d rc rs : Nat} {Q : Option Value → Mu → Prop} {μ : Mu} {x1 : Int64} {x3 : Int32} (hD : 1 ≤ d)  (hS : St μ)
    (hF : ((12 < x3 → Wx K_MM_digest d rc rs Q 38 [(0, .ref (hd 40 0)), (1, .long x1), (3, .int 0)] [] μ) ∧ (¬ 12 < x3 → (1 ≤ rc ∧ 5 ≤ rs ∧ Cal K_MM_counted (d - 1) 1 5 [.ref (hd 40 0), .int x3] μ (fun r μ1 => ∃ y2, r = some (.int y2) ∧ Wx K_MM_digest d (rc - 1) (rs - 5) Q 11 [(0, .ref (hd 40 0)), (1, .long ((x1 * 31) + y2.toInt64)), (3, .int (x3 + 1))] [] μ1))))) : Wx K_MM_digest d rc rs Q 11 [(0, .ref (hd 40 0)), (1, .long x1), (3, .int x3)] [] μ := by
  refine Wa.iload_n (j := 2) d_MM_digest_11 rfl ?_
  refine Wa.bipush (v := 12) d_MM_digest_12 rfl ?_
  refine Wa.icmp_gt 36 d_MM_digest_14 (by decide) (fun hb => ?_) (fun hb => ?_)
  · have hF := hF.1 hb
    refine Wa.iconst (v := 0) d_MM_digest_36 rfl ?_
    refine Wa.istore_n (i := 3) (L' := [(3, .int 0), (0, .ref (hd 40 0)), (1, .long x1)]) d_MM_digest_37 rfl (by decide) rfl ?_
    exact Wa.loc [1, 2, 0] rfl hF
  · have hF := hF.2 hb
    refine Wa.lload_n (j := 1) d_MM_digest_17 rfl ?_
    refine Wa.ldc2 d_MM_digest_18 k_MM_418 ?_
    refine Wa.lmul d_MM_digest_21 ?_
    refine Wa.aload_n (j := 0) d_MM_digest_22 rfl ?_
    refine Wa.iload_n (j := 2) d_MM_digest_23 rfl ?_
    have hq1 := hF.1
    have hq2 := hF.2.1
    have hF := hF.2.2
    refine Wx.cVi (q := E_MM) (As := [.int x3]) 11 (d - 1) 1 5 _ d_MM_digest_24 mok_MM_counted vl_MM_304 rfl rfl rfl (Nat.le_of_ble_eq_true rfl) (by omega) hq1 hq2 (s_40 hS (by decide)) hF (fun y2 μ1 hS hF => ?_)
    refine Wa.i2l d_MM_digest_27 ?_
    refine Wa.ladd d_MM_digest_28 ?_
    refine Wa.lstore_n (i := 1) (L' := [(1, .long ((x1 * 31) + y2.toInt64)), (0, .ref (hd 40 0)), (3, .int x3)]) d_MM_digest_29 rfl (by decide) rfl ?_
    refine Wa.iinc (i := 3) (j := 2) (v := (x3 + 1)) (L' := [(3, .int (x3 + 1)), (1, .long ((x1 * 31) + y2.toInt64)), (0, .ref (hd 40 0))]) d_MM_digest_30 rfl rfl (by decide) rfl ?_
    refine Wa.goto 11 d_MM_digest_33 (by decide) ?_
    exact Wa.loc [2, 1, 0] rfl hF
set_option maxHeartbeats 4000000 in
set_option maxRecDepth 20000 in
theorem g_MM_digest_38 {d rc rs : Nat} {Q : Option Value → Mu → Prop} {μ : Mu} {x1 : Int64} {x3 : Int32} (hD : 1 ≤ d)  (hS : St μ)
    (hF : (((mI μ (hd 50 (px μ (hd 40 0) 11)) 0) ≤ x3 → Wx K_MM_digest d rc rs Q 191 [(0, .ref (hd 40 0)), (1, .long x1), (3, .int 0)] [] μ) ∧ (¬ (mI μ (hd 50 (px μ (hd 40 0) 11)) 0) ≤ x3 → Wx K_MM_digest d rc rs Q 52 [(0, .ref (hd 40 0)), (1, .long x1), (3, .int x3), (4, .int 0)] [] μ))) : Wx K_MM_digest d rc rs Q 38 [(0, .ref (hd 40 0)), (1, .long x1), (3, .int x3)] [] μ := by
  refine Wa.iload_n (j := 2) d_MM_digest_38 rfl ?_
  refine Wa.aload_n (j := 0) d_MM_digest_39 rfl ?_
  have hp1 := St.plan hS
  refine Wx.getR 11 11 d_MM_digest_40 f_MM_11 rfl fl_MM_35 (s_40 hS (by decide)) (hp1.1) ?_
  refine Wx.getI 12 0 d_MM_digest_43 f_MP_0 fl_MM_60 w_50 (s_50 hp1.2) ?_
  refine Wa.icmp_ge 189 d_MM_digest_46 (by decide) (fun hb => ?_) (fun hb => ?_)
  · have hF := hF.1 hb
    refine Wa.iconst (v := 0) d_MM_digest_189 rfl ?_
    refine Wa.istore_n (i := 3) (L' := [(3, .int 0), (0, .ref (hd 40 0)), (1, .long x1)]) d_MM_digest_190 rfl (by decide) rfl ?_
    exact Wa.loc [1, 2, 0] rfl hF
  · have hF := hF.2 hb
    refine Wa.iconst (v := 0) d_MM_digest_49 rfl ?_
    refine Wa.istore (i := 4) (L' := [(4, .int 0), (0, .ref (hd 40 0)), (1, .long x1), (3, .int x3)]) d_MM_digest_50 (by decide) rfl ?_
    exact Wa.loc [1, 2, 3, 0] rfl hF
set_option maxHeartbeats 4000000 in
set_option maxRecDepth 20000 in
theorem g_MM_digest_52 {d rc rs : Nat} {Q : Option Value → Mu → Prop} {μ : Mu} {x1 : Int64} {x3 : Int32} {x4 : Int32} (hD : 1 ≤ d)  (hS : St μ)
    (hF : ((5 < x4 → Wx K_MM_digest d rc rs Q 82 [(0, .ref (hd 40 0)), (1, .long x1), (3, .int x3), (4, .int 0)] [] μ) ∧ (¬ 5 < x4 → (Cal K_MM_parishTold (d - 1) 0 0 [.ref (hd 40 0), .int x3, .int x4] μ (fun r μ1 => ∃ y2, r = some (.int y2) ∧ Wx K_MM_digest d rc rs Q 52 [(0, .ref (hd 40 0)), (1, .long ((x1 * 31) + y2.toInt64)), (3, .int x3), (4, .int (x4 + 1))] [] μ1))))) : Wx K_MM_digest d rc rs Q 52 [(0, .ref (hd 40 0)), (1, .long x1), (3, .int x3), (4, .int x4)] [] μ := by
  refine Wa.iload (j := 3) d_MM_digest_52 rfl ?_
  refine Wa.iconst (v := 5) d_MM_digest_54 rfl ?_
  refine Wa.icmp_gt 79 d_MM_digest_55 (by decide) (fun hb => ?_) (fun hb => ?_)
  · have hF := hF.1 hb
    refine Wa.iconst (v := 0) d_MM_digest_79 rfl ?_
    refine Wa.istore (i := 4) (L' := [(4, .int 0), (0, .ref (hd 40 0)), (1, .long x1), (3, .int x3)]) d_MM_digest_80 (by decide) rfl ?_
    exact Wa.loc [1, 2, 3, 0] rfl hF
  · have hF := hF.2 hb
    refine Wa.lload_n (j := 1) d_MM_digest_58 rfl ?_
    refine Wa.ldc2 d_MM_digest_59 k_MM_418 ?_
    refine Wa.lmul d_MM_digest_62 ?_
    refine Wa.aload_n (j := 0) d_MM_digest_63 rfl ?_
    refine Wa.iload_n (j := 2) d_MM_digest_64 rfl ?_
    refine Wa.iload (j := 3) d_MM_digest_65 rfl ?_
    refine Wx.cVi (q := E_MM) (As := [.int x3, .int x4]) 11 (d - 1) 0 0 _ d_MM_digest_67 mok_MM_parishTold vl_MM_320 rfl rfl rfl (Nat.le_of_ble_eq_true rfl) (by omega) (Nat.zero_le _) (Nat.zero_le _) (s_40 hS (by decide)) hF (fun y2 μ1 hS hF => ?_)
    refine Wa.i2l d_MM_digest_70 ?_
    refine Wa.ladd d_MM_digest_71 ?_
    refine Wa.lstore_n (i := 1) (L' := [(1, .long ((x1 * 31) + y2.toInt64)), (0, .ref (hd 40 0)), (3, .int x3), (4, .int x4)]) d_MM_digest_72 rfl (by decide) rfl ?_
    refine Wa.iinc (i := 4) (j := 3) (v := (x4 + 1)) (L' := [(4, .int (x4 + 1)), (1, .long ((x1 * 31) + y2.toInt64)), (0, .ref (hd 40 0)), (3, .int x3)]) d_MM_digest_73 rfl rfl (by decide) rfl ?_
    refine Wa.goto 52 d_MM_digest_76 (by decide) ?_
    exact Wa.loc [2, 1, 3, 0] rfl hF
set_option maxHeartbeats 4000000 in
set_option maxRecDepth 20000 in
theorem g_MM_digest_82 {d rc rs : Nat} {Q : Option Value → Mu → Prop} {μ : Mu} {x1 : Int64} {x3 : Int32} {x4 : Int32} (hD : 1 ≤ d)  (hS : St μ)
    (hF : (((mI μ (hd 50 (px μ (hd 40 0) 11)) 0) ≤ x4 → Wx K_MM_digest d rc rs Q 121 [(0, .ref (hd 40 0)), (1, .long x1), (3, .int x3), (4, .int 0)] [] μ) ∧ (¬ (mI μ (hd 50 (px μ (hd 40 0) 11)) 0) ≤ x4 → (Cal K_MS_numberOf (d - 1) 0 0 [.ref (hd 65 0), .int x3, .int x4] μ (fun r μ2 => ∃ y3, r = some (.int y3) ∧ Wx K_MM_digest d rc rs Q 82 [(0, .ref (hd 40 0)), (1, .long ((x1 * 31) + y3.toInt64)), (3, .int x3), (4, .int (x4 + 1))] [] μ2))))) : Wx K_MM_digest d rc rs Q 82 [(0, .ref (hd 40 0)), (1, .long x1), (3, .int x3), (4, .int x4)] [] μ := by
  refine Wa.iload (j := 3) d_MM_digest_82 rfl ?_
  refine Wa.aload_n (j := 0) d_MM_digest_84 rfl ?_
  have hp1 := St.plan hS
  refine Wx.getR 11 11 d_MM_digest_85 f_MM_11 rfl fl_MM_35 (s_40 hS (by decide)) (hp1.1) ?_
  refine Wx.getI 12 0 d_MM_digest_88 f_MP_0 fl_MM_60 w_50 (s_50 hp1.2) ?_
  refine Wa.icmp_ge 118 d_MM_digest_91 (by decide) (fun hb => ?_) (fun hb => ?_)
  · have hF := hF.1 hb
    refine Wa.iconst (v := 0) d_MM_digest_118 rfl ?_
    refine Wa.istore (i := 4) (L' := [(4, .int 0), (0, .ref (hd 40 0)), (1, .long x1), (3, .int x3)]) d_MM_digest_119 (by decide) rfl ?_
    exact Wa.loc [1, 2, 3, 0] rfl hF
  · have hF := hF.2 hb
    refine Wa.lload_n (j := 1) d_MM_digest_94 rfl ?_
    refine Wa.ldc2 d_MM_digest_95 k_MM_418 ?_
    refine Wa.lmul d_MM_digest_98 ?_
    refine Wa.aload_n (j := 0) d_MM_digest_99 rfl ?_
    refine Wx.getR 11 13 d_MM_digest_100 f_MM_13 rfl fl_MM_47 (s_40 hS (by decide)) (r_40_13 hS (by decide)) ?_
    refine Wa.iload_n (j := 2) d_MM_digest_103 rfl ?_
    refine Wa.iload (j := 3) d_MM_digest_104 rfl ?_
    refine Wx.cVi (q := E_MS) (As := [.int x3, .int x4]) 13 (d - 1) 0 0 _ d_MM_digest_106 mok_MS_numberOf vl_MM_314 rfl rfl rfl (Nat.le_of_ble_eq_true rfl) (by omega) (Nat.zero_le _) (Nat.zero_le _) (s_65 hS (by decide)) hF (fun y3 μ2 hS hF => ?_)
    refine Wa.i2l d_MM_digest_109 ?_
    refine Wa.ladd d_MM_digest_110 ?_
    refine Wa.lstore_n (i := 1) (L' := [(1, .long ((x1 * 31) + y3.toInt64)), (0, .ref (hd 40 0)), (3, .int x3), (4, .int x4)]) d_MM_digest_111 rfl (by decide) rfl ?_
    refine Wa.iinc (i := 4) (j := 3) (v := (x4 + 1)) (L' := [(4, .int (x4 + 1)), (1, .long ((x1 * 31) + y3.toInt64)), (0, .ref (hd 40 0)), (3, .int x3)]) d_MM_digest_112 rfl rfl (by decide) rfl ?_
    refine Wa.goto 82 d_MM_digest_115 (by decide) ?_
    exact Wa.loc [2, 1, 3, 0] rfl hF
set_option maxHeartbeats 4000000 in
set_option maxRecDepth 20000 in
theorem g_MM_digest_121 {d rc rs : Nat} {Q : Option Value → Mu → Prop} {μ : Mu} {x1 : Int64} {x3 : Int32} {x4 : Int32} (hD : 1 ≤ d)  (hS : St μ)
    (hF : (((mI μ (hd 50 (px μ (hd 40 0) 11)) 1) ≤ x4 → Wx K_MM_digest d rc rs Q 38 [(0, .ref (hd 40 0)), (1, .long x1), (3, .int (x3 + 1))] [] μ) ∧ (¬ (mI μ (hd 50 (px μ (hd 40 0) 11)) 1) ≤ x4 → Wx K_MM_digest d rc rs Q 136 [(0, .ref (hd 40 0)), (1, .long x1), (3, .int x3), (4, .int x4), (5, .int 0)] [] μ))) : Wx K_MM_digest d rc rs Q 121 [(0, .ref (hd 40 0)), (1, .long x1), (3, .int x3), (4, .int x4)] [] μ := by
  refine Wa.iload (j := 3) d_MM_digest_121 rfl ?_
  refine Wa.aload_n (j := 0) d_MM_digest_123 rfl ?_
  have hp1 := St.plan hS
  refine Wx.getR 11 11 d_MM_digest_124 f_MM_11 rfl fl_MM_35 (s_40 hS (by decide)) (hp1.1) ?_
  refine Wx.getI 12 1 d_MM_digest_127 f_MP_1 fl_MM_71 w_50 (s_50 hp1.2) ?_
  refine Wa.icmp_ge 183 d_MM_digest_130 (by decide) (fun hb => ?_) (fun hb => ?_)
  · have hF := hF.1 hb
    refine Wa.iinc (i := 3) (j := 2) (v := (x3 + 1)) (L' := [(3, .int (x3 + 1)), (0, .ref (hd 40 0)), (1, .long x1), (4, .int x4)]) d_MM_digest_183 rfl rfl (by decide) rfl ?_
    refine Wa.goto 38 d_MM_digest_186 (by decide) ?_
    exact Wa.loc [1, 2, 0] rfl hF
  · have hF := hF.2 hb
    refine Wa.iconst (v := 0) d_MM_digest_133 rfl ?_
    refine Wa.istore (i := 5) (L' := [(5, .int 0), (0, .ref (hd 40 0)), (1, .long x1), (3, .int x3), (4, .int x4)]) d_MM_digest_134 (by decide) rfl ?_
    exact Wa.loc [1, 2, 3, 4, 0] rfl hF
set_option maxHeartbeats 4000000 in
set_option maxRecDepth 20000 in
theorem g_MM_digest_136 {d rc rs : Nat} {Q : Option Value → Mu → Prop} {μ : Mu} {x1 : Int64} {x3 : Int32} {x4 : Int32} {x5 : Int32} (hD : 1 ≤ d)  (hS : St μ)
    (hF : (Cal K_MS_shows (d - 1) 0 0 [.ref (hd 65 0), .int x3, .int x4] μ (fun r μ1 => ∃ y2, r = some (.int y2) ∧ ((y2 ≤ x5 → Wx K_MM_digest d rc rs Q 121 [(0, .ref (hd 40 0)), (1, .long x1), (3, .int x3), (4, .int (x4 + 1))] [] μ1) ∧ (¬ y2 ≤ x5 → (Cal K_MS_shown (d - 1) 0 0 [.ref (hd 65 0), .int x3, .int x4, .int x5] μ1 (fun r μ3 => ∃ y4, r = some (.int y4) ∧ Wx K_MM_digest d rc rs Q 136 [(0, .ref (hd 40 0)), (1, .long ((x1 * 31) + y4.toInt64)), (3, .int x3), (4, .int x4), (5, .int (x5 + 1))] [] μ3))))))) : Wx K_MM_digest d rc rs Q 136 [(0, .ref (hd 40 0)), (1, .long x1), (3, .int x3), (4, .int x4), (5, .int x5)] [] μ := by
  refine Wa.iload (j := 4) d_MM_digest_136 rfl ?_
  refine Wa.aload_n (j := 0) d_MM_digest_138 rfl ?_
  refine Wx.getR 11 13 d_MM_digest_139 f_MM_13 rfl fl_MM_47 (s_40 hS (by decide)) (r_40_13 hS (by decide)) ?_
  refine Wa.iload_n (j := 2) d_MM_digest_142 rfl ?_
  refine Wa.iload (j := 3) d_MM_digest_143 rfl ?_
  refine Wx.cVi (q := E_MS) (As := [.int x3, .int x4]) 13 (d - 1) 0 0 _ d_MM_digest_145 mok_MS_shows vl_MM_366 rfl rfl rfl (Nat.le_of_ble_eq_true rfl) (by omega) (Nat.zero_le _) (Nat.zero_le _) (s_65 hS (by decide)) hF (fun y2 μ1 hS hF => ?_)
  refine Wa.icmp_ge 177 d_MM_digest_148 (by decide) (fun hb => ?_) (fun hb => ?_)
  · have hF := hF.1 hb
    refine Wa.iinc (i := 4) (j := 3) (v := (x4 + 1)) (L' := [(4, .int (x4 + 1)), (0, .ref (hd 40 0)), (1, .long x1), (3, .int x3), (5, .int x5)]) d_MM_digest_177 rfl rfl (by decide) rfl ?_
    refine Wa.goto 121 d_MM_digest_180 (by decide) ?_
    exact Wa.loc [1, 2, 3, 0] rfl hF
  · have hF := hF.2 hb
    refine Wa.lload_n (j := 1) d_MM_digest_151 rfl ?_
    refine Wa.ldc2 d_MM_digest_152 k_MM_418 ?_
    refine Wa.lmul d_MM_digest_155 ?_
    refine Wa.aload_n (j := 0) d_MM_digest_156 rfl ?_
    refine Wx.getR 11 13 d_MM_digest_157 f_MM_13 rfl fl_MM_47 (s_40 hS (by decide)) (r_40_13 hS (by decide)) ?_
    refine Wa.iload_n (j := 2) d_MM_digest_160 rfl ?_
    refine Wa.iload (j := 3) d_MM_digest_161 rfl ?_
    refine Wa.iload (j := 4) d_MM_digest_163 rfl ?_
    refine Wx.cVi (q := E_MS) (As := [.int x3, .int x4, .int x5]) 13 (d - 1) 0 0 _ d_MM_digest_165 mok_MS_shown vl_MM_369 rfl rfl rfl (Nat.le_of_ble_eq_true rfl) (by omega) (Nat.zero_le _) (Nat.zero_le _) (s_65 hS (by decide)) hF (fun y4 μ3 hS hF => ?_)
    refine Wa.i2l d_MM_digest_168 ?_
    refine Wa.ladd d_MM_digest_169 ?_
    refine Wa.lstore_n (i := 1) (L' := [(1, .long ((x1 * 31) + y4.toInt64)), (0, .ref (hd 40 0)), (3, .int x3), (4, .int x4), (5, .int x5)]) d_MM_digest_170 rfl (by decide) rfl ?_
    refine Wa.iinc (i := 5) (j := 4) (v := (x5 + 1)) (L' := [(5, .int (x5 + 1)), (1, .long ((x1 * 31) + y4.toInt64)), (0, .ref (hd 40 0)), (3, .int x3), (4, .int x4)]) d_MM_digest_171 rfl rfl (by decide) rfl ?_
    refine Wa.goto 136 d_MM_digest_174 (by decide) ?_
    exact Wa.loc [2, 1, 3, 4, 0] rfl hF
set_option maxHeartbeats 4000000 in
set_option maxRecDepth 20000 in
theorem g_MM_digest_191 {d rc rs : Nat} {Q : Option Value → Mu → Prop} {μ : Mu} {x1 : Int64} {x3 : Int32} (hD : 1 ≤ d)  (hS : St μ)
    (hF : (((mI μ (hd 65 0) 1) ≤ x3 → Wx K_MM_digest d rc rs Q 280 [(0, .ref (hd 40 0)), (1, .long x1), (3, .int 0)] [] μ) ∧ (¬ (mI μ (hd 65 0) 1) ≤ x3 → Wx K_MM_digest d rc rs Q 205 [(0, .ref (hd 40 0)), (1, .long x1), (3, .int x3), (4, .int 0)] [] μ))) : Wx K_MM_digest d rc rs Q 191 [(0, .ref (hd 40 0)), (1, .long x1), (3, .int x3)] [] μ := by
  refine Wa.iload_n (j := 2) d_MM_digest_191 rfl ?_
  refine Wa.aload_n (j := 0) d_MM_digest_192 rfl ?_
  refine Wx.getR 11 13 d_MM_digest_193 f_MM_13 rfl fl_MM_47 (s_40 hS (by decide)) (r_40_13 hS (by decide)) ?_
  refine Wx.getI 13 1 d_MM_digest_196 f_MS_1 fl_MM_77 w_65 (s_65 hS (by decide)) ?_
  refine Wa.icmp_ge 278 d_MM_digest_199 (by decide) (fun hb => ?_) (fun hb => ?_)
  · have hF := hF.1 hb
    refine Wa.iconst (v := 0) d_MM_digest_278 rfl ?_
    refine Wa.istore_n (i := 3) (L' := [(3, .int 0), (0, .ref (hd 40 0)), (1, .long x1)]) d_MM_digest_279 rfl (by decide) rfl ?_
    exact Wa.loc [1, 2, 0] rfl hF
  · have hF := hF.2 hb
    refine Wa.iconst (v := 0) d_MM_digest_202 rfl ?_
    refine Wa.istore (i := 4) (L' := [(4, .int 0), (0, .ref (hd 40 0)), (1, .long x1), (3, .int x3)]) d_MM_digest_203 (by decide) rfl ?_
    exact Wa.loc [1, 2, 3, 0] rfl hF
set_option maxHeartbeats 4000000 in
set_option maxRecDepth 20000 in
theorem g_MM_digest_205 {d rc rs : Nat} {Q : Option Value → Mu → Prop} {μ : Mu} {x1 : Int64} {x3 : Int32} {x4 : Int32} (hD : 1 ≤ d)  (hS : St μ)
    (hF : ((7 < x4 → Wx K_MM_digest d rc rs Q 236 [(0, .ref (hd 40 0)), (1, .long x1), (3, .int x3), (4, .int 0)] [] μ) ∧ (¬ 7 < x4 → (Cal K_MM_sheetTold (d - 1) 0 0 [.ref (hd 40 0), .int x3, .int x4] μ (fun r μ1 => ∃ y2, r = some (.int y2) ∧ Wx K_MM_digest d rc rs Q 205 [(0, .ref (hd 40 0)), (1, .long ((x1 * 31) + y2.toInt64)), (3, .int x3), (4, .int (x4 + 1))] [] μ1))))) : Wx K_MM_digest d rc rs Q 205 [(0, .ref (hd 40 0)), (1, .long x1), (3, .int x3), (4, .int x4)] [] μ := by
  refine Wa.iload (j := 3) d_MM_digest_205 rfl ?_
  refine Wa.bipush (v := 7) d_MM_digest_207 rfl ?_
  refine Wa.icmp_gt 233 d_MM_digest_209 (by decide) (fun hb => ?_) (fun hb => ?_)
  · have hF := hF.1 hb
    refine Wa.iconst (v := 0) d_MM_digest_233 rfl ?_
    refine Wa.istore (i := 4) (L' := [(4, .int 0), (0, .ref (hd 40 0)), (1, .long x1), (3, .int x3)]) d_MM_digest_234 (by decide) rfl ?_
    exact Wa.loc [1, 2, 3, 0] rfl hF
  · have hF := hF.2 hb
    refine Wa.lload_n (j := 1) d_MM_digest_212 rfl ?_
    refine Wa.ldc2 d_MM_digest_213 k_MM_418 ?_
    refine Wa.lmul d_MM_digest_216 ?_
    refine Wa.aload_n (j := 0) d_MM_digest_217 rfl ?_
    refine Wa.iload_n (j := 2) d_MM_digest_218 rfl ?_
    refine Wa.iload (j := 3) d_MM_digest_219 rfl ?_
    refine Wx.cVi (q := E_MM) (As := [.int x3, .int x4]) 11 (d - 1) 0 0 _ d_MM_digest_221 mok_MM_sheetTold vl_MM_357 rfl rfl rfl (Nat.le_of_ble_eq_true rfl) (by omega) (Nat.zero_le _) (Nat.zero_le _) (s_40 hS (by decide)) hF (fun y2 μ1 hS hF => ?_)
    refine Wa.i2l d_MM_digest_224 ?_
    refine Wa.ladd d_MM_digest_225 ?_
    refine Wa.lstore_n (i := 1) (L' := [(1, .long ((x1 * 31) + y2.toInt64)), (0, .ref (hd 40 0)), (3, .int x3), (4, .int x4)]) d_MM_digest_226 rfl (by decide) rfl ?_
    refine Wa.iinc (i := 4) (j := 3) (v := (x4 + 1)) (L' := [(4, .int (x4 + 1)), (1, .long ((x1 * 31) + y2.toInt64)), (0, .ref (hd 40 0)), (3, .int x3)]) d_MM_digest_227 rfl rfl (by decide) rfl ?_
    refine Wa.goto 205 d_MM_digest_230 (by decide) ?_
    exact Wa.loc [2, 1, 3, 0] rfl hF
set_option maxHeartbeats 4000000 in
set_option maxRecDepth 20000 in
theorem g_MM_digest_236 {d rc rs : Nat} {Q : Option Value → Mu → Prop} {μ : Mu} {x1 : Int64} {x3 : Int32} {x4 : Int32} (hD : 1 ≤ d)  (hS : St μ)
    (hF : (((mI μ (hd 50 (px μ (hd 40 0) 11)) 0) ≤ x4 → Wx K_MM_digest d rc rs Q 191 [(0, .ref (hd 40 0)), (1, .long x1), (3, .int (x3 + 1))] [] μ) ∧ (¬ (mI μ (hd 50 (px μ (hd 40 0) 11)) 0) ≤ x4 → (Cal K_MS_stampOf (d - 1) 0 0 [.ref (hd 65 0), .int x3, .int x4] μ (fun r μ2 => ∃ y3, r = some (.int y3) ∧ Wx K_MM_digest d rc rs Q 236 [(0, .ref (hd 40 0)), (1, .long ((x1 * 31) + y3.toInt64)), (3, .int x3), (4, .int (x4 + 1))] [] μ2))))) : Wx K_MM_digest d rc rs Q 236 [(0, .ref (hd 40 0)), (1, .long x1), (3, .int x3), (4, .int x4)] [] μ := by
  refine Wa.iload (j := 3) d_MM_digest_236 rfl ?_
  refine Wa.aload_n (j := 0) d_MM_digest_238 rfl ?_
  have hp1 := St.plan hS
  refine Wx.getR 11 11 d_MM_digest_239 f_MM_11 rfl fl_MM_35 (s_40 hS (by decide)) (hp1.1) ?_
  refine Wx.getI 12 0 d_MM_digest_242 f_MP_0 fl_MM_60 w_50 (s_50 hp1.2) ?_
  refine Wa.icmp_ge 272 d_MM_digest_245 (by decide) (fun hb => ?_) (fun hb => ?_)
  · have hF := hF.1 hb
    refine Wa.iinc (i := 3) (j := 2) (v := (x3 + 1)) (L' := [(3, .int (x3 + 1)), (0, .ref (hd 40 0)), (1, .long x1), (4, .int x4)]) d_MM_digest_272 rfl rfl (by decide) rfl ?_
    refine Wa.goto 191 d_MM_digest_275 (by decide) ?_
    exact Wa.loc [1, 2, 0] rfl hF
  · have hF := hF.2 hb
    refine Wa.lload_n (j := 1) d_MM_digest_248 rfl ?_
    refine Wa.ldc2 d_MM_digest_249 k_MM_418 ?_
    refine Wa.lmul d_MM_digest_252 ?_
    refine Wa.aload_n (j := 0) d_MM_digest_253 rfl ?_
    refine Wx.getR 11 13 d_MM_digest_254 f_MM_13 rfl fl_MM_47 (s_40 hS (by decide)) (r_40_13 hS (by decide)) ?_
    refine Wa.iload_n (j := 2) d_MM_digest_257 rfl ?_
    refine Wa.iload (j := 3) d_MM_digest_258 rfl ?_
    refine Wx.cVi (q := E_MS) (As := [.int x3, .int x4]) 13 (d - 1) 0 0 _ d_MM_digest_260 mok_MS_stampOf vl_MM_360 rfl rfl rfl (Nat.le_of_ble_eq_true rfl) (by omega) (Nat.zero_le _) (Nat.zero_le _) (s_65 hS (by decide)) hF (fun y3 μ2 hS hF => ?_)
    refine Wa.i2l d_MM_digest_263 ?_
    refine Wa.ladd d_MM_digest_264 ?_
    refine Wa.lstore_n (i := 1) (L' := [(1, .long ((x1 * 31) + y3.toInt64)), (0, .ref (hd 40 0)), (3, .int x3), (4, .int x4)]) d_MM_digest_265 rfl (by decide) rfl ?_
    refine Wa.iinc (i := 4) (j := 3) (v := (x4 + 1)) (L' := [(4, .int (x4 + 1)), (1, .long ((x1 * 31) + y3.toInt64)), (0, .ref (hd 40 0)), (3, .int x3)]) d_MM_digest_266 rfl rfl (by decide) rfl ?_
    refine Wa.goto 236 d_MM_digest_269 (by decide) ?_
    exact Wa.loc [2, 1, 3, 0] rfl hF
set_option maxHeartbeats 4000000 in
set_option maxRecDepth 20000 in
theorem g_MM_digest_280 {d rc rs : Nat} {Q : Option Value → Mu → Prop} {μ : Mu} {x1 : Int64} {x3 : Int32} (hD : 1 ≤ d)  (hS : St μ)
    (hF : (((mI μ (hd 50 (px μ (hd 40 0) 11)) 2) ≤ x3 → Q (some (.long x1)) μ) ∧ (¬ (mI μ (hd 50 (px μ (hd 40 0) 11)) 2) ≤ x3 → Wx K_MM_digest d rc rs Q 294 [(0, .ref (hd 40 0)), (1, .long x1), (3, .int x3), (4, .int 0)] [] μ))) : Wx K_MM_digest d rc rs Q 280 [(0, .ref (hd 40 0)), (1, .long x1), (3, .int x3)] [] μ := by
  refine Wa.iload_n (j := 2) d_MM_digest_280 rfl ?_
  refine Wa.aload_n (j := 0) d_MM_digest_281 rfl ?_
  have hp1 := St.plan hS
  refine Wx.getR 11 11 d_MM_digest_282 f_MM_11 rfl fl_MM_35 (s_40 hS (by decide)) (hp1.1) ?_
  refine Wx.getI 12 2 d_MM_digest_285 f_MP_2 fl_MM_74 w_50 (s_50 hp1.2) ?_
  refine Wa.icmp_ge 327 d_MM_digest_288 (by decide) (fun hb => ?_) (fun hb => ?_)
  · have hF := hF.1 hb
    refine Wa.lload_n (j := 1) d_MM_digest_327 rfl ?_
    exact Wx.retl d_MM_digest_328 rfl hF
  · have hF := hF.2 hb
    refine Wa.iconst (v := 0) d_MM_digest_291 rfl ?_
    refine Wa.istore (i := 4) (L' := [(4, .int 0), (0, .ref (hd 40 0)), (1, .long x1), (3, .int x3)]) d_MM_digest_292 (by decide) rfl ?_
    exact Wa.loc [1, 2, 3, 0] rfl hF
set_option maxHeartbeats 4000000 in
set_option maxRecDepth 20000 in
theorem g_MM_digest_294 {d rc rs : Nat} {Q : Option Value → Mu → Prop} {μ : Mu} {x1 : Int64} {x3 : Int32} {x4 : Int32} (hD : 1 ≤ d)  (hS : St μ)
    (hF : ((4 < x4 → Wx K_MM_digest d rc rs Q 280 [(0, .ref (hd 40 0)), (1, .long x1), (3, .int (x3 + 1))] [] μ) ∧ (¬ 4 < x4 → (Cal K_MM_roadTold (d - 1) 0 0 [.ref (hd 40 0), .int x3, .int x4] μ (fun r μ1 => ∃ y2, r = some (.int y2) ∧ Wx K_MM_digest d rc rs Q 294 [(0, .ref (hd 40 0)), (1, .long ((x1 * 31) + y2.toInt64)), (3, .int x3), (4, .int (x4 + 1))] [] μ1))))) : Wx K_MM_digest d rc rs Q 294 [(0, .ref (hd 40 0)), (1, .long x1), (3, .int x3), (4, .int x4)] [] μ := by
  refine Wa.iload (j := 3) d_MM_digest_294 rfl ?_
  refine Wa.iconst (v := 4) d_MM_digest_296 rfl ?_
  refine Wa.icmp_gt 321 d_MM_digest_297 (by decide) (fun hb => ?_) (fun hb => ?_)
  · have hF := hF.1 hb
    refine Wa.iinc (i := 3) (j := 2) (v := (x3 + 1)) (L' := [(3, .int (x3 + 1)), (0, .ref (hd 40 0)), (1, .long x1), (4, .int x4)]) d_MM_digest_321 rfl rfl (by decide) rfl ?_
    refine Wa.goto 280 d_MM_digest_324 (by decide) ?_
    exact Wa.loc [1, 2, 0] rfl hF
  · have hF := hF.2 hb
    refine Wa.lload_n (j := 1) d_MM_digest_300 rfl ?_
    refine Wa.ldc2 d_MM_digest_301 k_MM_418 ?_
    refine Wa.lmul d_MM_digest_304 ?_
    refine Wa.aload_n (j := 0) d_MM_digest_305 rfl ?_
    refine Wa.iload_n (j := 2) d_MM_digest_306 rfl ?_
    refine Wa.iload (j := 3) d_MM_digest_307 rfl ?_
    refine Wx.cVi (q := E_MM) (As := [.int x3, .int x4]) 11 (d - 1) 0 0 _ d_MM_digest_309 mok_MM_roadTold vl_MM_385 rfl rfl rfl (Nat.le_of_ble_eq_true rfl) (by omega) (Nat.zero_le _) (Nat.zero_le _) (s_40 hS (by decide)) hF (fun y2 μ1 hS hF => ?_)
    refine Wa.i2l d_MM_digest_312 ?_
    refine Wa.ladd d_MM_digest_313 ?_
    refine Wa.lstore_n (i := 1) (L' := [(1, .long ((x1 * 31) + y2.toInt64)), (0, .ref (hd 40 0)), (3, .int x3), (4, .int x4)]) d_MM_digest_314 rfl (by decide) rfl ?_
    refine Wa.iinc (i := 4) (j := 3) (v := (x4 + 1)) (L' := [(4, .int (x4 + 1)), (1, .long ((x1 * 31) + y2.toInt64)), (0, .ref (hd 40 0)), (3, .int x3)]) d_MM_digest_315 rfl rfl (by decide) rfl ?_
    refine Wa.goto 294 d_MM_digest_318 (by decide) ?_
    exact Wa.loc [2, 1, 3, 0] rfl hF
