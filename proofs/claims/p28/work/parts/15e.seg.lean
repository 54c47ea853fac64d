/-! segments of methods, by machine -/
set_option maxHeartbeats 4000000 in
set_option maxRecDepth 20000 in
theorem g_PB_feed_0 {d rc rs : Nat} {Q : Option Value → Mu → Prop} {μ : Mu} {x1 : Int32} {x2 : Int32} {x3 : Int32} {x4 : Int32} {x5 : Int32} (hD : 1 ≤ d)  (hS : St μ)
    (hF : ((((mI μ (hd 8 0) 1) + (20 : Int32)) ≤ 2000 → (Cal K_PB_append (d - 1) 0 0 [.ref (hd 8 0), .int x1] μ (fun r μ1 => r = none ∧ (Cal K_PB_append (d - 1) 0 0 [.ref (hd 8 0), .int x2] μ1 (fun r μ2 => r = none ∧ (Cal K_PB_append (d - 1) 0 0 [.ref (hd 8 0), .int x3] μ2 (fun r μ3 => r = none ∧ (Cal K_PB_append (d - 1) 0 0 [.ref (hd 8 0), .int x4] μ3 (fun r μ4 => r = none ∧ (Cal K_PB_append (d - 1) 0 0 [.ref (hd 8 0), .int x5] μ4 (fun r μ5 => r = none ∧ Q (some (.int (mI μ5 (hd 8 0) 1))) μ5))))))))))) ∧ (¬ ((mI μ (hd 8 0) 1) + (20 : Int32)) ≤ 2000 → (1 ≤ rc ∧ 6 ≤ rs ∧ Q (some (.float (UInt32.ofNat 0))) μ)))) : Wx K_PB_feed d rc rs Q 0 [(0, .ref (hd 8 0)), (1, .int x1), (2, .int x2), (3, .int x3), (4, .int x4), (5, .int x5)] [] μ := by
  refine Wa.aload_n (j := 0) d_PB_feed_0 rfl ?_
  refine Wx.getI 0 1 d_PB_feed_1 f_PB_1 fl_PB_13 w_8 (s_8 hS (by decide)) ?_
  refine Wa.bipush (v := 20) d_PB_feed_4 rfl ?_
  refine Wa.iadd d_PB_feed_6 ?_
  refine Wa.sipush (v := 2000) d_PB_feed_7 rfl ?_
  refine Wa.icmp_le 23 d_PB_feed_10 (by decide) (fun hb => ?_) (fun hb => ?_)
  · have hF := hF.1 hb
    refine Wa.aload_n (j := 0) d_PB_feed_23 rfl ?_
    refine Wa.iload_n (j := 1) d_PB_feed_24 rfl ?_
    refine Wx.cVv (q := E_PB) (As := [.int x1]) 0 (d - 1) 0 0 _ d_PB_feed_25 mok_PB_append vl_PB_72 rfl rfl rfl (Nat.le_of_ble_eq_true rfl) (by omega) (Nat.zero_le _) (Nat.zero_le _) (s_8 hS (by decide)) hF (fun μ1 hS hF => ?_)
    refine Wa.aload_n (j := 0) d_PB_feed_28 rfl ?_
    refine Wa.iload_n (j := 2) d_PB_feed_29 rfl ?_
    refine Wx.cVv (q := E_PB) (As := [.int x2]) 0 (d - 1) 0 0 _ d_PB_feed_30 mok_PB_append vl_PB_72 rfl rfl rfl (Nat.le_of_ble_eq_true rfl) (by omega) (Nat.zero_le _) (Nat.zero_le _) (s_8 hS (by decide)) hF (fun μ2 hS hF => ?_)
    refine Wa.aload_n (j := 0) d_PB_feed_33 rfl ?_
    refine Wa.iload_n (j := 3) d_PB_feed_34 rfl ?_
    refine Wx.cVv (q := E_PB) (As := [.int x3]) 0 (d - 1) 0 0 _ d_PB_feed_35 mok_PB_append vl_PB_72 rfl rfl rfl (Nat.le_of_ble_eq_true rfl) (by omega) (Nat.zero_le _) (Nat.zero_le _) (s_8 hS (by decide)) hF (fun μ3 hS hF => ?_)
    refine Wa.aload_n (j := 0) d_PB_feed_38 rfl ?_
    refine Wa.iload (j := 4) d_PB_feed_39 rfl ?_
    refine Wx.cVv (q := E_PB) (As := [.int x4]) 0 (d - 1) 0 0 _ d_PB_feed_41 mok_PB_append vl_PB_72 rfl rfl rfl (Nat.le_of_ble_eq_true rfl) (by omega) (Nat.zero_le _) (Nat.zero_le _) (s_8 hS (by decide)) hF (fun μ4 hS hF => ?_)
    refine Wa.aload_n (j := 0) d_PB_feed_44 rfl ?_
    refine Wa.iload (j := 5) d_PB_feed_45 rfl ?_
    refine Wx.cVv (q := E_PB) (As := [.int x5]) 0 (d - 1) 0 0 _ d_PB_feed_47 mok_PB_append vl_PB_72 rfl rfl rfl (Nat.le_of_ble_eq_true rfl) (by omega) (Nat.zero_le _) (Nat.zero_le _) (s_8 hS (by decide)) hF (fun μ5 hS hF => ?_)
    refine Wa.aload_n (j := 0) d_PB_feed_50 rfl ?_
    refine Wx.getI 0 1 d_PB_feed_51 f_PB_1 fl_PB_13 w_8 (s_8 hS (by decide)) ?_
    exact Wx.reti d_PB_feed_54 rfl hF
  · have hF := hF.2 hb
    exact Wa.throw 0 (by decide +kernel) hF.1 hF.2.1 hF.2.2
set_option maxHeartbeats 4000000 in
set_option maxRecDepth 20000 in
theorem g_PB_trim_0 {d rc rs : Nat} {Q : Option Value → Mu → Prop} {μ : Mu} {x1 : Int32} (hD : 1 ≤ d)  (hS : St μ)
    (hF : ((x1 < 0 → (1 ≤ rc ∧ 6 ≤ rs ∧ Q (some (.float (UInt32.ofNat 1))) μ)) ∧ (¬ x1 < 0 → ((x1 ≤ (mI μ (hd 8 0) 1) → Q (some (.int x1)) (setI μ (hd 8 0) 1 x1)) ∧ (¬ x1 ≤ (mI μ (hd 8 0) 1) → (1 ≤ rc ∧ 6 ≤ rs ∧ Q (some (.float (UInt32.ofNat 1))) μ)))))) : Wx K_PB_trim d rc rs Q 0 [(0, .ref (hd 8 0)), (1, .int x1)] [] μ := by
  refine Wa.iload_n (j := 1) d_PB_trim_0 rfl ?_
  refine Wa.if_lt 12 d_PB_trim_1 (by decide) (fun hb => ?_) (fun hb => ?_)
  · have hF := hF.1 hb
    exact Wa.throw 1 (by decide +kernel) hF.1 hF.2.1 hF.2.2
  · have hF := hF.2 hb
    refine Wa.iload_n (j := 1) d_PB_trim_4 rfl ?_
    refine Wa.aload_n (j := 0) d_PB_trim_5 rfl ?_
    refine Wx.getI 0 1 d_PB_trim_6 f_PB_1 fl_PB_13 w_8 (s_8 hS (by decide)) ?_
    refine Wa.icmp_le 22 d_PB_trim_9 (by decide) (fun hb => ?_) (fun hb => ?_)
    · have hF := hF.1 hb
      refine Wa.aload_n (j := 0) d_PB_trim_22 rfl ?_
      refine Wa.iload_n (j := 1) d_PB_trim_23 rfl ?_
      refine Wx.putI 0 1 d_PB_trim_24 f_PB_1 ok_PB fl_PB_13 (Or.inl rfl) w_8 (s_8 hS (by decide)) ?_
      refine Wa.iload_n (j := 1) d_PB_trim_27 rfl ?_
      exact Wx.reti d_PB_trim_28 rfl hF
    · have hF := hF.2 hb
      exact Wa.throw 1 (by decide +kernel) hF.1 hF.2.1 hF.2.2
set_option maxHeartbeats 4000000 in
set_option maxRecDepth 20000 in
theorem g_PB_teach_0 {d rc rs : Nat} {Q : Option Value → Mu → Prop} {μ : Mu}  (hD : 1 ≤ d)  (hS : St μ)
    (hF : (Cal K_Tk_scan (d - 1) 0 0 [.ref (hd 10 0), .ref (hd 9 0), .int (mI μ (hd 8 0) 1)] μ (fun r μ1 => r = none ∧ (Cal K_Pl_clear (d - 1) 0 0 [.ref (hd 18 (px μ1 (hd 8 0) 4))] (setI μ1 (hd 8 0) 1 0) (fun r μ3 => r = none ∧ (Cal K_Gr_firstMisfit (d - 1) 0 0 [.ref (hd 15 0), .ref (hd 18 (px μ3 (hd 8 0) 4))] μ3 (fun r μ5 => ∃ y6, r = some (.int y6) ∧ ((y6 = (-1) → (Cal K_Nm_firstError (d - 1) 0 0 [.ref (hd 16 0), .ref (hd 18 (px μ5 (hd 8 0) 4))] μ5 (fun r μ8 => ∃ y9, r = some (.int y9) ∧ ((y9 = 0 → (Cal K_PB_beginAnew (d - 1) 0 0 [.ref (hd 8 0)] (setI μ8 (hd 8 0) 2 (-1)) (fun r μ10 => r = none ∧ Q (some (.int 0)) μ10))) ∧ (¬ y9 = 0 → (Cal K_Tk_startAt (d - 1) 0 0 [.ref (hd 10 0), .int (mI μ8 (hd 16 0) 7)] μ8 (fun r μ11 => ∃ y12, r = some (.int y12) ∧ Q (some (.int y9)) (setI μ11 (hd 8 0) 2 y12)))))))) ∧ (¬ y6 = (-1) → (Cal K_Tk_startAt (d - 1) 0 0 [.ref (hd 10 0), .int y6] μ5 (fun r μ13 => ∃ y14, r = some (.int y14) ∧ Q (some (.int 1)) (setI μ13 (hd 8 0) 2 y14)))))))))))) : Wx K_PB_teach d rc rs Q 0 [(0, .ref (hd 8 0))] [] μ := by
  refine Wa.aload_n (j := 0) d_PB_teach_0 rfl ?_
  refine Wx.getR 0 5 d_PB_teach_1 f_PB_5 rfl fl_PB_33 (s_8 hS (by decide)) (r_8_5 hS (by decide)) ?_
  refine Wa.aload_n (j := 0) d_PB_teach_4 rfl ?_
  refine Wx.getR 0 0 d_PB_teach_5 f_PB_0 rfl fl_PB_9 (s_8 hS (by decide)) (r_8_0 hS (by decide)) ?_
  refine Wa.aload_n (j := 0) d_PB_teach_8 rfl ?_
  refine Wx.getI 0 1 d_PB_teach_9 f_PB_1 fl_PB_13 w_8 (s_8 hS (by decide)) ?_
  refine Wx.cVv (q := E_Tk) (As := [.ref (hd 9 0), .int (mI μ (hd 8 0) 1)]) 9 (d - 1) 0 0 _ d_PB_teach_12 mok_Tk_scan vl_PB_81 rfl rfl rfl (Nat.le_of_ble_eq_true rfl) (by omega) (Nat.zero_le _) (Nat.zero_le _) (s_10 hS (by decide)) hF (fun μ1 hS hF => ?_)
  refine Wa.aload_n (j := 0) d_PB_teach_15 rfl ?_
  refine Wa.iconst (v := 0) d_PB_teach_16 rfl ?_
  refine Wx.putI 0 1 d_PB_teach_17 f_PB_1 ok_PB fl_PB_13 (Or.inl rfl) w_8 (s_8 hS (by decide)) ?_
  refine Wa.aload_n (j := 0) d_PB_teach_20 rfl ?_
  have hp2 := d_8_4 (i := 0) hS (by decide)
  refine Wx.getR 0 4 d_PB_teach_21 f_PB_4 rfl fl_PB_27 (s_8 hS (by decide)) (hp2.1) ?_
  refine Wx.cVv (q := E_Pl) (As := []) 6 (d - 1) 0 0 _ d_PB_teach_24 mok_Pl_clear vl_PB_85 rfl rfl rfl (Nat.le_of_ble_eq_true rfl) (by omega) (Nat.zero_le _) (Nat.zero_le _) (s_18 hS hp2.2) hF (fun μ3 hS hF => ?_)
  refine Wa.aload_n (j := 0) d_PB_teach_27 rfl ?_
  refine Wx.getR 0 6 d_PB_teach_28 f_PB_6 rfl fl_PB_42 (s_8 hS (by decide)) (r_8_6 hS (by decide)) ?_
  refine Wa.aload_n (j := 0) d_PB_teach_31 rfl ?_
  have hp4 := d_8_4 (i := 0) hS (by decide)
  refine Wx.getR 0 4 d_PB_teach_32 f_PB_4 rfl fl_PB_27 (s_8 hS (by decide)) (hp4.1) ?_
  refine Wx.cVi (q := E_Gr) (As := [.ref (hd 18 (px μ3 (hd 8 0) 4))]) 3 (d - 1) 0 0 _ d_PB_teach_35 mok_Gr_firstMisfit vl_PB_88 rfl rfl rfl (Nat.le_of_ble_eq_true rfl) (by omega) (Nat.zero_le _) (Nat.zero_le _) (s_15 hS (by decide)) hF (fun y6 μ5 hS hF => ?_)
  refine Wa.istore_n (i := 1) (L' := [(1, .int y6), (0, .ref (hd 8 0))]) d_PB_teach_38 rfl (by decide) rfl ?_
  refine Wa.iload_n (j := 0) d_PB_teach_39 rfl ?_
  refine Wa.iconst (v := (-1)) d_PB_teach_40 rfl ?_
  refine Wa.icmp_eq 58 d_PB_teach_41 (by decide) (fun hb => ?_) (fun hb => ?_)
  · have hF := hF.1 hb
    refine Wa.aload_n (j := 1) d_PB_teach_58 rfl ?_
    refine Wx.getR 0 7 d_PB_teach_59 f_PB_7 rfl fl_PB_49 (s_8 hS (by decide)) (r_8_7 hS (by decide)) ?_
    refine Wa.aload_n (j := 1) d_PB_teach_62 rfl ?_
    have hp7 := d_8_4 (i := 0) hS (by decide)
    refine Wx.getR 0 4 d_PB_teach_63 f_PB_4 rfl fl_PB_27 (s_8 hS (by decide)) (hp7.1) ?_
    refine Wx.cVi (q := E_Nm) (As := [.ref (hd 18 (px μ5 (hd 8 0) 4))]) 4 (d - 1) 0 0 _ d_PB_teach_66 mok_Nm_firstError vl_PB_96 rfl rfl rfl (Nat.le_of_ble_eq_true rfl) (by omega) (Nat.zero_le _) (Nat.zero_le _) (s_16 hS (by decide)) hF (fun y9 μ8 hS hF => ?_)
    refine Wa.istore_n (i := 2) (L' := [(2, .int y9), (1, .int y6), (0, .ref (hd 8 0))]) d_PB_teach_69 rfl (by decide) rfl ?_
    refine Wa.iload_n (j := 0) d_PB_teach_70 rfl ?_
    refine Wa.if_eq 94 d_PB_teach_71 (by decide) (fun hb => ?_) (fun hb => ?_)
    · have hF := hF.1 hb
      refine Wa.aload_n (j := 2) d_PB_teach_94 rfl ?_
      refine Wa.iconst (v := (-1)) d_PB_teach_95 rfl ?_
      refine Wx.putI 0 2 d_PB_teach_96 f_PB_2 ok_PB fl_PB_17 (Or.inl rfl) w_8 (s_8 hS (by decide)) ?_
      refine Wa.aload_n (j := 2) d_PB_teach_99 rfl ?_
      refine Wx.cVv (q := E_PB) (As := []) 0 (d - 1) 0 0 _ d_PB_teach_100 mok_PB_beginAnew vl_PB_102 rfl rfl rfl (Nat.le_of_ble_eq_true rfl) (by omega) (Nat.zero_le _) (Nat.zero_le _) (s_8 hS (by decide)) hF (fun μ10 hS hF => ?_)
      refine Wa.iconst (v := 0) d_PB_teach_103 rfl ?_
      exact Wx.reti d_PB_teach_104 rfl hF
    · have hF := hF.2 hb
      refine Wa.aload_n (j := 2) d_PB_teach_74 rfl ?_
      refine Wa.aload_n (j := 2) d_PB_teach_75 rfl ?_
      refine Wx.getR 0 5 d_PB_teach_76 f_PB_5 rfl fl_PB_33 (s_8 hS (by decide)) (r_8_5 hS (by decide)) ?_
      refine Wa.aload_n (j := 2) d_PB_teach_79 rfl ?_
      refine Wx.getR 0 7 d_PB_teach_80 f_PB_7 rfl fl_PB_49 (s_8 hS (by decide)) (r_8_7 hS (by decide)) ?_
      refine Wx.getI 4 7 d_PB_teach_83 f_Nm_7 fl_PB_99 w_16 (s_16 hS (by decide)) ?_
      refine Wx.cVi (q := E_Tk) (As := [.int (mI μ8 (hd 16 0) 7)]) 9 (d - 1) 0 0 _ d_PB_teach_86 mok_Tk_startAt vl_PB_92 rfl rfl rfl (Nat.le_of_ble_eq_true rfl) (by omega) (Nat.zero_le _) (Nat.zero_le _) (s_10 hS (by decide)) hF (fun y12 μ11 hS hF => ?_)
      refine Wx.putI 0 2 d_PB_teach_89 f_PB_2 ok_PB fl_PB_17 (Or.inl rfl) w_8 (s_8 hS (by decide)) ?_
      refine Wa.iload_n (j := 0) d_PB_teach_92 rfl ?_
      exact Wx.reti d_PB_teach_93 rfl hF
  · have hF := hF.2 hb
    refine Wa.aload_n (j := 1) d_PB_teach_44 rfl ?_
    refine Wa.aload_n (j := 1) d_PB_teach_45 rfl ?_
    refine Wx.getR 0 5 d_PB_teach_46 f_PB_5 rfl fl_PB_33 (s_8 hS (by decide)) (r_8_5 hS (by decide)) ?_
    refine Wa.iload_n (j := 0) d_PB_teach_49 rfl ?_
    refine Wx.cVi (q := E_Tk) (As := [.int y6]) 9 (d - 1) 0 0 _ d_PB_teach_50 mok_Tk_startAt vl_PB_92 rfl rfl rfl (Nat.le_of_ble_eq_true rfl) (by omega) (Nat.zero_le _) (Nat.zero_le _) (s_10 hS (by decide)) hF (fun y14 μ13 hS hF => ?_)
    refine Wx.putI 0 2 d_PB_teach_53 f_PB_2 ok_PB fl_PB_17 (Or.inl rfl) w_8 (s_8 hS (by decide)) ?_
    refine Wa.iconst (v := 1) d_PB_teach_56 rfl ?_
    exact Wx.reti d_PB_teach_57 rfl hF
theorem e_PB_teach {d rc rs : Nat} {Q : Option Value → Mu → Prop} {μ : Mu}  (hk : Wx K_PB_teach d rc rs (fun r μ' => St μ' ∧ Q r μ') 0 [(0, .ref (hd 8 0))] [] μ) : Cal K_PB_teach d rc rs [.ref (hd 8 0)] μ Q := Cal.of (by decide +kernel) rfl rfl (Nat.le_of_ble_eq_true rfl) rfl hk
set_option maxHeartbeats 4000000 in
set_option maxRecDepth 20000 in
theorem g_PB_count_0 {d rc rs : Nat} {Q : Option Value → Mu → Prop} {μ : Mu} {x1 : Int32} (hD : 1 ≤ d)  (hS : St μ)
    (hF : ((x1 < 0 → (1 ≤ rc ∧ 6 ≤ rs ∧ Q (some (.float (UInt32.ofNat 2))) μ)) ∧ (¬ x1 < 0 → ((x1 < 13 → (Cal K_PB_counted (d - 1) 0 0 [.ref (hd 8 0), .int x1] μ (fun r μ1 => ∃ y2, r = some (.int y2) ∧ Q (some (.int y2)) μ1))) ∧ (¬ x1 < 13 → (1 ≤ rc ∧ 6 ≤ rs ∧ Q (some (.float (UInt32.ofNat 2))) μ)))))) : Wx K_PB_count d rc rs Q 0 [(0, .ref (hd 8 0)), (1, .int x1)] [] μ := by
  refine Wa.iload_n (j := 1) d_PB_count_0 rfl ?_
  refine Wa.if_lt 10 d_PB_count_1 (by decide) (fun hb => ?_) (fun hb => ?_)
  · have hF := hF.1 hb
    exact Wa.throw 2 (by decide +kernel) hF.1 hF.2.1 hF.2.2
  · have hF := hF.2 hb
    refine Wa.iload_n (j := 1) d_PB_count_4 rfl ?_
    refine Wa.bipush (v := 13) d_PB_count_5 rfl ?_
    refine Wa.icmp_lt 20 d_PB_count_7 (by decide) (fun hb => ?_) (fun hb => ?_)
    · have hF := hF.1 hb
      refine Wa.aload_n (j := 0) d_PB_count_20 rfl ?_
      refine Wa.iload_n (j := 1) d_PB_count_21 rfl ?_
      refine Wx.cVi (q := E_PB) (As := [.int x1]) 0 (d - 1) 0 0 _ d_PB_count_22 mok_PB_counted vl_PB_110 rfl rfl rfl (Nat.le_of_ble_eq_true rfl) (by omega) (Nat.zero_le _) (Nat.zero_le _) (s_8 hS (by decide)) hF (fun y2 μ1 hS hF => ?_)
      exact Wx.reti d_PB_count_25 rfl hF
    · have hF := hF.2 hb
      exact Wa.throw 2 (by decide +kernel) hF.1 hF.2.1 hF.2.2
set_option maxHeartbeats 4000000 in
set_option maxRecDepth 20000 in
theorem g_PB_parish_0 {d rc rs : Nat} {Q : Option Value → Mu → Prop} {μ : Mu} {x1 : Int32} {x2 : Int32} (hD : 1 ≤ d)  (hS : St μ)
    (hF : (Cal K_PB_isParish (d - 1) 0 0 [.ref (hd 8 0), .int x1] μ (fun r μ1 => ∃ y2, r = some (.int y2) ∧ ((y2 = 0 → (1 ≤ rc ∧ 6 ≤ rs ∧ Q (some (.float (UInt32.ofNat 2))) μ1)) ∧ (¬ y2 = 0 → ((x2 < 0 → (1 ≤ rc ∧ 6 ≤ rs ∧ Q (some (.float (UInt32.ofNat 2))) μ1)) ∧ (¬ x2 < 0 → ((x2 < 6 → (Cal K_Wd_parishFact (d - 1) 0 0 [.ref (hd 29 0), .int x1, .int x2] μ1 (fun r μ3 => ∃ y4, r = some (.int y4) ∧ Q (some (.int y4)) μ3))) ∧ (¬ x2 < 6 → (1 ≤ rc ∧ 6 ≤ rs ∧ Q (some (.float (UInt32.ofNat 2))) μ1)))))))))) : Wx K_PB_parish d rc rs Q 0 [(0, .ref (hd 8 0)), (1, .int x1), (2, .int x2)] [] μ := by
  refine Wa.aload_n (j := 0) d_PB_parish_0 rfl ?_
  refine Wa.iload_n (j := 1) d_PB_parish_1 rfl ?_
  refine Wx.cVi (q := E_PB) (As := [.int x1]) 0 (d - 1) 0 0 _ d_PB_parish_2 mok_PB_isParish vl_PB_113 rfl rfl rfl (Nat.le_of_ble_eq_true rfl) (by omega) (Nat.zero_le _) (Nat.zero_le _) (s_8 hS (by decide)) hF (fun y2 μ1 hS hF => ?_)
  refine Wa.if_eq 18 d_PB_parish_5 (by decide) (fun hb => ?_) (fun hb => ?_)
  · have hF := hF.1 hb
    exact Wa.throw 2 (by decide +kernel) hF.1 hF.2.1 hF.2.2
  · have hF := hF.2 hb
    refine Wa.iload_n (j := 2) d_PB_parish_8 rfl ?_
    refine Wa.if_lt 18 d_PB_parish_9 (by decide) (fun hb => ?_) (fun hb => ?_)
    · have hF := hF.1 hb
      exact Wa.throw 2 (by decide +kernel) hF.1 hF.2.1 hF.2.2
    · have hF := hF.2 hb
      refine Wa.iload_n (j := 2) d_PB_parish_12 rfl ?_
      refine Wa.bipush (v := 6) d_PB_parish_13 rfl ?_
      refine Wa.icmp_lt 28 d_PB_parish_15 (by decide) (fun hb => ?_) (fun hb => ?_)
      · have hF := hF.1 hb
        refine Wa.aload_n (j := 0) d_PB_parish_28 rfl ?_
        refine Wx.getR 0 8 d_PB_parish_29 f_PB_8 rfl fl_PB_58 (s_8 hS (by decide)) (r_8_8 hS (by decide)) ?_
        refine Wa.iload_n (j := 1) d_PB_parish_32 rfl ?_
        refine Wa.iload_n (j := 2) d_PB_parish_33 rfl ?_
        refine Wx.cVi (q := E_Wd) (As := [.int x1, .int x2]) 10 (d - 1) 0 0 _ d_PB_parish_34 mok_Wd_parishFact vl_PB_119 rfl rfl rfl (Nat.le_of_ble_eq_true rfl) (by omega) (Nat.zero_le _) (Nat.zero_le _) (s_29 hS (by decide)) hF (fun y4 μ3 hS hF => ?_)
        exact Wx.reti d_PB_parish_37 rfl hF
      · have hF := hF.2 hb
        exact Wa.throw 2 (by decide +kernel) hF.1 hF.2.1 hF.2.2
set_option maxHeartbeats 4000000 in
set_option maxRecDepth 20000 in
theorem g_PB_knows_0 {d rc rs : Nat} {Q : Option Value → Mu → Prop} {μ : Mu} {x1 : Int32} {x2 : Int32} (hD : 1 ≤ d)  (hS : St μ)
    (hF : (Cal K_PB_isParish (d - 1) 0 0 [.ref (hd 8 0), .int x1] μ (fun r μ1 => ∃ y2, r = some (.int y2) ∧ ((y2 = 0 → (1 ≤ rc ∧ 6 ≤ rs ∧ Q (some (.float (UInt32.ofNat 2))) μ1)) ∧ (¬ y2 = 0 → (Cal K_PB_isParish (d - 1) 0 0 [.ref (hd 8 0), .int x2] μ1 (fun r μ3 => ∃ y4, r = some (.int y4) ∧ ((y4 = 0 → (1 ≤ rc ∧ 6 ≤ rs ∧ Q (some (.float (UInt32.ofNat 2))) μ3)) ∧ (¬ y4 = 0 → (vp_in x1 5 ∧ (vp_in x2 5 ∧ Q (some (.int (mI μ3 (hd 36 (5 * 0 + x1.toNatClampNeg)) x2.toNatClampNeg))) μ3))))))))))) : Wx K_PB_knows d rc rs Q 0 [(0, .ref (hd 8 0)), (1, .int x1), (2, .int x2)] [] μ := by
  refine Wa.aload_n (j := 0) d_PB_knows_0 rfl ?_
  refine Wa.iload_n (j := 1) d_PB_knows_1 rfl ?_
  refine Wx.cVi (q := E_PB) (As := [.int x1]) 0 (d - 1) 0 0 _ d_PB_knows_2 mok_PB_isParish vl_PB_113 rfl rfl rfl (Nat.le_of_ble_eq_true rfl) (by omega) (Nat.zero_le _) (Nat.zero_le _) (s_8 hS (by decide)) hF (fun y2 μ1 hS hF => ?_)
  refine Wa.if_eq 16 d_PB_knows_5 (by decide) (fun hb => ?_) (fun hb => ?_)
  · have hF := hF.1 hb
    exact Wa.throw 2 (by decide +kernel) hF.1 hF.2.1 hF.2.2
  · have hF := hF.2 hb
    refine Wa.aload_n (j := 0) d_PB_knows_8 rfl ?_
    refine Wa.iload_n (j := 2) d_PB_knows_9 rfl ?_
    refine Wx.cVi (q := E_PB) (As := [.int x2]) 0 (d - 1) 0 0 _ d_PB_knows_10 mok_PB_isParish vl_PB_113 rfl rfl rfl (Nat.le_of_ble_eq_true rfl) (by omega) (Nat.zero_le _) (Nat.zero_le _) (s_8 hS (by decide)) hF (fun y4 μ3 hS hF => ?_)
    refine Wa.if_ne 26 d_PB_knows_13 (by decide) (fun hb => ?_) (fun hb => ?_)
    · have hF := hF.2 hb
      refine Wa.aload_n (j := 0) d_PB_knows_26 rfl ?_
      refine Wx.getR 0 8 d_PB_knows_27 f_PB_8 rfl fl_PB_58 (s_8 hS (by decide)) (r_8_8 hS (by decide)) ?_
      refine Wx.getR 10 1 d_PB_knows_30 f_Wd_1 rfl fl_PB_125 (s_29 hS (by decide)) (r_29_1 hS (by decide)) ?_
      refine Wa.iload_n (j := 1) d_PB_knows_33 rfl ?_
      have hc5 := hF.1
      have hF := hF.2
      have hlhc5 := vp_in_lt hc5
      have hb6 : (5 * 0 + x1.toNatClampNeg) < 10 := by have : 0 < 2 := (by decide); omega
      refine Wa.aald (t := 1) (q := E_Bd) d_PB_knows_34 rfl (s_31 hS (by decide)) hc5 (a_31 hS (by decide) hlhc5) ?_
      refine Wx.getR 1 0 d_PB_knows_35 f_Bd_0 rfl fl_PB_129 (s_35 hS hb6) (r_35_0 hS hb6) ?_
      refine Wa.iload_n (j := 2) d_PB_knows_38 rfl ?_
      have hc7 := hF.1
      have hF := hF.2
      have hlhc7 := vp_in_lt hc7
      refine Wx.iald d_PB_knows_39 w_36 (s_36 hS hb6) hc7 ?_
      exact Wx.reti d_PB_knows_40 rfl hF
    · have hF := hF.1 hb
      exact Wa.throw 2 (by decide +kernel) hF.1 hF.2.1 hF.2.2
set_option maxHeartbeats 4000000 in
set_option maxRecDepth 20000 in
theorem g_PB_sheet_0 {d rc rs : Nat} {Q : Option Value → Mu → Prop} {μ : Mu} {x1 : Int32} {x2 : Int32} (hD : 1 ≤ d)  (hS : St μ)
    (hF : (Cal K_PB_isSheet (d - 1) 0 0 [.ref (hd 8 0), .int x1] μ (fun r μ1 => ∃ y2, r = some (.int y2) ∧ ((y2 = 0 → (1 ≤ rc ∧ 6 ≤ rs ∧ Q (some (.float (UInt32.ofNat 2))) μ1)) ∧ (¬ y2 = 0 → ((x2 < 0 → (1 ≤ rc ∧ 6 ≤ rs ∧ Q (some (.float (UInt32.ofNat 2))) μ1)) ∧ (¬ x2 < 0 → ((x2 < 8 → (Cal K_Wd_sheetFact (d - 1) 0 0 [.ref (hd 29 0), .int x1, .int x2] μ1 (fun r μ3 => ∃ y4, r = some (.int y4) ∧ Q (some (.int y4)) μ3))) ∧ (¬ x2 < 8 → (1 ≤ rc ∧ 6 ≤ rs ∧ Q (some (.float (UInt32.ofNat 2))) μ1)))))))))) : Wx K_PB_sheet d rc rs Q 0 [(0, .ref (hd 8 0)), (1, .int x1), (2, .int x2)] [] μ := by
  refine Wa.aload_n (j := 0) d_PB_sheet_0 rfl ?_
  refine Wa.iload_n (j := 1) d_PB_sheet_1 rfl ?_
  refine Wx.cVi (q := E_PB) (As := [.int x1]) 0 (d - 1) 0 0 _ d_PB_sheet_2 mok_PB_isSheet vl_PB_135 rfl rfl rfl (Nat.le_of_ble_eq_true rfl) (by omega) (Nat.zero_le _) (Nat.zero_le _) (s_8 hS (by decide)) hF (fun y2 μ1 hS hF => ?_)
  refine Wa.if_eq 18 d_PB_sheet_5 (by decide) (fun hb => ?_) (fun hb => ?_)
  · have hF := hF.1 hb
    exact Wa.throw 2 (by decide +kernel) hF.1 hF.2.1 hF.2.2
  · have hF := hF.2 hb
    refine Wa.iload_n (j := 2) d_PB_sheet_8 rfl ?_
    refine Wa.if_lt 18 d_PB_sheet_9 (by decide) (fun hb => ?_) (fun hb => ?_)
    · have hF := hF.1 hb
      exact Wa.throw 2 (by decide +kernel) hF.1 hF.2.1 hF.2.2
    · have hF := hF.2 hb
      refine Wa.iload_n (j := 2) d_PB_sheet_12 rfl ?_
      refine Wa.bipush (v := 8) d_PB_sheet_13 rfl ?_
      refine Wa.icmp_lt 28 d_PB_sheet_15 (by decide) (fun hb => ?_) (fun hb => ?_)
      · have hF := hF.1 hb
        refine Wa.aload_n (j := 0) d_PB_sheet_28 rfl ?_
        refine Wx.getR 0 8 d_PB_sheet_29 f_PB_8 rfl fl_PB_58 (s_8 hS (by decide)) (r_8_8 hS (by decide)) ?_
        refine Wa.iload_n (j := 1) d_PB_sheet_32 rfl ?_
        refine Wa.iload_n (j := 2) d_PB_sheet_33 rfl ?_
        refine Wx.cVi (q := E_Wd) (As := [.int x1, .int x2]) 10 (d - 1) 0 0 _ d_PB_sheet_34 mok_Wd_sheetFact vl_PB_140 rfl rfl rfl (Nat.le_of_ble_eq_true rfl) (by omega) (Nat.zero_le _) (Nat.zero_le _) (s_29 hS (by decide)) hF (fun y4 μ3 hS hF => ?_)
        exact Wx.reti d_PB_sheet_37 rfl hF
      · have hF := hF.2 hb
        exact Wa.throw 2 (by decide +kernel) hF.1 hF.2.1 hF.2.2
set_option maxHeartbeats 4000000 in
set_option maxRecDepth 20000 in
theorem g_PB_stamp_0 {d rc rs : Nat} {Q : Option Value → Mu → Prop} {μ : Mu} {x1 : Int32} {x2 : Int32} (hD : 1 ≤ d)  (hS : St μ)
    (hF : (Cal K_PB_isSheet (d - 1) 0 0 [.ref (hd 8 0), .int x1] μ (fun r μ1 => ∃ y2, r = some (.int y2) ∧ ((y2 = 0 → (1 ≤ rc ∧ 6 ≤ rs ∧ Q (some (.float (UInt32.ofNat 2))) μ1)) ∧ (¬ y2 = 0 → (Cal K_PB_isParish (d - 1) 0 0 [.ref (hd 8 0), .int x2] μ1 (fun r μ3 => ∃ y4, r = some (.int y4) ∧ ((y4 = 0 → (1 ≤ rc ∧ 6 ≤ rs ∧ Q (some (.float (UInt32.ofNat 2))) μ3)) ∧ (¬ y4 = 0 → (vp_in x1 60 ∧ (vp_in x2 5 ∧ Q (some (.int (mI μ3 (hd 34 (60 * 0 + x1.toNatClampNeg)) x2.toNatClampNeg))) μ3))))))))))) : Wx K_PB_stamp d rc rs Q 0 [(0, .ref (hd 8 0)), (1, .int x1), (2, .int x2)] [] μ := by
  refine Wa.aload_n (j := 0) d_PB_stamp_0 rfl ?_
  refine Wa.iload_n (j := 1) d_PB_stamp_1 rfl ?_
  refine Wx.cVi (q := E_PB) (As := [.int x1]) 0 (d - 1) 0 0 _ d_PB_stamp_2 mok_PB_isSheet vl_PB_135 rfl rfl rfl (Nat.le_of_ble_eq_true rfl) (by omega) (Nat.zero_le _) (Nat.zero_le _) (s_8 hS (by decide)) hF (fun y2 μ1 hS hF => ?_)
  refine Wa.if_eq 16 d_PB_stamp_5 (by decide) (fun hb => ?_) (fun hb => ?_)
  · have hF := hF.1 hb
    exact Wa.throw 2 (by decide +kernel) hF.1 hF.2.1 hF.2.2
  · have hF := hF.2 hb
    refine Wa.aload_n (j := 0) d_PB_stamp_8 rfl ?_
    refine Wa.iload_n (j := 2) d_PB_stamp_9 rfl ?_
    refine Wx.cVi (q := E_PB) (As := [.int x2]) 0 (d - 1) 0 0 _ d_PB_stamp_10 mok_PB_isParish vl_PB_113 rfl rfl rfl (Nat.le_of_ble_eq_true rfl) (by omega) (Nat.zero_le _) (Nat.zero_le _) (s_8 hS (by decide)) hF (fun y4 μ3 hS hF => ?_)
    refine Wa.if_ne 26 d_PB_stamp_13 (by decide) (fun hb => ?_) (fun hb => ?_)
    · have hF := hF.2 hb
      refine Wa.aload_n (j := 0) d_PB_stamp_26 rfl ?_
      refine Wx.getR 0 8 d_PB_stamp_27 f_PB_8 rfl fl_PB_58 (s_8 hS (by decide)) (r_8_8 hS (by decide)) ?_
      refine Wx.getR 10 0 d_PB_stamp_30 f_Wd_0 rfl fl_PB_145 (s_29 hS (by decide)) (r_29_0 hS (by decide)) ?_
      refine Wa.iload_n (j := 1) d_PB_stamp_33 rfl ?_
      have hc5 := hF.1
      have hF := hF.2
      have hlhc5 := vp_in_lt hc5
      have hb6 : (60 * 0 + x1.toNatClampNeg) < 120 := by have : 0 < 2 := (by decide); omega
      refine Wa.aald (t := 8) (q := E_Sh) d_PB_stamp_34 rfl (s_30 hS (by decide)) hc5 (a_30 hS (by decide) hlhc5) ?_
      refine Wx.getR 8 0 d_PB_stamp_35 f_Sh_0 rfl fl_PB_149 (s_33 hS hb6) (r_33_0 hS hb6) ?_
      refine Wa.iload_n (j := 2) d_PB_stamp_38 rfl ?_
      have hc7 := hF.1
      have hF := hF.2
      have hlhc7 := vp_in_lt hc7
      refine Wx.iald d_PB_stamp_39 w_34 (s_34 hS hb6) hc7 ?_
      exact Wx.reti d_PB_stamp_40 rfl hF
    · have hF := hF.1 hb
      exact Wa.throw 2 (by decide +kernel) hF.1 hF.2.1 hF.2.2
set_option maxHeartbeats 4000000 in
set_option maxRecDepth 20000 in
theorem g_PB_shown_0 {d rc rs : Nat} {Q : Option Value → Mu → Prop} {μ : Mu} {x1 : Int32} {x2 : Int32} {x3 : Int32} (hD : 1 ≤ d)  (hS : St μ)
    (hF : (Cal K_PB_isBoardOf (d - 1) 0 0 [.ref (hd 8 0), .int x1, .int x2] μ (fun r μ1 => ∃ y2, r = some (.int y2) ∧ ((y2 = 0 → (1 ≤ rc ∧ 6 ≤ rs ∧ Q (some (.float (UInt32.ofNat 2))) μ1)) ∧ (¬ y2 = 0 → (vp_in x1 5 ∧ (Cal K_Bd_shownAt (d - 1) 0 0 [.ref (hd 35 (5 * 0 + x1.toNatClampNeg)), .int x2, .int x3] μ1 (fun r μ5 => ∃ y6, r = some (.int y6) ∧ ((y6 = (-1) → (1 ≤ rc ∧ 6 ≤ rs ∧ Q (some (.float (UInt32.ofNat 2))) μ5)) ∧ (¬ y6 = (-1) → Q (some (.int y6)) μ5)))))))))) : Wx K_PB_shown d rc rs Q 0 [(0, .ref (hd 8 0)), (1, .int x1), (2, .int x2), (3, .int x3)] [] μ := by
  refine Wa.aload_n (j := 0) d_PB_shown_0 rfl ?_
  refine Wa.iload_n (j := 1) d_PB_shown_1 rfl ?_
  refine Wa.iload_n (j := 2) d_PB_shown_2 rfl ?_
  refine Wx.cVi (q := E_PB) (As := [.int x1, .int x2]) 0 (d - 1) 0 0 _ d_PB_shown_3 mok_PB_isBoardOf vl_PB_154 rfl rfl rfl (Nat.le_of_ble_eq_true rfl) (by omega) (Nat.zero_le _) (Nat.zero_le _) (s_8 hS (by decide)) hF (fun y2 μ1 hS hF => ?_)
  refine Wa.if_ne 19 d_PB_shown_6 (by decide) (fun hb => ?_) (fun hb => ?_)
  · have hF := hF.2 hb
    refine Wa.aload_n (j := 0) d_PB_shown_19 rfl ?_
    refine Wx.getR 0 8 d_PB_shown_20 f_PB_8 rfl fl_PB_58 (s_8 hS (by decide)) (r_8_8 hS (by decide)) ?_
    refine Wx.getR 10 1 d_PB_shown_23 f_Wd_1 rfl fl_PB_125 (s_29 hS (by decide)) (r_29_1 hS (by decide)) ?_
    refine Wa.iload_n (j := 1) d_PB_shown_26 rfl ?_
    have hc3 := hF.1
    have hF := hF.2
    have hlhc3 := vp_in_lt hc3
    have hb4 : (5 * 0 + x1.toNatClampNeg) < 10 := by have : 0 < 2 := (by decide); omega
    refine Wa.aald (t := 1) (q := E_Bd) d_PB_shown_27 rfl (s_31 hS (by decide)) hc3 (a_31 hS (by decide) hlhc3) ?_
    refine Wa.iload_n (j := 2) d_PB_shown_28 rfl ?_
    refine Wa.iload_n (j := 3) d_PB_shown_29 rfl ?_
    refine Wx.cVi (q := E_Bd) (As := [.int x2, .int x3]) 1 (d - 1) 0 0 _ d_PB_shown_30 mok_Bd_shownAt vl_PB_160 rfl rfl rfl (Nat.le_of_ble_eq_true rfl) (by omega) (Nat.zero_le _) (Nat.zero_le _) (s_35 hS hb4) hF (fun y6 μ5 hS hF => ?_)
    refine Wa.istore (i := 4) (L' := [(4, .int y6), (0, .ref (hd 8 0)), (1, .int x1), (2, .int x2), (3, .int x3)]) d_PB_shown_33 (by decide) rfl ?_
    refine Wa.iload (j := 0) d_PB_shown_35 rfl ?_
    refine Wa.iconst (v := (-1)) d_PB_shown_37 rfl ?_
    refine Wa.icmp_ne 51 d_PB_shown_38 (by decide) (fun hb => ?_) (fun hb => ?_)
    · have hF := hF.2 hb
      refine Wa.iload (j := 0) d_PB_shown_51 rfl ?_
      exact Wx.reti d_PB_shown_53 rfl hF
    · have hF := hF.1 hb
      exact Wa.throw 2 (by decide +kernel) hF.1 hF.2.1 hF.2.2
  · have hF := hF.1 hb
    exact Wa.throw 2 (by decide +kernel) hF.1 hF.2.1 hF.2.2
set_option maxHeartbeats 4000000 in
set_option maxRecDepth 20000 in
theorem g_PB_compare_0 {d rc rs : Nat} {Q : Option Value → Mu → Prop} {μ : Mu} {x1 : Int32} {x2 : Int32} (hD : 1 ≤ d)  (hS : St μ)
    (hF : (Cal K_PB_isSheet (d - 1) 0 0 [.ref (hd 8 0), .int x1] μ (fun r μ1 => ∃ y2, r = some (.int y2) ∧ ((y2 = 0 → (1 ≤ rc ∧ 6 ≤ rs ∧ Q (some (.float (UInt32.ofNat 2))) μ1)) ∧ (¬ y2 = 0 → (Cal K_PB_isSheet (d - 1) 0 0 [.ref (hd 8 0), .int x2] μ1 (fun r μ3 => ∃ y4, r = some (.int y4) ∧ ((y4 = 0 → (1 ≤ rc ∧ 6 ≤ rs ∧ Q (some (.float (UInt32.ofNat 2))) μ3)) ∧ (¬ y4 = 0 → ((x1 = x2 → Q (some (.int 0)) μ3) ∧ (¬ x1 = x2 → (vp_in x1 60 ∧ (vp_in x2 60 ∧ (Cal K_Sh_isAheadOf (d - 1) 0 0 [.ref (hd 33 (60 * 0 + x1.toNatClampNeg)), .ref (hd 33 (60 * 0 + x2.toNatClampNeg))] μ3 (fun r μ9 => ∃ y10, r = some (.int y10) ∧ ((y10 = 0 → (vp_in x2 60 ∧ (vp_in x1 60 ∧ (Cal K_Sh_isAheadOf (d - 1) 0 0 [.ref (hd 33 (60 * 0 + x2.toNatClampNeg)), .ref (hd 33 (60 * 0 + x1.toNatClampNeg))] μ9 (fun r μ15 => ∃ y16, r = some (.int y16) ∧ ((y16 = 0 → Q (some (.int 3)) μ15) ∧ (¬ y16 = 0 → Q (some (.int 2)) μ15))))))) ∧ (¬ y10 = 0 → Q (some (.int 1)) μ9))))))))))))))))) : Wx K_PB_compare d rc rs Q 0 [(0, .ref (hd 8 0)), (1, .int x1), (2, .int x2)] [] μ := by
  refine Wa.aload_n (j := 0) d_PB_compare_0 rfl ?_
  refine Wa.iload_n (j := 1) d_PB_compare_1 rfl ?_
  refine Wx.cVi (q := E_PB) (As := [.int x1]) 0 (d - 1) 0 0 _ d_PB_compare_2 mok_PB_isSheet vl_PB_135 rfl rfl rfl (Nat.le_of_ble_eq_true rfl) (by omega) (Nat.zero_le _) (Nat.zero_le _) (s_8 hS (by decide)) hF (fun y2 μ1 hS hF => ?_)
  refine Wa.if_eq 16 d_PB_compare_5 (by decide) (fun hb => ?_) (fun hb => ?_)
  · have hF := hF.1 hb
    exact Wa.throw 2 (by decide +kernel) hF.1 hF.2.1 hF.2.2
  · have hF := hF.2 hb
    refine Wa.aload_n (j := 0) d_PB_compare_8 rfl ?_
    refine Wa.iload_n (j := 2) d_PB_compare_9 rfl ?_
    refine Wx.cVi (q := E_PB) (As := [.int x2]) 0 (d - 1) 0 0 _ d_PB_compare_10 mok_PB_isSheet vl_PB_135 rfl rfl rfl (Nat.le_of_ble_eq_true rfl) (by omega) (Nat.zero_le _) (Nat.zero_le _) (s_8 hS (by decide)) hF (fun y4 μ3 hS hF => ?_)
    refine Wa.if_ne 26 d_PB_compare_13 (by decide) (fun hb => ?_) (fun hb => ?_)
    · have hF := hF.2 hb
      refine Wa.iload_n (j := 1) d_PB_compare_26 rfl ?_
      refine Wa.iload_n (j := 2) d_PB_compare_27 rfl ?_
      refine Wa.icmp_ne 33 d_PB_compare_28 (by decide) (fun hb => ?_) (fun hb => ?_)
      · have hF := hF.2 hb
        refine Wa.aload_n (j := 0) d_PB_compare_33 rfl ?_
        refine Wx.getR 0 8 d_PB_compare_34 f_PB_8 rfl fl_PB_58 (s_8 hS (by decide)) (r_8_8 hS (by decide)) ?_
        refine Wx.getR 10 0 d_PB_compare_37 f_Wd_0 rfl fl_PB_145 (s_29 hS (by decide)) (r_29_0 hS (by decide)) ?_
        refine Wa.iload_n (j := 1) d_PB_compare_40 rfl ?_
        have hc5 := hF.1
        have hF := hF.2
        have hlhc5 := vp_in_lt hc5
        have hb6 : (60 * 0 + x1.toNatClampNeg) < 120 := by have : 0 < 2 := (by decide); omega
        refine Wa.aald (t := 8) (q := E_Sh) d_PB_compare_41 rfl (s_30 hS (by decide)) hc5 (a_30 hS (by decide) hlhc5) ?_
        refine Wa.aload_n (j := 0) d_PB_compare_42 rfl ?_
        refine Wx.getR 0 8 d_PB_compare_43 f_PB_8 rfl fl_PB_58 (s_8 hS (by decide)) (r_8_8 hS (by decide)) ?_
        refine Wx.getR 10 0 d_PB_compare_46 f_Wd_0 rfl fl_PB_145 (s_29 hS (by decide)) (r_29_0 hS (by decide)) ?_
        refine Wa.iload_n (j := 2) d_PB_compare_49 rfl ?_
        have hc7 := hF.1
        have hF := hF.2
        have hlhc7 := vp_in_lt hc7
        have hb8 : (60 * 0 + x2.toNatClampNeg) < 120 := by have : 0 < 2 := (by decide); omega
        refine Wa.aald (t := 8) (q := E_Sh) d_PB_compare_50 rfl (s_30 hS (by decide)) hc7 (a_30 hS (by decide) hlhc7) ?_
        refine Wx.cVi (q := E_Sh) (As := [.ref (hd 33 (60 * 0 + x2.toNatClampNeg))]) 8 (d - 1) 0 0 _ d_PB_compare_51 mok_Sh_isAheadOf vl_PB_167 rfl rfl rfl (Nat.le_of_ble_eq_true rfl) (by omega) (Nat.zero_le _) (Nat.zero_le _) (s_33 hS hb6) hF (fun y10 μ9 hS hF => ?_)
        refine Wa.if_eq 59 d_PB_compare_54 (by decide) (fun hb => ?_) (fun hb => ?_)
        · have hF := hF.1 hb
          refine Wa.aload_n (j := 0) d_PB_compare_59 rfl ?_
          refine Wx.getR 0 8 d_PB_compare_60 f_PB_8 rfl fl_PB_58 (s_8 hS (by decide)) (r_8_8 hS (by decide)) ?_
          refine Wx.getR 10 0 d_PB_compare_63 f_Wd_0 rfl fl_PB_145 (s_29 hS (by decide)) (r_29_0 hS (by decide)) ?_
          refine Wa.iload_n (j := 2) d_PB_compare_66 rfl ?_
          have hc11 := hF.1
          have hF := hF.2
          have hlhc11 := vp_in_lt hc11
          have hb12 : (60 * 0 + x2.toNatClampNeg) < 120 := by have : 0 < 2 := (by decide); omega
          refine Wa.aald (t := 8) (q := E_Sh) d_PB_compare_67 rfl (s_30 hS (by decide)) hc11 (a_30 hS (by decide) hlhc11) ?_
          refine Wa.aload_n (j := 0) d_PB_compare_68 rfl ?_
          refine Wx.getR 0 8 d_PB_compare_69 f_PB_8 rfl fl_PB_58 (s_8 hS (by decide)) (r_8_8 hS (by decide)) ?_
          refine Wx.getR 10 0 d_PB_compare_72 f_Wd_0 rfl fl_PB_145 (s_29 hS (by decide)) (r_29_0 hS (by decide)) ?_
          refine Wa.iload_n (j := 1) d_PB_compare_75 rfl ?_
          have hc13 := hF.1
          have hF := hF.2
          have hlhc13 := vp_in_lt hc13
          have hb14 : (60 * 0 + x1.toNatClampNeg) < 120 := by have : 0 < 2 := (by decide); omega
          refine Wa.aald (t := 8) (q := E_Sh) d_PB_compare_76 rfl (s_30 hS (by decide)) hc13 (a_30 hS (by decide) hlhc13) ?_
          refine Wx.cVi (q := E_Sh) (As := [.ref (hd 33 (60 * 0 + x1.toNatClampNeg))]) 8 (d - 1) 0 0 _ d_PB_compare_77 mok_Sh_isAheadOf vl_PB_167 rfl rfl rfl (Nat.le_of_ble_eq_true rfl) (by omega) (Nat.zero_le _) (Nat.zero_le _) (s_33 hS hb12) hF (fun y16 μ15 hS hF => ?_)
          refine Wa.if_eq 87 d_PB_compare_80 (by decide) (fun hb => ?_) (fun hb => ?_)
          · have hF := hF.1 hb
            refine Wa.iconst (v := 3) d_PB_compare_87 rfl ?_
            exact Wx.reti d_PB_compare_88 rfl hF
          · have hF := hF.2 hb
            refine Wa.iconst (v := 2) d_PB_compare_83 rfl ?_
            refine Wa.goto 88 d_PB_compare_84 (by decide) ?_
            exact Wx.reti d_PB_compare_88 rfl hF
        · have hF := hF.2 hb
          refine Wa.iconst (v := 1) d_PB_compare_57 rfl ?_
          exact Wx.reti d_PB_compare_58 rfl hF
      · have hF := hF.1 hb
        refine Wa.iconst (v := 0) d_PB_compare_31 rfl ?_
        exact Wx.reti d_PB_compare_32 rfl hF
    · have hF := hF.1 hb
      exact Wa.throw 2 (by decide +kernel) hF.1 hF.2.1 hF.2.2
set_option maxHeartbeats 4000000 in
set_option maxRecDepth 20000 in
theorem g_PB_road_0 {d rc rs : Nat} {Q : Option Value → Mu → Prop} {μ : Mu} {x1 : Int32} {x2 : Int32} (hD : 1 ≤ d)  (hS : St μ)
    (hF : (Cal K_PB_isRoad (d - 1) 0 0 [.ref (hd 8 0), .int x1] μ (fun r μ1 => ∃ y2, r = some (.int y2) ∧ ((y2 = 0 → (1 ≤ rc ∧ 6 ≤ rs ∧ Q (some (.float (UInt32.ofNat 2))) μ1)) ∧ (¬ y2 = 0 → ((x2 < 0 → (1 ≤ rc ∧ 6 ≤ rs ∧ Q (some (.float (UInt32.ofNat 2))) μ1)) ∧ (¬ x2 < 0 → ((x2 < 5 → (Cal K_Wd_roadFact (d - 1) 0 0 [.ref (hd 29 0), .int x1, .int x2] μ1 (fun r μ3 => ∃ y4, r = some (.int y4) ∧ Q (some (.int y4)) μ3))) ∧ (¬ x2 < 5 → (1 ≤ rc ∧ 6 ≤ rs ∧ Q (some (.float (UInt32.ofNat 2))) μ1)))))))))) : Wx K_PB_road d rc rs Q 0 [(0, .ref (hd 8 0)), (1, .int x1), (2, .int x2)] [] μ := by
  refine Wa.aload_n (j := 0) d_PB_road_0 rfl ?_
  refine Wa.iload_n (j := 1) d_PB_road_1 rfl ?_
  refine Wx.cVi (q := E_PB) (As := [.int x1]) 0 (d - 1) 0 0 _ d_PB_road_2 mok_PB_isRoad vl_PB_171 rfl rfl rfl (Nat.le_of_ble_eq_true rfl) (by omega) (Nat.zero_le _) (Nat.zero_le _) (s_8 hS (by decide)) hF (fun y2 μ1 hS hF => ?_)
  refine Wa.if_eq 17 d_PB_road_5 (by decide) (fun hb => ?_) (fun hb => ?_)
  · have hF := hF.1 hb
    exact Wa.throw 2 (by decide +kernel) hF.1 hF.2.1 hF.2.2
  · have hF := hF.2 hb
    refine Wa.iload_n (j := 2) d_PB_road_8 rfl ?_
    refine Wa.if_lt 17 d_PB_road_9 (by decide) (fun hb => ?_) (fun hb => ?_)
    · have hF := hF.1 hb
      exact Wa.throw 2 (by decide +kernel) hF.1 hF.2.1 hF.2.2
    · have hF := hF.2 hb
      refine Wa.iload_n (j := 2) d_PB_road_12 rfl ?_
      refine Wa.iconst (v := 5) d_PB_road_13 rfl ?_
      refine Wa.icmp_lt 27 d_PB_road_14 (by decide) (fun hb => ?_) (fun hb => ?_)
      · have hF := hF.1 hb
        refine Wa.aload_n (j := 0) d_PB_road_27 rfl ?_
        refine Wx.getR 0 8 d_PB_road_28 f_PB_8 rfl fl_PB_58 (s_8 hS (by decide)) (r_8_8 hS (by decide)) ?_
        refine Wa.iload_n (j := 1) d_PB_road_31 rfl ?_
        refine Wa.iload_n (j := 2) d_PB_road_32 rfl ?_
        refine Wx.cVi (q := E_Wd) (As := [.int x1, .int x2]) 10 (d - 1) 0 0 _ d_PB_road_33 mok_Wd_roadFact vl_PB_176 rfl rfl rfl (Nat.le_of_ble_eq_true rfl) (by omega) (Nat.zero_le _) (Nat.zero_le _) (s_29 hS (by decide)) hF (fun y4 μ3 hS hF => ?_)
        exact Wx.reti d_PB_road_36 rfl hF
      · have hF := hF.2 hb
        exact Wa.throw 2 (by decide +kernel) hF.1 hF.2.1 hF.2.2
set_option maxHeartbeats 4000000 in
set_option maxRecDepth 20000 in
theorem g_PB_write_0 {d rc rs : Nat} {Q : Option Value → Mu → Prop} {μ : Mu} {x1 : Int32} {x2 : Int32} {x3 : Int32} (hD : 1 ≤ d)  (hS : St μ)
    (hF : (Cal K_PB_isBoardOf (d - 1) 0 0 [.ref (hd 8 0), .int x1, .int x2] μ (fun r μ1 => ∃ y2, r = some (.int y2) ∧ ((y2 = 0 → (1 ≤ rc ∧ 6 ≤ rs ∧ Q (some (.float (UInt32.ofNat 2))) μ1)) ∧ (¬ y2 = 0 → ((x3 < 0 → (1 ≤ rc ∧ 6 ≤ rs ∧ Q (some (.float (UInt32.ofNat 1))) μ1)) ∧ (¬ x3 < 0 → ((x3 ≤ 9999 → (Cal K_Wd_isFull (d - 1) 0 0 [.ref (hd 29 0)] μ1 (fun r μ3 => ∃ y4, r = some (.int y4) ∧ ((y4 = 0 → (Cal K_Wd_makeWritten (d - 1) 0 0 [.ref (hd 29 0), .int x1, .int x2, .int x3] μ3 (fun r μ5 => ∃ y6, r = some (.int y6) ∧ Q (some (.int y6)) μ5))) ∧ (¬ y4 = 0 → (1 ≤ rc ∧ 6 ≤ rs ∧ Q (some (.float (UInt32.ofNat 0))) μ3)))))) ∧ (¬ x3 ≤ 9999 → (1 ≤ rc ∧ 6 ≤ rs ∧ Q (some (.float (UInt32.ofNat 1))) μ1)))))))))) : Wx K_PB_write d rc rs Q 0 [(0, .ref (hd 8 0)), (1, .int x1), (2, .int x2), (3, .int x3)] [] μ := by
  refine Wa.aload_n (j := 0) d_PB_write_0 rfl ?_
  refine Wa.iload_n (j := 1) d_PB_write_1 rfl ?_
  refine Wa.iload_n (j := 2) d_PB_write_2 rfl ?_
  refine Wx.cVi (q := E_PB) (As := [.int x1, .int x2]) 0 (d - 1) 0 0 _ d_PB_write_3 mok_PB_isBoardOf vl_PB_154 rfl rfl rfl (Nat.le_of_ble_eq_true rfl) (by omega) (Nat.zero_le _) (Nat.zero_le _) (s_8 hS (by decide)) hF (fun y2 μ1 hS hF => ?_)
  refine Wa.if_ne 19 d_PB_write_6 (by decide) (fun hb => ?_) (fun hb => ?_)
  · have hF := hF.2 hb
    refine Wa.iload_n (j := 3) d_PB_write_19 rfl ?_
    refine Wa.if_lt 30 d_PB_write_20 (by decide) (fun hb => ?_) (fun hb => ?_)
    · have hF := hF.1 hb
      exact Wa.throw 1 (by decide +kernel) hF.1 hF.2.1 hF.2.2
    · have hF := hF.2 hb
      refine Wa.iload_n (j := 3) d_PB_write_23 rfl ?_
      refine Wa.sipush (v := 9999) d_PB_write_24 rfl ?_
      refine Wa.icmp_le 40 d_PB_write_27 (by decide) (fun hb => ?_) (fun hb => ?_)
      · have hF := hF.1 hb
        refine Wa.aload_n (j := 0) d_PB_write_40 rfl ?_
        refine Wx.getR 0 8 d_PB_write_41 f_PB_8 rfl fl_PB_58 (s_8 hS (by decide)) (r_8_8 hS (by decide)) ?_
        refine Wx.cVi (q := E_Wd) (As := []) 10 (d - 1) 0 0 _ d_PB_write_44 mok_Wd_isFull vl_PB_181 rfl rfl rfl (Nat.le_of_ble_eq_true rfl) (by omega) (Nat.zero_le _) (Nat.zero_le _) (s_29 hS (by decide)) hF (fun y4 μ3 hS hF => ?_)
        refine Wa.if_eq 60 d_PB_write_47 (by decide) (fun hb => ?_) (fun hb => ?_)
        · have hF := hF.1 hb
          refine Wa.aload_n (j := 0) d_PB_write_60 rfl ?_
          refine Wx.getR 0 8 d_PB_write_61 f_PB_8 rfl fl_PB_58 (s_8 hS (by decide)) (r_8_8 hS (by decide)) ?_
          refine Wa.iload_n (j := 1) d_PB_write_64 rfl ?_
          refine Wa.iload_n (j := 2) d_PB_write_65 rfl ?_
          refine Wa.iload_n (j := 3) d_PB_write_66 rfl ?_
          refine Wx.cVi (q := E_Wd) (As := [.int x1, .int x2, .int x3]) 10 (d - 1) 0 0 _ d_PB_write_67 mok_Wd_makeWritten vl_PB_187 rfl rfl rfl (Nat.le_of_ble_eq_true rfl) (by omega) (Nat.zero_le _) (Nat.zero_le _) (s_29 hS (by decide)) hF (fun y6 μ5 hS hF => ?_)
          exact Wx.reti d_PB_write_70 rfl hF
        · have hF := hF.2 hb
          exact Wa.throw 0 (by decide +kernel) hF.1 hF.2.1 hF.2.2
      · have hF := hF.2 hb
        exact Wa.throw 1 (by decide +kernel) hF.1 hF.2.1 hF.2.2
  · have hF := hF.1 hb
    exact Wa.throw 2 (by decide +kernel) hF.1 hF.2.1 hF.2.2
set_option maxHeartbeats 4000000 in
set_option maxRecDepth 20000 in
theorem g_PB_note_0 {d rc rs : Nat} {Q : Option Value → Mu → Prop} {μ : Mu} {x1 : Int32} {x2 : Int32} {x3 : Int32} (hD : 1 ≤ d)  (hS : St μ)
    (hF : (Cal K_PB_isBoardOf (d - 1) 0 0 [.ref (hd 8 0), .int x1, .int x2] μ (fun r μ1 => ∃ y2, r = some (.int y2) ∧ ((y2 = 0 → (1 ≤ rc ∧ 6 ≤ rs ∧ Q (some (.float (UInt32.ofNat 2))) μ1)) ∧ (¬ y2 = 0 → (Cal K_PB_isMark (d - 1) 0 0 [.int x3] μ1 (fun r μ3 => ∃ y4, r = some (.int y4) ∧ ((y4 = 0 → (1 ≤ rc ∧ 6 ≤ rs ∧ Q (some (.float (UInt32.ofNat 1))) μ3)) ∧ (¬ y4 = 0 → (Cal K_Wd_isFull (d - 1) 0 0 [.ref (hd 29 0)] μ3 (fun r μ5 => ∃ y6, r = some (.int y6) ∧ ((y6 = 0 → (Cal K_Wd_canNote (d - 1) 0 0 [.ref (hd 29 0), .int x1, .int x2] μ5 (fun r μ7 => ∃ y8, r = some (.int y8) ∧ ((y8 = 0 → (1 ≤ rc ∧ 6 ≤ rs ∧ Q (some (.float (UInt32.ofNat 0))) μ7)) ∧ (¬ y8 = 0 → (Cal K_Wd_makeNoted (d - 1) 0 0 [.ref (hd 29 0), .int x1, .int x2, .int x3] μ7 (fun r μ9 => ∃ y10, r = some (.int y10) ∧ Q (some (.int y10)) μ9))))))) ∧ (¬ y6 = 0 → (1 ≤ rc ∧ 6 ≤ rs ∧ Q (some (.float (UInt32.ofNat 0))) μ5)))))))))))))) : Wx K_PB_note d rc rs Q 0 [(0, .ref (hd 8 0)), (1, .int x1), (2, .int x2), (3, .int x3)] [] μ := by
  refine Wa.aload_n (j := 0) d_PB_note_0 rfl ?_
  refine Wa.iload_n (j := 1) d_PB_note_1 rfl ?_
  refine Wa.iload_n (j := 2) d_PB_note_2 rfl ?_
  refine Wx.cVi (q := E_PB) (As := [.int x1, .int x2]) 0 (d - 1) 0 0 _ d_PB_note_3 mok_PB_isBoardOf vl_PB_154 rfl rfl rfl (Nat.le_of_ble_eq_true rfl) (by omega) (Nat.zero_le _) (Nat.zero_le _) (s_8 hS (by decide)) hF (fun y2 μ1 hS hF => ?_)
  refine Wa.if_ne 19 d_PB_note_6 (by decide) (fun hb => ?_) (fun hb => ?_)
  · have hF := hF.2 hb
    refine Wa.iload_n (j := 3) d_PB_note_19 rfl ?_
    refine Wx.cSi (As := [.int x3]) (d - 1) 0 0 _ d_PB_note_20 mok_PB_isMark sl_PB_191 rfl rfl (Nat.le_of_ble_eq_true rfl) (by omega) (Nat.zero_le _) (Nat.zero_le _) hF (fun y4 μ3 hS hF => ?_)
    refine Wa.if_ne 36 d_PB_note_23 (by decide) (fun hb => ?_) (fun hb => ?_)
    · have hF := hF.2 hb
      refine Wa.aload_n (j := 0) d_PB_note_36 rfl ?_
      refine Wx.getR 0 8 d_PB_note_37 f_PB_8 rfl fl_PB_58 (s_8 hS (by decide)) (r_8_8 hS (by decide)) ?_
      refine Wx.cVi (q := E_Wd) (As := []) 10 (d - 1) 0 0 _ d_PB_note_40 mok_Wd_isFull vl_PB_181 rfl rfl rfl (Nat.le_of_ble_eq_true rfl) (by omega) (Nat.zero_le _) (Nat.zero_le _) (s_29 hS (by decide)) hF (fun y6 μ5 hS hF => ?_)
      refine Wa.if_ne 58 d_PB_note_43 (by decide) (fun hb => ?_) (fun hb => ?_)
      · have hF := hF.2 hb
        exact Wa.throw 0 (by decide +kernel) hF.1 hF.2.1 hF.2.2
      · have hF := hF.1 hb
        refine Wa.aload_n (j := 0) d_PB_note_46 rfl ?_
        refine Wx.getR 0 8 d_PB_note_47 f_PB_8 rfl fl_PB_58 (s_8 hS (by decide)) (r_8_8 hS (by decide)) ?_
        refine Wa.iload_n (j := 1) d_PB_note_50 rfl ?_
        refine Wa.iload_n (j := 2) d_PB_note_51 rfl ?_
        refine Wx.cVi (q := E_Wd) (As := [.int x1, .int x2]) 10 (d - 1) 0 0 _ d_PB_note_52 mok_Wd_canNote vl_PB_196 rfl rfl rfl (Nat.le_of_ble_eq_true rfl) (by omega) (Nat.zero_le _) (Nat.zero_le _) (s_29 hS (by decide)) hF (fun y8 μ7 hS hF => ?_)
        refine Wa.if_ne 68 d_PB_note_55 (by decide) (fun hb => ?_) (fun hb => ?_)
        · have hF := hF.2 hb
          refine Wa.aload_n (j := 0) d_PB_note_68 rfl ?_
          refine Wx.getR 0 8 d_PB_note_69 f_PB_8 rfl fl_PB_58 (s_8 hS (by decide)) (r_8_8 hS (by decide)) ?_
          refine Wa.iload_n (j := 1) d_PB_note_72 rfl ?_
          refine Wa.iload_n (j := 2) d_PB_note_73 rfl ?_
          refine Wa.iload_n (j := 3) d_PB_note_74 rfl ?_
          refine Wx.cVi (q := E_Wd) (As := [.int x1, .int x2, .int x3]) 10 (d - 1) 0 0 _ d_PB_note_75 mok_Wd_makeNoted vl_PB_201 rfl rfl rfl (Nat.le_of_ble_eq_true rfl) (by omega) (Nat.zero_le _) (Nat.zero_le _) (s_29 hS (by decide)) hF (fun y10 μ9 hS hF => ?_)
          exact Wx.reti d_PB_note_78 rfl hF
        · have hF := hF.1 hb
          exact Wa.throw 0 (by decide +kernel) hF.1 hF.2.1 hF.2.2
    · have hF := hF.1 hb
      exact Wa.throw 1 (by decide +kernel) hF.1 hF.2.1 hF.2.2
  · have hF := hF.1 hb
    exact Wa.throw 2 (by decide +kernel) hF.1 hF.2.1 hF.2.2
set_option maxHeartbeats 4000000 in
set_option maxRecDepth 20000 in
theorem g_PB_merge_0 {d rc rs : Nat} {Q : Option Value → Mu → Prop} {μ : Mu} {x1 : Int32} {x2 : Int32} {x3 : Int32} (hD : 1 ≤ d)  (hS : St μ)
    (hF : (Cal K_PB_isBoardOf (d - 1) 0 0 [.ref (hd 8 0), .int x1, .int x2] μ (fun r μ1 => ∃ y2, r = some (.int y2) ∧ ((y2 = 0 → (1 ≤ rc ∧ 6 ≤ rs ∧ Q (some (.float (UInt32.ofNat 2))) μ1)) ∧ (¬ y2 = 0 → ((x3 < 0 → (1 ≤ rc ∧ 6 ≤ rs ∧ Q (some (.float (UInt32.ofNat 2))) μ1)) ∧ (¬ x3 < 0 → ((x3 ≤ 2 → (Cal K_Wd_isFull (d - 1) 0 0 [.ref (hd 29 0)] μ1 (fun r μ3 => ∃ y4, r = some (.int y4) ∧ ((y4 = 0 → (Cal K_Wd_canMerge (d - 1) 0 0 [.ref (hd 29 0), .int x1, .int x2] μ3 (fun r μ5 => ∃ y6, r = some (.int y6) ∧ ((y6 = 0 → (1 ≤ rc ∧ 6 ≤ rs ∧ Q (some (.float (UInt32.ofNat 0))) μ5)) ∧ (¬ y6 = 0 → (Cal K_Wd_makeMerged (d - 1) 0 0 [.ref (hd 29 0), .int x1, .int x2, .int x3] μ5 (fun r μ7 => ∃ y8, r = some (.int y8) ∧ Q (some (.int y8)) μ7))))))) ∧ (¬ y4 = 0 → (1 ≤ rc ∧ 6 ≤ rs ∧ Q (some (.float (UInt32.ofNat 0))) μ3)))))) ∧ (¬ x3 ≤ 2 → (1 ≤ rc ∧ 6 ≤ rs ∧ Q (some (.float (UInt32.ofNat 2))) μ1)))))))))) : Wx K_PB_merge d rc rs Q 0 [(0, .ref (hd 8 0)), (1, .int x1), (2, .int x2), (3, .int x3)] [] μ := by
  refine Wa.aload_n (j := 0) d_PB_merge_0 rfl ?_
  refine Wa.iload_n (j := 1) d_PB_merge_1 rfl ?_
  refine Wa.iload_n (j := 2) d_PB_merge_2 rfl ?_
  refine Wx.cVi (q := E_PB) (As := [.int x1, .int x2]) 0 (d - 1) 0 0 _ d_PB_merge_3 mok_PB_isBoardOf vl_PB_154 rfl rfl rfl (Nat.le_of_ble_eq_true rfl) (by omega) (Nat.zero_le _) (Nat.zero_le _) (s_8 hS (by decide)) hF (fun y2 μ1 hS hF => ?_)
  refine Wa.if_eq 18 d_PB_merge_6 (by decide) (fun hb => ?_) (fun hb => ?_)
  · have hF := hF.1 hb
    exact Wa.throw 2 (by decide +kernel) hF.1 hF.2.1 hF.2.2
  · have hF := hF.2 hb
    refine Wa.iload_n (j := 3) d_PB_merge_9 rfl ?_
    refine Wa.if_lt 18 d_PB_merge_10 (by decide) (fun hb => ?_) (fun hb => ?_)
    · have hF := hF.1 hb
      exact Wa.throw 2 (by decide +kernel) hF.1 hF.2.1 hF.2.2
    · have hF := hF.2 hb
      refine Wa.iload_n (j := 3) d_PB_merge_13 rfl ?_
      refine Wa.iconst (v := 2) d_PB_merge_14 rfl ?_
      refine Wa.icmp_le 28 d_PB_merge_15 (by decide) (fun hb => ?_) (fun hb => ?_)
      · have hF := hF.1 hb
        refine Wa.aload_n (j := 0) d_PB_merge_28 rfl ?_
        refine Wx.getR 0 8 d_PB_merge_29 f_PB_8 rfl fl_PB_58 (s_8 hS (by decide)) (r_8_8 hS (by decide)) ?_
        refine Wx.cVi (q := E_Wd) (As := []) 10 (d - 1) 0 0 _ d_PB_merge_32 mok_Wd_isFull vl_PB_181 rfl rfl rfl (Nat.le_of_ble_eq_true rfl) (by omega) (Nat.zero_le _) (Nat.zero_le _) (s_29 hS (by decide)) hF (fun y4 μ3 hS hF => ?_)
        refine Wa.if_ne 50 d_PB_merge_35 (by decide) (fun hb => ?_) (fun hb => ?_)
        · have hF := hF.2 hb
          exact Wa.throw 0 (by decide +kernel) hF.1 hF.2.1 hF.2.2
        · have hF := hF.1 hb
          refine Wa.aload_n (j := 0) d_PB_merge_38 rfl ?_
          refine Wx.getR 0 8 d_PB_merge_39 f_PB_8 rfl fl_PB_58 (s_8 hS (by decide)) (r_8_8 hS (by decide)) ?_
          refine Wa.iload_n (j := 1) d_PB_merge_42 rfl ?_
          refine Wa.iload_n (j := 2) d_PB_merge_43 rfl ?_
          refine Wx.cVi (q := E_Wd) (As := [.int x1, .int x2]) 10 (d - 1) 0 0 _ d_PB_merge_44 mok_Wd_canMerge vl_PB_206 rfl rfl rfl (Nat.le_of_ble_eq_true rfl) (by omega) (Nat.zero_le _) (Nat.zero_le _) (s_29 hS (by decide)) hF (fun y6 μ5 hS hF => ?_)
          refine Wa.if_ne 60 d_PB_merge_47 (by decide) (fun hb => ?_) (fun hb => ?_)
          · have hF := hF.2 hb
            refine Wa.aload_n (j := 0) d_PB_merge_60 rfl ?_
            refine Wx.getR 0 8 d_PB_merge_61 f_PB_8 rfl fl_PB_58 (s_8 hS (by decide)) (r_8_8 hS (by decide)) ?_
            refine Wa.iload_n (j := 1) d_PB_merge_64 rfl ?_
            refine Wa.iload_n (j := 2) d_PB_merge_65 rfl ?_
            refine Wa.iload_n (j := 3) d_PB_merge_66 rfl ?_
            refine Wx.cVi (q := E_Wd) (As := [.int x1, .int x2, .int x3]) 10 (d - 1) 0 0 _ d_PB_merge_67 mok_Wd_makeMerged vl_PB_211 rfl rfl rfl (Nat.le_of_ble_eq_true rfl) (by omega) (Nat.zero_le _) (Nat.zero_le _) (s_29 hS (by decide)) hF (fun y8 μ7 hS hF => ?_)
            exact Wx.reti d_PB_merge_70 rfl hF
          · have hF := hF.1 hb
            exact Wa.throw 0 (by decide +kernel) hF.1 hF.2.1 hF.2.2
      · have hF := hF.2 hb
        exact Wa.throw 2 (by decide +kernel) hF.1 hF.2.1 hF.2.2
set_option maxHeartbeats 4000000 in
set_option maxRecDepth 20000 in
theorem g_PB_send_0 {d rc rs : Nat} {Q : Option Value → Mu → Prop} {μ : Mu} {x1 : Int32} (hD : 1 ≤ d)  (hS : St μ)
    (hF : (Cal K_PB_isRoad (d - 1) 0 0 [.ref (hd 8 0), .int x1] μ (fun r μ1 => ∃ y2, r = some (.int y2) ∧ ((y2 = 0 → (1 ≤ rc ∧ 6 ≤ rs ∧ Q (some (.float (UInt32.ofNat 2))) μ1)) ∧ (¬ y2 = 0 → (Cal K_Wd_carry (d - 1) 0 0 [.ref (hd 29 0), .int x1] μ1 (fun r μ3 => ∃ y4, r = some (.int y4) ∧ Q (some (.int y4)) μ3))))))) : Wx K_PB_send d rc rs Q 0 [(0, .ref (hd 8 0)), (1, .int x1)] [] μ := by
  refine Wa.aload_n (j := 0) d_PB_send_0 rfl ?_
  refine Wa.iload_n (j := 1) d_PB_send_1 rfl ?_
  refine Wx.cVi (q := E_PB) (As := [.int x1]) 0 (d - 1) 0 0 _ d_PB_send_2 mok_PB_isRoad vl_PB_171 rfl rfl rfl (Nat.le_of_ble_eq_true rfl) (by omega) (Nat.zero_le _) (Nat.zero_le _) (s_8 hS (by decide)) hF (fun y2 μ1 hS hF => ?_)
  refine Wa.if_ne 18 d_PB_send_5 (by decide) (fun hb => ?_) (fun hb => ?_)
  · have hF := hF.2 hb
    refine Wa.aload_n (j := 0) d_PB_send_18 rfl ?_
    refine Wx.getR 0 8 d_PB_send_19 f_PB_8 rfl fl_PB_58 (s_8 hS (by decide)) (r_8_8 hS (by decide)) ?_
    refine Wa.iload_n (j := 1) d_PB_send_22 rfl ?_
    refine Wx.cVi (q := E_Wd) (As := [.int x1]) 10 (d - 1) 0 0 _ d_PB_send_23 mok_Wd_carry vl_PB_216 rfl rfl rfl (Nat.le_of_ble_eq_true rfl) (by omega) (Nat.zero_le _) (Nat.zero_le _) (s_29 hS (by decide)) hF (fun y4 μ3 hS hF => ?_)
    exact Wx.reti d_PB_send_26 rfl hF
  · have hF := hF.1 hb
    exact Wa.throw 2 (by decide +kernel) hF.1 hF.2.1 hF.2.2
set_option maxHeartbeats 4000000 in
set_option maxRecDepth 20000 in
theorem g_PB_setDays_0 {d rc rs : Nat} {Q : Option Value → Mu → Prop} {μ : Mu} {x1 : Int32} {x2 : Int32} (hD : 1 ≤ d)  (hS : St μ)
    (hF : (Cal K_PB_isRoad (d - 1) 0 0 [.ref (hd 8 0), .int x1] μ (fun r μ1 => ∃ y2, r = some (.int y2) ∧ ((y2 = 0 → (1 ≤ rc ∧ 6 ≤ rs ∧ Q (some (.float (UInt32.ofNat 2))) μ1)) ∧ (¬ y2 = 0 → ((x2 < 1 → (1 ≤ rc ∧ 6 ≤ rs ∧ Q (some (.float (UInt32.ofNat 1))) μ1)) ∧ (¬ x2 < 1 → ((x2 ≤ 9 → (vp_in x1 8 ∧ (vp_in x1 8 ∧ Q (some (.int (mI μ1 (hd 27 (8 * 0 + x1.toNatClampNeg)) 3))) (setI μ1 (hd 27 (8 * 0 + x1.toNatClampNeg)) 3 x2)))) ∧ (¬ x2 ≤ 9 → (1 ≤ rc ∧ 6 ≤ rs ∧ Q (some (.float (UInt32.ofNat 1))) μ1)))))))))) : Wx K_PB_setDays d rc rs Q 0 [(0, .ref (hd 8 0)), (1, .int x1), (2, .int x2)] [] μ := by
  refine Wa.aload_n (j := 0) d_PB_setDays_0 rfl ?_
  refine Wa.iload_n (j := 1) d_PB_setDays_1 rfl ?_
  refine Wx.cVi (q := E_PB) (As := [.int x1]) 0 (d - 1) 0 0 _ d_PB_setDays_2 mok_PB_isRoad vl_PB_171 rfl rfl rfl (Nat.le_of_ble_eq_true rfl) (by omega) (Nat.zero_le _) (Nat.zero_le _) (s_8 hS (by decide)) hF (fun y2 μ1 hS hF => ?_)
  refine Wa.if_ne 18 d_PB_setDays_5 (by decide) (fun hb => ?_) (fun hb => ?_)
  · have hF := hF.2 hb
    refine Wa.iload_n (j := 2) d_PB_setDays_18 rfl ?_
    refine Wa.iconst (v := 1) d_PB_setDays_19 rfl ?_
    refine Wa.icmp_lt 29 d_PB_setDays_20 (by decide) (fun hb => ?_) (fun hb => ?_)
    · have hF := hF.1 hb
      exact Wa.throw 1 (by decide +kernel) hF.1 hF.2.1 hF.2.2
    · have hF := hF.2 hb
      refine Wa.iload_n (j := 2) d_PB_setDays_23 rfl ?_
      refine Wa.bipush (v := 9) d_PB_setDays_24 rfl ?_
      refine Wa.icmp_le 39 d_PB_setDays_26 (by decide) (fun hb => ?_) (fun hb => ?_)
      · have hF := hF.1 hb
        refine Wa.aload_n (j := 0) d_PB_setDays_39 rfl ?_
        refine Wx.getR 0 8 d_PB_setDays_40 f_PB_8 rfl fl_PB_58 (s_8 hS (by decide)) (r_8_8 hS (by decide)) ?_
        refine Wx.getR 10 2 d_PB_setDays_43 f_Wd_2 rfl fl_PB_221 (s_29 hS (by decide)) (r_29_2 hS (by decide)) ?_
        refine Wa.iload_n (j := 1) d_PB_setDays_46 rfl ?_
        have hc3 := hF.1
        have hF := hF.2
        have hlhc3 := vp_in_lt hc3
        have hb4 : (8 * 0 + x1.toNatClampNeg) < 32 := by have : 0 < 2 := (by decide); omega
        refine Wa.aald (t := 7) (q := E_Rd) d_PB_setDays_47 rfl (s_32 hS (by decide)) hc3 (a_32 hS (by decide) hlhc3) ?_
        refine Wx.getI 7 3 d_PB_setDays_48 f_Rd_3 fl_PB_225 w_27 (s_27 hS hb4) ?_
        refine Wa.istore_n (i := 3) (L' := [(3, .int (mI μ1 (hd 27 (8 * 0 + x1.toNatClampNeg)) 3)), (0, .ref (hd 8 0)), (1, .int x1), (2, .int x2)]) d_PB_setDays_51 rfl (by decide) rfl ?_
        refine Wa.aload_n (j := 1) d_PB_setDays_52 rfl ?_
        refine Wx.getR 0 8 d_PB_setDays_53 f_PB_8 rfl fl_PB_58 (s_8 hS (by decide)) (r_8_8 hS (by decide)) ?_
        refine Wx.getR 10 2 d_PB_setDays_56 f_Wd_2 rfl fl_PB_221 (s_29 hS (by decide)) (r_29_2 hS (by decide)) ?_
        refine Wa.iload_n (j := 2) d_PB_setDays_59 rfl ?_
        have hc5 := hF.1
        have hF := hF.2
        have hlhc5 := vp_in_lt hc5
        have hb6 : (8 * 0 + x1.toNatClampNeg) < 32 := by have : 0 < 2 := (by decide); omega
        refine Wa.aald (t := 7) (q := E_Rd) d_PB_setDays_60 rfl (s_32 hS (by decide)) hc5 (a_32 hS (by decide) hlhc5) ?_
        refine Wa.iload_n (j := 3) d_PB_setDays_61 rfl ?_
        refine Wx.putI 7 3 d_PB_setDays_62 f_Rd_3 ok_Rd fl_PB_225 (Or.inl rfl) w_27 (s_27 hS hb6) ?_
        refine Wa.iload_n (j := 0) d_PB_setDays_65 rfl ?_
        exact Wx.reti d_PB_setDays_66 rfl hF
      · have hF := hF.2 hb
        exact Wa.throw 1 (by decide +kernel) hF.1 hF.2.1 hF.2.2
  · have hF := hF.1 hb
    exact Wa.throw 2 (by decide +kernel) hF.1 hF.2.1 hF.2.2
set_option maxHeartbeats 4000000 in
set_option maxRecDepth 20000 in
theorem g_PB_pass_0 {d rc rs : Nat} {Q : Option Value → Mu → Prop} {μ : Mu} {x1 : Int32} (hD : 1 ≤ d)  (hS : St μ)
    (hF : ((x1 < 1 → (1 ≤ rc ∧ 6 ≤ rs ∧ Q (some (.float (UInt32.ofNat 1))) μ)) ∧ (¬ x1 < 1 → ((x1 ≤ 60 → (Cal K_Wd_passDays (d - 1) 0 0 [.ref (hd 29 0), .int x1] μ (fun r μ1 => r = none ∧ Q (some (.int ((mI μ1 (hd 29 0) 6) - (mI μ (hd 29 0) 6)))) μ1))) ∧ (¬ x1 ≤ 60 → (1 ≤ rc ∧ 6 ≤ rs ∧ Q (some (.float (UInt32.ofNat 1))) μ)))))) : Wx K_PB_pass d rc rs Q 0 [(0, .ref (hd 8 0)), (1, .int x1)] [] μ := by
  refine Wa.iload_n (j := 1) d_PB_pass_0 rfl ?_
  refine Wa.iconst (v := 1) d_PB_pass_1 rfl ?_
  refine Wa.icmp_lt 11 d_PB_pass_2 (by decide) (fun hb => ?_) (fun hb => ?_)
  · have hF := hF.1 hb
    exact Wa.throw 1 (by decide +kernel) hF.1 hF.2.1 hF.2.2
  · have hF := hF.2 hb
    refine Wa.iload_n (j := 1) d_PB_pass_5 rfl ?_
    refine Wa.bipush (v := 60) d_PB_pass_6 rfl ?_
    refine Wa.icmp_le 21 d_PB_pass_8 (by decide) (fun hb => ?_) (fun hb => ?_)
    · have hF := hF.1 hb
      refine Wa.aload_n (j := 0) d_PB_pass_21 rfl ?_
      refine Wx.getR 0 8 d_PB_pass_22 f_PB_8 rfl fl_PB_58 (s_8 hS (by decide)) (r_8_8 hS (by decide)) ?_
      refine Wx.getI 10 6 d_PB_pass_25 f_Wd_6 fl_PB_230 w_29 (s_29 hS (by decide)) ?_
      refine Wa.istore_n (i := 2) (L' := [(2, .int (mI μ (hd 29 0) 6)), (0, .ref (hd 8 0)), (1, .int x1)]) d_PB_pass_28 rfl (by decide) rfl ?_
      refine Wa.aload_n (j := 1) d_PB_pass_29 rfl ?_
      refine Wx.getR 0 8 d_PB_pass_30 f_PB_8 rfl fl_PB_58 (s_8 hS (by decide)) (r_8_8 hS (by decide)) ?_
      refine Wa.iload_n (j := 2) d_PB_pass_33 rfl ?_
      refine Wx.cVv (q := E_Wd) (As := [.int x1]) 10 (d - 1) 0 0 _ d_PB_pass_34 mok_Wd_passDays vl_PB_233 rfl rfl rfl (Nat.le_of_ble_eq_true rfl) (by omega) (Nat.zero_le _) (Nat.zero_le _) (s_29 hS (by decide)) hF (fun μ1 hS hF => ?_)
      refine Wa.aload_n (j := 1) d_PB_pass_37 rfl ?_
      refine Wx.getR 0 8 d_PB_pass_38 f_PB_8 rfl fl_PB_58 (s_8 hS (by decide)) (r_8_8 hS (by decide)) ?_
      refine Wx.getI 10 6 d_PB_pass_41 f_Wd_6 fl_PB_230 w_29 (s_29 hS (by decide)) ?_
      refine Wa.iload_n (j := 0) d_PB_pass_44 rfl ?_
      refine Wa.isub d_PB_pass_45 ?_
      exact Wx.reti d_PB_pass_46 rfl hF
    · have hF := hF.2 hb
      exact Wa.throw 1 (by decide +kernel) hF.1 hF.2.1 hF.2.2
set_option maxHeartbeats 4000000 in
set_option maxRecDepth 20000 in
theorem g_PB_alike_0 {d rc rs : Nat} {Q : Option Value → Mu → Prop} {μ : Mu}  (hD : 1 ≤ d)  (hS : St μ)
    (hF : Wx K_PB_alike d rc rs Q 2 [(0, .ref (hd 8 0)), (1, .int 1)] [] μ) : Wx K_PB_alike d rc rs Q 0 [(0, .ref (hd 8 0))] [] μ := by
  refine Wa.iconst (v := 1) d_PB_alike_0 rfl ?_
  refine Wa.istore_n (i := 1) (L' := [(1, .int 1), (0, .ref (hd 8 0))]) d_PB_alike_1 rfl (by decide) rfl ?_
  exact Wa.loc [1, 0] rfl hF
theorem e_PB_alike {d rc rs : Nat} {Q : Option Value → Mu → Prop} {μ : Mu}  (hk : Wx K_PB_alike d rc rs (fun r μ' => St μ' ∧ Q r μ') 0 [(0, .ref (hd 8 0))] [] μ) : Cal K_PB_alike d rc rs [.ref (hd 8 0)] μ Q := Cal.of (by decide +kernel) rfl rfl (Nat.le_of_ble_eq_true rfl) rfl hk
set_option maxHeartbeats 4000000 in
set_option maxRecDepth 20000 in
theorem g_PB_alike_2 {d rc rs : Nat} {Q : Option Value → Mu → Prop} {μ : Mu} {x1 : Int32} (hD : 1 ≤ d)  (hS : St μ)
    (hF : (((mI μ (hd 18 (px μ (hd 8 0) 3)) 3) ≤ x1 → Q (some (.int 1)) μ) ∧ (¬ (mI μ (hd 18 (px μ (hd 8 0) 3)) 3) ≤ x1 → (vp_in x1 5 ∧ (vp_in (0 : Int32) 5 ∧ (Cal K_Bd_showsAsMuchAs (d - 1) 0 0 [.ref (hd 35 (5 * 0 + x1.toNatClampNeg)), .ref (hd 35 (5 * 0 + (0 : Int32).toNatClampNeg))] μ (fun r μ6 => ∃ y7, r = some (.int y7) ∧ ((y7 = 0 → Q (some (.int 0)) μ6) ∧ (¬ y7 = 0 → Wx K_PB_alike d rc rs Q 2 [(0, .ref (hd 8 0)), (1, .int (x1 + 1))] [] μ6))))))))) : Wx K_PB_alike d rc rs Q 2 [(0, .ref (hd 8 0)), (1, .int x1)] [] μ := by
  refine Wa.iload_n (j := 1) d_PB_alike_2 rfl ?_
  refine Wa.aload_n (j := 0) d_PB_alike_3 rfl ?_
  have hp1 := d_8_3 (i := 0) hS (by decide)
  refine Wx.getR 0 3 d_PB_alike_4 f_PB_3 rfl fl_PB_23 (s_8 hS (by decide)) (hp1.1) ?_
  refine Wx.getI 6 3 d_PB_alike_7 f_Pl_3 fl_PB_250 w_18 (s_18 hS hp1.2) ?_
  refine Wa.icmp_ge 45 d_PB_alike_10 (by decide) (fun hb => ?_) (fun hb => ?_)
  · have hF := hF.1 hb
    refine Wa.iconst (v := 1) d_PB_alike_45 rfl ?_
    exact Wx.retz d_PB_alike_46 rfl (Or.inr rfl) hF
  · have hF := hF.2 hb
    refine Wa.aload_n (j := 0) d_PB_alike_13 rfl ?_
    refine Wx.getR 0 8 d_PB_alike_14 f_PB_8 rfl fl_PB_58 (s_8 hS (by decide)) (r_8_8 hS (by decide)) ?_
    refine Wx.getR 10 1 d_PB_alike_17 f_Wd_1 rfl fl_PB_125 (s_29 hS (by decide)) (r_29_1 hS (by decide)) ?_
    refine Wa.iload_n (j := 1) d_PB_alike_20 rfl ?_
    have hc2 := hF.1
    have hF := hF.2
    have hlhc2 := vp_in_lt hc2
    have hb3 : (5 * 0 + x1.toNatClampNeg) < 10 := by have : 0 < 2 := (by decide); omega
    refine Wa.aald (t := 1) (q := E_Bd) d_PB_alike_21 rfl (s_31 hS (by decide)) hc2 (a_31 hS (by decide) hlhc2) ?_
    refine Wa.aload_n (j := 0) d_PB_alike_22 rfl ?_
    refine Wx.getR 0 8 d_PB_alike_23 f_PB_8 rfl fl_PB_58 (s_8 hS (by decide)) (r_8_8 hS (by decide)) ?_
    refine Wx.getR 10 1 d_PB_alike_26 f_Wd_1 rfl fl_PB_125 (s_29 hS (by decide)) (r_29_1 hS (by decide)) ?_
    refine Wa.iconst (v := 0) d_PB_alike_29 rfl ?_
    have hc4 := hF.1
    have hF := hF.2
    have hlhc4 := vp_in_lt hc4
    have hb5 : (5 * 0 + (0 : Int32).toNatClampNeg) < 10 := by have : 0 < 2 := (by decide); omega
    refine Wa.aald (t := 1) (q := E_Bd) d_PB_alike_30 rfl (s_31 hS (by decide)) hc4 (a_31 hS (by decide) hlhc4) ?_
    refine Wx.cVi (q := E_Bd) (As := [.ref (hd 35 (5 * 0 + (0 : Int32).toNatClampNeg))]) 1 (d - 1) 0 0 _ d_PB_alike_31 mok_Bd_showsAsMuchAs vl_PB_253 rfl rfl rfl (Nat.le_of_ble_eq_true rfl) (by omega) (Nat.zero_le _) (Nat.zero_le _) (s_35 hS hb3) hF (fun y7 μ6 hS hF => ?_)
    refine Wa.if_ne 39 d_PB_alike_34 (by decide) (fun hb => ?_) (fun hb => ?_)
    · have hF := hF.2 hb
      refine Wa.iinc (i := 1) (j := 1) (v := (x1 + 1)) (L' := [(1, .int (x1 + 1)), (0, .ref (hd 8 0))]) d_PB_alike_39 rfl rfl (by decide) rfl ?_
      refine Wa.goto 2 d_PB_alike_42 (by decide) ?_
      exact Wa.loc [1, 0] rfl hF
    · have hF := hF.1 hb
      refine Wa.iconst (v := 0) d_PB_alike_37 rfl ?_
      exact Wx.retz d_PB_alike_38 rfl (Or.inl rfl) hF
set_option maxHeartbeats 4000000 in
set_option maxRecDepth 20000 in
theorem g_PB_missed_0 {d rc rs : Nat} {Q : Option Value → Mu → Prop} {μ : Mu}  (hD : 1 ≤ d)  (hS : St μ)
    (hF : Wx K_PB_missed d rc rs Q 2 [(0, .ref (hd 8 0)), (1, .int 0)] [] μ) : Wx K_PB_missed d rc rs Q 0 [(0, .ref (hd 8 0))] [] μ := by
  refine Wa.iconst (v := 0) d_PB_missed_0 rfl ?_
  refine Wa.istore_n (i := 1) (L' := [(1, .int 0), (0, .ref (hd 8 0))]) d_PB_missed_1 rfl (by decide) rfl ?_
  exact Wa.loc [1, 0] rfl hF
theorem e_PB_missed {d rc rs : Nat} {Q : Option Value → Mu → Prop} {μ : Mu}  (hk : Wx K_PB_missed d rc rs (fun r μ' => St μ' ∧ Q r μ') 0 [(0, .ref (hd 8 0))] [] μ) : Cal K_PB_missed d rc rs [.ref (hd 8 0)] μ Q := Cal.of (by decide +kernel) rfl rfl (Nat.le_of_ble_eq_true rfl) rfl hk
set_option maxHeartbeats 4000000 in
set_option maxRecDepth 20000 in
theorem g_PB_missed_2 {d rc rs : Nat} {Q : Option Value → Mu → Prop} {μ : Mu} {x1 : Int32} (hD : 1 ≤ d)  (hS : St μ)
    (hF : (((mI μ (hd 29 0) 5) ≤ x1 → Q (some (.int (-1))) μ) ∧ (¬ (mI μ (hd 29 0) 5) ≤ x1 → (Cal K_Wd_knowers (d - 1) 0 0 [.ref (hd 29 0), .int x1] μ (fun r μ1 => ∃ y2, r = some (.int y2) ∧ (((mI μ1 (hd 18 (px μ1 (hd 8 0) 3)) 3) ≤ y2 → Wx K_PB_missed d rc rs Q 2 [(0, .ref (hd 8 0)), (1, .int (x1 + 1))] [] μ1) ∧ (¬ (mI μ1 (hd 18 (px μ1 (hd 8 0) 3)) 3) ≤ y2 → Q (some (.int x1)) μ1))))))) : Wx K_PB_missed d rc rs Q 2 [(0, .ref (hd 8 0)), (1, .int x1)] [] μ := by
  refine Wa.iload_n (j := 1) d_PB_missed_2 rfl ?_
  refine Wa.aload_n (j := 0) d_PB_missed_3 rfl ?_
  refine Wx.getR 0 8 d_PB_missed_4 f_PB_8 rfl fl_PB_58 (s_8 hS (by decide)) (r_8_8 hS (by decide)) ?_
  refine Wx.getI 10 5 d_PB_missed_7 f_Wd_5 fl_PB_257 w_29 (s_29 hS (by decide)) ?_
  refine Wa.icmp_ge 39 d_PB_missed_10 (by decide) (fun hb => ?_) (fun hb => ?_)
  · have hF := hF.1 hb
    refine Wa.iconst (v := (-1)) d_PB_missed_39 rfl ?_
    exact Wx.reti d_PB_missed_40 rfl hF
  · have hF := hF.2 hb
    refine Wa.aload_n (j := 0) d_PB_missed_13 rfl ?_
    refine Wx.getR 0 8 d_PB_missed_14 f_PB_8 rfl fl_PB_58 (s_8 hS (by decide)) (r_8_8 hS (by decide)) ?_
    refine Wa.iload_n (j := 1) d_PB_missed_17 rfl ?_
    refine Wx.cVi (q := E_Wd) (As := [.int x1]) 10 (d - 1) 0 0 _ d_PB_missed_18 mok_Wd_knowers vl_PB_260 rfl rfl rfl (Nat.le_of_ble_eq_true rfl) (by omega) (Nat.zero_le _) (Nat.zero_le _) (s_29 hS (by decide)) hF (fun y2 μ1 hS hF => ?_)
    refine Wa.aload_n (j := 0) d_PB_missed_21 rfl ?_
    have hp3 := d_8_3 (i := 0) hS (by decide)
    refine Wx.getR 0 3 d_PB_missed_22 f_PB_3 rfl fl_PB_23 (s_8 hS (by decide)) (hp3.1) ?_
    refine Wx.getI 6 3 d_PB_missed_25 f_Pl_3 fl_PB_250 w_18 (s_18 hS hp3.2) ?_
    refine Wa.icmp_ge 33 d_PB_missed_28 (by decide) (fun hb => ?_) (fun hb => ?_)
    · have hF := hF.1 hb
      refine Wa.iinc (i := 1) (j := 1) (v := (x1 + 1)) (L' := [(1, .int (x1 + 1)), (0, .ref (hd 8 0))]) d_PB_missed_33 rfl rfl (by decide) rfl ?_
      refine Wa.goto 2 d_PB_missed_36 (by decide) ?_
      exact Wa.loc [1, 0] rfl hF
    · have hF := hF.2 hb
      refine Wa.iload_n (j := 1) d_PB_missed_31 rfl ?_
      exact Wx.reti d_PB_missed_32 rfl hF
set_option maxHeartbeats 4000000 in
set_option maxRecDepth 20000 in
theorem g_PB_mean_0 {d rc rs : Nat} {Q : Option Value → Mu → Prop} {μ : Mu}  (hD : 1 ≤ d)  (hS : St μ)
    (hF : (((mI μ (hd 18 (px μ (hd 8 0) 3)) 3) = 0 → Q (some (.double 0)) μ) ∧ (¬ (mI μ (hd 18 (px μ (hd 8 0) 3)) 3) = 0 → (Cal K_Wd_knownOnBoards (d - 1) 0 0 [.ref (hd 29 0)] μ (fun r μ2 => ∃ y3, r = some (.int y3) ∧ (vf_n64 (FP.ddiv (FP.i2d y3) (FP.i2d (mI μ2 (hd 18 (px μ2 (hd 8 0) 3)) 3))) ∧ Q (some (.double (FP.ddiv (FP.i2d y3) (FP.i2d (mI μ2 (hd 18 (px μ2 (hd 8 0) 3)) 3))))) μ2)))))) : Wx K_PB_mean d rc rs Q 0 [(0, .ref (hd 8 0))] [] μ := by
  refine Wa.aload_n (j := 0) d_PB_mean_0 rfl ?_
  have hp1 := d_8_3 (i := 0) hS (by decide)
  refine Wx.getR 0 3 d_PB_mean_1 f_PB_3 rfl fl_PB_23 (s_8 hS (by decide)) (hp1.1) ?_
  refine Wx.getI 6 3 d_PB_mean_4 f_Pl_3 fl_PB_250 w_18 (s_18 hS hp1.2) ?_
  refine Wa.if_ne 12 d_PB_mean_7 (by decide) (fun hb => ?_) (fun hb => ?_)
  · have hF := hF.2 hb
    refine Wa.aload_n (j := 0) d_PB_mean_12 rfl ?_
    refine Wx.getR 0 8 d_PB_mean_13 f_PB_8 rfl fl_PB_58 (s_8 hS (by decide)) (r_8_8 hS (by decide)) ?_
    refine Wx.cVi (q := E_Wd) (As := []) 10 (d - 1) 0 0 _ d_PB_mean_16 mok_Wd_knownOnBoards vl_PB_266 rfl rfl rfl (Nat.le_of_ble_eq_true rfl) (by omega) (Nat.zero_le _) (Nat.zero_le _) (s_29 hS (by decide)) hF (fun y3 μ2 hS hF => ?_)
    refine Wa.i2d d_PB_mean_19 ?_
    refine Wa.aload_n (j := 0) d_PB_mean_20 rfl ?_
    have hp4 := d_8_3 (i := 0) hS (by decide)
    refine Wx.getR 0 3 d_PB_mean_21 f_PB_3 rfl fl_PB_23 (s_8 hS (by decide)) (hp4.1) ?_
    refine Wx.getI 6 3 d_PB_mean_24 f_Pl_3 fl_PB_250 w_18 (s_18 hS hp4.2) ?_
    refine Wa.i2d d_PB_mean_27 ?_
    have hc5 := hF.1
    have hF := hF.2
    refine Wa.ddiv d_PB_mean_28 hc5 ?_
    exact Wx.retd d_PB_mean_29 rfl hF
  · have hF := hF.1 hb
    refine Wa.dconst0 d_PB_mean_10 ?_
    exact Wx.retd d_PB_mean_11 rfl hF
theorem e_PB_mean {d rc rs : Nat} {Q : Option Value → Mu → Prop} {μ : Mu}  (hk : Wx K_PB_mean d rc rs (fun r μ' => St μ' ∧ Q r μ') 0 [(0, .ref (hd 8 0))] [] μ) : Cal K_PB_mean d rc rs [.ref (hd 8 0)] μ Q := Cal.of (by decide +kernel) rfl rfl (Nat.le_of_ble_eq_true rfl) rfl hk
set_option maxHeartbeats 4000000 in
set_option maxRecDepth 20000 in
theorem g_PB_digest_0 {d rc rs : Nat} {Q : Option Value → Mu → Prop} {μ : Mu}  (hD : 1 ≤ d)  (hS : St μ)
    (hF : Wx K_PB_digest d rc rs Q 6 [(0, .ref (hd 8 0)), (1, .long 929), (3, .int 0)] [] μ) : Wx K_PB_digest d rc rs Q 0 [(0, .ref (hd 8 0))] [] μ := by
  refine Wa.ldc2 d_PB_digest_0 k_PB_270 ?_
  refine Wa.lstore_n (i := 1) (L' := [(1, .long 929), (0, .ref (hd 8 0))]) d_PB_digest_3 rfl (by decide) rfl ?_
  refine Wa.iconst (v := 0) d_PB_digest_4 rfl ?_
  refine Wa.istore_n (i := 3) (L' := [(3, .int 0), (1, .long 929), (0, .ref (hd 8 0))]) d_PB_digest_5 rfl (by decide) rfl ?_
  exact Wa.loc [2, 1, 0] rfl hF
theorem e_PB_digest {d rc rs : Nat} {Q : Option Value → Mu → Prop} {μ : Mu}  (hk : Wx K_PB_digest d rc rs (fun r μ' => St μ' ∧ Q r μ') 0 [(0, .ref (hd 8 0))] [] μ) : Cal K_PB_digest d rc rs [.ref (hd 8 0)] μ Q := Cal.of (by decide +kernel) rfl rfl (Nat.le_of_ble_eq_true rfl) rfl hk
set_option maxHeartbeats 4000000 in
set_option maxRecDepth 20000 in
theorem g_PB_digest_6 {d rc rs : Nat} {Q : Option Value → Mu → Prop} {μ : Mu} {x1 : Int64} {x3 : Int32} (hD : 1 ≤ d)  (hS : St μ)
    (hF : ((13 ≤ x3 → Wx K_PB_digest d rc rs Q 30 [(0, .ref (hd 8 0)), (1, .long x1), (3, .int 0)] [] μ) ∧ (¬ 13 ≤ x3 → (Cal K_PB_counted (d - 1) 0 0 [.ref (hd 8 0), .int x3] μ (fun r μ1 => ∃ y2, r = some (.int y2) ∧ (Cal K_PB_mixed (d - 1) 0 0 [.long x1, .int y2] μ1 (fun r μ3 => ∃ y4, r = some (.long y4) ∧ Wx K_PB_digest d rc rs Q 6 [(0, .ref (hd 8 0)), (1, .long y4), (3, .int (x3 + 1))] [] μ3))))))) : Wx K_PB_digest d rc rs Q 6 [(0, .ref (hd 8 0)), (1, .long x1), (3, .int x3)] [] μ := by
  refine Wa.iload_n (j := 2) d_PB_digest_6 rfl ?_
  refine Wa.bipush (v := 13) d_PB_digest_7 rfl ?_
  refine Wa.icmp_ge 28 d_PB_digest_9 (by decide) (fun hb => ?_) (fun hb => ?_)
  · have hF := hF.1 hb
    refine Wa.iconst (v := 0) d_PB_digest_28 rfl ?_
    refine Wa.istore_n (i := 3) (L' := [(3, .int 0), (0, .ref (hd 8 0)), (1, .long x1)]) d_PB_digest_29 rfl (by decide) rfl ?_
    exact Wa.loc [1, 2, 0] rfl hF
  · have hF := hF.2 hb
    refine Wa.lload_n (j := 1) d_PB_digest_12 rfl ?_
    refine Wa.aload_n (j := 0) d_PB_digest_13 rfl ?_
    refine Wa.iload_n (j := 2) d_PB_digest_14 rfl ?_
    refine Wx.cVi (q := E_PB) (As := [.int x3]) 0 (d - 1) 0 0 _ d_PB_digest_15 mok_PB_counted vl_PB_110 rfl rfl rfl (Nat.le_of_ble_eq_true rfl) (by omega) (Nat.zero_le _) (Nat.zero_le _) (s_8 hS (by decide)) hF (fun y2 μ1 hS hF => ?_)
    refine Wx.cSl (As := [.long x1, .int y2]) (d - 1) 0 0 _ d_PB_digest_18 mok_PB_mixed sl_PB_272 rfl rfl (Nat.le_of_ble_eq_true rfl) (by omega) (Nat.zero_le _) (Nat.zero_le _) hF (fun y4 μ3 hS hF => ?_)
    refine Wa.lstore_n (i := 1) (L' := [(1, .long y4), (0, .ref (hd 8 0)), (3, .int x3)]) d_PB_digest_21 rfl (by decide) rfl ?_
    refine Wa.iinc (i := 3) (j := 2) (v := (x3 + 1)) (L' := [(3, .int (x3 + 1)), (1, .long y4), (0, .ref (hd 8 0))]) d_PB_digest_22 rfl rfl (by decide) rfl ?_
    refine Wa.goto 6 d_PB_digest_25 (by decide) ?_
    exact Wa.loc [2, 1, 0] rfl hF
set_option maxHeartbeats 4000000 in
set_option maxRecDepth 20000 in
theorem g_PB_digest_30 {d rc rs : Nat} {Q : Option Value → Mu → Prop} {μ : Mu} {x1 : Int64} {x3 : Int32} (hD : 1 ≤ d)  (hS : St μ)
    (hF : (((mI μ (hd 18 (px μ (hd 8 0) 3)) 3) ≤ x3 → Wx K_PB_digest d rc rs Q 56 [(0, .ref (hd 8 0)), (1, .long x1), (3, .int 0)] [] μ) ∧ (¬ (mI μ (hd 18 (px μ (hd 8 0) 3)) 3) ≤ x3 → (Cal K_PB_mixedParish (d - 1) 0 0 [.ref (hd 8 0), .long x1, .int x3] μ (fun r μ2 => ∃ y3, r = some (.long y3) ∧ Wx K_PB_digest d rc rs Q 30 [(0, .ref (hd 8 0)), (1, .long y3), (3, .int (x3 + 1))] [] μ2))))) : Wx K_PB_digest d rc rs Q 30 [(0, .ref (hd 8 0)), (1, .long x1), (3, .int x3)] [] μ := by
  refine Wa.iload_n (j := 2) d_PB_digest_30 rfl ?_
  refine Wa.aload_n (j := 0) d_PB_digest_31 rfl ?_
  have hp1 := d_8_3 (i := 0) hS (by decide)
  refine Wx.getR 0 3 d_PB_digest_32 f_PB_3 rfl fl_PB_23 (s_8 hS (by decide)) (hp1.1) ?_
  refine Wx.getI 6 3 d_PB_digest_35 f_Pl_3 fl_PB_250 w_18 (s_18 hS hp1.2) ?_
  refine Wa.icmp_ge 54 d_PB_digest_38 (by decide) (fun hb => ?_) (fun hb => ?_)
  · have hF := hF.1 hb
    refine Wa.iconst (v := 0) d_PB_digest_54 rfl ?_
    refine Wa.istore_n (i := 3) (L' := [(3, .int 0), (0, .ref (hd 8 0)), (1, .long x1)]) d_PB_digest_55 rfl (by decide) rfl ?_
    exact Wa.loc [1, 2, 0] rfl hF
  · have hF := hF.2 hb
    refine Wa.aload_n (j := 0) d_PB_digest_41 rfl ?_
    refine Wa.lload_n (j := 1) d_PB_digest_42 rfl ?_
    refine Wa.iload_n (j := 2) d_PB_digest_43 rfl ?_
    refine Wx.cVl (q := E_PB) (As := [.long x1, .int x3]) 0 (d - 1) 0 0 _ d_PB_digest_44 mok_PB_mixedParish vl_PB_276 rfl rfl rfl (Nat.le_of_ble_eq_true rfl) (by omega) (Nat.zero_le _) (Nat.zero_le _) (s_8 hS (by decide)) hF (fun y3 μ2 hS hF => ?_)
    refine Wa.lstore_n (i := 1) (L' := [(1, .long y3), (0, .ref (hd 8 0)), (3, .int x3)]) d_PB_digest_47 rfl (by decide) rfl ?_
    refine Wa.iinc (i := 3) (j := 2) (v := (x3 + 1)) (L' := [(3, .int (x3 + 1)), (1, .long y3), (0, .ref (hd 8 0))]) d_PB_digest_48 rfl rfl (by decide) rfl ?_
    refine Wa.goto 30 d_PB_digest_51 (by decide) ?_
    exact Wa.loc [2, 1, 0] rfl hF
set_option maxHeartbeats 4000000 in
set_option maxRecDepth 20000 in
theorem g_PB_digest_56 {d rc rs : Nat} {Q : Option Value → Mu → Prop} {μ : Mu} {x1 : Int64} {x3 : Int32} (hD : 1 ≤ d)  (hS : St μ)
    (hF : (((mI μ (hd 29 0) 5) ≤ x3 → Wx K_PB_digest d rc rs Q 82 [(0, .ref (hd 8 0)), (1, .long x1), (3, .int 0)] [] μ) ∧ (¬ (mI μ (hd 29 0) 5) ≤ x3 → (Cal K_PB_mixedSheet (d - 1) 0 0 [.ref (hd 8 0), .long x1, .int x3] μ (fun r μ1 => ∃ y2, r = some (.long y2) ∧ Wx K_PB_digest d rc rs Q 56 [(0, .ref (hd 8 0)), (1, .long y2), (3, .int (x3 + 1))] [] μ1))))) : Wx K_PB_digest d rc rs Q 56 [(0, .ref (hd 8 0)), (1, .long x1), (3, .int x3)] [] μ := by
  refine Wa.iload_n (j := 2) d_PB_digest_56 rfl ?_
  refine Wa.aload_n (j := 0) d_PB_digest_57 rfl ?_
  refine Wx.getR 0 8 d_PB_digest_58 f_PB_8 rfl fl_PB_58 (s_8 hS (by decide)) (r_8_8 hS (by decide)) ?_
  refine Wx.getI 10 5 d_PB_digest_61 f_Wd_5 fl_PB_257 w_29 (s_29 hS (by decide)) ?_
  refine Wa.icmp_ge 80 d_PB_digest_64 (by decide) (fun hb => ?_) (fun hb => ?_)
  · have hF := hF.1 hb
    refine Wa.iconst (v := 0) d_PB_digest_80 rfl ?_
    refine Wa.istore_n (i := 3) (L' := [(3, .int 0), (0, .ref (hd 8 0)), (1, .long x1)]) d_PB_digest_81 rfl (by decide) rfl ?_
    exact Wa.loc [1, 2, 0] rfl hF
  · have hF := hF.2 hb
    refine Wa.aload_n (j := 0) d_PB_digest_67 rfl ?_
    refine Wa.lload_n (j := 1) d_PB_digest_68 rfl ?_
    refine Wa.iload_n (j := 2) d_PB_digest_69 rfl ?_
    refine Wx.cVl (q := E_PB) (As := [.long x1, .int x3]) 0 (d - 1) 0 0 _ d_PB_digest_70 mok_PB_mixedSheet vl_PB_279 rfl rfl rfl (Nat.le_of_ble_eq_true rfl) (by omega) (Nat.zero_le _) (Nat.zero_le _) (s_8 hS (by decide)) hF (fun y2 μ1 hS hF => ?_)
    refine Wa.lstore_n (i := 1) (L' := [(1, .long y2), (0, .ref (hd 8 0)), (3, .int x3)]) d_PB_digest_73 rfl (by decide) rfl ?_
    refine Wa.iinc (i := 3) (j := 2) (v := (x3 + 1)) (L' := [(3, .int (x3 + 1)), (1, .long y2), (0, .ref (hd 8 0))]) d_PB_digest_74 rfl rfl (by decide) rfl ?_
    refine Wa.goto 56 d_PB_digest_77 (by decide) ?_
    exact Wa.loc [2, 1, 0] rfl hF
set_option maxHeartbeats 4000000 in
set_option maxRecDepth 20000 in
theorem g_PB_digest_82 {d rc rs : Nat} {Q : Option Value → Mu → Prop} {μ : Mu} {x1 : Int64} {x3 : Int32} (hD : 1 ≤ d)  (hS : St μ)
    (hF : (((mI μ (hd 18 (px μ (hd 8 0) 3)) 5) ≤ x3 → Q (some (.long x1)) μ) ∧ (¬ (mI μ (hd 18 (px μ (hd 8 0) 3)) 5) ≤ x3 → Wx K_PB_digest d rc rs Q 96 [(0, .ref (hd 8 0)), (1, .long x1), (3, .int x3), (4, .int 0)] [] μ))) : Wx K_PB_digest d rc rs Q 82 [(0, .ref (hd 8 0)), (1, .long x1), (3, .int x3)] [] μ := by
  refine Wa.iload_n (j := 2) d_PB_digest_82 rfl ?_
  refine Wa.aload_n (j := 0) d_PB_digest_83 rfl ?_
  have hp1 := d_8_3 (i := 0) hS (by decide)
  refine Wx.getR 0 3 d_PB_digest_84 f_PB_3 rfl fl_PB_23 (s_8 hS (by decide)) (hp1.1) ?_
  refine Wx.getI 6 5 d_PB_digest_87 f_Pl_5 fl_PB_263 w_18 (s_18 hS hp1.2) ?_
  refine Wa.icmp_ge 129 d_PB_digest_90 (by decide) (fun hb => ?_) (fun hb => ?_)
  · have hF := hF.1 hb
    refine Wa.lload_n (j := 1) d_PB_digest_129 rfl ?_
    exact Wx.retl d_PB_digest_130 rfl hF
  · have hF := hF.2 hb
    refine Wa.iconst (v := 0) d_PB_digest_93 rfl ?_
    refine Wa.istore (i := 4) (L' := [(4, .int 0), (0, .ref (hd 8 0)), (1, .long x1), (3, .int x3)]) d_PB_digest_94 (by decide) rfl ?_
    exact Wa.loc [1, 2, 3, 0] rfl hF
set_option maxHeartbeats 4000000 in
set_option maxRecDepth 20000 in
theorem g_PB_digest_96 {d rc rs : Nat} {Q : Option Value → Mu → Prop} {μ : Mu} {x1 : Int64} {x3 : Int32} {x4 : Int32} (hD : 1 ≤ d)  (hS : St μ)
    (hF : ((5 ≤ x4 → Wx K_PB_digest d rc rs Q 82 [(0, .ref (hd 8 0)), (1, .long x1), (3, .int (x3 + 1))] [] μ) ∧ (¬ 5 ≤ x4 → (Cal K_Wd_roadFact (d - 1) 0 0 [.ref (hd 29 0), .int x3, .int x4] μ (fun r μ1 => ∃ y2, r = some (.int y2) ∧ (Cal K_PB_mixed (d - 1) 0 0 [.long x1, .int y2] μ1 (fun r μ3 => ∃ y4, r = some (.long y4) ∧ Wx K_PB_digest d rc rs Q 96 [(0, .ref (hd 8 0)), (1, .long y4), (3, .int x3), (4, .int (x4 + 1))] [] μ3))))))) : Wx K_PB_digest d rc rs Q 96 [(0, .ref (hd 8 0)), (1, .long x1), (3, .int x3), (4, .int x4)] [] μ := by
  refine Wa.iload (j := 3) d_PB_digest_96 rfl ?_
  refine Wa.iconst (v := 5) d_PB_digest_98 rfl ?_
  refine Wa.icmp_ge 123 d_PB_digest_99 (by decide) (fun hb => ?_) (fun hb => ?_)
  · have hF := hF.1 hb
    refine Wa.iinc (i := 3) (j := 2) (v := (x3 + 1)) (L' := [(3, .int (x3 + 1)), (0, .ref (hd 8 0)), (1, .long x1), (4, .int x4)]) d_PB_digest_123 rfl rfl (by decide) rfl ?_
    refine Wa.goto 82 d_PB_digest_126 (by decide) ?_
    exact Wa.loc [1, 2, 0] rfl hF
  · have hF := hF.2 hb
    refine Wa.lload_n (j := 1) d_PB_digest_102 rfl ?_
    refine Wa.aload_n (j := 0) d_PB_digest_103 rfl ?_
    refine Wx.getR 0 8 d_PB_digest_104 f_PB_8 rfl fl_PB_58 (s_8 hS (by decide)) (r_8_8 hS (by decide)) ?_
    refine Wa.iload_n (j := 2) d_PB_digest_107 rfl ?_
    refine Wa.iload (j := 3) d_PB_digest_108 rfl ?_
    refine Wx.cVi (q := E_Wd) (As := [.int x3, .int x4]) 10 (d - 1) 0 0 _ d_PB_digest_110 mok_Wd_roadFact vl_PB_176 rfl rfl rfl (Nat.le_of_ble_eq_true rfl) (by omega) (Nat.zero_le _) (Nat.zero_le _) (s_29 hS (by decide)) hF (fun y2 μ1 hS hF => ?_)
    refine Wx.cSl (As := [.long x1, .int y2]) (d - 1) 0 0 _ d_PB_digest_113 mok_PB_mixed sl_PB_272 rfl rfl (Nat.le_of_ble_eq_true rfl) (by omega) (Nat.zero_le _) (Nat.zero_le _) hF (fun y4 μ3 hS hF => ?_)
    refine Wa.lstore_n (i := 1) (L' := [(1, .long y4), (0, .ref (hd 8 0)), (3, .int x3), (4, .int x4)]) d_PB_digest_116 rfl (by decide) rfl ?_
    refine Wa.iinc (i := 4) (j := 3) (v := (x4 + 1)) (L' := [(4, .int (x4 + 1)), (1, .long y4), (0, .ref (hd 8 0)), (3, .int x3)]) d_PB_digest_117 rfl rfl (by decide) rfl ?_
    refine Wa.goto 96 d_PB_digest_120 (by decide) ?_
    exact Wa.loc [2, 1, 3, 0] rfl hF
set_option maxHeartbeats 4000000 in
set_option maxRecDepth 20000 in
theorem g_PB_append_0 {d rc rs : Nat} {Q : Option Value → Mu → Prop} {μ : Mu} {x1 : Int32} (hD : 1 ≤ d)  (hS : St μ)
    (hF : Wx K_PB_append d rc rs Q 3 [(0, .ref (hd 8 0)), (1, .int x1), (2, .int 24)] [] μ) : Wx K_PB_append d rc rs Q 0 [(0, .ref (hd 8 0)), (1, .int x1)] [] μ := by
  refine Wa.bipush (v := 24) d_PB_append_0 rfl ?_
  refine Wa.istore_n (i := 2) (L' := [(2, .int 24), (0, .ref (hd 8 0)), (1, .int x1)]) d_PB_append_2 rfl (by decide) rfl ?_
  exact Wa.loc [1, 2, 0] rfl hF
theorem e_PB_append {d rc rs : Nat} {Q : Option Value → Mu → Prop} {μ : Mu} {x1 : Int32} (hk : Wx K_PB_append d rc rs (fun r μ' => St μ' ∧ Q r μ') 0 [(0, .ref (hd 8 0)), (1, .int x1)] [] μ) : Cal K_PB_append d rc rs [.ref (hd 8 0), .int x1] μ Q := Cal.of (by decide +kernel) rfl rfl (Nat.le_of_ble_eq_true rfl) rfl hk
set_option maxHeartbeats 4000000 in
set_option maxRecDepth 20000 in
theorem g_PB_append_3 {d rc rs : Nat} {Q : Option Value → Mu → Prop} {μ : Mu} {x1 : Int32} {x2 : Int32} (hD : 1 ≤ d)  (hS : St μ)
    (hF : ((x2 < 0 → Q none μ) ∧ (¬ x2 < 0 → ((2000 ≤ (mI μ (hd 8 0) 1) → Q none μ) ∧ (¬ 2000 ≤ (mI μ (hd 8 0) 1) → (vp_in (mI μ (hd 8 0) 1) (if 0 = 0 then 2000 else 0) ∧ (∀ μ2 : Mu, μ2 = (setI (setI μ (hd 9 0) (mI μ (hd 8 0) 1).toNatClampNeg (vp_nar .byte ((x1 >>> (x2 &&& 31)).toInt8.toInt32))) (hd 8 0) 1 ((mI (setI μ (hd 9 0) (mI μ (hd 8 0) 1).toNatClampNeg (vp_nar .byte ((x1 >>> (x2 &&& 31)).toInt8.toInt32))) (hd 8 0) 1) + (1 : Int32))) → Wx K_PB_append d rc rs Q 3 [(0, .ref (hd 8 0)), (1, .int x1), (2, .int (x2 + (-8)))] [] μ2))))))) : Wx K_PB_append d rc rs Q 3 [(0, .ref (hd 8 0)), (1, .int x1), (2, .int x2)] [] μ := by
  refine Wa.iload_n (j := 2) d_PB_append_3 rfl ?_
  refine Wa.if_lt 46 d_PB_append_4 (by decide) (fun hb => ?_) (fun hb => ?_)
  · have hF := hF.1 hb
    exact Wx.retv d_PB_append_46 rfl hF
  · have hF := hF.2 hb
    refine Wa.aload_n (j := 0) d_PB_append_7 rfl ?_
    refine Wx.getI 0 1 d_PB_append_8 f_PB_1 fl_PB_13 w_8 (s_8 hS (by decide)) ?_
    refine Wa.sipush (v := 2000) d_PB_append_11 rfl ?_
    refine Wa.icmp_ge 46 d_PB_append_14 (by decide) (fun hb => ?_) (fun hb => ?_)
    · have hF := hF.1 hb
      exact Wx.retv d_PB_append_46 rfl hF
    · have hF := hF.2 hb
      refine Wa.aload_n (j := 0) d_PB_append_17 rfl ?_
      refine Wx.getR 0 0 d_PB_append_18 f_PB_0 rfl fl_PB_9 (s_8 hS (by decide)) (r_8_0 hS (by decide)) ?_
      refine Wa.aload_n (j := 0) d_PB_append_21 rfl ?_
      refine Wx.getI 0 1 d_PB_append_22 f_PB_1 fl_PB_13 w_8 (s_8 hS (by decide)) ?_
      refine Wa.iload_n (j := 1) d_PB_append_25 rfl ?_
      refine Wa.iload_n (j := 2) d_PB_append_26 rfl ?_
      refine Wa.ishr d_PB_append_27 ?_
      refine Wa.i2b d_PB_append_28 ?_
      have hc1 := hF.1
      have hF := hF.2
      have hlhc1 := vp_in_lt hc1
      refine Wa.bast d_PB_append_29 w_9 (s_9 hS (by decide)) hc1 ?_
      refine Wa.aload_n (j := 0) d_PB_append_30 rfl ?_
      refine Wa.dup d_PB_append_31 rfl ?_
      refine Wx.getI 0 1 d_PB_append_32 f_PB_1 fl_PB_13 w_8 (s_8 hS (by decide)) ?_
      refine Wa.iconst (v := 1) d_PB_append_35 rfl ?_
      refine Wa.iadd d_PB_append_36 ?_
      refine Wx.putI 0 1 d_PB_append_37 f_PB_1 ok_PB fl_PB_13 (Or.inl rfl) w_8 (s_8 hS (by decide)) ?_
      suffices hh : ∀ μ2 : Mu, μ2 = (setI (setI μ (hd 9 0) (mI μ (hd 8 0) 1).toNatClampNeg (vp_nar .byte ((x1 >>> (x2 &&& 31)).toInt8.toInt32))) (hd 8 0) 1 ((mI (setI μ (hd 9 0) (mI μ (hd 8 0) 1).toNatClampNeg (vp_nar .byte ((x1 >>> (x2 &&& 31)).toInt8.toInt32))) (hd 8 0) 1) + (1 : Int32))) → Wx K_PB_append d rc rs Q 40 [(0, .ref (hd 8 0)), (1, .int x1), (2, .int x2)] [] μ2 from hh _ rfl
      intro μ2 em
      have hF := hF μ2 em
      have hS : St μ2 := by rw [em]; exact hS
      refine Wa.iinc (i := 2) (j := 2) (v := (x2 + (-8))) (L' := [(2, .int (x2 + (-8))), (0, .ref (hd 8 0)), (1, .int x1)]) d_PB_append_40 rfl rfl (by decide) rfl ?_
      refine Wa.goto 3 d_PB_append_43 (by decide) ?_
      exact Wa.loc [1, 2, 0] rfl hF
set_option maxHeartbeats 4000000 in
set_option maxRecDepth 20000 in
theorem g_PB_beginAnew_0 {d rc rs : Nat} {Q : Option Value → Mu → Prop} {μ : Mu}  (hD : 1 ≤ d)  (hS : St μ)
    (hF : (Cal K_Pl_settle (d - 1) 0 0 [.ref (hd 18 (px μ (hd 8 0) 4)), .ref (hd 10 0)] μ (fun r μ2 => r = none ∧ (Cal K_Wd_begin (d - 1) 0 0 [.ref (hd 29 0), .ref (hd 18 (px (setR (setR μ2 (hd 8 0) 3 (hd 18 (px μ2 (hd 8 0) 4))) (hd 8 0) 4 (hd 18 (px μ2 (hd 8 0) 3))) (hd 8 0) 3))] (setR (setR μ2 (hd 8 0) 3 (hd 18 (px μ2 (hd 8 0) 4))) (hd 8 0) 4 (hd 18 (px μ2 (hd 8 0) 3))) (fun r μ6 => r = none ∧ Q none μ6))))) : Wx K_PB_beginAnew d rc rs Q 0 [(0, .ref (hd 8 0))] [] μ := by
  refine Wa.aload_n (j := 0) d_PB_beginAnew_0 rfl ?_
  have hp1 := d_8_4 (i := 0) hS (by decide)
  refine Wx.getR 0 4 d_PB_beginAnew_1 f_PB_4 rfl fl_PB_27 (s_8 hS (by decide)) (hp1.1) ?_
  refine Wa.aload_n (j := 0) d_PB_beginAnew_4 rfl ?_
  refine Wx.getR 0 5 d_PB_beginAnew_5 f_PB_5 rfl fl_PB_33 (s_8 hS (by decide)) (r_8_5 hS (by decide)) ?_
  refine Wx.cVv (q := E_Pl) (As := [.ref (hd 10 0)]) 6 (d - 1) 0 0 _ d_PB_beginAnew_8 mok_Pl_settle vl_PB_282 rfl rfl rfl (Nat.le_of_ble_eq_true rfl) (by omega) (Nat.zero_le _) (Nat.zero_le _) (s_18 hS hp1.2) hF (fun μ2 hS hF => ?_)
  refine Wa.aload_n (j := 0) d_PB_beginAnew_11 rfl ?_
  have hp3 := d_8_3 (i := 0) hS (by decide)
  refine Wx.getR 0 3 d_PB_beginAnew_12 f_PB_3 rfl fl_PB_23 (s_8 hS (by decide)) (hp3.1) ?_
  refine Wa.astore_n (i := 1) (L' := [(1, .ref (hd 18 (px μ2 (hd 8 0) 3))), (0, .ref (hd 8 0))]) d_PB_beginAnew_15 rfl (by decide) rfl ?_
  refine Wa.aload_n (j := 1) d_PB_beginAnew_16 rfl ?_
  refine Wa.aload_n (j := 1) d_PB_beginAnew_17 rfl ?_
  have hp4 := d_8_4 (i := 0) hS (by decide)
  refine Wx.getR 0 4 d_PB_beginAnew_18 f_PB_4 rfl fl_PB_27 (s_8 hS (by decide)) (hp4.1) ?_
  refine Wx.putR 0 3 d_PB_beginAnew_21 f_PB_3 rfl ok_PB fl_PB_23 (Or.inl rfl) w_8 (s_8 hS (by decide)) ?_
  have hS : St (setR μ2 (hd 8 0) 3 (hd 18 (px μ2 (hd 8 0) 4))) := sd_8_3 (μ := μ2) hS (by decide) hp4.2
  refine Wa.aload_n (j := 1) d_PB_beginAnew_24 rfl ?_
  refine Wa.aload_n (j := 0) d_PB_beginAnew_25 rfl ?_
  refine Wx.putR 0 4 d_PB_beginAnew_26 f_PB_4 rfl ok_PB fl_PB_27 (Or.inl rfl) w_8 (s_8 hS (by decide)) ?_
  have hS : St (setR (setR μ2 (hd 8 0) 3 (hd 18 (px μ2 (hd 8 0) 4))) (hd 8 0) 4 (hd 18 (px μ2 (hd 8 0) 3))) := sd_8_4 (μ := (setR μ2 (hd 8 0) 3 (hd 18 (px μ2 (hd 8 0) 4)))) hS (by decide) hp3.2
  refine Wa.aload_n (j := 1) d_PB_beginAnew_29 rfl ?_
  refine Wx.getR 0 8 d_PB_beginAnew_30 f_PB_8 rfl fl_PB_58 (s_8 hS (by decide)) (r_8_8 hS (by decide)) ?_
  refine Wa.aload_n (j := 1) d_PB_beginAnew_33 rfl ?_
  have hp5 := d_8_3 (i := 0) hS (by decide)
  refine Wx.getR 0 3 d_PB_beginAnew_34 f_PB_3 rfl fl_PB_23 (s_8 hS (by decide)) (hp5.1) ?_
  refine Wx.cVv (q := E_Wd) (As := [.ref (hd 18 (px (setR (setR μ2 (hd 8 0) 3 (hd 18 (px μ2 (hd 8 0) 4))) (hd 8 0) 4 (hd 18 (px μ2 (hd 8 0) 3))) (hd 8 0) 3))]) 10 (d - 1) 0 0 _ d_PB_beginAnew_37 mok_Wd_begin vl_PB_286 rfl rfl rfl (Nat.le_of_ble_eq_true rfl) (by omega) (Nat.zero_le _) (Nat.zero_le _) (s_29 hS (by decide)) hF (fun μ6 hS hF => ?_)
  exact Wx.retv d_PB_beginAnew_40 rfl hF
theorem e_PB_beginAnew {d rc rs : Nat} {Q : Option Value → Mu → Prop} {μ : Mu}  (hk : Wx K_PB_beginAnew d rc rs (fun r μ' => St μ' ∧ Q r μ') 0 [(0, .ref (hd 8 0))] [] μ) : Cal K_PB_beginAnew d rc rs [.ref (hd 8 0)] μ Q := Cal.of (by decide +kernel) rfl rfl (Nat.le_of_ble_eq_true rfl) rfl hk
set_option maxHeartbeats 4000000 in
set_option maxRecDepth 20000 in
theorem g_PB_counted_0 {d rc rs : Nat} {Q : Option Value → Mu → Prop} {μ : Mu} {x1 : Int32} (hD : 1 ≤ d)  (hS : St μ)
    (hF : ((x1 = 12 → Q (some (.int (mI μ (hd 8 0) 1))) μ) ∧ (¬ x1 = 12 → (Cal K_Wd_tally (d - 1) 0 0 [.ref (hd 29 0), .int x1] μ (fun r μ1 => ∃ y2, r = some (.int y2) ∧ Q (some (.int y2)) μ1))))) : Wx K_PB_counted d rc rs Q 0 [(0, .ref (hd 8 0)), (1, .int x1)] [] μ := by
  refine Wa.iload_n (j := 1) d_PB_counted_0 rfl ?_
  refine Wa.bipush (v := 12) d_PB_counted_1 rfl ?_
  refine Wa.icmp_ne 13 d_PB_counted_3 (by decide) (fun hb => ?_) (fun hb => ?_)
  · have hF := hF.2 hb
    refine Wa.aload_n (j := 0) d_PB_counted_13 rfl ?_
    refine Wx.getR 0 8 d_PB_counted_14 f_PB_8 rfl fl_PB_58 (s_8 hS (by decide)) (r_8_8 hS (by decide)) ?_
    refine Wa.iload_n (j := 1) d_PB_counted_17 rfl ?_
    refine Wx.cVi (q := E_Wd) (As := [.int x1]) 10 (d - 1) 0 0 _ d_PB_counted_18 mok_Wd_tally vl_PB_242 rfl rfl rfl (Nat.le_of_ble_eq_true rfl) (by omega) (Nat.zero_le _) (Nat.zero_le _) (s_29 hS (by decide)) hF (fun y2 μ1 hS hF => ?_)
    exact Wx.reti d_PB_counted_21 rfl hF
  · have hF := hF.1 hb
    refine Wa.aload_n (j := 0) d_PB_counted_6 rfl ?_
    refine Wx.getI 0 1 d_PB_counted_7 f_PB_1 fl_PB_13 w_8 (s_8 hS (by decide)) ?_
    refine Wa.goto 21 d_PB_counted_10 (by decide) ?_
    exact Wx.reti d_PB_counted_21 rfl hF
theorem e_PB_counted {d rc rs : Nat} {Q : Option Value → Mu → Prop} {μ : Mu} {x1 : Int32} (hk : Wx K_PB_counted d rc rs (fun r μ' => St μ' ∧ Q r μ') 0 [(0, .ref (hd 8 0)), (1, .int x1)] [] μ) : Cal K_PB_counted d rc rs [.ref (hd 8 0), .int x1] μ Q := Cal.of (by decide +kernel) rfl rfl (Nat.le_of_ble_eq_true rfl) rfl hk
set_option maxHeartbeats 4000000 in
set_option maxRecDepth 20000 in
theorem g_PB_isParish_0 {d rc rs : Nat} {Q : Option Value → Mu → Prop} {μ : Mu} {x1 : Int32} (hD : 1 ≤ d)  (hS : St μ)
    (hF : ((x1 < 0 → Q (some (.int 0)) μ) ∧ (¬ x1 < 0 → (((mI μ (hd 18 (px μ (hd 8 0) 3)) 3) ≤ x1 → Q (some (.int 0)) μ) ∧ (¬ (mI μ (hd 18 (px μ (hd 8 0) 3)) 3) ≤ x1 → Q (some (.int 1)) μ))))) : Wx K_PB_isParish d rc rs Q 0 [(0, .ref (hd 8 0)), (1, .int x1)] [] μ := by
  refine Wa.iload_n (j := 1) d_PB_isParish_0 rfl ?_
  refine Wa.if_lt 19 d_PB_isParish_1 (by decide) (fun hb => ?_) (fun hb => ?_)
  · have hF := hF.1 hb
    refine Wa.iconst (v := 0) d_PB_isParish_19 rfl ?_
    exact Wx.retz d_PB_isParish_20 rfl (Or.inl rfl) hF
  · have hF := hF.2 hb
    refine Wa.iload_n (j := 1) d_PB_isParish_4 rfl ?_
    refine Wa.aload_n (j := 0) d_PB_isParish_5 rfl ?_
    have hp1 := d_8_3 (i := 0) hS (by decide)
    refine Wx.getR 0 3 d_PB_isParish_6 f_PB_3 rfl fl_PB_23 (s_8 hS (by decide)) (hp1.1) ?_
    refine Wx.getI 6 3 d_PB_isParish_9 f_Pl_3 fl_PB_250 w_18 (s_18 hS hp1.2) ?_
    refine Wa.icmp_ge 19 d_PB_isParish_12 (by decide) (fun hb => ?_) (fun hb => ?_)
    · have hF := hF.1 hb
      refine Wa.iconst (v := 0) d_PB_isParish_19 rfl ?_
      exact Wx.retz d_PB_isParish_20 rfl (Or.inl rfl) hF
    · have hF := hF.2 hb
      refine Wa.iconst (v := 1) d_PB_isParish_15 rfl ?_
      refine Wa.goto 20 d_PB_isParish_16 (by decide) ?_
      exact Wx.retz d_PB_isParish_20 rfl (Or.inr rfl) hF
theorem e_PB_isParish {d rc rs : Nat} {Q : Option Value → Mu → Prop} {μ : Mu} {x1 : Int32} (hk : Wx K_PB_isParish d rc rs (fun r μ' => St μ' ∧ Q r μ') 0 [(0, .ref (hd 8 0)), (1, .int x1)] [] μ) : Cal K_PB_isParish d rc rs [.ref (hd 8 0), .int x1] μ Q := Cal.of (by decide +kernel) rfl rfl (Nat.le_of_ble_eq_true rfl) rfl hk
set_option maxHeartbeats 4000000 in
set_option maxRecDepth 20000 in
theorem g_PB_isBoardOf_0 {d rc rs : Nat} {Q : Option Value → Mu → Prop} {μ : Mu} {x1 : Int32} {x2 : Int32} (hD : 1 ≤ d)  (hS : St μ)
    (hF : (Cal K_PB_isParish (d - 1) 0 0 [.ref (hd 8 0), .int x1] μ (fun r μ1 => ∃ y2, r = some (.int y2) ∧ ((y2 = 0 → Q (some (.int 0)) μ1) ∧ (¬ y2 = 0 → ((x2 < 0 → Q (some (.int 0)) μ1) ∧ (¬ x2 < 0 → (((mI μ1 (hd 18 (px μ1 (hd 8 0) 3)) 4) ≤ x2 → Q (some (.int 0)) μ1) ∧ (¬ (mI μ1 (hd 18 (px μ1 (hd 8 0) 3)) 4) ≤ x2 → Q (some (.int 1)) μ1))))))))) : Wx K_PB_isBoardOf d rc rs Q 0 [(0, .ref (hd 8 0)), (1, .int x1), (2, .int x2)] [] μ := by
  refine Wa.aload_n (j := 0) d_PB_isBoardOf_0 rfl ?_
  refine Wa.iload_n (j := 1) d_PB_isBoardOf_1 rfl ?_
  refine Wx.cVi (q := E_PB) (As := [.int x1]) 0 (d - 1) 0 0 _ d_PB_isBoardOf_2 mok_PB_isParish vl_PB_113 rfl rfl rfl (Nat.le_of_ble_eq_true rfl) (by omega) (Nat.zero_le _) (Nat.zero_le _) (s_8 hS (by decide)) hF (fun y2 μ1 hS hF => ?_)
  refine Wa.if_eq 27 d_PB_isBoardOf_5 (by decide) (fun hb => ?_) (fun hb => ?_)
  · have hF := hF.1 hb
    refine Wa.iconst (v := 0) d_PB_isBoardOf_27 rfl ?_
    exact Wx.retz d_PB_isBoardOf_28 rfl (Or.inl rfl) hF
  · have hF := hF.2 hb
    refine Wa.iload_n (j := 2) d_PB_isBoardOf_8 rfl ?_
    refine Wa.if_lt 27 d_PB_isBoardOf_9 (by decide) (fun hb => ?_) (fun hb => ?_)
    · have hF := hF.1 hb
      refine Wa.iconst (v := 0) d_PB_isBoardOf_27 rfl ?_
      exact Wx.retz d_PB_isBoardOf_28 rfl (Or.inl rfl) hF
    · have hF := hF.2 hb
      refine Wa.iload_n (j := 2) d_PB_isBoardOf_12 rfl ?_
      refine Wa.aload_n (j := 0) d_PB_isBoardOf_13 rfl ?_
      have hp3 := d_8_3 (i := 0) hS (by decide)
      refine Wx.getR 0 3 d_PB_isBoardOf_14 f_PB_3 rfl fl_PB_23 (s_8 hS (by decide)) (hp3.1) ?_
      refine Wx.getI 6 4 d_PB_isBoardOf_17 f_Pl_4 fl_PB_289 w_18 (s_18 hS hp3.2) ?_
      refine Wa.icmp_ge 27 d_PB_isBoardOf_20 (by decide) (fun hb => ?_) (fun hb => ?_)
      · have hF := hF.1 hb
        refine Wa.iconst (v := 0) d_PB_isBoardOf_27 rfl ?_
        exact Wx.retz d_PB_isBoardOf_28 rfl (Or.inl rfl) hF
      · have hF := hF.2 hb
        refine Wa.iconst (v := 1) d_PB_isBoardOf_23 rfl ?_
        refine Wa.goto 28 d_PB_isBoardOf_24 (by decide) ?_
        exact Wx.retz d_PB_isBoardOf_28 rfl (Or.inr rfl) hF
theorem e_PB_isBoardOf {d rc rs : Nat} {Q : Option Value → Mu → Prop} {μ : Mu} {x1 : Int32} {x2 : Int32} (hk : Wx K_PB_isBoardOf d rc rs (fun r μ' => St μ' ∧ Q r μ') 0 [(0, .ref (hd 8 0)), (1, .int x1), (2, .int x2)] [] μ) : Cal K_PB_isBoardOf d rc rs [.ref (hd 8 0), .int x1, .int x2] μ Q := Cal.of (by decide +kernel) rfl rfl (Nat.le_of_ble_eq_true rfl) rfl hk
set_option maxHeartbeats 4000000 in
set_option maxRecDepth 20000 in
theorem g_PB_isRoad_0 {d rc rs : Nat} {Q : Option Value → Mu → Prop} {μ : Mu} {x1 : Int32} (hD : 1 ≤ d)  (hS : St μ)
    (hF : ((x1 < 0 → Q (some (.int 0)) μ) ∧ (¬ x1 < 0 → (((mI μ (hd 18 (px μ (hd 8 0) 3)) 5) ≤ x1 → Q (some (.int 0)) μ) ∧ (¬ (mI μ (hd 18 (px μ (hd 8 0) 3)) 5) ≤ x1 → Q (some (.int 1)) μ))))) : Wx K_PB_isRoad d rc rs Q 0 [(0, .ref (hd 8 0)), (1, .int x1)] [] μ := by
  refine Wa.iload_n (j := 1) d_PB_isRoad_0 rfl ?_
  refine Wa.if_lt 19 d_PB_isRoad_1 (by decide) (fun hb => ?_) (fun hb => ?_)
  · have hF := hF.1 hb
    refine Wa.iconst (v := 0) d_PB_isRoad_19 rfl ?_
    exact Wx.retz d_PB_isRoad_20 rfl (Or.inl rfl) hF
  · have hF := hF.2 hb
    refine Wa.iload_n (j := 1) d_PB_isRoad_4 rfl ?_
    refine Wa.aload_n (j := 0) d_PB_isRoad_5 rfl ?_
    have hp1 := d_8_3 (i := 0) hS (by decide)
    refine Wx.getR 0 3 d_PB_isRoad_6 f_PB_3 rfl fl_PB_23 (s_8 hS (by decide)) (hp1.1) ?_
    refine Wx.getI 6 5 d_PB_isRoad_9 f_Pl_5 fl_PB_263 w_18 (s_18 hS hp1.2) ?_
    refine Wa.icmp_ge 19 d_PB_isRoad_12 (by decide) (fun hb => ?_) (fun hb => ?_)
    · have hF := hF.1 hb
      refine Wa.iconst (v := 0) d_PB_isRoad_19 rfl ?_
      exact Wx.retz d_PB_isRoad_20 rfl (Or.inl rfl) hF
    · have hF := hF.2 hb
      refine Wa.iconst (v := 1) d_PB_isRoad_15 rfl ?_
      refine Wa.goto 20 d_PB_isRoad_16 (by decide) ?_
      exact Wx.retz d_PB_isRoad_20 rfl (Or.inr rfl) hF
theorem e_PB_isRoad {d rc rs : Nat} {Q : Option Value → Mu → Prop} {μ : Mu} {x1 : Int32} (hk : Wx K_PB_isRoad d rc rs (fun r μ' => St μ' ∧ Q r μ') 0 [(0, .ref (hd 8 0)), (1, .int x1)] [] μ) : Cal K_PB_isRoad d rc rs [.ref (hd 8 0), .int x1] μ Q := Cal.of (by decide +kernel) rfl rfl (Nat.le_of_ble_eq_true rfl) rfl hk
set_option maxHeartbeats 4000000 in
set_option maxRecDepth 20000 in
theorem g_PB_isSheet_0 {d rc rs : Nat} {Q : Option Value → Mu → Prop} {μ : Mu} {x1 : Int32} (hD : 1 ≤ d)  (hS : St μ)
    (hF : ((x1 < 0 → Q (some (.int 0)) μ) ∧ (¬ x1 < 0 → (((mI μ (hd 29 0) 5) ≤ x1 → Q (some (.int 0)) μ) ∧ (¬ (mI μ (hd 29 0) 5) ≤ x1 → Q (some (.int 1)) μ))))) : Wx K_PB_isSheet d rc rs Q 0 [(0, .ref (hd 8 0)), (1, .int x1)] [] μ := by
  refine Wa.iload_n (j := 1) d_PB_isSheet_0 rfl ?_
  refine Wa.if_lt 19 d_PB_isSheet_1 (by decide) (fun hb => ?_) (fun hb => ?_)
  · have hF := hF.1 hb
    refine Wa.iconst (v := 0) d_PB_isSheet_19 rfl ?_
    exact Wx.retz d_PB_isSheet_20 rfl (Or.inl rfl) hF
  · have hF := hF.2 hb
    refine Wa.iload_n (j := 1) d_PB_isSheet_4 rfl ?_
    refine Wa.aload_n (j := 0) d_PB_isSheet_5 rfl ?_
    refine Wx.getR 0 8 d_PB_isSheet_6 f_PB_8 rfl fl_PB_58 (s_8 hS (by decide)) (r_8_8 hS (by decide)) ?_
    refine Wx.getI 10 5 d_PB_isSheet_9 f_Wd_5 fl_PB_257 w_29 (s_29 hS (by decide)) ?_
    refine Wa.icmp_ge 19 d_PB_isSheet_12 (by decide) (fun hb => ?_) (fun hb => ?_)
    · have hF := hF.1 hb
      refine Wa.iconst (v := 0) d_PB_isSheet_19 rfl ?_
      exact Wx.retz d_PB_isSheet_20 rfl (Or.inl rfl) hF
    · have hF := hF.2 hb
      refine Wa.iconst (v := 1) d_PB_isSheet_15 rfl ?_
      refine Wa.goto 20 d_PB_isSheet_16 (by decide) ?_
      exact Wx.retz d_PB_isSheet_20 rfl (Or.inr rfl) hF
theorem e_PB_isSheet {d rc rs : Nat} {Q : Option Value → Mu → Prop} {μ : Mu} {x1 : Int32} (hk : Wx K_PB_isSheet d rc rs (fun r μ' => St μ' ∧ Q r μ') 0 [(0, .ref (hd 8 0)), (1, .int x1)] [] μ) : Cal K_PB_isSheet d rc rs [.ref (hd 8 0), .int x1] μ Q := Cal.of (by decide +kernel) rfl rfl (Nat.le_of_ble_eq_true rfl) rfl hk
set_option maxHeartbeats 4000000 in
set_option maxRecDepth 20000 in
theorem g_PB_isMark_0 {d rc rs : Nat} {Q : Option Value → Mu → Prop} {μ : Mu} {x0 : Int32} (hD : 1 ≤ d)  (hS : St μ)
    (hF : ((x0 < 0 → Q (some (.int 0)) μ) ∧ (¬ x0 < 0 → ((15 < x0 → Q (some (.int 0)) μ) ∧ (¬ 15 < x0 → Q (some (.int 1)) μ))))) : Wx K_PB_isMark d rc rs Q 0 [(0, .int x0)] [] μ := by
  refine Wa.iload_n (j := 0) d_PB_isMark_0 rfl ?_
  refine Wa.if_lt 14 d_PB_isMark_1 (by decide) (fun hb => ?_) (fun hb => ?_)
  · have hF := hF.1 hb
    refine Wa.iconst (v := 0) d_PB_isMark_14 rfl ?_
    exact Wx.retz d_PB_isMark_15 rfl (Or.inl rfl) hF
  · have hF := hF.2 hb
    refine Wa.iload_n (j := 0) d_PB_isMark_4 rfl ?_
    refine Wa.bipush (v := 15) d_PB_isMark_5 rfl ?_
    refine Wa.icmp_gt 14 d_PB_isMark_7 (by decide) (fun hb => ?_) (fun hb => ?_)
    · have hF := hF.1 hb
      refine Wa.iconst (v := 0) d_PB_isMark_14 rfl ?_
      exact Wx.retz d_PB_isMark_15 rfl (Or.inl rfl) hF
    · have hF := hF.2 hb
      refine Wa.iconst (v := 1) d_PB_isMark_10 rfl ?_
      refine Wa.goto 15 d_PB_isMark_11 (by decide) ?_
      exact Wx.retz d_PB_isMark_15 rfl (Or.inr rfl) hF
theorem e_PB_isMark {d rc rs : Nat} {Q : Option Value → Mu → Prop} {μ : Mu} {x0 : Int32} (hk : Wx K_PB_isMark d rc rs (fun r μ' => St μ' ∧ Q r μ') 0 [(0, .int x0)] [] μ) : Cal K_PB_isMark d rc rs [.int x0] μ Q := Cal.of (by decide +kernel) rfl rfl (Nat.le_of_ble_eq_true rfl) rfl hk
set_option maxHeartbeats 4000000 in
set_option maxRecDepth 20000 in
theorem g_PB_mixed_0 {d rc rs : Nat} {Q : Option Value → Mu → Prop} {μ : Mu} {x0 : Int64} {x2 : Int32} (hD : 1 ≤ d)  (hS : St μ)
    (hF : Q (some (.long ((x0 * 31) + x2.toInt64))) μ) : Wx K_PB_mixed d rc rs Q 0 [(0, .long x0), (2, .int x2)] [] μ := by
  refine Wa.lload_n (j := 0) d_PB_mixed_0 rfl ?_
  refine Wa.ldc2 d_PB_mixed_1 k_PB_292 ?_
  refine Wa.lmul d_PB_mixed_4 ?_
  refine Wa.iload_n (j := 1) d_PB_mixed_5 rfl ?_
  refine Wa.i2l d_PB_mixed_6 ?_
  refine Wa.ladd d_PB_mixed_7 ?_
  exact Wx.retl d_PB_mixed_8 rfl hF
theorem e_PB_mixed {d rc rs : Nat} {Q : Option Value → Mu → Prop} {μ : Mu} {x0 : Int64} {x2 : Int32} (hk : Wx K_PB_mixed d rc rs (fun r μ' => St μ' ∧ Q r μ') 0 [(0, .long x0), (2, .int x2)] [] μ) : Cal K_PB_mixed d rc rs [.long x0, .int x2] μ Q := Cal.of (by decide +kernel) rfl rfl (Nat.le_of_ble_eq_true rfl) rfl hk
set_option maxHeartbeats 4000000 in
set_option maxRecDepth 20000 in
theorem g_PB_mixedParish_0 {d rc rs : Nat} {Q : Option Value → Mu → Prop} {μ : Mu} {x1 : Int64} {x3 : Int32} (hD : 1 ≤ d)  (hS : St μ)
    (hF : Wx K_PB_mixedParish d rc rs Q 6 [(0, .ref (hd 8 0)), (3, .int x3), (4, .long x1), (6, .int 0)] [] μ) : Wx K_PB_mixedParish d rc rs Q 0 [(0, .ref (hd 8 0)), (1, .long x1), (3, .int x3)] [] μ := by
  refine Wa.lload_n (j := 1) d_PB_mixedParish_0 rfl ?_
  refine Wa.lstore (i := 4) (L' := [(4, .long x1), (0, .ref (hd 8 0)), (1, .long x1), (3, .int x3)]) d_PB_mixedParish_1 (by decide) rfl ?_
  refine Wa.iconst (v := 0) d_PB_mixedParish_3 rfl ?_
  refine Wa.istore (i := 6) (L' := [(6, .int 0), (4, .long x1), (0, .ref (hd 8 0)), (1, .long x1), (3, .int x3)]) d_PB_mixedParish_4 (by decide) rfl ?_
  exact Wa.loc [2, 4, 1, 0] rfl hF
theorem e_PB_mixedParish {d rc rs : Nat} {Q : Option Value → Mu → Prop} {μ : Mu} {x1 : Int64} {x3 : Int32} (hk : Wx K_PB_mixedParish d rc rs (fun r μ' => St μ' ∧ Q r μ') 0 [(0, .ref (hd 8 0)), (1, .long x1), (3, .int x3)] [] μ) : Cal K_PB_mixedParish d rc rs [.ref (hd 8 0), .long x1, .int x3] μ Q := Cal.of (by decide +kernel) rfl rfl (Nat.le_of_ble_eq_true rfl) rfl hk
set_option maxHeartbeats 4000000 in
set_option maxRecDepth 20000 in
theorem g_PB_mixedParish_6 {d rc rs : Nat} {Q : Option Value → Mu → Prop} {μ : Mu} {x3 : Int32} {x4 : Int64} {x6 : Int32} (hD : 1 ≤ d)  (hS : St μ)
    (hF : ((6 ≤ x6 → (vp_in x3 5 ∧ Wx K_PB_mixedParish d rc rs Q 50 [(0, .ref (hd 8 0)), (4, .long x4), (6, .ref (hd 35 (5 * 0 + x3.toNatClampNeg))), (7, .int 0)] [] μ)) ∧ (¬ 6 ≤ x6 → (Cal K_Wd_parishFact (d - 1) 0 0 [.ref (hd 29 0), .int x3, .int x6] μ (fun r μ3 => ∃ y4, r = some (.int y4) ∧ (Cal K_PB_mixed (d - 1) 0 0 [.long x4, .int y4] μ3 (fun r μ5 => ∃ y6, r = some (.long y6) ∧ Wx K_PB_mixedParish d rc rs Q 6 [(0, .ref (hd 8 0)), (3, .int x3), (4, .long y6), (6, .int (x6 + 1))] [] μ5))))))) : Wx K_PB_mixedParish d rc rs Q 6 [(0, .ref (hd 8 0)), (3, .int x3), (4, .long x4), (6, .int x6)] [] μ := by
  refine Wa.iload (j := 3) d_PB_mixedParish_6 rfl ?_
  refine Wa.bipush (v := 6) d_PB_mixedParish_8 rfl ?_
  refine Wa.icmp_ge 36 d_PB_mixedParish_10 (by decide) (fun hb => ?_) (fun hb => ?_)
  · have hF := hF.1 hb
    refine Wa.aload_n (j := 0) d_PB_mixedParish_36 rfl ?_
    refine Wx.getR 0 8 d_PB_mixedParish_37 f_PB_8 rfl fl_PB_58 (s_8 hS (by decide)) (r_8_8 hS (by decide)) ?_
    refine Wx.getR 10 1 d_PB_mixedParish_40 f_Wd_1 rfl fl_PB_125 (s_29 hS (by decide)) (r_29_1 hS (by decide)) ?_
    refine Wa.iload_n (j := 1) d_PB_mixedParish_43 rfl ?_
    have hc1 := hF.1
    have hF := hF.2
    have hlhc1 := vp_in_lt hc1
    have hb2 : (5 * 0 + x3.toNatClampNeg) < 10 := by have : 0 < 2 := (by decide); omega
    refine Wa.aald (t := 1) (q := E_Bd) d_PB_mixedParish_44 rfl (s_31 hS (by decide)) hc1 (a_31 hS (by decide) hlhc1) ?_
    refine Wa.astore (i := 6) (L' := [(6, .ref (hd 35 (5 * 0 + x3.toNatClampNeg))), (0, .ref (hd 8 0)), (3, .int x3), (4, .long x4)]) d_PB_mixedParish_45 (by decide) rfl ?_
    refine Wa.iconst (v := 0) d_PB_mixedParish_47 rfl ?_
    refine Wa.istore (i := 7) (L' := [(7, .int 0), (6, .ref (hd 35 (5 * 0 + x3.toNatClampNeg))), (0, .ref (hd 8 0)), (3, .int x3), (4, .long x4)]) d_PB_mixedParish_48 (by decide) rfl ?_
    exact Wa.loc [2, 4, 1, 0] rfl hF
  · have hF := hF.2 hb
    refine Wa.lload (j := 2) d_PB_mixedParish_13 rfl ?_
    refine Wa.aload_n (j := 0) d_PB_mixedParish_15 rfl ?_
    refine Wx.getR 0 8 d_PB_mixedParish_16 f_PB_8 rfl fl_PB_58 (s_8 hS (by decide)) (r_8_8 hS (by decide)) ?_
    refine Wa.iload_n (j := 1) d_PB_mixedParish_19 rfl ?_
    refine Wa.iload (j := 3) d_PB_mixedParish_20 rfl ?_
    refine Wx.cVi (q := E_Wd) (As := [.int x3, .int x6]) 10 (d - 1) 0 0 _ d_PB_mixedParish_22 mok_Wd_parishFact vl_PB_119 rfl rfl rfl (Nat.le_of_ble_eq_true rfl) (by omega) (Nat.zero_le _) (Nat.zero_le _) (s_29 hS (by decide)) hF (fun y4 μ3 hS hF => ?_)
    refine Wx.cSl (As := [.long x4, .int y4]) (d - 1) 0 0 _ d_PB_mixedParish_25 mok_PB_mixed sl_PB_272 rfl rfl (Nat.le_of_ble_eq_true rfl) (by omega) (Nat.zero_le _) (Nat.zero_le _) hF (fun y6 μ5 hS hF => ?_)
    refine Wa.lstore (i := 4) (L' := [(4, .long y6), (0, .ref (hd 8 0)), (3, .int x3), (6, .int x6)]) d_PB_mixedParish_28 (by decide) rfl ?_
    refine Wa.iinc (i := 6) (j := 3) (v := (x6 + 1)) (L' := [(6, .int (x6 + 1)), (4, .long y6), (0, .ref (hd 8 0)), (3, .int x3)]) d_PB_mixedParish_30 rfl rfl (by decide) rfl ?_
    refine Wa.goto 6 d_PB_mixedParish_33 (by decide) ?_
    exact Wa.loc [2, 3, 1, 0] rfl hF
set_option maxHeartbeats 4000000 in
set_option maxRecDepth 20000 in
theorem g_PB_mixedParish_50 {d rc rs : Nat} {Q : Option Value → Mu → Prop} {μ : Mu} {x4 : Int64} {i6 : Nat} {x7 : Int32} (hD : 1 ≤ d) (h6 : i6 < 10) (hS : St μ)
    (hF : (((mI μ (hd 18 (px μ (hd 8 0) 3)) 3) ≤ x7 → Wx K_PB_mixedParish d rc rs Q 86 [(0, .ref (hd 8 0)), (4, .long x4), (6, .ref (hd 35 i6)), (7, .int 0)] [] μ) ∧ (¬ (mI μ (hd 18 (px μ (hd 8 0) 3)) 3) ≤ x7 → (vp_in x7 5 ∧ (Cal K_PB_mixed (d - 1) 0 0 [.long x4, .int (mI μ (hd 36 i6) x7.toNatClampNeg)] μ (fun r μ3 => ∃ y4, r = some (.long y4) ∧ Wx K_PB_mixedParish d rc rs Q 50 [(0, .ref (hd 8 0)), (4, .long y4), (6, .ref (hd 35 i6)), (7, .int (x7 + 1))] [] μ3)))))) : Wx K_PB_mixedParish d rc rs Q 50 [(0, .ref (hd 8 0)), (4, .long x4), (6, .ref (hd 35 i6)), (7, .int x7)] [] μ := by
  refine Wa.iload (j := 3) d_PB_mixedParish_50 rfl ?_
  refine Wa.aload_n (j := 0) d_PB_mixedParish_52 rfl ?_
  have hp1 := d_8_3 (i := 0) hS (by decide)
  refine Wx.getR 0 3 d_PB_mixedParish_53 f_PB_3 rfl fl_PB_23 (s_8 hS (by decide)) (hp1.1) ?_
  refine Wx.getI 6 3 d_PB_mixedParish_56 f_Pl_3 fl_PB_250 w_18 (s_18 hS hp1.2) ?_
  refine Wa.icmp_ge 83 d_PB_mixedParish_59 (by decide) (fun hb => ?_) (fun hb => ?_)
  · have hF := hF.1 hb
    refine Wa.iconst (v := 0) d_PB_mixedParish_83 rfl ?_
    refine Wa.istore (i := 7) (L' := [(7, .int 0), (0, .ref (hd 8 0)), (4, .long x4), (6, .ref (hd 35 i6))]) d_PB_mixedParish_84 (by decide) rfl ?_
    exact Wa.loc [1, 2, 3, 0] rfl hF
  · have hF := hF.2 hb
    refine Wa.lload (j := 1) d_PB_mixedParish_62 rfl ?_
    refine Wa.aload (j := 2) d_PB_mixedParish_64 rfl ?_
    refine Wx.getR 1 0 d_PB_mixedParish_66 f_Bd_0 rfl fl_PB_129 (s_35 hS h6) (r_35_0 hS h6) ?_
    refine Wa.iload (j := 3) d_PB_mixedParish_69 rfl ?_
    have hc2 := hF.1
    have hF := hF.2
    have hlhc2 := vp_in_lt hc2
    refine Wx.iald d_PB_mixedParish_71 w_36 (s_36 hS h6) hc2 ?_
    refine Wx.cSl (As := [.long x4, .int (mI μ (hd 36 i6) x7.toNatClampNeg)]) (d - 1) 0 0 _ d_PB_mixedParish_72 mok_PB_mixed sl_PB_272 rfl rfl (Nat.le_of_ble_eq_true rfl) (by omega) (Nat.zero_le _) (Nat.zero_le _) hF (fun y4 μ3 hS hF => ?_)
    refine Wa.lstore (i := 4) (L' := [(4, .long y4), (0, .ref (hd 8 0)), (6, .ref (hd 35 i6)), (7, .int x7)]) d_PB_mixedParish_75 (by decide) rfl ?_
    refine Wa.iinc (i := 7) (j := 3) (v := (x7 + 1)) (L' := [(7, .int (x7 + 1)), (4, .long y4), (0, .ref (hd 8 0)), (6, .ref (hd 35 i6))]) d_PB_mixedParish_77 rfl rfl (by decide) rfl ?_
    refine Wa.goto 50 d_PB_mixedParish_80 (by decide) ?_
    exact Wa.loc [2, 1, 3, 0] rfl hF
set_option maxHeartbeats 4000000 in
set_option maxRecDepth 20000 in
theorem g_PB_mixedParish_86 {d rc rs : Nat} {Q : Option Value → Mu → Prop} {μ : Mu} {x4 : Int64} {i6 : Nat} {x7 : Int32} (hD : 1 ≤ d) (h6 : i6 < 10) (hS : St μ)
    (hF : (((mI μ (hd 18 (px μ (hd 8 0) 3)) 4) ≤ x7 → Q (some (.long x4)) μ) ∧ (¬ (mI μ (hd 18 (px μ (hd 8 0) 3)) 4) ≤ x7 → (Cal K_Bd_shownCount (d - 1) 0 0 [.ref (hd 35 i6), .int x7] μ (fun r μ2 => ∃ y3, r = some (.int y3) ∧ Wx K_PB_mixedParish d rc rs Q 110 [(0, .ref (hd 8 0)), (4, .long x4), (6, .ref (hd 35 i6)), (7, .int x7), (8, .int y3), (9, .int 0)] [] μ2))))) : Wx K_PB_mixedParish d rc rs Q 86 [(0, .ref (hd 8 0)), (4, .long x4), (6, .ref (hd 35 i6)), (7, .int x7)] [] μ := by
  refine Wa.iload (j := 3) d_PB_mixedParish_86 rfl ?_
  refine Wa.aload_n (j := 0) d_PB_mixedParish_88 rfl ?_
  have hp1 := d_8_3 (i := 0) hS (by decide)
  refine Wx.getR 0 3 d_PB_mixedParish_89 f_PB_3 rfl fl_PB_23 (s_8 hS (by decide)) (hp1.1) ?_
  refine Wx.getI 6 4 d_PB_mixedParish_92 f_Pl_4 fl_PB_289 w_18 (s_18 hS hp1.2) ?_
  refine Wa.icmp_ge 145 d_PB_mixedParish_95 (by decide) (fun hb => ?_) (fun hb => ?_)
  · have hF := hF.1 hb
    refine Wa.lload (j := 1) d_PB_mixedParish_145 rfl ?_
    exact Wx.retl d_PB_mixedParish_147 rfl hF
  · have hF := hF.2 hb
    refine Wa.aload (j := 2) d_PB_mixedParish_98 rfl ?_
    refine Wa.iload (j := 3) d_PB_mixedParish_100 rfl ?_
    refine Wx.cVi (q := E_Bd) (As := [.int x7]) 1 (d - 1) 0 0 _ d_PB_mixedParish_102 mok_Bd_shownCount vl_PB_294 rfl rfl rfl (Nat.le_of_ble_eq_true rfl) (by omega) (Nat.zero_le _) (Nat.zero_le _) (s_35 hS h6) hF (fun y3 μ2 hS hF => ?_)
    refine Wa.istore (i := 8) (L' := [(8, .int y3), (0, .ref (hd 8 0)), (4, .long x4), (6, .ref (hd 35 i6)), (7, .int x7)]) d_PB_mixedParish_105 (by decide) rfl ?_
    refine Wa.iconst (v := 0) d_PB_mixedParish_107 rfl ?_
    refine Wa.istore (i := 9) (L' := [(9, .int 0), (8, .int y3), (0, .ref (hd 8 0)), (4, .long x4), (6, .ref (hd 35 i6)), (7, .int x7)]) d_PB_mixedParish_108 (by decide) rfl ?_
    exact Wa.loc [2, 3, 4, 5, 1, 0] rfl hF
set_option maxHeartbeats 4000000 in
set_option maxRecDepth 20000 in
theorem g_PB_mixedParish_110 {d rc rs : Nat} {Q : Option Value → Mu → Prop} {μ : Mu} {x4 : Int64} {i6 : Nat} {x7 : Int32} {x8 : Int32} {x9 : Int32} (hD : 1 ≤ d) (h6 : i6 < 10) (hS : St μ)
    (hF : ((x8 ≤ x9 → Wx K_PB_mixedParish d rc rs Q 86 [(0, .ref (hd 8 0)), (4, .long x4), (6, .ref (hd 35 i6)), (7, .int (x7 + 1))] [] μ) ∧ (¬ x8 ≤ x9 → (Cal K_Bd_shownAt (d - 1) 0 0 [.ref (hd 35 i6), .int x7, .int x9] μ (fun r μ1 => ∃ y2, r = some (.int y2) ∧ (Cal K_PB_mixed (d - 1) 0 0 [.long x4, .int y2] μ1 (fun r μ3 => ∃ y4, r = some (.long y4) ∧ Wx K_PB_mixedParish d rc rs Q 110 [(0, .ref (hd 8 0)), (4, .long y4), (6, .ref (hd 35 i6)), (7, .int x7), (8, .int x8), (9, .int (x9 + 1))] [] μ3))))))) : Wx K_PB_mixedParish d rc rs Q 110 [(0, .ref (hd 8 0)), (4, .long x4), (6, .ref (hd 35 i6)), (7, .int x7), (8, .int x8), (9, .int x9)] [] μ := by
  refine Wa.iload (j := 5) d_PB_mixedParish_110 rfl ?_
  refine Wa.iload (j := 4) d_PB_mixedParish_112 rfl ?_
  refine Wa.icmp_ge 139 d_PB_mixedParish_114 (by decide) (fun hb => ?_) (fun hb => ?_)
  · have hF := hF.1 hb
    refine Wa.iinc (i := 7) (j := 3) (v := (x7 + 1)) (L' := [(7, .int (x7 + 1)), (0, .ref (hd 8 0)), (4, .long x4), (6, .ref (hd 35 i6)), (8, .int x8), (9, .int x9)]) d_PB_mixedParish_139 rfl rfl (by decide) rfl ?_
    refine Wa.goto 86 d_PB_mixedParish_142 (by decide) ?_
    exact Wa.loc [1, 2, 3, 0] rfl hF
  · have hF := hF.2 hb
    refine Wa.lload (j := 1) d_PB_mixedParish_117 rfl ?_
    refine Wa.aload (j := 2) d_PB_mixedParish_119 rfl ?_
    refine Wa.iload (j := 3) d_PB_mixedParish_121 rfl ?_
    refine Wa.iload (j := 5) d_PB_mixedParish_123 rfl ?_
    refine Wx.cVi (q := E_Bd) (As := [.int x7, .int x9]) 1 (d - 1) 0 0 _ d_PB_mixedParish_125 mok_Bd_shownAt vl_PB_160 rfl rfl rfl (Nat.le_of_ble_eq_true rfl) (by omega) (Nat.zero_le _) (Nat.zero_le _) (s_35 hS h6) hF (fun y2 μ1 hS hF => ?_)
    refine Wx.cSl (As := [.long x4, .int y2]) (d - 1) 0 0 _ d_PB_mixedParish_128 mok_PB_mixed sl_PB_272 rfl rfl (Nat.le_of_ble_eq_true rfl) (by omega) (Nat.zero_le _) (Nat.zero_le _) hF (fun y4 μ3 hS hF => ?_)
    refine Wa.lstore (i := 4) (L' := [(4, .long y4), (0, .ref (hd 8 0)), (6, .ref (hd 35 i6)), (7, .int x7), (8, .int x8), (9, .int x9)]) d_PB_mixedParish_131 (by decide) rfl ?_
    refine Wa.iinc (i := 9) (j := 5) (v := (x9 + 1)) (L' := [(9, .int (x9 + 1)), (4, .long y4), (0, .ref (hd 8 0)), (6, .ref (hd 35 i6)), (7, .int x7), (8, .int x8)]) d_PB_mixedParish_133 rfl rfl (by decide) rfl ?_
    refine Wa.goto 110 d_PB_mixedParish_136 (by decide) ?_
    exact Wa.loc [2, 1, 3, 4, 5, 0] rfl hF
set_option maxHeartbeats 4000000 in
set_option maxRecDepth 20000 in
theorem g_PB_mixedSheet_0 {d rc rs : Nat} {Q : Option Value → Mu → Prop} {μ : Mu} {x1 : Int64} {x3 : Int32} (hD : 1 ≤ d)  (hS : St μ)
    (hF : Wx K_PB_mixedSheet d rc rs Q 6 [(0, .ref (hd 8 0)), (3, .int x3), (4, .long x1), (6, .int 0)] [] μ) : Wx K_PB_mixedSheet d rc rs Q 0 [(0, .ref (hd 8 0)), (1, .long x1), (3, .int x3)] [] μ := by
  refine Wa.lload_n (j := 1) d_PB_mixedSheet_0 rfl ?_
  refine Wa.lstore (i := 4) (L' := [(4, .long x1), (0, .ref (hd 8 0)), (1, .long x1), (3, .int x3)]) d_PB_mixedSheet_1 (by decide) rfl ?_
  refine Wa.iconst (v := 0) d_PB_mixedSheet_3 rfl ?_
  refine Wa.istore (i := 6) (L' := [(6, .int 0), (4, .long x1), (0, .ref (hd 8 0)), (1, .long x1), (3, .int x3)]) d_PB_mixedSheet_4 (by decide) rfl ?_
  exact Wa.loc [2, 4, 1, 0] rfl hF
theorem e_PB_mixedSheet {d rc rs : Nat} {Q : Option Value → Mu → Prop} {μ : Mu} {x1 : Int64} {x3 : Int32} (hk : Wx K_PB_mixedSheet d rc rs (fun r μ' => St μ' ∧ Q r μ') 0 [(0, .ref (hd 8 0)), (1, .long x1), (3, .int x3)] [] μ) : Cal K_PB_mixedSheet d rc rs [.ref (hd 8 0), .long x1, .int x3] μ Q := Cal.of (by decide +kernel) rfl rfl (Nat.le_of_ble_eq_true rfl) rfl hk
set_option maxHeartbeats 4000000 in
set_option maxRecDepth 20000 in
theorem g_PB_mixedSheet_6 {d rc rs : Nat} {Q : Option Value → Mu → Prop} {μ : Mu} {x3 : Int32} {x4 : Int64} {x6 : Int32} (hD : 1 ≤ d)  (hS : St μ)
    (hF : ((8 ≤ x6 → Wx K_PB_mixedSheet d rc rs Q 39 [(0, .ref (hd 8 0)), (3, .int x3), (4, .long x4), (6, .int 0)] [] μ) ∧ (¬ 8 ≤ x6 → (Cal K_Wd_sheetFact (d - 1) 0 0 [.ref (hd 29 0), .int x3, .int x6] μ (fun r μ1 => ∃ y2, r = some (.int y2) ∧ (Cal K_PB_mixed (d - 1) 0 0 [.long x4, .int y2] μ1 (fun r μ3 => ∃ y4, r = some (.long y4) ∧ Wx K_PB_mixedSheet d rc rs Q 6 [(0, .ref (hd 8 0)), (3, .int x3), (4, .long y4), (6, .int (x6 + 1))] [] μ3))))))) : Wx K_PB_mixedSheet d rc rs Q 6 [(0, .ref (hd 8 0)), (3, .int x3), (4, .long x4), (6, .int x6)] [] μ := by
  refine Wa.iload (j := 3) d_PB_mixedSheet_6 rfl ?_
  refine Wa.bipush (v := 8) d_PB_mixedSheet_8 rfl ?_
  refine Wa.icmp_ge 36 d_PB_mixedSheet_10 (by decide) (fun hb => ?_) (fun hb => ?_)
  · have hF := hF.1 hb
    refine Wa.iconst (v := 0) d_PB_mixedSheet_36 rfl ?_
    refine Wa.istore (i := 6) (L' := [(6, .int 0), (0, .ref (hd 8 0)), (3, .int x3), (4, .long x4)]) d_PB_mixedSheet_37 (by decide) rfl ?_
    exact Wa.loc [1, 2, 3, 0] rfl hF
  · have hF := hF.2 hb
    refine Wa.lload (j := 2) d_PB_mixedSheet_13 rfl ?_
    refine Wa.aload_n (j := 0) d_PB_mixedSheet_15 rfl ?_
    refine Wx.getR 0 8 d_PB_mixedSheet_16 f_PB_8 rfl fl_PB_58 (s_8 hS (by decide)) (r_8_8 hS (by decide)) ?_
    refine Wa.iload_n (j := 1) d_PB_mixedSheet_19 rfl ?_
    refine Wa.iload (j := 3) d_PB_mixedSheet_20 rfl ?_
    refine Wx.cVi (q := E_Wd) (As := [.int x3, .int x6]) 10 (d - 1) 0 0 _ d_PB_mixedSheet_22 mok_Wd_sheetFact vl_PB_140 rfl rfl rfl (Nat.le_of_ble_eq_true rfl) (by omega) (Nat.zero_le _) (Nat.zero_le _) (s_29 hS (by decide)) hF (fun y2 μ1 hS hF => ?_)
    refine Wx.cSl (As := [.long x4, .int y2]) (d - 1) 0 0 _ d_PB_mixedSheet_25 mok_PB_mixed sl_PB_272 rfl rfl (Nat.le_of_ble_eq_true rfl) (by omega) (Nat.zero_le _) (Nat.zero_le _) hF (fun y4 μ3 hS hF => ?_)
    refine Wa.lstore (i := 4) (L' := [(4, .long y4), (0, .ref (hd 8 0)), (3, .int x3), (6, .int x6)]) d_PB_mixedSheet_28 (by decide) rfl ?_
    refine Wa.iinc (i := 6) (j := 3) (v := (x6 + 1)) (L' := [(6, .int (x6 + 1)), (4, .long y4), (0, .ref (hd 8 0)), (3, .int x3)]) d_PB_mixedSheet_30 rfl rfl (by decide) rfl ?_
    refine Wa.goto 6 d_PB_mixedSheet_33 (by decide) ?_
    exact Wa.loc [2, 3, 1, 0] rfl hF
set_option maxHeartbeats 4000000 in
set_option maxRecDepth 20000 in
theorem g_PB_mixedSheet_39 {d rc rs : Nat} {Q : Option Value → Mu → Prop} {μ : Mu} {x3 : Int32} {x4 : Int64} {x6 : Int32} (hD : 1 ≤ d)  (hS : St μ)
    (hF : (((mI μ (hd 18 (px μ (hd 8 0) 3)) 3) ≤ x6 → Q (some (.long x4)) μ) ∧ (¬ (mI μ (hd 18 (px μ (hd 8 0) 3)) 3) ≤ x6 → (vp_in x3 60 ∧ (vp_in x6 5 ∧ (Cal K_PB_mixed (d - 1) 0 0 [.long x4, .int (mI μ (hd 34 (60 * 0 + x3.toNatClampNeg)) x6.toNatClampNeg)] μ (fun r μ5 => ∃ y6, r = some (.long y6) ∧ Wx K_PB_mixedSheet d rc rs Q 39 [(0, .ref (hd 8 0)), (3, .int x3), (4, .long y6), (6, .int (x6 + 1))] [] μ5))))))) : Wx K_PB_mixedSheet d rc rs Q 39 [(0, .ref (hd 8 0)), (3, .int x3), (4, .long x4), (6, .int x6)] [] μ := by
  refine Wa.iload (j := 3) d_PB_mixedSheet_39 rfl ?_
  refine Wa.aload_n (j := 0) d_PB_mixedSheet_41 rfl ?_
  have hp1 := d_8_3 (i := 0) hS (by decide)
  refine Wx.getR 0 3 d_PB_mixedSheet_42 f_PB_3 rfl fl_PB_23 (s_8 hS (by decide)) (hp1.1) ?_
  refine Wx.getI 6 3 d_PB_mixedSheet_45 f_Pl_3 fl_PB_250 w_18 (s_18 hS hp1.2) ?_
  refine Wa.icmp_ge 79 d_PB_mixedSheet_48 (by decide) (fun hb => ?_) (fun hb => ?_)
  · have hF := hF.1 hb
    refine Wa.lload (j := 2) d_PB_mixedSheet_79 rfl ?_
    exact Wx.retl d_PB_mixedSheet_81 rfl hF
  · have hF := hF.2 hb
    refine Wa.lload (j := 2) d_PB_mixedSheet_51 rfl ?_
    refine Wa.aload_n (j := 0) d_PB_mixedSheet_53 rfl ?_
    refine Wx.getR 0 8 d_PB_mixedSheet_54 f_PB_8 rfl fl_PB_58 (s_8 hS (by decide)) (r_8_8 hS (by decide)) ?_
    refine Wx.getR 10 0 d_PB_mixedSheet_57 f_Wd_0 rfl fl_PB_145 (s_29 hS (by decide)) (r_29_0 hS (by decide)) ?_
    refine Wa.iload_n (j := 1) d_PB_mixedSheet_60 rfl ?_
    have hc2 := hF.1
    have hF := hF.2
    have hlhc2 := vp_in_lt hc2
    have hb3 : (60 * 0 + x3.toNatClampNeg) < 120 := by have : 0 < 2 := (by decide); omega
    refine Wa.aald (t := 8) (q := E_Sh) d_PB_mixedSheet_61 rfl (s_30 hS (by decide)) hc2 (a_30 hS (by decide) hlhc2) ?_
    refine Wx.getR 8 0 d_PB_mixedSheet_62 f_Sh_0 rfl fl_PB_149 (s_33 hS hb3) (r_33_0 hS hb3) ?_
    refine Wa.iload (j := 3) d_PB_mixedSheet_65 rfl ?_
    have hc4 := hF.1
    have hF := hF.2
    have hlhc4 := vp_in_lt hc4
    refine Wx.iald d_PB_mixedSheet_67 w_34 (s_34 hS hb3) hc4 ?_
    refine Wx.cSl (As := [.long x4, .int (mI μ (hd 34 (60 * 0 + x3.toNatClampNeg)) x6.toNatClampNeg)]) (d - 1) 0 0 _ d_PB_mixedSheet_68 mok_PB_mixed sl_PB_272 rfl rfl (Nat.le_of_ble_eq_true rfl) (by omega) (Nat.zero_le _) (Nat.zero_le _) hF (fun y6 μ5 hS hF => ?_)
    refine Wa.lstore (i := 4) (L' := [(4, .long y6), (0, .ref (hd 8 0)), (3, .int x3), (6, .int x6)]) d_PB_mixedSheet_71 (by decide) rfl ?_
    refine Wa.iinc (i := 6) (j := 3) (v := (x6 + 1)) (L' := [(6, .int (x6 + 1)), (4, .long y6), (0, .ref (hd 8 0)), (3, .int x3)]) d_PB_mixedSheet_73 rfl rfl (by decide) rfl ?_
    refine Wa.goto 39 d_PB_mixedSheet_76 (by decide) ?_
    exact Wa.loc [2, 3, 1, 0] rfl hF
