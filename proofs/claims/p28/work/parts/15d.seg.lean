/-! segments of methods, by machine -/
set_option maxHeartbeats 4000000 in
set_option maxRecDepth 20000 in
theorem g_Tk_scan_0 {d rc rs : Nat} {Q : Option Value → Mu → Prop} {μ : Mu} {i1 : Nat} {x2 : Int32} (hD : 1 ≤ d) (h1 : i1 < 2) (hS : St μ)
    (hF : Wx K_Tk_scan d rc rs Q 20 [(0, .ref (hd 10 0)), (3, .int 0), (4, .int 1)] [] (setI (setI (setR μ (hd 10 0) 5 (hd 9 i1)) (hd 10 0) 6 x2) (hd 10 0) 4 0)) : Wx K_Tk_scan d rc rs Q 0 [(0, .ref (hd 10 0)), (1, .ref (hd 9 i1)), (2, .int x2)] [] μ := by
  refine Wa.aload_n (j := 0) d_Tk_scan_0 rfl ?_
  refine Wa.aload_n (j := 1) d_Tk_scan_1 rfl ?_
  refine Wx.putR 9 5 d_Tk_scan_2 f_Tk_5 rfl ok_Tk fl_Tk_32 (Or.inl rfl) w_10 (s_10 hS (by decide)) ?_
  have hS : St (setR μ (hd 10 0) 5 (hd 9 i1)) := sd_10_5 (μ := μ) hS (by decide) h1
  refine Wa.aload_n (j := 0) d_Tk_scan_5 rfl ?_
  refine Wa.iload_n (j := 2) d_Tk_scan_6 rfl ?_
  refine Wx.putI 9 6 d_Tk_scan_7 f_Tk_6 ok_Tk fl_Tk_36 (Or.inl rfl) w_10 (s_10 hS (by decide)) ?_
  refine Wa.aload_n (j := 0) d_Tk_scan_10 rfl ?_
  refine Wa.iconst (v := 0) d_Tk_scan_11 rfl ?_
  refine Wx.putI 9 4 d_Tk_scan_12 f_Tk_4 ok_Tk fl_Tk_28 (Or.inl rfl) w_10 (s_10 hS (by decide)) ?_
  refine Wa.iconst (v := 0) d_Tk_scan_15 rfl ?_
  refine Wa.istore_n (i := 3) (L' := [(3, .int 0), (0, .ref (hd 10 0)), (1, .ref (hd 9 i1)), (2, .int x2)]) d_Tk_scan_16 rfl (by decide) rfl ?_
  refine Wa.iconst (v := 1) d_Tk_scan_17 rfl ?_
  refine Wa.istore (i := 4) (L' := [(4, .int 1), (3, .int 0), (0, .ref (hd 10 0)), (1, .ref (hd 9 i1)), (2, .int x2)]) d_Tk_scan_18 (by decide) rfl ?_
  exact Wa.loc [2, 1, 0] rfl hF
theorem e_Tk_scan {d rc rs : Nat} {Q : Option Value → Mu → Prop} {μ : Mu} {i1 : Nat} {x2 : Int32} (hk : Wx K_Tk_scan d rc rs (fun r μ' => St μ' ∧ Q r μ') 0 [(0, .ref (hd 10 0)), (1, .ref (hd 9 i1)), (2, .int x2)] [] μ) : Cal K_Tk_scan d rc rs [.ref (hd 10 0), .ref (hd 9 i1), .int x2] μ Q := Cal.of (by decide +kernel) rfl rfl (Nat.le_of_ble_eq_true rfl) rfl hk
set_option maxHeartbeats 4000000 in
set_option maxRecDepth 20000 in
theorem g_Tk_scan_20 {d rc rs : Nat} {Q : Option Value → Mu → Prop} {μ : Mu} {x3 : Int32} {x4 : Int32} (hD : 1 ≤ d)  (hS : St μ)
    (hF : ((x4 = 0 → Q none μ) ∧ (¬ x4 = 0 → ((400 < (mI μ (hd 10 0) 4) → Q none μ) ∧ (¬ 400 < (mI μ (hd 10 0) 4) → (Cal K_Tk_behindBlanks (d - 1) 0 0 [.ref (hd 10 0), .int x3] μ (fun r μ1 => ∃ y2, r = some (.int y2) ∧ (Cal K_Tk_behindToken (d - 1) 0 0 [.ref (hd 10 0), .int y2, .int (mI μ1 (hd 10 0) 4)] μ1 (fun r μ3 => ∃ y4, r = some (.int y4) ∧ ((y4 ≤ y2 → Wx K_Tk_scan d rc rs Q 20 [(0, .ref (hd 10 0)), (3, .int y4), (4, .int 0)] [] (setI μ3 (hd 10 0) 4 ((mI μ3 (hd 10 0) 4) + (1 : Int32)))) ∧ (¬ y4 ≤ y2 → Wx K_Tk_scan d rc rs Q 20 [(0, .ref (hd 10 0)), (3, .int y4), (4, .int 1)] [] (setI μ3 (hd 10 0) 4 ((mI μ3 (hd 10 0) 4) + (1 : Int32)))))))))))))) : Wx K_Tk_scan d rc rs Q 20 [(0, .ref (hd 10 0)), (3, .int x3), (4, .int x4)] [] μ := by
  refine Wa.iload (j := 2) d_Tk_scan_20 rfl ?_
  refine Wa.if_eq 81 d_Tk_scan_22 (by decide) (fun hb => ?_) (fun hb => ?_)
  · have hF := hF.1 hb
    exact Wx.retv d_Tk_scan_81 rfl hF
  · have hF := hF.2 hb
    refine Wa.aload_n (j := 0) d_Tk_scan_25 rfl ?_
    refine Wx.getI 9 4 d_Tk_scan_26 f_Tk_4 fl_Tk_28 w_10 (s_10 hS (by decide)) ?_
    refine Wa.sipush (v := 400) d_Tk_scan_29 rfl ?_
    refine Wa.icmp_gt 81 d_Tk_scan_32 (by decide) (fun hb => ?_) (fun hb => ?_)
    · have hF := hF.1 hb
      exact Wx.retv d_Tk_scan_81 rfl hF
    · have hF := hF.2 hb
      refine Wa.aload_n (j := 0) d_Tk_scan_35 rfl ?_
      refine Wa.iload_n (j := 1) d_Tk_scan_36 rfl ?_
      refine Wx.cVi (q := E_Tk) (As := [.int x3]) 9 (d - 1) 0 0 _ d_Tk_scan_37 mok_Tk_behindBlanks vl_Tk_39 rfl rfl rfl (Nat.le_of_ble_eq_true rfl) (by omega) (Nat.zero_le _) (Nat.zero_le _) (s_10 hS (by decide)) hF (fun y2 μ1 hS hF => ?_)
      refine Wa.istore_n (i := 3) (L' := [(3, .int y2), (0, .ref (hd 10 0)), (4, .int x4)]) d_Tk_scan_40 rfl (by decide) rfl ?_
      refine Wa.aload_n (j := 1) d_Tk_scan_41 rfl ?_
      refine Wa.iload_n (j := 0) d_Tk_scan_42 rfl ?_
      refine Wa.aload_n (j := 1) d_Tk_scan_43 rfl ?_
      refine Wx.getI 9 4 d_Tk_scan_44 f_Tk_4 fl_Tk_28 w_10 (s_10 hS (by decide)) ?_
      refine Wx.cVi (q := E_Tk) (As := [.int y2, .int (mI μ1 (hd 10 0) 4)]) 9 (d - 1) 0 0 _ d_Tk_scan_47 mok_Tk_behindToken vl_Tk_43 rfl rfl rfl (Nat.le_of_ble_eq_true rfl) (by omega) (Nat.zero_le _) (Nat.zero_le _) (s_10 hS (by decide)) hF (fun y4 μ3 hS hF => ?_)
      refine Wa.istore (i := 5) (L' := [(5, .int y4), (3, .int y2), (0, .ref (hd 10 0)), (4, .int x4)]) d_Tk_scan_50 (by decide) rfl ?_
      refine Wa.iload (j := 0) d_Tk_scan_52 rfl ?_
      refine Wa.iload_n (j := 1) d_Tk_scan_54 rfl ?_
      refine Wa.icmp_le 62 d_Tk_scan_55 (by decide) (fun hb => ?_) (fun hb => ?_)
      · have hF := hF.1 hb
        refine Wa.iconst (v := 0) d_Tk_scan_62 rfl ?_
        refine Wa.istore (i := 4) (L' := [(4, .int 0), (5, .int y4), (3, .int y2), (0, .ref (hd 10 0))]) d_Tk_scan_63 (by decide) rfl ?_
        refine Wa.iload (j := 1) d_Tk_scan_65 rfl ?_
        refine Wa.istore_n (i := 3) (L' := [(3, .int y4), (4, .int 0), (5, .int y4), (0, .ref (hd 10 0))]) d_Tk_scan_67 rfl (by decide) rfl ?_
        refine Wa.aload_n (j := 3) d_Tk_scan_68 rfl ?_
        refine Wa.dup d_Tk_scan_69 rfl ?_
        refine Wx.getI 9 4 d_Tk_scan_70 f_Tk_4 fl_Tk_28 w_10 (s_10 hS (by decide)) ?_
        refine Wa.iconst (v := 1) d_Tk_scan_73 rfl ?_
        refine Wa.iadd d_Tk_scan_74 ?_
        refine Wx.putI 9 4 d_Tk_scan_75 f_Tk_4 ok_Tk fl_Tk_28 (Or.inl rfl) w_10 (s_10 hS (by decide)) ?_
        refine Wa.goto 20 d_Tk_scan_78 (by decide) ?_
        exact Wa.loc [3, 0, 1] rfl hF
      · have hF := hF.2 hb
        refine Wa.iconst (v := 1) d_Tk_scan_58 rfl ?_
        refine Wa.goto 63 d_Tk_scan_59 (by decide) ?_
        refine Wa.istore (i := 4) (L' := [(4, .int 1), (5, .int y4), (3, .int y2), (0, .ref (hd 10 0))]) d_Tk_scan_63 (by decide) rfl ?_
        refine Wa.iload (j := 1) d_Tk_scan_65 rfl ?_
        refine Wa.istore_n (i := 3) (L' := [(3, .int y4), (4, .int 1), (5, .int y4), (0, .ref (hd 10 0))]) d_Tk_scan_67 rfl (by decide) rfl ?_
        refine Wa.aload_n (j := 3) d_Tk_scan_68 rfl ?_
        refine Wa.dup d_Tk_scan_69 rfl ?_
        refine Wx.getI 9 4 d_Tk_scan_70 f_Tk_4 fl_Tk_28 w_10 (s_10 hS (by decide)) ?_
        refine Wa.iconst (v := 1) d_Tk_scan_73 rfl ?_
        refine Wa.iadd d_Tk_scan_74 ?_
        refine Wx.putI 9 4 d_Tk_scan_75 f_Tk_4 ok_Tk fl_Tk_28 (Or.inl rfl) w_10 (s_10 hS (by decide)) ?_
        refine Wa.goto 20 d_Tk_scan_78 (by decide) ?_
        exact Wa.loc [3, 0, 1] rfl hF
set_option maxHeartbeats 4000000 in
set_option maxRecDepth 20000 in
theorem g_Tk_kindAt_0 {d rc rs : Nat} {Q : Option Value → Mu → Prop} {μ : Mu} {x1 : Int32} (hD : 1 ≤ d)  (hS : St μ)
    (hF : ((x1 < 0 → Q (some (.ref (hd 0 47))) μ) ∧ (¬ x1 < 0 → (((mI μ (hd 10 0) 4) ≤ x1 → Q (some (.ref (hd 0 47))) μ) ∧ (¬ (mI μ (hd 10 0) 4) ≤ x1 → (vp_in x1 401 ∧ mR μ (hd 11 0) x1.toNatClampNeg ≠ none ∧ Q (some (.ref (hd 0 (px μ (hd 11 0) x1.toNatClampNeg)))) μ)))))) : Wx K_Tk_kindAt d rc rs Q 0 [(0, .ref (hd 10 0)), (1, .int x1)] [] μ := by
  refine Wa.iload_n (j := 1) d_Tk_kindAt_0 rfl ?_
  refine Wa.if_lt 21 d_Tk_kindAt_1 (by decide) (fun hb => ?_) (fun hb => ?_)
  · have hF := hF.1 hb
    refine Wx.gets d_Tk_kindAt_21 st_51 sf_Tk_47 ?_
    exact Wx.reta d_Tk_kindAt_24 rfl hF
  · have hF := hF.2 hb
    refine Wa.iload_n (j := 1) d_Tk_kindAt_4 rfl ?_
    refine Wa.aload_n (j := 0) d_Tk_kindAt_5 rfl ?_
    refine Wx.getI 9 4 d_Tk_kindAt_6 f_Tk_4 fl_Tk_28 w_10 (s_10 hS (by decide)) ?_
    refine Wa.icmp_ge 21 d_Tk_kindAt_9 (by decide) (fun hb => ?_) (fun hb => ?_)
    · have hF := hF.1 hb
      refine Wx.gets d_Tk_kindAt_21 st_51 sf_Tk_47 ?_
      exact Wx.reta d_Tk_kindAt_24 rfl hF
    · have hF := hF.2 hb
      refine Wa.aload_n (j := 0) d_Tk_kindAt_12 rfl ?_
      refine Wx.getR 9 0 d_Tk_kindAt_13 f_Tk_0 rfl fl_Tk_11 (s_10 hS (by decide)) (r_10_0 hS (by decide)) ?_
      refine Wa.iload_n (j := 1) d_Tk_kindAt_16 rfl ?_
      have hc1 := hF.1
      have hF := hF.2
      have hlhc1 := vp_in_lt hc1
      have hc2 := hF.1
      have hF := hF.2
      have hp3 := e_11 (i := 0) hS (by decide) hc2
      refine Wa.aald (t := 14) (q := E_Ki) d_Tk_kindAt_17 rfl (s_11 hS (by decide)) hc1 hp3.1 ?_
      refine Wa.goto 24 d_Tk_kindAt_18 (by decide) ?_
      exact Wx.reta d_Tk_kindAt_24 rfl hF
theorem e_Tk_kindAt {d rc rs : Nat} {Q : Option Value → Mu → Prop} {μ : Mu} {x1 : Int32} (hk : Wx K_Tk_kindAt d rc rs (fun r μ' => St μ' ∧ Q r μ') 0 [(0, .ref (hd 10 0)), (1, .int x1)] [] μ) : Cal K_Tk_kindAt d rc rs [.ref (hd 10 0), .int x1] μ Q := Cal.of (by decide +kernel) rfl rfl (Nat.le_of_ble_eq_true rfl) rfl hk
set_option maxHeartbeats 4000000 in
set_option maxRecDepth 20000 in
theorem g_Tk_startAt_0 {d rc rs : Nat} {Q : Option Value → Mu → Prop} {μ : Mu} {x1 : Int32} (hD : 1 ≤ d)  (hS : St μ)
    (hF : ((x1 < 0 → Q (some (.int (mI μ (hd 10 0) 6))) μ) ∧ (¬ x1 < 0 → (((mI μ (hd 10 0) 4) ≤ x1 → Q (some (.int (mI μ (hd 10 0) 6))) μ) ∧ (¬ (mI μ (hd 10 0) 4) ≤ x1 → (vp_in x1 401 ∧ Q (some (.int (mI μ (hd 12 0) x1.toNatClampNeg))) μ)))))) : Wx K_Tk_startAt d rc rs Q 0 [(0, .ref (hd 10 0)), (1, .int x1)] [] μ := by
  refine Wa.iload_n (j := 1) d_Tk_startAt_0 rfl ?_
  refine Wa.if_lt 21 d_Tk_startAt_1 (by decide) (fun hb => ?_) (fun hb => ?_)
  · have hF := hF.1 hb
    refine Wa.aload_n (j := 0) d_Tk_startAt_21 rfl ?_
    refine Wx.getI 9 6 d_Tk_startAt_22 f_Tk_6 fl_Tk_36 w_10 (s_10 hS (by decide)) ?_
    exact Wx.reti d_Tk_startAt_25 rfl hF
  · have hF := hF.2 hb
    refine Wa.iload_n (j := 1) d_Tk_startAt_4 rfl ?_
    refine Wa.aload_n (j := 0) d_Tk_startAt_5 rfl ?_
    refine Wx.getI 9 4 d_Tk_startAt_6 f_Tk_4 fl_Tk_28 w_10 (s_10 hS (by decide)) ?_
    refine Wa.icmp_ge 21 d_Tk_startAt_9 (by decide) (fun hb => ?_) (fun hb => ?_)
    · have hF := hF.1 hb
      refine Wa.aload_n (j := 0) d_Tk_startAt_21 rfl ?_
      refine Wx.getI 9 6 d_Tk_startAt_22 f_Tk_6 fl_Tk_36 w_10 (s_10 hS (by decide)) ?_
      exact Wx.reti d_Tk_startAt_25 rfl hF
    · have hF := hF.2 hb
      refine Wa.aload_n (j := 0) d_Tk_startAt_12 rfl ?_
      refine Wx.getR 9 1 d_Tk_startAt_13 f_Tk_1 rfl fl_Tk_17 (s_10 hS (by decide)) (r_10_1 hS (by decide)) ?_
      refine Wa.iload_n (j := 1) d_Tk_startAt_16 rfl ?_
      have hc1 := hF.1
      have hF := hF.2
      have hlhc1 := vp_in_lt hc1
      refine Wx.iald d_Tk_startAt_17 w_12 (s_12 hS (by decide)) hc1 ?_
      refine Wa.goto 25 d_Tk_startAt_18 (by decide) ?_
      exact Wx.reti d_Tk_startAt_25 rfl hF
theorem e_Tk_startAt {d rc rs : Nat} {Q : Option Value → Mu → Prop} {μ : Mu} {x1 : Int32} (hk : Wx K_Tk_startAt d rc rs (fun r μ' => St μ' ∧ Q r μ') 0 [(0, .ref (hd 10 0)), (1, .int x1)] [] μ) : Cal K_Tk_startAt d rc rs [.ref (hd 10 0), .int x1] μ Q := Cal.of (by decide +kernel) rfl rfl (Nat.le_of_ble_eq_true rfl) rfl hk
set_option maxHeartbeats 4000000 in
set_option maxRecDepth 20000 in
theorem g_Tk_worthAt_0 {d rc rs : Nat} {Q : Option Value → Mu → Prop} {μ : Mu} {x1 : Int32} (hD : 1 ≤ d)  (hS : St μ)
    (hF : ((x1 < 0 → Q (some (.long 0)) μ) ∧ (¬ x1 < 0 → (((mI μ (hd 10 0) 4) ≤ x1 → Q (some (.long 0)) μ) ∧ (¬ (mI μ (hd 10 0) 4) ≤ x1 → (vp_in x1 401 ∧ Q (some (.long (mL μ (hd 13 0) x1.toNatClampNeg))) μ)))))) : Wx K_Tk_worthAt d rc rs Q 0 [(0, .ref (hd 10 0)), (1, .int x1)] [] μ := by
  refine Wa.iload_n (j := 1) d_Tk_worthAt_0 rfl ?_
  refine Wa.if_lt 21 d_Tk_worthAt_1 (by decide) (fun hb => ?_) (fun hb => ?_)
  · have hF := hF.1 hb
    refine Wa.lconst (v := 0) d_Tk_worthAt_21 rfl ?_
    exact Wx.retl d_Tk_worthAt_22 rfl hF
  · have hF := hF.2 hb
    refine Wa.iload_n (j := 1) d_Tk_worthAt_4 rfl ?_
    refine Wa.aload_n (j := 0) d_Tk_worthAt_5 rfl ?_
    refine Wx.getI 9 4 d_Tk_worthAt_6 f_Tk_4 fl_Tk_28 w_10 (s_10 hS (by decide)) ?_
    refine Wa.icmp_ge 21 d_Tk_worthAt_9 (by decide) (fun hb => ?_) (fun hb => ?_)
    · have hF := hF.1 hb
      refine Wa.lconst (v := 0) d_Tk_worthAt_21 rfl ?_
      exact Wx.retl d_Tk_worthAt_22 rfl hF
    · have hF := hF.2 hb
      refine Wa.aload_n (j := 0) d_Tk_worthAt_12 rfl ?_
      refine Wx.getR 9 2 d_Tk_worthAt_13 f_Tk_2 rfl fl_Tk_21 (s_10 hS (by decide)) (r_10_2 hS (by decide)) ?_
      refine Wa.iload_n (j := 1) d_Tk_worthAt_16 rfl ?_
      have hc1 := hF.1
      have hF := hF.2
      have hlhc1 := vp_in_lt hc1
      refine Wa.lald d_Tk_worthAt_17 (s_13 hS (by decide)) hc1 ?_
      refine Wa.goto 22 d_Tk_worthAt_18 (by decide) ?_
      exact Wx.retl d_Tk_worthAt_22 rfl hF
theorem e_Tk_worthAt {d rc rs : Nat} {Q : Option Value → Mu → Prop} {μ : Mu} {x1 : Int32} (hk : Wx K_Tk_worthAt d rc rs (fun r μ' => St μ' ∧ Q r μ') 0 [(0, .ref (hd 10 0)), (1, .int x1)] [] μ) : Cal K_Tk_worthAt d rc rs [.ref (hd 10 0), .int x1] μ Q := Cal.of (by decide +kernel) rfl rfl (Nat.le_of_ble_eq_true rfl) rfl hk
set_option maxHeartbeats 4000000 in
set_option maxRecDepth 20000 in
theorem g_Tk_meaningAt_0 {d rc rs : Nat} {Q : Option Value → Mu → Prop} {μ : Mu} {x1 : Int32} (hD : 1 ≤ d)  (hS : St μ)
    (hF : ((x1 < 0 → Q (some (.int 0)) μ) ∧ (¬ x1 < 0 → (((mI μ (hd 10 0) 4) ≤ x1 → Q (some (.int 0)) μ) ∧ (¬ (mI μ (hd 10 0) 4) ≤ x1 → (vp_in x1 401 ∧ Q (some (.int (mI μ (hd 14 0) x1.toNatClampNeg))) μ)))))) : Wx K_Tk_meaningAt d rc rs Q 0 [(0, .ref (hd 10 0)), (1, .int x1)] [] μ := by
  refine Wa.iload_n (j := 1) d_Tk_meaningAt_0 rfl ?_
  refine Wa.if_lt 21 d_Tk_meaningAt_1 (by decide) (fun hb => ?_) (fun hb => ?_)
  · have hF := hF.1 hb
    refine Wa.iconst (v := 0) d_Tk_meaningAt_21 rfl ?_
    exact Wx.reti d_Tk_meaningAt_22 rfl hF
  · have hF := hF.2 hb
    refine Wa.iload_n (j := 1) d_Tk_meaningAt_4 rfl ?_
    refine Wa.aload_n (j := 0) d_Tk_meaningAt_5 rfl ?_
    refine Wx.getI 9 4 d_Tk_meaningAt_6 f_Tk_4 fl_Tk_28 w_10 (s_10 hS (by decide)) ?_
    refine Wa.icmp_ge 21 d_Tk_meaningAt_9 (by decide) (fun hb => ?_) (fun hb => ?_)
    · have hF := hF.1 hb
      refine Wa.iconst (v := 0) d_Tk_meaningAt_21 rfl ?_
      exact Wx.reti d_Tk_meaningAt_22 rfl hF
    · have hF := hF.2 hb
      refine Wa.aload_n (j := 0) d_Tk_meaningAt_12 rfl ?_
      refine Wx.getR 9 3 d_Tk_meaningAt_13 f_Tk_3 rfl fl_Tk_25 (s_10 hS (by decide)) (r_10_3 hS (by decide)) ?_
      refine Wa.iload_n (j := 1) d_Tk_meaningAt_16 rfl ?_
      have hc1 := hF.1
      have hF := hF.2
      have hlhc1 := vp_in_lt hc1
      refine Wx.iald d_Tk_meaningAt_17 w_14 (s_14 hS (by decide)) hc1 ?_
      refine Wa.goto 22 d_Tk_meaningAt_18 (by decide) ?_
      exact Wx.reti d_Tk_meaningAt_22 rfl hF
theorem e_Tk_meaningAt {d rc rs : Nat} {Q : Option Value → Mu → Prop} {μ : Mu} {x1 : Int32} (hk : Wx K_Tk_meaningAt d rc rs (fun r μ' => St μ' ∧ Q r μ') 0 [(0, .ref (hd 10 0)), (1, .int x1)] [] μ) : Cal K_Tk_meaningAt d rc rs [.ref (hd 10 0), .int x1] μ Q := Cal.of (by decide +kernel) rfl rfl (Nat.le_of_ble_eq_true rfl) rfl hk
set_option maxHeartbeats 4000000 in
set_option maxRecDepth 20000 in
theorem g_Tk_setMeaning_0 {d rc rs : Nat} {Q : Option Value → Mu → Prop} {μ : Mu} {x1 : Int32} {x2 : Int32} (hD : 1 ≤ d)  (hS : St μ)
    (hF : ((x1 < 0 → Q none μ) ∧ (¬ x1 < 0 → (((mI μ (hd 10 0) 4) ≤ x1 → Q none μ) ∧ (¬ (mI μ (hd 10 0) 4) ≤ x1 → (vp_in x1 401 ∧ Q none (setI μ (hd 14 0) x1.toNatClampNeg x2))))))) : Wx K_Tk_setMeaning d rc rs Q 0 [(0, .ref (hd 10 0)), (1, .int x1), (2, .int x2)] [] μ := by
  refine Wa.iload_n (j := 1) d_Tk_setMeaning_0 rfl ?_
  refine Wa.if_lt 19 d_Tk_setMeaning_1 (by decide) (fun hb => ?_) (fun hb => ?_)
  · have hF := hF.1 hb
    exact Wx.retv d_Tk_setMeaning_19 rfl hF
  · have hF := hF.2 hb
    refine Wa.iload_n (j := 1) d_Tk_setMeaning_4 rfl ?_
    refine Wa.aload_n (j := 0) d_Tk_setMeaning_5 rfl ?_
    refine Wx.getI 9 4 d_Tk_setMeaning_6 f_Tk_4 fl_Tk_28 w_10 (s_10 hS (by decide)) ?_
    refine Wa.icmp_ge 19 d_Tk_setMeaning_9 (by decide) (fun hb => ?_) (fun hb => ?_)
    · have hF := hF.1 hb
      exact Wx.retv d_Tk_setMeaning_19 rfl hF
    · have hF := hF.2 hb
      refine Wa.aload_n (j := 0) d_Tk_setMeaning_12 rfl ?_
      refine Wx.getR 9 3 d_Tk_setMeaning_13 f_Tk_3 rfl fl_Tk_25 (s_10 hS (by decide)) (r_10_3 hS (by decide)) ?_
      refine Wa.iload_n (j := 1) d_Tk_setMeaning_16 rfl ?_
      refine Wa.iload_n (j := 2) d_Tk_setMeaning_17 rfl ?_
      have hc1 := hF.1
      have hF := hF.2
      have hlhc1 := vp_in_lt hc1
      refine Wa.iast d_Tk_setMeaning_18 w_14 (s_14 hS (by decide)) hc1 ?_
      exact Wx.retv d_Tk_setMeaning_19 rfl hF
theorem e_Tk_setMeaning {d rc rs : Nat} {Q : Option Value → Mu → Prop} {μ : Mu} {x1 : Int32} {x2 : Int32} (hk : Wx K_Tk_setMeaning d rc rs (fun r μ' => St μ' ∧ Q r μ') 0 [(0, .ref (hd 10 0)), (1, .int x1), (2, .int x2)] [] μ) : Cal K_Tk_setMeaning d rc rs [.ref (hd 10 0), .int x1, .int x2] μ Q := Cal.of (by decide +kernel) rfl rfl (Nat.le_of_ble_eq_true rfl) rfl hk
set_option maxHeartbeats 4000000 in
set_option maxRecDepth 20000 in
theorem g_Tk_behindToken_0 {d rc rs : Nat} {Q : Option Value → Mu → Prop} {μ : Mu} {x1 : Int32} {x2 : Int32} (hD : 1 ≤ d)  (hS : St μ)
    (hF : ((x1 < (mI μ (hd 10 0) 6) → ((400 ≤ x2 → (vp_in x2 401 ∧ (vp_in x2 401 ∧ (vp_in x2 401 ∧ (vp_in x2 401 ∧ ((47 = 47 → Q (some (.int x1)) (setI (setL (setI (setR μ (hd 11 0) x2.toNatClampNeg (hd 0 47)) (hd 12 0) x2.toNatClampNeg x1) (hd 13 0) x2.toNatClampNeg 0) (hd 14 0) x2.toNatClampNeg 0)) ∧ (¬ 47 = 47 → Q (some (.int x1)) (setI (setL (setI (setR μ (hd 11 0) x2.toNatClampNeg (hd 0 47)) (hd 12 0) x2.toNatClampNeg x1) (hd 13 0) x2.toNatClampNeg 0) (hd 14 0) x2.toNatClampNeg 0)))))))) ∧ (¬ 400 ≤ x2 → (Cal K_Tk_behindRun (d - 1) 0 0 [.ref (hd 10 0), .int x1] μ (fun r μ5 => ∃ y6, r = some (.int y6) ∧ (Cal K_Tk_kindOf (d - 1) 0 0 [.ref (hd 10 0), .int x1, .int y6] μ5 (fun r μ7 => ∃ y8, r = some (.ref (hd 0 y8)) ∧ y8 < 49 ∧ ((y8 = 45 → (Cal K_Tk_numberWorth (d - 1) 0 0 [.ref (hd 10 0), .int x1, .int y6] μ7 (fun r μ16 => ∃ y17, r = some (.long y17) ∧ (vp_in x2 401 ∧ (vp_in x2 401 ∧ (vp_in x2 401 ∧ (vp_in x2 401 ∧ ((y8 = 47 → Q (some (.int x1)) (setI (setL (setI (setR μ16 (hd 11 0) x2.toNatClampNeg (hd 0 y8)) (hd 12 0) x2.toNatClampNeg x1) (hd 13 0) x2.toNatClampNeg y17) (hd 14 0) x2.toNatClampNeg 0)) ∧ (¬ y8 = 47 → Q (some (.int y6)) (setI (setL (setI (setR μ16 (hd 11 0) x2.toNatClampNeg (hd 0 y8)) (hd 12 0) x2.toNatClampNeg x1) (hd 13 0) x2.toNatClampNeg y17) (hd 14 0) x2.toNatClampNeg 0)))))))))) ∧ (¬ y8 = 45 → (Cal K_Tk_nameWorth (d - 1) 0 0 [.ref (hd 10 0), .int x1, .int y6] μ7 (fun r μ10 => ∃ y11, r = some (.long y11) ∧ (vp_in x2 401 ∧ (vp_in x2 401 ∧ (vp_in x2 401 ∧ (vp_in x2 401 ∧ ((y8 = 47 → Q (some (.int x1)) (setI (setL (setI (setR μ10 (hd 11 0) x2.toNatClampNeg (hd 0 y8)) (hd 12 0) x2.toNatClampNeg x1) (hd 13 0) x2.toNatClampNeg y11) (hd 14 0) x2.toNatClampNeg 0)) ∧ (¬ y8 = 47 → Q (some (.int y6)) (setI (setL (setI (setR μ10 (hd 11 0) x2.toNatClampNeg (hd 0 y8)) (hd 12 0) x2.toNatClampNeg x1) (hd 13 0) x2.toNatClampNeg y11) (hd 14 0) x2.toNatClampNeg 0)))))))))))))))))) ∧ (¬ x1 < (mI μ (hd 10 0) 6) → (vp_in x2 401 ∧ (vp_in x2 401 ∧ (vp_in x2 401 ∧ (vp_in x2 401 ∧ ((46 = 47 → Q (some (.int x1)) (setI (setL (setI (setR μ (hd 11 0) x2.toNatClampNeg (hd 0 46)) (hd 12 0) x2.toNatClampNeg x1) (hd 13 0) x2.toNatClampNeg 0) (hd 14 0) x2.toNatClampNeg 0)) ∧ (¬ 46 = 47 → Q (some (.int x1)) (setI (setL (setI (setR μ (hd 11 0) x2.toNatClampNeg (hd 0 46)) (hd 12 0) x2.toNatClampNeg x1) (hd 13 0) x2.toNatClampNeg 0) (hd 14 0) x2.toNatClampNeg 0)))))))))) : Wx K_Tk_behindToken d rc rs Q 0 [(0, .ref (hd 10 0)), (1, .int x1), (2, .int x2)] [] μ := by
  refine Wa.iload_n (j := 1) d_Tk_behindToken_0 rfl ?_
  refine Wa.istore_n (i := 3) (L' := [(3, .int x1), (0, .ref (hd 10 0)), (1, .int x1), (2, .int x2)]) d_Tk_behindToken_1 rfl (by decide) rfl ?_
  refine Wa.lconst (v := 0) d_Tk_behindToken_2 rfl ?_
  refine Wa.lstore (i := 4) (L' := [(4, .long 0), (3, .int x1), (0, .ref (hd 10 0)), (1, .int x1), (2, .int x2)]) d_Tk_behindToken_3 (by decide) rfl ?_
  refine Wx.gets d_Tk_behindToken_5 st_51 sf_Tk_47 ?_
  refine Wa.astore (i := 6) (L' := [(6, .ref (hd 0 47)), (4, .long 0), (3, .int x1), (0, .ref (hd 10 0)), (1, .int x1), (2, .int x2)]) d_Tk_behindToken_8 (by decide) rfl ?_
  refine Wa.iload_n (j := 4) d_Tk_behindToken_10 rfl ?_
  refine Wa.aload_n (j := 3) d_Tk_behindToken_11 rfl ?_
  refine Wx.getI 9 6 d_Tk_behindToken_12 f_Tk_6 fl_Tk_36 w_10 (s_10 hS (by decide)) ?_
  refine Wa.icmp_lt 26 d_Tk_behindToken_15 (by decide) (fun hb => ?_) (fun hb => ?_)
  · have hF := hF.1 hb
    refine Wa.iload_n (j := 5) d_Tk_behindToken_26 rfl ?_
    refine Wa.sipush (v := 400) d_Tk_behindToken_27 rfl ?_
    refine Wa.icmp_ge 72 d_Tk_behindToken_30 (by decide) (fun hb => ?_) (fun hb => ?_)
    · have hF := hF.1 hb
      refine Wa.aload_n (j := 3) d_Tk_behindToken_72 rfl ?_
      refine Wx.getR 9 0 d_Tk_behindToken_73 f_Tk_0 rfl fl_Tk_11 (s_10 hS (by decide)) (r_10_0 hS (by decide)) ?_
      refine Wa.iload_n (j := 5) d_Tk_behindToken_76 rfl ?_
      refine Wa.aload (j := 0) d_Tk_behindToken_77 rfl ?_
      have hc1 := hF.1
      have hF := hF.2
      have hlhc1 := vp_in_lt hc1
      refine Wa.aast (t := 14) (q := E_Ki) d_Tk_behindToken_79 rfl w_11 (s_11 hS (by decide)) hc1 (s_0 hS (by decide)) ?_
      have hS : St (setR μ (hd 11 0) x2.toNatClampNeg (hd 0 47)) := se_11 (μ := μ) hS (by decide) (by decide)
      refine Wa.aload_n (j := 3) d_Tk_behindToken_80 rfl ?_
      refine Wx.getR 9 1 d_Tk_behindToken_81 f_Tk_1 rfl fl_Tk_17 (s_10 hS (by decide)) (r_10_1 hS (by decide)) ?_
      refine Wa.iload_n (j := 5) d_Tk_behindToken_84 rfl ?_
      refine Wa.iload_n (j := 4) d_Tk_behindToken_85 rfl ?_
      have hc2 := hF.1
      have hF := hF.2
      have hlhc2 := vp_in_lt hc2
      refine Wa.iast d_Tk_behindToken_86 w_12 (s_12 hS (by decide)) hc2 ?_
      refine Wa.aload_n (j := 3) d_Tk_behindToken_87 rfl ?_
      refine Wx.getR 9 2 d_Tk_behindToken_88 f_Tk_2 rfl fl_Tk_21 (s_10 hS (by decide)) (r_10_2 hS (by decide)) ?_
      refine Wa.iload_n (j := 5) d_Tk_behindToken_91 rfl ?_
      refine Wa.lload (j := 1) d_Tk_behindToken_92 rfl ?_
      have hc3 := hF.1
      have hF := hF.2
      have hlhc3 := vp_in_lt hc3
      refine Wa.last d_Tk_behindToken_94 w_13 (s_13 hS (by decide)) hc3 ?_
      refine Wa.aload_n (j := 3) d_Tk_behindToken_95 rfl ?_
      refine Wx.getR 9 3 d_Tk_behindToken_96 f_Tk_3 rfl fl_Tk_25 (s_10 hS (by decide)) (r_10_3 hS (by decide)) ?_
      refine Wa.iload_n (j := 5) d_Tk_behindToken_99 rfl ?_
      refine Wa.iconst (v := 0) d_Tk_behindToken_100 rfl ?_
      have hc4 := hF.1
      have hF := hF.2
      have hlhc4 := vp_in_lt hc4
      refine Wa.iast d_Tk_behindToken_101 w_14 (s_14 hS (by decide)) hc4 ?_
      refine Wa.aload (j := 0) d_Tk_behindToken_102 rfl ?_
      refine Wx.gets d_Tk_behindToken_104 st_51 sf_Tk_47 ?_
      refine Wx.acmp_ne (κ := 0) 114 (by decide) kz kz d_Tk_behindToken_107 (by decide) (fun hb => ?_) (fun hb => ?_)
      · have hF := hF.2 hb
        refine Wa.iload_n (j := 2) d_Tk_behindToken_114 rfl ?_
        exact Wx.reti d_Tk_behindToken_115 rfl hF
      · have hF := hF.1 hb
        refine Wa.iload_n (j := 4) d_Tk_behindToken_110 rfl ?_
        refine Wa.goto 115 d_Tk_behindToken_111 (by decide) ?_
        exact Wx.reti d_Tk_behindToken_115 rfl hF
    · have hF := hF.2 hb
      refine Wa.aload_n (j := 3) d_Tk_behindToken_33 rfl ?_
      refine Wa.iload_n (j := 4) d_Tk_behindToken_34 rfl ?_
      refine Wx.cVi (q := E_Tk) (As := [.int x1]) 9 (d - 1) 0 0 _ d_Tk_behindToken_35 mok_Tk_behindRun vl_Tk_54 rfl rfl rfl (Nat.le_of_ble_eq_true rfl) (by omega) (Nat.zero_le _) (Nat.zero_le _) (s_10 hS (by decide)) hF (fun y6 μ5 hS hF => ?_)
      refine Wa.istore_n (i := 3) (L' := [(3, .int y6), (6, .ref (hd 0 47)), (4, .long 0), (0, .ref (hd 10 0)), (1, .int x1), (2, .int x2)]) d_Tk_behindToken_38 rfl (by decide) rfl ?_
      refine Wa.aload_n (j := 3) d_Tk_behindToken_39 rfl ?_
      refine Wa.iload_n (j := 4) d_Tk_behindToken_40 rfl ?_
      refine Wa.iload_n (j := 0) d_Tk_behindToken_41 rfl ?_
      refine Wx.cVr (q := E_Tk) (As := [.int x1, .int y6]) 9 (d - 1) 0 0 _ d_Tk_behindToken_42 mok_Tk_kindOf vl_Tk_57 rfl rfl rfl (Nat.le_of_ble_eq_true rfl) (by omega) (Nat.zero_le _) (Nat.zero_le _) (s_10 hS (by decide)) hF (fun y8 μ7 hS hy9 hF => ?_)
      refine Wa.astore (i := 6) (L' := [(6, .ref (hd 0 y8)), (3, .int y6), (4, .long 0), (0, .ref (hd 10 0)), (1, .int x1), (2, .int x2)]) d_Tk_behindToken_45 (by decide) rfl ?_
      refine Wa.aload (j := 0) d_Tk_behindToken_47 rfl ?_
      refine Wx.gets d_Tk_behindToken_49 st_49 sf_Tk_61 ?_
      refine Wx.acmp_ne (κ := 0) 64 (by decide) kz kz d_Tk_behindToken_52 (by decide) (fun hb => ?_) (fun hb => ?_)
      · have hF := hF.2 hb
        refine Wa.aload_n (j := 3) d_Tk_behindToken_64 rfl ?_
        refine Wa.iload_n (j := 4) d_Tk_behindToken_65 rfl ?_
        refine Wa.iload_n (j := 1) d_Tk_behindToken_66 rfl ?_
        refine Wx.cVl (q := E_Tk) (As := [.int x1, .int y6]) 9 (d - 1) 0 0 _ d_Tk_behindToken_67 mok_Tk_nameWorth vl_Tk_68 rfl rfl rfl (Nat.le_of_ble_eq_true rfl) (by omega) (Nat.zero_le _) (Nat.zero_le _) (s_10 hS (by decide)) hF (fun y11 μ10 hS hF => ?_)
        refine Wa.lstore (i := 4) (L' := [(4, .long y11), (6, .ref (hd 0 y8)), (3, .int y6), (0, .ref (hd 10 0)), (1, .int x1), (2, .int x2)]) d_Tk_behindToken_70 (by decide) rfl ?_
        refine Wa.aload_n (j := 3) d_Tk_behindToken_72 rfl ?_
        refine Wx.getR 9 0 d_Tk_behindToken_73 f_Tk_0 rfl fl_Tk_11 (s_10 hS (by decide)) (r_10_0 hS (by decide)) ?_
        refine Wa.iload_n (j := 5) d_Tk_behindToken_76 rfl ?_
        refine Wa.aload (j := 1) d_Tk_behindToken_77 rfl ?_
        have hc12 := hF.1
        have hF := hF.2
        have hlhc12 := vp_in_lt hc12
        refine Wa.aast (t := 14) (q := E_Ki) d_Tk_behindToken_79 rfl w_11 (s_11 hS (by decide)) hc12 (s_0 hS hy9) ?_
        have hS : St (setR μ10 (hd 11 0) x2.toNatClampNeg (hd 0 y8)) := se_11 (μ := μ10) hS (by decide) hy9
        refine Wa.aload_n (j := 3) d_Tk_behindToken_80 rfl ?_
        refine Wx.getR 9 1 d_Tk_behindToken_81 f_Tk_1 rfl fl_Tk_17 (s_10 hS (by decide)) (r_10_1 hS (by decide)) ?_
        refine Wa.iload_n (j := 5) d_Tk_behindToken_84 rfl ?_
        refine Wa.iload_n (j := 4) d_Tk_behindToken_85 rfl ?_
        have hc13 := hF.1
        have hF := hF.2
        have hlhc13 := vp_in_lt hc13
        refine Wa.iast d_Tk_behindToken_86 w_12 (s_12 hS (by decide)) hc13 ?_
        refine Wa.aload_n (j := 3) d_Tk_behindToken_87 rfl ?_
        refine Wx.getR 9 2 d_Tk_behindToken_88 f_Tk_2 rfl fl_Tk_21 (s_10 hS (by decide)) (r_10_2 hS (by decide)) ?_
        refine Wa.iload_n (j := 5) d_Tk_behindToken_91 rfl ?_
        refine Wa.lload (j := 0) d_Tk_behindToken_92 rfl ?_
        have hc14 := hF.1
        have hF := hF.2
        have hlhc14 := vp_in_lt hc14
        refine Wa.last d_Tk_behindToken_94 w_13 (s_13 hS (by decide)) hc14 ?_
        refine Wa.aload_n (j := 3) d_Tk_behindToken_95 rfl ?_
        refine Wx.getR 9 3 d_Tk_behindToken_96 f_Tk_3 rfl fl_Tk_25 (s_10 hS (by decide)) (r_10_3 hS (by decide)) ?_
        refine Wa.iload_n (j := 5) d_Tk_behindToken_99 rfl ?_
        refine Wa.iconst (v := 0) d_Tk_behindToken_100 rfl ?_
        have hc15 := hF.1
        have hF := hF.2
        have hlhc15 := vp_in_lt hc15
        refine Wa.iast d_Tk_behindToken_101 w_14 (s_14 hS (by decide)) hc15 ?_
        refine Wa.aload (j := 1) d_Tk_behindToken_102 rfl ?_
        refine Wx.gets d_Tk_behindToken_104 st_51 sf_Tk_47 ?_
        refine Wx.acmp_ne (κ := 0) 114 (by decide) kz kz d_Tk_behindToken_107 (by decide) (fun hb => ?_) (fun hb => ?_)
        · have hF := hF.2 hb
          refine Wa.iload_n (j := 2) d_Tk_behindToken_114 rfl ?_
          exact Wx.reti d_Tk_behindToken_115 rfl hF
        · have hF := hF.1 hb
          refine Wa.iload_n (j := 4) d_Tk_behindToken_110 rfl ?_
          refine Wa.goto 115 d_Tk_behindToken_111 (by decide) ?_
          exact Wx.reti d_Tk_behindToken_115 rfl hF
      · have hF := hF.1 hb
        refine Wa.aload_n (j := 3) d_Tk_behindToken_55 rfl ?_
        refine Wa.iload_n (j := 4) d_Tk_behindToken_56 rfl ?_
        refine Wa.iload_n (j := 1) d_Tk_behindToken_57 rfl ?_
        refine Wx.cVl (q := E_Tk) (As := [.int x1, .int y6]) 9 (d - 1) 0 0 _ d_Tk_behindToken_58 mok_Tk_numberWorth vl_Tk_64 rfl rfl rfl (Nat.le_of_ble_eq_true rfl) (by omega) (Nat.zero_le _) (Nat.zero_le _) (s_10 hS (by decide)) hF (fun y17 μ16 hS hF => ?_)
        refine Wa.goto 70 d_Tk_behindToken_61 (by decide) ?_
        refine Wa.lstore (i := 4) (L' := [(4, .long y17), (6, .ref (hd 0 y8)), (3, .int y6), (0, .ref (hd 10 0)), (1, .int x1), (2, .int x2)]) d_Tk_behindToken_70 (by decide) rfl ?_
        refine Wa.aload_n (j := 3) d_Tk_behindToken_72 rfl ?_
        refine Wx.getR 9 0 d_Tk_behindToken_73 f_Tk_0 rfl fl_Tk_11 (s_10 hS (by decide)) (r_10_0 hS (by decide)) ?_
        refine Wa.iload_n (j := 5) d_Tk_behindToken_76 rfl ?_
        refine Wa.aload (j := 1) d_Tk_behindToken_77 rfl ?_
        have hc18 := hF.1
        have hF := hF.2
        have hlhc18 := vp_in_lt hc18
        refine Wa.aast (t := 14) (q := E_Ki) d_Tk_behindToken_79 rfl w_11 (s_11 hS (by decide)) hc18 (s_0 hS hy9) ?_
        have hS : St (setR μ16 (hd 11 0) x2.toNatClampNeg (hd 0 y8)) := se_11 (μ := μ16) hS (by decide) hy9
        refine Wa.aload_n (j := 3) d_Tk_behindToken_80 rfl ?_
        refine Wx.getR 9 1 d_Tk_behindToken_81 f_Tk_1 rfl fl_Tk_17 (s_10 hS (by decide)) (r_10_1 hS (by decide)) ?_
        refine Wa.iload_n (j := 5) d_Tk_behindToken_84 rfl ?_
        refine Wa.iload_n (j := 4) d_Tk_behindToken_85 rfl ?_
        have hc19 := hF.1
        have hF := hF.2
        have hlhc19 := vp_in_lt hc19
        refine Wa.iast d_Tk_behindToken_86 w_12 (s_12 hS (by decide)) hc19 ?_
        refine Wa.aload_n (j := 3) d_Tk_behindToken_87 rfl ?_
        refine Wx.getR 9 2 d_Tk_behindToken_88 f_Tk_2 rfl fl_Tk_21 (s_10 hS (by decide)) (r_10_2 hS (by decide)) ?_
        refine Wa.iload_n (j := 5) d_Tk_behindToken_91 rfl ?_
        refine Wa.lload (j := 0) d_Tk_behindToken_92 rfl ?_
        have hc20 := hF.1
        have hF := hF.2
        have hlhc20 := vp_in_lt hc20
        refine Wa.last d_Tk_behindToken_94 w_13 (s_13 hS (by decide)) hc20 ?_
        refine Wa.aload_n (j := 3) d_Tk_behindToken_95 rfl ?_
        refine Wx.getR 9 3 d_Tk_behindToken_96 f_Tk_3 rfl fl_Tk_25 (s_10 hS (by decide)) (r_10_3 hS (by decide)) ?_
        refine Wa.iload_n (j := 5) d_Tk_behindToken_99 rfl ?_
        refine Wa.iconst (v := 0) d_Tk_behindToken_100 rfl ?_
        have hc21 := hF.1
        have hF := hF.2
        have hlhc21 := vp_in_lt hc21
        refine Wa.iast d_Tk_behindToken_101 w_14 (s_14 hS (by decide)) hc21 ?_
        refine Wa.aload (j := 1) d_Tk_behindToken_102 rfl ?_
        refine Wx.gets d_Tk_behindToken_104 st_51 sf_Tk_47 ?_
        refine Wx.acmp_ne (κ := 0) 114 (by decide) kz kz d_Tk_behindToken_107 (by decide) (fun hb => ?_) (fun hb => ?_)
        · have hF := hF.2 hb
          refine Wa.iload_n (j := 2) d_Tk_behindToken_114 rfl ?_
          exact Wx.reti d_Tk_behindToken_115 rfl hF
        · have hF := hF.1 hb
          refine Wa.iload_n (j := 4) d_Tk_behindToken_110 rfl ?_
          refine Wa.goto 115 d_Tk_behindToken_111 (by decide) ?_
          exact Wx.reti d_Tk_behindToken_115 rfl hF
  · have hF := hF.2 hb
    refine Wx.gets d_Tk_behindToken_18 st_50 sf_Tk_51 ?_
    refine Wa.astore (i := 6) (L' := [(6, .ref (hd 0 46)), (4, .long 0), (3, .int x1), (0, .ref (hd 10 0)), (1, .int x1), (2, .int x2)]) d_Tk_behindToken_21 (by decide) rfl ?_
    refine Wa.goto 72 d_Tk_behindToken_23 (by decide) ?_
    refine Wa.aload_n (j := 3) d_Tk_behindToken_72 rfl ?_
    refine Wx.getR 9 0 d_Tk_behindToken_73 f_Tk_0 rfl fl_Tk_11 (s_10 hS (by decide)) (r_10_0 hS (by decide)) ?_
    refine Wa.iload_n (j := 5) d_Tk_behindToken_76 rfl ?_
    refine Wa.aload (j := 0) d_Tk_behindToken_77 rfl ?_
    have hc22 := hF.1
    have hF := hF.2
    have hlhc22 := vp_in_lt hc22
    refine Wa.aast (t := 14) (q := E_Ki) d_Tk_behindToken_79 rfl w_11 (s_11 hS (by decide)) hc22 (s_0 hS (by decide)) ?_
    have hS : St (setR μ (hd 11 0) x2.toNatClampNeg (hd 0 46)) := se_11 (μ := μ) hS (by decide) (by decide)
    refine Wa.aload_n (j := 3) d_Tk_behindToken_80 rfl ?_
    refine Wx.getR 9 1 d_Tk_behindToken_81 f_Tk_1 rfl fl_Tk_17 (s_10 hS (by decide)) (r_10_1 hS (by decide)) ?_
    refine Wa.iload_n (j := 5) d_Tk_behindToken_84 rfl ?_
    refine Wa.iload_n (j := 4) d_Tk_behindToken_85 rfl ?_
    have hc23 := hF.1
    have hF := hF.2
    have hlhc23 := vp_in_lt hc23
    refine Wa.iast d_Tk_behindToken_86 w_12 (s_12 hS (by decide)) hc23 ?_
    refine Wa.aload_n (j := 3) d_Tk_behindToken_87 rfl ?_
    refine Wx.getR 9 2 d_Tk_behindToken_88 f_Tk_2 rfl fl_Tk_21 (s_10 hS (by decide)) (r_10_2 hS (by decide)) ?_
    refine Wa.iload_n (j := 5) d_Tk_behindToken_91 rfl ?_
    refine Wa.lload (j := 1) d_Tk_behindToken_92 rfl ?_
    have hc24 := hF.1
    have hF := hF.2
    have hlhc24 := vp_in_lt hc24
    refine Wa.last d_Tk_behindToken_94 w_13 (s_13 hS (by decide)) hc24 ?_
    refine Wa.aload_n (j := 3) d_Tk_behindToken_95 rfl ?_
    refine Wx.getR 9 3 d_Tk_behindToken_96 f_Tk_3 rfl fl_Tk_25 (s_10 hS (by decide)) (r_10_3 hS (by decide)) ?_
    refine Wa.iload_n (j := 5) d_Tk_behindToken_99 rfl ?_
    refine Wa.iconst (v := 0) d_Tk_behindToken_100 rfl ?_
    have hc25 := hF.1
    have hF := hF.2
    have hlhc25 := vp_in_lt hc25
    refine Wa.iast d_Tk_behindToken_101 w_14 (s_14 hS (by decide)) hc25 ?_
    refine Wa.aload (j := 0) d_Tk_behindToken_102 rfl ?_
    refine Wx.gets d_Tk_behindToken_104 st_51 sf_Tk_47 ?_
    refine Wx.acmp_ne (κ := 0) 114 (by decide) kz kz d_Tk_behindToken_107 (by decide) (fun hb => ?_) (fun hb => ?_)
    · have hF := hF.2 hb
      refine Wa.iload_n (j := 2) d_Tk_behindToken_114 rfl ?_
      exact Wx.reti d_Tk_behindToken_115 rfl hF
    · have hF := hF.1 hb
      refine Wa.iload_n (j := 4) d_Tk_behindToken_110 rfl ?_
      refine Wa.goto 115 d_Tk_behindToken_111 (by decide) ?_
      exact Wx.reti d_Tk_behindToken_115 rfl hF
theorem e_Tk_behindToken {d rc rs : Nat} {Q : Option Value → Mu → Prop} {μ : Mu} {x1 : Int32} {x2 : Int32} (hk : Wx K_Tk_behindToken d rc rs (fun r μ' => St μ' ∧ Q r μ') 0 [(0, .ref (hd 10 0)), (1, .int x1), (2, .int x2)] [] μ) : Cal K_Tk_behindToken d rc rs [.ref (hd 10 0), .int x1, .int x2] μ Q := Cal.of (by decide +kernel) rfl rfl (Nat.le_of_ble_eq_true rfl) rfl hk
set_option maxHeartbeats 4000000 in
set_option maxRecDepth 20000 in
theorem g_Tk_behindBlanks_0 {d rc rs : Nat} {Q : Option Value → Mu → Prop} {μ : Mu} {x1 : Int32} (hD : 1 ≤ d)  (hS : St μ)
    (hF : Wx K_Tk_behindBlanks d rc rs Q 2 [(0, .ref (hd 10 0)), (2, .int x1)] [] μ) : Wx K_Tk_behindBlanks d rc rs Q 0 [(0, .ref (hd 10 0)), (1, .int x1)] [] μ := by
  refine Wa.iload_n (j := 1) d_Tk_behindBlanks_0 rfl ?_
  refine Wa.istore_n (i := 2) (L' := [(2, .int x1), (0, .ref (hd 10 0)), (1, .int x1)]) d_Tk_behindBlanks_1 rfl (by decide) rfl ?_
  exact Wa.loc [1, 0] rfl hF
theorem e_Tk_behindBlanks {d rc rs : Nat} {Q : Option Value → Mu → Prop} {μ : Mu} {x1 : Int32} (hk : Wx K_Tk_behindBlanks d rc rs (fun r μ' => St μ' ∧ Q r μ') 0 [(0, .ref (hd 10 0)), (1, .int x1)] [] μ) : Cal K_Tk_behindBlanks d rc rs [.ref (hd 10 0), .int x1] μ Q := Cal.of (by decide +kernel) rfl rfl (Nat.le_of_ble_eq_true rfl) rfl hk
set_option maxHeartbeats 4000000 in
set_option maxRecDepth 20000 in
theorem g_Tk_behindBlanks_2 {d rc rs : Nat} {Q : Option Value → Mu → Prop} {μ : Mu} {x2 : Int32} (hD : 1 ≤ d)  (hS : St μ)
    (hF : (((mI μ (hd 10 0) 6) ≤ x2 → Q (some (.int x2)) μ) ∧ (¬ (mI μ (hd 10 0) 6) ≤ x2 → (Cal K_Tk_byteAt (d - 1) 0 0 [.ref (hd 10 0), .int x2] μ (fun r μ1 => ∃ y2, r = some (.int y2) ∧ ((y2 = 32 → Wx K_Tk_behindBlanks d rc rs Q 2 [(0, .ref (hd 10 0)), (2, .int (x2 + 1))] [] μ1) ∧ (¬ y2 = 32 → (Cal K_Tk_byteAt (d - 1) 0 0 [.ref (hd 10 0), .int x2] μ1 (fun r μ3 => ∃ y4, r = some (.int y4) ∧ ((y4 = 10 → Wx K_Tk_behindBlanks d rc rs Q 2 [(0, .ref (hd 10 0)), (2, .int (x2 + 1))] [] μ3) ∧ (¬ y4 = 10 → Q (some (.int x2)) μ3))))))))))) : Wx K_Tk_behindBlanks d rc rs Q 2 [(0, .ref (hd 10 0)), (2, .int x2)] [] μ := by
  refine Wa.iload_n (j := 1) d_Tk_behindBlanks_2 rfl ?_
  refine Wa.aload_n (j := 0) d_Tk_behindBlanks_3 rfl ?_
  refine Wx.getI 9 6 d_Tk_behindBlanks_4 f_Tk_6 fl_Tk_36 w_10 (s_10 hS (by decide)) ?_
  refine Wa.icmp_ge 36 d_Tk_behindBlanks_7 (by decide) (fun hb => ?_) (fun hb => ?_)
  · have hF := hF.1 hb
    refine Wa.iload_n (j := 1) d_Tk_behindBlanks_36 rfl ?_
    exact Wx.reti d_Tk_behindBlanks_37 rfl hF
  · have hF := hF.2 hb
    refine Wa.aload_n (j := 0) d_Tk_behindBlanks_10 rfl ?_
    refine Wa.iload_n (j := 1) d_Tk_behindBlanks_11 rfl ?_
    refine Wx.cVi (q := E_Tk) (As := [.int x2]) 9 (d - 1) 0 0 _ d_Tk_behindBlanks_12 mok_Tk_byteAt vl_Tk_71 rfl rfl rfl (Nat.le_of_ble_eq_true rfl) (by omega) (Nat.zero_le _) (Nat.zero_le _) (s_10 hS (by decide)) hF (fun y2 μ1 hS hF => ?_)
    refine Wa.bipush (v := 32) d_Tk_behindBlanks_15 rfl ?_
    refine Wa.icmp_eq 30 d_Tk_behindBlanks_17 (by decide) (fun hb => ?_) (fun hb => ?_)
    · have hF := hF.1 hb
      refine Wa.iinc (i := 2) (j := 1) (v := (x2 + 1)) (L' := [(2, .int (x2 + 1)), (0, .ref (hd 10 0))]) d_Tk_behindBlanks_30 rfl rfl (by decide) rfl ?_
      refine Wa.goto 2 d_Tk_behindBlanks_33 (by decide) ?_
      exact Wa.loc [1, 0] rfl hF
    · have hF := hF.2 hb
      refine Wa.aload_n (j := 0) d_Tk_behindBlanks_20 rfl ?_
      refine Wa.iload_n (j := 1) d_Tk_behindBlanks_21 rfl ?_
      refine Wx.cVi (q := E_Tk) (As := [.int x2]) 9 (d - 1) 0 0 _ d_Tk_behindBlanks_22 mok_Tk_byteAt vl_Tk_71 rfl rfl rfl (Nat.le_of_ble_eq_true rfl) (by omega) (Nat.zero_le _) (Nat.zero_le _) (s_10 hS (by decide)) hF (fun y4 μ3 hS hF => ?_)
      refine Wa.bipush (v := 10) d_Tk_behindBlanks_25 rfl ?_
      refine Wa.icmp_ne 36 d_Tk_behindBlanks_27 (by decide) (fun hb => ?_) (fun hb => ?_)
      · have hF := hF.2 hb
        refine Wa.iload_n (j := 1) d_Tk_behindBlanks_36 rfl ?_
        exact Wx.reti d_Tk_behindBlanks_37 rfl hF
      · have hF := hF.1 hb
        refine Wa.iinc (i := 2) (j := 1) (v := (x2 + 1)) (L' := [(2, .int (x2 + 1)), (0, .ref (hd 10 0))]) d_Tk_behindBlanks_30 rfl rfl (by decide) rfl ?_
        refine Wa.goto 2 d_Tk_behindBlanks_33 (by decide) ?_
        exact Wa.loc [1, 0] rfl hF
set_option maxHeartbeats 4000000 in
set_option maxRecDepth 20000 in
theorem g_Tk_behindRun_0 {d rc rs : Nat} {Q : Option Value → Mu → Prop} {μ : Mu} {x1 : Int32} (hD : 1 ≤ d)  (hS : St μ)
    (hF : (Cal K_Tk_byteAt (d - 1) 0 0 [.ref (hd 10 0), .int x1] μ (fun r μ1 => ∃ y2, r = some (.int y2) ∧ (Cal K_Tk_isLetter (d - 1) 0 0 [.int y2] μ1 (fun r μ3 => ∃ y4, r = some (.int y4) ∧ ((y4 = 0 → (Cal K_Tk_isDigit (d - 1) 0 0 [.int y2] μ3 (fun r μ7 => ∃ y8, r = some (.int y8) ∧ ((y8 = 0 → (Cal K_Tk_symbolAt (d - 1) 0 0 [.ref (hd 10 0), .int x1] μ7 (fun r μ11 => ∃ y12, r = some (.ref (hd 0 y12)) ∧ y12 < 49 ∧ (Cal K_Str_length_8abf5 (d - 1) 0 0 [.ref (hd 1 (min y12 44))] μ11 (fun r μ15 => ∃ y16, r = some (.int y16) ∧ Q (some (.int (x1 + y16))) μ15))))) ∧ (¬ y8 = 0 → (Cal K_Tk_isLetter (d - 1) 0 0 [.int y2] μ7 (fun r μ9 => ∃ y10, r = some (.int y10) ∧ Wx K_Tk_behindRun d rc rs Q 42 [(0, .ref (hd 10 0)), (3, .int y10), (4, .int x1)] [] μ9))))))) ∧ (¬ y4 = 0 → (Cal K_Tk_isLetter (d - 1) 0 0 [.int y2] μ3 (fun r μ5 => ∃ y6, r = some (.int y6) ∧ Wx K_Tk_behindRun d rc rs Q 42 [(0, .ref (hd 10 0)), (3, .int y6), (4, .int x1)] [] μ5))))))))) : Wx K_Tk_behindRun d rc rs Q 0 [(0, .ref (hd 10 0)), (1, .int x1)] [] μ := by
  refine Wa.aload_n (j := 0) d_Tk_behindRun_0 rfl ?_
  refine Wa.iload_n (j := 1) d_Tk_behindRun_1 rfl ?_
  refine Wx.cVi (q := E_Tk) (As := [.int x1]) 9 (d - 1) 0 0 _ d_Tk_behindRun_2 mok_Tk_byteAt vl_Tk_71 rfl rfl rfl (Nat.le_of_ble_eq_true rfl) (by omega) (Nat.zero_le _) (Nat.zero_le _) (s_10 hS (by decide)) hF (fun y2 μ1 hS hF => ?_)
  refine Wa.istore_n (i := 2) (L' := [(2, .int y2), (0, .ref (hd 10 0)), (1, .int x1)]) d_Tk_behindRun_5 rfl (by decide) rfl ?_
  refine Wa.iload_n (j := 0) d_Tk_behindRun_6 rfl ?_
  refine Wx.cSi (As := [.int y2]) (d - 1) 0 0 _ d_Tk_behindRun_7 mok_Tk_isLetter sl_Tk_74 rfl rfl (Nat.le_of_ble_eq_true rfl) (by omega) (Nat.zero_le _) (Nat.zero_le _) hF (fun y4 μ3 hS hF => ?_)
  refine Wa.if_ne 34 d_Tk_behindRun_10 (by decide) (fun hb => ?_) (fun hb => ?_)
  · have hF := hF.2 hb
    refine Wa.iload_n (j := 0) d_Tk_behindRun_34 rfl ?_
    refine Wx.cSi (As := [.int y2]) (d - 1) 0 0 _ d_Tk_behindRun_35 mok_Tk_isLetter sl_Tk_74 rfl rfl (Nat.le_of_ble_eq_true rfl) (by omega) (Nat.zero_le _) (Nat.zero_le _) hF (fun y6 μ5 hS hF => ?_)
    refine Wa.istore_n (i := 3) (L' := [(3, .int y6), (2, .int y2), (0, .ref (hd 10 0)), (1, .int x1)]) d_Tk_behindRun_38 rfl (by decide) rfl ?_
    refine Wa.iload_n (j := 3) d_Tk_behindRun_39 rfl ?_
    refine Wa.istore (i := 4) (L' := [(4, .int x1), (3, .int y6), (2, .int y2), (0, .ref (hd 10 0)), (1, .int x1)]) d_Tk_behindRun_40 (by decide) rfl ?_
    exact Wa.loc [3, 1, 0] rfl hF
  · have hF := hF.1 hb
    refine Wa.iload_n (j := 0) d_Tk_behindRun_13 rfl ?_
    refine Wx.cSi (As := [.int y2]) (d - 1) 0 0 _ d_Tk_behindRun_14 mok_Tk_isDigit sl_Tk_78 rfl rfl (Nat.le_of_ble_eq_true rfl) (by omega) (Nat.zero_le _) (Nat.zero_le _) hF (fun y8 μ7 hS hF => ?_)
    refine Wa.if_ne 34 d_Tk_behindRun_17 (by decide) (fun hb => ?_) (fun hb => ?_)
    · have hF := hF.2 hb
      refine Wa.iload_n (j := 0) d_Tk_behindRun_34 rfl ?_
      refine Wx.cSi (As := [.int y2]) (d - 1) 0 0 _ d_Tk_behindRun_35 mok_Tk_isLetter sl_Tk_74 rfl rfl (Nat.le_of_ble_eq_true rfl) (by omega) (Nat.zero_le _) (Nat.zero_le _) hF (fun y10 μ9 hS hF => ?_)
      refine Wa.istore_n (i := 3) (L' := [(3, .int y10), (2, .int y2), (0, .ref (hd 10 0)), (1, .int x1)]) d_Tk_behindRun_38 rfl (by decide) rfl ?_
      refine Wa.iload_n (j := 3) d_Tk_behindRun_39 rfl ?_
      refine Wa.istore (i := 4) (L' := [(4, .int x1), (3, .int y10), (2, .int y2), (0, .ref (hd 10 0)), (1, .int x1)]) d_Tk_behindRun_40 (by decide) rfl ?_
      exact Wa.loc [3, 1, 0] rfl hF
    · have hF := hF.1 hb
      refine Wa.iload_n (j := 2) d_Tk_behindRun_20 rfl ?_
      refine Wa.aload_n (j := 1) d_Tk_behindRun_21 rfl ?_
      refine Wa.iload_n (j := 2) d_Tk_behindRun_22 rfl ?_
      refine Wx.cVr (q := E_Tk) (As := [.int x1]) 9 (d - 1) 0 0 _ d_Tk_behindRun_23 mok_Tk_symbolAt vl_Tk_81 rfl rfl rfl (Nat.le_of_ble_eq_true rfl) (by omega) (Nat.zero_le _) (Nat.zero_le _) (s_10 hS (by decide)) hF (fun y12 μ11 hS hy13 hF => ?_)
      have hb14 : min y12 44 < 46 := by omega
      refine Wx.getR 14 1 d_Tk_behindRun_26 f_Ki_1 rfl fl_Tk_85 (s_0 hS hy13) (kk_0 hy13) ?_
      refine Wx.cVi (q := E_Str) (As := []) 15 (d - 1) 0 0 _ d_Tk_behindRun_29 mok_Str_length_8abf5 vl_Tk_89 rfl rfl rfl (Nat.le_of_ble_eq_true rfl) (by omega) (Nat.zero_le _) (Nat.zero_le _) (s_1 hS hb14) hF (fun y16 μ15 hS hF => ?_)
      refine Wa.iadd d_Tk_behindRun_32 ?_
      exact Wx.reti d_Tk_behindRun_33 rfl hF
theorem e_Tk_behindRun {d rc rs : Nat} {Q : Option Value → Mu → Prop} {μ : Mu} {x1 : Int32} (hk : Wx K_Tk_behindRun d rc rs (fun r μ' => St μ' ∧ Q r μ') 0 [(0, .ref (hd 10 0)), (1, .int x1)] [] μ) : Cal K_Tk_behindRun d rc rs [.ref (hd 10 0), .int x1] μ Q := Cal.of (by decide +kernel) rfl rfl (Nat.le_of_ble_eq_true rfl) rfl hk
set_option maxHeartbeats 4000000 in
set_option maxRecDepth 20000 in
theorem g_Tk_behindRun_42 {d rc rs : Nat} {Q : Option Value → Mu → Prop} {μ : Mu} {x3 : Int32} {x4 : Int32} (hD : 1 ≤ d)  (hS : St μ)
    (hF : (((mI μ (hd 10 0) 6) ≤ x4 → Q (some (.int x4)) μ) ∧ (¬ (mI μ (hd 10 0) 6) ≤ x4 → (Cal K_Tk_byteAt (d - 1) 0 0 [.ref (hd 10 0), .int x4] μ (fun r μ1 => ∃ y2, r = some (.int y2) ∧ (Cal K_Tk_isDigit (d - 1) 0 0 [.int y2] μ1 (fun r μ3 => ∃ y4, r = some (.int y4) ∧ ((y4 = 0 → ((x3 = 0 → Q (some (.int x4)) μ3) ∧ (¬ x3 = 0 → (Cal K_Tk_byteAt (d - 1) 0 0 [.ref (hd 10 0), .int x4] μ3 (fun r μ5 => ∃ y6, r = some (.int y6) ∧ (Cal K_Tk_isLetter (d - 1) 0 0 [.int y6] μ5 (fun r μ7 => ∃ y8, r = some (.int y8) ∧ ((y8 = 0 → Q (some (.int x4)) μ7) ∧ (¬ y8 = 0 → Wx K_Tk_behindRun d rc rs Q 42 [(0, .ref (hd 10 0)), (3, .int x3), (4, .int (x4 + 1))] [] μ7))))))))) ∧ (¬ y4 = 0 → Wx K_Tk_behindRun d rc rs Q 42 [(0, .ref (hd 10 0)), (3, .int x3), (4, .int (x4 + 1))] [] μ3))))))))) : Wx K_Tk_behindRun d rc rs Q 42 [(0, .ref (hd 10 0)), (3, .int x3), (4, .int x4)] [] μ := by
  refine Wa.iload (j := 2) d_Tk_behindRun_42 rfl ?_
  refine Wa.aload_n (j := 0) d_Tk_behindRun_44 rfl ?_
  refine Wx.getI 9 6 d_Tk_behindRun_45 f_Tk_6 fl_Tk_36 w_10 (s_10 hS (by decide)) ?_
  refine Wa.icmp_ge 85 d_Tk_behindRun_48 (by decide) (fun hb => ?_) (fun hb => ?_)
  · have hF := hF.1 hb
    refine Wa.iload (j := 2) d_Tk_behindRun_85 rfl ?_
    exact Wx.reti d_Tk_behindRun_87 rfl hF
  · have hF := hF.2 hb
    refine Wa.aload_n (j := 0) d_Tk_behindRun_51 rfl ?_
    refine Wa.iload (j := 2) d_Tk_behindRun_52 rfl ?_
    refine Wx.cVi (q := E_Tk) (As := [.int x4]) 9 (d - 1) 0 0 _ d_Tk_behindRun_54 mok_Tk_byteAt vl_Tk_71 rfl rfl rfl (Nat.le_of_ble_eq_true rfl) (by omega) (Nat.zero_le _) (Nat.zero_le _) (s_10 hS (by decide)) hF (fun y2 μ1 hS hF => ?_)
    refine Wx.cSi (As := [.int y2]) (d - 1) 0 0 _ d_Tk_behindRun_57 mok_Tk_isDigit sl_Tk_78 rfl rfl (Nat.le_of_ble_eq_true rfl) (by omega) (Nat.zero_le _) (Nat.zero_le _) hF (fun y4 μ3 hS hF => ?_)
    refine Wa.if_ne 79 d_Tk_behindRun_60 (by decide) (fun hb => ?_) (fun hb => ?_)
    · have hF := hF.2 hb
      refine Wa.iinc (i := 4) (j := 2) (v := (x4 + 1)) (L' := [(4, .int (x4 + 1)), (0, .ref (hd 10 0)), (3, .int x3)]) d_Tk_behindRun_79 rfl rfl (by decide) rfl ?_
      refine Wa.goto 42 d_Tk_behindRun_82 (by decide) ?_
      exact Wa.loc [1, 2, 0] rfl hF
    · have hF := hF.1 hb
      refine Wa.iload_n (j := 1) d_Tk_behindRun_63 rfl ?_
      refine Wa.if_eq 85 d_Tk_behindRun_64 (by decide) (fun hb => ?_) (fun hb => ?_)
      · have hF := hF.1 hb
        refine Wa.iload (j := 2) d_Tk_behindRun_85 rfl ?_
        exact Wx.reti d_Tk_behindRun_87 rfl hF
      · have hF := hF.2 hb
        refine Wa.aload_n (j := 0) d_Tk_behindRun_67 rfl ?_
        refine Wa.iload (j := 2) d_Tk_behindRun_68 rfl ?_
        refine Wx.cVi (q := E_Tk) (As := [.int x4]) 9 (d - 1) 0 0 _ d_Tk_behindRun_70 mok_Tk_byteAt vl_Tk_71 rfl rfl rfl (Nat.le_of_ble_eq_true rfl) (by omega) (Nat.zero_le _) (Nat.zero_le _) (s_10 hS (by decide)) hF (fun y6 μ5 hS hF => ?_)
        refine Wx.cSi (As := [.int y6]) (d - 1) 0 0 _ d_Tk_behindRun_73 mok_Tk_isLetter sl_Tk_74 rfl rfl (Nat.le_of_ble_eq_true rfl) (by omega) (Nat.zero_le _) (Nat.zero_le _) hF (fun y8 μ7 hS hF => ?_)
        refine Wa.if_eq 85 d_Tk_behindRun_76 (by decide) (fun hb => ?_) (fun hb => ?_)
        · have hF := hF.1 hb
          refine Wa.iload (j := 2) d_Tk_behindRun_85 rfl ?_
          exact Wx.reti d_Tk_behindRun_87 rfl hF
        · have hF := hF.2 hb
          refine Wa.iinc (i := 4) (j := 2) (v := (x4 + 1)) (L' := [(4, .int (x4 + 1)), (0, .ref (hd 10 0)), (3, .int x3)]) d_Tk_behindRun_79 rfl rfl (by decide) rfl ?_
          refine Wa.goto 42 d_Tk_behindRun_82 (by decide) ?_
          exact Wa.loc [1, 2, 0] rfl hF
set_option maxHeartbeats 4000000 in
set_option maxRecDepth 20000 in
theorem g_Tk_kindOf_0 {d rc rs : Nat} {Q : Option Value → Mu → Prop} {μ : Mu} {x1 : Int32} {x2 : Int32} (hD : 1 ≤ d)  (hS : St μ)
    (hF : (Cal K_Tk_byteAt (d - 1) 0 0 [.ref (hd 10 0), .int x1] μ (fun r μ1 => ∃ y2, r = some (.int y2) ∧ (Cal K_Tk_isDigit (d - 1) 0 0 [.int y2] μ1 (fun r μ3 => ∃ y4, r = some (.int y4) ∧ ((y4 = 0 → (Cal K_Tk_isLetter (d - 1) 0 0 [.int y2] μ3 (fun r μ5 => ∃ y6, r = some (.int y6) ∧ ((y6 = 0 → (Cal K_Tk_symbolAt (d - 1) 0 0 [.ref (hd 10 0), .int x1] μ5 (fun r μ7 => ∃ y8, r = some (.ref (hd 0 y8)) ∧ y8 < 49 ∧ Q (some (.ref (hd 0 y8))) μ7))) ∧ (¬ y6 = 0 → (((x2 - x1) ≤ 10 → Wx K_Tk_kindOf d rc rs Q 69 [(0, .ref (hd 10 0)), (1, .int x1), (2, .int x2), (4, .ref (hd 4 0)), (5, .int (nI 49)), (6, .int 0)] [] μ5) ∧ (¬ (x2 - x1) ≤ 10 → Q (some (.ref (hd 0 47))) μ5))))))) ∧ (¬ y4 = 0 → (((x2 - x1) ≤ 6 → Q (some (.ref (hd 0 45))) μ3) ∧ (¬ (x2 - x1) ≤ 6 → Q (some (.ref (hd 0 47))) μ3))))))))) : Wx K_Tk_kindOf d rc rs Q 0 [(0, .ref (hd 10 0)), (1, .int x1), (2, .int x2)] [] μ := by
  refine Wa.aload_n (j := 0) d_Tk_kindOf_0 rfl ?_
  refine Wa.iload_n (j := 1) d_Tk_kindOf_1 rfl ?_
  refine Wx.cVi (q := E_Tk) (As := [.int x1]) 9 (d - 1) 0 0 _ d_Tk_kindOf_2 mok_Tk_byteAt vl_Tk_71 rfl rfl rfl (Nat.le_of_ble_eq_true rfl) (by omega) (Nat.zero_le _) (Nat.zero_le _) (s_10 hS (by decide)) hF (fun y2 μ1 hS hF => ?_)
  refine Wa.istore_n (i := 3) (L' := [(3, .int y2), (0, .ref (hd 10 0)), (1, .int x1), (2, .int x2)]) d_Tk_kindOf_5 rfl (by decide) rfl ?_
  refine Wa.iload_n (j := 0) d_Tk_kindOf_6 rfl ?_
  refine Wx.cSi (As := [.int y2]) (d - 1) 0 0 _ d_Tk_kindOf_7 mok_Tk_isDigit sl_Tk_78 rfl rfl (Nat.le_of_ble_eq_true rfl) (by omega) (Nat.zero_le _) (Nat.zero_le _) hF (fun y4 μ3 hS hF => ?_)
  refine Wa.if_eq 31 d_Tk_kindOf_10 (by decide) (fun hb => ?_) (fun hb => ?_)
  · have hF := hF.1 hb
    refine Wa.iload_n (j := 0) d_Tk_kindOf_31 rfl ?_
    refine Wx.cSi (As := [.int y2]) (d - 1) 0 0 _ d_Tk_kindOf_32 mok_Tk_isLetter sl_Tk_74 rfl rfl (Nat.le_of_ble_eq_true rfl) (by omega) (Nat.zero_le _) (Nat.zero_le _) hF (fun y6 μ5 hS hF => ?_)
    refine Wa.if_ne 44 d_Tk_kindOf_35 (by decide) (fun hb => ?_) (fun hb => ?_)
    · have hF := hF.2 hb
      refine Wa.iload_n (j := 3) d_Tk_kindOf_44 rfl ?_
      refine Wa.iload_n (j := 2) d_Tk_kindOf_45 rfl ?_
      refine Wa.isub d_Tk_kindOf_46 ?_
      refine Wa.bipush (v := 10) d_Tk_kindOf_47 rfl ?_
      refine Wa.icmp_le 56 d_Tk_kindOf_49 (by decide) (fun hb => ?_) (fun hb => ?_)
      · have hF := hF.1 hb
        refine Wx.gets d_Tk_kindOf_56 st_0 sf_Tk_94 ?_
        refine Wa.astore (i := 4) (L' := [(4, .ref (hd 4 0)), (3, .int y2), (0, .ref (hd 10 0)), (1, .int x1), (2, .int x2)]) d_Tk_kindOf_59 (by decide) rfl ?_
        refine Wa.aload (j := 0) d_Tk_kindOf_61 rfl ?_
        refine Wa.alen d_Tk_kindOf_63 (s_4 hS (by decide)) (by decide) ?_
        refine Wa.istore (i := 5) (L' := [(5, .int (nI 49)), (4, .ref (hd 4 0)), (3, .int y2), (0, .ref (hd 10 0)), (1, .int x1), (2, .int x2)]) d_Tk_kindOf_64 (by decide) rfl ?_
        refine Wa.iconst (v := 0) d_Tk_kindOf_66 rfl ?_
        refine Wa.istore (i := 6) (L' := [(6, .int 0), (5, .int (nI 49)), (4, .ref (hd 4 0)), (3, .int y2), (0, .ref (hd 10 0)), (1, .int x1), (2, .int x2)]) d_Tk_kindOf_67 (by decide) rfl ?_
        exact Wa.loc [4, 5, 6, 2, 1, 0] rfl hF
      · have hF := hF.2 hb
        refine Wx.gets d_Tk_kindOf_52 st_51 sf_Tk_47 ?_
        exact Wx.reta d_Tk_kindOf_55 rfl hF
    · have hF := hF.1 hb
      refine Wa.aload_n (j := 1) d_Tk_kindOf_38 rfl ?_
      refine Wa.iload_n (j := 2) d_Tk_kindOf_39 rfl ?_
      refine Wx.cVr (q := E_Tk) (As := [.int x1]) 9 (d - 1) 0 0 _ d_Tk_kindOf_40 mok_Tk_symbolAt vl_Tk_81 rfl rfl rfl (Nat.le_of_ble_eq_true rfl) (by omega) (Nat.zero_le _) (Nat.zero_le _) (s_10 hS (by decide)) hF (fun y8 μ7 hS hy9 hF => ?_)
      exact Wx.reta d_Tk_kindOf_43 rfl hF
  · have hF := hF.2 hb
    refine Wa.iload_n (j := 3) d_Tk_kindOf_13 rfl ?_
    refine Wa.iload_n (j := 2) d_Tk_kindOf_14 rfl ?_
    refine Wa.isub d_Tk_kindOf_15 ?_
    refine Wa.bipush (v := 6) d_Tk_kindOf_16 rfl ?_
    refine Wa.icmp_le 27 d_Tk_kindOf_18 (by decide) (fun hb => ?_) (fun hb => ?_)
    · have hF := hF.1 hb
      refine Wx.gets d_Tk_kindOf_27 st_49 sf_Tk_61 ?_
      exact Wx.reta d_Tk_kindOf_30 rfl hF
    · have hF := hF.2 hb
      refine Wx.gets d_Tk_kindOf_21 st_51 sf_Tk_47 ?_
      refine Wa.goto 30 d_Tk_kindOf_24 (by decide) ?_
      exact Wx.reta d_Tk_kindOf_30 rfl hF
theorem e_Tk_kindOf {d rc rs : Nat} {Q : Option Value → Mu → Prop} {μ : Mu} {x1 : Int32} {x2 : Int32} (hk : Wx K_Tk_kindOf d rc rs (fun r μ' => St μ' ∧ Q r μ') 0 [(0, .ref (hd 10 0)), (1, .int x1), (2, .int x2)] [] μ) : Cal K_Tk_kindOf d rc rs [.ref (hd 10 0), .int x1, .int x2] μ Q := Cal.of (by decide +kernel) rfl rfl (Nat.le_of_ble_eq_true rfl) rfl hk
set_option maxHeartbeats 4000000 in
set_option maxRecDepth 20000 in
theorem g_Tk_kindOf_69 {d rc rs : Nat} {Q : Option Value → Mu → Prop} {μ : Mu} {x1 : Int32} {x2 : Int32} {x5 : Int32} {x6 : Int32} (hD : 1 ≤ d)  (hS : St μ)
    (hF : ((x5 ≤ x6 → Q (some (.ref (hd 0 44))) μ) ∧ (¬ x5 ≤ x6 → (vp_in x6 49 ∧ (Cal K_Str_length_8abf5 (d - 1) 0 0 [.ref (hd 1 (min x6.toNatClampNeg 44))] μ (fun r μ3 => ∃ y4, r = some (.int y4) ∧ ((y4 = (x2 - x1) → (Cal K_Tk_standsAt (d - 1) 0 0 [.ref (hd 10 0), .int x1, .ref (hd 1 (min x6.toNatClampNeg 44))] μ3 (fun r μ6 => ∃ y7, r = some (.int y7) ∧ ((y7 = 0 → Wx K_Tk_kindOf d rc rs Q 69 [(0, .ref (hd 10 0)), (1, .int x1), (2, .int x2), (4, .ref (hd 4 0)), (5, .int x5), (6, .int (x6 + 1))] [] μ6) ∧ (¬ y7 = 0 → Q (some (.ref (hd 0 x6.toNatClampNeg))) μ6))))) ∧ (¬ y4 = (x2 - x1) → Wx K_Tk_kindOf d rc rs Q 69 [(0, .ref (hd 10 0)), (1, .int x1), (2, .int x2), (4, .ref (hd 4 0)), (5, .int x5), (6, .int (x6 + 1))] [] μ3)))))))) : Wx K_Tk_kindOf d rc rs Q 69 [(0, .ref (hd 10 0)), (1, .int x1), (2, .int x2), (4, .ref (hd 4 0)), (5, .int x5), (6, .int x6)] [] μ := by
  refine Wa.iload (j := 5) d_Tk_kindOf_69 rfl ?_
  refine Wa.iload (j := 4) d_Tk_kindOf_71 rfl ?_
  refine Wa.icmp_ge 119 d_Tk_kindOf_73 (by decide) (fun hb => ?_) (fun hb => ?_)
  · have hF := hF.1 hb
    refine Wx.gets d_Tk_kindOf_119 st_48 sf_Tk_101 ?_
    exact Wx.reta d_Tk_kindOf_122 rfl hF
  · have hF := hF.2 hb
    refine Wa.aload (j := 3) d_Tk_kindOf_76 rfl ?_
    refine Wa.iload (j := 5) d_Tk_kindOf_78 rfl ?_
    have hc1 := hF.1
    have hF := hF.2
    have hlhc1 := vp_in_lt hc1
    refine Wa.aald (t := 14) (q := E_Ki) d_Tk_kindOf_80 rfl (s_4 hS (by decide)) hc1 (kk_4 hlhc1) ?_
    refine Wa.astore (i := 7) (L' := [(7, .ref (hd 0 x6.toNatClampNeg)), (0, .ref (hd 10 0)), (1, .int x1), (2, .int x2), (4, .ref (hd 4 0)), (5, .int x5), (6, .int x6)]) d_Tk_kindOf_81 (by decide) rfl ?_
    refine Wa.aload (j := 0) d_Tk_kindOf_83 rfl ?_
    have hb2 : min x6.toNatClampNeg 44 < 46 := by omega
    refine Wx.getR 14 1 d_Tk_kindOf_85 f_Ki_1 rfl fl_Tk_85 (s_0 hS hlhc1) (kk_0 hlhc1) ?_
    refine Wx.cVi (q := E_Str) (As := []) 15 (d - 1) 0 0 _ d_Tk_kindOf_88 mok_Str_length_8abf5 vl_Tk_89 rfl rfl rfl (Nat.le_of_ble_eq_true rfl) (by omega) (Nat.zero_le _) (Nat.zero_le _) (s_1 hS hb2) hF (fun y4 μ3 hS hF => ?_)
    refine Wa.iload_n (j := 3) d_Tk_kindOf_91 rfl ?_
    refine Wa.iload_n (j := 2) d_Tk_kindOf_92 rfl ?_
    refine Wa.isub d_Tk_kindOf_93 ?_
    refine Wa.icmp_ne 113 d_Tk_kindOf_94 (by decide) (fun hb => ?_) (fun hb => ?_)
    · have hF := hF.2 hb
      refine Wa.iinc (i := 6) (j := 6) (v := (x6 + 1)) (L' := [(6, .int (x6 + 1)), (7, .ref (hd 0 x6.toNatClampNeg)), (0, .ref (hd 10 0)), (1, .int x1), (2, .int x2), (4, .ref (hd 4 0)), (5, .int x5)]) d_Tk_kindOf_113 rfl rfl (by decide) rfl ?_
      refine Wa.goto 69 d_Tk_kindOf_116 (by decide) ?_
      exact Wa.loc [2, 3, 4, 5, 6, 0] rfl hF
    · have hF := hF.1 hb
      refine Wa.aload_n (j := 1) d_Tk_kindOf_97 rfl ?_
      refine Wa.iload_n (j := 2) d_Tk_kindOf_98 rfl ?_
      refine Wa.aload (j := 0) d_Tk_kindOf_99 rfl ?_
      have hb5 : min x6.toNatClampNeg 44 < 46 := by omega
      refine Wx.getR 14 1 d_Tk_kindOf_101 f_Ki_1 rfl fl_Tk_85 (s_0 hS hlhc1) (kk_0 hlhc1) ?_
      refine Wx.cVi (q := E_Tk) (As := [.int x1, .ref (hd 1 (min x6.toNatClampNeg 44))]) 9 (d - 1) 0 0 _ d_Tk_kindOf_104 mok_Tk_standsAt vl_Tk_97 rfl rfl rfl (Nat.le_of_ble_eq_true rfl) (by omega) (Nat.zero_le _) (Nat.zero_le _) (s_10 hS (by decide)) hF (fun y7 μ6 hS hF => ?_)
      refine Wa.if_eq 113 d_Tk_kindOf_107 (by decide) (fun hb => ?_) (fun hb => ?_)
      · have hF := hF.1 hb
        refine Wa.iinc (i := 6) (j := 6) (v := (x6 + 1)) (L' := [(6, .int (x6 + 1)), (7, .ref (hd 0 x6.toNatClampNeg)), (0, .ref (hd 10 0)), (1, .int x1), (2, .int x2), (4, .ref (hd 4 0)), (5, .int x5)]) d_Tk_kindOf_113 rfl rfl (by decide) rfl ?_
        refine Wa.goto 69 d_Tk_kindOf_116 (by decide) ?_
        exact Wa.loc [2, 3, 4, 5, 6, 0] rfl hF
      · have hF := hF.2 hb
        refine Wa.aload (j := 0) d_Tk_kindOf_110 rfl ?_
        exact Wx.reta d_Tk_kindOf_112 rfl hF
set_option maxHeartbeats 4000000 in
set_option maxRecDepth 20000 in
theorem g_Tk_symbolAt_0 {d rc rs : Nat} {Q : Option Value → Mu → Prop} {μ : Mu} {x1 : Int32} (hD : 1 ≤ d)  (hS : St μ)
    (hF : Wx K_Tk_symbolAt d rc rs Q 15 [(0, .ref (hd 10 0)), (1, .int x1), (2, .ref (hd 0 47)), (3, .ref (hd 4 0)), (4, .int (nI 49)), (5, .int 0)] [] μ) : Wx K_Tk_symbolAt d rc rs Q 0 [(0, .ref (hd 10 0)), (1, .int x1)] [] μ := by
  refine Wx.gets d_Tk_symbolAt_0 st_51 sf_Tk_47 ?_
  refine Wa.astore_n (i := 2) (L' := [(2, .ref (hd 0 47)), (0, .ref (hd 10 0)), (1, .int x1)]) d_Tk_symbolAt_3 rfl (by decide) rfl ?_
  refine Wx.gets d_Tk_symbolAt_4 st_0 sf_Tk_94 ?_
  refine Wa.astore_n (i := 3) (L' := [(3, .ref (hd 4 0)), (2, .ref (hd 0 47)), (0, .ref (hd 10 0)), (1, .int x1)]) d_Tk_symbolAt_7 rfl (by decide) rfl ?_
  refine Wa.aload_n (j := 0) d_Tk_symbolAt_8 rfl ?_
  refine Wa.alen d_Tk_symbolAt_9 (s_4 hS (by decide)) (by decide) ?_
  refine Wa.istore (i := 4) (L' := [(4, .int (nI 49)), (3, .ref (hd 4 0)), (2, .ref (hd 0 47)), (0, .ref (hd 10 0)), (1, .int x1)]) d_Tk_symbolAt_10 (by decide) rfl ?_
  refine Wa.iconst (v := 0) d_Tk_symbolAt_12 rfl ?_
  refine Wa.istore (i := 5) (L' := [(5, .int 0), (4, .int (nI 49)), (3, .ref (hd 4 0)), (2, .ref (hd 0 47)), (0, .ref (hd 10 0)), (1, .int x1)]) d_Tk_symbolAt_13 (by decide) rfl ?_
  exact Wa.loc [4, 5, 3, 2, 1, 0] rfl hF
theorem e_Tk_symbolAt {d rc rs : Nat} {Q : Option Value → Mu → Prop} {μ : Mu} {x1 : Int32} (hk : Wx K_Tk_symbolAt d rc rs (fun r μ' => St μ' ∧ Q r μ') 0 [(0, .ref (hd 10 0)), (1, .int x1)] [] μ) : Cal K_Tk_symbolAt d rc rs [.ref (hd 10 0), .int x1] μ Q := Cal.of (by decide +kernel) rfl rfl (Nat.le_of_ble_eq_true rfl) rfl hk
set_option maxHeartbeats 4000000 in
set_option maxRecDepth 20000 in
theorem g_Tk_symbolAt_15 {d rc rs : Nat} {Q : Option Value → Mu → Prop} {μ : Mu} {x1 : Int32} {i2 : Nat} {x4 : Int32} {x5 : Int32} (hD : 1 ≤ d) (h2 : i2 < 49) (hS : St μ)
    (hF : ((x4 ≤ x5 → Q (some (.ref (hd 0 i2))) μ) ∧ (¬ x4 ≤ x5 → (vp_in x5 49 ∧ (Cal K_Str_length_8abf5 (d - 1) 0 0 [.ref (hd 1 (min x5.toNatClampNeg 44))] μ (fun r μ3 => ∃ y4, r = some (.int y4) ∧ (Cal K_Str_length_8abf5 (d - 1) 0 0 [.ref (hd 1 (min i2 44))] μ3 (fun r μ6 => ∃ y7, r = some (.int y7) ∧ ((y4 ≤ y7 → Wx K_Tk_symbolAt d rc rs Q 15 [(0, .ref (hd 10 0)), (1, .int x1), (2, .ref (hd 0 i2)), (3, .ref (hd 4 0)), (4, .int x4), (5, .int (x5 + 1))] [] μ6) ∧ (¬ y4 ≤ y7 → (Cal K_Tk_standsAt (d - 1) 0 0 [.ref (hd 10 0), .int x1, .ref (hd 1 (min x5.toNatClampNeg 44))] μ6 (fun r μ9 => ∃ y10, r = some (.int y10) ∧ ((y10 = 0 → Wx K_Tk_symbolAt d rc rs Q 15 [(0, .ref (hd 10 0)), (1, .int x1), (2, .ref (hd 0 i2)), (3, .ref (hd 4 0)), (4, .int x4), (5, .int (x5 + 1))] [] μ9) ∧ (¬ y10 = 0 → Wx K_Tk_symbolAt d rc rs Q 15 [(0, .ref (hd 10 0)), (1, .int x1), (2, .ref (hd 0 x5.toNatClampNeg)), (3, .ref (hd 4 0)), (4, .int x4), (5, .int (x5 + 1))] [] μ9)))))))))))))) : Wx K_Tk_symbolAt d rc rs Q 15 [(0, .ref (hd 10 0)), (1, .int x1), (2, .ref (hd 0 i2)), (3, .ref (hd 4 0)), (4, .int x4), (5, .int x5)] [] μ := by
  refine Wa.iload (j := 5) d_Tk_symbolAt_15 rfl ?_
  refine Wa.iload (j := 4) d_Tk_symbolAt_17 rfl ?_
  refine Wa.icmp_ge 68 d_Tk_symbolAt_19 (by decide) (fun hb => ?_) (fun hb => ?_)
  · have hF := hF.1 hb
    refine Wa.aload_n (j := 2) d_Tk_symbolAt_68 rfl ?_
    exact Wx.reta d_Tk_symbolAt_69 rfl hF
  · have hF := hF.2 hb
    refine Wa.aload_n (j := 3) d_Tk_symbolAt_22 rfl ?_
    refine Wa.iload (j := 5) d_Tk_symbolAt_23 rfl ?_
    have hc1 := hF.1
    have hF := hF.2
    have hlhc1 := vp_in_lt hc1
    refine Wa.aald (t := 14) (q := E_Ki) d_Tk_symbolAt_25 rfl (s_4 hS (by decide)) hc1 (kk_4 hlhc1) ?_
    refine Wa.astore (i := 6) (L' := [(6, .ref (hd 0 x5.toNatClampNeg)), (0, .ref (hd 10 0)), (1, .int x1), (2, .ref (hd 0 i2)), (3, .ref (hd 4 0)), (4, .int x4), (5, .int x5)]) d_Tk_symbolAt_26 (by decide) rfl ?_
    refine Wa.aload (j := 0) d_Tk_symbolAt_28 rfl ?_
    have hb2 : min x5.toNatClampNeg 44 < 46 := by omega
    refine Wx.getR 14 1 d_Tk_symbolAt_30 f_Ki_1 rfl fl_Tk_85 (s_0 hS hlhc1) (kk_0 hlhc1) ?_
    refine Wx.cVi (q := E_Str) (As := []) 15 (d - 1) 0 0 _ d_Tk_symbolAt_33 mok_Str_length_8abf5 vl_Tk_89 rfl rfl rfl (Nat.le_of_ble_eq_true rfl) (by omega) (Nat.zero_le _) (Nat.zero_le _) (s_1 hS hb2) hF (fun y4 μ3 hS hF => ?_)
    refine Wa.aload_n (j := 3) d_Tk_symbolAt_36 rfl ?_
    have hb5 : min i2 44 < 46 := by omega
    refine Wx.getR 14 1 d_Tk_symbolAt_37 f_Ki_1 rfl fl_Tk_85 (s_0 hS h2) (kk_0 h2) ?_
    refine Wx.cVi (q := E_Str) (As := []) 15 (d - 1) 0 0 _ d_Tk_symbolAt_40 mok_Str_length_8abf5 vl_Tk_89 rfl rfl rfl (Nat.le_of_ble_eq_true rfl) (by omega) (Nat.zero_le _) (Nat.zero_le _) (s_1 hS hb5) hF (fun y7 μ6 hS hF => ?_)
    refine Wa.icmp_le 62 d_Tk_symbolAt_43 (by decide) (fun hb => ?_) (fun hb => ?_)
    · have hF := hF.1 hb
      refine Wa.iinc (i := 5) (j := 6) (v := (x5 + 1)) (L' := [(5, .int (x5 + 1)), (6, .ref (hd 0 x5.toNatClampNeg)), (0, .ref (hd 10 0)), (1, .int x1), (2, .ref (hd 0 i2)), (3, .ref (hd 4 0)), (4, .int x4)]) d_Tk_symbolAt_62 rfl rfl (by decide) rfl ?_
      refine Wa.goto 15 d_Tk_symbolAt_65 (by decide) ?_
      exact Wa.loc [2, 3, 4, 5, 6, 0] rfl hF
    · have hF := hF.2 hb
      refine Wa.aload_n (j := 1) d_Tk_symbolAt_46 rfl ?_
      refine Wa.iload_n (j := 2) d_Tk_symbolAt_47 rfl ?_
      refine Wa.aload (j := 0) d_Tk_symbolAt_48 rfl ?_
      have hb8 : min x5.toNatClampNeg 44 < 46 := by omega
      refine Wx.getR 14 1 d_Tk_symbolAt_50 f_Ki_1 rfl fl_Tk_85 (s_0 hS hlhc1) (kk_0 hlhc1) ?_
      refine Wx.cVi (q := E_Tk) (As := [.int x1, .ref (hd 1 (min x5.toNatClampNeg 44))]) 9 (d - 1) 0 0 _ d_Tk_symbolAt_53 mok_Tk_standsAt vl_Tk_97 rfl rfl rfl (Nat.le_of_ble_eq_true rfl) (by omega) (Nat.zero_le _) (Nat.zero_le _) (s_10 hS (by decide)) hF (fun y10 μ9 hS hF => ?_)
      refine Wa.if_eq 62 d_Tk_symbolAt_56 (by decide) (fun hb => ?_) (fun hb => ?_)
      · have hF := hF.1 hb
        refine Wa.iinc (i := 5) (j := 6) (v := (x5 + 1)) (L' := [(5, .int (x5 + 1)), (6, .ref (hd 0 x5.toNatClampNeg)), (0, .ref (hd 10 0)), (1, .int x1), (2, .ref (hd 0 i2)), (3, .ref (hd 4 0)), (4, .int x4)]) d_Tk_symbolAt_62 rfl rfl (by decide) rfl ?_
        refine Wa.goto 15 d_Tk_symbolAt_65 (by decide) ?_
        exact Wa.loc [2, 3, 4, 5, 6, 0] rfl hF
      · have hF := hF.2 hb
        refine Wa.aload (j := 0) d_Tk_symbolAt_59 rfl ?_
        refine Wa.astore_n (i := 2) (L' := [(2, .ref (hd 0 x5.toNatClampNeg)), (6, .ref (hd 0 x5.toNatClampNeg)), (0, .ref (hd 10 0)), (1, .int x1), (3, .ref (hd 4 0)), (4, .int x4), (5, .int x5)]) d_Tk_symbolAt_61 rfl (by decide) rfl ?_
        refine Wa.iinc (i := 5) (j := 6) (v := (x5 + 1)) (L' := [(5, .int (x5 + 1)), (2, .ref (hd 0 x5.toNatClampNeg)), (6, .ref (hd 0 x5.toNatClampNeg)), (0, .ref (hd 10 0)), (1, .int x1), (3, .ref (hd 4 0)), (4, .int x4)]) d_Tk_symbolAt_62 rfl rfl (by decide) rfl ?_
        refine Wa.goto 15 d_Tk_symbolAt_65 (by decide) ?_
        exact Wa.loc [3, 4, 1, 5, 6, 0] rfl hF
set_option maxHeartbeats 4000000 in
set_option maxRecDepth 20000 in
theorem g_Tk_standsAt_0 {d rc rs : Nat} {Q : Option Value → Mu → Prop} {μ : Mu} {x1 : Int32} {i2 : Nat} (hD : 1 ≤ d) (h2 : i2 < 46) (hS : St μ)
    (hF : (Cal K_Str_length_8abf5 (d - 1) 0 0 [.ref (hd 1 i2)] μ (fun r μ1 => ∃ y2, r = some (.int y2) ∧ (((x1 + y2) ≤ (mI μ1 (hd 10 0) 6) → Wx K_Tk_standsAt d rc rs Q 17 [(0, .ref (hd 10 0)), (1, .int x1), (2, .ref (hd 1 i2)), (3, .int 0)] [] μ1) ∧ (¬ (x1 + y2) ≤ (mI μ1 (hd 10 0) 6) → Q (some (.int 0)) μ1))))) : Wx K_Tk_standsAt d rc rs Q 0 [(0, .ref (hd 10 0)), (1, .int x1), (2, .ref (hd 1 i2))] [] μ := by
  refine Wa.iload_n (j := 1) d_Tk_standsAt_0 rfl ?_
  refine Wa.aload_n (j := 2) d_Tk_standsAt_1 rfl ?_
  refine Wx.cVi (q := E_Str) (As := []) 15 (d - 1) 0 0 _ d_Tk_standsAt_2 mok_Str_length_8abf5 vl_Tk_89 rfl rfl rfl (Nat.le_of_ble_eq_true rfl) (by omega) (Nat.zero_le _) (Nat.zero_le _) (s_1 hS h2) hF (fun y2 μ1 hS hF => ?_)
  refine Wa.iadd d_Tk_standsAt_5 ?_
  refine Wa.aload_n (j := 0) d_Tk_standsAt_6 rfl ?_
  refine Wx.getI 9 6 d_Tk_standsAt_7 f_Tk_6 fl_Tk_36 w_10 (s_10 hS (by decide)) ?_
  refine Wa.icmp_le 15 d_Tk_standsAt_10 (by decide) (fun hb => ?_) (fun hb => ?_)
  · have hF := hF.1 hb
    refine Wa.iconst (v := 0) d_Tk_standsAt_15 rfl ?_
    refine Wa.istore_n (i := 3) (L' := [(3, .int 0), (0, .ref (hd 10 0)), (1, .int x1), (2, .ref (hd 1 i2))]) d_Tk_standsAt_16 rfl (by decide) rfl ?_
    exact Wa.loc [1, 2, 3, 0] rfl hF
  · have hF := hF.2 hb
    refine Wa.iconst (v := 0) d_Tk_standsAt_13 rfl ?_
    exact Wx.retz d_Tk_standsAt_14 rfl (Or.inl rfl) hF
theorem e_Tk_standsAt {d rc rs : Nat} {Q : Option Value → Mu → Prop} {μ : Mu} {x1 : Int32} {i2 : Nat} (hk : Wx K_Tk_standsAt d rc rs (fun r μ' => St μ' ∧ Q r μ') 0 [(0, .ref (hd 10 0)), (1, .int x1), (2, .ref (hd 1 i2))] [] μ) : Cal K_Tk_standsAt d rc rs [.ref (hd 10 0), .int x1, .ref (hd 1 i2)] μ Q := Cal.of (by decide +kernel) rfl rfl (Nat.le_of_ble_eq_true rfl) rfl hk
set_option maxHeartbeats 4000000 in
set_option maxRecDepth 20000 in
theorem g_Tk_standsAt_17 {d rc rs : Nat} {Q : Option Value → Mu → Prop} {μ : Mu} {x1 : Int32} {i2 : Nat} {x3 : Int32} (hD : 1 ≤ d) (h2 : i2 < 46) (hS : St μ)
    (hF : (Cal K_Str_length_8abf5 (d - 1) 0 0 [.ref (hd 1 i2)] μ (fun r μ1 => ∃ y2, r = some (.int y2) ∧ ((y2 ≤ x3 → Q (some (.int 1)) μ1) ∧ (¬ y2 ≤ x3 → (Cal K_Tk_byteAt (d - 1) 0 0 [.ref (hd 10 0), .int (x1 + x3)] μ1 (fun r μ3 => ∃ y4, r = some (.int y4) ∧ (Cal K_Str_charAt_5068e (d - 1) 0 0 [.ref (hd 1 i2), .int x3] μ3 (fun r μ5 => ∃ y6, r = some (.int y6) ∧ ((y4 = y6 → Wx K_Tk_standsAt d rc rs Q 17 [(0, .ref (hd 10 0)), (1, .int x1), (2, .ref (hd 1 i2)), (3, .int (x3 + 1))] [] μ5) ∧ (¬ y4 = y6 → Q (some (.int 0)) μ5))))))))))) : Wx K_Tk_standsAt d rc rs Q 17 [(0, .ref (hd 10 0)), (1, .int x1), (2, .ref (hd 1 i2)), (3, .int x3)] [] μ := by
  refine Wa.iload_n (j := 3) d_Tk_standsAt_17 rfl ?_
  refine Wa.aload_n (j := 2) d_Tk_standsAt_18 rfl ?_
  refine Wx.cVi (q := E_Str) (As := []) 15 (d - 1) 0 0 _ d_Tk_standsAt_19 mok_Str_length_8abf5 vl_Tk_89 rfl rfl rfl (Nat.le_of_ble_eq_true rfl) (by omega) (Nat.zero_le _) (Nat.zero_le _) (s_1 hS h2) hF (fun y2 μ1 hS hF => ?_)
  refine Wa.icmp_ge 48 d_Tk_standsAt_22 (by decide) (fun hb => ?_) (fun hb => ?_)
  · have hF := hF.1 hb
    refine Wa.iconst (v := 1) d_Tk_standsAt_48 rfl ?_
    exact Wx.retz d_Tk_standsAt_49 rfl (Or.inr rfl) hF
  · have hF := hF.2 hb
    refine Wa.aload_n (j := 0) d_Tk_standsAt_25 rfl ?_
    refine Wa.iload_n (j := 1) d_Tk_standsAt_26 rfl ?_
    refine Wa.iload_n (j := 3) d_Tk_standsAt_27 rfl ?_
    refine Wa.iadd d_Tk_standsAt_28 ?_
    refine Wx.cVi (q := E_Tk) (As := [.int (x1 + x3)]) 9 (d - 1) 0 0 _ d_Tk_standsAt_29 mok_Tk_byteAt vl_Tk_71 rfl rfl rfl (Nat.le_of_ble_eq_true rfl) (by omega) (Nat.zero_le _) (Nat.zero_le _) (s_10 hS (by decide)) hF (fun y4 μ3 hS hF => ?_)
    refine Wa.aload_n (j := 2) d_Tk_standsAt_32 rfl ?_
    refine Wa.iload_n (j := 3) d_Tk_standsAt_33 rfl ?_
    refine Wx.cVi (q := E_Str) (As := [.int x3]) 15 (d - 1) 0 0 _ d_Tk_standsAt_34 mok_Str_charAt_5068e vl_Tk_104 rfl rfl rfl (Nat.le_of_ble_eq_true rfl) (by omega) (Nat.zero_le _) (Nat.zero_le _) (s_1 hS h2) hF (fun y6 μ5 hS hF => ?_)
    refine Wa.icmp_eq 42 d_Tk_standsAt_37 (by decide) (fun hb => ?_) (fun hb => ?_)
    · have hF := hF.1 hb
      refine Wa.iinc (i := 3) (j := 3) (v := (x3 + 1)) (L' := [(3, .int (x3 + 1)), (0, .ref (hd 10 0)), (1, .int x1), (2, .ref (hd 1 i2))]) d_Tk_standsAt_42 rfl rfl (by decide) rfl ?_
      refine Wa.goto 17 d_Tk_standsAt_45 (by decide) ?_
      exact Wa.loc [1, 2, 3, 0] rfl hF
    · have hF := hF.2 hb
      refine Wa.iconst (v := 0) d_Tk_standsAt_40 rfl ?_
      exact Wx.retz d_Tk_standsAt_41 rfl (Or.inl rfl) hF
set_option maxHeartbeats 4000000 in
set_option maxRecDepth 20000 in
theorem g_Tk_numberWorth_0 {d rc rs : Nat} {Q : Option Value → Mu → Prop} {μ : Mu} {x1 : Int32} {x2 : Int32} (hD : 1 ≤ d)  (hS : St μ)
    (hF : Wx K_Tk_numberWorth d rc rs Q 5 [(0, .ref (hd 10 0)), (2, .int x2), (3, .long 0), (5, .int x1)] [] μ) : Wx K_Tk_numberWorth d rc rs Q 0 [(0, .ref (hd 10 0)), (1, .int x1), (2, .int x2)] [] μ := by
  refine Wa.lconst (v := 0) d_Tk_numberWorth_0 rfl ?_
  refine Wa.lstore_n (i := 3) (L' := [(3, .long 0), (0, .ref (hd 10 0)), (1, .int x1), (2, .int x2)]) d_Tk_numberWorth_1 rfl (by decide) rfl ?_
  refine Wa.iload_n (j := 2) d_Tk_numberWorth_2 rfl ?_
  refine Wa.istore (i := 5) (L' := [(5, .int x1), (3, .long 0), (0, .ref (hd 10 0)), (1, .int x1), (2, .int x2)]) d_Tk_numberWorth_3 (by decide) rfl ?_
  exact Wa.loc [2, 4, 1, 0] rfl hF
theorem e_Tk_numberWorth {d rc rs : Nat} {Q : Option Value → Mu → Prop} {μ : Mu} {x1 : Int32} {x2 : Int32} (hk : Wx K_Tk_numberWorth d rc rs (fun r μ' => St μ' ∧ Q r μ') 0 [(0, .ref (hd 10 0)), (1, .int x1), (2, .int x2)] [] μ) : Cal K_Tk_numberWorth d rc rs [.ref (hd 10 0), .int x1, .int x2] μ Q := Cal.of (by decide +kernel) rfl rfl (Nat.le_of_ble_eq_true rfl) rfl hk
set_option maxHeartbeats 4000000 in
set_option maxRecDepth 20000 in
theorem g_Tk_numberWorth_5 {d rc rs : Nat} {Q : Option Value → Mu → Prop} {μ : Mu} {x2 : Int32} {x3 : Int64} {x5 : Int32} (hD : 1 ≤ d)  (hS : St μ)
    (hF : ((x2 ≤ x5 → Q (some (.long x3)) μ) ∧ (¬ x2 ≤ x5 → (Cal K_Tk_byteAt (d - 1) 0 0 [.ref (hd 10 0), .int x5] μ (fun r μ1 => ∃ y2, r = some (.int y2) ∧ Wx K_Tk_numberWorth d rc rs Q 5 [(0, .ref (hd 10 0)), (2, .int x2), (3, .long ((x3 * 10) + (y2 - (48 : Int32)).toInt64)), (5, .int (x5 + 1))] [] μ1))))) : Wx K_Tk_numberWorth d rc rs Q 5 [(0, .ref (hd 10 0)), (2, .int x2), (3, .long x3), (5, .int x5)] [] μ := by
  refine Wa.iload (j := 3) d_Tk_numberWorth_5 rfl ?_
  refine Wa.iload_n (j := 1) d_Tk_numberWorth_7 rfl ?_
  refine Wa.icmp_ge 34 d_Tk_numberWorth_8 (by decide) (fun hb => ?_) (fun hb => ?_)
  · have hF := hF.1 hb
    refine Wa.lload_n (j := 2) d_Tk_numberWorth_34 rfl ?_
    exact Wx.retl d_Tk_numberWorth_35 rfl hF
  · have hF := hF.2 hb
    refine Wa.lload_n (j := 2) d_Tk_numberWorth_11 rfl ?_
    refine Wa.ldc2 d_Tk_numberWorth_12 k_Tk_108 ?_
    refine Wa.lmul d_Tk_numberWorth_15 ?_
    refine Wa.aload_n (j := 0) d_Tk_numberWorth_16 rfl ?_
    refine Wa.iload (j := 3) d_Tk_numberWorth_17 rfl ?_
    refine Wx.cVi (q := E_Tk) (As := [.int x5]) 9 (d - 1) 0 0 _ d_Tk_numberWorth_19 mok_Tk_byteAt vl_Tk_71 rfl rfl rfl (Nat.le_of_ble_eq_true rfl) (by omega) (Nat.zero_le _) (Nat.zero_le _) (s_10 hS (by decide)) hF (fun y2 μ1 hS hF => ?_)
    refine Wa.bipush (v := 48) d_Tk_numberWorth_22 rfl ?_
    refine Wa.isub d_Tk_numberWorth_24 ?_
    refine Wa.i2l d_Tk_numberWorth_25 ?_
    refine Wa.ladd d_Tk_numberWorth_26 ?_
    refine Wa.lstore_n (i := 3) (L' := [(3, .long ((x3 * 10) + (y2 - (48 : Int32)).toInt64)), (0, .ref (hd 10 0)), (2, .int x2), (5, .int x5)]) d_Tk_numberWorth_27 rfl (by decide) rfl ?_
    refine Wa.iinc (i := 5) (j := 3) (v := (x5 + 1)) (L' := [(5, .int (x5 + 1)), (3, .long ((x3 * 10) + (y2 - (48 : Int32)).toInt64)), (0, .ref (hd 10 0)), (2, .int x2)]) d_Tk_numberWorth_28 rfl rfl (by decide) rfl ?_
    refine Wa.goto 5 d_Tk_numberWorth_31 (by decide) ?_
    exact Wa.loc [2, 3, 1, 0] rfl hF
set_option maxHeartbeats 4000000 in
set_option maxRecDepth 20000 in
theorem g_Tk_nameWorth_0 {d rc rs : Nat} {Q : Option Value → Mu → Prop} {μ : Mu} {x1 : Int32} {x2 : Int32} (hD : 1 ≤ d)  (hS : St μ)
    (hF : Wx K_Tk_nameWorth d rc rs Q 5 [(0, .ref (hd 10 0)), (2, .int x2), (3, .long 0), (5, .int x1)] [] μ) : Wx K_Tk_nameWorth d rc rs Q 0 [(0, .ref (hd 10 0)), (1, .int x1), (2, .int x2)] [] μ := by
  refine Wa.lconst (v := 0) d_Tk_nameWorth_0 rfl ?_
  refine Wa.lstore_n (i := 3) (L' := [(3, .long 0), (0, .ref (hd 10 0)), (1, .int x1), (2, .int x2)]) d_Tk_nameWorth_1 rfl (by decide) rfl ?_
  refine Wa.iload_n (j := 2) d_Tk_nameWorth_2 rfl ?_
  refine Wa.istore (i := 5) (L' := [(5, .int x1), (3, .long 0), (0, .ref (hd 10 0)), (1, .int x1), (2, .int x2)]) d_Tk_nameWorth_3 (by decide) rfl ?_
  exact Wa.loc [2, 4, 1, 0] rfl hF
theorem e_Tk_nameWorth {d rc rs : Nat} {Q : Option Value → Mu → Prop} {μ : Mu} {x1 : Int32} {x2 : Int32} (hk : Wx K_Tk_nameWorth d rc rs (fun r μ' => St μ' ∧ Q r μ') 0 [(0, .ref (hd 10 0)), (1, .int x1), (2, .int x2)] [] μ) : Cal K_Tk_nameWorth d rc rs [.ref (hd 10 0), .int x1, .int x2] μ Q := Cal.of (by decide +kernel) rfl rfl (Nat.le_of_ble_eq_true rfl) rfl hk
set_option maxHeartbeats 4000000 in
set_option maxRecDepth 20000 in
theorem g_Tk_nameWorth_5 {d rc rs : Nat} {Q : Option Value → Mu → Prop} {μ : Mu} {x2 : Int32} {x3 : Int64} {x5 : Int32} (hD : 1 ≤ d)  (hS : St μ)
    (hF : ((x2 ≤ x5 → Q (some (.long x3)) μ) ∧ (¬ x2 ≤ x5 → (Cal K_Tk_byteAt (d - 1) 0 0 [.ref (hd 10 0), .int x5] μ (fun r μ1 => ∃ y2, r = some (.int y2) ∧ (Cal K_Tk_isLetter (d - 1) 0 0 [.int y2] μ1 (fun r μ3 => ∃ y4, r = some (.int y4) ∧ ((y4 = 0 → Wx K_Tk_nameWorth d rc rs Q 5 [(0, .ref (hd 10 0)), (2, .int x2), (3, .long ((x3 * 37) + ((y2 - (48 : Int32)) + (27 : Int32)).toInt64)), (5, .int (x5 + 1))] [] μ3) ∧ (¬ y4 = 0 → Wx K_Tk_nameWorth d rc rs Q 5 [(0, .ref (hd 10 0)), (2, .int x2), (3, .long ((x3 * 37) + ((y2 - (97 : Int32)) + (1 : Int32)).toInt64)), (5, .int (x5 + 1))] [] μ3))))))))) : Wx K_Tk_nameWorth d rc rs Q 5 [(0, .ref (hd 10 0)), (2, .int x2), (3, .long x3), (5, .int x5)] [] μ := by
  refine Wa.iload (j := 3) d_Tk_nameWorth_5 rfl ?_
  refine Wa.iload_n (j := 1) d_Tk_nameWorth_7 rfl ?_
  refine Wa.icmp_ge 59 d_Tk_nameWorth_8 (by decide) (fun hb => ?_) (fun hb => ?_)
  · have hF := hF.1 hb
    refine Wa.lload_n (j := 2) d_Tk_nameWorth_59 rfl ?_
    exact Wx.retl d_Tk_nameWorth_60 rfl hF
  · have hF := hF.2 hb
    refine Wa.aload_n (j := 0) d_Tk_nameWorth_11 rfl ?_
    refine Wa.iload (j := 3) d_Tk_nameWorth_12 rfl ?_
    refine Wx.cVi (q := E_Tk) (As := [.int x5]) 9 (d - 1) 0 0 _ d_Tk_nameWorth_14 mok_Tk_byteAt vl_Tk_71 rfl rfl rfl (Nat.le_of_ble_eq_true rfl) (by omega) (Nat.zero_le _) (Nat.zero_le _) (s_10 hS (by decide)) hF (fun y2 μ1 hS hF => ?_)
    refine Wa.istore (i := 6) (L' := [(6, .int y2), (0, .ref (hd 10 0)), (2, .int x2), (3, .long x3), (5, .int x5)]) d_Tk_nameWorth_17 (by decide) rfl ?_
    refine Wa.lload_n (j := 3) d_Tk_nameWorth_19 rfl ?_
    refine Wa.ldc2 d_Tk_nameWorth_20 k_Tk_110 ?_
    refine Wa.lmul d_Tk_nameWorth_23 ?_
    refine Wa.iload (j := 0) d_Tk_nameWorth_24 rfl ?_
    refine Wx.cSi (As := [.int y2]) (d - 1) 0 0 _ d_Tk_nameWorth_26 mok_Tk_isLetter sl_Tk_74 rfl rfl (Nat.le_of_ble_eq_true rfl) (by omega) (Nat.zero_le _) (Nat.zero_le _) hF (fun y4 μ3 hS hF => ?_)
    refine Wa.if_eq 42 d_Tk_nameWorth_29 (by decide) (fun hb => ?_) (fun hb => ?_)
    · have hF := hF.1 hb
      refine Wa.iload (j := 0) d_Tk_nameWorth_42 rfl ?_
      refine Wa.bipush (v := 48) d_Tk_nameWorth_44 rfl ?_
      refine Wa.isub d_Tk_nameWorth_46 ?_
      refine Wa.bipush (v := 27) d_Tk_nameWorth_47 rfl ?_
      refine Wa.iadd d_Tk_nameWorth_49 ?_
      refine Wa.i2l d_Tk_nameWorth_50 ?_
      refine Wa.ladd d_Tk_nameWorth_51 ?_
      refine Wa.lstore_n (i := 3) (L' := [(3, .long ((x3 * 37) + ((y2 - (48 : Int32)) + (27 : Int32)).toInt64)), (6, .int y2), (0, .ref (hd 10 0)), (2, .int x2), (5, .int x5)]) d_Tk_nameWorth_52 rfl (by decide) rfl ?_
      refine Wa.iinc (i := 5) (j := 4) (v := (x5 + 1)) (L' := [(5, .int (x5 + 1)), (3, .long ((x3 * 37) + ((y2 - (48 : Int32)) + (27 : Int32)).toInt64)), (6, .int y2), (0, .ref (hd 10 0)), (2, .int x2)]) d_Tk_nameWorth_53 rfl rfl (by decide) rfl ?_
      refine Wa.goto 5 d_Tk_nameWorth_56 (by decide) ?_
      exact Wa.loc [3, 4, 1, 0] rfl hF
    · have hF := hF.2 hb
      refine Wa.iload (j := 0) d_Tk_nameWorth_32 rfl ?_
      refine Wa.bipush (v := 97) d_Tk_nameWorth_34 rfl ?_
      refine Wa.isub d_Tk_nameWorth_36 ?_
      refine Wa.iconst (v := 1) d_Tk_nameWorth_37 rfl ?_
      refine Wa.iadd d_Tk_nameWorth_38 ?_
      refine Wa.goto 50 d_Tk_nameWorth_39 (by decide) ?_
      refine Wa.i2l d_Tk_nameWorth_50 ?_
      refine Wa.ladd d_Tk_nameWorth_51 ?_
      refine Wa.lstore_n (i := 3) (L' := [(3, .long ((x3 * 37) + ((y2 - (97 : Int32)) + (1 : Int32)).toInt64)), (6, .int y2), (0, .ref (hd 10 0)), (2, .int x2), (5, .int x5)]) d_Tk_nameWorth_52 rfl (by decide) rfl ?_
      refine Wa.iinc (i := 5) (j := 4) (v := (x5 + 1)) (L' := [(5, .int (x5 + 1)), (3, .long ((x3 * 37) + ((y2 - (97 : Int32)) + (1 : Int32)).toInt64)), (6, .int y2), (0, .ref (hd 10 0)), (2, .int x2)]) d_Tk_nameWorth_53 rfl rfl (by decide) rfl ?_
      refine Wa.goto 5 d_Tk_nameWorth_56 (by decide) ?_
      exact Wa.loc [3, 4, 1, 0] rfl hF
set_option maxHeartbeats 4000000 in
set_option maxRecDepth 20000 in
theorem g_Tk_byteAt_0 {d rc rs : Nat} {Q : Option Value → Mu → Prop} {μ : Mu} {x1 : Int32} (hD : 1 ≤ d)  (hS : St μ)
    (hF : ((x1 < 0 → Q (some (.int 0)) μ) ∧ (¬ x1 < 0 → (((mI μ (hd 10 0) 6) ≤ x1 → Q (some (.int 0)) μ) ∧ (¬ (mI μ (hd 10 0) 6) ≤ x1 → (((nI (if (px μ (hd 10 0) 5) = 0 then 2000 else 0)) ≤ x1 → Q (some (.int 0)) μ) ∧ (¬ (nI (if (px μ (hd 10 0) 5) = 0 then 2000 else 0)) ≤ x1 → (vp_in x1 (if (px μ (hd 10 0) 5) = 0 then 2000 else 0) ∧ Q (some (.int (mI μ (hd 9 (px μ (hd 10 0) 5)) x1.toNatClampNeg))) μ)))))))) : Wx K_Tk_byteAt d rc rs Q 0 [(0, .ref (hd 10 0)), (1, .int x1)] [] μ := by
  refine Wa.iload_n (j := 1) d_Tk_byteAt_0 rfl ?_
  refine Wa.if_lt 30 d_Tk_byteAt_1 (by decide) (fun hb => ?_) (fun hb => ?_)
  · have hF := hF.1 hb
    refine Wa.iconst (v := 0) d_Tk_byteAt_30 rfl ?_
    exact Wx.reti d_Tk_byteAt_31 rfl hF
  · have hF := hF.2 hb
    refine Wa.iload_n (j := 1) d_Tk_byteAt_4 rfl ?_
    refine Wa.aload_n (j := 0) d_Tk_byteAt_5 rfl ?_
    refine Wx.getI 9 6 d_Tk_byteAt_6 f_Tk_6 fl_Tk_36 w_10 (s_10 hS (by decide)) ?_
    refine Wa.icmp_ge 30 d_Tk_byteAt_9 (by decide) (fun hb => ?_) (fun hb => ?_)
    · have hF := hF.1 hb
      refine Wa.iconst (v := 0) d_Tk_byteAt_30 rfl ?_
      exact Wx.reti d_Tk_byteAt_31 rfl hF
    · have hF := hF.2 hb
      refine Wa.iload_n (j := 1) d_Tk_byteAt_12 rfl ?_
      refine Wa.aload_n (j := 0) d_Tk_byteAt_13 rfl ?_
      have hp1 := d_10_5 (i := 0) hS (by decide)
      refine Wx.getR 9 5 d_Tk_byteAt_14 f_Tk_5 rfl fl_Tk_32 (s_10 hS (by decide)) (hp1.1) ?_
      refine Wa.alen d_Tk_byteAt_17 (s_9 hS hp1.2) (by decide) ?_
      refine Wa.icmp_ge 30 d_Tk_byteAt_18 (by decide) (fun hb => ?_) (fun hb => ?_)
      · have hF := hF.1 hb
        refine Wa.iconst (v := 0) d_Tk_byteAt_30 rfl ?_
        exact Wx.reti d_Tk_byteAt_31 rfl hF
      · have hF := hF.2 hb
        refine Wa.aload_n (j := 0) d_Tk_byteAt_21 rfl ?_
        have hp2 := d_10_5 (i := 0) hS (by decide)
        refine Wx.getR 9 5 d_Tk_byteAt_22 f_Tk_5 rfl fl_Tk_32 (s_10 hS (by decide)) (hp2.1) ?_
        refine Wa.iload_n (j := 1) d_Tk_byteAt_25 rfl ?_
        have hc3 := hF.1
        have hF := hF.2
        have hlhc3 := vp_in_lt hc3
        refine Wx.bald d_Tk_byteAt_26 w_9 (s_9 hS hp2.2) hc3 ?_
        refine Wa.goto 31 d_Tk_byteAt_27 (by decide) ?_
        exact Wx.reti d_Tk_byteAt_31 rfl hF
theorem e_Tk_byteAt {d rc rs : Nat} {Q : Option Value → Mu → Prop} {μ : Mu} {x1 : Int32} (hk : Wx K_Tk_byteAt d rc rs (fun r μ' => St μ' ∧ Q r μ') 0 [(0, .ref (hd 10 0)), (1, .int x1)] [] μ) : Cal K_Tk_byteAt d rc rs [.ref (hd 10 0), .int x1] μ Q := Cal.of (by decide +kernel) rfl rfl (Nat.le_of_ble_eq_true rfl) rfl hk
set_option maxHeartbeats 4000000 in
set_option maxRecDepth 20000 in
theorem g_Tk_isLetter_0 {d rc rs : Nat} {Q : Option Value → Mu → Prop} {μ : Mu} {x0 : Int32} (hD : 1 ≤ d)  (hS : St μ)
    (hF : ((x0 < 97 → Q (some (.int 0)) μ) ∧ (¬ x0 < 97 → ((122 < x0 → Q (some (.int 0)) μ) ∧ (¬ 122 < x0 → Q (some (.int 1)) μ))))) : Wx K_Tk_isLetter d rc rs Q 0 [(0, .int x0)] [] μ := by
  refine Wa.iload_n (j := 0) d_Tk_isLetter_0 rfl ?_
  refine Wa.bipush (v := 97) d_Tk_isLetter_1 rfl ?_
  refine Wa.icmp_lt 16 d_Tk_isLetter_3 (by decide) (fun hb => ?_) (fun hb => ?_)
  · have hF := hF.1 hb
    refine Wa.iconst (v := 0) d_Tk_isLetter_16 rfl ?_
    exact Wx.retz d_Tk_isLetter_17 rfl (Or.inl rfl) hF
  · have hF := hF.2 hb
    refine Wa.iload_n (j := 0) d_Tk_isLetter_6 rfl ?_
    refine Wa.bipush (v := 122) d_Tk_isLetter_7 rfl ?_
    refine Wa.icmp_gt 16 d_Tk_isLetter_9 (by decide) (fun hb => ?_) (fun hb => ?_)
    · have hF := hF.1 hb
      refine Wa.iconst (v := 0) d_Tk_isLetter_16 rfl ?_
      exact Wx.retz d_Tk_isLetter_17 rfl (Or.inl rfl) hF
    · have hF := hF.2 hb
      refine Wa.iconst (v := 1) d_Tk_isLetter_12 rfl ?_
      refine Wa.goto 17 d_Tk_isLetter_13 (by decide) ?_
      exact Wx.retz d_Tk_isLetter_17 rfl (Or.inr rfl) hF
theorem e_Tk_isLetter {d rc rs : Nat} {Q : Option Value → Mu → Prop} {μ : Mu} {x0 : Int32} (hk : Wx K_Tk_isLetter d rc rs (fun r μ' => St μ' ∧ Q r μ') 0 [(0, .int x0)] [] μ) : Cal K_Tk_isLetter d rc rs [.int x0] μ Q := Cal.of (by decide +kernel) rfl rfl (Nat.le_of_ble_eq_true rfl) rfl hk
set_option maxHeartbeats 4000000 in
set_option maxRecDepth 20000 in
theorem g_Tk_isDigit_0 {d rc rs : Nat} {Q : Option Value → Mu → Prop} {μ : Mu} {x0 : Int32} (hD : 1 ≤ d)  (hS : St μ)
    (hF : ((x0 < 48 → Q (some (.int 0)) μ) ∧ (¬ x0 < 48 → ((57 < x0 → Q (some (.int 0)) μ) ∧ (¬ 57 < x0 → Q (some (.int 1)) μ))))) : Wx K_Tk_isDigit d rc rs Q 0 [(0, .int x0)] [] μ := by
  refine Wa.iload_n (j := 0) d_Tk_isDigit_0 rfl ?_
  refine Wa.bipush (v := 48) d_Tk_isDigit_1 rfl ?_
  refine Wa.icmp_lt 16 d_Tk_isDigit_3 (by decide) (fun hb => ?_) (fun hb => ?_)
  · have hF := hF.1 hb
    refine Wa.iconst (v := 0) d_Tk_isDigit_16 rfl ?_
    exact Wx.retz d_Tk_isDigit_17 rfl (Or.inl rfl) hF
  · have hF := hF.2 hb
    refine Wa.iload_n (j := 0) d_Tk_isDigit_6 rfl ?_
    refine Wa.bipush (v := 57) d_Tk_isDigit_7 rfl ?_
    refine Wa.icmp_gt 16 d_Tk_isDigit_9 (by decide) (fun hb => ?_) (fun hb => ?_)
    · have hF := hF.1 hb
      refine Wa.iconst (v := 0) d_Tk_isDigit_16 rfl ?_
      exact Wx.retz d_Tk_isDigit_17 rfl (Or.inl rfl) hF
    · have hF := hF.2 hb
      refine Wa.iconst (v := 1) d_Tk_isDigit_12 rfl ?_
      refine Wa.goto 17 d_Tk_isDigit_13 (by decide) ?_
      exact Wx.retz d_Tk_isDigit_17 rfl (Or.inr rfl) hF
theorem e_Tk_isDigit {d rc rs : Nat} {Q : Option Value → Mu → Prop} {μ : Mu} {x0 : Int32} (hk : Wx K_Tk_isDigit d rc rs (fun r μ' => St μ' ∧ Q r μ') 0 [(0, .int x0)] [] μ) : Cal K_Tk_isDigit d rc rs [.int x0] μ Q := Cal.of (by decide +kernel) rfl rfl (Nat.le_of_ble_eq_true rfl) rfl hk
set_option maxHeartbeats 4000000 in
set_option maxRecDepth 20000 in
theorem g_Gr_firstMisfit_0 {d rc rs : Nat} {Q : Option Value → Mu → Prop} {μ : Mu} {i1 : Nat} (hD : 1 ≤ d) (h1 : i1 < 2) (hS : St μ)
    (hF : (Cal K_Tk_kindAt (d - 1) 0 0 [.ref (hd 10 0), .int 0] (setI (setR μ (hd 15 0) 1 (hd 18 i1)) (hd 15 0) 2 0) (fun r μ1 => ∃ y2, r = some (.ref (hd 0 y2)) ∧ y2 < 49 ∧ Wx K_Gr_firstMisfit d rc rs Q 24 [(0, .ref (hd 15 0)), (2, .int 0)] [] (setR μ1 (hd 15 0) 3 (hd 0 y2))))) : Wx K_Gr_firstMisfit d rc rs Q 0 [(0, .ref (hd 15 0)), (1, .ref (hd 18 i1))] [] μ := by
  refine Wa.aload_n (j := 0) d_Gr_firstMisfit_0 rfl ?_
  refine Wa.aload_n (j := 1) d_Gr_firstMisfit_1 rfl ?_
  refine Wx.putR 3 1 d_Gr_firstMisfit_2 f_Gr_1 rfl ok_Gr fl_Gr_28 (Or.inl rfl) w_15 (s_15 hS (by decide)) ?_
  have hS : St (setR μ (hd 15 0) 1 (hd 18 i1)) := sd_15_1 (μ := μ) hS (by decide) h1
  refine Wa.aload_n (j := 0) d_Gr_firstMisfit_5 rfl ?_
  refine Wa.iconst (v := 0) d_Gr_firstMisfit_6 rfl ?_
  refine Wx.putI 3 2 d_Gr_firstMisfit_7 f_Gr_2 ok_Gr fl_Gr_9 (Or.inl rfl) w_15 (s_15 hS (by decide)) ?_
  refine Wa.aload_n (j := 0) d_Gr_firstMisfit_10 rfl ?_
  refine Wa.aload_n (j := 0) d_Gr_firstMisfit_11 rfl ?_
  refine Wx.getR 3 0 d_Gr_firstMisfit_12 f_Gr_0 rfl fl_Gr_24 (s_15 hS (by decide)) (r_15_0 hS (by decide)) ?_
  refine Wa.iconst (v := 0) d_Gr_firstMisfit_15 rfl ?_
  refine Wx.cVr (q := E_Tk) (As := [.int 0]) 9 (d - 1) 0 0 _ d_Gr_firstMisfit_16 mok_Tk_kindAt vl_Gr_32 rfl rfl rfl (Nat.le_of_ble_eq_true rfl) (by omega) (Nat.zero_le _) (Nat.zero_le _) (s_10 hS (by decide)) hF (fun y2 μ1 hS hy3 hF => ?_)
  refine Wx.putR 3 3 d_Gr_firstMisfit_19 f_Gr_3 rfl ok_Gr fl_Gr_21 (Or.inl rfl) w_15 (s_15 hS (by decide)) ?_
  have hS : St (setR μ1 (hd 15 0) 3 (hd 0 y2)) := sd_15_3 (μ := μ1) hS (by decide) hy3
  refine Wa.iconst (v := 0) d_Gr_firstMisfit_22 rfl ?_
  refine Wa.istore_n (i := 2) (L' := [(2, .int 0), (0, .ref (hd 15 0)), (1, .ref (hd 18 i1))]) d_Gr_firstMisfit_23 rfl (by decide) rfl ?_
  exact Wa.loc [1, 0] rfl hF
theorem e_Gr_firstMisfit {d rc rs : Nat} {Q : Option Value → Mu → Prop} {μ : Mu} {i1 : Nat} (hk : Wx K_Gr_firstMisfit d rc rs (fun r μ' => St μ' ∧ Q r μ') 0 [(0, .ref (hd 15 0)), (1, .ref (hd 18 i1))] [] μ) : Cal K_Gr_firstMisfit d rc rs [.ref (hd 15 0), .ref (hd 18 i1)] μ Q := Cal.of (by decide +kernel) rfl rfl (Nat.le_of_ble_eq_true rfl) rfl hk
set_option maxHeartbeats 4000000 in
set_option maxRecDepth 20000 in
theorem g_Gr_firstMisfit_24 {d rc rs : Nat} {Q : Option Value → Mu → Prop} {μ : Mu} {x2 : Int32} (hD : 1 ≤ d)  (hS : St μ)
    (hF : ((400 ≤ x2 → (((px μ (hd 15 0) 3) = 46 → Q (some (.int (-1))) μ) ∧ (¬ (px μ (hd 15 0) 3) = 46 → Q (some (.int (mI μ (hd 15 0) 2))) μ))) ∧ (¬ 400 ≤ x2 → (((px μ (hd 15 0) 3) = 46 → (((px μ (hd 15 0) 3) = 46 → Q (some (.int (-1))) μ) ∧ (¬ (px μ (hd 15 0) 3) = 46 → Q (some (.int (mI μ (hd 15 0) 2))) μ))) ∧ (¬ (px μ (hd 15 0) 3) = 46 → (((px μ (hd 15 0) 3) = 47 → (((px μ (hd 15 0) 3) = 46 → Q (some (.int (-1))) μ) ∧ (¬ (px μ (hd 15 0) 3) = 46 → Q (some (.int (mI μ (hd 15 0) 2))) μ))) ∧ (¬ (px μ (hd 15 0) 3) = 47 → (Cal K_Gr_line (d - 1) 0 0 [.ref (hd 15 0)] μ (fun r μ6 => r = none ∧ (Cal K_Gr_take (d - 1) 0 0 [.ref (hd 15 0), .ref (hd 0 33)] μ6 (fun r μ7 => r = none ∧ Wx K_Gr_firstMisfit d rc rs Q 24 [(0, .ref (hd 15 0)), (2, .int (x2 + 1))] [] μ7))))))))))) : Wx K_Gr_firstMisfit d rc rs Q 24 [(0, .ref (hd 15 0)), (2, .int x2)] [] μ := by
  refine Wa.iload_n (j := 1) d_Gr_firstMisfit_24 rfl ?_
  refine Wa.sipush (v := 400) d_Gr_firstMisfit_25 rfl ?_
  refine Wa.icmp_ge 68 d_Gr_firstMisfit_28 (by decide) (fun hb => ?_) (fun hb => ?_)
  · have hF := hF.1 hb
    refine Wa.aload_n (j := 0) d_Gr_firstMisfit_68 rfl ?_
    have hp1 := d_15_3 (i := 0) hS (by decide)
    refine Wx.getR 3 3 d_Gr_firstMisfit_69 f_Gr_3 rfl fl_Gr_21 (s_15 hS (by decide)) (hp1.1) ?_
    refine Wx.gets d_Gr_firstMisfit_72 st_50 sf_Gr_38 ?_
    refine Wx.acmp_ne (κ := 0) 82 (by decide) kz kz d_Gr_firstMisfit_75 (by decide) (fun hb => ?_) (fun hb => ?_)
    · have hF := hF.2 hb
      refine Wa.aload_n (j := 0) d_Gr_firstMisfit_82 rfl ?_
      refine Wx.getI 3 2 d_Gr_firstMisfit_83 f_Gr_2 fl_Gr_9 w_15 (s_15 hS (by decide)) ?_
      exact Wx.reti d_Gr_firstMisfit_86 rfl hF
    · have hF := hF.1 hb
      refine Wa.iconst (v := (-1)) d_Gr_firstMisfit_78 rfl ?_
      refine Wa.goto 86 d_Gr_firstMisfit_79 (by decide) ?_
      exact Wx.reti d_Gr_firstMisfit_86 rfl hF
  · have hF := hF.2 hb
    refine Wa.aload_n (j := 0) d_Gr_firstMisfit_31 rfl ?_
    have hp2 := d_15_3 (i := 0) hS (by decide)
    refine Wx.getR 3 3 d_Gr_firstMisfit_32 f_Gr_3 rfl fl_Gr_21 (s_15 hS (by decide)) (hp2.1) ?_
    refine Wx.gets d_Gr_firstMisfit_35 st_50 sf_Gr_38 ?_
    refine Wx.acmp_eq (κ := 0) 68 (by decide) kz kz d_Gr_firstMisfit_38 (by decide) (fun hb => ?_) (fun hb => ?_)
    · have hF := hF.1 hb
      refine Wa.aload_n (j := 0) d_Gr_firstMisfit_68 rfl ?_
      have hp3 := d_15_3 (i := 0) hS (by decide)
      refine Wx.getR 3 3 d_Gr_firstMisfit_69 f_Gr_3 rfl fl_Gr_21 (s_15 hS (by decide)) (hp3.1) ?_
      refine Wx.gets d_Gr_firstMisfit_72 st_50 sf_Gr_38 ?_
      refine Wx.acmp_ne (κ := 0) 82 (by decide) kz kz d_Gr_firstMisfit_75 (by decide) (fun hb => ?_) (fun hb => ?_)
      · have hF := hF.2 hb
        refine Wa.aload_n (j := 0) d_Gr_firstMisfit_82 rfl ?_
        refine Wx.getI 3 2 d_Gr_firstMisfit_83 f_Gr_2 fl_Gr_9 w_15 (s_15 hS (by decide)) ?_
        exact Wx.reti d_Gr_firstMisfit_86 rfl hF
      · have hF := hF.1 hb
        refine Wa.iconst (v := (-1)) d_Gr_firstMisfit_78 rfl ?_
        refine Wa.goto 86 d_Gr_firstMisfit_79 (by decide) ?_
        exact Wx.reti d_Gr_firstMisfit_86 rfl hF
    · have hF := hF.2 hb
      refine Wa.aload_n (j := 0) d_Gr_firstMisfit_41 rfl ?_
      have hp4 := d_15_3 (i := 0) hS (by decide)
      refine Wx.getR 3 3 d_Gr_firstMisfit_42 f_Gr_3 rfl fl_Gr_21 (s_15 hS (by decide)) (hp4.1) ?_
      refine Wx.gets d_Gr_firstMisfit_45 st_51 sf_Gr_15 ?_
      refine Wx.acmp_eq (κ := 0) 68 (by decide) kz kz d_Gr_firstMisfit_48 (by decide) (fun hb => ?_) (fun hb => ?_)
      · have hF := hF.1 hb
        refine Wa.aload_n (j := 0) d_Gr_firstMisfit_68 rfl ?_
        have hp5 := d_15_3 (i := 0) hS (by decide)
        refine Wx.getR 3 3 d_Gr_firstMisfit_69 f_Gr_3 rfl fl_Gr_21 (s_15 hS (by decide)) (hp5.1) ?_
        refine Wx.gets d_Gr_firstMisfit_72 st_50 sf_Gr_38 ?_
        refine Wx.acmp_ne (κ := 0) 82 (by decide) kz kz d_Gr_firstMisfit_75 (by decide) (fun hb => ?_) (fun hb => ?_)
        · have hF := hF.2 hb
          refine Wa.aload_n (j := 0) d_Gr_firstMisfit_82 rfl ?_
          refine Wx.getI 3 2 d_Gr_firstMisfit_83 f_Gr_2 fl_Gr_9 w_15 (s_15 hS (by decide)) ?_
          exact Wx.reti d_Gr_firstMisfit_86 rfl hF
        · have hF := hF.1 hb
          refine Wa.iconst (v := (-1)) d_Gr_firstMisfit_78 rfl ?_
          refine Wa.goto 86 d_Gr_firstMisfit_79 (by decide) ?_
          exact Wx.reti d_Gr_firstMisfit_86 rfl hF
      · have hF := hF.2 hb
        refine Wa.aload_n (j := 0) d_Gr_firstMisfit_51 rfl ?_
        refine Wx.cVv (q := E_Gr) (As := []) 3 (d - 1) 0 0 _ d_Gr_firstMisfit_52 mok_Gr_line vl_Gr_41 rfl rfl rfl (Nat.le_of_ble_eq_true rfl) (by omega) (Nat.zero_le _) (Nat.zero_le _) (s_15 hS (by decide)) hF (fun μ6 hS hF => ?_)
        refine Wa.aload_n (j := 0) d_Gr_firstMisfit_55 rfl ?_
        refine Wx.gets d_Gr_firstMisfit_56 st_37 sf_Gr_44 ?_
        refine Wx.cVv (q := E_Gr) (As := [.ref (hd 0 33)]) 3 (d - 1) 0 0 _ d_Gr_firstMisfit_59 mok_Gr_take vl_Gr_47 rfl rfl rfl (Nat.le_of_ble_eq_true rfl) (by omega) (Nat.zero_le _) (Nat.zero_le _) (s_15 hS (by decide)) hF (fun μ7 hS hF => ?_)
        refine Wa.iinc (i := 2) (j := 1) (v := (x2 + 1)) (L' := [(2, .int (x2 + 1)), (0, .ref (hd 15 0))]) d_Gr_firstMisfit_62 rfl rfl (by decide) rfl ?_
        refine Wa.goto 24 d_Gr_firstMisfit_65 (by decide) ?_
        exact Wa.loc [1, 0] rfl hF
set_option maxHeartbeats 4000000 in
set_option maxRecDepth 20000 in
theorem g_Gr_line_0 {d rc rs : Nat} {Q : Option Value → Mu → Prop} {μ : Mu}  (hD : 1 ≤ d)  (hS : St μ)
    (hF : ((((swv (px μ (hd 15 0) 3)) = 1 ∨ (swv (px μ (hd 15 0) 3)) = 2) → (Cal K_Gr_take (d - 1) 0 0 [.ref (hd 15 0), .ref (hd 0 (px μ (hd 15 0) 3))] μ (fun r μ4 => r = none ∧ (Cal K_Gr_take (d - 1) 0 0 [.ref (hd 15 0), .ref (hd 0 44)] μ4 (fun r μ5 => r = none ∧ Q none μ5))))) ∧ (((swv (px μ (hd 15 0) 3)) = 3) → (Cal K_Gr_roadLine (d - 1) 0 0 [.ref (hd 15 0)] μ (fun r μ7 => r = none ∧ Q none μ7))) ∧ (((swv (px μ (hd 15 0) 3)) = 4 ∨ (swv (px μ (hd 15 0) 3)) = 5 ∨ (swv (px μ (hd 15 0) 3)) = 6 ∨ (swv (px μ (hd 15 0) 3)) = 7) → (Cal K_Pl_nextOrder (d - 1) 0 0 [.ref (hd 18 (px μ (hd 15 0) 1))] μ (fun r μ10 => ∃ y11, r = some (.ref (hd 26 y11)) ∧ y11 < 42 ∧ (Cal K_Gr_orderLine (d - 1) 0 0 [.ref (hd 15 0), .ref (hd 26 y11)] μ10 (fun r μ13 => r = none ∧ Q none μ13))))) ∧ (((swv (px μ (hd 15 0) 3)).toInt < 1 ∨ 7 < (swv (px μ (hd 15 0) 3)).toInt) → Q none (setR μ (hd 15 0) 3 (hd 0 47))))) : Wx K_Gr_line d rc rs Q 0 [(0, .ref (hd 15 0))] [] μ := by
  refine Wx.gets d_Gr_line_0 st_1 sf_Gr_51 ?_
  refine Wa.aload_n (j := 0) d_Gr_line_3 rfl ?_
  have hp1 := d_15_3 (i := 0) hS (by decide)
  refine Wx.getR 3 3 d_Gr_line_4 f_Gr_3 rfl fl_Gr_21 (s_15 hS (by decide)) (hp1.1) ?_
  refine Wx.ord hS d_Gr_line_7 ul_Gr_57 (Nat.le_of_ble_eq_true rfl) hD hp1.2 ?_
  refine Wx.swald hS d_Gr_line_10 hp1.2 ?_
  have k2 : ((swv (px μ (hd 15 0) 3)) = 1 ∨ (swv (px μ (hd 15 0) 3)) = 2) → Wx K_Gr_line d rc rs Q 52 [(0, .ref (hd 15 0))] [] μ := by
    intro hb
    have hF := hF.1 hb
    refine Wa.aload_n (j := 0) d_Gr_line_52 rfl ?_
    refine Wa.aload_n (j := 0) d_Gr_line_53 rfl ?_
    have hp3 := d_15_3 (i := 0) hS (by decide)
    refine Wx.getR 3 3 d_Gr_line_54 f_Gr_3 rfl fl_Gr_21 (s_15 hS (by decide)) (hp3.1) ?_
    refine Wx.cVv (q := E_Gr) (As := [.ref (hd 0 (px μ (hd 15 0) 3))]) 3 (d - 1) 0 0 _ d_Gr_line_57 mok_Gr_take vl_Gr_47 rfl rfl rfl (Nat.le_of_ble_eq_true rfl) (by omega) (Nat.zero_le _) (Nat.zero_le _) (s_15 hS (by decide)) hF (fun μ4 hS hF => ?_)
    refine Wa.aload_n (j := 0) d_Gr_line_60 rfl ?_
    refine Wx.gets d_Gr_line_61 st_48 sf_Gr_61 ?_
    refine Wx.cVv (q := E_Gr) (As := [.ref (hd 0 44)]) 3 (d - 1) 0 0 _ d_Gr_line_64 mok_Gr_take vl_Gr_47 rfl rfl rfl (Nat.le_of_ble_eq_true rfl) (by omega) (Nat.zero_le _) (Nat.zero_le _) (s_15 hS (by decide)) hF (fun μ5 hS hF => ?_)
    refine Wa.goto 98 d_Gr_line_67 (by decide) ?_
    exact Wx.retv d_Gr_line_98 rfl hF
  have k6 : ((swv (px μ (hd 15 0) 3)) = 3) → Wx K_Gr_line d rc rs Q 70 [(0, .ref (hd 15 0))] [] μ := by
    intro hb
    have hF := hF.2.1 hb
    refine Wa.aload_n (j := 0) d_Gr_line_70 rfl ?_
    refine Wx.cVv (q := E_Gr) (As := []) 3 (d - 1) 0 0 _ d_Gr_line_71 mok_Gr_roadLine vl_Gr_64 rfl rfl rfl (Nat.le_of_ble_eq_true rfl) (by omega) (Nat.zero_le _) (Nat.zero_le _) (s_15 hS (by decide)) hF (fun μ7 hS hF => ?_)
    refine Wa.goto 98 d_Gr_line_74 (by decide) ?_
    exact Wx.retv d_Gr_line_98 rfl hF
  have k8 : ((swv (px μ (hd 15 0) 3)) = 4 ∨ (swv (px μ (hd 15 0) 3)) = 5 ∨ (swv (px μ (hd 15 0) 3)) = 6 ∨ (swv (px μ (hd 15 0) 3)) = 7) → Wx K_Gr_line d rc rs Q 77 [(0, .ref (hd 15 0))] [] μ := by
    intro hb
    have hF := hF.2.2.1 hb
    refine Wa.aload_n (j := 0) d_Gr_line_77 rfl ?_
    refine Wa.aload_n (j := 0) d_Gr_line_78 rfl ?_
    have hp9 := d_15_1 (i := 0) hS (by decide)
    refine Wx.getR 3 1 d_Gr_line_79 f_Gr_1 rfl fl_Gr_28 (s_15 hS (by decide)) (hp9.1) ?_
    refine Wx.cVr (q := E_Pl) (As := []) 6 (d - 1) 0 0 _ d_Gr_line_82 mok_Pl_nextOrder vl_Gr_67 rfl rfl rfl (Nat.le_of_ble_eq_true rfl) (by omega) (Nat.zero_le _) (Nat.zero_le _) (s_18 hS hp9.2) hF (fun y11 μ10 hS hy12 hF => ?_)
    refine Wx.cVv (q := E_Gr) (As := [.ref (hd 26 y11)]) 3 (d - 1) 0 0 _ d_Gr_line_85 mok_Gr_orderLine vl_Gr_73 rfl rfl rfl (Nat.le_of_ble_eq_true rfl) (by omega) (Nat.zero_le _) (Nat.zero_le _) (s_15 hS (by decide)) hF (fun μ13 hS hF => ?_)
    refine Wa.goto 98 d_Gr_line_88 (by decide) ?_
    exact Wx.retv d_Gr_line_98 rfl hF
  have k14 : ((swv (px μ (hd 15 0) 3)).toInt < 1 ∨ 7 < (swv (px μ (hd 15 0) 3)).toInt) → Wx K_Gr_line d rc rs Q 91 [(0, .ref (hd 15 0))] [] μ := by
    intro hb
    have hF := hF.2.2.2 hb
    refine Wa.aload_n (j := 0) d_Gr_line_91 rfl ?_
    refine Wx.gets d_Gr_line_92 st_51 sf_Gr_15 ?_
    refine Wx.putR 3 3 d_Gr_line_95 f_Gr_3 rfl ok_Gr fl_Gr_21 (Or.inl rfl) w_15 (s_15 hS (by decide)) ?_
    have hS : St (setR μ (hd 15 0) 3 (hd 0 47)) := sd_15_3 (μ := μ) hS (by decide) (by decide)
    exact Wx.retv d_Gr_line_98 rfl hF
  rcases sw_1_7 (swv (px μ (hd 15 0) 3)) with hb | hb | hb | hb | hb | hb | hb | hb | hb
  · exact Wa.tabOut 91 d_Gr_line_11 (Or.inl hb) (by decide) (k14 (Or.inl hb))
  · exact Wa.tabOut 91 d_Gr_line_11 (Or.inr hb) (by decide) (k14 (Or.inr hb))
  · exact Wa.tabIn 52 d_Gr_line_11 (by rw [hb]; decide) (by rw [hb]; decide) (by rw [hb]; rfl) (by decide) (k2 (Or.inl hb))
  · exact Wa.tabIn 52 d_Gr_line_11 (by rw [hb]; decide) (by rw [hb]; decide) (by rw [hb]; rfl) (by decide) (k2 (Or.inr hb))
  · exact Wa.tabIn 70 d_Gr_line_11 (by rw [hb]; decide) (by rw [hb]; decide) (by rw [hb]; rfl) (by decide) (k6 hb)
  · exact Wa.tabIn 77 d_Gr_line_11 (by rw [hb]; decide) (by rw [hb]; decide) (by rw [hb]; rfl) (by decide) (k8 (Or.inl hb))
  · exact Wa.tabIn 77 d_Gr_line_11 (by rw [hb]; decide) (by rw [hb]; decide) (by rw [hb]; rfl) (by decide) (k8 (Or.inr (Or.inl hb)))
  · exact Wa.tabIn 77 d_Gr_line_11 (by rw [hb]; decide) (by rw [hb]; decide) (by rw [hb]; rfl) (by decide) (k8 (Or.inr (Or.inr (Or.inl hb))))
  · exact Wa.tabIn 77 d_Gr_line_11 (by rw [hb]; decide) (by rw [hb]; decide) (by rw [hb]; rfl) (by decide) (k8 (Or.inr (Or.inr (Or.inr hb))))
theorem e_Gr_line {d rc rs : Nat} {Q : Option Value → Mu → Prop} {μ : Mu}  (hk : Wx K_Gr_line d rc rs (fun r μ' => St μ' ∧ Q r μ') 0 [(0, .ref (hd 15 0))] [] μ) : Cal K_Gr_line d rc rs [.ref (hd 15 0)] μ Q := Cal.of (by decide +kernel) rfl rfl (Nat.le_of_ble_eq_true rfl) rfl hk
set_option maxHeartbeats 4000000 in
set_option maxRecDepth 20000 in
theorem g_Gr_roadLine_0 {d rc rs : Nat} {Q : Option Value → Mu → Prop} {μ : Mu}  (hD : 1 ≤ d)  (hS : St μ)
    (hF : (Cal K_Gr_take (d - 1) 0 0 [.ref (hd 15 0), .ref (hd 0 1)] μ (fun r μ1 => r = none ∧ (Cal K_Gr_take (d - 1) 0 0 [.ref (hd 15 0), .ref (hd 0 44)] μ1 (fun r μ2 => r = none ∧ (Cal K_Gr_take (d - 1) 0 0 [.ref (hd 15 0), .ref (hd 0 2)] μ2 (fun r μ3 => r = none ∧ (Cal K_Gr_take (d - 1) 0 0 [.ref (hd 15 0), .ref (hd 0 44)] μ3 (fun r μ4 => r = none ∧ (Cal K_Gr_take (d - 1) 0 0 [.ref (hd 15 0), .ref (hd 0 3)] μ4 (fun r μ5 => r = none ∧ (Cal K_Gr_take (d - 1) 0 0 [.ref (hd 15 0), .ref (hd 0 44)] μ5 (fun r μ6 => r = none ∧ (Cal K_Gr_take (d - 1) 0 0 [.ref (hd 15 0), .ref (hd 0 4)] μ6 (fun r μ7 => r = none ∧ (Cal K_Gr_take (d - 1) 0 0 [.ref (hd 15 0), .ref (hd 0 45)] μ7 (fun r μ8 => r = none ∧ Q none μ8))))))))))))))))) : Wx K_Gr_roadLine d rc rs Q 0 [(0, .ref (hd 15 0))] [] μ := by
  refine Wa.aload_n (j := 0) d_Gr_roadLine_0 rfl ?_
  refine Wx.gets d_Gr_roadLine_1 st_5 sf_Gr_77 ?_
  refine Wx.cVv (q := E_Gr) (As := [.ref (hd 0 1)]) 3 (d - 1) 0 0 _ d_Gr_roadLine_4 mok_Gr_take vl_Gr_47 rfl rfl rfl (Nat.le_of_ble_eq_true rfl) (by omega) (Nat.zero_le _) (Nat.zero_le _) (s_15 hS (by decide)) hF (fun μ1 hS hF => ?_)
  refine Wa.aload_n (j := 0) d_Gr_roadLine_7 rfl ?_
  refine Wx.gets d_Gr_roadLine_8 st_48 sf_Gr_61 ?_
  refine Wx.cVv (q := E_Gr) (As := [.ref (hd 0 44)]) 3 (d - 1) 0 0 _ d_Gr_roadLine_11 mok_Gr_take vl_Gr_47 rfl rfl rfl (Nat.le_of_ble_eq_true rfl) (by omega) (Nat.zero_le _) (Nat.zero_le _) (s_15 hS (by decide)) hF (fun μ2 hS hF => ?_)
  refine Wa.aload_n (j := 0) d_Gr_roadLine_14 rfl ?_
  refine Wx.gets d_Gr_roadLine_15 st_6 sf_Gr_80 ?_
  refine Wx.cVv (q := E_Gr) (As := [.ref (hd 0 2)]) 3 (d - 1) 0 0 _ d_Gr_roadLine_18 mok_Gr_take vl_Gr_47 rfl rfl rfl (Nat.le_of_ble_eq_true rfl) (by omega) (Nat.zero_le _) (Nat.zero_le _) (s_15 hS (by decide)) hF (fun μ3 hS hF => ?_)
  refine Wa.aload_n (j := 0) d_Gr_roadLine_21 rfl ?_
  refine Wx.gets d_Gr_roadLine_22 st_48 sf_Gr_61 ?_
  refine Wx.cVv (q := E_Gr) (As := [.ref (hd 0 44)]) 3 (d - 1) 0 0 _ d_Gr_roadLine_25 mok_Gr_take vl_Gr_47 rfl rfl rfl (Nat.le_of_ble_eq_true rfl) (by omega) (Nat.zero_le _) (Nat.zero_le _) (s_15 hS (by decide)) hF (fun μ4 hS hF => ?_)
  refine Wa.aload_n (j := 0) d_Gr_roadLine_28 rfl ?_
  refine Wx.gets d_Gr_roadLine_29 st_7 sf_Gr_83 ?_
  refine Wx.cVv (q := E_Gr) (As := [.ref (hd 0 3)]) 3 (d - 1) 0 0 _ d_Gr_roadLine_32 mok_Gr_take vl_Gr_47 rfl rfl rfl (Nat.le_of_ble_eq_true rfl) (by omega) (Nat.zero_le _) (Nat.zero_le _) (s_15 hS (by decide)) hF (fun μ5 hS hF => ?_)
  refine Wa.aload_n (j := 0) d_Gr_roadLine_35 rfl ?_
  refine Wx.gets d_Gr_roadLine_36 st_48 sf_Gr_61 ?_
  refine Wx.cVv (q := E_Gr) (As := [.ref (hd 0 44)]) 3 (d - 1) 0 0 _ d_Gr_roadLine_39 mok_Gr_take vl_Gr_47 rfl rfl rfl (Nat.le_of_ble_eq_true rfl) (by omega) (Nat.zero_le _) (Nat.zero_le _) (s_15 hS (by decide)) hF (fun μ6 hS hF => ?_)
  refine Wa.aload_n (j := 0) d_Gr_roadLine_42 rfl ?_
  refine Wx.gets d_Gr_roadLine_43 st_8 sf_Gr_86 ?_
  refine Wx.cVv (q := E_Gr) (As := [.ref (hd 0 4)]) 3 (d - 1) 0 0 _ d_Gr_roadLine_46 mok_Gr_take vl_Gr_47 rfl rfl rfl (Nat.le_of_ble_eq_true rfl) (by omega) (Nat.zero_le _) (Nat.zero_le _) (s_15 hS (by decide)) hF (fun μ7 hS hF => ?_)
  refine Wa.aload_n (j := 0) d_Gr_roadLine_49 rfl ?_
  refine Wx.gets d_Gr_roadLine_50 st_49 sf_Gr_89 ?_
  refine Wx.cVv (q := E_Gr) (As := [.ref (hd 0 45)]) 3 (d - 1) 0 0 _ d_Gr_roadLine_53 mok_Gr_take vl_Gr_47 rfl rfl rfl (Nat.le_of_ble_eq_true rfl) (by omega) (Nat.zero_le _) (Nat.zero_le _) (s_15 hS (by decide)) hF (fun μ8 hS hF => ?_)
  exact Wx.retv d_Gr_roadLine_56 rfl hF
theorem e_Gr_roadLine {d rc rs : Nat} {Q : Option Value → Mu → Prop} {μ : Mu}  (hk : Wx K_Gr_roadLine d rc rs (fun r μ' => St μ' ∧ Q r μ') 0 [(0, .ref (hd 15 0))] [] μ) : Cal K_Gr_roadLine d rc rs [.ref (hd 15 0)] μ Q := Cal.of (by decide +kernel) rfl rfl (Nat.le_of_ble_eq_true rfl) rfl hk
set_option maxHeartbeats 4000000 in
set_option maxRecDepth 20000 in
theorem g_Gr_orderLine_0 {d rc rs : Nat} {Q : Option Value → Mu → Prop} {μ : Mu} {i1 : Nat} (hD : 1 ≤ d) (h1 : i1 < 42) (hS : St μ)
    (hF : (∀ μ3 : Mu, μ3 = (setI (setI (setR μ (hd 26 i1) 0 (hd 0 (px μ (hd 15 0) 3))) (hd 26 i1) 1 (mI (setR μ (hd 26 i1) 0 (hd 0 (px μ (hd 15 0) 3))) (hd 15 0) 2)) (hd 26 i1) 6 (mI (setI (setR μ (hd 26 i1) 0 (hd 0 (px μ (hd 15 0) 3))) (hd 26 i1) 1 (mI (setR μ (hd 26 i1) 0 (hd 0 (px μ (hd 15 0) 3))) (hd 15 0) 2)) (hd 21 (px (setR μ (hd 26 i1) 0 (hd 0 (px μ (hd 15 0) 3))) (hd 15 0) 1)) 4)) → (Cal K_Gr_take (d - 1) 0 0 [.ref (hd 15 0), .ref (hd 0 (px μ (hd 15 0) 3))] μ3 (fun r μ4 => r = none ∧ (Cal K_Gr_take (d - 1) 0 0 [.ref (hd 15 0), .ref (hd 0 44)] μ4 (fun r μ5 => r = none ∧ (((px μ (hd 15 0) 3) = 9 → (((px μ (hd 15 0) 3) = 6 → (Cal K_Gr_take (d - 1) 0 0 [.ref (hd 15 0), .ref (hd 0 10)] μ5 (fun r μ11 => r = none ∧ (Cal K_Gr_sum (d - 1) 0 0 [.ref (hd 15 0), .int 0] μ11 (fun r μ12 => r = none ∧ Wx K_Gr_orderLine d rc rs Q 124 [(0, .ref (hd 15 0)), (1, .ref (hd 26 i1)), (2, .ref (hd 0 (px μ (hd 15 0) 3)))] [] μ12))))) ∧ (¬ (px μ (hd 15 0) 3) = 6 → (((px μ (hd 15 0) 3) = 7 → (Cal K_Gr_take (d - 1) 0 0 [.ref (hd 15 0), .ref (hd 0 11)] μ5 (fun r μ9 => r = none ∧ (Cal K_Gr_sum (d - 1) 0 0 [.ref (hd 15 0), .int 0] μ9 (fun r μ10 => r = none ∧ Wx K_Gr_orderLine d rc rs Q 124 [(0, .ref (hd 15 0)), (1, .ref (hd 26 i1)), (2, .ref (hd 0 (px μ (hd 15 0) 3)))] [] μ10))))) ∧ (¬ (px μ (hd 15 0) 3) = 7 → (((px μ (hd 15 0) 3) = 8 → (Cal K_Gr_take (d - 1) 0 0 [.ref (hd 15 0), .ref (hd 0 12)] μ5 (fun r μ6 => r = none ∧ (Cal K_Gr_wayOfMerging (d - 1) 0 0 [.ref (hd 15 0)] μ6 (fun r μ7 => ∃ y8, r = some (.int y8) ∧ Wx K_Gr_orderLine d rc rs Q 124 [(0, .ref (hd 15 0)), (1, .ref (hd 26 i1)), (2, .ref (hd 0 (px μ (hd 15 0) 3)))] [] (setI μ7 (hd 26 i1) 5 y8)))))) ∧ (¬ (px μ (hd 15 0) 3) = 8 → Wx K_Gr_orderLine d rc rs Q 124 [(0, .ref (hd 15 0)), (1, .ref (hd 26 i1)), (2, .ref (hd 0 (px μ (hd 15 0) 3)))] [] μ5))))))) ∧ (¬ (px μ (hd 15 0) 3) = 9 → (Cal K_Gr_take (d - 1) 0 0 [.ref (hd 15 0), .ref (hd 0 44)] μ5 (fun r μ13 => r = none ∧ (((px μ (hd 15 0) 3) = 6 → (Cal K_Gr_take (d - 1) 0 0 [.ref (hd 15 0), .ref (hd 0 10)] μ13 (fun r μ19 => r = none ∧ (Cal K_Gr_sum (d - 1) 0 0 [.ref (hd 15 0), .int 0] μ19 (fun r μ20 => r = none ∧ Wx K_Gr_orderLine d rc rs Q 124 [(0, .ref (hd 15 0)), (1, .ref (hd 26 i1)), (2, .ref (hd 0 (px μ (hd 15 0) 3)))] [] μ20))))) ∧ (¬ (px μ (hd 15 0) 3) = 6 → (((px μ (hd 15 0) 3) = 7 → (Cal K_Gr_take (d - 1) 0 0 [.ref (hd 15 0), .ref (hd 0 11)] μ13 (fun r μ17 => r = none ∧ (Cal K_Gr_sum (d - 1) 0 0 [.ref (hd 15 0), .int 0] μ17 (fun r μ18 => r = none ∧ Wx K_Gr_orderLine d rc rs Q 124 [(0, .ref (hd 15 0)), (1, .ref (hd 26 i1)), (2, .ref (hd 0 (px μ (hd 15 0) 3)))] [] μ18))))) ∧ (¬ (px μ (hd 15 0) 3) = 7 → (((px μ (hd 15 0) 3) = 8 → (Cal K_Gr_take (d - 1) 0 0 [.ref (hd 15 0), .ref (hd 0 12)] μ13 (fun r μ14 => r = none ∧ (Cal K_Gr_wayOfMerging (d - 1) 0 0 [.ref (hd 15 0)] μ14 (fun r μ15 => ∃ y16, r = some (.int y16) ∧ Wx K_Gr_orderLine d rc rs Q 124 [(0, .ref (hd 15 0)), (1, .ref (hd 26 i1)), (2, .ref (hd 0 (px μ (hd 15 0) 3)))] [] (setI μ15 (hd 26 i1) 5 y16)))))) ∧ (¬ (px μ (hd 15 0) 3) = 8 → Wx K_Gr_orderLine d rc rs Q 124 [(0, .ref (hd 15 0)), (1, .ref (hd 26 i1)), (2, .ref (hd 0 (px μ (hd 15 0) 3)))] [] μ13)))))))))))))))) : Wx K_Gr_orderLine d rc rs Q 0 [(0, .ref (hd 15 0)), (1, .ref (hd 26 i1))] [] μ := by
  refine Wa.aload_n (j := 0) d_Gr_orderLine_0 rfl ?_
  have hp1 := d_15_3 (i := 0) hS (by decide)
  refine Wx.getR 3 3 d_Gr_orderLine_1 f_Gr_3 rfl fl_Gr_21 (s_15 hS (by decide)) (hp1.1) ?_
  refine Wa.astore_n (i := 2) (L' := [(2, .ref (hd 0 (px μ (hd 15 0) 3))), (0, .ref (hd 15 0)), (1, .ref (hd 26 i1))]) d_Gr_orderLine_4 rfl (by decide) rfl ?_
  refine Wa.aload_n (j := 2) d_Gr_orderLine_5 rfl ?_
  refine Wa.aload_n (j := 0) d_Gr_orderLine_6 rfl ?_
  refine Wx.putR 5 0 d_Gr_orderLine_7 f_Od_0 rfl ok_Od fl_Gr_92 (Or.inl rfl) w_26 (s_26 hS h1) ?_
  have hS : St (setR μ (hd 26 i1) 0 (hd 0 (px μ (hd 15 0) 3))) := sd_26_0 (μ := μ) hS h1 hp1.2
  refine Wa.aload_n (j := 2) d_Gr_orderLine_10 rfl ?_
  refine Wa.aload_n (j := 1) d_Gr_orderLine_11 rfl ?_
  refine Wx.getI 3 2 d_Gr_orderLine_12 f_Gr_2 fl_Gr_9 w_15 (s_15 hS (by decide)) ?_
  refine Wx.putI 5 1 d_Gr_orderLine_15 f_Od_1 ok_Od fl_Gr_97 (Or.inl rfl) w_26 (s_26 hS h1) ?_
  refine Wa.aload_n (j := 2) d_Gr_orderLine_18 rfl ?_
  refine Wa.aload_n (j := 1) d_Gr_orderLine_19 rfl ?_
  have hp2 := d_15_1 (i := 0) hS (by decide)
  refine Wx.getR 3 1 d_Gr_orderLine_20 f_Gr_1 rfl fl_Gr_28 (s_15 hS (by decide)) (hp2.1) ?_
  refine Wx.getR 6 0 d_Gr_orderLine_23 f_Pl_0 rfl fl_Gr_100 (s_18 hS hp2.2) (r_18_0 hS hp2.2) ?_
  refine Wx.getI 2 4 d_Gr_orderLine_26 f_Cd_4 fl_Gr_104 w_21 (s_21 hS hp2.2) ?_
  refine Wx.putI 5 6 d_Gr_orderLine_29 f_Od_6 ok_Od fl_Gr_109 (Or.inl rfl) w_26 (s_26 hS h1) ?_
  suffices hh : ∀ μ3 : Mu, μ3 = (setI (setI (setR μ (hd 26 i1) 0 (hd 0 (px μ (hd 15 0) 3))) (hd 26 i1) 1 (mI (setR μ (hd 26 i1) 0 (hd 0 (px μ (hd 15 0) 3))) (hd 15 0) 2)) (hd 26 i1) 6 (mI (setI (setR μ (hd 26 i1) 0 (hd 0 (px μ (hd 15 0) 3))) (hd 26 i1) 1 (mI (setR μ (hd 26 i1) 0 (hd 0 (px μ (hd 15 0) 3))) (hd 15 0) 2)) (hd 21 (px (setR μ (hd 26 i1) 0 (hd 0 (px μ (hd 15 0) 3))) (hd 15 0) 1)) 4)) → Wx K_Gr_orderLine d rc rs Q 32 [(2, .ref (hd 0 (px μ (hd 15 0) 3))), (0, .ref (hd 15 0)), (1, .ref (hd 26 i1))] [] μ3 from hh _ rfl
  intro μ3 em
  have hF := hF μ3 em
  have hS : St μ3 := by rw [em]; exact hS
  refine Wa.aload_n (j := 1) d_Gr_orderLine_32 rfl ?_
  refine Wa.aload_n (j := 0) d_Gr_orderLine_33 rfl ?_
  refine Wx.cVv (q := E_Gr) (As := [.ref (hd 0 (px μ (hd 15 0) 3))]) 3 (d - 1) 0 0 _ d_Gr_orderLine_34 mok_Gr_take vl_Gr_47 rfl rfl rfl (Nat.le_of_ble_eq_true rfl) (by omega) (Nat.zero_le _) (Nat.zero_le _) (s_15 hS (by decide)) hF (fun μ4 hS hF => ?_)
  refine Wa.aload_n (j := 1) d_Gr_orderLine_37 rfl ?_
  refine Wx.gets d_Gr_orderLine_38 st_48 sf_Gr_61 ?_
  refine Wx.cVv (q := E_Gr) (As := [.ref (hd 0 44)]) 3 (d - 1) 0 0 _ d_Gr_orderLine_41 mok_Gr_take vl_Gr_47 rfl rfl rfl (Nat.le_of_ble_eq_true rfl) (by omega) (Nat.zero_le _) (Nat.zero_le _) (s_15 hS (by decide)) hF (fun μ5 hS hF => ?_)
  refine Wa.aload_n (j := 0) d_Gr_orderLine_44 rfl ?_
  refine Wx.gets d_Gr_orderLine_45 st_13 sf_Gr_112 ?_
  refine Wx.acmp_eq (κ := 0) 58 (by decide) kz kz d_Gr_orderLine_48 (by decide) (fun hb => ?_) (fun hb => ?_)
  · have hF := hF.1 hb
    refine Wa.aload_n (j := 0) d_Gr_orderLine_58 rfl ?_
    refine Wx.gets d_Gr_orderLine_59 st_10 sf_Gr_115 ?_
    refine Wx.acmp_ne (κ := 0) 80 (by decide) kz kz d_Gr_orderLine_62 (by decide) (fun hb => ?_) (fun hb => ?_)
    · have hF := hF.2 hb
      refine Wa.aload_n (j := 0) d_Gr_orderLine_80 rfl ?_
      refine Wx.gets d_Gr_orderLine_81 st_11 sf_Gr_125 ?_
      refine Wx.acmp_ne (κ := 0) 102 (by decide) kz kz d_Gr_orderLine_84 (by decide) (fun hb => ?_) (fun hb => ?_)
      · have hF := hF.2 hb
        refine Wa.aload_n (j := 0) d_Gr_orderLine_102 rfl ?_
        refine Wx.gets d_Gr_orderLine_103 st_12 sf_Gr_131 ?_
        refine Wx.acmp_ne (κ := 0) 124 (by decide) kz kz d_Gr_orderLine_106 (by decide) (fun hb => ?_) (fun hb => ?_)
        · have hF := hF.2 hb
          exact Wa.loc [1, 2, 0] rfl hF
        · have hF := hF.1 hb
          refine Wa.aload_n (j := 1) d_Gr_orderLine_109 rfl ?_
          refine Wx.gets d_Gr_orderLine_110 st_16 sf_Gr_134 ?_
          refine Wx.cVv (q := E_Gr) (As := [.ref (hd 0 12)]) 3 (d - 1) 0 0 _ d_Gr_orderLine_113 mok_Gr_take vl_Gr_47 rfl rfl rfl (Nat.le_of_ble_eq_true rfl) (by omega) (Nat.zero_le _) (Nat.zero_le _) (s_15 hS (by decide)) hF (fun μ6 hS hF => ?_)
          refine Wa.aload_n (j := 2) d_Gr_orderLine_116 rfl ?_
          refine Wa.aload_n (j := 1) d_Gr_orderLine_117 rfl ?_
          refine Wx.cVi (q := E_Gr) (As := []) 3 (d - 1) 0 0 _ d_Gr_orderLine_118 mok_Gr_wayOfMerging vl_Gr_137 rfl rfl rfl (Nat.le_of_ble_eq_true rfl) (by omega) (Nat.zero_le _) (Nat.zero_le _) (s_15 hS (by decide)) hF (fun y8 μ7 hS hF => ?_)
          refine Wx.putI 5 5 d_Gr_orderLine_121 f_Od_5 ok_Od fl_Gr_140 (Or.inl rfl) w_26 (s_26 hS h1) ?_
          exact Wa.loc [1, 2, 0] rfl hF
      · have hF := hF.1 hb
        refine Wa.aload_n (j := 1) d_Gr_orderLine_87 rfl ?_
        refine Wx.gets d_Gr_orderLine_88 st_15 sf_Gr_128 ?_
        refine Wx.cVv (q := E_Gr) (As := [.ref (hd 0 11)]) 3 (d - 1) 0 0 _ d_Gr_orderLine_91 mok_Gr_take vl_Gr_47 rfl rfl rfl (Nat.le_of_ble_eq_true rfl) (by omega) (Nat.zero_le _) (Nat.zero_le _) (s_15 hS (by decide)) hF (fun μ9 hS hF => ?_)
        refine Wa.aload_n (j := 1) d_Gr_orderLine_94 rfl ?_
        refine Wa.iconst (v := 0) d_Gr_orderLine_95 rfl ?_
        refine Wx.cVv (q := E_Gr) (As := [.int 0]) 3 (d - 1) 0 0 _ d_Gr_orderLine_96 mok_Gr_sum vl_Gr_121 rfl rfl rfl (Nat.le_of_ble_eq_true rfl) (by omega) (Nat.zero_le _) (Nat.zero_le _) (s_15 hS (by decide)) hF (fun μ10 hS hF => ?_)
        refine Wa.goto 124 d_Gr_orderLine_99 (by decide) ?_
        exact Wa.loc [1, 2, 0] rfl hF
    · have hF := hF.1 hb
      refine Wa.aload_n (j := 1) d_Gr_orderLine_65 rfl ?_
      refine Wx.gets d_Gr_orderLine_66 st_14 sf_Gr_118 ?_
      refine Wx.cVv (q := E_Gr) (As := [.ref (hd 0 10)]) 3 (d - 1) 0 0 _ d_Gr_orderLine_69 mok_Gr_take vl_Gr_47 rfl rfl rfl (Nat.le_of_ble_eq_true rfl) (by omega) (Nat.zero_le _) (Nat.zero_le _) (s_15 hS (by decide)) hF (fun μ11 hS hF => ?_)
      refine Wa.aload_n (j := 1) d_Gr_orderLine_72 rfl ?_
      refine Wa.iconst (v := 0) d_Gr_orderLine_73 rfl ?_
      refine Wx.cVv (q := E_Gr) (As := [.int 0]) 3 (d - 1) 0 0 _ d_Gr_orderLine_74 mok_Gr_sum vl_Gr_121 rfl rfl rfl (Nat.le_of_ble_eq_true rfl) (by omega) (Nat.zero_le _) (Nat.zero_le _) (s_15 hS (by decide)) hF (fun μ12 hS hF => ?_)
      refine Wa.goto 124 d_Gr_orderLine_77 (by decide) ?_
      exact Wa.loc [1, 2, 0] rfl hF
  · have hF := hF.2 hb
    refine Wa.aload_n (j := 1) d_Gr_orderLine_51 rfl ?_
    refine Wx.gets d_Gr_orderLine_52 st_48 sf_Gr_61 ?_
    refine Wx.cVv (q := E_Gr) (As := [.ref (hd 0 44)]) 3 (d - 1) 0 0 _ d_Gr_orderLine_55 mok_Gr_take vl_Gr_47 rfl rfl rfl (Nat.le_of_ble_eq_true rfl) (by omega) (Nat.zero_le _) (Nat.zero_le _) (s_15 hS (by decide)) hF (fun μ13 hS hF => ?_)
    refine Wa.aload_n (j := 0) d_Gr_orderLine_58 rfl ?_
    refine Wx.gets d_Gr_orderLine_59 st_10 sf_Gr_115 ?_
    refine Wx.acmp_ne (κ := 0) 80 (by decide) kz kz d_Gr_orderLine_62 (by decide) (fun hb => ?_) (fun hb => ?_)
    · have hF := hF.2 hb
      refine Wa.aload_n (j := 0) d_Gr_orderLine_80 rfl ?_
      refine Wx.gets d_Gr_orderLine_81 st_11 sf_Gr_125 ?_
      refine Wx.acmp_ne (κ := 0) 102 (by decide) kz kz d_Gr_orderLine_84 (by decide) (fun hb => ?_) (fun hb => ?_)
      · have hF := hF.2 hb
        refine Wa.aload_n (j := 0) d_Gr_orderLine_102 rfl ?_
        refine Wx.gets d_Gr_orderLine_103 st_12 sf_Gr_131 ?_
        refine Wx.acmp_ne (κ := 0) 124 (by decide) kz kz d_Gr_orderLine_106 (by decide) (fun hb => ?_) (fun hb => ?_)
        · have hF := hF.2 hb
          exact Wa.loc [1, 2, 0] rfl hF
        · have hF := hF.1 hb
          refine Wa.aload_n (j := 1) d_Gr_orderLine_109 rfl ?_
          refine Wx.gets d_Gr_orderLine_110 st_16 sf_Gr_134 ?_
          refine Wx.cVv (q := E_Gr) (As := [.ref (hd 0 12)]) 3 (d - 1) 0 0 _ d_Gr_orderLine_113 mok_Gr_take vl_Gr_47 rfl rfl rfl (Nat.le_of_ble_eq_true rfl) (by omega) (Nat.zero_le _) (Nat.zero_le _) (s_15 hS (by decide)) hF (fun μ14 hS hF => ?_)
          refine Wa.aload_n (j := 2) d_Gr_orderLine_116 rfl ?_
          refine Wa.aload_n (j := 1) d_Gr_orderLine_117 rfl ?_
          refine Wx.cVi (q := E_Gr) (As := []) 3 (d - 1) 0 0 _ d_Gr_orderLine_118 mok_Gr_wayOfMerging vl_Gr_137 rfl rfl rfl (Nat.le_of_ble_eq_true rfl) (by omega) (Nat.zero_le _) (Nat.zero_le _) (s_15 hS (by decide)) hF (fun y16 μ15 hS hF => ?_)
          refine Wx.putI 5 5 d_Gr_orderLine_121 f_Od_5 ok_Od fl_Gr_140 (Or.inl rfl) w_26 (s_26 hS h1) ?_
          exact Wa.loc [1, 2, 0] rfl hF
      · have hF := hF.1 hb
        refine Wa.aload_n (j := 1) d_Gr_orderLine_87 rfl ?_
        refine Wx.gets d_Gr_orderLine_88 st_15 sf_Gr_128 ?_
        refine Wx.cVv (q := E_Gr) (As := [.ref (hd 0 11)]) 3 (d - 1) 0 0 _ d_Gr_orderLine_91 mok_Gr_take vl_Gr_47 rfl rfl rfl (Nat.le_of_ble_eq_true rfl) (by omega) (Nat.zero_le _) (Nat.zero_le _) (s_15 hS (by decide)) hF (fun μ17 hS hF => ?_)
        refine Wa.aload_n (j := 1) d_Gr_orderLine_94 rfl ?_
        refine Wa.iconst (v := 0) d_Gr_orderLine_95 rfl ?_
        refine Wx.cVv (q := E_Gr) (As := [.int 0]) 3 (d - 1) 0 0 _ d_Gr_orderLine_96 mok_Gr_sum vl_Gr_121 rfl rfl rfl (Nat.le_of_ble_eq_true rfl) (by omega) (Nat.zero_le _) (Nat.zero_le _) (s_15 hS (by decide)) hF (fun μ18 hS hF => ?_)
        refine Wa.goto 124 d_Gr_orderLine_99 (by decide) ?_
        exact Wa.loc [1, 2, 0] rfl hF
    · have hF := hF.1 hb
      refine Wa.aload_n (j := 1) d_Gr_orderLine_65 rfl ?_
      refine Wx.gets d_Gr_orderLine_66 st_14 sf_Gr_118 ?_
      refine Wx.cVv (q := E_Gr) (As := [.ref (hd 0 10)]) 3 (d - 1) 0 0 _ d_Gr_orderLine_69 mok_Gr_take vl_Gr_47 rfl rfl rfl (Nat.le_of_ble_eq_true rfl) (by omega) (Nat.zero_le _) (Nat.zero_le _) (s_15 hS (by decide)) hF (fun μ19 hS hF => ?_)
      refine Wa.aload_n (j := 1) d_Gr_orderLine_72 rfl ?_
      refine Wa.iconst (v := 0) d_Gr_orderLine_73 rfl ?_
      refine Wx.cVv (q := E_Gr) (As := [.int 0]) 3 (d - 1) 0 0 _ d_Gr_orderLine_74 mok_Gr_sum vl_Gr_121 rfl rfl rfl (Nat.le_of_ble_eq_true rfl) (by omega) (Nat.zero_le _) (Nat.zero_le _) (s_15 hS (by decide)) hF (fun μ20 hS hF => ?_)
      refine Wa.goto 124 d_Gr_orderLine_77 (by decide) ?_
      exact Wa.loc [1, 2, 0] rfl hF
theorem e_Gr_orderLine {d rc rs : Nat} {Q : Option Value → Mu → Prop} {μ : Mu} {i1 : Nat} (hk : Wx K_Gr_orderLine d rc rs (fun r μ' => St μ' ∧ Q r μ') 0 [(0, .ref (hd 15 0)), (1, .ref (hd 26 i1))] [] μ) : Cal K_Gr_orderLine d rc rs [.ref (hd 15 0), .ref (hd 26 i1)] μ Q := Cal.of (by decide +kernel) rfl rfl (Nat.le_of_ble_eq_true rfl) rfl hk
set_option maxHeartbeats 4000000 in
set_option maxRecDepth 20000 in
theorem g_Gr_orderLine_124 {d rc rs : Nat} {Q : Option Value → Mu → Prop} {μ : Mu} {i1 : Nat} {i2 : Nat} (hD : 1 ≤ d) (h1 : i1 < 42) (h2 : i2 < 49) (hS : St μ)
    (hF : ((i2 = 6 → (Cal K_Gr_take (d - 1) 0 0 [.ref (hd 15 0), .ref (hd 0 16)] (setI μ (hd 26 i1) 7 (mI μ (hd 21 (px μ (hd 15 0) 1)) 4)) (fun r μ2 => r = none ∧ (Cal K_Gr_test (d - 1) 0 0 [.ref (hd 15 0), .int 0] μ2 (fun r μ3 => r = none ∧ Q none (setI μ3 (hd 26 i1) 8 (mI μ3 (hd 21 (px μ3 (hd 15 0) 1)) 4))))))) ∧ (¬ i2 = 6 → ((i2 = 7 → (Cal K_Gr_take (d - 1) 0 0 [.ref (hd 15 0), .ref (hd 0 16)] (setI μ (hd 26 i1) 7 (mI μ (hd 21 (px μ (hd 15 0) 1)) 4)) (fun r μ5 => r = none ∧ (Cal K_Gr_test (d - 1) 0 0 [.ref (hd 15 0), .int 0] μ5 (fun r μ6 => r = none ∧ Q none (setI μ6 (hd 26 i1) 8 (mI μ6 (hd 21 (px μ6 (hd 15 0) 1)) 4))))))) ∧ (¬ i2 = 7 → (((px μ (hd 15 0) 3) = 16 → (Cal K_Gr_take (d - 1) 0 0 [.ref (hd 15 0), .ref (hd 0 16)] (setI μ (hd 26 i1) 7 (mI μ (hd 21 (px μ (hd 15 0) 1)) 4)) (fun r μ10 => r = none ∧ (Cal K_Gr_test (d - 1) 0 0 [.ref (hd 15 0), .int 0] μ10 (fun r μ11 => r = none ∧ Q none (setI μ11 (hd 26 i1) 8 (mI μ11 (hd 21 (px μ11 (hd 15 0) 1)) 4))))))) ∧ (¬ (px μ (hd 15 0) 3) = 16 → Q none (setI (setI μ (hd 26 i1) 7 (mI μ (hd 21 (px μ (hd 15 0) 1)) 4)) (hd 26 i1) 8 (mI (setI μ (hd 26 i1) 7 (mI μ (hd 21 (px μ (hd 15 0) 1)) 4)) (hd 21 (px μ (hd 15 0) 1)) 4))))))))) : Wx K_Gr_orderLine d rc rs Q 124 [(0, .ref (hd 15 0)), (1, .ref (hd 26 i1)), (2, .ref (hd 0 i2))] [] μ := by
  refine Wa.aload_n (j := 1) d_Gr_orderLine_124 rfl ?_
  refine Wa.aload_n (j := 0) d_Gr_orderLine_125 rfl ?_
  have hp1 := d_15_1 (i := 0) hS (by decide)
  refine Wx.getR 3 1 d_Gr_orderLine_126 f_Gr_1 rfl fl_Gr_28 (s_15 hS (by decide)) (hp1.1) ?_
  refine Wx.getR 6 0 d_Gr_orderLine_129 f_Pl_0 rfl fl_Gr_100 (s_18 hS hp1.2) (r_18_0 hS hp1.2) ?_
  refine Wx.getI 2 4 d_Gr_orderLine_132 f_Cd_4 fl_Gr_104 w_21 (s_21 hS hp1.2) ?_
  refine Wx.putI 5 7 d_Gr_orderLine_135 f_Od_7 ok_Od fl_Gr_143 (Or.inl rfl) w_26 (s_26 hS h1) ?_
  refine Wa.aload_n (j := 2) d_Gr_orderLine_138 rfl ?_
  refine Wx.gets d_Gr_orderLine_139 st_10 sf_Gr_115 ?_
  refine Wx.acmp_eq (κ := 0) 162 (by decide) kz kz d_Gr_orderLine_142 (by decide) (fun hb => ?_) (fun hb => ?_)
  · have hF := hF.1 hb
    refine Wa.aload_n (j := 0) d_Gr_orderLine_162 rfl ?_
    refine Wx.gets d_Gr_orderLine_163 st_20 sf_Gr_146 ?_
    refine Wx.cVv (q := E_Gr) (As := [.ref (hd 0 16)]) 3 (d - 1) 0 0 _ d_Gr_orderLine_166 mok_Gr_take vl_Gr_47 rfl rfl rfl (Nat.le_of_ble_eq_true rfl) (by omega) (Nat.zero_le _) (Nat.zero_le _) (s_15 hS (by decide)) hF (fun μ2 hS hF => ?_)
    refine Wa.aload_n (j := 0) d_Gr_orderLine_169 rfl ?_
    refine Wa.iconst (v := 0) d_Gr_orderLine_170 rfl ?_
    refine Wx.cVv (q := E_Gr) (As := [.int 0]) 3 (d - 1) 0 0 _ d_Gr_orderLine_171 mok_Gr_test vl_Gr_149 rfl rfl rfl (Nat.le_of_ble_eq_true rfl) (by omega) (Nat.zero_le _) (Nat.zero_le _) (s_15 hS (by decide)) hF (fun μ3 hS hF => ?_)
    refine Wa.aload_n (j := 1) d_Gr_orderLine_174 rfl ?_
    refine Wa.aload_n (j := 0) d_Gr_orderLine_175 rfl ?_
    have hp4 := d_15_1 (i := 0) hS (by decide)
    refine Wx.getR 3 1 d_Gr_orderLine_176 f_Gr_1 rfl fl_Gr_28 (s_15 hS (by decide)) (hp4.1) ?_
    refine Wx.getR 6 0 d_Gr_orderLine_179 f_Pl_0 rfl fl_Gr_100 (s_18 hS hp4.2) (r_18_0 hS hp4.2) ?_
    refine Wx.getI 2 4 d_Gr_orderLine_182 f_Cd_4 fl_Gr_104 w_21 (s_21 hS hp4.2) ?_
    refine Wx.putI 5 8 d_Gr_orderLine_185 f_Od_8 ok_Od fl_Gr_152 (Or.inl rfl) w_26 (s_26 hS h1) ?_
    exact Wx.retv d_Gr_orderLine_188 rfl hF
  · have hF := hF.2 hb
    refine Wa.aload_n (j := 2) d_Gr_orderLine_145 rfl ?_
    refine Wx.gets d_Gr_orderLine_146 st_11 sf_Gr_125 ?_
    refine Wx.acmp_eq (κ := 0) 162 (by decide) kz kz d_Gr_orderLine_149 (by decide) (fun hb => ?_) (fun hb => ?_)
    · have hF := hF.1 hb
      refine Wa.aload_n (j := 0) d_Gr_orderLine_162 rfl ?_
      refine Wx.gets d_Gr_orderLine_163 st_20 sf_Gr_146 ?_
      refine Wx.cVv (q := E_Gr) (As := [.ref (hd 0 16)]) 3 (d - 1) 0 0 _ d_Gr_orderLine_166 mok_Gr_take vl_Gr_47 rfl rfl rfl (Nat.le_of_ble_eq_true rfl) (by omega) (Nat.zero_le _) (Nat.zero_le _) (s_15 hS (by decide)) hF (fun μ5 hS hF => ?_)
      refine Wa.aload_n (j := 0) d_Gr_orderLine_169 rfl ?_
      refine Wa.iconst (v := 0) d_Gr_orderLine_170 rfl ?_
      refine Wx.cVv (q := E_Gr) (As := [.int 0]) 3 (d - 1) 0 0 _ d_Gr_orderLine_171 mok_Gr_test vl_Gr_149 rfl rfl rfl (Nat.le_of_ble_eq_true rfl) (by omega) (Nat.zero_le _) (Nat.zero_le _) (s_15 hS (by decide)) hF (fun μ6 hS hF => ?_)
      refine Wa.aload_n (j := 1) d_Gr_orderLine_174 rfl ?_
      refine Wa.aload_n (j := 0) d_Gr_orderLine_175 rfl ?_
      have hp7 := d_15_1 (i := 0) hS (by decide)
      refine Wx.getR 3 1 d_Gr_orderLine_176 f_Gr_1 rfl fl_Gr_28 (s_15 hS (by decide)) (hp7.1) ?_
      refine Wx.getR 6 0 d_Gr_orderLine_179 f_Pl_0 rfl fl_Gr_100 (s_18 hS hp7.2) (r_18_0 hS hp7.2) ?_
      refine Wx.getI 2 4 d_Gr_orderLine_182 f_Cd_4 fl_Gr_104 w_21 (s_21 hS hp7.2) ?_
      refine Wx.putI 5 8 d_Gr_orderLine_185 f_Od_8 ok_Od fl_Gr_152 (Or.inl rfl) w_26 (s_26 hS h1) ?_
      exact Wx.retv d_Gr_orderLine_188 rfl hF
    · have hF := hF.2 hb
      refine Wa.aload_n (j := 0) d_Gr_orderLine_152 rfl ?_
      have hp8 := d_15_3 (i := 0) hS (by decide)
      refine Wx.getR 3 3 d_Gr_orderLine_153 f_Gr_3 rfl fl_Gr_21 (s_15 hS (by decide)) (hp8.1) ?_
      refine Wx.gets d_Gr_orderLine_156 st_20 sf_Gr_146 ?_
      refine Wx.acmp_ne (κ := 0) 174 (by decide) kz kz d_Gr_orderLine_159 (by decide) (fun hb => ?_) (fun hb => ?_)
      · have hF := hF.2 hb
        refine Wa.aload_n (j := 1) d_Gr_orderLine_174 rfl ?_
        refine Wa.aload_n (j := 0) d_Gr_orderLine_175 rfl ?_
        have hp9 := d_15_1 (i := 0) hS (by decide)
        refine Wx.getR 3 1 d_Gr_orderLine_176 f_Gr_1 rfl fl_Gr_28 (s_15 hS (by decide)) (hp9.1) ?_
        refine Wx.getR 6 0 d_Gr_orderLine_179 f_Pl_0 rfl fl_Gr_100 (s_18 hS hp9.2) (r_18_0 hS hp9.2) ?_
        refine Wx.getI 2 4 d_Gr_orderLine_182 f_Cd_4 fl_Gr_104 w_21 (s_21 hS hp9.2) ?_
        refine Wx.putI 5 8 d_Gr_orderLine_185 f_Od_8 ok_Od fl_Gr_152 (Or.inl rfl) w_26 (s_26 hS h1) ?_
        exact Wx.retv d_Gr_orderLine_188 rfl hF
      · have hF := hF.1 hb
        refine Wa.aload_n (j := 0) d_Gr_orderLine_162 rfl ?_
        refine Wx.gets d_Gr_orderLine_163 st_20 sf_Gr_146 ?_
        refine Wx.cVv (q := E_Gr) (As := [.ref (hd 0 16)]) 3 (d - 1) 0 0 _ d_Gr_orderLine_166 mok_Gr_take vl_Gr_47 rfl rfl rfl (Nat.le_of_ble_eq_true rfl) (by omega) (Nat.zero_le _) (Nat.zero_le _) (s_15 hS (by decide)) hF (fun μ10 hS hF => ?_)
        refine Wa.aload_n (j := 0) d_Gr_orderLine_169 rfl ?_
        refine Wa.iconst (v := 0) d_Gr_orderLine_170 rfl ?_
        refine Wx.cVv (q := E_Gr) (As := [.int 0]) 3 (d - 1) 0 0 _ d_Gr_orderLine_171 mok_Gr_test vl_Gr_149 rfl rfl rfl (Nat.le_of_ble_eq_true rfl) (by omega) (Nat.zero_le _) (Nat.zero_le _) (s_15 hS (by decide)) hF (fun μ11 hS hF => ?_)
        refine Wa.aload_n (j := 1) d_Gr_orderLine_174 rfl ?_
        refine Wa.aload_n (j := 0) d_Gr_orderLine_175 rfl ?_
        have hp12 := d_15_1 (i := 0) hS (by decide)
        refine Wx.getR 3 1 d_Gr_orderLine_176 f_Gr_1 rfl fl_Gr_28 (s_15 hS (by decide)) (hp12.1) ?_
        refine Wx.getR 6 0 d_Gr_orderLine_179 f_Pl_0 rfl fl_Gr_100 (s_18 hS hp12.2) (r_18_0 hS hp12.2) ?_
        refine Wx.getI 2 4 d_Gr_orderLine_182 f_Cd_4 fl_Gr_104 w_21 (s_21 hS hp12.2) ?_
        refine Wx.putI 5 8 d_Gr_orderLine_185 f_Od_8 ok_Od fl_Gr_152 (Or.inl rfl) w_26 (s_26 hS h1) ?_
        exact Wx.retv d_Gr_orderLine_188 rfl hF
set_option maxHeartbeats 4000000 in
set_option maxRecDepth 20000 in
theorem g_Gr_wayOfMerging_0 {d rc rs : Nat} {Q : Option Value → Mu → Prop} {μ : Mu}  (hD : 1 ≤ d)  (hS : St μ)
    (hF : (((px μ (hd 15 0) 3) = 13 → (Cal K_Gr_take (d - 1) 0 0 [.ref (hd 15 0), .ref (hd 0 13)] μ (fun r μ5 => r = none ∧ Q (some (.int 0)) μ5))) ∧ (¬ (px μ (hd 15 0) 3) = 13 → (((px μ (hd 15 0) 3) = 14 → (Cal K_Gr_take (d - 1) 0 0 [.ref (hd 15 0), .ref (hd 0 14)] μ (fun r μ4 => r = none ∧ Q (some (.int 1)) μ4))) ∧ (¬ (px μ (hd 15 0) 3) = 14 → (Cal K_Gr_take (d - 1) 0 0 [.ref (hd 15 0), .ref (hd 0 15)] μ (fun r μ3 => r = none ∧ Q (some (.int 2)) μ3))))))) : Wx K_Gr_wayOfMerging d rc rs Q 0 [(0, .ref (hd 15 0))] [] μ := by
  refine Wa.aload_n (j := 0) d_Gr_wayOfMerging_0 rfl ?_
  have hp1 := d_15_3 (i := 0) hS (by decide)
  refine Wx.getR 3 3 d_Gr_wayOfMerging_1 f_Gr_3 rfl fl_Gr_21 (s_15 hS (by decide)) (hp1.1) ?_
  refine Wx.gets d_Gr_wayOfMerging_4 st_17 sf_Gr_155 ?_
  refine Wx.acmp_ne (κ := 0) 19 (by decide) kz kz d_Gr_wayOfMerging_7 (by decide) (fun hb => ?_) (fun hb => ?_)
  · have hF := hF.2 hb
    refine Wa.aload_n (j := 0) d_Gr_wayOfMerging_19 rfl ?_
    have hp2 := d_15_3 (i := 0) hS (by decide)
    refine Wx.getR 3 3 d_Gr_wayOfMerging_20 f_Gr_3 rfl fl_Gr_21 (s_15 hS (by decide)) (hp2.1) ?_
    refine Wx.gets d_Gr_wayOfMerging_23 st_18 sf_Gr_158 ?_
    refine Wx.acmp_ne (κ := 0) 38 (by decide) kz kz d_Gr_wayOfMerging_26 (by decide) (fun hb => ?_) (fun hb => ?_)
    · have hF := hF.2 hb
      refine Wa.aload_n (j := 0) d_Gr_wayOfMerging_38 rfl ?_
      refine Wx.gets d_Gr_wayOfMerging_39 st_19 sf_Gr_161 ?_
      refine Wx.cVv (q := E_Gr) (As := [.ref (hd 0 15)]) 3 (d - 1) 0 0 _ d_Gr_wayOfMerging_42 mok_Gr_take vl_Gr_47 rfl rfl rfl (Nat.le_of_ble_eq_true rfl) (by omega) (Nat.zero_le _) (Nat.zero_le _) (s_15 hS (by decide)) hF (fun μ3 hS hF => ?_)
      refine Wa.iconst (v := 2) d_Gr_wayOfMerging_45 rfl ?_
      exact Wx.reti d_Gr_wayOfMerging_46 rfl hF
    · have hF := hF.1 hb
      refine Wa.aload_n (j := 0) d_Gr_wayOfMerging_29 rfl ?_
      refine Wx.gets d_Gr_wayOfMerging_30 st_18 sf_Gr_158 ?_
      refine Wx.cVv (q := E_Gr) (As := [.ref (hd 0 14)]) 3 (d - 1) 0 0 _ d_Gr_wayOfMerging_33 mok_Gr_take vl_Gr_47 rfl rfl rfl (Nat.le_of_ble_eq_true rfl) (by omega) (Nat.zero_le _) (Nat.zero_le _) (s_15 hS (by decide)) hF (fun μ4 hS hF => ?_)
      refine Wa.iconst (v := 1) d_Gr_wayOfMerging_36 rfl ?_
      exact Wx.reti d_Gr_wayOfMerging_37 rfl hF
  · have hF := hF.1 hb
    refine Wa.aload_n (j := 0) d_Gr_wayOfMerging_10 rfl ?_
    refine Wx.gets d_Gr_wayOfMerging_11 st_17 sf_Gr_155 ?_
    refine Wx.cVv (q := E_Gr) (As := [.ref (hd 0 13)]) 3 (d - 1) 0 0 _ d_Gr_wayOfMerging_14 mok_Gr_take vl_Gr_47 rfl rfl rfl (Nat.le_of_ble_eq_true rfl) (by omega) (Nat.zero_le _) (Nat.zero_le _) (s_15 hS (by decide)) hF (fun μ5 hS hF => ?_)
    refine Wa.iconst (v := 0) d_Gr_wayOfMerging_17 rfl ?_
    exact Wx.reti d_Gr_wayOfMerging_18 rfl hF
theorem e_Gr_wayOfMerging {d rc rs : Nat} {Q : Option Value → Mu → Prop} {μ : Mu}  (hk : Wx K_Gr_wayOfMerging d rc rs (fun r μ' => St μ' ∧ Q r μ') 0 [(0, .ref (hd 15 0))] [] μ) : Cal K_Gr_wayOfMerging d rc rs [.ref (hd 15 0)] μ Q := Cal.of (by decide +kernel) rfl rfl (Nat.le_of_ble_eq_true rfl) rfl hk
set_option maxHeartbeats 4000000 in
set_option maxRecDepth 20000 in
theorem g_Gr_test_0 {d rc rs : Nat} {Q : Option Value → Mu → Prop} {μ : Mu} {x1 : Int32} (hD : 1 ≤ d)  (hS : St μ)
    (hF : (Cal K_Gr_both (d - 1) 0 0 [.ref (hd 15 0), .int x1] μ (fun r μ1 => r = none ∧ Wx K_Gr_test d rc rs Q 7 [(0, .ref (hd 15 0)), (1, .int x1), (2, .int 0)] [] μ1))) : Wx K_Gr_test d rc rs Q 0 [(0, .ref (hd 15 0)), (1, .int x1)] [] μ := by
  refine Wa.aload_n (j := 0) d_Gr_test_0 rfl ?_
  refine Wa.iload_n (j := 1) d_Gr_test_1 rfl ?_
  refine Wx.cVv (q := E_Gr) (As := [.int x1]) 3 (d - 1) 0 0 _ d_Gr_test_2 mok_Gr_both vl_Gr_164 rfl rfl rfl (Nat.le_of_ble_eq_true rfl) (by omega) (Nat.zero_le _) (Nat.zero_le _) (s_15 hS (by decide)) hF (fun μ1 hS hF => ?_)
  refine Wa.iconst (v := 0) d_Gr_test_5 rfl ?_
  refine Wa.istore_n (i := 2) (L' := [(2, .int 0), (0, .ref (hd 15 0)), (1, .int x1)]) d_Gr_test_6 rfl (by decide) rfl ?_
  exact Wa.loc [1, 2, 0] rfl hF
theorem e_Gr_test {d rc rs : Nat} {Q : Option Value → Mu → Prop} {μ : Mu} {x1 : Int32} (hk : Wx K_Gr_test d rc rs (fun r μ' => St μ' ∧ Q r μ') 0 [(0, .ref (hd 15 0)), (1, .int x1)] [] μ) : Cal K_Gr_test d rc rs [.ref (hd 15 0), .int x1] μ Q := Cal.of (by decide +kernel) rfl rfl (Nat.le_of_ble_eq_true rfl) rfl hk
set_option maxHeartbeats 4000000 in
set_option maxRecDepth 20000 in
theorem g_Gr_test_7 {d rc rs : Nat} {Q : Option Value → Mu → Prop} {μ : Mu} {x1 : Int32} {x2 : Int32} (hD : 1 ≤ d)  (hS : St μ)
    (hF : ((400 ≤ x2 → Q none μ) ∧ (¬ 400 ≤ x2 → (((px μ (hd 15 0) 3) = 26 → (Cal K_Gr_take (d - 1) 0 0 [.ref (hd 15 0), .ref (hd 0 26)] μ (fun r μ2 => r = none ∧ (Cal K_Gr_both (d - 1) 0 0 [.ref (hd 15 0), .int x1] μ2 (fun r μ3 => r = none ∧ (Cal K_Cd_add (d - 1) 0 0 [.ref (hd 21 (px μ3 (hd 15 0) 1)), .ref (hd 0 26), .int (-1)] μ3 (fun r μ5 => r = none ∧ Wx K_Gr_test d rc rs Q 7 [(0, .ref (hd 15 0)), (1, .int x1), (2, .int (x2 + 1))] [] μ5))))))) ∧ (¬ (px μ (hd 15 0) 3) = 26 → Q none μ))))) : Wx K_Gr_test d rc rs Q 7 [(0, .ref (hd 15 0)), (1, .int x1), (2, .int x2)] [] μ := by
  refine Wa.iload_n (j := 2) d_Gr_test_7 rfl ?_
  refine Wa.sipush (v := 400) d_Gr_test_8 rfl ?_
  refine Wa.icmp_ge 56 d_Gr_test_11 (by decide) (fun hb => ?_) (fun hb => ?_)
  · have hF := hF.1 hb
    exact Wx.retv d_Gr_test_56 rfl hF
  · have hF := hF.2 hb
    refine Wa.aload_n (j := 0) d_Gr_test_14 rfl ?_
    have hp1 := d_15_3 (i := 0) hS (by decide)
    refine Wx.getR 3 3 d_Gr_test_15 f_Gr_3 rfl fl_Gr_21 (s_15 hS (by decide)) (hp1.1) ?_
    refine Wx.gets d_Gr_test_18 st_30 sf_Gr_167 ?_
    refine Wx.acmp_ne (κ := 0) 56 (by decide) kz kz d_Gr_test_21 (by decide) (fun hb => ?_) (fun hb => ?_)
    · have hF := hF.2 hb
      exact Wx.retv d_Gr_test_56 rfl hF
    · have hF := hF.1 hb
      refine Wa.aload_n (j := 0) d_Gr_test_24 rfl ?_
      refine Wx.gets d_Gr_test_25 st_30 sf_Gr_167 ?_
      refine Wx.cVv (q := E_Gr) (As := [.ref (hd 0 26)]) 3 (d - 1) 0 0 _ d_Gr_test_28 mok_Gr_take vl_Gr_47 rfl rfl rfl (Nat.le_of_ble_eq_true rfl) (by omega) (Nat.zero_le _) (Nat.zero_le _) (s_15 hS (by decide)) hF (fun μ2 hS hF => ?_)
      refine Wa.aload_n (j := 0) d_Gr_test_31 rfl ?_
      refine Wa.iload_n (j := 1) d_Gr_test_32 rfl ?_
      refine Wx.cVv (q := E_Gr) (As := [.int x1]) 3 (d - 1) 0 0 _ d_Gr_test_33 mok_Gr_both vl_Gr_164 rfl rfl rfl (Nat.le_of_ble_eq_true rfl) (by omega) (Nat.zero_le _) (Nat.zero_le _) (s_15 hS (by decide)) hF (fun μ3 hS hF => ?_)
      refine Wa.aload_n (j := 0) d_Gr_test_36 rfl ?_
      have hp4 := d_15_1 (i := 0) hS (by decide)
      refine Wx.getR 3 1 d_Gr_test_37 f_Gr_1 rfl fl_Gr_28 (s_15 hS (by decide)) (hp4.1) ?_
      refine Wx.getR 6 0 d_Gr_test_40 f_Pl_0 rfl fl_Gr_100 (s_18 hS hp4.2) (r_18_0 hS hp4.2) ?_
      refine Wx.gets d_Gr_test_43 st_30 sf_Gr_167 ?_
      refine Wa.iconst (v := (-1)) d_Gr_test_46 rfl ?_
      refine Wx.cVv (q := E_Cd) (As := [.ref (hd 0 26), .int (-1)]) 2 (d - 1) 0 0 _ d_Gr_test_47 mok_Cd_add vl_Gr_170 rfl rfl rfl (Nat.le_of_ble_eq_true rfl) (by omega) (Nat.zero_le _) (Nat.zero_le _) (s_21 hS hp4.2) hF (fun μ5 hS hF => ?_)
      refine Wa.iinc (i := 2) (j := 2) (v := (x2 + 1)) (L' := [(2, .int (x2 + 1)), (0, .ref (hd 15 0)), (1, .int x1)]) d_Gr_test_50 rfl rfl (by decide) rfl ?_
      refine Wa.goto 7 d_Gr_test_53 (by decide) ?_
      exact Wa.loc [1, 2, 0] rfl hF
set_option maxHeartbeats 4000000 in
set_option maxRecDepth 20000 in
theorem g_Gr_both_0 {d rc rs : Nat} {Q : Option Value → Mu → Prop} {μ : Mu} {x1 : Int32} (hD : 1 ≤ d)  (hS : St μ)
    (hF : (Cal K_Gr_single (d - 1) 0 0 [.ref (hd 15 0), .int x1] μ (fun r μ1 => r = none ∧ Wx K_Gr_both d rc rs Q 7 [(0, .ref (hd 15 0)), (1, .int x1), (2, .int 0)] [] μ1))) : Wx K_Gr_both d rc rs Q 0 [(0, .ref (hd 15 0)), (1, .int x1)] [] μ := by
  refine Wa.aload_n (j := 0) d_Gr_both_0 rfl ?_
  refine Wa.iload_n (j := 1) d_Gr_both_1 rfl ?_
  refine Wx.cVv (q := E_Gr) (As := [.int x1]) 3 (d - 1) 0 0 _ d_Gr_both_2 mok_Gr_single vl_Gr_174 rfl rfl rfl (Nat.le_of_ble_eq_true rfl) (by omega) (Nat.zero_le _) (Nat.zero_le _) (s_15 hS (by decide)) hF (fun μ1 hS hF => ?_)
  refine Wa.iconst (v := 0) d_Gr_both_5 rfl ?_
  refine Wa.istore_n (i := 2) (L' := [(2, .int 0), (0, .ref (hd 15 0)), (1, .int x1)]) d_Gr_both_6 rfl (by decide) rfl ?_
  exact Wa.loc [1, 2, 0] rfl hF
theorem e_Gr_both {d rc rs : Nat} {Q : Option Value → Mu → Prop} {μ : Mu} {x1 : Int32} (hk : Wx K_Gr_both d rc rs (fun r μ' => St μ' ∧ Q r μ') 0 [(0, .ref (hd 15 0)), (1, .int x1)] [] μ) : Cal K_Gr_both d rc rs [.ref (hd 15 0), .int x1] μ Q := Cal.of (by decide +kernel) rfl rfl (Nat.le_of_ble_eq_true rfl) rfl hk
set_option maxHeartbeats 4000000 in
set_option maxRecDepth 20000 in
theorem g_Gr_both_7 {d rc rs : Nat} {Q : Option Value → Mu → Prop} {μ : Mu} {x1 : Int32} {x2 : Int32} (hD : 1 ≤ d)  (hS : St μ)
    (hF : ((400 ≤ x2 → Q none μ) ∧ (¬ 400 ≤ x2 → (((px μ (hd 15 0) 3) = 25 → (Cal K_Gr_take (d - 1) 0 0 [.ref (hd 15 0), .ref (hd 0 25)] μ (fun r μ2 => r = none ∧ (Cal K_Gr_single (d - 1) 0 0 [.ref (hd 15 0), .int x1] μ2 (fun r μ3 => r = none ∧ (Cal K_Cd_add (d - 1) 0 0 [.ref (hd 21 (px μ3 (hd 15 0) 1)), .ref (hd 0 25), .int (-1)] μ3 (fun r μ5 => r = none ∧ Wx K_Gr_both d rc rs Q 7 [(0, .ref (hd 15 0)), (1, .int x1), (2, .int (x2 + 1))] [] μ5))))))) ∧ (¬ (px μ (hd 15 0) 3) = 25 → Q none μ))))) : Wx K_Gr_both d rc rs Q 7 [(0, .ref (hd 15 0)), (1, .int x1), (2, .int x2)] [] μ := by
  refine Wa.iload_n (j := 2) d_Gr_both_7 rfl ?_
  refine Wa.sipush (v := 400) d_Gr_both_8 rfl ?_
  refine Wa.icmp_ge 56 d_Gr_both_11 (by decide) (fun hb => ?_) (fun hb => ?_)
  · have hF := hF.1 hb
    exact Wx.retv d_Gr_both_56 rfl hF
  · have hF := hF.2 hb
    refine Wa.aload_n (j := 0) d_Gr_both_14 rfl ?_
    have hp1 := d_15_3 (i := 0) hS (by decide)
    refine Wx.getR 3 3 d_Gr_both_15 f_Gr_3 rfl fl_Gr_21 (s_15 hS (by decide)) (hp1.1) ?_
    refine Wx.gets d_Gr_both_18 st_29 sf_Gr_177 ?_
    refine Wx.acmp_ne (κ := 0) 56 (by decide) kz kz d_Gr_both_21 (by decide) (fun hb => ?_) (fun hb => ?_)
    · have hF := hF.2 hb
      exact Wx.retv d_Gr_both_56 rfl hF
    · have hF := hF.1 hb
      refine Wa.aload_n (j := 0) d_Gr_both_24 rfl ?_
      refine Wx.gets d_Gr_both_25 st_29 sf_Gr_177 ?_
      refine Wx.cVv (q := E_Gr) (As := [.ref (hd 0 25)]) 3 (d - 1) 0 0 _ d_Gr_both_28 mok_Gr_take vl_Gr_47 rfl rfl rfl (Nat.le_of_ble_eq_true rfl) (by omega) (Nat.zero_le _) (Nat.zero_le _) (s_15 hS (by decide)) hF (fun μ2 hS hF => ?_)
      refine Wa.aload_n (j := 0) d_Gr_both_31 rfl ?_
      refine Wa.iload_n (j := 1) d_Gr_both_32 rfl ?_
      refine Wx.cVv (q := E_Gr) (As := [.int x1]) 3 (d - 1) 0 0 _ d_Gr_both_33 mok_Gr_single vl_Gr_174 rfl rfl rfl (Nat.le_of_ble_eq_true rfl) (by omega) (Nat.zero_le _) (Nat.zero_le _) (s_15 hS (by decide)) hF (fun μ3 hS hF => ?_)
      refine Wa.aload_n (j := 0) d_Gr_both_36 rfl ?_
      have hp4 := d_15_1 (i := 0) hS (by decide)
      refine Wx.getR 3 1 d_Gr_both_37 f_Gr_1 rfl fl_Gr_28 (s_15 hS (by decide)) (hp4.1) ?_
      refine Wx.getR 6 0 d_Gr_both_40 f_Pl_0 rfl fl_Gr_100 (s_18 hS hp4.2) (r_18_0 hS hp4.2) ?_
      refine Wx.gets d_Gr_both_43 st_29 sf_Gr_177 ?_
      refine Wa.iconst (v := (-1)) d_Gr_both_46 rfl ?_
      refine Wx.cVv (q := E_Cd) (As := [.ref (hd 0 25), .int (-1)]) 2 (d - 1) 0 0 _ d_Gr_both_47 mok_Cd_add vl_Gr_170 rfl rfl rfl (Nat.le_of_ble_eq_true rfl) (by omega) (Nat.zero_le _) (Nat.zero_le _) (s_21 hS hp4.2) hF (fun μ5 hS hF => ?_)
      refine Wa.iinc (i := 2) (j := 2) (v := (x2 + 1)) (L' := [(2, .int (x2 + 1)), (0, .ref (hd 15 0)), (1, .int x1)]) d_Gr_both_50 rfl rfl (by decide) rfl ?_
      refine Wa.goto 7 d_Gr_both_53 (by decide) ?_
      exact Wa.loc [1, 2, 0] rfl hF
set_option maxHeartbeats 4000000 in
set_option maxRecDepth 20000 in
theorem g_Gr_single_0 {d rc rs : Nat} {Q : Option Value → Mu → Prop} {μ : Mu} {x1 : Int32} (hD : 1 ≤ d)  (hS : St μ)
    (hF : ((((swv (px μ (hd 15 0) 3)) = 8) → (Cal K_Gr_goesDeeper (d - 1) 0 0 [.ref (hd 15 0), .ref (hd 0 24), .int x1] μ (fun r μ3 => ∃ y4, r = some (.int y4) ∧ ((y4 = 0 → Q none μ3) ∧ (¬ y4 = 0 → (Cal K_Gr_single (d - 1) 0 0 [.ref (hd 15 0), .int (x1 + (1 : Int32))] μ3 (fun r μ5 => r = none ∧ (Cal K_Cd_add (d - 1) 0 0 [.ref (hd 21 (px μ5 (hd 15 0) 1)), .ref (hd 0 24), .int (-1)] μ5 (fun r μ7 => r = none ∧ Q none μ7))))))))) ∧ (((swv (px μ (hd 15 0) 3)) = 9) → (Cal K_Gr_goesDeeper (d - 1) 0 0 [.ref (hd 15 0), .ref (hd 0 31), .int x1] μ (fun r μ9 => ∃ y10, r = some (.int y10) ∧ ((y10 = 0 → Q none μ9) ∧ (¬ y10 = 0 → (Cal K_Gr_test (d - 1) 0 0 [.ref (hd 15 0), .int (x1 + (1 : Int32))] μ9 (fun r μ11 => r = none ∧ (Cal K_Gr_take (d - 1) 0 0 [.ref (hd 15 0), .ref (hd 0 32)] μ11 (fun r μ12 => r = none ∧ Q none μ12))))))))) ∧ (((swv (px μ (hd 15 0) 3)) = 10 ∨ (swv (px μ (hd 15 0) 3)) = 11) → (Cal K_Gr_board (d - 1) 0 0 [.ref (hd 15 0), .ref (hd 0 (px μ (hd 15 0) 3))] μ (fun r μ15 => r = none ∧ Q none μ15))) ∧ (((swv (px μ (hd 15 0) 3)).toInt < 8 ∨ 11 < (swv (px μ (hd 15 0) 3)).toInt) → (Cal K_Gr_sum (d - 1) 0 0 [.ref (hd 15 0), .int x1] μ (fun r μ17 => r = none ∧ (Cal K_Gr_takeComparison (d - 1) 0 0 [.ref (hd 15 0)] μ17 (fun r μ19 => r = none ∧ (Cal K_Gr_sum (d - 1) 0 0 [.ref (hd 15 0), .int x1] μ19 (fun r μ20 => r = none ∧ (Cal K_Cd_add (d - 1) 0 0 [.ref (hd 21 (px μ20 (hd 15 0) 1)), .ref (hd 0 (px μ17 (hd 15 0) 3)), .int (-1)] μ20 (fun r μ22 => r = none ∧ Q none μ22))))))))))) : Wx K_Gr_single d rc rs Q 0 [(0, .ref (hd 15 0)), (1, .int x1)] [] μ := by
  refine Wx.gets d_Gr_single_0 st_1 sf_Gr_51 ?_
  refine Wa.aload_n (j := 0) d_Gr_single_3 rfl ?_
  have hp1 := d_15_3 (i := 0) hS (by decide)
  refine Wx.getR 3 3 d_Gr_single_4 f_Gr_3 rfl fl_Gr_21 (s_15 hS (by decide)) (hp1.1) ?_
  refine Wx.ord hS d_Gr_single_7 ul_Gr_57 (Nat.le_of_ble_eq_true rfl) hD hp1.2 ?_
  refine Wx.swald hS d_Gr_single_10 hp1.2 ?_
  have k2 : ((swv (px μ (hd 15 0) 3)) = 8) → Wx K_Gr_single d rc rs Q 40 [(0, .ref (hd 15 0)), (1, .int x1)] [] μ := by
    intro hb
    have hF := hF.1 hb
    refine Wa.aload_n (j := 0) d_Gr_single_40 rfl ?_
    refine Wx.gets d_Gr_single_41 st_28 sf_Gr_180 ?_
    refine Wa.iload_n (j := 1) d_Gr_single_44 rfl ?_
    refine Wx.cVi (q := E_Gr) (As := [.ref (hd 0 24), .int x1]) 3 (d - 1) 0 0 _ d_Gr_single_45 mok_Gr_goesDeeper vl_Gr_183 rfl rfl rfl (Nat.le_of_ble_eq_true rfl) (by omega) (Nat.zero_le _) (Nat.zero_le _) (s_15 hS (by decide)) hF (fun y4 μ3 hS hF => ?_)
    refine Wa.if_eq 145 d_Gr_single_48 (by decide) (fun hb => ?_) (fun hb => ?_)
    · have hF := hF.1 hb
      exact Wx.retv d_Gr_single_145 rfl hF
    · have hF := hF.2 hb
      refine Wa.aload_n (j := 0) d_Gr_single_51 rfl ?_
      refine Wa.iload_n (j := 1) d_Gr_single_52 rfl ?_
      refine Wa.iconst (v := 1) d_Gr_single_53 rfl ?_
      refine Wa.iadd d_Gr_single_54 ?_
      refine Wx.cVv (q := E_Gr) (As := [.int (x1 + (1 : Int32))]) 3 (d - 1) 0 0 _ d_Gr_single_55 mok_Gr_single vl_Gr_174 rfl rfl rfl (Nat.le_of_ble_eq_true rfl) (by omega) (Nat.zero_le _) (Nat.zero_le _) (s_15 hS (by decide)) hF (fun μ5 hS hF => ?_)
      refine Wa.aload_n (j := 0) d_Gr_single_58 rfl ?_
      have hp6 := d_15_1 (i := 0) hS (by decide)
      refine Wx.getR 3 1 d_Gr_single_59 f_Gr_1 rfl fl_Gr_28 (s_15 hS (by decide)) (hp6.1) ?_
      refine Wx.getR 6 0 d_Gr_single_62 f_Pl_0 rfl fl_Gr_100 (s_18 hS hp6.2) (r_18_0 hS hp6.2) ?_
      refine Wx.gets d_Gr_single_65 st_28 sf_Gr_180 ?_
      refine Wa.iconst (v := (-1)) d_Gr_single_68 rfl ?_
      refine Wx.cVv (q := E_Cd) (As := [.ref (hd 0 24), .int (-1)]) 2 (d - 1) 0 0 _ d_Gr_single_69 mok_Cd_add vl_Gr_170 rfl rfl rfl (Nat.le_of_ble_eq_true rfl) (by omega) (Nat.zero_le _) (Nat.zero_le _) (s_21 hS hp6.2) hF (fun μ7 hS hF => ?_)
      refine Wa.goto 145 d_Gr_single_72 (by decide) ?_
      exact Wx.retv d_Gr_single_145 rfl hF
  have k8 : ((swv (px μ (hd 15 0) 3)) = 9) → Wx K_Gr_single d rc rs Q 75 [(0, .ref (hd 15 0)), (1, .int x1)] [] μ := by
    intro hb
    have hF := hF.2.1 hb
    refine Wa.aload_n (j := 0) d_Gr_single_75 rfl ?_
    refine Wx.gets d_Gr_single_76 st_35 sf_Gr_187 ?_
    refine Wa.iload_n (j := 1) d_Gr_single_79 rfl ?_
    refine Wx.cVi (q := E_Gr) (As := [.ref (hd 0 31), .int x1]) 3 (d - 1) 0 0 _ d_Gr_single_80 mok_Gr_goesDeeper vl_Gr_183 rfl rfl rfl (Nat.le_of_ble_eq_true rfl) (by omega) (Nat.zero_le _) (Nat.zero_le _) (s_15 hS (by decide)) hF (fun y10 μ9 hS hF => ?_)
    refine Wa.if_eq 145 d_Gr_single_83 (by decide) (fun hb => ?_) (fun hb => ?_)
    · have hF := hF.1 hb
      exact Wx.retv d_Gr_single_145 rfl hF
    · have hF := hF.2 hb
      refine Wa.aload_n (j := 0) d_Gr_single_86 rfl ?_
      refine Wa.iload_n (j := 1) d_Gr_single_87 rfl ?_
      refine Wa.iconst (v := 1) d_Gr_single_88 rfl ?_
      refine Wa.iadd d_Gr_single_89 ?_
      refine Wx.cVv (q := E_Gr) (As := [.int (x1 + (1 : Int32))]) 3 (d - 1) 0 0 _ d_Gr_single_90 mok_Gr_test vl_Gr_149 rfl rfl rfl (Nat.le_of_ble_eq_true rfl) (by omega) (Nat.zero_le _) (Nat.zero_le _) (s_15 hS (by decide)) hF (fun μ11 hS hF => ?_)
      refine Wa.aload_n (j := 0) d_Gr_single_93 rfl ?_
      refine Wx.gets d_Gr_single_94 st_36 sf_Gr_190 ?_
      refine Wx.cVv (q := E_Gr) (As := [.ref (hd 0 32)]) 3 (d - 1) 0 0 _ d_Gr_single_97 mok_Gr_take vl_Gr_47 rfl rfl rfl (Nat.le_of_ble_eq_true rfl) (by omega) (Nat.zero_le _) (Nat.zero_le _) (s_15 hS (by decide)) hF (fun μ12 hS hF => ?_)
      refine Wa.goto 145 d_Gr_single_100 (by decide) ?_
      exact Wx.retv d_Gr_single_145 rfl hF
  have k13 : ((swv (px μ (hd 15 0) 3)) = 10 ∨ (swv (px μ (hd 15 0) 3)) = 11) → Wx K_Gr_single d rc rs Q 103 [(0, .ref (hd 15 0)), (1, .int x1)] [] μ := by
    intro hb
    have hF := hF.2.2.1 hb
    refine Wa.aload_n (j := 0) d_Gr_single_103 rfl ?_
    refine Wa.aload_n (j := 0) d_Gr_single_104 rfl ?_
    have hp14 := d_15_3 (i := 0) hS (by decide)
    refine Wx.getR 3 3 d_Gr_single_105 f_Gr_3 rfl fl_Gr_21 (s_15 hS (by decide)) (hp14.1) ?_
    refine Wx.cVv (q := E_Gr) (As := [.ref (hd 0 (px μ (hd 15 0) 3))]) 3 (d - 1) 0 0 _ d_Gr_single_108 mok_Gr_board vl_Gr_193 rfl rfl rfl (Nat.le_of_ble_eq_true rfl) (by omega) (Nat.zero_le _) (Nat.zero_le _) (s_15 hS (by decide)) hF (fun μ15 hS hF => ?_)
    refine Wa.goto 145 d_Gr_single_111 (by decide) ?_
    exact Wx.retv d_Gr_single_145 rfl hF
  have k16 : ((swv (px μ (hd 15 0) 3)).toInt < 8 ∨ 11 < (swv (px μ (hd 15 0) 3)).toInt) → Wx K_Gr_single d rc rs Q 114 [(0, .ref (hd 15 0)), (1, .int x1)] [] μ := by
    intro hb
    have hF := hF.2.2.2 hb
    refine Wa.aload_n (j := 0) d_Gr_single_114 rfl ?_
    refine Wa.iload_n (j := 1) d_Gr_single_115 rfl ?_
    refine Wx.cVv (q := E_Gr) (As := [.int x1]) 3 (d - 1) 0 0 _ d_Gr_single_116 mok_Gr_sum vl_Gr_121 rfl rfl rfl (Nat.le_of_ble_eq_true rfl) (by omega) (Nat.zero_le _) (Nat.zero_le _) (s_15 hS (by decide)) hF (fun μ17 hS hF => ?_)
    refine Wa.aload_n (j := 0) d_Gr_single_119 rfl ?_
    have hp18 := d_15_3 (i := 0) hS (by decide)
    refine Wx.getR 3 3 d_Gr_single_120 f_Gr_3 rfl fl_Gr_21 (s_15 hS (by decide)) (hp18.1) ?_
    refine Wa.astore_n (i := 2) (L' := [(2, .ref (hd 0 (px μ17 (hd 15 0) 3))), (0, .ref (hd 15 0)), (1, .int x1)]) d_Gr_single_123 rfl (by decide) rfl ?_
    refine Wa.aload_n (j := 1) d_Gr_single_124 rfl ?_
    refine Wx.cVv (q := E_Gr) (As := []) 3 (d - 1) 0 0 _ d_Gr_single_125 mok_Gr_takeComparison vl_Gr_196 rfl rfl rfl (Nat.le_of_ble_eq_true rfl) (by omega) (Nat.zero_le _) (Nat.zero_le _) (s_15 hS (by decide)) hF (fun μ19 hS hF => ?_)
    refine Wa.aload_n (j := 1) d_Gr_single_128 rfl ?_
    refine Wa.iload_n (j := 2) d_Gr_single_129 rfl ?_
    refine Wx.cVv (q := E_Gr) (As := [.int x1]) 3 (d - 1) 0 0 _ d_Gr_single_130 mok_Gr_sum vl_Gr_121 rfl rfl rfl (Nat.le_of_ble_eq_true rfl) (by omega) (Nat.zero_le _) (Nat.zero_le _) (s_15 hS (by decide)) hF (fun μ20 hS hF => ?_)
    refine Wa.aload_n (j := 1) d_Gr_single_133 rfl ?_
    have hp21 := d_15_1 (i := 0) hS (by decide)
    refine Wx.getR 3 1 d_Gr_single_134 f_Gr_1 rfl fl_Gr_28 (s_15 hS (by decide)) (hp21.1) ?_
    refine Wx.getR 6 0 d_Gr_single_137 f_Pl_0 rfl fl_Gr_100 (s_18 hS hp21.2) (r_18_0 hS hp21.2) ?_
    refine Wa.aload_n (j := 0) d_Gr_single_140 rfl ?_
    refine Wa.iconst (v := (-1)) d_Gr_single_141 rfl ?_
    refine Wx.cVv (q := E_Cd) (As := [.ref (hd 0 (px μ17 (hd 15 0) 3)), .int (-1)]) 2 (d - 1) 0 0 _ d_Gr_single_142 mok_Cd_add vl_Gr_170 rfl rfl rfl (Nat.le_of_ble_eq_true rfl) (by omega) (Nat.zero_le _) (Nat.zero_le _) (s_21 hS hp21.2) hF (fun μ22 hS hF => ?_)
    exact Wx.retv d_Gr_single_145 rfl hF
  rcases sw_8_11 (swv (px μ (hd 15 0) 3)) with hb | hb | hb | hb | hb | hb
  · exact Wa.tabOut 114 d_Gr_single_11 (Or.inl hb) (by decide) (k16 (Or.inl hb))
  · exact Wa.tabOut 114 d_Gr_single_11 (Or.inr hb) (by decide) (k16 (Or.inr hb))
  · exact Wa.tabIn 40 d_Gr_single_11 (by rw [hb]; decide) (by rw [hb]; decide) (by rw [hb]; rfl) (by decide) (k2 hb)
  · exact Wa.tabIn 75 d_Gr_single_11 (by rw [hb]; decide) (by rw [hb]; decide) (by rw [hb]; rfl) (by decide) (k8 hb)
  · exact Wa.tabIn 103 d_Gr_single_11 (by rw [hb]; decide) (by rw [hb]; decide) (by rw [hb]; rfl) (by decide) (k13 (Or.inl hb))
  · exact Wa.tabIn 103 d_Gr_single_11 (by rw [hb]; decide) (by rw [hb]; decide) (by rw [hb]; rfl) (by decide) (k13 (Or.inr hb))
theorem e_Gr_single {d rc rs : Nat} {Q : Option Value → Mu → Prop} {μ : Mu} {x1 : Int32} (hk : Wx K_Gr_single d rc rs (fun r μ' => St μ' ∧ Q r μ') 0 [(0, .ref (hd 15 0)), (1, .int x1)] [] μ) : Cal K_Gr_single d rc rs [.ref (hd 15 0), .int x1] μ Q := Cal.of (by decide +kernel) rfl rfl (Nat.le_of_ble_eq_true rfl) rfl hk
set_option maxHeartbeats 4000000 in
set_option maxRecDepth 20000 in
theorem g_Gr_takeComparison_0 {d rc rs : Nat} {Q : Option Value → Mu → Prop} {μ : Mu}  (hD : 1 ≤ d)  (hS : St μ)
    (hF : ((((swv (px μ (hd 15 0) 3)) = 12 ∨ (swv (px μ (hd 15 0) 3)) = 13 ∨ (swv (px μ (hd 15 0) 3)) = 14 ∨ (swv (px μ (hd 15 0) 3)) = 15 ∨ (swv (px μ (hd 15 0) 3)) = 16) → (Cal K_Gr_take (d - 1) 0 0 [.ref (hd 15 0), .ref (hd 0 (px μ (hd 15 0) 3))] μ (fun r μ4 => r = none ∧ Q none μ4))) ∧ (((swv (px μ (hd 15 0) 3)).toInt < 12 ∨ 16 < (swv (px μ (hd 15 0) 3)).toInt) → Q none (setR μ (hd 15 0) 3 (hd 0 47))))) : Wx K_Gr_takeComparison d rc rs Q 0 [(0, .ref (hd 15 0))] [] μ := by
  refine Wx.gets d_Gr_takeComparison_0 st_1 sf_Gr_51 ?_
  refine Wa.aload_n (j := 0) d_Gr_takeComparison_3 rfl ?_
  have hp1 := d_15_3 (i := 0) hS (by decide)
  refine Wx.getR 3 3 d_Gr_takeComparison_4 f_Gr_3 rfl fl_Gr_21 (s_15 hS (by decide)) (hp1.1) ?_
  refine Wx.ord hS d_Gr_takeComparison_7 ul_Gr_57 (Nat.le_of_ble_eq_true rfl) hD hp1.2 ?_
  refine Wx.swald hS d_Gr_takeComparison_10 hp1.2 ?_
  have k2 : ((swv (px μ (hd 15 0) 3)) = 12 ∨ (swv (px μ (hd 15 0) 3)) = 13 ∨ (swv (px μ (hd 15 0) 3)) = 14 ∨ (swv (px μ (hd 15 0) 3)) = 15 ∨ (swv (px μ (hd 15 0) 3)) = 16) → Wx K_Gr_takeComparison d rc rs Q 44 [(0, .ref (hd 15 0))] [] μ := by
    intro hb
    have hF := hF.1 hb
    refine Wa.aload_n (j := 0) d_Gr_takeComparison_44 rfl ?_
    refine Wa.aload_n (j := 0) d_Gr_takeComparison_45 rfl ?_
    have hp3 := d_15_3 (i := 0) hS (by decide)
    refine Wx.getR 3 3 d_Gr_takeComparison_46 f_Gr_3 rfl fl_Gr_21 (s_15 hS (by decide)) (hp3.1) ?_
    refine Wx.cVv (q := E_Gr) (As := [.ref (hd 0 (px μ (hd 15 0) 3))]) 3 (d - 1) 0 0 _ d_Gr_takeComparison_49 mok_Gr_take vl_Gr_47 rfl rfl rfl (Nat.le_of_ble_eq_true rfl) (by omega) (Nat.zero_le _) (Nat.zero_le _) (s_15 hS (by decide)) hF (fun μ4 hS hF => ?_)
    refine Wa.goto 62 d_Gr_takeComparison_52 (by decide) ?_
    exact Wx.retv d_Gr_takeComparison_62 rfl hF
  have k5 : ((swv (px μ (hd 15 0) 3)).toInt < 12 ∨ 16 < (swv (px μ (hd 15 0) 3)).toInt) → Wx K_Gr_takeComparison d rc rs Q 55 [(0, .ref (hd 15 0))] [] μ := by
    intro hb
    have hF := hF.2 hb
    refine Wa.aload_n (j := 0) d_Gr_takeComparison_55 rfl ?_
    refine Wx.gets d_Gr_takeComparison_56 st_51 sf_Gr_15 ?_
    refine Wx.putR 3 3 d_Gr_takeComparison_59 f_Gr_3 rfl ok_Gr fl_Gr_21 (Or.inl rfl) w_15 (s_15 hS (by decide)) ?_
    have hS : St (setR μ (hd 15 0) 3 (hd 0 47)) := sd_15_3 (μ := μ) hS (by decide) (by decide)
    exact Wx.retv d_Gr_takeComparison_62 rfl hF
  rcases sw_12_16 (swv (px μ (hd 15 0) 3)) with hb | hb | hb | hb | hb | hb | hb
  · exact Wa.tabOut 55 d_Gr_takeComparison_11 (Or.inl hb) (by decide) (k5 (Or.inl hb))
  · exact Wa.tabOut 55 d_Gr_takeComparison_11 (Or.inr hb) (by decide) (k5 (Or.inr hb))
  · exact Wa.tabIn 44 d_Gr_takeComparison_11 (by rw [hb]; decide) (by rw [hb]; decide) (by rw [hb]; rfl) (by decide) (k2 (Or.inl hb))
  · exact Wa.tabIn 44 d_Gr_takeComparison_11 (by rw [hb]; decide) (by rw [hb]; decide) (by rw [hb]; rfl) (by decide) (k2 (Or.inr (Or.inl hb)))
  · exact Wa.tabIn 44 d_Gr_takeComparison_11 (by rw [hb]; decide) (by rw [hb]; decide) (by rw [hb]; rfl) (by decide) (k2 (Or.inr (Or.inr (Or.inl hb))))
  · exact Wa.tabIn 44 d_Gr_takeComparison_11 (by rw [hb]; decide) (by rw [hb]; decide) (by rw [hb]; rfl) (by decide) (k2 (Or.inr (Or.inr (Or.inr (Or.inl hb)))))
  · exact Wa.tabIn 44 d_Gr_takeComparison_11 (by rw [hb]; decide) (by rw [hb]; decide) (by rw [hb]; rfl) (by decide) (k2 (Or.inr (Or.inr (Or.inr (Or.inr hb)))))
theorem e_Gr_takeComparison {d rc rs : Nat} {Q : Option Value → Mu → Prop} {μ : Mu}  (hk : Wx K_Gr_takeComparison d rc rs (fun r μ' => St μ' ∧ Q r μ') 0 [(0, .ref (hd 15 0))] [] μ) : Cal K_Gr_takeComparison d rc rs [.ref (hd 15 0)] μ Q := Cal.of (by decide +kernel) rfl rfl (Nat.le_of_ble_eq_true rfl) rfl hk
set_option maxHeartbeats 4000000 in
set_option maxRecDepth 20000 in
theorem g_Gr_sum_0 {d rc rs : Nat} {Q : Option Value → Mu → Prop} {μ : Mu} {x1 : Int32} (hD : 1 ≤ d)  (hS : St μ)
    (hF : (Cal K_Gr_product (d - 1) 0 0 [.ref (hd 15 0), .int x1] μ (fun r μ1 => r = none ∧ Wx K_Gr_sum d rc rs Q 7 [(0, .ref (hd 15 0)), (1, .int x1), (2, .int 0)] [] μ1))) : Wx K_Gr_sum d rc rs Q 0 [(0, .ref (hd 15 0)), (1, .int x1)] [] μ := by
  refine Wa.aload_n (j := 0) d_Gr_sum_0 rfl ?_
  refine Wa.iload_n (j := 1) d_Gr_sum_1 rfl ?_
  refine Wx.cVv (q := E_Gr) (As := [.int x1]) 3 (d - 1) 0 0 _ d_Gr_sum_2 mok_Gr_product vl_Gr_199 rfl rfl rfl (Nat.le_of_ble_eq_true rfl) (by omega) (Nat.zero_le _) (Nat.zero_le _) (s_15 hS (by decide)) hF (fun μ1 hS hF => ?_)
  refine Wa.iconst (v := 0) d_Gr_sum_5 rfl ?_
  refine Wa.istore_n (i := 2) (L' := [(2, .int 0), (0, .ref (hd 15 0)), (1, .int x1)]) d_Gr_sum_6 rfl (by decide) rfl ?_
  exact Wa.loc [1, 2, 0] rfl hF
theorem e_Gr_sum {d rc rs : Nat} {Q : Option Value → Mu → Prop} {μ : Mu} {x1 : Int32} (hk : Wx K_Gr_sum d rc rs (fun r μ' => St μ' ∧ Q r μ') 0 [(0, .ref (hd 15 0)), (1, .int x1)] [] μ) : Cal K_Gr_sum d rc rs [.ref (hd 15 0), .int x1] μ Q := Cal.of (by decide +kernel) rfl rfl (Nat.le_of_ble_eq_true rfl) rfl hk
set_option maxHeartbeats 4000000 in
set_option maxRecDepth 20000 in
theorem g_Gr_sum_7 {d rc rs : Nat} {Q : Option Value → Mu → Prop} {μ : Mu} {x1 : Int32} {x2 : Int32} (hD : 1 ≤ d)  (hS : St μ)
    (hF : ((400 ≤ x2 → Q none μ) ∧ (¬ 400 ≤ x2 → (((px μ (hd 15 0) 3) = 35 → (Cal K_Gr_take (d - 1) 0 0 [.ref (hd 15 0), .ref (hd 0 (px μ (hd 15 0) 3))] μ (fun r μ3 => r = none ∧ (Cal K_Gr_product (d - 1) 0 0 [.ref (hd 15 0), .int x1] μ3 (fun r μ4 => r = none ∧ (Cal K_Cd_add (d - 1) 0 0 [.ref (hd 21 (px μ4 (hd 15 0) 1)), .ref (hd 0 (px μ (hd 15 0) 3)), .int (-1)] μ4 (fun r μ6 => r = none ∧ Wx K_Gr_sum d rc rs Q 7 [(0, .ref (hd 15 0)), (1, .int x1), (2, .int (x2 + 1))] [] μ6))))))) ∧ (¬ (px μ (hd 15 0) 3) = 35 → (((px μ (hd 15 0) 3) = 36 → (Cal K_Gr_take (d - 1) 0 0 [.ref (hd 15 0), .ref (hd 0 (px μ (hd 15 0) 3))] μ (fun r μ9 => r = none ∧ (Cal K_Gr_product (d - 1) 0 0 [.ref (hd 15 0), .int x1] μ9 (fun r μ10 => r = none ∧ (Cal K_Cd_add (d - 1) 0 0 [.ref (hd 21 (px μ10 (hd 15 0) 1)), .ref (hd 0 (px μ (hd 15 0) 3)), .int (-1)] μ10 (fun r μ12 => r = none ∧ Wx K_Gr_sum d rc rs Q 7 [(0, .ref (hd 15 0)), (1, .int x1), (2, .int (x2 + 1))] [] μ12))))))) ∧ (¬ (px μ (hd 15 0) 3) = 36 → Q none μ))))))) : Wx K_Gr_sum d rc rs Q 7 [(0, .ref (hd 15 0)), (1, .int x1), (2, .int x2)] [] μ := by
  refine Wa.iload_n (j := 2) d_Gr_sum_7 rfl ?_
  refine Wa.sipush (v := 400) d_Gr_sum_8 rfl ?_
  refine Wa.icmp_ge 67 d_Gr_sum_11 (by decide) (fun hb => ?_) (fun hb => ?_)
  · have hF := hF.1 hb
    exact Wx.retv d_Gr_sum_67 rfl hF
  · have hF := hF.2 hb
    refine Wa.aload_n (j := 0) d_Gr_sum_14 rfl ?_
    have hp1 := d_15_3 (i := 0) hS (by decide)
    refine Wx.getR 3 3 d_Gr_sum_15 f_Gr_3 rfl fl_Gr_21 (s_15 hS (by decide)) (hp1.1) ?_
    refine Wx.gets d_Gr_sum_18 st_39 sf_Gr_202 ?_
    refine Wx.acmp_eq (κ := 0) 34 (by decide) kz kz d_Gr_sum_21 (by decide) (fun hb => ?_) (fun hb => ?_)
    · have hF := hF.1 hb
      refine Wa.aload_n (j := 0) d_Gr_sum_34 rfl ?_
      have hp2 := d_15_3 (i := 0) hS (by decide)
      refine Wx.getR 3 3 d_Gr_sum_35 f_Gr_3 rfl fl_Gr_21 (s_15 hS (by decide)) (hp2.1) ?_
      refine Wa.astore_n (i := 3) (L' := [(3, .ref (hd 0 (px μ (hd 15 0) 3))), (0, .ref (hd 15 0)), (1, .int x1), (2, .int x2)]) d_Gr_sum_38 rfl (by decide) rfl ?_
      refine Wa.aload_n (j := 1) d_Gr_sum_39 rfl ?_
      refine Wa.aload_n (j := 0) d_Gr_sum_40 rfl ?_
      refine Wx.cVv (q := E_Gr) (As := [.ref (hd 0 (px μ (hd 15 0) 3))]) 3 (d - 1) 0 0 _ d_Gr_sum_41 mok_Gr_take vl_Gr_47 rfl rfl rfl (Nat.le_of_ble_eq_true rfl) (by omega) (Nat.zero_le _) (Nat.zero_le _) (s_15 hS (by decide)) hF (fun μ3 hS hF => ?_)
      refine Wa.aload_n (j := 1) d_Gr_sum_44 rfl ?_
      refine Wa.iload_n (j := 2) d_Gr_sum_45 rfl ?_
      refine Wx.cVv (q := E_Gr) (As := [.int x1]) 3 (d - 1) 0 0 _ d_Gr_sum_46 mok_Gr_product vl_Gr_199 rfl rfl rfl (Nat.le_of_ble_eq_true rfl) (by omega) (Nat.zero_le _) (Nat.zero_le _) (s_15 hS (by decide)) hF (fun μ4 hS hF => ?_)
      refine Wa.aload_n (j := 1) d_Gr_sum_49 rfl ?_
      have hp5 := d_15_1 (i := 0) hS (by decide)
      refine Wx.getR 3 1 d_Gr_sum_50 f_Gr_1 rfl fl_Gr_28 (s_15 hS (by decide)) (hp5.1) ?_
      refine Wx.getR 6 0 d_Gr_sum_53 f_Pl_0 rfl fl_Gr_100 (s_18 hS hp5.2) (r_18_0 hS hp5.2) ?_
      refine Wa.aload_n (j := 0) d_Gr_sum_56 rfl ?_
      refine Wa.iconst (v := (-1)) d_Gr_sum_57 rfl ?_
      refine Wx.cVv (q := E_Cd) (As := [.ref (hd 0 (px μ (hd 15 0) 3)), .int (-1)]) 2 (d - 1) 0 0 _ d_Gr_sum_58 mok_Cd_add vl_Gr_170 rfl rfl rfl (Nat.le_of_ble_eq_true rfl) (by omega) (Nat.zero_le _) (Nat.zero_le _) (s_21 hS hp5.2) hF (fun μ6 hS hF => ?_)
      refine Wa.iinc (i := 2) (j := 3) (v := (x2 + 1)) (L' := [(2, .int (x2 + 1)), (3, .ref (hd 0 (px μ (hd 15 0) 3))), (0, .ref (hd 15 0)), (1, .int x1)]) d_Gr_sum_61 rfl rfl (by decide) rfl ?_
      refine Wa.goto 7 d_Gr_sum_64 (by decide) ?_
      exact Wa.loc [2, 3, 0] rfl hF
    · have hF := hF.2 hb
      refine Wa.aload_n (j := 0) d_Gr_sum_24 rfl ?_
      have hp7 := d_15_3 (i := 0) hS (by decide)
      refine Wx.getR 3 3 d_Gr_sum_25 f_Gr_3 rfl fl_Gr_21 (s_15 hS (by decide)) (hp7.1) ?_
      refine Wx.gets d_Gr_sum_28 st_40 sf_Gr_205 ?_
      refine Wx.acmp_ne (κ := 0) 67 (by decide) kz kz d_Gr_sum_31 (by decide) (fun hb => ?_) (fun hb => ?_)
      · have hF := hF.2 hb
        exact Wx.retv d_Gr_sum_67 rfl hF
      · have hF := hF.1 hb
        refine Wa.aload_n (j := 0) d_Gr_sum_34 rfl ?_
        have hp8 := d_15_3 (i := 0) hS (by decide)
        refine Wx.getR 3 3 d_Gr_sum_35 f_Gr_3 rfl fl_Gr_21 (s_15 hS (by decide)) (hp8.1) ?_
        refine Wa.astore_n (i := 3) (L' := [(3, .ref (hd 0 (px μ (hd 15 0) 3))), (0, .ref (hd 15 0)), (1, .int x1), (2, .int x2)]) d_Gr_sum_38 rfl (by decide) rfl ?_
        refine Wa.aload_n (j := 1) d_Gr_sum_39 rfl ?_
        refine Wa.aload_n (j := 0) d_Gr_sum_40 rfl ?_
        refine Wx.cVv (q := E_Gr) (As := [.ref (hd 0 (px μ (hd 15 0) 3))]) 3 (d - 1) 0 0 _ d_Gr_sum_41 mok_Gr_take vl_Gr_47 rfl rfl rfl (Nat.le_of_ble_eq_true rfl) (by omega) (Nat.zero_le _) (Nat.zero_le _) (s_15 hS (by decide)) hF (fun μ9 hS hF => ?_)
        refine Wa.aload_n (j := 1) d_Gr_sum_44 rfl ?_
        refine Wa.iload_n (j := 2) d_Gr_sum_45 rfl ?_
        refine Wx.cVv (q := E_Gr) (As := [.int x1]) 3 (d - 1) 0 0 _ d_Gr_sum_46 mok_Gr_product vl_Gr_199 rfl rfl rfl (Nat.le_of_ble_eq_true rfl) (by omega) (Nat.zero_le _) (Nat.zero_le _) (s_15 hS (by decide)) hF (fun μ10 hS hF => ?_)
        refine Wa.aload_n (j := 1) d_Gr_sum_49 rfl ?_
        have hp11 := d_15_1 (i := 0) hS (by decide)
        refine Wx.getR 3 1 d_Gr_sum_50 f_Gr_1 rfl fl_Gr_28 (s_15 hS (by decide)) (hp11.1) ?_
        refine Wx.getR 6 0 d_Gr_sum_53 f_Pl_0 rfl fl_Gr_100 (s_18 hS hp11.2) (r_18_0 hS hp11.2) ?_
        refine Wa.aload_n (j := 0) d_Gr_sum_56 rfl ?_
        refine Wa.iconst (v := (-1)) d_Gr_sum_57 rfl ?_
        refine Wx.cVv (q := E_Cd) (As := [.ref (hd 0 (px μ (hd 15 0) 3)), .int (-1)]) 2 (d - 1) 0 0 _ d_Gr_sum_58 mok_Cd_add vl_Gr_170 rfl rfl rfl (Nat.le_of_ble_eq_true rfl) (by omega) (Nat.zero_le _) (Nat.zero_le _) (s_21 hS hp11.2) hF (fun μ12 hS hF => ?_)
        refine Wa.iinc (i := 2) (j := 3) (v := (x2 + 1)) (L' := [(2, .int (x2 + 1)), (3, .ref (hd 0 (px μ (hd 15 0) 3))), (0, .ref (hd 15 0)), (1, .int x1)]) d_Gr_sum_61 rfl rfl (by decide) rfl ?_
        refine Wa.goto 7 d_Gr_sum_64 (by decide) ?_
        exact Wa.loc [2, 3, 0] rfl hF
set_option maxHeartbeats 4000000 in
set_option maxRecDepth 20000 in
theorem g_Gr_product_0 {d rc rs : Nat} {Q : Option Value → Mu → Prop} {μ : Mu} {x1 : Int32} (hD : 1 ≤ d)  (hS : St μ)
    (hF : (Cal K_Gr_value (d - 1) 0 0 [.ref (hd 15 0), .int x1] μ (fun r μ1 => r = none ∧ Wx K_Gr_product d rc rs Q 7 [(0, .ref (hd 15 0)), (1, .int x1), (2, .int 0)] [] μ1))) : Wx K_Gr_product d rc rs Q 0 [(0, .ref (hd 15 0)), (1, .int x1)] [] μ := by
  refine Wa.aload_n (j := 0) d_Gr_product_0 rfl ?_
  refine Wa.iload_n (j := 1) d_Gr_product_1 rfl ?_
  refine Wx.cVv (q := E_Gr) (As := [.int x1]) 3 (d - 1) 0 0 _ d_Gr_product_2 mok_Gr_value vl_Gr_208 rfl rfl rfl (Nat.le_of_ble_eq_true rfl) (by omega) (Nat.zero_le _) (Nat.zero_le _) (s_15 hS (by decide)) hF (fun μ1 hS hF => ?_)
  refine Wa.iconst (v := 0) d_Gr_product_5 rfl ?_
  refine Wa.istore_n (i := 2) (L' := [(2, .int 0), (0, .ref (hd 15 0)), (1, .int x1)]) d_Gr_product_6 rfl (by decide) rfl ?_
  exact Wa.loc [1, 2, 0] rfl hF
theorem e_Gr_product {d rc rs : Nat} {Q : Option Value → Mu → Prop} {μ : Mu} {x1 : Int32} (hk : Wx K_Gr_product d rc rs (fun r μ' => St μ' ∧ Q r μ') 0 [(0, .ref (hd 15 0)), (1, .int x1)] [] μ) : Cal K_Gr_product d rc rs [.ref (hd 15 0), .int x1] μ Q := Cal.of (by decide +kernel) rfl rfl (Nat.le_of_ble_eq_true rfl) rfl hk
set_option maxHeartbeats 4000000 in
set_option maxRecDepth 20000 in
theorem g_Gr_product_7 {d rc rs : Nat} {Q : Option Value → Mu → Prop} {μ : Mu} {x1 : Int32} {x2 : Int32} (hD : 1 ≤ d)  (hS : St μ)
    (hF : ((400 ≤ x2 → Q none μ) ∧ (¬ 400 ≤ x2 → (((px μ (hd 15 0) 3) = 37 → (Cal K_Gr_take (d - 1) 0 0 [.ref (hd 15 0), .ref (hd 0 (px μ (hd 15 0) 3))] μ (fun r μ3 => r = none ∧ (Cal K_Gr_value (d - 1) 0 0 [.ref (hd 15 0), .int x1] μ3 (fun r μ4 => r = none ∧ (Cal K_Cd_add (d - 1) 0 0 [.ref (hd 21 (px μ4 (hd 15 0) 1)), .ref (hd 0 (px μ (hd 15 0) 3)), .int (-1)] μ4 (fun r μ6 => r = none ∧ Wx K_Gr_product d rc rs Q 7 [(0, .ref (hd 15 0)), (1, .int x1), (2, .int (x2 + 1))] [] μ6))))))) ∧ (¬ (px μ (hd 15 0) 3) = 37 → (((px μ (hd 15 0) 3) = 38 → (Cal K_Gr_take (d - 1) 0 0 [.ref (hd 15 0), .ref (hd 0 (px μ (hd 15 0) 3))] μ (fun r μ9 => r = none ∧ (Cal K_Gr_value (d - 1) 0 0 [.ref (hd 15 0), .int x1] μ9 (fun r μ10 => r = none ∧ (Cal K_Cd_add (d - 1) 0 0 [.ref (hd 21 (px μ10 (hd 15 0) 1)), .ref (hd 0 (px μ (hd 15 0) 3)), .int (-1)] μ10 (fun r μ12 => r = none ∧ Wx K_Gr_product d rc rs Q 7 [(0, .ref (hd 15 0)), (1, .int x1), (2, .int (x2 + 1))] [] μ12))))))) ∧ (¬ (px μ (hd 15 0) 3) = 38 → Q none μ))))))) : Wx K_Gr_product d rc rs Q 7 [(0, .ref (hd 15 0)), (1, .int x1), (2, .int x2)] [] μ := by
  refine Wa.iload_n (j := 2) d_Gr_product_7 rfl ?_
  refine Wa.sipush (v := 400) d_Gr_product_8 rfl ?_
  refine Wa.icmp_ge 67 d_Gr_product_11 (by decide) (fun hb => ?_) (fun hb => ?_)
  · have hF := hF.1 hb
    exact Wx.retv d_Gr_product_67 rfl hF
  · have hF := hF.2 hb
    refine Wa.aload_n (j := 0) d_Gr_product_14 rfl ?_
    have hp1 := d_15_3 (i := 0) hS (by decide)
    refine Wx.getR 3 3 d_Gr_product_15 f_Gr_3 rfl fl_Gr_21 (s_15 hS (by decide)) (hp1.1) ?_
    refine Wx.gets d_Gr_product_18 st_41 sf_Gr_211 ?_
    refine Wx.acmp_eq (κ := 0) 34 (by decide) kz kz d_Gr_product_21 (by decide) (fun hb => ?_) (fun hb => ?_)
    · have hF := hF.1 hb
      refine Wa.aload_n (j := 0) d_Gr_product_34 rfl ?_
      have hp2 := d_15_3 (i := 0) hS (by decide)
      refine Wx.getR 3 3 d_Gr_product_35 f_Gr_3 rfl fl_Gr_21 (s_15 hS (by decide)) (hp2.1) ?_
      refine Wa.astore_n (i := 3) (L' := [(3, .ref (hd 0 (px μ (hd 15 0) 3))), (0, .ref (hd 15 0)), (1, .int x1), (2, .int x2)]) d_Gr_product_38 rfl (by decide) rfl ?_
      refine Wa.aload_n (j := 1) d_Gr_product_39 rfl ?_
      refine Wa.aload_n (j := 0) d_Gr_product_40 rfl ?_
      refine Wx.cVv (q := E_Gr) (As := [.ref (hd 0 (px μ (hd 15 0) 3))]) 3 (d - 1) 0 0 _ d_Gr_product_41 mok_Gr_take vl_Gr_47 rfl rfl rfl (Nat.le_of_ble_eq_true rfl) (by omega) (Nat.zero_le _) (Nat.zero_le _) (s_15 hS (by decide)) hF (fun μ3 hS hF => ?_)
      refine Wa.aload_n (j := 1) d_Gr_product_44 rfl ?_
      refine Wa.iload_n (j := 2) d_Gr_product_45 rfl ?_
      refine Wx.cVv (q := E_Gr) (As := [.int x1]) 3 (d - 1) 0 0 _ d_Gr_product_46 mok_Gr_value vl_Gr_208 rfl rfl rfl (Nat.le_of_ble_eq_true rfl) (by omega) (Nat.zero_le _) (Nat.zero_le _) (s_15 hS (by decide)) hF (fun μ4 hS hF => ?_)
      refine Wa.aload_n (j := 1) d_Gr_product_49 rfl ?_
      have hp5 := d_15_1 (i := 0) hS (by decide)
      refine Wx.getR 3 1 d_Gr_product_50 f_Gr_1 rfl fl_Gr_28 (s_15 hS (by decide)) (hp5.1) ?_
      refine Wx.getR 6 0 d_Gr_product_53 f_Pl_0 rfl fl_Gr_100 (s_18 hS hp5.2) (r_18_0 hS hp5.2) ?_
      refine Wa.aload_n (j := 0) d_Gr_product_56 rfl ?_
      refine Wa.iconst (v := (-1)) d_Gr_product_57 rfl ?_
      refine Wx.cVv (q := E_Cd) (As := [.ref (hd 0 (px μ (hd 15 0) 3)), .int (-1)]) 2 (d - 1) 0 0 _ d_Gr_product_58 mok_Cd_add vl_Gr_170 rfl rfl rfl (Nat.le_of_ble_eq_true rfl) (by omega) (Nat.zero_le _) (Nat.zero_le _) (s_21 hS hp5.2) hF (fun μ6 hS hF => ?_)
      refine Wa.iinc (i := 2) (j := 3) (v := (x2 + 1)) (L' := [(2, .int (x2 + 1)), (3, .ref (hd 0 (px μ (hd 15 0) 3))), (0, .ref (hd 15 0)), (1, .int x1)]) d_Gr_product_61 rfl rfl (by decide) rfl ?_
      refine Wa.goto 7 d_Gr_product_64 (by decide) ?_
      exact Wa.loc [2, 3, 0] rfl hF
    · have hF := hF.2 hb
      refine Wa.aload_n (j := 0) d_Gr_product_24 rfl ?_
      have hp7 := d_15_3 (i := 0) hS (by decide)
      refine Wx.getR 3 3 d_Gr_product_25 f_Gr_3 rfl fl_Gr_21 (s_15 hS (by decide)) (hp7.1) ?_
      refine Wx.gets d_Gr_product_28 st_42 sf_Gr_214 ?_
      refine Wx.acmp_ne (κ := 0) 67 (by decide) kz kz d_Gr_product_31 (by decide) (fun hb => ?_) (fun hb => ?_)
      · have hF := hF.2 hb
        exact Wx.retv d_Gr_product_67 rfl hF
      · have hF := hF.1 hb
        refine Wa.aload_n (j := 0) d_Gr_product_34 rfl ?_
        have hp8 := d_15_3 (i := 0) hS (by decide)
        refine Wx.getR 3 3 d_Gr_product_35 f_Gr_3 rfl fl_Gr_21 (s_15 hS (by decide)) (hp8.1) ?_
        refine Wa.astore_n (i := 3) (L' := [(3, .ref (hd 0 (px μ (hd 15 0) 3))), (0, .ref (hd 15 0)), (1, .int x1), (2, .int x2)]) d_Gr_product_38 rfl (by decide) rfl ?_
        refine Wa.aload_n (j := 1) d_Gr_product_39 rfl ?_
        refine Wa.aload_n (j := 0) d_Gr_product_40 rfl ?_
        refine Wx.cVv (q := E_Gr) (As := [.ref (hd 0 (px μ (hd 15 0) 3))]) 3 (d - 1) 0 0 _ d_Gr_product_41 mok_Gr_take vl_Gr_47 rfl rfl rfl (Nat.le_of_ble_eq_true rfl) (by omega) (Nat.zero_le _) (Nat.zero_le _) (s_15 hS (by decide)) hF (fun μ9 hS hF => ?_)
        refine Wa.aload_n (j := 1) d_Gr_product_44 rfl ?_
        refine Wa.iload_n (j := 2) d_Gr_product_45 rfl ?_
        refine Wx.cVv (q := E_Gr) (As := [.int x1]) 3 (d - 1) 0 0 _ d_Gr_product_46 mok_Gr_value vl_Gr_208 rfl rfl rfl (Nat.le_of_ble_eq_true rfl) (by omega) (Nat.zero_le _) (Nat.zero_le _) (s_15 hS (by decide)) hF (fun μ10 hS hF => ?_)
        refine Wa.aload_n (j := 1) d_Gr_product_49 rfl ?_
        have hp11 := d_15_1 (i := 0) hS (by decide)
        refine Wx.getR 3 1 d_Gr_product_50 f_Gr_1 rfl fl_Gr_28 (s_15 hS (by decide)) (hp11.1) ?_
        refine Wx.getR 6 0 d_Gr_product_53 f_Pl_0 rfl fl_Gr_100 (s_18 hS hp11.2) (r_18_0 hS hp11.2) ?_
        refine Wa.aload_n (j := 0) d_Gr_product_56 rfl ?_
        refine Wa.iconst (v := (-1)) d_Gr_product_57 rfl ?_
        refine Wx.cVv (q := E_Cd) (As := [.ref (hd 0 (px μ (hd 15 0) 3)), .int (-1)]) 2 (d - 1) 0 0 _ d_Gr_product_58 mok_Cd_add vl_Gr_170 rfl rfl rfl (Nat.le_of_ble_eq_true rfl) (by omega) (Nat.zero_le _) (Nat.zero_le _) (s_21 hS hp11.2) hF (fun μ12 hS hF => ?_)
        refine Wa.iinc (i := 2) (j := 3) (v := (x2 + 1)) (L' := [(2, .int (x2 + 1)), (3, .ref (hd 0 (px μ (hd 15 0) 3))), (0, .ref (hd 15 0)), (1, .int x1)]) d_Gr_product_61 rfl rfl (by decide) rfl ?_
        refine Wa.goto 7 d_Gr_product_64 (by decide) ?_
        exact Wa.loc [2, 3, 0] rfl hF
set_option maxHeartbeats 4000000 in
set_option maxRecDepth 20000 in
theorem g_Gr_value_0 {d rc rs : Nat} {Q : Option Value → Mu → Prop} {μ : Mu} {x1 : Int32} (hD : 1 ≤ d)  (hS : St μ)
    (hF : ((((swv (px μ (hd 15 0) 3)) = 17 ∨ (swv (px μ (hd 15 0) 3)) = 18) → (Cal K_Cd_add (d - 1) 0 0 [.ref (hd 21 (px μ (hd 15 0) 1)), .ref (hd 0 (px μ (hd 15 0) 3)), .int (mI μ (hd 15 0) 2)] μ (fun r μ4 => r = none ∧ (Cal K_Gr_take (d - 1) 0 0 [.ref (hd 15 0), .ref (hd 0 (px μ (hd 15 0) 3))] μ4 (fun r μ5 => r = none ∧ Q none μ5))))) ∧ (((swv (px μ (hd 15 0) 3)) = 19 ∨ (swv (px μ (hd 15 0) 3)) = 20 ∨ (swv (px μ (hd 15 0) 3)) = 21 ∨ (swv (px μ (hd 15 0) 3)) = 22) → (Cal K_Gr_board (d - 1) 0 0 [.ref (hd 15 0), .ref (hd 0 (px μ (hd 15 0) 3))] μ (fun r μ7 => r = none ∧ Q none μ7))) ∧ (((swv (px μ (hd 15 0) 3)) = 23) → (Cal K_Gr_goesDeeper (d - 1) 0 0 [.ref (hd 15 0), .ref (hd 0 36), .int x1] μ (fun r μ9 => ∃ y10, r = some (.int y10) ∧ ((y10 = 0 → Q none μ9) ∧ (¬ y10 = 0 → (Cal K_Gr_value (d - 1) 0 0 [.ref (hd 15 0), .int (x1 + (1 : Int32))] μ9 (fun r μ11 => r = none ∧ (Cal K_Cd_add (d - 1) 0 0 [.ref (hd 21 (px μ11 (hd 15 0) 1)), .ref (hd 0 48), .int (-1)] μ11 (fun r μ13 => r = none ∧ Q none μ13))))))))) ∧ (((swv (px μ (hd 15 0) 3)) = 24) → (Cal K_Gr_goesDeeper (d - 1) 0 0 [.ref (hd 15 0), .ref (hd 0 29), .int x1] μ (fun r μ15 => ∃ y16, r = some (.int y16) ∧ ((y16 = 0 → Q none μ15) ∧ (¬ y16 = 0 → (Cal K_Gr_sum (d - 1) 0 0 [.ref (hd 15 0), .int (x1 + (1 : Int32))] μ15 (fun r μ17 => r = none ∧ (Cal K_Gr_take (d - 1) 0 0 [.ref (hd 15 0), .ref (hd 0 30)] μ17 (fun r μ18 => r = none ∧ Q none μ18))))))))) ∧ (((swv (px μ (hd 15 0) 3)) = 25 ∨ (swv (px μ (hd 15 0) 3)) = 26) → (Cal K_Gr_take (d - 1) 0 0 [.ref (hd 15 0), .ref (hd 0 (px μ (hd 15 0) 3))] μ (fun r μ20 => r = none ∧ (Cal K_Gr_pair (d - 1) 0 0 [.ref (hd 15 0), .int x1] μ20 (fun r μ21 => r = none ∧ (Cal K_Cd_add (d - 1) 0 0 [.ref (hd 21 (px μ21 (hd 15 0) 1)), .ref (hd 0 (px μ (hd 15 0) 3)), .int (-1)] μ21 (fun r μ23 => r = none ∧ Q none μ23))))))) ∧ (((swv (px μ (hd 15 0) 3)).toInt < 17 ∨ 26 < (swv (px μ (hd 15 0) 3)).toInt) → Q none (setR μ (hd 15 0) 3 (hd 0 47))))) : Wx K_Gr_value d rc rs Q 0 [(0, .ref (hd 15 0)), (1, .int x1)] [] μ := by
  refine Wa.aload_n (j := 0) d_Gr_value_0 rfl ?_
  have hp1 := d_15_3 (i := 0) hS (by decide)
  refine Wx.getR 3 3 d_Gr_value_1 f_Gr_3 rfl fl_Gr_21 (s_15 hS (by decide)) (hp1.1) ?_
  refine Wa.astore_n (i := 2) (L' := [(2, .ref (hd 0 (px μ (hd 15 0) 3))), (0, .ref (hd 15 0)), (1, .int x1)]) d_Gr_value_4 rfl (by decide) rfl ?_
  refine Wx.gets d_Gr_value_5 st_1 sf_Gr_51 ?_
  refine Wa.aload_n (j := 0) d_Gr_value_8 rfl ?_
  refine Wx.ord hS d_Gr_value_9 ul_Gr_57 (Nat.le_of_ble_eq_true rfl) hD hp1.2 ?_
  refine Wx.swald hS d_Gr_value_12 hp1.2 ?_
  have k2 : ((swv (px μ (hd 15 0) 3)) = 17 ∨ (swv (px μ (hd 15 0) 3)) = 18) → Wx K_Gr_value d rc rs Q 68 [(2, .ref (hd 0 (px μ (hd 15 0) 3))), (0, .ref (hd 15 0)), (1, .int x1)] [] μ := by
    intro hb
    have hF := hF.1 hb
    refine Wa.aload_n (j := 1) d_Gr_value_68 rfl ?_
    have hp3 := d_15_1 (i := 0) hS (by decide)
    refine Wx.getR 3 1 d_Gr_value_69 f_Gr_1 rfl fl_Gr_28 (s_15 hS (by decide)) (hp3.1) ?_
    refine Wx.getR 6 0 d_Gr_value_72 f_Pl_0 rfl fl_Gr_100 (s_18 hS hp3.2) (r_18_0 hS hp3.2) ?_
    refine Wa.aload_n (j := 0) d_Gr_value_75 rfl ?_
    refine Wa.aload_n (j := 1) d_Gr_value_76 rfl ?_
    refine Wx.getI 3 2 d_Gr_value_77 f_Gr_2 fl_Gr_9 w_15 (s_15 hS (by decide)) ?_
    refine Wx.cVv (q := E_Cd) (As := [.ref (hd 0 (px μ (hd 15 0) 3)), .int (mI μ (hd 15 0) 2)]) 2 (d - 1) 0 0 _ d_Gr_value_80 mok_Cd_add vl_Gr_170 rfl rfl rfl (Nat.le_of_ble_eq_true rfl) (by omega) (Nat.zero_le _) (Nat.zero_le _) (s_21 hS hp3.2) hF (fun μ4 hS hF => ?_)
    refine Wa.aload_n (j := 1) d_Gr_value_83 rfl ?_
    refine Wa.aload_n (j := 0) d_Gr_value_84 rfl ?_
    refine Wx.cVv (q := E_Gr) (As := [.ref (hd 0 (px μ (hd 15 0) 3))]) 3 (d - 1) 0 0 _ d_Gr_value_85 mok_Gr_take vl_Gr_47 rfl rfl rfl (Nat.le_of_ble_eq_true rfl) (by omega) (Nat.zero_le _) (Nat.zero_le _) (s_15 hS (by decide)) hF (fun μ5 hS hF => ?_)
    refine Wa.goto 194 d_Gr_value_88 (by decide) ?_
    exact Wx.retv d_Gr_value_194 rfl hF
  have k6 : ((swv (px μ (hd 15 0) 3)) = 19 ∨ (swv (px μ (hd 15 0) 3)) = 20 ∨ (swv (px μ (hd 15 0) 3)) = 21 ∨ (swv (px μ (hd 15 0) 3)) = 22) → Wx K_Gr_value d rc rs Q 91 [(2, .ref (hd 0 (px μ (hd 15 0) 3))), (0, .ref (hd 15 0)), (1, .int x1)] [] μ := by
    intro hb
    have hF := hF.2.1 hb
    refine Wa.aload_n (j := 1) d_Gr_value_91 rfl ?_
    refine Wa.aload_n (j := 0) d_Gr_value_92 rfl ?_
    refine Wx.cVv (q := E_Gr) (As := [.ref (hd 0 (px μ (hd 15 0) 3))]) 3 (d - 1) 0 0 _ d_Gr_value_93 mok_Gr_board vl_Gr_193 rfl rfl rfl (Nat.le_of_ble_eq_true rfl) (by omega) (Nat.zero_le _) (Nat.zero_le _) (s_15 hS (by decide)) hF (fun μ7 hS hF => ?_)
    refine Wa.goto 194 d_Gr_value_96 (by decide) ?_
    exact Wx.retv d_Gr_value_194 rfl hF
  have k8 : ((swv (px μ (hd 15 0) 3)) = 23) → Wx K_Gr_value d rc rs Q 99 [(2, .ref (hd 0 (px μ (hd 15 0) 3))), (0, .ref (hd 15 0)), (1, .int x1)] [] μ := by
    intro hb
    have hF := hF.2.2.1 hb
    refine Wa.aload_n (j := 1) d_Gr_value_99 rfl ?_
    refine Wx.gets d_Gr_value_100 st_40 sf_Gr_205 ?_
    refine Wa.iload_n (j := 2) d_Gr_value_103 rfl ?_
    refine Wx.cVi (q := E_Gr) (As := [.ref (hd 0 36), .int x1]) 3 (d - 1) 0 0 _ d_Gr_value_104 mok_Gr_goesDeeper vl_Gr_183 rfl rfl rfl (Nat.le_of_ble_eq_true rfl) (by omega) (Nat.zero_le _) (Nat.zero_le _) (s_15 hS (by decide)) hF (fun y10 μ9 hS hF => ?_)
    refine Wa.if_eq 194 d_Gr_value_107 (by decide) (fun hb => ?_) (fun hb => ?_)
    · have hF := hF.1 hb
      exact Wx.retv d_Gr_value_194 rfl hF
    · have hF := hF.2 hb
      refine Wa.aload_n (j := 1) d_Gr_value_110 rfl ?_
      refine Wa.iload_n (j := 2) d_Gr_value_111 rfl ?_
      refine Wa.iconst (v := 1) d_Gr_value_112 rfl ?_
      refine Wa.iadd d_Gr_value_113 ?_
      refine Wx.cVv (q := E_Gr) (As := [.int (x1 + (1 : Int32))]) 3 (d - 1) 0 0 _ d_Gr_value_114 mok_Gr_value vl_Gr_208 rfl rfl rfl (Nat.le_of_ble_eq_true rfl) (by omega) (Nat.zero_le _) (Nat.zero_le _) (s_15 hS (by decide)) hF (fun μ11 hS hF => ?_)
      refine Wa.aload_n (j := 1) d_Gr_value_117 rfl ?_
      have hp12 := d_15_1 (i := 0) hS (by decide)
      refine Wx.getR 3 1 d_Gr_value_118 f_Gr_1 rfl fl_Gr_28 (s_15 hS (by decide)) (hp12.1) ?_
      refine Wx.getR 6 0 d_Gr_value_121 f_Pl_0 rfl fl_Gr_100 (s_18 hS hp12.2) (r_18_0 hS hp12.2) ?_
      refine Wx.gets d_Gr_value_124 st_52 sf_Gr_217 ?_
      refine Wa.iconst (v := (-1)) d_Gr_value_127 rfl ?_
      refine Wx.cVv (q := E_Cd) (As := [.ref (hd 0 48), .int (-1)]) 2 (d - 1) 0 0 _ d_Gr_value_128 mok_Cd_add vl_Gr_170 rfl rfl rfl (Nat.le_of_ble_eq_true rfl) (by omega) (Nat.zero_le _) (Nat.zero_le _) (s_21 hS hp12.2) hF (fun μ13 hS hF => ?_)
      refine Wa.goto 194 d_Gr_value_131 (by decide) ?_
      exact Wx.retv d_Gr_value_194 rfl hF
  have k14 : ((swv (px μ (hd 15 0) 3)) = 24) → Wx K_Gr_value d rc rs Q 134 [(2, .ref (hd 0 (px μ (hd 15 0) 3))), (0, .ref (hd 15 0)), (1, .int x1)] [] μ := by
    intro hb
    have hF := hF.2.2.2.1 hb
    refine Wa.aload_n (j := 1) d_Gr_value_134 rfl ?_
    refine Wx.gets d_Gr_value_135 st_33 sf_Gr_220 ?_
    refine Wa.iload_n (j := 2) d_Gr_value_138 rfl ?_
    refine Wx.cVi (q := E_Gr) (As := [.ref (hd 0 29), .int x1]) 3 (d - 1) 0 0 _ d_Gr_value_139 mok_Gr_goesDeeper vl_Gr_183 rfl rfl rfl (Nat.le_of_ble_eq_true rfl) (by omega) (Nat.zero_le _) (Nat.zero_le _) (s_15 hS (by decide)) hF (fun y16 μ15 hS hF => ?_)
    refine Wa.if_eq 194 d_Gr_value_142 (by decide) (fun hb => ?_) (fun hb => ?_)
    · have hF := hF.1 hb
      exact Wx.retv d_Gr_value_194 rfl hF
    · have hF := hF.2 hb
      refine Wa.aload_n (j := 1) d_Gr_value_145 rfl ?_
      refine Wa.iload_n (j := 2) d_Gr_value_146 rfl ?_
      refine Wa.iconst (v := 1) d_Gr_value_147 rfl ?_
      refine Wa.iadd d_Gr_value_148 ?_
      refine Wx.cVv (q := E_Gr) (As := [.int (x1 + (1 : Int32))]) 3 (d - 1) 0 0 _ d_Gr_value_149 mok_Gr_sum vl_Gr_121 rfl rfl rfl (Nat.le_of_ble_eq_true rfl) (by omega) (Nat.zero_le _) (Nat.zero_le _) (s_15 hS (by decide)) hF (fun μ17 hS hF => ?_)
      refine Wa.aload_n (j := 1) d_Gr_value_152 rfl ?_
      refine Wx.gets d_Gr_value_153 st_34 sf_Gr_223 ?_
      refine Wx.cVv (q := E_Gr) (As := [.ref (hd 0 30)]) 3 (d - 1) 0 0 _ d_Gr_value_156 mok_Gr_take vl_Gr_47 rfl rfl rfl (Nat.le_of_ble_eq_true rfl) (by omega) (Nat.zero_le _) (Nat.zero_le _) (s_15 hS (by decide)) hF (fun μ18 hS hF => ?_)
      refine Wa.goto 194 d_Gr_value_159 (by decide) ?_
      exact Wx.retv d_Gr_value_194 rfl hF
  have k19 : ((swv (px μ (hd 15 0) 3)) = 25 ∨ (swv (px μ (hd 15 0) 3)) = 26) → Wx K_Gr_value d rc rs Q 162 [(2, .ref (hd 0 (px μ (hd 15 0) 3))), (0, .ref (hd 15 0)), (1, .int x1)] [] μ := by
    intro hb
    have hF := hF.2.2.2.2.1 hb
    refine Wa.aload_n (j := 1) d_Gr_value_162 rfl ?_
    refine Wa.aload_n (j := 0) d_Gr_value_163 rfl ?_
    refine Wx.cVv (q := E_Gr) (As := [.ref (hd 0 (px μ (hd 15 0) 3))]) 3 (d - 1) 0 0 _ d_Gr_value_164 mok_Gr_take vl_Gr_47 rfl rfl rfl (Nat.le_of_ble_eq_true rfl) (by omega) (Nat.zero_le _) (Nat.zero_le _) (s_15 hS (by decide)) hF (fun μ20 hS hF => ?_)
    refine Wa.aload_n (j := 1) d_Gr_value_167 rfl ?_
    refine Wa.iload_n (j := 2) d_Gr_value_168 rfl ?_
    refine Wx.cVv (q := E_Gr) (As := [.int x1]) 3 (d - 1) 0 0 _ d_Gr_value_169 mok_Gr_pair vl_Gr_226 rfl rfl rfl (Nat.le_of_ble_eq_true rfl) (by omega) (Nat.zero_le _) (Nat.zero_le _) (s_15 hS (by decide)) hF (fun μ21 hS hF => ?_)
    refine Wa.aload_n (j := 1) d_Gr_value_172 rfl ?_
    have hp22 := d_15_1 (i := 0) hS (by decide)
    refine Wx.getR 3 1 d_Gr_value_173 f_Gr_1 rfl fl_Gr_28 (s_15 hS (by decide)) (hp22.1) ?_
    refine Wx.getR 6 0 d_Gr_value_176 f_Pl_0 rfl fl_Gr_100 (s_18 hS hp22.2) (r_18_0 hS hp22.2) ?_
    refine Wa.aload_n (j := 0) d_Gr_value_179 rfl ?_
    refine Wa.iconst (v := (-1)) d_Gr_value_180 rfl ?_
    refine Wx.cVv (q := E_Cd) (As := [.ref (hd 0 (px μ (hd 15 0) 3)), .int (-1)]) 2 (d - 1) 0 0 _ d_Gr_value_181 mok_Cd_add vl_Gr_170 rfl rfl rfl (Nat.le_of_ble_eq_true rfl) (by omega) (Nat.zero_le _) (Nat.zero_le _) (s_21 hS hp22.2) hF (fun μ23 hS hF => ?_)
    refine Wa.goto 194 d_Gr_value_184 (by decide) ?_
    exact Wx.retv d_Gr_value_194 rfl hF
  have k24 : ((swv (px μ (hd 15 0) 3)).toInt < 17 ∨ 26 < (swv (px μ (hd 15 0) 3)).toInt) → Wx K_Gr_value d rc rs Q 187 [(2, .ref (hd 0 (px μ (hd 15 0) 3))), (0, .ref (hd 15 0)), (1, .int x1)] [] μ := by
    intro hb
    have hF := hF.2.2.2.2.2 hb
    refine Wa.aload_n (j := 1) d_Gr_value_187 rfl ?_
    refine Wx.gets d_Gr_value_188 st_51 sf_Gr_15 ?_
    refine Wx.putR 3 3 d_Gr_value_191 f_Gr_3 rfl ok_Gr fl_Gr_21 (Or.inl rfl) w_15 (s_15 hS (by decide)) ?_
    have hS : St (setR μ (hd 15 0) 3 (hd 0 47)) := sd_15_3 (μ := μ) hS (by decide) (by decide)
    exact Wx.retv d_Gr_value_194 rfl hF
  rcases sw_17_26 (swv (px μ (hd 15 0) 3)) with hb | hb | hb | hb | hb | hb | hb | hb | hb | hb | hb | hb
  · exact Wa.tabOut 187 d_Gr_value_13 (Or.inl hb) (by decide) (k24 (Or.inl hb))
  · exact Wa.tabOut 187 d_Gr_value_13 (Or.inr hb) (by decide) (k24 (Or.inr hb))
  · exact Wa.tabIn 68 d_Gr_value_13 (by rw [hb]; decide) (by rw [hb]; decide) (by rw [hb]; rfl) (by decide) (k2 (Or.inl hb))
  · exact Wa.tabIn 68 d_Gr_value_13 (by rw [hb]; decide) (by rw [hb]; decide) (by rw [hb]; rfl) (by decide) (k2 (Or.inr hb))
  · exact Wa.tabIn 91 d_Gr_value_13 (by rw [hb]; decide) (by rw [hb]; decide) (by rw [hb]; rfl) (by decide) (k6 (Or.inl hb))
  · exact Wa.tabIn 91 d_Gr_value_13 (by rw [hb]; decide) (by rw [hb]; decide) (by rw [hb]; rfl) (by decide) (k6 (Or.inr (Or.inl hb)))
  · exact Wa.tabIn 91 d_Gr_value_13 (by rw [hb]; decide) (by rw [hb]; decide) (by rw [hb]; rfl) (by decide) (k6 (Or.inr (Or.inr (Or.inl hb))))
  · exact Wa.tabIn 91 d_Gr_value_13 (by rw [hb]; decide) (by rw [hb]; decide) (by rw [hb]; rfl) (by decide) (k6 (Or.inr (Or.inr (Or.inr hb))))
  · exact Wa.tabIn 99 d_Gr_value_13 (by rw [hb]; decide) (by rw [hb]; decide) (by rw [hb]; rfl) (by decide) (k8 hb)
  · exact Wa.tabIn 134 d_Gr_value_13 (by rw [hb]; decide) (by rw [hb]; decide) (by rw [hb]; rfl) (by decide) (k14 hb)
  · exact Wa.tabIn 162 d_Gr_value_13 (by rw [hb]; decide) (by rw [hb]; decide) (by rw [hb]; rfl) (by decide) (k19 (Or.inl hb))
  · exact Wa.tabIn 162 d_Gr_value_13 (by rw [hb]; decide) (by rw [hb]; decide) (by rw [hb]; rfl) (by decide) (k19 (Or.inr hb))
theorem e_Gr_value {d rc rs : Nat} {Q : Option Value → Mu → Prop} {μ : Mu} {x1 : Int32} (hk : Wx K_Gr_value d rc rs (fun r μ' => St μ' ∧ Q r μ') 0 [(0, .ref (hd 15 0)), (1, .int x1)] [] μ) : Cal K_Gr_value d rc rs [.ref (hd 15 0), .int x1] μ Q := Cal.of (by decide +kernel) rfl rfl (Nat.le_of_ble_eq_true rfl) rfl hk
set_option maxHeartbeats 4000000 in
set_option maxRecDepth 20000 in
theorem g_Gr_pair_0 {d rc rs : Nat} {Q : Option Value → Mu → Prop} {μ : Mu} {x1 : Int32} (hD : 1 ≤ d)  (hS : St μ)
    (hF : (Cal K_Gr_goesDeeper (d - 1) 0 0 [.ref (hd 15 0), .ref (hd 0 29), .int x1] μ (fun r μ1 => ∃ y2, r = some (.int y2) ∧ ((y2 = 0 → Q none μ1) ∧ (¬ y2 = 0 → (Cal K_Gr_sum (d - 1) 0 0 [.ref (hd 15 0), .int (x1 + (1 : Int32))] μ1 (fun r μ3 => r = none ∧ (Cal K_Gr_take (d - 1) 0 0 [.ref (hd 15 0), .ref (hd 0 34)] μ3 (fun r μ4 => r = none ∧ (Cal K_Gr_sum (d - 1) 0 0 [.ref (hd 15 0), .int (x1 + (1 : Int32))] μ4 (fun r μ5 => r = none ∧ (Cal K_Gr_take (d - 1) 0 0 [.ref (hd 15 0), .ref (hd 0 30)] μ5 (fun r μ6 => r = none ∧ Q none μ6))))))))))))) : Wx K_Gr_pair d rc rs Q 0 [(0, .ref (hd 15 0)), (1, .int x1)] [] μ := by
  refine Wa.aload_n (j := 0) d_Gr_pair_0 rfl ?_
  refine Wx.gets d_Gr_pair_1 st_33 sf_Gr_220 ?_
  refine Wa.iload_n (j := 1) d_Gr_pair_4 rfl ?_
  refine Wx.cVi (q := E_Gr) (As := [.ref (hd 0 29), .int x1]) 3 (d - 1) 0 0 _ d_Gr_pair_5 mok_Gr_goesDeeper vl_Gr_183 rfl rfl rfl (Nat.le_of_ble_eq_true rfl) (by omega) (Nat.zero_le _) (Nat.zero_le _) (s_15 hS (by decide)) hF (fun y2 μ1 hS hF => ?_)
  refine Wa.if_eq 39 d_Gr_pair_8 (by decide) (fun hb => ?_) (fun hb => ?_)
  · have hF := hF.1 hb
    exact Wx.retv d_Gr_pair_39 rfl hF
  · have hF := hF.2 hb
    refine Wa.aload_n (j := 0) d_Gr_pair_11 rfl ?_
    refine Wa.iload_n (j := 1) d_Gr_pair_12 rfl ?_
    refine Wa.iconst (v := 1) d_Gr_pair_13 rfl ?_
    refine Wa.iadd d_Gr_pair_14 ?_
    refine Wx.cVv (q := E_Gr) (As := [.int (x1 + (1 : Int32))]) 3 (d - 1) 0 0 _ d_Gr_pair_15 mok_Gr_sum vl_Gr_121 rfl rfl rfl (Nat.le_of_ble_eq_true rfl) (by omega) (Nat.zero_le _) (Nat.zero_le _) (s_15 hS (by decide)) hF (fun μ3 hS hF => ?_)
    refine Wa.aload_n (j := 0) d_Gr_pair_18 rfl ?_
    refine Wx.gets d_Gr_pair_19 st_38 sf_Gr_229 ?_
    refine Wx.cVv (q := E_Gr) (As := [.ref (hd 0 34)]) 3 (d - 1) 0 0 _ d_Gr_pair_22 mok_Gr_take vl_Gr_47 rfl rfl rfl (Nat.le_of_ble_eq_true rfl) (by omega) (Nat.zero_le _) (Nat.zero_le _) (s_15 hS (by decide)) hF (fun μ4 hS hF => ?_)
    refine Wa.aload_n (j := 0) d_Gr_pair_25 rfl ?_
    refine Wa.iload_n (j := 1) d_Gr_pair_26 rfl ?_
    refine Wa.iconst (v := 1) d_Gr_pair_27 rfl ?_
    refine Wa.iadd d_Gr_pair_28 ?_
    refine Wx.cVv (q := E_Gr) (As := [.int (x1 + (1 : Int32))]) 3 (d - 1) 0 0 _ d_Gr_pair_29 mok_Gr_sum vl_Gr_121 rfl rfl rfl (Nat.le_of_ble_eq_true rfl) (by omega) (Nat.zero_le _) (Nat.zero_le _) (s_15 hS (by decide)) hF (fun μ5 hS hF => ?_)
    refine Wa.aload_n (j := 0) d_Gr_pair_32 rfl ?_
    refine Wx.gets d_Gr_pair_33 st_34 sf_Gr_223 ?_
    refine Wx.cVv (q := E_Gr) (As := [.ref (hd 0 30)]) 3 (d - 1) 0 0 _ d_Gr_pair_36 mok_Gr_take vl_Gr_47 rfl rfl rfl (Nat.le_of_ble_eq_true rfl) (by omega) (Nat.zero_le _) (Nat.zero_le _) (s_15 hS (by decide)) hF (fun μ6 hS hF => ?_)
    exact Wx.retv d_Gr_pair_39 rfl hF
theorem e_Gr_pair {d rc rs : Nat} {Q : Option Value → Mu → Prop} {μ : Mu} {x1 : Int32} (hk : Wx K_Gr_pair d rc rs (fun r μ' => St μ' ∧ Q r μ') 0 [(0, .ref (hd 15 0)), (1, .int x1)] [] μ) : Cal K_Gr_pair d rc rs [.ref (hd 15 0), .int x1] μ Q := Cal.of (by decide +kernel) rfl rfl (Nat.le_of_ble_eq_true rfl) rfl hk
set_option maxHeartbeats 4000000 in
set_option maxRecDepth 20000 in
theorem g_Gr_board_0 {d rc rs : Nat} {Q : Option Value → Mu → Prop} {μ : Mu} {i1 : Nat} (hD : 1 ≤ d) (h1 : i1 < 49) (hS : St μ)
    (hF : (Cal K_Cd_add (d - 1) 0 0 [.ref (hd 21 (px μ (hd 15 0) 1)), .ref (hd 0 i1), .int (mI μ (hd 15 0) 2)] μ (fun r μ2 => r = none ∧ (Cal K_Gr_take (d - 1) 0 0 [.ref (hd 15 0), .ref (hd 0 i1)] μ2 (fun r μ3 => r = none ∧ (Cal K_Gr_take (d - 1) 0 0 [.ref (hd 15 0), .ref (hd 0 44)] μ3 (fun r μ4 => r = none ∧ ((i1 = 21 → Q none μ4) ∧ (¬ i1 = 21 → (Cal K_Gr_take (d - 1) 0 0 [.ref (hd 15 0), .ref (hd 0 44)] μ4 (fun r μ5 => r = none ∧ Q none μ5))))))))))) : Wx K_Gr_board d rc rs Q 0 [(0, .ref (hd 15 0)), (1, .ref (hd 0 i1))] [] μ := by
  refine Wa.aload_n (j := 0) d_Gr_board_0 rfl ?_
  have hp1 := d_15_1 (i := 0) hS (by decide)
  refine Wx.getR 3 1 d_Gr_board_1 f_Gr_1 rfl fl_Gr_28 (s_15 hS (by decide)) (hp1.1) ?_
  refine Wx.getR 6 0 d_Gr_board_4 f_Pl_0 rfl fl_Gr_100 (s_18 hS hp1.2) (r_18_0 hS hp1.2) ?_
  refine Wa.aload_n (j := 1) d_Gr_board_7 rfl ?_
  refine Wa.aload_n (j := 0) d_Gr_board_8 rfl ?_
  refine Wx.getI 3 2 d_Gr_board_9 f_Gr_2 fl_Gr_9 w_15 (s_15 hS (by decide)) ?_
  refine Wx.cVv (q := E_Cd) (As := [.ref (hd 0 i1), .int (mI μ (hd 15 0) 2)]) 2 (d - 1) 0 0 _ d_Gr_board_12 mok_Cd_add vl_Gr_170 rfl rfl rfl (Nat.le_of_ble_eq_true rfl) (by omega) (Nat.zero_le _) (Nat.zero_le _) (s_21 hS hp1.2) hF (fun μ2 hS hF => ?_)
  refine Wa.aload_n (j := 0) d_Gr_board_15 rfl ?_
  refine Wa.aload_n (j := 1) d_Gr_board_16 rfl ?_
  refine Wx.cVv (q := E_Gr) (As := [.ref (hd 0 i1)]) 3 (d - 1) 0 0 _ d_Gr_board_17 mok_Gr_take vl_Gr_47 rfl rfl rfl (Nat.le_of_ble_eq_true rfl) (by omega) (Nat.zero_le _) (Nat.zero_le _) (s_15 hS (by decide)) hF (fun μ3 hS hF => ?_)
  refine Wa.aload_n (j := 0) d_Gr_board_20 rfl ?_
  refine Wx.gets d_Gr_board_21 st_48 sf_Gr_61 ?_
  refine Wx.cVv (q := E_Gr) (As := [.ref (hd 0 44)]) 3 (d - 1) 0 0 _ d_Gr_board_24 mok_Gr_take vl_Gr_47 rfl rfl rfl (Nat.le_of_ble_eq_true rfl) (by omega) (Nat.zero_le _) (Nat.zero_le _) (s_15 hS (by decide)) hF (fun μ4 hS hF => ?_)
  refine Wa.aload_n (j := 1) d_Gr_board_27 rfl ?_
  refine Wx.gets d_Gr_board_28 st_25 sf_Gr_232 ?_
  refine Wx.acmp_eq (κ := 0) 41 (by decide) kz kz d_Gr_board_31 (by decide) (fun hb => ?_) (fun hb => ?_)
  · have hF := hF.1 hb
    exact Wx.retv d_Gr_board_41 rfl hF
  · have hF := hF.2 hb
    refine Wa.aload_n (j := 0) d_Gr_board_34 rfl ?_
    refine Wx.gets d_Gr_board_35 st_48 sf_Gr_61 ?_
    refine Wx.cVv (q := E_Gr) (As := [.ref (hd 0 44)]) 3 (d - 1) 0 0 _ d_Gr_board_38 mok_Gr_take vl_Gr_47 rfl rfl rfl (Nat.le_of_ble_eq_true rfl) (by omega) (Nat.zero_le _) (Nat.zero_le _) (s_15 hS (by decide)) hF (fun μ5 hS hF => ?_)
    exact Wx.retv d_Gr_board_41 rfl hF
theorem e_Gr_board {d rc rs : Nat} {Q : Option Value → Mu → Prop} {μ : Mu} {i1 : Nat} (hk : Wx K_Gr_board d rc rs (fun r μ' => St μ' ∧ Q r μ') 0 [(0, .ref (hd 15 0)), (1, .ref (hd 0 i1))] [] μ) : Cal K_Gr_board d rc rs [.ref (hd 15 0), .ref (hd 0 i1)] μ Q := Cal.of (by decide +kernel) rfl rfl (Nat.le_of_ble_eq_true rfl) rfl hk
set_option maxHeartbeats 4000000 in
set_option maxRecDepth 20000 in
theorem g_Gr_goesDeeper_0 {d rc rs : Nat} {Q : Option Value → Mu → Prop} {μ : Mu} {i1 : Nat} {x2 : Int32} (hD : 1 ≤ d) (h1 : i1 < 49) (hS : St μ)
    (hF : ((8 ≤ x2 → (Cal K_Gr_take (d - 1) 0 0 [.ref (hd 15 0), .ref (hd 0 47)] μ (fun r μ1 => r = none ∧ (((px μ1 (hd 15 0) 3) = 47 → Q (some (.int 0)) μ1) ∧ (¬ (px μ1 (hd 15 0) 3) = 47 → Q (some (.int 1)) μ1))))) ∧ (¬ 8 ≤ x2 → (Cal K_Gr_take (d - 1) 0 0 [.ref (hd 15 0), .ref (hd 0 i1)] μ (fun r μ3 => r = none ∧ (((px μ3 (hd 15 0) 3) = 47 → Q (some (.int 0)) μ3) ∧ (¬ (px μ3 (hd 15 0) 3) = 47 → Q (some (.int 1)) μ3))))))) : Wx K_Gr_goesDeeper d rc rs Q 0 [(0, .ref (hd 15 0)), (1, .ref (hd 0 i1)), (2, .int x2)] [] μ := by
  refine Wa.aload_n (j := 0) d_Gr_goesDeeper_0 rfl ?_
  refine Wa.iload_n (j := 2) d_Gr_goesDeeper_1 rfl ?_
  refine Wa.bipush (v := 8) d_Gr_goesDeeper_2 rfl ?_
  refine Wa.icmp_ge 11 d_Gr_goesDeeper_4 (by decide) (fun hb => ?_) (fun hb => ?_)
  · have hF := hF.1 hb
    refine Wx.gets d_Gr_goesDeeper_11 st_51 sf_Gr_15 ?_
    refine Wx.cVv (q := E_Gr) (As := [.ref (hd 0 47)]) 3 (d - 1) 0 0 _ d_Gr_goesDeeper_14 mok_Gr_take vl_Gr_47 rfl rfl rfl (Nat.le_of_ble_eq_true rfl) (by omega) (Nat.zero_le _) (Nat.zero_le _) (s_15 hS (by decide)) hF (fun μ1 hS hF => ?_)
    refine Wa.aload_n (j := 0) d_Gr_goesDeeper_17 rfl ?_
    have hp2 := d_15_3 (i := 0) hS (by decide)
    refine Wx.getR 3 3 d_Gr_goesDeeper_18 f_Gr_3 rfl fl_Gr_21 (s_15 hS (by decide)) (hp2.1) ?_
    refine Wx.gets d_Gr_goesDeeper_21 st_51 sf_Gr_15 ?_
    refine Wx.acmp_eq (κ := 0) 31 (by decide) kz kz d_Gr_goesDeeper_24 (by decide) (fun hb => ?_) (fun hb => ?_)
    · have hF := hF.1 hb
      refine Wa.iconst (v := 0) d_Gr_goesDeeper_31 rfl ?_
      exact Wx.retz d_Gr_goesDeeper_32 rfl (Or.inl rfl) hF
    · have hF := hF.2 hb
      refine Wa.iconst (v := 1) d_Gr_goesDeeper_27 rfl ?_
      refine Wa.goto 32 d_Gr_goesDeeper_28 (by decide) ?_
      exact Wx.retz d_Gr_goesDeeper_32 rfl (Or.inr rfl) hF
  · have hF := hF.2 hb
    refine Wa.aload_n (j := 1) d_Gr_goesDeeper_7 rfl ?_
    refine Wa.goto 14 d_Gr_goesDeeper_8 (by decide) ?_
    refine Wx.cVv (q := E_Gr) (As := [.ref (hd 0 i1)]) 3 (d - 1) 0 0 _ d_Gr_goesDeeper_14 mok_Gr_take vl_Gr_47 rfl rfl rfl (Nat.le_of_ble_eq_true rfl) (by omega) (Nat.zero_le _) (Nat.zero_le _) (s_15 hS (by decide)) hF (fun μ3 hS hF => ?_)
    refine Wa.aload_n (j := 0) d_Gr_goesDeeper_17 rfl ?_
    have hp4 := d_15_3 (i := 0) hS (by decide)
    refine Wx.getR 3 3 d_Gr_goesDeeper_18 f_Gr_3 rfl fl_Gr_21 (s_15 hS (by decide)) (hp4.1) ?_
    refine Wx.gets d_Gr_goesDeeper_21 st_51 sf_Gr_15 ?_
    refine Wx.acmp_eq (κ := 0) 31 (by decide) kz kz d_Gr_goesDeeper_24 (by decide) (fun hb => ?_) (fun hb => ?_)
    · have hF := hF.1 hb
      refine Wa.iconst (v := 0) d_Gr_goesDeeper_31 rfl ?_
      exact Wx.retz d_Gr_goesDeeper_32 rfl (Or.inl rfl) hF
    · have hF := hF.2 hb
      refine Wa.iconst (v := 1) d_Gr_goesDeeper_27 rfl ?_
      refine Wa.goto 32 d_Gr_goesDeeper_28 (by decide) ?_
      exact Wx.retz d_Gr_goesDeeper_32 rfl (Or.inr rfl) hF
theorem e_Gr_goesDeeper {d rc rs : Nat} {Q : Option Value → Mu → Prop} {μ : Mu} {i1 : Nat} {x2 : Int32} (hk : Wx K_Gr_goesDeeper d rc rs (fun r μ' => St μ' ∧ Q r μ') 0 [(0, .ref (hd 15 0)), (1, .ref (hd 0 i1)), (2, .int x2)] [] μ) : Cal K_Gr_goesDeeper d rc rs [.ref (hd 15 0), .ref (hd 0 i1), .int x2] μ Q := Cal.of (by decide +kernel) rfl rfl (Nat.le_of_ble_eq_true rfl) rfl hk
set_option maxHeartbeats 4000000 in
set_option maxRecDepth 20000 in
theorem g_Gr_take_0 {d rc rs : Nat} {Q : Option Value → Mu → Prop} {μ : Mu} {i1 : Nat} (hD : 1 ≤ d) (h1 : i1 < 49) (hS : St μ)
    (hF : (((px μ (hd 15 0) 3) = i1 → (((px μ (hd 15 0) 3) = 47 → Q none (setR μ (hd 15 0) 3 (hd 0 47))) ∧ (¬ (px μ (hd 15 0) 3) = 47 → (((mI (setI μ (hd 15 0) 2 ((mI μ (hd 15 0) 2) + (1 : Int32))) (hd 10 0) 4) ≤ (mI (setI μ (hd 15 0) 2 ((mI μ (hd 15 0) 2) + (1 : Int32))) (hd 15 0) 2) → Q none (setR (setI μ (hd 15 0) 2 ((mI μ (hd 15 0) 2) + (1 : Int32))) (hd 15 0) 3 (hd 0 47))) ∧ (¬ (mI (setI μ (hd 15 0) 2 ((mI μ (hd 15 0) 2) + (1 : Int32))) (hd 10 0) 4) ≤ (mI (setI μ (hd 15 0) 2 ((mI μ (hd 15 0) 2) + (1 : Int32))) (hd 15 0) 2) → (vp_in (mI (setI μ (hd 15 0) 2 ((mI μ (hd 15 0) 2) + (1 : Int32))) (hd 15 0) 2) 401 ∧ mR μ (hd 11 0) (mI (setI μ (hd 15 0) 2 ((mI μ (hd 15 0) 2) + (1 : Int32))) (hd 15 0) 2).toNatClampNeg ≠ none ∧ Q none (setR (setI μ (hd 15 0) 2 ((mI μ (hd 15 0) 2) + (1 : Int32))) (hd 15 0) 3 (hd 0 (px μ (hd 11 0) (mI (setI μ (hd 15 0) 2 ((mI μ (hd 15 0) 2) + (1 : Int32))) (hd 15 0) 2).toNatClampNeg))))))))) ∧ (¬ (px μ (hd 15 0) 3) = i1 → Q none (setR μ (hd 15 0) 3 (hd 0 47))))) : Wx K_Gr_take d rc rs Q 0 [(0, .ref (hd 15 0)), (1, .ref (hd 0 i1))] [] μ := by
  refine Wa.aload_n (j := 0) d_Gr_take_0 rfl ?_
  have hp1 := d_15_3 (i := 0) hS (by decide)
  refine Wx.getR 3 3 d_Gr_take_1 f_Gr_3 rfl fl_Gr_21 (s_15 hS (by decide)) (hp1.1) ?_
  refine Wa.aload_n (j := 1) d_Gr_take_4 rfl ?_
  refine Wx.acmp_ne (κ := 0) 67 (by decide) kz kz d_Gr_take_5 (by decide) (fun hb => ?_) (fun hb => ?_)
  · have hF := hF.2 hb
    refine Wa.aload_n (j := 0) d_Gr_take_67 rfl ?_
    refine Wx.gets d_Gr_take_68 st_51 sf_Gr_15 ?_
    refine Wx.putR 3 3 d_Gr_take_71 f_Gr_3 rfl ok_Gr fl_Gr_21 (Or.inl rfl) w_15 (s_15 hS (by decide)) ?_
    have hS : St (setR μ (hd 15 0) 3 (hd 0 47)) := sd_15_3 (μ := μ) hS (by decide) (by decide)
    exact Wx.retv d_Gr_take_74 rfl hF
  · have hF := hF.1 hb
    refine Wa.aload_n (j := 0) d_Gr_take_8 rfl ?_
    have hp2 := d_15_3 (i := 0) hS (by decide)
    refine Wx.getR 3 3 d_Gr_take_9 f_Gr_3 rfl fl_Gr_21 (s_15 hS (by decide)) (hp2.1) ?_
    refine Wx.gets d_Gr_take_12 st_51 sf_Gr_15 ?_
    refine Wx.acmp_eq (κ := 0) 67 (by decide) kz kz d_Gr_take_15 (by decide) (fun hb => ?_) (fun hb => ?_)
    · have hF := hF.1 hb
      refine Wa.aload_n (j := 0) d_Gr_take_67 rfl ?_
      refine Wx.gets d_Gr_take_68 st_51 sf_Gr_15 ?_
      refine Wx.putR 3 3 d_Gr_take_71 f_Gr_3 rfl ok_Gr fl_Gr_21 (Or.inl rfl) w_15 (s_15 hS (by decide)) ?_
      have hS : St (setR μ (hd 15 0) 3 (hd 0 47)) := sd_15_3 (μ := μ) hS (by decide) (by decide)
      exact Wx.retv d_Gr_take_74 rfl hF
    · have hF := hF.2 hb
      refine Wa.aload_n (j := 0) d_Gr_take_18 rfl ?_
      refine Wa.dup d_Gr_take_19 rfl ?_
      refine Wx.getI 3 2 d_Gr_take_20 f_Gr_2 fl_Gr_9 w_15 (s_15 hS (by decide)) ?_
      refine Wa.iconst (v := 1) d_Gr_take_23 rfl ?_
      refine Wa.iadd d_Gr_take_24 ?_
      refine Wx.putI 3 2 d_Gr_take_25 f_Gr_2 ok_Gr fl_Gr_9 (Or.inl rfl) w_15 (s_15 hS (by decide)) ?_
      refine Wa.aload_n (j := 0) d_Gr_take_28 rfl ?_
      refine Wa.aload_n (j := 0) d_Gr_take_29 rfl ?_
      refine Wx.getI 3 2 d_Gr_take_30 f_Gr_2 fl_Gr_9 w_15 (s_15 hS (by decide)) ?_
      refine Wa.aload_n (j := 0) d_Gr_take_33 rfl ?_
      refine Wx.getR 3 0 d_Gr_take_34 f_Gr_0 rfl fl_Gr_24 (s_15 hS (by decide)) (r_15_0 hS (by decide)) ?_
      refine Wx.getI 9 4 d_Gr_take_37 f_Tk_4 fl_Gr_235 w_10 (s_10 hS (by decide)) ?_
      refine Wa.icmp_ge 58 d_Gr_take_40 (by decide) (fun hb => ?_) (fun hb => ?_)
      · have hF := hF.1 hb
        refine Wx.gets d_Gr_take_58 st_51 sf_Gr_15 ?_
        refine Wx.putR 3 3 d_Gr_take_61 f_Gr_3 rfl ok_Gr fl_Gr_21 (Or.inl rfl) w_15 (s_15 hS (by decide)) ?_
        have hS : St (setR (setI μ (hd 15 0) 2 ((mI μ (hd 15 0) 2) + (1 : Int32))) (hd 15 0) 3 (hd 0 47)) := sd_15_3 (μ := (setI μ (hd 15 0) 2 ((mI μ (hd 15 0) 2) + (1 : Int32)))) hS (by decide) (by decide)
        refine Wa.goto 74 d_Gr_take_64 (by decide) ?_
        exact Wx.retv d_Gr_take_74 rfl hF
      · have hF := hF.2 hb
        refine Wa.aload_n (j := 0) d_Gr_take_43 rfl ?_
        refine Wx.getR 3 0 d_Gr_take_44 f_Gr_0 rfl fl_Gr_24 (s_15 hS (by decide)) (r_15_0 hS (by decide)) ?_
        refine Wx.getR 9 0 d_Gr_take_47 f_Tk_0 rfl fl_Gr_236 (s_10 hS (by decide)) (r_10_0 hS (by decide)) ?_
        refine Wa.aload_n (j := 0) d_Gr_take_50 rfl ?_
        refine Wx.getI 3 2 d_Gr_take_51 f_Gr_2 fl_Gr_9 w_15 (s_15 hS (by decide)) ?_
        have hc3 := hF.1
        have hF := hF.2
        have hlhc3 := vp_in_lt hc3
        have hc4 := hF.1
        have hF := hF.2
        have hp5 := e_11 (i := 0) hS (by decide) hc4
        refine Wa.aald (t := 14) (q := E_Ki) d_Gr_take_54 rfl (s_11 hS (by decide)) hc3 hp5.1 ?_
        refine Wa.goto 61 d_Gr_take_55 (by decide) ?_
        refine Wx.putR 3 3 d_Gr_take_61 f_Gr_3 rfl ok_Gr fl_Gr_21 (Or.inl rfl) w_15 (s_15 hS (by decide)) ?_
        have hS : St (setR (setI μ (hd 15 0) 2 ((mI μ (hd 15 0) 2) + (1 : Int32))) (hd 15 0) 3 (hd 0 (px μ (hd 11 0) (mI (setI μ (hd 15 0) 2 ((mI μ (hd 15 0) 2) + (1 : Int32))) (hd 15 0) 2).toNatClampNeg))) := sd_15_3 (μ := (setI μ (hd 15 0) 2 ((mI μ (hd 15 0) 2) + (1 : Int32)))) hS (by decide) hp5.2
        refine Wa.goto 74 d_Gr_take_64 (by decide) ?_
        exact Wx.retv d_Gr_take_74 rfl hF
theorem e_Gr_take {d rc rs : Nat} {Q : Option Value → Mu → Prop} {μ : Mu} {i1 : Nat} (hk : Wx K_Gr_take d rc rs (fun r μ' => St μ' ∧ Q r μ') 0 [(0, .ref (hd 15 0)), (1, .ref (hd 0 i1))] [] μ) : Cal K_Gr_take d rc rs [.ref (hd 15 0), .ref (hd 0 i1)] μ Q := Cal.of (by decide +kernel) rfl rfl (Nat.le_of_ble_eq_true rfl) rfl hk
