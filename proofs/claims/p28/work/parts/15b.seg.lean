/-! segments of methods, by machine -/
set_option maxHeartbeats 4000000 in
set_option maxRecDepth 20000 in
theorem g_Wd_begin_0 {d rc rs : Nat} {Q : Option Value → Mu → Prop} {μ : Mu} {i0 : Nat} {i1 : Nat} (hD : 1 ≤ d) (h0 : i0 < 2) (h1 : i1 < 2) (hS : St μ)
    (hF : Wx K_Wd_begin d rc rs Q 36 [(0, .ref (hd 29 i0)), (2, .ref (hd 31 i0)), (3, .int (nI 5)), (4, .int 0)] [] (setI (setI (setI (setI (setR μ (hd 29 i0) 3 (hd 18 i1)) (hd 29 i0) 4 0) (hd 29 i0) 5 0) (hd 29 i0) 6 0) (hd 29 i0) 7 0)) : Wx K_Wd_begin d rc rs Q 0 [(0, .ref (hd 29 i0)), (1, .ref (hd 18 i1))] [] μ := by
  refine Wa.aload_n (j := 0) d_Wd_begin_0 rfl ?_
  refine Wa.aload_n (j := 1) d_Wd_begin_1 rfl ?_
  refine Wx.putR 10 3 d_Wd_begin_2 f_Wd_3 rfl ok_Wd fl_Wd_42 (Or.inl rfl) w_29 (s_29 hS h0) ?_
  have hS : St (setR μ (hd 29 i0) 3 (hd 18 i1)) := sd_29_3 (μ := μ) hS h0 h1
  refine Wa.aload_n (j := 0) d_Wd_begin_5 rfl ?_
  refine Wa.iconst (v := 0) d_Wd_begin_6 rfl ?_
  refine Wx.putI 10 4 d_Wd_begin_7 f_Wd_4 ok_Wd fl_Wd_29 (Or.inl rfl) w_29 (s_29 hS h0) ?_
  refine Wa.aload_n (j := 0) d_Wd_begin_10 rfl ?_
  refine Wa.iconst (v := 0) d_Wd_begin_11 rfl ?_
  refine Wx.putI 10 5 d_Wd_begin_12 f_Wd_5 ok_Wd fl_Wd_33 (Or.inl rfl) w_29 (s_29 hS h0) ?_
  refine Wa.aload_n (j := 0) d_Wd_begin_15 rfl ?_
  refine Wa.iconst (v := 0) d_Wd_begin_16 rfl ?_
  refine Wx.putI 10 6 d_Wd_begin_17 f_Wd_6 ok_Wd fl_Wd_36 (Or.inl rfl) w_29 (s_29 hS h0) ?_
  refine Wa.aload_n (j := 0) d_Wd_begin_20 rfl ?_
  refine Wa.iconst (v := 0) d_Wd_begin_21 rfl ?_
  refine Wx.putI 10 7 d_Wd_begin_22 f_Wd_7 ok_Wd fl_Wd_39 (Or.inl rfl) w_29 (s_29 hS h0) ?_
  refine Wa.aload_n (j := 0) d_Wd_begin_25 rfl ?_
  refine Wx.getR 10 1 d_Wd_begin_26 f_Wd_1 rfl fl_Wd_19 (s_29 hS h0) (r_29_1 hS h0) ?_
  refine Wa.astore_n (i := 2) (L' := [(2, .ref (hd 31 i0)), (0, .ref (hd 29 i0)), (1, .ref (hd 18 i1))]) d_Wd_begin_29 rfl (by decide) rfl ?_
  refine Wa.aload_n (j := 0) d_Wd_begin_30 rfl ?_
  refine Wa.alen d_Wd_begin_31 (s_31 hS h0) (by decide) ?_
  refine Wa.istore_n (i := 3) (L' := [(3, .int (nI 5)), (2, .ref (hd 31 i0)), (0, .ref (hd 29 i0)), (1, .ref (hd 18 i1))]) d_Wd_begin_32 rfl (by decide) rfl ?_
  refine Wa.iconst (v := 0) d_Wd_begin_33 rfl ?_
  refine Wa.istore (i := 4) (L' := [(4, .int 0), (3, .int (nI 5)), (2, .ref (hd 31 i0)), (0, .ref (hd 29 i0)), (1, .ref (hd 18 i1))]) d_Wd_begin_34 (by decide) rfl ?_
  exact Wa.loc [3, 2, 1, 0] rfl hF
theorem e_Wd_begin {d rc rs : Nat} {Q : Option Value → Mu → Prop} {μ : Mu} {i0 : Nat} {i1 : Nat} (hk : Wx K_Wd_begin d rc rs (fun r μ' => St μ' ∧ Q r μ') 0 [(0, .ref (hd 29 i0)), (1, .ref (hd 18 i1))] [] μ) : Cal K_Wd_begin d rc rs [.ref (hd 29 i0), .ref (hd 18 i1)] μ Q := Cal.of (by decide +kernel) rfl rfl (Nat.le_of_ble_eq_true rfl) rfl hk
set_option maxHeartbeats 4000000 in
set_option maxRecDepth 20000 in
theorem g_Wd_begin_36 {d rc rs : Nat} {Q : Option Value → Mu → Prop} {μ : Mu} {i0 : Nat} {i2 : Nat} {x3 : Int32} {x4 : Int32} (hD : 1 ≤ d) (h0 : i0 < 2) (h2 : i2 < 2) (hS : St μ)
    (hF : ((x3 ≤ x4 → Wx K_Wd_begin d rc rs Q 61 [(0, .ref (hd 29 i0)), (2, .int 0)] [] μ) ∧ (¬ x3 ≤ x4 → (vp_in x4 5 ∧ (Cal K_Bd_clear (d - 1) 0 0 [.ref (hd 35 (5 * i2 + x4.toNatClampNeg))] μ (fun r μ3 => r = none ∧ Wx K_Wd_begin d rc rs Q 36 [(0, .ref (hd 29 i0)), (2, .ref (hd 31 i2)), (3, .int x3), (4, .int (x4 + 1))] [] μ3)))))) : Wx K_Wd_begin d rc rs Q 36 [(0, .ref (hd 29 i0)), (2, .ref (hd 31 i2)), (3, .int x3), (4, .int x4)] [] μ := by
  refine Wa.iload (j := 3) d_Wd_begin_36 rfl ?_
  refine Wa.iload_n (j := 2) d_Wd_begin_38 rfl ?_
  refine Wa.icmp_ge 59 d_Wd_begin_39 (by decide) (fun hb => ?_) (fun hb => ?_)
  · have hF := hF.1 hb
    refine Wa.iconst (v := 0) d_Wd_begin_59 rfl ?_
    refine Wa.istore_n (i := 2) (L' := [(2, .int 0), (0, .ref (hd 29 i0)), (3, .int x3), (4, .int x4)]) d_Wd_begin_60 rfl (by decide) rfl ?_
    exact Wa.loc [1, 0] rfl hF
  · have hF := hF.2 hb
    refine Wa.aload_n (j := 1) d_Wd_begin_42 rfl ?_
    refine Wa.iload (j := 3) d_Wd_begin_43 rfl ?_
    have hc1 := hF.1
    have hF := hF.2
    have hlhc1 := vp_in_lt hc1
    have hb2 : (5 * i2 + x4.toNatClampNeg) < 10 := by have : i2 < 2 := h2; omega
    refine Wa.aald (t := 1) (q := E_Bd) d_Wd_begin_45 rfl (s_31 hS h2) hc1 (a_31 hS h2 hlhc1) ?_
    refine Wa.astore (i := 5) (L' := [(5, .ref (hd 35 (5 * i2 + x4.toNatClampNeg))), (0, .ref (hd 29 i0)), (2, .ref (hd 31 i2)), (3, .int x3), (4, .int x4)]) d_Wd_begin_46 (by decide) rfl ?_
    refine Wa.aload (j := 0) d_Wd_begin_48 rfl ?_
    refine Wx.cVv (q := E_Bd) (As := []) 1 (d - 1) 0 0 _ d_Wd_begin_50 mok_Bd_clear vl_Wd_49 rfl rfl rfl (Nat.le_of_ble_eq_true rfl) (by omega) (Nat.zero_le _) (Nat.zero_le _) (s_35 hS hb2) hF (fun μ3 hS hF => ?_)
    refine Wa.iinc (i := 4) (j := 4) (v := (x4 + 1)) (L' := [(4, .int (x4 + 1)), (5, .ref (hd 35 (5 * i2 + x4.toNatClampNeg))), (0, .ref (hd 29 i0)), (2, .ref (hd 31 i2)), (3, .int x3)]) d_Wd_begin_53 rfl rfl (by decide) rfl ?_
    refine Wa.goto 36 d_Wd_begin_56 (by decide) ?_
    exact Wa.loc [2, 3, 4, 0] rfl hF
set_option maxHeartbeats 4000000 in
set_option maxRecDepth 20000 in
theorem g_Wd_begin_61 {d rc rs : Nat} {Q : Option Value → Mu → Prop} {μ : Mu} {i0 : Nat} {x2 : Int32} (hD : 1 ≤ d) (h0 : i0 < 2) (hS : St μ)
    (hF : (((mI μ (hd 18 (px μ (hd 29 i0) 3)) 5) ≤ x2 → Q none μ) ∧ (¬ (mI μ (hd 18 (px μ (hd 29 i0) 3)) 5) ≤ x2 → (vp_in x2 8 ∧ (vp_in x2 8 ∧ (Cal K_Rd_copyFrom (d - 1) 0 0 [.ref (hd 27 (8 * i0 + x2.toNatClampNeg)), .ref (hd 27 (16 + 8 * (px μ (hd 29 i0) 3) + x2.toNatClampNeg))] μ (fun r μ7 => r = none ∧ Wx K_Wd_begin d rc rs Q 61 [(0, .ref (hd 29 i0)), (2, .int (x2 + 1))] [] μ7))))))) : Wx K_Wd_begin d rc rs Q 61 [(0, .ref (hd 29 i0)), (2, .int x2)] [] μ := by
  refine Wa.iload_n (j := 1) d_Wd_begin_61 rfl ?_
  refine Wa.aload_n (j := 0) d_Wd_begin_62 rfl ?_
  have hp1 := d_29_3 (i := i0) hS h0
  refine Wx.getR 10 3 d_Wd_begin_63 f_Wd_3 rfl fl_Wd_42 (s_29 hS h0) (hp1.1) ?_
  refine Wx.getI 6 5 d_Wd_begin_66 f_Pl_5 fl_Wd_52 w_18 (s_18 hS hp1.2) ?_
  refine Wa.icmp_ge 96 d_Wd_begin_69 (by decide) (fun hb => ?_) (fun hb => ?_)
  · have hF := hF.1 hb
    exact Wx.retv d_Wd_begin_96 rfl hF
  · have hF := hF.2 hb
    refine Wa.aload_n (j := 0) d_Wd_begin_72 rfl ?_
    refine Wx.getR 10 2 d_Wd_begin_73 f_Wd_2 rfl fl_Wd_25 (s_29 hS h0) (r_29_2 hS h0) ?_
    refine Wa.iload_n (j := 1) d_Wd_begin_76 rfl ?_
    have hc2 := hF.1
    have hF := hF.2
    have hlhc2 := vp_in_lt hc2
    have hb3 : (8 * i0 + x2.toNatClampNeg) < 32 := by have : i0 < 2 := h0; omega
    refine Wa.aald (t := 7) (q := E_Rd) d_Wd_begin_77 rfl (s_32 hS h0) hc2 (a_32 hS h0 hlhc2) ?_
    refine Wa.aload_n (j := 0) d_Wd_begin_78 rfl ?_
    have hp4 := d_29_3 (i := i0) hS h0
    refine Wx.getR 10 3 d_Wd_begin_79 f_Wd_3 rfl fl_Wd_42 (s_29 hS h0) (hp4.1) ?_
    refine Wx.getR 6 1 d_Wd_begin_82 f_Pl_1 rfl fl_Wd_57 (s_18 hS hp4.2) (r_18_1 hS hp4.2) ?_
    refine Wa.iload_n (j := 1) d_Wd_begin_85 rfl ?_
    have hc5 := hF.1
    have hF := hF.2
    have hlhc5 := vp_in_lt hc5
    have hb6 : (16 + 8 * (px μ (hd 29 i0) 3) + x2.toNatClampNeg) < 32 := by have : (px μ (hd 29 i0) 3) < 2 := hp4.2; omega
    refine Wa.aald (t := 7) (q := E_Rd) d_Wd_begin_86 rfl (s_19 hS hp4.2) hc5 (a_19 hS hp4.2 hlhc5) ?_
    refine Wx.cVv (q := E_Rd) (As := [.ref (hd 27 (16 + 8 * (px μ (hd 29 i0) 3) + x2.toNatClampNeg))]) 7 (d - 1) 0 0 _ d_Wd_begin_87 mok_Rd_copyFrom vl_Wd_58 rfl rfl rfl (Nat.le_of_ble_eq_true rfl) (by omega) (Nat.zero_le _) (Nat.zero_le _) (s_27 hS hb3) hF (fun μ7 hS hF => ?_)
    refine Wa.iinc (i := 2) (j := 1) (v := (x2 + 1)) (L' := [(2, .int (x2 + 1)), (0, .ref (hd 29 i0))]) d_Wd_begin_90 rfl rfl (by decide) rfl ?_
    refine Wa.goto 61 d_Wd_begin_93 (by decide) ?_
    exact Wa.loc [1, 0] rfl hF
set_option maxHeartbeats 4000000 in
set_option maxRecDepth 20000 in
theorem g_Wd_tally_0 {d rc rs : Nat} {Q : Option Value → Mu → Prop} {μ : Mu} {i0 : Nat} {x1 : Int32} (hD : 1 ≤ d) (h0 : i0 < 2) (hS : St μ)
    (hF : (((x1 = 0) → Q (some (.int (mI μ (hd 29 i0) 4))) μ) ∧ ((x1 = 1) → Q (some (.int (mI μ (hd 18 (px μ (hd 29 i0) 3)) 3))) μ) ∧ ((x1 = 2) → Q (some (.int (mI μ (hd 18 (px μ (hd 29 i0) 3)) 4))) μ) ∧ ((x1 = 3) → Q (some (.int (mI μ (hd 18 (px μ (hd 29 i0) 3)) 5))) μ) ∧ ((x1 = 4) → Q (some (.int (mI μ (hd 18 (px μ (hd 29 i0) 3)) 6))) μ) ∧ ((x1 = 5) → Q (some (.int (mI μ (hd 29 i0) 5))) μ) ∧ ((x1 = 6) → (Cal K_Wd_underWayOnRoads (d - 1) 0 0 [.ref (hd 29 i0)] μ (fun r μ12 => ∃ y13, r = some (.int y13) ∧ Q (some (.int y13)) μ12))) ∧ ((x1 = 7) → (Cal K_Wd_waitingAtBoards (d - 1) 0 0 [.ref (hd 29 i0)] μ (fun r μ15 => ∃ y16, r = some (.int y16) ∧ Q (some (.int y16)) μ15))) ∧ ((x1 = 8) → (Cal K_Wd_tornOnBoards (d - 1) 0 0 [.ref (hd 29 i0)] μ (fun r μ18 => ∃ y19, r = some (.int y19) ∧ Q (some (.int y19)) μ18))) ∧ ((x1 = 9) → Q (some (.int (mI μ (hd 29 i0) 6))) μ) ∧ ((x1 = 10) → (Cal K_Wd_mergedSheets (d - 1) 0 0 [.ref (hd 29 i0)] μ (fun r μ22 => ∃ y23, r = some (.int y23) ∧ Q (some (.int y23)) μ22))) ∧ ((x1 = 11) → Q (some (.int (mI μ (hd 29 i0) 7))) μ) ∧ ((x1.toInt < 0 ∨ 11 < x1.toInt) → Q (some (.int 0)) μ))) : Wx K_Wd_tally d rc rs Q 0 [(0, .ref (hd 29 i0)), (1, .int x1)] [] μ := by
  refine Wa.iload_n (j := 1) d_Wd_tally_0 rfl ?_
  have k1 : (x1 = 0) → Wx K_Wd_tally d rc rs Q 64 [(0, .ref (hd 29 i0)), (1, .int x1)] [] μ := by
    intro hb
    have hF := hF.1 hb
    refine Wa.aload_n (j := 0) d_Wd_tally_64 rfl ?_
    refine Wx.getI 10 4 d_Wd_tally_65 f_Wd_4 fl_Wd_29 w_29 (s_29 hS h0) ?_
    exact Wx.reti d_Wd_tally_68 rfl hF
  have k2 : (x1 = 1) → Wx K_Wd_tally d rc rs Q 69 [(0, .ref (hd 29 i0)), (1, .int x1)] [] μ := by
    intro hb
    have hF := hF.2.1 hb
    refine Wa.aload_n (j := 0) d_Wd_tally_69 rfl ?_
    have hp3 := d_29_3 (i := i0) hS h0
    refine Wx.getR 10 3 d_Wd_tally_70 f_Wd_3 rfl fl_Wd_42 (s_29 hS h0) (hp3.1) ?_
    refine Wx.getI 6 3 d_Wd_tally_73 f_Pl_3 fl_Wd_65 w_18 (s_18 hS hp3.2) ?_
    exact Wx.reti d_Wd_tally_76 rfl hF
  have k4 : (x1 = 2) → Wx K_Wd_tally d rc rs Q 77 [(0, .ref (hd 29 i0)), (1, .int x1)] [] μ := by
    intro hb
    have hF := hF.2.2.1 hb
    refine Wa.aload_n (j := 0) d_Wd_tally_77 rfl ?_
    have hp5 := d_29_3 (i := i0) hS h0
    refine Wx.getR 10 3 d_Wd_tally_78 f_Wd_3 rfl fl_Wd_42 (s_29 hS h0) (hp5.1) ?_
    refine Wx.getI 6 4 d_Wd_tally_81 f_Pl_4 fl_Wd_71 w_18 (s_18 hS hp5.2) ?_
    exact Wx.reti d_Wd_tally_84 rfl hF
  have k6 : (x1 = 3) → Wx K_Wd_tally d rc rs Q 85 [(0, .ref (hd 29 i0)), (1, .int x1)] [] μ := by
    intro hb
    have hF := hF.2.2.2.1 hb
    refine Wa.aload_n (j := 0) d_Wd_tally_85 rfl ?_
    have hp7 := d_29_3 (i := i0) hS h0
    refine Wx.getR 10 3 d_Wd_tally_86 f_Wd_3 rfl fl_Wd_42 (s_29 hS h0) (hp7.1) ?_
    refine Wx.getI 6 5 d_Wd_tally_89 f_Pl_5 fl_Wd_52 w_18 (s_18 hS hp7.2) ?_
    exact Wx.reti d_Wd_tally_92 rfl hF
  have k8 : (x1 = 4) → Wx K_Wd_tally d rc rs Q 93 [(0, .ref (hd 29 i0)), (1, .int x1)] [] μ := by
    intro hb
    have hF := hF.2.2.2.2.1 hb
    refine Wa.aload_n (j := 0) d_Wd_tally_93 rfl ?_
    have hp9 := d_29_3 (i := i0) hS h0
    refine Wx.getR 10 3 d_Wd_tally_94 f_Wd_3 rfl fl_Wd_42 (s_29 hS h0) (hp9.1) ?_
    refine Wx.getI 6 6 d_Wd_tally_97 f_Pl_6 fl_Wd_74 w_18 (s_18 hS hp9.2) ?_
    exact Wx.reti d_Wd_tally_100 rfl hF
  have k10 : (x1 = 5) → Wx K_Wd_tally d rc rs Q 101 [(0, .ref (hd 29 i0)), (1, .int x1)] [] μ := by
    intro hb
    have hF := hF.2.2.2.2.2.1 hb
    refine Wa.aload_n (j := 0) d_Wd_tally_101 rfl ?_
    refine Wx.getI 10 5 d_Wd_tally_102 f_Wd_5 fl_Wd_33 w_29 (s_29 hS h0) ?_
    exact Wx.reti d_Wd_tally_105 rfl hF
  have k11 : (x1 = 6) → Wx K_Wd_tally d rc rs Q 106 [(0, .ref (hd 29 i0)), (1, .int x1)] [] μ := by
    intro hb
    have hF := hF.2.2.2.2.2.2.1 hb
    refine Wa.aload_n (j := 0) d_Wd_tally_106 rfl ?_
    refine Wx.cVi (q := E_Wd) (As := []) 10 (d - 1) 0 0 _ d_Wd_tally_107 mok_Wd_underWayOnRoads vl_Wd_77 rfl rfl rfl (Nat.le_of_ble_eq_true rfl) (by omega) (Nat.zero_le _) (Nat.zero_le _) (s_29 hS h0) hF (fun y13 μ12 hS hF => ?_)
    exact Wx.reti d_Wd_tally_110 rfl hF
  have k14 : (x1 = 7) → Wx K_Wd_tally d rc rs Q 111 [(0, .ref (hd 29 i0)), (1, .int x1)] [] μ := by
    intro hb
    have hF := hF.2.2.2.2.2.2.2.1 hb
    refine Wa.aload_n (j := 0) d_Wd_tally_111 rfl ?_
    refine Wx.cVi (q := E_Wd) (As := []) 10 (d - 1) 0 0 _ d_Wd_tally_112 mok_Wd_waitingAtBoards vl_Wd_81 rfl rfl rfl (Nat.le_of_ble_eq_true rfl) (by omega) (Nat.zero_le _) (Nat.zero_le _) (s_29 hS h0) hF (fun y16 μ15 hS hF => ?_)
    exact Wx.reti d_Wd_tally_115 rfl hF
  have k17 : (x1 = 8) → Wx K_Wd_tally d rc rs Q 116 [(0, .ref (hd 29 i0)), (1, .int x1)] [] μ := by
    intro hb
    have hF := hF.2.2.2.2.2.2.2.2.1 hb
    refine Wa.aload_n (j := 0) d_Wd_tally_116 rfl ?_
    refine Wx.cVi (q := E_Wd) (As := []) 10 (d - 1) 0 0 _ d_Wd_tally_117 mok_Wd_tornOnBoards vl_Wd_84 rfl rfl rfl (Nat.le_of_ble_eq_true rfl) (by omega) (Nat.zero_le _) (Nat.zero_le _) (s_29 hS h0) hF (fun y19 μ18 hS hF => ?_)
    exact Wx.reti d_Wd_tally_120 rfl hF
  have k20 : (x1 = 9) → Wx K_Wd_tally d rc rs Q 121 [(0, .ref (hd 29 i0)), (1, .int x1)] [] μ := by
    intro hb
    have hF := hF.2.2.2.2.2.2.2.2.2.1 hb
    refine Wa.aload_n (j := 0) d_Wd_tally_121 rfl ?_
    refine Wx.getI 10 6 d_Wd_tally_122 f_Wd_6 fl_Wd_36 w_29 (s_29 hS h0) ?_
    exact Wx.reti d_Wd_tally_125 rfl hF
  have k21 : (x1 = 10) → Wx K_Wd_tally d rc rs Q 126 [(0, .ref (hd 29 i0)), (1, .int x1)] [] μ := by
    intro hb
    have hF := hF.2.2.2.2.2.2.2.2.2.2.1 hb
    refine Wa.aload_n (j := 0) d_Wd_tally_126 rfl ?_
    refine Wx.cVi (q := E_Wd) (As := []) 10 (d - 1) 0 0 _ d_Wd_tally_127 mok_Wd_mergedSheets vl_Wd_87 rfl rfl rfl (Nat.le_of_ble_eq_true rfl) (by omega) (Nat.zero_le _) (Nat.zero_le _) (s_29 hS h0) hF (fun y23 μ22 hS hF => ?_)
    exact Wx.reti d_Wd_tally_130 rfl hF
  have k24 : (x1 = 11) → Wx K_Wd_tally d rc rs Q 131 [(0, .ref (hd 29 i0)), (1, .int x1)] [] μ := by
    intro hb
    have hF := hF.2.2.2.2.2.2.2.2.2.2.2.1 hb
    refine Wa.aload_n (j := 0) d_Wd_tally_131 rfl ?_
    refine Wx.getI 10 7 d_Wd_tally_132 f_Wd_7 fl_Wd_39 w_29 (s_29 hS h0) ?_
    exact Wx.reti d_Wd_tally_135 rfl hF
  have k25 : (x1.toInt < 0 ∨ 11 < x1.toInt) → Wx K_Wd_tally d rc rs Q 136 [(0, .ref (hd 29 i0)), (1, .int x1)] [] μ := by
    intro hb
    have hF := hF.2.2.2.2.2.2.2.2.2.2.2.2 hb
    refine Wa.iconst (v := 0) d_Wd_tally_136 rfl ?_
    exact Wx.reti d_Wd_tally_137 rfl hF
  rcases sw_0_11 x1 with hb | hb | hb | hb | hb | hb | hb | hb | hb | hb | hb | hb | hb | hb
  · exact Wa.tabOut 136 d_Wd_tally_1 (Or.inl hb) (by decide) (k25 (Or.inl hb))
  · exact Wa.tabOut 136 d_Wd_tally_1 (Or.inr hb) (by decide) (k25 (Or.inr hb))
  · exact Wa.tabIn 64 d_Wd_tally_1 (by rw [hb]; decide) (by rw [hb]; decide) (by rw [hb]; rfl) (by decide) (k1 hb)
  · exact Wa.tabIn 69 d_Wd_tally_1 (by rw [hb]; decide) (by rw [hb]; decide) (by rw [hb]; rfl) (by decide) (k2 hb)
  · exact Wa.tabIn 77 d_Wd_tally_1 (by rw [hb]; decide) (by rw [hb]; decide) (by rw [hb]; rfl) (by decide) (k4 hb)
  · exact Wa.tabIn 85 d_Wd_tally_1 (by rw [hb]; decide) (by rw [hb]; decide) (by rw [hb]; rfl) (by decide) (k6 hb)
  · exact Wa.tabIn 93 d_Wd_tally_1 (by rw [hb]; decide) (by rw [hb]; decide) (by rw [hb]; rfl) (by decide) (k8 hb)
  · exact Wa.tabIn 101 d_Wd_tally_1 (by rw [hb]; decide) (by rw [hb]; decide) (by rw [hb]; rfl) (by decide) (k10 hb)
  · exact Wa.tabIn 106 d_Wd_tally_1 (by rw [hb]; decide) (by rw [hb]; decide) (by rw [hb]; rfl) (by decide) (k11 hb)
  · exact Wa.tabIn 111 d_Wd_tally_1 (by rw [hb]; decide) (by rw [hb]; decide) (by rw [hb]; rfl) (by decide) (k14 hb)
  · exact Wa.tabIn 116 d_Wd_tally_1 (by rw [hb]; decide) (by rw [hb]; decide) (by rw [hb]; rfl) (by decide) (k17 hb)
  · exact Wa.tabIn 121 d_Wd_tally_1 (by rw [hb]; decide) (by rw [hb]; decide) (by rw [hb]; rfl) (by decide) (k20 hb)
  · exact Wa.tabIn 126 d_Wd_tally_1 (by rw [hb]; decide) (by rw [hb]; decide) (by rw [hb]; rfl) (by decide) (k21 hb)
  · exact Wa.tabIn 131 d_Wd_tally_1 (by rw [hb]; decide) (by rw [hb]; decide) (by rw [hb]; rfl) (by decide) (k24 hb)
theorem e_Wd_tally {d rc rs : Nat} {Q : Option Value → Mu → Prop} {μ : Mu} {i0 : Nat} {x1 : Int32} (hk : Wx K_Wd_tally d rc rs (fun r μ' => St μ' ∧ Q r μ') 0 [(0, .ref (hd 29 i0)), (1, .int x1)] [] μ) : Cal K_Wd_tally d rc rs [.ref (hd 29 i0), .int x1] μ Q := Cal.of (by decide +kernel) rfl rfl (Nat.le_of_ble_eq_true rfl) rfl hk
set_option maxHeartbeats 4000000 in
set_option maxRecDepth 20000 in
theorem g_Wd_parishFact_0 {d rc rs : Nat} {Q : Option Value → Mu → Prop} {μ : Mu} {i0 : Nat} {x1 : Int32} {x2 : Int32} (hD : 1 ≤ d) (h0 : i0 < 2) (hS : St μ)
    (hF : (vp_in x1 5 ∧ (((x2 = 0) → (Cal K_Bd_knownCount (d - 1) 0 0 [.ref (hd 35 (5 * i0 + x1.toNatClampNeg))] μ (fun r μ4 => ∃ y5, r = some (.int y5) ∧ Q (some (.int y5)) μ4))) ∧ ((x2 = 1) → Q (some (.int (mI μ (hd 35 (5 * i0 + x1.toNatClampNeg)) 3))) μ) ∧ ((x2 = 2) → (Cal K_Bd_noticesWith (d - 1) 0 0 [.ref (hd 35 (5 * i0 + x1.toNatClampNeg)), .int 1] μ (fun r μ8 => ∃ y9, r = some (.int y9) ∧ Q (some (.int y9)) μ8))) ∧ ((x2 = 3) → (Cal K_Bd_noticesWith (d - 1) 0 0 [.ref (hd 35 (5 * i0 + x1.toNatClampNeg)), .int 2] μ (fun r μ11 => ∃ y12, r = some (.int y12) ∧ Q (some (.int y12)) μ11))) ∧ ((x2 = 4) → (vp_in x1 5 ∧ Q (some (.int (mI μ (hd 36 (5 * i0 + x1.toNatClampNeg)) x1.toNatClampNeg))) μ)) ∧ ((x2 = 5) → (Cal K_Wd_roadsFrom (d - 1) 0 0 [.ref (hd 29 i0), .int x1] μ (fun r μ16 => ∃ y17, r = some (.int y17) ∧ Q (some (.int y17)) μ16))) ∧ ((x2.toInt < 0 ∨ 5 < x2.toInt) → Q (some (.int 0)) μ)))) : Wx K_Wd_parishFact d rc rs Q 0 [(0, .ref (hd 29 i0)), (1, .int x1), (2, .int x2)] [] μ := by
  refine Wa.aload_n (j := 0) d_Wd_parishFact_0 rfl ?_
  refine Wx.getR 10 1 d_Wd_parishFact_1 f_Wd_1 rfl fl_Wd_19 (s_29 hS h0) (r_29_1 hS h0) ?_
  refine Wa.iload_n (j := 1) d_Wd_parishFact_4 rfl ?_
  have hc1 := hF.1
  have hF := hF.2
  have hlhc1 := vp_in_lt hc1
  have hb2 : (5 * i0 + x1.toNatClampNeg) < 10 := by have : i0 < 2 := h0; omega
  refine Wa.aald (t := 1) (q := E_Bd) d_Wd_parishFact_5 rfl (s_31 hS h0) hc1 (a_31 hS h0 hlhc1) ?_
  refine Wa.astore_n (i := 3) (L' := [(3, .ref (hd 35 (5 * i0 + x1.toNatClampNeg))), (0, .ref (hd 29 i0)), (1, .int x1), (2, .int x2)]) d_Wd_parishFact_6 rfl (by decide) rfl ?_
  refine Wa.iload_n (j := 3) d_Wd_parishFact_7 rfl ?_
  have k3 : (x2 = 0) → Wx K_Wd_parishFact d rc rs Q 48 [(3, .ref (hd 35 (5 * i0 + x1.toNatClampNeg))), (0, .ref (hd 29 i0)), (1, .int x1), (2, .int x2)] [] μ := by
    intro hb
    have hF := hF.1 hb
    refine Wa.aload_n (j := 0) d_Wd_parishFact_48 rfl ?_
    refine Wx.cVi (q := E_Bd) (As := []) 1 (d - 1) 0 0 _ d_Wd_parishFact_49 mok_Bd_knownCount vl_Wd_90 rfl rfl rfl (Nat.le_of_ble_eq_true rfl) (by omega) (Nat.zero_le _) (Nat.zero_le _) (s_35 hS hb2) hF (fun y5 μ4 hS hF => ?_)
    exact Wx.reti d_Wd_parishFact_52 rfl hF
  have k6 : (x2 = 1) → Wx K_Wd_parishFact d rc rs Q 53 [(3, .ref (hd 35 (5 * i0 + x1.toNatClampNeg))), (0, .ref (hd 29 i0)), (1, .int x1), (2, .int x2)] [] μ := by
    intro hb
    have hF := hF.2.1 hb
    refine Wa.aload_n (j := 0) d_Wd_parishFact_53 rfl ?_
    refine Wx.getI 1 3 d_Wd_parishFact_54 f_Bd_3 fl_Wd_93 w_35 (s_35 hS hb2) ?_
    exact Wx.reti d_Wd_parishFact_57 rfl hF
  have k7 : (x2 = 2) → Wx K_Wd_parishFact d rc rs Q 58 [(3, .ref (hd 35 (5 * i0 + x1.toNatClampNeg))), (0, .ref (hd 29 i0)), (1, .int x1), (2, .int x2)] [] μ := by
    intro hb
    have hF := hF.2.2.1 hb
    refine Wa.aload_n (j := 0) d_Wd_parishFact_58 rfl ?_
    refine Wa.iconst (v := 1) d_Wd_parishFact_59 rfl ?_
    refine Wx.cVi (q := E_Bd) (As := [.int 1]) 1 (d - 1) 0 0 _ d_Wd_parishFact_60 mok_Bd_noticesWith vl_Wd_96 rfl rfl rfl (Nat.le_of_ble_eq_true rfl) (by omega) (Nat.zero_le _) (Nat.zero_le _) (s_35 hS hb2) hF (fun y9 μ8 hS hF => ?_)
    exact Wx.reti d_Wd_parishFact_63 rfl hF
  have k10 : (x2 = 3) → Wx K_Wd_parishFact d rc rs Q 64 [(3, .ref (hd 35 (5 * i0 + x1.toNatClampNeg))), (0, .ref (hd 29 i0)), (1, .int x1), (2, .int x2)] [] μ := by
    intro hb
    have hF := hF.2.2.2.1 hb
    refine Wa.aload_n (j := 0) d_Wd_parishFact_64 rfl ?_
    refine Wa.iconst (v := 2) d_Wd_parishFact_65 rfl ?_
    refine Wx.cVi (q := E_Bd) (As := [.int 2]) 1 (d - 1) 0 0 _ d_Wd_parishFact_66 mok_Bd_noticesWith vl_Wd_96 rfl rfl rfl (Nat.le_of_ble_eq_true rfl) (by omega) (Nat.zero_le _) (Nat.zero_le _) (s_35 hS hb2) hF (fun y12 μ11 hS hF => ?_)
    exact Wx.reti d_Wd_parishFact_69 rfl hF
  have k13 : (x2 = 4) → Wx K_Wd_parishFact d rc rs Q 70 [(3, .ref (hd 35 (5 * i0 + x1.toNatClampNeg))), (0, .ref (hd 29 i0)), (1, .int x1), (2, .int x2)] [] μ := by
    intro hb
    have hF := hF.2.2.2.2.1 hb
    refine Wa.aload_n (j := 0) d_Wd_parishFact_70 rfl ?_
    refine Wx.getR 1 0 d_Wd_parishFact_71 f_Bd_0 rfl fl_Wd_100 (s_35 hS hb2) (r_35_0 hS hb2) ?_
    refine Wa.iload_n (j := 2) d_Wd_parishFact_74 rfl ?_
    have hc14 := hF.1
    have hF := hF.2
    have hlhc14 := vp_in_lt hc14
    refine Wx.iald d_Wd_parishFact_75 w_36 (s_36 hS hb2) hc14 ?_
    exact Wx.reti d_Wd_parishFact_76 rfl hF
  have k15 : (x2 = 5) → Wx K_Wd_parishFact d rc rs Q 77 [(3, .ref (hd 35 (5 * i0 + x1.toNatClampNeg))), (0, .ref (hd 29 i0)), (1, .int x1), (2, .int x2)] [] μ := by
    intro hb
    have hF := hF.2.2.2.2.2.1 hb
    refine Wa.aload_n (j := 1) d_Wd_parishFact_77 rfl ?_
    refine Wa.iload_n (j := 2) d_Wd_parishFact_78 rfl ?_
    refine Wx.cVi (q := E_Wd) (As := [.int x1]) 10 (d - 1) 0 0 _ d_Wd_parishFact_79 mok_Wd_roadsFrom vl_Wd_104 rfl rfl rfl (Nat.le_of_ble_eq_true rfl) (by omega) (Nat.zero_le _) (Nat.zero_le _) (s_29 hS h0) hF (fun y17 μ16 hS hF => ?_)
    exact Wx.reti d_Wd_parishFact_82 rfl hF
  have k18 : (x2.toInt < 0 ∨ 5 < x2.toInt) → Wx K_Wd_parishFact d rc rs Q 83 [(3, .ref (hd 35 (5 * i0 + x1.toNatClampNeg))), (0, .ref (hd 29 i0)), (1, .int x1), (2, .int x2)] [] μ := by
    intro hb
    have hF := hF.2.2.2.2.2.2 hb
    refine Wa.iconst (v := 0) d_Wd_parishFact_83 rfl ?_
    exact Wx.reti d_Wd_parishFact_84 rfl hF
  rcases sw_0_5 x2 with hb | hb | hb | hb | hb | hb | hb | hb
  · exact Wa.tabOut 83 d_Wd_parishFact_8 (Or.inl hb) (by decide) (k18 (Or.inl hb))
  · exact Wa.tabOut 83 d_Wd_parishFact_8 (Or.inr hb) (by decide) (k18 (Or.inr hb))
  · exact Wa.tabIn 48 d_Wd_parishFact_8 (by rw [hb]; decide) (by rw [hb]; decide) (by rw [hb]; rfl) (by decide) (k3 hb)
  · exact Wa.tabIn 53 d_Wd_parishFact_8 (by rw [hb]; decide) (by rw [hb]; decide) (by rw [hb]; rfl) (by decide) (k6 hb)
  · exact Wa.tabIn 58 d_Wd_parishFact_8 (by rw [hb]; decide) (by rw [hb]; decide) (by rw [hb]; rfl) (by decide) (k7 hb)
  · exact Wa.tabIn 64 d_Wd_parishFact_8 (by rw [hb]; decide) (by rw [hb]; decide) (by rw [hb]; rfl) (by decide) (k10 hb)
  · exact Wa.tabIn 70 d_Wd_parishFact_8 (by rw [hb]; decide) (by rw [hb]; decide) (by rw [hb]; rfl) (by decide) (k13 hb)
  · exact Wa.tabIn 77 d_Wd_parishFact_8 (by rw [hb]; decide) (by rw [hb]; decide) (by rw [hb]; rfl) (by decide) (k15 hb)
theorem e_Wd_parishFact {d rc rs : Nat} {Q : Option Value → Mu → Prop} {μ : Mu} {i0 : Nat} {x1 : Int32} {x2 : Int32} (hk : Wx K_Wd_parishFact d rc rs (fun r μ' => St μ' ∧ Q r μ') 0 [(0, .ref (hd 29 i0)), (1, .int x1), (2, .int x2)] [] μ) : Cal K_Wd_parishFact d rc rs [.ref (hd 29 i0), .int x1, .int x2] μ Q := Cal.of (by decide +kernel) rfl rfl (Nat.le_of_ble_eq_true rfl) rfl hk
set_option maxHeartbeats 4000000 in
set_option maxRecDepth 20000 in
theorem g_Wd_sheetFact_0 {d rc rs : Nat} {Q : Option Value → Mu → Prop} {μ : Mu} {i0 : Nat} {x1 : Int32} {x2 : Int32} (hD : 1 ≤ d) (h0 : i0 < 2) (hS : St μ)
    (hF : (vp_in x1 60 ∧ (((x2 = 0) → Q (some (.int (mI μ (hd 33 (60 * i0 + x1.toNatClampNeg)) 1))) μ) ∧ ((x2 = 1) → Q (some (.int (mI μ (hd 33 (60 * i0 + x1.toNatClampNeg)) 2))) μ) ∧ ((x2 = 2) → Q (some (.int (mI μ (hd 33 (60 * i0 + x1.toNatClampNeg)) 3))) μ) ∧ ((x2 = 3) → Q (some (.int (mI μ (hd 33 (60 * i0 + x1.toNatClampNeg)) 4))) μ) ∧ ((x2 = 4) → Q (some (.int (mI μ (hd 33 (60 * i0 + x1.toNatClampNeg)) 5))) μ) ∧ ((x2 = 5) → Q (some (.int (mI μ (hd 33 (60 * i0 + x1.toNatClampNeg)) 6))) μ) ∧ ((x2 = 6) → (Cal K_Wd_knowers (d - 1) 0 0 [.ref (hd 29 i0), .int x1] μ (fun r μ10 => ∃ y11, r = some (.int y11) ∧ Q (some (.int y11)) μ10))) ∧ ((x2 = 7) → (Cal K_Wd_showers (d - 1) 0 0 [.ref (hd 29 i0), .int x1] μ (fun r μ13 => ∃ y14, r = some (.int y14) ∧ Q (some (.int y14)) μ13))) ∧ ((x2.toInt < 0 ∨ 7 < x2.toInt) → Q (some (.int 0)) μ)))) : Wx K_Wd_sheetFact d rc rs Q 0 [(0, .ref (hd 29 i0)), (1, .int x1), (2, .int x2)] [] μ := by
  refine Wa.aload_n (j := 0) d_Wd_sheetFact_0 rfl ?_
  refine Wx.getR 10 0 d_Wd_sheetFact_1 f_Wd_0 rfl fl_Wd_11 (s_29 hS h0) (r_29_0 hS h0) ?_
  refine Wa.iload_n (j := 1) d_Wd_sheetFact_4 rfl ?_
  have hc1 := hF.1
  have hF := hF.2
  have hlhc1 := vp_in_lt hc1
  have hb2 : (60 * i0 + x1.toNatClampNeg) < 120 := by have : i0 < 2 := h0; omega
  refine Wa.aald (t := 8) (q := E_Sh) d_Wd_sheetFact_5 rfl (s_30 hS h0) hc1 (a_30 hS h0 hlhc1) ?_
  refine Wa.astore_n (i := 3) (L' := [(3, .ref (hd 33 (60 * i0 + x1.toNatClampNeg))), (0, .ref (hd 29 i0)), (1, .int x1), (2, .int x2)]) d_Wd_sheetFact_6 rfl (by decide) rfl ?_
  refine Wa.iload_n (j := 3) d_Wd_sheetFact_7 rfl ?_
  have k3 : (x2 = 0) → Wx K_Wd_sheetFact d rc rs Q 56 [(3, .ref (hd 33 (60 * i0 + x1.toNatClampNeg))), (0, .ref (hd 29 i0)), (1, .int x1), (2, .int x2)] [] μ := by
    intro hb
    have hF := hF.1 hb
    refine Wa.aload_n (j := 0) d_Wd_sheetFact_56 rfl ?_
    refine Wx.getI 8 1 d_Wd_sheetFact_57 f_Sh_1 fl_Wd_107 w_33 (s_33 hS hb2) ?_
    exact Wx.reti d_Wd_sheetFact_60 rfl hF
  have k4 : (x2 = 1) → Wx K_Wd_sheetFact d rc rs Q 61 [(3, .ref (hd 33 (60 * i0 + x1.toNatClampNeg))), (0, .ref (hd 29 i0)), (1, .int x1), (2, .int x2)] [] μ := by
    intro hb
    have hF := hF.2.1 hb
    refine Wa.aload_n (j := 0) d_Wd_sheetFact_61 rfl ?_
    refine Wx.getI 8 2 d_Wd_sheetFact_62 f_Sh_2 fl_Wd_110 w_33 (s_33 hS hb2) ?_
    exact Wx.reti d_Wd_sheetFact_65 rfl hF
  have k5 : (x2 = 2) → Wx K_Wd_sheetFact d rc rs Q 66 [(3, .ref (hd 33 (60 * i0 + x1.toNatClampNeg))), (0, .ref (hd 29 i0)), (1, .int x1), (2, .int x2)] [] μ := by
    intro hb
    have hF := hF.2.2.1 hb
    refine Wa.aload_n (j := 0) d_Wd_sheetFact_66 rfl ?_
    refine Wx.getI 8 3 d_Wd_sheetFact_67 f_Sh_3 fl_Wd_113 w_33 (s_33 hS hb2) ?_
    exact Wx.reti d_Wd_sheetFact_70 rfl hF
  have k6 : (x2 = 3) → Wx K_Wd_sheetFact d rc rs Q 71 [(3, .ref (hd 33 (60 * i0 + x1.toNatClampNeg))), (0, .ref (hd 29 i0)), (1, .int x1), (2, .int x2)] [] μ := by
    intro hb
    have hF := hF.2.2.2.1 hb
    refine Wa.aload_n (j := 0) d_Wd_sheetFact_71 rfl ?_
    refine Wx.getI 8 4 d_Wd_sheetFact_72 f_Sh_4 fl_Wd_116 w_33 (s_33 hS hb2) ?_
    exact Wx.reti d_Wd_sheetFact_75 rfl hF
  have k7 : (x2 = 4) → Wx K_Wd_sheetFact d rc rs Q 76 [(3, .ref (hd 33 (60 * i0 + x1.toNatClampNeg))), (0, .ref (hd 29 i0)), (1, .int x1), (2, .int x2)] [] μ := by
    intro hb
    have hF := hF.2.2.2.2.1 hb
    refine Wa.aload_n (j := 0) d_Wd_sheetFact_76 rfl ?_
    refine Wx.getI 8 5 d_Wd_sheetFact_77 f_Sh_5 fl_Wd_119 w_33 (s_33 hS hb2) ?_
    exact Wx.reti d_Wd_sheetFact_80 rfl hF
  have k8 : (x2 = 5) → Wx K_Wd_sheetFact d rc rs Q 81 [(3, .ref (hd 33 (60 * i0 + x1.toNatClampNeg))), (0, .ref (hd 29 i0)), (1, .int x1), (2, .int x2)] [] μ := by
    intro hb
    have hF := hF.2.2.2.2.2.1 hb
    refine Wa.aload_n (j := 0) d_Wd_sheetFact_81 rfl ?_
    refine Wx.getI 8 6 d_Wd_sheetFact_82 f_Sh_6 fl_Wd_120 w_33 (s_33 hS hb2) ?_
    exact Wx.reti d_Wd_sheetFact_85 rfl hF
  have k9 : (x2 = 6) → Wx K_Wd_sheetFact d rc rs Q 86 [(3, .ref (hd 33 (60 * i0 + x1.toNatClampNeg))), (0, .ref (hd 29 i0)), (1, .int x1), (2, .int x2)] [] μ := by
    intro hb
    have hF := hF.2.2.2.2.2.2.1 hb
    refine Wa.aload_n (j := 1) d_Wd_sheetFact_86 rfl ?_
    refine Wa.iload_n (j := 2) d_Wd_sheetFact_87 rfl ?_
    refine Wx.cVi (q := E_Wd) (As := [.int x1]) 10 (d - 1) 0 0 _ d_Wd_sheetFact_88 mok_Wd_knowers vl_Wd_123 rfl rfl rfl (Nat.le_of_ble_eq_true rfl) (by omega) (Nat.zero_le _) (Nat.zero_le _) (s_29 hS h0) hF (fun y11 μ10 hS hF => ?_)
    exact Wx.reti d_Wd_sheetFact_91 rfl hF
  have k12 : (x2 = 7) → Wx K_Wd_sheetFact d rc rs Q 92 [(3, .ref (hd 33 (60 * i0 + x1.toNatClampNeg))), (0, .ref (hd 29 i0)), (1, .int x1), (2, .int x2)] [] μ := by
    intro hb
    have hF := hF.2.2.2.2.2.2.2.1 hb
    refine Wa.aload_n (j := 1) d_Wd_sheetFact_92 rfl ?_
    refine Wa.iload_n (j := 2) d_Wd_sheetFact_93 rfl ?_
    refine Wx.cVi (q := E_Wd) (As := [.int x1]) 10 (d - 1) 0 0 _ d_Wd_sheetFact_94 mok_Wd_showers vl_Wd_126 rfl rfl rfl (Nat.le_of_ble_eq_true rfl) (by omega) (Nat.zero_le _) (Nat.zero_le _) (s_29 hS h0) hF (fun y14 μ13 hS hF => ?_)
    exact Wx.reti d_Wd_sheetFact_97 rfl hF
  have k15 : (x2.toInt < 0 ∨ 7 < x2.toInt) → Wx K_Wd_sheetFact d rc rs Q 98 [(3, .ref (hd 33 (60 * i0 + x1.toNatClampNeg))), (0, .ref (hd 29 i0)), (1, .int x1), (2, .int x2)] [] μ := by
    intro hb
    have hF := hF.2.2.2.2.2.2.2.2 hb
    refine Wa.iconst (v := 0) d_Wd_sheetFact_98 rfl ?_
    exact Wx.reti d_Wd_sheetFact_99 rfl hF
  rcases sw_0_7 x2 with hb | hb | hb | hb | hb | hb | hb | hb | hb | hb
  · exact Wa.tabOut 98 d_Wd_sheetFact_8 (Or.inl hb) (by decide) (k15 (Or.inl hb))
  · exact Wa.tabOut 98 d_Wd_sheetFact_8 (Or.inr hb) (by decide) (k15 (Or.inr hb))
  · exact Wa.tabIn 56 d_Wd_sheetFact_8 (by rw [hb]; decide) (by rw [hb]; decide) (by rw [hb]; rfl) (by decide) (k3 hb)
  · exact Wa.tabIn 61 d_Wd_sheetFact_8 (by rw [hb]; decide) (by rw [hb]; decide) (by rw [hb]; rfl) (by decide) (k4 hb)
  · exact Wa.tabIn 66 d_Wd_sheetFact_8 (by rw [hb]; decide) (by rw [hb]; decide) (by rw [hb]; rfl) (by decide) (k5 hb)
  · exact Wa.tabIn 71 d_Wd_sheetFact_8 (by rw [hb]; decide) (by rw [hb]; decide) (by rw [hb]; rfl) (by decide) (k6 hb)
  · exact Wa.tabIn 76 d_Wd_sheetFact_8 (by rw [hb]; decide) (by rw [hb]; decide) (by rw [hb]; rfl) (by decide) (k7 hb)
  · exact Wa.tabIn 81 d_Wd_sheetFact_8 (by rw [hb]; decide) (by rw [hb]; decide) (by rw [hb]; rfl) (by decide) (k8 hb)
  · exact Wa.tabIn 86 d_Wd_sheetFact_8 (by rw [hb]; decide) (by rw [hb]; decide) (by rw [hb]; rfl) (by decide) (k9 hb)
  · exact Wa.tabIn 92 d_Wd_sheetFact_8 (by rw [hb]; decide) (by rw [hb]; decide) (by rw [hb]; rfl) (by decide) (k12 hb)
theorem e_Wd_sheetFact {d rc rs : Nat} {Q : Option Value → Mu → Prop} {μ : Mu} {i0 : Nat} {x1 : Int32} {x2 : Int32} (hk : Wx K_Wd_sheetFact d rc rs (fun r μ' => St μ' ∧ Q r μ') 0 [(0, .ref (hd 29 i0)), (1, .int x1), (2, .int x2)] [] μ) : Cal K_Wd_sheetFact d rc rs [.ref (hd 29 i0), .int x1, .int x2] μ Q := Cal.of (by decide +kernel) rfl rfl (Nat.le_of_ble_eq_true rfl) rfl hk
set_option maxHeartbeats 4000000 in
set_option maxRecDepth 20000 in
theorem g_Wd_roadFact_0 {d rc rs : Nat} {Q : Option Value → Mu → Prop} {μ : Mu} {i0 : Nat} {x1 : Int32} {x2 : Int32} (hD : 1 ≤ d) (h0 : i0 < 2) (hS : St μ)
    (hF : (vp_in x1 8 ∧ (((x2 = 0) → Q (some (.int (mI μ (hd 27 (8 * i0 + x1.toNatClampNeg)) 1))) μ) ∧ ((x2 = 1) → Q (some (.int (mI μ (hd 27 (8 * i0 + x1.toNatClampNeg)) 2))) μ) ∧ ((x2 = 2) → Q (some (.int (mI μ (hd 27 (8 * i0 + x1.toNatClampNeg)) 3))) μ) ∧ ((x2 = 3) → (Cal K_Wd_underWayOn (d - 1) 0 0 [.ref (hd 29 i0), .ref (hd 27 (8 * i0 + x1.toNatClampNeg))] μ (fun r μ7 => ∃ y8, r = some (.int y8) ∧ Q (some (.int y8)) μ7))) ∧ ((x2 = 4) → Q (some (.int (mI μ (hd 27 (8 * i0 + x1.toNatClampNeg)) 4))) μ) ∧ ((x2.toInt < 0 ∨ 4 < x2.toInt) → Q (some (.int 0)) μ)))) : Wx K_Wd_roadFact d rc rs Q 0 [(0, .ref (hd 29 i0)), (1, .int x1), (2, .int x2)] [] μ := by
  refine Wa.aload_n (j := 0) d_Wd_roadFact_0 rfl ?_
  refine Wx.getR 10 2 d_Wd_roadFact_1 f_Wd_2 rfl fl_Wd_25 (s_29 hS h0) (r_29_2 hS h0) ?_
  refine Wa.iload_n (j := 1) d_Wd_roadFact_4 rfl ?_
  have hc1 := hF.1
  have hF := hF.2
  have hlhc1 := vp_in_lt hc1
  have hb2 : (8 * i0 + x1.toNatClampNeg) < 32 := by have : i0 < 2 := h0; omega
  refine Wa.aald (t := 7) (q := E_Rd) d_Wd_roadFact_5 rfl (s_32 hS h0) hc1 (a_32 hS h0 hlhc1) ?_
  refine Wa.astore_n (i := 3) (L' := [(3, .ref (hd 27 (8 * i0 + x1.toNatClampNeg))), (0, .ref (hd 29 i0)), (1, .int x1), (2, .int x2)]) d_Wd_roadFact_6 rfl (by decide) rfl ?_
  refine Wa.iload_n (j := 3) d_Wd_roadFact_7 rfl ?_
  have k3 : (x2 = 0) → Wx K_Wd_roadFact d rc rs Q 44 [(3, .ref (hd 27 (8 * i0 + x1.toNatClampNeg))), (0, .ref (hd 29 i0)), (1, .int x1), (2, .int x2)] [] μ := by
    intro hb
    have hF := hF.1 hb
    refine Wa.aload_n (j := 0) d_Wd_roadFact_44 rfl ?_
    refine Wx.getI 7 1 d_Wd_roadFact_45 f_Rd_1 fl_Wd_129 w_27 (s_27 hS hb2) ?_
    exact Wx.reti d_Wd_roadFact_48 rfl hF
  have k4 : (x2 = 1) → Wx K_Wd_roadFact d rc rs Q 49 [(3, .ref (hd 27 (8 * i0 + x1.toNatClampNeg))), (0, .ref (hd 29 i0)), (1, .int x1), (2, .int x2)] [] μ := by
    intro hb
    have hF := hF.2.1 hb
    refine Wa.aload_n (j := 0) d_Wd_roadFact_49 rfl ?_
    refine Wx.getI 7 2 d_Wd_roadFact_50 f_Rd_2 fl_Wd_132 w_27 (s_27 hS hb2) ?_
    exact Wx.reti d_Wd_roadFact_53 rfl hF
  have k5 : (x2 = 2) → Wx K_Wd_roadFact d rc rs Q 54 [(3, .ref (hd 27 (8 * i0 + x1.toNatClampNeg))), (0, .ref (hd 29 i0)), (1, .int x1), (2, .int x2)] [] μ := by
    intro hb
    have hF := hF.2.2.1 hb
    refine Wa.aload_n (j := 0) d_Wd_roadFact_54 rfl ?_
    refine Wx.getI 7 3 d_Wd_roadFact_55 f_Rd_3 fl_Wd_135 w_27 (s_27 hS hb2) ?_
    exact Wx.reti d_Wd_roadFact_58 rfl hF
  have k6 : (x2 = 3) → Wx K_Wd_roadFact d rc rs Q 59 [(3, .ref (hd 27 (8 * i0 + x1.toNatClampNeg))), (0, .ref (hd 29 i0)), (1, .int x1), (2, .int x2)] [] μ := by
    intro hb
    have hF := hF.2.2.2.1 hb
    refine Wa.aload_n (j := 1) d_Wd_roadFact_59 rfl ?_
    refine Wa.aload_n (j := 0) d_Wd_roadFact_60 rfl ?_
    refine Wx.cVi (q := E_Wd) (As := [.ref (hd 27 (8 * i0 + x1.toNatClampNeg))]) 10 (d - 1) 0 0 _ d_Wd_roadFact_61 mok_Wd_underWayOn vl_Wd_138 rfl rfl rfl (Nat.le_of_ble_eq_true rfl) (by omega) (Nat.zero_le _) (Nat.zero_le _) (s_29 hS h0) hF (fun y8 μ7 hS hF => ?_)
    exact Wx.reti d_Wd_roadFact_64 rfl hF
  have k9 : (x2 = 4) → Wx K_Wd_roadFact d rc rs Q 65 [(3, .ref (hd 27 (8 * i0 + x1.toNatClampNeg))), (0, .ref (hd 29 i0)), (1, .int x1), (2, .int x2)] [] μ := by
    intro hb
    have hF := hF.2.2.2.2.1 hb
    refine Wa.aload_n (j := 0) d_Wd_roadFact_65 rfl ?_
    refine Wx.getI 7 4 d_Wd_roadFact_66 f_Rd_4 fl_Wd_142 w_27 (s_27 hS hb2) ?_
    exact Wx.reti d_Wd_roadFact_69 rfl hF
  have k10 : (x2.toInt < 0 ∨ 4 < x2.toInt) → Wx K_Wd_roadFact d rc rs Q 70 [(3, .ref (hd 27 (8 * i0 + x1.toNatClampNeg))), (0, .ref (hd 29 i0)), (1, .int x1), (2, .int x2)] [] μ := by
    intro hb
    have hF := hF.2.2.2.2.2 hb
    refine Wa.iconst (v := 0) d_Wd_roadFact_70 rfl ?_
    exact Wx.reti d_Wd_roadFact_71 rfl hF
  rcases sw_0_4 x2 with hb | hb | hb | hb | hb | hb | hb
  · exact Wa.tabOut 70 d_Wd_roadFact_8 (Or.inl hb) (by decide) (k10 (Or.inl hb))
  · exact Wa.tabOut 70 d_Wd_roadFact_8 (Or.inr hb) (by decide) (k10 (Or.inr hb))
  · exact Wa.tabIn 44 d_Wd_roadFact_8 (by rw [hb]; decide) (by rw [hb]; decide) (by rw [hb]; rfl) (by decide) (k3 hb)
  · exact Wa.tabIn 49 d_Wd_roadFact_8 (by rw [hb]; decide) (by rw [hb]; decide) (by rw [hb]; rfl) (by decide) (k4 hb)
  · exact Wa.tabIn 54 d_Wd_roadFact_8 (by rw [hb]; decide) (by rw [hb]; decide) (by rw [hb]; rfl) (by decide) (k5 hb)
  · exact Wa.tabIn 59 d_Wd_roadFact_8 (by rw [hb]; decide) (by rw [hb]; decide) (by rw [hb]; rfl) (by decide) (k6 hb)
  · exact Wa.tabIn 65 d_Wd_roadFact_8 (by rw [hb]; decide) (by rw [hb]; decide) (by rw [hb]; rfl) (by decide) (k9 hb)
theorem e_Wd_roadFact {d rc rs : Nat} {Q : Option Value → Mu → Prop} {μ : Mu} {i0 : Nat} {x1 : Int32} {x2 : Int32} (hk : Wx K_Wd_roadFact d rc rs (fun r μ' => St μ' ∧ Q r μ') 0 [(0, .ref (hd 29 i0)), (1, .int x1), (2, .int x2)] [] μ) : Cal K_Wd_roadFact d rc rs [.ref (hd 29 i0), .int x1, .int x2] μ Q := Cal.of (by decide +kernel) rfl rfl (Nat.le_of_ble_eq_true rfl) rfl hk
set_option maxHeartbeats 4000000 in
set_option maxRecDepth 20000 in
theorem g_Wd_isKnownAt_0 {d rc rs : Nat} {Q : Option Value → Mu → Prop} {μ : Mu} {i0 : Nat} {x1 : Int32} {x2 : Int32} (hD : 1 ≤ d) (h0 : i0 < 2) (hS : St μ)
    (hF : (vp_in x1 5 ∧ (vp_in x2 60 ∧ (Cal K_Bd_has (d - 1) 0 0 [.ref (hd 35 (5 * i0 + x1.toNatClampNeg)), .ref (hd 33 (60 * i0 + x2.toNatClampNeg))] μ (fun r μ5 => ∃ y6, r = some (.int y6) ∧ ((y6 = 0 ∨ y6 = 1) ∧ Q (some (.int y6)) μ5)))))) : Wx K_Wd_isKnownAt d rc rs Q 0 [(0, .ref (hd 29 i0)), (1, .int x1), (2, .int x2)] [] μ := by
  refine Wa.aload_n (j := 0) d_Wd_isKnownAt_0 rfl ?_
  refine Wx.getR 10 1 d_Wd_isKnownAt_1 f_Wd_1 rfl fl_Wd_19 (s_29 hS h0) (r_29_1 hS h0) ?_
  refine Wa.iload_n (j := 1) d_Wd_isKnownAt_4 rfl ?_
  have hc1 := hF.1
  have hF := hF.2
  have hlhc1 := vp_in_lt hc1
  have hb2 : (5 * i0 + x1.toNatClampNeg) < 10 := by have : i0 < 2 := h0; omega
  refine Wa.aald (t := 1) (q := E_Bd) d_Wd_isKnownAt_5 rfl (s_31 hS h0) hc1 (a_31 hS h0 hlhc1) ?_
  refine Wa.aload_n (j := 0) d_Wd_isKnownAt_6 rfl ?_
  refine Wx.getR 10 0 d_Wd_isKnownAt_7 f_Wd_0 rfl fl_Wd_11 (s_29 hS h0) (r_29_0 hS h0) ?_
  refine Wa.iload_n (j := 2) d_Wd_isKnownAt_10 rfl ?_
  have hc3 := hF.1
  have hF := hF.2
  have hlhc3 := vp_in_lt hc3
  have hb4 : (60 * i0 + x2.toNatClampNeg) < 120 := by have : i0 < 2 := h0; omega
  refine Wa.aald (t := 8) (q := E_Sh) d_Wd_isKnownAt_11 rfl (s_30 hS h0) hc3 (a_30 hS h0 hlhc3) ?_
  refine Wx.cVi (q := E_Bd) (As := [.ref (hd 33 (60 * i0 + x2.toNatClampNeg))]) 1 (d - 1) 0 0 _ d_Wd_isKnownAt_12 mok_Bd_has vl_Wd_145 rfl rfl rfl (Nat.le_of_ble_eq_true rfl) (by omega) (Nat.zero_le _) (Nat.zero_le _) (s_35 hS hb2) hF (fun y6 μ5 hS hF => ?_)
  exact Wx.retz d_Wd_isKnownAt_15 rfl hF.1 hF.2
theorem e_Wd_isKnownAt {d rc rs : Nat} {Q : Option Value → Mu → Prop} {μ : Mu} {i0 : Nat} {x1 : Int32} {x2 : Int32} (hk : Wx K_Wd_isKnownAt d rc rs (fun r μ' => St μ' ∧ Q r μ') 0 [(0, .ref (hd 29 i0)), (1, .int x1), (2, .int x2)] [] μ) : Cal K_Wd_isKnownAt d rc rs [.ref (hd 29 i0), .int x1, .int x2] μ Q := Cal.of (by decide +kernel) rfl rfl (Nat.le_of_ble_eq_true rfl) rfl hk
set_option maxHeartbeats 4000000 in
set_option maxRecDepth 20000 in
theorem g_Wd_knowers_0 {d rc rs : Nat} {Q : Option Value → Mu → Prop} {μ : Mu} {i0 : Nat} {x1 : Int32} (hD : 1 ≤ d) (h0 : i0 < 2) (hS : St μ)
    (hF : Wx K_Wd_knowers d rc rs Q 4 [(0, .ref (hd 29 i0)), (1, .int x1), (2, .int 0), (3, .int 0)] [] μ) : Wx K_Wd_knowers d rc rs Q 0 [(0, .ref (hd 29 i0)), (1, .int x1)] [] μ := by
  refine Wa.iconst (v := 0) d_Wd_knowers_0 rfl ?_
  refine Wa.istore_n (i := 2) (L' := [(2, .int 0), (0, .ref (hd 29 i0)), (1, .int x1)]) d_Wd_knowers_1 rfl (by decide) rfl ?_
  refine Wa.iconst (v := 0) d_Wd_knowers_2 rfl ?_
  refine Wa.istore_n (i := 3) (L' := [(3, .int 0), (2, .int 0), (0, .ref (hd 29 i0)), (1, .int x1)]) d_Wd_knowers_3 rfl (by decide) rfl ?_
  exact Wa.loc [2, 3, 1, 0] rfl hF
theorem e_Wd_knowers {d rc rs : Nat} {Q : Option Value → Mu → Prop} {μ : Mu} {i0 : Nat} {x1 : Int32} (hk : Wx K_Wd_knowers d rc rs (fun r μ' => St μ' ∧ Q r μ') 0 [(0, .ref (hd 29 i0)), (1, .int x1)] [] μ) : Cal K_Wd_knowers d rc rs [.ref (hd 29 i0), .int x1] μ Q := Cal.of (by decide +kernel) rfl rfl (Nat.le_of_ble_eq_true rfl) rfl hk
set_option maxHeartbeats 4000000 in
set_option maxRecDepth 20000 in
theorem g_Wd_knowers_4 {d rc rs : Nat} {Q : Option Value → Mu → Prop} {μ : Mu} {i0 : Nat} {x1 : Int32} {x2 : Int32} {x3 : Int32} (hD : 1 ≤ d) (h0 : i0 < 2) (hS : St μ)
    (hF : (((mI μ (hd 18 (px μ (hd 29 i0) 3)) 3) ≤ x3 → Q (some (.int x2)) μ) ∧ (¬ (mI μ (hd 18 (px μ (hd 29 i0) 3)) 3) ≤ x3 → (Cal K_Wd_isKnownAt (d - 1) 0 0 [.ref (hd 29 i0), .int x3, .int x1] μ (fun r μ2 => ∃ y3, r = some (.int y3) ∧ ((y3 = 0 → Wx K_Wd_knowers d rc rs Q 4 [(0, .ref (hd 29 i0)), (1, .int x1), (2, .int (x2 + (0 : Int32))), (3, .int (x3 + 1))] [] μ2) ∧ (¬ y3 = 0 → Wx K_Wd_knowers d rc rs Q 4 [(0, .ref (hd 29 i0)), (1, .int x1), (2, .int (x2 + (1 : Int32))), (3, .int (x3 + 1))] [] μ2))))))) : Wx K_Wd_knowers d rc rs Q 4 [(0, .ref (hd 29 i0)), (1, .int x1), (2, .int x2), (3, .int x3)] [] μ := by
  refine Wa.iload_n (j := 3) d_Wd_knowers_4 rfl ?_
  refine Wa.aload_n (j := 0) d_Wd_knowers_5 rfl ?_
  have hp1 := d_29_3 (i := i0) hS h0
  refine Wx.getR 10 3 d_Wd_knowers_6 f_Wd_3 rfl fl_Wd_42 (s_29 hS h0) (hp1.1) ?_
  refine Wx.getI 6 3 d_Wd_knowers_9 f_Pl_3 fl_Wd_65 w_18 (s_18 hS hp1.2) ?_
  refine Wa.icmp_ge 38 d_Wd_knowers_12 (by decide) (fun hb => ?_) (fun hb => ?_)
  · have hF := hF.1 hb
    refine Wa.iload_n (j := 2) d_Wd_knowers_38 rfl ?_
    exact Wx.reti d_Wd_knowers_39 rfl hF
  · have hF := hF.2 hb
    refine Wa.iload_n (j := 2) d_Wd_knowers_15 rfl ?_
    refine Wa.aload_n (j := 0) d_Wd_knowers_16 rfl ?_
    refine Wa.iload_n (j := 3) d_Wd_knowers_17 rfl ?_
    refine Wa.iload_n (j := 1) d_Wd_knowers_18 rfl ?_
    refine Wx.cVi (q := E_Wd) (As := [.int x3, .int x1]) 10 (d - 1) 0 0 _ d_Wd_knowers_19 mok_Wd_isKnownAt vl_Wd_149 rfl rfl rfl (Nat.le_of_ble_eq_true rfl) (by omega) (Nat.zero_le _) (Nat.zero_le _) (s_29 hS h0) hF (fun y3 μ2 hS hF => ?_)
    refine Wa.if_eq 29 d_Wd_knowers_22 (by decide) (fun hb => ?_) (fun hb => ?_)
    · have hF := hF.1 hb
      refine Wa.iconst (v := 0) d_Wd_knowers_29 rfl ?_
      refine Wa.iadd d_Wd_knowers_30 ?_
      refine Wa.istore_n (i := 2) (L' := [(2, .int (x2 + (0 : Int32))), (0, .ref (hd 29 i0)), (1, .int x1), (3, .int x3)]) d_Wd_knowers_31 rfl (by decide) rfl ?_
      refine Wa.iinc (i := 3) (j := 3) (v := (x3 + 1)) (L' := [(3, .int (x3 + 1)), (2, .int (x2 + (0 : Int32))), (0, .ref (hd 29 i0)), (1, .int x1)]) d_Wd_knowers_32 rfl rfl (by decide) rfl ?_
      refine Wa.goto 4 d_Wd_knowers_35 (by decide) ?_
      exact Wa.loc [2, 3, 1, 0] rfl hF
    · have hF := hF.2 hb
      refine Wa.iconst (v := 1) d_Wd_knowers_25 rfl ?_
      refine Wa.goto 30 d_Wd_knowers_26 (by decide) ?_
      refine Wa.iadd d_Wd_knowers_30 ?_
      refine Wa.istore_n (i := 2) (L' := [(2, .int (x2 + (1 : Int32))), (0, .ref (hd 29 i0)), (1, .int x1), (3, .int x3)]) d_Wd_knowers_31 rfl (by decide) rfl ?_
      refine Wa.iinc (i := 3) (j := 3) (v := (x3 + 1)) (L' := [(3, .int (x3 + 1)), (2, .int (x2 + (1 : Int32))), (0, .ref (hd 29 i0)), (1, .int x1)]) d_Wd_knowers_32 rfl rfl (by decide) rfl ?_
      refine Wa.goto 4 d_Wd_knowers_35 (by decide) ?_
      exact Wa.loc [2, 3, 1, 0] rfl hF
set_option maxHeartbeats 4000000 in
set_option maxRecDepth 20000 in
theorem g_Wd_knownOnBoards_0 {d rc rs : Nat} {Q : Option Value → Mu → Prop} {μ : Mu} {i0 : Nat} (hD : 1 ≤ d) (h0 : i0 < 2) (hS : St μ)
    (hF : Wx K_Wd_knownOnBoards d rc rs Q 4 [(0, .ref (hd 29 i0)), (1, .int 0), (2, .int 0)] [] μ) : Wx K_Wd_knownOnBoards d rc rs Q 0 [(0, .ref (hd 29 i0))] [] μ := by
  refine Wa.iconst (v := 0) d_Wd_knownOnBoards_0 rfl ?_
  refine Wa.istore_n (i := 1) (L' := [(1, .int 0), (0, .ref (hd 29 i0))]) d_Wd_knownOnBoards_1 rfl (by decide) rfl ?_
  refine Wa.iconst (v := 0) d_Wd_knownOnBoards_2 rfl ?_
  refine Wa.istore_n (i := 2) (L' := [(2, .int 0), (1, .int 0), (0, .ref (hd 29 i0))]) d_Wd_knownOnBoards_3 rfl (by decide) rfl ?_
  exact Wa.loc [2, 1, 0] rfl hF
theorem e_Wd_knownOnBoards {d rc rs : Nat} {Q : Option Value → Mu → Prop} {μ : Mu} {i0 : Nat} (hk : Wx K_Wd_knownOnBoards d rc rs (fun r μ' => St μ' ∧ Q r μ') 0 [(0, .ref (hd 29 i0))] [] μ) : Cal K_Wd_knownOnBoards d rc rs [.ref (hd 29 i0)] μ Q := Cal.of (by decide +kernel) rfl rfl (Nat.le_of_ble_eq_true rfl) rfl hk
set_option maxHeartbeats 4000000 in
set_option maxRecDepth 20000 in
theorem g_Wd_knownOnBoards_4 {d rc rs : Nat} {Q : Option Value → Mu → Prop} {μ : Mu} {i0 : Nat} {x1 : Int32} {x2 : Int32} (hD : 1 ≤ d) (h0 : i0 < 2) (hS : St μ)
    (hF : (((mI μ (hd 18 (px μ (hd 29 i0) 3)) 3) ≤ x2 → Q (some (.int x1)) μ) ∧ (¬ (mI μ (hd 18 (px μ (hd 29 i0) 3)) 3) ≤ x2 → (vp_in x2 5 ∧ (Cal K_Bd_knownCount (d - 1) 0 0 [.ref (hd 35 (5 * i0 + x2.toNatClampNeg))] μ (fun r μ4 => ∃ y5, r = some (.int y5) ∧ Wx K_Wd_knownOnBoards d rc rs Q 4 [(0, .ref (hd 29 i0)), (1, .int (x1 + y5)), (2, .int (x2 + 1))] [] μ4)))))) : Wx K_Wd_knownOnBoards d rc rs Q 4 [(0, .ref (hd 29 i0)), (1, .int x1), (2, .int x2)] [] μ := by
  refine Wa.iload_n (j := 2) d_Wd_knownOnBoards_4 rfl ?_
  refine Wa.aload_n (j := 0) d_Wd_knownOnBoards_5 rfl ?_
  have hp1 := d_29_3 (i := i0) hS h0
  refine Wx.getR 10 3 d_Wd_knownOnBoards_6 f_Wd_3 rfl fl_Wd_42 (s_29 hS h0) (hp1.1) ?_
  refine Wx.getI 6 3 d_Wd_knownOnBoards_9 f_Pl_3 fl_Wd_65 w_18 (s_18 hS hp1.2) ?_
  refine Wa.icmp_ge 33 d_Wd_knownOnBoards_12 (by decide) (fun hb => ?_) (fun hb => ?_)
  · have hF := hF.1 hb
    refine Wa.iload_n (j := 1) d_Wd_knownOnBoards_33 rfl ?_
    exact Wx.reti d_Wd_knownOnBoards_34 rfl hF
  · have hF := hF.2 hb
    refine Wa.iload_n (j := 1) d_Wd_knownOnBoards_15 rfl ?_
    refine Wa.aload_n (j := 0) d_Wd_knownOnBoards_16 rfl ?_
    refine Wx.getR 10 1 d_Wd_knownOnBoards_17 f_Wd_1 rfl fl_Wd_19 (s_29 hS h0) (r_29_1 hS h0) ?_
    refine Wa.iload_n (j := 2) d_Wd_knownOnBoards_20 rfl ?_
    have hc2 := hF.1
    have hF := hF.2
    have hlhc2 := vp_in_lt hc2
    have hb3 : (5 * i0 + x2.toNatClampNeg) < 10 := by have : i0 < 2 := h0; omega
    refine Wa.aald (t := 1) (q := E_Bd) d_Wd_knownOnBoards_21 rfl (s_31 hS h0) hc2 (a_31 hS h0 hlhc2) ?_
    refine Wx.cVi (q := E_Bd) (As := []) 1 (d - 1) 0 0 _ d_Wd_knownOnBoards_22 mok_Bd_knownCount vl_Wd_90 rfl rfl rfl (Nat.le_of_ble_eq_true rfl) (by omega) (Nat.zero_le _) (Nat.zero_le _) (s_35 hS hb3) hF (fun y5 μ4 hS hF => ?_)
    refine Wa.iadd d_Wd_knownOnBoards_25 ?_
    refine Wa.istore_n (i := 1) (L' := [(1, .int (x1 + y5)), (0, .ref (hd 29 i0)), (2, .int x2)]) d_Wd_knownOnBoards_26 rfl (by decide) rfl ?_
    refine Wa.iinc (i := 2) (j := 2) (v := (x2 + 1)) (L' := [(2, .int (x2 + 1)), (1, .int (x1 + y5)), (0, .ref (hd 29 i0))]) d_Wd_knownOnBoards_27 rfl rfl (by decide) rfl ?_
    refine Wa.goto 4 d_Wd_knownOnBoards_30 (by decide) ?_
    exact Wa.loc [2, 1, 0] rfl hF
set_option maxHeartbeats 4000000 in
set_option maxRecDepth 20000 in
theorem g_Wd_showers_0 {d rc rs : Nat} {Q : Option Value → Mu → Prop} {μ : Mu} {i0 : Nat} {x1 : Int32} (hD : 1 ≤ d) (h0 : i0 < 2) (hS : St μ)
    (hF : (vp_in x1 60 ∧ Wx K_Wd_showers d rc rs Q 12 [(0, .ref (hd 29 i0)), (1, .int x1), (2, .ref (hd 33 (60 * i0 + x1.toNatClampNeg))), (3, .int 0), (4, .int 0)] [] μ)) : Wx K_Wd_showers d rc rs Q 0 [(0, .ref (hd 29 i0)), (1, .int x1)] [] μ := by
  refine Wa.aload_n (j := 0) d_Wd_showers_0 rfl ?_
  refine Wx.getR 10 0 d_Wd_showers_1 f_Wd_0 rfl fl_Wd_11 (s_29 hS h0) (r_29_0 hS h0) ?_
  refine Wa.iload_n (j := 1) d_Wd_showers_4 rfl ?_
  have hc1 := hF.1
  have hF := hF.2
  have hlhc1 := vp_in_lt hc1
  have hb2 : (60 * i0 + x1.toNatClampNeg) < 120 := by have : i0 < 2 := h0; omega
  refine Wa.aald (t := 8) (q := E_Sh) d_Wd_showers_5 rfl (s_30 hS h0) hc1 (a_30 hS h0 hlhc1) ?_
  refine Wa.astore_n (i := 2) (L' := [(2, .ref (hd 33 (60 * i0 + x1.toNatClampNeg))), (0, .ref (hd 29 i0)), (1, .int x1)]) d_Wd_showers_6 rfl (by decide) rfl ?_
  refine Wa.iconst (v := 0) d_Wd_showers_7 rfl ?_
  refine Wa.istore_n (i := 3) (L' := [(3, .int 0), (2, .ref (hd 33 (60 * i0 + x1.toNatClampNeg))), (0, .ref (hd 29 i0)), (1, .int x1)]) d_Wd_showers_8 rfl (by decide) rfl ?_
  refine Wa.iconst (v := 0) d_Wd_showers_9 rfl ?_
  refine Wa.istore (i := 4) (L' := [(4, .int 0), (3, .int 0), (2, .ref (hd 33 (60 * i0 + x1.toNatClampNeg))), (0, .ref (hd 29 i0)), (1, .int x1)]) d_Wd_showers_10 (by decide) rfl ?_
  exact Wa.loc [3, 4, 2, 1, 0] rfl hF
theorem e_Wd_showers {d rc rs : Nat} {Q : Option Value → Mu → Prop} {μ : Mu} {i0 : Nat} {x1 : Int32} (hk : Wx K_Wd_showers d rc rs (fun r μ' => St μ' ∧ Q r μ') 0 [(0, .ref (hd 29 i0)), (1, .int x1)] [] μ) : Cal K_Wd_showers d rc rs [.ref (hd 29 i0), .int x1] μ Q := Cal.of (by decide +kernel) rfl rfl (Nat.le_of_ble_eq_true rfl) rfl hk
set_option maxHeartbeats 4000000 in
set_option maxRecDepth 20000 in
theorem g_Wd_showers_12 {d rc rs : Nat} {Q : Option Value → Mu → Prop} {μ : Mu} {i0 : Nat} {x1 : Int32} {i2 : Nat} {x3 : Int32} {x4 : Int32} (hD : 1 ≤ d) (h0 : i0 < 2) (h2 : i2 < 120) (hS : St μ)
    (hF : (((mI μ (hd 18 (px μ (hd 29 i0) 3)) 3) ≤ x4 → Q (some (.int x3)) μ) ∧ (¬ (mI μ (hd 18 (px μ (hd 29 i0) 3)) 3) ≤ x4 → (vp_in x4 5 ∧ (Cal K_Bd_shownFrom (d - 1) 0 0 [.ref (hd 35 (5 * i0 + x4.toNatClampNeg)), .int (mI μ (hd 33 i2) 2), .int (mI μ (hd 33 i2) 1)] μ (fun r μ4 => ∃ y5, r = some (.int y5) ∧ ((y5 = x1 → Wx K_Wd_showers d rc rs Q 12 [(0, .ref (hd 29 i0)), (1, .int x1), (2, .ref (hd 33 i2)), (3, .int (x3 + (1 : Int32))), (4, .int (x4 + 1))] [] μ4) ∧ (¬ y5 = x1 → Wx K_Wd_showers d rc rs Q 12 [(0, .ref (hd 29 i0)), (1, .int x1), (2, .ref (hd 33 i2)), (3, .int (x3 + (0 : Int32))), (4, .int (x4 + 1))] [] μ4)))))))) : Wx K_Wd_showers d rc rs Q 12 [(0, .ref (hd 29 i0)), (1, .int x1), (2, .ref (hd 33 i2)), (3, .int x3), (4, .int x4)] [] μ := by
  refine Wa.iload (j := 4) d_Wd_showers_12 rfl ?_
  refine Wa.aload_n (j := 0) d_Wd_showers_14 rfl ?_
  have hp1 := d_29_3 (i := i0) hS h0
  refine Wx.getR 10 3 d_Wd_showers_15 f_Wd_3 rfl fl_Wd_42 (s_29 hS h0) (hp1.1) ?_
  refine Wx.getI 6 3 d_Wd_showers_18 f_Pl_3 fl_Wd_65 w_18 (s_18 hS hp1.2) ?_
  refine Wa.icmp_ge 60 d_Wd_showers_21 (by decide) (fun hb => ?_) (fun hb => ?_)
  · have hF := hF.1 hb
    refine Wa.iload_n (j := 3) d_Wd_showers_60 rfl ?_
    exact Wx.reti d_Wd_showers_61 rfl hF
  · have hF := hF.2 hb
    refine Wa.iload_n (j := 3) d_Wd_showers_24 rfl ?_
    refine Wa.aload_n (j := 0) d_Wd_showers_25 rfl ?_
    refine Wx.getR 10 1 d_Wd_showers_26 f_Wd_1 rfl fl_Wd_19 (s_29 hS h0) (r_29_1 hS h0) ?_
    refine Wa.iload (j := 4) d_Wd_showers_29 rfl ?_
    have hc2 := hF.1
    have hF := hF.2
    have hlhc2 := vp_in_lt hc2
    have hb3 : (5 * i0 + x4.toNatClampNeg) < 10 := by have : i0 < 2 := h0; omega
    refine Wa.aald (t := 1) (q := E_Bd) d_Wd_showers_31 rfl (s_31 hS h0) hc2 (a_31 hS h0 hlhc2) ?_
    refine Wa.aload_n (j := 2) d_Wd_showers_32 rfl ?_
    refine Wx.getI 8 2 d_Wd_showers_33 f_Sh_2 fl_Wd_110 w_33 (s_33 hS h2) ?_
    refine Wa.aload_n (j := 2) d_Wd_showers_36 rfl ?_
    refine Wx.getI 8 1 d_Wd_showers_37 f_Sh_1 fl_Wd_107 w_33 (s_33 hS h2) ?_
    refine Wx.cVi (q := E_Bd) (As := [.int (mI μ (hd 33 i2) 2), .int (mI μ (hd 33 i2) 1)]) 1 (d - 1) 0 0 _ d_Wd_showers_40 mok_Bd_shownFrom vl_Wd_153 rfl rfl rfl (Nat.le_of_ble_eq_true rfl) (by omega) (Nat.zero_le _) (Nat.zero_le _) (s_35 hS hb3) hF (fun y5 μ4 hS hF => ?_)
    refine Wa.iload_n (j := 1) d_Wd_showers_43 rfl ?_
    refine Wa.icmp_ne 51 d_Wd_showers_44 (by decide) (fun hb => ?_) (fun hb => ?_)
    · have hF := hF.2 hb
      refine Wa.iconst (v := 0) d_Wd_showers_51 rfl ?_
      refine Wa.iadd d_Wd_showers_52 ?_
      refine Wa.istore_n (i := 3) (L' := [(3, .int (x3 + (0 : Int32))), (0, .ref (hd 29 i0)), (1, .int x1), (2, .ref (hd 33 i2)), (4, .int x4)]) d_Wd_showers_53 rfl (by decide) rfl ?_
      refine Wa.iinc (i := 4) (j := 4) (v := (x4 + 1)) (L' := [(4, .int (x4 + 1)), (3, .int (x3 + (0 : Int32))), (0, .ref (hd 29 i0)), (1, .int x1), (2, .ref (hd 33 i2))]) d_Wd_showers_54 rfl rfl (by decide) rfl ?_
      refine Wa.goto 12 d_Wd_showers_57 (by decide) ?_
      exact Wa.loc [2, 3, 4, 1, 0] rfl hF
    · have hF := hF.1 hb
      refine Wa.iconst (v := 1) d_Wd_showers_47 rfl ?_
      refine Wa.goto 52 d_Wd_showers_48 (by decide) ?_
      refine Wa.iadd d_Wd_showers_52 ?_
      refine Wa.istore_n (i := 3) (L' := [(3, .int (x3 + (1 : Int32))), (0, .ref (hd 29 i0)), (1, .int x1), (2, .ref (hd 33 i2)), (4, .int x4)]) d_Wd_showers_53 rfl (by decide) rfl ?_
      refine Wa.iinc (i := 4) (j := 4) (v := (x4 + 1)) (L' := [(4, .int (x4 + 1)), (3, .int (x3 + (1 : Int32))), (0, .ref (hd 29 i0)), (1, .int x1), (2, .ref (hd 33 i2))]) d_Wd_showers_54 rfl rfl (by decide) rfl ?_
      refine Wa.goto 12 d_Wd_showers_57 (by decide) ?_
      exact Wa.loc [2, 3, 4, 1, 0] rfl hF
set_option maxHeartbeats 4000000 in
set_option maxRecDepth 20000 in
theorem g_Wd_roadsFrom_0 {d rc rs : Nat} {Q : Option Value → Mu → Prop} {μ : Mu} {i0 : Nat} {x1 : Int32} (hD : 1 ≤ d) (h0 : i0 < 2) (hS : St μ)
    (hF : Wx K_Wd_roadsFrom d rc rs Q 4 [(0, .ref (hd 29 i0)), (1, .int x1), (2, .int 0), (3, .int 0)] [] μ) : Wx K_Wd_roadsFrom d rc rs Q 0 [(0, .ref (hd 29 i0)), (1, .int x1)] [] μ := by
  refine Wa.iconst (v := 0) d_Wd_roadsFrom_0 rfl ?_
  refine Wa.istore_n (i := 2) (L' := [(2, .int 0), (0, .ref (hd 29 i0)), (1, .int x1)]) d_Wd_roadsFrom_1 rfl (by decide) rfl ?_
  refine Wa.iconst (v := 0) d_Wd_roadsFrom_2 rfl ?_
  refine Wa.istore_n (i := 3) (L' := [(3, .int 0), (2, .int 0), (0, .ref (hd 29 i0)), (1, .int x1)]) d_Wd_roadsFrom_3 rfl (by decide) rfl ?_
  exact Wa.loc [2, 3, 1, 0] rfl hF
theorem e_Wd_roadsFrom {d rc rs : Nat} {Q : Option Value → Mu → Prop} {μ : Mu} {i0 : Nat} {x1 : Int32} (hk : Wx K_Wd_roadsFrom d rc rs (fun r μ' => St μ' ∧ Q r μ') 0 [(0, .ref (hd 29 i0)), (1, .int x1)] [] μ) : Cal K_Wd_roadsFrom d rc rs [.ref (hd 29 i0), .int x1] μ Q := Cal.of (by decide +kernel) rfl rfl (Nat.le_of_ble_eq_true rfl) rfl hk
set_option maxHeartbeats 4000000 in
set_option maxRecDepth 20000 in
theorem g_Wd_roadsFrom_4 {d rc rs : Nat} {Q : Option Value → Mu → Prop} {μ : Mu} {i0 : Nat} {x1 : Int32} {x2 : Int32} {x3 : Int32} (hD : 1 ≤ d) (h0 : i0 < 2) (hS : St μ)
    (hF : (((mI μ (hd 18 (px μ (hd 29 i0) 3)) 5) ≤ x3 → Q (some (.int x2)) μ) ∧ (¬ (mI μ (hd 18 (px μ (hd 29 i0) 3)) 5) ≤ x3 → (vp_in x3 8 ∧ (((mI μ (hd 27 (8 * i0 + x3.toNatClampNeg)) 1) = x1 → Wx K_Wd_roadsFrom d rc rs Q 4 [(0, .ref (hd 29 i0)), (1, .int x1), (2, .int (x2 + (1 : Int32))), (3, .int (x3 + 1))] [] μ) ∧ (¬ (mI μ (hd 27 (8 * i0 + x3.toNatClampNeg)) 1) = x1 → Wx K_Wd_roadsFrom d rc rs Q 4 [(0, .ref (hd 29 i0)), (1, .int x1), (2, .int (x2 + (0 : Int32))), (3, .int (x3 + 1))] [] μ)))))) : Wx K_Wd_roadsFrom d rc rs Q 4 [(0, .ref (hd 29 i0)), (1, .int x1), (2, .int x2), (3, .int x3)] [] μ := by
  refine Wa.iload_n (j := 3) d_Wd_roadsFrom_4 rfl ?_
  refine Wa.aload_n (j := 0) d_Wd_roadsFrom_5 rfl ?_
  have hp1 := d_29_3 (i := i0) hS h0
  refine Wx.getR 10 3 d_Wd_roadsFrom_6 f_Wd_3 rfl fl_Wd_42 (s_29 hS h0) (hp1.1) ?_
  refine Wx.getI 6 5 d_Wd_roadsFrom_9 f_Pl_5 fl_Wd_52 w_18 (s_18 hS hp1.2) ?_
  refine Wa.icmp_ge 42 d_Wd_roadsFrom_12 (by decide) (fun hb => ?_) (fun hb => ?_)
  · have hF := hF.1 hb
    refine Wa.iload_n (j := 2) d_Wd_roadsFrom_42 rfl ?_
    exact Wx.reti d_Wd_roadsFrom_43 rfl hF
  · have hF := hF.2 hb
    refine Wa.iload_n (j := 2) d_Wd_roadsFrom_15 rfl ?_
    refine Wa.aload_n (j := 0) d_Wd_roadsFrom_16 rfl ?_
    refine Wx.getR 10 2 d_Wd_roadsFrom_17 f_Wd_2 rfl fl_Wd_25 (s_29 hS h0) (r_29_2 hS h0) ?_
    refine Wa.iload_n (j := 3) d_Wd_roadsFrom_20 rfl ?_
    have hc2 := hF.1
    have hF := hF.2
    have hlhc2 := vp_in_lt hc2
    have hb3 : (8 * i0 + x3.toNatClampNeg) < 32 := by have : i0 < 2 := h0; omega
    refine Wa.aald (t := 7) (q := E_Rd) d_Wd_roadsFrom_21 rfl (s_32 hS h0) hc2 (a_32 hS h0 hlhc2) ?_
    refine Wx.getI 7 1 d_Wd_roadsFrom_22 f_Rd_1 fl_Wd_129 w_27 (s_27 hS hb3) ?_
    refine Wa.iload_n (j := 1) d_Wd_roadsFrom_25 rfl ?_
    refine Wa.icmp_ne 33 d_Wd_roadsFrom_26 (by decide) (fun hb => ?_) (fun hb => ?_)
    · have hF := hF.2 hb
      refine Wa.iconst (v := 0) d_Wd_roadsFrom_33 rfl ?_
      refine Wa.iadd d_Wd_roadsFrom_34 ?_
      refine Wa.istore_n (i := 2) (L' := [(2, .int (x2 + (0 : Int32))), (0, .ref (hd 29 i0)), (1, .int x1), (3, .int x3)]) d_Wd_roadsFrom_35 rfl (by decide) rfl ?_
      refine Wa.iinc (i := 3) (j := 3) (v := (x3 + 1)) (L' := [(3, .int (x3 + 1)), (2, .int (x2 + (0 : Int32))), (0, .ref (hd 29 i0)), (1, .int x1)]) d_Wd_roadsFrom_36 rfl rfl (by decide) rfl ?_
      refine Wa.goto 4 d_Wd_roadsFrom_39 (by decide) ?_
      exact Wa.loc [2, 3, 1, 0] rfl hF
    · have hF := hF.1 hb
      refine Wa.iconst (v := 1) d_Wd_roadsFrom_29 rfl ?_
      refine Wa.goto 34 d_Wd_roadsFrom_30 (by decide) ?_
      refine Wa.iadd d_Wd_roadsFrom_34 ?_
      refine Wa.istore_n (i := 2) (L' := [(2, .int (x2 + (1 : Int32))), (0, .ref (hd 29 i0)), (1, .int x1), (3, .int x3)]) d_Wd_roadsFrom_35 rfl (by decide) rfl ?_
      refine Wa.iinc (i := 3) (j := 3) (v := (x3 + 1)) (L' := [(3, .int (x3 + 1)), (2, .int (x2 + (1 : Int32))), (0, .ref (hd 29 i0)), (1, .int x1)]) d_Wd_roadsFrom_36 rfl rfl (by decide) rfl ?_
      refine Wa.goto 4 d_Wd_roadsFrom_39 (by decide) ?_
      exact Wa.loc [2, 3, 1, 0] rfl hF
set_option maxHeartbeats 4000000 in
set_option maxRecDepth 20000 in
theorem g_Wd_underWayOnRoads_0 {d rc rs : Nat} {Q : Option Value → Mu → Prop} {μ : Mu} {i0 : Nat} (hD : 1 ≤ d) (h0 : i0 < 2) (hS : St μ)
    (hF : Wx K_Wd_underWayOnRoads d rc rs Q 4 [(0, .ref (hd 29 i0)), (1, .int 0), (2, .int 0)] [] μ) : Wx K_Wd_underWayOnRoads d rc rs Q 0 [(0, .ref (hd 29 i0))] [] μ := by
  refine Wa.iconst (v := 0) d_Wd_underWayOnRoads_0 rfl ?_
  refine Wa.istore_n (i := 1) (L' := [(1, .int 0), (0, .ref (hd 29 i0))]) d_Wd_underWayOnRoads_1 rfl (by decide) rfl ?_
  refine Wa.iconst (v := 0) d_Wd_underWayOnRoads_2 rfl ?_
  refine Wa.istore_n (i := 2) (L' := [(2, .int 0), (1, .int 0), (0, .ref (hd 29 i0))]) d_Wd_underWayOnRoads_3 rfl (by decide) rfl ?_
  exact Wa.loc [2, 1, 0] rfl hF
theorem e_Wd_underWayOnRoads {d rc rs : Nat} {Q : Option Value → Mu → Prop} {μ : Mu} {i0 : Nat} (hk : Wx K_Wd_underWayOnRoads d rc rs (fun r μ' => St μ' ∧ Q r μ') 0 [(0, .ref (hd 29 i0))] [] μ) : Cal K_Wd_underWayOnRoads d rc rs [.ref (hd 29 i0)] μ Q := Cal.of (by decide +kernel) rfl rfl (Nat.le_of_ble_eq_true rfl) rfl hk
set_option maxHeartbeats 4000000 in
set_option maxRecDepth 20000 in
theorem g_Wd_underWayOnRoads_4 {d rc rs : Nat} {Q : Option Value → Mu → Prop} {μ : Mu} {i0 : Nat} {x1 : Int32} {x2 : Int32} (hD : 1 ≤ d) (h0 : i0 < 2) (hS : St μ)
    (hF : (((mI μ (hd 18 (px μ (hd 29 i0) 3)) 5) ≤ x2 → Q (some (.int x1)) μ) ∧ (¬ (mI μ (hd 18 (px μ (hd 29 i0) 3)) 5) ≤ x2 → (vp_in x2 8 ∧ (Cal K_Wd_underWayOn (d - 1) 0 0 [.ref (hd 29 i0), .ref (hd 27 (8 * i0 + x2.toNatClampNeg))] μ (fun r μ4 => ∃ y5, r = some (.int y5) ∧ Wx K_Wd_underWayOnRoads d rc rs Q 4 [(0, .ref (hd 29 i0)), (1, .int (x1 + y5)), (2, .int (x2 + 1))] [] μ4)))))) : Wx K_Wd_underWayOnRoads d rc rs Q 4 [(0, .ref (hd 29 i0)), (1, .int x1), (2, .int x2)] [] μ := by
  refine Wa.iload_n (j := 2) d_Wd_underWayOnRoads_4 rfl ?_
  refine Wa.aload_n (j := 0) d_Wd_underWayOnRoads_5 rfl ?_
  have hp1 := d_29_3 (i := i0) hS h0
  refine Wx.getR 10 3 d_Wd_underWayOnRoads_6 f_Wd_3 rfl fl_Wd_42 (s_29 hS h0) (hp1.1) ?_
  refine Wx.getI 6 5 d_Wd_underWayOnRoads_9 f_Pl_5 fl_Wd_52 w_18 (s_18 hS hp1.2) ?_
  refine Wa.icmp_ge 34 d_Wd_underWayOnRoads_12 (by decide) (fun hb => ?_) (fun hb => ?_)
  · have hF := hF.1 hb
    refine Wa.iload_n (j := 1) d_Wd_underWayOnRoads_34 rfl ?_
    exact Wx.reti d_Wd_underWayOnRoads_35 rfl hF
  · have hF := hF.2 hb
    refine Wa.iload_n (j := 1) d_Wd_underWayOnRoads_15 rfl ?_
    refine Wa.aload_n (j := 0) d_Wd_underWayOnRoads_16 rfl ?_
    refine Wa.aload_n (j := 0) d_Wd_underWayOnRoads_17 rfl ?_
    refine Wx.getR 10 2 d_Wd_underWayOnRoads_18 f_Wd_2 rfl fl_Wd_25 (s_29 hS h0) (r_29_2 hS h0) ?_
    refine Wa.iload_n (j := 2) d_Wd_underWayOnRoads_21 rfl ?_
    have hc2 := hF.1
    have hF := hF.2
    have hlhc2 := vp_in_lt hc2
    have hb3 : (8 * i0 + x2.toNatClampNeg) < 32 := by have : i0 < 2 := h0; omega
    refine Wa.aald (t := 7) (q := E_Rd) d_Wd_underWayOnRoads_22 rfl (s_32 hS h0) hc2 (a_32 hS h0 hlhc2) ?_
    refine Wx.cVi (q := E_Wd) (As := [.ref (hd 27 (8 * i0 + x2.toNatClampNeg))]) 10 (d - 1) 0 0 _ d_Wd_underWayOnRoads_23 mok_Wd_underWayOn vl_Wd_138 rfl rfl rfl (Nat.le_of_ble_eq_true rfl) (by omega) (Nat.zero_le _) (Nat.zero_le _) (s_29 hS h0) hF (fun y5 μ4 hS hF => ?_)
    refine Wa.iadd d_Wd_underWayOnRoads_26 ?_
    refine Wa.istore_n (i := 1) (L' := [(1, .int (x1 + y5)), (0, .ref (hd 29 i0)), (2, .int x2)]) d_Wd_underWayOnRoads_27 rfl (by decide) rfl ?_
    refine Wa.iinc (i := 2) (j := 2) (v := (x2 + 1)) (L' := [(2, .int (x2 + 1)), (1, .int (x1 + y5)), (0, .ref (hd 29 i0))]) d_Wd_underWayOnRoads_28 rfl rfl (by decide) rfl ?_
    refine Wa.goto 4 d_Wd_underWayOnRoads_31 (by decide) ?_
    exact Wa.loc [2, 1, 0] rfl hF
set_option maxHeartbeats 4000000 in
set_option maxRecDepth 20000 in
theorem g_Wd_underWayOn_0 {d rc rs : Nat} {Q : Option Value → Mu → Prop} {μ : Mu} {i0 : Nat} {i1 : Nat} (hD : 1 ≤ d) (h0 : i0 < 2) (h1 : i1 < 32) (hS : St μ)
    (hF : Wx K_Wd_underWayOn d rc rs Q 4 [(0, .ref (hd 29 i0)), (1, .ref (hd 27 i1)), (2, .int 0), (3, .int 0)] [] μ) : Wx K_Wd_underWayOn d rc rs Q 0 [(0, .ref (hd 29 i0)), (1, .ref (hd 27 i1))] [] μ := by
  refine Wa.iconst (v := 0) d_Wd_underWayOn_0 rfl ?_
  refine Wa.istore_n (i := 2) (L' := [(2, .int 0), (0, .ref (hd 29 i0)), (1, .ref (hd 27 i1))]) d_Wd_underWayOn_1 rfl (by decide) rfl ?_
  refine Wa.iconst (v := 0) d_Wd_underWayOn_2 rfl ?_
  refine Wa.istore_n (i := 3) (L' := [(3, .int 0), (2, .int 0), (0, .ref (hd 29 i0)), (1, .ref (hd 27 i1))]) d_Wd_underWayOn_3 rfl (by decide) rfl ?_
  exact Wa.loc [2, 3, 1, 0] rfl hF
theorem e_Wd_underWayOn {d rc rs : Nat} {Q : Option Value → Mu → Prop} {μ : Mu} {i0 : Nat} {i1 : Nat} (hk : Wx K_Wd_underWayOn d rc rs (fun r μ' => St μ' ∧ Q r μ') 0 [(0, .ref (hd 29 i0)), (1, .ref (hd 27 i1))] [] μ) : Cal K_Wd_underWayOn d rc rs [.ref (hd 29 i0), .ref (hd 27 i1)] μ Q := Cal.of (by decide +kernel) rfl rfl (Nat.le_of_ble_eq_true rfl) rfl hk
set_option maxHeartbeats 4000000 in
set_option maxRecDepth 20000 in
theorem g_Wd_underWayOn_4 {d rc rs : Nat} {Q : Option Value → Mu → Prop} {μ : Mu} {i0 : Nat} {i1 : Nat} {x2 : Int32} {x3 : Int32} (hD : 1 ≤ d) (h0 : i0 < 2) (h1 : i1 < 32) (hS : St μ)
    (hF : (((mI μ (hd 29 i0) 5) ≤ x3 → Q (some (.int x2)) μ) ∧ (¬ (mI μ (hd 29 i0) 5) ≤ x3 → (vp_in x3 60 ∧ (((mI μ (hd 28 i1) x3.toNatClampNeg) < (mI μ (hd 29 i0) 4) → Wx K_Wd_underWayOn d rc rs Q 4 [(0, .ref (hd 29 i0)), (1, .ref (hd 27 i1)), (2, .int (x2 + (0 : Int32))), (3, .int (x3 + 1))] [] μ) ∧ (¬ (mI μ (hd 28 i1) x3.toNatClampNeg) < (mI μ (hd 29 i0) 4) → Wx K_Wd_underWayOn d rc rs Q 4 [(0, .ref (hd 29 i0)), (1, .ref (hd 27 i1)), (2, .int (x2 + (1 : Int32))), (3, .int (x3 + 1))] [] μ)))))) : Wx K_Wd_underWayOn d rc rs Q 4 [(0, .ref (hd 29 i0)), (1, .ref (hd 27 i1)), (2, .int x2), (3, .int x3)] [] μ := by
  refine Wa.iload_n (j := 3) d_Wd_underWayOn_4 rfl ?_
  refine Wa.aload_n (j := 0) d_Wd_underWayOn_5 rfl ?_
  refine Wx.getI 10 5 d_Wd_underWayOn_6 f_Wd_5 fl_Wd_33 w_29 (s_29 hS h0) ?_
  refine Wa.icmp_ge 39 d_Wd_underWayOn_9 (by decide) (fun hb => ?_) (fun hb => ?_)
  · have hF := hF.1 hb
    refine Wa.iload_n (j := 2) d_Wd_underWayOn_39 rfl ?_
    exact Wx.reti d_Wd_underWayOn_40 rfl hF
  · have hF := hF.2 hb
    refine Wa.iload_n (j := 2) d_Wd_underWayOn_12 rfl ?_
    refine Wa.aload_n (j := 1) d_Wd_underWayOn_13 rfl ?_
    refine Wx.getR 7 0 d_Wd_underWayOn_14 f_Rd_0 rfl fl_Wd_157 (s_27 hS h1) (r_27_0 hS h1) ?_
    refine Wa.iload_n (j := 3) d_Wd_underWayOn_17 rfl ?_
    have hc1 := hF.1
    have hF := hF.2
    have hlhc1 := vp_in_lt hc1
    refine Wx.iald d_Wd_underWayOn_18 w_28 (s_28 hS h1) hc1 ?_
    refine Wa.aload_n (j := 0) d_Wd_underWayOn_19 rfl ?_
    refine Wx.getI 10 4 d_Wd_underWayOn_20 f_Wd_4 fl_Wd_29 w_29 (s_29 hS h0) ?_
    refine Wa.icmp_lt 30 d_Wd_underWayOn_23 (by decide) (fun hb => ?_) (fun hb => ?_)
    · have hF := hF.1 hb
      refine Wa.iconst (v := 0) d_Wd_underWayOn_30 rfl ?_
      refine Wa.iadd d_Wd_underWayOn_31 ?_
      refine Wa.istore_n (i := 2) (L' := [(2, .int (x2 + (0 : Int32))), (0, .ref (hd 29 i0)), (1, .ref (hd 27 i1)), (3, .int x3)]) d_Wd_underWayOn_32 rfl (by decide) rfl ?_
      refine Wa.iinc (i := 3) (j := 3) (v := (x3 + 1)) (L' := [(3, .int (x3 + 1)), (2, .int (x2 + (0 : Int32))), (0, .ref (hd 29 i0)), (1, .ref (hd 27 i1))]) d_Wd_underWayOn_33 rfl rfl (by decide) rfl ?_
      refine Wa.goto 4 d_Wd_underWayOn_36 (by decide) ?_
      exact Wa.loc [2, 3, 1, 0] rfl hF
    · have hF := hF.2 hb
      refine Wa.iconst (v := 1) d_Wd_underWayOn_26 rfl ?_
      refine Wa.goto 31 d_Wd_underWayOn_27 (by decide) ?_
      refine Wa.iadd d_Wd_underWayOn_31 ?_
      refine Wa.istore_n (i := 2) (L' := [(2, .int (x2 + (1 : Int32))), (0, .ref (hd 29 i0)), (1, .ref (hd 27 i1)), (3, .int x3)]) d_Wd_underWayOn_32 rfl (by decide) rfl ?_
      refine Wa.iinc (i := 3) (j := 3) (v := (x3 + 1)) (L' := [(3, .int (x3 + 1)), (2, .int (x2 + (1 : Int32))), (0, .ref (hd 29 i0)), (1, .ref (hd 27 i1))]) d_Wd_underWayOn_33 rfl rfl (by decide) rfl ?_
      refine Wa.goto 4 d_Wd_underWayOn_36 (by decide) ?_
      exact Wa.loc [2, 3, 1, 0] rfl hF
set_option maxHeartbeats 4000000 in
set_option maxRecDepth 20000 in
theorem g_Wd_waitingAtBoards_0 {d rc rs : Nat} {Q : Option Value → Mu → Prop} {μ : Mu} {i0 : Nat} (hD : 1 ≤ d) (h0 : i0 < 2) (hS : St μ)
    (hF : Wx K_Wd_waitingAtBoards d rc rs Q 4 [(0, .ref (hd 29 i0)), (1, .int 0), (2, .int 0)] [] μ) : Wx K_Wd_waitingAtBoards d rc rs Q 0 [(0, .ref (hd 29 i0))] [] μ := by
  refine Wa.iconst (v := 0) d_Wd_waitingAtBoards_0 rfl ?_
  refine Wa.istore_n (i := 1) (L' := [(1, .int 0), (0, .ref (hd 29 i0))]) d_Wd_waitingAtBoards_1 rfl (by decide) rfl ?_
  refine Wa.iconst (v := 0) d_Wd_waitingAtBoards_2 rfl ?_
  refine Wa.istore_n (i := 2) (L' := [(2, .int 0), (1, .int 0), (0, .ref (hd 29 i0))]) d_Wd_waitingAtBoards_3 rfl (by decide) rfl ?_
  exact Wa.loc [2, 1, 0] rfl hF
theorem e_Wd_waitingAtBoards {d rc rs : Nat} {Q : Option Value → Mu → Prop} {μ : Mu} {i0 : Nat} (hk : Wx K_Wd_waitingAtBoards d rc rs (fun r μ' => St μ' ∧ Q r μ') 0 [(0, .ref (hd 29 i0))] [] μ) : Cal K_Wd_waitingAtBoards d rc rs [.ref (hd 29 i0)] μ Q := Cal.of (by decide +kernel) rfl rfl (Nat.le_of_ble_eq_true rfl) rfl hk
set_option maxHeartbeats 4000000 in
set_option maxRecDepth 20000 in
theorem g_Wd_waitingAtBoards_4 {d rc rs : Nat} {Q : Option Value → Mu → Prop} {μ : Mu} {i0 : Nat} {x1 : Int32} {x2 : Int32} (hD : 1 ≤ d) (h0 : i0 < 2) (hS : St μ)
    (hF : (((mI μ (hd 18 (px μ (hd 29 i0) 3)) 3) ≤ x2 → Q (some (.int x1)) μ) ∧ (¬ (mI μ (hd 18 (px μ (hd 29 i0) 3)) 3) ≤ x2 → (vp_in x2 5 ∧ Wx K_Wd_waitingAtBoards d rc rs Q 4 [(0, .ref (hd 29 i0)), (1, .int (x1 + (mI μ (hd 35 (5 * i0 + x2.toNatClampNeg)) 3))), (2, .int (x2 + 1))] [] μ)))) : Wx K_Wd_waitingAtBoards d rc rs Q 4 [(0, .ref (hd 29 i0)), (1, .int x1), (2, .int x2)] [] μ := by
  refine Wa.iload_n (j := 2) d_Wd_waitingAtBoards_4 rfl ?_
  refine Wa.aload_n (j := 0) d_Wd_waitingAtBoards_5 rfl ?_
  have hp1 := d_29_3 (i := i0) hS h0
  refine Wx.getR 10 3 d_Wd_waitingAtBoards_6 f_Wd_3 rfl fl_Wd_42 (s_29 hS h0) (hp1.1) ?_
  refine Wx.getI 6 3 d_Wd_waitingAtBoards_9 f_Pl_3 fl_Wd_65 w_18 (s_18 hS hp1.2) ?_
  refine Wa.icmp_ge 33 d_Wd_waitingAtBoards_12 (by decide) (fun hb => ?_) (fun hb => ?_)
  · have hF := hF.1 hb
    refine Wa.iload_n (j := 1) d_Wd_waitingAtBoards_33 rfl ?_
    exact Wx.reti d_Wd_waitingAtBoards_34 rfl hF
  · have hF := hF.2 hb
    refine Wa.iload_n (j := 1) d_Wd_waitingAtBoards_15 rfl ?_
    refine Wa.aload_n (j := 0) d_Wd_waitingAtBoards_16 rfl ?_
    refine Wx.getR 10 1 d_Wd_waitingAtBoards_17 f_Wd_1 rfl fl_Wd_19 (s_29 hS h0) (r_29_1 hS h0) ?_
    refine Wa.iload_n (j := 2) d_Wd_waitingAtBoards_20 rfl ?_
    have hc2 := hF.1
    have hF := hF.2
    have hlhc2 := vp_in_lt hc2
    have hb3 : (5 * i0 + x2.toNatClampNeg) < 10 := by have : i0 < 2 := h0; omega
    refine Wa.aald (t := 1) (q := E_Bd) d_Wd_waitingAtBoards_21 rfl (s_31 hS h0) hc2 (a_31 hS h0 hlhc2) ?_
    refine Wx.getI 1 3 d_Wd_waitingAtBoards_22 f_Bd_3 fl_Wd_93 w_35 (s_35 hS hb3) ?_
    refine Wa.iadd d_Wd_waitingAtBoards_25 ?_
    refine Wa.istore_n (i := 1) (L' := [(1, .int (x1 + (mI μ (hd 35 (5 * i0 + x2.toNatClampNeg)) 3))), (0, .ref (hd 29 i0)), (2, .int x2)]) d_Wd_waitingAtBoards_26 rfl (by decide) rfl ?_
    refine Wa.iinc (i := 2) (j := 2) (v := (x2 + 1)) (L' := [(2, .int (x2 + 1)), (1, .int (x1 + (mI μ (hd 35 (5 * i0 + x2.toNatClampNeg)) 3))), (0, .ref (hd 29 i0))]) d_Wd_waitingAtBoards_27 rfl rfl (by decide) rfl ?_
    refine Wa.goto 4 d_Wd_waitingAtBoards_30 (by decide) ?_
    exact Wa.loc [2, 1, 0] rfl hF
set_option maxHeartbeats 4000000 in
set_option maxRecDepth 20000 in
theorem g_Wd_tornOnBoards_0 {d rc rs : Nat} {Q : Option Value → Mu → Prop} {μ : Mu} {i0 : Nat} (hD : 1 ≤ d) (h0 : i0 < 2) (hS : St μ)
    (hF : Wx K_Wd_tornOnBoards d rc rs Q 4 [(0, .ref (hd 29 i0)), (1, .int 0), (2, .int 0)] [] μ) : Wx K_Wd_tornOnBoards d rc rs Q 0 [(0, .ref (hd 29 i0))] [] μ := by
  refine Wa.iconst (v := 0) d_Wd_tornOnBoards_0 rfl ?_
  refine Wa.istore_n (i := 1) (L' := [(1, .int 0), (0, .ref (hd 29 i0))]) d_Wd_tornOnBoards_1 rfl (by decide) rfl ?_
  refine Wa.iconst (v := 0) d_Wd_tornOnBoards_2 rfl ?_
  refine Wa.istore_n (i := 2) (L' := [(2, .int 0), (1, .int 0), (0, .ref (hd 29 i0))]) d_Wd_tornOnBoards_3 rfl (by decide) rfl ?_
  exact Wa.loc [2, 1, 0] rfl hF
theorem e_Wd_tornOnBoards {d rc rs : Nat} {Q : Option Value → Mu → Prop} {μ : Mu} {i0 : Nat} (hk : Wx K_Wd_tornOnBoards d rc rs (fun r μ' => St μ' ∧ Q r μ') 0 [(0, .ref (hd 29 i0))] [] μ) : Cal K_Wd_tornOnBoards d rc rs [.ref (hd 29 i0)] μ Q := Cal.of (by decide +kernel) rfl rfl (Nat.le_of_ble_eq_true rfl) rfl hk
set_option maxHeartbeats 4000000 in
set_option maxRecDepth 20000 in
theorem g_Wd_tornOnBoards_4 {d rc rs : Nat} {Q : Option Value → Mu → Prop} {μ : Mu} {i0 : Nat} {x1 : Int32} {x2 : Int32} (hD : 1 ≤ d) (h0 : i0 < 2) (hS : St μ)
    (hF : (((mI μ (hd 18 (px μ (hd 29 i0) 3)) 3) ≤ x2 → Q (some (.int x1)) μ) ∧ (¬ (mI μ (hd 18 (px μ (hd 29 i0) 3)) 3) ≤ x2 → (vp_in x2 5 ∧ (Cal K_Bd_noticesWith (d - 1) 0 0 [.ref (hd 35 (5 * i0 + x2.toNatClampNeg)), .int 2] μ (fun r μ4 => ∃ y5, r = some (.int y5) ∧ Wx K_Wd_tornOnBoards d rc rs Q 4 [(0, .ref (hd 29 i0)), (1, .int (x1 + y5)), (2, .int (x2 + 1))] [] μ4)))))) : Wx K_Wd_tornOnBoards d rc rs Q 4 [(0, .ref (hd 29 i0)), (1, .int x1), (2, .int x2)] [] μ := by
  refine Wa.iload_n (j := 2) d_Wd_tornOnBoards_4 rfl ?_
  refine Wa.aload_n (j := 0) d_Wd_tornOnBoards_5 rfl ?_
  have hp1 := d_29_3 (i := i0) hS h0
  refine Wx.getR 10 3 d_Wd_tornOnBoards_6 f_Wd_3 rfl fl_Wd_42 (s_29 hS h0) (hp1.1) ?_
  refine Wx.getI 6 3 d_Wd_tornOnBoards_9 f_Pl_3 fl_Wd_65 w_18 (s_18 hS hp1.2) ?_
  refine Wa.icmp_ge 34 d_Wd_tornOnBoards_12 (by decide) (fun hb => ?_) (fun hb => ?_)
  · have hF := hF.1 hb
    refine Wa.iload_n (j := 1) d_Wd_tornOnBoards_34 rfl ?_
    exact Wx.reti d_Wd_tornOnBoards_35 rfl hF
  · have hF := hF.2 hb
    refine Wa.iload_n (j := 1) d_Wd_tornOnBoards_15 rfl ?_
    refine Wa.aload_n (j := 0) d_Wd_tornOnBoards_16 rfl ?_
    refine Wx.getR 10 1 d_Wd_tornOnBoards_17 f_Wd_1 rfl fl_Wd_19 (s_29 hS h0) (r_29_1 hS h0) ?_
    refine Wa.iload_n (j := 2) d_Wd_tornOnBoards_20 rfl ?_
    have hc2 := hF.1
    have hF := hF.2
    have hlhc2 := vp_in_lt hc2
    have hb3 : (5 * i0 + x2.toNatClampNeg) < 10 := by have : i0 < 2 := h0; omega
    refine Wa.aald (t := 1) (q := E_Bd) d_Wd_tornOnBoards_21 rfl (s_31 hS h0) hc2 (a_31 hS h0 hlhc2) ?_
    refine Wa.iconst (v := 2) d_Wd_tornOnBoards_22 rfl ?_
    refine Wx.cVi (q := E_Bd) (As := [.int 2]) 1 (d - 1) 0 0 _ d_Wd_tornOnBoards_23 mok_Bd_noticesWith vl_Wd_96 rfl rfl rfl (Nat.le_of_ble_eq_true rfl) (by omega) (Nat.zero_le _) (Nat.zero_le _) (s_35 hS hb3) hF (fun y5 μ4 hS hF => ?_)
    refine Wa.iadd d_Wd_tornOnBoards_26 ?_
    refine Wa.istore_n (i := 1) (L' := [(1, .int (x1 + y5)), (0, .ref (hd 29 i0)), (2, .int x2)]) d_Wd_tornOnBoards_27 rfl (by decide) rfl ?_
    refine Wa.iinc (i := 2) (j := 2) (v := (x2 + 1)) (L' := [(2, .int (x2 + 1)), (1, .int (x1 + y5)), (0, .ref (hd 29 i0))]) d_Wd_tornOnBoards_28 rfl rfl (by decide) rfl ?_
    refine Wa.goto 4 d_Wd_tornOnBoards_31 (by decide) ?_
    exact Wa.loc [2, 1, 0] rfl hF
set_option maxHeartbeats 4000000 in
set_option maxRecDepth 20000 in
theorem g_Wd_mergedSheets_0 {d rc rs : Nat} {Q : Option Value → Mu → Prop} {μ : Mu} {i0 : Nat} (hD : 1 ≤ d) (h0 : i0 < 2) (hS : St μ)
    (hF : Wx K_Wd_mergedSheets d rc rs Q 4 [(0, .ref (hd 29 i0)), (1, .int 0), (2, .int 0)] [] μ) : Wx K_Wd_mergedSheets d rc rs Q 0 [(0, .ref (hd 29 i0))] [] μ := by
  refine Wa.iconst (v := 0) d_Wd_mergedSheets_0 rfl ?_
  refine Wa.istore_n (i := 1) (L' := [(1, .int 0), (0, .ref (hd 29 i0))]) d_Wd_mergedSheets_1 rfl (by decide) rfl ?_
  refine Wa.iconst (v := 0) d_Wd_mergedSheets_2 rfl ?_
  refine Wa.istore_n (i := 2) (L' := [(2, .int 0), (1, .int 0), (0, .ref (hd 29 i0))]) d_Wd_mergedSheets_3 rfl (by decide) rfl ?_
  exact Wa.loc [2, 1, 0] rfl hF
theorem e_Wd_mergedSheets {d rc rs : Nat} {Q : Option Value → Mu → Prop} {μ : Mu} {i0 : Nat} (hk : Wx K_Wd_mergedSheets d rc rs (fun r μ' => St μ' ∧ Q r μ') 0 [(0, .ref (hd 29 i0))] [] μ) : Cal K_Wd_mergedSheets d rc rs [.ref (hd 29 i0)] μ Q := Cal.of (by decide +kernel) rfl rfl (Nat.le_of_ble_eq_true rfl) rfl hk
set_option maxHeartbeats 4000000 in
set_option maxRecDepth 20000 in
theorem g_Wd_mergedSheets_4 {d rc rs : Nat} {Q : Option Value → Mu → Prop} {μ : Mu} {i0 : Nat} {x1 : Int32} {x2 : Int32} (hD : 1 ≤ d) (h0 : i0 < 2) (hS : St μ)
    (hF : (((mI μ (hd 29 i0) 5) ≤ x2 → Q (some (.int x1)) μ) ∧ (¬ (mI μ (hd 29 i0) 5) ≤ x2 → (vp_in x2 60 ∧ (((mI μ (hd 33 (60 * i0 + x2.toNatClampNeg)) 6) = 2 → Wx K_Wd_mergedSheets d rc rs Q 4 [(0, .ref (hd 29 i0)), (1, .int (x1 + (1 : Int32))), (2, .int (x2 + 1))] [] μ) ∧ (¬ (mI μ (hd 33 (60 * i0 + x2.toNatClampNeg)) 6) = 2 → Wx K_Wd_mergedSheets d rc rs Q 4 [(0, .ref (hd 29 i0)), (1, .int (x1 + (0 : Int32))), (2, .int (x2 + 1))] [] μ)))))) : Wx K_Wd_mergedSheets d rc rs Q 4 [(0, .ref (hd 29 i0)), (1, .int x1), (2, .int x2)] [] μ := by
  refine Wa.iload_n (j := 2) d_Wd_mergedSheets_4 rfl ?_
  refine Wa.aload_n (j := 0) d_Wd_mergedSheets_5 rfl ?_
  refine Wx.getI 10 5 d_Wd_mergedSheets_6 f_Wd_5 fl_Wd_33 w_29 (s_29 hS h0) ?_
  refine Wa.icmp_ge 39 d_Wd_mergedSheets_9 (by decide) (fun hb => ?_) (fun hb => ?_)
  · have hF := hF.1 hb
    refine Wa.iload_n (j := 1) d_Wd_mergedSheets_39 rfl ?_
    exact Wx.reti d_Wd_mergedSheets_40 rfl hF
  · have hF := hF.2 hb
    refine Wa.iload_n (j := 1) d_Wd_mergedSheets_12 rfl ?_
    refine Wa.aload_n (j := 0) d_Wd_mergedSheets_13 rfl ?_
    refine Wx.getR 10 0 d_Wd_mergedSheets_14 f_Wd_0 rfl fl_Wd_11 (s_29 hS h0) (r_29_0 hS h0) ?_
    refine Wa.iload_n (j := 2) d_Wd_mergedSheets_17 rfl ?_
    have hc1 := hF.1
    have hF := hF.2
    have hlhc1 := vp_in_lt hc1
    have hb2 : (60 * i0 + x2.toNatClampNeg) < 120 := by have : i0 < 2 := h0; omega
    refine Wa.aald (t := 8) (q := E_Sh) d_Wd_mergedSheets_18 rfl (s_30 hS h0) hc1 (a_30 hS h0 hlhc1) ?_
    refine Wx.getI 8 6 d_Wd_mergedSheets_19 f_Sh_6 fl_Wd_120 w_33 (s_33 hS hb2) ?_
    refine Wa.iconst (v := 2) d_Wd_mergedSheets_22 rfl ?_
    refine Wa.icmp_ne 30 d_Wd_mergedSheets_23 (by decide) (fun hb => ?_) (fun hb => ?_)
    · have hF := hF.2 hb
      refine Wa.iconst (v := 0) d_Wd_mergedSheets_30 rfl ?_
      refine Wa.iadd d_Wd_mergedSheets_31 ?_
      refine Wa.istore_n (i := 1) (L' := [(1, .int (x1 + (0 : Int32))), (0, .ref (hd 29 i0)), (2, .int x2)]) d_Wd_mergedSheets_32 rfl (by decide) rfl ?_
      refine Wa.iinc (i := 2) (j := 2) (v := (x2 + 1)) (L' := [(2, .int (x2 + 1)), (1, .int (x1 + (0 : Int32))), (0, .ref (hd 29 i0))]) d_Wd_mergedSheets_33 rfl rfl (by decide) rfl ?_
      refine Wa.goto 4 d_Wd_mergedSheets_36 (by decide) ?_
      exact Wa.loc [2, 1, 0] rfl hF
    · have hF := hF.1 hb
      refine Wa.iconst (v := 1) d_Wd_mergedSheets_26 rfl ?_
      refine Wa.goto 31 d_Wd_mergedSheets_27 (by decide) ?_
      refine Wa.iadd d_Wd_mergedSheets_31 ?_
      refine Wa.istore_n (i := 1) (L' := [(1, .int (x1 + (1 : Int32))), (0, .ref (hd 29 i0)), (2, .int x2)]) d_Wd_mergedSheets_32 rfl (by decide) rfl ?_
      refine Wa.iinc (i := 2) (j := 2) (v := (x2 + 1)) (L' := [(2, .int (x2 + 1)), (1, .int (x1 + (1 : Int32))), (0, .ref (hd 29 i0))]) d_Wd_mergedSheets_33 rfl rfl (by decide) rfl ?_
      refine Wa.goto 4 d_Wd_mergedSheets_36 (by decide) ?_
      exact Wa.loc [2, 1, 0] rfl hF
set_option maxHeartbeats 4000000 in
set_option maxRecDepth 20000 in
theorem g_Wd_answer_0 {d rc rs : Nat} {Q : Option Value → Mu → Prop} {μ : Mu} {i0 : Nat} {i1 : Nat} {x2 : Int32} {x3 : Int32} (hD : 1 ≤ d) (h0 : i0 < 2) (h1 : i1 < 49) (hS : St μ)
    (hF : (vp_in x2 5 ∧ ((((swv i1) = 10) → (Cal K_Bd_shownCount (d - 1) 0 0 [.ref (hd 35 (5 * i0 + x2.toNatClampNeg)), .int x3] μ (fun r μ4 => ∃ y5, r = some (.int y5) ∧ ((y5 < 2 → Q (some (.int 0)) μ4) ∧ (¬ y5 < 2 → Q (some (.int 1)) μ4))))) ∧ (((swv i1) = 11) → (Cal K_Bd_shownCount (d - 1) 0 0 [.ref (hd 35 (5 * i0 + x2.toNatClampNeg)), .int x3] μ (fun r μ7 => ∃ y8, r = some (.int y8) ∧ ((y8 < 1 → Q (some (.int 0)) μ7) ∧ (¬ y8 < 1 → Q (some (.int 1)) μ7))))) ∧ (((swv i1) = 18) → Q (some (.int (mI μ (hd 29 i0) 4))) μ) ∧ (((swv i1) = 19) → (Cal K_Bd_shownAt (d - 1) 0 0 [.ref (hd 35 (5 * i0 + x2.toNatClampNeg)), .int x3, .int 0] μ (fun r μ11 => ∃ y12, r = some (.int y12) ∧ ((y12 = (-1) → Q (some (.int 0)) μ11) ∧ (¬ y12 = (-1) → (vp_in y12 60 ∧ Q (some (.int (mI μ11 (hd 33 (60 * i0 + y12.toNatClampNeg)) 3))) μ11)))))) ∧ (((swv i1) = 20) → (Cal K_Bd_shownCount (d - 1) 0 0 [.ref (hd 35 (5 * i0 + x2.toNatClampNeg)), .int x3] μ (fun r μ16 => ∃ y17, r = some (.int y17) ∧ Q (some (.int y17)) μ16))) ∧ (((swv i1) = 21) → (Cal K_Wd_marksShown (d - 1) 0 0 [.ref (hd 29 i0), .ref (hd 35 (5 * i0 + x2.toNatClampNeg)), .int x3] μ (fun r μ19 => ∃ y20, r = some (.int y20) ∧ (Cal K_JI_bitCount_0f7a4 (d - 1) 0 0 [.int y20] μ19 (fun r μ21 => ∃ y22, r = some (.int y22) ∧ Q (some (.int y22)) μ21))))) ∧ (((swv i1) = 22) → Q (some (.int (mI μ (hd 35 (5 * i0 + x2.toNatClampNeg)) 3))) μ) ∧ (((swv i1).toInt < 10 ∨ 22 < (swv i1).toInt ∨ (swv i1) = 12 ∨ (swv i1) = 13 ∨ (swv i1) = 14 ∨ (swv i1) = 15 ∨ (swv i1) = 16 ∨ (swv i1) = 17) → Q (some (.int 0)) μ)))) : Wx K_Wd_answer d rc rs Q 0 [(0, .ref (hd 29 i0)), (1, .ref (hd 0 i1)), (2, .int x2), (3, .int x3)] [] μ := by
  refine Wa.aload_n (j := 0) d_Wd_answer_0 rfl ?_
  refine Wx.getR 10 1 d_Wd_answer_1 f_Wd_1 rfl fl_Wd_19 (s_29 hS h0) (r_29_1 hS h0) ?_
  refine Wa.iload_n (j := 2) d_Wd_answer_4 rfl ?_
  have hc1 := hF.1
  have hF := hF.2
  have hlhc1 := vp_in_lt hc1
  have hb2 : (5 * i0 + x2.toNatClampNeg) < 10 := by have : i0 < 2 := h0; omega
  refine Wa.aald (t := 1) (q := E_Bd) d_Wd_answer_5 rfl (s_31 hS h0) hc1 (a_31 hS h0 hlhc1) ?_
  refine Wa.astore (i := 4) (L' := [(4, .ref (hd 35 (5 * i0 + x2.toNatClampNeg))), (0, .ref (hd 29 i0)), (1, .ref (hd 0 i1)), (2, .int x2), (3, .int x3)]) d_Wd_answer_6 (by decide) rfl ?_
  refine Wx.gets d_Wd_answer_8 st_1 sf_Wd_160 ?_
  refine Wa.aload_n (j := 2) d_Wd_answer_11 rfl ?_
  refine Wx.ord hS d_Wd_answer_12 ul_Wd_165 (Nat.le_of_ble_eq_true rfl) hD h1 ?_
  refine Wx.swald hS d_Wd_answer_15 h1 ?_
  have k3 : ((swv i1) = 10) → Wx K_Wd_answer d rc rs Q 143 [(4, .ref (hd 35 (5 * i0 + x2.toNatClampNeg))), (0, .ref (hd 29 i0)), (1, .ref (hd 0 i1)), (2, .int x2), (3, .int x3)] [] μ := by
    intro hb
    have hF := hF.1 hb
    refine Wa.aload (j := 0) d_Wd_answer_143 rfl ?_
    refine Wa.iload_n (j := 4) d_Wd_answer_145 rfl ?_
    refine Wx.cVi (q := E_Bd) (As := [.int x3]) 1 (d - 1) 0 0 _ d_Wd_answer_146 mok_Bd_shownCount vl_Wd_173 rfl rfl rfl (Nat.le_of_ble_eq_true rfl) (by omega) (Nat.zero_le _) (Nat.zero_le _) (s_35 hS hb2) hF (fun y5 μ4 hS hF => ?_)
    refine Wa.iconst (v := 2) d_Wd_answer_149 rfl ?_
    refine Wa.icmp_lt 157 d_Wd_answer_150 (by decide) (fun hb => ?_) (fun hb => ?_)
    · have hF := hF.1 hb
      refine Wa.iconst (v := 0) d_Wd_answer_157 rfl ?_
      exact Wx.reti d_Wd_answer_158 rfl hF
    · have hF := hF.2 hb
      refine Wa.iconst (v := 1) d_Wd_answer_153 rfl ?_
      refine Wa.goto 158 d_Wd_answer_154 (by decide) ?_
      exact Wx.reti d_Wd_answer_158 rfl hF
  have k6 : ((swv i1) = 11) → Wx K_Wd_answer d rc rs Q 159 [(4, .ref (hd 35 (5 * i0 + x2.toNatClampNeg))), (0, .ref (hd 29 i0)), (1, .ref (hd 0 i1)), (2, .int x2), (3, .int x3)] [] μ := by
    intro hb
    have hF := hF.2.1 hb
    refine Wa.aload (j := 0) d_Wd_answer_159 rfl ?_
    refine Wa.iload_n (j := 4) d_Wd_answer_161 rfl ?_
    refine Wx.cVi (q := E_Bd) (As := [.int x3]) 1 (d - 1) 0 0 _ d_Wd_answer_162 mok_Bd_shownCount vl_Wd_173 rfl rfl rfl (Nat.le_of_ble_eq_true rfl) (by omega) (Nat.zero_le _) (Nat.zero_le _) (s_35 hS hb2) hF (fun y8 μ7 hS hF => ?_)
    refine Wa.iconst (v := 1) d_Wd_answer_165 rfl ?_
    refine Wa.icmp_lt 173 d_Wd_answer_166 (by decide) (fun hb => ?_) (fun hb => ?_)
    · have hF := hF.1 hb
      refine Wa.iconst (v := 0) d_Wd_answer_173 rfl ?_
      exact Wx.reti d_Wd_answer_174 rfl hF
    · have hF := hF.2 hb
      refine Wa.iconst (v := 1) d_Wd_answer_169 rfl ?_
      refine Wa.goto 174 d_Wd_answer_170 (by decide) ?_
      exact Wx.reti d_Wd_answer_174 rfl hF
  have k9 : ((swv i1) = 18) → Wx K_Wd_answer d rc rs Q 84 [(4, .ref (hd 35 (5 * i0 + x2.toNatClampNeg))), (0, .ref (hd 29 i0)), (1, .ref (hd 0 i1)), (2, .int x2), (3, .int x3)] [] μ := by
    intro hb
    have hF := hF.2.2.1 hb
    refine Wa.aload_n (j := 1) d_Wd_answer_84 rfl ?_
    refine Wx.getI 10 4 d_Wd_answer_85 f_Wd_4 fl_Wd_29 w_29 (s_29 hS h0) ?_
    exact Wx.reti d_Wd_answer_88 rfl hF
  have k10 : ((swv i1) = 19) → Wx K_Wd_answer d rc rs Q 89 [(4, .ref (hd 35 (5 * i0 + x2.toNatClampNeg))), (0, .ref (hd 29 i0)), (1, .ref (hd 0 i1)), (2, .int x2), (3, .int x3)] [] μ := by
    intro hb
    have hF := hF.2.2.2.1 hb
    refine Wa.aload (j := 0) d_Wd_answer_89 rfl ?_
    refine Wa.iload_n (j := 4) d_Wd_answer_91 rfl ?_
    refine Wa.iconst (v := 0) d_Wd_answer_92 rfl ?_
    refine Wx.cVi (q := E_Bd) (As := [.int x3, .int 0]) 1 (d - 1) 0 0 _ d_Wd_answer_93 mok_Bd_shownAt vl_Wd_170 rfl rfl rfl (Nat.le_of_ble_eq_true rfl) (by omega) (Nat.zero_le _) (Nat.zero_le _) (s_35 hS hb2) hF (fun y12 μ11 hS hF => ?_)
    refine Wa.istore (i := 5) (L' := [(5, .int y12), (4, .ref (hd 35 (5 * i0 + x2.toNatClampNeg))), (0, .ref (hd 29 i0)), (1, .ref (hd 0 i1)), (2, .int x2), (3, .int x3)]) d_Wd_answer_96 (by decide) rfl ?_
    refine Wa.iload (j := 0) d_Wd_answer_98 rfl ?_
    refine Wa.iconst (v := (-1)) d_Wd_answer_100 rfl ?_
    refine Wa.icmp_ne 108 d_Wd_answer_101 (by decide) (fun hb => ?_) (fun hb => ?_)
    · have hF := hF.2 hb
      refine Wa.aload_n (j := 2) d_Wd_answer_108 rfl ?_
      refine Wx.getR 10 0 d_Wd_answer_109 f_Wd_0 rfl fl_Wd_11 (s_29 hS h0) (r_29_0 hS h0) ?_
      refine Wa.iload (j := 0) d_Wd_answer_112 rfl ?_
      have hc13 := hF.1
      have hF := hF.2
      have hlhc13 := vp_in_lt hc13
      have hb14 : (60 * i0 + y12.toNatClampNeg) < 120 := by have : i0 < 2 := h0; omega
      refine Wa.aald (t := 8) (q := E_Sh) d_Wd_answer_114 rfl (s_30 hS h0) hc13 (a_30 hS h0 hlhc13) ?_
      refine Wx.getI 8 3 d_Wd_answer_115 f_Sh_3 fl_Wd_113 w_33 (s_33 hS hb14) ?_
      exact Wx.reti d_Wd_answer_118 rfl hF
    · have hF := hF.1 hb
      refine Wa.iconst (v := 0) d_Wd_answer_104 rfl ?_
      refine Wa.goto 118 d_Wd_answer_105 (by decide) ?_
      exact Wx.reti d_Wd_answer_118 rfl hF
  have k15 : ((swv i1) = 20) → Wx K_Wd_answer d rc rs Q 119 [(4, .ref (hd 35 (5 * i0 + x2.toNatClampNeg))), (0, .ref (hd 29 i0)), (1, .ref (hd 0 i1)), (2, .int x2), (3, .int x3)] [] μ := by
    intro hb
    have hF := hF.2.2.2.2.1 hb
    refine Wa.aload (j := 0) d_Wd_answer_119 rfl ?_
    refine Wa.iload_n (j := 4) d_Wd_answer_121 rfl ?_
    refine Wx.cVi (q := E_Bd) (As := [.int x3]) 1 (d - 1) 0 0 _ d_Wd_answer_122 mok_Bd_shownCount vl_Wd_173 rfl rfl rfl (Nat.le_of_ble_eq_true rfl) (by omega) (Nat.zero_le _) (Nat.zero_le _) (s_35 hS hb2) hF (fun y17 μ16 hS hF => ?_)
    exact Wx.reti d_Wd_answer_125 rfl hF
  have k18 : ((swv i1) = 21) → Wx K_Wd_answer d rc rs Q 126 [(4, .ref (hd 35 (5 * i0 + x2.toNatClampNeg))), (0, .ref (hd 29 i0)), (1, .ref (hd 0 i1)), (2, .int x2), (3, .int x3)] [] μ := by
    intro hb
    have hF := hF.2.2.2.2.2.1 hb
    refine Wa.aload_n (j := 1) d_Wd_answer_126 rfl ?_
    refine Wa.aload (j := 0) d_Wd_answer_127 rfl ?_
    refine Wa.iload_n (j := 4) d_Wd_answer_129 rfl ?_
    refine Wx.cVi (q := E_Wd) (As := [.ref (hd 35 (5 * i0 + x2.toNatClampNeg)), .int x3]) 10 (d - 1) 0 0 _ d_Wd_answer_130 mok_Wd_marksShown vl_Wd_176 rfl rfl rfl (Nat.le_of_ble_eq_true rfl) (by omega) (Nat.zero_le _) (Nat.zero_le _) (s_29 hS h0) hF (fun y20 μ19 hS hF => ?_)
    refine Wx.cSi (As := [.int y20]) (d - 1) 0 0 _ d_Wd_answer_133 mok_JI_bitCount_0f7a4 sl_Wd_180 rfl rfl (Nat.le_of_ble_eq_true rfl) (by omega) (Nat.zero_le _) (Nat.zero_le _) hF (fun y22 μ21 hS hF => ?_)
    exact Wx.reti d_Wd_answer_136 rfl hF
  have k23 : ((swv i1) = 22) → Wx K_Wd_answer d rc rs Q 137 [(4, .ref (hd 35 (5 * i0 + x2.toNatClampNeg))), (0, .ref (hd 29 i0)), (1, .ref (hd 0 i1)), (2, .int x2), (3, .int x3)] [] μ := by
    intro hb
    have hF := hF.2.2.2.2.2.2.1 hb
    refine Wa.aload (j := 0) d_Wd_answer_137 rfl ?_
    refine Wx.getI 1 3 d_Wd_answer_139 f_Bd_3 fl_Wd_93 w_35 (s_35 hS hb2) ?_
    exact Wx.reti d_Wd_answer_142 rfl hF
  have k24 : ((swv i1).toInt < 10 ∨ 22 < (swv i1).toInt ∨ (swv i1) = 12 ∨ (swv i1) = 13 ∨ (swv i1) = 14 ∨ (swv i1) = 15 ∨ (swv i1) = 16 ∨ (swv i1) = 17) → Wx K_Wd_answer d rc rs Q 175 [(4, .ref (hd 35 (5 * i0 + x2.toNatClampNeg))), (0, .ref (hd 29 i0)), (1, .ref (hd 0 i1)), (2, .int x2), (3, .int x3)] [] μ := by
    intro hb
    have hF := hF.2.2.2.2.2.2.2 hb
    refine Wa.iconst (v := 0) d_Wd_answer_175 rfl ?_
    exact Wx.reti d_Wd_answer_176 rfl hF
  rcases sw_10_22 (swv i1) with hb | hb | hb | hb | hb | hb | hb | hb | hb | hb | hb | hb | hb | hb | hb
  · exact Wa.tabOut 175 d_Wd_answer_16 (Or.inl hb) (by decide) (k24 (Or.inl hb))
  · exact Wa.tabOut 175 d_Wd_answer_16 (Or.inr hb) (by decide) (k24 (Or.inr (Or.inl hb)))
  · exact Wa.tabIn 143 d_Wd_answer_16 (by rw [hb]; decide) (by rw [hb]; decide) (by rw [hb]; rfl) (by decide) (k3 hb)
  · exact Wa.tabIn 159 d_Wd_answer_16 (by rw [hb]; decide) (by rw [hb]; decide) (by rw [hb]; rfl) (by decide) (k6 hb)
  · exact Wa.tabIn 175 d_Wd_answer_16 (by rw [hb]; decide) (by rw [hb]; decide) (by rw [hb]; rfl) (by decide) (k24 (Or.inr (Or.inr (Or.inl hb))))
  · exact Wa.tabIn 175 d_Wd_answer_16 (by rw [hb]; decide) (by rw [hb]; decide) (by rw [hb]; rfl) (by decide) (k24 (Or.inr (Or.inr (Or.inr (Or.inl hb)))))
  · exact Wa.tabIn 175 d_Wd_answer_16 (by rw [hb]; decide) (by rw [hb]; decide) (by rw [hb]; rfl) (by decide) (k24 (Or.inr (Or.inr (Or.inr (Or.inr (Or.inl hb))))))
  · exact Wa.tabIn 175 d_Wd_answer_16 (by rw [hb]; decide) (by rw [hb]; decide) (by rw [hb]; rfl) (by decide) (k24 (Or.inr (Or.inr (Or.inr (Or.inr (Or.inr (Or.inl hb)))))))
  · exact Wa.tabIn 175 d_Wd_answer_16 (by rw [hb]; decide) (by rw [hb]; decide) (by rw [hb]; rfl) (by decide) (k24 (Or.inr (Or.inr (Or.inr (Or.inr (Or.inr (Or.inr (Or.inl hb))))))))
  · exact Wa.tabIn 175 d_Wd_answer_16 (by rw [hb]; decide) (by rw [hb]; decide) (by rw [hb]; rfl) (by decide) (k24 (Or.inr (Or.inr (Or.inr (Or.inr (Or.inr (Or.inr (Or.inr hb))))))))
  · exact Wa.tabIn 84 d_Wd_answer_16 (by rw [hb]; decide) (by rw [hb]; decide) (by rw [hb]; rfl) (by decide) (k9 hb)
  · exact Wa.tabIn 89 d_Wd_answer_16 (by rw [hb]; decide) (by rw [hb]; decide) (by rw [hb]; rfl) (by decide) (k10 hb)
  · exact Wa.tabIn 119 d_Wd_answer_16 (by rw [hb]; decide) (by rw [hb]; decide) (by rw [hb]; rfl) (by decide) (k15 hb)
  · exact Wa.tabIn 126 d_Wd_answer_16 (by rw [hb]; decide) (by rw [hb]; decide) (by rw [hb]; rfl) (by decide) (k18 hb)
  · exact Wa.tabIn 137 d_Wd_answer_16 (by rw [hb]; decide) (by rw [hb]; decide) (by rw [hb]; rfl) (by decide) (k23 hb)
theorem e_Wd_answer {d rc rs : Nat} {Q : Option Value → Mu → Prop} {μ : Mu} {i0 : Nat} {i1 : Nat} {x2 : Int32} {x3 : Int32} (hk : Wx K_Wd_answer d rc rs (fun r μ' => St μ' ∧ Q r μ') 0 [(0, .ref (hd 29 i0)), (1, .ref (hd 0 i1)), (2, .int x2), (3, .int x3)] [] μ) : Cal K_Wd_answer d rc rs [.ref (hd 29 i0), .ref (hd 0 i1), .int x2, .int x3] μ Q := Cal.of (by decide +kernel) rfl rfl (Nat.le_of_ble_eq_true rfl) rfl hk
set_option maxHeartbeats 4000000 in
set_option maxRecDepth 20000 in
theorem g_Wd_marksShown_0 {d rc rs : Nat} {Q : Option Value → Mu → Prop} {μ : Mu} {i0 : Nat} {i1 : Nat} {x2 : Int32} (hD : 1 ≤ d) (h0 : i0 < 2) (h1 : i1 < 10) (hS : St μ)
    (hF : Wx K_Wd_marksShown d rc rs Q 5 [(0, .ref (hd 29 i0)), (1, .ref (hd 35 i1)), (2, .int x2), (3, .int 0), (4, .int 0)] [] μ) : Wx K_Wd_marksShown d rc rs Q 0 [(0, .ref (hd 29 i0)), (1, .ref (hd 35 i1)), (2, .int x2)] [] μ := by
  refine Wa.iconst (v := 0) d_Wd_marksShown_0 rfl ?_
  refine Wa.istore_n (i := 3) (L' := [(3, .int 0), (0, .ref (hd 29 i0)), (1, .ref (hd 35 i1)), (2, .int x2)]) d_Wd_marksShown_1 rfl (by decide) rfl ?_
  refine Wa.iconst (v := 0) d_Wd_marksShown_2 rfl ?_
  refine Wa.istore (i := 4) (L' := [(4, .int 0), (3, .int 0), (0, .ref (hd 29 i0)), (1, .ref (hd 35 i1)), (2, .int x2)]) d_Wd_marksShown_3 (by decide) rfl ?_
  exact Wa.loc [2, 3, 4, 1, 0] rfl hF
theorem e_Wd_marksShown {d rc rs : Nat} {Q : Option Value → Mu → Prop} {μ : Mu} {i0 : Nat} {i1 : Nat} {x2 : Int32} (hk : Wx K_Wd_marksShown d rc rs (fun r μ' => St μ' ∧ Q r μ') 0 [(0, .ref (hd 29 i0)), (1, .ref (hd 35 i1)), (2, .int x2)] [] μ) : Cal K_Wd_marksShown d rc rs [.ref (hd 29 i0), .ref (hd 35 i1), .int x2] μ Q := Cal.of (by decide +kernel) rfl rfl (Nat.le_of_ble_eq_true rfl) rfl hk
set_option maxHeartbeats 4000000 in
set_option maxRecDepth 20000 in
theorem g_Wd_marksShown_5 {d rc rs : Nat} {Q : Option Value → Mu → Prop} {μ : Mu} {i0 : Nat} {i1 : Nat} {x2 : Int32} {x3 : Int32} {x4 : Int32} (hD : 1 ≤ d) (h0 : i0 < 2) (h1 : i1 < 10) (hS : St μ)
    (hF : (((mI μ (hd 18 (px μ (hd 29 i0) 3)) 3) ≤ x4 → Q (some (.int x3)) μ) ∧ (¬ (mI μ (hd 18 (px μ (hd 29 i0) 3)) 3) ≤ x4 → (Cal K_Bd_shownFrom (d - 1) 0 0 [.ref (hd 35 i1), .int x2, .int x4] μ (fun r μ2 => ∃ y3, r = some (.int y3) ∧ ((y3 = (-1) → Wx K_Wd_marksShown d rc rs Q 5 [(0, .ref (hd 29 i0)), (1, .ref (hd 35 i1)), (2, .int x2), (3, .int (x3 ||| (0 : Int32))), (4, .int (x4 + 1))] [] μ2) ∧ (¬ y3 = (-1) → (vp_in y3 60 ∧ Wx K_Wd_marksShown d rc rs Q 5 [(0, .ref (hd 29 i0)), (1, .ref (hd 35 i1)), (2, .int x2), (3, .int (x3 ||| (mI μ2 (hd 33 (60 * i0 + y3.toNatClampNeg)) 4))), (4, .int (x4 + 1))] [] μ2)))))))) : Wx K_Wd_marksShown d rc rs Q 5 [(0, .ref (hd 29 i0)), (1, .ref (hd 35 i1)), (2, .int x2), (3, .int x3), (4, .int x4)] [] μ := by
  refine Wa.iload (j := 4) d_Wd_marksShown_5 rfl ?_
  refine Wa.aload_n (j := 0) d_Wd_marksShown_7 rfl ?_
  have hp1 := d_29_3 (i := i0) hS h0
  refine Wx.getR 10 3 d_Wd_marksShown_8 f_Wd_3 rfl fl_Wd_42 (s_29 hS h0) (hp1.1) ?_
  refine Wx.getI 6 3 d_Wd_marksShown_11 f_Pl_3 fl_Wd_65 w_18 (s_18 hS hp1.2) ?_
  refine Wa.icmp_ge 55 d_Wd_marksShown_14 (by decide) (fun hb => ?_) (fun hb => ?_)
  · have hF := hF.1 hb
    refine Wa.iload_n (j := 3) d_Wd_marksShown_55 rfl ?_
    exact Wx.reti d_Wd_marksShown_56 rfl hF
  · have hF := hF.2 hb
    refine Wa.aload_n (j := 1) d_Wd_marksShown_17 rfl ?_
    refine Wa.iload_n (j := 2) d_Wd_marksShown_18 rfl ?_
    refine Wa.iload (j := 4) d_Wd_marksShown_19 rfl ?_
    refine Wx.cVi (q := E_Bd) (As := [.int x2, .int x4]) 1 (d - 1) 0 0 _ d_Wd_marksShown_21 mok_Bd_shownFrom vl_Wd_153 rfl rfl rfl (Nat.le_of_ble_eq_true rfl) (by omega) (Nat.zero_le _) (Nat.zero_le _) (s_35 hS h1) hF (fun y3 μ2 hS hF => ?_)
    refine Wa.istore (i := 5) (L' := [(5, .int y3), (0, .ref (hd 29 i0)), (1, .ref (hd 35 i1)), (2, .int x2), (3, .int x3), (4, .int x4)]) d_Wd_marksShown_24 (by decide) rfl ?_
    refine Wa.iload_n (j := 4) d_Wd_marksShown_26 rfl ?_
    refine Wa.iload (j := 0) d_Wd_marksShown_27 rfl ?_
    refine Wa.iconst (v := (-1)) d_Wd_marksShown_29 rfl ?_
    refine Wa.icmp_ne 37 d_Wd_marksShown_30 (by decide) (fun hb => ?_) (fun hb => ?_)
    · have hF := hF.2 hb
      refine Wa.aload_n (j := 1) d_Wd_marksShown_37 rfl ?_
      refine Wx.getR 10 0 d_Wd_marksShown_38 f_Wd_0 rfl fl_Wd_11 (s_29 hS h0) (r_29_0 hS h0) ?_
      refine Wa.iload (j := 0) d_Wd_marksShown_41 rfl ?_
      have hc4 := hF.1
      have hF := hF.2
      have hlhc4 := vp_in_lt hc4
      have hb5 : (60 * i0 + y3.toNatClampNeg) < 120 := by have : i0 < 2 := h0; omega
      refine Wa.aald (t := 8) (q := E_Sh) d_Wd_marksShown_43 rfl (s_30 hS h0) hc4 (a_30 hS h0 hlhc4) ?_
      refine Wx.getI 8 4 d_Wd_marksShown_44 f_Sh_4 fl_Wd_116 w_33 (s_33 hS hb5) ?_
      refine Wa.ior d_Wd_marksShown_47 ?_
      refine Wa.istore_n (i := 3) (L' := [(3, .int (x3 ||| (mI μ2 (hd 33 (60 * i0 + y3.toNatClampNeg)) 4))), (5, .int y3), (0, .ref (hd 29 i0)), (1, .ref (hd 35 i1)), (2, .int x2), (4, .int x4)]) d_Wd_marksShown_48 rfl (by decide) rfl ?_
      refine Wa.iinc (i := 4) (j := 5) (v := (x4 + 1)) (L' := [(4, .int (x4 + 1)), (3, .int (x3 ||| (mI μ2 (hd 33 (60 * i0 + y3.toNatClampNeg)) 4))), (5, .int y3), (0, .ref (hd 29 i0)), (1, .ref (hd 35 i1)), (2, .int x2)]) d_Wd_marksShown_49 rfl rfl (by decide) rfl ?_
      refine Wa.goto 5 d_Wd_marksShown_52 (by decide) ?_
      exact Wa.loc [3, 4, 5, 1, 0] rfl hF
    · have hF := hF.1 hb
      refine Wa.iconst (v := 0) d_Wd_marksShown_33 rfl ?_
      refine Wa.goto 47 d_Wd_marksShown_34 (by decide) ?_
      refine Wa.ior d_Wd_marksShown_47 ?_
      refine Wa.istore_n (i := 3) (L' := [(3, .int (x3 ||| (0 : Int32))), (5, .int y3), (0, .ref (hd 29 i0)), (1, .ref (hd 35 i1)), (2, .int x2), (4, .int x4)]) d_Wd_marksShown_48 rfl (by decide) rfl ?_
      refine Wa.iinc (i := 4) (j := 5) (v := (x4 + 1)) (L' := [(4, .int (x4 + 1)), (3, .int (x3 ||| (0 : Int32))), (5, .int y3), (0, .ref (hd 29 i0)), (1, .ref (hd 35 i1)), (2, .int x2)]) d_Wd_marksShown_49 rfl rfl (by decide) rfl ?_
      refine Wa.goto 5 d_Wd_marksShown_52 (by decide) ?_
      exact Wa.loc [3, 4, 5, 1, 0] rfl hF
set_option maxHeartbeats 4000000 in
set_option maxRecDepth 20000 in
theorem g_Wd_isFull_0 {d rc rs : Nat} {Q : Option Value → Mu → Prop} {μ : Mu} {i0 : Nat} (hD : 1 ≤ d) (h0 : i0 < 2) (hS : St μ)
    (hF : (((mI μ (hd 29 i0) 5) < 60 → Q (some (.int 0)) μ) ∧ (¬ (mI μ (hd 29 i0) 5) < 60 → Q (some (.int 1)) μ))) : Wx K_Wd_isFull d rc rs Q 0 [(0, .ref (hd 29 i0))] [] μ := by
  refine Wa.aload_n (j := 0) d_Wd_isFull_0 rfl ?_
  refine Wx.getI 10 5 d_Wd_isFull_1 f_Wd_5 fl_Wd_33 w_29 (s_29 hS h0) ?_
  refine Wa.bipush (v := 60) d_Wd_isFull_4 rfl ?_
  refine Wa.icmp_lt 13 d_Wd_isFull_6 (by decide) (fun hb => ?_) (fun hb => ?_)
  · have hF := hF.1 hb
    refine Wa.iconst (v := 0) d_Wd_isFull_13 rfl ?_
    exact Wx.retz d_Wd_isFull_14 rfl (Or.inl rfl) hF
  · have hF := hF.2 hb
    refine Wa.iconst (v := 1) d_Wd_isFull_9 rfl ?_
    refine Wa.goto 14 d_Wd_isFull_10 (by decide) ?_
    exact Wx.retz d_Wd_isFull_14 rfl (Or.inr rfl) hF
theorem e_Wd_isFull {d rc rs : Nat} {Q : Option Value → Mu → Prop} {μ : Mu} {i0 : Nat} (hk : Wx K_Wd_isFull d rc rs (fun r μ' => St μ' ∧ Q r μ') 0 [(0, .ref (hd 29 i0))] [] μ) : Cal K_Wd_isFull d rc rs [.ref (hd 29 i0)] μ Q := Cal.of (by decide +kernel) rfl rfl (Nat.le_of_ble_eq_true rfl) rfl hk
set_option maxHeartbeats 4000000 in
set_option maxRecDepth 20000 in
theorem g_Wd_canNote_0 {d rc rs : Nat} {Q : Option Value → Mu → Prop} {μ : Mu} {i0 : Nat} {x1 : Int32} {x2 : Int32} (hD : 1 ≤ d) (h0 : i0 < 2) (hS : St μ)
    (hF : (vp_in x1 5 ∧ (Cal K_Bd_shownCount (d - 1) 0 0 [.ref (hd 35 (5 * i0 + x1.toNatClampNeg)), .int x2] μ (fun r μ3 => ∃ y4, r = some (.int y4) ∧ ((y4 = 1 → Q (some (.int 1)) μ3) ∧ (¬ y4 = 1 → Q (some (.int 0)) μ3)))))) : Wx K_Wd_canNote d rc rs Q 0 [(0, .ref (hd 29 i0)), (1, .int x1), (2, .int x2)] [] μ := by
  refine Wa.aload_n (j := 0) d_Wd_canNote_0 rfl ?_
  refine Wx.getR 10 1 d_Wd_canNote_1 f_Wd_1 rfl fl_Wd_19 (s_29 hS h0) (r_29_1 hS h0) ?_
  refine Wa.iload_n (j := 1) d_Wd_canNote_4 rfl ?_
  have hc1 := hF.1
  have hF := hF.2
  have hlhc1 := vp_in_lt hc1
  have hb2 : (5 * i0 + x1.toNatClampNeg) < 10 := by have : i0 < 2 := h0; omega
  refine Wa.aald (t := 1) (q := E_Bd) d_Wd_canNote_5 rfl (s_31 hS h0) hc1 (a_31 hS h0 hlhc1) ?_
  refine Wa.iload_n (j := 2) d_Wd_canNote_6 rfl ?_
  refine Wx.cVi (q := E_Bd) (As := [.int x2]) 1 (d - 1) 0 0 _ d_Wd_canNote_7 mok_Bd_shownCount vl_Wd_173 rfl rfl rfl (Nat.le_of_ble_eq_true rfl) (by omega) (Nat.zero_le _) (Nat.zero_le _) (s_35 hS hb2) hF (fun y4 μ3 hS hF => ?_)
  refine Wa.iconst (v := 1) d_Wd_canNote_10 rfl ?_
  refine Wa.icmp_ne 18 d_Wd_canNote_11 (by decide) (fun hb => ?_) (fun hb => ?_)
  · have hF := hF.2 hb
    refine Wa.iconst (v := 0) d_Wd_canNote_18 rfl ?_
    exact Wx.retz d_Wd_canNote_19 rfl (Or.inl rfl) hF
  · have hF := hF.1 hb
    refine Wa.iconst (v := 1) d_Wd_canNote_14 rfl ?_
    refine Wa.goto 19 d_Wd_canNote_15 (by decide) ?_
    exact Wx.retz d_Wd_canNote_19 rfl (Or.inr rfl) hF
theorem e_Wd_canNote {d rc rs : Nat} {Q : Option Value → Mu → Prop} {μ : Mu} {i0 : Nat} {x1 : Int32} {x2 : Int32} (hk : Wx K_Wd_canNote d rc rs (fun r μ' => St μ' ∧ Q r μ') 0 [(0, .ref (hd 29 i0)), (1, .int x1), (2, .int x2)] [] μ) : Cal K_Wd_canNote d rc rs [.ref (hd 29 i0), .int x1, .int x2] μ Q := Cal.of (by decide +kernel) rfl rfl (Nat.le_of_ble_eq_true rfl) rfl hk
set_option maxHeartbeats 4000000 in
set_option maxRecDepth 20000 in
theorem g_Wd_canMerge_0 {d rc rs : Nat} {Q : Option Value → Mu → Prop} {μ : Mu} {i0 : Nat} {x1 : Int32} {x2 : Int32} (hD : 1 ≤ d) (h0 : i0 < 2) (hS : St μ)
    (hF : (vp_in x1 5 ∧ (Cal K_Bd_shownCount (d - 1) 0 0 [.ref (hd 35 (5 * i0 + x1.toNatClampNeg)), .int x2] μ (fun r μ3 => ∃ y4, r = some (.int y4) ∧ ((y4 < 2 → Q (some (.int 0)) μ3) ∧ (¬ y4 < 2 → Q (some (.int 1)) μ3)))))) : Wx K_Wd_canMerge d rc rs Q 0 [(0, .ref (hd 29 i0)), (1, .int x1), (2, .int x2)] [] μ := by
  refine Wa.aload_n (j := 0) d_Wd_canMerge_0 rfl ?_
  refine Wx.getR 10 1 d_Wd_canMerge_1 f_Wd_1 rfl fl_Wd_19 (s_29 hS h0) (r_29_1 hS h0) ?_
  refine Wa.iload_n (j := 1) d_Wd_canMerge_4 rfl ?_
  have hc1 := hF.1
  have hF := hF.2
  have hlhc1 := vp_in_lt hc1
  have hb2 : (5 * i0 + x1.toNatClampNeg) < 10 := by have : i0 < 2 := h0; omega
  refine Wa.aald (t := 1) (q := E_Bd) d_Wd_canMerge_5 rfl (s_31 hS h0) hc1 (a_31 hS h0 hlhc1) ?_
  refine Wa.iload_n (j := 2) d_Wd_canMerge_6 rfl ?_
  refine Wx.cVi (q := E_Bd) (As := [.int x2]) 1 (d - 1) 0 0 _ d_Wd_canMerge_7 mok_Bd_shownCount vl_Wd_173 rfl rfl rfl (Nat.le_of_ble_eq_true rfl) (by omega) (Nat.zero_le _) (Nat.zero_le _) (s_35 hS hb2) hF (fun y4 μ3 hS hF => ?_)
  refine Wa.iconst (v := 2) d_Wd_canMerge_10 rfl ?_
  refine Wa.icmp_lt 18 d_Wd_canMerge_11 (by decide) (fun hb => ?_) (fun hb => ?_)
  · have hF := hF.1 hb
    refine Wa.iconst (v := 0) d_Wd_canMerge_18 rfl ?_
    exact Wx.retz d_Wd_canMerge_19 rfl (Or.inl rfl) hF
  · have hF := hF.2 hb
    refine Wa.iconst (v := 1) d_Wd_canMerge_14 rfl ?_
    refine Wa.goto 19 d_Wd_canMerge_15 (by decide) ?_
    exact Wx.retz d_Wd_canMerge_19 rfl (Or.inr rfl) hF
theorem e_Wd_canMerge {d rc rs : Nat} {Q : Option Value → Mu → Prop} {μ : Mu} {i0 : Nat} {x1 : Int32} {x2 : Int32} (hk : Wx K_Wd_canMerge d rc rs (fun r μ' => St μ' ∧ Q r μ') 0 [(0, .ref (hd 29 i0)), (1, .int x1), (2, .int x2)] [] μ) : Cal K_Wd_canMerge d rc rs [.ref (hd 29 i0), .int x1, .int x2] μ Q := Cal.of (by decide +kernel) rfl rfl (Nat.le_of_ble_eq_true rfl) rfl hk
set_option maxHeartbeats 4000000 in
set_option maxRecDepth 20000 in
theorem g_Wd_makeWritten_0 {d rc rs : Nat} {Q : Option Value → Mu → Prop} {μ : Mu} {i0 : Nat} {x1 : Int32} {x2 : Int32} {x3 : Int32} (hD : 1 ≤ d) (h0 : i0 < 2) (hS : St μ)
    (hF : (vp_in x1 5 ∧ (Cal K_Wd_marksShown (d - 1) 0 0 [.ref (hd 29 i0), .ref (hd 35 (5 * i0 + x1.toNatClampNeg)), .int x2] μ (fun r μ3 => ∃ y4, r = some (.int y4) ∧ (Cal K_Wd_make (d - 1) 0 0 [.ref (hd 29 i0), .int x1, .int x2, .int x3, .int y4, .int 0] μ3 (fun r μ5 => ∃ y6, r = some (.int y6) ∧ Q (some (.int y6)) μ5)))))) : Wx K_Wd_makeWritten d rc rs Q 0 [(0, .ref (hd 29 i0)), (1, .int x1), (2, .int x2), (3, .int x3)] [] μ := by
  refine Wa.aload_n (j := 0) d_Wd_makeWritten_0 rfl ?_
  refine Wa.aload_n (j := 0) d_Wd_makeWritten_1 rfl ?_
  refine Wx.getR 10 1 d_Wd_makeWritten_2 f_Wd_1 rfl fl_Wd_19 (s_29 hS h0) (r_29_1 hS h0) ?_
  refine Wa.iload_n (j := 1) d_Wd_makeWritten_5 rfl ?_
  have hc1 := hF.1
  have hF := hF.2
  have hlhc1 := vp_in_lt hc1
  have hb2 : (5 * i0 + x1.toNatClampNeg) < 10 := by have : i0 < 2 := h0; omega
  refine Wa.aald (t := 1) (q := E_Bd) d_Wd_makeWritten_6 rfl (s_31 hS h0) hc1 (a_31 hS h0 hlhc1) ?_
  refine Wa.iload_n (j := 2) d_Wd_makeWritten_7 rfl ?_
  refine Wx.cVi (q := E_Wd) (As := [.ref (hd 35 (5 * i0 + x1.toNatClampNeg)), .int x2]) 10 (d - 1) 0 0 _ d_Wd_makeWritten_8 mok_Wd_marksShown vl_Wd_176 rfl rfl rfl (Nat.le_of_ble_eq_true rfl) (by omega) (Nat.zero_le _) (Nat.zero_le _) (s_29 hS h0) hF (fun y4 μ3 hS hF => ?_)
  refine Wa.istore (i := 4) (L' := [(4, .int y4), (0, .ref (hd 29 i0)), (1, .int x1), (2, .int x2), (3, .int x3)]) d_Wd_makeWritten_11 (by decide) rfl ?_
  refine Wa.aload_n (j := 1) d_Wd_makeWritten_13 rfl ?_
  refine Wa.iload_n (j := 2) d_Wd_makeWritten_14 rfl ?_
  refine Wa.iload_n (j := 3) d_Wd_makeWritten_15 rfl ?_
  refine Wa.iload_n (j := 4) d_Wd_makeWritten_16 rfl ?_
  refine Wa.iload (j := 0) d_Wd_makeWritten_17 rfl ?_
  refine Wa.iconst (v := 0) d_Wd_makeWritten_19 rfl ?_
  refine Wx.cVi (q := E_Wd) (As := [.int x1, .int x2, .int x3, .int y4, .int 0]) 10 (d - 1) 0 0 _ d_Wd_makeWritten_20 mok_Wd_make vl_Wd_185 rfl rfl rfl (Nat.le_of_ble_eq_true rfl) (by omega) (Nat.zero_le _) (Nat.zero_le _) (s_29 hS h0) hF (fun y6 μ5 hS hF => ?_)
  exact Wx.reti d_Wd_makeWritten_23 rfl hF
theorem e_Wd_makeWritten {d rc rs : Nat} {Q : Option Value → Mu → Prop} {μ : Mu} {i0 : Nat} {x1 : Int32} {x2 : Int32} {x3 : Int32} (hk : Wx K_Wd_makeWritten d rc rs (fun r μ' => St μ' ∧ Q r μ') 0 [(0, .ref (hd 29 i0)), (1, .int x1), (2, .int x2), (3, .int x3)] [] μ) : Cal K_Wd_makeWritten d rc rs [.ref (hd 29 i0), .int x1, .int x2, .int x3] μ Q := Cal.of (by decide +kernel) rfl rfl (Nat.le_of_ble_eq_true rfl) rfl hk
set_option maxHeartbeats 4000000 in
set_option maxRecDepth 20000 in
theorem g_Wd_makeNoted_0 {d rc rs : Nat} {Q : Option Value → Mu → Prop} {μ : Mu} {i0 : Nat} {x1 : Int32} {x2 : Int32} {x3 : Int32} (hD : 1 ≤ d) (h0 : i0 < 2) (hS : St μ)
    (hF : (vp_in x1 5 ∧ (Cal K_Wd_marksShown (d - 1) 0 0 [.ref (hd 29 i0), .ref (hd 35 (5 * i0 + x1.toNatClampNeg)), .int x2] μ (fun r μ3 => ∃ y4, r = some (.int y4) ∧ (Cal K_Wd_answer (d - 1) 0 0 [.ref (hd 29 i0), .ref (hd 0 18), .int x1, .int x2] μ3 (fun r μ5 => ∃ y6, r = some (.int y6) ∧ (Cal K_Wd_make (d - 1) 0 0 [.ref (hd 29 i0), .int x1, .int x2, .int y6, .int (y4 ||| ((1 : Int32) <<< (x3 &&& 31))), .int 1] μ5 (fun r μ7 => ∃ y8, r = some (.int y8) ∧ Q (some (.int y8)) μ7)))))))) : Wx K_Wd_makeNoted d rc rs Q 0 [(0, .ref (hd 29 i0)), (1, .int x1), (2, .int x2), (3, .int x3)] [] μ := by
  refine Wa.aload_n (j := 0) d_Wd_makeNoted_0 rfl ?_
  refine Wa.aload_n (j := 0) d_Wd_makeNoted_1 rfl ?_
  refine Wx.getR 10 1 d_Wd_makeNoted_2 f_Wd_1 rfl fl_Wd_19 (s_29 hS h0) (r_29_1 hS h0) ?_
  refine Wa.iload_n (j := 1) d_Wd_makeNoted_5 rfl ?_
  have hc1 := hF.1
  have hF := hF.2
  have hlhc1 := vp_in_lt hc1
  have hb2 : (5 * i0 + x1.toNatClampNeg) < 10 := by have : i0 < 2 := h0; omega
  refine Wa.aald (t := 1) (q := E_Bd) d_Wd_makeNoted_6 rfl (s_31 hS h0) hc1 (a_31 hS h0 hlhc1) ?_
  refine Wa.iload_n (j := 2) d_Wd_makeNoted_7 rfl ?_
  refine Wx.cVi (q := E_Wd) (As := [.ref (hd 35 (5 * i0 + x1.toNatClampNeg)), .int x2]) 10 (d - 1) 0 0 _ d_Wd_makeNoted_8 mok_Wd_marksShown vl_Wd_176 rfl rfl rfl (Nat.le_of_ble_eq_true rfl) (by omega) (Nat.zero_le _) (Nat.zero_le _) (s_29 hS h0) hF (fun y4 μ3 hS hF => ?_)
  refine Wa.iconst (v := 1) d_Wd_makeNoted_11 rfl ?_
  refine Wa.iload_n (j := 3) d_Wd_makeNoted_12 rfl ?_
  refine Wa.ishl d_Wd_makeNoted_13 ?_
  refine Wa.ior d_Wd_makeNoted_14 ?_
  refine Wa.istore (i := 4) (L' := [(4, .int (y4 ||| ((1 : Int32) <<< (x3 &&& 31)))), (0, .ref (hd 29 i0)), (1, .int x1), (2, .int x2), (3, .int x3)]) d_Wd_makeNoted_15 (by decide) rfl ?_
  refine Wa.aload_n (j := 1) d_Wd_makeNoted_17 rfl ?_
  refine Wa.iload_n (j := 2) d_Wd_makeNoted_18 rfl ?_
  refine Wa.iload_n (j := 3) d_Wd_makeNoted_19 rfl ?_
  refine Wa.aload_n (j := 1) d_Wd_makeNoted_20 rfl ?_
  refine Wx.gets d_Wd_makeNoted_21 st_22 sf_Wd_189 ?_
  refine Wa.iload_n (j := 2) d_Wd_makeNoted_24 rfl ?_
  refine Wa.iload_n (j := 3) d_Wd_makeNoted_25 rfl ?_
  refine Wx.cVi (q := E_Wd) (As := [.ref (hd 0 18), .int x1, .int x2]) 10 (d - 1) 0 0 _ d_Wd_makeNoted_26 mok_Wd_answer vl_Wd_193 rfl rfl rfl (Nat.le_of_ble_eq_true rfl) (by omega) (Nat.zero_le _) (Nat.zero_le _) (s_29 hS h0) hF (fun y6 μ5 hS hF => ?_)
  refine Wa.iload (j := 0) d_Wd_makeNoted_29 rfl ?_
  refine Wa.iconst (v := 1) d_Wd_makeNoted_31 rfl ?_
  refine Wx.cVi (q := E_Wd) (As := [.int x1, .int x2, .int y6, .int (y4 ||| ((1 : Int32) <<< (x3 &&& 31))), .int 1]) 10 (d - 1) 0 0 _ d_Wd_makeNoted_32 mok_Wd_make vl_Wd_185 rfl rfl rfl (Nat.le_of_ble_eq_true rfl) (by omega) (Nat.zero_le _) (Nat.zero_le _) (s_29 hS h0) hF (fun y8 μ7 hS hF => ?_)
  exact Wx.reti d_Wd_makeNoted_35 rfl hF
theorem e_Wd_makeNoted {d rc rs : Nat} {Q : Option Value → Mu → Prop} {μ : Mu} {i0 : Nat} {x1 : Int32} {x2 : Int32} {x3 : Int32} (hk : Wx K_Wd_makeNoted d rc rs (fun r μ' => St μ' ∧ Q r μ') 0 [(0, .ref (hd 29 i0)), (1, .int x1), (2, .int x2), (3, .int x3)] [] μ) : Cal K_Wd_makeNoted d rc rs [.ref (hd 29 i0), .int x1, .int x2, .int x3] μ Q := Cal.of (by decide +kernel) rfl rfl (Nat.le_of_ble_eq_true rfl) rfl hk
set_option maxHeartbeats 4000000 in
set_option maxRecDepth 20000 in
theorem g_Wd_makeMerged_0 {d rc rs : Nat} {Q : Option Value → Mu → Prop} {μ : Mu} {i0 : Nat} {x1 : Int32} {x2 : Int32} {x3 : Int32} (hD : 1 ≤ d) (h0 : i0 < 2) (hS : St μ)
    (hF : (vp_in x1 5 ∧ Wx K_Wd_makeMerged d rc rs Q 22 [(0, .ref (hd 29 i0)), (1, .int x1), (2, .int x2), (3, .int x3), (4, .ref (hd 35 (5 * i0 + x1.toNatClampNeg))), (5, .int 9999), (6, .int 0), (7, .int 0), (8, .int 0)] [] μ)) : Wx K_Wd_makeMerged d rc rs Q 0 [(0, .ref (hd 29 i0)), (1, .int x1), (2, .int x2), (3, .int x3)] [] μ := by
  refine Wa.aload_n (j := 0) d_Wd_makeMerged_0 rfl ?_
  refine Wx.getR 10 1 d_Wd_makeMerged_1 f_Wd_1 rfl fl_Wd_19 (s_29 hS h0) (r_29_1 hS h0) ?_
  refine Wa.iload_n (j := 1) d_Wd_makeMerged_4 rfl ?_
  have hc1 := hF.1
  have hF := hF.2
  have hlhc1 := vp_in_lt hc1
  have hb2 : (5 * i0 + x1.toNatClampNeg) < 10 := by have : i0 < 2 := h0; omega
  refine Wa.aald (t := 1) (q := E_Bd) d_Wd_makeMerged_5 rfl (s_31 hS h0) hc1 (a_31 hS h0 hlhc1) ?_
  refine Wa.astore (i := 4) (L' := [(4, .ref (hd 35 (5 * i0 + x1.toNatClampNeg))), (0, .ref (hd 29 i0)), (1, .int x1), (2, .int x2), (3, .int x3)]) d_Wd_makeMerged_6 (by decide) rfl ?_
  refine Wa.sipush (v := 9999) d_Wd_makeMerged_8 rfl ?_
  refine Wa.istore (i := 5) (L' := [(5, .int 9999), (4, .ref (hd 35 (5 * i0 + x1.toNatClampNeg))), (0, .ref (hd 29 i0)), (1, .int x1), (2, .int x2), (3, .int x3)]) d_Wd_makeMerged_11 (by decide) rfl ?_
  refine Wa.iconst (v := 0) d_Wd_makeMerged_13 rfl ?_
  refine Wa.istore (i := 6) (L' := [(6, .int 0), (5, .int 9999), (4, .ref (hd 35 (5 * i0 + x1.toNatClampNeg))), (0, .ref (hd 29 i0)), (1, .int x1), (2, .int x2), (3, .int x3)]) d_Wd_makeMerged_14 (by decide) rfl ?_
  refine Wa.iconst (v := 0) d_Wd_makeMerged_16 rfl ?_
  refine Wa.istore (i := 7) (L' := [(7, .int 0), (6, .int 0), (5, .int 9999), (4, .ref (hd 35 (5 * i0 + x1.toNatClampNeg))), (0, .ref (hd 29 i0)), (1, .int x1), (2, .int x2), (3, .int x3)]) d_Wd_makeMerged_17 (by decide) rfl ?_
  refine Wa.iconst (v := 0) d_Wd_makeMerged_19 rfl ?_
  refine Wa.istore (i := 8) (L' := [(8, .int 0), (7, .int 0), (6, .int 0), (5, .int 9999), (4, .ref (hd 35 (5 * i0 + x1.toNatClampNeg))), (0, .ref (hd 29 i0)), (1, .int x1), (2, .int x2), (3, .int x3)]) d_Wd_makeMerged_20 (by decide) rfl ?_
  exact Wa.loc [5, 6, 7, 8, 4, 3, 2, 1, 0] rfl hF
theorem e_Wd_makeMerged {d rc rs : Nat} {Q : Option Value → Mu → Prop} {μ : Mu} {i0 : Nat} {x1 : Int32} {x2 : Int32} {x3 : Int32} (hk : Wx K_Wd_makeMerged d rc rs (fun r μ' => St μ' ∧ Q r μ') 0 [(0, .ref (hd 29 i0)), (1, .int x1), (2, .int x2), (3, .int x3)] [] μ) : Cal K_Wd_makeMerged d rc rs [.ref (hd 29 i0), .int x1, .int x2, .int x3] μ Q := Cal.of (by decide +kernel) rfl rfl (Nat.le_of_ble_eq_true rfl) rfl hk
set_option maxHeartbeats 4000000 in
set_option maxRecDepth 20000 in
theorem g_Wd_makeMerged_22 {d rc rs : Nat} {Q : Option Value → Mu → Prop} {μ : Mu} {i0 : Nat} {x1 : Int32} {x2 : Int32} {x3 : Int32} {i4 : Nat} {x5 : Int32} {x6 : Int32} {x7 : Int32} {x8 : Int32} (hD : 1 ≤ d) (h0 : i0 < 2) (h4 : i4 < 10) (hS : St μ)
    (hF : (((mI μ (hd 18 (px μ (hd 29 i0) 3)) 3) ≤ x8 → ((x3 = 0 → (Cal K_Wd_marksShown (d - 1) 0 0 [.ref (hd 29 i0), .ref (hd 35 i4), .int x2] μ (fun r μ10 => ∃ y11, r = some (.int y11) ∧ (Cal K_Wd_make (d - 1) 0 0 [.ref (hd 29 i0), .int x1, .int x2, .int x5, .int y11, .int 2] μ10 (fun r μ12 => ∃ y13, r = some (.int y13) ∧ Q (some (.int y13)) μ12))))) ∧ (¬ x3 = 0 → ((x3 = 1 → (Cal K_Wd_marksShown (d - 1) 0 0 [.ref (hd 29 i0), .ref (hd 35 i4), .int x2] μ (fun r μ6 => ∃ y7, r = some (.int y7) ∧ (Cal K_Wd_make (d - 1) 0 0 [.ref (hd 29 i0), .int x1, .int x2, .int x6, .int y7, .int 2] μ6 (fun r μ8 => ∃ y9, r = some (.int y9) ∧ Q (some (.int y9)) μ8))))) ∧ (¬ x3 = 1 → (Cal K_Wd_marksShown (d - 1) 0 0 [.ref (hd 29 i0), .ref (hd 35 i4), .int x2] μ (fun r μ2 => ∃ y3, r = some (.int y3) ∧ (Cal K_Wd_make (d - 1) 0 0 [.ref (hd 29 i0), .int x1, .int x2, .int (imin x7 9999), .int y3, .int 2] μ2 (fun r μ4 => ∃ y5, r = some (.int y5) ∧ Q (some (.int y5)) μ4))))))))) ∧ (¬ (mI μ (hd 18 (px μ (hd 29 i0) 3)) 3) ≤ x8 → (Cal K_Bd_shownFrom (d - 1) 0 0 [.ref (hd 35 i4), .int x2, .int x8] μ (fun r μ14 => ∃ y15, r = some (.int y15) ∧ ((y15 = (-1) → Wx K_Wd_makeMerged d rc rs Q 22 [(0, .ref (hd 29 i0)), (1, .int x1), (2, .int x2), (3, .int x3), (4, .ref (hd 35 i4)), (5, .int x5), (6, .int x6), (7, .int x7), (8, .int (x8 + 1))] [] μ14) ∧ (¬ y15 = (-1) → (vp_in y15 60 ∧ Wx K_Wd_makeMerged d rc rs Q 22 [(0, .ref (hd 29 i0)), (1, .int x1), (2, .int x2), (3, .int x3), (4, .ref (hd 35 i4)), (5, .int (imin x5 (mI μ14 (hd 33 (60 * i0 + y15.toNatClampNeg)) 3))), (6, .int (imax x6 (mI μ14 (hd 33 (60 * i0 + y15.toNatClampNeg)) 3))), (7, .int (x7 + (mI μ14 (hd 33 (60 * i0 + y15.toNatClampNeg)) 3))), (8, .int (x8 + 1))] [] μ14)))))))) : Wx K_Wd_makeMerged d rc rs Q 22 [(0, .ref (hd 29 i0)), (1, .int x1), (2, .int x2), (3, .int x3), (4, .ref (hd 35 i4)), (5, .int x5), (6, .int x6), (7, .int x7), (8, .int x8)] [] μ := by
  refine Wa.iload (j := 8) d_Wd_makeMerged_22 rfl ?_
  refine Wa.aload_n (j := 0) d_Wd_makeMerged_24 rfl ?_
  have hp1 := d_29_3 (i := i0) hS h0
  refine Wx.getR 10 3 d_Wd_makeMerged_25 f_Wd_3 rfl fl_Wd_42 (s_29 hS h0) (hp1.1) ?_
  refine Wx.getI 6 3 d_Wd_makeMerged_28 f_Pl_3 fl_Wd_65 w_18 (s_18 hS hp1.2) ?_
  refine Wa.icmp_ge 93 d_Wd_makeMerged_31 (by decide) (fun hb => ?_) (fun hb => ?_)
  · have hF := hF.1 hb
    refine Wa.iload_n (j := 3) d_Wd_makeMerged_93 rfl ?_
    refine Wa.if_ne 102 d_Wd_makeMerged_94 (by decide) (fun hb => ?_) (fun hb => ?_)
    · have hF := hF.2 hb
      refine Wa.iload_n (j := 3) d_Wd_makeMerged_102 rfl ?_
      refine Wa.iconst (v := 1) d_Wd_makeMerged_103 rfl ?_
      refine Wa.icmp_ne 112 d_Wd_makeMerged_104 (by decide) (fun hb => ?_) (fun hb => ?_)
      · have hF := hF.2 hb
        refine Wa.iload (j := 7) d_Wd_makeMerged_112 rfl ?_
        refine Wa.sipush (v := 9999) d_Wd_makeMerged_114 rfl ?_
        refine Wx.mmin d_Wd_makeMerged_117 mm_Wd_197 (Nat.le_of_ble_eq_true rfl) hD ?_
        refine Wa.istore (i := 8) (L' := [(8, .int (imin x7 9999)), (0, .ref (hd 29 i0)), (1, .int x1), (2, .int x2), (3, .int x3), (4, .ref (hd 35 i4)), (5, .int x5), (6, .int x6), (7, .int x7)]) d_Wd_makeMerged_120 (by decide) rfl ?_
        refine Wa.aload_n (j := 1) d_Wd_makeMerged_122 rfl ?_
        refine Wa.iload_n (j := 2) d_Wd_makeMerged_123 rfl ?_
        refine Wa.iload_n (j := 3) d_Wd_makeMerged_124 rfl ?_
        refine Wa.iload (j := 0) d_Wd_makeMerged_125 rfl ?_
        refine Wa.aload_n (j := 1) d_Wd_makeMerged_127 rfl ?_
        refine Wa.aload (j := 5) d_Wd_makeMerged_128 rfl ?_
        refine Wa.iload_n (j := 3) d_Wd_makeMerged_130 rfl ?_
        refine Wx.cVi (q := E_Wd) (As := [.ref (hd 35 i4), .int x2]) 10 (d - 1) 0 0 _ d_Wd_makeMerged_131 mok_Wd_marksShown vl_Wd_176 rfl rfl rfl (Nat.le_of_ble_eq_true rfl) (by omega) (Nat.zero_le _) (Nat.zero_le _) (s_29 hS h0) hF (fun y3 μ2 hS hF => ?_)
        refine Wa.iconst (v := 2) d_Wd_makeMerged_134 rfl ?_
        refine Wx.cVi (q := E_Wd) (As := [.int x1, .int x2, .int (imin x7 9999), .int y3, .int 2]) 10 (d - 1) 0 0 _ d_Wd_makeMerged_135 mok_Wd_make vl_Wd_185 rfl rfl rfl (Nat.le_of_ble_eq_true rfl) (by omega) (Nat.zero_le _) (Nat.zero_le _) (s_29 hS h0) hF (fun y5 μ4 hS hF => ?_)
        exact Wx.reti d_Wd_makeMerged_138 rfl hF
      · have hF := hF.1 hb
        refine Wa.iload (j := 6) d_Wd_makeMerged_107 rfl ?_
        refine Wa.goto 120 d_Wd_makeMerged_109 (by decide) ?_
        refine Wa.istore (i := 8) (L' := [(8, .int x6), (0, .ref (hd 29 i0)), (1, .int x1), (2, .int x2), (3, .int x3), (4, .ref (hd 35 i4)), (5, .int x5), (6, .int x6), (7, .int x7)]) d_Wd_makeMerged_120 (by decide) rfl ?_
        refine Wa.aload_n (j := 1) d_Wd_makeMerged_122 rfl ?_
        refine Wa.iload_n (j := 2) d_Wd_makeMerged_123 rfl ?_
        refine Wa.iload_n (j := 3) d_Wd_makeMerged_124 rfl ?_
        refine Wa.iload (j := 0) d_Wd_makeMerged_125 rfl ?_
        refine Wa.aload_n (j := 1) d_Wd_makeMerged_127 rfl ?_
        refine Wa.aload (j := 5) d_Wd_makeMerged_128 rfl ?_
        refine Wa.iload_n (j := 3) d_Wd_makeMerged_130 rfl ?_
        refine Wx.cVi (q := E_Wd) (As := [.ref (hd 35 i4), .int x2]) 10 (d - 1) 0 0 _ d_Wd_makeMerged_131 mok_Wd_marksShown vl_Wd_176 rfl rfl rfl (Nat.le_of_ble_eq_true rfl) (by omega) (Nat.zero_le _) (Nat.zero_le _) (s_29 hS h0) hF (fun y7 μ6 hS hF => ?_)
        refine Wa.iconst (v := 2) d_Wd_makeMerged_134 rfl ?_
        refine Wx.cVi (q := E_Wd) (As := [.int x1, .int x2, .int x6, .int y7, .int 2]) 10 (d - 1) 0 0 _ d_Wd_makeMerged_135 mok_Wd_make vl_Wd_185 rfl rfl rfl (Nat.le_of_ble_eq_true rfl) (by omega) (Nat.zero_le _) (Nat.zero_le _) (s_29 hS h0) hF (fun y9 μ8 hS hF => ?_)
        exact Wx.reti d_Wd_makeMerged_138 rfl hF
    · have hF := hF.1 hb
      refine Wa.iload (j := 5) d_Wd_makeMerged_97 rfl ?_
      refine Wa.goto 120 d_Wd_makeMerged_99 (by decide) ?_
      refine Wa.istore (i := 8) (L' := [(8, .int x5), (0, .ref (hd 29 i0)), (1, .int x1), (2, .int x2), (3, .int x3), (4, .ref (hd 35 i4)), (5, .int x5), (6, .int x6), (7, .int x7)]) d_Wd_makeMerged_120 (by decide) rfl ?_
      refine Wa.aload_n (j := 1) d_Wd_makeMerged_122 rfl ?_
      refine Wa.iload_n (j := 2) d_Wd_makeMerged_123 rfl ?_
      refine Wa.iload_n (j := 3) d_Wd_makeMerged_124 rfl ?_
      refine Wa.iload (j := 0) d_Wd_makeMerged_125 rfl ?_
      refine Wa.aload_n (j := 1) d_Wd_makeMerged_127 rfl ?_
      refine Wa.aload (j := 5) d_Wd_makeMerged_128 rfl ?_
      refine Wa.iload_n (j := 3) d_Wd_makeMerged_130 rfl ?_
      refine Wx.cVi (q := E_Wd) (As := [.ref (hd 35 i4), .int x2]) 10 (d - 1) 0 0 _ d_Wd_makeMerged_131 mok_Wd_marksShown vl_Wd_176 rfl rfl rfl (Nat.le_of_ble_eq_true rfl) (by omega) (Nat.zero_le _) (Nat.zero_le _) (s_29 hS h0) hF (fun y11 μ10 hS hF => ?_)
      refine Wa.iconst (v := 2) d_Wd_makeMerged_134 rfl ?_
      refine Wx.cVi (q := E_Wd) (As := [.int x1, .int x2, .int x5, .int y11, .int 2]) 10 (d - 1) 0 0 _ d_Wd_makeMerged_135 mok_Wd_make vl_Wd_185 rfl rfl rfl (Nat.le_of_ble_eq_true rfl) (by omega) (Nat.zero_le _) (Nat.zero_le _) (s_29 hS h0) hF (fun y13 μ12 hS hF => ?_)
      exact Wx.reti d_Wd_makeMerged_138 rfl hF
  · have hF := hF.2 hb
    refine Wa.aload (j := 4) d_Wd_makeMerged_34 rfl ?_
    refine Wa.iload_n (j := 2) d_Wd_makeMerged_36 rfl ?_
    refine Wa.iload (j := 8) d_Wd_makeMerged_37 rfl ?_
    refine Wx.cVi (q := E_Bd) (As := [.int x2, .int x8]) 1 (d - 1) 0 0 _ d_Wd_makeMerged_39 mok_Bd_shownFrom vl_Wd_153 rfl rfl rfl (Nat.le_of_ble_eq_true rfl) (by omega) (Nat.zero_le _) (Nat.zero_le _) (s_35 hS h4) hF (fun y15 μ14 hS hF => ?_)
    refine Wa.istore (i := 9) (L' := [(9, .int y15), (0, .ref (hd 29 i0)), (1, .int x1), (2, .int x2), (3, .int x3), (4, .ref (hd 35 i4)), (5, .int x5), (6, .int x6), (7, .int x7), (8, .int x8)]) d_Wd_makeMerged_42 (by decide) rfl ?_
    refine Wa.iload (j := 0) d_Wd_makeMerged_44 rfl ?_
    refine Wa.iconst (v := (-1)) d_Wd_makeMerged_46 rfl ?_
    refine Wa.icmp_eq 87 d_Wd_makeMerged_47 (by decide) (fun hb => ?_) (fun hb => ?_)
    · have hF := hF.1 hb
      refine Wa.iinc (i := 8) (j := 9) (v := (x8 + 1)) (L' := [(8, .int (x8 + 1)), (9, .int y15), (0, .ref (hd 29 i0)), (1, .int x1), (2, .int x2), (3, .int x3), (4, .ref (hd 35 i4)), (5, .int x5), (6, .int x6), (7, .int x7)]) d_Wd_makeMerged_87 rfl rfl (by decide) rfl ?_
      refine Wa.goto 22 d_Wd_makeMerged_90 (by decide) ?_
      exact Wa.loc [2, 3, 4, 5, 6, 7, 8, 9, 0] rfl hF
    · have hF := hF.2 hb
      refine Wa.aload_n (j := 1) d_Wd_makeMerged_50 rfl ?_
      refine Wx.getR 10 0 d_Wd_makeMerged_51 f_Wd_0 rfl fl_Wd_11 (s_29 hS h0) (r_29_0 hS h0) ?_
      refine Wa.iload (j := 0) d_Wd_makeMerged_54 rfl ?_
      have hc16 := hF.1
      have hF := hF.2
      have hlhc16 := vp_in_lt hc16
      have hb17 : (60 * i0 + y15.toNatClampNeg) < 120 := by have : i0 < 2 := h0; omega
      refine Wa.aald (t := 8) (q := E_Sh) d_Wd_makeMerged_56 rfl (s_30 hS h0) hc16 (a_30 hS h0 hlhc16) ?_
      refine Wx.getI 8 3 d_Wd_makeMerged_57 f_Sh_3 fl_Wd_113 w_33 (s_33 hS hb17) ?_
      refine Wa.istore (i := 10) (L' := [(10, .int (mI μ14 (hd 33 (60 * i0 + y15.toNatClampNeg)) 3)), (9, .int y15), (0, .ref (hd 29 i0)), (1, .int x1), (2, .int x2), (3, .int x3), (4, .ref (hd 35 i4)), (5, .int x5), (6, .int x6), (7, .int x7), (8, .int x8)]) d_Wd_makeMerged_60 (by decide) rfl ?_
      refine Wa.iload (j := 7) d_Wd_makeMerged_62 rfl ?_
      refine Wa.iload (j := 0) d_Wd_makeMerged_64 rfl ?_
      refine Wx.mmin d_Wd_makeMerged_66 mm_Wd_197 (Nat.le_of_ble_eq_true rfl) hD ?_
      refine Wa.istore (i := 5) (L' := [(5, .int (imin x5 (mI μ14 (hd 33 (60 * i0 + y15.toNatClampNeg)) 3))), (10, .int (mI μ14 (hd 33 (60 * i0 + y15.toNatClampNeg)) 3)), (9, .int y15), (0, .ref (hd 29 i0)), (1, .int x1), (2, .int x2), (3, .int x3), (4, .ref (hd 35 i4)), (6, .int x6), (7, .int x7), (8, .int x8)]) d_Wd_makeMerged_69 (by decide) rfl ?_
      refine Wa.iload (j := 8) d_Wd_makeMerged_71 rfl ?_
      refine Wa.iload (j := 1) d_Wd_makeMerged_73 rfl ?_
      refine Wx.mmax d_Wd_makeMerged_75 mm_Wd_202 (Nat.le_of_ble_eq_true rfl) hD ?_
      refine Wa.istore (i := 6) (L' := [(6, .int (imax x6 (mI μ14 (hd 33 (60 * i0 + y15.toNatClampNeg)) 3))), (5, .int (imin x5 (mI μ14 (hd 33 (60 * i0 + y15.toNatClampNeg)) 3))), (10, .int (mI μ14 (hd 33 (60 * i0 + y15.toNatClampNeg)) 3)), (9, .int y15), (0, .ref (hd 29 i0)), (1, .int x1), (2, .int x2), (3, .int x3), (4, .ref (hd 35 i4)), (7, .int x7), (8, .int x8)]) d_Wd_makeMerged_78 (by decide) rfl ?_
      refine Wa.iload (j := 9) d_Wd_makeMerged_80 rfl ?_
      refine Wa.iload (j := 2) d_Wd_makeMerged_82 rfl ?_
      refine Wa.iadd d_Wd_makeMerged_84 ?_
      refine Wa.istore (i := 7) (L' := [(7, .int (x7 + (mI μ14 (hd 33 (60 * i0 + y15.toNatClampNeg)) 3))), (6, .int (imax x6 (mI μ14 (hd 33 (60 * i0 + y15.toNatClampNeg)) 3))), (5, .int (imin x5 (mI μ14 (hd 33 (60 * i0 + y15.toNatClampNeg)) 3))), (10, .int (mI μ14 (hd 33 (60 * i0 + y15.toNatClampNeg)) 3)), (9, .int y15), (0, .ref (hd 29 i0)), (1, .int x1), (2, .int x2), (3, .int x3), (4, .ref (hd 35 i4)), (8, .int x8)]) d_Wd_makeMerged_85 (by decide) rfl ?_
      refine Wa.iinc (i := 8) (j := 10) (v := (x8 + 1)) (L' := [(8, .int (x8 + 1)), (7, .int (x7 + (mI μ14 (hd 33 (60 * i0 + y15.toNatClampNeg)) 3))), (6, .int (imax x6 (mI μ14 (hd 33 (60 * i0 + y15.toNatClampNeg)) 3))), (5, .int (imin x5 (mI μ14 (hd 33 (60 * i0 + y15.toNatClampNeg)) 3))), (10, .int (mI μ14 (hd 33 (60 * i0 + y15.toNatClampNeg)) 3)), (9, .int y15), (0, .ref (hd 29 i0)), (1, .int x1), (2, .int x2), (3, .int x3), (4, .ref (hd 35 i4))]) d_Wd_makeMerged_87 rfl rfl (by decide) rfl ?_
      refine Wa.goto 22 d_Wd_makeMerged_90 (by decide) ?_
      exact Wa.loc [6, 7, 8, 9, 10, 3, 2, 1, 0] rfl hF
set_option maxHeartbeats 4000000 in
set_option maxRecDepth 20000 in
theorem g_Wd_make_0 {d rc rs : Nat} {Q : Option Value → Mu → Prop} {μ : Mu} {i0 : Nat} {x1 : Int32} {x2 : Int32} {x3 : Int32} {x4 : Int32} {x5 : Int32} (hD : 1 ≤ d) (h0 : i0 < 2) (hS : St μ)
    (hF : (Cal K_Wd_isFull (d - 1) 0 0 [.ref (hd 29 i0)] μ (fun r μ1 => ∃ y2, r = some (.int y2) ∧ ((y2 = 0 → (vp_in x1 5 ∧ (vp_in x1 5 ∧ (vp_in x1 5 ∧ (∀ μ7 : Mu, μ7 = (setI (setI μ1 (hd 29 i0) 5 ((mI μ1 (hd 29 i0) 5) + (1 : Int32))) (hd 36 (5 * i0 + x1.toNatClampNeg)) x1.toNatClampNeg ((mI (setI μ1 (hd 29 i0) 5 ((mI μ1 (hd 29 i0) 5) + (1 : Int32))) (hd 36 (5 * i0 + x1.toNatClampNeg)) x1.toNatClampNeg) + (1 : Int32))) → (vp_in (mI μ1 (hd 29 i0) 5) 60 ∧ (∀ μ10 : Mu, μ10 = (setI (setI (setI (setI μ7 (hd 33 (60 * i0 + (mI μ1 (hd 29 i0) 5).toNatClampNeg)) 1 x1) (hd 33 (60 * i0 + (mI μ1 (hd 29 i0) 5).toNatClampNeg)) 2 x2) (hd 33 (60 * i0 + (mI μ1 (hd 29 i0) 5).toNatClampNeg)) 3 x3) (hd 33 (60 * i0 + (mI μ1 (hd 29 i0) 5).toNatClampNeg)) 4 x4) → ((¬ (0 : Int32) < 0 ∧ ¬ (0 : Int32) < 0 ∧ ¬ (5 : Int32) < 0 ∧ (0 : Int32).toNatClampNeg + (5 : Int32).toNatClampNeg ≤ 5 ∧ (0 : Int32).toNatClampNeg + (5 : Int32).toNatClampNeg ≤ 5) ∧ (∀ μ12 : Mu, μ12 = (cpI (setI (setI μ10 (hd 33 (60 * i0 + (mI μ1 (hd 29 i0) 5).toNatClampNeg)) 5 (mI μ10 (hd 29 i0) 4)) (hd 33 (60 * i0 + (mI μ1 (hd 29 i0) 5).toNatClampNeg)) 6 x5) (hd 36 (5 * i0 + x1.toNatClampNeg)) (hd 34 (60 * i0 + (mI μ1 (hd 29 i0) 5).toNatClampNeg)) (0 : Int32).toNatClampNeg (0 : Int32).toNatClampNeg (5 : Int32).toNatClampNeg) → Wx K_Wd_make d rc rs Q 113 [(0, .ref (hd 29 i0)), (1, .int x1), (2, .int x2), (6, .int (mI μ1 (hd 29 i0) 5)), (7, .ref (hd 35 (5 * i0 + x1.toNatClampNeg))), (9, .int 0)] [] μ12))))))))) ∧ (¬ y2 = 0 → Q (some (.int (-1))) μ1))))) : Wx K_Wd_make d rc rs Q 0 [(0, .ref (hd 29 i0)), (1, .int x1), (2, .int x2), (3, .int x3), (4, .int x4), (5, .int x5)] [] μ := by
  refine Wa.aload_n (j := 0) d_Wd_make_0 rfl ?_
  refine Wx.cVi (q := E_Wd) (As := []) 10 (d - 1) 0 0 _ d_Wd_make_1 mok_Wd_isFull vl_Wd_205 rfl rfl rfl (Nat.le_of_ble_eq_true rfl) (by omega) (Nat.zero_le _) (Nat.zero_le _) (s_29 hS h0) hF (fun y2 μ1 hS hF => ?_)
  refine Wa.if_eq 9 d_Wd_make_4 (by decide) (fun hb => ?_) (fun hb => ?_)
  · have hF := hF.1 hb
    refine Wa.aload_n (j := 0) d_Wd_make_9 rfl ?_
    refine Wx.getI 10 5 d_Wd_make_10 f_Wd_5 fl_Wd_33 w_29 (s_29 hS h0) ?_
    refine Wa.istore (i := 6) (L' := [(6, .int (mI μ1 (hd 29 i0) 5)), (0, .ref (hd 29 i0)), (1, .int x1), (2, .int x2), (3, .int x3), (4, .int x4), (5, .int x5)]) d_Wd_make_13 (by decide) rfl ?_
    refine Wa.aload_n (j := 1) d_Wd_make_15 rfl ?_
    refine Wa.dup d_Wd_make_16 rfl ?_
    refine Wx.getI 10 5 d_Wd_make_17 f_Wd_5 fl_Wd_33 w_29 (s_29 hS h0) ?_
    refine Wa.iconst (v := 1) d_Wd_make_20 rfl ?_
    refine Wa.iadd d_Wd_make_21 ?_
    refine Wx.putI 10 5 d_Wd_make_22 f_Wd_5 ok_Wd fl_Wd_33 (Or.inl rfl) w_29 (s_29 hS h0) ?_
    refine Wa.aload_n (j := 1) d_Wd_make_25 rfl ?_
    refine Wx.getR 10 1 d_Wd_make_26 f_Wd_1 rfl fl_Wd_19 (s_29 hS h0) (r_29_1 hS h0) ?_
    refine Wa.iload_n (j := 2) d_Wd_make_29 rfl ?_
    have hc3 := hF.1
    have hF := hF.2
    have hlhc3 := vp_in_lt hc3
    have hb4 : (5 * i0 + x1.toNatClampNeg) < 10 := by have : i0 < 2 := h0; omega
    refine Wa.aald (t := 1) (q := E_Bd) d_Wd_make_30 rfl (s_31 hS h0) hc3 (a_31 hS h0 hlhc3) ?_
    refine Wa.astore (i := 7) (L' := [(7, .ref (hd 35 (5 * i0 + x1.toNatClampNeg))), (6, .int (mI μ1 (hd 29 i0) 5)), (0, .ref (hd 29 i0)), (1, .int x1), (2, .int x2), (3, .int x3), (4, .int x4), (5, .int x5)]) d_Wd_make_31 (by decide) rfl ?_
    refine Wa.aload (j := 0) d_Wd_make_33 rfl ?_
    refine Wx.getR 1 0 d_Wd_make_35 f_Bd_0 rfl fl_Wd_100 (s_35 hS hb4) (r_35_0 hS hb4) ?_
    refine Wa.iload_n (j := 3) d_Wd_make_38 rfl ?_
    refine Wa.dup2 d_Wd_make_39 rfl rfl ?_
    have hc5 := hF.1
    have hF := hF.2
    have hlhc5 := vp_in_lt hc5
    refine Wx.iald d_Wd_make_40 w_36 (s_36 hS hb4) hc5 ?_
    refine Wa.iconst (v := 1) d_Wd_make_41 rfl ?_
    refine Wa.iadd d_Wd_make_42 ?_
    have hc6 := hF.1
    have hF := hF.2
    have hlhc6 := vp_in_lt hc6
    refine Wa.iast d_Wd_make_43 w_36 (s_36 hS hb4) hc6 ?_
    suffices hh : ∀ μ7 : Mu, μ7 = (setI (setI μ1 (hd 29 i0) 5 ((mI μ1 (hd 29 i0) 5) + (1 : Int32))) (hd 36 (5 * i0 + x1.toNatClampNeg)) x1.toNatClampNeg ((mI (setI μ1 (hd 29 i0) 5 ((mI μ1 (hd 29 i0) 5) + (1 : Int32))) (hd 36 (5 * i0 + x1.toNatClampNeg)) x1.toNatClampNeg) + (1 : Int32))) → Wx K_Wd_make d rc rs Q 44 [(7, .ref (hd 35 (5 * i0 + x1.toNatClampNeg))), (6, .int (mI μ1 (hd 29 i0) 5)), (0, .ref (hd 29 i0)), (1, .int x1), (2, .int x2), (3, .int x3), (4, .int x4), (5, .int x5)] [] μ7 from hh _ rfl
    intro μ7 em
    have hF := hF μ7 em
    have hS : St μ7 := by rw [em]; exact hS
    refine Wa.aload_n (j := 2) d_Wd_make_44 rfl ?_
    refine Wx.getR 10 0 d_Wd_make_45 f_Wd_0 rfl fl_Wd_11 (s_29 hS h0) (r_29_0 hS h0) ?_
    refine Wa.iload (j := 1) d_Wd_make_48 rfl ?_
    have hc8 := hF.1
    have hF := hF.2
    have hlhc8 := vp_in_lt hc8
    have hb9 : (60 * i0 + (mI μ1 (hd 29 i0) 5).toNatClampNeg) < 120 := by have : i0 < 2 := h0; omega
    refine Wa.aald (t := 8) (q := E_Sh) d_Wd_make_50 rfl (s_30 hS h0) hc8 (a_30 hS h0 hlhc8) ?_
    refine Wa.astore (i := 8) (L' := [(8, .ref (hd 33 (60 * i0 + (mI μ1 (hd 29 i0) 5).toNatClampNeg))), (7, .ref (hd 35 (5 * i0 + x1.toNatClampNeg))), (6, .int (mI μ1 (hd 29 i0) 5)), (0, .ref (hd 29 i0)), (1, .int x1), (2, .int x2), (3, .int x3), (4, .int x4), (5, .int x5)]) d_Wd_make_51 (by decide) rfl ?_
    refine Wa.aload (j := 0) d_Wd_make_53 rfl ?_
    refine Wa.iload_n (j := 4) d_Wd_make_55 rfl ?_
    refine Wx.putI 8 1 d_Wd_make_56 f_Sh_1 ok_Sh fl_Wd_107 (Or.inl rfl) w_33 (s_33 hS hb9) ?_
    refine Wa.aload (j := 0) d_Wd_make_59 rfl ?_
    refine Wa.iload_n (j := 5) d_Wd_make_61 rfl ?_
    refine Wx.putI 8 2 d_Wd_make_62 f_Sh_2 ok_Sh fl_Wd_110 (Or.inl rfl) w_33 (s_33 hS hb9) ?_
    refine Wa.aload (j := 0) d_Wd_make_65 rfl ?_
    refine Wa.iload_n (j := 6) d_Wd_make_67 rfl ?_
    refine Wx.putI 8 3 d_Wd_make_68 f_Sh_3 ok_Sh fl_Wd_113 (Or.inl rfl) w_33 (s_33 hS hb9) ?_
    refine Wa.aload (j := 0) d_Wd_make_71 rfl ?_
    refine Wa.iload (j := 7) d_Wd_make_73 rfl ?_
    refine Wx.putI 8 4 d_Wd_make_75 f_Sh_4 ok_Sh fl_Wd_116 (Or.inl rfl) w_33 (s_33 hS hb9) ?_
    suffices hh : ∀ μ10 : Mu, μ10 = (setI (setI (setI (setI μ7 (hd 33 (60 * i0 + (mI μ1 (hd 29 i0) 5).toNatClampNeg)) 1 x1) (hd 33 (60 * i0 + (mI μ1 (hd 29 i0) 5).toNatClampNeg)) 2 x2) (hd 33 (60 * i0 + (mI μ1 (hd 29 i0) 5).toNatClampNeg)) 3 x3) (hd 33 (60 * i0 + (mI μ1 (hd 29 i0) 5).toNatClampNeg)) 4 x4) → Wx K_Wd_make d rc rs Q 78 [(8, .ref (hd 33 (60 * i0 + (mI μ1 (hd 29 i0) 5).toNatClampNeg))), (7, .ref (hd 35 (5 * i0 + x1.toNatClampNeg))), (6, .int (mI μ1 (hd 29 i0) 5)), (0, .ref (hd 29 i0)), (1, .int x1), (2, .int x2), (3, .int x3), (4, .int x4), (5, .int x5)] [] μ10 from hh _ rfl
    intro μ10 em
    have hF := hF μ10 em
    have hS : St μ10 := by rw [em]; exact hS
    refine Wa.aload (j := 0) d_Wd_make_78 rfl ?_
    refine Wa.aload_n (j := 3) d_Wd_make_80 rfl ?_
    refine Wx.getI 10 4 d_Wd_make_81 f_Wd_4 fl_Wd_29 w_29 (s_29 hS h0) ?_
    refine Wx.putI 8 5 d_Wd_make_84 f_Sh_5 ok_Sh fl_Wd_119 (Or.inl rfl) w_33 (s_33 hS hb9) ?_
    refine Wa.aload (j := 0) d_Wd_make_87 rfl ?_
    refine Wa.iload (j := 8) d_Wd_make_89 rfl ?_
    refine Wx.putI 8 6 d_Wd_make_91 f_Sh_6 ok_Sh fl_Wd_120 (Or.inl rfl) w_33 (s_33 hS hb9) ?_
    refine Wa.aload (j := 1) d_Wd_make_94 rfl ?_
    refine Wx.getR 1 0 d_Wd_make_96 f_Bd_0 rfl fl_Wd_100 (s_35 hS hb4) (r_35_0 hS hb4) ?_
    refine Wa.iconst (v := 0) d_Wd_make_99 rfl ?_
    refine Wa.aload (j := 0) d_Wd_make_100 rfl ?_
    refine Wx.getR 8 0 d_Wd_make_102 f_Sh_0 rfl fl_Wd_209 (s_33 hS hb9) (r_33_0 hS hb9) ?_
    refine Wa.iconst (v := 0) d_Wd_make_105 rfl ?_
    refine Wa.iconst (v := 5) d_Wd_make_106 rfl ?_
    have hc11 := hF.1
    have hF := hF.2
    refine Wa.copyI d_Wd_make_107 ml_Wd_212 cp_1 cp_2 cp_3 (Nat.le_of_ble_eq_true rfl) hD w_36 w_34 (s_36 hS hb4) (s_34 hS hb9) hc11.1 hc11.2.1 hc11.2.2.1 hc11.2.2.2.1 hc11.2.2.2.2 ?_
    suffices hh : ∀ μ12 : Mu, μ12 = (cpI (setI (setI μ10 (hd 33 (60 * i0 + (mI μ1 (hd 29 i0) 5).toNatClampNeg)) 5 (mI μ10 (hd 29 i0) 4)) (hd 33 (60 * i0 + (mI μ1 (hd 29 i0) 5).toNatClampNeg)) 6 x5) (hd 36 (5 * i0 + x1.toNatClampNeg)) (hd 34 (60 * i0 + (mI μ1 (hd 29 i0) 5).toNatClampNeg)) (0 : Int32).toNatClampNeg (0 : Int32).toNatClampNeg (5 : Int32).toNatClampNeg) → Wx K_Wd_make d rc rs Q 110 [(8, .ref (hd 33 (60 * i0 + (mI μ1 (hd 29 i0) 5).toNatClampNeg))), (7, .ref (hd 35 (5 * i0 + x1.toNatClampNeg))), (6, .int (mI μ1 (hd 29 i0) 5)), (0, .ref (hd 29 i0)), (1, .int x1), (2, .int x2), (3, .int x3), (4, .int x4), (5, .int x5)] [] μ12 from hh _ rfl
    intro μ12 em
    have hF := hF μ12 em
    have hS : St μ12 := by rw [em]; exact hS
    refine Wa.iconst (v := 0) d_Wd_make_110 rfl ?_
    refine Wa.istore (i := 9) (L' := [(9, .int 0), (8, .ref (hd 33 (60 * i0 + (mI μ1 (hd 29 i0) 5).toNatClampNeg))), (7, .ref (hd 35 (5 * i0 + x1.toNatClampNeg))), (6, .int (mI μ1 (hd 29 i0) 5)), (0, .ref (hd 29 i0)), (1, .int x1), (2, .int x2), (3, .int x3), (4, .int x4), (5, .int x5)]) d_Wd_make_111 (by decide) rfl ?_
    exact Wa.loc [4, 5, 6, 3, 2, 0] rfl hF
  · have hF := hF.2 hb
    refine Wa.iconst (v := (-1)) d_Wd_make_7 rfl ?_
    exact Wx.reti d_Wd_make_8 rfl hF
theorem e_Wd_make {d rc rs : Nat} {Q : Option Value → Mu → Prop} {μ : Mu} {i0 : Nat} {x1 : Int32} {x2 : Int32} {x3 : Int32} {x4 : Int32} {x5 : Int32} (hk : Wx K_Wd_make d rc rs (fun r μ' => St μ' ∧ Q r μ') 0 [(0, .ref (hd 29 i0)), (1, .int x1), (2, .int x2), (3, .int x3), (4, .int x4), (5, .int x5)] [] μ) : Cal K_Wd_make d rc rs [.ref (hd 29 i0), .int x1, .int x2, .int x3, .int x4, .int x5] μ Q := Cal.of (by decide +kernel) rfl rfl (Nat.le_of_ble_eq_true rfl) rfl hk
set_option maxHeartbeats 4000000 in
set_option maxRecDepth 20000 in
theorem g_Wd_make_113 {d rc rs : Nat} {Q : Option Value → Mu → Prop} {μ : Mu} {i0 : Nat} {x1 : Int32} {x2 : Int32} {x6 : Int32} {i7 : Nat} {x9 : Int32} (hD : 1 ≤ d) (h0 : i0 < 2) (h7 : i7 < 10) (hS : St μ)
    (hF : (((mI μ (hd 18 (px μ (hd 29 i0) 3)) 3) ≤ x9 → Q (some (.int x6)) μ) ∧ (¬ (mI μ (hd 18 (px μ (hd 29 i0) 3)) 3) ≤ x9 → ((x9 = x1 → (Cal K_Bd_show (d - 1) 0 0 [.ref (hd 35 i7), .int x2, .int x9, .int x6] μ (fun r μ3 => r = none ∧ Wx K_Wd_make d rc rs Q 113 [(0, .ref (hd 29 i0)), (1, .int x1), (2, .int x2), (6, .int x6), (7, .ref (hd 35 i7)), (9, .int (x9 + 1))] [] μ3))) ∧ (¬ x9 = x1 → (Cal K_Bd_show (d - 1) 0 0 [.ref (hd 35 i7), .int x2, .int x9, .int (-1)] μ (fun r μ2 => r = none ∧ Wx K_Wd_make d rc rs Q 113 [(0, .ref (hd 29 i0)), (1, .int x1), (2, .int x2), (6, .int x6), (7, .ref (hd 35 i7)), (9, .int (x9 + 1))] [] μ2))))))) : Wx K_Wd_make d rc rs Q 113 [(0, .ref (hd 29 i0)), (1, .int x1), (2, .int x2), (6, .int x6), (7, .ref (hd 35 i7)), (9, .int x9)] [] μ := by
  refine Wa.iload (j := 5) d_Wd_make_113 rfl ?_
  refine Wa.aload_n (j := 0) d_Wd_make_115 rfl ?_
  have hp1 := d_29_3 (i := i0) hS h0
  refine Wx.getR 10 3 d_Wd_make_116 f_Wd_3 rfl fl_Wd_42 (s_29 hS h0) (hp1.1) ?_
  refine Wx.getI 6 3 d_Wd_make_119 f_Pl_3 fl_Wd_65 w_18 (s_18 hS hp1.2) ?_
  refine Wa.icmp_ge 151 d_Wd_make_122 (by decide) (fun hb => ?_) (fun hb => ?_)
  · have hF := hF.1 hb
    refine Wa.iload (j := 3) d_Wd_make_151 rfl ?_
    exact Wx.reti d_Wd_make_153 rfl hF
  · have hF := hF.2 hb
    refine Wa.aload (j := 4) d_Wd_make_125 rfl ?_
    refine Wa.iload_n (j := 2) d_Wd_make_127 rfl ?_
    refine Wa.iload (j := 5) d_Wd_make_128 rfl ?_
    refine Wa.iload (j := 5) d_Wd_make_130 rfl ?_
    refine Wa.iload_n (j := 1) d_Wd_make_132 rfl ?_
    refine Wa.icmp_ne 141 d_Wd_make_133 (by decide) (fun hb => ?_) (fun hb => ?_)
    · have hF := hF.2 hb
      refine Wa.iconst (v := (-1)) d_Wd_make_141 rfl ?_
      refine Wx.cVv (q := E_Bd) (As := [.int x2, .int x9, .int (-1)]) 1 (d - 1) 0 0 _ d_Wd_make_142 mok_Bd_show vl_Wd_218 rfl rfl rfl (Nat.le_of_ble_eq_true rfl) (by omega) (Nat.zero_le _) (Nat.zero_le _) (s_35 hS h7) hF (fun μ2 hS hF => ?_)
      refine Wa.iinc (i := 9) (j := 5) (v := (x9 + 1)) (L' := [(9, .int (x9 + 1)), (0, .ref (hd 29 i0)), (1, .int x1), (2, .int x2), (6, .int x6), (7, .ref (hd 35 i7))]) d_Wd_make_145 rfl rfl (by decide) rfl ?_
      refine Wa.goto 113 d_Wd_make_148 (by decide) ?_
      exact Wa.loc [1, 2, 3, 4, 5, 0] rfl hF
    · have hF := hF.1 hb
      refine Wa.iload (j := 3) d_Wd_make_136 rfl ?_
      refine Wa.goto 142 d_Wd_make_138 (by decide) ?_
      refine Wx.cVv (q := E_Bd) (As := [.int x2, .int x9, .int x6]) 1 (d - 1) 0 0 _ d_Wd_make_142 mok_Bd_show vl_Wd_218 rfl rfl rfl (Nat.le_of_ble_eq_true rfl) (by omega) (Nat.zero_le _) (Nat.zero_le _) (s_35 hS h7) hF (fun μ3 hS hF => ?_)
      refine Wa.iinc (i := 9) (j := 5) (v := (x9 + 1)) (L' := [(9, .int (x9 + 1)), (0, .ref (hd 29 i0)), (1, .int x1), (2, .int x2), (6, .int x6), (7, .ref (hd 35 i7))]) d_Wd_make_145 rfl rfl (by decide) rfl ?_
      refine Wa.goto 113 d_Wd_make_148 (by decide) ?_
      exact Wa.loc [1, 2, 3, 4, 5, 0] rfl hF
set_option maxHeartbeats 4000000 in
set_option maxRecDepth 20000 in
theorem g_Wd_carry_0 {d rc rs : Nat} {Q : Option Value → Mu → Prop} {μ : Mu} {i0 : Nat} {x1 : Int32} (hD : 1 ≤ d) (h0 : i0 < 2) (hS : St μ)
    (hF : (vp_in x1 8 ∧ (vp_in (mI μ (hd 27 (8 * i0 + x1.toNatClampNeg)) 1) 5 ∧ Wx K_Wd_carry d rc rs Q 23 [(0, .ref (hd 29 i0)), (2, .ref (hd 27 (8 * i0 + x1.toNatClampNeg))), (3, .ref (hd 35 (5 * i0 + (mI μ (hd 27 (8 * i0 + x1.toNatClampNeg)) 1).toNatClampNeg))), (4, .int 0), (5, .int 0)] [] μ))) : Wx K_Wd_carry d rc rs Q 0 [(0, .ref (hd 29 i0)), (1, .int x1)] [] μ := by
  refine Wa.aload_n (j := 0) d_Wd_carry_0 rfl ?_
  refine Wx.getR 10 2 d_Wd_carry_1 f_Wd_2 rfl fl_Wd_25 (s_29 hS h0) (r_29_2 hS h0) ?_
  refine Wa.iload_n (j := 1) d_Wd_carry_4 rfl ?_
  have hc1 := hF.1
  have hF := hF.2
  have hlhc1 := vp_in_lt hc1
  have hb2 : (8 * i0 + x1.toNatClampNeg) < 32 := by have : i0 < 2 := h0; omega
  refine Wa.aald (t := 7) (q := E_Rd) d_Wd_carry_5 rfl (s_32 hS h0) hc1 (a_32 hS h0 hlhc1) ?_
  refine Wa.astore_n (i := 2) (L' := [(2, .ref (hd 27 (8 * i0 + x1.toNatClampNeg))), (0, .ref (hd 29 i0)), (1, .int x1)]) d_Wd_carry_6 rfl (by decide) rfl ?_
  refine Wa.aload_n (j := 1) d_Wd_carry_7 rfl ?_
  refine Wx.getR 10 1 d_Wd_carry_8 f_Wd_1 rfl fl_Wd_19 (s_29 hS h0) (r_29_1 hS h0) ?_
  refine Wa.aload_n (j := 0) d_Wd_carry_11 rfl ?_
  refine Wx.getI 7 1 d_Wd_carry_12 f_Rd_1 fl_Wd_129 w_27 (s_27 hS hb2) ?_
  have hc3 := hF.1
  have hF := hF.2
  have hlhc3 := vp_in_lt hc3
  have hb4 : (5 * i0 + (mI μ (hd 27 (8 * i0 + x1.toNatClampNeg)) 1).toNatClampNeg) < 10 := by have : i0 < 2 := h0; omega
  refine Wa.aald (t := 1) (q := E_Bd) d_Wd_carry_15 rfl (s_31 hS h0) hc3 (a_31 hS h0 hlhc3) ?_
  refine Wa.astore_n (i := 3) (L' := [(3, .ref (hd 35 (5 * i0 + (mI μ (hd 27 (8 * i0 + x1.toNatClampNeg)) 1).toNatClampNeg))), (2, .ref (hd 27 (8 * i0 + x1.toNatClampNeg))), (0, .ref (hd 29 i0)), (1, .int x1)]) d_Wd_carry_16 rfl (by decide) rfl ?_
  refine Wa.iconst (v := 0) d_Wd_carry_17 rfl ?_
  refine Wa.istore (i := 4) (L' := [(4, .int 0), (3, .ref (hd 35 (5 * i0 + (mI μ (hd 27 (8 * i0 + x1.toNatClampNeg)) 1).toNatClampNeg))), (2, .ref (hd 27 (8 * i0 + x1.toNatClampNeg))), (0, .ref (hd 29 i0)), (1, .int x1)]) d_Wd_carry_18 (by decide) rfl ?_
  refine Wa.iconst (v := 0) d_Wd_carry_20 rfl ?_
  refine Wa.istore (i := 5) (L' := [(5, .int 0), (4, .int 0), (3, .ref (hd 35 (5 * i0 + (mI μ (hd 27 (8 * i0 + x1.toNatClampNeg)) 1).toNatClampNeg))), (2, .ref (hd 27 (8 * i0 + x1.toNatClampNeg))), (0, .ref (hd 29 i0)), (1, .int x1)]) d_Wd_carry_21 (by decide) rfl ?_
  exact Wa.loc [4, 3, 2, 1, 0] rfl hF
theorem e_Wd_carry {d rc rs : Nat} {Q : Option Value → Mu → Prop} {μ : Mu} {i0 : Nat} {x1 : Int32} (hk : Wx K_Wd_carry d rc rs (fun r μ' => St μ' ∧ Q r μ') 0 [(0, .ref (hd 29 i0)), (1, .int x1)] [] μ) : Cal K_Wd_carry d rc rs [.ref (hd 29 i0), .int x1] μ Q := Cal.of (by decide +kernel) rfl rfl (Nat.le_of_ble_eq_true rfl) rfl hk
set_option maxHeartbeats 4000000 in
set_option maxRecDepth 20000 in
theorem g_Wd_carry_23 {d rc rs : Nat} {Q : Option Value → Mu → Prop} {μ : Mu} {i0 : Nat} {i2 : Nat} {i3 : Nat} {x4 : Int32} {x5 : Int32} (hD : 1 ≤ d) (h0 : i0 < 2) (h2 : i2 < 32) (h3 : i3 < 10) (hS : St μ)
    (hF : (((mI μ (hd 29 i0) 5) ≤ x5 → ((x4 ≤ 0 → Q (some (.int x4)) μ) ∧ (¬ x4 ≤ 0 → Q (some (.int x4)) (setI μ (hd 27 i2) 4 ((mI μ (hd 27 i2) 4) + (1 : Int32)))))) ∧ (¬ (mI μ (hd 29 i0) 5) ≤ x5 → (vp_in x5 60 ∧ (((mI μ (hd 28 i2) x5.toNatClampNeg) = (-1) → (vp_in x5 60 ∧ (Cal K_Bd_has (d - 1) 0 0 [.ref (hd 35 i3), .ref (hd 33 (60 * i0 + x5.toNatClampNeg))] μ (fun r μ4 => ∃ y5, r = some (.int y5) ∧ ((y5 = 0 → Wx K_Wd_carry d rc rs Q 23 [(0, .ref (hd 29 i0)), (2, .ref (hd 27 i2)), (3, .ref (hd 35 i3)), (4, .int x4), (5, .int (x5 + 1))] [] μ4) ∧ (¬ y5 = 0 → (vp_in x5 60 ∧ Wx K_Wd_carry d rc rs Q 23 [(0, .ref (hd 29 i0)), (2, .ref (hd 27 i2)), (3, .ref (hd 35 i3)), (4, .int (x4 + 1)), (5, .int (x5 + 1))] [] (setI μ4 (hd 28 i2) x5.toNatClampNeg ((mI μ4 (hd 29 i0) 4) + (mI μ4 (hd 27 i2) 3)))))))))) ∧ (¬ (mI μ (hd 28 i2) x5.toNatClampNeg) = (-1) → Wx K_Wd_carry d rc rs Q 23 [(0, .ref (hd 29 i0)), (2, .ref (hd 27 i2)), (3, .ref (hd 35 i3)), (4, .int x4), (5, .int (x5 + 1))] [] μ)))))) : Wx K_Wd_carry d rc rs Q 23 [(0, .ref (hd 29 i0)), (2, .ref (hd 27 i2)), (3, .ref (hd 35 i3)), (4, .int x4), (5, .int x5)] [] μ := by
  refine Wa.iload (j := 4) d_Wd_carry_23 rfl ?_
  refine Wa.aload_n (j := 0) d_Wd_carry_25 rfl ?_
  refine Wx.getI 10 5 d_Wd_carry_26 f_Wd_5 fl_Wd_33 w_29 (s_29 hS h0) ?_
  refine Wa.icmp_ge 82 d_Wd_carry_29 (by decide) (fun hb => ?_) (fun hb => ?_)
  · have hF := hF.1 hb
    refine Wa.iload (j := 3) d_Wd_carry_82 rfl ?_
    refine Wa.if_le 97 d_Wd_carry_84 (by decide) (fun hb => ?_) (fun hb => ?_)
    · have hF := hF.1 hb
      refine Wa.iload (j := 3) d_Wd_carry_97 rfl ?_
      exact Wx.reti d_Wd_carry_99 rfl hF
    · have hF := hF.2 hb
      refine Wa.aload_n (j := 1) d_Wd_carry_87 rfl ?_
      refine Wa.dup d_Wd_carry_88 rfl ?_
      refine Wx.getI 7 4 d_Wd_carry_89 f_Rd_4 fl_Wd_142 w_27 (s_27 hS h2) ?_
      refine Wa.iconst (v := 1) d_Wd_carry_92 rfl ?_
      refine Wa.iadd d_Wd_carry_93 ?_
      refine Wx.putI 7 4 d_Wd_carry_94 f_Rd_4 ok_Rd fl_Wd_142 (Or.inl rfl) w_27 (s_27 hS h2) ?_
      refine Wa.iload (j := 3) d_Wd_carry_97 rfl ?_
      exact Wx.reti d_Wd_carry_99 rfl hF
  · have hF := hF.2 hb
    refine Wa.aload_n (j := 1) d_Wd_carry_32 rfl ?_
    refine Wx.getR 7 0 d_Wd_carry_33 f_Rd_0 rfl fl_Wd_157 (s_27 hS h2) (r_27_0 hS h2) ?_
    refine Wa.iload (j := 4) d_Wd_carry_36 rfl ?_
    have hc1 := hF.1
    have hF := hF.2
    have hlhc1 := vp_in_lt hc1
    refine Wx.iald d_Wd_carry_38 w_28 (s_28 hS h2) hc1 ?_
    refine Wa.iconst (v := (-1)) d_Wd_carry_39 rfl ?_
    refine Wa.icmp_ne 76 d_Wd_carry_40 (by decide) (fun hb => ?_) (fun hb => ?_)
    · have hF := hF.2 hb
      refine Wa.iinc (i := 5) (j := 4) (v := (x5 + 1)) (L' := [(5, .int (x5 + 1)), (0, .ref (hd 29 i0)), (2, .ref (hd 27 i2)), (3, .ref (hd 35 i3)), (4, .int x4)]) d_Wd_carry_76 rfl rfl (by decide) rfl ?_
      refine Wa.goto 23 d_Wd_carry_79 (by decide) ?_
      exact Wa.loc [1, 2, 3, 4, 0] rfl hF
    · have hF := hF.1 hb
      refine Wa.aload_n (j := 2) d_Wd_carry_43 rfl ?_
      refine Wa.aload_n (j := 0) d_Wd_carry_44 rfl ?_
      refine Wx.getR 10 0 d_Wd_carry_45 f_Wd_0 rfl fl_Wd_11 (s_29 hS h0) (r_29_0 hS h0) ?_
      refine Wa.iload (j := 4) d_Wd_carry_48 rfl ?_
      have hc2 := hF.1
      have hF := hF.2
      have hlhc2 := vp_in_lt hc2
      have hb3 : (60 * i0 + x5.toNatClampNeg) < 120 := by have : i0 < 2 := h0; omega
      refine Wa.aald (t := 8) (q := E_Sh) d_Wd_carry_50 rfl (s_30 hS h0) hc2 (a_30 hS h0 hlhc2) ?_
      refine Wx.cVi (q := E_Bd) (As := [.ref (hd 33 (60 * i0 + x5.toNatClampNeg))]) 1 (d - 1) 0 0 _ d_Wd_carry_51 mok_Bd_has vl_Wd_145 rfl rfl rfl (Nat.le_of_ble_eq_true rfl) (by omega) (Nat.zero_le _) (Nat.zero_le _) (s_35 hS h3) hF (fun y5 μ4 hS hF => ?_)
      refine Wa.if_eq 76 d_Wd_carry_54 (by decide) (fun hb => ?_) (fun hb => ?_)
      · have hF := hF.1 hb
        refine Wa.iinc (i := 5) (j := 4) (v := (x5 + 1)) (L' := [(5, .int (x5 + 1)), (0, .ref (hd 29 i0)), (2, .ref (hd 27 i2)), (3, .ref (hd 35 i3)), (4, .int x4)]) d_Wd_carry_76 rfl rfl (by decide) rfl ?_
        refine Wa.goto 23 d_Wd_carry_79 (by decide) ?_
        exact Wa.loc [1, 2, 3, 4, 0] rfl hF
      · have hF := hF.2 hb
        refine Wa.aload_n (j := 1) d_Wd_carry_57 rfl ?_
        refine Wx.getR 7 0 d_Wd_carry_58 f_Rd_0 rfl fl_Wd_157 (s_27 hS h2) (r_27_0 hS h2) ?_
        refine Wa.iload (j := 4) d_Wd_carry_61 rfl ?_
        refine Wa.aload_n (j := 0) d_Wd_carry_63 rfl ?_
        refine Wx.getI 10 4 d_Wd_carry_64 f_Wd_4 fl_Wd_29 w_29 (s_29 hS h0) ?_
        refine Wa.aload_n (j := 1) d_Wd_carry_67 rfl ?_
        refine Wx.getI 7 3 d_Wd_carry_68 f_Rd_3 fl_Wd_135 w_27 (s_27 hS h2) ?_
        refine Wa.iadd d_Wd_carry_71 ?_
        have hc6 := hF.1
        have hF := hF.2
        have hlhc6 := vp_in_lt hc6
        refine Wa.iast d_Wd_carry_72 w_28 (s_28 hS h2) hc6 ?_
        refine Wa.iinc (i := 4) (j := 3) (v := (x4 + 1)) (L' := [(4, .int (x4 + 1)), (0, .ref (hd 29 i0)), (2, .ref (hd 27 i2)), (3, .ref (hd 35 i3)), (5, .int x5)]) d_Wd_carry_73 rfl rfl (by decide) rfl ?_
        refine Wa.iinc (i := 5) (j := 4) (v := (x5 + 1)) (L' := [(5, .int (x5 + 1)), (4, .int (x4 + 1)), (0, .ref (hd 29 i0)), (2, .ref (hd 27 i2)), (3, .ref (hd 35 i3))]) d_Wd_carry_76 rfl rfl (by decide) rfl ?_
        refine Wa.goto 23 d_Wd_carry_79 (by decide) ?_
        exact Wa.loc [2, 3, 4, 1, 0] rfl hF
set_option maxHeartbeats 4000000 in
set_option maxRecDepth 20000 in
theorem g_Wd_passDays_0 {d rc rs : Nat} {Q : Option Value → Mu → Prop} {μ : Mu} {i0 : Nat} {x1 : Int32} (hD : 1 ≤ d) (h0 : i0 < 2) (hS : St μ)
    (hF : Wx K_Wd_passDays d rc rs Q 2 [(0, .ref (hd 29 i0)), (1, .int x1), (2, .int 0)] [] μ) : Wx K_Wd_passDays d rc rs Q 0 [(0, .ref (hd 29 i0)), (1, .int x1)] [] μ := by
  refine Wa.iconst (v := 0) d_Wd_passDays_0 rfl ?_
  refine Wa.istore_n (i := 2) (L' := [(2, .int 0), (0, .ref (hd 29 i0)), (1, .int x1)]) d_Wd_passDays_1 rfl (by decide) rfl ?_
  exact Wa.loc [1, 2, 0] rfl hF
theorem e_Wd_passDays {d rc rs : Nat} {Q : Option Value → Mu → Prop} {μ : Mu} {i0 : Nat} {x1 : Int32} (hk : Wx K_Wd_passDays d rc rs (fun r μ' => St μ' ∧ Q r μ') 0 [(0, .ref (hd 29 i0)), (1, .int x1)] [] μ) : Cal K_Wd_passDays d rc rs [.ref (hd 29 i0), .int x1] μ Q := Cal.of (by decide +kernel) rfl rfl (Nat.le_of_ble_eq_true rfl) rfl hk
set_option maxHeartbeats 4000000 in
set_option maxRecDepth 20000 in
theorem g_Wd_passDays_2 {d rc rs : Nat} {Q : Option Value → Mu → Prop} {μ : Mu} {i0 : Nat} {x1 : Int32} {x2 : Int32} (hD : 1 ≤ d) (h0 : i0 < 2) (hS : St μ)
    (hF : ((x1 ≤ x2 → Q none μ) ∧ (¬ x1 ≤ x2 → Wx K_Wd_passDays d rc rs Q 9 [(0, .ref (hd 29 i0)), (1, .int x1), (2, .int x2), (3, .int 0)] [] μ))) : Wx K_Wd_passDays d rc rs Q 2 [(0, .ref (hd 29 i0)), (1, .int x1), (2, .int x2)] [] μ := by
  refine Wa.iload_n (j := 2) d_Wd_passDays_2 rfl ?_
  refine Wa.iload_n (j := 1) d_Wd_passDays_3 rfl ?_
  refine Wa.icmp_ge 130 d_Wd_passDays_4 (by decide) (fun hb => ?_) (fun hb => ?_)
  · have hF := hF.1 hb
    exact Wx.retv d_Wd_passDays_130 rfl hF
  · have hF := hF.2 hb
    refine Wa.iconst (v := 0) d_Wd_passDays_7 rfl ?_
    refine Wa.istore_n (i := 3) (L' := [(3, .int 0), (0, .ref (hd 29 i0)), (1, .int x1), (2, .int x2)]) d_Wd_passDays_8 rfl (by decide) rfl ?_
    exact Wa.loc [1, 2, 3, 0] rfl hF
set_option maxHeartbeats 4000000 in
set_option maxRecDepth 20000 in
theorem g_Wd_passDays_9 {d rc rs : Nat} {Q : Option Value → Mu → Prop} {μ : Mu} {i0 : Nat} {x1 : Int32} {x2 : Int32} {x3 : Int32} (hD : 1 ≤ d) (h0 : i0 < 2) (hS : St μ)
    (hF : (((mI μ (hd 18 (px μ (hd 29 i0) 3)) 6) ≤ x3 → Wx K_Wd_passDays d rc rs Q 58 [(0, .ref (hd 29 i0)), (1, .int x1), (2, .int x2), (3, .int 0)] [] μ) ∧ (¬ (mI μ (hd 18 (px μ (hd 29 i0) 3)) 6) ≤ x3 → (vp_in x3 21 ∧ (Cal K_Wd_carriesOut (d - 1) 0 0 [.ref (hd 29 i0), .ref (hd 26 (21 * (px μ (hd 29 i0) 3) + x3.toNatClampNeg))] μ (fun r μ5 => ∃ y6, r = some (.int y6) ∧ ((y6 = 0 → Wx K_Wd_passDays d rc rs Q 9 [(0, .ref (hd 29 i0)), (1, .int x1), (2, .int x2), (3, .int (x3 + 1))] [] (setI μ5 (hd 29 i0) 7 ((mI μ (hd 29 i0) 7) + (0 : Int32)))) ∧ (¬ y6 = 0 → Wx K_Wd_passDays d rc rs Q 9 [(0, .ref (hd 29 i0)), (1, .int x1), (2, .int x2), (3, .int (x3 + 1))] [] (setI μ5 (hd 29 i0) 7 ((mI μ (hd 29 i0) 7) + (1 : Int32))))))))))) : Wx K_Wd_passDays d rc rs Q 9 [(0, .ref (hd 29 i0)), (1, .int x1), (2, .int x2), (3, .int x3)] [] μ := by
  refine Wa.iload_n (j := 3) d_Wd_passDays_9 rfl ?_
  refine Wa.aload_n (j := 0) d_Wd_passDays_10 rfl ?_
  have hp1 := d_29_3 (i := i0) hS h0
  refine Wx.getR 10 3 d_Wd_passDays_11 f_Wd_3 rfl fl_Wd_42 (s_29 hS h0) (hp1.1) ?_
  refine Wx.getI 6 6 d_Wd_passDays_14 f_Pl_6 fl_Wd_74 w_18 (s_18 hS hp1.2) ?_
  refine Wa.icmp_ge 56 d_Wd_passDays_17 (by decide) (fun hb => ?_) (fun hb => ?_)
  · have hF := hF.1 hb
    refine Wa.iconst (v := 0) d_Wd_passDays_56 rfl ?_
    refine Wa.istore_n (i := 3) (L' := [(3, .int 0), (0, .ref (hd 29 i0)), (1, .int x1), (2, .int x2)]) d_Wd_passDays_57 rfl (by decide) rfl ?_
    exact Wa.loc [1, 2, 3, 0] rfl hF
  · have hF := hF.2 hb
    refine Wa.aload_n (j := 0) d_Wd_passDays_20 rfl ?_
    refine Wa.dup d_Wd_passDays_21 rfl ?_
    refine Wx.getI 10 7 d_Wd_passDays_22 f_Wd_7 fl_Wd_39 w_29 (s_29 hS h0) ?_
    refine Wa.aload_n (j := 0) d_Wd_passDays_25 rfl ?_
    refine Wa.aload_n (j := 0) d_Wd_passDays_26 rfl ?_
    have hp2 := d_29_3 (i := i0) hS h0
    refine Wx.getR 10 3 d_Wd_passDays_27 f_Wd_3 rfl fl_Wd_42 (s_29 hS h0) (hp2.1) ?_
    refine Wx.getR 6 2 d_Wd_passDays_30 f_Pl_2 rfl fl_Wd_222 (s_18 hS hp2.2) (r_18_2 hS hp2.2) ?_
    refine Wa.iload_n (j := 3) d_Wd_passDays_33 rfl ?_
    have hc3 := hF.1
    have hF := hF.2
    have hlhc3 := vp_in_lt hc3
    have hb4 : (21 * (px μ (hd 29 i0) 3) + x3.toNatClampNeg) < 42 := by have : (px μ (hd 29 i0) 3) < 2 := hp2.2; omega
    refine Wa.aald (t := 5) (q := E_Od) d_Wd_passDays_34 rfl (s_20 hS hp2.2) hc3 (a_20 hS hp2.2 hlhc3) ?_
    refine Wx.cVi (q := E_Wd) (As := [.ref (hd 26 (21 * (px μ (hd 29 i0) 3) + x3.toNatClampNeg))]) 10 (d - 1) 0 0 _ d_Wd_passDays_35 mok_Wd_carriesOut vl_Wd_226 rfl rfl rfl (Nat.le_of_ble_eq_true rfl) (by omega) (Nat.zero_le _) (Nat.zero_le _) (s_29 hS h0) hF (fun y6 μ5 hS hF => ?_)
    refine Wa.if_eq 45 d_Wd_passDays_38 (by decide) (fun hb => ?_) (fun hb => ?_)
    · have hF := hF.1 hb
      refine Wa.iconst (v := 0) d_Wd_passDays_45 rfl ?_
      refine Wa.iadd d_Wd_passDays_46 ?_
      refine Wx.putI 10 7 d_Wd_passDays_47 f_Wd_7 ok_Wd fl_Wd_39 (Or.inl rfl) w_29 (s_29 hS h0) ?_
      refine Wa.iinc (i := 3) (j := 3) (v := (x3 + 1)) (L' := [(3, .int (x3 + 1)), (0, .ref (hd 29 i0)), (1, .int x1), (2, .int x2)]) d_Wd_passDays_50 rfl rfl (by decide) rfl ?_
      refine Wa.goto 9 d_Wd_passDays_53 (by decide) ?_
      exact Wa.loc [1, 2, 3, 0] rfl hF
    · have hF := hF.2 hb
      refine Wa.iconst (v := 1) d_Wd_passDays_41 rfl ?_
      refine Wa.goto 46 d_Wd_passDays_42 (by decide) ?_
      refine Wa.iadd d_Wd_passDays_46 ?_
      refine Wx.putI 10 7 d_Wd_passDays_47 f_Wd_7 ok_Wd fl_Wd_39 (Or.inl rfl) w_29 (s_29 hS h0) ?_
      refine Wa.iinc (i := 3) (j := 3) (v := (x3 + 1)) (L' := [(3, .int (x3 + 1)), (0, .ref (hd 29 i0)), (1, .int x1), (2, .int x2)]) d_Wd_passDays_50 rfl rfl (by decide) rfl ?_
      refine Wa.goto 9 d_Wd_passDays_53 (by decide) ?_
      exact Wa.loc [1, 2, 3, 0] rfl hF
set_option maxHeartbeats 4000000 in
set_option maxRecDepth 20000 in
theorem g_Wd_passDays_58 {d rc rs : Nat} {Q : Option Value → Mu → Prop} {μ : Mu} {i0 : Nat} {x1 : Int32} {x2 : Int32} {x3 : Int32} (hD : 1 ≤ d) (h0 : i0 < 2) (hS : St μ)
    (hF : (((mI μ (hd 18 (px μ (hd 29 i0) 3)) 5) ≤ x3 → Wx K_Wd_passDays d rc rs Q 87 [(0, .ref (hd 29 i0)), (1, .int x1), (2, .int x2), (3, .int 0)] [] μ) ∧ (¬ (mI μ (hd 18 (px μ (hd 29 i0) 3)) 5) ≤ x3 → (vp_in x3 8 ∧ (Cal K_Wd_bringFrom (d - 1) 0 0 [.ref (hd 29 i0), .ref (hd 27 (8 * i0 + x3.toNatClampNeg))] μ (fun r μ4 => r = none ∧ Wx K_Wd_passDays d rc rs Q 58 [(0, .ref (hd 29 i0)), (1, .int x1), (2, .int x2), (3, .int (x3 + 1))] [] μ4)))))) : Wx K_Wd_passDays d rc rs Q 58 [(0, .ref (hd 29 i0)), (1, .int x1), (2, .int x2), (3, .int x3)] [] μ := by
  refine Wa.iload_n (j := 3) d_Wd_passDays_58 rfl ?_
  refine Wa.aload_n (j := 0) d_Wd_passDays_59 rfl ?_
  have hp1 := d_29_3 (i := i0) hS h0
  refine Wx.getR 10 3 d_Wd_passDays_60 f_Wd_3 rfl fl_Wd_42 (s_29 hS h0) (hp1.1) ?_
  refine Wx.getI 6 5 d_Wd_passDays_63 f_Pl_5 fl_Wd_52 w_18 (s_18 hS hp1.2) ?_
  refine Wa.icmp_ge 85 d_Wd_passDays_66 (by decide) (fun hb => ?_) (fun hb => ?_)
  · have hF := hF.1 hb
    refine Wa.iconst (v := 0) d_Wd_passDays_85 rfl ?_
    refine Wa.istore_n (i := 3) (L' := [(3, .int 0), (0, .ref (hd 29 i0)), (1, .int x1), (2, .int x2)]) d_Wd_passDays_86 rfl (by decide) rfl ?_
    exact Wa.loc [1, 2, 3, 0] rfl hF
  · have hF := hF.2 hb
    refine Wa.aload_n (j := 0) d_Wd_passDays_69 rfl ?_
    refine Wa.aload_n (j := 0) d_Wd_passDays_70 rfl ?_
    refine Wx.getR 10 2 d_Wd_passDays_71 f_Wd_2 rfl fl_Wd_25 (s_29 hS h0) (r_29_2 hS h0) ?_
    refine Wa.iload_n (j := 3) d_Wd_passDays_74 rfl ?_
    have hc2 := hF.1
    have hF := hF.2
    have hlhc2 := vp_in_lt hc2
    have hb3 : (8 * i0 + x3.toNatClampNeg) < 32 := by have : i0 < 2 := h0; omega
    refine Wa.aald (t := 7) (q := E_Rd) d_Wd_passDays_75 rfl (s_32 hS h0) hc2 (a_32 hS h0 hlhc2) ?_
    refine Wx.cVv (q := E_Wd) (As := [.ref (hd 27 (8 * i0 + x3.toNatClampNeg))]) 10 (d - 1) 0 0 _ d_Wd_passDays_76 mok_Wd_bringFrom vl_Wd_230 rfl rfl rfl (Nat.le_of_ble_eq_true rfl) (by omega) (Nat.zero_le _) (Nat.zero_le _) (s_29 hS h0) hF (fun μ4 hS hF => ?_)
    refine Wa.iinc (i := 3) (j := 3) (v := (x3 + 1)) (L' := [(3, .int (x3 + 1)), (0, .ref (hd 29 i0)), (1, .int x1), (2, .int x2)]) d_Wd_passDays_79 rfl rfl (by decide) rfl ?_
    refine Wa.goto 58 d_Wd_passDays_82 (by decide) ?_
    exact Wa.loc [1, 2, 3, 0] rfl hF
set_option maxHeartbeats 4000000 in
set_option maxRecDepth 20000 in
theorem g_Wd_passDays_87 {d rc rs : Nat} {Q : Option Value → Mu → Prop} {μ : Mu} {i0 : Nat} {x1 : Int32} {x2 : Int32} {x3 : Int32} (hD : 1 ≤ d) (h0 : i0 < 2) (hS : St μ)
    (hF : (((mI μ (hd 18 (px μ (hd 29 i0) 3)) 3) ≤ x3 → Wx K_Wd_passDays d rc rs Q 2 [(0, .ref (hd 29 i0)), (1, .int x1), (2, .int (x2 + 1))] [] (setI μ (hd 29 i0) 4 ((mI μ (hd 29 i0) 4) + (1 : Int32)))) ∧ (¬ (mI μ (hd 18 (px μ (hd 29 i0) 3)) 3) ≤ x3 → (vp_in x3 5 ∧ (Cal K_Wd_hangOn (d - 1) 0 0 [.ref (hd 29 i0), .ref (hd 35 (5 * i0 + x3.toNatClampNeg))] μ (fun r μ4 => r = none ∧ Wx K_Wd_passDays d rc rs Q 87 [(0, .ref (hd 29 i0)), (1, .int x1), (2, .int x2), (3, .int (x3 + 1))] [] μ4)))))) : Wx K_Wd_passDays d rc rs Q 87 [(0, .ref (hd 29 i0)), (1, .int x1), (2, .int x2), (3, .int x3)] [] μ := by
  refine Wa.iload_n (j := 3) d_Wd_passDays_87 rfl ?_
  refine Wa.aload_n (j := 0) d_Wd_passDays_88 rfl ?_
  have hp1 := d_29_3 (i := i0) hS h0
  refine Wx.getR 10 3 d_Wd_passDays_89 f_Wd_3 rfl fl_Wd_42 (s_29 hS h0) (hp1.1) ?_
  refine Wx.getI 6 3 d_Wd_passDays_92 f_Pl_3 fl_Wd_65 w_18 (s_18 hS hp1.2) ?_
  refine Wa.icmp_ge 114 d_Wd_passDays_95 (by decide) (fun hb => ?_) (fun hb => ?_)
  · have hF := hF.1 hb
    refine Wa.aload_n (j := 0) d_Wd_passDays_114 rfl ?_
    refine Wa.dup d_Wd_passDays_115 rfl ?_
    refine Wx.getI 10 4 d_Wd_passDays_116 f_Wd_4 fl_Wd_29 w_29 (s_29 hS h0) ?_
    refine Wa.iconst (v := 1) d_Wd_passDays_119 rfl ?_
    refine Wa.iadd d_Wd_passDays_120 ?_
    refine Wx.putI 10 4 d_Wd_passDays_121 f_Wd_4 ok_Wd fl_Wd_29 (Or.inl rfl) w_29 (s_29 hS h0) ?_
    refine Wa.iinc (i := 2) (j := 2) (v := (x2 + 1)) (L' := [(2, .int (x2 + 1)), (0, .ref (hd 29 i0)), (1, .int x1), (3, .int x3)]) d_Wd_passDays_124 rfl rfl (by decide) rfl ?_
    refine Wa.goto 2 d_Wd_passDays_127 (by decide) ?_
    exact Wa.loc [1, 2, 0] rfl hF
  · have hF := hF.2 hb
    refine Wa.aload_n (j := 0) d_Wd_passDays_98 rfl ?_
    refine Wa.aload_n (j := 0) d_Wd_passDays_99 rfl ?_
    refine Wx.getR 10 1 d_Wd_passDays_100 f_Wd_1 rfl fl_Wd_19 (s_29 hS h0) (r_29_1 hS h0) ?_
    refine Wa.iload_n (j := 3) d_Wd_passDays_103 rfl ?_
    have hc2 := hF.1
    have hF := hF.2
    have hlhc2 := vp_in_lt hc2
    have hb3 : (5 * i0 + x3.toNatClampNeg) < 10 := by have : i0 < 2 := h0; omega
    refine Wa.aald (t := 1) (q := E_Bd) d_Wd_passDays_104 rfl (s_31 hS h0) hc2 (a_31 hS h0 hlhc2) ?_
    refine Wx.cVv (q := E_Wd) (As := [.ref (hd 35 (5 * i0 + x3.toNatClampNeg))]) 10 (d - 1) 0 0 _ d_Wd_passDays_105 mok_Wd_hangOn vl_Wd_233 rfl rfl rfl (Nat.le_of_ble_eq_true rfl) (by omega) (Nat.zero_le _) (Nat.zero_le _) (s_29 hS h0) hF (fun μ4 hS hF => ?_)
    refine Wa.iinc (i := 3) (j := 3) (v := (x3 + 1)) (L' := [(3, .int (x3 + 1)), (0, .ref (hd 29 i0)), (1, .int x1), (2, .int x2)]) d_Wd_passDays_108 rfl rfl (by decide) rfl ?_
    refine Wa.goto 87 d_Wd_passDays_111 (by decide) ?_
    exact Wa.loc [1, 2, 3, 0] rfl hF
set_option maxHeartbeats 4000000 in
set_option maxRecDepth 20000 in
theorem g_Wd_carriesOut_0 {d rc rs : Nat} {Q : Option Value → Mu → Prop} {μ : Mu} {i0 : Nat} {i1 : Nat} (hD : 1 ≤ d) (h0 : i0 < 2) (h1 : i1 < 42) (hS : St μ)
    (hF : (Cal K_Od_hasTest (d - 1) 0 0 [.ref (hd 26 i1)] μ (fun r μ1 => ∃ y2, r = some (.int y2) ∧ ((y2 = 0 → (((px μ1 (hd 26 i1) 0) = 9 → (Cal K_Wd_carry (d - 1) 0 0 [.ref (hd 29 i0), .int (mI μ1 (hd 26 i1) 4)] μ1 (fun r μ21 => ∃ y22, r = some (.int y22) ∧ ((y22 ≤ 0 → Q (some (.int 0)) μ21) ∧ (¬ y22 ≤ 0 → Q (some (.int 1)) μ21))))) ∧ (¬ (px μ1 (hd 26 i1) 0) = 9 → (Cal K_Wd_isFull (d - 1) 0 0 [.ref (hd 29 i0)] μ1 (fun r μ4 => ∃ y5, r = some (.int y5) ∧ ((y5 = 0 → (((px μ4 (hd 26 i1) 0) = 8 → (Cal K_Wd_canMerge (d - 1) 0 0 [.ref (hd 29 i0), .int (mI μ4 (hd 26 i1) 2), .int (mI μ4 (hd 26 i1) 3)] μ4 (fun r μ17 => ∃ y18, r = some (.int y18) ∧ ((y18 = 0 → Q (some (.int 0)) μ17) ∧ (¬ y18 = 0 → (Cal K_Wd_makeMerged (d - 1) 0 0 [.ref (hd 29 i0), .int (mI μ17 (hd 26 i1) 2), .int (mI μ17 (hd 26 i1) 3), .int (mI μ17 (hd 26 i1) 5)] μ17 (fun r μ19 => ∃ y20, r = some (.int y20) ∧ ((y20 = (-1) → Q (some (.int 0)) μ19) ∧ (¬ y20 = (-1) → Q (some (.int 1)) μ19))))))))) ∧ (¬ (px μ4 (hd 26 i1) 0) = 8 → (Cal K_Cd_reckon (d - 1) 0 0 [.ref (hd 21 (px μ4 (hd 29 i0) 3)), .int (mI μ4 (hd 26 i1) 6), .int (mI μ4 (hd 26 i1) 7), .ref (hd 29 i0)] μ4 (fun r μ8 => ∃ y9, r = some (.int y9) ∧ (((px μ8 (hd 26 i1) 0) = 7 → (Cal K_Wd_isNewMark (d - 1) 0 0 [.ref (hd 29 i0), .int (mI μ8 (hd 26 i1) 2), .int (mI μ8 (hd 26 i1) 3), .int y9] μ8 (fun r μ13 => ∃ y14, r = some (.int y14) ∧ ((y14 = 0 → Q (some (.int 0)) μ13) ∧ (¬ y14 = 0 → (Cal K_Wd_makeNoted (d - 1) 0 0 [.ref (hd 29 i0), .int (mI μ13 (hd 26 i1) 2), .int (mI μ13 (hd 26 i1) 3), .int y9] μ13 (fun r μ15 => ∃ y16, r = some (.int y16) ∧ ((y16 = (-1) → Q (some (.int 0)) μ15) ∧ (¬ y16 = (-1) → Q (some (.int 1)) μ15))))))))) ∧ (¬ (px μ8 (hd 26 i1) 0) = 7 → (Cal K_Wd_makeWritten (d - 1) 0 0 [.ref (hd 29 i0), .int (mI μ8 (hd 26 i1) 2), .int (mI μ8 (hd 26 i1) 3), .int (imax 0 (imin y9 9999))] μ8 (fun r μ11 => ∃ y12, r = some (.int y12) ∧ ((y12 = (-1) → Q (some (.int 0)) μ11) ∧ (¬ y12 = (-1) → Q (some (.int 1)) μ11))))))))))) ∧ (¬ y5 = 0 → Q (some (.int 0)) μ4))))))) ∧ (¬ y2 = 0 → (Cal K_Cd_reckon (d - 1) 0 0 [.ref (hd 21 (px μ1 (hd 29 i0) 3)), .int (mI μ1 (hd 26 i1) 7), .int (mI μ1 (hd 26 i1) 8), .ref (hd 29 i0)] μ1 (fun r μ24 => ∃ y25, r = some (.int y25) ∧ ((y25 = 0 → Q (some (.int 0)) μ24) ∧ (¬ y25 = 0 → (((px μ24 (hd 26 i1) 0) = 9 → (Cal K_Wd_carry (d - 1) 0 0 [.ref (hd 29 i0), .int (mI μ24 (hd 26 i1) 4)] μ24 (fun r μ44 => ∃ y45, r = some (.int y45) ∧ ((y45 ≤ 0 → Q (some (.int 0)) μ44) ∧ (¬ y45 ≤ 0 → Q (some (.int 1)) μ44))))) ∧ (¬ (px μ24 (hd 26 i1) 0) = 9 → (Cal K_Wd_isFull (d - 1) 0 0 [.ref (hd 29 i0)] μ24 (fun r μ27 => ∃ y28, r = some (.int y28) ∧ ((y28 = 0 → (((px μ27 (hd 26 i1) 0) = 8 → (Cal K_Wd_canMerge (d - 1) 0 0 [.ref (hd 29 i0), .int (mI μ27 (hd 26 i1) 2), .int (mI μ27 (hd 26 i1) 3)] μ27 (fun r μ40 => ∃ y41, r = some (.int y41) ∧ ((y41 = 0 → Q (some (.int 0)) μ40) ∧ (¬ y41 = 0 → (Cal K_Wd_makeMerged (d - 1) 0 0 [.ref (hd 29 i0), .int (mI μ40 (hd 26 i1) 2), .int (mI μ40 (hd 26 i1) 3), .int (mI μ40 (hd 26 i1) 5)] μ40 (fun r μ42 => ∃ y43, r = some (.int y43) ∧ ((y43 = (-1) → Q (some (.int 0)) μ42) ∧ (¬ y43 = (-1) → Q (some (.int 1)) μ42))))))))) ∧ (¬ (px μ27 (hd 26 i1) 0) = 8 → (Cal K_Cd_reckon (d - 1) 0 0 [.ref (hd 21 (px μ27 (hd 29 i0) 3)), .int (mI μ27 (hd 26 i1) 6), .int (mI μ27 (hd 26 i1) 7), .ref (hd 29 i0)] μ27 (fun r μ31 => ∃ y32, r = some (.int y32) ∧ (((px μ31 (hd 26 i1) 0) = 7 → (Cal K_Wd_isNewMark (d - 1) 0 0 [.ref (hd 29 i0), .int (mI μ31 (hd 26 i1) 2), .int (mI μ31 (hd 26 i1) 3), .int y32] μ31 (fun r μ36 => ∃ y37, r = some (.int y37) ∧ ((y37 = 0 → Q (some (.int 0)) μ36) ∧ (¬ y37 = 0 → (Cal K_Wd_makeNoted (d - 1) 0 0 [.ref (hd 29 i0), .int (mI μ36 (hd 26 i1) 2), .int (mI μ36 (hd 26 i1) 3), .int y32] μ36 (fun r μ38 => ∃ y39, r = some (.int y39) ∧ ((y39 = (-1) → Q (some (.int 0)) μ38) ∧ (¬ y39 = (-1) → Q (some (.int 1)) μ38))))))))) ∧ (¬ (px μ31 (hd 26 i1) 0) = 7 → (Cal K_Wd_makeWritten (d - 1) 0 0 [.ref (hd 29 i0), .int (mI μ31 (hd 26 i1) 2), .int (mI μ31 (hd 26 i1) 3), .int (imax 0 (imin y32 9999))] μ31 (fun r μ34 => ∃ y35, r = some (.int y35) ∧ ((y35 = (-1) → Q (some (.int 0)) μ34) ∧ (¬ y35 = (-1) → Q (some (.int 1)) μ34))))))))))) ∧ (¬ y28 = 0 → Q (some (.int 0)) μ27))))))))))))))) : Wx K_Wd_carriesOut d rc rs Q 0 [(0, .ref (hd 29 i0)), (1, .ref (hd 26 i1))] [] μ := by
  refine Wa.aload_n (j := 1) d_Wd_carriesOut_0 rfl ?_
  refine Wx.cVi (q := E_Od) (As := []) 5 (d - 1) 0 0 _ d_Wd_carriesOut_1 mok_Od_hasTest vl_Wd_236 rfl rfl rfl (Nat.le_of_ble_eq_true rfl) (by omega) (Nat.zero_le _) (Nat.zero_le _) (s_26 hS h1) hF (fun y2 μ1 hS hF => ?_)
  refine Wa.if_eq 31 d_Wd_carriesOut_4 (by decide) (fun hb => ?_) (fun hb => ?_)
  · have hF := hF.1 hb
    refine Wa.aload_n (j := 1) d_Wd_carriesOut_31 rfl ?_
    have hp3 := d_26_0 (i := i1) hS h1
    refine Wx.getR 5 0 d_Wd_carriesOut_32 f_Od_0 rfl fl_Wd_257 (s_26 hS h1) (hp3.1) ?_
    refine Wx.gets d_Wd_carriesOut_35 st_13 sf_Wd_260 ?_
    refine Wx.acmp_ne (κ := 0) 58 (by decide) kz kz d_Wd_carriesOut_38 (by decide) (fun hb => ?_) (fun hb => ?_)
    · have hF := hF.2 hb
      refine Wa.aload_n (j := 0) d_Wd_carriesOut_58 rfl ?_
      refine Wx.cVi (q := E_Wd) (As := []) 10 (d - 1) 0 0 _ d_Wd_carriesOut_59 mok_Wd_isFull vl_Wd_205 rfl rfl rfl (Nat.le_of_ble_eq_true rfl) (by omega) (Nat.zero_le _) (Nat.zero_le _) (s_29 hS h0) hF (fun y5 μ4 hS hF => ?_)
      refine Wa.if_eq 67 d_Wd_carriesOut_62 (by decide) (fun hb => ?_) (fun hb => ?_)
      · have hF := hF.1 hb
        refine Wa.aload_n (j := 1) d_Wd_carriesOut_67 rfl ?_
        have hp6 := d_26_0 (i := i1) hS h1
        refine Wx.getR 5 0 d_Wd_carriesOut_68 f_Od_0 rfl fl_Wd_257 (s_26 hS h1) (hp6.1) ?_
        refine Wx.gets d_Wd_carriesOut_71 st_12 sf_Wd_269 ?_
        refine Wx.acmp_ne (κ := 0) 118 (by decide) kz kz d_Wd_carriesOut_74 (by decide) (fun hb => ?_) (fun hb => ?_)
        · have hF := hF.2 hb
          refine Wa.aload_n (j := 0) d_Wd_carriesOut_118 rfl ?_
          have hp7 := d_29_3 (i := i0) hS h0
          refine Wx.getR 10 3 d_Wd_carriesOut_119 f_Wd_3 rfl fl_Wd_42 (s_29 hS h0) (hp7.1) ?_
          refine Wx.getR 6 0 d_Wd_carriesOut_122 f_Pl_0 rfl fl_Wd_241 (s_18 hS hp7.2) (r_18_0 hS hp7.2) ?_
          refine Wa.aload_n (j := 1) d_Wd_carriesOut_125 rfl ?_
          refine Wx.getI 5 6 d_Wd_carriesOut_126 f_Od_6 fl_Wd_284 w_26 (s_26 hS h1) ?_
          refine Wa.aload_n (j := 1) d_Wd_carriesOut_129 rfl ?_
          refine Wx.getI 5 7 d_Wd_carriesOut_130 f_Od_7 fl_Wd_245 w_26 (s_26 hS h1) ?_
          refine Wa.aload_n (j := 0) d_Wd_carriesOut_133 rfl ?_
          refine Wx.cVi (q := E_Cd) (As := [.int (mI μ4 (hd 26 i1) 6), .int (mI μ4 (hd 26 i1) 7), .ref (hd 29 i0)]) 2 (d - 1) 0 0 _ d_Wd_carriesOut_134 mok_Cd_reckon vl_Wd_251 rfl rfl rfl (Nat.le_of_ble_eq_true rfl) (by omega) (Nat.zero_le _) (Nat.zero_le _) (s_21 hS hp7.2) hF (fun y9 μ8 hS hF => ?_)
          refine Wa.istore_n (i := 2) (L' := [(2, .int y9), (0, .ref (hd 29 i0)), (1, .ref (hd 26 i1))]) d_Wd_carriesOut_137 rfl (by decide) rfl ?_
          refine Wa.aload_n (j := 2) d_Wd_carriesOut_138 rfl ?_
          have hp10 := d_26_0 (i := i1) hS h1
          refine Wx.getR 5 0 d_Wd_carriesOut_139 f_Od_0 rfl fl_Wd_257 (s_26 hS h1) (hp10.1) ?_
          refine Wx.gets d_Wd_carriesOut_142 st_11 sf_Wd_287 ?_
          refine Wx.acmp_ne (κ := 0) 187 (by decide) kz kz d_Wd_carriesOut_145 (by decide) (fun hb => ?_) (fun hb => ?_)
          · have hF := hF.2 hb
            refine Wa.iconst (v := 0) d_Wd_carriesOut_187 rfl ?_
            refine Wa.iload_n (j := 0) d_Wd_carriesOut_188 rfl ?_
            refine Wa.sipush (v := 9999) d_Wd_carriesOut_189 rfl ?_
            refine Wx.mmin d_Wd_carriesOut_192 mm_Wd_197 (Nat.le_of_ble_eq_true rfl) hD ?_
            refine Wx.mmax d_Wd_carriesOut_195 mm_Wd_202 (Nat.le_of_ble_eq_true rfl) hD ?_
            refine Wa.istore_n (i := 3) (L' := [(3, .int (imax 0 (imin y9 9999))), (2, .int y9), (0, .ref (hd 29 i0)), (1, .ref (hd 26 i1))]) d_Wd_carriesOut_198 rfl (by decide) rfl ?_
            refine Wa.aload_n (j := 2) d_Wd_carriesOut_199 rfl ?_
            refine Wa.aload_n (j := 3) d_Wd_carriesOut_200 rfl ?_
            refine Wx.getI 5 2 d_Wd_carriesOut_201 f_Od_2 fl_Wd_272 w_26 (s_26 hS h1) ?_
            refine Wa.aload_n (j := 3) d_Wd_carriesOut_204 rfl ?_
            refine Wx.getI 5 3 d_Wd_carriesOut_205 f_Od_3 fl_Wd_273 w_26 (s_26 hS h1) ?_
            refine Wa.iload_n (j := 0) d_Wd_carriesOut_208 rfl ?_
            refine Wx.cVi (q := E_Wd) (As := [.int (mI μ8 (hd 26 i1) 2), .int (mI μ8 (hd 26 i1) 3), .int (imax 0 (imin y9 9999))]) 10 (d - 1) 0 0 _ d_Wd_carriesOut_209 mok_Wd_makeWritten vl_Wd_297 rfl rfl rfl (Nat.le_of_ble_eq_true rfl) (by omega) (Nat.zero_le _) (Nat.zero_le _) (s_29 hS h0) hF (fun y12 μ11 hS hF => ?_)
            refine Wa.iconst (v := (-1)) d_Wd_carriesOut_212 rfl ?_
            refine Wa.icmp_eq 220 d_Wd_carriesOut_213 (by decide) (fun hb => ?_) (fun hb => ?_)
            · have hF := hF.1 hb
              refine Wa.iconst (v := 0) d_Wd_carriesOut_220 rfl ?_
              exact Wx.retz d_Wd_carriesOut_221 rfl (Or.inl rfl) hF
            · have hF := hF.2 hb
              refine Wa.iconst (v := 1) d_Wd_carriesOut_216 rfl ?_
              refine Wa.goto 221 d_Wd_carriesOut_217 (by decide) ?_
              exact Wx.retz d_Wd_carriesOut_221 rfl (Or.inr rfl) hF
          · have hF := hF.1 hb
            refine Wa.aload_n (j := 1) d_Wd_carriesOut_148 rfl ?_
            refine Wa.aload_n (j := 2) d_Wd_carriesOut_149 rfl ?_
            refine Wx.getI 5 2 d_Wd_carriesOut_150 f_Od_2 fl_Wd_272 w_26 (s_26 hS h1) ?_
            refine Wa.aload_n (j := 2) d_Wd_carriesOut_153 rfl ?_
            refine Wx.getI 5 3 d_Wd_carriesOut_154 f_Od_3 fl_Wd_273 w_26 (s_26 hS h1) ?_
            refine Wa.iload_n (j := 0) d_Wd_carriesOut_157 rfl ?_
            refine Wx.cVi (q := E_Wd) (As := [.int (mI μ8 (hd 26 i1) 2), .int (mI μ8 (hd 26 i1) 3), .int y9]) 10 (d - 1) 0 0 _ d_Wd_carriesOut_158 mok_Wd_isNewMark vl_Wd_290 rfl rfl rfl (Nat.le_of_ble_eq_true rfl) (by omega) (Nat.zero_le _) (Nat.zero_le _) (s_29 hS h0) hF (fun y14 μ13 hS hF => ?_)
            refine Wa.if_eq 185 d_Wd_carriesOut_161 (by decide) (fun hb => ?_) (fun hb => ?_)
            · have hF := hF.1 hb
              refine Wa.iconst (v := 0) d_Wd_carriesOut_185 rfl ?_
              exact Wx.retz d_Wd_carriesOut_186 rfl (Or.inl rfl) hF
            · have hF := hF.2 hb
              refine Wa.aload_n (j := 1) d_Wd_carriesOut_164 rfl ?_
              refine Wa.aload_n (j := 2) d_Wd_carriesOut_165 rfl ?_
              refine Wx.getI 5 2 d_Wd_carriesOut_166 f_Od_2 fl_Wd_272 w_26 (s_26 hS h1) ?_
              refine Wa.aload_n (j := 2) d_Wd_carriesOut_169 rfl ?_
              refine Wx.getI 5 3 d_Wd_carriesOut_170 f_Od_3 fl_Wd_273 w_26 (s_26 hS h1) ?_
              refine Wa.iload_n (j := 0) d_Wd_carriesOut_173 rfl ?_
              refine Wx.cVi (q := E_Wd) (As := [.int (mI μ13 (hd 26 i1) 2), .int (mI μ13 (hd 26 i1) 3), .int y9]) 10 (d - 1) 0 0 _ d_Wd_carriesOut_174 mok_Wd_makeNoted vl_Wd_294 rfl rfl rfl (Nat.le_of_ble_eq_true rfl) (by omega) (Nat.zero_le _) (Nat.zero_le _) (s_29 hS h0) hF (fun y16 μ15 hS hF => ?_)
              refine Wa.iconst (v := (-1)) d_Wd_carriesOut_177 rfl ?_
              refine Wa.icmp_eq 185 d_Wd_carriesOut_178 (by decide) (fun hb => ?_) (fun hb => ?_)
              · have hF := hF.1 hb
                refine Wa.iconst (v := 0) d_Wd_carriesOut_185 rfl ?_
                exact Wx.retz d_Wd_carriesOut_186 rfl (Or.inl rfl) hF
              · have hF := hF.2 hb
                refine Wa.iconst (v := 1) d_Wd_carriesOut_181 rfl ?_
                refine Wa.goto 186 d_Wd_carriesOut_182 (by decide) ?_
                exact Wx.retz d_Wd_carriesOut_186 rfl (Or.inr rfl) hF
        · have hF := hF.1 hb
          refine Wa.aload_n (j := 0) d_Wd_carriesOut_77 rfl ?_
          refine Wa.aload_n (j := 1) d_Wd_carriesOut_78 rfl ?_
          refine Wx.getI 5 2 d_Wd_carriesOut_79 f_Od_2 fl_Wd_272 w_26 (s_26 hS h1) ?_
          refine Wa.aload_n (j := 1) d_Wd_carriesOut_82 rfl ?_
          refine Wx.getI 5 3 d_Wd_carriesOut_83 f_Od_3 fl_Wd_273 w_26 (s_26 hS h1) ?_
          refine Wx.cVi (q := E_Wd) (As := [.int (mI μ4 (hd 26 i1) 2), .int (mI μ4 (hd 26 i1) 3)]) 10 (d - 1) 0 0 _ d_Wd_carriesOut_86 mok_Wd_canMerge vl_Wd_274 rfl rfl rfl (Nat.le_of_ble_eq_true rfl) (by omega) (Nat.zero_le _) (Nat.zero_le _) (s_29 hS h0) hF (fun y18 μ17 hS hF => ?_)
          refine Wa.if_eq 116 d_Wd_carriesOut_89 (by decide) (fun hb => ?_) (fun hb => ?_)
          · have hF := hF.1 hb
            refine Wa.iconst (v := 0) d_Wd_carriesOut_116 rfl ?_
            exact Wx.retz d_Wd_carriesOut_117 rfl (Or.inl rfl) hF
          · have hF := hF.2 hb
            refine Wa.aload_n (j := 0) d_Wd_carriesOut_92 rfl ?_
            refine Wa.aload_n (j := 1) d_Wd_carriesOut_93 rfl ?_
            refine Wx.getI 5 2 d_Wd_carriesOut_94 f_Od_2 fl_Wd_272 w_26 (s_26 hS h1) ?_
            refine Wa.aload_n (j := 1) d_Wd_carriesOut_97 rfl ?_
            refine Wx.getI 5 3 d_Wd_carriesOut_98 f_Od_3 fl_Wd_273 w_26 (s_26 hS h1) ?_
            refine Wa.aload_n (j := 1) d_Wd_carriesOut_101 rfl ?_
            refine Wx.getI 5 5 d_Wd_carriesOut_102 f_Od_5 fl_Wd_277 w_26 (s_26 hS h1) ?_
            refine Wx.cVi (q := E_Wd) (As := [.int (mI μ17 (hd 26 i1) 2), .int (mI μ17 (hd 26 i1) 3), .int (mI μ17 (hd 26 i1) 5)]) 10 (d - 1) 0 0 _ d_Wd_carriesOut_105 mok_Wd_makeMerged vl_Wd_280 rfl rfl rfl (Nat.le_of_ble_eq_true rfl) (by omega) (Nat.zero_le _) (Nat.zero_le _) (s_29 hS h0) hF (fun y20 μ19 hS hF => ?_)
            refine Wa.iconst (v := (-1)) d_Wd_carriesOut_108 rfl ?_
            refine Wa.icmp_eq 116 d_Wd_carriesOut_109 (by decide) (fun hb => ?_) (fun hb => ?_)
            · have hF := hF.1 hb
              refine Wa.iconst (v := 0) d_Wd_carriesOut_116 rfl ?_
              exact Wx.retz d_Wd_carriesOut_117 rfl (Or.inl rfl) hF
            · have hF := hF.2 hb
              refine Wa.iconst (v := 1) d_Wd_carriesOut_112 rfl ?_
              refine Wa.goto 117 d_Wd_carriesOut_113 (by decide) ?_
              exact Wx.retz d_Wd_carriesOut_117 rfl (Or.inr rfl) hF
      · have hF := hF.2 hb
        refine Wa.iconst (v := 0) d_Wd_carriesOut_65 rfl ?_
        exact Wx.retz d_Wd_carriesOut_66 rfl (Or.inl rfl) hF
    · have hF := hF.1 hb
      refine Wa.aload_n (j := 0) d_Wd_carriesOut_41 rfl ?_
      refine Wa.aload_n (j := 1) d_Wd_carriesOut_42 rfl ?_
      refine Wx.getI 5 4 d_Wd_carriesOut_43 f_Od_4 fl_Wd_263 w_26 (s_26 hS h1) ?_
      refine Wx.cVi (q := E_Wd) (As := [.int (mI μ1 (hd 26 i1) 4)]) 10 (d - 1) 0 0 _ d_Wd_carriesOut_46 mok_Wd_carry vl_Wd_266 rfl rfl rfl (Nat.le_of_ble_eq_true rfl) (by omega) (Nat.zero_le _) (Nat.zero_le _) (s_29 hS h0) hF (fun y22 μ21 hS hF => ?_)
      refine Wa.if_le 56 d_Wd_carriesOut_49 (by decide) (fun hb => ?_) (fun hb => ?_)
      · have hF := hF.1 hb
        refine Wa.iconst (v := 0) d_Wd_carriesOut_56 rfl ?_
        exact Wx.retz d_Wd_carriesOut_57 rfl (Or.inl rfl) hF
      · have hF := hF.2 hb
        refine Wa.iconst (v := 1) d_Wd_carriesOut_52 rfl ?_
        refine Wa.goto 57 d_Wd_carriesOut_53 (by decide) ?_
        exact Wx.retz d_Wd_carriesOut_57 rfl (Or.inr rfl) hF
  · have hF := hF.2 hb
    refine Wa.aload_n (j := 0) d_Wd_carriesOut_7 rfl ?_
    have hp23 := d_29_3 (i := i0) hS h0
    refine Wx.getR 10 3 d_Wd_carriesOut_8 f_Wd_3 rfl fl_Wd_42 (s_29 hS h0) (hp23.1) ?_
    refine Wx.getR 6 0 d_Wd_carriesOut_11 f_Pl_0 rfl fl_Wd_241 (s_18 hS hp23.2) (r_18_0 hS hp23.2) ?_
    refine Wa.aload_n (j := 1) d_Wd_carriesOut_14 rfl ?_
    refine Wx.getI 5 7 d_Wd_carriesOut_15 f_Od_7 fl_Wd_245 w_26 (s_26 hS h1) ?_
    refine Wa.aload_n (j := 1) d_Wd_carriesOut_18 rfl ?_
    refine Wx.getI 5 8 d_Wd_carriesOut_19 f_Od_8 fl_Wd_248 w_26 (s_26 hS h1) ?_
    refine Wa.aload_n (j := 0) d_Wd_carriesOut_22 rfl ?_
    refine Wx.cVi (q := E_Cd) (As := [.int (mI μ1 (hd 26 i1) 7), .int (mI μ1 (hd 26 i1) 8), .ref (hd 29 i0)]) 2 (d - 1) 0 0 _ d_Wd_carriesOut_23 mok_Cd_reckon vl_Wd_251 rfl rfl rfl (Nat.le_of_ble_eq_true rfl) (by omega) (Nat.zero_le _) (Nat.zero_le _) (s_21 hS hp23.2) hF (fun y25 μ24 hS hF => ?_)
    refine Wa.if_ne 31 d_Wd_carriesOut_26 (by decide) (fun hb => ?_) (fun hb => ?_)
    · have hF := hF.2 hb
      refine Wa.aload_n (j := 1) d_Wd_carriesOut_31 rfl ?_
      have hp26 := d_26_0 (i := i1) hS h1
      refine Wx.getR 5 0 d_Wd_carriesOut_32 f_Od_0 rfl fl_Wd_257 (s_26 hS h1) (hp26.1) ?_
      refine Wx.gets d_Wd_carriesOut_35 st_13 sf_Wd_260 ?_
      refine Wx.acmp_ne (κ := 0) 58 (by decide) kz kz d_Wd_carriesOut_38 (by decide) (fun hb => ?_) (fun hb => ?_)
      · have hF := hF.2 hb
        refine Wa.aload_n (j := 0) d_Wd_carriesOut_58 rfl ?_
        refine Wx.cVi (q := E_Wd) (As := []) 10 (d - 1) 0 0 _ d_Wd_carriesOut_59 mok_Wd_isFull vl_Wd_205 rfl rfl rfl (Nat.le_of_ble_eq_true rfl) (by omega) (Nat.zero_le _) (Nat.zero_le _) (s_29 hS h0) hF (fun y28 μ27 hS hF => ?_)
        refine Wa.if_eq 67 d_Wd_carriesOut_62 (by decide) (fun hb => ?_) (fun hb => ?_)
        · have hF := hF.1 hb
          refine Wa.aload_n (j := 1) d_Wd_carriesOut_67 rfl ?_
          have hp29 := d_26_0 (i := i1) hS h1
          refine Wx.getR 5 0 d_Wd_carriesOut_68 f_Od_0 rfl fl_Wd_257 (s_26 hS h1) (hp29.1) ?_
          refine Wx.gets d_Wd_carriesOut_71 st_12 sf_Wd_269 ?_
          refine Wx.acmp_ne (κ := 0) 118 (by decide) kz kz d_Wd_carriesOut_74 (by decide) (fun hb => ?_) (fun hb => ?_)
          · have hF := hF.2 hb
            refine Wa.aload_n (j := 0) d_Wd_carriesOut_118 rfl ?_
            have hp30 := d_29_3 (i := i0) hS h0
            refine Wx.getR 10 3 d_Wd_carriesOut_119 f_Wd_3 rfl fl_Wd_42 (s_29 hS h0) (hp30.1) ?_
            refine Wx.getR 6 0 d_Wd_carriesOut_122 f_Pl_0 rfl fl_Wd_241 (s_18 hS hp30.2) (r_18_0 hS hp30.2) ?_
            refine Wa.aload_n (j := 1) d_Wd_carriesOut_125 rfl ?_
            refine Wx.getI 5 6 d_Wd_carriesOut_126 f_Od_6 fl_Wd_284 w_26 (s_26 hS h1) ?_
            refine Wa.aload_n (j := 1) d_Wd_carriesOut_129 rfl ?_
            refine Wx.getI 5 7 d_Wd_carriesOut_130 f_Od_7 fl_Wd_245 w_26 (s_26 hS h1) ?_
            refine Wa.aload_n (j := 0) d_Wd_carriesOut_133 rfl ?_
            refine Wx.cVi (q := E_Cd) (As := [.int (mI μ27 (hd 26 i1) 6), .int (mI μ27 (hd 26 i1) 7), .ref (hd 29 i0)]) 2 (d - 1) 0 0 _ d_Wd_carriesOut_134 mok_Cd_reckon vl_Wd_251 rfl rfl rfl (Nat.le_of_ble_eq_true rfl) (by omega) (Nat.zero_le _) (Nat.zero_le _) (s_21 hS hp30.2) hF (fun y32 μ31 hS hF => ?_)
            refine Wa.istore_n (i := 2) (L' := [(2, .int y32), (0, .ref (hd 29 i0)), (1, .ref (hd 26 i1))]) d_Wd_carriesOut_137 rfl (by decide) rfl ?_
            refine Wa.aload_n (j := 2) d_Wd_carriesOut_138 rfl ?_
            have hp33 := d_26_0 (i := i1) hS h1
            refine Wx.getR 5 0 d_Wd_carriesOut_139 f_Od_0 rfl fl_Wd_257 (s_26 hS h1) (hp33.1) ?_
            refine Wx.gets d_Wd_carriesOut_142 st_11 sf_Wd_287 ?_
            refine Wx.acmp_ne (κ := 0) 187 (by decide) kz kz d_Wd_carriesOut_145 (by decide) (fun hb => ?_) (fun hb => ?_)
            · have hF := hF.2 hb
              refine Wa.iconst (v := 0) d_Wd_carriesOut_187 rfl ?_
              refine Wa.iload_n (j := 0) d_Wd_carriesOut_188 rfl ?_
              refine Wa.sipush (v := 9999) d_Wd_carriesOut_189 rfl ?_
              refine Wx.mmin d_Wd_carriesOut_192 mm_Wd_197 (Nat.le_of_ble_eq_true rfl) hD ?_
              refine Wx.mmax d_Wd_carriesOut_195 mm_Wd_202 (Nat.le_of_ble_eq_true rfl) hD ?_
              refine Wa.istore_n (i := 3) (L' := [(3, .int (imax 0 (imin y32 9999))), (2, .int y32), (0, .ref (hd 29 i0)), (1, .ref (hd 26 i1))]) d_Wd_carriesOut_198 rfl (by decide) rfl ?_
              refine Wa.aload_n (j := 2) d_Wd_carriesOut_199 rfl ?_
              refine Wa.aload_n (j := 3) d_Wd_carriesOut_200 rfl ?_
              refine Wx.getI 5 2 d_Wd_carriesOut_201 f_Od_2 fl_Wd_272 w_26 (s_26 hS h1) ?_
              refine Wa.aload_n (j := 3) d_Wd_carriesOut_204 rfl ?_
              refine Wx.getI 5 3 d_Wd_carriesOut_205 f_Od_3 fl_Wd_273 w_26 (s_26 hS h1) ?_
              refine Wa.iload_n (j := 0) d_Wd_carriesOut_208 rfl ?_
              refine Wx.cVi (q := E_Wd) (As := [.int (mI μ31 (hd 26 i1) 2), .int (mI μ31 (hd 26 i1) 3), .int (imax 0 (imin y32 9999))]) 10 (d - 1) 0 0 _ d_Wd_carriesOut_209 mok_Wd_makeWritten vl_Wd_297 rfl rfl rfl (Nat.le_of_ble_eq_true rfl) (by omega) (Nat.zero_le _) (Nat.zero_le _) (s_29 hS h0) hF (fun y35 μ34 hS hF => ?_)
              refine Wa.iconst (v := (-1)) d_Wd_carriesOut_212 rfl ?_
              refine Wa.icmp_eq 220 d_Wd_carriesOut_213 (by decide) (fun hb => ?_) (fun hb => ?_)
              · have hF := hF.1 hb
                refine Wa.iconst (v := 0) d_Wd_carriesOut_220 rfl ?_
                exact Wx.retz d_Wd_carriesOut_221 rfl (Or.inl rfl) hF
              · have hF := hF.2 hb
                refine Wa.iconst (v := 1) d_Wd_carriesOut_216 rfl ?_
                refine Wa.goto 221 d_Wd_carriesOut_217 (by decide) ?_
                exact Wx.retz d_Wd_carriesOut_221 rfl (Or.inr rfl) hF
            · have hF := hF.1 hb
              refine Wa.aload_n (j := 1) d_Wd_carriesOut_148 rfl ?_
              refine Wa.aload_n (j := 2) d_Wd_carriesOut_149 rfl ?_
              refine Wx.getI 5 2 d_Wd_carriesOut_150 f_Od_2 fl_Wd_272 w_26 (s_26 hS h1) ?_
              refine Wa.aload_n (j := 2) d_Wd_carriesOut_153 rfl ?_
              refine Wx.getI 5 3 d_Wd_carriesOut_154 f_Od_3 fl_Wd_273 w_26 (s_26 hS h1) ?_
              refine Wa.iload_n (j := 0) d_Wd_carriesOut_157 rfl ?_
              refine Wx.cVi (q := E_Wd) (As := [.int (mI μ31 (hd 26 i1) 2), .int (mI μ31 (hd 26 i1) 3), .int y32]) 10 (d - 1) 0 0 _ d_Wd_carriesOut_158 mok_Wd_isNewMark vl_Wd_290 rfl rfl rfl (Nat.le_of_ble_eq_true rfl) (by omega) (Nat.zero_le _) (Nat.zero_le _) (s_29 hS h0) hF (fun y37 μ36 hS hF => ?_)
              refine Wa.if_eq 185 d_Wd_carriesOut_161 (by decide) (fun hb => ?_) (fun hb => ?_)
              · have hF := hF.1 hb
                refine Wa.iconst (v := 0) d_Wd_carriesOut_185 rfl ?_
                exact Wx.retz d_Wd_carriesOut_186 rfl (Or.inl rfl) hF
              · have hF := hF.2 hb
                refine Wa.aload_n (j := 1) d_Wd_carriesOut_164 rfl ?_
                refine Wa.aload_n (j := 2) d_Wd_carriesOut_165 rfl ?_
                refine Wx.getI 5 2 d_Wd_carriesOut_166 f_Od_2 fl_Wd_272 w_26 (s_26 hS h1) ?_
                refine Wa.aload_n (j := 2) d_Wd_carriesOut_169 rfl ?_
                refine Wx.getI 5 3 d_Wd_carriesOut_170 f_Od_3 fl_Wd_273 w_26 (s_26 hS h1) ?_
                refine Wa.iload_n (j := 0) d_Wd_carriesOut_173 rfl ?_
                refine Wx.cVi (q := E_Wd) (As := [.int (mI μ36 (hd 26 i1) 2), .int (mI μ36 (hd 26 i1) 3), .int y32]) 10 (d - 1) 0 0 _ d_Wd_carriesOut_174 mok_Wd_makeNoted vl_Wd_294 rfl rfl rfl (Nat.le_of_ble_eq_true rfl) (by omega) (Nat.zero_le _) (Nat.zero_le _) (s_29 hS h0) hF (fun y39 μ38 hS hF => ?_)
                refine Wa.iconst (v := (-1)) d_Wd_carriesOut_177 rfl ?_
                refine Wa.icmp_eq 185 d_Wd_carriesOut_178 (by decide) (fun hb => ?_) (fun hb => ?_)
                · have hF := hF.1 hb
                  refine Wa.iconst (v := 0) d_Wd_carriesOut_185 rfl ?_
                  exact Wx.retz d_Wd_carriesOut_186 rfl (Or.inl rfl) hF
                · have hF := hF.2 hb
                  refine Wa.iconst (v := 1) d_Wd_carriesOut_181 rfl ?_
                  refine Wa.goto 186 d_Wd_carriesOut_182 (by decide) ?_
                  exact Wx.retz d_Wd_carriesOut_186 rfl (Or.inr rfl) hF
          · have hF := hF.1 hb
            refine Wa.aload_n (j := 0) d_Wd_carriesOut_77 rfl ?_
            refine Wa.aload_n (j := 1) d_Wd_carriesOut_78 rfl ?_
            refine Wx.getI 5 2 d_Wd_carriesOut_79 f_Od_2 fl_Wd_272 w_26 (s_26 hS h1) ?_
            refine Wa.aload_n (j := 1) d_Wd_carriesOut_82 rfl ?_
            refine Wx.getI 5 3 d_Wd_carriesOut_83 f_Od_3 fl_Wd_273 w_26 (s_26 hS h1) ?_
            refine Wx.cVi (q := E_Wd) (As := [.int (mI μ27 (hd 26 i1) 2), .int (mI μ27 (hd 26 i1) 3)]) 10 (d - 1) 0 0 _ d_Wd_carriesOut_86 mok_Wd_canMerge vl_Wd_274 rfl rfl rfl (Nat.le_of_ble_eq_true rfl) (by omega) (Nat.zero_le _) (Nat.zero_le _) (s_29 hS h0) hF (fun y41 μ40 hS hF => ?_)
            refine Wa.if_eq 116 d_Wd_carriesOut_89 (by decide) (fun hb => ?_) (fun hb => ?_)
            · have hF := hF.1 hb
              refine Wa.iconst (v := 0) d_Wd_carriesOut_116 rfl ?_
              exact Wx.retz d_Wd_carriesOut_117 rfl (Or.inl rfl) hF
            · have hF := hF.2 hb
              refine Wa.aload_n (j := 0) d_Wd_carriesOut_92 rfl ?_
              refine Wa.aload_n (j := 1) d_Wd_carriesOut_93 rfl ?_
              refine Wx.getI 5 2 d_Wd_carriesOut_94 f_Od_2 fl_Wd_272 w_26 (s_26 hS h1) ?_
              refine Wa.aload_n (j := 1) d_Wd_carriesOut_97 rfl ?_
              refine Wx.getI 5 3 d_Wd_carriesOut_98 f_Od_3 fl_Wd_273 w_26 (s_26 hS h1) ?_
              refine Wa.aload_n (j := 1) d_Wd_carriesOut_101 rfl ?_
              refine Wx.getI 5 5 d_Wd_carriesOut_102 f_Od_5 fl_Wd_277 w_26 (s_26 hS h1) ?_
              refine Wx.cVi (q := E_Wd) (As := [.int (mI μ40 (hd 26 i1) 2), .int (mI μ40 (hd 26 i1) 3), .int (mI μ40 (hd 26 i1) 5)]) 10 (d - 1) 0 0 _ d_Wd_carriesOut_105 mok_Wd_makeMerged vl_Wd_280 rfl rfl rfl (Nat.le_of_ble_eq_true rfl) (by omega) (Nat.zero_le _) (Nat.zero_le _) (s_29 hS h0) hF (fun y43 μ42 hS hF => ?_)
              refine Wa.iconst (v := (-1)) d_Wd_carriesOut_108 rfl ?_
              refine Wa.icmp_eq 116 d_Wd_carriesOut_109 (by decide) (fun hb => ?_) (fun hb => ?_)
              · have hF := hF.1 hb
                refine Wa.iconst (v := 0) d_Wd_carriesOut_116 rfl ?_
                exact Wx.retz d_Wd_carriesOut_117 rfl (Or.inl rfl) hF
              · have hF := hF.2 hb
                refine Wa.iconst (v := 1) d_Wd_carriesOut_112 rfl ?_
                refine Wa.goto 117 d_Wd_carriesOut_113 (by decide) ?_
                exact Wx.retz d_Wd_carriesOut_117 rfl (Or.inr rfl) hF
        · have hF := hF.2 hb
          refine Wa.iconst (v := 0) d_Wd_carriesOut_65 rfl ?_
          exact Wx.retz d_Wd_carriesOut_66 rfl (Or.inl rfl) hF
      · have hF := hF.1 hb
        refine Wa.aload_n (j := 0) d_Wd_carriesOut_41 rfl ?_
        refine Wa.aload_n (j := 1) d_Wd_carriesOut_42 rfl ?_
        refine Wx.getI 5 4 d_Wd_carriesOut_43 f_Od_4 fl_Wd_263 w_26 (s_26 hS h1) ?_
        refine Wx.cVi (q := E_Wd) (As := [.int (mI μ24 (hd 26 i1) 4)]) 10 (d - 1) 0 0 _ d_Wd_carriesOut_46 mok_Wd_carry vl_Wd_266 rfl rfl rfl (Nat.le_of_ble_eq_true rfl) (by omega) (Nat.zero_le _) (Nat.zero_le _) (s_29 hS h0) hF (fun y45 μ44 hS hF => ?_)
        refine Wa.if_le 56 d_Wd_carriesOut_49 (by decide) (fun hb => ?_) (fun hb => ?_)
        · have hF := hF.1 hb
          refine Wa.iconst (v := 0) d_Wd_carriesOut_56 rfl ?_
          exact Wx.retz d_Wd_carriesOut_57 rfl (Or.inl rfl) hF
        · have hF := hF.2 hb
          refine Wa.iconst (v := 1) d_Wd_carriesOut_52 rfl ?_
          refine Wa.goto 57 d_Wd_carriesOut_53 (by decide) ?_
          exact Wx.retz d_Wd_carriesOut_57 rfl (Or.inr rfl) hF
    · have hF := hF.1 hb
      refine Wa.iconst (v := 0) d_Wd_carriesOut_29 rfl ?_
      exact Wx.retz d_Wd_carriesOut_30 rfl (Or.inl rfl) hF
theorem e_Wd_carriesOut {d rc rs : Nat} {Q : Option Value → Mu → Prop} {μ : Mu} {i0 : Nat} {i1 : Nat} (hk : Wx K_Wd_carriesOut d rc rs (fun r μ' => St μ' ∧ Q r μ') 0 [(0, .ref (hd 29 i0)), (1, .ref (hd 26 i1))] [] μ) : Cal K_Wd_carriesOut d rc rs [.ref (hd 29 i0), .ref (hd 26 i1)] μ Q := Cal.of (by decide +kernel) rfl rfl (Nat.le_of_ble_eq_true rfl) rfl hk
set_option maxHeartbeats 4000000 in
set_option maxRecDepth 20000 in
theorem g_Wd_isNewMark_0 {d rc rs : Nat} {Q : Option Value → Mu → Prop} {μ : Mu} {i0 : Nat} {x1 : Int32} {x2 : Int32} {x3 : Int32} (hD : 1 ≤ d) (h0 : i0 < 2) (hS : St μ)
    (hF : (Cal K_PB_isMark (d - 1) 0 0 [.int x3] μ (fun r μ1 => ∃ y2, r = some (.int y2) ∧ ((y2 = 0 → Q (some (.int 0)) μ1) ∧ (¬ y2 = 0 → (Cal K_Wd_canNote (d - 1) 0 0 [.ref (hd 29 i0), .int x1, .int x2] μ1 (fun r μ3 => ∃ y4, r = some (.int y4) ∧ ((y4 = 0 → Q (some (.int 0)) μ3) ∧ (¬ y4 = 0 → (vp_in x1 5 ∧ (Cal K_Wd_marksShown (d - 1) 0 0 [.ref (hd 29 i0), .ref (hd 35 (5 * i0 + x1.toNatClampNeg)), .int x2] μ3 (fun r μ7 => ∃ y8, r = some (.int y8) ∧ ((((y8 >>> (x3 &&& 31)) &&& (1 : Int32)) = 0 → Q (some (.int 1)) μ7) ∧ (¬ ((y8 >>> (x3 &&& 31)) &&& (1 : Int32)) = 0 → Q (some (.int 0)) μ7)))))))))))))) : Wx K_Wd_isNewMark d rc rs Q 0 [(0, .ref (hd 29 i0)), (1, .int x1), (2, .int x2), (3, .int x3)] [] μ := by
  refine Wa.iload_n (j := 3) d_Wd_isNewMark_0 rfl ?_
  refine Wx.cSi (As := [.int x3]) (d - 1) 0 0 _ d_Wd_isNewMark_1 mok_PB_isMark sl_Wd_300 rfl rfl (Nat.le_of_ble_eq_true rfl) (by omega) (Nat.zero_le _) (Nat.zero_le _) hF (fun y2 μ1 hS hF => ?_)
  refine Wa.if_eq 38 d_Wd_isNewMark_4 (by decide) (fun hb => ?_) (fun hb => ?_)
  · have hF := hF.1 hb
    refine Wa.iconst (v := 0) d_Wd_isNewMark_38 rfl ?_
    exact Wx.retz d_Wd_isNewMark_39 rfl (Or.inl rfl) hF
  · have hF := hF.2 hb
    refine Wa.aload_n (j := 0) d_Wd_isNewMark_7 rfl ?_
    refine Wa.iload_n (j := 1) d_Wd_isNewMark_8 rfl ?_
    refine Wa.iload_n (j := 2) d_Wd_isNewMark_9 rfl ?_
    refine Wx.cVi (q := E_Wd) (As := [.int x1, .int x2]) 10 (d - 1) 0 0 _ d_Wd_isNewMark_10 mok_Wd_canNote vl_Wd_304 rfl rfl rfl (Nat.le_of_ble_eq_true rfl) (by omega) (Nat.zero_le _) (Nat.zero_le _) (s_29 hS h0) hF (fun y4 μ3 hS hF => ?_)
    refine Wa.if_eq 38 d_Wd_isNewMark_13 (by decide) (fun hb => ?_) (fun hb => ?_)
    · have hF := hF.1 hb
      refine Wa.iconst (v := 0) d_Wd_isNewMark_38 rfl ?_
      exact Wx.retz d_Wd_isNewMark_39 rfl (Or.inl rfl) hF
    · have hF := hF.2 hb
      refine Wa.aload_n (j := 0) d_Wd_isNewMark_16 rfl ?_
      refine Wa.aload_n (j := 0) d_Wd_isNewMark_17 rfl ?_
      refine Wx.getR 10 1 d_Wd_isNewMark_18 f_Wd_1 rfl fl_Wd_19 (s_29 hS h0) (r_29_1 hS h0) ?_
      refine Wa.iload_n (j := 1) d_Wd_isNewMark_21 rfl ?_
      have hc5 := hF.1
      have hF := hF.2
      have hlhc5 := vp_in_lt hc5
      have hb6 : (5 * i0 + x1.toNatClampNeg) < 10 := by have : i0 < 2 := h0; omega
      refine Wa.aald (t := 1) (q := E_Bd) d_Wd_isNewMark_22 rfl (s_31 hS h0) hc5 (a_31 hS h0 hlhc5) ?_
      refine Wa.iload_n (j := 2) d_Wd_isNewMark_23 rfl ?_
      refine Wx.cVi (q := E_Wd) (As := [.ref (hd 35 (5 * i0 + x1.toNatClampNeg)), .int x2]) 10 (d - 1) 0 0 _ d_Wd_isNewMark_24 mok_Wd_marksShown vl_Wd_176 rfl rfl rfl (Nat.le_of_ble_eq_true rfl) (by omega) (Nat.zero_le _) (Nat.zero_le _) (s_29 hS h0) hF (fun y8 μ7 hS hF => ?_)
      refine Wa.iload_n (j := 3) d_Wd_isNewMark_27 rfl ?_
      refine Wa.ishr d_Wd_isNewMark_28 ?_
      refine Wa.iconst (v := 1) d_Wd_isNewMark_29 rfl ?_
      refine Wa.iand d_Wd_isNewMark_30 ?_
      refine Wa.if_ne 38 d_Wd_isNewMark_31 (by decide) (fun hb => ?_) (fun hb => ?_)
      · have hF := hF.2 hb
        refine Wa.iconst (v := 0) d_Wd_isNewMark_38 rfl ?_
        exact Wx.retz d_Wd_isNewMark_39 rfl (Or.inl rfl) hF
      · have hF := hF.1 hb
        refine Wa.iconst (v := 1) d_Wd_isNewMark_34 rfl ?_
        refine Wa.goto 39 d_Wd_isNewMark_35 (by decide) ?_
        exact Wx.retz d_Wd_isNewMark_39 rfl (Or.inr rfl) hF
theorem e_Wd_isNewMark {d rc rs : Nat} {Q : Option Value → Mu → Prop} {μ : Mu} {i0 : Nat} {x1 : Int32} {x2 : Int32} {x3 : Int32} (hk : Wx K_Wd_isNewMark d rc rs (fun r μ' => St μ' ∧ Q r μ') 0 [(0, .ref (hd 29 i0)), (1, .int x1), (2, .int x2), (3, .int x3)] [] μ) : Cal K_Wd_isNewMark d rc rs [.ref (hd 29 i0), .int x1, .int x2, .int x3] μ Q := Cal.of (by decide +kernel) rfl rfl (Nat.le_of_ble_eq_true rfl) rfl hk
set_option maxHeartbeats 4000000 in
set_option maxRecDepth 20000 in
theorem g_Wd_bringFrom_0 {d rc rs : Nat} {Q : Option Value → Mu → Prop} {μ : Mu} {i0 : Nat} {i1 : Nat} (hD : 1 ≤ d) (h0 : i0 < 2) (h1 : i1 < 32) (hS : St μ)
    (hF : (vp_in (mI μ (hd 27 i1) 2) 5 ∧ Wx K_Wd_bringFrom d rc rs Q 12 [(0, .ref (hd 29 i0)), (1, .ref (hd 27 i1)), (2, .ref (hd 35 (5 * i0 + (mI μ (hd 27 i1) 2).toNatClampNeg))), (3, .int 0)] [] μ)) : Wx K_Wd_bringFrom d rc rs Q 0 [(0, .ref (hd 29 i0)), (1, .ref (hd 27 i1))] [] μ := by
  refine Wa.aload_n (j := 0) d_Wd_bringFrom_0 rfl ?_
  refine Wx.getR 10 1 d_Wd_bringFrom_1 f_Wd_1 rfl fl_Wd_19 (s_29 hS h0) (r_29_1 hS h0) ?_
  refine Wa.aload_n (j := 1) d_Wd_bringFrom_4 rfl ?_
  refine Wx.getI 7 2 d_Wd_bringFrom_5 f_Rd_2 fl_Wd_132 w_27 (s_27 hS h1) ?_
  have hc1 := hF.1
  have hF := hF.2
  have hlhc1 := vp_in_lt hc1
  have hb2 : (5 * i0 + (mI μ (hd 27 i1) 2).toNatClampNeg) < 10 := by have : i0 < 2 := h0; omega
  refine Wa.aald (t := 1) (q := E_Bd) d_Wd_bringFrom_8 rfl (s_31 hS h0) hc1 (a_31 hS h0 hlhc1) ?_
  refine Wa.astore_n (i := 2) (L' := [(2, .ref (hd 35 (5 * i0 + (mI μ (hd 27 i1) 2).toNatClampNeg))), (0, .ref (hd 29 i0)), (1, .ref (hd 27 i1))]) d_Wd_bringFrom_9 rfl (by decide) rfl ?_
  refine Wa.iconst (v := 0) d_Wd_bringFrom_10 rfl ?_
  refine Wa.istore_n (i := 3) (L' := [(3, .int 0), (2, .ref (hd 35 (5 * i0 + (mI μ (hd 27 i1) 2).toNatClampNeg))), (0, .ref (hd 29 i0)), (1, .ref (hd 27 i1))]) d_Wd_bringFrom_11 rfl (by decide) rfl ?_
  exact Wa.loc [2, 3, 1, 0] rfl hF
theorem e_Wd_bringFrom {d rc rs : Nat} {Q : Option Value → Mu → Prop} {μ : Mu} {i0 : Nat} {i1 : Nat} (hk : Wx K_Wd_bringFrom d rc rs (fun r μ' => St μ' ∧ Q r μ') 0 [(0, .ref (hd 29 i0)), (1, .ref (hd 27 i1))] [] μ) : Cal K_Wd_bringFrom d rc rs [.ref (hd 29 i0), .ref (hd 27 i1)] μ Q := Cal.of (by decide +kernel) rfl rfl (Nat.le_of_ble_eq_true rfl) rfl hk
set_option maxHeartbeats 4000000 in
set_option maxRecDepth 20000 in
theorem g_Wd_bringFrom_12 {d rc rs : Nat} {Q : Option Value → Mu → Prop} {μ : Mu} {i0 : Nat} {i1 : Nat} {i2 : Nat} {x3 : Int32} (hD : 1 ≤ d) (h0 : i0 < 2) (h1 : i1 < 32) (h2 : i2 < 10) (hS : St μ)
    (hF : (((mI μ (hd 29 i0) 5) ≤ x3 → Q none μ) ∧ (¬ (mI μ (hd 29 i0) 5) ≤ x3 → (vp_in x3 60 ∧ (((mI μ (hd 28 i1) x3.toNatClampNeg) = (mI μ (hd 29 i0) 4) → (vp_in x3 60 ∧ (Cal K_Bd_has (d - 1) 0 0 [.ref (hd 35 i2), .ref (hd 33 (60 * i0 + x3.toNatClampNeg))] μ (fun r μ4 => ∃ y5, r = some (.int y5) ∧ ((y5 = 0 → (Cal K_Bd_keepWaiting (d - 1) 0 0 [.ref (hd 35 i2), .int x3] μ4 (fun r μ6 => r = none ∧ Wx K_Wd_bringFrom d rc rs Q 12 [(0, .ref (hd 29 i0)), (1, .ref (hd 27 i1)), (2, .ref (hd 35 i2)), (3, .int (x3 + 1))] [] μ6))) ∧ (¬ y5 = 0 → Wx K_Wd_bringFrom d rc rs Q 12 [(0, .ref (hd 29 i0)), (1, .ref (hd 27 i1)), (2, .ref (hd 35 i2)), (3, .int (x3 + 1))] [] μ4)))))) ∧ (¬ (mI μ (hd 28 i1) x3.toNatClampNeg) = (mI μ (hd 29 i0) 4) → Wx K_Wd_bringFrom d rc rs Q 12 [(0, .ref (hd 29 i0)), (1, .ref (hd 27 i1)), (2, .ref (hd 35 i2)), (3, .int (x3 + 1))] [] μ)))))) : Wx K_Wd_bringFrom d rc rs Q 12 [(0, .ref (hd 29 i0)), (1, .ref (hd 27 i1)), (2, .ref (hd 35 i2)), (3, .int x3)] [] μ := by
  refine Wa.iload_n (j := 3) d_Wd_bringFrom_12 rfl ?_
  refine Wa.aload_n (j := 0) d_Wd_bringFrom_13 rfl ?_
  refine Wx.getI 10 5 d_Wd_bringFrom_14 f_Wd_5 fl_Wd_33 w_29 (s_29 hS h0) ?_
  refine Wa.icmp_ge 57 d_Wd_bringFrom_17 (by decide) (fun hb => ?_) (fun hb => ?_)
  · have hF := hF.1 hb
    exact Wx.retv d_Wd_bringFrom_57 rfl hF
  · have hF := hF.2 hb
    refine Wa.aload_n (j := 1) d_Wd_bringFrom_20 rfl ?_
    refine Wx.getR 7 0 d_Wd_bringFrom_21 f_Rd_0 rfl fl_Wd_157 (s_27 hS h1) (r_27_0 hS h1) ?_
    refine Wa.iload_n (j := 3) d_Wd_bringFrom_24 rfl ?_
    have hc1 := hF.1
    have hF := hF.2
    have hlhc1 := vp_in_lt hc1
    refine Wx.iald d_Wd_bringFrom_25 w_28 (s_28 hS h1) hc1 ?_
    refine Wa.aload_n (j := 0) d_Wd_bringFrom_26 rfl ?_
    refine Wx.getI 10 4 d_Wd_bringFrom_27 f_Wd_4 fl_Wd_29 w_29 (s_29 hS h0) ?_
    refine Wa.icmp_ne 51 d_Wd_bringFrom_30 (by decide) (fun hb => ?_) (fun hb => ?_)
    · have hF := hF.2 hb
      refine Wa.iinc (i := 3) (j := 3) (v := (x3 + 1)) (L' := [(3, .int (x3 + 1)), (0, .ref (hd 29 i0)), (1, .ref (hd 27 i1)), (2, .ref (hd 35 i2))]) d_Wd_bringFrom_51 rfl rfl (by decide) rfl ?_
      refine Wa.goto 12 d_Wd_bringFrom_54 (by decide) ?_
      exact Wa.loc [1, 2, 3, 0] rfl hF
    · have hF := hF.1 hb
      refine Wa.aload_n (j := 2) d_Wd_bringFrom_33 rfl ?_
      refine Wa.aload_n (j := 0) d_Wd_bringFrom_34 rfl ?_
      refine Wx.getR 10 0 d_Wd_bringFrom_35 f_Wd_0 rfl fl_Wd_11 (s_29 hS h0) (r_29_0 hS h0) ?_
      refine Wa.iload_n (j := 3) d_Wd_bringFrom_38 rfl ?_
      have hc2 := hF.1
      have hF := hF.2
      have hlhc2 := vp_in_lt hc2
      have hb3 : (60 * i0 + x3.toNatClampNeg) < 120 := by have : i0 < 2 := h0; omega
      refine Wa.aald (t := 8) (q := E_Sh) d_Wd_bringFrom_39 rfl (s_30 hS h0) hc2 (a_30 hS h0 hlhc2) ?_
      refine Wx.cVi (q := E_Bd) (As := [.ref (hd 33 (60 * i0 + x3.toNatClampNeg))]) 1 (d - 1) 0 0 _ d_Wd_bringFrom_40 mok_Bd_has vl_Wd_145 rfl rfl rfl (Nat.le_of_ble_eq_true rfl) (by omega) (Nat.zero_le _) (Nat.zero_le _) (s_35 hS h2) hF (fun y5 μ4 hS hF => ?_)
      refine Wa.if_ne 51 d_Wd_bringFrom_43 (by decide) (fun hb => ?_) (fun hb => ?_)
      · have hF := hF.2 hb
        refine Wa.iinc (i := 3) (j := 3) (v := (x3 + 1)) (L' := [(3, .int (x3 + 1)), (0, .ref (hd 29 i0)), (1, .ref (hd 27 i1)), (2, .ref (hd 35 i2))]) d_Wd_bringFrom_51 rfl rfl (by decide) rfl ?_
        refine Wa.goto 12 d_Wd_bringFrom_54 (by decide) ?_
        exact Wa.loc [1, 2, 3, 0] rfl hF
      · have hF := hF.1 hb
        refine Wa.aload_n (j := 2) d_Wd_bringFrom_46 rfl ?_
        refine Wa.iload_n (j := 3) d_Wd_bringFrom_47 rfl ?_
        refine Wx.cVv (q := E_Bd) (As := [.int x3]) 1 (d - 1) 0 0 _ d_Wd_bringFrom_48 mok_Bd_keepWaiting vl_Wd_307 rfl rfl rfl (Nat.le_of_ble_eq_true rfl) (by omega) (Nat.zero_le _) (Nat.zero_le _) (s_35 hS h2) hF (fun μ6 hS hF => ?_)
        refine Wa.iinc (i := 3) (j := 3) (v := (x3 + 1)) (L' := [(3, .int (x3 + 1)), (0, .ref (hd 29 i0)), (1, .ref (hd 27 i1)), (2, .ref (hd 35 i2))]) d_Wd_bringFrom_51 rfl rfl (by decide) rfl ?_
        refine Wa.goto 12 d_Wd_bringFrom_54 (by decide) ?_
        exact Wa.loc [1, 2, 3, 0] rfl hF
set_option maxHeartbeats 4000000 in
set_option maxRecDepth 20000 in
theorem g_Wd_hangOn_0 {d rc rs : Nat} {Q : Option Value → Mu → Prop} {μ : Mu} {i0 : Nat} {i1 : Nat} (hD : 1 ≤ d) (h0 : i0 < 2) (h1 : i1 < 10) (hS : St μ)
    (hF : Wx K_Wd_hangOn d rc rs Q 2 [(0, .ref (hd 29 i0)), (1, .ref (hd 35 i1)), (2, .int 0)] [] μ) : Wx K_Wd_hangOn d rc rs Q 0 [(0, .ref (hd 29 i0)), (1, .ref (hd 35 i1))] [] μ := by
  refine Wa.iconst (v := 0) d_Wd_hangOn_0 rfl ?_
  refine Wa.istore_n (i := 2) (L' := [(2, .int 0), (0, .ref (hd 29 i0)), (1, .ref (hd 35 i1))]) d_Wd_hangOn_1 rfl (by decide) rfl ?_
  exact Wa.loc [1, 2, 0] rfl hF
theorem e_Wd_hangOn {d rc rs : Nat} {Q : Option Value → Mu → Prop} {μ : Mu} {i0 : Nat} {i1 : Nat} (hk : Wx K_Wd_hangOn d rc rs (fun r μ' => St μ' ∧ Q r μ') 0 [(0, .ref (hd 29 i0)), (1, .ref (hd 35 i1))] [] μ) : Cal K_Wd_hangOn d rc rs [.ref (hd 29 i0), .ref (hd 35 i1)] μ Q := Cal.of (by decide +kernel) rfl rfl (Nat.le_of_ble_eq_true rfl) rfl hk
set_option maxHeartbeats 4000000 in
set_option maxRecDepth 20000 in
theorem g_Wd_hangOn_2 {d rc rs : Nat} {Q : Option Value → Mu → Prop} {μ : Mu} {i0 : Nat} {i1 : Nat} {x2 : Int32} (hD : 1 ≤ d) (h0 : i0 < 2) (h1 : i1 < 10) (hS : St μ)
    (hF : (((mI μ (hd 29 i0) 5) ≤ x2 → Q none μ) ∧ (¬ (mI μ (hd 29 i0) 5) ≤ x2 → (((mI μ (hd 35 i1) 3) ≤ 0 → Q none μ) ∧ (¬ (mI μ (hd 35 i1) 3) ≤ 0 → (vp_in x2 60 ∧ (((mI μ (hd 38 i1) x2.toNatClampNeg) = 0 → Wx K_Wd_hangOn d rc rs Q 2 [(0, .ref (hd 29 i0)), (1, .ref (hd 35 i1)), (2, .int (x2 + 1))] [] μ) ∧ (¬ (mI μ (hd 38 i1) x2.toNatClampNeg) = 0 → (vp_in x2 60 ∧ (Cal K_Bd_canHang (d - 1) 0 0 [.ref (hd 35 i1), .ref (hd 33 (60 * i0 + x2.toNatClampNeg))] μ (fun r μ4 => ∃ y5, r = some (.int y5) ∧ ((y5 = 0 → Wx K_Wd_hangOn d rc rs Q 2 [(0, .ref (hd 29 i0)), (1, .ref (hd 35 i1)), (2, .int (x2 + 1))] [] μ4) ∧ (¬ y5 = 0 → (Cal K_Wd_hang (d - 1) 0 0 [.ref (hd 29 i0), .ref (hd 35 i1), .int x2] μ4 (fun r μ6 => r = none ∧ Wx K_Wd_hangOn d rc rs Q 2 [(0, .ref (hd 29 i0)), (1, .ref (hd 35 i1)), (2, .int (x2 + 1))] [] μ6))))))))))))))) : Wx K_Wd_hangOn d rc rs Q 2 [(0, .ref (hd 29 i0)), (1, .ref (hd 35 i1)), (2, .int x2)] [] μ := by
  refine Wa.iload_n (j := 2) d_Wd_hangOn_2 rfl ?_
  refine Wa.aload_n (j := 0) d_Wd_hangOn_3 rfl ?_
  refine Wx.getI 10 5 d_Wd_hangOn_4 f_Wd_5 fl_Wd_33 w_29 (s_29 hS h0) ?_
  refine Wa.icmp_ge 51 d_Wd_hangOn_7 (by decide) (fun hb => ?_) (fun hb => ?_)
  · have hF := hF.1 hb
    exact Wx.retv d_Wd_hangOn_51 rfl hF
  · have hF := hF.2 hb
    refine Wa.aload_n (j := 1) d_Wd_hangOn_10 rfl ?_
    refine Wx.getI 1 3 d_Wd_hangOn_11 f_Bd_3 fl_Wd_93 w_35 (s_35 hS h1) ?_
    refine Wa.if_le 51 d_Wd_hangOn_14 (by decide) (fun hb => ?_) (fun hb => ?_)
    · have hF := hF.1 hb
      exact Wx.retv d_Wd_hangOn_51 rfl hF
    · have hF := hF.2 hb
      refine Wa.aload_n (j := 1) d_Wd_hangOn_17 rfl ?_
      refine Wx.getR 1 2 d_Wd_hangOn_18 f_Bd_2 rfl fl_Wd_311 (s_35 hS h1) (r_35_2 hS h1) ?_
      refine Wa.iload_n (j := 2) d_Wd_hangOn_21 rfl ?_
      have hc1 := hF.1
      have hF := hF.2
      have hlhc1 := vp_in_lt hc1
      refine Wx.zald d_Wd_hangOn_22 w_38 (s_38 hS h1) hc1 ?_
      refine Wa.if_eq 45 d_Wd_hangOn_23 (by decide) (fun hb => ?_) (fun hb => ?_)
      · have hF := hF.1 hb
        refine Wa.iinc (i := 2) (j := 2) (v := (x2 + 1)) (L' := [(2, .int (x2 + 1)), (0, .ref (hd 29 i0)), (1, .ref (hd 35 i1))]) d_Wd_hangOn_45 rfl rfl (by decide) rfl ?_
        refine Wa.goto 2 d_Wd_hangOn_48 (by decide) ?_
        exact Wa.loc [1, 2, 0] rfl hF
      · have hF := hF.2 hb
        refine Wa.aload_n (j := 1) d_Wd_hangOn_26 rfl ?_
        refine Wa.aload_n (j := 0) d_Wd_hangOn_27 rfl ?_
        refine Wx.getR 10 0 d_Wd_hangOn_28 f_Wd_0 rfl fl_Wd_11 (s_29 hS h0) (r_29_0 hS h0) ?_
        refine Wa.iload_n (j := 2) d_Wd_hangOn_31 rfl ?_
        have hc2 := hF.1
        have hF := hF.2
        have hlhc2 := vp_in_lt hc2
        have hb3 : (60 * i0 + x2.toNatClampNeg) < 120 := by have : i0 < 2 := h0; omega
        refine Wa.aald (t := 8) (q := E_Sh) d_Wd_hangOn_32 rfl (s_30 hS h0) hc2 (a_30 hS h0 hlhc2) ?_
        refine Wx.cVi (q := E_Bd) (As := [.ref (hd 33 (60 * i0 + x2.toNatClampNeg))]) 1 (d - 1) 0 0 _ d_Wd_hangOn_33 mok_Bd_canHang vl_Wd_315 rfl rfl rfl (Nat.le_of_ble_eq_true rfl) (by omega) (Nat.zero_le _) (Nat.zero_le _) (s_35 hS h1) hF (fun y5 μ4 hS hF => ?_)
        refine Wa.if_eq 45 d_Wd_hangOn_36 (by decide) (fun hb => ?_) (fun hb => ?_)
        · have hF := hF.1 hb
          refine Wa.iinc (i := 2) (j := 2) (v := (x2 + 1)) (L' := [(2, .int (x2 + 1)), (0, .ref (hd 29 i0)), (1, .ref (hd 35 i1))]) d_Wd_hangOn_45 rfl rfl (by decide) rfl ?_
          refine Wa.goto 2 d_Wd_hangOn_48 (by decide) ?_
          exact Wa.loc [1, 2, 0] rfl hF
        · have hF := hF.2 hb
          refine Wa.aload_n (j := 0) d_Wd_hangOn_39 rfl ?_
          refine Wa.aload_n (j := 1) d_Wd_hangOn_40 rfl ?_
          refine Wa.iload_n (j := 2) d_Wd_hangOn_41 rfl ?_
          refine Wx.cVv (q := E_Wd) (As := [.ref (hd 35 i1), .int x2]) 10 (d - 1) 0 0 _ d_Wd_hangOn_42 mok_Wd_hang vl_Wd_318 rfl rfl rfl (Nat.le_of_ble_eq_true rfl) (by omega) (Nat.zero_le _) (Nat.zero_le _) (s_29 hS h0) hF (fun μ6 hS hF => ?_)
          refine Wa.iinc (i := 2) (j := 2) (v := (x2 + 1)) (L' := [(2, .int (x2 + 1)), (0, .ref (hd 29 i0)), (1, .ref (hd 35 i1))]) d_Wd_hangOn_45 rfl rfl (by decide) rfl ?_
          refine Wa.goto 2 d_Wd_hangOn_48 (by decide) ?_
          exact Wa.loc [1, 2, 0] rfl hF
set_option maxHeartbeats 4000000 in
set_option maxRecDepth 20000 in
theorem g_Wd_hang_0 {d rc rs : Nat} {Q : Option Value → Mu → Prop} {μ : Mu} {i0 : Nat} {i1 : Nat} {x2 : Int32} (hD : 1 ≤ d) (h0 : i0 < 2) (h1 : i1 < 10) (hS : St μ)
    (hF : (vp_in x2 60 ∧ (Cal K_Bd_endWaiting (d - 1) 0 0 [.ref (hd 35 i1), .int x2] μ (fun r μ3 => r = none ∧ (vp_in (mI μ3 (hd 33 (60 * i0 + x2.toNatClampNeg)) 1) 5 ∧ (vp_in (mI μ3 (hd 33 (60 * i0 + x2.toNatClampNeg)) 1) 5 ∧ Wx K_Wd_hang d rc rs Q 28 [(0, .ref (hd 29 i0)), (1, .ref (hd 35 i1)), (2, .int x2), (3, .ref (hd 33 (60 * i0 + x2.toNatClampNeg))), (4, .int 0)] [] (setI μ3 (hd 36 i1) (mI μ3 (hd 33 (60 * i0 + x2.toNatClampNeg)) 1).toNatClampNeg ((mI μ3 (hd 36 i1) (mI μ3 (hd 33 (60 * i0 + x2.toNatClampNeg)) 1).toNatClampNeg) + (1 : Int32))))))))) : Wx K_Wd_hang d rc rs Q 0 [(0, .ref (hd 29 i0)), (1, .ref (hd 35 i1)), (2, .int x2)] [] μ := by
  refine Wa.aload_n (j := 0) d_Wd_hang_0 rfl ?_
  refine Wx.getR 10 0 d_Wd_hang_1 f_Wd_0 rfl fl_Wd_11 (s_29 hS h0) (r_29_0 hS h0) ?_
  refine Wa.iload_n (j := 2) d_Wd_hang_4 rfl ?_
  have hc1 := hF.1
  have hF := hF.2
  have hlhc1 := vp_in_lt hc1
  have hb2 : (60 * i0 + x2.toNatClampNeg) < 120 := by have : i0 < 2 := h0; omega
  refine Wa.aald (t := 8) (q := E_Sh) d_Wd_hang_5 rfl (s_30 hS h0) hc1 (a_30 hS h0 hlhc1) ?_
  refine Wa.astore_n (i := 3) (L' := [(3, .ref (hd 33 (60 * i0 + x2.toNatClampNeg))), (0, .ref (hd 29 i0)), (1, .ref (hd 35 i1)), (2, .int x2)]) d_Wd_hang_6 rfl (by decide) rfl ?_
  refine Wa.aload_n (j := 2) d_Wd_hang_7 rfl ?_
  refine Wa.iload_n (j := 3) d_Wd_hang_8 rfl ?_
  refine Wx.cVv (q := E_Bd) (As := [.int x2]) 1 (d - 1) 0 0 _ d_Wd_hang_9 mok_Bd_endWaiting vl_Wd_322 rfl rfl rfl (Nat.le_of_ble_eq_true rfl) (by omega) (Nat.zero_le _) (Nat.zero_le _) (s_35 hS h1) hF (fun μ3 hS hF => ?_)
  refine Wa.aload_n (j := 2) d_Wd_hang_12 rfl ?_
  refine Wx.getR 1 0 d_Wd_hang_13 f_Bd_0 rfl fl_Wd_100 (s_35 hS h1) (r_35_0 hS h1) ?_
  refine Wa.aload_n (j := 0) d_Wd_hang_16 rfl ?_
  refine Wx.getI 8 1 d_Wd_hang_17 f_Sh_1 fl_Wd_107 w_33 (s_33 hS hb2) ?_
  refine Wa.dup2 d_Wd_hang_20 rfl rfl ?_
  have hc4 := hF.1
  have hF := hF.2
  have hlhc4 := vp_in_lt hc4
  refine Wx.iald d_Wd_hang_21 w_36 (s_36 hS h1) hc4 ?_
  refine Wa.iconst (v := 1) d_Wd_hang_22 rfl ?_
  refine Wa.iadd d_Wd_hang_23 ?_
  have hc5 := hF.1
  have hF := hF.2
  have hlhc5 := vp_in_lt hc5
  refine Wa.iast d_Wd_hang_24 w_36 (s_36 hS h1) hc5 ?_
  refine Wa.iconst (v := 0) d_Wd_hang_25 rfl ?_
  refine Wa.istore (i := 4) (L' := [(4, .int 0), (3, .ref (hd 33 (60 * i0 + x2.toNatClampNeg))), (0, .ref (hd 29 i0)), (1, .ref (hd 35 i1)), (2, .int x2)]) d_Wd_hang_26 (by decide) rfl ?_
  exact Wa.loc [2, 3, 4, 1, 0] rfl hF
theorem e_Wd_hang {d rc rs : Nat} {Q : Option Value → Mu → Prop} {μ : Mu} {i0 : Nat} {i1 : Nat} {x2 : Int32} (hk : Wx K_Wd_hang d rc rs (fun r μ' => St μ' ∧ Q r μ') 0 [(0, .ref (hd 29 i0)), (1, .ref (hd 35 i1)), (2, .int x2)] [] μ) : Cal K_Wd_hang d rc rs [.ref (hd 29 i0), .ref (hd 35 i1), .int x2] μ Q := Cal.of (by decide +kernel) rfl rfl (Nat.le_of_ble_eq_true rfl) rfl hk
set_option maxHeartbeats 4000000 in
set_option maxRecDepth 20000 in
theorem g_Wd_hang_28 {d rc rs : Nat} {Q : Option Value → Mu → Prop} {μ : Mu} {i0 : Nat} {i1 : Nat} {x2 : Int32} {i3 : Nat} {x4 : Int32} (hD : 1 ≤ d) (h0 : i0 < 2) (h1 : i1 < 10) (h3 : i3 < 120) (hS : St μ)
    (hF : (((mI μ (hd 18 (px μ (hd 29 i0) 3)) 3) ≤ x4 → (Cal K_Bd_show (d - 1) 0 0 [.ref (hd 35 i1), .int (mI μ (hd 33 i3) 2), .int (mI μ (hd 33 i3) 1), .int x2] μ (fun r μ2 => r = none ∧ Q none (setI μ2 (hd 29 i0) 6 ((mI μ2 (hd 29 i0) 6) + (1 : Int32)))))) ∧ (¬ (mI μ (hd 18 (px μ (hd 29 i0) 3)) 3) ≤ x4 → (Cal K_Bd_shownFrom (d - 1) 0 0 [.ref (hd 35 i1), .int (mI μ (hd 33 i3) 2), .int x4] μ (fun r μ3 => ∃ y4, r = some (.int y4) ∧ ((y4 = (-1) → Wx K_Wd_hang d rc rs Q 28 [(0, .ref (hd 29 i0)), (1, .ref (hd 35 i1)), (2, .int x2), (3, .ref (hd 33 i3)), (4, .int (x4 + 1))] [] μ3) ∧ (¬ y4 = (-1) → (vp_in y4 60 ∧ (Cal K_Sh_isAheadOf (d - 1) 0 0 [.ref (hd 33 (60 * i0 + y4.toNatClampNeg)), .ref (hd 33 i3)] μ3 (fun r μ7 => ∃ y8, r = some (.int y8) ∧ ((y8 = 0 → Wx K_Wd_hang d rc rs Q 28 [(0, .ref (hd 29 i0)), (1, .ref (hd 35 i1)), (2, .int x2), (3, .ref (hd 33 i3)), (4, .int (x4 + 1))] [] μ7) ∧ (¬ y8 = 0 → (Cal K_Bd_show (d - 1) 0 0 [.ref (hd 35 i1), .int (mI μ7 (hd 33 i3) 2), .int x4, .int (-1)] μ7 (fun r μ9 => r = none ∧ Wx K_Wd_hang d rc rs Q 28 [(0, .ref (hd 29 i0)), (1, .ref (hd 35 i1)), (2, .int x2), (3, .ref (hd 33 i3)), (4, .int (x4 + 1))] [] μ9)))))))))))))) : Wx K_Wd_hang d rc rs Q 28 [(0, .ref (hd 29 i0)), (1, .ref (hd 35 i1)), (2, .int x2), (3, .ref (hd 33 i3)), (4, .int x4)] [] μ := by
  refine Wa.iload (j := 4) d_Wd_hang_28 rfl ?_
  refine Wa.aload_n (j := 0) d_Wd_hang_30 rfl ?_
  have hp1 := d_29_3 (i := i0) hS h0
  refine Wx.getR 10 3 d_Wd_hang_31 f_Wd_3 rfl fl_Wd_42 (s_29 hS h0) (hp1.1) ?_
  refine Wx.getI 6 3 d_Wd_hang_34 f_Pl_3 fl_Wd_65 w_18 (s_18 hS hp1.2) ?_
  refine Wa.icmp_ge 89 d_Wd_hang_37 (by decide) (fun hb => ?_) (fun hb => ?_)
  · have hF := hF.1 hb
    refine Wa.aload_n (j := 1) d_Wd_hang_89 rfl ?_
    refine Wa.aload_n (j := 3) d_Wd_hang_90 rfl ?_
    refine Wx.getI 8 2 d_Wd_hang_91 f_Sh_2 fl_Wd_110 w_33 (s_33 hS h3) ?_
    refine Wa.aload_n (j := 3) d_Wd_hang_94 rfl ?_
    refine Wx.getI 8 1 d_Wd_hang_95 f_Sh_1 fl_Wd_107 w_33 (s_33 hS h3) ?_
    refine Wa.iload_n (j := 2) d_Wd_hang_98 rfl ?_
    refine Wx.cVv (q := E_Bd) (As := [.int (mI μ (hd 33 i3) 2), .int (mI μ (hd 33 i3) 1), .int x2]) 1 (d - 1) 0 0 _ d_Wd_hang_99 mok_Bd_show vl_Wd_218 rfl rfl rfl (Nat.le_of_ble_eq_true rfl) (by omega) (Nat.zero_le _) (Nat.zero_le _) (s_35 hS h1) hF (fun μ2 hS hF => ?_)
    refine Wa.aload_n (j := 0) d_Wd_hang_102 rfl ?_
    refine Wa.dup d_Wd_hang_103 rfl ?_
    refine Wx.getI 10 6 d_Wd_hang_104 f_Wd_6 fl_Wd_36 w_29 (s_29 hS h0) ?_
    refine Wa.iconst (v := 1) d_Wd_hang_107 rfl ?_
    refine Wa.iadd d_Wd_hang_108 ?_
    refine Wx.putI 10 6 d_Wd_hang_109 f_Wd_6 ok_Wd fl_Wd_36 (Or.inl rfl) w_29 (s_29 hS h0) ?_
    exact Wx.retv d_Wd_hang_112 rfl hF
  · have hF := hF.2 hb
    refine Wa.aload_n (j := 1) d_Wd_hang_40 rfl ?_
    refine Wa.aload_n (j := 3) d_Wd_hang_41 rfl ?_
    refine Wx.getI 8 2 d_Wd_hang_42 f_Sh_2 fl_Wd_110 w_33 (s_33 hS h3) ?_
    refine Wa.iload (j := 4) d_Wd_hang_45 rfl ?_
    refine Wx.cVi (q := E_Bd) (As := [.int (mI μ (hd 33 i3) 2), .int x4]) 1 (d - 1) 0 0 _ d_Wd_hang_47 mok_Bd_shownFrom vl_Wd_153 rfl rfl rfl (Nat.le_of_ble_eq_true rfl) (by omega) (Nat.zero_le _) (Nat.zero_le _) (s_35 hS h1) hF (fun y4 μ3 hS hF => ?_)
    refine Wa.istore (i := 5) (L' := [(5, .int y4), (0, .ref (hd 29 i0)), (1, .ref (hd 35 i1)), (2, .int x2), (3, .ref (hd 33 i3)), (4, .int x4)]) d_Wd_hang_50 (by decide) rfl ?_
    refine Wa.iload (j := 0) d_Wd_hang_52 rfl ?_
    refine Wa.iconst (v := (-1)) d_Wd_hang_54 rfl ?_
    refine Wa.icmp_eq 83 d_Wd_hang_55 (by decide) (fun hb => ?_) (fun hb => ?_)
    · have hF := hF.1 hb
      refine Wa.iinc (i := 4) (j := 5) (v := (x4 + 1)) (L' := [(4, .int (x4 + 1)), (5, .int y4), (0, .ref (hd 29 i0)), (1, .ref (hd 35 i1)), (2, .int x2), (3, .ref (hd 33 i3))]) d_Wd_hang_83 rfl rfl (by decide) rfl ?_
      refine Wa.goto 28 d_Wd_hang_86 (by decide) ?_
      exact Wa.loc [2, 3, 4, 5, 0] rfl hF
    · have hF := hF.2 hb
      refine Wa.aload_n (j := 1) d_Wd_hang_58 rfl ?_
      refine Wx.getR 10 0 d_Wd_hang_59 f_Wd_0 rfl fl_Wd_11 (s_29 hS h0) (r_29_0 hS h0) ?_
      refine Wa.iload (j := 0) d_Wd_hang_62 rfl ?_
      have hc5 := hF.1
      have hF := hF.2
      have hlhc5 := vp_in_lt hc5
      have hb6 : (60 * i0 + y4.toNatClampNeg) < 120 := by have : i0 < 2 := h0; omega
      refine Wa.aald (t := 8) (q := E_Sh) d_Wd_hang_64 rfl (s_30 hS h0) hc5 (a_30 hS h0 hlhc5) ?_
      refine Wa.aload_n (j := 4) d_Wd_hang_65 rfl ?_
      refine Wx.cVi (q := E_Sh) (As := [.ref (hd 33 i3)]) 8 (d - 1) 0 0 _ d_Wd_hang_66 mok_Sh_isAheadOf vl_Wd_325 rfl rfl rfl (Nat.le_of_ble_eq_true rfl) (by omega) (Nat.zero_le _) (Nat.zero_le _) (s_33 hS hb6) hF (fun y8 μ7 hS hF => ?_)
      refine Wa.if_eq 83 d_Wd_hang_69 (by decide) (fun hb => ?_) (fun hb => ?_)
      · have hF := hF.1 hb
        refine Wa.iinc (i := 4) (j := 5) (v := (x4 + 1)) (L' := [(4, .int (x4 + 1)), (5, .int y4), (0, .ref (hd 29 i0)), (1, .ref (hd 35 i1)), (2, .int x2), (3, .ref (hd 33 i3))]) d_Wd_hang_83 rfl rfl (by decide) rfl ?_
        refine Wa.goto 28 d_Wd_hang_86 (by decide) ?_
        exact Wa.loc [2, 3, 4, 5, 0] rfl hF
      · have hF := hF.2 hb
        refine Wa.aload_n (j := 2) d_Wd_hang_72 rfl ?_
        refine Wa.aload_n (j := 4) d_Wd_hang_73 rfl ?_
        refine Wx.getI 8 2 d_Wd_hang_74 f_Sh_2 fl_Wd_110 w_33 (s_33 hS h3) ?_
        refine Wa.iload (j := 5) d_Wd_hang_77 rfl ?_
        refine Wa.iconst (v := (-1)) d_Wd_hang_79 rfl ?_
        refine Wx.cVv (q := E_Bd) (As := [.int (mI μ7 (hd 33 i3) 2), .int x4, .int (-1)]) 1 (d - 1) 0 0 _ d_Wd_hang_80 mok_Bd_show vl_Wd_218 rfl rfl rfl (Nat.le_of_ble_eq_true rfl) (by omega) (Nat.zero_le _) (Nat.zero_le _) (s_35 hS h1) hF (fun μ9 hS hF => ?_)
        refine Wa.iinc (i := 4) (j := 5) (v := (x4 + 1)) (L' := [(4, .int (x4 + 1)), (5, .int y4), (0, .ref (hd 29 i0)), (1, .ref (hd 35 i1)), (2, .int x2), (3, .ref (hd 33 i3))]) d_Wd_hang_83 rfl rfl (by decide) rfl ?_
        refine Wa.goto 28 d_Wd_hang_86 (by decide) ?_
        exact Wa.loc [2, 3, 4, 5, 0] rfl hF
