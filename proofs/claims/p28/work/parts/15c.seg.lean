/-! segments of methods, by machine -/
set_option maxHeartbeats 4000000 in
set_option maxRecDepth 20000 in
theorem g_Cd_add_0 {d rc rs : Nat} {Q : Option Value → Mu → Prop} {μ : Mu} {i0 : Nat} {i1 : Nat} {x2 : Int32} (hD : 1 ≤ d) (h0 : i0 < 2) (h1 : i1 < 49) (hS : St μ)
    (hF : ((400 ≤ (mI μ (hd 21 i0) 4) → Q none μ) ∧ (¬ 400 ≤ (mI μ (hd 21 i0) 4) → (vp_in (mI μ (hd 21 i0) 4) 400 ∧ (vp_in (mI (setR μ (hd 22 i0) (mI μ (hd 21 i0) 4).toNatClampNeg (hd 0 i1)) (hd 21 i0) 4) 400 ∧ (vp_in (mI (setI (setR μ (hd 22 i0) (mI μ (hd 21 i0) 4).toNatClampNeg (hd 0 i1)) (hd 23 i0) (mI (setR μ (hd 22 i0) (mI μ (hd 21 i0) 4).toNatClampNeg (hd 0 i1)) (hd 21 i0) 4).toNatClampNeg x2) (hd 21 i0) 4) 400 ∧ (∀ μ4 : Mu, μ4 = (setI (setI (setR μ (hd 22 i0) (mI μ (hd 21 i0) 4).toNatClampNeg (hd 0 i1)) (hd 23 i0) (mI (setR μ (hd 22 i0) (mI μ (hd 21 i0) 4).toNatClampNeg (hd 0 i1)) (hd 21 i0) 4).toNatClampNeg x2) (hd 24 i0) (mI (setI (setR μ (hd 22 i0) (mI μ (hd 21 i0) 4).toNatClampNeg (hd 0 i1)) (hd 23 i0) (mI (setR μ (hd 22 i0) (mI μ (hd 21 i0) 4).toNatClampNeg (hd 0 i1)) (hd 21 i0) 4).toNatClampNeg x2) (hd 21 i0) 4).toNatClampNeg 0) → Q none (setI μ4 (hd 21 i0) 4 ((mI μ4 (hd 21 i0) 4) + (1 : Int32)))))))))) : Wx K_Cd_add d rc rs Q 0 [(0, .ref (hd 21 i0)), (1, .ref (hd 0 i1)), (2, .int x2)] [] μ := by
  refine Wa.aload_n (j := 0) d_Cd_add_0 rfl ?_
  refine Wx.getI 2 4 d_Cd_add_1 f_Cd_4 fl_Cd_27 w_21 (s_21 hS h0) ?_
  refine Wa.sipush (v := 400) d_Cd_add_4 rfl ?_
  refine Wa.icmp_ge 50 d_Cd_add_7 (by decide) (fun hb => ?_) (fun hb => ?_)
  · have hF := hF.1 hb
    exact Wx.retv d_Cd_add_50 rfl hF
  · have hF := hF.2 hb
    refine Wa.aload_n (j := 0) d_Cd_add_10 rfl ?_
    refine Wx.getR 2 0 d_Cd_add_11 f_Cd_0 rfl fl_Cd_11 (s_21 hS h0) (r_21_0 hS h0) ?_
    refine Wa.aload_n (j := 0) d_Cd_add_14 rfl ?_
    refine Wx.getI 2 4 d_Cd_add_15 f_Cd_4 fl_Cd_27 w_21 (s_21 hS h0) ?_
    refine Wa.aload_n (j := 1) d_Cd_add_18 rfl ?_
    have hc1 := hF.1
    have hF := hF.2
    have hlhc1 := vp_in_lt hc1
    refine Wa.aast (t := 14) (q := E_Ki) d_Cd_add_19 rfl w_22 (s_22 hS h0) hc1 (s_0 hS h1) ?_
    have hS : St (setR μ (hd 22 i0) (mI μ (hd 21 i0) 4).toNatClampNeg (hd 0 i1)) := se_22 (μ := μ) hS h0 h1
    refine Wa.aload_n (j := 0) d_Cd_add_20 rfl ?_
    refine Wx.getR 2 1 d_Cd_add_21 f_Cd_1 rfl fl_Cd_17 (s_21 hS h0) (r_21_1 hS h0) ?_
    refine Wa.aload_n (j := 0) d_Cd_add_24 rfl ?_
    refine Wx.getI 2 4 d_Cd_add_25 f_Cd_4 fl_Cd_27 w_21 (s_21 hS h0) ?_
    refine Wa.iload_n (j := 2) d_Cd_add_28 rfl ?_
    have hc2 := hF.1
    have hF := hF.2
    have hlhc2 := vp_in_lt hc2
    refine Wa.iast d_Cd_add_29 w_23 (s_23 hS h0) hc2 ?_
    refine Wa.aload_n (j := 0) d_Cd_add_30 rfl ?_
    refine Wx.getR 2 2 d_Cd_add_31 f_Cd_2 rfl fl_Cd_21 (s_21 hS h0) (r_21_2 hS h0) ?_
    refine Wa.aload_n (j := 0) d_Cd_add_34 rfl ?_
    refine Wx.getI 2 4 d_Cd_add_35 f_Cd_4 fl_Cd_27 w_21 (s_21 hS h0) ?_
    refine Wa.iconst (v := 0) d_Cd_add_38 rfl ?_
    have hc3 := hF.1
    have hF := hF.2
    have hlhc3 := vp_in_lt hc3
    refine Wa.iast d_Cd_add_39 w_24 (s_24 hS h0) hc3 ?_
    suffices hh : ∀ μ4 : Mu, μ4 = (setI (setI (setR μ (hd 22 i0) (mI μ (hd 21 i0) 4).toNatClampNeg (hd 0 i1)) (hd 23 i0) (mI (setR μ (hd 22 i0) (mI μ (hd 21 i0) 4).toNatClampNeg (hd 0 i1)) (hd 21 i0) 4).toNatClampNeg x2) (hd 24 i0) (mI (setI (setR μ (hd 22 i0) (mI μ (hd 21 i0) 4).toNatClampNeg (hd 0 i1)) (hd 23 i0) (mI (setR μ (hd 22 i0) (mI μ (hd 21 i0) 4).toNatClampNeg (hd 0 i1)) (hd 21 i0) 4).toNatClampNeg x2) (hd 21 i0) 4).toNatClampNeg 0) → Wx K_Cd_add d rc rs Q 40 [(0, .ref (hd 21 i0)), (1, .ref (hd 0 i1)), (2, .int x2)] [] μ4 from hh _ rfl
    intro μ4 em
    have hF := hF μ4 em
    have hS : St μ4 := by rw [em]; exact hS
    refine Wa.aload_n (j := 0) d_Cd_add_40 rfl ?_
    refine Wa.dup d_Cd_add_41 rfl ?_
    refine Wx.getI 2 4 d_Cd_add_42 f_Cd_4 fl_Cd_27 w_21 (s_21 hS h0) ?_
    refine Wa.iconst (v := 1) d_Cd_add_45 rfl ?_
    refine Wa.iadd d_Cd_add_46 ?_
    refine Wx.putI 2 4 d_Cd_add_47 f_Cd_4 ok_Cd fl_Cd_27 (Or.inl rfl) w_21 (s_21 hS h0) ?_
    exact Wx.retv d_Cd_add_50 rfl hF
theorem e_Cd_add {d rc rs : Nat} {Q : Option Value → Mu → Prop} {μ : Mu} {i0 : Nat} {i1 : Nat} {x2 : Int32} (hk : Wx K_Cd_add d rc rs (fun r μ' => St μ' ∧ Q r μ') 0 [(0, .ref (hd 21 i0)), (1, .ref (hd 0 i1)), (2, .int x2)] [] μ) : Cal K_Cd_add d rc rs [.ref (hd 21 i0), .ref (hd 0 i1), .int x2] μ Q := Cal.of (by decide +kernel) rfl rfl (Nat.le_of_ble_eq_true rfl) rfl hk
set_option maxHeartbeats 4000000 in
set_option maxRecDepth 20000 in
theorem g_Cd_settle_0 {d rc rs : Nat} {Q : Option Value → Mu → Prop} {μ : Mu} {i0 : Nat} (hD : 1 ≤ d) (h0 : i0 < 2) (hS : St μ)
    (hF : Wx K_Cd_settle d rc rs Q 2 [(0, .ref (hd 21 i0)), (1, .ref (hd 10 0)), (2, .int 0)] [] μ) : Wx K_Cd_settle d rc rs Q 0 [(0, .ref (hd 21 i0)), (1, .ref (hd 10 0))] [] μ := by
  refine Wa.iconst (v := 0) d_Cd_settle_0 rfl ?_
  refine Wa.istore_n (i := 2) (L' := [(2, .int 0), (0, .ref (hd 21 i0)), (1, .ref (hd 10 0))]) d_Cd_settle_1 rfl (by decide) rfl ?_
  exact Wa.loc [1, 2, 0] rfl hF
theorem e_Cd_settle {d rc rs : Nat} {Q : Option Value → Mu → Prop} {μ : Mu} {i0 : Nat} (hk : Wx K_Cd_settle d rc rs (fun r μ' => St μ' ∧ Q r μ') 0 [(0, .ref (hd 21 i0)), (1, .ref (hd 10 0))] [] μ) : Cal K_Cd_settle d rc rs [.ref (hd 21 i0), .ref (hd 10 0)] μ Q := Cal.of (by decide +kernel) rfl rfl (Nat.le_of_ble_eq_true rfl) rfl hk
set_option maxHeartbeats 4000000 in
set_option maxRecDepth 20000 in
theorem g_Cd_settle_2 {d rc rs : Nat} {Q : Option Value → Mu → Prop} {μ : Mu} {i0 : Nat} {x2 : Int32} (hD : 1 ≤ d) (h0 : i0 < 2) (hS : St μ)
    (hF : (((mI μ (hd 21 i0) 4) ≤ x2 → Q none μ) ∧ (¬ (mI μ (hd 21 i0) 4) ≤ x2 → (vp_in x2 400 ∧ (vp_in x2 400 ∧ mR μ (hd 22 i0) x2.toNatClampNeg ≠ none ∧ (((px μ (hd 22 i0) x2.toNatClampNeg) = 45 → (Cal K_Tk_worthAt (d - 1) 0 0 [.ref (hd 10 0), .int (mI μ (hd 23 i0) x2.toNatClampNeg)] μ (fun r μ11 => ∃ y12, r = some (.long y12) ∧ (vp_in x2 400 ∧ Wx K_Cd_settle d rc rs Q 2 [(0, .ref (hd 21 i0)), (1, .ref (hd 10 0)), (2, .int (x2 + 1))] [] (setI μ11 (hd 23 i0) x2.toNatClampNeg y12.toInt32))))) ∧ (¬ (px μ (hd 22 i0) x2.toNatClampNeg) = 45 → (((mI μ (hd 23 i0) x2.toNatClampNeg) = (-1) → Wx K_Cd_settle d rc rs Q 2 [(0, .ref (hd 21 i0)), (1, .ref (hd 10 0)), (2, .int (x2 + 1))] [] μ) ∧ (¬ (mI μ (hd 23 i0) x2.toNatClampNeg) = (-1) → (Cal K_Tk_meaningAt (d - 1) 0 0 [.ref (hd 10 0), .int ((mI μ (hd 23 i0) x2.toNatClampNeg) + (1 : Int32))] μ (fun r μ5 => ∃ y6, r = some (.int y6) ∧ (vp_in x2 400 ∧ (Cal K_Tk_meaningAt (d - 1) 0 0 [.ref (hd 10 0), .int ((mI μ (hd 23 i0) x2.toNatClampNeg) + (2 : Int32))] (setI μ5 (hd 23 i0) x2.toNatClampNeg y6) (fun r μ8 => ∃ y9, r = some (.int y9) ∧ (vp_in x2 400 ∧ Wx K_Cd_settle d rc rs Q 2 [(0, .ref (hd 21 i0)), (1, .ref (hd 10 0)), (2, .int (x2 + 1))] [] (setI μ8 (hd 24 i0) x2.toNatClampNeg y9)))))))))))))))) : Wx K_Cd_settle d rc rs Q 2 [(0, .ref (hd 21 i0)), (1, .ref (hd 10 0)), (2, .int x2)] [] μ := by
  refine Wa.iload_n (j := 2) d_Cd_settle_2 rfl ?_
  refine Wa.aload_n (j := 0) d_Cd_settle_3 rfl ?_
  refine Wx.getI 2 4 d_Cd_settle_4 f_Cd_4 fl_Cd_27 w_21 (s_21 hS h0) ?_
  refine Wa.icmp_ge 81 d_Cd_settle_7 (by decide) (fun hb => ?_) (fun hb => ?_)
  · have hF := hF.1 hb
    exact Wx.retv d_Cd_settle_81 rfl hF
  · have hF := hF.2 hb
    refine Wa.aload_n (j := 0) d_Cd_settle_10 rfl ?_
    refine Wx.getR 2 1 d_Cd_settle_11 f_Cd_1 rfl fl_Cd_17 (s_21 hS h0) (r_21_1 hS h0) ?_
    refine Wa.iload_n (j := 2) d_Cd_settle_14 rfl ?_
    have hc1 := hF.1
    have hF := hF.2
    have hlhc1 := vp_in_lt hc1
    refine Wx.iald d_Cd_settle_15 w_23 (s_23 hS h0) hc1 ?_
    refine Wa.istore_n (i := 3) (L' := [(3, .int (mI μ (hd 23 i0) x2.toNatClampNeg)), (0, .ref (hd 21 i0)), (1, .ref (hd 10 0)), (2, .int x2)]) d_Cd_settle_16 rfl (by decide) rfl ?_
    refine Wa.aload_n (j := 1) d_Cd_settle_17 rfl ?_
    refine Wx.getR 2 0 d_Cd_settle_18 f_Cd_0 rfl fl_Cd_11 (s_21 hS h0) (r_21_0 hS h0) ?_
    refine Wa.iload_n (j := 3) d_Cd_settle_21 rfl ?_
    have hc2 := hF.1
    have hF := hF.2
    have hlhc2 := vp_in_lt hc2
    have hc3 := hF.1
    have hF := hF.2
    have hp4 := e_22 (i := i0) hS h0 hc3
    refine Wa.aald (t := 14) (q := E_Ki) d_Cd_settle_22 rfl (s_22 hS h0) hc2 hp4.1 ?_
    refine Wx.gets d_Cd_settle_23 st_49 sf_Cd_34 ?_
    refine Wx.acmp_ne (κ := 0) 44 (by decide) kz kz d_Cd_settle_26 (by decide) (fun hb => ?_) (fun hb => ?_)
    · have hF := hF.2 hb
      refine Wa.iload_n (j := 0) d_Cd_settle_44 rfl ?_
      refine Wa.iconst (v := (-1)) d_Cd_settle_45 rfl ?_
      refine Wa.icmp_eq 75 d_Cd_settle_46 (by decide) (fun hb => ?_) (fun hb => ?_)
      · have hF := hF.1 hb
        refine Wa.iinc (i := 2) (j := 3) (v := (x2 + 1)) (L' := [(2, .int (x2 + 1)), (3, .int (mI μ (hd 23 i0) x2.toNatClampNeg)), (0, .ref (hd 21 i0)), (1, .ref (hd 10 0))]) d_Cd_settle_75 rfl rfl (by decide) rfl ?_
        refine Wa.goto 2 d_Cd_settle_78 (by decide) ?_
        exact Wa.loc [2, 3, 0] rfl hF
      · have hF := hF.2 hb
        refine Wa.aload_n (j := 1) d_Cd_settle_49 rfl ?_
        refine Wx.getR 2 1 d_Cd_settle_50 f_Cd_1 rfl fl_Cd_17 (s_21 hS h0) (r_21_1 hS h0) ?_
        refine Wa.iload_n (j := 3) d_Cd_settle_53 rfl ?_
        refine Wa.aload_n (j := 2) d_Cd_settle_54 rfl ?_
        refine Wa.iload_n (j := 0) d_Cd_settle_55 rfl ?_
        refine Wa.iconst (v := 1) d_Cd_settle_56 rfl ?_
        refine Wa.iadd d_Cd_settle_57 ?_
        refine Wx.cVi (q := E_Tk) (As := [.int ((mI μ (hd 23 i0) x2.toNatClampNeg) + (1 : Int32))]) 9 (d - 1) 0 0 _ d_Cd_settle_58 mok_Tk_meaningAt vl_Cd_44 rfl rfl rfl (Nat.le_of_ble_eq_true rfl) (by omega) (Nat.zero_le _) (Nat.zero_le _) (s_10 hS (by decide)) hF (fun y6 μ5 hS hF => ?_)
        have hc7 := hF.1
        have hF := hF.2
        have hlhc7 := vp_in_lt hc7
        refine Wa.iast d_Cd_settle_61 w_23 (s_23 hS h0) hc7 ?_
        refine Wa.aload_n (j := 1) d_Cd_settle_62 rfl ?_
        refine Wx.getR 2 2 d_Cd_settle_63 f_Cd_2 rfl fl_Cd_21 (s_21 hS h0) (r_21_2 hS h0) ?_
        refine Wa.iload_n (j := 3) d_Cd_settle_66 rfl ?_
        refine Wa.aload_n (j := 2) d_Cd_settle_67 rfl ?_
        refine Wa.iload_n (j := 0) d_Cd_settle_68 rfl ?_
        refine Wa.iconst (v := 2) d_Cd_settle_69 rfl ?_
        refine Wa.iadd d_Cd_settle_70 ?_
        refine Wx.cVi (q := E_Tk) (As := [.int ((mI μ (hd 23 i0) x2.toNatClampNeg) + (2 : Int32))]) 9 (d - 1) 0 0 _ d_Cd_settle_71 mok_Tk_meaningAt vl_Cd_44 rfl rfl rfl (Nat.le_of_ble_eq_true rfl) (by omega) (Nat.zero_le _) (Nat.zero_le _) (s_10 hS (by decide)) hF (fun y9 μ8 hS hF => ?_)
        have hc10 := hF.1
        have hF := hF.2
        have hlhc10 := vp_in_lt hc10
        refine Wa.iast d_Cd_settle_74 w_24 (s_24 hS h0) hc10 ?_
        refine Wa.iinc (i := 2) (j := 3) (v := (x2 + 1)) (L' := [(2, .int (x2 + 1)), (3, .int (mI μ (hd 23 i0) x2.toNatClampNeg)), (0, .ref (hd 21 i0)), (1, .ref (hd 10 0))]) d_Cd_settle_75 rfl rfl (by decide) rfl ?_
        refine Wa.goto 2 d_Cd_settle_78 (by decide) ?_
        exact Wa.loc [2, 3, 0] rfl hF
    · have hF := hF.1 hb
      refine Wa.aload_n (j := 1) d_Cd_settle_29 rfl ?_
      refine Wx.getR 2 1 d_Cd_settle_30 f_Cd_1 rfl fl_Cd_17 (s_21 hS h0) (r_21_1 hS h0) ?_
      refine Wa.iload_n (j := 3) d_Cd_settle_33 rfl ?_
      refine Wa.aload_n (j := 2) d_Cd_settle_34 rfl ?_
      refine Wa.iload_n (j := 0) d_Cd_settle_35 rfl ?_
      refine Wx.cVl (q := E_Tk) (As := [.int (mI μ (hd 23 i0) x2.toNatClampNeg)]) 9 (d - 1) 0 0 _ d_Cd_settle_36 mok_Tk_worthAt vl_Cd_38 rfl rfl rfl (Nat.le_of_ble_eq_true rfl) (by omega) (Nat.zero_le _) (Nat.zero_le _) (s_10 hS (by decide)) hF (fun y12 μ11 hS hF => ?_)
      refine Wa.l2i d_Cd_settle_39 ?_
      have hc13 := hF.1
      have hF := hF.2
      have hlhc13 := vp_in_lt hc13
      refine Wa.iast d_Cd_settle_40 w_23 (s_23 hS h0) hc13 ?_
      refine Wa.goto 75 d_Cd_settle_41 (by decide) ?_
      refine Wa.iinc (i := 2) (j := 3) (v := (x2 + 1)) (L' := [(2, .int (x2 + 1)), (3, .int (mI μ (hd 23 i0) x2.toNatClampNeg)), (0, .ref (hd 21 i0)), (1, .ref (hd 10 0))]) d_Cd_settle_75 rfl rfl (by decide) rfl ?_
      refine Wa.goto 2 d_Cd_settle_78 (by decide) ?_
      exact Wa.loc [2, 3, 0] rfl hF
set_option maxHeartbeats 4000000 in
set_option maxRecDepth 20000 in
theorem g_Cd_reckon_0 {d rc rs : Nat} {Q : Option Value → Mu → Prop} {μ : Mu} {i0 : Nat} {x1 : Int32} {x2 : Int32} {i3 : Nat} (hD : 1 ≤ d) (h0 : i0 < 2) (h3 : i3 < 2) (hS : St μ)
    (hF : Wx K_Cd_reckon d rc rs Q 8 [(0, .ref (hd 21 i0)), (2, .int x2), (3, .ref (hd 29 i3)), (4, .int x1)] [] (setI μ (hd 21 i0) 5 0)) : Wx K_Cd_reckon d rc rs Q 0 [(0, .ref (hd 21 i0)), (1, .int x1), (2, .int x2), (3, .ref (hd 29 i3))] [] μ := by
  refine Wa.aload_n (j := 0) d_Cd_reckon_0 rfl ?_
  refine Wa.iconst (v := 0) d_Cd_reckon_1 rfl ?_
  refine Wx.putI 2 5 d_Cd_reckon_2 f_Cd_5 ok_Cd fl_Cd_31 (Or.inl rfl) w_21 (s_21 hS h0) ?_
  refine Wa.iload_n (j := 1) d_Cd_reckon_5 rfl ?_
  refine Wa.istore (i := 4) (L' := [(4, .int x1), (0, .ref (hd 21 i0)), (1, .int x1), (2, .int x2), (3, .ref (hd 29 i3))]) d_Cd_reckon_6 (by decide) rfl ?_
  exact Wa.loc [1, 3, 4, 0] rfl hF
theorem e_Cd_reckon {d rc rs : Nat} {Q : Option Value → Mu → Prop} {μ : Mu} {i0 : Nat} {x1 : Int32} {x2 : Int32} {i3 : Nat} (hk : Wx K_Cd_reckon d rc rs (fun r μ' => St μ' ∧ Q r μ') 0 [(0, .ref (hd 21 i0)), (1, .int x1), (2, .int x2), (3, .ref (hd 29 i3))] [] μ) : Cal K_Cd_reckon d rc rs [.ref (hd 21 i0), .int x1, .int x2, .ref (hd 29 i3)] μ Q := Cal.of (by decide +kernel) rfl rfl (Nat.le_of_ble_eq_true rfl) rfl hk
set_option maxHeartbeats 4000000 in
set_option maxRecDepth 20000 in
theorem g_Cd_reckon_8 {d rc rs : Nat} {Q : Option Value → Mu → Prop} {μ : Mu} {i0 : Nat} {x2 : Int32} {i3 : Nat} {x4 : Int32} (hD : 1 ≤ d) (h0 : i0 < 2) (h3 : i3 < 2) (hS : St μ)
    (hF : ((x2 ≤ x4 → (Cal K_Cd_pop (d - 1) 0 0 [.ref (hd 21 i0)] μ (fun r μ1 => ∃ y2, r = some (.int y2) ∧ Q (some (.int y2)) μ1))) ∧ (¬ x2 ≤ x4 → (((mI μ (hd 21 i0) 4) ≤ x4 → (Cal K_Cd_pop (d - 1) 0 0 [.ref (hd 21 i0)] μ (fun r μ3 => ∃ y4, r = some (.int y4) ∧ Q (some (.int y4)) μ3))) ∧ (¬ (mI μ (hd 21 i0) 4) ≤ x4 → (vp_in x4 400 ∧ mR μ (hd 22 i0) x4.toNatClampNeg ≠ none ∧ ((((swv (px μ (hd 22 i0) x4.toNatClampNeg)) = 8) → (Cal K_Cd_pop (d - 1) 0 0 [.ref (hd 21 i0)] μ (fun r μ9 => ∃ y10, r = some (.int y10) ∧ (Cal K_Cd_push (d - 1) 0 0 [.ref (hd 21 i0), .int ((1 : Int32) - y10)] μ9 (fun r μ11 => r = none ∧ Wx K_Cd_reckon d rc rs Q 8 [(0, .ref (hd 21 i0)), (2, .int x2), (3, .ref (hd 29 i3)), (4, .int (x4 + 1))] [] μ11))))) ∧ (((swv (px μ (hd 22 i0) x4.toNatClampNeg)) = 10 ∨ (swv (px μ (hd 22 i0) x4.toNatClampNeg)) = 11 ∨ (swv (px μ (hd 22 i0) x4.toNatClampNeg)) = 18 ∨ (swv (px μ (hd 22 i0) x4.toNatClampNeg)) = 19 ∨ (swv (px μ (hd 22 i0) x4.toNatClampNeg)) = 20 ∨ (swv (px μ (hd 22 i0) x4.toNatClampNeg)) = 21 ∨ (swv (px μ (hd 22 i0) x4.toNatClampNeg)) = 22) → (vp_in x4 400 ∧ (vp_in x4 400 ∧ (Cal K_Wd_answer (d - 1) 0 0 [.ref (hd 29 i3), .ref (hd 0 (px μ (hd 22 i0) x4.toNatClampNeg)), .int (mI μ (hd 23 i0) x4.toNatClampNeg), .int (mI μ (hd 24 i0) x4.toNatClampNeg)] μ (fun r μ15 => ∃ y16, r = some (.int y16) ∧ (Cal K_Cd_push (d - 1) 0 0 [.ref (hd 21 i0), .int y16] μ15 (fun r μ17 => r = none ∧ Wx K_Cd_reckon d rc rs Q 8 [(0, .ref (hd 21 i0)), (2, .int x2), (3, .ref (hd 29 i3)), (4, .int (x4 + 1))] [] μ17))))))) ∧ (((swv (px μ (hd 22 i0) x4.toNatClampNeg)) = 17) → (vp_in x4 400 ∧ (Cal K_Cd_push (d - 1) 0 0 [.ref (hd 21 i0), .int (mI μ (hd 23 i0) x4.toNatClampNeg)] μ (fun r μ20 => r = none ∧ Wx K_Cd_reckon d rc rs Q 8 [(0, .ref (hd 21 i0)), (2, .int x2), (3, .ref (hd 29 i3)), (4, .int (x4 + 1))] [] μ20)))) ∧ (((swv (px μ (hd 22 i0) x4.toNatClampNeg)) = 30) → (Cal K_Cd_pop (d - 1) 0 0 [.ref (hd 21 i0)] μ (fun r μ22 => ∃ y23, r = some (.int y23) ∧ (Cal K_Cd_push (d - 1) 0 0 [.ref (hd 21 i0), .int (-y23)] μ22 (fun r μ24 => r = none ∧ Wx K_Cd_reckon d rc rs Q 8 [(0, .ref (hd 21 i0)), (2, .int x2), (3, .ref (hd 29 i3)), (4, .int (x4 + 1))] [] μ24))))) ∧ (((swv (px μ (hd 22 i0) x4.toNatClampNeg)).toInt < 8 ∨ 30 < (swv (px μ (hd 22 i0) x4.toNatClampNeg)).toInt ∨ (swv (px μ (hd 22 i0) x4.toNatClampNeg)) = 9 ∨ (swv (px μ (hd 22 i0) x4.toNatClampNeg)) = 12 ∨ (swv (px μ (hd 22 i0) x4.toNatClampNeg)) = 13 ∨ (swv (px μ (hd 22 i0) x4.toNatClampNeg)) = 14 ∨ (swv (px μ (hd 22 i0) x4.toNatClampNeg)) = 15 ∨ (swv (px μ (hd 22 i0) x4.toNatClampNeg)) = 16 ∨ (swv (px μ (hd 22 i0) x4.toNatClampNeg)) = 23 ∨ (swv (px μ (hd 22 i0) x4.toNatClampNeg)) = 24 ∨ (swv (px μ (hd 22 i0) x4.toNatClampNeg)) = 25 ∨ (swv (px μ (hd 22 i0) x4.toNatClampNeg)) = 26 ∨ (swv (px μ (hd 22 i0) x4.toNatClampNeg)) = 27 ∨ (swv (px μ (hd 22 i0) x4.toNatClampNeg)) = 28 ∨ (swv (px μ (hd 22 i0) x4.toNatClampNeg)) = 29) → (Cal K_Cd_pop (d - 1) 0 0 [.ref (hd 21 i0)] μ (fun r μ26 => ∃ y27, r = some (.int y27) ∧ (Cal K_Cd_pop (d - 1) 0 0 [.ref (hd 21 i0)] μ26 (fun r μ28 => ∃ y29, r = some (.int y29) ∧ (Cal K_Cd_joined (d - 1) 0 0 [.ref (hd 0 (px μ (hd 22 i0) x4.toNatClampNeg)), .int y29, .int y27] μ28 (fun r μ30 => ∃ y31, r = some (.int y31) ∧ (Cal K_Cd_push (d - 1) 0 0 [.ref (hd 21 i0), .int y31] μ30 (fun r μ32 => r = none ∧ Wx K_Cd_reckon d rc rs Q 8 [(0, .ref (hd 21 i0)), (2, .int x2), (3, .ref (hd 29 i3)), (4, .int (x4 + 1))] [] μ32)))))))))))))))) : Wx K_Cd_reckon d rc rs Q 8 [(0, .ref (hd 21 i0)), (2, .int x2), (3, .ref (hd 29 i3)), (4, .int x4)] [] μ := by
  refine Wa.iload (j := 3) d_Cd_reckon_8 rfl ?_
  refine Wa.iload_n (j := 1) d_Cd_reckon_10 rfl ?_
  refine Wa.icmp_ge 245 d_Cd_reckon_11 (by decide) (fun hb => ?_) (fun hb => ?_)
  · have hF := hF.1 hb
    refine Wa.aload_n (j := 0) d_Cd_reckon_245 rfl ?_
    refine Wx.cVi (q := E_Cd) (As := []) 2 (d - 1) 0 0 _ d_Cd_reckon_246 mok_Cd_pop vl_Cd_67 rfl rfl rfl (Nat.le_of_ble_eq_true rfl) (by omega) (Nat.zero_le _) (Nat.zero_le _) (s_21 hS h0) hF (fun y2 μ1 hS hF => ?_)
    exact Wx.reti d_Cd_reckon_249 rfl hF
  · have hF := hF.2 hb
    refine Wa.iload (j := 3) d_Cd_reckon_14 rfl ?_
    refine Wa.aload_n (j := 0) d_Cd_reckon_16 rfl ?_
    refine Wx.getI 2 4 d_Cd_reckon_17 f_Cd_4 fl_Cd_27 w_21 (s_21 hS h0) ?_
    refine Wa.icmp_ge 245 d_Cd_reckon_20 (by decide) (fun hb => ?_) (fun hb => ?_)
    · have hF := hF.1 hb
      refine Wa.aload_n (j := 0) d_Cd_reckon_245 rfl ?_
      refine Wx.cVi (q := E_Cd) (As := []) 2 (d - 1) 0 0 _ d_Cd_reckon_246 mok_Cd_pop vl_Cd_67 rfl rfl rfl (Nat.le_of_ble_eq_true rfl) (by omega) (Nat.zero_le _) (Nat.zero_le _) (s_21 hS h0) hF (fun y4 μ3 hS hF => ?_)
      exact Wx.reti d_Cd_reckon_249 rfl hF
    · have hF := hF.2 hb
      refine Wa.aload_n (j := 0) d_Cd_reckon_23 rfl ?_
      refine Wx.getR 2 0 d_Cd_reckon_24 f_Cd_0 rfl fl_Cd_11 (s_21 hS h0) (r_21_0 hS h0) ?_
      refine Wa.iload (j := 3) d_Cd_reckon_27 rfl ?_
      have hc5 := hF.1
      have hF := hF.2
      have hlhc5 := vp_in_lt hc5
      have hc6 := hF.1
      have hF := hF.2
      have hp7 := e_22 (i := i0) hS h0 hc6
      refine Wa.aald (t := 14) (q := E_Ki) d_Cd_reckon_29 rfl (s_22 hS h0) hc5 hp7.1 ?_
      refine Wa.astore (i := 5) (L' := [(5, .ref (hd 0 (px μ (hd 22 i0) x4.toNatClampNeg))), (0, .ref (hd 21 i0)), (2, .int x2), (3, .ref (hd 29 i3)), (4, .int x4)]) d_Cd_reckon_30 (by decide) rfl ?_
      refine Wx.gets d_Cd_reckon_32 st_1 sf_Cd_48 ?_
      refine Wa.aload (j := 0) d_Cd_reckon_35 rfl ?_
      refine Wx.ord hS d_Cd_reckon_37 ul_Cd_53 (Nat.le_of_ble_eq_true rfl) hD hp7.2 ?_
      refine Wx.swald hS d_Cd_reckon_40 hp7.2 ?_
      have k8 : ((swv (px μ (hd 22 i0) x4.toNatClampNeg)) = 8) → Wx K_Cd_reckon d rc rs Q 201 [(5, .ref (hd 0 (px μ (hd 22 i0) x4.toNatClampNeg))), (0, .ref (hd 21 i0)), (2, .int x2), (3, .ref (hd 29 i3)), (4, .int x4)] [] μ := by
        intro hb
        have hF := hF.1 hb
        refine Wa.aload_n (j := 1) d_Cd_reckon_201 rfl ?_
        refine Wa.iconst (v := 1) d_Cd_reckon_202 rfl ?_
        refine Wa.aload_n (j := 1) d_Cd_reckon_203 rfl ?_
        refine Wx.cVi (q := E_Cd) (As := []) 2 (d - 1) 0 0 _ d_Cd_reckon_204 mok_Cd_pop vl_Cd_67 rfl rfl rfl (Nat.le_of_ble_eq_true rfl) (by omega) (Nat.zero_le _) (Nat.zero_le _) (s_21 hS h0) hF (fun y10 μ9 hS hF => ?_)
        refine Wa.isub d_Cd_reckon_207 ?_
        refine Wx.cVv (q := E_Cd) (As := [.int ((1 : Int32) - y10)]) 2 (d - 1) 0 0 _ d_Cd_reckon_208 mok_Cd_push vl_Cd_57 rfl rfl rfl (Nat.le_of_ble_eq_true rfl) (by omega) (Nat.zero_le _) (Nat.zero_le _) (s_21 hS h0) hF (fun μ11 hS hF => ?_)
        refine Wa.goto 239 d_Cd_reckon_211 (by decide) ?_
        refine Wa.iinc (i := 4) (j := 4) (v := (x4 + 1)) (L' := [(4, .int (x4 + 1)), (5, .ref (hd 0 (px μ (hd 22 i0) x4.toNatClampNeg))), (0, .ref (hd 21 i0)), (2, .int x2), (3, .ref (hd 29 i3))]) d_Cd_reckon_239 rfl rfl (by decide) rfl ?_
        refine Wa.goto 8 d_Cd_reckon_242 (by decide) ?_
        exact Wa.loc [2, 3, 4, 0] rfl hF
      have k12 : ((swv (px μ (hd 22 i0) x4.toNatClampNeg)) = 10 ∨ (swv (px μ (hd 22 i0) x4.toNatClampNeg)) = 11 ∨ (swv (px μ (hd 22 i0) x4.toNatClampNeg)) = 18 ∨ (swv (px μ (hd 22 i0) x4.toNatClampNeg)) = 19 ∨ (swv (px μ (hd 22 i0) x4.toNatClampNeg)) = 20 ∨ (swv (px μ (hd 22 i0) x4.toNatClampNeg)) = 21 ∨ (swv (px μ (hd 22 i0) x4.toNatClampNeg)) = 22) → Wx K_Cd_reckon d rc rs Q 162 [(5, .ref (hd 0 (px μ (hd 22 i0) x4.toNatClampNeg))), (0, .ref (hd 21 i0)), (2, .int x2), (3, .ref (hd 29 i3)), (4, .int x4)] [] μ := by
        intro hb
        have hF := hF.2.1 hb
        refine Wa.aload_n (j := 1) d_Cd_reckon_162 rfl ?_
        refine Wa.aload_n (j := 3) d_Cd_reckon_163 rfl ?_
        refine Wa.aload (j := 0) d_Cd_reckon_164 rfl ?_
        refine Wa.aload_n (j := 1) d_Cd_reckon_166 rfl ?_
        refine Wx.getR 2 1 d_Cd_reckon_167 f_Cd_1 rfl fl_Cd_17 (s_21 hS h0) (r_21_1 hS h0) ?_
        refine Wa.iload (j := 4) d_Cd_reckon_170 rfl ?_
        have hc13 := hF.1
        have hF := hF.2
        have hlhc13 := vp_in_lt hc13
        refine Wx.iald d_Cd_reckon_172 w_23 (s_23 hS h0) hc13 ?_
        refine Wa.aload_n (j := 1) d_Cd_reckon_173 rfl ?_
        refine Wx.getR 2 2 d_Cd_reckon_174 f_Cd_2 rfl fl_Cd_21 (s_21 hS h0) (r_21_2 hS h0) ?_
        refine Wa.iload (j := 4) d_Cd_reckon_177 rfl ?_
        have hc14 := hF.1
        have hF := hF.2
        have hlhc14 := vp_in_lt hc14
        refine Wx.iald d_Cd_reckon_179 w_24 (s_24 hS h0) hc14 ?_
        refine Wx.cVi (q := E_Wd) (As := [.ref (hd 0 (px μ (hd 22 i0) x4.toNatClampNeg)), .int (mI μ (hd 23 i0) x4.toNatClampNeg), .int (mI μ (hd 24 i0) x4.toNatClampNeg)]) 10 (d - 1) 0 0 _ d_Cd_reckon_180 mok_Wd_answer vl_Cd_61 rfl rfl rfl (Nat.le_of_ble_eq_true rfl) (by omega) (Nat.zero_le _) (Nat.zero_le _) (s_29 hS h3) hF (fun y16 μ15 hS hF => ?_)
        refine Wx.cVv (q := E_Cd) (As := [.int y16]) 2 (d - 1) 0 0 _ d_Cd_reckon_183 mok_Cd_push vl_Cd_57 rfl rfl rfl (Nat.le_of_ble_eq_true rfl) (by omega) (Nat.zero_le _) (Nat.zero_le _) (s_21 hS h0) hF (fun μ17 hS hF => ?_)
        refine Wa.goto 239 d_Cd_reckon_186 (by decide) ?_
        refine Wa.iinc (i := 4) (j := 4) (v := (x4 + 1)) (L' := [(4, .int (x4 + 1)), (5, .ref (hd 0 (px μ (hd 22 i0) x4.toNatClampNeg))), (0, .ref (hd 21 i0)), (2, .int x2), (3, .ref (hd 29 i3))]) d_Cd_reckon_239 rfl rfl (by decide) rfl ?_
        refine Wa.goto 8 d_Cd_reckon_242 (by decide) ?_
        exact Wa.loc [2, 3, 4, 0] rfl hF
      have k18 : ((swv (px μ (hd 22 i0) x4.toNatClampNeg)) = 17) → Wx K_Cd_reckon d rc rs Q 148 [(5, .ref (hd 0 (px μ (hd 22 i0) x4.toNatClampNeg))), (0, .ref (hd 21 i0)), (2, .int x2), (3, .ref (hd 29 i3)), (4, .int x4)] [] μ := by
        intro hb
        have hF := hF.2.2.1 hb
        refine Wa.aload_n (j := 1) d_Cd_reckon_148 rfl ?_
        refine Wa.aload_n (j := 1) d_Cd_reckon_149 rfl ?_
        refine Wx.getR 2 1 d_Cd_reckon_150 f_Cd_1 rfl fl_Cd_17 (s_21 hS h0) (r_21_1 hS h0) ?_
        refine Wa.iload (j := 4) d_Cd_reckon_153 rfl ?_
        have hc19 := hF.1
        have hF := hF.2
        have hlhc19 := vp_in_lt hc19
        refine Wx.iald d_Cd_reckon_155 w_23 (s_23 hS h0) hc19 ?_
        refine Wx.cVv (q := E_Cd) (As := [.int (mI μ (hd 23 i0) x4.toNatClampNeg)]) 2 (d - 1) 0 0 _ d_Cd_reckon_156 mok_Cd_push vl_Cd_57 rfl rfl rfl (Nat.le_of_ble_eq_true rfl) (by omega) (Nat.zero_le _) (Nat.zero_le _) (s_21 hS h0) hF (fun μ20 hS hF => ?_)
        refine Wa.goto 239 d_Cd_reckon_159 (by decide) ?_
        refine Wa.iinc (i := 4) (j := 4) (v := (x4 + 1)) (L' := [(4, .int (x4 + 1)), (5, .ref (hd 0 (px μ (hd 22 i0) x4.toNatClampNeg))), (0, .ref (hd 21 i0)), (2, .int x2), (3, .ref (hd 29 i3))]) d_Cd_reckon_239 rfl rfl (by decide) rfl ?_
        refine Wa.goto 8 d_Cd_reckon_242 (by decide) ?_
        exact Wa.loc [2, 3, 4, 0] rfl hF
      have k21 : ((swv (px μ (hd 22 i0) x4.toNatClampNeg)) = 30) → Wx K_Cd_reckon d rc rs Q 189 [(5, .ref (hd 0 (px μ (hd 22 i0) x4.toNatClampNeg))), (0, .ref (hd 21 i0)), (2, .int x2), (3, .ref (hd 29 i3)), (4, .int x4)] [] μ := by
        intro hb
        have hF := hF.2.2.2.1 hb
        refine Wa.aload_n (j := 1) d_Cd_reckon_189 rfl ?_
        refine Wa.aload_n (j := 1) d_Cd_reckon_190 rfl ?_
        refine Wx.cVi (q := E_Cd) (As := []) 2 (d - 1) 0 0 _ d_Cd_reckon_191 mok_Cd_pop vl_Cd_67 rfl rfl rfl (Nat.le_of_ble_eq_true rfl) (by omega) (Nat.zero_le _) (Nat.zero_le _) (s_21 hS h0) hF (fun y23 μ22 hS hF => ?_)
        refine Wa.ineg d_Cd_reckon_194 ?_
        refine Wx.cVv (q := E_Cd) (As := [.int (-y23)]) 2 (d - 1) 0 0 _ d_Cd_reckon_195 mok_Cd_push vl_Cd_57 rfl rfl rfl (Nat.le_of_ble_eq_true rfl) (by omega) (Nat.zero_le _) (Nat.zero_le _) (s_21 hS h0) hF (fun μ24 hS hF => ?_)
        refine Wa.goto 239 d_Cd_reckon_198 (by decide) ?_
        refine Wa.iinc (i := 4) (j := 4) (v := (x4 + 1)) (L' := [(4, .int (x4 + 1)), (5, .ref (hd 0 (px μ (hd 22 i0) x4.toNatClampNeg))), (0, .ref (hd 21 i0)), (2, .int x2), (3, .ref (hd 29 i3))]) d_Cd_reckon_239 rfl rfl (by decide) rfl ?_
        refine Wa.goto 8 d_Cd_reckon_242 (by decide) ?_
        exact Wa.loc [2, 3, 4, 0] rfl hF
      have k25 : ((swv (px μ (hd 22 i0) x4.toNatClampNeg)).toInt < 8 ∨ 30 < (swv (px μ (hd 22 i0) x4.toNatClampNeg)).toInt ∨ (swv (px μ (hd 22 i0) x4.toNatClampNeg)) = 9 ∨ (swv (px μ (hd 22 i0) x4.toNatClampNeg)) = 12 ∨ (swv (px μ (hd 22 i0) x4.toNatClampNeg)) = 13 ∨ (swv (px μ (hd 22 i0) x4.toNatClampNeg)) = 14 ∨ (swv (px μ (hd 22 i0) x4.toNatClampNeg)) = 15 ∨ (swv (px μ (hd 22 i0) x4.toNatClampNeg)) = 16 ∨ (swv (px μ (hd 22 i0) x4.toNatClampNeg)) = 23 ∨ (swv (px μ (hd 22 i0) x4.toNatClampNeg)) = 24 ∨ (swv (px μ (hd 22 i0) x4.toNatClampNeg)) = 25 ∨ (swv (px μ (hd 22 i0) x4.toNatClampNeg)) = 26 ∨ (swv (px μ (hd 22 i0) x4.toNatClampNeg)) = 27 ∨ (swv (px μ (hd 22 i0) x4.toNatClampNeg)) = 28 ∨ (swv (px μ (hd 22 i0) x4.toNatClampNeg)) = 29) → Wx K_Cd_reckon d rc rs Q 214 [(5, .ref (hd 0 (px μ (hd 22 i0) x4.toNatClampNeg))), (0, .ref (hd 21 i0)), (2, .int x2), (3, .ref (hd 29 i3)), (4, .int x4)] [] μ := by
        intro hb
        have hF := hF.2.2.2.2 hb
        refine Wa.aload_n (j := 1) d_Cd_reckon_214 rfl ?_
        refine Wx.cVi (q := E_Cd) (As := []) 2 (d - 1) 0 0 _ d_Cd_reckon_215 mok_Cd_pop vl_Cd_67 rfl rfl rfl (Nat.le_of_ble_eq_true rfl) (by omega) (Nat.zero_le _) (Nat.zero_le _) (s_21 hS h0) hF (fun y27 μ26 hS hF => ?_)
        refine Wa.istore (i := 6) (L' := [(6, .int y27), (5, .ref (hd 0 (px μ (hd 22 i0) x4.toNatClampNeg))), (0, .ref (hd 21 i0)), (2, .int x2), (3, .ref (hd 29 i3)), (4, .int x4)]) d_Cd_reckon_218 (by decide) rfl ?_
        refine Wa.aload_n (j := 2) d_Cd_reckon_220 rfl ?_
        refine Wx.cVi (q := E_Cd) (As := []) 2 (d - 1) 0 0 _ d_Cd_reckon_221 mok_Cd_pop vl_Cd_67 rfl rfl rfl (Nat.le_of_ble_eq_true rfl) (by omega) (Nat.zero_le _) (Nat.zero_le _) (s_21 hS h0) hF (fun y29 μ28 hS hF => ?_)
        refine Wa.istore (i := 7) (L' := [(7, .int y29), (6, .int y27), (5, .ref (hd 0 (px μ (hd 22 i0) x4.toNatClampNeg))), (0, .ref (hd 21 i0)), (2, .int x2), (3, .ref (hd 29 i3)), (4, .int x4)]) d_Cd_reckon_224 (by decide) rfl ?_
        refine Wa.aload_n (j := 3) d_Cd_reckon_226 rfl ?_
        refine Wa.aload (j := 2) d_Cd_reckon_227 rfl ?_
        refine Wa.iload (j := 0) d_Cd_reckon_229 rfl ?_
        refine Wa.iload (j := 1) d_Cd_reckon_231 rfl ?_
        refine Wx.cSi (As := [.ref (hd 0 (px μ (hd 22 i0) x4.toNatClampNeg)), .int y29, .int y27]) (d - 1) 0 0 _ d_Cd_reckon_233 mok_Cd_joined sl_Cd_70 rfl rfl (Nat.le_of_ble_eq_true rfl) (by omega) (Nat.zero_le _) (Nat.zero_le _) hF (fun y31 μ30 hS hF => ?_)
        refine Wx.cVv (q := E_Cd) (As := [.int y31]) 2 (d - 1) 0 0 _ d_Cd_reckon_236 mok_Cd_push vl_Cd_57 rfl rfl rfl (Nat.le_of_ble_eq_true rfl) (by omega) (Nat.zero_le _) (Nat.zero_le _) (s_21 hS h0) hF (fun μ32 hS hF => ?_)
        refine Wa.iinc (i := 4) (j := 6) (v := (x4 + 1)) (L' := [(4, .int (x4 + 1)), (7, .int y29), (6, .int y27), (5, .ref (hd 0 (px μ (hd 22 i0) x4.toNatClampNeg))), (0, .ref (hd 21 i0)), (2, .int x2), (3, .ref (hd 29 i3))]) d_Cd_reckon_239 rfl rfl (by decide) rfl ?_
        refine Wa.goto 8 d_Cd_reckon_242 (by decide) ?_
        exact Wa.loc [4, 5, 6, 0] rfl hF
      rcases sw_8_30 (swv (px μ (hd 22 i0) x4.toNatClampNeg)) with hb | hb | hb | hb | hb | hb | hb | hb | hb | hb | hb | hb | hb | hb | hb | hb | hb | hb | hb | hb | hb | hb | hb | hb | hb
      · exact Wa.tabOut 214 d_Cd_reckon_41 (Or.inl hb) (by decide) (k25 (Or.inl hb))
      · exact Wa.tabOut 214 d_Cd_reckon_41 (Or.inr hb) (by decide) (k25 (Or.inr (Or.inl hb)))
      · exact Wa.tabIn 201 d_Cd_reckon_41 (by rw [hb]; decide) (by rw [hb]; decide) (by rw [hb]; rfl) (by decide) (k8 hb)
      · exact Wa.tabIn 214 d_Cd_reckon_41 (by rw [hb]; decide) (by rw [hb]; decide) (by rw [hb]; rfl) (by decide) (k25 (Or.inr (Or.inr (Or.inl hb))))
      · exact Wa.tabIn 162 d_Cd_reckon_41 (by rw [hb]; decide) (by rw [hb]; decide) (by rw [hb]; rfl) (by decide) (k12 (Or.inl hb))
      · exact Wa.tabIn 162 d_Cd_reckon_41 (by rw [hb]; decide) (by rw [hb]; decide) (by rw [hb]; rfl) (by decide) (k12 (Or.inr (Or.inl hb)))
      · exact Wa.tabIn 214 d_Cd_reckon_41 (by rw [hb]; decide) (by rw [hb]; decide) (by rw [hb]; rfl) (by decide) (k25 (Or.inr (Or.inr (Or.inr (Or.inl hb)))))
      · exact Wa.tabIn 214 d_Cd_reckon_41 (by rw [hb]; decide) (by rw [hb]; decide) (by rw [hb]; rfl) (by decide) (k25 (Or.inr (Or.inr (Or.inr (Or.inr (Or.inl hb))))))
      · exact Wa.tabIn 214 d_Cd_reckon_41 (by rw [hb]; decide) (by rw [hb]; decide) (by rw [hb]; rfl) (by decide) (k25 (Or.inr (Or.inr (Or.inr (Or.inr (Or.inr (Or.inl hb)))))))
      · exact Wa.tabIn 214 d_Cd_reckon_41 (by rw [hb]; decide) (by rw [hb]; decide) (by rw [hb]; rfl) (by decide) (k25 (Or.inr (Or.inr (Or.inr (Or.inr (Or.inr (Or.inr (Or.inl hb))))))))
      · exact Wa.tabIn 214 d_Cd_reckon_41 (by rw [hb]; decide) (by rw [hb]; decide) (by rw [hb]; rfl) (by decide) (k25 (Or.inr (Or.inr (Or.inr (Or.inr (Or.inr (Or.inr (Or.inr (Or.inl hb)))))))))
      · exact Wa.tabIn 148 d_Cd_reckon_41 (by rw [hb]; decide) (by rw [hb]; decide) (by rw [hb]; rfl) (by decide) (k18 hb)
      · exact Wa.tabIn 162 d_Cd_reckon_41 (by rw [hb]; decide) (by rw [hb]; decide) (by rw [hb]; rfl) (by decide) (k12 (Or.inr (Or.inr (Or.inl hb))))
      · exact Wa.tabIn 162 d_Cd_reckon_41 (by rw [hb]; decide) (by rw [hb]; decide) (by rw [hb]; rfl) (by decide) (k12 (Or.inr (Or.inr (Or.inr (Or.inl hb)))))
      · exact Wa.tabIn 162 d_Cd_reckon_41 (by rw [hb]; decide) (by rw [hb]; decide) (by rw [hb]; rfl) (by decide) (k12 (Or.inr (Or.inr (Or.inr (Or.inr (Or.inl hb))))))
      · exact Wa.tabIn 162 d_Cd_reckon_41 (by rw [hb]; decide) (by rw [hb]; decide) (by rw [hb]; rfl) (by decide) (k12 (Or.inr (Or.inr (Or.inr (Or.inr (Or.inr (Or.inl hb)))))))
      · exact Wa.tabIn 162 d_Cd_reckon_41 (by rw [hb]; decide) (by rw [hb]; decide) (by rw [hb]; rfl) (by decide) (k12 (Or.inr (Or.inr (Or.inr (Or.inr (Or.inr (Or.inr hb)))))))
      · exact Wa.tabIn 214 d_Cd_reckon_41 (by rw [hb]; decide) (by rw [hb]; decide) (by rw [hb]; rfl) (by decide) (k25 (Or.inr (Or.inr (Or.inr (Or.inr (Or.inr (Or.inr (Or.inr (Or.inr (Or.inl hb))))))))))
      · exact Wa.tabIn 214 d_Cd_reckon_41 (by rw [hb]; decide) (by rw [hb]; decide) (by rw [hb]; rfl) (by decide) (k25 (Or.inr (Or.inr (Or.inr (Or.inr (Or.inr (Or.inr (Or.inr (Or.inr (Or.inr (Or.inl hb)))))))))))
      · exact Wa.tabIn 214 d_Cd_reckon_41 (by rw [hb]; decide) (by rw [hb]; decide) (by rw [hb]; rfl) (by decide) (k25 (Or.inr (Or.inr (Or.inr (Or.inr (Or.inr (Or.inr (Or.inr (Or.inr (Or.inr (Or.inr (Or.inl hb))))))))))))
      · exact Wa.tabIn 214 d_Cd_reckon_41 (by rw [hb]; decide) (by rw [hb]; decide) (by rw [hb]; rfl) (by decide) (k25 (Or.inr (Or.inr (Or.inr (Or.inr (Or.inr (Or.inr (Or.inr (Or.inr (Or.inr (Or.inr (Or.inr (Or.inl hb)))))))))))))
      · exact Wa.tabIn 214 d_Cd_reckon_41 (by rw [hb]; decide) (by rw [hb]; decide) (by rw [hb]; rfl) (by decide) (k25 (Or.inr (Or.inr (Or.inr (Or.inr (Or.inr (Or.inr (Or.inr (Or.inr (Or.inr (Or.inr (Or.inr (Or.inr (Or.inl hb))))))))))))))
      · exact Wa.tabIn 214 d_Cd_reckon_41 (by rw [hb]; decide) (by rw [hb]; decide) (by rw [hb]; rfl) (by decide) (k25 (Or.inr (Or.inr (Or.inr (Or.inr (Or.inr (Or.inr (Or.inr (Or.inr (Or.inr (Or.inr (Or.inr (Or.inr (Or.inr (Or.inl hb)))))))))))))))
      · exact Wa.tabIn 214 d_Cd_reckon_41 (by rw [hb]; decide) (by rw [hb]; decide) (by rw [hb]; rfl) (by decide) (k25 (Or.inr (Or.inr (Or.inr (Or.inr (Or.inr (Or.inr (Or.inr (Or.inr (Or.inr (Or.inr (Or.inr (Or.inr (Or.inr (Or.inr hb)))))))))))))))
      · exact Wa.tabIn 189 d_Cd_reckon_41 (by rw [hb]; decide) (by rw [hb]; decide) (by rw [hb]; rfl) (by decide) (k21 hb)
set_option maxHeartbeats 4000000 in
set_option maxRecDepth 20000 in
theorem g_Cd_joined_0 {d rc rs : Nat} {Q : Option Value → Mu → Prop} {μ : Mu} {i0 : Nat} {x1 : Int32} {x2 : Int32} (hD : 1 ≤ d) (h0 : i0 < 49) (hS : St μ)
    (hF : ((((swv i0) = 23) → Q (some (.int (x1 - x2))) μ) ∧ (((swv i0) = 25) → Q (some (.int (imin x1 x2))) μ) ∧ (((swv i0) = 26) → Q (some (.int (imax x1 x2))) μ) ∧ (((swv i0) = 31) → Q (some (.int (x1 + x2))) μ) ∧ (((swv i0) = 32) → Q (some (.int (x1 * x2))) μ) ∧ (((swv i0) = 33) → ((x2 = 0 → Q (some (.int 0)) μ) ∧ (¬ x2 = 0 → (¬ x2 = 0 ∧ Q (some (.int (x1 / x2))) μ)))) ∧ (((swv i0) = 34) → Q (some (.int (x1 &&& x2))) μ) ∧ (((swv i0) = 35) → Q (some (.int (x1 ||| x2))) μ) ∧ (((swv i0).toInt < 23 ∨ 35 < (swv i0).toInt ∨ (swv i0) = 24 ∨ (swv i0) = 27 ∨ (swv i0) = 28 ∨ (swv i0) = 29 ∨ (swv i0) = 30) → (Cal K_Cd_compares (d - 1) 0 0 [.ref (hd 0 i0), .int x1, .int x2] μ (fun r μ11 => ∃ y12, r = some (.int y12) ∧ ((y12 = 0 → Q (some (.int 0)) μ11) ∧ (¬ y12 = 0 → Q (some (.int 1)) μ11))))))) : Wx K_Cd_joined d rc rs Q 0 [(0, .ref (hd 0 i0)), (1, .int x1), (2, .int x2)] [] μ := by
  refine Wx.gets d_Cd_joined_0 st_1 sf_Cd_48 ?_
  refine Wa.aload_n (j := 0) d_Cd_joined_3 rfl ?_
  refine Wx.ord hS d_Cd_joined_4 ul_Cd_53 (Nat.le_of_ble_eq_true rfl) hD h0 ?_
  refine Wx.swald hS d_Cd_joined_7 h0 ?_
  have k1 : ((swv i0) = 23) → Wx K_Cd_joined d rc rs Q 80 [(0, .ref (hd 0 i0)), (1, .int x1), (2, .int x2)] [] μ := by
    intro hb
    have hF := hF.1 hb
    refine Wa.iload_n (j := 1) d_Cd_joined_80 rfl ?_
    refine Wa.iload_n (j := 2) d_Cd_joined_81 rfl ?_
    refine Wa.isub d_Cd_joined_82 ?_
    exact Wx.reti d_Cd_joined_83 rfl hF
  have k2 : ((swv i0) = 25) → Wx K_Cd_joined d rc rs Q 100 [(0, .ref (hd 0 i0)), (1, .int x1), (2, .int x2)] [] μ := by
    intro hb
    have hF := hF.2.1 hb
    refine Wa.iload_n (j := 1) d_Cd_joined_100 rfl ?_
    refine Wa.iload_n (j := 2) d_Cd_joined_101 rfl ?_
    refine Wx.mmin d_Cd_joined_102 mm_Cd_73 (Nat.le_of_ble_eq_true rfl) hD ?_
    exact Wx.reti d_Cd_joined_105 rfl hF
  have k3 : ((swv i0) = 26) → Wx K_Cd_joined d rc rs Q 106 [(0, .ref (hd 0 i0)), (1, .int x1), (2, .int x2)] [] μ := by
    intro hb
    have hF := hF.2.2.1 hb
    refine Wa.iload_n (j := 1) d_Cd_joined_106 rfl ?_
    refine Wa.iload_n (j := 2) d_Cd_joined_107 rfl ?_
    refine Wx.mmax d_Cd_joined_108 mm_Cd_79 (Nat.le_of_ble_eq_true rfl) hD ?_
    exact Wx.reti d_Cd_joined_111 rfl hF
  have k4 : ((swv i0) = 31) → Wx K_Cd_joined d rc rs Q 76 [(0, .ref (hd 0 i0)), (1, .int x1), (2, .int x2)] [] μ := by
    intro hb
    have hF := hF.2.2.2.1 hb
    refine Wa.iload_n (j := 1) d_Cd_joined_76 rfl ?_
    refine Wa.iload_n (j := 2) d_Cd_joined_77 rfl ?_
    refine Wa.iadd d_Cd_joined_78 ?_
    exact Wx.reti d_Cd_joined_79 rfl hF
  have k5 : ((swv i0) = 32) → Wx K_Cd_joined d rc rs Q 84 [(0, .ref (hd 0 i0)), (1, .int x1), (2, .int x2)] [] μ := by
    intro hb
    have hF := hF.2.2.2.2.1 hb
    refine Wa.iload_n (j := 1) d_Cd_joined_84 rfl ?_
    refine Wa.iload_n (j := 2) d_Cd_joined_85 rfl ?_
    refine Wa.imul d_Cd_joined_86 ?_
    exact Wx.reti d_Cd_joined_87 rfl hF
  have k6 : ((swv i0) = 33) → Wx K_Cd_joined d rc rs Q 88 [(0, .ref (hd 0 i0)), (1, .int x1), (2, .int x2)] [] μ := by
    intro hb
    have hF := hF.2.2.2.2.2.1 hb
    refine Wa.iload_n (j := 2) d_Cd_joined_88 rfl ?_
    refine Wa.if_ne 96 d_Cd_joined_89 (by decide) (fun hb => ?_) (fun hb => ?_)
    · have hF := hF.2 hb
      refine Wa.iload_n (j := 1) d_Cd_joined_96 rfl ?_
      refine Wa.iload_n (j := 2) d_Cd_joined_97 rfl ?_
      have hc7 := hF.1
      have hF := hF.2
      refine Wa.idiv d_Cd_joined_98 hc7 ?_
      exact Wx.reti d_Cd_joined_99 rfl hF
    · have hF := hF.1 hb
      refine Wa.iconst (v := 0) d_Cd_joined_92 rfl ?_
      refine Wa.goto 99 d_Cd_joined_93 (by decide) ?_
      exact Wx.reti d_Cd_joined_99 rfl hF
  have k8 : ((swv i0) = 34) → Wx K_Cd_joined d rc rs Q 112 [(0, .ref (hd 0 i0)), (1, .int x1), (2, .int x2)] [] μ := by
    intro hb
    have hF := hF.2.2.2.2.2.2.1 hb
    refine Wa.iload_n (j := 1) d_Cd_joined_112 rfl ?_
    refine Wa.iload_n (j := 2) d_Cd_joined_113 rfl ?_
    refine Wa.iand d_Cd_joined_114 ?_
    exact Wx.reti d_Cd_joined_115 rfl hF
  have k9 : ((swv i0) = 35) → Wx K_Cd_joined d rc rs Q 116 [(0, .ref (hd 0 i0)), (1, .int x1), (2, .int x2)] [] μ := by
    intro hb
    have hF := hF.2.2.2.2.2.2.2.1 hb
    refine Wa.iload_n (j := 1) d_Cd_joined_116 rfl ?_
    refine Wa.iload_n (j := 2) d_Cd_joined_117 rfl ?_
    refine Wa.ior d_Cd_joined_118 ?_
    exact Wx.reti d_Cd_joined_119 rfl hF
  have k10 : ((swv i0).toInt < 23 ∨ 35 < (swv i0).toInt ∨ (swv i0) = 24 ∨ (swv i0) = 27 ∨ (swv i0) = 28 ∨ (swv i0) = 29 ∨ (swv i0) = 30) → Wx K_Cd_joined d rc rs Q 120 [(0, .ref (hd 0 i0)), (1, .int x1), (2, .int x2)] [] μ := by
    intro hb
    have hF := hF.2.2.2.2.2.2.2.2 hb
    refine Wa.aload_n (j := 0) d_Cd_joined_120 rfl ?_
    refine Wa.iload_n (j := 1) d_Cd_joined_121 rfl ?_
    refine Wa.iload_n (j := 2) d_Cd_joined_122 rfl ?_
    refine Wx.cSi (As := [.ref (hd 0 i0), .int x1, .int x2]) (d - 1) 0 0 _ d_Cd_joined_123 mok_Cd_compares sl_Cd_82 rfl rfl (Nat.le_of_ble_eq_true rfl) (by omega) (Nat.zero_le _) (Nat.zero_le _) hF (fun y12 μ11 hS hF => ?_)
    refine Wa.if_eq 133 d_Cd_joined_126 (by decide) (fun hb => ?_) (fun hb => ?_)
    · have hF := hF.1 hb
      refine Wa.iconst (v := 0) d_Cd_joined_133 rfl ?_
      exact Wx.reti d_Cd_joined_134 rfl hF
    · have hF := hF.2 hb
      refine Wa.iconst (v := 1) d_Cd_joined_129 rfl ?_
      refine Wa.goto 134 d_Cd_joined_130 (by decide) ?_
      exact Wx.reti d_Cd_joined_134 rfl hF
  rcases sw_23_35 (swv i0) with hb | hb | hb | hb | hb | hb | hb | hb | hb | hb | hb | hb | hb | hb | hb
  · exact Wa.tabOut 120 d_Cd_joined_8 (Or.inl hb) (by decide) (k10 (Or.inl hb))
  · exact Wa.tabOut 120 d_Cd_joined_8 (Or.inr hb) (by decide) (k10 (Or.inr (Or.inl hb)))
  · exact Wa.tabIn 80 d_Cd_joined_8 (by rw [hb]; decide) (by rw [hb]; decide) (by rw [hb]; rfl) (by decide) (k1 hb)
  · exact Wa.tabIn 120 d_Cd_joined_8 (by rw [hb]; decide) (by rw [hb]; decide) (by rw [hb]; rfl) (by decide) (k10 (Or.inr (Or.inr (Or.inl hb))))
  · exact Wa.tabIn 100 d_Cd_joined_8 (by rw [hb]; decide) (by rw [hb]; decide) (by rw [hb]; rfl) (by decide) (k2 hb)
  · exact Wa.tabIn 106 d_Cd_joined_8 (by rw [hb]; decide) (by rw [hb]; decide) (by rw [hb]; rfl) (by decide) (k3 hb)
  · exact Wa.tabIn 120 d_Cd_joined_8 (by rw [hb]; decide) (by rw [hb]; decide) (by rw [hb]; rfl) (by decide) (k10 (Or.inr (Or.inr (Or.inr (Or.inl hb)))))
  · exact Wa.tabIn 120 d_Cd_joined_8 (by rw [hb]; decide) (by rw [hb]; decide) (by rw [hb]; rfl) (by decide) (k10 (Or.inr (Or.inr (Or.inr (Or.inr (Or.inl hb))))))
  · exact Wa.tabIn 120 d_Cd_joined_8 (by rw [hb]; decide) (by rw [hb]; decide) (by rw [hb]; rfl) (by decide) (k10 (Or.inr (Or.inr (Or.inr (Or.inr (Or.inr (Or.inl hb)))))))
  · exact Wa.tabIn 120 d_Cd_joined_8 (by rw [hb]; decide) (by rw [hb]; decide) (by rw [hb]; rfl) (by decide) (k10 (Or.inr (Or.inr (Or.inr (Or.inr (Or.inr (Or.inr hb)))))))
  · exact Wa.tabIn 76 d_Cd_joined_8 (by rw [hb]; decide) (by rw [hb]; decide) (by rw [hb]; rfl) (by decide) (k4 hb)
  · exact Wa.tabIn 84 d_Cd_joined_8 (by rw [hb]; decide) (by rw [hb]; decide) (by rw [hb]; rfl) (by decide) (k5 hb)
  · exact Wa.tabIn 88 d_Cd_joined_8 (by rw [hb]; decide) (by rw [hb]; decide) (by rw [hb]; rfl) (by decide) (k6 hb)
  · exact Wa.tabIn 112 d_Cd_joined_8 (by rw [hb]; decide) (by rw [hb]; decide) (by rw [hb]; rfl) (by decide) (k8 hb)
  · exact Wa.tabIn 116 d_Cd_joined_8 (by rw [hb]; decide) (by rw [hb]; decide) (by rw [hb]; rfl) (by decide) (k9 hb)
theorem e_Cd_joined {d rc rs : Nat} {Q : Option Value → Mu → Prop} {μ : Mu} {i0 : Nat} {x1 : Int32} {x2 : Int32} (hk : Wx K_Cd_joined d rc rs (fun r μ' => St μ' ∧ Q r μ') 0 [(0, .ref (hd 0 i0)), (1, .int x1), (2, .int x2)] [] μ) : Cal K_Cd_joined d rc rs [.ref (hd 0 i0), .int x1, .int x2] μ Q := Cal.of (by decide +kernel) rfl rfl (Nat.le_of_ble_eq_true rfl) rfl hk
set_option maxHeartbeats 4000000 in
set_option maxRecDepth 20000 in
theorem g_Cd_compares_0 {d rc rs : Nat} {Q : Option Value → Mu → Prop} {μ : Mu} {i0 : Nat} {x1 : Int32} {x2 : Int32} (hD : 1 ≤ d) (h0 : i0 < 49) (hS : St μ)
    (hF : ((((swv i0) = 12) → ((x2 ≤ x1 → Q (some (.int 0)) μ) ∧ (¬ x2 ≤ x1 → Q (some (.int 1)) μ))) ∧ (((swv i0) = 13) → ((x1 ≤ x2 → Q (some (.int 0)) μ) ∧ (¬ x1 ≤ x2 → Q (some (.int 1)) μ))) ∧ (((swv i0) = 14) → ((x1 = x2 → Q (some (.int 1)) μ) ∧ (¬ x1 = x2 → Q (some (.int 0)) μ))) ∧ (((swv i0) = 15) → ((x2 < x1 → Q (some (.int 0)) μ) ∧ (¬ x2 < x1 → Q (some (.int 1)) μ))) ∧ (((swv i0) = 16) → ((x1 < x2 → Q (some (.int 0)) μ) ∧ (¬ x1 < x2 → Q (some (.int 1)) μ))) ∧ (((swv i0).toInt < 12 ∨ 16 < (swv i0).toInt) → Q (some (.int 0)) μ))) : Wx K_Cd_compares d rc rs Q 0 [(0, .ref (hd 0 i0)), (1, .int x1), (2, .int x2)] [] μ := by
  refine Wx.gets d_Cd_compares_0 st_1 sf_Cd_48 ?_
  refine Wa.aload_n (j := 0) d_Cd_compares_3 rfl ?_
  refine Wx.ord hS d_Cd_compares_4 ul_Cd_53 (Nat.le_of_ble_eq_true rfl) hD h0 ?_
  refine Wx.swald hS d_Cd_compares_7 h0 ?_
  have k1 : ((swv i0) = 12) → Wx K_Cd_compares d rc rs Q 44 [(0, .ref (hd 0 i0)), (1, .int x1), (2, .int x2)] [] μ := by
    intro hb
    have hF := hF.1 hb
    refine Wa.iload_n (j := 1) d_Cd_compares_44 rfl ?_
    refine Wa.iload_n (j := 2) d_Cd_compares_45 rfl ?_
    refine Wa.icmp_ge 53 d_Cd_compares_46 (by decide) (fun hb => ?_) (fun hb => ?_)
    · have hF := hF.1 hb
      refine Wa.iconst (v := 0) d_Cd_compares_53 rfl ?_
      exact Wx.retz d_Cd_compares_54 rfl (Or.inl rfl) hF
    · have hF := hF.2 hb
      refine Wa.iconst (v := 1) d_Cd_compares_49 rfl ?_
      refine Wa.goto 54 d_Cd_compares_50 (by decide) ?_
      exact Wx.retz d_Cd_compares_54 rfl (Or.inr rfl) hF
  have k2 : ((swv i0) = 13) → Wx K_Cd_compares d rc rs Q 55 [(0, .ref (hd 0 i0)), (1, .int x1), (2, .int x2)] [] μ := by
    intro hb
    have hF := hF.2.1 hb
    refine Wa.iload_n (j := 1) d_Cd_compares_55 rfl ?_
    refine Wa.iload_n (j := 2) d_Cd_compares_56 rfl ?_
    refine Wa.icmp_le 64 d_Cd_compares_57 (by decide) (fun hb => ?_) (fun hb => ?_)
    · have hF := hF.1 hb
      refine Wa.iconst (v := 0) d_Cd_compares_64 rfl ?_
      exact Wx.retz d_Cd_compares_65 rfl (Or.inl rfl) hF
    · have hF := hF.2 hb
      refine Wa.iconst (v := 1) d_Cd_compares_60 rfl ?_
      refine Wa.goto 65 d_Cd_compares_61 (by decide) ?_
      exact Wx.retz d_Cd_compares_65 rfl (Or.inr rfl) hF
  have k3 : ((swv i0) = 14) → Wx K_Cd_compares d rc rs Q 66 [(0, .ref (hd 0 i0)), (1, .int x1), (2, .int x2)] [] μ := by
    intro hb
    have hF := hF.2.2.1 hb
    refine Wa.iload_n (j := 1) d_Cd_compares_66 rfl ?_
    refine Wa.iload_n (j := 2) d_Cd_compares_67 rfl ?_
    refine Wa.icmp_ne 75 d_Cd_compares_68 (by decide) (fun hb => ?_) (fun hb => ?_)
    · have hF := hF.2 hb
      refine Wa.iconst (v := 0) d_Cd_compares_75 rfl ?_
      exact Wx.retz d_Cd_compares_76 rfl (Or.inl rfl) hF
    · have hF := hF.1 hb
      refine Wa.iconst (v := 1) d_Cd_compares_71 rfl ?_
      refine Wa.goto 76 d_Cd_compares_72 (by decide) ?_
      exact Wx.retz d_Cd_compares_76 rfl (Or.inr rfl) hF
  have k4 : ((swv i0) = 15) → Wx K_Cd_compares d rc rs Q 77 [(0, .ref (hd 0 i0)), (1, .int x1), (2, .int x2)] [] μ := by
    intro hb
    have hF := hF.2.2.2.1 hb
    refine Wa.iload_n (j := 1) d_Cd_compares_77 rfl ?_
    refine Wa.iload_n (j := 2) d_Cd_compares_78 rfl ?_
    refine Wa.icmp_gt 86 d_Cd_compares_79 (by decide) (fun hb => ?_) (fun hb => ?_)
    · have hF := hF.1 hb
      refine Wa.iconst (v := 0) d_Cd_compares_86 rfl ?_
      exact Wx.retz d_Cd_compares_87 rfl (Or.inl rfl) hF
    · have hF := hF.2 hb
      refine Wa.iconst (v := 1) d_Cd_compares_82 rfl ?_
      refine Wa.goto 87 d_Cd_compares_83 (by decide) ?_
      exact Wx.retz d_Cd_compares_87 rfl (Or.inr rfl) hF
  have k5 : ((swv i0) = 16) → Wx K_Cd_compares d rc rs Q 88 [(0, .ref (hd 0 i0)), (1, .int x1), (2, .int x2)] [] μ := by
    intro hb
    have hF := hF.2.2.2.2.1 hb
    refine Wa.iload_n (j := 1) d_Cd_compares_88 rfl ?_
    refine Wa.iload_n (j := 2) d_Cd_compares_89 rfl ?_
    refine Wa.icmp_lt 97 d_Cd_compares_90 (by decide) (fun hb => ?_) (fun hb => ?_)
    · have hF := hF.1 hb
      refine Wa.iconst (v := 0) d_Cd_compares_97 rfl ?_
      exact Wx.retz d_Cd_compares_98 rfl (Or.inl rfl) hF
    · have hF := hF.2 hb
      refine Wa.iconst (v := 1) d_Cd_compares_93 rfl ?_
      refine Wa.goto 98 d_Cd_compares_94 (by decide) ?_
      exact Wx.retz d_Cd_compares_98 rfl (Or.inr rfl) hF
  have k6 : ((swv i0).toInt < 12 ∨ 16 < (swv i0).toInt) → Wx K_Cd_compares d rc rs Q 99 [(0, .ref (hd 0 i0)), (1, .int x1), (2, .int x2)] [] μ := by
    intro hb
    have hF := hF.2.2.2.2.2 hb
    refine Wa.iconst (v := 0) d_Cd_compares_99 rfl ?_
    exact Wx.retz d_Cd_compares_100 rfl (Or.inl rfl) hF
  rcases sw_12_16 (swv i0) with hb | hb | hb | hb | hb | hb | hb
  · exact Wa.tabOut 99 d_Cd_compares_8 (Or.inl hb) (by decide) (k6 (Or.inl hb))
  · exact Wa.tabOut 99 d_Cd_compares_8 (Or.inr hb) (by decide) (k6 (Or.inr hb))
  · exact Wa.tabIn 44 d_Cd_compares_8 (by rw [hb]; decide) (by rw [hb]; decide) (by rw [hb]; rfl) (by decide) (k1 hb)
  · exact Wa.tabIn 55 d_Cd_compares_8 (by rw [hb]; decide) (by rw [hb]; decide) (by rw [hb]; rfl) (by decide) (k2 hb)
  · exact Wa.tabIn 66 d_Cd_compares_8 (by rw [hb]; decide) (by rw [hb]; decide) (by rw [hb]; rfl) (by decide) (k3 hb)
  · exact Wa.tabIn 77 d_Cd_compares_8 (by rw [hb]; decide) (by rw [hb]; decide) (by rw [hb]; rfl) (by decide) (k4 hb)
  · exact Wa.tabIn 88 d_Cd_compares_8 (by rw [hb]; decide) (by rw [hb]; decide) (by rw [hb]; rfl) (by decide) (k5 hb)
theorem e_Cd_compares {d rc rs : Nat} {Q : Option Value → Mu → Prop} {μ : Mu} {i0 : Nat} {x1 : Int32} {x2 : Int32} (hk : Wx K_Cd_compares d rc rs (fun r μ' => St μ' ∧ Q r μ') 0 [(0, .ref (hd 0 i0)), (1, .int x1), (2, .int x2)] [] μ) : Cal K_Cd_compares d rc rs [.ref (hd 0 i0), .int x1, .int x2] μ Q := Cal.of (by decide +kernel) rfl rfl (Nat.le_of_ble_eq_true rfl) rfl hk
set_option maxHeartbeats 4000000 in
set_option maxRecDepth 20000 in
theorem g_Cd_push_0 {d rc rs : Nat} {Q : Option Value → Mu → Prop} {μ : Mu} {i0 : Nat} {x1 : Int32} (hD : 1 ≤ d) (h0 : i0 < 2) (hS : St μ)
    (hF : (((nI 400) ≤ (mI μ (hd 21 i0) 5) → Q none μ) ∧ (¬ (nI 400) ≤ (mI μ (hd 21 i0) 5) → (vp_in (mI μ (hd 21 i0) 5) 400 ∧ Q none (setI (setI μ (hd 25 i0) (mI μ (hd 21 i0) 5).toNatClampNeg x1) (hd 21 i0) 5 ((mI (setI μ (hd 25 i0) (mI μ (hd 21 i0) 5).toNatClampNeg x1) (hd 21 i0) 5) + (1 : Int32))))))) : Wx K_Cd_push d rc rs Q 0 [(0, .ref (hd 21 i0)), (1, .int x1)] [] μ := by
  refine Wa.aload_n (j := 0) d_Cd_push_0 rfl ?_
  refine Wx.getI 2 5 d_Cd_push_1 f_Cd_5 fl_Cd_31 w_21 (s_21 hS h0) ?_
  refine Wa.aload_n (j := 0) d_Cd_push_4 rfl ?_
  refine Wx.getR 2 3 d_Cd_push_5 f_Cd_3 rfl fl_Cd_24 (s_21 hS h0) (r_21_3 hS h0) ?_
  refine Wa.alen d_Cd_push_8 (s_25 hS h0) (by decide) ?_
  refine Wa.icmp_ge 32 d_Cd_push_9 (by decide) (fun hb => ?_) (fun hb => ?_)
  · have hF := hF.1 hb
    exact Wx.retv d_Cd_push_32 rfl hF
  · have hF := hF.2 hb
    refine Wa.aload_n (j := 0) d_Cd_push_12 rfl ?_
    refine Wx.getR 2 3 d_Cd_push_13 f_Cd_3 rfl fl_Cd_24 (s_21 hS h0) (r_21_3 hS h0) ?_
    refine Wa.aload_n (j := 0) d_Cd_push_16 rfl ?_
    refine Wx.getI 2 5 d_Cd_push_17 f_Cd_5 fl_Cd_31 w_21 (s_21 hS h0) ?_
    refine Wa.iload_n (j := 1) d_Cd_push_20 rfl ?_
    have hc1 := hF.1
    have hF := hF.2
    have hlhc1 := vp_in_lt hc1
    refine Wa.iast d_Cd_push_21 w_25 (s_25 hS h0) hc1 ?_
    refine Wa.aload_n (j := 0) d_Cd_push_22 rfl ?_
    refine Wa.dup d_Cd_push_23 rfl ?_
    refine Wx.getI 2 5 d_Cd_push_24 f_Cd_5 fl_Cd_31 w_21 (s_21 hS h0) ?_
    refine Wa.iconst (v := 1) d_Cd_push_27 rfl ?_
    refine Wa.iadd d_Cd_push_28 ?_
    refine Wx.putI 2 5 d_Cd_push_29 f_Cd_5 ok_Cd fl_Cd_31 (Or.inl rfl) w_21 (s_21 hS h0) ?_
    exact Wx.retv d_Cd_push_32 rfl hF
theorem e_Cd_push {d rc rs : Nat} {Q : Option Value → Mu → Prop} {μ : Mu} {i0 : Nat} {x1 : Int32} (hk : Wx K_Cd_push d rc rs (fun r μ' => St μ' ∧ Q r μ') 0 [(0, .ref (hd 21 i0)), (1, .int x1)] [] μ) : Cal K_Cd_push d rc rs [.ref (hd 21 i0), .int x1] μ Q := Cal.of (by decide +kernel) rfl rfl (Nat.le_of_ble_eq_true rfl) rfl hk
set_option maxHeartbeats 4000000 in
set_option maxRecDepth 20000 in
theorem g_Cd_pop_0 {d rc rs : Nat} {Q : Option Value → Mu → Prop} {μ : Mu} {i0 : Nat} (hD : 1 ≤ d) (h0 : i0 < 2) (hS : St μ)
    (hF : ((0 < (mI μ (hd 21 i0) 5) → (vp_in (mI (setI μ (hd 21 i0) 5 ((mI μ (hd 21 i0) 5) - (1 : Int32))) (hd 21 i0) 5) 400 ∧ Q (some (.int (mI (setI μ (hd 21 i0) 5 ((mI μ (hd 21 i0) 5) - (1 : Int32))) (hd 25 i0) (mI (setI μ (hd 21 i0) 5 ((mI μ (hd 21 i0) 5) - (1 : Int32))) (hd 21 i0) 5).toNatClampNeg))) (setI μ (hd 21 i0) 5 ((mI μ (hd 21 i0) 5) - (1 : Int32))))) ∧ (¬ 0 < (mI μ (hd 21 i0) 5) → Q (some (.int 0)) μ))) : Wx K_Cd_pop d rc rs Q 0 [(0, .ref (hd 21 i0))] [] μ := by
  refine Wa.aload_n (j := 0) d_Cd_pop_0 rfl ?_
  refine Wx.getI 2 5 d_Cd_pop_1 f_Cd_5 fl_Cd_31 w_21 (s_21 hS h0) ?_
  refine Wa.if_gt 9 d_Cd_pop_4 (by decide) (fun hb => ?_) (fun hb => ?_)
  · have hF := hF.1 hb
    refine Wa.aload_n (j := 0) d_Cd_pop_9 rfl ?_
    refine Wa.dup d_Cd_pop_10 rfl ?_
    refine Wx.getI 2 5 d_Cd_pop_11 f_Cd_5 fl_Cd_31 w_21 (s_21 hS h0) ?_
    refine Wa.iconst (v := 1) d_Cd_pop_14 rfl ?_
    refine Wa.isub d_Cd_pop_15 ?_
    refine Wx.putI 2 5 d_Cd_pop_16 f_Cd_5 ok_Cd fl_Cd_31 (Or.inl rfl) w_21 (s_21 hS h0) ?_
    refine Wa.aload_n (j := 0) d_Cd_pop_19 rfl ?_
    refine Wx.getR 2 3 d_Cd_pop_20 f_Cd_3 rfl fl_Cd_24 (s_21 hS h0) (r_21_3 hS h0) ?_
    refine Wa.aload_n (j := 0) d_Cd_pop_23 rfl ?_
    refine Wx.getI 2 5 d_Cd_pop_24 f_Cd_5 fl_Cd_31 w_21 (s_21 hS h0) ?_
    have hc1 := hF.1
    have hF := hF.2
    have hlhc1 := vp_in_lt hc1
    refine Wx.iald d_Cd_pop_27 w_25 (s_25 hS h0) hc1 ?_
    exact Wx.reti d_Cd_pop_28 rfl hF
  · have hF := hF.2 hb
    refine Wa.iconst (v := 0) d_Cd_pop_7 rfl ?_
    exact Wx.reti d_Cd_pop_8 rfl hF
theorem e_Cd_pop {d rc rs : Nat} {Q : Option Value → Mu → Prop} {μ : Mu} {i0 : Nat} (hk : Wx K_Cd_pop d rc rs (fun r μ' => St μ' ∧ Q r μ') 0 [(0, .ref (hd 21 i0))] [] μ) : Cal K_Cd_pop d rc rs [.ref (hd 21 i0)] μ Q := Cal.of (by decide +kernel) rfl rfl (Nat.le_of_ble_eq_true rfl) rfl hk
set_option maxHeartbeats 4000000 in
set_option maxRecDepth 20000 in
theorem g_Od_settle_0 {d rc rs : Nat} {Q : Option Value → Mu → Prop} {μ : Mu} {i0 : Nat} (hD : 1 ≤ d) (h0 : i0 < 42) (hS : St μ)
    (hF : (Cal K_Tk_meaningAt (d - 1) 0 0 [.ref (hd 10 0), .int ((mI μ (hd 26 i0) 1) + (1 : Int32))] μ (fun r μ1 => ∃ y2, r = some (.int y2) ∧ (((px μ1 (hd 26 i0) 0) = 9 → Q none (setI μ1 (hd 26 i0) 4 y2)) ∧ (¬ (px μ1 (hd 26 i0) 0) = 9 → (Cal K_Tk_meaningAt (d - 1) 0 0 [.ref (hd 10 0), .int ((mI (setI μ1 (hd 26 i0) 2 y2) (hd 26 i0) 1) + (2 : Int32))] (setI μ1 (hd 26 i0) 2 y2) (fun r μ4 => ∃ y5, r = some (.int y5) ∧ Q none (setI μ4 (hd 26 i0) 3 y5)))))))) : Wx K_Od_settle d rc rs Q 0 [(0, .ref (hd 26 i0)), (1, .ref (hd 10 0))] [] μ := by
  refine Wa.aload_n (j := 1) d_Od_settle_0 rfl ?_
  refine Wa.aload_n (j := 0) d_Od_settle_1 rfl ?_
  refine Wx.getI 5 1 d_Od_settle_2 f_Od_1 fl_Od_20 w_26 (s_26 hS h0) ?_
  refine Wa.iconst (v := 1) d_Od_settle_5 rfl ?_
  refine Wa.iadd d_Od_settle_6 ?_
  refine Wx.cVi (q := E_Tk) (As := [.int ((mI μ (hd 26 i0) 1) + (1 : Int32))]) 9 (d - 1) 0 0 _ d_Od_settle_7 mok_Tk_meaningAt vl_Od_45 rfl rfl rfl (Nat.le_of_ble_eq_true rfl) (by omega) (Nat.zero_le _) (Nat.zero_le _) (s_10 hS (by decide)) hF (fun y2 μ1 hS hF => ?_)
  refine Wa.istore_n (i := 2) (L' := [(2, .int y2), (0, .ref (hd 26 i0)), (1, .ref (hd 10 0))]) d_Od_settle_10 rfl (by decide) rfl ?_
  refine Wa.aload_n (j := 1) d_Od_settle_11 rfl ?_
  have hp3 := d_26_0 (i := i0) hS h0
  refine Wx.getR 5 0 d_Od_settle_12 f_Od_0 rfl fl_Od_15 (s_26 hS h0) (hp3.1) ?_
  refine Wx.gets d_Od_settle_15 st_13 sf_Od_9 ?_
  refine Wx.acmp_ne (κ := 0) 29 (by decide) kz kz d_Od_settle_18 (by decide) (fun hb => ?_) (fun hb => ?_)
  · have hF := hF.2 hb
    refine Wa.aload_n (j := 1) d_Od_settle_29 rfl ?_
    refine Wa.iload_n (j := 0) d_Od_settle_30 rfl ?_
    refine Wx.putI 5 2 d_Od_settle_31 f_Od_2 ok_Od fl_Od_24 (Or.inl rfl) w_26 (s_26 hS h0) ?_
    refine Wa.aload_n (j := 1) d_Od_settle_34 rfl ?_
    refine Wa.aload_n (j := 2) d_Od_settle_35 rfl ?_
    refine Wa.aload_n (j := 1) d_Od_settle_36 rfl ?_
    refine Wx.getI 5 1 d_Od_settle_37 f_Od_1 fl_Od_20 w_26 (s_26 hS h0) ?_
    refine Wa.iconst (v := 2) d_Od_settle_40 rfl ?_
    refine Wa.iadd d_Od_settle_41 ?_
    refine Wx.cVi (q := E_Tk) (As := [.int ((mI (setI μ1 (hd 26 i0) 2 y2) (hd 26 i0) 1) + (2 : Int32))]) 9 (d - 1) 0 0 _ d_Od_settle_42 mok_Tk_meaningAt vl_Od_45 rfl rfl rfl (Nat.le_of_ble_eq_true rfl) (by omega) (Nat.zero_le _) (Nat.zero_le _) (s_10 hS (by decide)) hF (fun y5 μ4 hS hF => ?_)
    refine Wx.putI 5 3 d_Od_settle_45 f_Od_3 ok_Od fl_Od_27 (Or.inl rfl) w_26 (s_26 hS h0) ?_
    exact Wx.retv d_Od_settle_48 rfl hF
  · have hF := hF.1 hb
    refine Wa.aload_n (j := 1) d_Od_settle_21 rfl ?_
    refine Wa.iload_n (j := 0) d_Od_settle_22 rfl ?_
    refine Wx.putI 5 4 d_Od_settle_23 f_Od_4 ok_Od fl_Od_30 (Or.inl rfl) w_26 (s_26 hS h0) ?_
    refine Wa.goto 48 d_Od_settle_26 (by decide) ?_
    exact Wx.retv d_Od_settle_48 rfl hF
theorem e_Od_settle {d rc rs : Nat} {Q : Option Value → Mu → Prop} {μ : Mu} {i0 : Nat} (hk : Wx K_Od_settle d rc rs (fun r μ' => St μ' ∧ Q r μ') 0 [(0, .ref (hd 26 i0)), (1, .ref (hd 10 0))] [] μ) : Cal K_Od_settle d rc rs [.ref (hd 26 i0), .ref (hd 10 0)] μ Q := Cal.of (by decide +kernel) rfl rfl (Nat.le_of_ble_eq_true rfl) rfl hk
set_option maxHeartbeats 4000000 in
set_option maxRecDepth 20000 in
theorem g_Od_hasTest_0 {d rc rs : Nat} {Q : Option Value → Mu → Prop} {μ : Mu} {i0 : Nat} (hD : 1 ≤ d) (h0 : i0 < 42) (hS : St μ)
    (hF : (((mI μ (hd 26 i0) 8) ≤ (mI μ (hd 26 i0) 7) → Q (some (.int 0)) μ) ∧ (¬ (mI μ (hd 26 i0) 8) ≤ (mI μ (hd 26 i0) 7) → Q (some (.int 1)) μ))) : Wx K_Od_hasTest d rc rs Q 0 [(0, .ref (hd 26 i0))] [] μ := by
  refine Wa.aload_n (j := 0) d_Od_hasTest_0 rfl ?_
  refine Wx.getI 5 8 d_Od_hasTest_1 f_Od_8 fl_Od_42 w_26 (s_26 hS h0) ?_
  refine Wa.aload_n (j := 0) d_Od_hasTest_4 rfl ?_
  refine Wx.getI 5 7 d_Od_hasTest_5 f_Od_7 fl_Od_39 w_26 (s_26 hS h0) ?_
  refine Wa.icmp_le 15 d_Od_hasTest_8 (by decide) (fun hb => ?_) (fun hb => ?_)
  · have hF := hF.1 hb
    refine Wa.iconst (v := 0) d_Od_hasTest_15 rfl ?_
    exact Wx.retz d_Od_hasTest_16 rfl (Or.inl rfl) hF
  · have hF := hF.2 hb
    refine Wa.iconst (v := 1) d_Od_hasTest_11 rfl ?_
    refine Wa.goto 16 d_Od_hasTest_12 (by decide) ?_
    exact Wx.retz d_Od_hasTest_16 rfl (Or.inr rfl) hF
theorem e_Od_hasTest {d rc rs : Nat} {Q : Option Value → Mu → Prop} {μ : Mu} {i0 : Nat} (hk : Wx K_Od_hasTest d rc rs (fun r μ' => St μ' ∧ Q r μ') 0 [(0, .ref (hd 26 i0))] [] μ) : Cal K_Od_hasTest d rc rs [.ref (hd 26 i0)] μ Q := Cal.of (by decide +kernel) rfl rfl (Nat.le_of_ble_eq_true rfl) rfl hk
set_option maxHeartbeats 4000000 in
set_option maxRecDepth 20000 in
theorem g_Pl_clear_0 {d rc rs : Nat} {Q : Option Value → Mu → Prop} {μ : Mu} {i0 : Nat} (hD : 1 ≤ d) (h0 : i0 < 2) (hS : St μ)
    (hF : Q none (setI (setI (setI (setI (setI μ (hd 21 i0) 4 0) (hd 18 i0) 3 0) (hd 18 i0) 4 0) (hd 18 i0) 5 0) (hd 18 i0) 6 0)) : Wx K_Pl_clear d rc rs Q 0 [(0, .ref (hd 18 i0))] [] μ := by
  refine Wa.aload_n (j := 0) d_Pl_clear_0 rfl ?_
  refine Wx.getR 6 0 d_Pl_clear_1 f_Pl_0 rfl fl_Pl_12 (s_18 hS h0) (r_18_0 hS h0) ?_
  refine Wa.iconst (v := 0) d_Pl_clear_4 rfl ?_
  refine Wx.putI 2 4 d_Pl_clear_5 f_Cd_4 ok_Cd fl_Pl_45 (Or.inl rfl) w_21 (s_21 hS h0) ?_
  refine Wa.aload_n (j := 0) d_Pl_clear_8 rfl ?_
  refine Wa.iconst (v := 0) d_Pl_clear_9 rfl ?_
  refine Wx.putI 6 3 d_Pl_clear_10 f_Pl_3 ok_Pl fl_Pl_30 (Or.inl rfl) w_18 (s_18 hS h0) ?_
  refine Wa.aload_n (j := 0) d_Pl_clear_13 rfl ?_
  refine Wa.iconst (v := 0) d_Pl_clear_14 rfl ?_
  refine Wx.putI 6 4 d_Pl_clear_15 f_Pl_4 ok_Pl fl_Pl_34 (Or.inl rfl) w_18 (s_18 hS h0) ?_
  refine Wa.aload_n (j := 0) d_Pl_clear_18 rfl ?_
  refine Wa.iconst (v := 0) d_Pl_clear_19 rfl ?_
  refine Wx.putI 6 5 d_Pl_clear_20 f_Pl_5 ok_Pl fl_Pl_37 (Or.inl rfl) w_18 (s_18 hS h0) ?_
  refine Wa.aload_n (j := 0) d_Pl_clear_23 rfl ?_
  refine Wa.iconst (v := 0) d_Pl_clear_24 rfl ?_
  refine Wx.putI 6 6 d_Pl_clear_25 f_Pl_6 ok_Pl fl_Pl_40 (Or.inl rfl) w_18 (s_18 hS h0) ?_
  exact Wx.retv d_Pl_clear_28 rfl hF
theorem e_Pl_clear {d rc rs : Nat} {Q : Option Value → Mu → Prop} {μ : Mu} {i0 : Nat} (hk : Wx K_Pl_clear d rc rs (fun r μ' => St μ' ∧ Q r μ') 0 [(0, .ref (hd 18 i0))] [] μ) : Cal K_Pl_clear d rc rs [.ref (hd 18 i0)] μ Q := Cal.of (by decide +kernel) rfl rfl (Nat.le_of_ble_eq_true rfl) rfl hk
set_option maxHeartbeats 4000000 in
set_option maxRecDepth 20000 in
theorem g_Pl_nextOrder_0 {d rc rs : Nat} {Q : Option Value → Mu → Prop} {μ : Mu} {i0 : Nat} (hD : 1 ≤ d) (h0 : i0 < 2) (hS : St μ)
    (hF : (vp_in (mI μ (hd 18 i0) 6) 21 ∧ ((20 ≤ (mI μ (hd 18 i0) 6) → Q (some (.ref (hd 26 (21 * i0 + (mI μ (hd 18 i0) 6).toNatClampNeg)))) μ) ∧ (¬ 20 ≤ (mI μ (hd 18 i0) 6) → Q (some (.ref (hd 26 (21 * i0 + (mI μ (hd 18 i0) 6).toNatClampNeg)))) (setI μ (hd 18 i0) 6 ((mI μ (hd 18 i0) 6) + (1 : Int32))))))) : Wx K_Pl_nextOrder d rc rs Q 0 [(0, .ref (hd 18 i0))] [] μ := by
  refine Wa.aload_n (j := 0) d_Pl_nextOrder_0 rfl ?_
  refine Wx.getR 6 2 d_Pl_nextOrder_1 f_Pl_2 rfl fl_Pl_26 (s_18 hS h0) (r_18_2 hS h0) ?_
  refine Wa.aload_n (j := 0) d_Pl_nextOrder_4 rfl ?_
  refine Wx.getI 6 6 d_Pl_nextOrder_5 f_Pl_6 fl_Pl_40 w_18 (s_18 hS h0) ?_
  have hc1 := hF.1
  have hF := hF.2
  have hlhc1 := vp_in_lt hc1
  have hb2 : (21 * i0 + (mI μ (hd 18 i0) 6).toNatClampNeg) < 42 := by have : i0 < 2 := h0; omega
  refine Wa.aald (t := 5) (q := E_Od) d_Pl_nextOrder_8 rfl (s_20 hS h0) hc1 (a_20 hS h0 hlhc1) ?_
  refine Wa.astore_n (i := 1) (L' := [(1, .ref (hd 26 (21 * i0 + (mI μ (hd 18 i0) 6).toNatClampNeg))), (0, .ref (hd 18 i0))]) d_Pl_nextOrder_9 rfl (by decide) rfl ?_
  refine Wa.aload_n (j := 1) d_Pl_nextOrder_10 rfl ?_
  refine Wx.getI 6 6 d_Pl_nextOrder_11 f_Pl_6 fl_Pl_40 w_18 (s_18 hS h0) ?_
  refine Wa.bipush (v := 20) d_Pl_nextOrder_14 rfl ?_
  refine Wa.icmp_ge 29 d_Pl_nextOrder_16 (by decide) (fun hb => ?_) (fun hb => ?_)
  · have hF := hF.1 hb
    refine Wa.aload_n (j := 0) d_Pl_nextOrder_29 rfl ?_
    exact Wx.reta d_Pl_nextOrder_30 rfl hF
  · have hF := hF.2 hb
    refine Wa.aload_n (j := 1) d_Pl_nextOrder_19 rfl ?_
    refine Wa.dup d_Pl_nextOrder_20 rfl ?_
    refine Wx.getI 6 6 d_Pl_nextOrder_21 f_Pl_6 fl_Pl_40 w_18 (s_18 hS h0) ?_
    refine Wa.iconst (v := 1) d_Pl_nextOrder_24 rfl ?_
    refine Wa.iadd d_Pl_nextOrder_25 ?_
    refine Wx.putI 6 6 d_Pl_nextOrder_26 f_Pl_6 ok_Pl fl_Pl_40 (Or.inl rfl) w_18 (s_18 hS h0) ?_
    refine Wa.aload_n (j := 0) d_Pl_nextOrder_29 rfl ?_
    exact Wx.reta d_Pl_nextOrder_30 rfl hF
theorem e_Pl_nextOrder {d rc rs : Nat} {Q : Option Value → Mu → Prop} {μ : Mu} {i0 : Nat} (hk : Wx K_Pl_nextOrder d rc rs (fun r μ' => St μ' ∧ Q r μ') 0 [(0, .ref (hd 18 i0))] [] μ) : Cal K_Pl_nextOrder d rc rs [.ref (hd 18 i0)] μ Q := Cal.of (by decide +kernel) rfl rfl (Nat.le_of_ble_eq_true rfl) rfl hk
set_option maxHeartbeats 4000000 in
set_option maxRecDepth 20000 in
theorem g_Pl_settle_0 {d rc rs : Nat} {Q : Option Value → Mu → Prop} {μ : Mu} {i0 : Nat} (hD : 1 ≤ d) (h0 : i0 < 2) (hS : St μ)
    (hF : (Cal K_Cd_settle (d - 1) 0 0 [.ref (hd 21 i0), .ref (hd 10 0)] μ (fun r μ1 => r = none ∧ Wx K_Pl_settle d rc rs Q 10 [(0, .ref (hd 18 i0)), (1, .ref (hd 10 0)), (2, .int 0)] [] μ1))) : Wx K_Pl_settle d rc rs Q 0 [(0, .ref (hd 18 i0)), (1, .ref (hd 10 0))] [] μ := by
  refine Wa.aload_n (j := 0) d_Pl_settle_0 rfl ?_
  refine Wx.getR 6 0 d_Pl_settle_1 f_Pl_0 rfl fl_Pl_12 (s_18 hS h0) (r_18_0 hS h0) ?_
  refine Wa.aload_n (j := 1) d_Pl_settle_4 rfl ?_
  refine Wx.cVv (q := E_Cd) (As := [.ref (hd 10 0)]) 2 (d - 1) 0 0 _ d_Pl_settle_5 mok_Cd_settle vl_Pl_48 rfl rfl rfl (Nat.le_of_ble_eq_true rfl) (by omega) (Nat.zero_le _) (Nat.zero_le _) (s_21 hS h0) hF (fun μ1 hS hF => ?_)
  refine Wa.iconst (v := 0) d_Pl_settle_8 rfl ?_
  refine Wa.istore_n (i := 2) (L' := [(2, .int 0), (0, .ref (hd 18 i0)), (1, .ref (hd 10 0))]) d_Pl_settle_9 rfl (by decide) rfl ?_
  exact Wa.loc [1, 2, 0] rfl hF
theorem e_Pl_settle {d rc rs : Nat} {Q : Option Value → Mu → Prop} {μ : Mu} {i0 : Nat} (hk : Wx K_Pl_settle d rc rs (fun r μ' => St μ' ∧ Q r μ') 0 [(0, .ref (hd 18 i0)), (1, .ref (hd 10 0))] [] μ) : Cal K_Pl_settle d rc rs [.ref (hd 18 i0), .ref (hd 10 0)] μ Q := Cal.of (by decide +kernel) rfl rfl (Nat.le_of_ble_eq_true rfl) rfl hk
set_option maxHeartbeats 4000000 in
set_option maxRecDepth 20000 in
theorem g_Pl_settle_10 {d rc rs : Nat} {Q : Option Value → Mu → Prop} {μ : Mu} {i0 : Nat} {x2 : Int32} (hD : 1 ≤ d) (h0 : i0 < 2) (hS : St μ)
    (hF : (((mI μ (hd 18 i0) 6) ≤ x2 → Q none μ) ∧ (¬ (mI μ (hd 18 i0) 6) ≤ x2 → (vp_in x2 21 ∧ (Cal K_Od_settle (d - 1) 0 0 [.ref (hd 26 (21 * i0 + x2.toNatClampNeg)), .ref (hd 10 0)] μ (fun r μ3 => r = none ∧ Wx K_Pl_settle d rc rs Q 10 [(0, .ref (hd 18 i0)), (1, .ref (hd 10 0)), (2, .int (x2 + 1))] [] μ3)))))) : Wx K_Pl_settle d rc rs Q 10 [(0, .ref (hd 18 i0)), (1, .ref (hd 10 0)), (2, .int x2)] [] μ := by
  refine Wa.iload_n (j := 2) d_Pl_settle_10 rfl ?_
  refine Wa.aload_n (j := 0) d_Pl_settle_11 rfl ?_
  refine Wx.getI 6 6 d_Pl_settle_12 f_Pl_6 fl_Pl_40 w_18 (s_18 hS h0) ?_
  refine Wa.icmp_ge 34 d_Pl_settle_15 (by decide) (fun hb => ?_) (fun hb => ?_)
  · have hF := hF.1 hb
    exact Wx.retv d_Pl_settle_34 rfl hF
  · have hF := hF.2 hb
    refine Wa.aload_n (j := 0) d_Pl_settle_18 rfl ?_
    refine Wx.getR 6 2 d_Pl_settle_19 f_Pl_2 rfl fl_Pl_26 (s_18 hS h0) (r_18_2 hS h0) ?_
    refine Wa.iload_n (j := 2) d_Pl_settle_22 rfl ?_
    have hc1 := hF.1
    have hF := hF.2
    have hlhc1 := vp_in_lt hc1
    have hb2 : (21 * i0 + x2.toNatClampNeg) < 42 := by have : i0 < 2 := h0; omega
    refine Wa.aald (t := 5) (q := E_Od) d_Pl_settle_23 rfl (s_20 hS h0) hc1 (a_20 hS h0 hlhc1) ?_
    refine Wa.aload_n (j := 1) d_Pl_settle_24 rfl ?_
    refine Wx.cVv (q := E_Od) (As := [.ref (hd 10 0)]) 5 (d - 1) 0 0 _ d_Pl_settle_25 mok_Od_settle vl_Pl_52 rfl rfl rfl (Nat.le_of_ble_eq_true rfl) (by omega) (Nat.zero_le _) (Nat.zero_le _) (s_26 hS hb2) hF (fun μ3 hS hF => ?_)
    refine Wa.iinc (i := 2) (j := 2) (v := (x2 + 1)) (L' := [(2, .int (x2 + 1)), (0, .ref (hd 18 i0)), (1, .ref (hd 10 0))]) d_Pl_settle_28 rfl rfl (by decide) rfl ?_
    refine Wa.goto 10 d_Pl_settle_31 (by decide) ?_
    exact Wa.loc [1, 2, 0] rfl hF
set_option maxHeartbeats 4000000 in
set_option maxRecDepth 20000 in
theorem g_Nm_firstError_0 {d rc rs : Nat} {Q : Option Value → Mu → Prop} {μ : Mu} {i1 : Nat} (hD : 1 ≤ d) (h1 : i1 < 2) (hS : St μ)
    (hF : Wx K_Nm_firstError d rc rs Q 22 [(0, .ref (hd 16 0)), (2, .int 0)] [] (setI (setI (setI (setR μ (hd 16 0) 4 (hd 18 i1)) (hd 16 0) 5 0) (hd 16 0) 6 0) (hd 16 0) 7 (-1))) : Wx K_Nm_firstError d rc rs Q 0 [(0, .ref (hd 16 0)), (1, .ref (hd 18 i1))] [] μ := by
  refine Wa.aload_n (j := 0) d_Nm_firstError_0 rfl ?_
  refine Wa.aload_n (j := 1) d_Nm_firstError_1 rfl ?_
  refine Wx.putR 4 4 d_Nm_firstError_2 f_Nm_4 rfl ok_Nm fl_Nm_35 (Or.inl rfl) w_16 (s_16 hS (by decide)) ?_
  have hS : St (setR μ (hd 16 0) 4 (hd 18 i1)) := sd_16_4 (μ := μ) hS (by decide) h1
  refine Wa.aload_n (j := 0) d_Nm_firstError_5 rfl ?_
  refine Wa.iconst (v := 0) d_Nm_firstError_6 rfl ?_
  refine Wx.putI 4 5 d_Nm_firstError_7 f_Nm_5 ok_Nm fl_Nm_21 (Or.inl rfl) w_16 (s_16 hS (by decide)) ?_
  refine Wa.aload_n (j := 0) d_Nm_firstError_10 rfl ?_
  refine Wa.iconst (v := 0) d_Nm_firstError_11 rfl ?_
  refine Wx.putI 4 6 d_Nm_firstError_12 f_Nm_6 ok_Nm fl_Nm_25 (Or.inl rfl) w_16 (s_16 hS (by decide)) ?_
  refine Wa.aload_n (j := 0) d_Nm_firstError_15 rfl ?_
  refine Wa.iconst (v := (-1)) d_Nm_firstError_16 rfl ?_
  refine Wx.putI 4 7 d_Nm_firstError_17 f_Nm_7 ok_Nm fl_Nm_28 (Or.inl rfl) w_16 (s_16 hS (by decide)) ?_
  refine Wa.iconst (v := 0) d_Nm_firstError_20 rfl ?_
  refine Wa.istore_n (i := 2) (L' := [(2, .int 0), (0, .ref (hd 16 0)), (1, .ref (hd 18 i1))]) d_Nm_firstError_21 rfl (by decide) rfl ?_
  exact Wa.loc [1, 0] rfl hF
theorem e_Nm_firstError {d rc rs : Nat} {Q : Option Value → Mu → Prop} {μ : Mu} {i1 : Nat} (hk : Wx K_Nm_firstError d rc rs (fun r μ' => St μ' ∧ Q r μ') 0 [(0, .ref (hd 16 0)), (1, .ref (hd 18 i1))] [] μ) : Cal K_Nm_firstError d rc rs [.ref (hd 16 0), .ref (hd 18 i1)] μ Q := Cal.of (by decide +kernel) rfl rfl (Nat.le_of_ble_eq_true rfl) rfl hk
set_option maxHeartbeats 4000000 in
set_option maxRecDepth 20000 in
theorem g_Nm_firstError_22 {d rc rs : Nat} {Q : Option Value → Mu → Prop} {μ : Mu} {x2 : Int32} (hD : 1 ≤ d)  (hS : St μ)
    (hF : (((mI μ (hd 10 0) 4) ≤ x2 → Q (some (.int (mI μ (hd 16 0) 6))) μ) ∧ (¬ (mI μ (hd 10 0) 4) ≤ x2 → (((mI μ (hd 16 0) 6) = 0 → (Cal K_Nm_look (d - 1) 0 0 [.ref (hd 16 0), .int x2] μ (fun r μ1 => r = none ∧ Wx K_Nm_firstError d rc rs Q 22 [(0, .ref (hd 16 0)), (2, .int (x2 + 1))] [] μ1))) ∧ (¬ (mI μ (hd 16 0) 6) = 0 → Q (some (.int (mI μ (hd 16 0) 6))) μ))))) : Wx K_Nm_firstError d rc rs Q 22 [(0, .ref (hd 16 0)), (2, .int x2)] [] μ := by
  refine Wa.iload_n (j := 1) d_Nm_firstError_22 rfl ?_
  refine Wa.aload_n (j := 0) d_Nm_firstError_23 rfl ?_
  refine Wx.getR 4 3 d_Nm_firstError_24 f_Nm_3 rfl fl_Nm_31 (s_16 hS (by decide)) (r_16_3 hS (by decide)) ?_
  refine Wx.getI 9 4 d_Nm_firstError_27 f_Tk_4 fl_Nm_39 w_10 (s_10 hS (by decide)) ?_
  refine Wa.icmp_ge 51 d_Nm_firstError_30 (by decide) (fun hb => ?_) (fun hb => ?_)
  · have hF := hF.1 hb
    refine Wa.aload_n (j := 0) d_Nm_firstError_51 rfl ?_
    refine Wx.getI 4 6 d_Nm_firstError_52 f_Nm_6 fl_Nm_25 w_16 (s_16 hS (by decide)) ?_
    exact Wx.reti d_Nm_firstError_55 rfl hF
  · have hF := hF.2 hb
    refine Wa.aload_n (j := 0) d_Nm_firstError_33 rfl ?_
    refine Wx.getI 4 6 d_Nm_firstError_34 f_Nm_6 fl_Nm_25 w_16 (s_16 hS (by decide)) ?_
    refine Wa.if_ne 51 d_Nm_firstError_37 (by decide) (fun hb => ?_) (fun hb => ?_)
    · have hF := hF.2 hb
      refine Wa.aload_n (j := 0) d_Nm_firstError_51 rfl ?_
      refine Wx.getI 4 6 d_Nm_firstError_52 f_Nm_6 fl_Nm_25 w_16 (s_16 hS (by decide)) ?_
      exact Wx.reti d_Nm_firstError_55 rfl hF
    · have hF := hF.1 hb
      refine Wa.aload_n (j := 0) d_Nm_firstError_40 rfl ?_
      refine Wa.iload_n (j := 1) d_Nm_firstError_41 rfl ?_
      refine Wx.cVv (q := E_Nm) (As := [.int x2]) 4 (d - 1) 0 0 _ d_Nm_firstError_42 mok_Nm_look vl_Nm_44 rfl rfl rfl (Nat.le_of_ble_eq_true rfl) (by omega) (Nat.zero_le _) (Nat.zero_le _) (s_16 hS (by decide)) hF (fun μ1 hS hF => ?_)
      refine Wa.iinc (i := 2) (j := 1) (v := (x2 + 1)) (L' := [(2, .int (x2 + 1)), (0, .ref (hd 16 0))]) d_Nm_firstError_45 rfl rfl (by decide) rfl ?_
      refine Wa.goto 22 d_Nm_firstError_48 (by decide) ?_
      exact Wa.loc [1, 0] rfl hF
set_option maxHeartbeats 4000000 in
set_option maxRecDepth 20000 in
theorem g_Nm_look_0 {d rc rs : Nat} {Q : Option Value → Mu → Prop} {μ : Mu} {x1 : Int32} (hD : 1 ≤ d)  (hS : St μ)
    (hF : (Cal K_Tk_kindAt (d - 1) 0 0 [.ref (hd 10 0), .int x1] μ (fun r μ1 => ∃ y2, r = some (.ref (hd 0 y2)) ∧ y2 < 49 ∧ ((((swv y2) = 1) → (Cal K_Nm_tell (d - 1) 0 0 [.ref (hd 16 0), .int (x1 + (1 : Int32)), .ref (hd 17 0), .int (mI μ1 (hd 18 (px μ1 (hd 16 0) 4)) 3)] μ1 (fun r μ7 => ∃ y8, r = some (.int y8) ∧ Q none (setI μ7 (hd 18 (px μ1 (hd 16 0) 4)) 3 y8)))) ∧ (((swv y2) = 2) → (Cal K_Nm_tell (d - 1) 0 0 [.ref (hd 16 0), .int (x1 + (1 : Int32)), .ref (hd 17 1), .int (mI μ1 (hd 18 (px μ1 (hd 16 0) 4)) 4)] μ1 (fun r μ12 => ∃ y13, r = some (.int y13) ∧ Q none (setI μ12 (hd 18 (px μ1 (hd 16 0) 4)) 4 y13)))) ∧ (((swv y2) = 3) → (Cal K_Nm_tell (d - 1) 0 0 [.ref (hd 16 0), .int (x1 + (1 : Int32)), .ref (hd 17 2), .int (mI μ1 (hd 18 (px μ1 (hd 16 0) 4)) 5)] μ1 (fun r μ17 => ∃ y18, r = some (.int y18) ∧ Q none (setI μ17 (hd 18 (px μ1 (hd 16 0) 4)) 5 y18)))) ∧ (((swv y2) = 4 ∨ (swv y2) = 5 ∨ (swv y2) = 6) → (Cal K_Nm_countOrder (d - 1) 0 0 [.ref (hd 16 0), .int x1] μ1 (fun r μ20 => r = none ∧ (Cal K_Nm_findBoard (d - 1) 0 0 [.ref (hd 16 0), .int x1] μ20 (fun r μ21 => r = none ∧ Q none μ21))))) ∧ (((swv y2) = 7) → (Cal K_Nm_countOrder (d - 1) 0 0 [.ref (hd 16 0), .int x1] μ1 (fun r μ23 => r = none ∧ (Cal K_Nm_find (d - 1) 0 0 [.ref (hd 16 0), .int (x1 + (1 : Int32)), .ref (hd 17 2), .int (mI μ23 (hd 18 (px μ23 (hd 16 0) 4)) 5)] μ23 (fun r μ25 => r = none ∧ Q none μ25))))) ∧ (((swv y2) = 10 ∨ (swv y2) = 11 ∨ (swv y2) = 19 ∨ (swv y2) = 20 ∨ (swv y2) = 21) → (Cal K_Nm_findBoard (d - 1) 0 0 [.ref (hd 16 0), .int x1] μ1 (fun r μ27 => r = none ∧ Q none μ27))) ∧ (((swv y2) = 22 ∨ (swv y2) = 27) → (Cal K_Nm_find (d - 1) 0 0 [.ref (hd 16 0), .int (x1 + (1 : Int32)), .ref (hd 17 0), .int (mI μ1 (hd 18 (px μ1 (hd 16 0) 4)) 3)] μ1 (fun r μ30 => r = none ∧ Q none μ30))) ∧ (((swv y2) = 28) → (Cal K_Nm_findOtherParish (d - 1) 0 0 [.ref (hd 16 0), .int (x1 - (1 : Int32)), .int (x1 + (1 : Int32))] μ1 (fun r μ32 => r = none ∧ Q none μ32))) ∧ (((swv y2) = 29) → (Cal K_Nm_layRoad (d - 1) 0 0 [.ref (hd 16 0), .int x1] μ1 (fun r μ34 => r = none ∧ Q none μ34))) ∧ (((swv y2).toInt < 1 ∨ 29 < (swv y2).toInt ∨ (swv y2) = 8 ∨ (swv y2) = 9 ∨ (swv y2) = 12 ∨ (swv y2) = 13 ∨ (swv y2) = 14 ∨ (swv y2) = 15 ∨ (swv y2) = 16 ∨ (swv y2) = 17 ∨ (swv y2) = 18 ∨ (swv y2) = 23 ∨ (swv y2) = 24 ∨ (swv y2) = 25 ∨ (swv y2) = 26) → Q none μ1))))) : Wx K_Nm_look d rc rs Q 0 [(0, .ref (hd 16 0)), (1, .int x1)] [] μ := by
  refine Wx.gets d_Nm_look_0 st_1 sf_Nm_48 ?_
  refine Wa.aload_n (j := 0) d_Nm_look_3 rfl ?_
  refine Wx.getR 4 3 d_Nm_look_4 f_Nm_3 rfl fl_Nm_31 (s_16 hS (by decide)) (r_16_3 hS (by decide)) ?_
  refine Wa.iload_n (j := 1) d_Nm_look_7 rfl ?_
  refine Wx.cVr (q := E_Tk) (As := [.int x1]) 9 (d - 1) 0 0 _ d_Nm_look_8 mok_Tk_kindAt vl_Nm_54 rfl rfl rfl (Nat.le_of_ble_eq_true rfl) (by omega) (Nat.zero_le _) (Nat.zero_le _) (s_10 hS (by decide)) hF (fun y2 μ1 hS hy3 hF => ?_)
  refine Wx.ord hS d_Nm_look_11 ul_Nm_58 (Nat.le_of_ble_eq_true rfl) hD hy3 ?_
  refine Wx.swald hS d_Nm_look_14 hy3 ?_
  have k4 : ((swv y2) = 1) → Wx K_Nm_look d rc rs Q 144 [(0, .ref (hd 16 0)), (1, .int x1)] [] μ1 := by
    intro hb
    have hF := hF.1 hb
    refine Wa.aload_n (j := 0) d_Nm_look_144 rfl ?_
    have hp5 := d_16_4 (i := 0) hS (by decide)
    refine Wx.getR 4 4 d_Nm_look_145 f_Nm_4 rfl fl_Nm_35 (s_16 hS (by decide)) (hp5.1) ?_
    refine Wa.aload_n (j := 0) d_Nm_look_148 rfl ?_
    refine Wa.iload_n (j := 1) d_Nm_look_149 rfl ?_
    refine Wa.iconst (v := 1) d_Nm_look_150 rfl ?_
    refine Wa.iadd d_Nm_look_151 ?_
    refine Wa.aload_n (j := 0) d_Nm_look_152 rfl ?_
    refine Wx.getR 4 0 d_Nm_look_153 f_Nm_0 rfl fl_Nm_9 (s_16 hS (by decide)) (r_16_0 hS (by decide)) ?_
    refine Wa.aload_n (j := 0) d_Nm_look_156 rfl ?_
    have hp6 := d_16_4 (i := 0) hS (by decide)
    refine Wx.getR 4 4 d_Nm_look_157 f_Nm_4 rfl fl_Nm_35 (s_16 hS (by decide)) (hp6.1) ?_
    refine Wx.getI 6 3 d_Nm_look_160 f_Pl_3 fl_Nm_64 w_18 (s_18 hS hp6.2) ?_
    refine Wx.cVi (q := E_Nm) (As := [.int (x1 + (1 : Int32)), .ref (hd 17 0), .int (mI μ1 (hd 18 (px μ1 (hd 16 0) 4)) 3)]) 4 (d - 1) 0 0 _ d_Nm_look_163 mok_Nm_tell vl_Nm_68 rfl rfl rfl (Nat.le_of_ble_eq_true rfl) (by omega) (Nat.zero_le _) (Nat.zero_le _) (s_16 hS (by decide)) hF (fun y8 μ7 hS hF => ?_)
    refine Wx.putI 6 3 d_Nm_look_166 f_Pl_3 ok_Pl fl_Nm_64 (Or.inl rfl) w_18 (s_18 hS hp5.2) ?_
    refine Wa.goto 317 d_Nm_look_169 (by decide) ?_
    exact Wx.retv d_Nm_look_317 rfl hF
  have k9 : ((swv y2) = 2) → Wx K_Nm_look d rc rs Q 172 [(0, .ref (hd 16 0)), (1, .int x1)] [] μ1 := by
    intro hb
    have hF := hF.2.1 hb
    refine Wa.aload_n (j := 0) d_Nm_look_172 rfl ?_
    have hp10 := d_16_4 (i := 0) hS (by decide)
    refine Wx.getR 4 4 d_Nm_look_173 f_Nm_4 rfl fl_Nm_35 (s_16 hS (by decide)) (hp10.1) ?_
    refine Wa.aload_n (j := 0) d_Nm_look_176 rfl ?_
    refine Wa.iload_n (j := 1) d_Nm_look_177 rfl ?_
    refine Wa.iconst (v := 1) d_Nm_look_178 rfl ?_
    refine Wa.iadd d_Nm_look_179 ?_
    refine Wa.aload_n (j := 0) d_Nm_look_180 rfl ?_
    refine Wx.getR 4 1 d_Nm_look_181 f_Nm_1 rfl fl_Nm_15 (s_16 hS (by decide)) (r_16_1 hS (by decide)) ?_
    refine Wa.aload_n (j := 0) d_Nm_look_184 rfl ?_
    have hp11 := d_16_4 (i := 0) hS (by decide)
    refine Wx.getR 4 4 d_Nm_look_185 f_Nm_4 rfl fl_Nm_35 (s_16 hS (by decide)) (hp11.1) ?_
    refine Wx.getI 6 4 d_Nm_look_188 f_Pl_4 fl_Nm_72 w_18 (s_18 hS hp11.2) ?_
    refine Wx.cVi (q := E_Nm) (As := [.int (x1 + (1 : Int32)), .ref (hd 17 1), .int (mI μ1 (hd 18 (px μ1 (hd 16 0) 4)) 4)]) 4 (d - 1) 0 0 _ d_Nm_look_191 mok_Nm_tell vl_Nm_68 rfl rfl rfl (Nat.le_of_ble_eq_true rfl) (by omega) (Nat.zero_le _) (Nat.zero_le _) (s_16 hS (by decide)) hF (fun y13 μ12 hS hF => ?_)
    refine Wx.putI 6 4 d_Nm_look_194 f_Pl_4 ok_Pl fl_Nm_72 (Or.inl rfl) w_18 (s_18 hS hp10.2) ?_
    refine Wa.goto 317 d_Nm_look_197 (by decide) ?_
    exact Wx.retv d_Nm_look_317 rfl hF
  have k14 : ((swv y2) = 3) → Wx K_Nm_look d rc rs Q 200 [(0, .ref (hd 16 0)), (1, .int x1)] [] μ1 := by
    intro hb
    have hF := hF.2.2.1 hb
    refine Wa.aload_n (j := 0) d_Nm_look_200 rfl ?_
    have hp15 := d_16_4 (i := 0) hS (by decide)
    refine Wx.getR 4 4 d_Nm_look_201 f_Nm_4 rfl fl_Nm_35 (s_16 hS (by decide)) (hp15.1) ?_
    refine Wa.aload_n (j := 0) d_Nm_look_204 rfl ?_
    refine Wa.iload_n (j := 1) d_Nm_look_205 rfl ?_
    refine Wa.iconst (v := 1) d_Nm_look_206 rfl ?_
    refine Wa.iadd d_Nm_look_207 ?_
    refine Wa.aload_n (j := 0) d_Nm_look_208 rfl ?_
    refine Wx.getR 4 2 d_Nm_look_209 f_Nm_2 rfl fl_Nm_18 (s_16 hS (by decide)) (r_16_2 hS (by decide)) ?_
    refine Wa.aload_n (j := 0) d_Nm_look_212 rfl ?_
    have hp16 := d_16_4 (i := 0) hS (by decide)
    refine Wx.getR 4 4 d_Nm_look_213 f_Nm_4 rfl fl_Nm_35 (s_16 hS (by decide)) (hp16.1) ?_
    refine Wx.getI 6 5 d_Nm_look_216 f_Pl_5 fl_Nm_74 w_18 (s_18 hS hp16.2) ?_
    refine Wx.cVi (q := E_Nm) (As := [.int (x1 + (1 : Int32)), .ref (hd 17 2), .int (mI μ1 (hd 18 (px μ1 (hd 16 0) 4)) 5)]) 4 (d - 1) 0 0 _ d_Nm_look_219 mok_Nm_tell vl_Nm_68 rfl rfl rfl (Nat.le_of_ble_eq_true rfl) (by omega) (Nat.zero_le _) (Nat.zero_le _) (s_16 hS (by decide)) hF (fun y18 μ17 hS hF => ?_)
    refine Wx.putI 6 5 d_Nm_look_222 f_Pl_5 ok_Pl fl_Nm_74 (Or.inl rfl) w_18 (s_18 hS hp15.2) ?_
    refine Wa.goto 317 d_Nm_look_225 (by decide) ?_
    exact Wx.retv d_Nm_look_317 rfl hF
  have k19 : ((swv y2) = 4 ∨ (swv y2) = 5 ∨ (swv y2) = 6) → Wx K_Nm_look d rc rs Q 270 [(0, .ref (hd 16 0)), (1, .int x1)] [] μ1 := by
    intro hb
    have hF := hF.2.2.2.1 hb
    refine Wa.aload_n (j := 0) d_Nm_look_270 rfl ?_
    refine Wa.iload_n (j := 1) d_Nm_look_271 rfl ?_
    refine Wx.cVv (q := E_Nm) (As := [.int x1]) 4 (d - 1) 0 0 _ d_Nm_look_272 mok_Nm_countOrder vl_Nm_88 rfl rfl rfl (Nat.le_of_ble_eq_true rfl) (by omega) (Nat.zero_le _) (Nat.zero_le _) (s_16 hS (by decide)) hF (fun μ20 hS hF => ?_)
    refine Wa.aload_n (j := 0) d_Nm_look_275 rfl ?_
    refine Wa.iload_n (j := 1) d_Nm_look_276 rfl ?_
    refine Wx.cVv (q := E_Nm) (As := [.int x1]) 4 (d - 1) 0 0 _ d_Nm_look_277 mok_Nm_findBoard vl_Nm_91 rfl rfl rfl (Nat.le_of_ble_eq_true rfl) (by omega) (Nat.zero_le _) (Nat.zero_le _) (s_16 hS (by decide)) hF (fun μ21 hS hF => ?_)
    refine Wa.goto 317 d_Nm_look_280 (by decide) ?_
    exact Wx.retv d_Nm_look_317 rfl hF
  have k22 : ((swv y2) = 7) → Wx K_Nm_look d rc rs Q 283 [(0, .ref (hd 16 0)), (1, .int x1)] [] μ1 := by
    intro hb
    have hF := hF.2.2.2.2.1 hb
    refine Wa.aload_n (j := 0) d_Nm_look_283 rfl ?_
    refine Wa.iload_n (j := 1) d_Nm_look_284 rfl ?_
    refine Wx.cVv (q := E_Nm) (As := [.int x1]) 4 (d - 1) 0 0 _ d_Nm_look_285 mok_Nm_countOrder vl_Nm_88 rfl rfl rfl (Nat.le_of_ble_eq_true rfl) (by omega) (Nat.zero_le _) (Nat.zero_le _) (s_16 hS (by decide)) hF (fun μ23 hS hF => ?_)
    refine Wa.aload_n (j := 0) d_Nm_look_288 rfl ?_
    refine Wa.iload_n (j := 1) d_Nm_look_289 rfl ?_
    refine Wa.iconst (v := 1) d_Nm_look_290 rfl ?_
    refine Wa.iadd d_Nm_look_291 ?_
    refine Wa.aload_n (j := 0) d_Nm_look_292 rfl ?_
    refine Wx.getR 4 2 d_Nm_look_293 f_Nm_2 rfl fl_Nm_18 (s_16 hS (by decide)) (r_16_2 hS (by decide)) ?_
    refine Wa.aload_n (j := 0) d_Nm_look_296 rfl ?_
    have hp24 := d_16_4 (i := 0) hS (by decide)
    refine Wx.getR 4 4 d_Nm_look_297 f_Nm_4 rfl fl_Nm_35 (s_16 hS (by decide)) (hp24.1) ?_
    refine Wx.getI 6 5 d_Nm_look_300 f_Pl_5 fl_Nm_74 w_18 (s_18 hS hp24.2) ?_
    refine Wx.cVv (q := E_Nm) (As := [.int (x1 + (1 : Int32)), .ref (hd 17 2), .int (mI μ23 (hd 18 (px μ23 (hd 16 0) 4)) 5)]) 4 (d - 1) 0 0 _ d_Nm_look_303 mok_Nm_find vl_Nm_77 rfl rfl rfl (Nat.le_of_ble_eq_true rfl) (by omega) (Nat.zero_le _) (Nat.zero_le _) (s_16 hS (by decide)) hF (fun μ25 hS hF => ?_)
    refine Wa.goto 317 d_Nm_look_306 (by decide) ?_
    exact Wx.retv d_Nm_look_317 rfl hF
  have k26 : ((swv y2) = 10 ∨ (swv y2) = 11 ∨ (swv y2) = 19 ∨ (swv y2) = 20 ∨ (swv y2) = 21) → Wx K_Nm_look d rc rs Q 309 [(0, .ref (hd 16 0)), (1, .int x1)] [] μ1 := by
    intro hb
    have hF := hF.2.2.2.2.2.1 hb
    refine Wa.aload_n (j := 0) d_Nm_look_309 rfl ?_
    refine Wa.iload_n (j := 1) d_Nm_look_310 rfl ?_
    refine Wx.cVv (q := E_Nm) (As := [.int x1]) 4 (d - 1) 0 0 _ d_Nm_look_311 mok_Nm_findBoard vl_Nm_91 rfl rfl rfl (Nat.le_of_ble_eq_true rfl) (by omega) (Nat.zero_le _) (Nat.zero_le _) (s_16 hS (by decide)) hF (fun μ27 hS hF => ?_)
    refine Wa.goto 317 d_Nm_look_314 (by decide) ?_
    exact Wx.retv d_Nm_look_317 rfl hF
  have k28 : ((swv y2) = 22 ∨ (swv y2) = 27) → Wx K_Nm_look d rc rs Q 228 [(0, .ref (hd 16 0)), (1, .int x1)] [] μ1 := by
    intro hb
    have hF := hF.2.2.2.2.2.2.1 hb
    refine Wa.aload_n (j := 0) d_Nm_look_228 rfl ?_
    refine Wa.iload_n (j := 1) d_Nm_look_229 rfl ?_
    refine Wa.iconst (v := 1) d_Nm_look_230 rfl ?_
    refine Wa.iadd d_Nm_look_231 ?_
    refine Wa.aload_n (j := 0) d_Nm_look_232 rfl ?_
    refine Wx.getR 4 0 d_Nm_look_233 f_Nm_0 rfl fl_Nm_9 (s_16 hS (by decide)) (r_16_0 hS (by decide)) ?_
    refine Wa.aload_n (j := 0) d_Nm_look_236 rfl ?_
    have hp29 := d_16_4 (i := 0) hS (by decide)
    refine Wx.getR 4 4 d_Nm_look_237 f_Nm_4 rfl fl_Nm_35 (s_16 hS (by decide)) (hp29.1) ?_
    refine Wx.getI 6 3 d_Nm_look_240 f_Pl_3 fl_Nm_64 w_18 (s_18 hS hp29.2) ?_
    refine Wx.cVv (q := E_Nm) (As := [.int (x1 + (1 : Int32)), .ref (hd 17 0), .int (mI μ1 (hd 18 (px μ1 (hd 16 0) 4)) 3)]) 4 (d - 1) 0 0 _ d_Nm_look_243 mok_Nm_find vl_Nm_77 rfl rfl rfl (Nat.le_of_ble_eq_true rfl) (by omega) (Nat.zero_le _) (Nat.zero_le _) (s_16 hS (by decide)) hF (fun μ30 hS hF => ?_)
    refine Wa.goto 317 d_Nm_look_246 (by decide) ?_
    exact Wx.retv d_Nm_look_317 rfl hF
  have k31 : ((swv y2) = 28) → Wx K_Nm_look d rc rs Q 249 [(0, .ref (hd 16 0)), (1, .int x1)] [] μ1 := by
    intro hb
    have hF := hF.2.2.2.2.2.2.2.1 hb
    refine Wa.aload_n (j := 0) d_Nm_look_249 rfl ?_
    refine Wa.iload_n (j := 1) d_Nm_look_250 rfl ?_
    refine Wa.iconst (v := 1) d_Nm_look_251 rfl ?_
    refine Wa.isub d_Nm_look_252 ?_
    refine Wa.iload_n (j := 1) d_Nm_look_253 rfl ?_
    refine Wa.iconst (v := 1) d_Nm_look_254 rfl ?_
    refine Wa.iadd d_Nm_look_255 ?_
    refine Wx.cVv (q := E_Nm) (As := [.int (x1 - (1 : Int32)), .int (x1 + (1 : Int32))]) 4 (d - 1) 0 0 _ d_Nm_look_256 mok_Nm_findOtherParish vl_Nm_81 rfl rfl rfl (Nat.le_of_ble_eq_true rfl) (by omega) (Nat.zero_le _) (Nat.zero_le _) (s_16 hS (by decide)) hF (fun μ32 hS hF => ?_)
    refine Wa.goto 317 d_Nm_look_259 (by decide) ?_
    exact Wx.retv d_Nm_look_317 rfl hF
  have k33 : ((swv y2) = 29) → Wx K_Nm_look d rc rs Q 262 [(0, .ref (hd 16 0)), (1, .int x1)] [] μ1 := by
    intro hb
    have hF := hF.2.2.2.2.2.2.2.2.1 hb
    refine Wa.aload_n (j := 0) d_Nm_look_262 rfl ?_
    refine Wa.iload_n (j := 1) d_Nm_look_263 rfl ?_
    refine Wx.cVv (q := E_Nm) (As := [.int x1]) 4 (d - 1) 0 0 _ d_Nm_look_264 mok_Nm_layRoad vl_Nm_85 rfl rfl rfl (Nat.le_of_ble_eq_true rfl) (by omega) (Nat.zero_le _) (Nat.zero_le _) (s_16 hS (by decide)) hF (fun μ34 hS hF => ?_)
    refine Wa.goto 317 d_Nm_look_267 (by decide) ?_
    exact Wx.retv d_Nm_look_317 rfl hF
  have k35 : ((swv y2).toInt < 1 ∨ 29 < (swv y2).toInt ∨ (swv y2) = 8 ∨ (swv y2) = 9 ∨ (swv y2) = 12 ∨ (swv y2) = 13 ∨ (swv y2) = 14 ∨ (swv y2) = 15 ∨ (swv y2) = 16 ∨ (swv y2) = 17 ∨ (swv y2) = 18 ∨ (swv y2) = 23 ∨ (swv y2) = 24 ∨ (swv y2) = 25 ∨ (swv y2) = 26) → Wx K_Nm_look d rc rs Q 317 [(0, .ref (hd 16 0)), (1, .int x1)] [] μ1 := by
    intro hb
    have hF := hF.2.2.2.2.2.2.2.2.2 hb
    exact Wx.retv d_Nm_look_317 rfl hF
  rcases sw_1_29 (swv y2) with hb | hb | hb | hb | hb | hb | hb | hb | hb | hb | hb | hb | hb | hb | hb | hb | hb | hb | hb | hb | hb | hb | hb | hb | hb | hb | hb | hb | hb | hb | hb
  · exact Wa.tabOut 317 d_Nm_look_15 (Or.inl hb) (by decide) (k35 (Or.inl hb))
  · exact Wa.tabOut 317 d_Nm_look_15 (Or.inr hb) (by decide) (k35 (Or.inr (Or.inl hb)))
  · exact Wa.tabIn 144 d_Nm_look_15 (by rw [hb]; decide) (by rw [hb]; decide) (by rw [hb]; rfl) (by decide) (k4 hb)
  · exact Wa.tabIn 172 d_Nm_look_15 (by rw [hb]; decide) (by rw [hb]; decide) (by rw [hb]; rfl) (by decide) (k9 hb)
  · exact Wa.tabIn 200 d_Nm_look_15 (by rw [hb]; decide) (by rw [hb]; decide) (by rw [hb]; rfl) (by decide) (k14 hb)
  · exact Wa.tabIn 270 d_Nm_look_15 (by rw [hb]; decide) (by rw [hb]; decide) (by rw [hb]; rfl) (by decide) (k19 (Or.inl hb))
  · exact Wa.tabIn 270 d_Nm_look_15 (by rw [hb]; decide) (by rw [hb]; decide) (by rw [hb]; rfl) (by decide) (k19 (Or.inr (Or.inl hb)))
  · exact Wa.tabIn 270 d_Nm_look_15 (by rw [hb]; decide) (by rw [hb]; decide) (by rw [hb]; rfl) (by decide) (k19 (Or.inr (Or.inr hb)))
  · exact Wa.tabIn 283 d_Nm_look_15 (by rw [hb]; decide) (by rw [hb]; decide) (by rw [hb]; rfl) (by decide) (k22 hb)
  · exact Wa.tabIn 317 d_Nm_look_15 (by rw [hb]; decide) (by rw [hb]; decide) (by rw [hb]; rfl) (by decide) (k35 (Or.inr (Or.inr (Or.inl hb))))
  · exact Wa.tabIn 317 d_Nm_look_15 (by rw [hb]; decide) (by rw [hb]; decide) (by rw [hb]; rfl) (by decide) (k35 (Or.inr (Or.inr (Or.inr (Or.inl hb)))))
  · exact Wa.tabIn 309 d_Nm_look_15 (by rw [hb]; decide) (by rw [hb]; decide) (by rw [hb]; rfl) (by decide) (k26 (Or.inl hb))
  · exact Wa.tabIn 309 d_Nm_look_15 (by rw [hb]; decide) (by rw [hb]; decide) (by rw [hb]; rfl) (by decide) (k26 (Or.inr (Or.inl hb)))
  · exact Wa.tabIn 317 d_Nm_look_15 (by rw [hb]; decide) (by rw [hb]; decide) (by rw [hb]; rfl) (by decide) (k35 (Or.inr (Or.inr (Or.inr (Or.inr (Or.inl hb))))))
  · exact Wa.tabIn 317 d_Nm_look_15 (by rw [hb]; decide) (by rw [hb]; decide) (by rw [hb]; rfl) (by decide) (k35 (Or.inr (Or.inr (Or.inr (Or.inr (Or.inr (Or.inl hb)))))))
  · exact Wa.tabIn 317 d_Nm_look_15 (by rw [hb]; decide) (by rw [hb]; decide) (by rw [hb]; rfl) (by decide) (k35 (Or.inr (Or.inr (Or.inr (Or.inr (Or.inr (Or.inr (Or.inl hb))))))))
  · exact Wa.tabIn 317 d_Nm_look_15 (by rw [hb]; decide) (by rw [hb]; decide) (by rw [hb]; rfl) (by decide) (k35 (Or.inr (Or.inr (Or.inr (Or.inr (Or.inr (Or.inr (Or.inr (Or.inl hb)))))))))
  · exact Wa.tabIn 317 d_Nm_look_15 (by rw [hb]; decide) (by rw [hb]; decide) (by rw [hb]; rfl) (by decide) (k35 (Or.inr (Or.inr (Or.inr (Or.inr (Or.inr (Or.inr (Or.inr (Or.inr (Or.inl hb))))))))))
  · exact Wa.tabIn 317 d_Nm_look_15 (by rw [hb]; decide) (by rw [hb]; decide) (by rw [hb]; rfl) (by decide) (k35 (Or.inr (Or.inr (Or.inr (Or.inr (Or.inr (Or.inr (Or.inr (Or.inr (Or.inr (Or.inl hb)))))))))))
  · exact Wa.tabIn 317 d_Nm_look_15 (by rw [hb]; decide) (by rw [hb]; decide) (by rw [hb]; rfl) (by decide) (k35 (Or.inr (Or.inr (Or.inr (Or.inr (Or.inr (Or.inr (Or.inr (Or.inr (Or.inr (Or.inr (Or.inl hb))))))))))))
  · exact Wa.tabIn 309 d_Nm_look_15 (by rw [hb]; decide) (by rw [hb]; decide) (by rw [hb]; rfl) (by decide) (k26 (Or.inr (Or.inr (Or.inl hb))))
  · exact Wa.tabIn 309 d_Nm_look_15 (by rw [hb]; decide) (by rw [hb]; decide) (by rw [hb]; rfl) (by decide) (k26 (Or.inr (Or.inr (Or.inr (Or.inl hb)))))
  · exact Wa.tabIn 309 d_Nm_look_15 (by rw [hb]; decide) (by rw [hb]; decide) (by rw [hb]; rfl) (by decide) (k26 (Or.inr (Or.inr (Or.inr (Or.inr hb)))))
  · exact Wa.tabIn 228 d_Nm_look_15 (by rw [hb]; decide) (by rw [hb]; decide) (by rw [hb]; rfl) (by decide) (k28 (Or.inl hb))
  · exact Wa.tabIn 317 d_Nm_look_15 (by rw [hb]; decide) (by rw [hb]; decide) (by rw [hb]; rfl) (by decide) (k35 (Or.inr (Or.inr (Or.inr (Or.inr (Or.inr (Or.inr (Or.inr (Or.inr (Or.inr (Or.inr (Or.inr (Or.inl hb)))))))))))))
  · exact Wa.tabIn 317 d_Nm_look_15 (by rw [hb]; decide) (by rw [hb]; decide) (by rw [hb]; rfl) (by decide) (k35 (Or.inr (Or.inr (Or.inr (Or.inr (Or.inr (Or.inr (Or.inr (Or.inr (Or.inr (Or.inr (Or.inr (Or.inr (Or.inl hb))))))))))))))
  · exact Wa.tabIn 317 d_Nm_look_15 (by rw [hb]; decide) (by rw [hb]; decide) (by rw [hb]; rfl) (by decide) (k35 (Or.inr (Or.inr (Or.inr (Or.inr (Or.inr (Or.inr (Or.inr (Or.inr (Or.inr (Or.inr (Or.inr (Or.inr (Or.inr (Or.inl hb)))))))))))))))
  · exact Wa.tabIn 317 d_Nm_look_15 (by rw [hb]; decide) (by rw [hb]; decide) (by rw [hb]; rfl) (by decide) (k35 (Or.inr (Or.inr (Or.inr (Or.inr (Or.inr (Or.inr (Or.inr (Or.inr (Or.inr (Or.inr (Or.inr (Or.inr (Or.inr (Or.inr hb)))))))))))))))
  · exact Wa.tabIn 228 d_Nm_look_15 (by rw [hb]; decide) (by rw [hb]; decide) (by rw [hb]; rfl) (by decide) (k28 (Or.inr hb))
  · exact Wa.tabIn 249 d_Nm_look_15 (by rw [hb]; decide) (by rw [hb]; decide) (by rw [hb]; rfl) (by decide) (k31 hb)
  · exact Wa.tabIn 262 d_Nm_look_15 (by rw [hb]; decide) (by rw [hb]; decide) (by rw [hb]; rfl) (by decide) (k33 hb)
theorem e_Nm_look {d rc rs : Nat} {Q : Option Value → Mu → Prop} {μ : Mu} {x1 : Int32} (hk : Wx K_Nm_look d rc rs (fun r μ' => St μ' ∧ Q r μ') 0 [(0, .ref (hd 16 0)), (1, .int x1)] [] μ) : Cal K_Nm_look d rc rs [.ref (hd 16 0), .int x1] μ Q := Cal.of (by decide +kernel) rfl rfl (Nat.le_of_ble_eq_true rfl) rfl hk
set_option maxHeartbeats 4000000 in
set_option maxRecDepth 20000 in
theorem g_Nm_tell_0 {d rc rs : Nat} {Q : Option Value → Mu → Prop} {μ : Mu} {x1 : Int32} {i2 : Nat} {x3 : Int32} (hD : 1 ≤ d) (h2 : i2 < 3) (hS : St μ)
    (hF : (Cal K_Tk_worthAt (d - 1) 0 0 [.ref (hd 10 0), .int x1] μ (fun r μ1 => ∃ y2, r = some (.long y2) ∧ (Cal K_Nm_placeOf (d - 1) 0 0 [.long y2, .ref (hd 17 i2), .int x3] μ1 (fun r μ3 => ∃ y4, r = some (.int y4) ∧ ((y4 = (-1) → ((x3 < (nI ([5, 6, 8].getD i2 0)) → (vp_in x3 ([5, 6, 8].getD i2 0) ∧ Q (some (.int (x3 + (1 : Int32)))) (setL μ3 (hd 17 i2) x3.toNatClampNeg y2))) ∧ (¬ x3 < (nI ([5, 6, 8].getD i2 0)) → (Cal K_Nm_fail (d - 1) 0 0 [.ref (hd 16 0), .int 4, .int x1] μ3 (fun r μ6 => r = none ∧ Q (some (.int x3)) μ6))))) ∧ (¬ y4 = (-1) → (Cal K_Nm_fail (d - 1) 0 0 [.ref (hd 16 0), .int 2, .int x1] μ3 (fun r μ7 => r = none ∧ Q (some (.int x3)) μ7))))))))) : Wx K_Nm_tell d rc rs Q 0 [(0, .ref (hd 16 0)), (1, .int x1), (2, .ref (hd 17 i2)), (3, .int x3)] [] μ := by
  refine Wa.aload_n (j := 0) d_Nm_tell_0 rfl ?_
  refine Wx.getR 4 3 d_Nm_tell_1 f_Nm_3 rfl fl_Nm_31 (s_16 hS (by decide)) (r_16_3 hS (by decide)) ?_
  refine Wa.iload_n (j := 1) d_Nm_tell_4 rfl ?_
  refine Wx.cVl (q := E_Tk) (As := [.int x1]) 9 (d - 1) 0 0 _ d_Nm_tell_5 mok_Tk_worthAt vl_Nm_94 rfl rfl rfl (Nat.le_of_ble_eq_true rfl) (by omega) (Nat.zero_le _) (Nat.zero_le _) (s_10 hS (by decide)) hF (fun y2 μ1 hS hF => ?_)
  refine Wa.lstore (i := 4) (L' := [(4, .long y2), (0, .ref (hd 16 0)), (1, .int x1), (2, .ref (hd 17 i2)), (3, .int x3)]) d_Nm_tell_8 (by decide) rfl ?_
  refine Wa.lload (j := 0) d_Nm_tell_10 rfl ?_
  refine Wa.aload_n (j := 3) d_Nm_tell_12 rfl ?_
  refine Wa.iload_n (j := 4) d_Nm_tell_13 rfl ?_
  refine Wx.cSi (As := [.long y2, .ref (hd 17 i2), .int x3]) (d - 1) 0 0 _ d_Nm_tell_14 mok_Nm_placeOf sl_Nm_98 rfl rfl (Nat.le_of_ble_eq_true rfl) (by omega) (Nat.zero_le _) (Nat.zero_le _) hF (fun y4 μ3 hS hF => ?_)
  refine Wa.iconst (v := (-1)) d_Nm_tell_17 rfl ?_
  refine Wa.icmp_eq 29 d_Nm_tell_18 (by decide) (fun hb => ?_) (fun hb => ?_)
  · have hF := hF.1 hb
    refine Wa.iload_n (j := 4) d_Nm_tell_29 rfl ?_
    refine Wa.aload_n (j := 3) d_Nm_tell_30 rfl ?_
    refine Wa.alen d_Nm_tell_31 (s_17 hS h2) (by decide) ?_
    refine Wa.icmp_lt 43 d_Nm_tell_32 (by decide) (fun hb => ?_) (fun hb => ?_)
    · have hF := hF.1 hb
      refine Wa.aload_n (j := 3) d_Nm_tell_43 rfl ?_
      refine Wa.iload_n (j := 4) d_Nm_tell_44 rfl ?_
      refine Wa.lload (j := 0) d_Nm_tell_45 rfl ?_
      have hc5 := hF.1
      have hF := hF.2
      have hlhc5 := vp_in_lt hc5
      refine Wa.last d_Nm_tell_47 w_17 (s_17 hS h2) hc5 ?_
      refine Wa.iload_n (j := 4) d_Nm_tell_48 rfl ?_
      refine Wa.iconst (v := 1) d_Nm_tell_49 rfl ?_
      refine Wa.iadd d_Nm_tell_50 ?_
      exact Wx.reti d_Nm_tell_51 rfl hF
    · have hF := hF.2 hb
      refine Wa.aload_n (j := 1) d_Nm_tell_35 rfl ?_
      refine Wa.iconst (v := 4) d_Nm_tell_36 rfl ?_
      refine Wa.iload_n (j := 2) d_Nm_tell_37 rfl ?_
      refine Wx.cVv (q := E_Nm) (As := [.int 4, .int x1]) 4 (d - 1) 0 0 _ d_Nm_tell_38 mok_Nm_fail vl_Nm_102 rfl rfl rfl (Nat.le_of_ble_eq_true rfl) (by omega) (Nat.zero_le _) (Nat.zero_le _) (s_16 hS (by decide)) hF (fun μ6 hS hF => ?_)
      refine Wa.iload_n (j := 4) d_Nm_tell_41 rfl ?_
      exact Wx.reti d_Nm_tell_42 rfl hF
  · have hF := hF.2 hb
    refine Wa.aload_n (j := 1) d_Nm_tell_21 rfl ?_
    refine Wa.iconst (v := 2) d_Nm_tell_22 rfl ?_
    refine Wa.iload_n (j := 2) d_Nm_tell_23 rfl ?_
    refine Wx.cVv (q := E_Nm) (As := [.int 2, .int x1]) 4 (d - 1) 0 0 _ d_Nm_tell_24 mok_Nm_fail vl_Nm_102 rfl rfl rfl (Nat.le_of_ble_eq_true rfl) (by omega) (Nat.zero_le _) (Nat.zero_le _) (s_16 hS (by decide)) hF (fun μ7 hS hF => ?_)
    refine Wa.iload_n (j := 4) d_Nm_tell_27 rfl ?_
    exact Wx.reti d_Nm_tell_28 rfl hF
theorem e_Nm_tell {d rc rs : Nat} {Q : Option Value → Mu → Prop} {μ : Mu} {x1 : Int32} {i2 : Nat} {x3 : Int32} (hk : Wx K_Nm_tell d rc rs (fun r μ' => St μ' ∧ Q r μ') 0 [(0, .ref (hd 16 0)), (1, .int x1), (2, .ref (hd 17 i2)), (3, .int x3)] [] μ) : Cal K_Nm_tell d rc rs [.ref (hd 16 0), .int x1, .ref (hd 17 i2), .int x3] μ Q := Cal.of (by decide +kernel) rfl rfl (Nat.le_of_ble_eq_true rfl) rfl hk
set_option maxHeartbeats 4000000 in
set_option maxRecDepth 20000 in
theorem g_Nm_find_0 {d rc rs : Nat} {Q : Option Value → Mu → Prop} {μ : Mu} {x1 : Int32} {i2 : Nat} {x3 : Int32} (hD : 1 ≤ d) (h2 : i2 < 3) (hS : St μ)
    (hF : (Cal K_Tk_worthAt (d - 1) 0 0 [.ref (hd 10 0), .int x1] μ (fun r μ1 => ∃ y2, r = some (.long y2) ∧ (Cal K_Nm_placeOf (d - 1) 0 0 [.long y2, .ref (hd 17 i2), .int x3] μ1 (fun r μ3 => ∃ y4, r = some (.int y4) ∧ ((y4 = (-1) → (Cal K_Nm_fail (d - 1) 0 0 [.ref (hd 16 0), .int 3, .int x1] μ3 (fun r μ6 => r = none ∧ Q none μ6))) ∧ (¬ y4 = (-1) → (Cal K_Tk_setMeaning (d - 1) 0 0 [.ref (hd 10 0), .int x1, .int y4] μ3 (fun r μ5 => r = none ∧ Q none μ5))))))))) : Wx K_Nm_find d rc rs Q 0 [(0, .ref (hd 16 0)), (1, .int x1), (2, .ref (hd 17 i2)), (3, .int x3)] [] μ := by
  refine Wa.aload_n (j := 0) d_Nm_find_0 rfl ?_
  refine Wx.getR 4 3 d_Nm_find_1 f_Nm_3 rfl fl_Nm_31 (s_16 hS (by decide)) (r_16_3 hS (by decide)) ?_
  refine Wa.iload_n (j := 1) d_Nm_find_4 rfl ?_
  refine Wx.cVl (q := E_Tk) (As := [.int x1]) 9 (d - 1) 0 0 _ d_Nm_find_5 mok_Tk_worthAt vl_Nm_94 rfl rfl rfl (Nat.le_of_ble_eq_true rfl) (by omega) (Nat.zero_le _) (Nat.zero_le _) (s_10 hS (by decide)) hF (fun y2 μ1 hS hF => ?_)
  refine Wa.aload_n (j := 2) d_Nm_find_8 rfl ?_
  refine Wa.iload_n (j := 3) d_Nm_find_9 rfl ?_
  refine Wx.cSi (As := [.long y2, .ref (hd 17 i2), .int x3]) (d - 1) 0 0 _ d_Nm_find_10 mok_Nm_placeOf sl_Nm_98 rfl rfl (Nat.le_of_ble_eq_true rfl) (by omega) (Nat.zero_le _) (Nat.zero_le _) hF (fun y4 μ3 hS hF => ?_)
  refine Wa.istore (i := 4) (L' := [(4, .int y4), (0, .ref (hd 16 0)), (1, .int x1), (2, .ref (hd 17 i2)), (3, .int x3)]) d_Nm_find_13 (by decide) rfl ?_
  refine Wa.iload (j := 0) d_Nm_find_15 rfl ?_
  refine Wa.iconst (v := (-1)) d_Nm_find_17 rfl ?_
  refine Wa.icmp_ne 30 d_Nm_find_18 (by decide) (fun hb => ?_) (fun hb => ?_)
  · have hF := hF.2 hb
    refine Wa.aload_n (j := 1) d_Nm_find_30 rfl ?_
    refine Wx.getR 4 3 d_Nm_find_31 f_Nm_3 rfl fl_Nm_31 (s_16 hS (by decide)) (r_16_3 hS (by decide)) ?_
    refine Wa.iload_n (j := 2) d_Nm_find_34 rfl ?_
    refine Wa.iload (j := 0) d_Nm_find_35 rfl ?_
    refine Wx.cVv (q := E_Tk) (As := [.int x1, .int y4]) 9 (d - 1) 0 0 _ d_Nm_find_37 mok_Tk_setMeaning vl_Nm_105 rfl rfl rfl (Nat.le_of_ble_eq_true rfl) (by omega) (Nat.zero_le _) (Nat.zero_le _) (s_10 hS (by decide)) hF (fun μ5 hS hF => ?_)
    exact Wx.retv d_Nm_find_40 rfl hF
  · have hF := hF.1 hb
    refine Wa.aload_n (j := 1) d_Nm_find_21 rfl ?_
    refine Wa.iconst (v := 3) d_Nm_find_22 rfl ?_
    refine Wa.iload_n (j := 2) d_Nm_find_23 rfl ?_
    refine Wx.cVv (q := E_Nm) (As := [.int 3, .int x1]) 4 (d - 1) 0 0 _ d_Nm_find_24 mok_Nm_fail vl_Nm_102 rfl rfl rfl (Nat.le_of_ble_eq_true rfl) (by omega) (Nat.zero_le _) (Nat.zero_le _) (s_16 hS (by decide)) hF (fun μ6 hS hF => ?_)
    refine Wa.goto 40 d_Nm_find_27 (by decide) ?_
    exact Wx.retv d_Nm_find_40 rfl hF
theorem e_Nm_find {d rc rs : Nat} {Q : Option Value → Mu → Prop} {μ : Mu} {x1 : Int32} {i2 : Nat} {x3 : Int32} (hk : Wx K_Nm_find d rc rs (fun r μ' => St μ' ∧ Q r μ') 0 [(0, .ref (hd 16 0)), (1, .int x1), (2, .ref (hd 17 i2)), (3, .int x3)] [] μ) : Cal K_Nm_find d rc rs [.ref (hd 16 0), .int x1, .ref (hd 17 i2), .int x3] μ Q := Cal.of (by decide +kernel) rfl rfl (Nat.le_of_ble_eq_true rfl) rfl hk
set_option maxHeartbeats 4000000 in
set_option maxRecDepth 20000 in
theorem g_Nm_findBoard_0 {d rc rs : Nat} {Q : Option Value → Mu → Prop} {μ : Mu} {x1 : Int32} (hD : 1 ≤ d)  (hS : St μ)
    (hF : (Cal K_Nm_find (d - 1) 0 0 [.ref (hd 16 0), .int (x1 + (1 : Int32)), .ref (hd 17 0), .int (mI μ (hd 18 (px μ (hd 16 0) 4)) 3)] μ (fun r μ2 => r = none ∧ (Cal K_Nm_find (d - 1) 0 0 [.ref (hd 16 0), .int (x1 + (2 : Int32)), .ref (hd 17 1), .int (mI μ2 (hd 18 (px μ2 (hd 16 0) 4)) 4)] μ2 (fun r μ4 => r = none ∧ Q none μ4))))) : Wx K_Nm_findBoard d rc rs Q 0 [(0, .ref (hd 16 0)), (1, .int x1)] [] μ := by
  refine Wa.aload_n (j := 0) d_Nm_findBoard_0 rfl ?_
  refine Wa.iload_n (j := 1) d_Nm_findBoard_1 rfl ?_
  refine Wa.iconst (v := 1) d_Nm_findBoard_2 rfl ?_
  refine Wa.iadd d_Nm_findBoard_3 ?_
  refine Wa.aload_n (j := 0) d_Nm_findBoard_4 rfl ?_
  refine Wx.getR 4 0 d_Nm_findBoard_5 f_Nm_0 rfl fl_Nm_9 (s_16 hS (by decide)) (r_16_0 hS (by decide)) ?_
  refine Wa.aload_n (j := 0) d_Nm_findBoard_8 rfl ?_
  have hp1 := d_16_4 (i := 0) hS (by decide)
  refine Wx.getR 4 4 d_Nm_findBoard_9 f_Nm_4 rfl fl_Nm_35 (s_16 hS (by decide)) (hp1.1) ?_
  refine Wx.getI 6 3 d_Nm_findBoard_12 f_Pl_3 fl_Nm_64 w_18 (s_18 hS hp1.2) ?_
  refine Wx.cVv (q := E_Nm) (As := [.int (x1 + (1 : Int32)), .ref (hd 17 0), .int (mI μ (hd 18 (px μ (hd 16 0) 4)) 3)]) 4 (d - 1) 0 0 _ d_Nm_findBoard_15 mok_Nm_find vl_Nm_77 rfl rfl rfl (Nat.le_of_ble_eq_true rfl) (by omega) (Nat.zero_le _) (Nat.zero_le _) (s_16 hS (by decide)) hF (fun μ2 hS hF => ?_)
  refine Wa.aload_n (j := 0) d_Nm_findBoard_18 rfl ?_
  refine Wa.iload_n (j := 1) d_Nm_findBoard_19 rfl ?_
  refine Wa.iconst (v := 2) d_Nm_findBoard_20 rfl ?_
  refine Wa.iadd d_Nm_findBoard_21 ?_
  refine Wa.aload_n (j := 0) d_Nm_findBoard_22 rfl ?_
  refine Wx.getR 4 1 d_Nm_findBoard_23 f_Nm_1 rfl fl_Nm_15 (s_16 hS (by decide)) (r_16_1 hS (by decide)) ?_
  refine Wa.aload_n (j := 0) d_Nm_findBoard_26 rfl ?_
  have hp3 := d_16_4 (i := 0) hS (by decide)
  refine Wx.getR 4 4 d_Nm_findBoard_27 f_Nm_4 rfl fl_Nm_35 (s_16 hS (by decide)) (hp3.1) ?_
  refine Wx.getI 6 4 d_Nm_findBoard_30 f_Pl_4 fl_Nm_72 w_18 (s_18 hS hp3.2) ?_
  refine Wx.cVv (q := E_Nm) (As := [.int (x1 + (2 : Int32)), .ref (hd 17 1), .int (mI μ2 (hd 18 (px μ2 (hd 16 0) 4)) 4)]) 4 (d - 1) 0 0 _ d_Nm_findBoard_33 mok_Nm_find vl_Nm_77 rfl rfl rfl (Nat.le_of_ble_eq_true rfl) (by omega) (Nat.zero_le _) (Nat.zero_le _) (s_16 hS (by decide)) hF (fun μ4 hS hF => ?_)
  exact Wx.retv d_Nm_findBoard_36 rfl hF
theorem e_Nm_findBoard {d rc rs : Nat} {Q : Option Value → Mu → Prop} {μ : Mu} {x1 : Int32} (hk : Wx K_Nm_findBoard d rc rs (fun r μ' => St μ' ∧ Q r μ') 0 [(0, .ref (hd 16 0)), (1, .int x1)] [] μ) : Cal K_Nm_findBoard d rc rs [.ref (hd 16 0), .int x1] μ Q := Cal.of (by decide +kernel) rfl rfl (Nat.le_of_ble_eq_true rfl) rfl hk
set_option maxHeartbeats 4000000 in
set_option maxRecDepth 20000 in
theorem g_Nm_findOtherParish_0 {d rc rs : Nat} {Q : Option Value → Mu → Prop} {μ : Mu} {x1 : Int32} {x2 : Int32} (hD : 1 ≤ d)  (hS : St μ)
    (hF : (Cal K_Nm_find (d - 1) 0 0 [.ref (hd 16 0), .int x2, .ref (hd 17 0), .int (mI μ (hd 18 (px μ (hd 16 0) 4)) 3)] μ (fun r μ2 => r = none ∧ (Cal K_Tk_meaningAt (d - 1) 0 0 [.ref (hd 10 0), .int x1] μ2 (fun r μ3 => ∃ y4, r = some (.int y4) ∧ (Cal K_Tk_meaningAt (d - 1) 0 0 [.ref (hd 10 0), .int x2] μ3 (fun r μ5 => ∃ y6, r = some (.int y6) ∧ ((y4 = y6 → (Cal K_Nm_fail (d - 1) 0 0 [.ref (hd 16 0), .int 5, .int x2] μ5 (fun r μ7 => r = none ∧ Q none μ7))) ∧ (¬ y4 = y6 → Q none μ5))))))))) : Wx K_Nm_findOtherParish d rc rs Q 0 [(0, .ref (hd 16 0)), (1, .int x1), (2, .int x2)] [] μ := by
  refine Wa.aload_n (j := 0) d_Nm_findOtherParish_0 rfl ?_
  refine Wa.iload_n (j := 2) d_Nm_findOtherParish_1 rfl ?_
  refine Wa.aload_n (j := 0) d_Nm_findOtherParish_2 rfl ?_
  refine Wx.getR 4 0 d_Nm_findOtherParish_3 f_Nm_0 rfl fl_Nm_9 (s_16 hS (by decide)) (r_16_0 hS (by decide)) ?_
  refine Wa.aload_n (j := 0) d_Nm_findOtherParish_6 rfl ?_
  have hp1 := d_16_4 (i := 0) hS (by decide)
  refine Wx.getR 4 4 d_Nm_findOtherParish_7 f_Nm_4 rfl fl_Nm_35 (s_16 hS (by decide)) (hp1.1) ?_
  refine Wx.getI 6 3 d_Nm_findOtherParish_10 f_Pl_3 fl_Nm_64 w_18 (s_18 hS hp1.2) ?_
  refine Wx.cVv (q := E_Nm) (As := [.int x2, .ref (hd 17 0), .int (mI μ (hd 18 (px μ (hd 16 0) 4)) 3)]) 4 (d - 1) 0 0 _ d_Nm_findOtherParish_13 mok_Nm_find vl_Nm_77 rfl rfl rfl (Nat.le_of_ble_eq_true rfl) (by omega) (Nat.zero_le _) (Nat.zero_le _) (s_16 hS (by decide)) hF (fun μ2 hS hF => ?_)
  refine Wa.aload_n (j := 0) d_Nm_findOtherParish_16 rfl ?_
  refine Wx.getR 4 3 d_Nm_findOtherParish_17 f_Nm_3 rfl fl_Nm_31 (s_16 hS (by decide)) (r_16_3 hS (by decide)) ?_
  refine Wa.iload_n (j := 1) d_Nm_findOtherParish_20 rfl ?_
  refine Wx.cVi (q := E_Tk) (As := [.int x1]) 9 (d - 1) 0 0 _ d_Nm_findOtherParish_21 mok_Tk_meaningAt vl_Nm_108 rfl rfl rfl (Nat.le_of_ble_eq_true rfl) (by omega) (Nat.zero_le _) (Nat.zero_le _) (s_10 hS (by decide)) hF (fun y4 μ3 hS hF => ?_)
  refine Wa.aload_n (j := 0) d_Nm_findOtherParish_24 rfl ?_
  refine Wx.getR 4 3 d_Nm_findOtherParish_25 f_Nm_3 rfl fl_Nm_31 (s_16 hS (by decide)) (r_16_3 hS (by decide)) ?_
  refine Wa.iload_n (j := 2) d_Nm_findOtherParish_28 rfl ?_
  refine Wx.cVi (q := E_Tk) (As := [.int x2]) 9 (d - 1) 0 0 _ d_Nm_findOtherParish_29 mok_Tk_meaningAt vl_Nm_108 rfl rfl rfl (Nat.le_of_ble_eq_true rfl) (by omega) (Nat.zero_le _) (Nat.zero_le _) (s_10 hS (by decide)) hF (fun y6 μ5 hS hF => ?_)
  refine Wa.icmp_ne 41 d_Nm_findOtherParish_32 (by decide) (fun hb => ?_) (fun hb => ?_)
  · have hF := hF.2 hb
    exact Wx.retv d_Nm_findOtherParish_41 rfl hF
  · have hF := hF.1 hb
    refine Wa.aload_n (j := 0) d_Nm_findOtherParish_35 rfl ?_
    refine Wa.iconst (v := 5) d_Nm_findOtherParish_36 rfl ?_
    refine Wa.iload_n (j := 2) d_Nm_findOtherParish_37 rfl ?_
    refine Wx.cVv (q := E_Nm) (As := [.int 5, .int x2]) 4 (d - 1) 0 0 _ d_Nm_findOtherParish_38 mok_Nm_fail vl_Nm_102 rfl rfl rfl (Nat.le_of_ble_eq_true rfl) (by omega) (Nat.zero_le _) (Nat.zero_le _) (s_16 hS (by decide)) hF (fun μ7 hS hF => ?_)
    exact Wx.retv d_Nm_findOtherParish_41 rfl hF
theorem e_Nm_findOtherParish {d rc rs : Nat} {Q : Option Value → Mu → Prop} {μ : Mu} {x1 : Int32} {x2 : Int32} (hk : Wx K_Nm_findOtherParish d rc rs (fun r μ' => St μ' ∧ Q r μ') 0 [(0, .ref (hd 16 0)), (1, .int x1), (2, .int x2)] [] μ) : Cal K_Nm_findOtherParish d rc rs [.ref (hd 16 0), .int x1, .int x2] μ Q := Cal.of (by decide +kernel) rfl rfl (Nat.le_of_ble_eq_true rfl) rfl hk
set_option maxHeartbeats 4000000 in
set_option maxRecDepth 20000 in
theorem g_Nm_layRoad_0 {d rc rs : Nat} {Q : Option Value → Mu → Prop} {μ : Mu} {x1 : Int32} (hD : 1 ≤ d)  (hS : St μ)
    (hF : (Cal K_Tk_worthAt (d - 1) 0 0 [.ref (hd 10 0), .int (x1 + (1 : Int32))] μ (fun r μ1 => ∃ y2, r = some (.long y2) ∧ (((lg_cmp y2 1) < 0 → (Cal K_Nm_fail (d - 1) 0 0 [.ref (hd 16 0), .int 5, .int (x1 + (1 : Int32))] μ1 (fun r μ3 => r = none ∧ Q none μ3))) ∧ (¬ (lg_cmp y2 1) < 0 → (((lg_cmp y2 9) ≤ 0 → ((((mI μ1 (hd 18 (px μ1 (hd 16 0) 4)) 5) - (1 : Int32)) < 0 → Q none μ1) ∧ (¬ ((mI μ1 (hd 18 (px μ1 (hd 16 0) 4)) 5) - (1 : Int32)) < 0 → (vp_in ((mI μ1 (hd 18 (px μ1 (hd 16 0) 4)) 5) - (1 : Int32)) 8 ∧ (Cal K_Tk_meaningAt (d - 1) 0 0 [.ref (hd 10 0), .int (x1 - (3 : Int32))] μ1 (fun r μ8 => ∃ y9, r = some (.int y9) ∧ (Cal K_Tk_meaningAt (d - 1) 0 0 [.ref (hd 10 0), .int (x1 - (1 : Int32))] μ8 (fun r μ10 => ∃ y11, r = some (.int y11) ∧ (Cal K_Rd_lay (d - 1) 0 0 [.ref (hd 27 (16 + 8 * (px μ1 (hd 16 0) 4) + ((mI μ1 (hd 18 (px μ1 (hd 16 0) 4)) 5) - (1 : Int32)).toNatClampNeg)), .int y9, .int y11, .int y2.toInt32] μ10 (fun r μ12 => r = none ∧ Q none μ12)))))))))) ∧ (¬ (lg_cmp y2 9) ≤ 0 → (Cal K_Nm_fail (d - 1) 0 0 [.ref (hd 16 0), .int 5, .int (x1 + (1 : Int32))] μ1 (fun r μ13 => r = none ∧ Q none μ13))))))))) : Wx K_Nm_layRoad d rc rs Q 0 [(0, .ref (hd 16 0)), (1, .int x1)] [] μ := by
  refine Wa.aload_n (j := 0) d_Nm_layRoad_0 rfl ?_
  refine Wx.getR 4 3 d_Nm_layRoad_1 f_Nm_3 rfl fl_Nm_31 (s_16 hS (by decide)) (r_16_3 hS (by decide)) ?_
  refine Wa.iload_n (j := 1) d_Nm_layRoad_4 rfl ?_
  refine Wa.iconst (v := 1) d_Nm_layRoad_5 rfl ?_
  refine Wa.iadd d_Nm_layRoad_6 ?_
  refine Wx.cVl (q := E_Tk) (As := [.int (x1 + (1 : Int32))]) 9 (d - 1) 0 0 _ d_Nm_layRoad_7 mok_Tk_worthAt vl_Nm_94 rfl rfl rfl (Nat.le_of_ble_eq_true rfl) (by omega) (Nat.zero_le _) (Nat.zero_le _) (s_10 hS (by decide)) hF (fun y2 μ1 hS hF => ?_)
  refine Wa.lstore_n (i := 2) (L' := [(2, .long y2), (0, .ref (hd 16 0)), (1, .int x1)]) d_Nm_layRoad_10 rfl (by decide) rfl ?_
  refine Wa.lload_n (j := 0) d_Nm_layRoad_11 rfl ?_
  refine Wa.lconst (v := 1) d_Nm_layRoad_12 rfl ?_
  refine Wa.lcmp d_Nm_layRoad_13 ?_
  refine Wa.if_lt 25 d_Nm_layRoad_14 (by decide) (fun hb => ?_) (fun hb => ?_)
  · have hF := hF.1 hb
    refine Wa.aload_n (j := 1) d_Nm_layRoad_25 rfl ?_
    refine Wa.iconst (v := 5) d_Nm_layRoad_26 rfl ?_
    refine Wa.iload_n (j := 2) d_Nm_layRoad_27 rfl ?_
    refine Wa.iconst (v := 1) d_Nm_layRoad_28 rfl ?_
    refine Wa.iadd d_Nm_layRoad_29 ?_
    refine Wx.cVv (q := E_Nm) (As := [.int 5, .int (x1 + (1 : Int32))]) 4 (d - 1) 0 0 _ d_Nm_layRoad_30 mok_Nm_fail vl_Nm_102 rfl rfl rfl (Nat.le_of_ble_eq_true rfl) (by omega) (Nat.zero_le _) (Nat.zero_le _) (s_16 hS (by decide)) hF (fun μ3 hS hF => ?_)
    exact Wx.retv d_Nm_layRoad_33 rfl hF
  · have hF := hF.2 hb
    refine Wa.lload_n (j := 0) d_Nm_layRoad_17 rfl ?_
    refine Wa.ldc2 d_Nm_layRoad_18 k_Nm_112 ?_
    refine Wa.lcmp d_Nm_layRoad_21 ?_
    refine Wa.if_le 34 d_Nm_layRoad_22 (by decide) (fun hb => ?_) (fun hb => ?_)
    · have hF := hF.1 hb
      refine Wa.aload_n (j := 1) d_Nm_layRoad_34 rfl ?_
      have hp4 := d_16_4 (i := 0) hS (by decide)
      refine Wx.getR 4 4 d_Nm_layRoad_35 f_Nm_4 rfl fl_Nm_35 (s_16 hS (by decide)) (hp4.1) ?_
      refine Wx.getI 6 5 d_Nm_layRoad_38 f_Pl_5 fl_Nm_74 w_18 (s_18 hS hp4.2) ?_
      refine Wa.iconst (v := 1) d_Nm_layRoad_41 rfl ?_
      refine Wa.isub d_Nm_layRoad_42 ?_
      refine Wa.istore (i := 4) (L' := [(4, .int ((mI μ1 (hd 18 (px μ1 (hd 16 0) 4)) 5) - (1 : Int32))), (2, .long y2), (0, .ref (hd 16 0)), (1, .int x1)]) d_Nm_layRoad_43 (by decide) rfl ?_
      refine Wa.iload (j := 0) d_Nm_layRoad_45 rfl ?_
      refine Wa.if_lt 85 d_Nm_layRoad_47 (by decide) (fun hb => ?_) (fun hb => ?_)
      · have hF := hF.1 hb
        exact Wx.retv d_Nm_layRoad_85 rfl hF
      · have hF := hF.2 hb
        refine Wa.aload_n (j := 2) d_Nm_layRoad_50 rfl ?_
        have hp5 := d_16_4 (i := 0) hS (by decide)
        refine Wx.getR 4 4 d_Nm_layRoad_51 f_Nm_4 rfl fl_Nm_35 (s_16 hS (by decide)) (hp5.1) ?_
        refine Wx.getR 6 1 d_Nm_layRoad_54 f_Pl_1 rfl fl_Nm_114 (s_18 hS hp5.2) (r_18_1 hS hp5.2) ?_
        refine Wa.iload (j := 0) d_Nm_layRoad_57 rfl ?_
        have hc6 := hF.1
        have hF := hF.2
        have hlhc6 := vp_in_lt hc6
        have hb7 : (16 + 8 * (px μ1 (hd 16 0) 4) + ((mI μ1 (hd 18 (px μ1 (hd 16 0) 4)) 5) - (1 : Int32)).toNatClampNeg) < 32 := by have : (px μ1 (hd 16 0) 4) < 2 := hp5.2; omega
        refine Wa.aald (t := 7) (q := E_Rd) d_Nm_layRoad_59 rfl (s_19 hS hp5.2) hc6 (a_19 hS hp5.2 hlhc6) ?_
        refine Wa.aload_n (j := 2) d_Nm_layRoad_60 rfl ?_
        refine Wx.getR 4 3 d_Nm_layRoad_61 f_Nm_3 rfl fl_Nm_31 (s_16 hS (by decide)) (r_16_3 hS (by decide)) ?_
        refine Wa.iload_n (j := 3) d_Nm_layRoad_64 rfl ?_
        refine Wa.iconst (v := 3) d_Nm_layRoad_65 rfl ?_
        refine Wa.isub d_Nm_layRoad_66 ?_
        refine Wx.cVi (q := E_Tk) (As := [.int (x1 - (3 : Int32))]) 9 (d - 1) 0 0 _ d_Nm_layRoad_67 mok_Tk_meaningAt vl_Nm_108 rfl rfl rfl (Nat.le_of_ble_eq_true rfl) (by omega) (Nat.zero_le _) (Nat.zero_le _) (s_10 hS (by decide)) hF (fun y9 μ8 hS hF => ?_)
        refine Wa.aload_n (j := 2) d_Nm_layRoad_70 rfl ?_
        refine Wx.getR 4 3 d_Nm_layRoad_71 f_Nm_3 rfl fl_Nm_31 (s_16 hS (by decide)) (r_16_3 hS (by decide)) ?_
        refine Wa.iload_n (j := 3) d_Nm_layRoad_74 rfl ?_
        refine Wa.iconst (v := 1) d_Nm_layRoad_75 rfl ?_
        refine Wa.isub d_Nm_layRoad_76 ?_
        refine Wx.cVi (q := E_Tk) (As := [.int (x1 - (1 : Int32))]) 9 (d - 1) 0 0 _ d_Nm_layRoad_77 mok_Tk_meaningAt vl_Nm_108 rfl rfl rfl (Nat.le_of_ble_eq_true rfl) (by omega) (Nat.zero_le _) (Nat.zero_le _) (s_10 hS (by decide)) hF (fun y11 μ10 hS hF => ?_)
        refine Wa.lload_n (j := 1) d_Nm_layRoad_80 rfl ?_
        refine Wa.l2i d_Nm_layRoad_81 ?_
        refine Wx.cVv (q := E_Rd) (As := [.int y9, .int y11, .int y2.toInt32]) 7 (d - 1) 0 0 _ d_Nm_layRoad_82 mok_Rd_lay vl_Nm_117 rfl rfl rfl (Nat.le_of_ble_eq_true rfl) (by omega) (Nat.zero_le _) (Nat.zero_le _) (s_27 hS hb7) hF (fun μ12 hS hF => ?_)
        exact Wx.retv d_Nm_layRoad_85 rfl hF
    · have hF := hF.2 hb
      refine Wa.aload_n (j := 1) d_Nm_layRoad_25 rfl ?_
      refine Wa.iconst (v := 5) d_Nm_layRoad_26 rfl ?_
      refine Wa.iload_n (j := 2) d_Nm_layRoad_27 rfl ?_
      refine Wa.iconst (v := 1) d_Nm_layRoad_28 rfl ?_
      refine Wa.iadd d_Nm_layRoad_29 ?_
      refine Wx.cVv (q := E_Nm) (As := [.int 5, .int (x1 + (1 : Int32))]) 4 (d - 1) 0 0 _ d_Nm_layRoad_30 mok_Nm_fail vl_Nm_102 rfl rfl rfl (Nat.le_of_ble_eq_true rfl) (by omega) (Nat.zero_le _) (Nat.zero_le _) (s_16 hS (by decide)) hF (fun μ13 hS hF => ?_)
      exact Wx.retv d_Nm_layRoad_33 rfl hF
theorem e_Nm_layRoad {d rc rs : Nat} {Q : Option Value → Mu → Prop} {μ : Mu} {x1 : Int32} (hk : Wx K_Nm_layRoad d rc rs (fun r μ' => St μ' ∧ Q r μ') 0 [(0, .ref (hd 16 0)), (1, .int x1)] [] μ) : Cal K_Nm_layRoad d rc rs [.ref (hd 16 0), .int x1] μ Q := Cal.of (by decide +kernel) rfl rfl (Nat.le_of_ble_eq_true rfl) rfl hk
set_option maxHeartbeats 4000000 in
set_option maxRecDepth 20000 in
theorem g_Nm_countOrder_0 {d rc rs : Nat} {Q : Option Value → Mu → Prop} {μ : Mu} {x1 : Int32} (hD : 1 ≤ d)  (hS : St μ)
    (hF : (((mI (setI μ (hd 16 0) 5 ((mI μ (hd 16 0) 5) + (1 : Int32))) (hd 16 0) 5) ≤ 20 → Q none (setI μ (hd 16 0) 5 ((mI μ (hd 16 0) 5) + (1 : Int32)))) ∧ (¬ (mI (setI μ (hd 16 0) 5 ((mI μ (hd 16 0) 5) + (1 : Int32))) (hd 16 0) 5) ≤ 20 → (Cal K_Nm_fail (d - 1) 0 0 [.ref (hd 16 0), .int 4, .int x1] (setI μ (hd 16 0) 5 ((mI μ (hd 16 0) 5) + (1 : Int32))) (fun r μ1 => r = none ∧ Q none μ1))))) : Wx K_Nm_countOrder d rc rs Q 0 [(0, .ref (hd 16 0)), (1, .int x1)] [] μ := by
  refine Wa.aload_n (j := 0) d_Nm_countOrder_0 rfl ?_
  refine Wa.dup d_Nm_countOrder_1 rfl ?_
  refine Wx.getI 4 5 d_Nm_countOrder_2 f_Nm_5 fl_Nm_21 w_16 (s_16 hS (by decide)) ?_
  refine Wa.iconst (v := 1) d_Nm_countOrder_5 rfl ?_
  refine Wa.iadd d_Nm_countOrder_6 ?_
  refine Wx.putI 4 5 d_Nm_countOrder_7 f_Nm_5 ok_Nm fl_Nm_21 (Or.inl rfl) w_16 (s_16 hS (by decide)) ?_
  refine Wa.aload_n (j := 0) d_Nm_countOrder_10 rfl ?_
  refine Wx.getI 4 5 d_Nm_countOrder_11 f_Nm_5 fl_Nm_21 w_16 (s_16 hS (by decide)) ?_
  refine Wa.bipush (v := 20) d_Nm_countOrder_14 rfl ?_
  refine Wa.icmp_le 25 d_Nm_countOrder_16 (by decide) (fun hb => ?_) (fun hb => ?_)
  · have hF := hF.1 hb
    exact Wx.retv d_Nm_countOrder_25 rfl hF
  · have hF := hF.2 hb
    refine Wa.aload_n (j := 0) d_Nm_countOrder_19 rfl ?_
    refine Wa.iconst (v := 4) d_Nm_countOrder_20 rfl ?_
    refine Wa.iload_n (j := 1) d_Nm_countOrder_21 rfl ?_
    refine Wx.cVv (q := E_Nm) (As := [.int 4, .int x1]) 4 (d - 1) 0 0 _ d_Nm_countOrder_22 mok_Nm_fail vl_Nm_102 rfl rfl rfl (Nat.le_of_ble_eq_true rfl) (by omega) (Nat.zero_le _) (Nat.zero_le _) (s_16 hS (by decide)) hF (fun μ1 hS hF => ?_)
    exact Wx.retv d_Nm_countOrder_25 rfl hF
theorem e_Nm_countOrder {d rc rs : Nat} {Q : Option Value → Mu → Prop} {μ : Mu} {x1 : Int32} (hk : Wx K_Nm_countOrder d rc rs (fun r μ' => St μ' ∧ Q r μ') 0 [(0, .ref (hd 16 0)), (1, .int x1)] [] μ) : Cal K_Nm_countOrder d rc rs [.ref (hd 16 0), .int x1] μ Q := Cal.of (by decide +kernel) rfl rfl (Nat.le_of_ble_eq_true rfl) rfl hk
set_option maxHeartbeats 4000000 in
set_option maxRecDepth 20000 in
theorem g_Nm_placeOf_0 {d rc rs : Nat} {Q : Option Value → Mu → Prop} {μ : Mu} {x0 : Int64} {i2 : Nat} {x3 : Int32} (hD : 1 ≤ d) (h2 : i2 < 3) (hS : St μ)
    (hF : Wx K_Nm_placeOf d rc rs Q 3 [(0, .long x0), (2, .ref (hd 17 i2)), (3, .int x3), (4, .int 0)] [] μ) : Wx K_Nm_placeOf d rc rs Q 0 [(0, .long x0), (2, .ref (hd 17 i2)), (3, .int x3)] [] μ := by
  refine Wa.iconst (v := 0) d_Nm_placeOf_0 rfl ?_
  refine Wa.istore (i := 4) (L' := [(4, .int 0), (0, .long x0), (2, .ref (hd 17 i2)), (3, .int x3)]) d_Nm_placeOf_1 (by decide) rfl ?_
  exact Wa.loc [1, 2, 3, 0] rfl hF
theorem e_Nm_placeOf {d rc rs : Nat} {Q : Option Value → Mu → Prop} {μ : Mu} {x0 : Int64} {i2 : Nat} {x3 : Int32} (hk : Wx K_Nm_placeOf d rc rs (fun r μ' => St μ' ∧ Q r μ') 0 [(0, .long x0), (2, .ref (hd 17 i2)), (3, .int x3)] [] μ) : Cal K_Nm_placeOf d rc rs [.long x0, .ref (hd 17 i2), .int x3] μ Q := Cal.of (by decide +kernel) rfl rfl (Nat.le_of_ble_eq_true rfl) rfl hk
set_option maxHeartbeats 4000000 in
set_option maxRecDepth 20000 in
theorem g_Nm_placeOf_3 {d rc rs : Nat} {Q : Option Value → Mu → Prop} {μ : Mu} {x0 : Int64} {i2 : Nat} {x3 : Int32} {x4 : Int32} (hD : 1 ≤ d) (h2 : i2 < 3) (hS : St μ)
    (hF : ((x3 ≤ x4 → Q (some (.int (-1))) μ) ∧ (¬ x3 ≤ x4 → (((nI ([5, 6, 8].getD i2 0)) ≤ x4 → Q (some (.int (-1))) μ) ∧ (¬ (nI ([5, 6, 8].getD i2 0)) ≤ x4 → (vp_in x4 ([5, 6, 8].getD i2 0) ∧ (((lg_cmp (mL μ (hd 17 i2) x4.toNatClampNeg) x0) = 0 → Q (some (.int x4)) μ) ∧ (¬ (lg_cmp (mL μ (hd 17 i2) x4.toNatClampNeg) x0) = 0 → Wx K_Nm_placeOf d rc rs Q 3 [(0, .long x0), (2, .ref (hd 17 i2)), (3, .int x3), (4, .int (x4 + 1))] [] μ)))))))) : Wx K_Nm_placeOf d rc rs Q 3 [(0, .long x0), (2, .ref (hd 17 i2)), (3, .int x3), (4, .int x4)] [] μ := by
  refine Wa.iload (j := 3) d_Nm_placeOf_3 rfl ?_
  refine Wa.iload_n (j := 2) d_Nm_placeOf_5 rfl ?_
  refine Wa.icmp_ge 34 d_Nm_placeOf_6 (by decide) (fun hb => ?_) (fun hb => ?_)
  · have hF := hF.1 hb
    refine Wa.iconst (v := (-1)) d_Nm_placeOf_34 rfl ?_
    exact Wx.reti d_Nm_placeOf_35 rfl hF
  · have hF := hF.2 hb
    refine Wa.iload (j := 3) d_Nm_placeOf_9 rfl ?_
    refine Wa.aload_n (j := 1) d_Nm_placeOf_11 rfl ?_
    refine Wa.alen d_Nm_placeOf_12 (s_17 hS h2) (by decide) ?_
    refine Wa.icmp_ge 34 d_Nm_placeOf_13 (by decide) (fun hb => ?_) (fun hb => ?_)
    · have hF := hF.1 hb
      refine Wa.iconst (v := (-1)) d_Nm_placeOf_34 rfl ?_
      exact Wx.reti d_Nm_placeOf_35 rfl hF
    · have hF := hF.2 hb
      refine Wa.aload_n (j := 1) d_Nm_placeOf_16 rfl ?_
      refine Wa.iload (j := 3) d_Nm_placeOf_17 rfl ?_
      have hc1 := hF.1
      have hF := hF.2
      have hlhc1 := vp_in_lt hc1
      refine Wa.lald d_Nm_placeOf_19 (s_17 hS h2) hc1 ?_
      refine Wa.lload_n (j := 0) d_Nm_placeOf_20 rfl ?_
      refine Wa.lcmp d_Nm_placeOf_21 ?_
      refine Wa.if_ne 28 d_Nm_placeOf_22 (by decide) (fun hb => ?_) (fun hb => ?_)
      · have hF := hF.2 hb
        refine Wa.iinc (i := 4) (j := 3) (v := (x4 + 1)) (L' := [(4, .int (x4 + 1)), (0, .long x0), (2, .ref (hd 17 i2)), (3, .int x3)]) d_Nm_placeOf_28 rfl rfl (by decide) rfl ?_
        refine Wa.goto 3 d_Nm_placeOf_31 (by decide) ?_
        exact Wa.loc [1, 2, 3, 0] rfl hF
      · have hF := hF.1 hb
        refine Wa.iload (j := 3) d_Nm_placeOf_25 rfl ?_
        exact Wx.reti d_Nm_placeOf_27 rfl hF
set_option maxHeartbeats 4000000 in
set_option maxRecDepth 20000 in
theorem g_Nm_fail_0 {d rc rs : Nat} {Q : Option Value → Mu → Prop} {μ : Mu} {x1 : Int32} {x2 : Int32} (hD : 1 ≤ d)  (hS : St μ)
    (hF : (((mI μ (hd 16 0) 6) = 0 → Q none (setI (setI μ (hd 16 0) 6 x1) (hd 16 0) 7 x2)) ∧ (¬ (mI μ (hd 16 0) 6) = 0 → Q none μ))) : Wx K_Nm_fail d rc rs Q 0 [(0, .ref (hd 16 0)), (1, .int x1), (2, .int x2)] [] μ := by
  refine Wa.aload_n (j := 0) d_Nm_fail_0 rfl ?_
  refine Wx.getI 4 6 d_Nm_fail_1 f_Nm_6 fl_Nm_25 w_16 (s_16 hS (by decide)) ?_
  refine Wa.if_ne 17 d_Nm_fail_4 (by decide) (fun hb => ?_) (fun hb => ?_)
  · have hF := hF.2 hb
    exact Wx.retv d_Nm_fail_17 rfl hF
  · have hF := hF.1 hb
    refine Wa.aload_n (j := 0) d_Nm_fail_7 rfl ?_
    refine Wa.iload_n (j := 1) d_Nm_fail_8 rfl ?_
    refine Wx.putI 4 6 d_Nm_fail_9 f_Nm_6 ok_Nm fl_Nm_25 (Or.inl rfl) w_16 (s_16 hS (by decide)) ?_
    refine Wa.aload_n (j := 0) d_Nm_fail_12 rfl ?_
    refine Wa.iload_n (j := 2) d_Nm_fail_13 rfl ?_
    refine Wx.putI 4 7 d_Nm_fail_14 f_Nm_7 ok_Nm fl_Nm_28 (Or.inl rfl) w_16 (s_16 hS (by decide)) ?_
    exact Wx.retv d_Nm_fail_17 rfl hF
theorem e_Nm_fail {d rc rs : Nat} {Q : Option Value → Mu → Prop} {μ : Mu} {x1 : Int32} {x2 : Int32} (hk : Wx K_Nm_fail d rc rs (fun r μ' => St μ' ∧ Q r μ') 0 [(0, .ref (hd 16 0)), (1, .int x1), (2, .int x2)] [] μ) : Cal K_Nm_fail d rc rs [.ref (hd 16 0), .int x1, .int x2] μ Q := Cal.of (by decide +kernel) rfl rfl (Nat.le_of_ble_eq_true rfl) rfl hk
