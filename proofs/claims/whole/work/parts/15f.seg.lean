/-! segments of methods, by machine -/
set_option maxHeartbeats 4000000 in
set_option maxRecDepth 20000 in
theorem g_MS_copy_0 {d rc rs : Nat} {Q : Option Value → Mu → Prop} {μ : Mu} {i0 : Nat} {a1 n1 : Nat} {a2 n2 : Nat} (hD : 1 ≤ d) (h0 : i0 < 2) (h1 : mS μ a1 = (2, n1)) (w1 : rwN a1) (h2 : mS μ a2 = (2, n2)) (w2 : rwN a2) (hS : St μ)
    (hF : ((¬ (0 : Int32) < 0 ∧ ¬ (0 : Int32) < 0 ∧ ¬ (nI n1) < 0 ∧ (0 : Int32).toNatClampNeg + (nI n1).toNatClampNeg ≤ n1 ∧ (0 : Int32).toNatClampNeg + (nI n1).toNatClampNeg ≤ n2) ∧ Q none (cpI μ a1 a2 (0 : Int32).toNatClampNeg (0 : Int32).toNatClampNeg (nI n1).toNatClampNeg))) : Wx K_MS_copy d rc rs Q 0 [(0, .ref (hd 65 i0)), (1, .ref a1), (2, .ref a2)] [] μ := by
  refine Wa.aload_n (j := 1) d_MS_copy_0 rfl ?_
  refine Wa.iconst (v := 0) d_MS_copy_1 rfl ?_
  refine Wa.aload_n (j := 2) d_MS_copy_2 rfl ?_
  refine Wa.iconst (v := 0) d_MS_copy_3 rfl ?_
  refine Wa.aload_n (j := 1) d_MS_copy_4 rfl ?_
  refine Wa.alen d_MS_copy_5 (h1) (by decide) ?_
  have hc1 := hF.1
  have hF := hF.2
  refine Wa.copyI d_MS_copy_6 ml_MS_68 cp_1 cp_2 cp_3 (Nat.le_of_ble_eq_true rfl) hD w1 w2 (h1) (h2) hc1.1 hc1.2.1 hc1.2.2.1 hc1.2.2.2.1 hc1.2.2.2.2 ?_
  exact Wx.retv d_MS_copy_9 rfl hF
theorem e_MS_copy {d rc rs : Nat} {Q : Option Value → Mu → Prop} {μ : Mu} {i0 : Nat} {a1 n1 : Nat} {a2 n2 : Nat} (hk : Wx K_MS_copy d rc rs (fun r μ' => St μ' ∧ Q r μ') 0 [(0, .ref (hd 65 i0)), (1, .ref a1), (2, .ref a2)] [] μ) : Cal K_MS_copy d rc rs [.ref (hd 65 i0), .ref a1, .ref a2] μ Q := Cal.of (by decide +kernel) rfl rfl (Nat.le_of_ble_eq_true rfl) rfl hk
set_option maxHeartbeats 4000000 in
set_option maxRecDepth 20000 in
theorem g_MS_copy__0 {d rc rs : Nat} {Q : Option Value → Mu → Prop} {μ : Mu} {i0 : Nat} {a1 n1 : Nat} {a2 n2 : Nat} (hD : 1 ≤ d) (h0 : i0 < 2) (h1 : mS μ a1 = (3, n1)) (w1 : rwN a1) (h2 : mS μ a2 = (3, n2)) (w2 : rwN a2) (hS : St μ)
    (hF : ((¬ (0 : Int32) < 0 ∧ ¬ (0 : Int32) < 0 ∧ ¬ (nI n1) < 0 ∧ (0 : Int32).toNatClampNeg + (nI n1).toNatClampNeg ≤ n1 ∧ (0 : Int32).toNatClampNeg + (nI n1).toNatClampNeg ≤ n2) ∧ Q none (cpL μ a1 a2 (0 : Int32).toNatClampNeg (0 : Int32).toNatClampNeg (nI n1).toNatClampNeg))) : Wx K_MS_copy_ d rc rs Q 0 [(0, .ref (hd 65 i0)), (1, .ref a1), (2, .ref a2)] [] μ := by
  refine Wa.aload_n (j := 1) d_MS_copy__0 rfl ?_
  refine Wa.iconst (v := 0) d_MS_copy__1 rfl ?_
  refine Wa.aload_n (j := 2) d_MS_copy__2 rfl ?_
  refine Wa.iconst (v := 0) d_MS_copy__3 rfl ?_
  refine Wa.aload_n (j := 1) d_MS_copy__4 rfl ?_
  refine Wa.alen d_MS_copy__5 (h1) (by decide) ?_
  have hc1 := hF.1
  have hF := hF.2
  refine Wa.copyL d_MS_copy__6 ml_MS_68 cp_1 cp_2 cp_3 (Nat.le_of_ble_eq_true rfl) hD w1 w2 (h1) (h2) hc1.1 hc1.2.1 hc1.2.2.1 hc1.2.2.2.1 hc1.2.2.2.2 ?_
  exact Wx.retv d_MS_copy__9 rfl hF
theorem e_MS_copy_ {d rc rs : Nat} {Q : Option Value → Mu → Prop} {μ : Mu} {i0 : Nat} {a1 n1 : Nat} {a2 n2 : Nat} (hk : Wx K_MS_copy_ d rc rs (fun r μ' => St μ' ∧ Q r μ') 0 [(0, .ref (hd 65 i0)), (1, .ref a1), (2, .ref a2)] [] μ) : Cal K_MS_copy_ d rc rs [.ref (hd 65 i0), .ref a1, .ref a2] μ Q := Cal.of (by decide +kernel) rfl rfl (Nat.le_of_ble_eq_true rfl) rfl hk
set_option maxHeartbeats 4000000 in
set_option maxRecDepth 20000 in
theorem g_MS_become_0 {d rc rs : Nat} {Q : Option Value → Mu → Prop} {μ : Mu} {i0 : Nat} {i1 : Nat} (hD : 1 ≤ d) (h0 : i0 < 2) (h1 : i1 < 2) (hS : St μ)
    (hF : (∀ μ1 : Mu, μ1 = (setI (setI (setI μ (hd 65 i0) 0 (mI μ (hd 65 i1) 0)) (hd 65 i0) 1 (mI (setI μ (hd 65 i0) 0 (mI μ (hd 65 i1) 0)) (hd 65 i1) 1)) (hd 65 i0) 2 (mI (setI (setI μ (hd 65 i0) 0 (mI μ (hd 65 i1) 0)) (hd 65 i0) 1 (mI (setI μ (hd 65 i0) 0 (mI μ (hd 65 i1) 0)) (hd 65 i1) 1)) (hd 65 i1) 2)) → (∀ μ2 : Mu, μ2 = (setI (setI (setI μ1 (hd 65 i0) 3 (mI μ1 (hd 65 i1) 3)) (hd 65 i0) 4 (mI (setI μ1 (hd 65 i0) 3 (mI μ1 (hd 65 i1) 3)) (hd 65 i1) 4)) (hd 65 i0) 18 (mI (setI (setI μ1 (hd 65 i0) 3 (mI μ1 (hd 65 i1) 3)) (hd 65 i0) 4 (mI (setI μ1 (hd 65 i0) 3 (mI μ1 (hd 65 i1) 3)) (hd 65 i1) 4)) (hd 65 i1) 18)) → (Cal K_MS_copy (d - 1) 0 0 [.ref (hd 65 i0), .ref (hd 66 i1), .ref (hd 66 i0)] μ2 (fun r μ3 => r = none ∧ (Cal K_MS_copy (d - 1) 0 0 [.ref (hd 65 i0), .ref (hd 67 i1), .ref (hd 67 i0)] μ3 (fun r μ4 => r = none ∧ (Cal K_MS_copy (d - 1) 0 0 [.ref (hd 65 i0), .ref (hd 68 i1), .ref (hd 68 i0)] μ4 (fun r μ5 => r = none ∧ (Cal K_MS_copy (d - 1) 0 0 [.ref (hd 65 i0), .ref (hd 69 i1), .ref (hd 69 i0)] μ5 (fun r μ6 => r = none ∧ (Cal K_MS_copy (d - 1) 0 0 [.ref (hd 65 i0), .ref (hd 70 i1), .ref (hd 70 i0)] μ6 (fun r μ7 => r = none ∧ (Cal K_MS_copy (d - 1) 0 0 [.ref (hd 65 i0), .ref (hd 71 i1), .ref (hd 71 i0)] μ7 (fun r μ8 => r = none ∧ (Cal K_MS_copy (d - 1) 0 0 [.ref (hd 65 i0), .ref (hd 72 i1), .ref (hd 72 i0)] μ8 (fun r μ9 => r = none ∧ (Cal K_MS_copy (d - 1) 0 0 [.ref (hd 65 i0), .ref (hd 73 i1), .ref (hd 73 i0)] μ9 (fun r μ10 => r = none ∧ (Cal K_MS_copy (d - 1) 0 0 [.ref (hd 65 i0), .ref (hd 74 i1), .ref (hd 74 i0)] μ10 (fun r μ11 => r = none ∧ (Cal K_MS_copy_ (d - 1) 0 0 [.ref (hd 65 i0), .ref (hd 75 i1), .ref (hd 75 i0)] μ11 (fun r μ12 => r = none ∧ (Cal K_MS_copy (d - 1) 0 0 [.ref (hd 65 i0), .ref (hd 76 i1), .ref (hd 76 i0)] μ12 (fun r μ13 => r = none ∧ (Cal K_MS_copy (d - 1) 0 0 [.ref (hd 65 i0), .ref (hd 77 i1), .ref (hd 77 i0)] μ13 (fun r μ14 => r = none ∧ (Cal K_MS_copy_ (d - 1) 0 0 [.ref (hd 65 i0), .ref (hd 78 i1), .ref (hd 78 i0)] μ14 (fun r μ15 => r = none ∧ (Cal K_MS_copy (d - 1) 0 0 [.ref (hd 65 i0), .ref (hd 79 i1), .ref (hd 79 i0)] μ15 (fun r μ16 => r = none ∧ (Cal K_MS_copy (d - 1) 0 0 [.ref (hd 65 i0), .ref (hd 80 i1), .ref (hd 80 i0)] μ16 (fun r μ17 => r = none ∧ (Cal K_MS_copy_ (d - 1) 0 0 [.ref (hd 65 i0), .ref (hd 81 i1), .ref (hd 81 i0)] μ17 (fun r μ18 => r = none ∧ Q (some (.ref (hd 65 i0))) μ18))))))))))))))))))))))))))))))))))) : Wx K_MS_become d rc rs Q 0 [(0, .ref (hd 65 i0)), (1, .ref (hd 65 i1))] [] μ := by
  refine Wa.aload_n (j := 0) d_MS_become_0 rfl ?_
  refine Wa.aload_n (j := 1) d_MS_become_1 rfl ?_
  refine Wx.getI 13 0 d_MS_become_2 f_MS_0 fl_MS_74 w_65 (s_65 hS h1) ?_
  refine Wx.putI 13 0 d_MS_become_5 f_MS_0 ok_MS fl_MS_74 (Or.inl rfl) w_65 (s_65 hS h0) ?_
  refine Wa.aload_n (j := 0) d_MS_become_8 rfl ?_
  refine Wa.aload_n (j := 1) d_MS_become_9 rfl ?_
  refine Wx.getI 13 1 d_MS_become_10 f_MS_1 fl_MS_78 w_65 (s_65 hS h1) ?_
  refine Wx.putI 13 1 d_MS_become_13 f_MS_1 ok_MS fl_MS_78 (Or.inl rfl) w_65 (s_65 hS h0) ?_
  refine Wa.aload_n (j := 0) d_MS_become_16 rfl ?_
  refine Wa.aload_n (j := 1) d_MS_become_17 rfl ?_
  refine Wx.getI 13 2 d_MS_become_18 f_MS_2 fl_MS_81 w_65 (s_65 hS h1) ?_
  refine Wx.putI 13 2 d_MS_become_21 f_MS_2 ok_MS fl_MS_81 (Or.inl rfl) w_65 (s_65 hS h0) ?_
  suffices hh : ∀ μ1 : Mu, μ1 = (setI (setI (setI μ (hd 65 i0) 0 (mI μ (hd 65 i1) 0)) (hd 65 i0) 1 (mI (setI μ (hd 65 i0) 0 (mI μ (hd 65 i1) 0)) (hd 65 i1) 1)) (hd 65 i0) 2 (mI (setI (setI μ (hd 65 i0) 0 (mI μ (hd 65 i1) 0)) (hd 65 i0) 1 (mI (setI μ (hd 65 i0) 0 (mI μ (hd 65 i1) 0)) (hd 65 i1) 1)) (hd 65 i1) 2)) → Wx K_MS_become d rc rs Q 24 [(0, .ref (hd 65 i0)), (1, .ref (hd 65 i1))] [] μ1 from hh _ rfl
  intro μ1 em
  have hF := hF μ1 em
  have hS : St μ1 := by rw [em]; exact hS
  refine Wa.aload_n (j := 0) d_MS_become_24 rfl ?_
  refine Wa.aload_n (j := 1) d_MS_become_25 rfl ?_
  refine Wx.getI 13 3 d_MS_become_26 f_MS_3 fl_MS_84 w_65 (s_65 hS h1) ?_
  refine Wx.putI 13 3 d_MS_become_29 f_MS_3 ok_MS fl_MS_84 (Or.inl rfl) w_65 (s_65 hS h0) ?_
  refine Wa.aload_n (j := 0) d_MS_become_32 rfl ?_
  refine Wa.aload_n (j := 1) d_MS_become_33 rfl ?_
  refine Wx.getI 13 4 d_MS_become_34 f_MS_4 fl_MS_87 w_65 (s_65 hS h1) ?_
  refine Wx.putI 13 4 d_MS_become_37 f_MS_4 ok_MS fl_MS_87 (Or.inl rfl) w_65 (s_65 hS h0) ?_
  refine Wa.aload_n (j := 0) d_MS_become_40 rfl ?_
  refine Wa.aload_n (j := 1) d_MS_become_41 rfl ?_
  refine Wx.getI 13 18 d_MS_become_42 f_MS_18 fl_MS_90 w_65 (s_65 hS h1) ?_
  refine Wx.putI 13 18 d_MS_become_45 f_MS_18 ok_MS fl_MS_90 (Or.inl rfl) w_65 (s_65 hS h0) ?_
  suffices hh : ∀ μ2 : Mu, μ2 = (setI (setI (setI μ1 (hd 65 i0) 3 (mI μ1 (hd 65 i1) 3)) (hd 65 i0) 4 (mI (setI μ1 (hd 65 i0) 3 (mI μ1 (hd 65 i1) 3)) (hd 65 i1) 4)) (hd 65 i0) 18 (mI (setI (setI μ1 (hd 65 i0) 3 (mI μ1 (hd 65 i1) 3)) (hd 65 i0) 4 (mI (setI μ1 (hd 65 i0) 3 (mI μ1 (hd 65 i1) 3)) (hd 65 i1) 4)) (hd 65 i1) 18)) → Wx K_MS_become d rc rs Q 48 [(0, .ref (hd 65 i0)), (1, .ref (hd 65 i1))] [] μ2 from hh _ rfl
  intro μ2 em
  have hF := hF μ2 em
  have hS : St μ2 := by rw [em]; exact hS
  refine Wa.aload_n (j := 0) d_MS_become_48 rfl ?_
  refine Wa.aload_n (j := 1) d_MS_become_49 rfl ?_
  refine Wx.getR 13 5 d_MS_become_50 f_MS_5 rfl fl_MS_15 (s_65 hS h1) (r_65_5 hS h1) ?_
  refine Wa.aload_n (j := 0) d_MS_become_53 rfl ?_
  refine Wx.getR 13 5 d_MS_become_54 f_MS_5 rfl fl_MS_15 (s_65 hS h0) (r_65_5 hS h0) ?_
  refine Wx.cVv (q := E_MS) (As := [.ref (hd 66 i1), .ref (hd 66 i0)]) 13 (d - 1) 0 0 _ d_MS_become_57 mok_MS_copy vl_MS_93 rfl rfl rfl (Nat.le_of_ble_eq_true rfl) (by omega) (Nat.zero_le _) (Nat.zero_le _) (s_65 hS h0) hF (fun μ3 hS hF => ?_)
  refine Wa.aload_n (j := 0) d_MS_become_60 rfl ?_
  refine Wa.aload_n (j := 1) d_MS_become_61 rfl ?_
  refine Wx.getR 13 6 d_MS_become_62 f_MS_6 rfl fl_MS_19 (s_65 hS h1) (r_65_6 hS h1) ?_
  refine Wa.aload_n (j := 0) d_MS_become_65 rfl ?_
  refine Wx.getR 13 6 d_MS_become_66 f_MS_6 rfl fl_MS_19 (s_65 hS h0) (r_65_6 hS h0) ?_
  refine Wx.cVv (q := E_MS) (As := [.ref (hd 67 i1), .ref (hd 67 i0)]) 13 (d - 1) 0 0 _ d_MS_become_69 mok_MS_copy vl_MS_93 rfl rfl rfl (Nat.le_of_ble_eq_true rfl) (by omega) (Nat.zero_le _) (Nat.zero_le _) (s_65 hS h0) hF (fun μ4 hS hF => ?_)
  refine Wa.aload_n (j := 0) d_MS_become_72 rfl ?_
  refine Wa.aload_n (j := 1) d_MS_become_73 rfl ?_
  refine Wx.getR 13 7 d_MS_become_74 f_MS_7 rfl fl_MS_22 (s_65 hS h1) (r_65_7 hS h1) ?_
  refine Wa.aload_n (j := 0) d_MS_become_77 rfl ?_
  refine Wx.getR 13 7 d_MS_become_78 f_MS_7 rfl fl_MS_22 (s_65 hS h0) (r_65_7 hS h0) ?_
  refine Wx.cVv (q := E_MS) (As := [.ref (hd 68 i1), .ref (hd 68 i0)]) 13 (d - 1) 0 0 _ d_MS_become_81 mok_MS_copy vl_MS_93 rfl rfl rfl (Nat.le_of_ble_eq_true rfl) (by omega) (Nat.zero_le _) (Nat.zero_le _) (s_65 hS h0) hF (fun μ5 hS hF => ?_)
  refine Wa.aload_n (j := 0) d_MS_become_84 rfl ?_
  refine Wa.aload_n (j := 1) d_MS_become_85 rfl ?_
  refine Wx.getR 13 8 d_MS_become_86 f_MS_8 rfl fl_MS_25 (s_65 hS h1) (r_65_8 hS h1) ?_
  refine Wa.aload_n (j := 0) d_MS_become_89 rfl ?_
  refine Wx.getR 13 8 d_MS_become_90 f_MS_8 rfl fl_MS_25 (s_65 hS h0) (r_65_8 hS h0) ?_
  refine Wx.cVv (q := E_MS) (As := [.ref (hd 69 i1), .ref (hd 69 i0)]) 13 (d - 1) 0 0 _ d_MS_become_93 mok_MS_copy vl_MS_93 rfl rfl rfl (Nat.le_of_ble_eq_true rfl) (by omega) (Nat.zero_le _) (Nat.zero_le _) (s_65 hS h0) hF (fun μ6 hS hF => ?_)
  refine Wa.aload_n (j := 0) d_MS_become_96 rfl ?_
  refine Wa.aload_n (j := 1) d_MS_become_97 rfl ?_
  refine Wx.getR 13 9 d_MS_become_98 f_MS_9 rfl fl_MS_28 (s_65 hS h1) (r_65_9 hS h1) ?_
  refine Wa.aload_n (j := 0) d_MS_become_101 rfl ?_
  refine Wx.getR 13 9 d_MS_become_102 f_MS_9 rfl fl_MS_28 (s_65 hS h0) (r_65_9 hS h0) ?_
  refine Wx.cVv (q := E_MS) (As := [.ref (hd 70 i1), .ref (hd 70 i0)]) 13 (d - 1) 0 0 _ d_MS_become_105 mok_MS_copy vl_MS_93 rfl rfl rfl (Nat.le_of_ble_eq_true rfl) (by omega) (Nat.zero_le _) (Nat.zero_le _) (s_65 hS h0) hF (fun μ7 hS hF => ?_)
  refine Wa.aload_n (j := 0) d_MS_become_108 rfl ?_
  refine Wa.aload_n (j := 1) d_MS_become_109 rfl ?_
  refine Wx.getR 13 10 d_MS_become_110 f_MS_10 rfl fl_MS_31 (s_65 hS h1) (r_65_10 hS h1) ?_
  refine Wa.aload_n (j := 0) d_MS_become_113 rfl ?_
  refine Wx.getR 13 10 d_MS_become_114 f_MS_10 rfl fl_MS_31 (s_65 hS h0) (r_65_10 hS h0) ?_
  refine Wx.cVv (q := E_MS) (As := [.ref (hd 71 i1), .ref (hd 71 i0)]) 13 (d - 1) 0 0 _ d_MS_become_117 mok_MS_copy vl_MS_93 rfl rfl rfl (Nat.le_of_ble_eq_true rfl) (by omega) (Nat.zero_le _) (Nat.zero_le _) (s_65 hS h0) hF (fun μ8 hS hF => ?_)
  refine Wa.aload_n (j := 0) d_MS_become_120 rfl ?_
  refine Wa.aload_n (j := 1) d_MS_become_121 rfl ?_
  refine Wx.getR 13 11 d_MS_become_122 f_MS_11 rfl fl_MS_34 (s_65 hS h1) (r_65_11 hS h1) ?_
  refine Wa.aload_n (j := 0) d_MS_become_125 rfl ?_
  refine Wx.getR 13 11 d_MS_become_126 f_MS_11 rfl fl_MS_34 (s_65 hS h0) (r_65_11 hS h0) ?_
  refine Wx.cVv (q := E_MS) (As := [.ref (hd 72 i1), .ref (hd 72 i0)]) 13 (d - 1) 0 0 _ d_MS_become_129 mok_MS_copy vl_MS_93 rfl rfl rfl (Nat.le_of_ble_eq_true rfl) (by omega) (Nat.zero_le _) (Nat.zero_le _) (s_65 hS h0) hF (fun μ9 hS hF => ?_)
  refine Wa.aload_n (j := 0) d_MS_become_132 rfl ?_
  refine Wa.aload_n (j := 1) d_MS_become_133 rfl ?_
  refine Wx.getR 13 12 d_MS_become_134 f_MS_12 rfl fl_MS_37 (s_65 hS h1) (r_65_12 hS h1) ?_
  refine Wa.aload_n (j := 0) d_MS_become_137 rfl ?_
  refine Wx.getR 13 12 d_MS_become_138 f_MS_12 rfl fl_MS_37 (s_65 hS h0) (r_65_12 hS h0) ?_
  refine Wx.cVv (q := E_MS) (As := [.ref (hd 73 i1), .ref (hd 73 i0)]) 13 (d - 1) 0 0 _ d_MS_become_141 mok_MS_copy vl_MS_93 rfl rfl rfl (Nat.le_of_ble_eq_true rfl) (by omega) (Nat.zero_le _) (Nat.zero_le _) (s_65 hS h0) hF (fun μ10 hS hF => ?_)
  refine Wa.aload_n (j := 0) d_MS_become_144 rfl ?_
  refine Wa.aload_n (j := 1) d_MS_become_145 rfl ?_
  refine Wx.getR 13 13 d_MS_become_146 f_MS_13 rfl fl_MS_40 (s_65 hS h1) (r_65_13 hS h1) ?_
  refine Wa.aload_n (j := 0) d_MS_become_149 rfl ?_
  refine Wx.getR 13 13 d_MS_become_150 f_MS_13 rfl fl_MS_40 (s_65 hS h0) (r_65_13 hS h0) ?_
  refine Wx.cVv (q := E_MS) (As := [.ref (hd 74 i1), .ref (hd 74 i0)]) 13 (d - 1) 0 0 _ d_MS_become_153 mok_MS_copy vl_MS_93 rfl rfl rfl (Nat.le_of_ble_eq_true rfl) (by omega) (Nat.zero_le _) (Nat.zero_le _) (s_65 hS h0) hF (fun μ11 hS hF => ?_)
  refine Wa.aload_n (j := 0) d_MS_become_156 rfl ?_
  refine Wa.aload_n (j := 1) d_MS_become_157 rfl ?_
  refine Wx.getR 13 14 d_MS_become_158 f_MS_14 rfl fl_MS_43 (s_65 hS h1) (r_65_14 hS h1) ?_
  refine Wa.aload_n (j := 0) d_MS_become_161 rfl ?_
  refine Wx.getR 13 14 d_MS_become_162 f_MS_14 rfl fl_MS_43 (s_65 hS h0) (r_65_14 hS h0) ?_
  refine Wx.cVv (q := E_MS) (As := [.ref (hd 75 i1), .ref (hd 75 i0)]) 13 (d - 1) 0 0 _ d_MS_become_165 mok_MS_copy_ vl_MS_97 rfl rfl rfl (Nat.le_of_ble_eq_true rfl) (by omega) (Nat.zero_le _) (Nat.zero_le _) (s_65 hS h0) hF (fun μ12 hS hF => ?_)
  refine Wa.aload_n (j := 0) d_MS_become_168 rfl ?_
  refine Wa.aload_n (j := 1) d_MS_become_169 rfl ?_
  refine Wx.getR 13 15 d_MS_become_170 f_MS_15 rfl fl_MS_47 (s_65 hS h1) (r_65_15 hS h1) ?_
  refine Wa.aload_n (j := 0) d_MS_become_173 rfl ?_
  refine Wx.getR 13 15 d_MS_become_174 f_MS_15 rfl fl_MS_47 (s_65 hS h0) (r_65_15 hS h0) ?_
  refine Wx.cVv (q := E_MS) (As := [.ref (hd 76 i1), .ref (hd 76 i0)]) 13 (d - 1) 0 0 _ d_MS_become_177 mok_MS_copy vl_MS_93 rfl rfl rfl (Nat.le_of_ble_eq_true rfl) (by omega) (Nat.zero_le _) (Nat.zero_le _) (s_65 hS h0) hF (fun μ13 hS hF => ?_)
  refine Wa.aload_n (j := 0) d_MS_become_180 rfl ?_
  refine Wa.aload_n (j := 1) d_MS_become_181 rfl ?_
  refine Wx.getR 13 16 d_MS_become_182 f_MS_16 rfl fl_MS_50 (s_65 hS h1) (r_65_16 hS h1) ?_
  refine Wa.aload_n (j := 0) d_MS_become_185 rfl ?_
  refine Wx.getR 13 16 d_MS_become_186 f_MS_16 rfl fl_MS_50 (s_65 hS h0) (r_65_16 hS h0) ?_
  refine Wx.cVv (q := E_MS) (As := [.ref (hd 77 i1), .ref (hd 77 i0)]) 13 (d - 1) 0 0 _ d_MS_become_189 mok_MS_copy vl_MS_93 rfl rfl rfl (Nat.le_of_ble_eq_true rfl) (by omega) (Nat.zero_le _) (Nat.zero_le _) (s_65 hS h0) hF (fun μ14 hS hF => ?_)
  refine Wa.aload_n (j := 0) d_MS_become_192 rfl ?_
  refine Wa.aload_n (j := 1) d_MS_become_193 rfl ?_
  refine Wx.getR 13 17 d_MS_become_194 f_MS_17 rfl fl_MS_53 (s_65 hS h1) (r_65_17 hS h1) ?_
  refine Wa.aload_n (j := 0) d_MS_become_197 rfl ?_
  refine Wx.getR 13 17 d_MS_become_198 f_MS_17 rfl fl_MS_53 (s_65 hS h0) (r_65_17 hS h0) ?_
  refine Wx.cVv (q := E_MS) (As := [.ref (hd 78 i1), .ref (hd 78 i0)]) 13 (d - 1) 0 0 _ d_MS_become_201 mok_MS_copy_ vl_MS_97 rfl rfl rfl (Nat.le_of_ble_eq_true rfl) (by omega) (Nat.zero_le _) (Nat.zero_le _) (s_65 hS h0) hF (fun μ15 hS hF => ?_)
  refine Wa.aload_n (j := 0) d_MS_become_204 rfl ?_
  refine Wa.aload_n (j := 1) d_MS_become_205 rfl ?_
  refine Wx.getR 13 19 d_MS_become_206 f_MS_19 rfl fl_MS_56 (s_65 hS h1) (r_65_19 hS h1) ?_
  refine Wa.aload_n (j := 0) d_MS_become_209 rfl ?_
  refine Wx.getR 13 19 d_MS_become_210 f_MS_19 rfl fl_MS_56 (s_65 hS h0) (r_65_19 hS h0) ?_
  refine Wx.cVv (q := E_MS) (As := [.ref (hd 79 i1), .ref (hd 79 i0)]) 13 (d - 1) 0 0 _ d_MS_become_213 mok_MS_copy vl_MS_93 rfl rfl rfl (Nat.le_of_ble_eq_true rfl) (by omega) (Nat.zero_le _) (Nat.zero_le _) (s_65 hS h0) hF (fun μ16 hS hF => ?_)
  refine Wa.aload_n (j := 0) d_MS_become_216 rfl ?_
  refine Wa.aload_n (j := 1) d_MS_become_217 rfl ?_
  refine Wx.getR 13 20 d_MS_become_218 f_MS_20 rfl fl_MS_59 (s_65 hS h1) (r_65_20 hS h1) ?_
  refine Wa.aload_n (j := 0) d_MS_become_221 rfl ?_
  refine Wx.getR 13 20 d_MS_become_222 f_MS_20 rfl fl_MS_59 (s_65 hS h0) (r_65_20 hS h0) ?_
  refine Wx.cVv (q := E_MS) (As := [.ref (hd 80 i1), .ref (hd 80 i0)]) 13 (d - 1) 0 0 _ d_MS_become_225 mok_MS_copy vl_MS_93 rfl rfl rfl (Nat.le_of_ble_eq_true rfl) (by omega) (Nat.zero_le _) (Nat.zero_le _) (s_65 hS h0) hF (fun μ17 hS hF => ?_)
  refine Wa.aload_n (j := 0) d_MS_become_228 rfl ?_
  refine Wa.aload_n (j := 1) d_MS_become_229 rfl ?_
  refine Wx.getR 13 21 d_MS_become_230 f_MS_21 rfl fl_MS_62 (s_65 hS h1) (r_65_21 hS h1) ?_
  refine Wa.aload_n (j := 0) d_MS_become_233 rfl ?_
  refine Wx.getR 13 21 d_MS_become_234 f_MS_21 rfl fl_MS_62 (s_65 hS h0) (r_65_21 hS h0) ?_
  refine Wx.cVv (q := E_MS) (As := [.ref (hd 81 i1), .ref (hd 81 i0)]) 13 (d - 1) 0 0 _ d_MS_become_237 mok_MS_copy_ vl_MS_97 rfl rfl rfl (Nat.le_of_ble_eq_true rfl) (by omega) (Nat.zero_le _) (Nat.zero_le _) (s_65 hS h0) hF (fun μ18 hS hF => ?_)
  refine Wa.aload_n (j := 0) d_MS_become_240 rfl ?_
  exact Wx.reta d_MS_become_241 rfl hF
theorem e_MS_become {d rc rs : Nat} {Q : Option Value → Mu → Prop} {μ : Mu} {i0 : Nat} {i1 : Nat} (hk : Wx K_MS_become d rc rs (fun r μ' => St μ' ∧ Q r μ') 0 [(0, .ref (hd 65 i0)), (1, .ref (hd 65 i1))] [] μ) : Cal K_MS_become d rc rs [.ref (hd 65 i0), .ref (hd 65 i1)] μ Q := Cal.of (by decide +kernel) rfl rfl (Nat.le_of_ble_eq_true rfl) rfl hk
set_option maxHeartbeats 4000000 in
set_option maxRecDepth 20000 in
theorem g_MS_begin_0 {d rc rs : Nat} {Q : Option Value → Mu → Prop} {μ : Mu} {i0 : Nat} (hD : 1 ≤ d) (h0 : i0 < 2) (hS : St μ)
    (hF : Wx K_MS_begin d rc rs Q 32 [(0, .ref (hd 65 i0)), (1, .int 0)] [] (setI (setI (setI (setI (setI (setI μ (hd 65 i0) 0 0) (hd 65 i0) 1 0) (hd 65 i0) 2 0) (hd 65 i0) 3 0) (hd 65 i0) 4 0) (hd 65 i0) 18 0)) : Wx K_MS_begin d rc rs Q 0 [(0, .ref (hd 65 i0))] [] μ := by
  refine Wa.aload_n (j := 0) d_MS_begin_0 rfl ?_
  refine Wa.iconst (v := 0) d_MS_begin_1 rfl ?_
  refine Wx.putI 13 0 d_MS_begin_2 f_MS_0 ok_MS fl_MS_74 (Or.inl rfl) w_65 (s_65 hS h0) ?_
  refine Wa.aload_n (j := 0) d_MS_begin_5 rfl ?_
  refine Wa.iconst (v := 0) d_MS_begin_6 rfl ?_
  refine Wx.putI 13 1 d_MS_begin_7 f_MS_1 ok_MS fl_MS_78 (Or.inl rfl) w_65 (s_65 hS h0) ?_
  refine Wa.aload_n (j := 0) d_MS_begin_10 rfl ?_
  refine Wa.iconst (v := 0) d_MS_begin_11 rfl ?_
  refine Wx.putI 13 2 d_MS_begin_12 f_MS_2 ok_MS fl_MS_81 (Or.inl rfl) w_65 (s_65 hS h0) ?_
  refine Wa.aload_n (j := 0) d_MS_begin_15 rfl ?_
  refine Wa.iconst (v := 0) d_MS_begin_16 rfl ?_
  refine Wx.putI 13 3 d_MS_begin_17 f_MS_3 ok_MS fl_MS_84 (Or.inl rfl) w_65 (s_65 hS h0) ?_
  refine Wa.aload_n (j := 0) d_MS_begin_20 rfl ?_
  refine Wa.iconst (v := 0) d_MS_begin_21 rfl ?_
  refine Wx.putI 13 4 d_MS_begin_22 f_MS_4 ok_MS fl_MS_87 (Or.inl rfl) w_65 (s_65 hS h0) ?_
  refine Wa.aload_n (j := 0) d_MS_begin_25 rfl ?_
  refine Wa.iconst (v := 0) d_MS_begin_26 rfl ?_
  refine Wx.putI 13 18 d_MS_begin_27 f_MS_18 ok_MS fl_MS_90 (Or.inl rfl) w_65 (s_65 hS h0) ?_
  refine Wa.iconst (v := 0) d_MS_begin_30 rfl ?_
  refine Wa.istore_n (i := 1) (L' := [(1, .int 0), (0, .ref (hd 65 i0))]) d_MS_begin_31 rfl (by decide) rfl ?_
  exact Wa.loc [1, 0] rfl hF
theorem e_MS_begin {d rc rs : Nat} {Q : Option Value → Mu → Prop} {μ : Mu} {i0 : Nat} (hk : Wx K_MS_begin d rc rs (fun r μ' => St μ' ∧ Q r μ') 0 [(0, .ref (hd 65 i0))] [] μ) : Cal K_MS_begin d rc rs [.ref (hd 65 i0)] μ Q := Cal.of (by decide +kernel) rfl rfl (Nat.le_of_ble_eq_true rfl) rfl hk
set_option maxHeartbeats 4000000 in
set_option maxRecDepth 20000 in
theorem g_MS_begin_32 {d rc rs : Nat} {Q : Option Value → Mu → Prop} {μ : Mu} {i0 : Nat} {x1 : Int32} (hD : 1 ≤ d) (h0 : i0 < 2) (hS : St μ)
    (hF : (((nI 25) ≤ x1 → Wx K_MS_begin d rc rs Q 56 [(0, .ref (hd 65 i0)), (1, .int 0)] [] μ) ∧ (¬ (nI 25) ≤ x1 → (vp_in x1 25 ∧ Wx K_MS_begin d rc rs Q 32 [(0, .ref (hd 65 i0)), (1, .int (x1 + 1))] [] (setI μ (hd 73 i0) x1.toNatClampNeg 0))))) : Wx K_MS_begin d rc rs Q 32 [(0, .ref (hd 65 i0)), (1, .int x1)] [] μ := by
  refine Wa.iload_n (j := 1) d_MS_begin_32 rfl ?_
  refine Wa.aload_n (j := 0) d_MS_begin_33 rfl ?_
  refine Wx.getR 13 12 d_MS_begin_34 f_MS_12 rfl fl_MS_37 (s_65 hS h0) (r_65_12 hS h0) ?_
  refine Wa.alen d_MS_begin_37 (s_73 hS h0) (by decide) ?_
  refine Wa.icmp_ge 54 d_MS_begin_38 (by decide) (fun hb => ?_) (fun hb => ?_)
  · have hF := hF.1 hb
    refine Wa.iconst (v := 0) d_MS_begin_54 rfl ?_
    refine Wa.istore_n (i := 1) (L' := [(1, .int 0), (0, .ref (hd 65 i0))]) d_MS_begin_55 rfl (by decide) rfl ?_
    exact Wa.loc [1, 0] rfl hF
  · have hF := hF.2 hb
    refine Wa.aload_n (j := 0) d_MS_begin_41 rfl ?_
    refine Wx.getR 13 12 d_MS_begin_42 f_MS_12 rfl fl_MS_37 (s_65 hS h0) (r_65_12 hS h0) ?_
    refine Wa.iload_n (j := 1) d_MS_begin_45 rfl ?_
    refine Wa.iconst (v := 0) d_MS_begin_46 rfl ?_
    have hc1 := hF.1
    have hF := hF.2
    have hlhc1 := vp_in_lt hc1
    refine Wa.iast d_MS_begin_47 w_73 (s_73 hS h0) hc1 ?_
    refine Wa.iinc (i := 1) (j := 1) (v := (x1 + 1)) (L' := [(1, .int (x1 + 1)), (0, .ref (hd 65 i0))]) d_MS_begin_48 rfl rfl (by decide) rfl ?_
    refine Wa.goto 32 d_MS_begin_51 (by decide) ?_
    exact Wa.loc [1, 0] rfl hF
set_option maxHeartbeats 4000000 in
set_option maxRecDepth 20000 in
theorem g_MS_begin_56 {d rc rs : Nat} {Q : Option Value → Mu → Prop} {μ : Mu} {i0 : Nat} {x1 : Int32} (hD : 1 ≤ d) (h0 : i0 < 2) (hS : St μ)
    (hF : (((nI 150) ≤ x1 → Wx K_MS_begin d rc rs Q 80 [(0, .ref (hd 65 i0)), (1, .int 0)] [] μ) ∧ (¬ (nI 150) ≤ x1 → (vp_in x1 150 ∧ Wx K_MS_begin d rc rs Q 56 [(0, .ref (hd 65 i0)), (1, .int (x1 + 1))] [] (setI μ (hd 74 i0) x1.toNatClampNeg (-1)))))) : Wx K_MS_begin d rc rs Q 56 [(0, .ref (hd 65 i0)), (1, .int x1)] [] μ := by
  refine Wa.iload_n (j := 1) d_MS_begin_56 rfl ?_
  refine Wa.aload_n (j := 0) d_MS_begin_57 rfl ?_
  refine Wx.getR 13 13 d_MS_begin_58 f_MS_13 rfl fl_MS_40 (s_65 hS h0) (r_65_13 hS h0) ?_
  refine Wa.alen d_MS_begin_61 (s_74 hS h0) (by decide) ?_
  refine Wa.icmp_ge 78 d_MS_begin_62 (by decide) (fun hb => ?_) (fun hb => ?_)
  · have hF := hF.1 hb
    refine Wa.iconst (v := 0) d_MS_begin_78 rfl ?_
    refine Wa.istore_n (i := 1) (L' := [(1, .int 0), (0, .ref (hd 65 i0))]) d_MS_begin_79 rfl (by decide) rfl ?_
    exact Wa.loc [1, 0] rfl hF
  · have hF := hF.2 hb
    refine Wa.aload_n (j := 0) d_MS_begin_65 rfl ?_
    refine Wx.getR 13 13 d_MS_begin_66 f_MS_13 rfl fl_MS_40 (s_65 hS h0) (r_65_13 hS h0) ?_
    refine Wa.iload_n (j := 1) d_MS_begin_69 rfl ?_
    refine Wa.iconst (v := (-1)) d_MS_begin_70 rfl ?_
    have hc1 := hF.1
    have hF := hF.2
    have hlhc1 := vp_in_lt hc1
    refine Wa.iast d_MS_begin_71 w_74 (s_74 hS h0) hc1 ?_
    refine Wa.iinc (i := 1) (j := 1) (v := (x1 + 1)) (L' := [(1, .int (x1 + 1)), (0, .ref (hd 65 i0))]) d_MS_begin_72 rfl rfl (by decide) rfl ?_
    refine Wa.goto 56 d_MS_begin_75 (by decide) ?_
    exact Wa.loc [1, 0] rfl hF
set_option maxHeartbeats 4000000 in
set_option maxRecDepth 20000 in
theorem g_MS_begin_80 {d rc rs : Nat} {Q : Option Value → Mu → Prop} {μ : Mu} {i0 : Nat} {x1 : Int32} (hD : 1 ≤ d) (h0 : i0 < 2) (hS : St μ)
    (hF : ((5 ≤ x1 → (Cal K_MS_copy (d - 1) 0 0 [.ref (hd 65 i0), .ref (hd 53 (px μ (hd 40 0) 11)), .ref (hd 76 i0)] μ (fun r μ2 => r = none ∧ Wx K_MS_begin d rc rs Q 118 [(0, .ref (hd 65 i0)), (1, .int 0)] [] μ2))) ∧ (¬ 5 ≤ x1 → (vp_in x1 5 ∧ Wx K_MS_begin d rc rs Q 80 [(0, .ref (hd 65 i0)), (1, .int (x1 + 1))] [] (setL μ (hd 75 i0) x1.toNatClampNeg 0))))) : Wx K_MS_begin d rc rs Q 80 [(0, .ref (hd 65 i0)), (1, .int x1)] [] μ := by
  refine Wa.iload_n (j := 1) d_MS_begin_80 rfl ?_
  refine Wa.iconst (v := 5) d_MS_begin_81 rfl ?_
  refine Wa.icmp_ge 98 d_MS_begin_82 (by decide) (fun hb => ?_) (fun hb => ?_)
  · have hF := hF.1 hb
    refine Wa.aload_n (j := 0) d_MS_begin_98 rfl ?_
    refine Wa.aload_n (j := 0) d_MS_begin_99 rfl ?_
    refine Wx.getR 13 23 d_MS_begin_100 f_MS_23 rfl fl_MS_3 (s_65 hS h0) (r_65_23 hS h0) ?_
    have hp1 := St.plan hS
    refine Wx.getR 11 11 d_MS_begin_103 f_MM_11 rfl fl_MS_100 (s_40 hS (by decide)) (hp1.1) ?_
    refine Wx.getR 12 5 d_MS_begin_106 f_MP_5 rfl fl_MS_104 (s_50 hp1.2) (r_50_5 hp1.2) ?_
    refine Wa.aload_n (j := 0) d_MS_begin_109 rfl ?_
    refine Wx.getR 13 15 d_MS_begin_110 f_MS_15 rfl fl_MS_47 (s_65 hS h0) (r_65_15 hS h0) ?_
    refine Wx.cVv (q := E_MS) (As := [.ref (hd 53 (px μ (hd 40 0) 11)), .ref (hd 76 i0)]) 13 (d - 1) 0 0 _ d_MS_begin_113 mok_MS_copy vl_MS_93 rfl rfl rfl (Nat.le_of_ble_eq_true rfl) (by omega) (Nat.zero_le _) (Nat.zero_le _) (s_65 hS h0) hF (fun μ2 hS hF => ?_)
    refine Wa.iconst (v := 0) d_MS_begin_116 rfl ?_
    refine Wa.istore_n (i := 1) (L' := [(1, .int 0), (0, .ref (hd 65 i0))]) d_MS_begin_117 rfl (by decide) rfl ?_
    exact Wa.loc [1, 0] rfl hF
  · have hF := hF.2 hb
    refine Wa.aload_n (j := 0) d_MS_begin_85 rfl ?_
    refine Wx.getR 13 14 d_MS_begin_86 f_MS_14 rfl fl_MS_43 (s_65 hS h0) (r_65_14 hS h0) ?_
    refine Wa.iload_n (j := 1) d_MS_begin_89 rfl ?_
    refine Wa.lconst (v := 0) d_MS_begin_90 rfl ?_
    have hc3 := hF.1
    have hF := hF.2
    have hlhc3 := vp_in_lt hc3
    refine Wa.last d_MS_begin_91 w_75 (s_75 hS h0) hc3 ?_
    refine Wa.iinc (i := 1) (j := 1) (v := (x1 + 1)) (L' := [(1, .int (x1 + 1)), (0, .ref (hd 65 i0))]) d_MS_begin_92 rfl rfl (by decide) rfl ?_
    refine Wa.goto 80 d_MS_begin_95 (by decide) ?_
    exact Wa.loc [1, 0] rfl hF
set_option maxHeartbeats 4000000 in
set_option maxRecDepth 20000 in
theorem g_MS_begin_118 {d rc rs : Nat} {Q : Option Value → Mu → Prop} {μ : Mu} {i0 : Nat} {x1 : Int32} (hD : 1 ≤ d) (h0 : i0 < 2) (hS : St μ)
    (hF : ((8 ≤ x1 → Q none μ) ∧ (¬ 8 ≤ x1 → (vp_in x1 8 ∧ (vp_in x1 8 ∧ Wx K_MS_begin d rc rs Q 118 [(0, .ref (hd 65 i0)), (1, .int (x1 + 1))] [] (setL (setI μ (hd 77 i0) x1.toNatClampNeg 0) (hd 78 i0) x1.toNatClampNeg 0)))))) : Wx K_MS_begin d rc rs Q 118 [(0, .ref (hd 65 i0)), (1, .int x1)] [] μ := by
  refine Wa.iload_n (j := 1) d_MS_begin_118 rfl ?_
  refine Wa.bipush (v := 8) d_MS_begin_119 rfl ?_
  refine Wa.icmp_ge 144 d_MS_begin_121 (by decide) (fun hb => ?_) (fun hb => ?_)
  · have hF := hF.1 hb
    exact Wx.retv d_MS_begin_144 rfl hF
  · have hF := hF.2 hb
    refine Wa.aload_n (j := 0) d_MS_begin_124 rfl ?_
    refine Wx.getR 13 16 d_MS_begin_125 f_MS_16 rfl fl_MS_50 (s_65 hS h0) (r_65_16 hS h0) ?_
    refine Wa.iload_n (j := 1) d_MS_begin_128 rfl ?_
    refine Wa.iconst (v := 0) d_MS_begin_129 rfl ?_
    have hc1 := hF.1
    have hF := hF.2
    have hlhc1 := vp_in_lt hc1
    refine Wa.iast d_MS_begin_130 w_77 (s_77 hS h0) hc1 ?_
    refine Wa.aload_n (j := 0) d_MS_begin_131 rfl ?_
    refine Wx.getR 13 17 d_MS_begin_132 f_MS_17 rfl fl_MS_53 (s_65 hS h0) (r_65_17 hS h0) ?_
    refine Wa.iload_n (j := 1) d_MS_begin_135 rfl ?_
    refine Wa.lconst (v := 0) d_MS_begin_136 rfl ?_
    have hc2 := hF.1
    have hF := hF.2
    have hlhc2 := vp_in_lt hc2
    refine Wa.last d_MS_begin_137 w_78 (s_78 hS h0) hc2 ?_
    refine Wa.iinc (i := 1) (j := 1) (v := (x1 + 1)) (L' := [(1, .int (x1 + 1)), (0, .ref (hd 65 i0))]) d_MS_begin_138 rfl rfl (by decide) rfl ?_
    refine Wa.goto 118 d_MS_begin_141 (by decide) ?_
    exact Wa.loc [1, 0] rfl hF
set_option maxHeartbeats 4000000 in
set_option maxRecDepth 20000 in
theorem g_MS_stampOf_0 {d rc rs : Nat} {Q : Option Value → Mu → Prop} {μ : Mu} {i0 : Nat} {x1 : Int32} {x2 : Int32} (hD : 1 ≤ d) (h0 : i0 < 2) (hS : St μ)
    (hF : (vp_in (((5 : Int32) * x1) + x2) 300 ∧ Q (some (.int (mI μ (hd 72 i0) (((5 : Int32) * x1) + x2).toNatClampNeg))) μ)) : Wx K_MS_stampOf d rc rs Q 0 [(0, .ref (hd 65 i0)), (1, .int x1), (2, .int x2)] [] μ := by
  refine Wa.aload_n (j := 0) d_MS_stampOf_0 rfl ?_
  refine Wx.getR 13 11 d_MS_stampOf_1 f_MS_11 rfl fl_MS_34 (s_65 hS h0) (r_65_11 hS h0) ?_
  refine Wa.iconst (v := 5) d_MS_stampOf_4 rfl ?_
  refine Wa.iload_n (j := 1) d_MS_stampOf_5 rfl ?_
  refine Wa.imul d_MS_stampOf_6 ?_
  refine Wa.iload_n (j := 2) d_MS_stampOf_7 rfl ?_
  refine Wa.iadd d_MS_stampOf_8 ?_
  have hc1 := hF.1
  have hF := hF.2
  have hlhc1 := vp_in_lt hc1
  refine Wx.iald d_MS_stampOf_9 w_72 (s_72 hS h0) hc1 ?_
  exact Wx.reti d_MS_stampOf_10 rfl hF
theorem e_MS_stampOf {d rc rs : Nat} {Q : Option Value → Mu → Prop} {μ : Mu} {i0 : Nat} {x1 : Int32} {x2 : Int32} (hk : Wx K_MS_stampOf d rc rs (fun r μ' => St μ' ∧ Q r μ') 0 [(0, .ref (hd 65 i0)), (1, .int x1), (2, .int x2)] [] μ) : Cal K_MS_stampOf d rc rs [.ref (hd 65 i0), .int x1, .int x2] μ Q := Cal.of (by decide +kernel) rfl rfl (Nat.le_of_ble_eq_true rfl) rfl hk
set_option maxHeartbeats 4000000 in
set_option maxRecDepth 20000 in
theorem g_MS_numberOf_0 {d rc rs : Nat} {Q : Option Value → Mu → Prop} {μ : Mu} {i0 : Nat} {x1 : Int32} {x2 : Int32} (hD : 1 ≤ d) (h0 : i0 < 2) (hS : St μ)
    (hF : (vp_in (((5 : Int32) * x1) + x2) 25 ∧ Q (some (.int (mI μ (hd 73 i0) (((5 : Int32) * x1) + x2).toNatClampNeg))) μ)) : Wx K_MS_numberOf d rc rs Q 0 [(0, .ref (hd 65 i0)), (1, .int x1), (2, .int x2)] [] μ := by
  refine Wa.aload_n (j := 0) d_MS_numberOf_0 rfl ?_
  refine Wx.getR 13 12 d_MS_numberOf_1 f_MS_12 rfl fl_MS_37 (s_65 hS h0) (r_65_12 hS h0) ?_
  refine Wa.iconst (v := 5) d_MS_numberOf_4 rfl ?_
  refine Wa.iload_n (j := 1) d_MS_numberOf_5 rfl ?_
  refine Wa.imul d_MS_numberOf_6 ?_
  refine Wa.iload_n (j := 2) d_MS_numberOf_7 rfl ?_
  refine Wa.iadd d_MS_numberOf_8 ?_
  have hc1 := hF.1
  have hF := hF.2
  have hlhc1 := vp_in_lt hc1
  refine Wx.iald d_MS_numberOf_9 w_73 (s_73 hS h0) hc1 ?_
  exact Wx.reti d_MS_numberOf_10 rfl hF
theorem e_MS_numberOf {d rc rs : Nat} {Q : Option Value → Mu → Prop} {μ : Mu} {i0 : Nat} {x1 : Int32} {x2 : Int32} (hk : Wx K_MS_numberOf d rc rs (fun r μ' => St μ' ∧ Q r μ') 0 [(0, .ref (hd 65 i0)), (1, .int x1), (2, .int x2)] [] μ) : Cal K_MS_numberOf d rc rs [.ref (hd 65 i0), .int x1, .int x2] μ Q := Cal.of (by decide +kernel) rfl rfl (Nat.le_of_ble_eq_true rfl) rfl hk
set_option maxHeartbeats 4000000 in
set_option maxRecDepth 20000 in
theorem g_MS_knows_0 {d rc rs : Nat} {Q : Option Value → Mu → Prop} {μ : Mu} {i0 : Nat} {x1 : Int32} {x2 : Int32} (hD : 1 ≤ d) (h0 : i0 < 2) (hS : St μ)
    (hF : (vp_in x2 60 ∧ (Cal K_MS_stampOf (d - 1) 0 0 [.ref (hd 65 i0), .int x2, .int (mI μ (hd 66 i0) x2.toNatClampNeg)] μ (fun r μ2 => ∃ y3, r = some (.int y3) ∧ (vp_in x2 60 ∧ (Cal K_MS_numberOf (d - 1) 0 0 [.ref (hd 65 i0), .int x1, .int (mI μ2 (hd 66 i0) x2.toNatClampNeg)] μ2 (fun r μ5 => ∃ y6, r = some (.int y6) ∧ ((y6 < y3 → Q (some (.int 0)) μ5) ∧ (¬ y6 < y3 → Q (some (.int 1)) μ5))))))))) : Wx K_MS_knows d rc rs Q 0 [(0, .ref (hd 65 i0)), (1, .int x1), (2, .int x2)] [] μ := by
  refine Wa.aload_n (j := 0) d_MS_knows_0 rfl ?_
  refine Wa.iload_n (j := 2) d_MS_knows_1 rfl ?_
  refine Wa.aload_n (j := 0) d_MS_knows_2 rfl ?_
  refine Wx.getR 13 5 d_MS_knows_3 f_MS_5 rfl fl_MS_15 (s_65 hS h0) (r_65_5 hS h0) ?_
  refine Wa.iload_n (j := 2) d_MS_knows_6 rfl ?_
  have hc1 := hF.1
  have hF := hF.2
  have hlhc1 := vp_in_lt hc1
  refine Wx.iald d_MS_knows_7 w_66 (s_66 hS h0) hc1 ?_
  refine Wx.cVi (q := E_MS) (As := [.int x2, .int (mI μ (hd 66 i0) x2.toNatClampNeg)]) 13 (d - 1) 0 0 _ d_MS_knows_8 mok_MS_stampOf vl_MS_107 rfl rfl rfl (Nat.le_of_ble_eq_true rfl) (by omega) (Nat.zero_le _) (Nat.zero_le _) (s_65 hS h0) hF (fun y3 μ2 hS hF => ?_)
  refine Wa.aload_n (j := 0) d_MS_knows_11 rfl ?_
  refine Wa.iload_n (j := 1) d_MS_knows_12 rfl ?_
  refine Wa.aload_n (j := 0) d_MS_knows_13 rfl ?_
  refine Wx.getR 13 5 d_MS_knows_14 f_MS_5 rfl fl_MS_15 (s_65 hS h0) (r_65_5 hS h0) ?_
  refine Wa.iload_n (j := 2) d_MS_knows_17 rfl ?_
  have hc4 := hF.1
  have hF := hF.2
  have hlhc4 := vp_in_lt hc4
  refine Wx.iald d_MS_knows_18 w_66 (s_66 hS h0) hc4 ?_
  refine Wx.cVi (q := E_MS) (As := [.int x1, .int (mI μ2 (hd 66 i0) x2.toNatClampNeg)]) 13 (d - 1) 0 0 _ d_MS_knows_19 mok_MS_numberOf vl_MS_111 rfl rfl rfl (Nat.le_of_ble_eq_true rfl) (by omega) (Nat.zero_le _) (Nat.zero_le _) (s_65 hS h0) hF (fun y6 μ5 hS hF => ?_)
  refine Wa.icmp_gt 29 d_MS_knows_22 (by decide) (fun hb => ?_) (fun hb => ?_)
  · have hF := hF.1 hb
    refine Wa.iconst (v := 0) d_MS_knows_29 rfl ?_
    exact Wx.retz d_MS_knows_30 rfl (Or.inl rfl) hF
  · have hF := hF.2 hb
    refine Wa.iconst (v := 1) d_MS_knows_25 rfl ?_
    refine Wa.goto 30 d_MS_knows_26 (by decide) ?_
    exact Wx.retz d_MS_knows_30 rfl (Or.inr rfl) hF
theorem e_MS_knows {d rc rs : Nat} {Q : Option Value → Mu → Prop} {μ : Mu} {i0 : Nat} {x1 : Int32} {x2 : Int32} (hk : Wx K_MS_knows d rc rs (fun r μ' => St μ' ∧ Q r μ') 0 [(0, .ref (hd 65 i0)), (1, .int x1), (2, .int x2)] [] μ) : Cal K_MS_knows d rc rs [.ref (hd 65 i0), .int x1, .int x2] μ Q := Cal.of (by decide +kernel) rfl rfl (Nat.le_of_ble_eq_true rfl) rfl hk
set_option maxHeartbeats 4000000 in
set_option maxRecDepth 20000 in
theorem g_MS_isAhead_0 {d rc rs : Nat} {Q : Option Value → Mu → Prop} {μ : Mu} {i0 : Nat} {x1 : Int32} {x2 : Int32} (hD : 1 ≤ d) (h0 : i0 < 2) (hS : St μ)
    (hF : (vp_in x1 60 ∧ (Cal K_MS_stampOf (d - 1) 0 0 [.ref (hd 65 i0), .int x2, .int (mI μ (hd 66 i0) x1.toNatClampNeg)] μ (fun r μ2 => ∃ y3, r = some (.int y3) ∧ (vp_in x1 60 ∧ (Cal K_MS_stampOf (d - 1) 0 0 [.ref (hd 65 i0), .int x1, .int (mI μ2 (hd 66 i0) x1.toNatClampNeg)] μ2 (fun r μ5 => ∃ y6, r = some (.int y6) ∧ ((y3 < y6 → Q (some (.int 0)) μ5) ∧ (¬ y3 < y6 → Q (some (.int 1)) μ5))))))))) : Wx K_MS_isAhead d rc rs Q 0 [(0, .ref (hd 65 i0)), (1, .int x1), (2, .int x2)] [] μ := by
  refine Wa.aload_n (j := 0) d_MS_isAhead_0 rfl ?_
  refine Wa.iload_n (j := 2) d_MS_isAhead_1 rfl ?_
  refine Wa.aload_n (j := 0) d_MS_isAhead_2 rfl ?_
  refine Wx.getR 13 5 d_MS_isAhead_3 f_MS_5 rfl fl_MS_15 (s_65 hS h0) (r_65_5 hS h0) ?_
  refine Wa.iload_n (j := 1) d_MS_isAhead_6 rfl ?_
  have hc1 := hF.1
  have hF := hF.2
  have hlhc1 := vp_in_lt hc1
  refine Wx.iald d_MS_isAhead_7 w_66 (s_66 hS h0) hc1 ?_
  refine Wx.cVi (q := E_MS) (As := [.int x2, .int (mI μ (hd 66 i0) x1.toNatClampNeg)]) 13 (d - 1) 0 0 _ d_MS_isAhead_8 mok_MS_stampOf vl_MS_107 rfl rfl rfl (Nat.le_of_ble_eq_true rfl) (by omega) (Nat.zero_le _) (Nat.zero_le _) (s_65 hS h0) hF (fun y3 μ2 hS hF => ?_)
  refine Wa.aload_n (j := 0) d_MS_isAhead_11 rfl ?_
  refine Wa.iload_n (j := 1) d_MS_isAhead_12 rfl ?_
  refine Wa.aload_n (j := 0) d_MS_isAhead_13 rfl ?_
  refine Wx.getR 13 5 d_MS_isAhead_14 f_MS_5 rfl fl_MS_15 (s_65 hS h0) (r_65_5 hS h0) ?_
  refine Wa.iload_n (j := 1) d_MS_isAhead_17 rfl ?_
  have hc4 := hF.1
  have hF := hF.2
  have hlhc4 := vp_in_lt hc4
  refine Wx.iald d_MS_isAhead_18 w_66 (s_66 hS h0) hc4 ?_
  refine Wx.cVi (q := E_MS) (As := [.int x1, .int (mI μ2 (hd 66 i0) x1.toNatClampNeg)]) 13 (d - 1) 0 0 _ d_MS_isAhead_19 mok_MS_stampOf vl_MS_107 rfl rfl rfl (Nat.le_of_ble_eq_true rfl) (by omega) (Nat.zero_le _) (Nat.zero_le _) (s_65 hS h0) hF (fun y6 μ5 hS hF => ?_)
  refine Wa.icmp_lt 29 d_MS_isAhead_22 (by decide) (fun hb => ?_) (fun hb => ?_)
  · have hF := hF.1 hb
    refine Wa.iconst (v := 0) d_MS_isAhead_29 rfl ?_
    exact Wx.retz d_MS_isAhead_30 rfl (Or.inl rfl) hF
  · have hF := hF.2 hb
    refine Wa.iconst (v := 1) d_MS_isAhead_25 rfl ?_
    refine Wa.goto 30 d_MS_isAhead_26 (by decide) ?_
    exact Wx.retz d_MS_isAhead_30 rfl (Or.inr rfl) hF
theorem e_MS_isAhead {d rc rs : Nat} {Q : Option Value → Mu → Prop} {μ : Mu} {i0 : Nat} {x1 : Int32} {x2 : Int32} (hk : Wx K_MS_isAhead d rc rs (fun r μ' => St μ' ∧ Q r μ') 0 [(0, .ref (hd 65 i0)), (1, .int x1), (2, .int x2)] [] μ) : Cal K_MS_isAhead d rc rs [.ref (hd 65 i0), .int x1, .int x2] μ Q := Cal.of (by decide +kernel) rfl rfl (Nat.le_of_ble_eq_true rfl) rfl hk
set_option maxHeartbeats 4000000 in
set_option maxRecDepth 20000 in
theorem g_MS_spot_0 {d rc rs : Nat} {Q : Option Value → Mu → Prop} {μ : Mu} {i0 : Nat} {x1 : Int32} {x2 : Int32} {x3 : Int32} (hD : 1 ≤ d) (h0 : i0 < 2) (hS : St μ)
    (hF : Q (some (.int (((5 : Int32) * (((6 : Int32) * x1) + x2)) + x3))) μ) : Wx K_MS_spot d rc rs Q 0 [(0, .ref (hd 65 i0)), (1, .int x1), (2, .int x2), (3, .int x3)] [] μ := by
  refine Wa.iconst (v := 5) d_MS_spot_0 rfl ?_
  refine Wa.bipush (v := 6) d_MS_spot_1 rfl ?_
  refine Wa.iload_n (j := 1) d_MS_spot_3 rfl ?_
  refine Wa.imul d_MS_spot_4 ?_
  refine Wa.iload_n (j := 2) d_MS_spot_5 rfl ?_
  refine Wa.iadd d_MS_spot_6 ?_
  refine Wa.imul d_MS_spot_7 ?_
  refine Wa.iload_n (j := 3) d_MS_spot_8 rfl ?_
  refine Wa.iadd d_MS_spot_9 ?_
  exact Wx.reti d_MS_spot_10 rfl hF
theorem e_MS_spot {d rc rs : Nat} {Q : Option Value → Mu → Prop} {μ : Mu} {i0 : Nat} {x1 : Int32} {x2 : Int32} {x3 : Int32} (hk : Wx K_MS_spot d rc rs (fun r μ' => St μ' ∧ Q r μ') 0 [(0, .ref (hd 65 i0)), (1, .int x1), (2, .int x2), (3, .int x3)] [] μ) : Cal K_MS_spot d rc rs [.ref (hd 65 i0), .int x1, .int x2, .int x3] μ Q := Cal.of (by decide +kernel) rfl rfl (Nat.le_of_ble_eq_true rfl) rfl hk
set_option maxHeartbeats 4000000 in
set_option maxRecDepth 20000 in
theorem g_MS_shows_0 {d rc rs : Nat} {Q : Option Value → Mu → Prop} {μ : Mu} {i0 : Nat} {x1 : Int32} {x2 : Int32} (hD : 1 ≤ d) (h0 : i0 < 2) (hS : St μ)
    (hF : Wx K_MS_shows d rc rs Q 5 [(0, .ref (hd 65 i0)), (1, .int x1), (2, .int x2), (3, .int 0), (4, .int 0)] [] μ) : Wx K_MS_shows d rc rs Q 0 [(0, .ref (hd 65 i0)), (1, .int x1), (2, .int x2)] [] μ := by
  refine Wa.iconst (v := 0) d_MS_shows_0 rfl ?_
  refine Wa.istore_n (i := 3) (L' := [(3, .int 0), (0, .ref (hd 65 i0)), (1, .int x1), (2, .int x2)]) d_MS_shows_1 rfl (by decide) rfl ?_
  refine Wa.iconst (v := 0) d_MS_shows_2 rfl ?_
  refine Wa.istore (i := 4) (L' := [(4, .int 0), (3, .int 0), (0, .ref (hd 65 i0)), (1, .int x1), (2, .int x2)]) d_MS_shows_3 (by decide) rfl ?_
  exact Wa.loc [2, 3, 4, 1, 0] rfl hF
theorem e_MS_shows {d rc rs : Nat} {Q : Option Value → Mu → Prop} {μ : Mu} {i0 : Nat} {x1 : Int32} {x2 : Int32} (hk : Wx K_MS_shows d rc rs (fun r μ' => St μ' ∧ Q r μ') 0 [(0, .ref (hd 65 i0)), (1, .int x1), (2, .int x2)] [] μ) : Cal K_MS_shows d rc rs [.ref (hd 65 i0), .int x1, .int x2] μ Q := Cal.of (by decide +kernel) rfl rfl (Nat.le_of_ble_eq_true rfl) rfl hk
set_option maxHeartbeats 4000000 in
set_option maxRecDepth 20000 in
theorem g_MS_shows_5 {d rc rs : Nat} {Q : Option Value → Mu → Prop} {μ : Mu} {i0 : Nat} {x1 : Int32} {x2 : Int32} {x3 : Int32} {x4 : Int32} (hD : 1 ≤ d) (h0 : i0 < 2) (hS : St μ)
    (hF : (((mI μ (hd 50 (px μ (hd 40 0) 11)) 0) ≤ x4 → Q (some (.int x3)) μ) ∧ (¬ (mI μ (hd 50 (px μ (hd 40 0) 11)) 0) ≤ x4 → (Cal K_MS_spot (d - 1) 0 0 [.ref (hd 65 i0), .int x1, .int x2, .int x4] μ (fun r μ2 => ∃ y3, r = some (.int y3) ∧ (vp_in y3 150 ∧ (((mI μ2 (hd 74 i0) y3.toNatClampNeg) = (-1) → Wx K_MS_shows d rc rs Q 5 [(0, .ref (hd 65 i0)), (1, .int x1), (2, .int x2), (3, .int (x3 + (0 : Int32))), (4, .int (x4 + 1))] [] μ2) ∧ (¬ (mI μ2 (hd 74 i0) y3.toNatClampNeg) = (-1) → Wx K_MS_shows d rc rs Q 5 [(0, .ref (hd 65 i0)), (1, .int x1), (2, .int x2), (3, .int (x3 + (1 : Int32))), (4, .int (x4 + 1))] [] μ2)))))))) : Wx K_MS_shows d rc rs Q 5 [(0, .ref (hd 65 i0)), (1, .int x1), (2, .int x2), (3, .int x3), (4, .int x4)] [] μ := by
  refine Wa.iload (j := 4) d_MS_shows_5 rfl ?_
  refine Wa.aload_n (j := 0) d_MS_shows_7 rfl ?_
  refine Wx.getR 13 23 d_MS_shows_8 f_MS_23 rfl fl_MS_3 (s_65 hS h0) (r_65_23 hS h0) ?_
  have hp1 := St.plan hS
  refine Wx.getR 11 11 d_MS_shows_11 f_MM_11 rfl fl_MS_100 (s_40 hS (by decide)) (hp1.1) ?_
  refine Wx.getI 12 0 d_MS_shows_14 f_MP_0 fl_MS_114 w_50 (s_50 hp1.2) ?_
  refine Wa.icmp_ge 51 d_MS_shows_17 (by decide) (fun hb => ?_) (fun hb => ?_)
  · have hF := hF.1 hb
    refine Wa.iload_n (j := 3) d_MS_shows_51 rfl ?_
    exact Wx.reti d_MS_shows_52 rfl hF
  · have hF := hF.2 hb
    refine Wa.iload_n (j := 3) d_MS_shows_20 rfl ?_
    refine Wa.aload_n (j := 0) d_MS_shows_21 rfl ?_
    refine Wx.getR 13 13 d_MS_shows_22 f_MS_13 rfl fl_MS_40 (s_65 hS h0) (r_65_13 hS h0) ?_
    refine Wa.aload_n (j := 0) d_MS_shows_25 rfl ?_
    refine Wa.iload_n (j := 1) d_MS_shows_26 rfl ?_
    refine Wa.iload_n (j := 2) d_MS_shows_27 rfl ?_
    refine Wa.iload (j := 4) d_MS_shows_28 rfl ?_
    refine Wx.cVi (q := E_MS) (As := [.int x1, .int x2, .int x4]) 13 (d - 1) 0 0 _ d_MS_shows_30 mok_MS_spot vl_MS_117 rfl rfl rfl (Nat.le_of_ble_eq_true rfl) (by omega) (Nat.zero_le _) (Nat.zero_le _) (s_65 hS h0) hF (fun y3 μ2 hS hF => ?_)
    have hc4 := hF.1
    have hF := hF.2
    have hlhc4 := vp_in_lt hc4
    refine Wx.iald d_MS_shows_33 w_74 (s_74 hS h0) hc4 ?_
    refine Wa.iconst (v := (-1)) d_MS_shows_34 rfl ?_
    refine Wa.icmp_ne 42 d_MS_shows_35 (by decide) (fun hb => ?_) (fun hb => ?_)
    · have hF := hF.2 hb
      refine Wa.iconst (v := 1) d_MS_shows_42 rfl ?_
      refine Wa.iadd d_MS_shows_43 ?_
      refine Wa.istore_n (i := 3) (L' := [(3, .int (x3 + (1 : Int32))), (0, .ref (hd 65 i0)), (1, .int x1), (2, .int x2), (4, .int x4)]) d_MS_shows_44 rfl (by decide) rfl ?_
      refine Wa.iinc (i := 4) (j := 4) (v := (x4 + 1)) (L' := [(4, .int (x4 + 1)), (3, .int (x3 + (1 : Int32))), (0, .ref (hd 65 i0)), (1, .int x1), (2, .int x2)]) d_MS_shows_45 rfl rfl (by decide) rfl ?_
      refine Wa.goto 5 d_MS_shows_48 (by decide) ?_
      exact Wa.loc [2, 3, 4, 1, 0] rfl hF
    · have hF := hF.1 hb
      refine Wa.iconst (v := 0) d_MS_shows_38 rfl ?_
      refine Wa.goto 43 d_MS_shows_39 (by decide) ?_
      refine Wa.iadd d_MS_shows_43 ?_
      refine Wa.istore_n (i := 3) (L' := [(3, .int (x3 + (0 : Int32))), (0, .ref (hd 65 i0)), (1, .int x1), (2, .int x2), (4, .int x4)]) d_MS_shows_44 rfl (by decide) rfl ?_
      refine Wa.iinc (i := 4) (j := 4) (v := (x4 + 1)) (L' := [(4, .int (x4 + 1)), (3, .int (x3 + (0 : Int32))), (0, .ref (hd 65 i0)), (1, .int x1), (2, .int x2)]) d_MS_shows_45 rfl rfl (by decide) rfl ?_
      refine Wa.goto 5 d_MS_shows_48 (by decide) ?_
      exact Wa.loc [2, 3, 4, 1, 0] rfl hF
set_option maxHeartbeats 4000000 in
set_option maxRecDepth 20000 in
theorem g_MS_shown_0 {d rc rs : Nat} {Q : Option Value → Mu → Prop} {μ : Mu} {i0 : Nat} {x1 : Int32} {x2 : Int32} {x3 : Int32} (hD : 1 ≤ d) (h0 : i0 < 2) (hS : St μ)
    (hF : Wx K_MS_shown d rc rs Q 6 [(0, .ref (hd 65 i0)), (1, .int x1), (2, .int x2), (4, .int x3), (5, .int 0)] [] μ) : Wx K_MS_shown d rc rs Q 0 [(0, .ref (hd 65 i0)), (1, .int x1), (2, .int x2), (3, .int x3)] [] μ := by
  refine Wa.iload_n (j := 3) d_MS_shown_0 rfl ?_
  refine Wa.istore (i := 4) (L' := [(4, .int x3), (0, .ref (hd 65 i0)), (1, .int x1), (2, .int x2), (3, .int x3)]) d_MS_shown_1 (by decide) rfl ?_
  refine Wa.iconst (v := 0) d_MS_shown_3 rfl ?_
  refine Wa.istore (i := 5) (L' := [(5, .int 0), (4, .int x3), (0, .ref (hd 65 i0)), (1, .int x1), (2, .int x2), (3, .int x3)]) d_MS_shown_4 (by decide) rfl ?_
  exact Wa.loc [2, 3, 4, 1, 0] rfl hF
theorem e_MS_shown {d rc rs : Nat} {Q : Option Value → Mu → Prop} {μ : Mu} {i0 : Nat} {x1 : Int32} {x2 : Int32} {x3 : Int32} (hk : Wx K_MS_shown d rc rs (fun r μ' => St μ' ∧ Q r μ') 0 [(0, .ref (hd 65 i0)), (1, .int x1), (2, .int x2), (3, .int x3)] [] μ) : Cal K_MS_shown d rc rs [.ref (hd 65 i0), .int x1, .int x2, .int x3] μ Q := Cal.of (by decide +kernel) rfl rfl (Nat.le_of_ble_eq_true rfl) rfl hk
set_option maxHeartbeats 4000000 in
set_option maxRecDepth 20000 in
theorem g_MS_shown_6 {d rc rs : Nat} {Q : Option Value → Mu → Prop} {μ : Mu} {i0 : Nat} {x1 : Int32} {x2 : Int32} {x4 : Int32} {x5 : Int32} (hD : 1 ≤ d) (h0 : i0 < 2) (hS : St μ)
    (hF : (((mI μ (hd 50 (px μ (hd 40 0) 11)) 0) ≤ x5 → Q (some (.int (-1))) μ) ∧ (¬ (mI μ (hd 50 (px μ (hd 40 0) 11)) 0) ≤ x5 → (Cal K_MS_spot (d - 1) 0 0 [.ref (hd 65 i0), .int x1, .int x2, .int x5] μ (fun r μ2 => ∃ y3, r = some (.int y3) ∧ (vp_in y3 150 ∧ (((mI μ2 (hd 74 i0) y3.toNatClampNeg) = (-1) → Wx K_MS_shown d rc rs Q 6 [(0, .ref (hd 65 i0)), (1, .int x1), (2, .int x2), (4, .int x4), (5, .int (x5 + 1))] [] μ2) ∧ (¬ (mI μ2 (hd 74 i0) y3.toNatClampNeg) = (-1) → ((x4 = 0 → Q (some (.int (mI μ2 (hd 74 i0) y3.toNatClampNeg))) μ2) ∧ (¬ x4 = 0 → Wx K_MS_shown d rc rs Q 6 [(0, .ref (hd 65 i0)), (1, .int x1), (2, .int x2), (4, .int (x4 + (-1))), (5, .int (x5 + 1))] [] μ2)))))))))) : Wx K_MS_shown d rc rs Q 6 [(0, .ref (hd 65 i0)), (1, .int x1), (2, .int x2), (4, .int x4), (5, .int x5)] [] μ := by
  refine Wa.iload (j := 4) d_MS_shown_6 rfl ?_
  refine Wa.aload_n (j := 0) d_MS_shown_8 rfl ?_
  refine Wx.getR 13 23 d_MS_shown_9 f_MS_23 rfl fl_MS_3 (s_65 hS h0) (r_65_23 hS h0) ?_
  have hp1 := St.plan hS
  refine Wx.getR 11 11 d_MS_shown_12 f_MM_11 rfl fl_MS_100 (s_40 hS (by decide)) (hp1.1) ?_
  refine Wx.getI 12 0 d_MS_shown_15 f_MP_0 fl_MS_114 w_50 (s_50 hp1.2) ?_
  refine Wa.icmp_ge 62 d_MS_shown_18 (by decide) (fun hb => ?_) (fun hb => ?_)
  · have hF := hF.1 hb
    refine Wa.iconst (v := (-1)) d_MS_shown_62 rfl ?_
    exact Wx.reti d_MS_shown_63 rfl hF
  · have hF := hF.2 hb
    refine Wa.aload_n (j := 0) d_MS_shown_21 rfl ?_
    refine Wx.getR 13 13 d_MS_shown_22 f_MS_13 rfl fl_MS_40 (s_65 hS h0) (r_65_13 hS h0) ?_
    refine Wa.aload_n (j := 0) d_MS_shown_25 rfl ?_
    refine Wa.iload_n (j := 1) d_MS_shown_26 rfl ?_
    refine Wa.iload_n (j := 2) d_MS_shown_27 rfl ?_
    refine Wa.iload (j := 4) d_MS_shown_28 rfl ?_
    refine Wx.cVi (q := E_MS) (As := [.int x1, .int x2, .int x5]) 13 (d - 1) 0 0 _ d_MS_shown_30 mok_MS_spot vl_MS_117 rfl rfl rfl (Nat.le_of_ble_eq_true rfl) (by omega) (Nat.zero_le _) (Nat.zero_le _) (s_65 hS h0) hF (fun y3 μ2 hS hF => ?_)
    have hc4 := hF.1
    have hF := hF.2
    have hlhc4 := vp_in_lt hc4
    refine Wx.iald d_MS_shown_33 w_74 (s_74 hS h0) hc4 ?_
    refine Wa.istore (i := 6) (L' := [(6, .int (mI μ2 (hd 74 i0) y3.toNatClampNeg)), (0, .ref (hd 65 i0)), (1, .int x1), (2, .int x2), (4, .int x4), (5, .int x5)]) d_MS_shown_34 (by decide) rfl ?_
    refine Wa.iload (j := 0) d_MS_shown_36 rfl ?_
    refine Wa.iconst (v := (-1)) d_MS_shown_38 rfl ?_
    refine Wa.icmp_ne 45 d_MS_shown_39 (by decide) (fun hb => ?_) (fun hb => ?_)
    · have hF := hF.2 hb
      refine Wa.iload (j := 4) d_MS_shown_45 rfl ?_
      refine Wa.if_ne 53 d_MS_shown_47 (by decide) (fun hb => ?_) (fun hb => ?_)
      · have hF := hF.2 hb
        refine Wa.iinc (i := 4) (j := 4) (v := (x4 + (-1))) (L' := [(4, .int (x4 + (-1))), (6, .int (mI μ2 (hd 74 i0) y3.toNatClampNeg)), (0, .ref (hd 65 i0)), (1, .int x1), (2, .int x2), (5, .int x5)]) d_MS_shown_53 rfl rfl (by decide) rfl ?_
        refine Wa.iinc (i := 5) (j := 5) (v := (x5 + 1)) (L' := [(5, .int (x5 + 1)), (4, .int (x4 + (-1))), (6, .int (mI μ2 (hd 74 i0) y3.toNatClampNeg)), (0, .ref (hd 65 i0)), (1, .int x1), (2, .int x2)]) d_MS_shown_56 rfl rfl (by decide) rfl ?_
        refine Wa.goto 6 d_MS_shown_59 (by decide) ?_
        exact Wa.loc [3, 4, 5, 1, 0] rfl hF
      · have hF := hF.1 hb
        refine Wa.iload (j := 0) d_MS_shown_50 rfl ?_
        exact Wx.reti d_MS_shown_52 rfl hF
    · have hF := hF.1 hb
      refine Wa.goto 56 d_MS_shown_42 (by decide) ?_
      refine Wa.iinc (i := 5) (j := 5) (v := (x5 + 1)) (L' := [(5, .int (x5 + 1)), (6, .int (mI μ2 (hd 74 i0) y3.toNatClampNeg)), (0, .ref (hd 65 i0)), (1, .int x1), (2, .int x2), (4, .int x4)]) d_MS_shown_56 rfl rfl (by decide) rfl ?_
      refine Wa.goto 6 d_MS_shown_59 (by decide) ?_
      exact Wa.loc [2, 3, 4, 5, 0] rfl hF
set_option maxHeartbeats 4000000 in
set_option maxRecDepth 20000 in
theorem g_MS_marksOf_0 {d rc rs : Nat} {Q : Option Value → Mu → Prop} {μ : Mu} {i0 : Nat} {x1 : Int32} {x2 : Int32} (hD : 1 ≤ d) (h0 : i0 < 2) (hS : St μ)
    (hF : Wx K_MS_marksOf d rc rs Q 5 [(0, .ref (hd 65 i0)), (1, .int x1), (2, .int x2), (3, .int 0), (4, .int 0)] [] μ) : Wx K_MS_marksOf d rc rs Q 0 [(0, .ref (hd 65 i0)), (1, .int x1), (2, .int x2)] [] μ := by
  refine Wa.iconst (v := 0) d_MS_marksOf_0 rfl ?_
  refine Wa.istore_n (i := 3) (L' := [(3, .int 0), (0, .ref (hd 65 i0)), (1, .int x1), (2, .int x2)]) d_MS_marksOf_1 rfl (by decide) rfl ?_
  refine Wa.iconst (v := 0) d_MS_marksOf_2 rfl ?_
  refine Wa.istore (i := 4) (L' := [(4, .int 0), (3, .int 0), (0, .ref (hd 65 i0)), (1, .int x1), (2, .int x2)]) d_MS_marksOf_3 (by decide) rfl ?_
  exact Wa.loc [2, 3, 4, 1, 0] rfl hF
theorem e_MS_marksOf {d rc rs : Nat} {Q : Option Value → Mu → Prop} {μ : Mu} {i0 : Nat} {x1 : Int32} {x2 : Int32} (hk : Wx K_MS_marksOf d rc rs (fun r μ' => St μ' ∧ Q r μ') 0 [(0, .ref (hd 65 i0)), (1, .int x1), (2, .int x2)] [] μ) : Cal K_MS_marksOf d rc rs [.ref (hd 65 i0), .int x1, .int x2] μ Q := Cal.of (by decide +kernel) rfl rfl (Nat.le_of_ble_eq_true rfl) rfl hk
set_option maxHeartbeats 4000000 in
set_option maxRecDepth 20000 in
theorem g_MS_marksOf_5 {d rc rs : Nat} {Q : Option Value → Mu → Prop} {μ : Mu} {i0 : Nat} {x1 : Int32} {x2 : Int32} {x3 : Int32} {x4 : Int32} (hD : 1 ≤ d) (h0 : i0 < 2) (hS : St μ)
    (hF : (Cal K_MS_shows (d - 1) 0 0 [.ref (hd 65 i0), .int x1, .int x2] μ (fun r μ1 => ∃ y2, r = some (.int y2) ∧ ((y2 ≤ x4 → Q (some (.int x3)) μ1) ∧ (¬ y2 ≤ x4 → (Cal K_MS_shown (d - 1) 0 0 [.ref (hd 65 i0), .int x1, .int x2, .int x4] μ1 (fun r μ3 => ∃ y4, r = some (.int y4) ∧ (vp_in y4 60 ∧ Wx K_MS_marksOf d rc rs Q 5 [(0, .ref (hd 65 i0)), (1, .int x1), (2, .int x2), (3, .int (x3 ||| (mI μ3 (hd 69 i0) y4.toNatClampNeg))), (4, .int (x4 + 1))] [] μ3)))))))) : Wx K_MS_marksOf d rc rs Q 5 [(0, .ref (hd 65 i0)), (1, .int x1), (2, .int x2), (3, .int x3), (4, .int x4)] [] μ := by
  refine Wa.iload (j := 4) d_MS_marksOf_5 rfl ?_
  refine Wa.aload_n (j := 0) d_MS_marksOf_7 rfl ?_
  refine Wa.iload_n (j := 1) d_MS_marksOf_8 rfl ?_
  refine Wa.iload_n (j := 2) d_MS_marksOf_9 rfl ?_
  refine Wx.cVi (q := E_MS) (As := [.int x1, .int x2]) 13 (d - 1) 0 0 _ d_MS_marksOf_10 mok_MS_shows vl_MS_121 rfl rfl rfl (Nat.le_of_ble_eq_true rfl) (by omega) (Nat.zero_le _) (Nat.zero_le _) (s_65 hS h0) hF (fun y2 μ1 hS hF => ?_)
  refine Wa.icmp_ge 38 d_MS_marksOf_13 (by decide) (fun hb => ?_) (fun hb => ?_)
  · have hF := hF.1 hb
    refine Wa.iload_n (j := 3) d_MS_marksOf_38 rfl ?_
    exact Wx.reti d_MS_marksOf_39 rfl hF
  · have hF := hF.2 hb
    refine Wa.iload_n (j := 3) d_MS_marksOf_16 rfl ?_
    refine Wa.aload_n (j := 0) d_MS_marksOf_17 rfl ?_
    refine Wx.getR 13 8 d_MS_marksOf_18 f_MS_8 rfl fl_MS_25 (s_65 hS h0) (r_65_8 hS h0) ?_
    refine Wa.aload_n (j := 0) d_MS_marksOf_21 rfl ?_
    refine Wa.iload_n (j := 1) d_MS_marksOf_22 rfl ?_
    refine Wa.iload_n (j := 2) d_MS_marksOf_23 rfl ?_
    refine Wa.iload (j := 4) d_MS_marksOf_24 rfl ?_
    refine Wx.cVi (q := E_MS) (As := [.int x1, .int x2, .int x4]) 13 (d - 1) 0 0 _ d_MS_marksOf_26 mok_MS_shown vl_MS_124 rfl rfl rfl (Nat.le_of_ble_eq_true rfl) (by omega) (Nat.zero_le _) (Nat.zero_le _) (s_65 hS h0) hF (fun y4 μ3 hS hF => ?_)
    have hc5 := hF.1
    have hF := hF.2
    have hlhc5 := vp_in_lt hc5
    refine Wx.iald d_MS_marksOf_29 w_69 (s_69 hS h0) hc5 ?_
    refine Wa.ior d_MS_marksOf_30 ?_
    refine Wa.istore_n (i := 3) (L' := [(3, .int (x3 ||| (mI μ3 (hd 69 i0) y4.toNatClampNeg))), (0, .ref (hd 65 i0)), (1, .int x1), (2, .int x2), (4, .int x4)]) d_MS_marksOf_31 rfl (by decide) rfl ?_
    refine Wa.iinc (i := 4) (j := 4) (v := (x4 + 1)) (L' := [(4, .int (x4 + 1)), (3, .int (x3 ||| (mI μ3 (hd 69 i0) y4.toNatClampNeg))), (0, .ref (hd 65 i0)), (1, .int x1), (2, .int x2)]) d_MS_marksOf_32 rfl rfl (by decide) rfl ?_
    refine Wa.goto 5 d_MS_marksOf_35 (by decide) ?_
    exact Wa.loc [2, 3, 4, 1, 0] rfl hF
set_option maxHeartbeats 4000000 in
set_option maxRecDepth 20000 in
theorem g_MS_waits_0 {d rc rs : Nat} {Q : Option Value → Mu → Prop} {μ : Mu} {i0 : Nat} {x1 : Int32} (hD : 1 ≤ d) (h0 : i0 < 2) (hS : St μ)
    (hF : (vp_in x1 5 ∧ (Cal K_MM_bits (d - 1) 0 0 [.long (mL μ (hd 75 i0) x1.toNatClampNeg)] μ (fun r μ2 => ∃ y3, r = some (.int y3) ∧ Q (some (.int y3)) μ2)))) : Wx K_MS_waits d rc rs Q 0 [(0, .ref (hd 65 i0)), (1, .int x1)] [] μ := by
  refine Wa.aload_n (j := 0) d_MS_waits_0 rfl ?_
  refine Wx.getR 13 14 d_MS_waits_1 f_MS_14 rfl fl_MS_43 (s_65 hS h0) (r_65_14 hS h0) ?_
  refine Wa.iload_n (j := 1) d_MS_waits_4 rfl ?_
  have hc1 := hF.1
  have hF := hF.2
  have hlhc1 := vp_in_lt hc1
  refine Wa.lald d_MS_waits_5 (s_75 hS h0) hc1 ?_
  refine Wx.cSi (As := [.long (mL μ (hd 75 i0) x1.toNatClampNeg)]) (d - 1) 0 0 _ d_MS_waits_6 mok_MM_bits sl_MS_127 rfl rfl (Nat.le_of_ble_eq_true rfl) (by omega) (Nat.zero_le _) (Nat.zero_le _) hF (fun y3 μ2 hS hF => ?_)
  exact Wx.reti d_MS_waits_9 rfl hF
theorem e_MS_waits {d rc rs : Nat} {Q : Option Value → Mu → Prop} {μ : Mu} {i0 : Nat} {x1 : Int32} (hk : Wx K_MS_waits d rc rs (fun r μ' => St μ' ∧ Q r μ') 0 [(0, .ref (hd 65 i0)), (1, .int x1)] [] μ) : Cal K_MS_waits d rc rs [.ref (hd 65 i0), .int x1] μ Q := Cal.of (by decide +kernel) rfl rfl (Nat.le_of_ble_eq_true rfl) rfl hk
set_option maxHeartbeats 4000000 in
set_option maxRecDepth 20000 in
theorem g_MS_make_0 {d rc rs : Nat} {Q : Option Value → Mu → Prop} {μ : Mu} {i0 : Nat} {x1 : Int32} {x2 : Int32} {x3 : Int32} {x4 : Int32} {x5 : Int32} (hD : 1 ≤ d) (h0 : i0 < 2) (hS : St μ)
    (hF : (vp_in (((5 : Int32) * x1) + x1) 25 ∧ (vp_in (((5 : Int32) * x1) + x1) 25 ∧ (∀ μ3 : Mu, μ3 = (setI (setI μ (hd 65 i0) 1 ((mI μ (hd 65 i0) 1) + (1 : Int32))) (hd 73 i0) (((5 : Int32) * x1) + x1).toNatClampNeg ((mI (setI μ (hd 65 i0) 1 ((mI μ (hd 65 i0) 1) + (1 : Int32))) (hd 73 i0) (((5 : Int32) * x1) + x1).toNatClampNeg) + (1 : Int32))) → (vp_in (mI μ (hd 65 i0) 1) 60 ∧ (vp_in (mI μ (hd 65 i0) 1) 60 ∧ (vp_in (mI μ (hd 65 i0) 1) 60 ∧ (vp_in (mI μ (hd 65 i0) 1) 60 ∧ (∀ μ8 : Mu, μ8 = (setI (setI (setI (setI μ3 (hd 66 i0) (mI μ (hd 65 i0) 1).toNatClampNeg x1) (hd 67 i0) (mI μ (hd 65 i0) 1).toNatClampNeg x2) (hd 68 i0) (mI μ (hd 65 i0) 1).toNatClampNeg x3) (hd 69 i0) (mI μ (hd 65 i0) 1).toNatClampNeg x4) → (vp_in (mI μ (hd 65 i0) 1) 60 ∧ (vp_in (mI μ (hd 65 i0) 1) 60 ∧ ((¬ ((5 : Int32) * x1) < 0 ∧ ¬ ((5 : Int32) * (mI μ (hd 65 i0) 1)) < 0 ∧ ¬ (5 : Int32) < 0 ∧ ((5 : Int32) * x1).toNatClampNeg + (5 : Int32).toNatClampNeg ≤ 25 ∧ ((5 : Int32) * (mI μ (hd 65 i0) 1)).toNatClampNeg + (5 : Int32).toNatClampNeg ≤ 300) ∧ (∀ μ12 : Mu, μ12 = (cpI (setI (setI μ8 (hd 70 i0) (mI μ (hd 65 i0) 1).toNatClampNeg (mI μ8 (hd 65 i0) 0)) (hd 71 i0) (mI μ (hd 65 i0) 1).toNatClampNeg x5) (hd 73 i0) (hd 72 i0) ((5 : Int32) * x1).toNatClampNeg ((5 : Int32) * (mI μ (hd 65 i0) 1)).toNatClampNeg (5 : Int32).toNatClampNeg) → Wx K_MS_make d rc rs Q 105 [(0, .ref (hd 65 i0)), (1, .int x1), (2, .int x2), (5, .int x5), (6, .int (mI μ (hd 65 i0) 1)), (7, .int 0)] [] μ12))))))))))))) : Wx K_MS_make d rc rs Q 0 [(0, .ref (hd 65 i0)), (1, .int x1), (2, .int x2), (3, .int x3), (4, .int x4), (5, .int x5)] [] μ := by
  refine Wa.aload_n (j := 0) d_MS_make_0 rfl ?_
  refine Wx.getI 13 1 d_MS_make_1 f_MS_1 fl_MS_78 w_65 (s_65 hS h0) ?_
  refine Wa.istore (i := 6) (L' := [(6, .int (mI μ (hd 65 i0) 1)), (0, .ref (hd 65 i0)), (1, .int x1), (2, .int x2), (3, .int x3), (4, .int x4), (5, .int x5)]) d_MS_make_4 (by decide) rfl ?_
  refine Wa.aload_n (j := 1) d_MS_make_6 rfl ?_
  refine Wa.dup d_MS_make_7 rfl ?_
  refine Wx.getI 13 1 d_MS_make_8 f_MS_1 fl_MS_78 w_65 (s_65 hS h0) ?_
  refine Wa.iconst (v := 1) d_MS_make_11 rfl ?_
  refine Wa.iadd d_MS_make_12 ?_
  refine Wx.putI 13 1 d_MS_make_13 f_MS_1 ok_MS fl_MS_78 (Or.inl rfl) w_65 (s_65 hS h0) ?_
  refine Wa.aload_n (j := 1) d_MS_make_16 rfl ?_
  refine Wx.getR 13 12 d_MS_make_17 f_MS_12 rfl fl_MS_37 (s_65 hS h0) (r_65_12 hS h0) ?_
  refine Wa.iconst (v := 5) d_MS_make_20 rfl ?_
  refine Wa.iload_n (j := 2) d_MS_make_21 rfl ?_
  refine Wa.imul d_MS_make_22 ?_
  refine Wa.iload_n (j := 2) d_MS_make_23 rfl ?_
  refine Wa.iadd d_MS_make_24 ?_
  refine Wa.dup2 d_MS_make_25 rfl rfl ?_
  have hc1 := hF.1
  have hF := hF.2
  have hlhc1 := vp_in_lt hc1
  refine Wx.iald d_MS_make_26 w_73 (s_73 hS h0) hc1 ?_
  refine Wa.iconst (v := 1) d_MS_make_27 rfl ?_
  refine Wa.iadd d_MS_make_28 ?_
  have hc2 := hF.1
  have hF := hF.2
  have hlhc2 := vp_in_lt hc2
  refine Wa.iast d_MS_make_29 w_73 (s_73 hS h0) hc2 ?_
  suffices hh : ∀ μ3 : Mu, μ3 = (setI (setI μ (hd 65 i0) 1 ((mI μ (hd 65 i0) 1) + (1 : Int32))) (hd 73 i0) (((5 : Int32) * x1) + x1).toNatClampNeg ((mI (setI μ (hd 65 i0) 1 ((mI μ (hd 65 i0) 1) + (1 : Int32))) (hd 73 i0) (((5 : Int32) * x1) + x1).toNatClampNeg) + (1 : Int32))) → Wx K_MS_make d rc rs Q 30 [(6, .int (mI μ (hd 65 i0) 1)), (0, .ref (hd 65 i0)), (1, .int x1), (2, .int x2), (3, .int x3), (4, .int x4), (5, .int x5)] [] μ3 from hh _ rfl
  intro μ3 em
  have hF := hF μ3 em
  have hS : St μ3 := by rw [em]; exact hS
  refine Wa.aload_n (j := 1) d_MS_make_30 rfl ?_
  refine Wx.getR 13 5 d_MS_make_31 f_MS_5 rfl fl_MS_15 (s_65 hS h0) (r_65_5 hS h0) ?_
  refine Wa.iload (j := 0) d_MS_make_34 rfl ?_
  refine Wa.iload_n (j := 2) d_MS_make_36 rfl ?_
  have hc4 := hF.1
  have hF := hF.2
  have hlhc4 := vp_in_lt hc4
  refine Wa.iast d_MS_make_37 w_66 (s_66 hS h0) hc4 ?_
  refine Wa.aload_n (j := 1) d_MS_make_38 rfl ?_
  refine Wx.getR 13 6 d_MS_make_39 f_MS_6 rfl fl_MS_19 (s_65 hS h0) (r_65_6 hS h0) ?_
  refine Wa.iload (j := 0) d_MS_make_42 rfl ?_
  refine Wa.iload_n (j := 3) d_MS_make_44 rfl ?_
  have hc5 := hF.1
  have hF := hF.2
  have hlhc5 := vp_in_lt hc5
  refine Wa.iast d_MS_make_45 w_67 (s_67 hS h0) hc5 ?_
  refine Wa.aload_n (j := 1) d_MS_make_46 rfl ?_
  refine Wx.getR 13 7 d_MS_make_47 f_MS_7 rfl fl_MS_22 (s_65 hS h0) (r_65_7 hS h0) ?_
  refine Wa.iload (j := 0) d_MS_make_50 rfl ?_
  refine Wa.iload_n (j := 4) d_MS_make_52 rfl ?_
  have hc6 := hF.1
  have hF := hF.2
  have hlhc6 := vp_in_lt hc6
  refine Wa.iast d_MS_make_53 w_68 (s_68 hS h0) hc6 ?_
  refine Wa.aload_n (j := 1) d_MS_make_54 rfl ?_
  refine Wx.getR 13 8 d_MS_make_55 f_MS_8 rfl fl_MS_25 (s_65 hS h0) (r_65_8 hS h0) ?_
  refine Wa.iload (j := 0) d_MS_make_58 rfl ?_
  refine Wa.iload (j := 5) d_MS_make_60 rfl ?_
  have hc7 := hF.1
  have hF := hF.2
  have hlhc7 := vp_in_lt hc7
  refine Wa.iast d_MS_make_62 w_69 (s_69 hS h0) hc7 ?_
  suffices hh : ∀ μ8 : Mu, μ8 = (setI (setI (setI (setI μ3 (hd 66 i0) (mI μ (hd 65 i0) 1).toNatClampNeg x1) (hd 67 i0) (mI μ (hd 65 i0) 1).toNatClampNeg x2) (hd 68 i0) (mI μ (hd 65 i0) 1).toNatClampNeg x3) (hd 69 i0) (mI μ (hd 65 i0) 1).toNatClampNeg x4) → Wx K_MS_make d rc rs Q 63 [(6, .int (mI μ (hd 65 i0) 1)), (0, .ref (hd 65 i0)), (1, .int x1), (2, .int x2), (3, .int x3), (4, .int x4), (5, .int x5)] [] μ8 from hh _ rfl
  intro μ8 em
  have hF := hF μ8 em
  have hS : St μ8 := by rw [em]; exact hS
  refine Wa.aload_n (j := 1) d_MS_make_63 rfl ?_
  refine Wx.getR 13 9 d_MS_make_64 f_MS_9 rfl fl_MS_28 (s_65 hS h0) (r_65_9 hS h0) ?_
  refine Wa.iload (j := 0) d_MS_make_67 rfl ?_
  refine Wa.aload_n (j := 1) d_MS_make_69 rfl ?_
  refine Wx.getI 13 0 d_MS_make_70 f_MS_0 fl_MS_74 w_65 (s_65 hS h0) ?_
  have hc9 := hF.1
  have hF := hF.2
  have hlhc9 := vp_in_lt hc9
  refine Wa.iast d_MS_make_73 w_70 (s_70 hS h0) hc9 ?_
  refine Wa.aload_n (j := 1) d_MS_make_74 rfl ?_
  refine Wx.getR 13 10 d_MS_make_75 f_MS_10 rfl fl_MS_31 (s_65 hS h0) (r_65_10 hS h0) ?_
  refine Wa.iload (j := 0) d_MS_make_78 rfl ?_
  refine Wa.iload (j := 6) d_MS_make_80 rfl ?_
  have hc10 := hF.1
  have hF := hF.2
  have hlhc10 := vp_in_lt hc10
  refine Wa.iast d_MS_make_82 w_71 (s_71 hS h0) hc10 ?_
  refine Wa.aload_n (j := 1) d_MS_make_83 rfl ?_
  refine Wx.getR 13 12 d_MS_make_84 f_MS_12 rfl fl_MS_37 (s_65 hS h0) (r_65_12 hS h0) ?_
  refine Wa.iconst (v := 5) d_MS_make_87 rfl ?_
  refine Wa.iload_n (j := 2) d_MS_make_88 rfl ?_
  refine Wa.imul d_MS_make_89 ?_
  refine Wa.aload_n (j := 1) d_MS_make_90 rfl ?_
  refine Wx.getR 13 11 d_MS_make_91 f_MS_11 rfl fl_MS_34 (s_65 hS h0) (r_65_11 hS h0) ?_
  refine Wa.iconst (v := 5) d_MS_make_94 rfl ?_
  refine Wa.iload (j := 0) d_MS_make_95 rfl ?_
  refine Wa.imul d_MS_make_97 ?_
  refine Wa.iconst (v := 5) d_MS_make_98 rfl ?_
  have hc11 := hF.1
  have hF := hF.2
  refine Wa.copyI d_MS_make_99 ml_MS_68 cp_1 cp_2 cp_3 (Nat.le_of_ble_eq_true rfl) hD w_73 w_72 (s_73 hS h0) (s_72 hS h0) hc11.1 hc11.2.1 hc11.2.2.1 hc11.2.2.2.1 hc11.2.2.2.2 ?_
  suffices hh : ∀ μ12 : Mu, μ12 = (cpI (setI (setI μ8 (hd 70 i0) (mI μ (hd 65 i0) 1).toNatClampNeg (mI μ8 (hd 65 i0) 0)) (hd 71 i0) (mI μ (hd 65 i0) 1).toNatClampNeg x5) (hd 73 i0) (hd 72 i0) ((5 : Int32) * x1).toNatClampNeg ((5 : Int32) * (mI μ (hd 65 i0) 1)).toNatClampNeg (5 : Int32).toNatClampNeg) → Wx K_MS_make d rc rs Q 102 [(6, .int (mI μ (hd 65 i0) 1)), (0, .ref (hd 65 i0)), (1, .int x1), (2, .int x2), (3, .int x3), (4, .int x4), (5, .int x5)] [] μ12 from hh _ rfl
  intro μ12 em
  have hF := hF μ12 em
  have hS : St μ12 := by rw [em]; exact hS
  refine Wa.iconst (v := 0) d_MS_make_102 rfl ?_
  refine Wa.istore (i := 7) (L' := [(7, .int 0), (6, .int (mI μ (hd 65 i0) 1)), (0, .ref (hd 65 i0)), (1, .int x1), (2, .int x2), (3, .int x3), (4, .int x4), (5, .int x5)]) d_MS_make_103 (by decide) rfl ?_
  exact Wa.loc [2, 3, 4, 7, 1, 0] rfl hF
theorem e_MS_make {d rc rs : Nat} {Q : Option Value → Mu → Prop} {μ : Mu} {i0 : Nat} {x1 : Int32} {x2 : Int32} {x3 : Int32} {x4 : Int32} {x5 : Int32} (hk : Wx K_MS_make d rc rs (fun r μ' => St μ' ∧ Q r μ') 0 [(0, .ref (hd 65 i0)), (1, .int x1), (2, .int x2), (3, .int x3), (4, .int x4), (5, .int x5)] [] μ) : Cal K_MS_make d rc rs [.ref (hd 65 i0), .int x1, .int x2, .int x3, .int x4, .int x5] μ Q := Cal.of (by decide +kernel) rfl rfl (Nat.le_of_ble_eq_true rfl) rfl hk
set_option maxHeartbeats 4000000 in
set_option maxRecDepth 20000 in
theorem g_MS_make_105 {d rc rs : Nat} {Q : Option Value → Mu → Prop} {μ : Mu} {i0 : Nat} {x1 : Int32} {x2 : Int32} {x5 : Int32} {x6 : Int32} {x7 : Int32} (hD : 1 ≤ d) (h0 : i0 < 2) (hS : St μ)
    (hF : ((5 ≤ x7 → ((x5 = 2 → Q (some (.int x6)) (setI μ (hd 65 i0) 3 ((mI μ (hd 65 i0) 3) + (1 : Int32)))) ∧ (¬ x5 = 2 → Q (some (.int x6)) (setI μ (hd 65 i0) 3 ((mI μ (hd 65 i0) 3) + (0 : Int32)))))) ∧ (¬ 5 ≤ x7 → (Cal K_MS_spot (d - 1) 0 0 [.ref (hd 65 i0), .int x1, .int x2, .int x7] μ (fun r μ1 => ∃ y2, r = some (.int y2) ∧ ((x7 = x1 → (vp_in y2 150 ∧ Wx K_MS_make d rc rs Q 105 [(0, .ref (hd 65 i0)), (1, .int x1), (2, .int x2), (5, .int x5), (6, .int x6), (7, .int (x7 + 1))] [] (setI μ1 (hd 74 i0) y2.toNatClampNeg x6))) ∧ (¬ x7 = x1 → (vp_in y2 150 ∧ Wx K_MS_make d rc rs Q 105 [(0, .ref (hd 65 i0)), (1, .int x1), (2, .int x2), (5, .int x5), (6, .int x6), (7, .int (x7 + 1))] [] (setI μ1 (hd 74 i0) y2.toNatClampNeg (-1)))))))))) : Wx K_MS_make d rc rs Q 105 [(0, .ref (hd 65 i0)), (1, .int x1), (2, .int x2), (5, .int x5), (6, .int x6), (7, .int x7)] [] μ := by
  refine Wa.iload (j := 5) d_MS_make_105 rfl ?_
  refine Wa.iconst (v := 5) d_MS_make_107 rfl ?_
  refine Wa.icmp_ge 142 d_MS_make_108 (by decide) (fun hb => ?_) (fun hb => ?_)
  · have hF := hF.1 hb
    refine Wa.aload_n (j := 0) d_MS_make_142 rfl ?_
    refine Wa.dup d_MS_make_143 rfl ?_
    refine Wx.getI 13 3 d_MS_make_144 f_MS_3 fl_MS_84 w_65 (s_65 hS h0) ?_
    refine Wa.iload (j := 3) d_MS_make_147 rfl ?_
    refine Wa.iconst (v := 2) d_MS_make_149 rfl ?_
    refine Wa.icmp_ne 157 d_MS_make_150 (by decide) (fun hb => ?_) (fun hb => ?_)
    · have hF := hF.2 hb
      refine Wa.iconst (v := 0) d_MS_make_157 rfl ?_
      refine Wa.iadd d_MS_make_158 ?_
      refine Wx.putI 13 3 d_MS_make_159 f_MS_3 ok_MS fl_MS_84 (Or.inl rfl) w_65 (s_65 hS h0) ?_
      refine Wa.iload (j := 4) d_MS_make_162 rfl ?_
      exact Wx.reti d_MS_make_164 rfl hF
    · have hF := hF.1 hb
      refine Wa.iconst (v := 1) d_MS_make_153 rfl ?_
      refine Wa.goto 158 d_MS_make_154 (by decide) ?_
      refine Wa.iadd d_MS_make_158 ?_
      refine Wx.putI 13 3 d_MS_make_159 f_MS_3 ok_MS fl_MS_84 (Or.inl rfl) w_65 (s_65 hS h0) ?_
      refine Wa.iload (j := 4) d_MS_make_162 rfl ?_
      exact Wx.reti d_MS_make_164 rfl hF
  · have hF := hF.2 hb
    refine Wa.aload_n (j := 0) d_MS_make_111 rfl ?_
    refine Wx.getR 13 13 d_MS_make_112 f_MS_13 rfl fl_MS_40 (s_65 hS h0) (r_65_13 hS h0) ?_
    refine Wa.aload_n (j := 0) d_MS_make_115 rfl ?_
    refine Wa.iload_n (j := 1) d_MS_make_116 rfl ?_
    refine Wa.iload_n (j := 2) d_MS_make_117 rfl ?_
    refine Wa.iload (j := 5) d_MS_make_118 rfl ?_
    refine Wx.cVi (q := E_MS) (As := [.int x1, .int x2, .int x7]) 13 (d - 1) 0 0 _ d_MS_make_120 mok_MS_spot vl_MS_117 rfl rfl rfl (Nat.le_of_ble_eq_true rfl) (by omega) (Nat.zero_le _) (Nat.zero_le _) (s_65 hS h0) hF (fun y2 μ1 hS hF => ?_)
    refine Wa.iload (j := 5) d_MS_make_123 rfl ?_
    refine Wa.iload_n (j := 1) d_MS_make_125 rfl ?_
    refine Wa.icmp_ne 134 d_MS_make_126 (by decide) (fun hb => ?_) (fun hb => ?_)
    · have hF := hF.2 hb
      refine Wa.iconst (v := (-1)) d_MS_make_134 rfl ?_
      have hc3 := hF.1
      have hF := hF.2
      have hlhc3 := vp_in_lt hc3
      refine Wa.iast d_MS_make_135 w_74 (s_74 hS h0) hc3 ?_
      refine Wa.iinc (i := 7) (j := 5) (v := (x7 + 1)) (L' := [(7, .int (x7 + 1)), (0, .ref (hd 65 i0)), (1, .int x1), (2, .int x2), (5, .int x5), (6, .int x6)]) d_MS_make_136 rfl rfl (by decide) rfl ?_
      refine Wa.goto 105 d_MS_make_139 (by decide) ?_
      exact Wa.loc [1, 2, 3, 4, 5, 0] rfl hF
    · have hF := hF.1 hb
      refine Wa.iload (j := 4) d_MS_make_129 rfl ?_
      refine Wa.goto 135 d_MS_make_131 (by decide) ?_
      have hc4 := hF.1
      have hF := hF.2
      have hlhc4 := vp_in_lt hc4
      refine Wa.iast d_MS_make_135 w_74 (s_74 hS h0) hc4 ?_
      refine Wa.iinc (i := 7) (j := 5) (v := (x7 + 1)) (L' := [(7, .int (x7 + 1)), (0, .ref (hd 65 i0)), (1, .int x1), (2, .int x2), (5, .int x5), (6, .int x6)]) d_MS_make_136 rfl rfl (by decide) rfl ?_
      refine Wa.goto 105 d_MS_make_139 (by decide) ?_
      exact Wa.loc [1, 2, 3, 4, 5, 0] rfl hF
set_option maxHeartbeats 4000000 in
set_option maxRecDepth 20000 in
theorem g_MS_valueOf_0 {d rc rs : Nat} {Q : Option Value → Mu → Prop} {μ : Mu} {i0 : Nat} {x1 : Int32} {x2 : Int32} {x3 : Int32} (hD : 1 ≤ d) (h0 : i0 < 2) (hS : St μ)
    (hF : Wx K_MS_valueOf d rc rs Q 14 [(0, .ref (hd 65 i0)), (1, .int x1), (2, .int x2), (3, .int x3), (4, .int 0), (5, .int 9999), (6, .int 0), (7, .int 0)] [] μ) : Wx K_MS_valueOf d rc rs Q 0 [(0, .ref (hd 65 i0)), (1, .int x1), (2, .int x2), (3, .int x3)] [] μ := by
  refine Wa.iconst (v := 0) d_MS_valueOf_0 rfl ?_
  refine Wa.istore (i := 4) (L' := [(4, .int 0), (0, .ref (hd 65 i0)), (1, .int x1), (2, .int x2), (3, .int x3)]) d_MS_valueOf_1 (by decide) rfl ?_
  refine Wa.sipush (v := 9999) d_MS_valueOf_3 rfl ?_
  refine Wa.istore (i := 5) (L' := [(5, .int 9999), (4, .int 0), (0, .ref (hd 65 i0)), (1, .int x1), (2, .int x2), (3, .int x3)]) d_MS_valueOf_6 (by decide) rfl ?_
  refine Wa.iconst (v := 0) d_MS_valueOf_8 rfl ?_
  refine Wa.istore (i := 6) (L' := [(6, .int 0), (5, .int 9999), (4, .int 0), (0, .ref (hd 65 i0)), (1, .int x1), (2, .int x2), (3, .int x3)]) d_MS_valueOf_9 (by decide) rfl ?_
  refine Wa.iconst (v := 0) d_MS_valueOf_11 rfl ?_
  refine Wa.istore (i := 7) (L' := [(7, .int 0), (6, .int 0), (5, .int 9999), (4, .int 0), (0, .ref (hd 65 i0)), (1, .int x1), (2, .int x2), (3, .int x3)]) d_MS_valueOf_12 (by decide) rfl ?_
  exact Wa.loc [4, 5, 6, 7, 3, 2, 1, 0] rfl hF
theorem e_MS_valueOf {d rc rs : Nat} {Q : Option Value → Mu → Prop} {μ : Mu} {i0 : Nat} {x1 : Int32} {x2 : Int32} {x3 : Int32} (hk : Wx K_MS_valueOf d rc rs (fun r μ' => St μ' ∧ Q r μ') 0 [(0, .ref (hd 65 i0)), (1, .int x1), (2, .int x2), (3, .int x3)] [] μ) : Cal K_MS_valueOf d rc rs [.ref (hd 65 i0), .int x1, .int x2, .int x3] μ Q := Cal.of (by decide +kernel) rfl rfl (Nat.le_of_ble_eq_true rfl) rfl hk
set_option maxHeartbeats 4000000 in
set_option maxRecDepth 20000 in
theorem g_MS_valueOf_14 {d rc rs : Nat} {Q : Option Value → Mu → Prop} {μ : Mu} {i0 : Nat} {x1 : Int32} {x2 : Int32} {x3 : Int32} {x4 : Int32} {x5 : Int32} {x6 : Int32} {x7 : Int32} (hD : 1 ≤ d) (h0 : i0 < 2) (hS : St μ)
    (hF : (Cal K_MS_shows (d - 1) 0 0 [.ref (hd 65 i0), .int x1, .int x2] μ (fun r μ1 => ∃ y2, r = some (.int y2) ∧ ((y2 ≤ x7 → ((x3 = 0 → Q (some (.int x5)) μ1) ∧ (¬ x3 = 0 → ((x3 = 1 → Q (some (.int x6)) μ1) ∧ (¬ x3 = 1 → Q (some (.int x4)) μ1))))) ∧ (¬ y2 ≤ x7 → (Cal K_MS_shown (d - 1) 0 0 [.ref (hd 65 i0), .int x1, .int x2, .int x7] μ1 (fun r μ3 => ∃ y4, r = some (.int y4) ∧ (vp_in y4 60 ∧ Wx K_MS_valueOf d rc rs Q 14 [(0, .ref (hd 65 i0)), (1, .int x1), (2, .int x2), (3, .int x3), (4, .int (imin 9999 (x4 + (mI μ3 (hd 68 i0) y4.toNatClampNeg)))), (5, .int (imin x5 (mI μ3 (hd 68 i0) y4.toNatClampNeg))), (6, .int (imax x6 (mI μ3 (hd 68 i0) y4.toNatClampNeg))), (7, .int (x7 + 1))] [] μ3)))))))) : Wx K_MS_valueOf d rc rs Q 14 [(0, .ref (hd 65 i0)), (1, .int x1), (2, .int x2), (3, .int x3), (4, .int x4), (5, .int x5), (6, .int x6), (7, .int x7)] [] μ := by
  refine Wa.iload (j := 7) d_MS_valueOf_14 rfl ?_
  refine Wa.aload_n (j := 0) d_MS_valueOf_16 rfl ?_
  refine Wa.iload_n (j := 1) d_MS_valueOf_17 rfl ?_
  refine Wa.iload_n (j := 2) d_MS_valueOf_18 rfl ?_
  refine Wx.cVi (q := E_MS) (As := [.int x1, .int x2]) 13 (d - 1) 0 0 _ d_MS_valueOf_19 mok_MS_shows vl_MS_121 rfl rfl rfl (Nat.le_of_ble_eq_true rfl) (by omega) (Nat.zero_le _) (Nat.zero_le _) (s_65 hS h0) hF (fun y2 μ1 hS hF => ?_)
  refine Wa.icmp_ge 77 d_MS_valueOf_22 (by decide) (fun hb => ?_) (fun hb => ?_)
  · have hF := hF.1 hb
    refine Wa.iload_n (j := 3) d_MS_valueOf_77 rfl ?_
    refine Wa.if_ne 86 d_MS_valueOf_78 (by decide) (fun hb => ?_) (fun hb => ?_)
    · have hF := hF.2 hb
      refine Wa.iload_n (j := 3) d_MS_valueOf_86 rfl ?_
      refine Wa.iconst (v := 1) d_MS_valueOf_87 rfl ?_
      refine Wa.icmp_ne 96 d_MS_valueOf_88 (by decide) (fun hb => ?_) (fun hb => ?_)
      · have hF := hF.2 hb
        refine Wa.iload (j := 4) d_MS_valueOf_96 rfl ?_
        exact Wx.reti d_MS_valueOf_98 rfl hF
      · have hF := hF.1 hb
        refine Wa.iload (j := 6) d_MS_valueOf_91 rfl ?_
        refine Wa.goto 98 d_MS_valueOf_93 (by decide) ?_
        exact Wx.reti d_MS_valueOf_98 rfl hF
    · have hF := hF.1 hb
      refine Wa.iload (j := 5) d_MS_valueOf_81 rfl ?_
      refine Wa.goto 98 d_MS_valueOf_83 (by decide) ?_
      exact Wx.reti d_MS_valueOf_98 rfl hF
  · have hF := hF.2 hb
    refine Wa.aload_n (j := 0) d_MS_valueOf_25 rfl ?_
    refine Wx.getR 13 7 d_MS_valueOf_26 f_MS_7 rfl fl_MS_22 (s_65 hS h0) (r_65_7 hS h0) ?_
    refine Wa.aload_n (j := 0) d_MS_valueOf_29 rfl ?_
    refine Wa.iload_n (j := 1) d_MS_valueOf_30 rfl ?_
    refine Wa.iload_n (j := 2) d_MS_valueOf_31 rfl ?_
    refine Wa.iload (j := 7) d_MS_valueOf_32 rfl ?_
    refine Wx.cVi (q := E_MS) (As := [.int x1, .int x2, .int x7]) 13 (d - 1) 0 0 _ d_MS_valueOf_34 mok_MS_shown vl_MS_124 rfl rfl rfl (Nat.le_of_ble_eq_true rfl) (by omega) (Nat.zero_le _) (Nat.zero_le _) (s_65 hS h0) hF (fun y4 μ3 hS hF => ?_)
    have hc5 := hF.1
    have hF := hF.2
    have hlhc5 := vp_in_lt hc5
    refine Wx.iald d_MS_valueOf_37 w_68 (s_68 hS h0) hc5 ?_
    refine Wa.istore (i := 8) (L' := [(8, .int (mI μ3 (hd 68 i0) y4.toNatClampNeg)), (0, .ref (hd 65 i0)), (1, .int x1), (2, .int x2), (3, .int x3), (4, .int x4), (5, .int x5), (6, .int x6), (7, .int x7)]) d_MS_valueOf_38 (by decide) rfl ?_
    refine Wa.sipush (v := 9999) d_MS_valueOf_40 rfl ?_
    refine Wa.iload (j := 5) d_MS_valueOf_43 rfl ?_
    refine Wa.iload (j := 0) d_MS_valueOf_45 rfl ?_
    refine Wa.iadd d_MS_valueOf_47 ?_
    refine Wx.mmin d_MS_valueOf_48 mm_MS_131 (Nat.le_of_ble_eq_true rfl) hD ?_
    refine Wa.istore (i := 4) (L' := [(4, .int (imin 9999 (x4 + (mI μ3 (hd 68 i0) y4.toNatClampNeg)))), (8, .int (mI μ3 (hd 68 i0) y4.toNatClampNeg)), (0, .ref (hd 65 i0)), (1, .int x1), (2, .int x2), (3, .int x3), (5, .int x5), (6, .int x6), (7, .int x7)]) d_MS_valueOf_51 (by decide) rfl ?_
    refine Wa.iload (j := 6) d_MS_valueOf_53 rfl ?_
    refine Wa.iload (j := 1) d_MS_valueOf_55 rfl ?_
    refine Wx.mmin d_MS_valueOf_57 mm_MS_131 (Nat.le_of_ble_eq_true rfl) hD ?_
    refine Wa.istore (i := 5) (L' := [(5, .int (imin x5 (mI μ3 (hd 68 i0) y4.toNatClampNeg))), (4, .int (imin 9999 (x4 + (mI μ3 (hd 68 i0) y4.toNatClampNeg)))), (8, .int (mI μ3 (hd 68 i0) y4.toNatClampNeg)), (0, .ref (hd 65 i0)), (1, .int x1), (2, .int x2), (3, .int x3), (6, .int x6), (7, .int x7)]) d_MS_valueOf_60 (by decide) rfl ?_
    refine Wa.iload (j := 7) d_MS_valueOf_62 rfl ?_
    refine Wa.iload (j := 2) d_MS_valueOf_64 rfl ?_
    refine Wx.mmax d_MS_valueOf_66 mm_MS_136 (Nat.le_of_ble_eq_true rfl) hD ?_
    refine Wa.istore (i := 6) (L' := [(6, .int (imax x6 (mI μ3 (hd 68 i0) y4.toNatClampNeg))), (5, .int (imin x5 (mI μ3 (hd 68 i0) y4.toNatClampNeg))), (4, .int (imin 9999 (x4 + (mI μ3 (hd 68 i0) y4.toNatClampNeg)))), (8, .int (mI μ3 (hd 68 i0) y4.toNatClampNeg)), (0, .ref (hd 65 i0)), (1, .int x1), (2, .int x2), (3, .int x3), (7, .int x7)]) d_MS_valueOf_69 (by decide) rfl ?_
    refine Wa.iinc (i := 7) (j := 8) (v := (x7 + 1)) (L' := [(7, .int (x7 + 1)), (6, .int (imax x6 (mI μ3 (hd 68 i0) y4.toNatClampNeg))), (5, .int (imin x5 (mI μ3 (hd 68 i0) y4.toNatClampNeg))), (4, .int (imin 9999 (x4 + (mI μ3 (hd 68 i0) y4.toNatClampNeg)))), (8, .int (mI μ3 (hd 68 i0) y4.toNatClampNeg)), (0, .ref (hd 65 i0)), (1, .int x1), (2, .int x2), (3, .int x3)]) d_MS_valueOf_71 rfl rfl (by decide) rfl ?_
    refine Wa.goto 14 d_MS_valueOf_74 (by decide) ?_
    exact Wa.loc [5, 6, 7, 8, 3, 2, 1, 0] rfl hF
set_option maxHeartbeats 4000000 in
set_option maxRecDepth 20000 in
theorem g_MS_merge_0 {d rc rs : Nat} {Q : Option Value → Mu → Prop} {μ : Mu} {i0 : Nat} {x1 : Int32} {x2 : Int32} {x3 : Int32} (hD : 1 ≤ d) (h0 : i0 < 2) (hS : St μ)
    (hF : (Cal K_MS_valueOf (d - 1) 0 0 [.ref (hd 65 i0), .int x1, .int x2, .int x3] μ (fun r μ1 => ∃ y2, r = some (.int y2) ∧ (Cal K_MS_marksOf (d - 1) 0 0 [.ref (hd 65 i0), .int x1, .int x2] μ1 (fun r μ3 => ∃ y4, r = some (.int y4) ∧ (Cal K_MS_make (d - 1) 0 0 [.ref (hd 65 i0), .int x1, .int x2, .int y2, .int y4, .int 2] μ3 (fun r μ5 => ∃ y6, r = some (.int y6) ∧ Q (some (.int y6)) μ5))))))) : Wx K_MS_merge d rc rs Q 0 [(0, .ref (hd 65 i0)), (1, .int x1), (2, .int x2), (3, .int x3)] [] μ := by
  refine Wa.aload_n (j := 0) d_MS_merge_0 rfl ?_
  refine Wa.iload_n (j := 1) d_MS_merge_1 rfl ?_
  refine Wa.iload_n (j := 2) d_MS_merge_2 rfl ?_
  refine Wa.aload_n (j := 0) d_MS_merge_3 rfl ?_
  refine Wa.iload_n (j := 1) d_MS_merge_4 rfl ?_
  refine Wa.iload_n (j := 2) d_MS_merge_5 rfl ?_
  refine Wa.iload_n (j := 3) d_MS_merge_6 rfl ?_
  refine Wx.cVi (q := E_MS) (As := [.int x1, .int x2, .int x3]) 13 (d - 1) 0 0 _ d_MS_merge_7 mok_MS_valueOf vl_MS_139 rfl rfl rfl (Nat.le_of_ble_eq_true rfl) (by omega) (Nat.zero_le _) (Nat.zero_le _) (s_65 hS h0) hF (fun y2 μ1 hS hF => ?_)
  refine Wa.aload_n (j := 0) d_MS_merge_10 rfl ?_
  refine Wa.iload_n (j := 1) d_MS_merge_11 rfl ?_
  refine Wa.iload_n (j := 2) d_MS_merge_12 rfl ?_
  refine Wx.cVi (q := E_MS) (As := [.int x1, .int x2]) 13 (d - 1) 0 0 _ d_MS_merge_13 mok_MS_marksOf vl_MS_142 rfl rfl rfl (Nat.le_of_ble_eq_true rfl) (by omega) (Nat.zero_le _) (Nat.zero_le _) (s_65 hS h0) hF (fun y4 μ3 hS hF => ?_)
  refine Wa.iconst (v := 2) d_MS_merge_16 rfl ?_
  refine Wx.cVi (q := E_MS) (As := [.int x1, .int x2, .int y2, .int y4, .int 2]) 13 (d - 1) 0 0 _ d_MS_merge_17 mok_MS_make vl_MS_145 rfl rfl rfl (Nat.le_of_ble_eq_true rfl) (by omega) (Nat.zero_le _) (Nat.zero_le _) (s_65 hS h0) hF (fun y6 μ5 hS hF => ?_)
  exact Wx.reti d_MS_merge_20 rfl hF
theorem e_MS_merge {d rc rs : Nat} {Q : Option Value → Mu → Prop} {μ : Mu} {i0 : Nat} {x1 : Int32} {x2 : Int32} {x3 : Int32} (hk : Wx K_MS_merge d rc rs (fun r μ' => St μ' ∧ Q r μ') 0 [(0, .ref (hd 65 i0)), (1, .int x1), (2, .int x2), (3, .int x3)] [] μ) : Cal K_MS_merge d rc rs [.ref (hd 65 i0), .int x1, .int x2, .int x3] μ Q := Cal.of (by decide +kernel) rfl rfl (Nat.le_of_ble_eq_true rfl) rfl hk
set_option maxHeartbeats 4000000 in
set_option maxRecDepth 20000 in
theorem g_MS_note_0 {d rc rs : Nat} {Q : Option Value → Mu → Prop} {μ : Mu} {i0 : Nat} {x1 : Int32} {x2 : Int32} {x3 : Int32} (hD : 1 ≤ d) (h0 : i0 < 2) (hS : St μ)
    (hF : (Cal K_MS_valueOf (d - 1) 0 0 [.ref (hd 65 i0), .int x1, .int x2, .int 0] μ (fun r μ1 => ∃ y2, r = some (.int y2) ∧ (Cal K_MS_marksOf (d - 1) 0 0 [.ref (hd 65 i0), .int x1, .int x2] μ1 (fun r μ3 => ∃ y4, r = some (.int y4) ∧ (Cal K_MS_make (d - 1) 0 0 [.ref (hd 65 i0), .int x1, .int x2, .int y2, .int (y4 ||| ((1 : Int32) <<< (x3 &&& 31))), .int 1] μ3 (fun r μ5 => ∃ y6, r = some (.int y6) ∧ Q (some (.int y6)) μ5))))))) : Wx K_MS_note d rc rs Q 0 [(0, .ref (hd 65 i0)), (1, .int x1), (2, .int x2), (3, .int x3)] [] μ := by
  refine Wa.aload_n (j := 0) d_MS_note_0 rfl ?_
  refine Wa.iload_n (j := 1) d_MS_note_1 rfl ?_
  refine Wa.iload_n (j := 2) d_MS_note_2 rfl ?_
  refine Wa.aload_n (j := 0) d_MS_note_3 rfl ?_
  refine Wa.iload_n (j := 1) d_MS_note_4 rfl ?_
  refine Wa.iload_n (j := 2) d_MS_note_5 rfl ?_
  refine Wa.iconst (v := 0) d_MS_note_6 rfl ?_
  refine Wx.cVi (q := E_MS) (As := [.int x1, .int x2, .int 0]) 13 (d - 1) 0 0 _ d_MS_note_7 mok_MS_valueOf vl_MS_139 rfl rfl rfl (Nat.le_of_ble_eq_true rfl) (by omega) (Nat.zero_le _) (Nat.zero_le _) (s_65 hS h0) hF (fun y2 μ1 hS hF => ?_)
  refine Wa.aload_n (j := 0) d_MS_note_10 rfl ?_
  refine Wa.iload_n (j := 1) d_MS_note_11 rfl ?_
  refine Wa.iload_n (j := 2) d_MS_note_12 rfl ?_
  refine Wx.cVi (q := E_MS) (As := [.int x1, .int x2]) 13 (d - 1) 0 0 _ d_MS_note_13 mok_MS_marksOf vl_MS_142 rfl rfl rfl (Nat.le_of_ble_eq_true rfl) (by omega) (Nat.zero_le _) (Nat.zero_le _) (s_65 hS h0) hF (fun y4 μ3 hS hF => ?_)
  refine Wa.iconst (v := 1) d_MS_note_16 rfl ?_
  refine Wa.iload_n (j := 3) d_MS_note_17 rfl ?_
  refine Wa.ishl d_MS_note_18 ?_
  refine Wa.ior d_MS_note_19 ?_
  refine Wa.iconst (v := 1) d_MS_note_20 rfl ?_
  refine Wx.cVi (q := E_MS) (As := [.int x1, .int x2, .int y2, .int (y4 ||| ((1 : Int32) <<< (x3 &&& 31))), .int 1]) 13 (d - 1) 0 0 _ d_MS_note_21 mok_MS_make vl_MS_145 rfl rfl rfl (Nat.le_of_ble_eq_true rfl) (by omega) (Nat.zero_le _) (Nat.zero_le _) (s_65 hS h0) hF (fun y6 μ5 hS hF => ?_)
  exact Wx.reti d_MS_note_24 rfl hF
theorem e_MS_note {d rc rs : Nat} {Q : Option Value → Mu → Prop} {μ : Mu} {i0 : Nat} {x1 : Int32} {x2 : Int32} {x3 : Int32} (hk : Wx K_MS_note d rc rs (fun r μ' => St μ' ∧ Q r μ') 0 [(0, .ref (hd 65 i0)), (1, .int x1), (2, .int x2), (3, .int x3)] [] μ) : Cal K_MS_note d rc rs [.ref (hd 65 i0), .int x1, .int x2, .int x3] μ Q := Cal.of (by decide +kernel) rfl rfl (Nat.le_of_ble_eq_true rfl) rfl hk
set_option maxHeartbeats 4000000 in
set_option maxRecDepth 20000 in
theorem g_MS_write_0 {d rc rs : Nat} {Q : Option Value → Mu → Prop} {μ : Mu} {i0 : Nat} {x1 : Int32} {x2 : Int32} {x3 : Int32} (hD : 1 ≤ d) (h0 : i0 < 2) (hS : St μ)
    (hF : (Cal K_MS_marksOf (d - 1) 0 0 [.ref (hd 65 i0), .int x1, .int x2] μ (fun r μ1 => ∃ y2, r = some (.int y2) ∧ (Cal K_MS_make (d - 1) 0 0 [.ref (hd 65 i0), .int x1, .int x2, .int x3, .int y2, .int 0] μ1 (fun r μ3 => ∃ y4, r = some (.int y4) ∧ Q (some (.int y4)) μ3))))) : Wx K_MS_write d rc rs Q 0 [(0, .ref (hd 65 i0)), (1, .int x1), (2, .int x2), (3, .int x3)] [] μ := by
  refine Wa.aload_n (j := 0) d_MS_write_0 rfl ?_
  refine Wa.iload_n (j := 1) d_MS_write_1 rfl ?_
  refine Wa.iload_n (j := 2) d_MS_write_2 rfl ?_
  refine Wa.iload_n (j := 3) d_MS_write_3 rfl ?_
  refine Wa.aload_n (j := 0) d_MS_write_4 rfl ?_
  refine Wa.iload_n (j := 1) d_MS_write_5 rfl ?_
  refine Wa.iload_n (j := 2) d_MS_write_6 rfl ?_
  refine Wx.cVi (q := E_MS) (As := [.int x1, .int x2]) 13 (d - 1) 0 0 _ d_MS_write_7 mok_MS_marksOf vl_MS_142 rfl rfl rfl (Nat.le_of_ble_eq_true rfl) (by omega) (Nat.zero_le _) (Nat.zero_le _) (s_65 hS h0) hF (fun y2 μ1 hS hF => ?_)
  refine Wa.iconst (v := 0) d_MS_write_10 rfl ?_
  refine Wx.cVi (q := E_MS) (As := [.int x1, .int x2, .int x3, .int y2, .int 0]) 13 (d - 1) 0 0 _ d_MS_write_11 mok_MS_make vl_MS_145 rfl rfl rfl (Nat.le_of_ble_eq_true rfl) (by omega) (Nat.zero_le _) (Nat.zero_le _) (s_65 hS h0) hF (fun y4 μ3 hS hF => ?_)
  exact Wx.reti d_MS_write_14 rfl hF
theorem e_MS_write {d rc rs : Nat} {Q : Option Value → Mu → Prop} {μ : Mu} {i0 : Nat} {x1 : Int32} {x2 : Int32} {x3 : Int32} (hk : Wx K_MS_write d rc rs (fun r μ' => St μ' ∧ Q r μ') 0 [(0, .ref (hd 65 i0)), (1, .int x1), (2, .int x2), (3, .int x3)] [] μ) : Cal K_MS_write d rc rs [.ref (hd 65 i0), .int x1, .int x2, .int x3] μ Q := Cal.of (by decide +kernel) rfl rfl (Nat.le_of_ble_eq_true rfl) rfl hk
set_option maxHeartbeats 4000000 in
set_option maxRecDepth 20000 in
theorem g_MS_send_0 {d rc rs : Nat} {Q : Option Value → Mu → Prop} {μ : Mu} {i0 : Nat} {x1 : Int32} (hD : 1 ≤ d) (h0 : i0 < 2) (hS : St μ)
    (hF : Wx K_MS_send d rc rs Q 5 [(0, .ref (hd 65 i0)), (1, .int x1), (2, .long 0), (4, .int 0)] [] μ) : Wx K_MS_send d rc rs Q 0 [(0, .ref (hd 65 i0)), (1, .int x1)] [] μ := by
  refine Wa.lconst (v := 0) d_MS_send_0 rfl ?_
  refine Wa.lstore_n (i := 2) (L' := [(2, .long 0), (0, .ref (hd 65 i0)), (1, .int x1)]) d_MS_send_1 rfl (by decide) rfl ?_
  refine Wa.iconst (v := 0) d_MS_send_2 rfl ?_
  refine Wa.istore (i := 4) (L' := [(4, .int 0), (2, .long 0), (0, .ref (hd 65 i0)), (1, .int x1)]) d_MS_send_3 (by decide) rfl ?_
  exact Wa.loc [2, 3, 1, 0] rfl hF
theorem e_MS_send {d rc rs : Nat} {Q : Option Value → Mu → Prop} {μ : Mu} {i0 : Nat} {x1 : Int32} (hk : Wx K_MS_send d rc rs (fun r μ' => St μ' ∧ Q r μ') 0 [(0, .ref (hd 65 i0)), (1, .int x1)] [] μ) : Cal K_MS_send d rc rs [.ref (hd 65 i0), .int x1] μ Q := Cal.of (by decide +kernel) rfl rfl (Nat.le_of_ble_eq_true rfl) rfl hk
set_option maxHeartbeats 4000000 in
set_option maxRecDepth 20000 in
theorem g_MS_send_5 {d rc rs : Nat} {Q : Option Value → Mu → Prop} {μ : Mu} {i0 : Nat} {x1 : Int32} {x2 : Int64} {x4 : Int32} (hD : 1 ≤ d) (h0 : i0 < 2) (hS : St μ)
    (hF : (((mI μ (hd 65 i0) 1) ≤ x4 → (((lg_cmp x2 0) = 0 → Q (some (.int 0)) μ) ∧ (¬ (lg_cmp x2 0) = 0 → (vp_in x1 8 ∧ (vp_in x1 8 ∧ (vp_in x1 8 ∧ (vp_in x1 8 ∧ (∀ μ5 : Mu, μ5 = (setI (setL μ (hd 78 i0) x1.toNatClampNeg ((mL μ (hd 78 i0) x1.toNatClampNeg) ||| x2)) (hd 77 i0) x1.toNatClampNeg ((mI (setL μ (hd 78 i0) x1.toNatClampNeg ((mL μ (hd 78 i0) x1.toNatClampNeg) ||| x2)) (hd 77 i0) x1.toNatClampNeg) + (1 : Int32))) → (vp_in (mI μ5 (hd 65 i0) 18) 480 ∧ (vp_in x1 8 ∧ (vp_in (mI (setI μ5 (hd 79 i0) (mI μ5 (hd 65 i0) 18).toNatClampNeg x1) (hd 65 i0) 18) 480 ∧ (∀ μ9 : Mu, μ9 = (setI (setI μ5 (hd 79 i0) (mI μ5 (hd 65 i0) 18).toNatClampNeg x1) (hd 80 i0) (mI (setI μ5 (hd 79 i0) (mI μ5 (hd 65 i0) 18).toNatClampNeg x1) (hd 65 i0) 18).toNatClampNeg ((mI (setI μ5 (hd 79 i0) (mI μ5 (hd 65 i0) 18).toNatClampNeg x1) (hd 65 i0) 0) + (mI (setI μ5 (hd 79 i0) (mI μ5 (hd 65 i0) 18).toNatClampNeg x1) (hd 76 i0) x1.toNatClampNeg))) → (vp_in (mI μ9 (hd 65 i0) 18) 480 ∧ (Cal K_MM_bits (d - 1) 0 0 [.long x2] (setI (setL μ9 (hd 81 i0) (mI μ9 (hd 65 i0) 18).toNatClampNeg x2) (hd 65 i0) 18 ((mI (setL μ9 (hd 81 i0) (mI μ9 (hd 65 i0) 18).toNatClampNeg x2) (hd 65 i0) 18) + (1 : Int32))) (fun r μ11 => ∃ y12, r = some (.int y12) ∧ Q (some (.int y12)) μ11))))))))))))))) ∧ (¬ (mI μ (hd 65 i0) 1) ≤ x4 → (vp_in x1 8 ∧ (Cal K_MS_knows (d - 1) 0 0 [.ref (hd 65 i0), .int (mI μ (hd 51 (px μ (hd 40 0) 11)) x1.toNatClampNeg), .int x4] μ (fun r μ15 => ∃ y16, r = some (.int y16) ∧ ((y16 = 0 → Wx K_MS_send d rc rs Q 5 [(0, .ref (hd 65 i0)), (1, .int x1), (2, .long (x2 ||| 0)), (4, .int (x4 + 1))] [] μ15) ∧ (¬ y16 = 0 → (vp_in x1 8 ∧ (((lg_cmp (((mL μ15 (hd 78 i0) x1.toNatClampNeg) >>> (x4.toInt64 &&& 63)) &&& 1) 0) = 0 → Wx K_MS_send d rc rs Q 5 [(0, .ref (hd 65 i0)), (1, .int x1), (2, .long (x2 ||| (1 <<< (x4.toInt64 &&& 63)))), (4, .int (x4 + 1))] [] μ15) ∧ (¬ (lg_cmp (((mL μ15 (hd 78 i0) x1.toNatClampNeg) >>> (x4.toInt64 &&& 63)) &&& 1) 0) = 0 → Wx K_MS_send d rc rs Q 5 [(0, .ref (hd 65 i0)), (1, .int x1), (2, .long (x2 ||| 0)), (4, .int (x4 + 1))] [] μ15))))))))))) : Wx K_MS_send d rc rs Q 5 [(0, .ref (hd 65 i0)), (1, .int x1), (2, .long x2), (4, .int x4)] [] μ := by
  refine Wa.iload (j := 3) d_MS_send_5 rfl ?_
  refine Wa.aload_n (j := 0) d_MS_send_7 rfl ?_
  refine Wx.getI 13 1 d_MS_send_8 f_MS_1 fl_MS_78 w_65 (s_65 hS h0) ?_
  refine Wa.icmp_ge 68 d_MS_send_11 (by decide) (fun hb => ?_) (fun hb => ?_)
  · have hF := hF.1 hb
    refine Wa.lload_n (j := 2) d_MS_send_68 rfl ?_
    refine Wa.lconst (v := 0) d_MS_send_69 rfl ?_
    refine Wa.lcmp d_MS_send_70 ?_
    refine Wa.if_ne 76 d_MS_send_71 (by decide) (fun hb => ?_) (fun hb => ?_)
    · have hF := hF.2 hb
      refine Wa.aload_n (j := 0) d_MS_send_76 rfl ?_
      refine Wx.getR 13 17 d_MS_send_77 f_MS_17 rfl fl_MS_53 (s_65 hS h0) (r_65_17 hS h0) ?_
      refine Wa.iload_n (j := 1) d_MS_send_80 rfl ?_
      refine Wa.dup2 d_MS_send_81 rfl rfl ?_
      have hc1 := hF.1
      have hF := hF.2
      have hlhc1 := vp_in_lt hc1
      refine Wa.lald d_MS_send_82 (s_78 hS h0) hc1 ?_
      refine Wa.lload_n (j := 2) d_MS_send_83 rfl ?_
      refine Wa.lor d_MS_send_84 ?_
      have hc2 := hF.1
      have hF := hF.2
      have hlhc2 := vp_in_lt hc2
      refine Wa.last d_MS_send_85 w_78 (s_78 hS h0) hc2 ?_
      refine Wa.aload_n (j := 0) d_MS_send_86 rfl ?_
      refine Wx.getR 13 16 d_MS_send_87 f_MS_16 rfl fl_MS_50 (s_65 hS h0) (r_65_16 hS h0) ?_
      refine Wa.iload_n (j := 1) d_MS_send_90 rfl ?_
      refine Wa.dup2 d_MS_send_91 rfl rfl ?_
      have hc3 := hF.1
      have hF := hF.2
      have hlhc3 := vp_in_lt hc3
      refine Wx.iald d_MS_send_92 w_77 (s_77 hS h0) hc3 ?_
      refine Wa.iconst (v := 1) d_MS_send_93 rfl ?_
      refine Wa.iadd d_MS_send_94 ?_
      have hc4 := hF.1
      have hF := hF.2
      have hlhc4 := vp_in_lt hc4
      refine Wa.iast d_MS_send_95 w_77 (s_77 hS h0) hc4 ?_
      suffices hh : ∀ μ5 : Mu, μ5 = (setI (setL μ (hd 78 i0) x1.toNatClampNeg ((mL μ (hd 78 i0) x1.toNatClampNeg) ||| x2)) (hd 77 i0) x1.toNatClampNeg ((mI (setL μ (hd 78 i0) x1.toNatClampNeg ((mL μ (hd 78 i0) x1.toNatClampNeg) ||| x2)) (hd 77 i0) x1.toNatClampNeg) + (1 : Int32))) → Wx K_MS_send d rc rs Q 96 [(0, .ref (hd 65 i0)), (1, .int x1), (2, .long x2), (4, .int x4)] [] μ5 from hh _ rfl
      intro μ5 em
      have hF := hF μ5 em
      have hS : St μ5 := by rw [em]; exact hS
      refine Wa.aload_n (j := 0) d_MS_send_96 rfl ?_
      refine Wx.getR 13 19 d_MS_send_97 f_MS_19 rfl fl_MS_56 (s_65 hS h0) (r_65_19 hS h0) ?_
      refine Wa.aload_n (j := 0) d_MS_send_100 rfl ?_
      refine Wx.getI 13 18 d_MS_send_101 f_MS_18 fl_MS_90 w_65 (s_65 hS h0) ?_
      refine Wa.iload_n (j := 1) d_MS_send_104 rfl ?_
      have hc6 := hF.1
      have hF := hF.2
      have hlhc6 := vp_in_lt hc6
      refine Wa.iast d_MS_send_105 w_79 (s_79 hS h0) hc6 ?_
      refine Wa.aload_n (j := 0) d_MS_send_106 rfl ?_
      refine Wx.getR 13 20 d_MS_send_107 f_MS_20 rfl fl_MS_59 (s_65 hS h0) (r_65_20 hS h0) ?_
      refine Wa.aload_n (j := 0) d_MS_send_110 rfl ?_
      refine Wx.getI 13 18 d_MS_send_111 f_MS_18 fl_MS_90 w_65 (s_65 hS h0) ?_
      refine Wa.aload_n (j := 0) d_MS_send_114 rfl ?_
      refine Wx.getI 13 0 d_MS_send_115 f_MS_0 fl_MS_74 w_65 (s_65 hS h0) ?_
      refine Wa.aload_n (j := 0) d_MS_send_118 rfl ?_
      refine Wx.getR 13 15 d_MS_send_119 f_MS_15 rfl fl_MS_47 (s_65 hS h0) (r_65_15 hS h0) ?_
      refine Wa.iload_n (j := 1) d_MS_send_122 rfl ?_
      have hc7 := hF.1
      have hF := hF.2
      have hlhc7 := vp_in_lt hc7
      refine Wx.iald d_MS_send_123 w_76 (s_76 hS h0) hc7 ?_
      refine Wa.iadd d_MS_send_124 ?_
      have hc8 := hF.1
      have hF := hF.2
      have hlhc8 := vp_in_lt hc8
      refine Wa.iast d_MS_send_125 w_80 (s_80 hS h0) hc8 ?_
      suffices hh : ∀ μ9 : Mu, μ9 = (setI (setI μ5 (hd 79 i0) (mI μ5 (hd 65 i0) 18).toNatClampNeg x1) (hd 80 i0) (mI (setI μ5 (hd 79 i0) (mI μ5 (hd 65 i0) 18).toNatClampNeg x1) (hd 65 i0) 18).toNatClampNeg ((mI (setI μ5 (hd 79 i0) (mI μ5 (hd 65 i0) 18).toNatClampNeg x1) (hd 65 i0) 0) + (mI (setI μ5 (hd 79 i0) (mI μ5 (hd 65 i0) 18).toNatClampNeg x1) (hd 76 i0) x1.toNatClampNeg))) → Wx K_MS_send d rc rs Q 126 [(0, .ref (hd 65 i0)), (1, .int x1), (2, .long x2), (4, .int x4)] [] μ9 from hh _ rfl
      intro μ9 em
      have hF := hF μ9 em
      have hS : St μ9 := by rw [em]; exact hS
      refine Wa.aload_n (j := 0) d_MS_send_126 rfl ?_
      refine Wx.getR 13 21 d_MS_send_127 f_MS_21 rfl fl_MS_62 (s_65 hS h0) (r_65_21 hS h0) ?_
      refine Wa.aload_n (j := 0) d_MS_send_130 rfl ?_
      refine Wx.getI 13 18 d_MS_send_131 f_MS_18 fl_MS_90 w_65 (s_65 hS h0) ?_
      refine Wa.lload_n (j := 2) d_MS_send_134 rfl ?_
      have hc10 := hF.1
      have hF := hF.2
      have hlhc10 := vp_in_lt hc10
      refine Wa.last d_MS_send_135 w_81 (s_81 hS h0) hc10 ?_
      refine Wa.aload_n (j := 0) d_MS_send_136 rfl ?_
      refine Wa.dup d_MS_send_137 rfl ?_
      refine Wx.getI 13 18 d_MS_send_138 f_MS_18 fl_MS_90 w_65 (s_65 hS h0) ?_
      refine Wa.iconst (v := 1) d_MS_send_141 rfl ?_
      refine Wa.iadd d_MS_send_142 ?_
      refine Wx.putI 13 18 d_MS_send_143 f_MS_18 ok_MS fl_MS_90 (Or.inl rfl) w_65 (s_65 hS h0) ?_
      refine Wa.lload_n (j := 2) d_MS_send_146 rfl ?_
      refine Wx.cSi (As := [.long x2]) (d - 1) 0 0 _ d_MS_send_147 mok_MM_bits sl_MS_127 rfl rfl (Nat.le_of_ble_eq_true rfl) (by omega) (Nat.zero_le _) (Nat.zero_le _) hF (fun y12 μ11 hS hF => ?_)
      exact Wx.reti d_MS_send_150 rfl hF
    · have hF := hF.1 hb
      refine Wa.iconst (v := 0) d_MS_send_74 rfl ?_
      exact Wx.reti d_MS_send_75 rfl hF
  · have hF := hF.2 hb
    refine Wa.lload_n (j := 2) d_MS_send_14 rfl ?_
    refine Wa.aload_n (j := 0) d_MS_send_15 rfl ?_
    refine Wa.aload_n (j := 0) d_MS_send_16 rfl ?_
    refine Wx.getR 13 23 d_MS_send_17 f_MS_23 rfl fl_MS_3 (s_65 hS h0) (r_65_23 hS h0) ?_
    have hp13 := St.plan hS
    refine Wx.getR 11 11 d_MS_send_20 f_MM_11 rfl fl_MS_100 (s_40 hS (by decide)) (hp13.1) ?_
    refine Wx.getR 12 3 d_MS_send_23 f_MP_3 rfl fl_MS_149 (s_50 hp13.2) (r_50_3 hp13.2) ?_
    refine Wa.iload_n (j := 1) d_MS_send_26 rfl ?_
    have hc14 := hF.1
    have hF := hF.2
    have hlhc14 := vp_in_lt hc14
    refine Wx.iald d_MS_send_27 w_51 (s_51 hp13.2) hc14 ?_
    refine Wa.iload (j := 3) d_MS_send_28 rfl ?_
    refine Wx.cVi (q := E_MS) (As := [.int (mI μ (hd 51 (px μ (hd 40 0) 11)) x1.toNatClampNeg), .int x4]) 13 (d - 1) 0 0 _ d_MS_send_30 mok_MS_knows vl_MS_152 rfl rfl rfl (Nat.le_of_ble_eq_true rfl) (by omega) (Nat.zero_le _) (Nat.zero_le _) (s_65 hS h0) hF (fun y16 μ15 hS hF => ?_)
    refine Wa.if_eq 59 d_MS_send_33 (by decide) (fun hb => ?_) (fun hb => ?_)
    · have hF := hF.1 hb
      refine Wa.lconst (v := 0) d_MS_send_59 rfl ?_
      refine Wa.lor d_MS_send_60 ?_
      refine Wa.lstore_n (i := 2) (L' := [(2, .long (x2 ||| 0)), (0, .ref (hd 65 i0)), (1, .int x1), (4, .int x4)]) d_MS_send_61 rfl (by decide) rfl ?_
      refine Wa.iinc (i := 4) (j := 3) (v := (x4 + 1)) (L' := [(4, .int (x4 + 1)), (2, .long (x2 ||| 0)), (0, .ref (hd 65 i0)), (1, .int x1)]) d_MS_send_62 rfl rfl (by decide) rfl ?_
      refine Wa.goto 5 d_MS_send_65 (by decide) ?_
      exact Wa.loc [2, 3, 1, 0] rfl hF
    · have hF := hF.2 hb
      refine Wa.aload_n (j := 0) d_MS_send_36 rfl ?_
      refine Wx.getR 13 17 d_MS_send_37 f_MS_17 rfl fl_MS_53 (s_65 hS h0) (r_65_17 hS h0) ?_
      refine Wa.iload_n (j := 1) d_MS_send_40 rfl ?_
      have hc17 := hF.1
      have hF := hF.2
      have hlhc17 := vp_in_lt hc17
      refine Wa.lald d_MS_send_41 (s_78 hS h0) hc17 ?_
      refine Wa.iload (j := 3) d_MS_send_42 rfl ?_
      refine Wa.lshr d_MS_send_44 ?_
      refine Wa.lconst (v := 1) d_MS_send_45 rfl ?_
      refine Wa.land d_MS_send_46 ?_
      refine Wa.lconst (v := 0) d_MS_send_47 rfl ?_
      refine Wa.lcmp d_MS_send_48 ?_
      refine Wa.if_ne 59 d_MS_send_49 (by decide) (fun hb => ?_) (fun hb => ?_)
      · have hF := hF.2 hb
        refine Wa.lconst (v := 0) d_MS_send_59 rfl ?_
        refine Wa.lor d_MS_send_60 ?_
        refine Wa.lstore_n (i := 2) (L' := [(2, .long (x2 ||| 0)), (0, .ref (hd 65 i0)), (1, .int x1), (4, .int x4)]) d_MS_send_61 rfl (by decide) rfl ?_
        refine Wa.iinc (i := 4) (j := 3) (v := (x4 + 1)) (L' := [(4, .int (x4 + 1)), (2, .long (x2 ||| 0)), (0, .ref (hd 65 i0)), (1, .int x1)]) d_MS_send_62 rfl rfl (by decide) rfl ?_
        refine Wa.goto 5 d_MS_send_65 (by decide) ?_
        exact Wa.loc [2, 3, 1, 0] rfl hF
      · have hF := hF.1 hb
        refine Wa.lconst (v := 1) d_MS_send_52 rfl ?_
        refine Wa.iload (j := 3) d_MS_send_53 rfl ?_
        refine Wa.lshl d_MS_send_55 ?_
        refine Wa.goto 60 d_MS_send_56 (by decide) ?_
        refine Wa.lor d_MS_send_60 ?_
        refine Wa.lstore_n (i := 2) (L' := [(2, .long (x2 ||| (1 <<< (x4.toInt64 &&& 63)))), (0, .ref (hd 65 i0)), (1, .int x1), (4, .int x4)]) d_MS_send_61 rfl (by decide) rfl ?_
        refine Wa.iinc (i := 4) (j := 3) (v := (x4 + 1)) (L' := [(4, .int (x4 + 1)), (2, .long (x2 ||| (1 <<< (x4.toInt64 &&& 63)))), (0, .ref (hd 65 i0)), (1, .int x1)]) d_MS_send_62 rfl rfl (by decide) rfl ?_
        refine Wa.goto 5 d_MS_send_65 (by decide) ?_
        exact Wa.loc [2, 3, 1, 0] rfl hF
set_option maxHeartbeats 4000000 in
set_option maxRecDepth 20000 in
theorem g_MS_come_0 {d rc rs : Nat} {Q : Option Value → Mu → Prop} {μ : Mu} {i0 : Nat} {x1 : Int32} {x2 : Int64} (hD : 1 ≤ d) (h0 : i0 < 2) (hS : St μ)
    (hF : Wx K_MS_come d rc rs Q 3 [(0, .ref (hd 65 i0)), (1, .int x1), (2, .long x2), (4, .int 0)] [] μ) : Wx K_MS_come d rc rs Q 0 [(0, .ref (hd 65 i0)), (1, .int x1), (2, .long x2)] [] μ := by
  refine Wa.iconst (v := 0) d_MS_come_0 rfl ?_
  refine Wa.istore (i := 4) (L' := [(4, .int 0), (0, .ref (hd 65 i0)), (1, .int x1), (2, .long x2)]) d_MS_come_1 (by decide) rfl ?_
  exact Wa.loc [1, 2, 3, 0] rfl hF
theorem e_MS_come {d rc rs : Nat} {Q : Option Value → Mu → Prop} {μ : Mu} {i0 : Nat} {x1 : Int32} {x2 : Int64} (hk : Wx K_MS_come d rc rs (fun r μ' => St μ' ∧ Q r μ') 0 [(0, .ref (hd 65 i0)), (1, .int x1), (2, .long x2)] [] μ) : Cal K_MS_come d rc rs [.ref (hd 65 i0), .int x1, .long x2] μ Q := Cal.of (by decide +kernel) rfl rfl (Nat.le_of_ble_eq_true rfl) rfl hk
set_option maxHeartbeats 4000000 in
set_option maxRecDepth 20000 in
theorem g_MS_come_3 {d rc rs : Nat} {Q : Option Value → Mu → Prop} {μ : Mu} {i0 : Nat} {x1 : Int32} {x2 : Int64} {x4 : Int32} (hD : 1 ≤ d) (h0 : i0 < 2) (hS : St μ)
    (hF : (((mI μ (hd 65 i0) 1) ≤ x4 → Q none μ) ∧ (¬ (mI μ (hd 65 i0) 1) ≤ x4 → (((lg_cmp ((x2 >>> (x4.toInt64 &&& 63)) &&& 1) 1) = 0 → (Cal K_MS_knows (d - 1) 0 0 [.ref (hd 65 i0), .int x1, .int x4] μ (fun r μ1 => ∃ y2, r = some (.int y2) ∧ ((y2 = 0 → (vp_in x1 5 ∧ (vp_in x1 5 ∧ Wx K_MS_come d rc rs Q 3 [(0, .ref (hd 65 i0)), (1, .int x1), (2, .long x2), (4, .int (x4 + 1))] [] (setL μ1 (hd 75 i0) x1.toNatClampNeg ((mL μ1 (hd 75 i0) x1.toNatClampNeg) ||| (1 <<< (x4.toInt64 &&& 63))))))) ∧ (¬ y2 = 0 → Wx K_MS_come d rc rs Q 3 [(0, .ref (hd 65 i0)), (1, .int x1), (2, .long x2), (4, .int (x4 + 1))] [] μ1))))) ∧ (¬ (lg_cmp ((x2 >>> (x4.toInt64 &&& 63)) &&& 1) 1) = 0 → Wx K_MS_come d rc rs Q 3 [(0, .ref (hd 65 i0)), (1, .int x1), (2, .long x2), (4, .int (x4 + 1))] [] μ))))) : Wx K_MS_come d rc rs Q 3 [(0, .ref (hd 65 i0)), (1, .int x1), (2, .long x2), (4, .int x4)] [] μ := by
  refine Wa.iload (j := 3) d_MS_come_3 rfl ?_
  refine Wa.aload_n (j := 0) d_MS_come_5 rfl ?_
  refine Wx.getI 13 1 d_MS_come_6 f_MS_1 fl_MS_78 w_65 (s_65 hS h0) ?_
  refine Wa.icmp_ge 52 d_MS_come_9 (by decide) (fun hb => ?_) (fun hb => ?_)
  · have hF := hF.1 hb
    exact Wx.retv d_MS_come_52 rfl hF
  · have hF := hF.2 hb
    refine Wa.lload_n (j := 2) d_MS_come_12 rfl ?_
    refine Wa.iload (j := 3) d_MS_come_13 rfl ?_
    refine Wa.lshr d_MS_come_15 ?_
    refine Wa.lconst (v := 1) d_MS_come_16 rfl ?_
    refine Wa.land d_MS_come_17 ?_
    refine Wa.lconst (v := 1) d_MS_come_18 rfl ?_
    refine Wa.lcmp d_MS_come_19 ?_
    refine Wa.if_ne 46 d_MS_come_20 (by decide) (fun hb => ?_) (fun hb => ?_)
    · have hF := hF.2 hb
      refine Wa.iinc (i := 4) (j := 3) (v := (x4 + 1)) (L' := [(4, .int (x4 + 1)), (0, .ref (hd 65 i0)), (1, .int x1), (2, .long x2)]) d_MS_come_46 rfl rfl (by decide) rfl ?_
      refine Wa.goto 3 d_MS_come_49 (by decide) ?_
      exact Wa.loc [1, 2, 3, 0] rfl hF
    · have hF := hF.1 hb
      refine Wa.aload_n (j := 0) d_MS_come_23 rfl ?_
      refine Wa.iload_n (j := 1) d_MS_come_24 rfl ?_
      refine Wa.iload (j := 3) d_MS_come_25 rfl ?_
      refine Wx.cVi (q := E_MS) (As := [.int x1, .int x4]) 13 (d - 1) 0 0 _ d_MS_come_27 mok_MS_knows vl_MS_152 rfl rfl rfl (Nat.le_of_ble_eq_true rfl) (by omega) (Nat.zero_le _) (Nat.zero_le _) (s_65 hS h0) hF (fun y2 μ1 hS hF => ?_)
      refine Wa.if_ne 46 d_MS_come_30 (by decide) (fun hb => ?_) (fun hb => ?_)
      · have hF := hF.2 hb
        refine Wa.iinc (i := 4) (j := 3) (v := (x4 + 1)) (L' := [(4, .int (x4 + 1)), (0, .ref (hd 65 i0)), (1, .int x1), (2, .long x2)]) d_MS_come_46 rfl rfl (by decide) rfl ?_
        refine Wa.goto 3 d_MS_come_49 (by decide) ?_
        exact Wa.loc [1, 2, 3, 0] rfl hF
      · have hF := hF.1 hb
        refine Wa.aload_n (j := 0) d_MS_come_33 rfl ?_
        refine Wx.getR 13 14 d_MS_come_34 f_MS_14 rfl fl_MS_43 (s_65 hS h0) (r_65_14 hS h0) ?_
        refine Wa.iload_n (j := 1) d_MS_come_37 rfl ?_
        refine Wa.dup2 d_MS_come_38 rfl rfl ?_
        have hc3 := hF.1
        have hF := hF.2
        have hlhc3 := vp_in_lt hc3
        refine Wa.lald d_MS_come_39 (s_75 hS h0) hc3 ?_
        refine Wa.lconst (v := 1) d_MS_come_40 rfl ?_
        refine Wa.iload (j := 3) d_MS_come_41 rfl ?_
        refine Wa.lshl d_MS_come_43 ?_
        refine Wa.lor d_MS_come_44 ?_
        have hc4 := hF.1
        have hF := hF.2
        have hlhc4 := vp_in_lt hc4
        refine Wa.last d_MS_come_45 w_75 (s_75 hS h0) hc4 ?_
        refine Wa.iinc (i := 4) (j := 3) (v := (x4 + 1)) (L' := [(4, .int (x4 + 1)), (0, .ref (hd 65 i0)), (1, .int x1), (2, .long x2)]) d_MS_come_46 rfl rfl (by decide) rfl ?_
        refine Wa.goto 3 d_MS_come_49 (by decide) ?_
        exact Wa.loc [1, 2, 3, 0] rfl hF
set_option maxHeartbeats 4000000 in
set_option maxRecDepth 20000 in
theorem g_MS_arrive_0 {d rc rs : Nat} {Q : Option Value → Mu → Prop} {μ : Mu} {i0 : Nat} (hD : 1 ≤ d) (h0 : i0 < 2) (hS : St μ)
    (hF : Wx K_MS_arrive d rc rs Q 4 [(0, .ref (hd 65 i0)), (1, .int 0), (2, .int 0)] [] μ) : Wx K_MS_arrive d rc rs Q 0 [(0, .ref (hd 65 i0))] [] μ := by
  refine Wa.iconst (v := 0) d_MS_arrive_0 rfl ?_
  refine Wa.istore_n (i := 1) (L' := [(1, .int 0), (0, .ref (hd 65 i0))]) d_MS_arrive_1 rfl (by decide) rfl ?_
  refine Wa.iconst (v := 0) d_MS_arrive_2 rfl ?_
  refine Wa.istore_n (i := 2) (L' := [(2, .int 0), (1, .int 0), (0, .ref (hd 65 i0))]) d_MS_arrive_3 rfl (by decide) rfl ?_
  exact Wa.loc [2, 1, 0] rfl hF
theorem e_MS_arrive {d rc rs : Nat} {Q : Option Value → Mu → Prop} {μ : Mu} {i0 : Nat} (hk : Wx K_MS_arrive d rc rs (fun r μ' => St μ' ∧ Q r μ') 0 [(0, .ref (hd 65 i0))] [] μ) : Cal K_MS_arrive d rc rs [.ref (hd 65 i0)] μ Q := Cal.of (by decide +kernel) rfl rfl (Nat.le_of_ble_eq_true rfl) rfl hk
set_option maxHeartbeats 4000000 in
set_option maxRecDepth 20000 in
theorem g_MS_arrive_4 {d rc rs : Nat} {Q : Option Value → Mu → Prop} {μ : Mu} {i0 : Nat} {x1 : Int32} {x2 : Int32} (hD : 1 ≤ d) (h0 : i0 < 2) (hS : St μ)
    (hF : (((mI μ (hd 65 i0) 18) ≤ x2 → Q none (setI μ (hd 65 i0) 18 x1)) ∧ (¬ (mI μ (hd 65 i0) 18) ≤ x2 → (vp_in x2 480 ∧ (((mI μ (hd 80 i0) x2.toNatClampNeg) = (mI μ (hd 65 i0) 0) → (vp_in x2 480 ∧ (vp_in (mI μ (hd 79 i0) x2.toNatClampNeg) 8 ∧ (vp_in x2 480 ∧ (Cal K_MS_come (d - 1) 0 0 [.ref (hd 65 i0), .int (mI μ (hd 52 (px μ (hd 40 0) 11)) (mI μ (hd 79 i0) x2.toNatClampNeg).toNatClampNeg), .long (mL μ (hd 81 i0) x2.toNatClampNeg)] μ (fun r μ13 => r = none ∧ Wx K_MS_arrive d rc rs Q 4 [(0, .ref (hd 65 i0)), (1, .int x1), (2, .int (x2 + 1))] [] μ13)))))) ∧ (¬ (mI μ (hd 80 i0) x2.toNatClampNeg) = (mI μ (hd 65 i0) 0) → (vp_in x2 480 ∧ (vp_in x1 480 ∧ (vp_in x2 480 ∧ (vp_in x1 480 ∧ (vp_in x2 480 ∧ (vp_in x1 480 ∧ (∀ μ8 : Mu, μ8 = (setL (setI (setI μ (hd 79 i0) x1.toNatClampNeg (mI μ (hd 79 i0) x2.toNatClampNeg)) (hd 80 i0) x1.toNatClampNeg (mI (setI μ (hd 79 i0) x1.toNatClampNeg (mI μ (hd 79 i0) x2.toNatClampNeg)) (hd 80 i0) x2.toNatClampNeg)) (hd 81 i0) x1.toNatClampNeg (mL (setI (setI μ (hd 79 i0) x1.toNatClampNeg (mI μ (hd 79 i0) x2.toNatClampNeg)) (hd 80 i0) x1.toNatClampNeg (mI (setI μ (hd 79 i0) x1.toNatClampNeg (mI μ (hd 79 i0) x2.toNatClampNeg)) (hd 80 i0) x2.toNatClampNeg)) (hd 81 i0) x2.toNatClampNeg)) → Wx K_MS_arrive d rc rs Q 4 [(0, .ref (hd 65 i0)), (1, .int (x1 + 1)), (2, .int (x2 + 1))] [] μ8))))))))))))) : Wx K_MS_arrive d rc rs Q 4 [(0, .ref (hd 65 i0)), (1, .int x1), (2, .int x2)] [] μ := by
  refine Wa.iload_n (j := 2) d_MS_arrive_4 rfl ?_
  refine Wa.aload_n (j := 0) d_MS_arrive_5 rfl ?_
  refine Wx.getI 13 18 d_MS_arrive_6 f_MS_18 fl_MS_90 w_65 (s_65 hS h0) ?_
  refine Wa.icmp_ge 100 d_MS_arrive_9 (by decide) (fun hb => ?_) (fun hb => ?_)
  · have hF := hF.1 hb
    refine Wa.aload_n (j := 0) d_MS_arrive_100 rfl ?_
    refine Wa.iload_n (j := 1) d_MS_arrive_101 rfl ?_
    refine Wx.putI 13 18 d_MS_arrive_102 f_MS_18 ok_MS fl_MS_90 (Or.inl rfl) w_65 (s_65 hS h0) ?_
    exact Wx.retv d_MS_arrive_105 rfl hF
  · have hF := hF.2 hb
    refine Wa.aload_n (j := 0) d_MS_arrive_12 rfl ?_
    refine Wx.getR 13 20 d_MS_arrive_13 f_MS_20 rfl fl_MS_59 (s_65 hS h0) (r_65_20 hS h0) ?_
    refine Wa.iload_n (j := 2) d_MS_arrive_16 rfl ?_
    have hc1 := hF.1
    have hF := hF.2
    have hlhc1 := vp_in_lt hc1
    refine Wx.iald d_MS_arrive_17 w_80 (s_80 hS h0) hc1 ?_
    refine Wa.aload_n (j := 0) d_MS_arrive_18 rfl ?_
    refine Wx.getI 13 0 d_MS_arrive_19 f_MS_0 fl_MS_74 w_65 (s_65 hS h0) ?_
    refine Wa.icmp_ne 55 d_MS_arrive_22 (by decide) (fun hb => ?_) (fun hb => ?_)
    · have hF := hF.2 hb
      refine Wa.aload_n (j := 0) d_MS_arrive_55 rfl ?_
      refine Wx.getR 13 19 d_MS_arrive_56 f_MS_19 rfl fl_MS_56 (s_65 hS h0) (r_65_19 hS h0) ?_
      refine Wa.iload_n (j := 1) d_MS_arrive_59 rfl ?_
      refine Wa.aload_n (j := 0) d_MS_arrive_60 rfl ?_
      refine Wx.getR 13 19 d_MS_arrive_61 f_MS_19 rfl fl_MS_56 (s_65 hS h0) (r_65_19 hS h0) ?_
      refine Wa.iload_n (j := 2) d_MS_arrive_64 rfl ?_
      have hc2 := hF.1
      have hF := hF.2
      have hlhc2 := vp_in_lt hc2
      refine Wx.iald d_MS_arrive_65 w_79 (s_79 hS h0) hc2 ?_
      have hc3 := hF.1
      have hF := hF.2
      have hlhc3 := vp_in_lt hc3
      refine Wa.iast d_MS_arrive_66 w_79 (s_79 hS h0) hc3 ?_
      refine Wa.aload_n (j := 0) d_MS_arrive_67 rfl ?_
      refine Wx.getR 13 20 d_MS_arrive_68 f_MS_20 rfl fl_MS_59 (s_65 hS h0) (r_65_20 hS h0) ?_
      refine Wa.iload_n (j := 1) d_MS_arrive_71 rfl ?_
      refine Wa.aload_n (j := 0) d_MS_arrive_72 rfl ?_
      refine Wx.getR 13 20 d_MS_arrive_73 f_MS_20 rfl fl_MS_59 (s_65 hS h0) (r_65_20 hS h0) ?_
      refine Wa.iload_n (j := 2) d_MS_arrive_76 rfl ?_
      have hc4 := hF.1
      have hF := hF.2
      have hlhc4 := vp_in_lt hc4
      refine Wx.iald d_MS_arrive_77 w_80 (s_80 hS h0) hc4 ?_
      have hc5 := hF.1
      have hF := hF.2
      have hlhc5 := vp_in_lt hc5
      refine Wa.iast d_MS_arrive_78 w_80 (s_80 hS h0) hc5 ?_
      refine Wa.aload_n (j := 0) d_MS_arrive_79 rfl ?_
      refine Wx.getR 13 21 d_MS_arrive_80 f_MS_21 rfl fl_MS_62 (s_65 hS h0) (r_65_21 hS h0) ?_
      refine Wa.iload_n (j := 1) d_MS_arrive_83 rfl ?_
      refine Wa.aload_n (j := 0) d_MS_arrive_84 rfl ?_
      refine Wx.getR 13 21 d_MS_arrive_85 f_MS_21 rfl fl_MS_62 (s_65 hS h0) (r_65_21 hS h0) ?_
      refine Wa.iload_n (j := 2) d_MS_arrive_88 rfl ?_
      have hc6 := hF.1
      have hF := hF.2
      have hlhc6 := vp_in_lt hc6
      refine Wa.lald d_MS_arrive_89 (s_81 hS h0) hc6 ?_
      have hc7 := hF.1
      have hF := hF.2
      have hlhc7 := vp_in_lt hc7
      refine Wa.last d_MS_arrive_90 w_81 (s_81 hS h0) hc7 ?_
      suffices hh : ∀ μ8 : Mu, μ8 = (setL (setI (setI μ (hd 79 i0) x1.toNatClampNeg (mI μ (hd 79 i0) x2.toNatClampNeg)) (hd 80 i0) x1.toNatClampNeg (mI (setI μ (hd 79 i0) x1.toNatClampNeg (mI μ (hd 79 i0) x2.toNatClampNeg)) (hd 80 i0) x2.toNatClampNeg)) (hd 81 i0) x1.toNatClampNeg (mL (setI (setI μ (hd 79 i0) x1.toNatClampNeg (mI μ (hd 79 i0) x2.toNatClampNeg)) (hd 80 i0) x1.toNatClampNeg (mI (setI μ (hd 79 i0) x1.toNatClampNeg (mI μ (hd 79 i0) x2.toNatClampNeg)) (hd 80 i0) x2.toNatClampNeg)) (hd 81 i0) x2.toNatClampNeg)) → Wx K_MS_arrive d rc rs Q 91 [(0, .ref (hd 65 i0)), (1, .int x1), (2, .int x2)] [] μ8 from hh _ rfl
      intro μ8 em
      have hF := hF μ8 em
      have hS : St μ8 := by rw [em]; exact hS
      refine Wa.iinc (i := 1) (j := 1) (v := (x1 + 1)) (L' := [(1, .int (x1 + 1)), (0, .ref (hd 65 i0)), (2, .int x2)]) d_MS_arrive_91 rfl rfl (by decide) rfl ?_
      refine Wa.iinc (i := 2) (j := 2) (v := (x2 + 1)) (L' := [(2, .int (x2 + 1)), (1, .int (x1 + 1)), (0, .ref (hd 65 i0))]) d_MS_arrive_94 rfl rfl (by decide) rfl ?_
      refine Wa.goto 4 d_MS_arrive_97 (by decide) ?_
      exact Wa.loc [2, 1, 0] rfl hF
    · have hF := hF.1 hb
      refine Wa.aload_n (j := 0) d_MS_arrive_25 rfl ?_
      refine Wa.aload_n (j := 0) d_MS_arrive_26 rfl ?_
      refine Wx.getR 13 23 d_MS_arrive_27 f_MS_23 rfl fl_MS_3 (s_65 hS h0) (r_65_23 hS h0) ?_
      have hp9 := St.plan hS
      refine Wx.getR 11 11 d_MS_arrive_30 f_MM_11 rfl fl_MS_100 (s_40 hS (by decide)) (hp9.1) ?_
      refine Wx.getR 12 4 d_MS_arrive_33 f_MP_4 rfl fl_MS_156 (s_50 hp9.2) (r_50_4 hp9.2) ?_
      refine Wa.aload_n (j := 0) d_MS_arrive_36 rfl ?_
      refine Wx.getR 13 19 d_MS_arrive_37 f_MS_19 rfl fl_MS_56 (s_65 hS h0) (r_65_19 hS h0) ?_
      refine Wa.iload_n (j := 2) d_MS_arrive_40 rfl ?_
      have hc10 := hF.1
      have hF := hF.2
      have hlhc10 := vp_in_lt hc10
      refine Wx.iald d_MS_arrive_41 w_79 (s_79 hS h0) hc10 ?_
      have hc11 := hF.1
      have hF := hF.2
      have hlhc11 := vp_in_lt hc11
      refine Wx.iald d_MS_arrive_42 w_52 (s_52 hp9.2) hc11 ?_
      refine Wa.aload_n (j := 0) d_MS_arrive_43 rfl ?_
      refine Wx.getR 13 21 d_MS_arrive_44 f_MS_21 rfl fl_MS_62 (s_65 hS h0) (r_65_21 hS h0) ?_
      refine Wa.iload_n (j := 2) d_MS_arrive_47 rfl ?_
      have hc12 := hF.1
      have hF := hF.2
      have hlhc12 := vp_in_lt hc12
      refine Wa.lald d_MS_arrive_48 (s_81 hS h0) hc12 ?_
      refine Wx.cVv (q := E_MS) (As := [.int (mI μ (hd 52 (px μ (hd 40 0) 11)) (mI μ (hd 79 i0) x2.toNatClampNeg).toNatClampNeg), .long (mL μ (hd 81 i0) x2.toNatClampNeg)]) 13 (d - 1) 0 0 _ d_MS_arrive_49 mok_MS_come vl_MS_159 rfl rfl rfl (Nat.le_of_ble_eq_true rfl) (by omega) (Nat.zero_le _) (Nat.zero_le _) (s_65 hS h0) hF (fun μ13 hS hF => ?_)
      refine Wa.goto 94 d_MS_arrive_52 (by decide) ?_
      refine Wa.iinc (i := 2) (j := 2) (v := (x2 + 1)) (L' := [(2, .int (x2 + 1)), (0, .ref (hd 65 i0)), (1, .int x1)]) d_MS_arrive_94 rfl rfl (by decide) rfl ?_
      refine Wa.goto 4 d_MS_arrive_97 (by decide) ?_
      exact Wa.loc [1, 2, 0] rfl hF
set_option maxHeartbeats 4000000 in
set_option maxRecDepth 20000 in
theorem g_MS_canHang_0 {d rc rs : Nat} {Q : Option Value → Mu → Prop} {μ : Mu} {i0 : Nat} {x1 : Int32} {x2 : Int32} (hD : 1 ≤ d) (h0 : i0 < 2) (hS : St μ)
    (hF : (vp_in x1 5 ∧ (((lg_cmp (((mL μ (hd 75 i0) x1.toNatClampNeg) >>> (x2.toInt64 &&& 63)) &&& 1) 1) = 0 → (vp_in x2 60 ∧ (Cal K_MS_stampOf (d - 1) 0 0 [.ref (hd 65 i0), .int x2, .int (mI μ (hd 66 i0) x2.toNatClampNeg)] μ (fun r μ3 => ∃ y4, r = some (.int y4) ∧ (vp_in x2 60 ∧ (Cal K_MS_numberOf (d - 1) 0 0 [.ref (hd 65 i0), .int x1, .int (mI μ3 (hd 66 i0) x2.toNatClampNeg)] μ3 (fun r μ6 => ∃ y7, r = some (.int y7) ∧ ((y4 = (y7 + (1 : Int32)) → Wx K_MS_canHang d rc rs Q 51 [(0, .ref (hd 65 i0)), (1, .int x1), (2, .int x2), (3, .int 1), (4, .int 0)] [] μ6) ∧ (¬ y4 = (y7 + (1 : Int32)) → Wx K_MS_canHang d rc rs Q 51 [(0, .ref (hd 65 i0)), (1, .int x1), (2, .int x2), (3, .int 0), (4, .int 0)] [] μ6))))))))) ∧ (¬ (lg_cmp (((mL μ (hd 75 i0) x1.toNatClampNeg) >>> (x2.toInt64 &&& 63)) &&& 1) 1) = 0 → Wx K_MS_canHang d rc rs Q 51 [(0, .ref (hd 65 i0)), (1, .int x1), (2, .int x2), (3, .int 0), (4, .int 0)] [] μ)))) : Wx K_MS_canHang d rc rs Q 0 [(0, .ref (hd 65 i0)), (1, .int x1), (2, .int x2)] [] μ := by
  refine Wa.aload_n (j := 0) d_MS_canHang_0 rfl ?_
  refine Wx.getR 13 14 d_MS_canHang_1 f_MS_14 rfl fl_MS_43 (s_65 hS h0) (r_65_14 hS h0) ?_
  refine Wa.iload_n (j := 1) d_MS_canHang_4 rfl ?_
  have hc1 := hF.1
  have hF := hF.2
  have hlhc1 := vp_in_lt hc1
  refine Wa.lald d_MS_canHang_5 (s_75 hS h0) hc1 ?_
  refine Wa.iload_n (j := 2) d_MS_canHang_6 rfl ?_
  refine Wa.lshr d_MS_canHang_7 ?_
  refine Wa.lconst (v := 1) d_MS_canHang_8 rfl ?_
  refine Wa.land d_MS_canHang_9 ?_
  refine Wa.lconst (v := 1) d_MS_canHang_10 rfl ?_
  refine Wa.lcmp d_MS_canHang_11 ?_
  refine Wa.if_ne 46 d_MS_canHang_12 (by decide) (fun hb => ?_) (fun hb => ?_)
  · have hF := hF.2 hb
    refine Wa.iconst (v := 0) d_MS_canHang_46 rfl ?_
    refine Wa.istore_n (i := 3) (L' := [(3, .int 0), (0, .ref (hd 65 i0)), (1, .int x1), (2, .int x2)]) d_MS_canHang_47 rfl (by decide) rfl ?_
    refine Wa.iconst (v := 0) d_MS_canHang_48 rfl ?_
    refine Wa.istore (i := 4) (L' := [(4, .int 0), (3, .int 0), (0, .ref (hd 65 i0)), (1, .int x1), (2, .int x2)]) d_MS_canHang_49 (by decide) rfl ?_
    exact Wa.loc [2, 3, 4, 1, 0] rfl hF
  · have hF := hF.1 hb
    refine Wa.aload_n (j := 0) d_MS_canHang_15 rfl ?_
    refine Wa.iload_n (j := 2) d_MS_canHang_16 rfl ?_
    refine Wa.aload_n (j := 0) d_MS_canHang_17 rfl ?_
    refine Wx.getR 13 5 d_MS_canHang_18 f_MS_5 rfl fl_MS_15 (s_65 hS h0) (r_65_5 hS h0) ?_
    refine Wa.iload_n (j := 2) d_MS_canHang_21 rfl ?_
    have hc2 := hF.1
    have hF := hF.2
    have hlhc2 := vp_in_lt hc2
    refine Wx.iald d_MS_canHang_22 w_66 (s_66 hS h0) hc2 ?_
    refine Wx.cVi (q := E_MS) (As := [.int x2, .int (mI μ (hd 66 i0) x2.toNatClampNeg)]) 13 (d - 1) 0 0 _ d_MS_canHang_23 mok_MS_stampOf vl_MS_107 rfl rfl rfl (Nat.le_of_ble_eq_true rfl) (by omega) (Nat.zero_le _) (Nat.zero_le _) (s_65 hS h0) hF (fun y4 μ3 hS hF => ?_)
    refine Wa.aload_n (j := 0) d_MS_canHang_26 rfl ?_
    refine Wa.iload_n (j := 1) d_MS_canHang_27 rfl ?_
    refine Wa.aload_n (j := 0) d_MS_canHang_28 rfl ?_
    refine Wx.getR 13 5 d_MS_canHang_29 f_MS_5 rfl fl_MS_15 (s_65 hS h0) (r_65_5 hS h0) ?_
    refine Wa.iload_n (j := 2) d_MS_canHang_32 rfl ?_
    have hc5 := hF.1
    have hF := hF.2
    have hlhc5 := vp_in_lt hc5
    refine Wx.iald d_MS_canHang_33 w_66 (s_66 hS h0) hc5 ?_
    refine Wx.cVi (q := E_MS) (As := [.int x1, .int (mI μ3 (hd 66 i0) x2.toNatClampNeg)]) 13 (d - 1) 0 0 _ d_MS_canHang_34 mok_MS_numberOf vl_MS_111 rfl rfl rfl (Nat.le_of_ble_eq_true rfl) (by omega) (Nat.zero_le _) (Nat.zero_le _) (s_65 hS h0) hF (fun y7 μ6 hS hF => ?_)
    refine Wa.iconst (v := 1) d_MS_canHang_37 rfl ?_
    refine Wa.iadd d_MS_canHang_38 ?_
    refine Wa.icmp_ne 46 d_MS_canHang_39 (by decide) (fun hb => ?_) (fun hb => ?_)
    · have hF := hF.2 hb
      refine Wa.iconst (v := 0) d_MS_canHang_46 rfl ?_
      refine Wa.istore_n (i := 3) (L' := [(3, .int 0), (0, .ref (hd 65 i0)), (1, .int x1), (2, .int x2)]) d_MS_canHang_47 rfl (by decide) rfl ?_
      refine Wa.iconst (v := 0) d_MS_canHang_48 rfl ?_
      refine Wa.istore (i := 4) (L' := [(4, .int 0), (3, .int 0), (0, .ref (hd 65 i0)), (1, .int x1), (2, .int x2)]) d_MS_canHang_49 (by decide) rfl ?_
      exact Wa.loc [2, 3, 4, 1, 0] rfl hF
    · have hF := hF.1 hb
      refine Wa.iconst (v := 1) d_MS_canHang_42 rfl ?_
      refine Wa.goto 47 d_MS_canHang_43 (by decide) ?_
      refine Wa.istore_n (i := 3) (L' := [(3, .int 1), (0, .ref (hd 65 i0)), (1, .int x1), (2, .int x2)]) d_MS_canHang_47 rfl (by decide) rfl ?_
      refine Wa.iconst (v := 0) d_MS_canHang_48 rfl ?_
      refine Wa.istore (i := 4) (L' := [(4, .int 0), (3, .int 1), (0, .ref (hd 65 i0)), (1, .int x1), (2, .int x2)]) d_MS_canHang_49 (by decide) rfl ?_
      exact Wa.loc [2, 3, 4, 1, 0] rfl hF
theorem e_MS_canHang {d rc rs : Nat} {Q : Option Value → Mu → Prop} {μ : Mu} {i0 : Nat} {x1 : Int32} {x2 : Int32} (hk : Wx K_MS_canHang d rc rs (fun r μ' => St μ' ∧ Q r μ') 0 [(0, .ref (hd 65 i0)), (1, .int x1), (2, .int x2)] [] μ) : Cal K_MS_canHang d rc rs [.ref (hd 65 i0), .int x1, .int x2] μ Q := Cal.of (by decide +kernel) rfl rfl (Nat.le_of_ble_eq_true rfl) rfl hk
set_option maxHeartbeats 4000000 in
set_option maxRecDepth 20000 in
theorem g_MS_canHang_51 {d rc rs : Nat} {Q : Option Value → Mu → Prop} {μ : Mu} {i0 : Nat} {x1 : Int32} {x2 : Int32} {x3 : Int32} {x4 : Int32} (hD : 1 ≤ d) (h0 : i0 < 2) (hS : St μ)
    (hF : (((mI μ (hd 50 (px μ (hd 40 0) 11)) 0) ≤ x4 → ((x3 = 0 ∨ x3 = 1) ∧ Q (some (.int x3)) μ)) ∧ (¬ (mI μ (hd 50 (px μ (hd 40 0) 11)) 0) ≤ x4 → (vp_in x2 60 ∧ ((x4 = (mI μ (hd 66 i0) x2.toNatClampNeg) → Wx K_MS_canHang d rc rs Q 51 [(0, .ref (hd 65 i0)), (1, .int x1), (2, .int x2), (3, .int (x3 &&& (1 : Int32))), (4, .int (x4 + 1))] [] μ) ∧ (¬ x4 = (mI μ (hd 66 i0) x2.toNatClampNeg) → (Cal K_MS_stampOf (d - 1) 0 0 [.ref (hd 65 i0), .int x2, .int x4] μ (fun r μ3 => ∃ y4, r = some (.int y4) ∧ (Cal K_MS_numberOf (d - 1) 0 0 [.ref (hd 65 i0), .int x1, .int x4] μ3 (fun r μ5 => ∃ y6, r = some (.int y6) ∧ ((y6 < y4 → Wx K_MS_canHang d rc rs Q 51 [(0, .ref (hd 65 i0)), (1, .int x1), (2, .int x2), (3, .int (x3 &&& (0 : Int32))), (4, .int (x4 + 1))] [] μ5) ∧ (¬ y6 < y4 → Wx K_MS_canHang d rc rs Q 51 [(0, .ref (hd 65 i0)), (1, .int x1), (2, .int x2), (3, .int (x3 &&& (1 : Int32))), (4, .int (x4 + 1))] [] μ5)))))))))))) : Wx K_MS_canHang d rc rs Q 51 [(0, .ref (hd 65 i0)), (1, .int x1), (2, .int x2), (3, .int x3), (4, .int x4)] [] μ := by
  refine Wa.iload (j := 4) d_MS_canHang_51 rfl ?_
  refine Wa.aload_n (j := 0) d_MS_canHang_53 rfl ?_
  refine Wx.getR 13 23 d_MS_canHang_54 f_MS_23 rfl fl_MS_3 (s_65 hS h0) (r_65_23 hS h0) ?_
  have hp1 := St.plan hS
  refine Wx.getR 11 11 d_MS_canHang_57 f_MM_11 rfl fl_MS_100 (s_40 hS (by decide)) (hp1.1) ?_
  refine Wx.getI 12 0 d_MS_canHang_60 f_MP_0 fl_MS_114 w_50 (s_50 hp1.2) ?_
  refine Wa.icmp_ge 108 d_MS_canHang_63 (by decide) (fun hb => ?_) (fun hb => ?_)
  · have hF := hF.1 hb
    refine Wa.iload_n (j := 3) d_MS_canHang_108 rfl ?_
    exact Wx.retz d_MS_canHang_109 rfl hF.1 hF.2
  · have hF := hF.2 hb
    refine Wa.iload_n (j := 3) d_MS_canHang_66 rfl ?_
    refine Wa.iload (j := 4) d_MS_canHang_67 rfl ?_
    refine Wa.aload_n (j := 0) d_MS_canHang_69 rfl ?_
    refine Wx.getR 13 5 d_MS_canHang_70 f_MS_5 rfl fl_MS_15 (s_65 hS h0) (r_65_5 hS h0) ?_
    refine Wa.iload_n (j := 2) d_MS_canHang_73 rfl ?_
    have hc2 := hF.1
    have hF := hF.2
    have hlhc2 := vp_in_lt hc2
    refine Wx.iald d_MS_canHang_74 w_66 (s_66 hS h0) hc2 ?_
    refine Wa.icmp_eq 95 d_MS_canHang_75 (by decide) (fun hb => ?_) (fun hb => ?_)
    · have hF := hF.1 hb
      refine Wa.iconst (v := 1) d_MS_canHang_95 rfl ?_
      refine Wa.goto 100 d_MS_canHang_96 (by decide) ?_
      refine Wa.iand d_MS_canHang_100 ?_
      refine Wa.istore_n (i := 3) (L' := [(3, .int (x3 &&& (1 : Int32))), (0, .ref (hd 65 i0)), (1, .int x1), (2, .int x2), (4, .int x4)]) d_MS_canHang_101 rfl (by decide) rfl ?_
      refine Wa.iinc (i := 4) (j := 4) (v := (x4 + 1)) (L' := [(4, .int (x4 + 1)), (3, .int (x3 &&& (1 : Int32))), (0, .ref (hd 65 i0)), (1, .int x1), (2, .int x2)]) d_MS_canHang_102 rfl rfl (by decide) rfl ?_
      refine Wa.goto 51 d_MS_canHang_105 (by decide) ?_
      exact Wa.loc [2, 3, 4, 1, 0] rfl hF
    · have hF := hF.2 hb
      refine Wa.aload_n (j := 0) d_MS_canHang_78 rfl ?_
      refine Wa.iload_n (j := 2) d_MS_canHang_79 rfl ?_
      refine Wa.iload (j := 4) d_MS_canHang_80 rfl ?_
      refine Wx.cVi (q := E_MS) (As := [.int x2, .int x4]) 13 (d - 1) 0 0 _ d_MS_canHang_82 mok_MS_stampOf vl_MS_107 rfl rfl rfl (Nat.le_of_ble_eq_true rfl) (by omega) (Nat.zero_le _) (Nat.zero_le _) (s_65 hS h0) hF (fun y4 μ3 hS hF => ?_)
      refine Wa.aload_n (j := 0) d_MS_canHang_85 rfl ?_
      refine Wa.iload_n (j := 1) d_MS_canHang_86 rfl ?_
      refine Wa.iload (j := 4) d_MS_canHang_87 rfl ?_
      refine Wx.cVi (q := E_MS) (As := [.int x1, .int x4]) 13 (d - 1) 0 0 _ d_MS_canHang_89 mok_MS_numberOf vl_MS_111 rfl rfl rfl (Nat.le_of_ble_eq_true rfl) (by omega) (Nat.zero_le _) (Nat.zero_le _) (s_65 hS h0) hF (fun y6 μ5 hS hF => ?_)
      refine Wa.icmp_gt 99 d_MS_canHang_92 (by decide) (fun hb => ?_) (fun hb => ?_)
      · have hF := hF.1 hb
        refine Wa.iconst (v := 0) d_MS_canHang_99 rfl ?_
        refine Wa.iand d_MS_canHang_100 ?_
        refine Wa.istore_n (i := 3) (L' := [(3, .int (x3 &&& (0 : Int32))), (0, .ref (hd 65 i0)), (1, .int x1), (2, .int x2), (4, .int x4)]) d_MS_canHang_101 rfl (by decide) rfl ?_
        refine Wa.iinc (i := 4) (j := 4) (v := (x4 + 1)) (L' := [(4, .int (x4 + 1)), (3, .int (x3 &&& (0 : Int32))), (0, .ref (hd 65 i0)), (1, .int x1), (2, .int x2)]) d_MS_canHang_102 rfl rfl (by decide) rfl ?_
        refine Wa.goto 51 d_MS_canHang_105 (by decide) ?_
        exact Wa.loc [2, 3, 4, 1, 0] rfl hF
      · have hF := hF.2 hb
        refine Wa.iconst (v := 1) d_MS_canHang_95 rfl ?_
        refine Wa.goto 100 d_MS_canHang_96 (by decide) ?_
        refine Wa.iand d_MS_canHang_100 ?_
        refine Wa.istore_n (i := 3) (L' := [(3, .int (x3 &&& (1 : Int32))), (0, .ref (hd 65 i0)), (1, .int x1), (2, .int x2), (4, .int x4)]) d_MS_canHang_101 rfl (by decide) rfl ?_
        refine Wa.iinc (i := 4) (j := 4) (v := (x4 + 1)) (L' := [(4, .int (x4 + 1)), (3, .int (x3 &&& (1 : Int32))), (0, .ref (hd 65 i0)), (1, .int x1), (2, .int x2)]) d_MS_canHang_102 rfl rfl (by decide) rfl ?_
        refine Wa.goto 51 d_MS_canHang_105 (by decide) ?_
        exact Wa.loc [2, 3, 4, 1, 0] rfl hF
set_option maxHeartbeats 4000000 in
set_option maxRecDepth 20000 in
theorem g_MS_next_0 {d rc rs : Nat} {Q : Option Value → Mu → Prop} {μ : Mu} {i0 : Nat} {x1 : Int32} (hD : 1 ≤ d) (h0 : i0 < 2) (hS : St μ)
    (hF : Wx K_MS_next d rc rs Q 2 [(0, .ref (hd 65 i0)), (1, .int x1), (2, .int 0)] [] μ) : Wx K_MS_next d rc rs Q 0 [(0, .ref (hd 65 i0)), (1, .int x1)] [] μ := by
  refine Wa.iconst (v := 0) d_MS_next_0 rfl ?_
  refine Wa.istore_n (i := 2) (L' := [(2, .int 0), (0, .ref (hd 65 i0)), (1, .int x1)]) d_MS_next_1 rfl (by decide) rfl ?_
  exact Wa.loc [1, 2, 0] rfl hF
theorem e_MS_next {d rc rs : Nat} {Q : Option Value → Mu → Prop} {μ : Mu} {i0 : Nat} {x1 : Int32} (hk : Wx K_MS_next d rc rs (fun r μ' => St μ' ∧ Q r μ') 0 [(0, .ref (hd 65 i0)), (1, .int x1)] [] μ) : Cal K_MS_next d rc rs [.ref (hd 65 i0), .int x1] μ Q := Cal.of (by decide +kernel) rfl rfl (Nat.le_of_ble_eq_true rfl) rfl hk
set_option maxHeartbeats 4000000 in
set_option maxRecDepth 20000 in
theorem g_MS_next_2 {d rc rs : Nat} {Q : Option Value → Mu → Prop} {μ : Mu} {i0 : Nat} {x1 : Int32} {x2 : Int32} (hD : 1 ≤ d) (h0 : i0 < 2) (hS : St μ)
    (hF : (((mI μ (hd 65 i0) 1) ≤ x2 → Q (some (.int x2)) μ) ∧ (¬ (mI μ (hd 65 i0) 1) ≤ x2 → (Cal K_MS_canHang (d - 1) 0 0 [.ref (hd 65 i0), .int x1, .int x2] μ (fun r μ1 => ∃ y2, r = some (.int y2) ∧ ((y2 = 0 → Wx K_MS_next d rc rs Q 2 [(0, .ref (hd 65 i0)), (1, .int x1), (2, .int (x2 + 1))] [] μ1) ∧ (¬ y2 = 0 → Q (some (.int x2)) μ1))))))) : Wx K_MS_next d rc rs Q 2 [(0, .ref (hd 65 i0)), (1, .int x1), (2, .int x2)] [] μ := by
  refine Wa.iload_n (j := 2) d_MS_next_2 rfl ?_
  refine Wa.aload_n (j := 0) d_MS_next_3 rfl ?_
  refine Wx.getI 13 1 d_MS_next_4 f_MS_1 fl_MS_78 w_65 (s_65 hS h0) ?_
  refine Wa.icmp_ge 25 d_MS_next_7 (by decide) (fun hb => ?_) (fun hb => ?_)
  · have hF := hF.1 hb
    refine Wa.iload_n (j := 2) d_MS_next_25 rfl ?_
    exact Wx.reti d_MS_next_26 rfl hF
  · have hF := hF.2 hb
    refine Wa.aload_n (j := 0) d_MS_next_10 rfl ?_
    refine Wa.iload_n (j := 1) d_MS_next_11 rfl ?_
    refine Wa.iload_n (j := 2) d_MS_next_12 rfl ?_
    refine Wx.cVi (q := E_MS) (As := [.int x1, .int x2]) 13 (d - 1) 0 0 _ d_MS_next_13 mok_MS_canHang vl_MS_163 rfl rfl rfl (Nat.le_of_ble_eq_true rfl) (by omega) (Nat.zero_le _) (Nat.zero_le _) (s_65 hS h0) hF (fun y2 μ1 hS hF => ?_)
    refine Wa.if_ne 25 d_MS_next_16 (by decide) (fun hb => ?_) (fun hb => ?_)
    · have hF := hF.2 hb
      refine Wa.iload_n (j := 2) d_MS_next_25 rfl ?_
      exact Wx.reti d_MS_next_26 rfl hF
    · have hF := hF.1 hb
      refine Wa.iinc (i := 2) (j := 2) (v := (x2 + 1)) (L' := [(2, .int (x2 + 1)), (0, .ref (hd 65 i0)), (1, .int x1)]) d_MS_next_19 rfl rfl (by decide) rfl ?_
      refine Wa.goto 2 d_MS_next_22 (by decide) ?_
      exact Wa.loc [1, 2, 0] rfl hF
set_option maxHeartbeats 4000000 in
set_option maxRecDepth 20000 in
theorem g_MS_hang_0 {d rc rs : Nat} {Q : Option Value → Mu → Prop} {μ : Mu} {i0 : Nat} {x1 : Int32} {x2 : Int32} (hD : 1 ≤ d) (h0 : i0 < 2) (hS : St μ)
    (hF : (vp_in x2 60 ∧ (vp_in (((5 : Int32) * x1) + (mI μ (hd 66 i0) x2.toNatClampNeg)) 25 ∧ (vp_in (((5 : Int32) * x1) + (mI μ (hd 66 i0) x2.toNatClampNeg)) 25 ∧ (vp_in x1 5 ∧ (vp_in x1 5 ∧ (∀ μ6 : Mu, μ6 = (setL (setI μ (hd 73 i0) (((5 : Int32) * x1) + (mI μ (hd 66 i0) x2.toNatClampNeg)).toNatClampNeg ((mI μ (hd 73 i0) (((5 : Int32) * x1) + (mI μ (hd 66 i0) x2.toNatClampNeg)).toNatClampNeg) + (1 : Int32))) (hd 75 i0) x1.toNatClampNeg ((mL (setI μ (hd 73 i0) (((5 : Int32) * x1) + (mI μ (hd 66 i0) x2.toNatClampNeg)).toNatClampNeg ((mI μ (hd 73 i0) (((5 : Int32) * x1) + (mI μ (hd 66 i0) x2.toNatClampNeg)).toNatClampNeg) + (1 : Int32))) (hd 75 i0) x1.toNatClampNeg) &&& ((1 <<< (x2.toInt64 &&& 63)) ^^^ (-1)))) → Wx K_MS_hang d rc rs Q 37 [(0, .ref (hd 65 i0)), (1, .int x1), (2, .int x2), (3, .int 0)] [] μ6))))))) : Wx K_MS_hang d rc rs Q 0 [(0, .ref (hd 65 i0)), (1, .int x1), (2, .int x2)] [] μ := by
  refine Wa.aload_n (j := 0) d_MS_hang_0 rfl ?_
  refine Wx.getR 13 12 d_MS_hang_1 f_MS_12 rfl fl_MS_37 (s_65 hS h0) (r_65_12 hS h0) ?_
  refine Wa.iconst (v := 5) d_MS_hang_4 rfl ?_
  refine Wa.iload_n (j := 1) d_MS_hang_5 rfl ?_
  refine Wa.imul d_MS_hang_6 ?_
  refine Wa.aload_n (j := 0) d_MS_hang_7 rfl ?_
  refine Wx.getR 13 5 d_MS_hang_8 f_MS_5 rfl fl_MS_15 (s_65 hS h0) (r_65_5 hS h0) ?_
  refine Wa.iload_n (j := 2) d_MS_hang_11 rfl ?_
  have hc1 := hF.1
  have hF := hF.2
  have hlhc1 := vp_in_lt hc1
  refine Wx.iald d_MS_hang_12 w_66 (s_66 hS h0) hc1 ?_
  refine Wa.iadd d_MS_hang_13 ?_
  refine Wa.dup2 d_MS_hang_14 rfl rfl ?_
  have hc2 := hF.1
  have hF := hF.2
  have hlhc2 := vp_in_lt hc2
  refine Wx.iald d_MS_hang_15 w_73 (s_73 hS h0) hc2 ?_
  refine Wa.iconst (v := 1) d_MS_hang_16 rfl ?_
  refine Wa.iadd d_MS_hang_17 ?_
  have hc3 := hF.1
  have hF := hF.2
  have hlhc3 := vp_in_lt hc3
  refine Wa.iast d_MS_hang_18 w_73 (s_73 hS h0) hc3 ?_
  refine Wa.aload_n (j := 0) d_MS_hang_19 rfl ?_
  refine Wx.getR 13 14 d_MS_hang_20 f_MS_14 rfl fl_MS_43 (s_65 hS h0) (r_65_14 hS h0) ?_
  refine Wa.iload_n (j := 1) d_MS_hang_23 rfl ?_
  refine Wa.dup2 d_MS_hang_24 rfl rfl ?_
  have hc4 := hF.1
  have hF := hF.2
  have hlhc4 := vp_in_lt hc4
  refine Wa.lald d_MS_hang_25 (s_75 hS h0) hc4 ?_
  refine Wa.lconst (v := 1) d_MS_hang_26 rfl ?_
  refine Wa.iload_n (j := 2) d_MS_hang_27 rfl ?_
  refine Wa.lshl d_MS_hang_28 ?_
  refine Wa.ldc2 d_MS_hang_29 k_MS_166 ?_
  refine Wa.lxor d_MS_hang_32 ?_
  refine Wa.land d_MS_hang_33 ?_
  have hc5 := hF.1
  have hF := hF.2
  have hlhc5 := vp_in_lt hc5
  refine Wa.last d_MS_hang_34 w_75 (s_75 hS h0) hc5 ?_
  suffices hh : ∀ μ6 : Mu, μ6 = (setL (setI μ (hd 73 i0) (((5 : Int32) * x1) + (mI μ (hd 66 i0) x2.toNatClampNeg)).toNatClampNeg ((mI μ (hd 73 i0) (((5 : Int32) * x1) + (mI μ (hd 66 i0) x2.toNatClampNeg)).toNatClampNeg) + (1 : Int32))) (hd 75 i0) x1.toNatClampNeg ((mL (setI μ (hd 73 i0) (((5 : Int32) * x1) + (mI μ (hd 66 i0) x2.toNatClampNeg)).toNatClampNeg ((mI μ (hd 73 i0) (((5 : Int32) * x1) + (mI μ (hd 66 i0) x2.toNatClampNeg)).toNatClampNeg) + (1 : Int32))) (hd 75 i0) x1.toNatClampNeg) &&& ((1 <<< (x2.toInt64 &&& 63)) ^^^ (-1)))) → Wx K_MS_hang d rc rs Q 35 [(0, .ref (hd 65 i0)), (1, .int x1), (2, .int x2)] [] μ6 from hh _ rfl
  intro μ6 em
  have hF := hF μ6 em
  have hS : St μ6 := by rw [em]; exact hS
  refine Wa.iconst (v := 0) d_MS_hang_35 rfl ?_
  refine Wa.istore_n (i := 3) (L' := [(3, .int 0), (0, .ref (hd 65 i0)), (1, .int x1), (2, .int x2)]) d_MS_hang_36 rfl (by decide) rfl ?_
  exact Wa.loc [1, 2, 3, 0] rfl hF
theorem e_MS_hang {d rc rs : Nat} {Q : Option Value → Mu → Prop} {μ : Mu} {i0 : Nat} {x1 : Int32} {x2 : Int32} (hk : Wx K_MS_hang d rc rs (fun r μ' => St μ' ∧ Q r μ') 0 [(0, .ref (hd 65 i0)), (1, .int x1), (2, .int x2)] [] μ) : Cal K_MS_hang d rc rs [.ref (hd 65 i0), .int x1, .int x2] μ Q := Cal.of (by decide +kernel) rfl rfl (Nat.le_of_ble_eq_true rfl) rfl hk
set_option maxHeartbeats 4000000 in
set_option maxRecDepth 20000 in
theorem g_MS_hang_37 {d rc rs : Nat} {Q : Option Value → Mu → Prop} {μ : Mu} {i0 : Nat} {x1 : Int32} {x2 : Int32} {x3 : Int32} (hD : 1 ≤ d) (h0 : i0 < 2) (hS : St μ)
    (hF : ((5 ≤ x3 → (vp_in x2 60 ∧ (vp_in x2 60 ∧ (Cal K_MS_spot (d - 1) 0 0 [.ref (hd 65 i0), .int x1, .int (mI μ (hd 67 i0) x2.toNatClampNeg), .int (mI μ (hd 66 i0) x2.toNatClampNeg)] μ (fun r μ3 => ∃ y4, r = some (.int y4) ∧ (vp_in y4 150 ∧ Q none (setI (setI μ3 (hd 74 i0) y4.toNatClampNeg x2) (hd 65 i0) 2 ((mI (setI μ3 (hd 74 i0) y4.toNatClampNeg x2) (hd 65 i0) 2) + (1 : Int32))))))))) ∧ (¬ 5 ≤ x3 → (vp_in x2 60 ∧ (Cal K_MS_spot (d - 1) 0 0 [.ref (hd 65 i0), .int x1, .int (mI μ (hd 67 i0) x2.toNatClampNeg), .int x3] μ (fun r μ7 => ∃ y8, r = some (.int y8) ∧ (vp_in y8 150 ∧ (((mI μ7 (hd 74 i0) y8.toNatClampNeg) = (-1) → Wx K_MS_hang d rc rs Q 37 [(0, .ref (hd 65 i0)), (1, .int x1), (2, .int x2), (3, .int (x3 + 1))] [] μ7) ∧ (¬ (mI μ7 (hd 74 i0) y8.toNatClampNeg) = (-1) → (Cal K_MS_isAhead (d - 1) 0 0 [.ref (hd 65 i0), .int (mI μ7 (hd 74 i0) y8.toNatClampNeg), .int x2] μ7 (fun r μ10 => ∃ y11, r = some (.int y11) ∧ ((y11 = 0 → Wx K_MS_hang d rc rs Q 37 [(0, .ref (hd 65 i0)), (1, .int x1), (2, .int x2), (3, .int (x3 + 1))] [] μ10) ∧ (¬ y11 = 0 → (vp_in x2 60 ∧ (Cal K_MS_spot (d - 1) 0 0 [.ref (hd 65 i0), .int x1, .int (mI μ10 (hd 67 i0) x2.toNatClampNeg), .int x3] μ10 (fun r μ13 => ∃ y14, r = some (.int y14) ∧ (vp_in y14 150 ∧ Wx K_MS_hang d rc rs Q 37 [(0, .ref (hd 65 i0)), (1, .int x1), (2, .int x2), (3, .int (x3 + 1))] [] (setI μ13 (hd 74 i0) y14.toNatClampNeg (-1))))))))))))))))))) : Wx K_MS_hang d rc rs Q 37 [(0, .ref (hd 65 i0)), (1, .int x1), (2, .int x2), (3, .int x3)] [] μ := by
  refine Wa.iload_n (j := 3) d_MS_hang_37 rfl ?_
  refine Wa.iconst (v := 5) d_MS_hang_38 rfl ?_
  refine Wa.icmp_ge 101 d_MS_hang_39 (by decide) (fun hb => ?_) (fun hb => ?_)
  · have hF := hF.1 hb
    refine Wa.aload_n (j := 0) d_MS_hang_101 rfl ?_
    refine Wx.getR 13 13 d_MS_hang_102 f_MS_13 rfl fl_MS_40 (s_65 hS h0) (r_65_13 hS h0) ?_
    refine Wa.aload_n (j := 0) d_MS_hang_105 rfl ?_
    refine Wa.iload_n (j := 1) d_MS_hang_106 rfl ?_
    refine Wa.aload_n (j := 0) d_MS_hang_107 rfl ?_
    refine Wx.getR 13 6 d_MS_hang_108 f_MS_6 rfl fl_MS_19 (s_65 hS h0) (r_65_6 hS h0) ?_
    refine Wa.iload_n (j := 2) d_MS_hang_111 rfl ?_
    have hc1 := hF.1
    have hF := hF.2
    have hlhc1 := vp_in_lt hc1
    refine Wx.iald d_MS_hang_112 w_67 (s_67 hS h0) hc1 ?_
    refine Wa.aload_n (j := 0) d_MS_hang_113 rfl ?_
    refine Wx.getR 13 5 d_MS_hang_114 f_MS_5 rfl fl_MS_15 (s_65 hS h0) (r_65_5 hS h0) ?_
    refine Wa.iload_n (j := 2) d_MS_hang_117 rfl ?_
    have hc2 := hF.1
    have hF := hF.2
    have hlhc2 := vp_in_lt hc2
    refine Wx.iald d_MS_hang_118 w_66 (s_66 hS h0) hc2 ?_
    refine Wx.cVi (q := E_MS) (As := [.int x1, .int (mI μ (hd 67 i0) x2.toNatClampNeg), .int (mI μ (hd 66 i0) x2.toNatClampNeg)]) 13 (d - 1) 0 0 _ d_MS_hang_119 mok_MS_spot vl_MS_117 rfl rfl rfl (Nat.le_of_ble_eq_true rfl) (by omega) (Nat.zero_le _) (Nat.zero_le _) (s_65 hS h0) hF (fun y4 μ3 hS hF => ?_)
    refine Wa.iload_n (j := 2) d_MS_hang_122 rfl ?_
    have hc5 := hF.1
    have hF := hF.2
    have hlhc5 := vp_in_lt hc5
    refine Wa.iast d_MS_hang_123 w_74 (s_74 hS h0) hc5 ?_
    refine Wa.aload_n (j := 0) d_MS_hang_124 rfl ?_
    refine Wa.dup d_MS_hang_125 rfl ?_
    refine Wx.getI 13 2 d_MS_hang_126 f_MS_2 fl_MS_81 w_65 (s_65 hS h0) ?_
    refine Wa.iconst (v := 1) d_MS_hang_129 rfl ?_
    refine Wa.iadd d_MS_hang_130 ?_
    refine Wx.putI 13 2 d_MS_hang_131 f_MS_2 ok_MS fl_MS_81 (Or.inl rfl) w_65 (s_65 hS h0) ?_
    exact Wx.retv d_MS_hang_134 rfl hF
  · have hF := hF.2 hb
    refine Wa.aload_n (j := 0) d_MS_hang_42 rfl ?_
    refine Wx.getR 13 13 d_MS_hang_43 f_MS_13 rfl fl_MS_40 (s_65 hS h0) (r_65_13 hS h0) ?_
    refine Wa.aload_n (j := 0) d_MS_hang_46 rfl ?_
    refine Wa.iload_n (j := 1) d_MS_hang_47 rfl ?_
    refine Wa.aload_n (j := 0) d_MS_hang_48 rfl ?_
    refine Wx.getR 13 6 d_MS_hang_49 f_MS_6 rfl fl_MS_19 (s_65 hS h0) (r_65_6 hS h0) ?_
    refine Wa.iload_n (j := 2) d_MS_hang_52 rfl ?_
    have hc6 := hF.1
    have hF := hF.2
    have hlhc6 := vp_in_lt hc6
    refine Wx.iald d_MS_hang_53 w_67 (s_67 hS h0) hc6 ?_
    refine Wa.iload_n (j := 3) d_MS_hang_54 rfl ?_
    refine Wx.cVi (q := E_MS) (As := [.int x1, .int (mI μ (hd 67 i0) x2.toNatClampNeg), .int x3]) 13 (d - 1) 0 0 _ d_MS_hang_55 mok_MS_spot vl_MS_117 rfl rfl rfl (Nat.le_of_ble_eq_true rfl) (by omega) (Nat.zero_le _) (Nat.zero_le _) (s_65 hS h0) hF (fun y8 μ7 hS hF => ?_)
    have hc9 := hF.1
    have hF := hF.2
    have hlhc9 := vp_in_lt hc9
    refine Wx.iald d_MS_hang_58 w_74 (s_74 hS h0) hc9 ?_
    refine Wa.istore (i := 4) (L' := [(4, .int (mI μ7 (hd 74 i0) y8.toNatClampNeg)), (0, .ref (hd 65 i0)), (1, .int x1), (2, .int x2), (3, .int x3)]) d_MS_hang_59 (by decide) rfl ?_
    refine Wa.iload (j := 0) d_MS_hang_61 rfl ?_
    refine Wa.iconst (v := (-1)) d_MS_hang_63 rfl ?_
    refine Wa.icmp_eq 95 d_MS_hang_64 (by decide) (fun hb => ?_) (fun hb => ?_)
    · have hF := hF.1 hb
      refine Wa.iinc (i := 3) (j := 4) (v := (x3 + 1)) (L' := [(3, .int (x3 + 1)), (4, .int (mI μ7 (hd 74 i0) y8.toNatClampNeg)), (0, .ref (hd 65 i0)), (1, .int x1), (2, .int x2)]) d_MS_hang_95 rfl rfl (by decide) rfl ?_
      refine Wa.goto 37 d_MS_hang_98 (by decide) ?_
      exact Wa.loc [2, 3, 4, 0] rfl hF
    · have hF := hF.2 hb
      refine Wa.aload_n (j := 1) d_MS_hang_67 rfl ?_
      refine Wa.iload (j := 0) d_MS_hang_68 rfl ?_
      refine Wa.iload_n (j := 3) d_MS_hang_70 rfl ?_
      refine Wx.cVi (q := E_MS) (As := [.int (mI μ7 (hd 74 i0) y8.toNatClampNeg), .int x2]) 13 (d - 1) 0 0 _ d_MS_hang_71 mok_MS_isAhead vl_MS_168 rfl rfl rfl (Nat.le_of_ble_eq_true rfl) (by omega) (Nat.zero_le _) (Nat.zero_le _) (s_65 hS h0) hF (fun y11 μ10 hS hF => ?_)
      refine Wa.if_eq 95 d_MS_hang_74 (by decide) (fun hb => ?_) (fun hb => ?_)
      · have hF := hF.1 hb
        refine Wa.iinc (i := 3) (j := 4) (v := (x3 + 1)) (L' := [(3, .int (x3 + 1)), (4, .int (mI μ7 (hd 74 i0) y8.toNatClampNeg)), (0, .ref (hd 65 i0)), (1, .int x1), (2, .int x2)]) d_MS_hang_95 rfl rfl (by decide) rfl ?_
        refine Wa.goto 37 d_MS_hang_98 (by decide) ?_
        exact Wa.loc [2, 3, 4, 0] rfl hF
      · have hF := hF.2 hb
        refine Wa.aload_n (j := 1) d_MS_hang_77 rfl ?_
        refine Wx.getR 13 13 d_MS_hang_78 f_MS_13 rfl fl_MS_40 (s_65 hS h0) (r_65_13 hS h0) ?_
        refine Wa.aload_n (j := 1) d_MS_hang_81 rfl ?_
        refine Wa.iload_n (j := 2) d_MS_hang_82 rfl ?_
        refine Wa.aload_n (j := 1) d_MS_hang_83 rfl ?_
        refine Wx.getR 13 6 d_MS_hang_84 f_MS_6 rfl fl_MS_19 (s_65 hS h0) (r_65_6 hS h0) ?_
        refine Wa.iload_n (j := 3) d_MS_hang_87 rfl ?_
        have hc12 := hF.1
        have hF := hF.2
        have hlhc12 := vp_in_lt hc12
        refine Wx.iald d_MS_hang_88 w_67 (s_67 hS h0) hc12 ?_
        refine Wa.iload_n (j := 4) d_MS_hang_89 rfl ?_
        refine Wx.cVi (q := E_MS) (As := [.int x1, .int (mI μ10 (hd 67 i0) x2.toNatClampNeg), .int x3]) 13 (d - 1) 0 0 _ d_MS_hang_90 mok_MS_spot vl_MS_117 rfl rfl rfl (Nat.le_of_ble_eq_true rfl) (by omega) (Nat.zero_le _) (Nat.zero_le _) (s_65 hS h0) hF (fun y14 μ13 hS hF => ?_)
        refine Wa.iconst (v := (-1)) d_MS_hang_93 rfl ?_
        have hc15 := hF.1
        have hF := hF.2
        have hlhc15 := vp_in_lt hc15
        refine Wa.iast d_MS_hang_94 w_74 (s_74 hS h0) hc15 ?_
        refine Wa.iinc (i := 3) (j := 4) (v := (x3 + 1)) (L' := [(3, .int (x3 + 1)), (4, .int (mI μ7 (hd 74 i0) y8.toNatClampNeg)), (0, .ref (hd 65 i0)), (1, .int x1), (2, .int x2)]) d_MS_hang_95 rfl rfl (by decide) rfl ?_
        refine Wa.goto 37 d_MS_hang_98 (by decide) ?_
        exact Wa.loc [2, 3, 4, 0] rfl hF
set_option maxHeartbeats 4000000 in
set_option maxRecDepth 20000 in
theorem g_MS_order_0 {d rc rs : Nat} {Q : Option Value → Mu → Prop} {μ : Mu} {i0 : Nat} {x1 : Int32} (hD : 1 ≤ d) (h0 : i0 < 2) (hS : St μ)
    (hF : (vp_in x1 20 ∧ (vp_in x1 20 ∧ (vp_in x1 20 ∧ (((mI μ (hd 54 (px μ (hd 40 0) 11)) x1.toNatClampNeg) = 9 → (Cal K_MS_send (d - 1) 0 0 [.ref (hd 65 i0), .int (mI μ (hd 55 (px μ (hd 40 0) 11)) x1.toNatClampNeg)] μ (fun r μ51 => ∃ y52, r = some (.int y52) ∧ ((y52 ≤ 0 → Q (some (.int 0)) μ51) ∧ (¬ y52 ≤ 0 → Q (some (.int 1)) μ51))))) ∧ (¬ (mI μ (hd 54 (px μ (hd 40 0) 11)) x1.toNatClampNeg) = 9 → (((mI μ (hd 65 i0) 1) = 60 → Q (some (.int 0)) μ) ∧ (¬ (mI μ (hd 65 i0) 1) = 60 → (vp_in x1 20 ∧ (((mI μ (hd 54 (px μ (hd 40 0) 11)) x1.toNatClampNeg) = 8 → (Cal K_MS_shows (d - 1) 0 0 [.ref (hd 65 i0), .int (mI μ (hd 55 (px μ (hd 40 0) 11)) x1.toNatClampNeg), .int (mI μ (hd 56 (px μ (hd 40 0) 11)) x1.toNatClampNeg)] μ (fun r μ33 => ∃ y34, r = some (.int y34) ∧ (vp_in x1 20 ∧ (((mI μ33 (hd 54 (px μ33 (hd 40 0) 11)) x1.toNatClampNeg) = 8 → ((y34 ≤ 1 → Q (some (.int 0)) μ33) ∧ (¬ y34 ≤ 1 → (vp_in x1 20 ∧ (Cal K_MS_merge (d - 1) 0 0 [.ref (hd 65 i0), .int (mI μ (hd 55 (px μ (hd 40 0) 11)) x1.toNatClampNeg), .int (mI μ (hd 56 (px μ (hd 40 0) 11)) x1.toNatClampNeg), .int (mI μ33 (hd 57 (px μ33 (hd 40 0) 11)) x1.toNatClampNeg)] μ33 (fun r μ49 => ∃ y50, r = some (.int y50) ∧ ((y50 = (-1) → Q (some (.int 0)) μ49) ∧ (¬ y50 = (-1) → Q (some (.int 1)) μ49)))))))) ∧ (¬ (mI μ33 (hd 54 (px μ33 (hd 40 0) 11)) x1.toNatClampNeg) = 8 → (vp_in x1 20 ∧ (((mI μ33 (hd 54 (px μ33 (hd 40 0) 11)) x1.toNatClampNeg) = 6 → (Cal K_MS_write (d - 1) 0 0 [.ref (hd 65 i0), .int (mI μ (hd 55 (px μ (hd 40 0) 11)) x1.toNatClampNeg), .int (mI μ (hd 56 (px μ (hd 40 0) 11)) x1.toNatClampNeg), .int (imax 0 (imin 9999 0))] μ33 (fun r μ45 => ∃ y46, r = some (.int y46) ∧ ((y46 = (-1) → Q (some (.int 0)) μ45) ∧ (¬ y46 = (-1) → Q (some (.int 1)) μ45))))) ∧ (¬ (mI μ33 (hd 54 (px μ33 (hd 40 0) 11)) x1.toNatClampNeg) = 6 → (Cal K_MM_isIn (d - 1) 0 0 [.int 0, .int 0, .int 15] μ33 (fun r μ39 => ∃ y40, r = some (.int y40) ∧ ((y40 = 0 → Q (some (.int 0)) μ39) ∧ (¬ y40 = 0 → ((y34 = 1 → (Cal K_MS_marksOf (d - 1) 0 0 [.ref (hd 65 i0), .int (mI μ (hd 55 (px μ (hd 40 0) 11)) x1.toNatClampNeg), .int (mI μ (hd 56 (px μ (hd 40 0) 11)) x1.toNatClampNeg)] μ39 (fun r μ41 => ∃ y42, r = some (.int y42) ∧ ((((y42 >>> ((0 : Int32) &&& 31)) &&& (1 : Int32)) = 0 → (Cal K_MS_note (d - 1) 0 0 [.ref (hd 65 i0), .int (mI μ (hd 55 (px μ (hd 40 0) 11)) x1.toNatClampNeg), .int (mI μ (hd 56 (px μ (hd 40 0) 11)) x1.toNatClampNeg), .int 0] μ41 (fun r μ43 => ∃ y44, r = some (.int y44) ∧ ((y44 = (-1) → Q (some (.int 0)) μ43) ∧ (¬ y44 = (-1) → Q (some (.int 1)) μ43))))) ∧ (¬ ((y42 >>> ((0 : Int32) &&& 31)) &&& (1 : Int32)) = 0 → Q (some (.int 0)) μ41))))) ∧ (¬ y34 = 1 → Q (some (.int 0)) μ39))))))))))))))) ∧ (¬ (mI μ (hd 54 (px μ (hd 40 0) 11)) x1.toNatClampNeg) = 8 → (vp_in x1 21 ∧ (vp_in x1 21 ∧ (Cal K_MS_carryOut (d - 1) 0 0 [.ref (hd 65 i0), .int (mI μ (hd 58 (px μ (hd 40 0) 11)) x1.toNatClampNeg), .int (mI μ (hd 59 (px μ (hd 40 0) 11)) x1.toNatClampNeg)] μ (fun r μ13 => ∃ y14, r = some (.int y14) ∧ (Cal K_MS_shows (d - 1) 0 0 [.ref (hd 65 i0), .int (mI μ (hd 55 (px μ (hd 40 0) 11)) x1.toNatClampNeg), .int (mI μ (hd 56 (px μ (hd 40 0) 11)) x1.toNatClampNeg)] μ13 (fun r μ15 => ∃ y16, r = some (.int y16) ∧ (vp_in x1 20 ∧ (((mI μ15 (hd 54 (px μ15 (hd 40 0) 11)) x1.toNatClampNeg) = 8 → ((y16 ≤ 1 → Q (some (.int 0)) μ15) ∧ (¬ y16 ≤ 1 → (vp_in x1 20 ∧ (Cal K_MS_merge (d - 1) 0 0 [.ref (hd 65 i0), .int (mI μ (hd 55 (px μ (hd 40 0) 11)) x1.toNatClampNeg), .int (mI μ (hd 56 (px μ (hd 40 0) 11)) x1.toNatClampNeg), .int (mI μ15 (hd 57 (px μ15 (hd 40 0) 11)) x1.toNatClampNeg)] μ15 (fun r μ31 => ∃ y32, r = some (.int y32) ∧ ((y32 = (-1) → Q (some (.int 0)) μ31) ∧ (¬ y32 = (-1) → Q (some (.int 1)) μ31)))))))) ∧ (¬ (mI μ15 (hd 54 (px μ15 (hd 40 0) 11)) x1.toNatClampNeg) = 8 → (vp_in x1 20 ∧ (((mI μ15 (hd 54 (px μ15 (hd 40 0) 11)) x1.toNatClampNeg) = 6 → (Cal K_MS_write (d - 1) 0 0 [.ref (hd 65 i0), .int (mI μ (hd 55 (px μ (hd 40 0) 11)) x1.toNatClampNeg), .int (mI μ (hd 56 (px μ (hd 40 0) 11)) x1.toNatClampNeg), .int (imax 0 (imin 9999 y14))] μ15 (fun r μ27 => ∃ y28, r = some (.int y28) ∧ ((y28 = (-1) → Q (some (.int 0)) μ27) ∧ (¬ y28 = (-1) → Q (some (.int 1)) μ27))))) ∧ (¬ (mI μ15 (hd 54 (px μ15 (hd 40 0) 11)) x1.toNatClampNeg) = 6 → (Cal K_MM_isIn (d - 1) 0 0 [.int y14, .int 0, .int 15] μ15 (fun r μ21 => ∃ y22, r = some (.int y22) ∧ ((y22 = 0 → Q (some (.int 0)) μ21) ∧ (¬ y22 = 0 → ((y16 = 1 → (Cal K_MS_marksOf (d - 1) 0 0 [.ref (hd 65 i0), .int (mI μ (hd 55 (px μ (hd 40 0) 11)) x1.toNatClampNeg), .int (mI μ (hd 56 (px μ (hd 40 0) 11)) x1.toNatClampNeg)] μ21 (fun r μ23 => ∃ y24, r = some (.int y24) ∧ ((((y24 >>> (y14 &&& 31)) &&& (1 : Int32)) = 0 → (Cal K_MS_note (d - 1) 0 0 [.ref (hd 65 i0), .int (mI μ (hd 55 (px μ (hd 40 0) 11)) x1.toNatClampNeg), .int (mI μ (hd 56 (px μ (hd 40 0) 11)) x1.toNatClampNeg), .int y14] μ23 (fun r μ25 => ∃ y26, r = some (.int y26) ∧ ((y26 = (-1) → Q (some (.int 0)) μ25) ∧ (¬ y26 = (-1) → Q (some (.int 1)) μ25))))) ∧ (¬ ((y24 >>> (y14 &&& 31)) &&& (1 : Int32)) = 0 → Q (some (.int 0)) μ23))))) ∧ (¬ y16 = 1 → Q (some (.int 0)) μ21))))))))))))))))))))))))))))) : Wx K_MS_order d rc rs Q 0 [(0, .ref (hd 65 i0)), (1, .int x1)] [] μ := by
  refine Wa.aload_n (j := 0) d_MS_order_0 rfl ?_
  refine Wx.getR 13 23 d_MS_order_1 f_MS_23 rfl fl_MS_3 (s_65 hS h0) (r_65_23 hS h0) ?_
  have hp1 := St.plan hS
  refine Wx.getR 11 11 d_MS_order_4 f_MM_11 rfl fl_MS_100 (s_40 hS (by decide)) (hp1.1) ?_
  refine Wx.getR 12 9 d_MS_order_7 f_MP_9 rfl fl_MS_171 (s_50 hp1.2) (r_50_9 hp1.2) ?_
  refine Wa.iload_n (j := 1) d_MS_order_10 rfl ?_
  have hc2 := hF.1
  have hF := hF.2
  have hlhc2 := vp_in_lt hc2
  refine Wx.iald d_MS_order_11 w_55 (s_55 hp1.2) hc2 ?_
  refine Wa.istore_n (i := 2) (L' := [(2, .int (mI μ (hd 55 (px μ (hd 40 0) 11)) x1.toNatClampNeg)), (0, .ref (hd 65 i0)), (1, .int x1)]) d_MS_order_12 rfl (by decide) rfl ?_
  refine Wa.aload_n (j := 1) d_MS_order_13 rfl ?_
  refine Wx.getR 13 23 d_MS_order_14 f_MS_23 rfl fl_MS_3 (s_65 hS h0) (r_65_23 hS h0) ?_
  have hp3 := St.plan hS
  refine Wx.getR 11 11 d_MS_order_17 f_MM_11 rfl fl_MS_100 (s_40 hS (by decide)) (hp3.1) ?_
  refine Wx.getR 12 10 d_MS_order_20 f_MP_10 rfl fl_MS_174 (s_50 hp3.2) (r_50_10 hp3.2) ?_
  refine Wa.iload_n (j := 2) d_MS_order_23 rfl ?_
  have hc4 := hF.1
  have hF := hF.2
  have hlhc4 := vp_in_lt hc4
  refine Wx.iald d_MS_order_24 w_56 (s_56 hp3.2) hc4 ?_
  refine Wa.istore_n (i := 3) (L' := [(3, .int (mI μ (hd 56 (px μ (hd 40 0) 11)) x1.toNatClampNeg)), (2, .int (mI μ (hd 55 (px μ (hd 40 0) 11)) x1.toNatClampNeg)), (0, .ref (hd 65 i0)), (1, .int x1)]) d_MS_order_25 rfl (by decide) rfl ?_
  refine Wa.aload_n (j := 2) d_MS_order_26 rfl ?_
  refine Wx.getR 13 23 d_MS_order_27 f_MS_23 rfl fl_MS_3 (s_65 hS h0) (r_65_23 hS h0) ?_
  have hp5 := St.plan hS
  refine Wx.getR 11 11 d_MS_order_30 f_MM_11 rfl fl_MS_100 (s_40 hS (by decide)) (hp5.1) ?_
  refine Wx.getR 12 8 d_MS_order_33 f_MP_8 rfl fl_MS_177 (s_50 hp5.2) (r_50_8 hp5.2) ?_
  refine Wa.iload_n (j := 3) d_MS_order_36 rfl ?_
  have hc6 := hF.1
  have hF := hF.2
  have hlhc6 := vp_in_lt hc6
  refine Wx.iald d_MS_order_37 w_54 (s_54 hp5.2) hc6 ?_
  refine Wa.bipush (v := 9) d_MS_order_38 rfl ?_
  refine Wa.icmp_ne 57 d_MS_order_40 (by decide) (fun hb => ?_) (fun hb => ?_)
  · have hF := hF.2 hb
    refine Wa.aload_n (j := 2) d_MS_order_57 rfl ?_
    refine Wx.getI 13 1 d_MS_order_58 f_MS_1 fl_MS_78 w_65 (s_65 hS h0) ?_
    refine Wa.bipush (v := 60) d_MS_order_61 rfl ?_
    refine Wa.icmp_ne 68 d_MS_order_63 (by decide) (fun hb => ?_) (fun hb => ?_)
    · have hF := hF.2 hb
      refine Wa.aload_n (j := 2) d_MS_order_68 rfl ?_
      refine Wx.getR 13 23 d_MS_order_69 f_MS_23 rfl fl_MS_3 (s_65 hS h0) (r_65_23 hS h0) ?_
      have hp7 := St.plan hS
      refine Wx.getR 11 11 d_MS_order_72 f_MM_11 rfl fl_MS_100 (s_40 hS (by decide)) (hp7.1) ?_
      refine Wx.getR 12 8 d_MS_order_75 f_MP_8 rfl fl_MS_177 (s_50 hp7.2) (r_50_8 hp7.2) ?_
      refine Wa.iload_n (j := 3) d_MS_order_78 rfl ?_
      have hc8 := hF.1
      have hF := hF.2
      have hlhc8 := vp_in_lt hc8
      refine Wx.iald d_MS_order_79 w_54 (s_54 hp7.2) hc8 ?_
      refine Wa.bipush (v := 8) d_MS_order_80 rfl ?_
      refine Wa.icmp_ne 89 d_MS_order_82 (by decide) (fun hb => ?_) (fun hb => ?_)
      · have hF := hF.2 hb
        refine Wa.aload_n (j := 2) d_MS_order_89 rfl ?_
        refine Wa.aload_n (j := 2) d_MS_order_90 rfl ?_
        refine Wx.getR 13 23 d_MS_order_91 f_MS_23 rfl fl_MS_3 (s_65 hS h0) (r_65_23 hS h0) ?_
        have hp9 := St.plan hS
        refine Wx.getR 11 11 d_MS_order_94 f_MM_11 rfl fl_MS_100 (s_40 hS (by decide)) (hp9.1) ?_
        refine Wx.getR 12 12 d_MS_order_97 f_MP_12 rfl fl_MS_184 (s_50 hp9.2) (r_50_12 hp9.2) ?_
        refine Wa.iload_n (j := 3) d_MS_order_100 rfl ?_
        have hc10 := hF.1
        have hF := hF.2
        have hlhc10 := vp_in_lt hc10
        refine Wx.iald d_MS_order_101 w_58 (s_58 hp9.2) hc10 ?_
        refine Wa.aload_n (j := 2) d_MS_order_102 rfl ?_
        refine Wx.getR 13 23 d_MS_order_103 f_MS_23 rfl fl_MS_3 (s_65 hS h0) (r_65_23 hS h0) ?_
        have hp11 := St.plan hS
        refine Wx.getR 11 11 d_MS_order_106 f_MM_11 rfl fl_MS_100 (s_40 hS (by decide)) (hp11.1) ?_
        refine Wx.getR 12 13 d_MS_order_109 f_MP_13 rfl fl_MS_187 (s_50 hp11.2) (r_50_13 hp11.2) ?_
        refine Wa.iload_n (j := 3) d_MS_order_112 rfl ?_
        have hc12 := hF.1
        have hF := hF.2
        have hlhc12 := vp_in_lt hc12
        refine Wx.iald d_MS_order_113 w_59 (s_59 hp11.2) hc12 ?_
        refine Wx.cVi (q := E_MS) (As := [.int (mI μ (hd 58 (px μ (hd 40 0) 11)) x1.toNatClampNeg), .int (mI μ (hd 59 (px μ (hd 40 0) 11)) x1.toNatClampNeg)]) 13 (d - 1) 0 0 _ d_MS_order_114 mok_MS_carryOut vl_MS_190 rfl rfl rfl (Nat.le_of_ble_eq_true rfl) (by omega) (Nat.zero_le _) (Nat.zero_le _) (s_65 hS h0) hF (fun y14 μ13 hS hF => ?_)
        refine Wa.istore (i := 4) (L' := [(4, .int y14), (3, .int (mI μ (hd 56 (px μ (hd 40 0) 11)) x1.toNatClampNeg)), (2, .int (mI μ (hd 55 (px μ (hd 40 0) 11)) x1.toNatClampNeg)), (0, .ref (hd 65 i0)), (1, .int x1)]) d_MS_order_117 (by decide) rfl ?_
        refine Wa.aload_n (j := 3) d_MS_order_119 rfl ?_
        refine Wa.iload_n (j := 2) d_MS_order_120 rfl ?_
        refine Wa.iload_n (j := 1) d_MS_order_121 rfl ?_
        refine Wx.cVi (q := E_MS) (As := [.int (mI μ (hd 55 (px μ (hd 40 0) 11)) x1.toNatClampNeg), .int (mI μ (hd 56 (px μ (hd 40 0) 11)) x1.toNatClampNeg)]) 13 (d - 1) 0 0 _ d_MS_order_122 mok_MS_shows vl_MS_121 rfl rfl rfl (Nat.le_of_ble_eq_true rfl) (by omega) (Nat.zero_le _) (Nat.zero_le _) (s_65 hS h0) hF (fun y16 μ15 hS hF => ?_)
        refine Wa.istore (i := 5) (L' := [(5, .int y16), (4, .int y14), (3, .int (mI μ (hd 56 (px μ (hd 40 0) 11)) x1.toNatClampNeg)), (2, .int (mI μ (hd 55 (px μ (hd 40 0) 11)) x1.toNatClampNeg)), (0, .ref (hd 65 i0)), (1, .int x1)]) d_MS_order_125 (by decide) rfl ?_
        refine Wa.aload_n (j := 4) d_MS_order_127 rfl ?_
        refine Wx.getR 13 23 d_MS_order_128 f_MS_23 rfl fl_MS_3 (s_65 hS h0) (r_65_23 hS h0) ?_
        have hp17 := St.plan hS
        refine Wx.getR 11 11 d_MS_order_131 f_MM_11 rfl fl_MS_100 (s_40 hS (by decide)) (hp17.1) ?_
        refine Wx.getR 12 8 d_MS_order_134 f_MP_8 rfl fl_MS_177 (s_50 hp17.2) (r_50_8 hp17.2) ?_
        refine Wa.iload_n (j := 5) d_MS_order_137 rfl ?_
        have hc18 := hF.1
        have hF := hF.2
        have hlhc18 := vp_in_lt hc18
        refine Wx.iald d_MS_order_138 w_54 (s_54 hp17.2) hc18 ?_
        refine Wa.bipush (v := 8) d_MS_order_139 rfl ?_
        refine Wa.icmp_ne 178 d_MS_order_141 (by decide) (fun hb => ?_) (fun hb => ?_)
        · have hF := hF.2 hb
          refine Wa.aload_n (j := 4) d_MS_order_178 rfl ?_
          refine Wx.getR 13 23 d_MS_order_179 f_MS_23 rfl fl_MS_3 (s_65 hS h0) (r_65_23 hS h0) ?_
          have hp19 := St.plan hS
          refine Wx.getR 11 11 d_MS_order_182 f_MM_11 rfl fl_MS_100 (s_40 hS (by decide)) (hp19.1) ?_
          refine Wx.getR 12 8 d_MS_order_185 f_MP_8 rfl fl_MS_177 (s_50 hp19.2) (r_50_8 hp19.2) ?_
          refine Wa.iload_n (j := 5) d_MS_order_188 rfl ?_
          have hc20 := hF.1
          have hF := hF.2
          have hlhc20 := vp_in_lt hc20
          refine Wx.iald d_MS_order_189 w_54 (s_54 hp19.2) hc20 ?_
          refine Wa.bipush (v := 6) d_MS_order_190 rfl ?_
          refine Wa.icmp_ne 223 d_MS_order_192 (by decide) (fun hb => ?_) (fun hb => ?_)
          · have hF := hF.2 hb
            refine Wa.iload (j := 1) d_MS_order_223 rfl ?_
            refine Wa.iconst (v := 0) d_MS_order_225 rfl ?_
            refine Wa.bipush (v := 15) d_MS_order_226 rfl ?_
            refine Wx.cSi (As := [.int y14, .int 0, .int 15]) (d - 1) 0 0 _ d_MS_order_228 mok_MM_isIn sl_MS_202 rfl rfl (Nat.le_of_ble_eq_true rfl) (by omega) (Nat.zero_le _) (Nat.zero_le _) hF (fun y22 μ21 hS hF => ?_)
            refine Wa.if_eq 270 d_MS_order_231 (by decide) (fun hb => ?_) (fun hb => ?_)
            · have hF := hF.1 hb
              refine Wa.iconst (v := 0) d_MS_order_270 rfl ?_
              exact Wx.retz d_MS_order_271 rfl (Or.inl rfl) hF
            · have hF := hF.2 hb
              refine Wa.iload (j := 0) d_MS_order_234 rfl ?_
              refine Wa.iconst (v := 1) d_MS_order_236 rfl ?_
              refine Wa.icmp_ne 270 d_MS_order_237 (by decide) (fun hb => ?_) (fun hb => ?_)
              · have hF := hF.2 hb
                refine Wa.iconst (v := 0) d_MS_order_270 rfl ?_
                exact Wx.retz d_MS_order_271 rfl (Or.inl rfl) hF
              · have hF := hF.1 hb
                refine Wa.aload_n (j := 4) d_MS_order_240 rfl ?_
                refine Wa.iload_n (j := 3) d_MS_order_241 rfl ?_
                refine Wa.iload_n (j := 2) d_MS_order_242 rfl ?_
                refine Wx.cVi (q := E_MS) (As := [.int (mI μ (hd 55 (px μ (hd 40 0) 11)) x1.toNatClampNeg), .int (mI μ (hd 56 (px μ (hd 40 0) 11)) x1.toNatClampNeg)]) 13 (d - 1) 0 0 _ d_MS_order_243 mok_MS_marksOf vl_MS_142 rfl rfl rfl (Nat.le_of_ble_eq_true rfl) (by omega) (Nat.zero_le _) (Nat.zero_le _) (s_65 hS h0) hF (fun y24 μ23 hS hF => ?_)
                refine Wa.iload (j := 1) d_MS_order_246 rfl ?_
                refine Wa.ishr d_MS_order_248 ?_
                refine Wa.iconst (v := 1) d_MS_order_249 rfl ?_
                refine Wa.iand d_MS_order_250 ?_
                refine Wa.if_ne 270 d_MS_order_251 (by decide) (fun hb => ?_) (fun hb => ?_)
                · have hF := hF.2 hb
                  refine Wa.iconst (v := 0) d_MS_order_270 rfl ?_
                  exact Wx.retz d_MS_order_271 rfl (Or.inl rfl) hF
                · have hF := hF.1 hb
                  refine Wa.aload_n (j := 4) d_MS_order_254 rfl ?_
                  refine Wa.iload_n (j := 3) d_MS_order_255 rfl ?_
                  refine Wa.iload_n (j := 2) d_MS_order_256 rfl ?_
                  refine Wa.iload (j := 1) d_MS_order_257 rfl ?_
                  refine Wx.cVi (q := E_MS) (As := [.int (mI μ (hd 55 (px μ (hd 40 0) 11)) x1.toNatClampNeg), .int (mI μ (hd 56 (px μ (hd 40 0) 11)) x1.toNatClampNeg), .int y14]) 13 (d - 1) 0 0 _ d_MS_order_259 mok_MS_note vl_MS_206 rfl rfl rfl (Nat.le_of_ble_eq_true rfl) (by omega) (Nat.zero_le _) (Nat.zero_le _) (s_65 hS h0) hF (fun y26 μ25 hS hF => ?_)
                  refine Wa.iconst (v := (-1)) d_MS_order_262 rfl ?_
                  refine Wa.icmp_eq 270 d_MS_order_263 (by decide) (fun hb => ?_) (fun hb => ?_)
                  · have hF := hF.1 hb
                    refine Wa.iconst (v := 0) d_MS_order_270 rfl ?_
                    exact Wx.retz d_MS_order_271 rfl (Or.inl rfl) hF
                  · have hF := hF.2 hb
                    refine Wa.iconst (v := 1) d_MS_order_266 rfl ?_
                    refine Wa.goto 271 d_MS_order_267 (by decide) ?_
                    exact Wx.retz d_MS_order_271 rfl (Or.inr rfl) hF
          · have hF := hF.1 hb
            refine Wa.aload_n (j := 4) d_MS_order_195 rfl ?_
            refine Wa.iload_n (j := 3) d_MS_order_196 rfl ?_
            refine Wa.iload_n (j := 2) d_MS_order_197 rfl ?_
            refine Wa.iconst (v := 0) d_MS_order_198 rfl ?_
            refine Wa.sipush (v := 9999) d_MS_order_199 rfl ?_
            refine Wa.iload (j := 1) d_MS_order_202 rfl ?_
            refine Wx.mmin d_MS_order_204 mm_MS_131 (Nat.le_of_ble_eq_true rfl) hD ?_
            refine Wx.mmax d_MS_order_207 mm_MS_136 (Nat.le_of_ble_eq_true rfl) hD ?_
            refine Wx.cVi (q := E_MS) (As := [.int (mI μ (hd 55 (px μ (hd 40 0) 11)) x1.toNatClampNeg), .int (mI μ (hd 56 (px μ (hd 40 0) 11)) x1.toNatClampNeg), .int (imax 0 (imin 9999 y14))]) 13 (d - 1) 0 0 _ d_MS_order_210 mok_MS_write vl_MS_199 rfl rfl rfl (Nat.le_of_ble_eq_true rfl) (by omega) (Nat.zero_le _) (Nat.zero_le _) (s_65 hS h0) hF (fun y28 μ27 hS hF => ?_)
            refine Wa.iconst (v := (-1)) d_MS_order_213 rfl ?_
            refine Wa.icmp_eq 221 d_MS_order_214 (by decide) (fun hb => ?_) (fun hb => ?_)
            · have hF := hF.1 hb
              refine Wa.iconst (v := 0) d_MS_order_221 rfl ?_
              exact Wx.retz d_MS_order_222 rfl (Or.inl rfl) hF
            · have hF := hF.2 hb
              refine Wa.iconst (v := 1) d_MS_order_217 rfl ?_
              refine Wa.goto 222 d_MS_order_218 (by decide) ?_
              exact Wx.retz d_MS_order_222 rfl (Or.inr rfl) hF
        · have hF := hF.1 hb
          refine Wa.iload (j := 0) d_MS_order_144 rfl ?_
          refine Wa.iconst (v := 1) d_MS_order_146 rfl ?_
          refine Wa.icmp_le 176 d_MS_order_147 (by decide) (fun hb => ?_) (fun hb => ?_)
          · have hF := hF.1 hb
            refine Wa.iconst (v := 0) d_MS_order_176 rfl ?_
            exact Wx.retz d_MS_order_177 rfl (Or.inl rfl) hF
          · have hF := hF.2 hb
            refine Wa.aload_n (j := 4) d_MS_order_150 rfl ?_
            refine Wa.iload_n (j := 3) d_MS_order_151 rfl ?_
            refine Wa.iload_n (j := 2) d_MS_order_152 rfl ?_
            refine Wa.aload_n (j := 4) d_MS_order_153 rfl ?_
            refine Wx.getR 13 23 d_MS_order_154 f_MS_23 rfl fl_MS_3 (s_65 hS h0) (r_65_23 hS h0) ?_
            have hp29 := St.plan hS
            refine Wx.getR 11 11 d_MS_order_157 f_MM_11 rfl fl_MS_100 (s_40 hS (by decide)) (hp29.1) ?_
            refine Wx.getR 12 11 d_MS_order_160 f_MP_11 rfl fl_MS_193 (s_50 hp29.2) (r_50_11 hp29.2) ?_
            refine Wa.iload_n (j := 5) d_MS_order_163 rfl ?_
            have hc30 := hF.1
            have hF := hF.2
            have hlhc30 := vp_in_lt hc30
            refine Wx.iald d_MS_order_164 w_57 (s_57 hp29.2) hc30 ?_
            refine Wx.cVi (q := E_MS) (As := [.int (mI μ (hd 55 (px μ (hd 40 0) 11)) x1.toNatClampNeg), .int (mI μ (hd 56 (px μ (hd 40 0) 11)) x1.toNatClampNeg), .int (mI μ15 (hd 57 (px μ15 (hd 40 0) 11)) x1.toNatClampNeg)]) 13 (d - 1) 0 0 _ d_MS_order_165 mok_MS_merge vl_MS_196 rfl rfl rfl (Nat.le_of_ble_eq_true rfl) (by omega) (Nat.zero_le _) (Nat.zero_le _) (s_65 hS h0) hF (fun y32 μ31 hS hF => ?_)
            refine Wa.iconst (v := (-1)) d_MS_order_168 rfl ?_
            refine Wa.icmp_eq 176 d_MS_order_169 (by decide) (fun hb => ?_) (fun hb => ?_)
            · have hF := hF.1 hb
              refine Wa.iconst (v := 0) d_MS_order_176 rfl ?_
              exact Wx.retz d_MS_order_177 rfl (Or.inl rfl) hF
            · have hF := hF.2 hb
              refine Wa.iconst (v := 1) d_MS_order_172 rfl ?_
              refine Wa.goto 177 d_MS_order_173 (by decide) ?_
              exact Wx.retz d_MS_order_177 rfl (Or.inr rfl) hF
      · have hF := hF.1 hb
        refine Wa.iconst (v := 0) d_MS_order_85 rfl ?_
        refine Wa.goto 117 d_MS_order_86 (by decide) ?_
        refine Wa.istore (i := 4) (L' := [(4, .int 0), (3, .int (mI μ (hd 56 (px μ (hd 40 0) 11)) x1.toNatClampNeg)), (2, .int (mI μ (hd 55 (px μ (hd 40 0) 11)) x1.toNatClampNeg)), (0, .ref (hd 65 i0)), (1, .int x1)]) d_MS_order_117 (by decide) rfl ?_
        refine Wa.aload_n (j := 3) d_MS_order_119 rfl ?_
        refine Wa.iload_n (j := 2) d_MS_order_120 rfl ?_
        refine Wa.iload_n (j := 1) d_MS_order_121 rfl ?_
        refine Wx.cVi (q := E_MS) (As := [.int (mI μ (hd 55 (px μ (hd 40 0) 11)) x1.toNatClampNeg), .int (mI μ (hd 56 (px μ (hd 40 0) 11)) x1.toNatClampNeg)]) 13 (d - 1) 0 0 _ d_MS_order_122 mok_MS_shows vl_MS_121 rfl rfl rfl (Nat.le_of_ble_eq_true rfl) (by omega) (Nat.zero_le _) (Nat.zero_le _) (s_65 hS h0) hF (fun y34 μ33 hS hF => ?_)
        refine Wa.istore (i := 5) (L' := [(5, .int y34), (4, .int 0), (3, .int (mI μ (hd 56 (px μ (hd 40 0) 11)) x1.toNatClampNeg)), (2, .int (mI μ (hd 55 (px μ (hd 40 0) 11)) x1.toNatClampNeg)), (0, .ref (hd 65 i0)), (1, .int x1)]) d_MS_order_125 (by decide) rfl ?_
        refine Wa.aload_n (j := 4) d_MS_order_127 rfl ?_
        refine Wx.getR 13 23 d_MS_order_128 f_MS_23 rfl fl_MS_3 (s_65 hS h0) (r_65_23 hS h0) ?_
        have hp35 := St.plan hS
        refine Wx.getR 11 11 d_MS_order_131 f_MM_11 rfl fl_MS_100 (s_40 hS (by decide)) (hp35.1) ?_
        refine Wx.getR 12 8 d_MS_order_134 f_MP_8 rfl fl_MS_177 (s_50 hp35.2) (r_50_8 hp35.2) ?_
        refine Wa.iload_n (j := 5) d_MS_order_137 rfl ?_
        have hc36 := hF.1
        have hF := hF.2
        have hlhc36 := vp_in_lt hc36
        refine Wx.iald d_MS_order_138 w_54 (s_54 hp35.2) hc36 ?_
        refine Wa.bipush (v := 8) d_MS_order_139 rfl ?_
        refine Wa.icmp_ne 178 d_MS_order_141 (by decide) (fun hb => ?_) (fun hb => ?_)
        · have hF := hF.2 hb
          refine Wa.aload_n (j := 4) d_MS_order_178 rfl ?_
          refine Wx.getR 13 23 d_MS_order_179 f_MS_23 rfl fl_MS_3 (s_65 hS h0) (r_65_23 hS h0) ?_
          have hp37 := St.plan hS
          refine Wx.getR 11 11 d_MS_order_182 f_MM_11 rfl fl_MS_100 (s_40 hS (by decide)) (hp37.1) ?_
          refine Wx.getR 12 8 d_MS_order_185 f_MP_8 rfl fl_MS_177 (s_50 hp37.2) (r_50_8 hp37.2) ?_
          refine Wa.iload_n (j := 5) d_MS_order_188 rfl ?_
          have hc38 := hF.1
          have hF := hF.2
          have hlhc38 := vp_in_lt hc38
          refine Wx.iald d_MS_order_189 w_54 (s_54 hp37.2) hc38 ?_
          refine Wa.bipush (v := 6) d_MS_order_190 rfl ?_
          refine Wa.icmp_ne 223 d_MS_order_192 (by decide) (fun hb => ?_) (fun hb => ?_)
          · have hF := hF.2 hb
            refine Wa.iload (j := 1) d_MS_order_223 rfl ?_
            refine Wa.iconst (v := 0) d_MS_order_225 rfl ?_
            refine Wa.bipush (v := 15) d_MS_order_226 rfl ?_
            refine Wx.cSi (As := [.int 0, .int 0, .int 15]) (d - 1) 0 0 _ d_MS_order_228 mok_MM_isIn sl_MS_202 rfl rfl (Nat.le_of_ble_eq_true rfl) (by omega) (Nat.zero_le _) (Nat.zero_le _) hF (fun y40 μ39 hS hF => ?_)
            refine Wa.if_eq 270 d_MS_order_231 (by decide) (fun hb => ?_) (fun hb => ?_)
            · have hF := hF.1 hb
              refine Wa.iconst (v := 0) d_MS_order_270 rfl ?_
              exact Wx.retz d_MS_order_271 rfl (Or.inl rfl) hF
            · have hF := hF.2 hb
              refine Wa.iload (j := 0) d_MS_order_234 rfl ?_
              refine Wa.iconst (v := 1) d_MS_order_236 rfl ?_
              refine Wa.icmp_ne 270 d_MS_order_237 (by decide) (fun hb => ?_) (fun hb => ?_)
              · have hF := hF.2 hb
                refine Wa.iconst (v := 0) d_MS_order_270 rfl ?_
                exact Wx.retz d_MS_order_271 rfl (Or.inl rfl) hF
              · have hF := hF.1 hb
                refine Wa.aload_n (j := 4) d_MS_order_240 rfl ?_
                refine Wa.iload_n (j := 3) d_MS_order_241 rfl ?_
                refine Wa.iload_n (j := 2) d_MS_order_242 rfl ?_
                refine Wx.cVi (q := E_MS) (As := [.int (mI μ (hd 55 (px μ (hd 40 0) 11)) x1.toNatClampNeg), .int (mI μ (hd 56 (px μ (hd 40 0) 11)) x1.toNatClampNeg)]) 13 (d - 1) 0 0 _ d_MS_order_243 mok_MS_marksOf vl_MS_142 rfl rfl rfl (Nat.le_of_ble_eq_true rfl) (by omega) (Nat.zero_le _) (Nat.zero_le _) (s_65 hS h0) hF (fun y42 μ41 hS hF => ?_)
                refine Wa.iload (j := 1) d_MS_order_246 rfl ?_
                refine Wa.ishr d_MS_order_248 ?_
                refine Wa.iconst (v := 1) d_MS_order_249 rfl ?_
                refine Wa.iand d_MS_order_250 ?_
                refine Wa.if_ne 270 d_MS_order_251 (by decide) (fun hb => ?_) (fun hb => ?_)
                · have hF := hF.2 hb
                  refine Wa.iconst (v := 0) d_MS_order_270 rfl ?_
                  exact Wx.retz d_MS_order_271 rfl (Or.inl rfl) hF
                · have hF := hF.1 hb
                  refine Wa.aload_n (j := 4) d_MS_order_254 rfl ?_
                  refine Wa.iload_n (j := 3) d_MS_order_255 rfl ?_
                  refine Wa.iload_n (j := 2) d_MS_order_256 rfl ?_
                  refine Wa.iload (j := 1) d_MS_order_257 rfl ?_
                  refine Wx.cVi (q := E_MS) (As := [.int (mI μ (hd 55 (px μ (hd 40 0) 11)) x1.toNatClampNeg), .int (mI μ (hd 56 (px μ (hd 40 0) 11)) x1.toNatClampNeg), .int 0]) 13 (d - 1) 0 0 _ d_MS_order_259 mok_MS_note vl_MS_206 rfl rfl rfl (Nat.le_of_ble_eq_true rfl) (by omega) (Nat.zero_le _) (Nat.zero_le _) (s_65 hS h0) hF (fun y44 μ43 hS hF => ?_)
                  refine Wa.iconst (v := (-1)) d_MS_order_262 rfl ?_
                  refine Wa.icmp_eq 270 d_MS_order_263 (by decide) (fun hb => ?_) (fun hb => ?_)
                  · have hF := hF.1 hb
                    refine Wa.iconst (v := 0) d_MS_order_270 rfl ?_
                    exact Wx.retz d_MS_order_271 rfl (Or.inl rfl) hF
                  · have hF := hF.2 hb
                    refine Wa.iconst (v := 1) d_MS_order_266 rfl ?_
                    refine Wa.goto 271 d_MS_order_267 (by decide) ?_
                    exact Wx.retz d_MS_order_271 rfl (Or.inr rfl) hF
          · have hF := hF.1 hb
            refine Wa.aload_n (j := 4) d_MS_order_195 rfl ?_
            refine Wa.iload_n (j := 3) d_MS_order_196 rfl ?_
            refine Wa.iload_n (j := 2) d_MS_order_197 rfl ?_
            refine Wa.iconst (v := 0) d_MS_order_198 rfl ?_
            refine Wa.sipush (v := 9999) d_MS_order_199 rfl ?_
            refine Wa.iload (j := 1) d_MS_order_202 rfl ?_
            refine Wx.mmin d_MS_order_204 mm_MS_131 (Nat.le_of_ble_eq_true rfl) hD ?_
            refine Wx.mmax d_MS_order_207 mm_MS_136 (Nat.le_of_ble_eq_true rfl) hD ?_
            refine Wx.cVi (q := E_MS) (As := [.int (mI μ (hd 55 (px μ (hd 40 0) 11)) x1.toNatClampNeg), .int (mI μ (hd 56 (px μ (hd 40 0) 11)) x1.toNatClampNeg), .int (imax 0 (imin 9999 0))]) 13 (d - 1) 0 0 _ d_MS_order_210 mok_MS_write vl_MS_199 rfl rfl rfl (Nat.le_of_ble_eq_true rfl) (by omega) (Nat.zero_le _) (Nat.zero_le _) (s_65 hS h0) hF (fun y46 μ45 hS hF => ?_)
            refine Wa.iconst (v := (-1)) d_MS_order_213 rfl ?_
            refine Wa.icmp_eq 221 d_MS_order_214 (by decide) (fun hb => ?_) (fun hb => ?_)
            · have hF := hF.1 hb
              refine Wa.iconst (v := 0) d_MS_order_221 rfl ?_
              exact Wx.retz d_MS_order_222 rfl (Or.inl rfl) hF
            · have hF := hF.2 hb
              refine Wa.iconst (v := 1) d_MS_order_217 rfl ?_
              refine Wa.goto 222 d_MS_order_218 (by decide) ?_
              exact Wx.retz d_MS_order_222 rfl (Or.inr rfl) hF
        · have hF := hF.1 hb
          refine Wa.iload (j := 0) d_MS_order_144 rfl ?_
          refine Wa.iconst (v := 1) d_MS_order_146 rfl ?_
          refine Wa.icmp_le 176 d_MS_order_147 (by decide) (fun hb => ?_) (fun hb => ?_)
          · have hF := hF.1 hb
            refine Wa.iconst (v := 0) d_MS_order_176 rfl ?_
            exact Wx.retz d_MS_order_177 rfl (Or.inl rfl) hF
          · have hF := hF.2 hb
            refine Wa.aload_n (j := 4) d_MS_order_150 rfl ?_
            refine Wa.iload_n (j := 3) d_MS_order_151 rfl ?_
            refine Wa.iload_n (j := 2) d_MS_order_152 rfl ?_
            refine Wa.aload_n (j := 4) d_MS_order_153 rfl ?_
            refine Wx.getR 13 23 d_MS_order_154 f_MS_23 rfl fl_MS_3 (s_65 hS h0) (r_65_23 hS h0) ?_
            have hp47 := St.plan hS
            refine Wx.getR 11 11 d_MS_order_157 f_MM_11 rfl fl_MS_100 (s_40 hS (by decide)) (hp47.1) ?_
            refine Wx.getR 12 11 d_MS_order_160 f_MP_11 rfl fl_MS_193 (s_50 hp47.2) (r_50_11 hp47.2) ?_
            refine Wa.iload_n (j := 5) d_MS_order_163 rfl ?_
            have hc48 := hF.1
            have hF := hF.2
            have hlhc48 := vp_in_lt hc48
            refine Wx.iald d_MS_order_164 w_57 (s_57 hp47.2) hc48 ?_
            refine Wx.cVi (q := E_MS) (As := [.int (mI μ (hd 55 (px μ (hd 40 0) 11)) x1.toNatClampNeg), .int (mI μ (hd 56 (px μ (hd 40 0) 11)) x1.toNatClampNeg), .int (mI μ33 (hd 57 (px μ33 (hd 40 0) 11)) x1.toNatClampNeg)]) 13 (d - 1) 0 0 _ d_MS_order_165 mok_MS_merge vl_MS_196 rfl rfl rfl (Nat.le_of_ble_eq_true rfl) (by omega) (Nat.zero_le _) (Nat.zero_le _) (s_65 hS h0) hF (fun y50 μ49 hS hF => ?_)
            refine Wa.iconst (v := (-1)) d_MS_order_168 rfl ?_
            refine Wa.icmp_eq 176 d_MS_order_169 (by decide) (fun hb => ?_) (fun hb => ?_)
            · have hF := hF.1 hb
              refine Wa.iconst (v := 0) d_MS_order_176 rfl ?_
              exact Wx.retz d_MS_order_177 rfl (Or.inl rfl) hF
            · have hF := hF.2 hb
              refine Wa.iconst (v := 1) d_MS_order_172 rfl ?_
              refine Wa.goto 177 d_MS_order_173 (by decide) ?_
              exact Wx.retz d_MS_order_177 rfl (Or.inr rfl) hF
    · have hF := hF.1 hb
      refine Wa.iconst (v := 0) d_MS_order_66 rfl ?_
      exact Wx.retz d_MS_order_67 rfl (Or.inl rfl) hF
  · have hF := hF.1 hb
    refine Wa.aload_n (j := 2) d_MS_order_43 rfl ?_
    refine Wa.iload_n (j := 1) d_MS_order_44 rfl ?_
    refine Wx.cVi (q := E_MS) (As := [.int (mI μ (hd 55 (px μ (hd 40 0) 11)) x1.toNatClampNeg)]) 13 (d - 1) 0 0 _ d_MS_order_45 mok_MS_send vl_MS_180 rfl rfl rfl (Nat.le_of_ble_eq_true rfl) (by omega) (Nat.zero_le _) (Nat.zero_le _) (s_65 hS h0) hF (fun y52 μ51 hS hF => ?_)
    refine Wa.if_le 55 d_MS_order_48 (by decide) (fun hb => ?_) (fun hb => ?_)
    · have hF := hF.1 hb
      refine Wa.iconst (v := 0) d_MS_order_55 rfl ?_
      exact Wx.retz d_MS_order_56 rfl (Or.inl rfl) hF
    · have hF := hF.2 hb
      refine Wa.iconst (v := 1) d_MS_order_51 rfl ?_
      refine Wa.goto 56 d_MS_order_52 (by decide) ?_
      exact Wx.retz d_MS_order_56 rfl (Or.inr rfl) hF
theorem e_MS_order {d rc rs : Nat} {Q : Option Value → Mu → Prop} {μ : Mu} {i0 : Nat} {x1 : Int32} (hk : Wx K_MS_order d rc rs (fun r μ' => St μ' ∧ Q r μ') 0 [(0, .ref (hd 65 i0)), (1, .int x1)] [] μ) : Cal K_MS_order d rc rs [.ref (hd 65 i0), .int x1] μ Q := Cal.of (by decide +kernel) rfl rfl (Nat.le_of_ble_eq_true rfl) rfl hk
set_option maxHeartbeats 4000000 in
set_option maxRecDepth 20000 in
theorem g_MS_holds_0 {d rc rs : Nat} {Q : Option Value → Mu → Prop} {μ : Mu} {i0 : Nat} {x1 : Int32} (hD : 1 ≤ d) (h0 : i0 < 2) (hS : St μ)
    (hF : (vp_in x1 21 ∧ (vp_in x1 21 ∧ (((mI μ (hd 60 (px μ (hd 40 0) 11)) x1.toNatClampNeg) = (mI μ (hd 59 (px μ (hd 40 0) 11)) x1.toNatClampNeg) → Q (some (.int 1)) μ) ∧ (¬ (mI μ (hd 60 (px μ (hd 40 0) 11)) x1.toNatClampNeg) = (mI μ (hd 59 (px μ (hd 40 0) 11)) x1.toNatClampNeg) → (vp_in x1 21 ∧ (vp_in x1 21 ∧ (Cal K_MS_carryOut (d - 1) 0 0 [.ref (hd 65 i0), .int (mI μ (hd 59 (px μ (hd 40 0) 11)) x1.toNatClampNeg), .int (mI μ (hd 60 (px μ (hd 40 0) 11)) x1.toNatClampNeg)] μ (fun r μ9 => ∃ y10, r = some (.int y10) ∧ ((y10 = 1 → Q (some (.int 1)) μ9) ∧ (¬ y10 = 1 → Q (some (.int 0)) μ9))))))))))) : Wx K_MS_holds d rc rs Q 0 [(0, .ref (hd 65 i0)), (1, .int x1)] [] μ := by
  refine Wa.aload_n (j := 0) d_MS_holds_0 rfl ?_
  refine Wx.getR 13 23 d_MS_holds_1 f_MS_23 rfl fl_MS_3 (s_65 hS h0) (r_65_23 hS h0) ?_
  have hp1 := St.plan hS
  refine Wx.getR 11 11 d_MS_holds_4 f_MM_11 rfl fl_MS_100 (s_40 hS (by decide)) (hp1.1) ?_
  refine Wx.getR 12 14 d_MS_holds_7 f_MP_14 rfl fl_MS_209 (s_50 hp1.2) (r_50_14 hp1.2) ?_
  refine Wa.iload_n (j := 1) d_MS_holds_10 rfl ?_
  have hc2 := hF.1
  have hF := hF.2
  have hlhc2 := vp_in_lt hc2
  refine Wx.iald d_MS_holds_11 w_60 (s_60 hp1.2) hc2 ?_
  refine Wa.aload_n (j := 0) d_MS_holds_12 rfl ?_
  refine Wx.getR 13 23 d_MS_holds_13 f_MS_23 rfl fl_MS_3 (s_65 hS h0) (r_65_23 hS h0) ?_
  have hp3 := St.plan hS
  refine Wx.getR 11 11 d_MS_holds_16 f_MM_11 rfl fl_MS_100 (s_40 hS (by decide)) (hp3.1) ?_
  refine Wx.getR 12 13 d_MS_holds_19 f_MP_13 rfl fl_MS_187 (s_50 hp3.2) (r_50_13 hp3.2) ?_
  refine Wa.iload_n (j := 1) d_MS_holds_22 rfl ?_
  have hc4 := hF.1
  have hF := hF.2
  have hlhc4 := vp_in_lt hc4
  refine Wx.iald d_MS_holds_23 w_59 (s_59 hp3.2) hc4 ?_
  refine Wa.icmp_eq 59 d_MS_holds_24 (by decide) (fun hb => ?_) (fun hb => ?_)
  · have hF := hF.1 hb
    refine Wa.iconst (v := 1) d_MS_holds_59 rfl ?_
    refine Wa.goto 64 d_MS_holds_60 (by decide) ?_
    exact Wx.retz d_MS_holds_64 rfl (Or.inr rfl) hF
  · have hF := hF.2 hb
    refine Wa.aload_n (j := 0) d_MS_holds_27 rfl ?_
    refine Wa.aload_n (j := 0) d_MS_holds_28 rfl ?_
    refine Wx.getR 13 23 d_MS_holds_29 f_MS_23 rfl fl_MS_3 (s_65 hS h0) (r_65_23 hS h0) ?_
    have hp5 := St.plan hS
    refine Wx.getR 11 11 d_MS_holds_32 f_MM_11 rfl fl_MS_100 (s_40 hS (by decide)) (hp5.1) ?_
    refine Wx.getR 12 13 d_MS_holds_35 f_MP_13 rfl fl_MS_187 (s_50 hp5.2) (r_50_13 hp5.2) ?_
    refine Wa.iload_n (j := 1) d_MS_holds_38 rfl ?_
    have hc6 := hF.1
    have hF := hF.2
    have hlhc6 := vp_in_lt hc6
    refine Wx.iald d_MS_holds_39 w_59 (s_59 hp5.2) hc6 ?_
    refine Wa.aload_n (j := 0) d_MS_holds_40 rfl ?_
    refine Wx.getR 13 23 d_MS_holds_41 f_MS_23 rfl fl_MS_3 (s_65 hS h0) (r_65_23 hS h0) ?_
    have hp7 := St.plan hS
    refine Wx.getR 11 11 d_MS_holds_44 f_MM_11 rfl fl_MS_100 (s_40 hS (by decide)) (hp7.1) ?_
    refine Wx.getR 12 14 d_MS_holds_47 f_MP_14 rfl fl_MS_209 (s_50 hp7.2) (r_50_14 hp7.2) ?_
    refine Wa.iload_n (j := 1) d_MS_holds_50 rfl ?_
    have hc8 := hF.1
    have hF := hF.2
    have hlhc8 := vp_in_lt hc8
    refine Wx.iald d_MS_holds_51 w_60 (s_60 hp7.2) hc8 ?_
    refine Wx.cVi (q := E_MS) (As := [.int (mI μ (hd 59 (px μ (hd 40 0) 11)) x1.toNatClampNeg), .int (mI μ (hd 60 (px μ (hd 40 0) 11)) x1.toNatClampNeg)]) 13 (d - 1) 0 0 _ d_MS_holds_52 mok_MS_carryOut vl_MS_190 rfl rfl rfl (Nat.le_of_ble_eq_true rfl) (by omega) (Nat.zero_le _) (Nat.zero_le _) (s_65 hS h0) hF (fun y10 μ9 hS hF => ?_)
    refine Wa.iconst (v := 1) d_MS_holds_55 rfl ?_
    refine Wa.icmp_ne 63 d_MS_holds_56 (by decide) (fun hb => ?_) (fun hb => ?_)
    · have hF := hF.2 hb
      refine Wa.iconst (v := 0) d_MS_holds_63 rfl ?_
      exact Wx.retz d_MS_holds_64 rfl (Or.inl rfl) hF
    · have hF := hF.1 hb
      refine Wa.iconst (v := 1) d_MS_holds_59 rfl ?_
      refine Wa.goto 64 d_MS_holds_60 (by decide) ?_
      exact Wx.retz d_MS_holds_64 rfl (Or.inr rfl) hF
theorem e_MS_holds {d rc rs : Nat} {Q : Option Value → Mu → Prop} {μ : Mu} {i0 : Nat} {x1 : Int32} (hk : Wx K_MS_holds d rc rs (fun r μ' => St μ' ∧ Q r μ') 0 [(0, .ref (hd 65 i0)), (1, .int x1)] [] μ) : Cal K_MS_holds d rc rs [.ref (hd 65 i0), .int x1] μ Q := Cal.of (by decide +kernel) rfl rfl (Nat.le_of_ble_eq_true rfl) rfl hk
set_option maxHeartbeats 4000000 in
set_option maxRecDepth 20000 in
theorem g_MS_pass_0 {d rc rs : Nat} {Q : Option Value → Mu → Prop} {μ : Mu} {i0 : Nat} (hD : 1 ≤ d) (h0 : i0 < 2) (hS : St μ)
    (hF : Wx K_MS_pass d rc rs Q 2 [(0, .ref (hd 65 i0)), (1, .int 0)] [] μ) : Wx K_MS_pass d rc rs Q 0 [(0, .ref (hd 65 i0))] [] μ := by
  refine Wa.iconst (v := 0) d_MS_pass_0 rfl ?_
  refine Wa.istore_n (i := 1) (L' := [(1, .int 0), (0, .ref (hd 65 i0))]) d_MS_pass_1 rfl (by decide) rfl ?_
  exact Wa.loc [1, 0] rfl hF
theorem e_MS_pass {d rc rs : Nat} {Q : Option Value → Mu → Prop} {μ : Mu} {i0 : Nat} (hk : Wx K_MS_pass d rc rs (fun r μ' => St μ' ∧ Q r μ') 0 [(0, .ref (hd 65 i0))] [] μ) : Cal K_MS_pass d rc rs [.ref (hd 65 i0)] μ Q := Cal.of (by decide +kernel) rfl rfl (Nat.le_of_ble_eq_true rfl) rfl hk
set_option maxHeartbeats 4000000 in
set_option maxRecDepth 20000 in
theorem g_MS_pass_2 {d rc rs : Nat} {Q : Option Value → Mu → Prop} {μ : Mu} {i0 : Nat} {x1 : Int32} (hD : 1 ≤ d) (h0 : i0 < 2) (hS : St μ)
    (hF : (((mI μ (hd 50 (px μ (hd 40 0) 11)) 6) ≤ x1 → (Cal K_MS_arrive (d - 1) 0 0 [.ref (hd 65 i0)] μ (fun r μ2 => r = none ∧ Wx K_MS_pass d rc rs Q 54 [(0, .ref (hd 65 i0)), (1, .int 0)] [] μ2))) ∧ (¬ (mI μ (hd 50 (px μ (hd 40 0) 11)) 6) ≤ x1 → (Cal K_MS_holds (d - 1) 0 0 [.ref (hd 65 i0), .int x1] μ (fun r μ3 => ∃ y4, r = some (.int y4) ∧ ((y4 = 0 → Wx K_MS_pass d rc rs Q 2 [(0, .ref (hd 65 i0)), (1, .int (x1 + 1))] [] μ3) ∧ (¬ y4 = 0 → (Cal K_MS_order (d - 1) 0 0 [.ref (hd 65 i0), .int x1] μ3 (fun r μ5 => ∃ y6, r = some (.int y6) ∧ ((y6 = 0 → Wx K_MS_pass d rc rs Q 2 [(0, .ref (hd 65 i0)), (1, .int (x1 + 1))] [] μ5) ∧ (¬ y6 = 0 → Wx K_MS_pass d rc rs Q 2 [(0, .ref (hd 65 i0)), (1, .int (x1 + 1))] [] (setI μ5 (hd 65 i0) 4 ((mI μ5 (hd 65 i0) 4) + (1 : Int32)))))))))))))) : Wx K_MS_pass d rc rs Q 2 [(0, .ref (hd 65 i0)), (1, .int x1)] [] μ := by
  refine Wa.iload_n (j := 1) d_MS_pass_2 rfl ?_
  refine Wa.aload_n (j := 0) d_MS_pass_3 rfl ?_
  refine Wx.getR 13 23 d_MS_pass_4 f_MS_23 rfl fl_MS_3 (s_65 hS h0) (r_65_23 hS h0) ?_
  have hp1 := St.plan hS
  refine Wx.getR 11 11 d_MS_pass_7 f_MM_11 rfl fl_MS_100 (s_40 hS (by decide)) (hp1.1) ?_
  refine Wx.getI 12 6 d_MS_pass_10 f_MP_6 fl_MS_212 w_50 (s_50 hp1.2) ?_
  refine Wa.icmp_ge 48 d_MS_pass_13 (by decide) (fun hb => ?_) (fun hb => ?_)
  · have hF := hF.1 hb
    refine Wa.aload_n (j := 0) d_MS_pass_48 rfl ?_
    refine Wx.cVv (q := E_MS) (As := []) 13 (d - 1) 0 0 _ d_MS_pass_49 mok_MS_arrive vl_MS_222 rfl rfl rfl (Nat.le_of_ble_eq_true rfl) (by omega) (Nat.zero_le _) (Nat.zero_le _) (s_65 hS h0) hF (fun μ2 hS hF => ?_)
    refine Wa.iconst (v := 0) d_MS_pass_52 rfl ?_
    refine Wa.istore_n (i := 1) (L' := [(1, .int 0), (0, .ref (hd 65 i0))]) d_MS_pass_53 rfl (by decide) rfl ?_
    exact Wa.loc [1, 0] rfl hF
  · have hF := hF.2 hb
    refine Wa.aload_n (j := 0) d_MS_pass_16 rfl ?_
    refine Wa.iload_n (j := 1) d_MS_pass_17 rfl ?_
    refine Wx.cVi (q := E_MS) (As := [.int x1]) 13 (d - 1) 0 0 _ d_MS_pass_18 mok_MS_holds vl_MS_215 rfl rfl rfl (Nat.le_of_ble_eq_true rfl) (by omega) (Nat.zero_le _) (Nat.zero_le _) (s_65 hS h0) hF (fun y4 μ3 hS hF => ?_)
    refine Wa.if_eq 42 d_MS_pass_21 (by decide) (fun hb => ?_) (fun hb => ?_)
    · have hF := hF.1 hb
      refine Wa.iinc (i := 1) (j := 1) (v := (x1 + 1)) (L' := [(1, .int (x1 + 1)), (0, .ref (hd 65 i0))]) d_MS_pass_42 rfl rfl (by decide) rfl ?_
      refine Wa.goto 2 d_MS_pass_45 (by decide) ?_
      exact Wa.loc [1, 0] rfl hF
    · have hF := hF.2 hb
      refine Wa.aload_n (j := 0) d_MS_pass_24 rfl ?_
      refine Wa.iload_n (j := 1) d_MS_pass_25 rfl ?_
      refine Wx.cVi (q := E_MS) (As := [.int x1]) 13 (d - 1) 0 0 _ d_MS_pass_26 mok_MS_order vl_MS_219 rfl rfl rfl (Nat.le_of_ble_eq_true rfl) (by omega) (Nat.zero_le _) (Nat.zero_le _) (s_65 hS h0) hF (fun y6 μ5 hS hF => ?_)
      refine Wa.if_eq 42 d_MS_pass_29 (by decide) (fun hb => ?_) (fun hb => ?_)
      · have hF := hF.1 hb
        refine Wa.iinc (i := 1) (j := 1) (v := (x1 + 1)) (L' := [(1, .int (x1 + 1)), (0, .ref (hd 65 i0))]) d_MS_pass_42 rfl rfl (by decide) rfl ?_
        refine Wa.goto 2 d_MS_pass_45 (by decide) ?_
        exact Wa.loc [1, 0] rfl hF
      · have hF := hF.2 hb
        refine Wa.aload_n (j := 0) d_MS_pass_32 rfl ?_
        refine Wa.dup d_MS_pass_33 rfl ?_
        refine Wx.getI 13 4 d_MS_pass_34 f_MS_4 fl_MS_87 w_65 (s_65 hS h0) ?_
        refine Wa.iconst (v := 1) d_MS_pass_37 rfl ?_
        refine Wa.iadd d_MS_pass_38 ?_
        refine Wx.putI 13 4 d_MS_pass_39 f_MS_4 ok_MS fl_MS_87 (Or.inl rfl) w_65 (s_65 hS h0) ?_
        refine Wa.iinc (i := 1) (j := 1) (v := (x1 + 1)) (L' := [(1, .int (x1 + 1)), (0, .ref (hd 65 i0))]) d_MS_pass_42 rfl rfl (by decide) rfl ?_
        refine Wa.goto 2 d_MS_pass_45 (by decide) ?_
        exact Wa.loc [1, 0] rfl hF
set_option maxHeartbeats 4000000 in
set_option maxRecDepth 20000 in
theorem g_MS_pass_54 {d rc rs : Nat} {Q : Option Value → Mu → Prop} {μ : Mu} {i0 : Nat} {x1 : Int32} (hD : 1 ≤ d) (h0 : i0 < 2) (hS : St μ)
    (hF : (((mI μ (hd 50 (px μ (hd 40 0) 11)) 0) ≤ x1 → Q none (setI μ (hd 65 i0) 0 ((mI μ (hd 65 i0) 0) + (1 : Int32)))) ∧ (¬ (mI μ (hd 50 (px μ (hd 40 0) 11)) 0) ≤ x1 → (Cal K_MS_next (d - 1) 0 0 [.ref (hd 65 i0), .int x1] μ (fun r μ2 => ∃ y3, r = some (.int y3) ∧ Wx K_MS_pass d rc rs Q 74 [(0, .ref (hd 65 i0)), (1, .int x1), (2, .int y3)] [] μ2))))) : Wx K_MS_pass d rc rs Q 54 [(0, .ref (hd 65 i0)), (1, .int x1)] [] μ := by
  refine Wa.iload_n (j := 1) d_MS_pass_54 rfl ?_
  refine Wa.aload_n (j := 0) d_MS_pass_55 rfl ?_
  refine Wx.getR 13 23 d_MS_pass_56 f_MS_23 rfl fl_MS_3 (s_65 hS h0) (r_65_23 hS h0) ?_
  have hp1 := St.plan hS
  refine Wx.getR 11 11 d_MS_pass_59 f_MM_11 rfl fl_MS_100 (s_40 hS (by decide)) (hp1.1) ?_
  refine Wx.getI 12 0 d_MS_pass_62 f_MP_0 fl_MS_114 w_50 (s_50 hp1.2) ?_
  refine Wa.icmp_ge 103 d_MS_pass_65 (by decide) (fun hb => ?_) (fun hb => ?_)
  · have hF := hF.1 hb
    refine Wa.aload_n (j := 0) d_MS_pass_103 rfl ?_
    refine Wa.dup d_MS_pass_104 rfl ?_
    refine Wx.getI 13 0 d_MS_pass_105 f_MS_0 fl_MS_74 w_65 (s_65 hS h0) ?_
    refine Wa.iconst (v := 1) d_MS_pass_108 rfl ?_
    refine Wa.iadd d_MS_pass_109 ?_
    refine Wx.putI 13 0 d_MS_pass_110 f_MS_0 ok_MS fl_MS_74 (Or.inl rfl) w_65 (s_65 hS h0) ?_
    exact Wx.retv d_MS_pass_113 rfl hF
  · have hF := hF.2 hb
    refine Wa.aload_n (j := 0) d_MS_pass_68 rfl ?_
    refine Wa.iload_n (j := 1) d_MS_pass_69 rfl ?_
    refine Wx.cVi (q := E_MS) (As := [.int x1]) 13 (d - 1) 0 0 _ d_MS_pass_70 mok_MS_next vl_MS_225 rfl rfl rfl (Nat.le_of_ble_eq_true rfl) (by omega) (Nat.zero_le _) (Nat.zero_le _) (s_65 hS h0) hF (fun y3 μ2 hS hF => ?_)
    refine Wa.istore_n (i := 2) (L' := [(2, .int y3), (0, .ref (hd 65 i0)), (1, .int x1)]) d_MS_pass_73 rfl (by decide) rfl ?_
    exact Wa.loc [1, 2, 0] rfl hF
set_option maxHeartbeats 4000000 in
set_option maxRecDepth 20000 in
theorem g_MS_pass_74 {d rc rs : Nat} {Q : Option Value → Mu → Prop} {μ : Mu} {i0 : Nat} {x1 : Int32} {x2 : Int32} (hD : 1 ≤ d) (h0 : i0 < 2) (hS : St μ)
    (hF : (((mI μ (hd 65 i0) 1) ≤ x2 → Wx K_MS_pass d rc rs Q 54 [(0, .ref (hd 65 i0)), (1, .int (x1 + 1))] [] μ) ∧ (¬ (mI μ (hd 65 i0) 1) ≤ x2 → (Cal K_MS_hang (d - 1) 0 0 [.ref (hd 65 i0), .int x1, .int x2] μ (fun r μ1 => r = none ∧ (Cal K_MS_next (d - 1) 0 0 [.ref (hd 65 i0), .int x1] μ1 (fun r μ2 => ∃ y3, r = some (.int y3) ∧ Wx K_MS_pass d rc rs Q 74 [(0, .ref (hd 65 i0)), (1, .int x1), (2, .int y3)] [] μ2))))))) : Wx K_MS_pass d rc rs Q 74 [(0, .ref (hd 65 i0)), (1, .int x1), (2, .int x2)] [] μ := by
  refine Wa.iload_n (j := 2) d_MS_pass_74 rfl ?_
  refine Wa.aload_n (j := 0) d_MS_pass_75 rfl ?_
  refine Wx.getI 13 1 d_MS_pass_76 f_MS_1 fl_MS_78 w_65 (s_65 hS h0) ?_
  refine Wa.icmp_ge 97 d_MS_pass_79 (by decide) (fun hb => ?_) (fun hb => ?_)
  · have hF := hF.1 hb
    refine Wa.iinc (i := 1) (j := 1) (v := (x1 + 1)) (L' := [(1, .int (x1 + 1)), (0, .ref (hd 65 i0)), (2, .int x2)]) d_MS_pass_97 rfl rfl (by decide) rfl ?_
    refine Wa.goto 54 d_MS_pass_100 (by decide) ?_
    exact Wa.loc [1, 0] rfl hF
  · have hF := hF.2 hb
    refine Wa.aload_n (j := 0) d_MS_pass_82 rfl ?_
    refine Wa.iload_n (j := 1) d_MS_pass_83 rfl ?_
    refine Wa.iload_n (j := 2) d_MS_pass_84 rfl ?_
    refine Wx.cVv (q := E_MS) (As := [.int x1, .int x2]) 13 (d - 1) 0 0 _ d_MS_pass_85 mok_MS_hang vl_MS_228 rfl rfl rfl (Nat.le_of_ble_eq_true rfl) (by omega) (Nat.zero_le _) (Nat.zero_le _) (s_65 hS h0) hF (fun μ1 hS hF => ?_)
    refine Wa.aload_n (j := 0) d_MS_pass_88 rfl ?_
    refine Wa.iload_n (j := 1) d_MS_pass_89 rfl ?_
    refine Wx.cVi (q := E_MS) (As := [.int x1]) 13 (d - 1) 0 0 _ d_MS_pass_90 mok_MS_next vl_MS_225 rfl rfl rfl (Nat.le_of_ble_eq_true rfl) (by omega) (Nat.zero_le _) (Nat.zero_le _) (s_65 hS h0) hF (fun y3 μ2 hS hF => ?_)
    refine Wa.istore_n (i := 2) (L' := [(2, .int y3), (0, .ref (hd 65 i0)), (1, .int x1)]) d_MS_pass_93 rfl (by decide) rfl ?_
    refine Wa.goto 74 d_MS_pass_94 (by decide) ?_
    exact Wa.loc [1, 2, 0] rfl hF
set_option maxHeartbeats 4000000 in
set_option maxRecDepth 20000 in
theorem g_MS_pass__0 {d rc rs : Nat} {Q : Option Value → Mu → Prop} {μ : Mu} {i0 : Nat} {x1 : Int32} (hD : 1 ≤ d) (h0 : i0 < 2) (hS : St μ)
    (hF : Wx K_MS_pass_ d rc rs Q 2 [(0, .ref (hd 65 i0)), (1, .int x1), (2, .int 0)] [] μ) : Wx K_MS_pass_ d rc rs Q 0 [(0, .ref (hd 65 i0)), (1, .int x1)] [] μ := by
  refine Wa.iconst (v := 0) d_MS_pass__0 rfl ?_
  refine Wa.istore_n (i := 2) (L' := [(2, .int 0), (0, .ref (hd 65 i0)), (1, .int x1)]) d_MS_pass__1 rfl (by decide) rfl ?_
  exact Wa.loc [1, 2, 0] rfl hF
theorem e_MS_pass_ {d rc rs : Nat} {Q : Option Value → Mu → Prop} {μ : Mu} {i0 : Nat} {x1 : Int32} (hk : Wx K_MS_pass_ d rc rs (fun r μ' => St μ' ∧ Q r μ') 0 [(0, .ref (hd 65 i0)), (1, .int x1)] [] μ) : Cal K_MS_pass_ d rc rs [.ref (hd 65 i0), .int x1] μ Q := Cal.of (by decide +kernel) rfl rfl (Nat.le_of_ble_eq_true rfl) rfl hk
set_option maxHeartbeats 4000000 in
set_option maxRecDepth 20000 in
theorem g_MS_pass__2 {d rc rs : Nat} {Q : Option Value → Mu → Prop} {μ : Mu} {i0 : Nat} {x1 : Int32} {x2 : Int32} (hD : 1 ≤ d) (h0 : i0 < 2) (hS : St μ)
    (hF : ((x1 ≤ x2 → Q (some (.ref (hd 65 i0))) μ) ∧ (¬ x1 ≤ x2 → (Cal K_MS_pass (d - 1) 0 0 [.ref (hd 65 i0)] μ (fun r μ1 => r = none ∧ Wx K_MS_pass_ d rc rs Q 2 [(0, .ref (hd 65 i0)), (1, .int x1), (2, .int (x2 + 1))] [] μ1))))) : Wx K_MS_pass_ d rc rs Q 2 [(0, .ref (hd 65 i0)), (1, .int x1), (2, .int x2)] [] μ := by
  refine Wa.iload_n (j := 2) d_MS_pass__2 rfl ?_
  refine Wa.iload_n (j := 1) d_MS_pass__3 rfl ?_
  refine Wa.icmp_ge 17 d_MS_pass__4 (by decide) (fun hb => ?_) (fun hb => ?_)
  · have hF := hF.1 hb
    refine Wa.aload_n (j := 0) d_MS_pass__17 rfl ?_
    exact Wx.reta d_MS_pass__18 rfl hF
  · have hF := hF.2 hb
    refine Wa.aload_n (j := 0) d_MS_pass__7 rfl ?_
    refine Wx.cVv (q := E_MS) (As := []) 13 (d - 1) 0 0 _ d_MS_pass__8 mok_MS_pass vl_MS_232 rfl rfl rfl (Nat.le_of_ble_eq_true rfl) (by omega) (Nat.zero_le _) (Nat.zero_le _) (s_65 hS h0) hF (fun μ1 hS hF => ?_)
    refine Wa.iinc (i := 2) (j := 2) (v := (x2 + 1)) (L' := [(2, .int (x2 + 1)), (0, .ref (hd 65 i0)), (1, .int x1)]) d_MS_pass__11 rfl rfl (by decide) rfl ?_
    refine Wa.goto 2 d_MS_pass__14 (by decide) ?_
    exact Wa.loc [1, 2, 0] rfl hF
set_option maxHeartbeats 4000000 in
set_option maxRecDepth 20000 in
theorem g_MS_known_0 {d rc rs : Nat} {Q : Option Value → Mu → Prop} {μ : Mu} {i0 : Nat} {x1 : Int32} (hD : 1 ≤ d) (h0 : i0 < 2) (hS : St μ)
    (hF : Wx K_MS_known d rc rs Q 4 [(0, .ref (hd 65 i0)), (1, .int x1), (2, .int 0), (3, .int 0)] [] μ) : Wx K_MS_known d rc rs Q 0 [(0, .ref (hd 65 i0)), (1, .int x1)] [] μ := by
  refine Wa.iconst (v := 0) d_MS_known_0 rfl ?_
  refine Wa.istore_n (i := 2) (L' := [(2, .int 0), (0, .ref (hd 65 i0)), (1, .int x1)]) d_MS_known_1 rfl (by decide) rfl ?_
  refine Wa.iconst (v := 0) d_MS_known_2 rfl ?_
  refine Wa.istore_n (i := 3) (L' := [(3, .int 0), (2, .int 0), (0, .ref (hd 65 i0)), (1, .int x1)]) d_MS_known_3 rfl (by decide) rfl ?_
  exact Wa.loc [2, 3, 1, 0] rfl hF
theorem e_MS_known {d rc rs : Nat} {Q : Option Value → Mu → Prop} {μ : Mu} {i0 : Nat} {x1 : Int32} (hk : Wx K_MS_known d rc rs (fun r μ' => St μ' ∧ Q r μ') 0 [(0, .ref (hd 65 i0)), (1, .int x1)] [] μ) : Cal K_MS_known d rc rs [.ref (hd 65 i0), .int x1] μ Q := Cal.of (by decide +kernel) rfl rfl (Nat.le_of_ble_eq_true rfl) rfl hk
set_option maxHeartbeats 4000000 in
set_option maxRecDepth 20000 in
theorem g_MS_known_4 {d rc rs : Nat} {Q : Option Value → Mu → Prop} {μ : Mu} {i0 : Nat} {x1 : Int32} {x2 : Int32} {x3 : Int32} (hD : 1 ≤ d) (h0 : i0 < 2) (hS : St μ)
    (hF : (((mI μ (hd 50 (px μ (hd 40 0) 11)) 0) ≤ x3 → Q (some (.int x2)) μ) ∧ (¬ (mI μ (hd 50 (px μ (hd 40 0) 11)) 0) ≤ x3 → (Cal K_MS_numberOf (d - 1) 0 0 [.ref (hd 65 i0), .int x1, .int x3] μ (fun r μ2 => ∃ y3, r = some (.int y3) ∧ Wx K_MS_known d rc rs Q 4 [(0, .ref (hd 65 i0)), (1, .int x1), (2, .int (x2 + y3)), (3, .int (x3 + 1))] [] μ2))))) : Wx K_MS_known d rc rs Q 4 [(0, .ref (hd 65 i0)), (1, .int x1), (2, .int x2), (3, .int x3)] [] μ := by
  refine Wa.iload_n (j := 3) d_MS_known_4 rfl ?_
  refine Wa.aload_n (j := 0) d_MS_known_5 rfl ?_
  refine Wx.getR 13 23 d_MS_known_6 f_MS_23 rfl fl_MS_3 (s_65 hS h0) (r_65_23 hS h0) ?_
  have hp1 := St.plan hS
  refine Wx.getR 11 11 d_MS_known_9 f_MM_11 rfl fl_MS_100 (s_40 hS (by decide)) (hp1.1) ?_
  refine Wx.getI 12 0 d_MS_known_12 f_MP_0 fl_MS_114 w_50 (s_50 hp1.2) ?_
  refine Wa.icmp_ge 33 d_MS_known_15 (by decide) (fun hb => ?_) (fun hb => ?_)
  · have hF := hF.1 hb
    refine Wa.iload_n (j := 2) d_MS_known_33 rfl ?_
    exact Wx.reti d_MS_known_34 rfl hF
  · have hF := hF.2 hb
    refine Wa.iload_n (j := 2) d_MS_known_18 rfl ?_
    refine Wa.aload_n (j := 0) d_MS_known_19 rfl ?_
    refine Wa.iload_n (j := 1) d_MS_known_20 rfl ?_
    refine Wa.iload_n (j := 3) d_MS_known_21 rfl ?_
    refine Wx.cVi (q := E_MS) (As := [.int x1, .int x3]) 13 (d - 1) 0 0 _ d_MS_known_22 mok_MS_numberOf vl_MS_111 rfl rfl rfl (Nat.le_of_ble_eq_true rfl) (by omega) (Nat.zero_le _) (Nat.zero_le _) (s_65 hS h0) hF (fun y3 μ2 hS hF => ?_)
    refine Wa.iadd d_MS_known_25 ?_
    refine Wa.istore_n (i := 2) (L' := [(2, .int (x2 + y3)), (0, .ref (hd 65 i0)), (1, .int x1), (3, .int x3)]) d_MS_known_26 rfl (by decide) rfl ?_
    refine Wa.iinc (i := 3) (j := 3) (v := (x3 + 1)) (L' := [(3, .int (x3 + 1)), (2, .int (x2 + y3)), (0, .ref (hd 65 i0)), (1, .int x1)]) d_MS_known_27 rfl rfl (by decide) rfl ?_
    refine Wa.goto 4 d_MS_known_30 (by decide) ?_
    exact Wa.loc [2, 3, 1, 0] rfl hF
set_option maxHeartbeats 4000000 in
set_option maxRecDepth 20000 in
theorem g_MS_allKnown_0 {d rc rs : Nat} {Q : Option Value → Mu → Prop} {μ : Mu} {i0 : Nat} (hD : 1 ≤ d) (h0 : i0 < 2) (hS : St μ)
    (hF : Wx K_MS_allKnown d rc rs Q 4 [(0, .ref (hd 65 i0)), (1, .int 0), (2, .int 0)] [] μ) : Wx K_MS_allKnown d rc rs Q 0 [(0, .ref (hd 65 i0))] [] μ := by
  refine Wa.iconst (v := 0) d_MS_allKnown_0 rfl ?_
  refine Wa.istore_n (i := 1) (L' := [(1, .int 0), (0, .ref (hd 65 i0))]) d_MS_allKnown_1 rfl (by decide) rfl ?_
  refine Wa.iconst (v := 0) d_MS_allKnown_2 rfl ?_
  refine Wa.istore_n (i := 2) (L' := [(2, .int 0), (1, .int 0), (0, .ref (hd 65 i0))]) d_MS_allKnown_3 rfl (by decide) rfl ?_
  exact Wa.loc [2, 1, 0] rfl hF
theorem e_MS_allKnown {d rc rs : Nat} {Q : Option Value → Mu → Prop} {μ : Mu} {i0 : Nat} (hk : Wx K_MS_allKnown d rc rs (fun r μ' => St μ' ∧ Q r μ') 0 [(0, .ref (hd 65 i0))] [] μ) : Cal K_MS_allKnown d rc rs [.ref (hd 65 i0)] μ Q := Cal.of (by decide +kernel) rfl rfl (Nat.le_of_ble_eq_true rfl) rfl hk
set_option maxHeartbeats 4000000 in
set_option maxRecDepth 20000 in
theorem g_MS_allKnown_4 {d rc rs : Nat} {Q : Option Value → Mu → Prop} {μ : Mu} {i0 : Nat} {x1 : Int32} {x2 : Int32} (hD : 1 ≤ d) (h0 : i0 < 2) (hS : St μ)
    (hF : (((mI μ (hd 50 (px μ (hd 40 0) 11)) 0) ≤ x2 → Q (some (.int x1)) μ) ∧ (¬ (mI μ (hd 50 (px μ (hd 40 0) 11)) 0) ≤ x2 → (Cal K_MS_known (d - 1) 0 0 [.ref (hd 65 i0), .int x2] μ (fun r μ2 => ∃ y3, r = some (.int y3) ∧ Wx K_MS_allKnown d rc rs Q 4 [(0, .ref (hd 65 i0)), (1, .int (x1 + y3)), (2, .int (x2 + 1))] [] μ2))))) : Wx K_MS_allKnown d rc rs Q 4 [(0, .ref (hd 65 i0)), (1, .int x1), (2, .int x2)] [] μ := by
  refine Wa.iload_n (j := 2) d_MS_allKnown_4 rfl ?_
  refine Wa.aload_n (j := 0) d_MS_allKnown_5 rfl ?_
  refine Wx.getR 13 23 d_MS_allKnown_6 f_MS_23 rfl fl_MS_3 (s_65 hS h0) (r_65_23 hS h0) ?_
  have hp1 := St.plan hS
  refine Wx.getR 11 11 d_MS_allKnown_9 f_MM_11 rfl fl_MS_100 (s_40 hS (by decide)) (hp1.1) ?_
  refine Wx.getI 12 0 d_MS_allKnown_12 f_MP_0 fl_MS_114 w_50 (s_50 hp1.2) ?_
  refine Wa.icmp_ge 32 d_MS_allKnown_15 (by decide) (fun hb => ?_) (fun hb => ?_)
  · have hF := hF.1 hb
    refine Wa.iload_n (j := 1) d_MS_allKnown_32 rfl ?_
    exact Wx.reti d_MS_allKnown_33 rfl hF
  · have hF := hF.2 hb
    refine Wa.iload_n (j := 1) d_MS_allKnown_18 rfl ?_
    refine Wa.aload_n (j := 0) d_MS_allKnown_19 rfl ?_
    refine Wa.iload_n (j := 2) d_MS_allKnown_20 rfl ?_
    refine Wx.cVi (q := E_MS) (As := [.int x2]) 13 (d - 1) 0 0 _ d_MS_allKnown_21 mok_MS_known vl_MS_235 rfl rfl rfl (Nat.le_of_ble_eq_true rfl) (by omega) (Nat.zero_le _) (Nat.zero_le _) (s_65 hS h0) hF (fun y3 μ2 hS hF => ?_)
    refine Wa.iadd d_MS_allKnown_24 ?_
    refine Wa.istore_n (i := 1) (L' := [(1, .int (x1 + y3)), (0, .ref (hd 65 i0)), (2, .int x2)]) d_MS_allKnown_25 rfl (by decide) rfl ?_
    refine Wa.iinc (i := 2) (j := 2) (v := (x2 + 1)) (L' := [(2, .int (x2 + 1)), (1, .int (x1 + y3)), (0, .ref (hd 65 i0))]) d_MS_allKnown_26 rfl rfl (by decide) rfl ?_
    refine Wa.goto 4 d_MS_allKnown_29 (by decide) ?_
    exact Wa.loc [2, 1, 0] rfl hF
set_option maxHeartbeats 4000000 in
set_option maxRecDepth 20000 in
theorem g_MS_noticesOf_0 {d rc rs : Nat} {Q : Option Value → Mu → Prop} {μ : Mu} {i0 : Nat} {x1 : Int32} {x2 : Int32} (hD : 1 ≤ d) (h0 : i0 < 2) (hS : St μ)
    (hF : Wx K_MS_noticesOf d rc rs Q 5 [(0, .ref (hd 65 i0)), (1, .int x1), (2, .int x2), (3, .int 0), (4, .int 0)] [] μ) : Wx K_MS_noticesOf d rc rs Q 0 [(0, .ref (hd 65 i0)), (1, .int x1), (2, .int x2)] [] μ := by
  refine Wa.iconst (v := 0) d_MS_noticesOf_0 rfl ?_
  refine Wa.istore_n (i := 3) (L' := [(3, .int 0), (0, .ref (hd 65 i0)), (1, .int x1), (2, .int x2)]) d_MS_noticesOf_1 rfl (by decide) rfl ?_
  refine Wa.iconst (v := 0) d_MS_noticesOf_2 rfl ?_
  refine Wa.istore (i := 4) (L' := [(4, .int 0), (3, .int 0), (0, .ref (hd 65 i0)), (1, .int x1), (2, .int x2)]) d_MS_noticesOf_3 (by decide) rfl ?_
  exact Wa.loc [2, 3, 4, 1, 0] rfl hF
theorem e_MS_noticesOf {d rc rs : Nat} {Q : Option Value → Mu → Prop} {μ : Mu} {i0 : Nat} {x1 : Int32} {x2 : Int32} (hk : Wx K_MS_noticesOf d rc rs (fun r μ' => St μ' ∧ Q r μ') 0 [(0, .ref (hd 65 i0)), (1, .int x1), (2, .int x2)] [] μ) : Cal K_MS_noticesOf d rc rs [.ref (hd 65 i0), .int x1, .int x2] μ Q := Cal.of (by decide +kernel) rfl rfl (Nat.le_of_ble_eq_true rfl) rfl hk
set_option maxHeartbeats 4000000 in
set_option maxRecDepth 20000 in
theorem g_MS_noticesOf_5 {d rc rs : Nat} {Q : Option Value → Mu → Prop} {μ : Mu} {i0 : Nat} {x1 : Int32} {x2 : Int32} {x3 : Int32} {x4 : Int32} (hD : 1 ≤ d) (h0 : i0 < 2) (hS : St μ)
    (hF : (((mI μ (hd 50 (px μ (hd 40 0) 11)) 1) ≤ x4 → Q (some (.int x3)) μ) ∧ (¬ (mI μ (hd 50 (px μ (hd 40 0) 11)) 1) ≤ x4 → (Cal K_MS_shows (d - 1) 0 0 [.ref (hd 65 i0), .int x1, .int x4] μ (fun r μ2 => ∃ y3, r = some (.int y3) ∧ ((y3 < x2 → Wx K_MS_noticesOf d rc rs Q 5 [(0, .ref (hd 65 i0)), (1, .int x1), (2, .int x2), (3, .int (x3 + (0 : Int32))), (4, .int (x4 + 1))] [] μ2) ∧ (¬ y3 < x2 → Wx K_MS_noticesOf d rc rs Q 5 [(0, .ref (hd 65 i0)), (1, .int x1), (2, .int x2), (3, .int (x3 + (1 : Int32))), (4, .int (x4 + 1))] [] μ2))))))) : Wx K_MS_noticesOf d rc rs Q 5 [(0, .ref (hd 65 i0)), (1, .int x1), (2, .int x2), (3, .int x3), (4, .int x4)] [] μ := by
  refine Wa.iload (j := 4) d_MS_noticesOf_5 rfl ?_
  refine Wa.aload_n (j := 0) d_MS_noticesOf_7 rfl ?_
  refine Wx.getR 13 23 d_MS_noticesOf_8 f_MS_23 rfl fl_MS_3 (s_65 hS h0) (r_65_23 hS h0) ?_
  have hp1 := St.plan hS
  refine Wx.getR 11 11 d_MS_noticesOf_11 f_MM_11 rfl fl_MS_100 (s_40 hS (by decide)) (hp1.1) ?_
  refine Wx.getI 12 1 d_MS_noticesOf_14 f_MP_1 fl_MS_238 w_50 (s_50 hp1.2) ?_
  refine Wa.icmp_ge 45 d_MS_noticesOf_17 (by decide) (fun hb => ?_) (fun hb => ?_)
  · have hF := hF.1 hb
    refine Wa.iload_n (j := 3) d_MS_noticesOf_45 rfl ?_
    exact Wx.reti d_MS_noticesOf_46 rfl hF
  · have hF := hF.2 hb
    refine Wa.iload_n (j := 3) d_MS_noticesOf_20 rfl ?_
    refine Wa.aload_n (j := 0) d_MS_noticesOf_21 rfl ?_
    refine Wa.iload_n (j := 1) d_MS_noticesOf_22 rfl ?_
    refine Wa.iload (j := 4) d_MS_noticesOf_23 rfl ?_
    refine Wx.cVi (q := E_MS) (As := [.int x1, .int x4]) 13 (d - 1) 0 0 _ d_MS_noticesOf_25 mok_MS_shows vl_MS_121 rfl rfl rfl (Nat.le_of_ble_eq_true rfl) (by omega) (Nat.zero_le _) (Nat.zero_le _) (s_65 hS h0) hF (fun y3 μ2 hS hF => ?_)
    refine Wa.iload_n (j := 2) d_MS_noticesOf_28 rfl ?_
    refine Wa.icmp_lt 36 d_MS_noticesOf_29 (by decide) (fun hb => ?_) (fun hb => ?_)
    · have hF := hF.1 hb
      refine Wa.iconst (v := 0) d_MS_noticesOf_36 rfl ?_
      refine Wa.iadd d_MS_noticesOf_37 ?_
      refine Wa.istore_n (i := 3) (L' := [(3, .int (x3 + (0 : Int32))), (0, .ref (hd 65 i0)), (1, .int x1), (2, .int x2), (4, .int x4)]) d_MS_noticesOf_38 rfl (by decide) rfl ?_
      refine Wa.iinc (i := 4) (j := 4) (v := (x4 + 1)) (L' := [(4, .int (x4 + 1)), (3, .int (x3 + (0 : Int32))), (0, .ref (hd 65 i0)), (1, .int x1), (2, .int x2)]) d_MS_noticesOf_39 rfl rfl (by decide) rfl ?_
      refine Wa.goto 5 d_MS_noticesOf_42 (by decide) ?_
      exact Wa.loc [2, 3, 4, 1, 0] rfl hF
    · have hF := hF.2 hb
      refine Wa.iconst (v := 1) d_MS_noticesOf_32 rfl ?_
      refine Wa.goto 37 d_MS_noticesOf_33 (by decide) ?_
      refine Wa.iadd d_MS_noticesOf_37 ?_
      refine Wa.istore_n (i := 3) (L' := [(3, .int (x3 + (1 : Int32))), (0, .ref (hd 65 i0)), (1, .int x1), (2, .int x2), (4, .int x4)]) d_MS_noticesOf_38 rfl (by decide) rfl ?_
      refine Wa.iinc (i := 4) (j := 4) (v := (x4 + 1)) (L' := [(4, .int (x4 + 1)), (3, .int (x3 + (1 : Int32))), (0, .ref (hd 65 i0)), (1, .int x1), (2, .int x2)]) d_MS_noticesOf_39 rfl rfl (by decide) rfl ?_
      refine Wa.goto 5 d_MS_noticesOf_42 (by decide) ?_
      exact Wa.loc [2, 3, 4, 1, 0] rfl hF
set_option maxHeartbeats 4000000 in
set_option maxRecDepth 20000 in
theorem g_MS_underWay_0 {d rc rs : Nat} {Q : Option Value → Mu → Prop} {μ : Mu} {i0 : Nat} {x1 : Int32} (hD : 1 ≤ d) (h0 : i0 < 2) (hS : St μ)
    (hF : Wx K_MS_underWay d rc rs Q 4 [(0, .ref (hd 65 i0)), (1, .int x1), (2, .int 0), (3, .int 0)] [] μ) : Wx K_MS_underWay d rc rs Q 0 [(0, .ref (hd 65 i0)), (1, .int x1)] [] μ := by
  refine Wa.iconst (v := 0) d_MS_underWay_0 rfl ?_
  refine Wa.istore_n (i := 2) (L' := [(2, .int 0), (0, .ref (hd 65 i0)), (1, .int x1)]) d_MS_underWay_1 rfl (by decide) rfl ?_
  refine Wa.iconst (v := 0) d_MS_underWay_2 rfl ?_
  refine Wa.istore_n (i := 3) (L' := [(3, .int 0), (2, .int 0), (0, .ref (hd 65 i0)), (1, .int x1)]) d_MS_underWay_3 rfl (by decide) rfl ?_
  exact Wa.loc [2, 3, 1, 0] rfl hF
theorem e_MS_underWay {d rc rs : Nat} {Q : Option Value → Mu → Prop} {μ : Mu} {i0 : Nat} {x1 : Int32} (hk : Wx K_MS_underWay d rc rs (fun r μ' => St μ' ∧ Q r μ') 0 [(0, .ref (hd 65 i0)), (1, .int x1)] [] μ) : Cal K_MS_underWay d rc rs [.ref (hd 65 i0), .int x1] μ Q := Cal.of (by decide +kernel) rfl rfl (Nat.le_of_ble_eq_true rfl) rfl hk
set_option maxHeartbeats 4000000 in
set_option maxRecDepth 20000 in
theorem g_MS_underWay_4 {d rc rs : Nat} {Q : Option Value → Mu → Prop} {μ : Mu} {i0 : Nat} {x1 : Int32} {x2 : Int32} {x3 : Int32} (hD : 1 ≤ d) (h0 : i0 < 2) (hS : St μ)
    (hF : (((mI μ (hd 65 i0) 18) ≤ x3 → Q (some (.int x2)) μ) ∧ (¬ (mI μ (hd 65 i0) 18) ≤ x3 → ((x1 = (-1) → (vp_in x3 480 ∧ (Cal K_MM_bits (d - 1) 0 0 [.long (mL μ (hd 81 i0) x3.toNatClampNeg)] μ (fun r μ2 => ∃ y3, r = some (.int y3) ∧ Wx K_MS_underWay d rc rs Q 4 [(0, .ref (hd 65 i0)), (1, .int x1), (2, .int (x2 + y3)), (3, .int (x3 + 1))] [] μ2)))) ∧ (¬ x1 = (-1) → (vp_in x3 480 ∧ (((mI μ (hd 79 i0) x3.toNatClampNeg) = x1 → (vp_in x3 480 ∧ (Cal K_MM_bits (d - 1) 0 0 [.long (mL μ (hd 81 i0) x3.toNatClampNeg)] μ (fun r μ6 => ∃ y7, r = some (.int y7) ∧ Wx K_MS_underWay d rc rs Q 4 [(0, .ref (hd 65 i0)), (1, .int x1), (2, .int (x2 + y7)), (3, .int (x3 + 1))] [] μ6)))) ∧ (¬ (mI μ (hd 79 i0) x3.toNatClampNeg) = x1 → Wx K_MS_underWay d rc rs Q 4 [(0, .ref (hd 65 i0)), (1, .int x1), (2, .int (x2 + (0 : Int32))), (3, .int (x3 + 1))] [] μ)))))))) : Wx K_MS_underWay d rc rs Q 4 [(0, .ref (hd 65 i0)), (1, .int x1), (2, .int x2), (3, .int x3)] [] μ := by
  refine Wa.iload_n (j := 3) d_MS_underWay_4 rfl ?_
  refine Wa.aload_n (j := 0) d_MS_underWay_5 rfl ?_
  refine Wx.getI 13 18 d_MS_underWay_6 f_MS_18 fl_MS_90 w_65 (s_65 hS h0) ?_
  refine Wa.icmp_ge 49 d_MS_underWay_9 (by decide) (fun hb => ?_) (fun hb => ?_)
  · have hF := hF.1 hb
    refine Wa.iload_n (j := 2) d_MS_underWay_49 rfl ?_
    exact Wx.reti d_MS_underWay_50 rfl hF
  · have hF := hF.2 hb
    refine Wa.iload_n (j := 2) d_MS_underWay_12 rfl ?_
    refine Wa.iload_n (j := 1) d_MS_underWay_13 rfl ?_
    refine Wa.iconst (v := (-1)) d_MS_underWay_14 rfl ?_
    refine Wa.icmp_eq 28 d_MS_underWay_15 (by decide) (fun hb => ?_) (fun hb => ?_)
    · have hF := hF.1 hb
      refine Wa.aload_n (j := 0) d_MS_underWay_28 rfl ?_
      refine Wx.getR 13 21 d_MS_underWay_29 f_MS_21 rfl fl_MS_62 (s_65 hS h0) (r_65_21 hS h0) ?_
      refine Wa.iload_n (j := 3) d_MS_underWay_32 rfl ?_
      have hc1 := hF.1
      have hF := hF.2
      have hlhc1 := vp_in_lt hc1
      refine Wa.lald d_MS_underWay_33 (s_81 hS h0) hc1 ?_
      refine Wx.cSi (As := [.long (mL μ (hd 81 i0) x3.toNatClampNeg)]) (d - 1) 0 0 _ d_MS_underWay_34 mok_MM_bits sl_MS_127 rfl rfl (Nat.le_of_ble_eq_true rfl) (by omega) (Nat.zero_le _) (Nat.zero_le _) hF (fun y3 μ2 hS hF => ?_)
      refine Wa.goto 41 d_MS_underWay_37 (by decide) ?_
      refine Wa.iadd d_MS_underWay_41 ?_
      refine Wa.istore_n (i := 2) (L' := [(2, .int (x2 + y3)), (0, .ref (hd 65 i0)), (1, .int x1), (3, .int x3)]) d_MS_underWay_42 rfl (by decide) rfl ?_
      refine Wa.iinc (i := 3) (j := 3) (v := (x3 + 1)) (L' := [(3, .int (x3 + 1)), (2, .int (x2 + y3)), (0, .ref (hd 65 i0)), (1, .int x1)]) d_MS_underWay_43 rfl rfl (by decide) rfl ?_
      refine Wa.goto 4 d_MS_underWay_46 (by decide) ?_
      exact Wa.loc [2, 3, 1, 0] rfl hF
    · have hF := hF.2 hb
      refine Wa.aload_n (j := 0) d_MS_underWay_18 rfl ?_
      refine Wx.getR 13 19 d_MS_underWay_19 f_MS_19 rfl fl_MS_56 (s_65 hS h0) (r_65_19 hS h0) ?_
      refine Wa.iload_n (j := 3) d_MS_underWay_22 rfl ?_
      have hc4 := hF.1
      have hF := hF.2
      have hlhc4 := vp_in_lt hc4
      refine Wx.iald d_MS_underWay_23 w_79 (s_79 hS h0) hc4 ?_
      refine Wa.iload_n (j := 1) d_MS_underWay_24 rfl ?_
      refine Wa.icmp_ne 40 d_MS_underWay_25 (by decide) (fun hb => ?_) (fun hb => ?_)
      · have hF := hF.2 hb
        refine Wa.iconst (v := 0) d_MS_underWay_40 rfl ?_
        refine Wa.iadd d_MS_underWay_41 ?_
        refine Wa.istore_n (i := 2) (L' := [(2, .int (x2 + (0 : Int32))), (0, .ref (hd 65 i0)), (1, .int x1), (3, .int x3)]) d_MS_underWay_42 rfl (by decide) rfl ?_
        refine Wa.iinc (i := 3) (j := 3) (v := (x3 + 1)) (L' := [(3, .int (x3 + 1)), (2, .int (x2 + (0 : Int32))), (0, .ref (hd 65 i0)), (1, .int x1)]) d_MS_underWay_43 rfl rfl (by decide) rfl ?_
        refine Wa.goto 4 d_MS_underWay_46 (by decide) ?_
        exact Wa.loc [2, 3, 1, 0] rfl hF
      · have hF := hF.1 hb
        refine Wa.aload_n (j := 0) d_MS_underWay_28 rfl ?_
        refine Wx.getR 13 21 d_MS_underWay_29 f_MS_21 rfl fl_MS_62 (s_65 hS h0) (r_65_21 hS h0) ?_
        refine Wa.iload_n (j := 3) d_MS_underWay_32 rfl ?_
        have hc5 := hF.1
        have hF := hF.2
        have hlhc5 := vp_in_lt hc5
        refine Wa.lald d_MS_underWay_33 (s_81 hS h0) hc5 ?_
        refine Wx.cSi (As := [.long (mL μ (hd 81 i0) x3.toNatClampNeg)]) (d - 1) 0 0 _ d_MS_underWay_34 mok_MM_bits sl_MS_127 rfl rfl (Nat.le_of_ble_eq_true rfl) (by omega) (Nat.zero_le _) (Nat.zero_le _) hF (fun y7 μ6 hS hF => ?_)
        refine Wa.goto 41 d_MS_underWay_37 (by decide) ?_
        refine Wa.iadd d_MS_underWay_41 ?_
        refine Wa.istore_n (i := 2) (L' := [(2, .int (x2 + y7)), (0, .ref (hd 65 i0)), (1, .int x1), (3, .int x3)]) d_MS_underWay_42 rfl (by decide) rfl ?_
        refine Wa.iinc (i := 3) (j := 3) (v := (x3 + 1)) (L' := [(3, .int (x3 + 1)), (2, .int (x2 + y7)), (0, .ref (hd 65 i0)), (1, .int x1)]) d_MS_underWay_43 rfl rfl (by decide) rfl ?_
        refine Wa.goto 4 d_MS_underWay_46 (by decide) ?_
        exact Wa.loc [2, 3, 1, 0] rfl hF
set_option maxHeartbeats 4000000 in
set_option maxRecDepth 20000 in
theorem g_MS_counted_0 {d rc rs : Nat} {Q : Option Value → Mu → Prop} {μ : Mu} {i0 : Nat} {x1 : Int32} (hD : 1 ≤ d) (h0 : i0 < 2) (hS : St μ)
    (hF : (((x1 = 5) → Q (some (.int (mI μ (hd 65 i0) 1))) μ) ∧ ((x1 = 6) → (Cal K_MS_underWay (d - 1) 0 0 [.ref (hd 65 i0), .int (-1)] μ (fun r μ3 => ∃ y4, r = some (.int y4) ∧ Q (some (.int y4)) μ3))) ∧ ((x1 = 7) → Wx K_MS_counted d rc rs Q 53 [(0, .ref (hd 65 i0)), (2, .int 0), (3, .int 0)] [] μ) ∧ ((x1 = 8) → Wx K_MS_counted d rc rs Q 85 [(0, .ref (hd 65 i0)), (2, .int 0), (3, .int 0)] [] μ) ∧ ((x1 = 9) → Q (some (.int (mI μ (hd 65 i0) 2))) μ) ∧ ((x1 = 10) → Q (some (.int (mI μ (hd 65 i0) 3))) μ) ∧ ((x1.toInt < 5 ∨ 10 < x1.toInt) → Q (some (.int (mI μ (hd 65 i0) 4))) μ))) : Wx K_MS_counted d rc rs Q 0 [(0, .ref (hd 65 i0)), (1, .int x1)] [] μ := by
  refine Wa.iconst (v := 0) d_MS_counted_0 rfl ?_
  refine Wa.istore_n (i := 2) (L' := [(2, .int 0), (0, .ref (hd 65 i0)), (1, .int x1)]) d_MS_counted_1 rfl (by decide) rfl ?_
  refine Wa.iload_n (j := 2) d_MS_counted_2 rfl ?_
  have k1 : (x1 = 5) → Wx K_MS_counted d rc rs Q 40 [(2, .int 0), (0, .ref (hd 65 i0)), (1, .int x1)] [] μ := by
    intro hb
    have hF := hF.1 hb
    refine Wa.aload_n (j := 1) d_MS_counted_40 rfl ?_
    refine Wx.getI 13 1 d_MS_counted_41 f_MS_1 fl_MS_78 w_65 (s_65 hS h0) ?_
    exact Wx.reti d_MS_counted_44 rfl hF
  have k2 : (x1 = 6) → Wx K_MS_counted d rc rs Q 45 [(2, .int 0), (0, .ref (hd 65 i0)), (1, .int x1)] [] μ := by
    intro hb
    have hF := hF.2.1 hb
    refine Wa.aload_n (j := 1) d_MS_counted_45 rfl ?_
    refine Wa.iconst (v := (-1)) d_MS_counted_46 rfl ?_
    refine Wx.cVi (q := E_MS) (As := [.int (-1)]) 13 (d - 1) 0 0 _ d_MS_counted_47 mok_MS_underWay vl_MS_241 rfl rfl rfl (Nat.le_of_ble_eq_true rfl) (by omega) (Nat.zero_le _) (Nat.zero_le _) (s_65 hS h0) hF (fun y4 μ3 hS hF => ?_)
    exact Wx.reti d_MS_counted_50 rfl hF
  have k5 : (x1 = 7) → Wx K_MS_counted d rc rs Q 51 [(2, .int 0), (0, .ref (hd 65 i0)), (1, .int x1)] [] μ := by
    intro hb
    have hF := hF.2.2.1 hb
    refine Wa.iconst (v := 0) d_MS_counted_51 rfl ?_
    refine Wa.istore_n (i := 3) (L' := [(3, .int 0), (2, .int 0), (0, .ref (hd 65 i0)), (1, .int x1)]) d_MS_counted_52 rfl (by decide) rfl ?_
    exact Wa.loc [2, 1, 0] rfl hF
  have k6 : (x1 = 8) → Wx K_MS_counted d rc rs Q 83 [(2, .int 0), (0, .ref (hd 65 i0)), (1, .int x1)] [] μ := by
    intro hb
    have hF := hF.2.2.2.1 hb
    refine Wa.iconst (v := 0) d_MS_counted_83 rfl ?_
    refine Wa.istore_n (i := 3) (L' := [(3, .int 0), (2, .int 0), (0, .ref (hd 65 i0)), (1, .int x1)]) d_MS_counted_84 rfl (by decide) rfl ?_
    exact Wa.loc [2, 1, 0] rfl hF
  have k7 : (x1 = 9) → Wx K_MS_counted d rc rs Q 116 [(2, .int 0), (0, .ref (hd 65 i0)), (1, .int x1)] [] μ := by
    intro hb
    have hF := hF.2.2.2.2.1 hb
    refine Wa.aload_n (j := 1) d_MS_counted_116 rfl ?_
    refine Wx.getI 13 2 d_MS_counted_117 f_MS_2 fl_MS_81 w_65 (s_65 hS h0) ?_
    exact Wx.reti d_MS_counted_120 rfl hF
  have k8 : (x1 = 10) → Wx K_MS_counted d rc rs Q 121 [(2, .int 0), (0, .ref (hd 65 i0)), (1, .int x1)] [] μ := by
    intro hb
    have hF := hF.2.2.2.2.2.1 hb
    refine Wa.aload_n (j := 1) d_MS_counted_121 rfl ?_
    refine Wx.getI 13 3 d_MS_counted_122 f_MS_3 fl_MS_84 w_65 (s_65 hS h0) ?_
    exact Wx.reti d_MS_counted_125 rfl hF
  have k9 : (x1.toInt < 5 ∨ 10 < x1.toInt) → Wx K_MS_counted d rc rs Q 126 [(2, .int 0), (0, .ref (hd 65 i0)), (1, .int x1)] [] μ := by
    intro hb
    have hF := hF.2.2.2.2.2.2 hb
    refine Wa.aload_n (j := 1) d_MS_counted_126 rfl ?_
    refine Wx.getI 13 4 d_MS_counted_127 f_MS_4 fl_MS_87 w_65 (s_65 hS h0) ?_
    exact Wx.reti d_MS_counted_130 rfl hF
  rcases sw_5_10 x1 with hb | hb | hb | hb | hb | hb | hb | hb
  · exact Wa.tabOut 126 d_MS_counted_3 (Or.inl hb) (by decide) (k9 (Or.inl hb))
  · exact Wa.tabOut 126 d_MS_counted_3 (Or.inr hb) (by decide) (k9 (Or.inr hb))
  · exact Wa.tabIn 40 d_MS_counted_3 (by rw [hb]; decide) (by rw [hb]; decide) (by rw [hb]; rfl) (by decide) (k1 hb)
  · exact Wa.tabIn 45 d_MS_counted_3 (by rw [hb]; decide) (by rw [hb]; decide) (by rw [hb]; rfl) (by decide) (k2 hb)
  · exact Wa.tabIn 51 d_MS_counted_3 (by rw [hb]; decide) (by rw [hb]; decide) (by rw [hb]; rfl) (by decide) (k5 hb)
  · exact Wa.tabIn 83 d_MS_counted_3 (by rw [hb]; decide) (by rw [hb]; decide) (by rw [hb]; rfl) (by decide) (k6 hb)
  · exact Wa.tabIn 116 d_MS_counted_3 (by rw [hb]; decide) (by rw [hb]; decide) (by rw [hb]; rfl) (by decide) (k7 hb)
  · exact Wa.tabIn 121 d_MS_counted_3 (by rw [hb]; decide) (by rw [hb]; decide) (by rw [hb]; rfl) (by decide) (k8 hb)
theorem e_MS_counted {d rc rs : Nat} {Q : Option Value → Mu → Prop} {μ : Mu} {i0 : Nat} {x1 : Int32} (hk : Wx K_MS_counted d rc rs (fun r μ' => St μ' ∧ Q r μ') 0 [(0, .ref (hd 65 i0)), (1, .int x1)] [] μ) : Cal K_MS_counted d rc rs [.ref (hd 65 i0), .int x1] μ Q := Cal.of (by decide +kernel) rfl rfl (Nat.le_of_ble_eq_true rfl) rfl hk
set_option maxHeartbeats 4000000 in
set_option maxRecDepth 20000 in
theorem g_MS_counted_53 {d rc rs : Nat} {Q : Option Value → Mu → Prop} {μ : Mu} {i0 : Nat} {x2 : Int32} {x3 : Int32} (hD : 1 ≤ d) (h0 : i0 < 2) (hS : St μ)
    (hF : (((mI μ (hd 50 (px μ (hd 40 0) 11)) 0) ≤ x3 → Q (some (.int x2)) μ) ∧ (¬ (mI μ (hd 50 (px μ (hd 40 0) 11)) 0) ≤ x3 → (Cal K_MS_waits (d - 1) 0 0 [.ref (hd 65 i0), .int x3] μ (fun r μ2 => ∃ y3, r = some (.int y3) ∧ Wx K_MS_counted d rc rs Q 53 [(0, .ref (hd 65 i0)), (2, .int (x2 + y3)), (3, .int (x3 + 1))] [] μ2))))) : Wx K_MS_counted d rc rs Q 53 [(0, .ref (hd 65 i0)), (2, .int x2), (3, .int x3)] [] μ := by
  refine Wa.iload_n (j := 2) d_MS_counted_53 rfl ?_
  refine Wa.aload_n (j := 0) d_MS_counted_54 rfl ?_
  refine Wx.getR 13 23 d_MS_counted_55 f_MS_23 rfl fl_MS_3 (s_65 hS h0) (r_65_23 hS h0) ?_
  have hp1 := St.plan hS
  refine Wx.getR 11 11 d_MS_counted_58 f_MM_11 rfl fl_MS_100 (s_40 hS (by decide)) (hp1.1) ?_
  refine Wx.getI 12 0 d_MS_counted_61 f_MP_0 fl_MS_114 w_50 (s_50 hp1.2) ?_
  refine Wa.icmp_ge 81 d_MS_counted_64 (by decide) (fun hb => ?_) (fun hb => ?_)
  · have hF := hF.1 hb
    refine Wa.iload_n (j := 1) d_MS_counted_81 rfl ?_
    exact Wx.reti d_MS_counted_82 rfl hF
  · have hF := hF.2 hb
    refine Wa.iload_n (j := 1) d_MS_counted_67 rfl ?_
    refine Wa.aload_n (j := 0) d_MS_counted_68 rfl ?_
    refine Wa.iload_n (j := 2) d_MS_counted_69 rfl ?_
    refine Wx.cVi (q := E_MS) (As := [.int x3]) 13 (d - 1) 0 0 _ d_MS_counted_70 mok_MS_waits vl_MS_244 rfl rfl rfl (Nat.le_of_ble_eq_true rfl) (by omega) (Nat.zero_le _) (Nat.zero_le _) (s_65 hS h0) hF (fun y3 μ2 hS hF => ?_)
    refine Wa.iadd d_MS_counted_73 ?_
    refine Wa.istore_n (i := 2) (L' := [(2, .int (x2 + y3)), (0, .ref (hd 65 i0)), (3, .int x3)]) d_MS_counted_74 rfl (by decide) rfl ?_
    refine Wa.iinc (i := 3) (j := 2) (v := (x3 + 1)) (L' := [(3, .int (x3 + 1)), (2, .int (x2 + y3)), (0, .ref (hd 65 i0))]) d_MS_counted_75 rfl rfl (by decide) rfl ?_
    refine Wa.goto 53 d_MS_counted_78 (by decide) ?_
    exact Wa.loc [2, 1, 0] rfl hF
set_option maxHeartbeats 4000000 in
set_option maxRecDepth 20000 in
theorem g_MS_counted_85 {d rc rs : Nat} {Q : Option Value → Mu → Prop} {μ : Mu} {i0 : Nat} {x2 : Int32} {x3 : Int32} (hD : 1 ≤ d) (h0 : i0 < 2) (hS : St μ)
    (hF : (((mI μ (hd 50 (px μ (hd 40 0) 11)) 0) ≤ x3 → Q (some (.int x2)) μ) ∧ (¬ (mI μ (hd 50 (px μ (hd 40 0) 11)) 0) ≤ x3 → (Cal K_MS_noticesOf (d - 1) 0 0 [.ref (hd 65 i0), .int x3, .int 2] μ (fun r μ2 => ∃ y3, r = some (.int y3) ∧ Wx K_MS_counted d rc rs Q 85 [(0, .ref (hd 65 i0)), (2, .int (x2 + y3)), (3, .int (x3 + 1))] [] μ2))))) : Wx K_MS_counted d rc rs Q 85 [(0, .ref (hd 65 i0)), (2, .int x2), (3, .int x3)] [] μ := by
  refine Wa.iload_n (j := 2) d_MS_counted_85 rfl ?_
  refine Wa.aload_n (j := 0) d_MS_counted_86 rfl ?_
  refine Wx.getR 13 23 d_MS_counted_87 f_MS_23 rfl fl_MS_3 (s_65 hS h0) (r_65_23 hS h0) ?_
  have hp1 := St.plan hS
  refine Wx.getR 11 11 d_MS_counted_90 f_MM_11 rfl fl_MS_100 (s_40 hS (by decide)) (hp1.1) ?_
  refine Wx.getI 12 0 d_MS_counted_93 f_MP_0 fl_MS_114 w_50 (s_50 hp1.2) ?_
  refine Wa.icmp_ge 114 d_MS_counted_96 (by decide) (fun hb => ?_) (fun hb => ?_)
  · have hF := hF.1 hb
    refine Wa.iload_n (j := 1) d_MS_counted_114 rfl ?_
    exact Wx.reti d_MS_counted_115 rfl hF
  · have hF := hF.2 hb
    refine Wa.iload_n (j := 1) d_MS_counted_99 rfl ?_
    refine Wa.aload_n (j := 0) d_MS_counted_100 rfl ?_
    refine Wa.iload_n (j := 2) d_MS_counted_101 rfl ?_
    refine Wa.iconst (v := 2) d_MS_counted_102 rfl ?_
    refine Wx.cVi (q := E_MS) (As := [.int x3, .int 2]) 13 (d - 1) 0 0 _ d_MS_counted_103 mok_MS_noticesOf vl_MS_247 rfl rfl rfl (Nat.le_of_ble_eq_true rfl) (by omega) (Nat.zero_le _) (Nat.zero_le _) (s_65 hS h0) hF (fun y3 μ2 hS hF => ?_)
    refine Wa.iadd d_MS_counted_106 ?_
    refine Wa.istore_n (i := 2) (L' := [(2, .int (x2 + y3)), (0, .ref (hd 65 i0)), (3, .int x3)]) d_MS_counted_107 rfl (by decide) rfl ?_
    refine Wa.iinc (i := 3) (j := 2) (v := (x3 + 1)) (L' := [(3, .int (x3 + 1)), (2, .int (x2 + y3)), (0, .ref (hd 65 i0))]) d_MS_counted_108 rfl rfl (by decide) rfl ?_
    refine Wa.goto 85 d_MS_counted_111 (by decide) ?_
    exact Wa.loc [2, 1, 0] rfl hF
set_option maxHeartbeats 4000000 in
set_option maxRecDepth 20000 in
theorem g_MS_carryOut_0 {d rc rs : Nat} {Q : Option Value → Mu → Prop} {μ : Mu} {i0 : Nat} {x1 : Int32} {x2 : Int32} (hD : 1 ≤ d) (h0 : i0 < 2) (hS : St μ)
    (hF : Wx K_MS_carryOut d rc rs Q 5 [(0, .ref (hd 65 i0)), (2, .int x2), (3, .int (-1)), (4, .int x1)] [] μ) : Wx K_MS_carryOut d rc rs Q 0 [(0, .ref (hd 65 i0)), (1, .int x1), (2, .int x2)] [] μ := by
  refine Wa.iconst (v := (-1)) d_MS_carryOut_0 rfl ?_
  refine Wa.istore_n (i := 3) (L' := [(3, .int (-1)), (0, .ref (hd 65 i0)), (1, .int x1), (2, .int x2)]) d_MS_carryOut_1 rfl (by decide) rfl ?_
  refine Wa.iload_n (j := 2) d_MS_carryOut_2 rfl ?_
  refine Wa.istore (i := 4) (L' := [(4, .int x1), (3, .int (-1)), (0, .ref (hd 65 i0)), (1, .int x1), (2, .int x2)]) d_MS_carryOut_3 (by decide) rfl ?_
  exact Wa.loc [2, 4, 1, 0] rfl hF
theorem e_MS_carryOut {d rc rs : Nat} {Q : Option Value → Mu → Prop} {μ : Mu} {i0 : Nat} {x1 : Int32} {x2 : Int32} (hk : Wx K_MS_carryOut d rc rs (fun r μ' => St μ' ∧ Q r μ') 0 [(0, .ref (hd 65 i0)), (1, .int x1), (2, .int x2)] [] μ) : Cal K_MS_carryOut d rc rs [.ref (hd 65 i0), .int x1, .int x2] μ Q := Cal.of (by decide +kernel) rfl rfl (Nat.le_of_ble_eq_true rfl) rfl hk
set_option maxHeartbeats 4000000 in
set_option maxRecDepth 20000 in
theorem g_MS_carryOut_5 {d rc rs : Nat} {Q : Option Value → Mu → Prop} {μ : Mu} {i0 : Nat} {x2 : Int32} {x3 : Int32} {x4 : Int32} (hD : 1 ≤ d) (h0 : i0 < 2) (hS : St μ)
    (hF : ((x2 ≤ x4 → (vp_in (0 : Int32) 400 ∧ Q (some (.int (mI μ (hd 82 i0) (0 : Int32).toNatClampNeg))) μ)) ∧ (¬ x2 ≤ x4 → (vp_in x4 800 ∧ (((mI μ (hd 61 (px μ (hd 40 0) 11)) x4.toNatClampNeg) = 17 → Wx K_MS_carryOut d rc rs Q 55 [(0, .ref (hd 65 i0)), (2, .int x2), (3, .int x3), (4, .int (x4 + 1)), (5, .int (mI μ (hd 61 (px μ (hd 40 0) 11)) x4.toNatClampNeg))] [] μ) ∧ (¬ (mI μ (hd 61 (px μ (hd 40 0) 11)) x4.toNatClampNeg) = 17 → (((mI μ (hd 61 (px μ (hd 40 0) 11)) x4.toNatClampNeg) = 32 → Wx K_MS_carryOut d rc rs Q 55 [(0, .ref (hd 65 i0)), (2, .int x2), (3, .int x3), (4, .int (x4 + 1)), (5, .int (mI μ (hd 61 (px μ (hd 40 0) 11)) x4.toNatClampNeg))] [] μ) ∧ (¬ (mI μ (hd 61 (px μ (hd 40 0) 11)) x4.toNatClampNeg) = 32 → (Cal K_MM_isIn (d - 1) 0 0 [.int (mI μ (hd 61 (px μ (hd 40 0) 11)) x4.toNatClampNeg), .int 18, .int 23] μ (fun r μ4 => ∃ y5, r = some (.int y5) ∧ ((y5 = 0 → (((mI μ (hd 61 (px μ (hd 40 0) 11)) x4.toNatClampNeg) = 33 → (((mI μ (hd 61 (px μ (hd 40 0) 11)) x4.toNatClampNeg) = 33 → (vp_in x3 400 ∧ (vp_in x3 400 ∧ Wx K_MS_carryOut d rc rs Q 5 [(0, .ref (hd 65 i0)), (2, .int x2), (3, .int x3), (4, .int (x4 + 1))] [] (setI μ4 (hd 82 i0) x3.toNatClampNeg (-(mI μ4 (hd 82 i0) x3.toNatClampNeg)))))) ∧ (¬ (mI μ (hd 61 (px μ (hd 40 0) 11)) x4.toNatClampNeg) = 33 → (vp_in x3 400 ∧ (vp_in x3 400 ∧ Wx K_MS_carryOut d rc rs Q 5 [(0, .ref (hd 65 i0)), (2, .int x2), (3, .int x3), (4, .int (x4 + 1))] [] (setI μ4 (hd 82 i0) x3.toNatClampNeg ((1 : Int32) - (mI μ4 (hd 82 i0) x3.toNatClampNeg)))))))) ∧ (¬ (mI μ (hd 61 (px μ (hd 40 0) 11)) x4.toNatClampNeg) = 33 → (((mI μ (hd 61 (px μ (hd 40 0) 11)) x4.toNatClampNeg) = 24 → (((mI μ (hd 61 (px μ (hd 40 0) 11)) x4.toNatClampNeg) = 33 → (vp_in x3 400 ∧ (vp_in x3 400 ∧ Wx K_MS_carryOut d rc rs Q 5 [(0, .ref (hd 65 i0)), (2, .int x2), (3, .int x3), (4, .int (x4 + 1))] [] (setI μ4 (hd 82 i0) x3.toNatClampNeg (-(mI μ4 (hd 82 i0) x3.toNatClampNeg)))))) ∧ (¬ (mI μ (hd 61 (px μ (hd 40 0) 11)) x4.toNatClampNeg) = 33 → (vp_in x3 400 ∧ (vp_in x3 400 ∧ Wx K_MS_carryOut d rc rs Q 5 [(0, .ref (hd 65 i0)), (2, .int x2), (3, .int x3), (4, .int (x4 + 1))] [] (setI μ4 (hd 82 i0) x3.toNatClampNeg ((1 : Int32) - (mI μ4 (hd 82 i0) x3.toNatClampNeg)))))))) ∧ (¬ (mI μ (hd 61 (px μ (hd 40 0) 11)) x4.toNatClampNeg) = 24 → (vp_in (x3 + (-1)) 400 ∧ (vp_in ((x3 + (-1)) + (1 : Int32)) 400 ∧ (Cal K_MM_both (d - 1) 0 0 [.int (mI μ (hd 61 (px μ (hd 40 0) 11)) x4.toNatClampNeg), .int (mI μ4 (hd 82 i0) (x3 + (-1)).toNatClampNeg), .int (mI μ4 (hd 82 i0) ((x3 + (-1)) + (1 : Int32)).toNatClampNeg)] μ4 (fun r μ12 => ∃ y13, r = some (.int y13) ∧ (vp_in (x3 + (-1)) 400 ∧ Wx K_MS_carryOut d rc rs Q 5 [(0, .ref (hd 65 i0)), (2, .int x2), (3, .int (x3 + (-1))), (4, .int (x4 + 1))] [] (setI μ12 (hd 82 i0) (x3 + (-1)).toNatClampNeg y13))))))))))) ∧ (¬ y5 = 0 → Wx K_MS_carryOut d rc rs Q 55 [(0, .ref (hd 65 i0)), (2, .int x2), (3, .int x3), (4, .int (x4 + 1)), (5, .int (mI μ (hd 61 (px μ (hd 40 0) 11)) x4.toNatClampNeg))] [] μ4)))))))))))) : Wx K_MS_carryOut d rc rs Q 5 [(0, .ref (hd 65 i0)), (2, .int x2), (3, .int x3), (4, .int x4)] [] μ := by
  refine Wa.iload (j := 3) d_MS_carryOut_5 rfl ?_
  refine Wa.iload_n (j := 1) d_MS_carryOut_7 rfl ?_
  refine Wa.icmp_ge 279 d_MS_carryOut_8 (by decide) (fun hb => ?_) (fun hb => ?_)
  · have hF := hF.1 hb
    refine Wa.aload_n (j := 0) d_MS_carryOut_279 rfl ?_
    refine Wx.getR 13 22 d_MS_carryOut_280 f_MS_22 rfl fl_MS_65 (s_65 hS h0) (r_65_22 hS h0) ?_
    refine Wa.iconst (v := 0) d_MS_carryOut_283 rfl ?_
    have hc1 := hF.1
    have hF := hF.2
    have hlhc1 := vp_in_lt hc1
    refine Wx.iald d_MS_carryOut_284 w_82 (s_82 hS h0) hc1 ?_
    exact Wx.reti d_MS_carryOut_285 rfl hF
  · have hF := hF.2 hb
    refine Wa.aload_n (j := 0) d_MS_carryOut_11 rfl ?_
    refine Wx.getR 13 23 d_MS_carryOut_12 f_MS_23 rfl fl_MS_3 (s_65 hS h0) (r_65_23 hS h0) ?_
    have hp2 := St.plan hS
    refine Wx.getR 11 11 d_MS_carryOut_15 f_MM_11 rfl fl_MS_100 (s_40 hS (by decide)) (hp2.1) ?_
    refine Wx.getR 12 15 d_MS_carryOut_18 f_MP_15 rfl fl_MS_250 (s_50 hp2.2) (r_50_15 hp2.2) ?_
    refine Wa.iload (j := 3) d_MS_carryOut_21 rfl ?_
    have hc3 := hF.1
    have hF := hF.2
    have hlhc3 := vp_in_lt hc3
    refine Wx.iald d_MS_carryOut_23 w_61 (s_61 hp2.2) hc3 ?_
    refine Wa.istore (i := 5) (L' := [(5, .int (mI μ (hd 61 (px μ (hd 40 0) 11)) x4.toNatClampNeg)), (0, .ref (hd 65 i0)), (2, .int x2), (3, .int x3), (4, .int x4)]) d_MS_carryOut_24 (by decide) rfl ?_
    refine Wa.iinc (i := 4) (j := 4) (v := (x4 + 1)) (L' := [(4, .int (x4 + 1)), (5, .int (mI μ (hd 61 (px μ (hd 40 0) 11)) x4.toNatClampNeg)), (0, .ref (hd 65 i0)), (2, .int x2), (3, .int x3)]) d_MS_carryOut_26 rfl rfl (by decide) rfl ?_
    refine Wa.iload (j := 1) d_MS_carryOut_29 rfl ?_
    refine Wa.bipush (v := 17) d_MS_carryOut_31 rfl ?_
    refine Wa.icmp_eq 55 d_MS_carryOut_33 (by decide) (fun hb => ?_) (fun hb => ?_)
    · have hF := hF.1 hb
      exact Wa.loc [2, 3, 4, 0, 1] rfl hF
    · have hF := hF.2 hb
      refine Wa.iload (j := 1) d_MS_carryOut_36 rfl ?_
      refine Wa.bipush (v := 32) d_MS_carryOut_38 rfl ?_
      refine Wa.icmp_eq 55 d_MS_carryOut_40 (by decide) (fun hb => ?_) (fun hb => ?_)
      · have hF := hF.1 hb
        exact Wa.loc [2, 3, 4, 0, 1] rfl hF
      · have hF := hF.2 hb
        refine Wa.iload (j := 1) d_MS_carryOut_43 rfl ?_
        refine Wa.bipush (v := 18) d_MS_carryOut_45 rfl ?_
        refine Wa.bipush (v := 23) d_MS_carryOut_47 rfl ?_
        refine Wx.cSi (As := [.int (mI μ (hd 61 (px μ (hd 40 0) 11)) x4.toNatClampNeg), .int 18, .int 23]) (d - 1) 0 0 _ d_MS_carryOut_49 mok_MM_isIn sl_MS_202 rfl rfl (Nat.le_of_ble_eq_true rfl) (by omega) (Nat.zero_le _) (Nat.zero_le _) hF (fun y5 μ4 hS hF => ?_)
        refine Wa.if_eq 200 d_MS_carryOut_52 (by decide) (fun hb => ?_) (fun hb => ?_)
        · have hF := hF.1 hb
          refine Wa.iload (j := 1) d_MS_carryOut_200 rfl ?_
          refine Wa.bipush (v := 33) d_MS_carryOut_202 rfl ?_
          refine Wa.icmp_eq 214 d_MS_carryOut_204 (by decide) (fun hb => ?_) (fun hb => ?_)
          · have hF := hF.1 hb
            refine Wa.aload_n (j := 2) d_MS_carryOut_214 rfl ?_
            refine Wx.getR 13 22 d_MS_carryOut_215 f_MS_22 rfl fl_MS_65 (s_65 hS h0) (r_65_22 hS h0) ?_
            refine Wa.iload_n (j := 4) d_MS_carryOut_218 rfl ?_
            refine Wa.iload (j := 1) d_MS_carryOut_219 rfl ?_
            refine Wa.bipush (v := 33) d_MS_carryOut_221 rfl ?_
            refine Wa.icmp_ne 236 d_MS_carryOut_223 (by decide) (fun hb => ?_) (fun hb => ?_)
            · have hF := hF.2 hb
              refine Wa.iconst (v := 1) d_MS_carryOut_236 rfl ?_
              refine Wa.aload_n (j := 2) d_MS_carryOut_237 rfl ?_
              refine Wx.getR 13 22 d_MS_carryOut_238 f_MS_22 rfl fl_MS_65 (s_65 hS h0) (r_65_22 hS h0) ?_
              refine Wa.iload_n (j := 4) d_MS_carryOut_241 rfl ?_
              have hc6 := hF.1
              have hF := hF.2
              have hlhc6 := vp_in_lt hc6
              refine Wx.iald d_MS_carryOut_242 w_82 (s_82 hS h0) hc6 ?_
              refine Wa.isub d_MS_carryOut_243 ?_
              have hc7 := hF.1
              have hF := hF.2
              have hlhc7 := vp_in_lt hc7
              refine Wa.iast d_MS_carryOut_244 w_82 (s_82 hS h0) hc7 ?_
              refine Wa.goto 276 d_MS_carryOut_245 (by decide) ?_
              refine Wa.goto 5 d_MS_carryOut_276 (by decide) ?_
              exact Wa.loc [2, 3, 4, 0] rfl hF
            · have hF := hF.1 hb
              refine Wa.aload_n (j := 2) d_MS_carryOut_226 rfl ?_
              refine Wx.getR 13 22 d_MS_carryOut_227 f_MS_22 rfl fl_MS_65 (s_65 hS h0) (r_65_22 hS h0) ?_
              refine Wa.iload_n (j := 4) d_MS_carryOut_230 rfl ?_
              have hc8 := hF.1
              have hF := hF.2
              have hlhc8 := vp_in_lt hc8
              refine Wx.iald d_MS_carryOut_231 w_82 (s_82 hS h0) hc8 ?_
              refine Wa.ineg d_MS_carryOut_232 ?_
              refine Wa.goto 244 d_MS_carryOut_233 (by decide) ?_
              have hc9 := hF.1
              have hF := hF.2
              have hlhc9 := vp_in_lt hc9
              refine Wa.iast d_MS_carryOut_244 w_82 (s_82 hS h0) hc9 ?_
              refine Wa.goto 276 d_MS_carryOut_245 (by decide) ?_
              refine Wa.goto 5 d_MS_carryOut_276 (by decide) ?_
              exact Wa.loc [2, 3, 4, 0] rfl hF
          · have hF := hF.2 hb
            refine Wa.iload (j := 1) d_MS_carryOut_207 rfl ?_
            refine Wa.bipush (v := 24) d_MS_carryOut_209 rfl ?_
            refine Wa.icmp_ne 248 d_MS_carryOut_211 (by decide) (fun hb => ?_) (fun hb => ?_)
            · have hF := hF.2 hb
              refine Wa.iinc (i := 3) (j := 4) (v := (x3 + (-1))) (L' := [(3, .int (x3 + (-1))), (4, .int (x4 + 1)), (5, .int (mI μ (hd 61 (px μ (hd 40 0) 11)) x4.toNatClampNeg)), (0, .ref (hd 65 i0)), (2, .int x2)]) d_MS_carryOut_248 rfl rfl (by decide) rfl ?_
              refine Wa.aload_n (j := 3) d_MS_carryOut_251 rfl ?_
              refine Wx.getR 13 22 d_MS_carryOut_252 f_MS_22 rfl fl_MS_65 (s_65 hS h0) (r_65_22 hS h0) ?_
              refine Wa.iload_n (j := 0) d_MS_carryOut_255 rfl ?_
              refine Wa.iload (j := 2) d_MS_carryOut_256 rfl ?_
              refine Wa.aload_n (j := 3) d_MS_carryOut_258 rfl ?_
              refine Wx.getR 13 22 d_MS_carryOut_259 f_MS_22 rfl fl_MS_65 (s_65 hS h0) (r_65_22 hS h0) ?_
              refine Wa.iload_n (j := 0) d_MS_carryOut_262 rfl ?_
              have hc10 := hF.1
              have hF := hF.2
              have hlhc10 := vp_in_lt hc10
              refine Wx.iald d_MS_carryOut_263 w_82 (s_82 hS h0) hc10 ?_
              refine Wa.aload_n (j := 3) d_MS_carryOut_264 rfl ?_
              refine Wx.getR 13 22 d_MS_carryOut_265 f_MS_22 rfl fl_MS_65 (s_65 hS h0) (r_65_22 hS h0) ?_
              refine Wa.iload_n (j := 0) d_MS_carryOut_268 rfl ?_
              refine Wa.iconst (v := 1) d_MS_carryOut_269 rfl ?_
              refine Wa.iadd d_MS_carryOut_270 ?_
              have hc11 := hF.1
              have hF := hF.2
              have hlhc11 := vp_in_lt hc11
              refine Wx.iald d_MS_carryOut_271 w_82 (s_82 hS h0) hc11 ?_
              refine Wx.cSi (As := [.int (mI μ (hd 61 (px μ (hd 40 0) 11)) x4.toNatClampNeg), .int (mI μ4 (hd 82 i0) (x3 + (-1)).toNatClampNeg), .int (mI μ4 (hd 82 i0) ((x3 + (-1)) + (1 : Int32)).toNatClampNeg)]) (d - 1) 0 0 _ d_MS_carryOut_272 mok_MM_both sl_MS_256 rfl rfl (Nat.le_of_ble_eq_true rfl) (by omega) (Nat.zero_le _) (Nat.zero_le _) hF (fun y13 μ12 hS hF => ?_)
              have hc14 := hF.1
              have hF := hF.2
              have hlhc14 := vp_in_lt hc14
              refine Wa.iast d_MS_carryOut_275 w_82 (s_82 hS h0) hc14 ?_
              refine Wa.goto 5 d_MS_carryOut_276 (by decide) ?_
              exact Wa.loc [3, 4, 0, 1] rfl hF
            · have hF := hF.1 hb
              refine Wa.aload_n (j := 2) d_MS_carryOut_214 rfl ?_
              refine Wx.getR 13 22 d_MS_carryOut_215 f_MS_22 rfl fl_MS_65 (s_65 hS h0) (r_65_22 hS h0) ?_
              refine Wa.iload_n (j := 4) d_MS_carryOut_218 rfl ?_
              refine Wa.iload (j := 1) d_MS_carryOut_219 rfl ?_
              refine Wa.bipush (v := 33) d_MS_carryOut_221 rfl ?_
              refine Wa.icmp_ne 236 d_MS_carryOut_223 (by decide) (fun hb => ?_) (fun hb => ?_)
              · have hF := hF.2 hb
                refine Wa.iconst (v := 1) d_MS_carryOut_236 rfl ?_
                refine Wa.aload_n (j := 2) d_MS_carryOut_237 rfl ?_
                refine Wx.getR 13 22 d_MS_carryOut_238 f_MS_22 rfl fl_MS_65 (s_65 hS h0) (r_65_22 hS h0) ?_
                refine Wa.iload_n (j := 4) d_MS_carryOut_241 rfl ?_
                have hc15 := hF.1
                have hF := hF.2
                have hlhc15 := vp_in_lt hc15
                refine Wx.iald d_MS_carryOut_242 w_82 (s_82 hS h0) hc15 ?_
                refine Wa.isub d_MS_carryOut_243 ?_
                have hc16 := hF.1
                have hF := hF.2
                have hlhc16 := vp_in_lt hc16
                refine Wa.iast d_MS_carryOut_244 w_82 (s_82 hS h0) hc16 ?_
                refine Wa.goto 276 d_MS_carryOut_245 (by decide) ?_
                refine Wa.goto 5 d_MS_carryOut_276 (by decide) ?_
                exact Wa.loc [2, 3, 4, 0] rfl hF
              · have hF := hF.1 hb
                refine Wa.aload_n (j := 2) d_MS_carryOut_226 rfl ?_
                refine Wx.getR 13 22 d_MS_carryOut_227 f_MS_22 rfl fl_MS_65 (s_65 hS h0) (r_65_22 hS h0) ?_
                refine Wa.iload_n (j := 4) d_MS_carryOut_230 rfl ?_
                have hc17 := hF.1
                have hF := hF.2
                have hlhc17 := vp_in_lt hc17
                refine Wx.iald d_MS_carryOut_231 w_82 (s_82 hS h0) hc17 ?_
                refine Wa.ineg d_MS_carryOut_232 ?_
                refine Wa.goto 244 d_MS_carryOut_233 (by decide) ?_
                have hc18 := hF.1
                have hF := hF.2
                have hlhc18 := vp_in_lt hc18
                refine Wa.iast d_MS_carryOut_244 w_82 (s_82 hS h0) hc18 ?_
                refine Wa.goto 276 d_MS_carryOut_245 (by decide) ?_
                refine Wa.goto 5 d_MS_carryOut_276 (by decide) ?_
                exact Wa.loc [2, 3, 4, 0] rfl hF
        · have hF := hF.2 hb
          exact Wa.loc [2, 3, 4, 0, 1] rfl hF
set_option maxHeartbeats 4000000 in
set_option maxRecDepth 20000 in
theorem g_MS_carryOut_55 {d rc rs : Nat} {Q : Option Value → Mu → Prop} {μ : Mu} {i0 : Nat} {x2 : Int32} {x3 : Int32} {x4 : Int32} {x5 : Int32} (hD : 1 ≤ d) (h0 : i0 < 2) (hS : St μ)
    (hF : ((x5 = 17 → (vp_in (x3 + 1) 400 ∧ ((x5 = 17 → Wx K_MS_carryOut d rc rs Q 5 [(0, .ref (hd 65 i0)), (2, .int x2), (3, .int (x3 + 1)), (4, .int (x4 + (0 : Int32)))] [] (setI μ (hd 82 i0) (x3 + 1).toNatClampNeg (mI μ (hd 65 i0) 0))) ∧ (¬ x5 = 17 → ((x5 = 32 → Wx K_MS_carryOut d rc rs Q 5 [(0, .ref (hd 65 i0)), (2, .int x2), (3, .int (x3 + 1)), (4, .int (x4 + (1 : Int32)))] [] (setI μ (hd 82 i0) (x3 + 1).toNatClampNeg (mI μ (hd 65 i0) 0))) ∧ (¬ x5 = 32 → ((x5 = 21 → Wx K_MS_carryOut d rc rs Q 5 [(0, .ref (hd 65 i0)), (2, .int x2), (3, .int (x3 + 1)), (4, .int (x4 + (1 : Int32)))] [] (setI μ (hd 82 i0) (x3 + 1).toNatClampNeg (mI μ (hd 65 i0) 0))) ∧ (¬ x5 = 21 → Wx K_MS_carryOut d rc rs Q 5 [(0, .ref (hd 65 i0)), (2, .int x2), (3, .int (x3 + 1)), (4, .int (x4 + (2 : Int32)))] [] (setI μ (hd 82 i0) (x3 + 1).toNatClampNeg (mI μ (hd 65 i0) 0)))))))))) ∧ (¬ x5 = 17 → ((x5 = 32 → (vp_in x4 800 ∧ (vp_in (x3 + 1) 400 ∧ ((x5 = 17 → Wx K_MS_carryOut d rc rs Q 5 [(0, .ref (hd 65 i0)), (2, .int x2), (3, .int (x3 + 1)), (4, .int (x4 + (0 : Int32)))] [] (setI μ (hd 82 i0) (x3 + 1).toNatClampNeg (mI μ (hd 61 (px μ (hd 40 0) 11)) x4.toNatClampNeg))) ∧ (¬ x5 = 17 → ((x5 = 32 → Wx K_MS_carryOut d rc rs Q 5 [(0, .ref (hd 65 i0)), (2, .int x2), (3, .int (x3 + 1)), (4, .int (x4 + (1 : Int32)))] [] (setI μ (hd 82 i0) (x3 + 1).toNatClampNeg (mI μ (hd 61 (px μ (hd 40 0) 11)) x4.toNatClampNeg))) ∧ (¬ x5 = 32 → ((x5 = 21 → Wx K_MS_carryOut d rc rs Q 5 [(0, .ref (hd 65 i0)), (2, .int x2), (3, .int (x3 + 1)), (4, .int (x4 + (1 : Int32)))] [] (setI μ (hd 82 i0) (x3 + 1).toNatClampNeg (mI μ (hd 61 (px μ (hd 40 0) 11)) x4.toNatClampNeg))) ∧ (¬ x5 = 21 → Wx K_MS_carryOut d rc rs Q 5 [(0, .ref (hd 65 i0)), (2, .int x2), (3, .int (x3 + 1)), (4, .int (x4 + (2 : Int32)))] [] (setI μ (hd 82 i0) (x3 + 1).toNatClampNeg (mI μ (hd 61 (px μ (hd 40 0) 11)) x4.toNatClampNeg))))))))))) ∧ (¬ x5 = 32 → ((x5 = 21 → (vp_in x4 800 ∧ (Cal K_MS_waits (d - 1) 0 0 [.ref (hd 65 i0), .int (mI μ (hd 61 (px μ (hd 40 0) 11)) x4.toNatClampNeg)] μ (fun r μ10 => ∃ y11, r = some (.int y11) ∧ (vp_in (x3 + 1) 400 ∧ ((x5 = 17 → Wx K_MS_carryOut d rc rs Q 5 [(0, .ref (hd 65 i0)), (2, .int x2), (3, .int (x3 + 1)), (4, .int (x4 + (0 : Int32)))] [] (setI μ10 (hd 82 i0) (x3 + 1).toNatClampNeg y11)) ∧ (¬ x5 = 17 → ((x5 = 32 → Wx K_MS_carryOut d rc rs Q 5 [(0, .ref (hd 65 i0)), (2, .int x2), (3, .int (x3 + 1)), (4, .int (x4 + (1 : Int32)))] [] (setI μ10 (hd 82 i0) (x3 + 1).toNatClampNeg y11)) ∧ (¬ x5 = 32 → ((x5 = 21 → Wx K_MS_carryOut d rc rs Q 5 [(0, .ref (hd 65 i0)), (2, .int x2), (3, .int (x3 + 1)), (4, .int (x4 + (1 : Int32)))] [] (setI μ10 (hd 82 i0) (x3 + 1).toNatClampNeg y11)) ∧ (¬ x5 = 21 → Wx K_MS_carryOut d rc rs Q 5 [(0, .ref (hd 65 i0)), (2, .int x2), (3, .int (x3 + 1)), (4, .int (x4 + (2 : Int32)))] [] (setI μ10 (hd 82 i0) (x3 + 1).toNatClampNeg y11)))))))))))) ∧ (¬ x5 = 21 → (vp_in x4 800 ∧ (vp_in (x4 + (1 : Int32)) 800 ∧ (Cal K_MS_pushed (d - 1) 0 0 [.ref (hd 65 i0), .int x5, .int (mI μ (hd 61 (px μ (hd 40 0) 11)) x4.toNatClampNeg), .int (mI μ (hd 61 (px μ (hd 40 0) 11)) (x4 + (1 : Int32)).toNatClampNeg)] μ (fun r μ5 => ∃ y6, r = some (.int y6) ∧ (vp_in (x3 + 1) 400 ∧ ((x5 = 17 → Wx K_MS_carryOut d rc rs Q 5 [(0, .ref (hd 65 i0)), (2, .int x2), (3, .int (x3 + 1)), (4, .int (x4 + (0 : Int32)))] [] (setI μ5 (hd 82 i0) (x3 + 1).toNatClampNeg y6)) ∧ (¬ x5 = 17 → ((x5 = 32 → Wx K_MS_carryOut d rc rs Q 5 [(0, .ref (hd 65 i0)), (2, .int x2), (3, .int (x3 + 1)), (4, .int (x4 + (1 : Int32)))] [] (setI μ5 (hd 82 i0) (x3 + 1).toNatClampNeg y6)) ∧ (¬ x5 = 32 → ((x5 = 21 → Wx K_MS_carryOut d rc rs Q 5 [(0, .ref (hd 65 i0)), (2, .int x2), (3, .int (x3 + 1)), (4, .int (x4 + (1 : Int32)))] [] (setI μ5 (hd 82 i0) (x3 + 1).toNatClampNeg y6)) ∧ (¬ x5 = 21 → Wx K_MS_carryOut d rc rs Q 5 [(0, .ref (hd 65 i0)), (2, .int x2), (3, .int (x3 + 1)), (4, .int (x4 + (2 : Int32)))] [] (setI μ5 (hd 82 i0) (x3 + 1).toNatClampNeg y6))))))))))))))))))) : Wx K_MS_carryOut d rc rs Q 55 [(0, .ref (hd 65 i0)), (2, .int x2), (3, .int x3), (4, .int x4), (5, .int x5)] [] μ := by
  refine Wa.iinc (i := 3) (j := 2) (v := (x3 + 1)) (L' := [(3, .int (x3 + 1)), (0, .ref (hd 65 i0)), (2, .int x2), (4, .int x4), (5, .int x5)]) d_MS_carryOut_55 rfl rfl (by decide) rfl ?_
  refine Wa.aload_n (j := 1) d_MS_carryOut_58 rfl ?_
  refine Wx.getR 13 22 d_MS_carryOut_59 f_MS_22 rfl fl_MS_65 (s_65 hS h0) (r_65_22 hS h0) ?_
  refine Wa.iload_n (j := 0) d_MS_carryOut_62 rfl ?_
  refine Wa.iload (j := 4) d_MS_carryOut_63 rfl ?_
  refine Wa.bipush (v := 17) d_MS_carryOut_65 rfl ?_
  refine Wa.icmp_ne 77 d_MS_carryOut_67 (by decide) (fun hb => ?_) (fun hb => ?_)
  · have hF := hF.2 hb
    refine Wa.iload (j := 4) d_MS_carryOut_77 rfl ?_
    refine Wa.bipush (v := 32) d_MS_carryOut_79 rfl ?_
    refine Wa.icmp_ne 100 d_MS_carryOut_81 (by decide) (fun hb => ?_) (fun hb => ?_)
    · have hF := hF.2 hb
      refine Wa.iload (j := 4) d_MS_carryOut_100 rfl ?_
      refine Wa.bipush (v := 21) d_MS_carryOut_102 rfl ?_
      refine Wa.icmp_ne 127 d_MS_carryOut_104 (by decide) (fun hb => ?_) (fun hb => ?_)
      · have hF := hF.2 hb
        refine Wa.aload_n (j := 1) d_MS_carryOut_127 rfl ?_
        refine Wa.iload (j := 4) d_MS_carryOut_128 rfl ?_
        refine Wa.aload_n (j := 1) d_MS_carryOut_130 rfl ?_
        refine Wx.getR 13 23 d_MS_carryOut_131 f_MS_23 rfl fl_MS_3 (s_65 hS h0) (r_65_23 hS h0) ?_
        have hp1 := St.plan hS
        refine Wx.getR 11 11 d_MS_carryOut_134 f_MM_11 rfl fl_MS_100 (s_40 hS (by decide)) (hp1.1) ?_
        refine Wx.getR 12 15 d_MS_carryOut_137 f_MP_15 rfl fl_MS_250 (s_50 hp1.2) (r_50_15 hp1.2) ?_
        refine Wa.iload (j := 3) d_MS_carryOut_140 rfl ?_
        have hc2 := hF.1
        have hF := hF.2
        have hlhc2 := vp_in_lt hc2
        refine Wx.iald d_MS_carryOut_142 w_61 (s_61 hp1.2) hc2 ?_
        refine Wa.aload_n (j := 1) d_MS_carryOut_143 rfl ?_
        refine Wx.getR 13 23 d_MS_carryOut_144 f_MS_23 rfl fl_MS_3 (s_65 hS h0) (r_65_23 hS h0) ?_
        have hp3 := St.plan hS
        refine Wx.getR 11 11 d_MS_carryOut_147 f_MM_11 rfl fl_MS_100 (s_40 hS (by decide)) (hp3.1) ?_
        refine Wx.getR 12 15 d_MS_carryOut_150 f_MP_15 rfl fl_MS_250 (s_50 hp3.2) (r_50_15 hp3.2) ?_
        refine Wa.iload (j := 3) d_MS_carryOut_153 rfl ?_
        refine Wa.iconst (v := 1) d_MS_carryOut_155 rfl ?_
        refine Wa.iadd d_MS_carryOut_156 ?_
        have hc4 := hF.1
        have hF := hF.2
        have hlhc4 := vp_in_lt hc4
        refine Wx.iald d_MS_carryOut_157 w_61 (s_61 hp3.2) hc4 ?_
        refine Wx.cVi (q := E_MS) (As := [.int x5, .int (mI μ (hd 61 (px μ (hd 40 0) 11)) x4.toNatClampNeg), .int (mI μ (hd 61 (px μ (hd 40 0) 11)) (x4 + (1 : Int32)).toNatClampNeg)]) 13 (d - 1) 0 0 _ d_MS_carryOut_158 mok_MS_pushed vl_MS_253 rfl rfl rfl (Nat.le_of_ble_eq_true rfl) (by omega) (Nat.zero_le _) (Nat.zero_le _) (s_65 hS h0) hF (fun y6 μ5 hS hF => ?_)
        have hc7 := hF.1
        have hF := hF.2
        have hlhc7 := vp_in_lt hc7
        refine Wa.iast d_MS_carryOut_161 w_82 (s_82 hS h0) hc7 ?_
        refine Wa.iload (j := 3) d_MS_carryOut_162 rfl ?_
        refine Wa.iload (j := 4) d_MS_carryOut_164 rfl ?_
        refine Wa.bipush (v := 17) d_MS_carryOut_166 rfl ?_
        refine Wa.icmp_ne 175 d_MS_carryOut_168 (by decide) (fun hb => ?_) (fun hb => ?_)
        · have hF := hF.2 hb
          refine Wa.iload (j := 4) d_MS_carryOut_175 rfl ?_
          refine Wa.bipush (v := 32) d_MS_carryOut_177 rfl ?_
          refine Wa.icmp_eq 189 d_MS_carryOut_179 (by decide) (fun hb => ?_) (fun hb => ?_)
          · have hF := hF.1 hb
            refine Wa.iconst (v := 1) d_MS_carryOut_189 rfl ?_
            refine Wa.goto 194 d_MS_carryOut_190 (by decide) ?_
            refine Wa.iadd d_MS_carryOut_194 ?_
            refine Wa.istore (i := 4) (L' := [(4, .int (x4 + (1 : Int32))), (3, .int (x3 + 1)), (0, .ref (hd 65 i0)), (2, .int x2), (5, .int x5)]) d_MS_carryOut_195 (by decide) rfl ?_
            refine Wa.goto 276 d_MS_carryOut_197 (by decide) ?_
            refine Wa.goto 5 d_MS_carryOut_276 (by decide) ?_
            exact Wa.loc [2, 3, 1, 0] rfl hF
          · have hF := hF.2 hb
            refine Wa.iload (j := 4) d_MS_carryOut_182 rfl ?_
            refine Wa.bipush (v := 21) d_MS_carryOut_184 rfl ?_
            refine Wa.icmp_ne 193 d_MS_carryOut_186 (by decide) (fun hb => ?_) (fun hb => ?_)
            · have hF := hF.2 hb
              refine Wa.iconst (v := 2) d_MS_carryOut_193 rfl ?_
              refine Wa.iadd d_MS_carryOut_194 ?_
              refine Wa.istore (i := 4) (L' := [(4, .int (x4 + (2 : Int32))), (3, .int (x3 + 1)), (0, .ref (hd 65 i0)), (2, .int x2), (5, .int x5)]) d_MS_carryOut_195 (by decide) rfl ?_
              refine Wa.goto 276 d_MS_carryOut_197 (by decide) ?_
              refine Wa.goto 5 d_MS_carryOut_276 (by decide) ?_
              exact Wa.loc [2, 3, 1, 0] rfl hF
            · have hF := hF.1 hb
              refine Wa.iconst (v := 1) d_MS_carryOut_189 rfl ?_
              refine Wa.goto 194 d_MS_carryOut_190 (by decide) ?_
              refine Wa.iadd d_MS_carryOut_194 ?_
              refine Wa.istore (i := 4) (L' := [(4, .int (x4 + (1 : Int32))), (3, .int (x3 + 1)), (0, .ref (hd 65 i0)), (2, .int x2), (5, .int x5)]) d_MS_carryOut_195 (by decide) rfl ?_
              refine Wa.goto 276 d_MS_carryOut_197 (by decide) ?_
              refine Wa.goto 5 d_MS_carryOut_276 (by decide) ?_
              exact Wa.loc [2, 3, 1, 0] rfl hF
        · have hF := hF.1 hb
          refine Wa.iconst (v := 0) d_MS_carryOut_171 rfl ?_
          refine Wa.goto 194 d_MS_carryOut_172 (by decide) ?_
          refine Wa.iadd d_MS_carryOut_194 ?_
          refine Wa.istore (i := 4) (L' := [(4, .int (x4 + (0 : Int32))), (3, .int (x3 + 1)), (0, .ref (hd 65 i0)), (2, .int x2), (5, .int x5)]) d_MS_carryOut_195 (by decide) rfl ?_
          refine Wa.goto 276 d_MS_carryOut_197 (by decide) ?_
          refine Wa.goto 5 d_MS_carryOut_276 (by decide) ?_
          exact Wa.loc [2, 3, 1, 0] rfl hF
      · have hF := hF.1 hb
        refine Wa.aload_n (j := 1) d_MS_carryOut_107 rfl ?_
        refine Wa.aload_n (j := 1) d_MS_carryOut_108 rfl ?_
        refine Wx.getR 13 23 d_MS_carryOut_109 f_MS_23 rfl fl_MS_3 (s_65 hS h0) (r_65_23 hS h0) ?_
        have hp8 := St.plan hS
        refine Wx.getR 11 11 d_MS_carryOut_112 f_MM_11 rfl fl_MS_100 (s_40 hS (by decide)) (hp8.1) ?_
        refine Wx.getR 12 15 d_MS_carryOut_115 f_MP_15 rfl fl_MS_250 (s_50 hp8.2) (r_50_15 hp8.2) ?_
        refine Wa.iload (j := 3) d_MS_carryOut_118 rfl ?_
        have hc9 := hF.1
        have hF := hF.2
        have hlhc9 := vp_in_lt hc9
        refine Wx.iald d_MS_carryOut_120 w_61 (s_61 hp8.2) hc9 ?_
        refine Wx.cVi (q := E_MS) (As := [.int (mI μ (hd 61 (px μ (hd 40 0) 11)) x4.toNatClampNeg)]) 13 (d - 1) 0 0 _ d_MS_carryOut_121 mok_MS_waits vl_MS_244 rfl rfl rfl (Nat.le_of_ble_eq_true rfl) (by omega) (Nat.zero_le _) (Nat.zero_le _) (s_65 hS h0) hF (fun y11 μ10 hS hF => ?_)
        refine Wa.goto 161 d_MS_carryOut_124 (by decide) ?_
        have hc12 := hF.1
        have hF := hF.2
        have hlhc12 := vp_in_lt hc12
        refine Wa.iast d_MS_carryOut_161 w_82 (s_82 hS h0) hc12 ?_
        refine Wa.iload (j := 3) d_MS_carryOut_162 rfl ?_
        refine Wa.iload (j := 4) d_MS_carryOut_164 rfl ?_
        refine Wa.bipush (v := 17) d_MS_carryOut_166 rfl ?_
        refine Wa.icmp_ne 175 d_MS_carryOut_168 (by decide) (fun hb => ?_) (fun hb => ?_)
        · have hF := hF.2 hb
          refine Wa.iload (j := 4) d_MS_carryOut_175 rfl ?_
          refine Wa.bipush (v := 32) d_MS_carryOut_177 rfl ?_
          refine Wa.icmp_eq 189 d_MS_carryOut_179 (by decide) (fun hb => ?_) (fun hb => ?_)
          · have hF := hF.1 hb
            refine Wa.iconst (v := 1) d_MS_carryOut_189 rfl ?_
            refine Wa.goto 194 d_MS_carryOut_190 (by decide) ?_
            refine Wa.iadd d_MS_carryOut_194 ?_
            refine Wa.istore (i := 4) (L' := [(4, .int (x4 + (1 : Int32))), (3, .int (x3 + 1)), (0, .ref (hd 65 i0)), (2, .int x2), (5, .int x5)]) d_MS_carryOut_195 (by decide) rfl ?_
            refine Wa.goto 276 d_MS_carryOut_197 (by decide) ?_
            refine Wa.goto 5 d_MS_carryOut_276 (by decide) ?_
            exact Wa.loc [2, 3, 1, 0] rfl hF
          · have hF := hF.2 hb
            refine Wa.iload (j := 4) d_MS_carryOut_182 rfl ?_
            refine Wa.bipush (v := 21) d_MS_carryOut_184 rfl ?_
            refine Wa.icmp_ne 193 d_MS_carryOut_186 (by decide) (fun hb => ?_) (fun hb => ?_)
            · have hF := hF.2 hb
              refine Wa.iconst (v := 2) d_MS_carryOut_193 rfl ?_
              refine Wa.iadd d_MS_carryOut_194 ?_
              refine Wa.istore (i := 4) (L' := [(4, .int (x4 + (2 : Int32))), (3, .int (x3 + 1)), (0, .ref (hd 65 i0)), (2, .int x2), (5, .int x5)]) d_MS_carryOut_195 (by decide) rfl ?_
              refine Wa.goto 276 d_MS_carryOut_197 (by decide) ?_
              refine Wa.goto 5 d_MS_carryOut_276 (by decide) ?_
              exact Wa.loc [2, 3, 1, 0] rfl hF
            · have hF := hF.1 hb
              refine Wa.iconst (v := 1) d_MS_carryOut_189 rfl ?_
              refine Wa.goto 194 d_MS_carryOut_190 (by decide) ?_
              refine Wa.iadd d_MS_carryOut_194 ?_
              refine Wa.istore (i := 4) (L' := [(4, .int (x4 + (1 : Int32))), (3, .int (x3 + 1)), (0, .ref (hd 65 i0)), (2, .int x2), (5, .int x5)]) d_MS_carryOut_195 (by decide) rfl ?_
              refine Wa.goto 276 d_MS_carryOut_197 (by decide) ?_
              refine Wa.goto 5 d_MS_carryOut_276 (by decide) ?_
              exact Wa.loc [2, 3, 1, 0] rfl hF
        · have hF := hF.1 hb
          refine Wa.iconst (v := 0) d_MS_carryOut_171 rfl ?_
          refine Wa.goto 194 d_MS_carryOut_172 (by decide) ?_
          refine Wa.iadd d_MS_carryOut_194 ?_
          refine Wa.istore (i := 4) (L' := [(4, .int (x4 + (0 : Int32))), (3, .int (x3 + 1)), (0, .ref (hd 65 i0)), (2, .int x2), (5, .int x5)]) d_MS_carryOut_195 (by decide) rfl ?_
          refine Wa.goto 276 d_MS_carryOut_197 (by decide) ?_
          refine Wa.goto 5 d_MS_carryOut_276 (by decide) ?_
          exact Wa.loc [2, 3, 1, 0] rfl hF
    · have hF := hF.1 hb
      refine Wa.aload_n (j := 1) d_MS_carryOut_84 rfl ?_
      refine Wx.getR 13 23 d_MS_carryOut_85 f_MS_23 rfl fl_MS_3 (s_65 hS h0) (r_65_23 hS h0) ?_
      have hp13 := St.plan hS
      refine Wx.getR 11 11 d_MS_carryOut_88 f_MM_11 rfl fl_MS_100 (s_40 hS (by decide)) (hp13.1) ?_
      refine Wx.getR 12 15 d_MS_carryOut_91 f_MP_15 rfl fl_MS_250 (s_50 hp13.2) (r_50_15 hp13.2) ?_
      refine Wa.iload (j := 3) d_MS_carryOut_94 rfl ?_
      have hc14 := hF.1
      have hF := hF.2
      have hlhc14 := vp_in_lt hc14
      refine Wx.iald d_MS_carryOut_96 w_61 (s_61 hp13.2) hc14 ?_
      refine Wa.goto 161 d_MS_carryOut_97 (by decide) ?_
      have hc15 := hF.1
      have hF := hF.2
      have hlhc15 := vp_in_lt hc15
      refine Wa.iast d_MS_carryOut_161 w_82 (s_82 hS h0) hc15 ?_
      refine Wa.iload (j := 3) d_MS_carryOut_162 rfl ?_
      refine Wa.iload (j := 4) d_MS_carryOut_164 rfl ?_
      refine Wa.bipush (v := 17) d_MS_carryOut_166 rfl ?_
      refine Wa.icmp_ne 175 d_MS_carryOut_168 (by decide) (fun hb => ?_) (fun hb => ?_)
      · have hF := hF.2 hb
        refine Wa.iload (j := 4) d_MS_carryOut_175 rfl ?_
        refine Wa.bipush (v := 32) d_MS_carryOut_177 rfl ?_
        refine Wa.icmp_eq 189 d_MS_carryOut_179 (by decide) (fun hb => ?_) (fun hb => ?_)
        · have hF := hF.1 hb
          refine Wa.iconst (v := 1) d_MS_carryOut_189 rfl ?_
          refine Wa.goto 194 d_MS_carryOut_190 (by decide) ?_
          refine Wa.iadd d_MS_carryOut_194 ?_
          refine Wa.istore (i := 4) (L' := [(4, .int (x4 + (1 : Int32))), (3, .int (x3 + 1)), (0, .ref (hd 65 i0)), (2, .int x2), (5, .int x5)]) d_MS_carryOut_195 (by decide) rfl ?_
          refine Wa.goto 276 d_MS_carryOut_197 (by decide) ?_
          refine Wa.goto 5 d_MS_carryOut_276 (by decide) ?_
          exact Wa.loc [2, 3, 1, 0] rfl hF
        · have hF := hF.2 hb
          refine Wa.iload (j := 4) d_MS_carryOut_182 rfl ?_
          refine Wa.bipush (v := 21) d_MS_carryOut_184 rfl ?_
          refine Wa.icmp_ne 193 d_MS_carryOut_186 (by decide) (fun hb => ?_) (fun hb => ?_)
          · have hF := hF.2 hb
            refine Wa.iconst (v := 2) d_MS_carryOut_193 rfl ?_
            refine Wa.iadd d_MS_carryOut_194 ?_
            refine Wa.istore (i := 4) (L' := [(4, .int (x4 + (2 : Int32))), (3, .int (x3 + 1)), (0, .ref (hd 65 i0)), (2, .int x2), (5, .int x5)]) d_MS_carryOut_195 (by decide) rfl ?_
            refine Wa.goto 276 d_MS_carryOut_197 (by decide) ?_
            refine Wa.goto 5 d_MS_carryOut_276 (by decide) ?_
            exact Wa.loc [2, 3, 1, 0] rfl hF
          · have hF := hF.1 hb
            refine Wa.iconst (v := 1) d_MS_carryOut_189 rfl ?_
            refine Wa.goto 194 d_MS_carryOut_190 (by decide) ?_
            refine Wa.iadd d_MS_carryOut_194 ?_
            refine Wa.istore (i := 4) (L' := [(4, .int (x4 + (1 : Int32))), (3, .int (x3 + 1)), (0, .ref (hd 65 i0)), (2, .int x2), (5, .int x5)]) d_MS_carryOut_195 (by decide) rfl ?_
            refine Wa.goto 276 d_MS_carryOut_197 (by decide) ?_
            refine Wa.goto 5 d_MS_carryOut_276 (by decide) ?_
            exact Wa.loc [2, 3, 1, 0] rfl hF
      · have hF := hF.1 hb
        refine Wa.iconst (v := 0) d_MS_carryOut_171 rfl ?_
        refine Wa.goto 194 d_MS_carryOut_172 (by decide) ?_
        refine Wa.iadd d_MS_carryOut_194 ?_
        refine Wa.istore (i := 4) (L' := [(4, .int (x4 + (0 : Int32))), (3, .int (x3 + 1)), (0, .ref (hd 65 i0)), (2, .int x2), (5, .int x5)]) d_MS_carryOut_195 (by decide) rfl ?_
        refine Wa.goto 276 d_MS_carryOut_197 (by decide) ?_
        refine Wa.goto 5 d_MS_carryOut_276 (by decide) ?_
        exact Wa.loc [2, 3, 1, 0] rfl hF
  · have hF := hF.1 hb
    refine Wa.aload_n (j := 1) d_MS_carryOut_70 rfl ?_
    refine Wx.getI 13 0 d_MS_carryOut_71 f_MS_0 fl_MS_74 w_65 (s_65 hS h0) ?_
    refine Wa.goto 161 d_MS_carryOut_74 (by decide) ?_
    have hc16 := hF.1
    have hF := hF.2
    have hlhc16 := vp_in_lt hc16
    refine Wa.iast d_MS_carryOut_161 w_82 (s_82 hS h0) hc16 ?_
    refine Wa.iload (j := 3) d_MS_carryOut_162 rfl ?_
    refine Wa.iload (j := 4) d_MS_carryOut_164 rfl ?_
    refine Wa.bipush (v := 17) d_MS_carryOut_166 rfl ?_
    refine Wa.icmp_ne 175 d_MS_carryOut_168 (by decide) (fun hb => ?_) (fun hb => ?_)
    · have hF := hF.2 hb
      refine Wa.iload (j := 4) d_MS_carryOut_175 rfl ?_
      refine Wa.bipush (v := 32) d_MS_carryOut_177 rfl ?_
      refine Wa.icmp_eq 189 d_MS_carryOut_179 (by decide) (fun hb => ?_) (fun hb => ?_)
      · have hF := hF.1 hb
        refine Wa.iconst (v := 1) d_MS_carryOut_189 rfl ?_
        refine Wa.goto 194 d_MS_carryOut_190 (by decide) ?_
        refine Wa.iadd d_MS_carryOut_194 ?_
        refine Wa.istore (i := 4) (L' := [(4, .int (x4 + (1 : Int32))), (3, .int (x3 + 1)), (0, .ref (hd 65 i0)), (2, .int x2), (5, .int x5)]) d_MS_carryOut_195 (by decide) rfl ?_
        refine Wa.goto 276 d_MS_carryOut_197 (by decide) ?_
        refine Wa.goto 5 d_MS_carryOut_276 (by decide) ?_
        exact Wa.loc [2, 3, 1, 0] rfl hF
      · have hF := hF.2 hb
        refine Wa.iload (j := 4) d_MS_carryOut_182 rfl ?_
        refine Wa.bipush (v := 21) d_MS_carryOut_184 rfl ?_
        refine Wa.icmp_ne 193 d_MS_carryOut_186 (by decide) (fun hb => ?_) (fun hb => ?_)
        · have hF := hF.2 hb
          refine Wa.iconst (v := 2) d_MS_carryOut_193 rfl ?_
          refine Wa.iadd d_MS_carryOut_194 ?_
          refine Wa.istore (i := 4) (L' := [(4, .int (x4 + (2 : Int32))), (3, .int (x3 + 1)), (0, .ref (hd 65 i0)), (2, .int x2), (5, .int x5)]) d_MS_carryOut_195 (by decide) rfl ?_
          refine Wa.goto 276 d_MS_carryOut_197 (by decide) ?_
          refine Wa.goto 5 d_MS_carryOut_276 (by decide) ?_
          exact Wa.loc [2, 3, 1, 0] rfl hF
        · have hF := hF.1 hb
          refine Wa.iconst (v := 1) d_MS_carryOut_189 rfl ?_
          refine Wa.goto 194 d_MS_carryOut_190 (by decide) ?_
          refine Wa.iadd d_MS_carryOut_194 ?_
          refine Wa.istore (i := 4) (L' := [(4, .int (x4 + (1 : Int32))), (3, .int (x3 + 1)), (0, .ref (hd 65 i0)), (2, .int x2), (5, .int x5)]) d_MS_carryOut_195 (by decide) rfl ?_
          refine Wa.goto 276 d_MS_carryOut_197 (by decide) ?_
          refine Wa.goto 5 d_MS_carryOut_276 (by decide) ?_
          exact Wa.loc [2, 3, 1, 0] rfl hF
    · have hF := hF.1 hb
      refine Wa.iconst (v := 0) d_MS_carryOut_171 rfl ?_
      refine Wa.goto 194 d_MS_carryOut_172 (by decide) ?_
      refine Wa.iadd d_MS_carryOut_194 ?_
      refine Wa.istore (i := 4) (L' := [(4, .int (x4 + (0 : Int32))), (3, .int (x3 + 1)), (0, .ref (hd 65 i0)), (2, .int x2), (5, .int x5)]) d_MS_carryOut_195 (by decide) rfl ?_
      refine Wa.goto 276 d_MS_carryOut_197 (by decide) ?_
      refine Wa.goto 5 d_MS_carryOut_276 (by decide) ?_
      exact Wa.loc [2, 3, 1, 0] rfl hF
set_option maxHeartbeats 4000000 in
set_option maxRecDepth 20000 in
theorem g_MS_pushed_0 {d rc rs : Nat} {Q : Option Value → Mu → Prop} {μ : Mu} {i0 : Nat} {x1 : Int32} {x2 : Int32} {x3 : Int32} (hD : 1 ≤ d) (h0 : i0 < 2) (hS : St μ)
    (hF : (Cal K_MS_shows (d - 1) 0 0 [.ref (hd 65 i0), .int x2, .int x3] μ (fun r μ1 => ∃ y2, r = some (.int y2) ∧ (((x1 = 18) → ((y2 = 0 → Q (some (.int 0)) μ1) ∧ (¬ y2 = 0 → (Cal K_MS_shown (d - 1) 0 0 [.ref (hd 65 i0), .int x2, .int x3, .int 0] μ1 (fun r μ4 => ∃ y5, r = some (.int y5) ∧ (vp_in y5 60 ∧ Q (some (.int (mI μ4 (hd 68 i0) y5.toNatClampNeg))) μ4)))))) ∧ ((x1 = 19) → Q (some (.int y2)) μ1) ∧ ((x1 = 20) → (Cal K_MS_marksOf (d - 1) 0 0 [.ref (hd 65 i0), .int x2, .int x3] μ1 (fun r μ9 => ∃ y10, r = some (.int y10) ∧ (Cal K_MM_bits (d - 1) 0 0 [.long y10.toInt64] μ9 (fun r μ11 => ∃ y12, r = some (.int y12) ∧ Q (some (.int y12)) μ11))))) ∧ ((x1 = 22) → ((y2 ≤ 1 → Q (some (.int 0)) μ1) ∧ (¬ y2 ≤ 1 → Q (some (.int 1)) μ1))) ∧ ((x1.toInt < 18 ∨ 22 < x1.toInt ∨ x1 = 21) → ((y2 ≤ 0 → Q (some (.int 0)) μ1) ∧ (¬ y2 ≤ 0 → Q (some (.int 1)) μ1))))))) : Wx K_MS_pushed d rc rs Q 0 [(0, .ref (hd 65 i0)), (1, .int x1), (2, .int x2), (3, .int x3)] [] μ := by
  refine Wa.aload_n (j := 0) d_MS_pushed_0 rfl ?_
  refine Wa.iload_n (j := 2) d_MS_pushed_1 rfl ?_
  refine Wa.iload_n (j := 3) d_MS_pushed_2 rfl ?_
  refine Wx.cVi (q := E_MS) (As := [.int x2, .int x3]) 13 (d - 1) 0 0 _ d_MS_pushed_3 mok_MS_shows vl_MS_121 rfl rfl rfl (Nat.le_of_ble_eq_true rfl) (by omega) (Nat.zero_le _) (Nat.zero_le _) (s_65 hS h0) hF (fun y2 μ1 hS hF => ?_)
  refine Wa.istore (i := 4) (L' := [(4, .int y2), (0, .ref (hd 65 i0)), (1, .int x1), (2, .int x2), (3, .int x3)]) d_MS_pushed_6 (by decide) rfl ?_
  refine Wa.iload_n (j := 2) d_MS_pushed_8 rfl ?_
  have k3 : (x1 = 18) → Wx K_MS_pushed d rc rs Q 44 [(4, .int y2), (0, .ref (hd 65 i0)), (1, .int x1), (2, .int x2), (3, .int x3)] [] μ1 := by
    intro hb
    have hF := hF.1 hb
    refine Wa.iload (j := 0) d_MS_pushed_44 rfl ?_
    refine Wa.if_ne 53 d_MS_pushed_46 (by decide) (fun hb => ?_) (fun hb => ?_)
    · have hF := hF.2 hb
      refine Wa.aload_n (j := 1) d_MS_pushed_53 rfl ?_
      refine Wx.getR 13 7 d_MS_pushed_54 f_MS_7 rfl fl_MS_22 (s_65 hS h0) (r_65_7 hS h0) ?_
      refine Wa.aload_n (j := 1) d_MS_pushed_57 rfl ?_
      refine Wa.iload_n (j := 3) d_MS_pushed_58 rfl ?_
      refine Wa.iload_n (j := 4) d_MS_pushed_59 rfl ?_
      refine Wa.iconst (v := 0) d_MS_pushed_60 rfl ?_
      refine Wx.cVi (q := E_MS) (As := [.int x2, .int x3, .int 0]) 13 (d - 1) 0 0 _ d_MS_pushed_61 mok_MS_shown vl_MS_124 rfl rfl rfl (Nat.le_of_ble_eq_true rfl) (by omega) (Nat.zero_le _) (Nat.zero_le _) (s_65 hS h0) hF (fun y5 μ4 hS hF => ?_)
      have hc6 := hF.1
      have hF := hF.2
      have hlhc6 := vp_in_lt hc6
      refine Wx.iald d_MS_pushed_64 w_68 (s_68 hS h0) hc6 ?_
      exact Wx.reti d_MS_pushed_65 rfl hF
    · have hF := hF.1 hb
      refine Wa.iconst (v := 0) d_MS_pushed_49 rfl ?_
      refine Wa.goto 65 d_MS_pushed_50 (by decide) ?_
      exact Wx.reti d_MS_pushed_65 rfl hF
  have k7 : (x1 = 19) → Wx K_MS_pushed d rc rs Q 66 [(4, .int y2), (0, .ref (hd 65 i0)), (1, .int x1), (2, .int x2), (3, .int x3)] [] μ1 := by
    intro hb
    have hF := hF.2.1 hb
    refine Wa.iload (j := 0) d_MS_pushed_66 rfl ?_
    exact Wx.reti d_MS_pushed_68 rfl hF
  have k8 : (x1 = 20) → Wx K_MS_pushed d rc rs Q 69 [(4, .int y2), (0, .ref (hd 65 i0)), (1, .int x1), (2, .int x2), (3, .int x3)] [] μ1 := by
    intro hb
    have hF := hF.2.2.1 hb
    refine Wa.aload_n (j := 1) d_MS_pushed_69 rfl ?_
    refine Wa.iload_n (j := 3) d_MS_pushed_70 rfl ?_
    refine Wa.iload_n (j := 4) d_MS_pushed_71 rfl ?_
    refine Wx.cVi (q := E_MS) (As := [.int x2, .int x3]) 13 (d - 1) 0 0 _ d_MS_pushed_72 mok_MS_marksOf vl_MS_142 rfl rfl rfl (Nat.le_of_ble_eq_true rfl) (by omega) (Nat.zero_le _) (Nat.zero_le _) (s_65 hS h0) hF (fun y10 μ9 hS hF => ?_)
    refine Wa.i2l d_MS_pushed_75 ?_
    refine Wx.cSi (As := [.long y10.toInt64]) (d - 1) 0 0 _ d_MS_pushed_76 mok_MM_bits sl_MS_127 rfl rfl (Nat.le_of_ble_eq_true rfl) (by omega) (Nat.zero_le _) (Nat.zero_le _) hF (fun y12 μ11 hS hF => ?_)
    exact Wx.reti d_MS_pushed_79 rfl hF
  have k13 : (x1 = 22) → Wx K_MS_pushed d rc rs Q 80 [(4, .int y2), (0, .ref (hd 65 i0)), (1, .int x1), (2, .int x2), (3, .int x3)] [] μ1 := by
    intro hb
    have hF := hF.2.2.2.1 hb
    refine Wa.iload (j := 0) d_MS_pushed_80 rfl ?_
    refine Wa.iconst (v := 1) d_MS_pushed_82 rfl ?_
    refine Wa.icmp_le 90 d_MS_pushed_83 (by decide) (fun hb => ?_) (fun hb => ?_)
    · have hF := hF.1 hb
      refine Wa.iconst (v := 0) d_MS_pushed_90 rfl ?_
      exact Wx.reti d_MS_pushed_91 rfl hF
    · have hF := hF.2 hb
      refine Wa.iconst (v := 1) d_MS_pushed_86 rfl ?_
      refine Wa.goto 91 d_MS_pushed_87 (by decide) ?_
      exact Wx.reti d_MS_pushed_91 rfl hF
  have k14 : (x1.toInt < 18 ∨ 22 < x1.toInt ∨ x1 = 21) → Wx K_MS_pushed d rc rs Q 92 [(4, .int y2), (0, .ref (hd 65 i0)), (1, .int x1), (2, .int x2), (3, .int x3)] [] μ1 := by
    intro hb
    have hF := hF.2.2.2.2 hb
    refine Wa.iload (j := 0) d_MS_pushed_92 rfl ?_
    refine Wa.if_le 101 d_MS_pushed_94 (by decide) (fun hb => ?_) (fun hb => ?_)
    · have hF := hF.1 hb
      refine Wa.iconst (v := 0) d_MS_pushed_101 rfl ?_
      exact Wx.reti d_MS_pushed_102 rfl hF
    · have hF := hF.2 hb
      refine Wa.iconst (v := 1) d_MS_pushed_97 rfl ?_
      refine Wa.goto 102 d_MS_pushed_98 (by decide) ?_
      exact Wx.reti d_MS_pushed_102 rfl hF
  rcases sw_18_22 x1 with hb | hb | hb | hb | hb | hb | hb
  · exact Wa.tabOut 92 d_MS_pushed_9 (Or.inl hb) (by decide) (k14 (Or.inl hb))
  · exact Wa.tabOut 92 d_MS_pushed_9 (Or.inr hb) (by decide) (k14 (Or.inr (Or.inl hb)))
  · exact Wa.tabIn 44 d_MS_pushed_9 (by rw [hb]; decide) (by rw [hb]; decide) (by rw [hb]; rfl) (by decide) (k3 hb)
  · exact Wa.tabIn 66 d_MS_pushed_9 (by rw [hb]; decide) (by rw [hb]; decide) (by rw [hb]; rfl) (by decide) (k7 hb)
  · exact Wa.tabIn 69 d_MS_pushed_9 (by rw [hb]; decide) (by rw [hb]; decide) (by rw [hb]; rfl) (by decide) (k8 hb)
  · exact Wa.tabIn 92 d_MS_pushed_9 (by rw [hb]; decide) (by rw [hb]; decide) (by rw [hb]; rfl) (by decide) (k14 (Or.inr (Or.inr hb)))
  · exact Wa.tabIn 80 d_MS_pushed_9 (by rw [hb]; decide) (by rw [hb]; decide) (by rw [hb]; rfl) (by decide) (k13 hb)
theorem e_MS_pushed {d rc rs : Nat} {Q : Option Value → Mu → Prop} {μ : Mu} {i0 : Nat} {x1 : Int32} {x2 : Int32} {x3 : Int32} (hk : Wx K_MS_pushed d rc rs (fun r μ' => St μ' ∧ Q r μ') 0 [(0, .ref (hd 65 i0)), (1, .int x1), (2, .int x2), (3, .int x3)] [] μ) : Cal K_MS_pushed d rc rs [.ref (hd 65 i0), .int x1, .int x2, .int x3] μ Q := Cal.of (by decide +kernel) rfl rfl (Nat.le_of_ble_eq_true rfl) rfl hk
