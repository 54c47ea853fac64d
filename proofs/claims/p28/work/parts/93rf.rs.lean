/-! segments of methods, by machine: of the law and of the JDK -/
set_option maxHeartbeats 4000000 in
set_option maxRecDepth 20000 in
theorem r_LW_law_0 {d rc rs : Nat} {Q : Option Value → Mu → Prop} {μ : Mu} {a0 : Nat} (hD : 1 ≤ d)
    (hF : ((1 ≤ rc ∧ 4 ≤ rs) ∧ (∃ q2, FreN μ q2 ∧ (∃ cc4 ss5 : Nat, (cc4 ≤ rc - 1 ∧ ss5 ≤ rs - 4) ∧ Cal K_SB_init_da8c8 (d - 1) cc4 ss5 [.ref q2] (mkA μ q2 (1, 12)) (fun r μ7 => r = none ∧ (∃ cc8 ss9 : Nat, (cc8 ≤ rc - 1 - cc4 ∧ ss9 ≤ rs - 4 - ss5) ∧ Cal K_LW_list (d - 1) cc8 ss9 [.ref a0, .ref q2] μ7 (fun r μ11 => ∃ b12, r = some (.ref b12) ∧ Wx K_LW_law d (rc - 1 - cc4 - cc8) (rs - 4 - ss5 - ss9) Q 14 [(0, .ref a0), (1, .ref q2), (2, .ref b12)] [] μ11))))))) : Wx K_LW_law d rc rs Q 0 [(0, .ref a0)] [] μ := by
  have hc1 := hF.1
  have hF := hF.2
  obtain ⟨q2, hc3, hF⟩ := hF
  refine Wa.new (q := E_SB) q2 12 d_LW_law_0 rfl ok_SB (by decide +kernel) cl_LW_34 hc1.1 hc1.2 hc3.1 hc3.2.rw ?_
  refine Wa.dup d_LW_law_3 rfl ?_
  obtain ⟨cc4, ss5, hc6, hF⟩ := hF
  refine Wr.cIv (As := []) (d - 1) cc4 ss5 _ d_LW_law_4 mok_SB_init_da8c8 rfl il_LW_36 rfl rfl (Nat.le_of_ble_eq_true rfl) (by omega) hc6.1 hc6.2 hF (fun μ7 hS hF => ?_)
  refine Wa.astore_n (i := 1) (L' := [(1, .ref q2), (0, .ref a0)]) d_LW_law_7 rfl (by decide) rfl ?_
  refine Wa.aload_n (j := 1) d_LW_law_8 rfl ?_
  refine Wa.aload_n (j := 0) d_LW_law_9 rfl ?_
  obtain ⟨cc8, ss9, hc10, hF⟩ := hF
  refine Wr.cSr (As := [.ref a0, .ref q2]) (d - 1) cc8 ss9 _ d_LW_law_10 mok_LW_list sl_LW_198 rfl rfl (Nat.le_of_ble_eq_true rfl) (by omega) hc10.1 hc10.2 hF (fun b12 μ11 hS hF => ?_)
  refine Wa.astore_n (i := 2) (L' := [(2, .ref b12), (1, .ref q2), (0, .ref a0)]) d_LW_law_13 rfl (by decide) rfl ?_
  exact Wa.loc [2, 1, 0] rfl hF
set_option maxHeartbeats 4000000 in
set_option maxRecDepth 20000 in
theorem r_LW_law_22 {d rc rs : Nat} {Q : Option Value → Mu → Prop} {μ : Mu} {a0 : Nat} {a1 : Nat} {a2 : Nat} {a3 : Nat} (hD : 1 ≤ d)
    (hF : (∃ cc1 ss2 : Nat, (cc1 ≤ rc ∧ ss2 ≤ rs) ∧ (mS μ a1 = (1, 12) ∧ Cal K_SB_toString_0e30d (d - 1) cc1 ss2 [.ref a1] μ (fun r μ4 => ∃ b6, r = some (.ref b6) ∧ (∃ cc7 ss8 : Nat, (cc7 ≤ rc - cc1 ∧ ss8 ≤ rs - ss2) ∧ Cal K_LW_taught (d - 1) cc7 ss8 [.ref a3, .ref b6] μ4 (fun r μ10 => ∃ y11, r = some (.int y11) ∧ ((y11 = 0 → ((¬ (12 : Int32) < 0 ∧ 12 ≤ 1000000 ∧ 1 ≤ rc - cc1 - cc7 ∧ 12 ≤ rs - ss2 - ss8) ∧ (∃ q13, FreN μ10 q13 ∧ Wx K_LW_law d (rc - cc1 - cc7 - 1) (rs - ss2 - ss8 - 12) Q 44 [(0, .ref a0), (2, .ref a2), (3, .ref a3), (4, .ref q13), (5, .int 0)] [] (mkA μ10 q13 (2, 12))))) ∧ (¬ y11 = 0 → Q (some (.int 0)) μ10)))))))) : Wx K_LW_law d rc rs Q 22 [(0, .ref a0), (1, .ref a1), (2, .ref a2), (3, .ref a3)] [] μ := by
  refine Wa.aload_n (j := 3) d_LW_law_22 rfl ?_
  refine Wa.aload_n (j := 1) d_LW_law_23 rfl ?_
  obtain ⟨cc1, ss2, hc3, hF⟩ := hF
  have hc5 := hF.1
  have hF := hF.2
  refine Wr.cVr (q := E_SB) (As := []) 12 (d - 1) cc1 ss2 _ d_LW_law_24 mok_SB_toString_0e30d vl_LW_48 rfl rfl rfl (Nat.le_of_ble_eq_true rfl) (by omega) hc3.1 hc3.2 hc5 hF (fun b6 μ4 hS hF => ?_)
  obtain ⟨cc7, ss8, hc9, hF⟩ := hF
  refine Wx.cSi (As := [.ref a3, .ref b6]) (d - 1) cc7 ss8 _ d_LW_law_27 mok_LW_taught sl_LW_203 rfl rfl (Nat.le_of_ble_eq_true rfl) (by omega) hc9.1 hc9.2 hF (fun y11 μ10 hS hF => ?_)
  refine Wa.if_eq 35 d_LW_law_30 (by decide) (fun hb => ?_) (fun hb => ?_)
  · have hF := hF.1 hb
    refine Wa.bipush (v := 12) d_LW_law_35 rfl ?_
    have hc12 := hF.1
    have hF := hF.2
    obtain ⟨q13, hc14, hF⟩ := hF
    refine Wr.newarr 2 12 q13 d_LW_law_37 ac_int rfl (by decide) hc12.1 rfl hc12.2.1 hc12.2.2.1 hc12.2.2.2 hc14 ?_
    refine Wa.astore (i := 4) (L' := [(4, .ref q13), (0, .ref a0), (1, .ref a1), (2, .ref a2), (3, .ref a3)]) d_LW_law_39 (by decide) rfl ?_
    refine Wa.iconst (v := 0) d_LW_law_41 rfl ?_
    refine Wa.istore (i := 5) (L' := [(5, .int 0), (4, .ref q13), (0, .ref a0), (1, .ref a1), (2, .ref a2), (3, .ref a3)]) d_LW_law_42 (by decide) rfl ?_
    exact Wa.loc [2, 4, 5, 1, 0] rfl hF
  · have hF := hF.2 hb
    refine Wa.iconst (v := 0) d_LW_law_33 rfl ?_
    exact Wx.retz d_LW_law_34 rfl (Or.inl rfl) hF
set_option maxHeartbeats 4000000 in
set_option maxRecDepth 20000 in
theorem r_LW_law_44 {d rc rs : Nat} {Q : Option Value → Mu → Prop} {μ : Mu} {a0 : Nat} {a2 : Nat} {a3 : Nat} {a4 : Nat} {x5 : Int32} (hD : 1 ≤ d)
    (hF : ((9 ≤ x5 → (∃ cc1 ss2 : Nat, (cc1 ≤ rc ∧ ss2 ≤ rs) ∧ (mS μ a2 = (1, 11) ∧ Cal K_SI_isSame (d - 1) cc1 ss2 [.ref a2, .ref a3] μ (fun r μ4 => ∃ y6, r = some (.int y6) ∧ ((y6 = 0 ∨ y6 = 1) ∧ Q (some (.int y6)) μ4))))) ∧ (¬ 9 ≤ x5 → Cal K_LW_cell (d - 1) 0 0 [.ref a0, .int (x5 + (2 : Int32))] μ (fun r μ7 => ∃ y8, r = some (.int y8) ∧ Wx K_LW_law d (rc - 0) (rs - 0) Q 72 [(0, .ref a0), (2, .ref a2), (3, .ref a3), (4, .ref a4), (5, .int x5), (6, .int ((y8 >>> ((1 : Int32) &&& 31)) + ((67 : Int32) * x5))), (7, .int 0)] [] μ7)))) : Wx K_LW_law d rc rs Q 44 [(0, .ref a0), (2, .ref a2), (3, .ref a3), (4, .ref a4), (5, .int x5)] [] μ := by
  refine Wa.iload (j := 4) d_LW_law_44 rfl ?_
  refine Wa.bipush (v := 9) d_LW_law_46 rfl ?_
  refine Wa.icmp_ge 1100 d_LW_law_48 (by decide) (fun hb => ?_) (fun hb => ?_)
  · have hF := hF.1 hb
    refine Wa.aload_n (j := 1) d_LW_law_1100 rfl ?_
    refine Wa.aload_n (j := 2) d_LW_law_1101 rfl ?_
    obtain ⟨cc1, ss2, hc3, hF⟩ := hF
    have hc5 := hF.1
    have hF := hF.2
    refine Wx.cVi (q := E_SI) (As := [.ref a3]) 11 (d - 1) cc1 ss2 _ d_LW_law_1102 mok_SI_isSame vl_LW_245 rfl rfl rfl (Nat.le_of_ble_eq_true rfl) (by omega) hc3.1 hc3.2 hc5 hF (fun y6 μ4 hS hF => ?_)
    exact Wx.retz d_LW_law_1105 rfl hF.1 hF.2
  · have hF := hF.2 hb
    refine Wa.aload_n (j := 0) d_LW_law_51 rfl ?_
    refine Wa.iload (j := 4) d_LW_law_52 rfl ?_
    refine Wa.iconst (v := 2) d_LW_law_54 rfl ?_
    refine Wa.iadd d_LW_law_55 ?_
    refine Wx.cSi (As := [.ref a0, .int (x5 + (2 : Int32))]) (d - 1) 0 0 _ d_LW_law_56 mok_LW_cell sl_LW_83 rfl rfl (Nat.le_of_ble_eq_true rfl) (by omega) (Nat.zero_le _) (Nat.zero_le _) hF (fun y8 μ7 hS hF => ?_)
    refine Wa.iconst (v := 1) d_LW_law_59 rfl ?_
    refine Wa.ishr d_LW_law_60 ?_
    refine Wa.bipush (v := 67) d_LW_law_61 rfl ?_
    refine Wa.iload (j := 4) d_LW_law_63 rfl ?_
    refine Wa.imul d_LW_law_65 ?_
    refine Wa.iadd d_LW_law_66 ?_
    refine Wa.istore (i := 6) (L' := [(6, .int ((y8 >>> ((1 : Int32) &&& 31)) + ((67 : Int32) * x5))), (0, .ref a0), (2, .ref a2), (3, .ref a3), (4, .ref a4), (5, .int x5)]) d_LW_law_67 (by decide) rfl ?_
    refine Wa.iconst (v := 0) d_LW_law_69 rfl ?_
    refine Wa.istore (i := 7) (L' := [(7, .int 0), (6, .int ((y8 >>> ((1 : Int32) &&& 31)) + ((67 : Int32) * x5))), (0, .ref a0), (2, .ref a2), (3, .ref a3), (4, .ref a4), (5, .int x5)]) d_LW_law_70 (by decide) rfl ?_
    exact Wa.loc [2, 3, 4, 5, 6, 1, 0] rfl hF
set_option maxHeartbeats 4000000 in
set_option maxRecDepth 20000 in
theorem r_LW_law_72 {d rc rs : Nat} {Q : Option Value → Mu → Prop} {μ : Mu} {a0 : Nat} {a2 : Nat} {a3 : Nat} {a4 : Nat} {x5 : Int32} {x6 : Int32} {x7 : Int32} (hD : 1 ≤ d)
    (hF : ((2 ≤ x7 → (∃ cc1 ss2 : Nat, (cc1 ≤ rc ∧ ss2 ≤ rs) ∧ (mS μ a3 = (1, 0) ∧ Cal K_PB_digest (d - 1) cc1 ss2 [.ref a3] μ (fun r μ4 => ∃ y6, r = some (.long y6) ∧ (∃ cc7 ss8 : Nat, (cc7 ≤ rc - cc1 ∧ ss8 ≤ rs - ss2) ∧ (mS μ4 a3 = (1, 0) ∧ Cal K_PB_count (d - 1) cc7 ss8 [.ref a3, .int 1] μ4 (fun r μ10 => ∃ y12, r = some (.int y12) ∧ (∃ cc13 ss14 : Nat, (cc13 ≤ rc - cc1 - cc7 ∧ ss14 ≤ rs - ss2 - ss8) ∧ (mS μ10 a3 = (1, 0) ∧ Cal K_PB_count (d - 1) cc13 ss14 [.ref a3, .int 5] μ10 (fun r μ16 => ∃ y18, r = some (.int y18) ∧ ((¬ (4 : Int32) < 0 ∧ 4 ≤ 1000000 ∧ 1 ≤ rc - cc1 - cc7 - cc13 ∧ 4 ≤ rs - ss2 - ss8 - ss14) ∧ (∃ q20, FreN μ16 q20 ∧ (∃ n22, (mS (mkA μ16 q20 (2, 4)) q20 = (2, n22) ∧ vp_in (0 : Int32) n22 ∧ hiN q20) ∧ (∃ n24, (mS (setI (mkA μ16 q20 (2, 4)) q20 (0 : Int32).toNatClampNeg 5) q20 = (2, n24) ∧ vp_in (1 : Int32) n24 ∧ hiN q20) ∧ (∃ n26, (mS (setI (setI (mkA μ16 q20 (2, 4)) q20 (0 : Int32).toNatClampNeg 5) q20 (1 : Int32).toNatClampNeg 9) q20 = (2, n26) ∧ vp_in (2 : Int32) n26 ∧ hiN q20) ∧ (∃ n28, (mS (setI (setI (setI (mkA μ16 q20 (2, 4)) q20 (0 : Int32).toNatClampNeg 5) q20 (1 : Int32).toNatClampNeg 9) q20 (2 : Int32).toNatClampNeg 10) q20 = (2, n28) ∧ vp_in (3 : Int32) n28 ∧ hiN q20) ∧ (∃ n30, mS (setI (setI (setI (setI (mkA μ16 q20 (2, 4)) q20 (0 : Int32).toNatClampNeg 5) q20 (1 : Int32).toNatClampNeg 9) q20 (2 : Int32).toNatClampNeg 10) q20 (3 : Int32).toNatClampNeg 11) q20 = (2, n30) ∧ Wx K_LW_law d (rc - cc1 - cc7 - cc13 - 1) (rs - ss2 - ss8 - ss14 - 4) Q 163 [(0, .ref a0), (2, .ref a2), (3, .ref a3), (4, .ref a4), (5, .int x5), (6, .int x6), (7, .long y6), (9, .int y12), (10, .int y18), (12, .ref q20), (13, .int (nI n30)), (14, .int 0)] [] (setI (setI (setI (setI (mkA μ16 q20 (2, 4)) q20 (0 : Int32).toNatClampNeg 5) q20 (1 : Int32).toNatClampNeg 9) q20 (2 : Int32).toNatClampNeg 10) q20 (3 : Int32).toNatClampNeg 11)))))))))))))))))) ∧ (¬ 2 ≤ x7 → (∃ cc32 ss33 : Nat, (cc32 ≤ rc ∧ ss33 ≤ rs) ∧ CalH K_LW_act (d - 1) cc32 ss33 [.ref a3, .ref a2, .int ((x6 >>> (((3 : Int32) * x7) &&& 31)) + ((29 : Int32) * x7))] μ (fun r μ35 => ∃ y36, r = some (.int y36) ∧ ((y36 = 0 → Q (some (.int 0)) μ35) ∧ (¬ y36 = 0 → Wx K_LW_law d (rc - cc32) (rs - ss33) Q 72 [(0, .ref a0), (2, .ref a2), (3, .ref a3), (4, .ref a4), (5, .int x5), (6, .int x6), (7, .int (x7 + 1))] [] μ35))))))) : Wx K_LW_law d rc rs Q 72 [(0, .ref a0), (2, .ref a2), (3, .ref a3), (4, .ref a4), (5, .int x5), (6, .int x6), (7, .int x7)] [] μ := by
  refine Wa.iload (j := 6) d_LW_law_72 rfl ?_
  refine Wa.iconst (v := 2) d_LW_law_74 rfl ?_
  refine Wa.icmp_ge 107 d_LW_law_75 (by decide) (fun hb => ?_) (fun hb => ?_)
  · have hF := hF.1 hb
    refine Wa.aload_n (j := 2) d_LW_law_107 rfl ?_
    obtain ⟨cc1, ss2, hc3, hF⟩ := hF
    have hc5 := hF.1
    have hF := hF.2
    refine Wx.cVl (q := E_PB) (As := []) 0 (d - 1) cc1 ss2 _ d_LW_law_108 mok_PB_digest vl_LW_211 rfl rfl rfl (Nat.le_of_ble_eq_true rfl) (by omega) hc3.1 hc3.2 hc5 hF (fun y6 μ4 hS hF => ?_)
    refine Wa.lstore (i := 7) (L' := [(7, .long y6), (0, .ref a0), (2, .ref a2), (3, .ref a3), (4, .ref a4), (5, .int x5), (6, .int x6)]) d_LW_law_111 (by decide) rfl ?_
    refine Wa.aload_n (j := 3) d_LW_law_113 rfl ?_
    refine Wa.iconst (v := 1) d_LW_law_114 rfl ?_
    obtain ⟨cc7, ss8, hc9, hF⟩ := hF
    have hc11 := hF.1
    have hF := hF.2
    refine Wx.cVi (q := E_PB) (As := [.int 1]) 0 (d - 1) cc7 ss8 _ d_LW_law_115 mok_PB_count vl_LW_195 rfl rfl rfl (Nat.le_of_ble_eq_true rfl) (by omega) hc9.1 hc9.2 hc11 hF (fun y12 μ10 hS hF => ?_)
    refine Wa.istore (i := 9) (L' := [(9, .int y12), (7, .long y6), (0, .ref a0), (2, .ref a2), (3, .ref a3), (4, .ref a4), (5, .int x5), (6, .int x6)]) d_LW_law_118 (by decide) rfl ?_
    refine Wa.aload_n (j := 4) d_LW_law_120 rfl ?_
    refine Wa.iconst (v := 5) d_LW_law_121 rfl ?_
    obtain ⟨cc13, ss14, hc15, hF⟩ := hF
    have hc17 := hF.1
    have hF := hF.2
    refine Wx.cVi (q := E_PB) (As := [.int 5]) 0 (d - 1) cc13 ss14 _ d_LW_law_122 mok_PB_count vl_LW_195 rfl rfl rfl (Nat.le_of_ble_eq_true rfl) (by omega) hc15.1 hc15.2 hc17 hF (fun y18 μ16 hS hF => ?_)
    refine Wa.istore (i := 10) (L' := [(10, .int y18), (9, .int y12), (7, .long y6), (0, .ref a0), (2, .ref a2), (3, .ref a3), (4, .ref a4), (5, .int x5), (6, .int x6)]) d_LW_law_125 (by decide) rfl ?_
    refine Wa.iconst (v := 4) d_LW_law_127 rfl ?_
    have hc19 := hF.1
    have hF := hF.2
    obtain ⟨q20, hc21, hF⟩ := hF
    refine Wr.newarr 2 4 q20 d_LW_law_128 ac_int rfl (by decide) hc19.1 rfl hc19.2.1 hc19.2.2.1 hc19.2.2.2 hc21 ?_
    refine Wa.dup d_LW_law_130 rfl ?_
    refine Wa.iconst (v := 0) d_LW_law_131 rfl ?_
    refine Wa.iconst (v := 5) d_LW_law_132 rfl ?_
    obtain ⟨n22, hc23, hF⟩ := hF
    refine Wr.iast d_LW_law_133 hc23.1 hc23.2.1 hc23.2.2 ?_
    refine Wa.dup d_LW_law_134 rfl ?_
    refine Wa.iconst (v := 1) d_LW_law_135 rfl ?_
    refine Wa.bipush (v := 9) d_LW_law_136 rfl ?_
    obtain ⟨n24, hc25, hF⟩ := hF
    refine Wr.iast d_LW_law_138 hc25.1 hc25.2.1 hc25.2.2 ?_
    refine Wa.dup d_LW_law_139 rfl ?_
    refine Wa.iconst (v := 2) d_LW_law_140 rfl ?_
    refine Wa.bipush (v := 10) d_LW_law_141 rfl ?_
    obtain ⟨n26, hc27, hF⟩ := hF
    refine Wr.iast d_LW_law_143 hc27.1 hc27.2.1 hc27.2.2 ?_
    refine Wa.dup d_LW_law_144 rfl ?_
    refine Wa.iconst (v := 3) d_LW_law_145 rfl ?_
    refine Wa.bipush (v := 11) d_LW_law_146 rfl ?_
    obtain ⟨n28, hc29, hF⟩ := hF
    refine Wr.iast d_LW_law_148 hc29.1 hc29.2.1 hc29.2.2 ?_
    refine Wa.astore (i := 11) (L' := [(11, .ref q20), (10, .int y18), (9, .int y12), (7, .long y6), (0, .ref a0), (2, .ref a2), (3, .ref a3), (4, .ref a4), (5, .int x5), (6, .int x6)]) d_LW_law_149 (by decide) rfl ?_
    refine Wa.aload (j := 0) d_LW_law_151 rfl ?_
    refine Wa.astore (i := 12) (L' := [(12, .ref q20), (11, .ref q20), (10, .int y18), (9, .int y12), (7, .long y6), (0, .ref a0), (2, .ref a2), (3, .ref a3), (4, .ref a4), (5, .int x5), (6, .int x6)]) d_LW_law_153 (by decide) rfl ?_
    refine Wa.aload (j := 0) d_LW_law_155 rfl ?_
    obtain ⟨n30, hc31, hF⟩ := hF
    refine Wa.alen d_LW_law_157 hc31 (by decide) ?_
    refine Wa.istore (i := 13) (L' := [(13, .int (nI n30)), (12, .ref q20), (11, .ref q20), (10, .int y18), (9, .int y12), (7, .long y6), (0, .ref a0), (2, .ref a2), (3, .ref a3), (4, .ref a4), (5, .int x5), (6, .int x6)]) d_LW_law_158 (by decide) rfl ?_
    refine Wa.iconst (v := 0) d_LW_law_160 rfl ?_
    refine Wa.istore (i := 14) (L' := [(14, .int 0), (13, .int (nI n30)), (12, .ref q20), (11, .ref q20), (10, .int y18), (9, .int y12), (7, .long y6), (0, .ref a0), (2, .ref a2), (3, .ref a3), (4, .ref a4), (5, .int x5), (6, .int x6)]) d_LW_law_161 (by decide) rfl ?_
    exact Wa.loc [7, 8, 9, 10, 11, 12, 6, 5, 4, 2, 1, 0] rfl hF
  · have hF := hF.2 hb
    refine Wa.aload_n (j := 2) d_LW_law_78 rfl ?_
    refine Wa.aload_n (j := 1) d_LW_law_79 rfl ?_
    refine Wa.iload (j := 5) d_LW_law_80 rfl ?_
    refine Wa.iconst (v := 3) d_LW_law_82 rfl ?_
    refine Wa.iload (j := 6) d_LW_law_83 rfl ?_
    refine Wa.imul d_LW_law_85 ?_
    refine Wa.ishr d_LW_law_86 ?_
    refine Wa.bipush (v := 29) d_LW_law_87 rfl ?_
    refine Wa.iload (j := 6) d_LW_law_89 rfl ?_
    refine Wa.imul d_LW_law_91 ?_
    refine Wa.iadd d_LW_law_92 ?_
    obtain ⟨cc32, ss33, hc34, hF⟩ := hF
    refine Wx.cHi (As := [.ref a3, .ref a2, .int ((x6 >>> (((3 : Int32) * x7) &&& 31)) + ((29 : Int32) * x7))]) (d - 1) cc32 ss33 _ d_LW_law_93 moh_LW_act ml_LW_act rfl rfl (Nat.le_of_ble_eq_true rfl) (by omega) hc34.1 hc34.2 hF (fun y36 μ35 hS hF => ?_)
    refine Wa.if_ne 101 d_LW_law_96 (by decide) (fun hb => ?_) (fun hb => ?_)
    · have hF := hF.2 hb
      refine Wa.iinc (i := 7) (j := 6) (v := (x7 + 1)) (L' := [(7, .int (x7 + 1)), (0, .ref a0), (2, .ref a2), (3, .ref a3), (4, .ref a4), (5, .int x5), (6, .int x6)]) d_LW_law_101 rfl rfl (by decide) rfl ?_
      refine Wa.goto 72 d_LW_law_104 (by decide) ?_
      exact Wa.loc [1, 2, 3, 4, 5, 6, 0] rfl hF
    · have hF := hF.1 hb
      refine Wa.iconst (v := 0) d_LW_law_99 rfl ?_
      exact Wx.retz d_LW_law_100 rfl (Or.inl rfl) hF
set_option maxHeartbeats 4000000 in
set_option maxRecDepth 20000 in
theorem r_LW_law_163 {d rc rs : Nat} {Q : Option Value → Mu → Prop} {μ : Mu} {a0 : Nat} {a2 : Nat} {a3 : Nat} {a4 : Nat} {x5 : Int32} {x6 : Int32} {x7 : Int64} {x9 : Int32} {x10 : Int32} {a12 : Nat} {x13 : Int32} {x14 : Int32} (hD : 1 ≤ d)
    (hF : ((x13 ≤ x14 → Wx K_LW_law d rc rs Q 222 [(0, .ref a0), (2, .ref a2), (3, .ref a3), (4, .ref a4), (5, .int x5), (6, .int x6), (7, .long x7), (9, .int x9), (10, .int x10), (12, .int 0), (13, .int 0), (14, .int 0), (15, .int 0)] [] μ) ∧ (¬ x13 ≤ x14 → (∃ n1, (mS μ a12 = (2, n1) ∧ vp_in x14 n1) ∧ (∃ cc3 ss4 : Nat, (cc3 ≤ rc ∧ ss4 ≤ rs) ∧ (mS μ a3 = (1, 0) ∧ Cal K_PB_count (d - 1) cc3 ss4 [.ref a3, .int (gI μ a12 x14.toNatClampNeg)] μ (fun r μ6 => ∃ y8, r = some (.int y8) ∧ (∃ n9, (mS μ6 a4 = (2, n9) ∧ vp_in (gI μ a12 x14.toNatClampNeg) n9) ∧ (((gI μ6 a4 (gI μ a12 x14.toNatClampNeg).toNatClampNeg) ≤ y8 → (∃ cc11 ss12 : Nat, (cc11 ≤ rc - cc3 ∧ ss12 ≤ rs - ss4) ∧ (mS μ6 a3 = (1, 0) ∧ Cal K_PB_count (d - 1) cc11 ss12 [.ref a3, .int (gI μ a12 x14.toNatClampNeg)] μ6 (fun r μ14 => ∃ y16, r = some (.int y16) ∧ (∃ n17, (mS μ14 a4 = (2, n17) ∧ vp_in (gI μ a12 x14.toNatClampNeg) n17 ∧ hiN a4) ∧ Wx K_LW_law d (rc - cc3 - cc11) (rs - ss4 - ss12) Q 163 [(0, .ref a0), (2, .ref a2), (3, .ref a3), (4, .ref a4), (5, .int x5), (6, .int x6), (7, .long x7), (9, .int x9), (10, .int x10), (12, .ref a12), (13, .int x13), (14, .int (x14 + 1))] [] (setI μ14 a4 (gI μ a12 x14.toNatClampNeg).toNatClampNeg y16)))))) ∧ (¬ (gI μ6 a4 (gI μ a12 x14.toNatClampNeg).toNatClampNeg) ≤ y8 → Q (some (.int 0)) μ6)))))))))) : Wx K_LW_law d rc rs Q 163 [(0, .ref a0), (2, .ref a2), (3, .ref a3), (4, .ref a4), (5, .int x5), (6, .int x6), (7, .long x7), (9, .int x9), (10, .int x10), (12, .ref a12), (13, .int x13), (14, .int x14)] [] μ := by
  refine Wa.iload (j := 11) d_LW_law_163 rfl ?_
  refine Wa.iload (j := 10) d_LW_law_165 rfl ?_
  refine Wa.icmp_ge 210 d_LW_law_167 (by decide) (fun hb => ?_) (fun hb => ?_)
  · have hF := hF.1 hb
    refine Wa.iconst (v := 0) d_LW_law_210 rfl ?_
    refine Wa.istore (i := 12) (L' := [(12, .int 0), (0, .ref a0), (2, .ref a2), (3, .ref a3), (4, .ref a4), (5, .int x5), (6, .int x6), (7, .long x7), (9, .int x9), (10, .int x10), (13, .int x13), (14, .int x14)]) d_LW_law_211 (by decide) rfl ?_
    refine Wa.iconst (v := 0) d_LW_law_213 rfl ?_
    refine Wa.istore (i := 13) (L' := [(13, .int 0), (12, .int 0), (0, .ref a0), (2, .ref a2), (3, .ref a3), (4, .ref a4), (5, .int x5), (6, .int x6), (7, .long x7), (9, .int x9), (10, .int x10), (14, .int x14)]) d_LW_law_214 (by decide) rfl ?_
    refine Wa.iconst (v := 0) d_LW_law_216 rfl ?_
    refine Wa.istore (i := 14) (L' := [(14, .int 0), (13, .int 0), (12, .int 0), (0, .ref a0), (2, .ref a2), (3, .ref a3), (4, .ref a4), (5, .int x5), (6, .int x6), (7, .long x7), (9, .int x9), (10, .int x10)]) d_LW_law_217 (by decide) rfl ?_
    refine Wa.iconst (v := 0) d_LW_law_219 rfl ?_
    refine Wa.istore (i := 15) (L' := [(15, .int 0), (14, .int 0), (13, .int 0), (12, .int 0), (0, .ref a0), (2, .ref a2), (3, .ref a3), (4, .ref a4), (5, .int x5), (6, .int x6), (7, .long x7), (9, .int x9), (10, .int x10)]) d_LW_law_220 (by decide) rfl ?_
    exact Wa.loc [4, 5, 6, 7, 8, 9, 10, 11, 12, 3, 2, 1, 0] rfl hF
  · have hF := hF.2 hb
    refine Wa.aload (j := 9) d_LW_law_170 rfl ?_
    refine Wa.iload (j := 11) d_LW_law_172 rfl ?_
    obtain ⟨n1, hc2, hF⟩ := hF
    refine Wa.iald d_LW_law_174 hc2.1 hc2.2 ?_
    refine Wa.istore (i := 15) (L' := [(15, .int (gI μ a12 x14.toNatClampNeg)), (0, .ref a0), (2, .ref a2), (3, .ref a3), (4, .ref a4), (5, .int x5), (6, .int x6), (7, .long x7), (9, .int x9), (10, .int x10), (12, .ref a12), (13, .int x13), (14, .int x14)]) d_LW_law_175 (by decide) rfl ?_
    refine Wa.aload_n (j := 3) d_LW_law_177 rfl ?_
    refine Wa.iload (j := 0) d_LW_law_178 rfl ?_
    obtain ⟨cc3, ss4, hc5, hF⟩ := hF
    have hc7 := hF.1
    have hF := hF.2
    refine Wx.cVi (q := E_PB) (As := [.int (gI μ a12 x14.toNatClampNeg)]) 0 (d - 1) cc3 ss4 _ d_LW_law_180 mok_PB_count vl_LW_195 rfl rfl rfl (Nat.le_of_ble_eq_true rfl) (by omega) hc5.1 hc5.2 hc7 hF (fun y8 μ6 hS hF => ?_)
    refine Wa.aload (j := 4) d_LW_law_183 rfl ?_
    refine Wa.iload (j := 0) d_LW_law_185 rfl ?_
    obtain ⟨n9, hc10, hF⟩ := hF
    refine Wa.iald d_LW_law_187 hc10.1 hc10.2 ?_
    refine Wa.icmp_ge 193 d_LW_law_188 (by decide) (fun hb => ?_) (fun hb => ?_)
    · have hF := hF.1 hb
      refine Wa.aload (j := 4) d_LW_law_193 rfl ?_
      refine Wa.iload (j := 0) d_LW_law_195 rfl ?_
      refine Wa.aload_n (j := 3) d_LW_law_197 rfl ?_
      refine Wa.iload (j := 0) d_LW_law_198 rfl ?_
      obtain ⟨cc11, ss12, hc13, hF⟩ := hF
      have hc15 := hF.1
      have hF := hF.2
      refine Wx.cVi (q := E_PB) (As := [.int (gI μ a12 x14.toNatClampNeg)]) 0 (d - 1) cc11 ss12 _ d_LW_law_200 mok_PB_count vl_LW_195 rfl rfl rfl (Nat.le_of_ble_eq_true rfl) (by omega) hc13.1 hc13.2 hc15 hF (fun y16 μ14 hS hF => ?_)
      obtain ⟨n17, hc18, hF⟩ := hF
      refine Wr.iast d_LW_law_203 hc18.1 hc18.2.1 hc18.2.2 ?_
      refine Wa.iinc (i := 14) (j := 12) (v := (x14 + 1)) (L' := [(14, .int (x14 + 1)), (15, .int (gI μ a12 x14.toNatClampNeg)), (0, .ref a0), (2, .ref a2), (3, .ref a3), (4, .ref a4), (5, .int x5), (6, .int x6), (7, .long x7), (9, .int x9), (10, .int x10), (12, .ref a12), (13, .int x13)]) d_LW_law_204 rfl rfl (by decide) rfl ?_
      refine Wa.goto 163 d_LW_law_207 (by decide) ?_
      exact Wa.loc [2, 3, 4, 5, 6, 7, 8, 9, 10, 11, 12, 0] rfl hF
    · have hF := hF.2 hb
      refine Wa.iconst (v := 0) d_LW_law_191 rfl ?_
      exact Wx.retz d_LW_law_192 rfl (Or.inl rfl) hF
set_option maxHeartbeats 4000000 in
set_option maxRecDepth 20000 in
theorem r_LW_law_222 {d rc rs : Nat} {Q : Option Value → Mu → Prop} {μ : Mu} {a0 : Nat} {a2 : Nat} {a3 : Nat} {a4 : Nat} {x5 : Int32} {x6 : Int32} {x7 : Int64} {x9 : Int32} {x10 : Int32} {x12 : Int32} {x13 : Int32} {x14 : Int32} {x15 : Int32} (hD : 1 ≤ d)
    (hF : ((x9 ≤ x15 → (∃ cc1 ss2 : Nat, (cc1 ≤ rc ∧ ss2 ≤ rs) ∧ (mS μ a3 = (1, 0) ∧ Cal K_PB_count (d - 1) cc1 ss2 [.ref a3, .int 7] μ (fun r μ4 => ∃ y6, r = some (.int y6) ∧ ((x13 = y6 → (∃ cc7 ss8 : Nat, (cc7 ≤ rc - cc1 ∧ ss8 ≤ rs - ss2) ∧ (mS μ4 a3 = (1, 0) ∧ Cal K_PB_count (d - 1) cc7 ss8 [.ref a3, .int 8] μ4 (fun r μ10 => ∃ y12, r = some (.int y12) ∧ ((x14 = y12 → (∃ cc13 ss14 : Nat, (cc13 ≤ rc - cc1 - cc7 ∧ ss14 ≤ rs - ss2 - ss8) ∧ (mS μ10 a3 = (1, 0) ∧ Cal K_PB_mean (d - 1) cc13 ss14 [.ref a3] μ10 (fun r μ16 => ∃ y18, r = some (.double y18) ∧ (vf_n64 (FP.ddiv (FP.i2d x12) (FP.i2d x9)) ∧ (((Op.cmpValue (FP.dcmp y18 (FP.ddiv (FP.i2d x12) (FP.i2d x9))) .l) = 0 → Wx K_LW_law d (rc - cc1 - cc7 - cc13) (rs - ss2 - ss8 - ss14) Q 719 [(0, .ref a0), (2, .ref a2), (3, .ref a3), (4, .ref a4), (5, .int x5), (6, .int x6), (7, .long x7), (9, .int x9), (10, .int x10), (12, .int x12), (15, .int 0)] [] μ16) ∧ (¬ (Op.cmpValue (FP.dcmp y18 (FP.ddiv (FP.i2d x12) (FP.i2d x9))) .l) = 0 → Wx K_LW_law d (rc - cc1 - cc7 - cc13) (rs - ss2 - ss8 - ss14) Q 714 [] [] μ16))))))) ∧ (¬ x14 = y12 → Wx K_LW_law d (rc - cc1 - cc7) (rs - ss2 - ss8) Q 714 [] [] μ10)))))) ∧ (¬ x13 = y6 → Wx K_LW_law d (rc - cc1) (rs - ss2) Q 714 [] [] μ4)))))) ∧ (¬ x9 ≤ x15 → Wx K_LW_law d rc rs Q 235 [(0, .ref a0), (2, .ref a2), (3, .ref a3), (4, .ref a4), (5, .int x5), (6, .int x6), (7, .long x7), (9, .int x9), (10, .int x10), (12, .int x12), (13, .int x13), (14, .int x14), (15, .int x15), (16, .int 0), (17, .int 0)] [] μ))) : Wx K_LW_law d rc rs Q 222 [(0, .ref a0), (2, .ref a2), (3, .ref a3), (4, .ref a4), (5, .int x5), (6, .int x6), (7, .long x7), (9, .int x9), (10, .int x10), (12, .int x12), (13, .int x13), (14, .int x14), (15, .int x15)] [] μ := by
  refine Wa.iload (j := 12) d_LW_law_222 rfl ?_
  refine Wa.iload (j := 7) d_LW_law_224 rfl ?_
  refine Wa.icmp_ge 677 d_LW_law_226 (by decide) (fun hb => ?_) (fun hb => ?_)
  · have hF := hF.1 hb
    refine Wa.iload (j := 10) d_LW_law_677 rfl ?_
    refine Wa.aload_n (j := 2) d_LW_law_679 rfl ?_
    refine Wa.bipush (v := 7) d_LW_law_680 rfl ?_
    obtain ⟨cc1, ss2, hc3, hF⟩ := hF
    have hc5 := hF.1
    have hF := hF.2
    refine Wx.cVi (q := E_PB) (As := [.int 7]) 0 (d - 1) cc1 ss2 _ d_LW_law_682 mok_PB_count vl_LW_195 rfl rfl rfl (Nat.le_of_ble_eq_true rfl) (by omega) hc3.1 hc3.2 hc5 hF (fun y6 μ4 hS hF => ?_)
    refine Wa.icmp_ne 714 d_LW_law_685 (by decide) (fun hb => ?_) (fun hb => ?_)
    · have hF := hF.2 hb
      exact Wa.loc [] rfl hF
    · have hF := hF.1 hb
      refine Wa.iload (j := 11) d_LW_law_688 rfl ?_
      refine Wa.aload_n (j := 2) d_LW_law_690 rfl ?_
      refine Wa.bipush (v := 8) d_LW_law_691 rfl ?_
      obtain ⟨cc7, ss8, hc9, hF⟩ := hF
      have hc11 := hF.1
      have hF := hF.2
      refine Wx.cVi (q := E_PB) (As := [.int 8]) 0 (d - 1) cc7 ss8 _ d_LW_law_693 mok_PB_count vl_LW_195 rfl rfl rfl (Nat.le_of_ble_eq_true rfl) (by omega) hc9.1 hc9.2 hc11 hF (fun y12 μ10 hS hF => ?_)
      refine Wa.icmp_ne 714 d_LW_law_696 (by decide) (fun hb => ?_) (fun hb => ?_)
      · have hF := hF.2 hb
        exact Wa.loc [] rfl hF
      · have hF := hF.1 hb
        refine Wa.aload_n (j := 2) d_LW_law_699 rfl ?_
        obtain ⟨cc13, ss14, hc15, hF⟩ := hF
        have hc17 := hF.1
        have hF := hF.2
        refine Wx.cVd (q := E_PB) (As := []) 0 (d - 1) cc13 ss14 _ d_LW_law_700 mok_PB_mean vl_LW_237 rfl rfl rfl (Nat.le_of_ble_eq_true rfl) (by omega) hc15.1 hc15.2 hc17 hF (fun y18 μ16 hS hF => ?_)
        refine Wa.iload (j := 9) d_LW_law_703 rfl ?_
        refine Wa.i2d d_LW_law_705 ?_
        refine Wa.iload (j := 7) d_LW_law_706 rfl ?_
        refine Wa.i2d d_LW_law_708 ?_
        have hc19 := hF.1
        have hF := hF.2
        refine Wa.ddiv d_LW_law_709 hc19 ?_
        refine Wa.dcmp d_LW_law_710 ?_
        refine Wa.if_eq 716 d_LW_law_711 (by decide) (fun hb => ?_) (fun hb => ?_)
        · have hF := hF.1 hb
          refine Wa.iconst (v := 0) d_LW_law_716 rfl ?_
          refine Wa.istore (i := 15) (L' := [(15, .int 0), (0, .ref a0), (2, .ref a2), (3, .ref a3), (4, .ref a4), (5, .int x5), (6, .int x6), (7, .long x7), (9, .int x9), (10, .int x10), (12, .int x12), (13, .int x13), (14, .int x14)]) d_LW_law_717 (by decide) rfl ?_
          exact Wa.loc [1, 2, 3, 4, 5, 6, 7, 8, 9, 10, 0] rfl hF
        · have hF := hF.2 hb
          exact Wa.loc [] rfl hF
  · have hF := hF.2 hb
    refine Wa.iconst (v := 0) d_LW_law_229 rfl ?_
    refine Wa.istore (i := 16) (L' := [(16, .int 0), (0, .ref a0), (2, .ref a2), (3, .ref a3), (4, .ref a4), (5, .int x5), (6, .int x6), (7, .long x7), (9, .int x9), (10, .int x10), (12, .int x12), (13, .int x13), (14, .int x14), (15, .int x15)]) d_LW_law_230 (by decide) rfl ?_
    refine Wa.iconst (v := 0) d_LW_law_232 rfl ?_
    refine Wa.istore (i := 17) (L' := [(17, .int 0), (16, .int 0), (0, .ref a0), (2, .ref a2), (3, .ref a3), (4, .ref a4), (5, .int x5), (6, .int x6), (7, .long x7), (9, .int x9), (10, .int x10), (12, .int x12), (13, .int x13), (14, .int x14), (15, .int x15)]) d_LW_law_233 (by decide) rfl ?_
    exact Wa.loc [2, 3, 4, 5, 6, 7, 8, 9, 10, 11, 12, 13, 14, 1, 0] rfl hF
set_option maxHeartbeats 4000000 in
set_option maxRecDepth 20000 in
theorem r_LW_law_235 {d rc rs : Nat} {Q : Option Value → Mu → Prop} {μ : Mu} {a0 : Nat} {a2 : Nat} {a3 : Nat} {a4 : Nat} {x5 : Int32} {x6 : Int32} {x7 : Int64} {x9 : Int32} {x10 : Int32} {x12 : Int32} {x13 : Int32} {x14 : Int32} {x15 : Int32} {x16 : Int32} {x17 : Int32} (hD : 1 ≤ d)
    (hF : ((x9 ≤ x17 → (∃ cc1 ss2 : Nat, (cc1 ≤ rc ∧ ss2 ≤ rs) ∧ (mS μ a3 = (1, 0) ∧ Cal K_PB_parish (d - 1) cc1 ss2 [.ref a3, .int x15, .int 0] μ (fun r μ4 => ∃ y6, r = some (.int y6) ∧ ((x16 = y6 → (∃ cc7 ss8 : Nat, (cc7 ≤ rc - cc1 ∧ ss8 ≤ rs - ss2) ∧ (mS μ4 a3 = (1, 0) ∧ Cal K_PB_parish (d - 1) cc7 ss8 [.ref a3, .int x15, .int 1] μ4 (fun r μ10 => ∃ y12, r = some (.int y12) ∧ ((x10 < (x16 + y12) → Wx K_LW_law d (rc - cc1 - cc7) (rs - ss2 - ss8) Q 350 [] [] μ10) ∧ (¬ x10 < (x16 + y12) → (∃ cc13 ss14 : Nat, (cc13 ≤ rc - cc1 - cc7 ∧ ss14 ≤ rs - ss2 - ss8) ∧ (mS μ10 a3 = (1, 0) ∧ Cal K_PB_parish (d - 1) cc13 ss14 [.ref a3, .int x15, .int 3] μ10 (fun r μ16 => ∃ y18, r = some (.int y18) ∧ (∃ cc19 ss20 : Nat, (cc19 ≤ rc - cc1 - cc7 - cc13 ∧ ss20 ≤ rs - ss2 - ss8 - ss14) ∧ (mS μ16 a3 = (1, 0) ∧ Cal K_PB_parish (d - 1) cc19 ss20 [.ref a3, .int x15, .int 2] μ16 (fun r μ22 => ∃ y24, r = some (.int y24) ∧ ((y18 ≤ y24 → (∃ cc25 ss26 : Nat, (cc25 ≤ rc - cc1 - cc7 - cc13 - cc19 ∧ ss26 ≤ rs - ss2 - ss8 - ss14 - ss20) ∧ (mS μ22 a3 = (1, 0) ∧ Cal K_PB_parish (d - 1) cc25 ss26 [.ref a3, .int x15, .int 1] μ22 (fun r μ28 => ∃ y30, r = some (.int y30) ∧ (∃ cc31 ss32 : Nat, (cc31 ≤ rc - cc1 - cc7 - cc13 - cc19 - cc25 ∧ ss32 ≤ rs - ss2 - ss8 - ss14 - ss20 - ss26) ∧ (mS μ28 a3 = (1, 0) ∧ Cal K_PB_parish (d - 1) cc31 ss32 [.ref a3, .int x15, .int 3] μ28 (fun r μ34 => ∃ y36, r = some (.int y36) ∧ Wx K_LW_law d (rc - cc1 - cc7 - cc13 - cc19 - cc25 - cc31) (rs - ss2 - ss8 - ss14 - ss20 - ss26 - ss32) Q 386 [(0, .ref a0), (2, .ref a2), (3, .ref a3), (4, .ref a4), (5, .int x5), (6, .int x6), (7, .long x7), (9, .int x9), (10, .int x10), (12, .int (x12 + x16)), (13, .int (x13 + y30)), (14, .int (x14 + y36)), (15, .int x15), (17, .int 0)] [] μ34))))))) ∧ (¬ y18 ≤ y24 → Wx K_LW_law d (rc - cc1 - cc7 - cc13 - cc19) (rs - ss2 - ss8 - ss14 - ss20) Q 350 [] [] μ22)))))))))))))) ∧ (¬ x16 = y6 → Wx K_LW_law d (rc - cc1) (rs - ss2) Q 350 [] [] μ4)))))) ∧ (¬ x9 ≤ x17 → (∃ cc37 ss38 : Nat, (cc37 ≤ rc ∧ ss38 ≤ rs) ∧ (mS μ a3 = (1, 0) ∧ Cal K_PB_knows (d - 1) cc37 ss38 [.ref a3, .int x15, .int x17] μ (fun r μ40 => ∃ y42, r = some (.int y42) ∧ (∃ cc43 ss44 : Nat, (cc43 ≤ rc - cc37 ∧ ss44 ≤ rs - ss38) ∧ (mS μ40 a3 = (1, 0) ∧ Cal K_PB_knows (d - 1) cc43 ss44 [.ref a3, .int x15, .int x17] μ40 (fun r μ46 => ∃ y48, r = some (.int y48) ∧ (∃ cc49 ss50 : Nat, (cc49 ≤ rc - cc37 - cc43 ∧ ss50 ≤ rs - ss38 - ss44) ∧ (mS μ46 a3 = (1, 0) ∧ Cal K_PB_parish (d - 1) cc49 ss50 [.ref a3, .int x17, .int 4] μ46 (fun r μ52 => ∃ y54, r = some (.int y54) ∧ ((y54 < y48 → Wx K_LW_law d (rc - cc37 - cc43 - cc49) (rs - ss38 - ss44 - ss50) Q 298 [] [] μ52) ∧ (¬ y54 < y48 → ((x15 = x17 → (∃ cc55 ss56 : Nat, (cc55 ≤ rc - cc37 - cc43 - cc49 ∧ ss56 ≤ rs - ss38 - ss44 - ss50) ∧ (mS μ52 a3 = (1, 0) ∧ Cal K_PB_knows (d - 1) cc55 ss56 [.ref a3, .int x15, .int x17] μ52 (fun r μ58 => ∃ y60, r = some (.int y60) ∧ (∃ cc61 ss62 : Nat, (cc61 ≤ rc - cc37 - cc43 - cc49 - cc55 ∧ ss62 ≤ rs - ss38 - ss44 - ss50 - ss56) ∧ (mS μ58 a3 = (1, 0) ∧ Cal K_PB_parish (d - 1) cc61 ss62 [.ref a3, .int x17, .int 4] μ58 (fun r μ64 => ∃ y66, r = some (.int y66) ∧ ((y60 = y66 → Wx K_LW_law d (rc - cc37 - cc43 - cc49 - cc55 - cc61) (rs - ss38 - ss44 - ss50 - ss56 - ss62) Q 300 [(0, .ref a0), (2, .ref a2), (3, .ref a3), (4, .ref a4), (5, .int x5), (6, .int x6), (7, .long x7), (9, .int x9), (10, .int x10), (12, .int x12), (13, .int x13), (14, .int x14), (15, .int x15), (16, .int (x16 + y42)), (17, .int x17)] [] μ64) ∧ (¬ y60 = y66 → Wx K_LW_law d (rc - cc37 - cc43 - cc49 - cc55 - cc61) (rs - ss38 - ss44 - ss50 - ss56 - ss62) Q 298 [] [] μ64))))))))) ∧ (¬ x15 = x17 → Wx K_LW_law d (rc - cc37 - cc43 - cc49) (rs - ss38 - ss44 - ss50) Q 300 [(0, .ref a0), (2, .ref a2), (3, .ref a3), (4, .ref a4), (5, .int x5), (6, .int x6), (7, .long x7), (9, .int x9), (10, .int x10), (12, .int x12), (13, .int x13), (14, .int x14), (15, .int x15), (16, .int (x16 + y42)), (17, .int x17)] [] μ52)))))))))))))))) : Wx K_LW_law d rc rs Q 235 [(0, .ref a0), (2, .ref a2), (3, .ref a3), (4, .ref a4), (5, .int x5), (6, .int x6), (7, .long x7), (9, .int x9), (10, .int x10), (12, .int x12), (13, .int x13), (14, .int x14), (15, .int x15), (16, .int x16), (17, .int x17)] [] μ := by
  refine Wa.iload (j := 14) d_LW_law_235 rfl ?_
  refine Wa.iload (j := 7) d_LW_law_237 rfl ?_
  refine Wa.icmp_ge 306 d_LW_law_239 (by decide) (fun hb => ?_) (fun hb => ?_)
  · have hF := hF.1 hb
    refine Wa.iload (j := 13) d_LW_law_306 rfl ?_
    refine Wa.aload_n (j := 2) d_LW_law_308 rfl ?_
    refine Wa.iload (j := 12) d_LW_law_309 rfl ?_
    refine Wa.iconst (v := 0) d_LW_law_311 rfl ?_
    obtain ⟨cc1, ss2, hc3, hF⟩ := hF
    have hc5 := hF.1
    have hF := hF.2
    refine Wx.cVi (q := E_PB) (As := [.int x15, .int 0]) 0 (d - 1) cc1 ss2 _ d_LW_law_312 mok_PB_parish vl_LW_218 rfl rfl rfl (Nat.le_of_ble_eq_true rfl) (by omega) hc3.1 hc3.2 hc5 hF (fun y6 μ4 hS hF => ?_)
    refine Wa.icmp_ne 350 d_LW_law_315 (by decide) (fun hb => ?_) (fun hb => ?_)
    · have hF := hF.2 hb
      exact Wa.loc [] rfl hF
    · have hF := hF.1 hb
      refine Wa.iload (j := 13) d_LW_law_318 rfl ?_
      refine Wa.aload_n (j := 2) d_LW_law_320 rfl ?_
      refine Wa.iload (j := 12) d_LW_law_321 rfl ?_
      refine Wa.iconst (v := 1) d_LW_law_323 rfl ?_
      obtain ⟨cc7, ss8, hc9, hF⟩ := hF
      have hc11 := hF.1
      have hF := hF.2
      refine Wx.cVi (q := E_PB) (As := [.int x15, .int 1]) 0 (d - 1) cc7 ss8 _ d_LW_law_324 mok_PB_parish vl_LW_218 rfl rfl rfl (Nat.le_of_ble_eq_true rfl) (by omega) hc9.1 hc9.2 hc11 hF (fun y12 μ10 hS hF => ?_)
      refine Wa.iadd d_LW_law_327 ?_
      refine Wa.iload (j := 8) d_LW_law_328 rfl ?_
      refine Wa.icmp_gt 350 d_LW_law_330 (by decide) (fun hb => ?_) (fun hb => ?_)
      · have hF := hF.1 hb
        exact Wa.loc [] rfl hF
      · have hF := hF.2 hb
        refine Wa.aload_n (j := 2) d_LW_law_333 rfl ?_
        refine Wa.iload (j := 12) d_LW_law_334 rfl ?_
        refine Wa.iconst (v := 3) d_LW_law_336 rfl ?_
        obtain ⟨cc13, ss14, hc15, hF⟩ := hF
        have hc17 := hF.1
        have hF := hF.2
        refine Wx.cVi (q := E_PB) (As := [.int x15, .int 3]) 0 (d - 1) cc13 ss14 _ d_LW_law_337 mok_PB_parish vl_LW_218 rfl rfl rfl (Nat.le_of_ble_eq_true rfl) (by omega) hc15.1 hc15.2 hc17 hF (fun y18 μ16 hS hF => ?_)
        refine Wa.aload_n (j := 2) d_LW_law_340 rfl ?_
        refine Wa.iload (j := 12) d_LW_law_341 rfl ?_
        refine Wa.iconst (v := 2) d_LW_law_343 rfl ?_
        obtain ⟨cc19, ss20, hc21, hF⟩ := hF
        have hc23 := hF.1
        have hF := hF.2
        refine Wx.cVi (q := E_PB) (As := [.int x15, .int 2]) 0 (d - 1) cc19 ss20 _ d_LW_law_344 mok_PB_parish vl_LW_218 rfl rfl rfl (Nat.le_of_ble_eq_true rfl) (by omega) hc21.1 hc21.2 hc23 hF (fun y24 μ22 hS hF => ?_)
        refine Wa.icmp_le 352 d_LW_law_347 (by decide) (fun hb => ?_) (fun hb => ?_)
        · have hF := hF.1 hb
          refine Wa.iload (j := 9) d_LW_law_352 rfl ?_
          refine Wa.iload (j := 13) d_LW_law_354 rfl ?_
          refine Wa.iadd d_LW_law_356 ?_
          refine Wa.istore (i := 12) (L' := [(12, .int (x12 + x16)), (0, .ref a0), (2, .ref a2), (3, .ref a3), (4, .ref a4), (5, .int x5), (6, .int x6), (7, .long x7), (9, .int x9), (10, .int x10), (13, .int x13), (14, .int x14), (15, .int x15), (16, .int x16), (17, .int x17)]) d_LW_law_357 (by decide) rfl ?_
          refine Wa.iload (j := 10) d_LW_law_359 rfl ?_
          refine Wa.aload_n (j := 3) d_LW_law_361 rfl ?_
          refine Wa.iload (j := 12) d_LW_law_362 rfl ?_
          refine Wa.iconst (v := 1) d_LW_law_364 rfl ?_
          obtain ⟨cc25, ss26, hc27, hF⟩ := hF
          have hc29 := hF.1
          have hF := hF.2
          refine Wx.cVi (q := E_PB) (As := [.int x15, .int 1]) 0 (d - 1) cc25 ss26 _ d_LW_law_365 mok_PB_parish vl_LW_218 rfl rfl rfl (Nat.le_of_ble_eq_true rfl) (by omega) hc27.1 hc27.2 hc29 hF (fun y30 μ28 hS hF => ?_)
          refine Wa.iadd d_LW_law_368 ?_
          refine Wa.istore (i := 13) (L' := [(13, .int (x13 + y30)), (12, .int (x12 + x16)), (0, .ref a0), (2, .ref a2), (3, .ref a3), (4, .ref a4), (5, .int x5), (6, .int x6), (7, .long x7), (9, .int x9), (10, .int x10), (14, .int x14), (15, .int x15), (16, .int x16), (17, .int x17)]) d_LW_law_369 (by decide) rfl ?_
          refine Wa.iload (j := 11) d_LW_law_371 rfl ?_
          refine Wa.aload_n (j := 4) d_LW_law_373 rfl ?_
          refine Wa.iload (j := 12) d_LW_law_374 rfl ?_
          refine Wa.iconst (v := 3) d_LW_law_376 rfl ?_
          obtain ⟨cc31, ss32, hc33, hF⟩ := hF
          have hc35 := hF.1
          have hF := hF.2
          refine Wx.cVi (q := E_PB) (As := [.int x15, .int 3]) 0 (d - 1) cc31 ss32 _ d_LW_law_377 mok_PB_parish vl_LW_218 rfl rfl rfl (Nat.le_of_ble_eq_true rfl) (by omega) hc33.1 hc33.2 hc35 hF (fun y36 μ34 hS hF => ?_)
          refine Wa.iadd d_LW_law_380 ?_
          refine Wa.istore (i := 14) (L' := [(14, .int (x14 + y36)), (13, .int (x13 + y30)), (12, .int (x12 + x16)), (0, .ref a0), (2, .ref a2), (3, .ref a3), (4, .ref a4), (5, .int x5), (6, .int x6), (7, .long x7), (9, .int x9), (10, .int x10), (15, .int x15), (16, .int x16), (17, .int x17)]) d_LW_law_381 (by decide) rfl ?_
          refine Wa.iconst (v := 0) d_LW_law_383 rfl ?_
          refine Wa.istore (i := 17) (L' := [(17, .int 0), (14, .int (x14 + y36)), (13, .int (x13 + y30)), (12, .int (x12 + x16)), (0, .ref a0), (2, .ref a2), (3, .ref a3), (4, .ref a4), (5, .int x5), (6, .int x6), (7, .long x7), (9, .int x9), (10, .int x10), (15, .int x15), (16, .int x16)]) d_LW_law_384 (by decide) rfl ?_
          exact Wa.loc [4, 5, 6, 7, 8, 9, 10, 11, 12, 3, 2, 1, 13, 0] rfl hF
        · have hF := hF.2 hb
          exact Wa.loc [] rfl hF
  · have hF := hF.2 hb
    refine Wa.iload (j := 13) d_LW_law_242 rfl ?_
    refine Wa.aload_n (j := 2) d_LW_law_244 rfl ?_
    refine Wa.iload (j := 12) d_LW_law_245 rfl ?_
    refine Wa.iload (j := 14) d_LW_law_247 rfl ?_
    obtain ⟨cc37, ss38, hc39, hF⟩ := hF
    have hc41 := hF.1
    have hF := hF.2
    refine Wx.cVi (q := E_PB) (As := [.int x15, .int x17]) 0 (d - 1) cc37 ss38 _ d_LW_law_249 mok_PB_knows vl_LW_215 rfl rfl rfl (Nat.le_of_ble_eq_true rfl) (by omega) hc39.1 hc39.2 hc41 hF (fun y42 μ40 hS hF => ?_)
    refine Wa.iadd d_LW_law_252 ?_
    refine Wa.istore (i := 16) (L' := [(16, .int (x16 + y42)), (0, .ref a0), (2, .ref a2), (3, .ref a3), (4, .ref a4), (5, .int x5), (6, .int x6), (7, .long x7), (9, .int x9), (10, .int x10), (12, .int x12), (13, .int x13), (14, .int x14), (15, .int x15), (17, .int x17)]) d_LW_law_253 (by decide) rfl ?_
    refine Wa.aload_n (j := 3) d_LW_law_255 rfl ?_
    refine Wa.iload (j := 13) d_LW_law_256 rfl ?_
    refine Wa.iload (j := 14) d_LW_law_258 rfl ?_
    obtain ⟨cc43, ss44, hc45, hF⟩ := hF
    have hc47 := hF.1
    have hF := hF.2
    refine Wx.cVi (q := E_PB) (As := [.int x15, .int x17]) 0 (d - 1) cc43 ss44 _ d_LW_law_260 mok_PB_knows vl_LW_215 rfl rfl rfl (Nat.le_of_ble_eq_true rfl) (by omega) hc45.1 hc45.2 hc47 hF (fun y48 μ46 hS hF => ?_)
    refine Wa.aload_n (j := 3) d_LW_law_263 rfl ?_
    refine Wa.iload (j := 14) d_LW_law_264 rfl ?_
    refine Wa.iconst (v := 4) d_LW_law_266 rfl ?_
    obtain ⟨cc49, ss50, hc51, hF⟩ := hF
    have hc53 := hF.1
    have hF := hF.2
    refine Wx.cVi (q := E_PB) (As := [.int x17, .int 4]) 0 (d - 1) cc49 ss50 _ d_LW_law_267 mok_PB_parish vl_LW_218 rfl rfl rfl (Nat.le_of_ble_eq_true rfl) (by omega) hc51.1 hc51.2 hc53 hF (fun y54 μ52 hS hF => ?_)
    refine Wa.icmp_gt 298 d_LW_law_270 (by decide) (fun hb => ?_) (fun hb => ?_)
    · have hF := hF.1 hb
      exact Wa.loc [] rfl hF
    · have hF := hF.2 hb
      refine Wa.iload (j := 13) d_LW_law_273 rfl ?_
      refine Wa.iload (j := 14) d_LW_law_275 rfl ?_
      refine Wa.icmp_ne 300 d_LW_law_277 (by decide) (fun hb => ?_) (fun hb => ?_)
      · have hF := hF.2 hb
        exact Wa.loc [1, 2, 3, 4, 5, 6, 7, 8, 9, 10, 11, 12, 13, 0, 14] rfl hF
      · have hF := hF.1 hb
        refine Wa.aload_n (j := 3) d_LW_law_280 rfl ?_
        refine Wa.iload (j := 13) d_LW_law_281 rfl ?_
        refine Wa.iload (j := 14) d_LW_law_283 rfl ?_
        obtain ⟨cc55, ss56, hc57, hF⟩ := hF
        have hc59 := hF.1
        have hF := hF.2
        refine Wx.cVi (q := E_PB) (As := [.int x15, .int x17]) 0 (d - 1) cc55 ss56 _ d_LW_law_285 mok_PB_knows vl_LW_215 rfl rfl rfl (Nat.le_of_ble_eq_true rfl) (by omega) hc57.1 hc57.2 hc59 hF (fun y60 μ58 hS hF => ?_)
        refine Wa.aload_n (j := 3) d_LW_law_288 rfl ?_
        refine Wa.iload (j := 14) d_LW_law_289 rfl ?_
        refine Wa.iconst (v := 4) d_LW_law_291 rfl ?_
        obtain ⟨cc61, ss62, hc63, hF⟩ := hF
        have hc65 := hF.1
        have hF := hF.2
        refine Wx.cVi (q := E_PB) (As := [.int x17, .int 4]) 0 (d - 1) cc61 ss62 _ d_LW_law_292 mok_PB_parish vl_LW_218 rfl rfl rfl (Nat.le_of_ble_eq_true rfl) (by omega) hc63.1 hc63.2 hc65 hF (fun y66 μ64 hS hF => ?_)
        refine Wa.icmp_eq 300 d_LW_law_295 (by decide) (fun hb => ?_) (fun hb => ?_)
        · have hF := hF.1 hb
          exact Wa.loc [1, 2, 3, 4, 5, 6, 7, 8, 9, 10, 11, 12, 13, 0, 14] rfl hF
        · have hF := hF.2 hb
          exact Wa.loc [] rfl hF
set_option maxHeartbeats 4000000 in
set_option maxRecDepth 20000 in
theorem r_LW_law_298 {d rc rs : Nat} {Q : Option Value → Mu → Prop} {μ : Mu}  (hD : 1 ≤ d)
    (hF : Q (some (.int 0)) μ) : Wx K_LW_law d rc rs Q 298 [] [] μ := by
  refine Wa.iconst (v := 0) d_LW_law_298 rfl ?_
  exact Wx.retz d_LW_law_299 rfl (Or.inl rfl) hF
set_option maxHeartbeats 4000000 in
set_option maxRecDepth 20000 in
theorem r_LW_law_300 {d rc rs : Nat} {Q : Option Value → Mu → Prop} {μ : Mu} {a0 : Nat} {a2 : Nat} {a3 : Nat} {a4 : Nat} {x5 : Int32} {x6 : Int32} {x7 : Int64} {x9 : Int32} {x10 : Int32} {x12 : Int32} {x13 : Int32} {x14 : Int32} {x15 : Int32} {x16 : Int32} {x17 : Int32} (hD : 1 ≤ d)
    (hF : Wx K_LW_law d rc rs Q 235 [(0, .ref a0), (2, .ref a2), (3, .ref a3), (4, .ref a4), (5, .int x5), (6, .int x6), (7, .long x7), (9, .int x9), (10, .int x10), (12, .int x12), (13, .int x13), (14, .int x14), (15, .int x15), (16, .int x16), (17, .int (x17 + 1))] [] μ) : Wx K_LW_law d rc rs Q 300 [(0, .ref a0), (2, .ref a2), (3, .ref a3), (4, .ref a4), (5, .int x5), (6, .int x6), (7, .long x7), (9, .int x9), (10, .int x10), (12, .int x12), (13, .int x13), (14, .int x14), (15, .int x15), (16, .int x16), (17, .int x17)] [] μ := by
  refine Wa.iinc (i := 17) (j := 14) (v := (x17 + 1)) (L' := [(17, .int (x17 + 1)), (0, .ref a0), (2, .ref a2), (3, .ref a3), (4, .ref a4), (5, .int x5), (6, .int x6), (7, .long x7), (9, .int x9), (10, .int x10), (12, .int x12), (13, .int x13), (14, .int x14), (15, .int x15), (16, .int x16)]) d_LW_law_300 rfl rfl (by decide) rfl ?_
  refine Wa.goto 235 d_LW_law_303 (by decide) ?_
  exact Wa.loc [1, 2, 3, 4, 5, 6, 7, 8, 9, 10, 11, 12, 13, 14, 0] rfl hF
set_option maxHeartbeats 4000000 in
set_option maxRecDepth 20000 in
theorem r_LW_law_350 {d rc rs : Nat} {Q : Option Value → Mu → Prop} {μ : Mu}  (hD : 1 ≤ d)
    (hF : Q (some (.int 0)) μ) : Wx K_LW_law d rc rs Q 350 [] [] μ := by
  refine Wa.iconst (v := 0) d_LW_law_350 rfl ?_
  exact Wx.retz d_LW_law_351 rfl (Or.inl rfl) hF
set_option maxHeartbeats 4000000 in
set_option maxRecDepth 20000 in
theorem r_LW_law_386 {d rc rs : Nat} {Q : Option Value → Mu → Prop} {μ : Mu} {a0 : Nat} {a2 : Nat} {a3 : Nat} {a4 : Nat} {x5 : Int32} {x6 : Int32} {x7 : Int64} {x9 : Int32} {x10 : Int32} {x12 : Int32} {x13 : Int32} {x14 : Int32} {x15 : Int32} {x17 : Int32} (hD : 1 ≤ d)
    (hF : (∃ cc1 ss2 : Nat, (cc1 ≤ rc ∧ ss2 ≤ rs) ∧ (mS μ a3 = (1, 0) ∧ Cal K_PB_count (d - 1) cc1 ss2 [.ref a3, .int 2] μ (fun r μ4 => ∃ y6, r = some (.int y6) ∧ ((y6 ≤ x17 → Wx K_LW_law d (rc - cc1) (rs - ss2) Q 222 [(0, .ref a0), (2, .ref a2), (3, .ref a3), (4, .ref a4), (5, .int x5), (6, .int x6), (7, .long x7), (9, .int x9), (10, .int x10), (12, .int x12), (13, .int x13), (14, .int x14), (15, .int (x15 + 1))] [] μ4) ∧ (¬ y6 ≤ x17 → (∃ cc7 ss8 : Nat, (cc7 ≤ rc - cc1 ∧ ss8 ≤ rs - ss2) ∧ (mS μ4 a2 = (1, 11) ∧ Cal K_SI_shows (d - 1) cc7 ss8 [.ref a2, .int x15, .int x17] μ4 (fun r μ10 => ∃ b12, r = some (.ref b12) ∧ Wx K_LW_law d (rc - cc1 - cc7) (rs - ss2 - ss8) Q 409 [(0, .ref a0), (2, .ref a2), (3, .ref a3), (4, .ref a4), (5, .int x5), (6, .int x6), (7, .long x7), (9, .int x9), (10, .int x10), (12, .int x12), (13, .int x13), (14, .int x14), (15, .int x15), (17, .int x17), (18, .ref b12), (19, .int 0)] [] μ10))))))))) : Wx K_LW_law d rc rs Q 386 [(0, .ref a0), (2, .ref a2), (3, .ref a3), (4, .ref a4), (5, .int x5), (6, .int x6), (7, .long x7), (9, .int x9), (10, .int x10), (12, .int x12), (13, .int x13), (14, .int x14), (15, .int x15), (17, .int x17)] [] μ := by
  refine Wa.iload (j := 13) d_LW_law_386 rfl ?_
  refine Wa.aload_n (j := 2) d_LW_law_388 rfl ?_
  refine Wa.iconst (v := 2) d_LW_law_389 rfl ?_
  obtain ⟨cc1, ss2, hc3, hF⟩ := hF
  have hc5 := hF.1
  have hF := hF.2
  refine Wx.cVi (q := E_PB) (As := [.int 2]) 0 (d - 1) cc1 ss2 _ d_LW_law_390 mok_PB_count vl_LW_195 rfl rfl rfl (Nat.le_of_ble_eq_true rfl) (by omega) hc3.1 hc3.2 hc5 hF (fun y6 μ4 hS hF => ?_)
  refine Wa.icmp_ge 671 d_LW_law_393 (by decide) (fun hb => ?_) (fun hb => ?_)
  · have hF := hF.1 hb
    refine Wa.iinc (i := 15) (j := 12) (v := (x15 + 1)) (L' := [(15, .int (x15 + 1)), (0, .ref a0), (2, .ref a2), (3, .ref a3), (4, .ref a4), (5, .int x5), (6, .int x6), (7, .long x7), (9, .int x9), (10, .int x10), (12, .int x12), (13, .int x13), (14, .int x14), (17, .int x17)]) d_LW_law_671 rfl rfl (by decide) rfl ?_
    refine Wa.goto 222 d_LW_law_674 (by decide) ?_
    exact Wa.loc [1, 2, 3, 4, 5, 6, 7, 8, 9, 10, 11, 12, 0] rfl hF
  · have hF := hF.2 hb
    refine Wa.aload_n (j := 1) d_LW_law_396 rfl ?_
    refine Wa.iload (j := 12) d_LW_law_397 rfl ?_
    refine Wa.iload (j := 13) d_LW_law_399 rfl ?_
    obtain ⟨cc7, ss8, hc9, hF⟩ := hF
    have hc11 := hF.1
    have hF := hF.2
    refine Wr.cVr (q := E_SI) (As := [.int x15, .int x17]) 11 (d - 1) cc7 ss8 _ d_LW_law_401 mok_SI_shows vl_LW_221 rfl rfl rfl (Nat.le_of_ble_eq_true rfl) (by omega) hc9.1 hc9.2 hc11 hF (fun b12 μ10 hS hF => ?_)
    refine Wa.astore (i := 18) (L' := [(18, .ref b12), (0, .ref a0), (2, .ref a2), (3, .ref a3), (4, .ref a4), (5, .int x5), (6, .int x6), (7, .long x7), (9, .int x9), (10, .int x10), (12, .int x12), (13, .int x13), (14, .int x14), (15, .int x15), (17, .int x17)]) d_LW_law_404 (by decide) rfl ?_
    refine Wa.iconst (v := 0) d_LW_law_406 rfl ?_
    refine Wa.istore (i := 19) (L' := [(19, .int 0), (18, .ref b12), (0, .ref a0), (2, .ref a2), (3, .ref a3), (4, .ref a4), (5, .int x5), (6, .int x6), (7, .long x7), (9, .int x9), (10, .int x10), (12, .int x12), (13, .int x13), (14, .int x14), (15, .int x15), (17, .int x17)]) d_LW_law_407 (by decide) rfl ?_
    exact Wa.loc [2, 3, 4, 5, 6, 7, 8, 9, 10, 11, 12, 13, 14, 15, 1, 0] rfl hF
set_option maxHeartbeats 4000000 in
set_option maxRecDepth 20000 in
theorem r_LW_law_409 {d rc rs : Nat} {Q : Option Value → Mu → Prop} {μ : Mu} {a0 : Nat} {a2 : Nat} {a3 : Nat} {a4 : Nat} {x5 : Int32} {x6 : Int32} {x7 : Int64} {x9 : Int32} {x10 : Int32} {x12 : Int32} {x13 : Int32} {x14 : Int32} {x15 : Int32} {x17 : Int32} {a18 : Nat} {x19 : Int32} (hD : 1 ≤ d)
    (hF : (∃ n1, mS μ a18 = (2, n1) ∧ (((nI n1) ≤ x19 → Wx K_LW_law d rc rs Q 544 [(0, .ref a0), (2, .ref a2), (3, .ref a3), (4, .ref a4), (5, .int x5), (6, .int x6), (7, .long x7), (9, .int x9), (10, .int x10), (12, .int x12), (13, .int x13), (14, .int x14), (15, .int x15), (17, .int x17), (18, .ref a18), (19, .int 0)] [] μ) ∧ (¬ (nI n1) ≤ x19 → (∃ cc3 ss4 : Nat, (cc3 ≤ rc ∧ ss4 ≤ rs) ∧ (mS μ a3 = (1, 0) ∧ Cal K_PB_shown (d - 1) cc3 ss4 [.ref a3, .int x15, .int x17, .int x19] μ (fun r μ6 => ∃ y8, r = some (.int y8) ∧ (∃ n9, (mS μ6 a18 = (2, n9) ∧ vp_in x19 n9) ∧ ((y8 = (gI μ6 a18 x19.toNatClampNeg) → (∃ cc11 ss12 : Nat, (cc11 ≤ rc - cc3 ∧ ss12 ≤ rs - ss4) ∧ (mS μ6 a3 = (1, 0) ∧ Cal K_PB_sheet (d - 1) cc11 ss12 [.ref a3, .int y8, .int 1] μ6 (fun r μ14 => ∃ y16, r = some (.int y16) ∧ ((y16 = x17 → (∃ cc17 ss18 : Nat, (cc17 ≤ rc - cc3 - cc11 ∧ ss18 ≤ rs - ss4 - ss12) ∧ (mS μ14 a3 = (1, 0) ∧ Cal K_PB_sheet (d - 1) cc17 ss18 [.ref a3, .int y8, .int 0] μ14 (fun r μ20 => ∃ y22, r = some (.int y22) ∧ (∃ cc23 ss24 : Nat, (cc23 ≤ rc - cc3 - cc11 - cc17 ∧ ss24 ≤ rs - ss4 - ss12 - ss18) ∧ (mS μ20 a3 = (1, 0) ∧ Cal K_PB_stamp (d - 1) cc23 ss24 [.ref a3, .int y8, .int y22] μ20 (fun r μ26 => ∃ y28, r = some (.int y28) ∧ (∃ cc29 ss30 : Nat, (cc29 ≤ rc - cc3 - cc11 - cc17 - cc23 ∧ ss30 ≤ rs - ss4 - ss12 - ss18 - ss24) ∧ (mS μ26 a3 = (1, 0) ∧ Cal K_PB_sheet (d - 1) cc29 ss30 [.ref a3, .int y8, .int 0] μ26 (fun r μ32 => ∃ y34, r = some (.int y34) ∧ (∃ cc35 ss36 : Nat, (cc35 ≤ rc - cc3 - cc11 - cc17 - cc23 - cc29 ∧ ss36 ≤ rs - ss4 - ss12 - ss18 - ss24 - ss30) ∧ (mS μ32 a3 = (1, 0) ∧ Cal K_PB_knows (d - 1) cc35 ss36 [.ref a3, .int x15, .int y34] μ32 (fun r μ38 => ∃ y40, r = some (.int y40) ∧ ((y28 ≤ y40 → Wx K_LW_law d (rc - cc3 - cc11 - cc17 - cc23 - cc29 - cc35) (rs - ss4 - ss12 - ss18 - ss24 - ss30 - ss36) Q 485 [(0, .ref a0), (2, .ref a2), (3, .ref a3), (4, .ref a4), (5, .int x5), (6, .int x6), (7, .long x7), (9, .int x9), (10, .int x10), (12, .int x12), (13, .int x13), (14, .int x14), (15, .int x15), (17, .int x17), (18, .ref a18), (19, .int x19), (20, .int y8), (21, .int 0)] [] μ38) ∧ (¬ y28 ≤ y40 → Wx K_LW_law d (rc - cc3 - cc11 - cc17 - cc23 - cc29 - cc35) (rs - ss4 - ss12 - ss18 - ss24 - ss30 - ss36) Q 480 [] [] μ38))))))))))))))) ∧ (¬ y16 = x17 → Wx K_LW_law d (rc - cc3 - cc11) (rs - ss4 - ss12) Q 480 [] [] μ14)))))) ∧ (¬ y8 = (gI μ6 a18 x19.toNatClampNeg) → Wx K_LW_law d (rc - cc3) (rs - ss4) Q 480 [] [] μ6)))))))))) : Wx K_LW_law d rc rs Q 409 [(0, .ref a0), (2, .ref a2), (3, .ref a3), (4, .ref a4), (5, .int x5), (6, .int x6), (7, .long x7), (9, .int x9), (10, .int x10), (12, .int x12), (13, .int x13), (14, .int x14), (15, .int x15), (17, .int x17), (18, .ref a18), (19, .int x19)] [] μ := by
  refine Wa.iload (j := 15) d_LW_law_409 rfl ?_
  refine Wa.aload (j := 14) d_LW_law_411 rfl ?_
  obtain ⟨n1, hc2, hF⟩ := hF
  refine Wa.alen d_LW_law_413 hc2 (by decide) ?_
  refine Wa.icmp_ge 541 d_LW_law_414 (by decide) (fun hb => ?_) (fun hb => ?_)
  · have hF := hF.1 hb
    refine Wa.iconst (v := 0) d_LW_law_541 rfl ?_
    refine Wa.istore (i := 19) (L' := [(19, .int 0), (0, .ref a0), (2, .ref a2), (3, .ref a3), (4, .ref a4), (5, .int x5), (6, .int x6), (7, .long x7), (9, .int x9), (10, .int x10), (12, .int x12), (13, .int x13), (14, .int x14), (15, .int x15), (17, .int x17), (18, .ref a18)]) d_LW_law_542 (by decide) rfl ?_
    exact Wa.loc [1, 2, 3, 4, 5, 6, 7, 8, 9, 10, 11, 12, 13, 14, 15, 0] rfl hF
  · have hF := hF.2 hb
    refine Wa.aload_n (j := 2) d_LW_law_417 rfl ?_
    refine Wa.iload (j := 12) d_LW_law_418 rfl ?_
    refine Wa.iload (j := 13) d_LW_law_420 rfl ?_
    refine Wa.iload (j := 15) d_LW_law_422 rfl ?_
    obtain ⟨cc3, ss4, hc5, hF⟩ := hF
    have hc7 := hF.1
    have hF := hF.2
    refine Wx.cVi (q := E_PB) (As := [.int x15, .int x17, .int x19]) 0 (d - 1) cc3 ss4 _ d_LW_law_424 mok_PB_shown vl_LW_225 rfl rfl rfl (Nat.le_of_ble_eq_true rfl) (by omega) hc5.1 hc5.2 hc7 hF (fun y8 μ6 hS hF => ?_)
    refine Wa.istore (i := 20) (L' := [(20, .int y8), (0, .ref a0), (2, .ref a2), (3, .ref a3), (4, .ref a4), (5, .int x5), (6, .int x6), (7, .long x7), (9, .int x9), (10, .int x10), (12, .int x12), (13, .int x13), (14, .int x14), (15, .int x15), (17, .int x17), (18, .ref a18), (19, .int x19)]) d_LW_law_427 (by decide) rfl ?_
    refine Wa.iload (j := 0) d_LW_law_429 rfl ?_
    refine Wa.aload (j := 15) d_LW_law_431 rfl ?_
    refine Wa.iload (j := 16) d_LW_law_433 rfl ?_
    obtain ⟨n9, hc10, hF⟩ := hF
    refine Wa.iald d_LW_law_435 hc10.1 hc10.2 ?_
    refine Wa.icmp_ne 480 d_LW_law_436 (by decide) (fun hb => ?_) (fun hb => ?_)
    · have hF := hF.2 hb
      exact Wa.loc [] rfl hF
    · have hF := hF.1 hb
      refine Wa.aload_n (j := 3) d_LW_law_439 rfl ?_
      refine Wa.iload (j := 0) d_LW_law_440 rfl ?_
      refine Wa.iconst (v := 1) d_LW_law_442 rfl ?_
      obtain ⟨cc11, ss12, hc13, hF⟩ := hF
      have hc15 := hF.1
      have hF := hF.2
      refine Wx.cVi (q := E_PB) (As := [.int y8, .int 1]) 0 (d - 1) cc11 ss12 _ d_LW_law_443 mok_PB_sheet vl_LW_228 rfl rfl rfl (Nat.le_of_ble_eq_true rfl) (by omega) hc13.1 hc13.2 hc15 hF (fun y16 μ14 hS hF => ?_)
      refine Wa.iload (j := 14) d_LW_law_446 rfl ?_
      refine Wa.icmp_ne 480 d_LW_law_448 (by decide) (fun hb => ?_) (fun hb => ?_)
      · have hF := hF.2 hb
        exact Wa.loc [] rfl hF
      · have hF := hF.1 hb
        refine Wa.aload_n (j := 3) d_LW_law_451 rfl ?_
        refine Wa.iload (j := 0) d_LW_law_452 rfl ?_
        refine Wa.aload_n (j := 3) d_LW_law_454 rfl ?_
        refine Wa.iload (j := 0) d_LW_law_455 rfl ?_
        refine Wa.iconst (v := 0) d_LW_law_457 rfl ?_
        obtain ⟨cc17, ss18, hc19, hF⟩ := hF
        have hc21 := hF.1
        have hF := hF.2
        refine Wx.cVi (q := E_PB) (As := [.int y8, .int 0]) 0 (d - 1) cc17 ss18 _ d_LW_law_458 mok_PB_sheet vl_LW_228 rfl rfl rfl (Nat.le_of_ble_eq_true rfl) (by omega) hc19.1 hc19.2 hc21 hF (fun y22 μ20 hS hF => ?_)
        obtain ⟨cc23, ss24, hc25, hF⟩ := hF
        have hc27 := hF.1
        have hF := hF.2
        refine Wx.cVi (q := E_PB) (As := [.int y8, .int y22]) 0 (d - 1) cc23 ss24 _ d_LW_law_461 mok_PB_stamp vl_LW_231 rfl rfl rfl (Nat.le_of_ble_eq_true rfl) (by omega) hc25.1 hc25.2 hc27 hF (fun y28 μ26 hS hF => ?_)
        refine Wa.aload_n (j := 3) d_LW_law_464 rfl ?_
        refine Wa.iload (j := 13) d_LW_law_465 rfl ?_
        refine Wa.aload_n (j := 3) d_LW_law_467 rfl ?_
        refine Wa.iload (j := 0) d_LW_law_468 rfl ?_
        refine Wa.iconst (v := 0) d_LW_law_470 rfl ?_
        obtain ⟨cc29, ss30, hc31, hF⟩ := hF
        have hc33 := hF.1
        have hF := hF.2
        refine Wx.cVi (q := E_PB) (As := [.int y8, .int 0]) 0 (d - 1) cc29 ss30 _ d_LW_law_471 mok_PB_sheet vl_LW_228 rfl rfl rfl (Nat.le_of_ble_eq_true rfl) (by omega) hc31.1 hc31.2 hc33 hF (fun y34 μ32 hS hF => ?_)
        obtain ⟨cc35, ss36, hc37, hF⟩ := hF
        have hc39 := hF.1
        have hF := hF.2
        refine Wx.cVi (q := E_PB) (As := [.int x15, .int y34]) 0 (d - 1) cc35 ss36 _ d_LW_law_474 mok_PB_knows vl_LW_215 rfl rfl rfl (Nat.le_of_ble_eq_true rfl) (by omega) hc37.1 hc37.2 hc39 hF (fun y40 μ38 hS hF => ?_)
        refine Wa.icmp_le 482 d_LW_law_477 (by decide) (fun hb => ?_) (fun hb => ?_)
        · have hF := hF.1 hb
          refine Wa.iconst (v := 0) d_LW_law_482 rfl ?_
          refine Wa.istore (i := 21) (L' := [(21, .int 0), (20, .int y8), (0, .ref a0), (2, .ref a2), (3, .ref a3), (4, .ref a4), (5, .int x5), (6, .int x6), (7, .long x7), (9, .int x9), (10, .int x10), (12, .int x12), (13, .int x13), (14, .int x14), (15, .int x15), (17, .int x17), (18, .ref a18), (19, .int x19)]) d_LW_law_483 (by decide) rfl ?_
          exact Wa.loc [2, 3, 4, 5, 6, 7, 8, 9, 10, 11, 12, 13, 14, 15, 16, 17, 1, 0] rfl hF
        · have hF := hF.2 hb
          exact Wa.loc [] rfl hF
set_option maxHeartbeats 4000000 in
set_option maxRecDepth 20000 in
theorem r_LW_law_480 {d rc rs : Nat} {Q : Option Value → Mu → Prop} {μ : Mu}  (hD : 1 ≤ d)
    (hF : Q (some (.int 0)) μ) : Wx K_LW_law d rc rs Q 480 [] [] μ := by
  refine Wa.iconst (v := 0) d_LW_law_480 rfl ?_
  exact Wx.retz d_LW_law_481 rfl (Or.inl rfl) hF
set_option maxHeartbeats 4000000 in
set_option maxRecDepth 20000 in
theorem r_LW_law_485 {d rc rs : Nat} {Q : Option Value → Mu → Prop} {μ : Mu} {a0 : Nat} {a2 : Nat} {a3 : Nat} {a4 : Nat} {x5 : Int32} {x6 : Int32} {x7 : Int64} {x9 : Int32} {x10 : Int32} {x12 : Int32} {x13 : Int32} {x14 : Int32} {x15 : Int32} {x17 : Int32} {a18 : Nat} {x19 : Int32} {x20 : Int32} {x21 : Int32} (hD : 1 ≤ d)
    (hF : ((x19 ≤ x21 → Wx K_LW_law d rc rs Q 409 [(0, .ref a0), (2, .ref a2), (3, .ref a3), (4, .ref a4), (5, .int x5), (6, .int x6), (7, .long x7), (9, .int x9), (10, .int x10), (12, .int x12), (13, .int x13), (14, .int x14), (15, .int x15), (17, .int x17), (18, .ref a18), (19, .int (x19 + 1))] [] μ) ∧ (¬ x19 ≤ x21 → (∃ n1, (mS μ a18 = (2, n1) ∧ vp_in x21 n1) ∧ (∃ cc3 ss4 : Nat, (cc3 ≤ rc ∧ ss4 ≤ rs) ∧ (mS μ a3 = (1, 0) ∧ Cal K_PB_compare (d - 1) cc3 ss4 [.ref a3, .int x20, .int (gI μ a18 x21.toNatClampNeg)] μ (fun r μ6 => ∃ y8, r = some (.int y8) ∧ ((y8 = 3 → (∃ cc9 ss10 : Nat, (cc9 ≤ rc - cc3 ∧ ss10 ≤ rs - ss4) ∧ (mS μ6 a3 = (1, 0) ∧ Cal K_PB_sheet (d - 1) cc9 ss10 [.ref a3, .int x20, .int 0] μ6 (fun r μ12 => ∃ y14, r = some (.int y14) ∧ (∃ n15, (mS μ12 a18 = (2, n15) ∧ vp_in x21 n15) ∧ (∃ cc17 ss18 : Nat, (cc17 ≤ rc - cc3 - cc9 ∧ ss18 ≤ rs - ss4 - ss10) ∧ (mS μ12 a3 = (1, 0) ∧ Cal K_PB_sheet (d - 1) cc17 ss18 [.ref a3, .int (gI μ12 a18 x21.toNatClampNeg), .int 0] μ12 (fun r μ20 => ∃ y22, r = some (.int y22) ∧ ((y22 < y14 → Wx K_LW_law d (rc - cc3 - cc9 - cc17) (rs - ss4 - ss10 - ss18) Q 485 [(0, .ref a0), (2, .ref a2), (3, .ref a3), (4, .ref a4), (5, .int x5), (6, .int x6), (7, .long x7), (9, .int x9), (10, .int x10), (12, .int x12), (13, .int x13), (14, .int x14), (15, .int x15), (17, .int x17), (18, .ref a18), (19, .int x19), (20, .int x20), (21, .int (x21 + 1))] [] μ20) ∧ (¬ y22 < y14 → Wx K_LW_law d (rc - cc3 - cc9 - cc17) (rs - ss4 - ss10 - ss18) Q 527 [] [] μ20)))))))))) ∧ (¬ y8 = 3 → Wx K_LW_law d (rc - cc3) (rs - ss4) Q 527 [] [] μ6))))))))) : Wx K_LW_law d rc rs Q 485 [(0, .ref a0), (2, .ref a2), (3, .ref a3), (4, .ref a4), (5, .int x5), (6, .int x6), (7, .long x7), (9, .int x9), (10, .int x10), (12, .int x12), (13, .int x13), (14, .int x14), (15, .int x15), (17, .int x17), (18, .ref a18), (19, .int x19), (20, .int x20), (21, .int x21)] [] μ := by
  refine Wa.iload (j := 17) d_LW_law_485 rfl ?_
  refine Wa.iload (j := 15) d_LW_law_487 rfl ?_
  refine Wa.icmp_ge 535 d_LW_law_489 (by decide) (fun hb => ?_) (fun hb => ?_)
  · have hF := hF.1 hb
    refine Wa.iinc (i := 19) (j := 15) (v := (x19 + 1)) (L' := [(19, .int (x19 + 1)), (0, .ref a0), (2, .ref a2), (3, .ref a3), (4, .ref a4), (5, .int x5), (6, .int x6), (7, .long x7), (9, .int x9), (10, .int x10), (12, .int x12), (13, .int x13), (14, .int x14), (15, .int x15), (17, .int x17), (18, .ref a18), (20, .int x20), (21, .int x21)]) d_LW_law_535 rfl rfl (by decide) rfl ?_
    refine Wa.goto 409 d_LW_law_538 (by decide) ?_
    exact Wa.loc [1, 2, 3, 4, 5, 6, 7, 8, 9, 10, 11, 12, 13, 14, 15, 0] rfl hF
  · have hF := hF.2 hb
    refine Wa.aload_n (j := 2) d_LW_law_492 rfl ?_
    refine Wa.iload (j := 16) d_LW_law_493 rfl ?_
    refine Wa.aload (j := 14) d_LW_law_495 rfl ?_
    refine Wa.iload (j := 17) d_LW_law_497 rfl ?_
    obtain ⟨n1, hc2, hF⟩ := hF
    refine Wa.iald d_LW_law_499 hc2.1 hc2.2 ?_
    obtain ⟨cc3, ss4, hc5, hF⟩ := hF
    have hc7 := hF.1
    have hF := hF.2
    refine Wx.cVi (q := E_PB) (As := [.int x20, .int (gI μ a18 x21.toNatClampNeg)]) 0 (d - 1) cc3 ss4 _ d_LW_law_500 mok_PB_compare vl_LW_234 rfl rfl rfl (Nat.le_of_ble_eq_true rfl) (by omega) hc5.1 hc5.2 hc7 hF (fun y8 μ6 hS hF => ?_)
    refine Wa.iconst (v := 3) d_LW_law_503 rfl ?_
    refine Wa.icmp_ne 527 d_LW_law_504 (by decide) (fun hb => ?_) (fun hb => ?_)
    · have hF := hF.2 hb
      exact Wa.loc [] rfl hF
    · have hF := hF.1 hb
      refine Wa.aload_n (j := 2) d_LW_law_507 rfl ?_
      refine Wa.iload (j := 16) d_LW_law_508 rfl ?_
      refine Wa.iconst (v := 0) d_LW_law_510 rfl ?_
      obtain ⟨cc9, ss10, hc11, hF⟩ := hF
      have hc13 := hF.1
      have hF := hF.2
      refine Wx.cVi (q := E_PB) (As := [.int x20, .int 0]) 0 (d - 1) cc9 ss10 _ d_LW_law_511 mok_PB_sheet vl_LW_228 rfl rfl rfl (Nat.le_of_ble_eq_true rfl) (by omega) hc11.1 hc11.2 hc13 hF (fun y14 μ12 hS hF => ?_)
      refine Wa.aload_n (j := 2) d_LW_law_514 rfl ?_
      refine Wa.aload (j := 14) d_LW_law_515 rfl ?_
      refine Wa.iload (j := 17) d_LW_law_517 rfl ?_
      obtain ⟨n15, hc16, hF⟩ := hF
      refine Wa.iald d_LW_law_519 hc16.1 hc16.2 ?_
      refine Wa.iconst (v := 0) d_LW_law_520 rfl ?_
      obtain ⟨cc17, ss18, hc19, hF⟩ := hF
      have hc21 := hF.1
      have hF := hF.2
      refine Wx.cVi (q := E_PB) (As := [.int (gI μ12 a18 x21.toNatClampNeg), .int 0]) 0 (d - 1) cc17 ss18 _ d_LW_law_521 mok_PB_sheet vl_LW_228 rfl rfl rfl (Nat.le_of_ble_eq_true rfl) (by omega) hc19.1 hc19.2 hc21 hF (fun y22 μ20 hS hF => ?_)
      refine Wa.icmp_gt 529 d_LW_law_524 (by decide) (fun hb => ?_) (fun hb => ?_)
      · have hF := hF.1 hb
        refine Wa.iinc (i := 21) (j := 17) (v := (x21 + 1)) (L' := [(21, .int (x21 + 1)), (0, .ref a0), (2, .ref a2), (3, .ref a3), (4, .ref a4), (5, .int x5), (6, .int x6), (7, .long x7), (9, .int x9), (10, .int x10), (12, .int x12), (13, .int x13), (14, .int x14), (15, .int x15), (17, .int x17), (18, .ref a18), (19, .int x19), (20, .int x20)]) d_LW_law_529 rfl rfl (by decide) rfl ?_
        refine Wa.goto 485 d_LW_law_532 (by decide) ?_
        exact Wa.loc [1, 2, 3, 4, 5, 6, 7, 8, 9, 10, 11, 12, 13, 14, 15, 16, 17, 0] rfl hF
      · have hF := hF.2 hb
        exact Wa.loc [] rfl hF
set_option maxHeartbeats 4000000 in
set_option maxRecDepth 20000 in
theorem r_LW_law_527 {d rc rs : Nat} {Q : Option Value → Mu → Prop} {μ : Mu}  (hD : 1 ≤ d)
    (hF : Q (some (.int 0)) μ) : Wx K_LW_law d rc rs Q 527 [] [] μ := by
  refine Wa.iconst (v := 0) d_LW_law_527 rfl ?_
  exact Wx.retz d_LW_law_528 rfl (Or.inl rfl) hF
set_option maxHeartbeats 4000000 in
set_option maxRecDepth 20000 in
theorem r_LW_law_544 {d rc rs : Nat} {Q : Option Value → Mu → Prop} {μ : Mu} {a0 : Nat} {a2 : Nat} {a3 : Nat} {a4 : Nat} {x5 : Int32} {x6 : Int32} {x7 : Int64} {x9 : Int32} {x10 : Int32} {x12 : Int32} {x13 : Int32} {x14 : Int32} {x15 : Int32} {x17 : Int32} {a18 : Nat} {x19 : Int32} (hD : 1 ≤ d)
    (hF : ((x10 ≤ x19 → Wx K_LW_law d rc rs Q 386 [(0, .ref a0), (2, .ref a2), (3, .ref a3), (4, .ref a4), (5, .int x5), (6, .int x6), (7, .long x7), (9, .int x9), (10, .int x10), (12, .int x12), (13, .int x13), (14, .int x14), (15, .int x15), (17, .int (x17 + 1))] [] μ) ∧ (¬ x10 ≤ x19 → (∃ cc1 ss2 : Nat, (cc1 ≤ rc ∧ ss2 ≤ rs) ∧ (mS μ a3 = (1, 0) ∧ Cal K_PB_sheet (d - 1) cc1 ss2 [.ref a3, .int x19, .int 1] μ (fun r μ4 => ∃ y6, r = some (.int y6) ∧ ((y6 = x17 → (∃ cc7 ss8 : Nat, (cc7 ≤ rc - cc1 ∧ ss8 ≤ rs - ss2) ∧ (mS μ4 a3 = (1, 0) ∧ Cal K_PB_sheet (d - 1) cc7 ss8 [.ref a3, .int x19, .int 0] μ4 (fun r μ10 => ∃ y12, r = some (.int y12) ∧ (∃ cc13 ss14 : Nat, (cc13 ≤ rc - cc1 - cc7 ∧ ss14 ≤ rs - ss2 - ss8) ∧ (mS μ10 a3 = (1, 0) ∧ Cal K_PB_stamp (d - 1) cc13 ss14 [.ref a3, .int x19, .int y12] μ10 (fun r μ16 => ∃ y18, r = some (.int y18) ∧ (∃ cc19 ss20 : Nat, (cc19 ≤ rc - cc1 - cc7 - cc13 ∧ ss20 ≤ rs - ss2 - ss8 - ss14) ∧ (mS μ16 a3 = (1, 0) ∧ Cal K_PB_sheet (d - 1) cc19 ss20 [.ref a3, .int x19, .int 0] μ16 (fun r μ22 => ∃ y24, r = some (.int y24) ∧ (∃ cc25 ss26 : Nat, (cc25 ≤ rc - cc1 - cc7 - cc13 - cc19 ∧ ss26 ≤ rs - ss2 - ss8 - ss14 - ss20) ∧ (mS μ22 a3 = (1, 0) ∧ Cal K_PB_knows (d - 1) cc25 ss26 [.ref a3, .int x15, .int y24] μ22 (fun r μ28 => ∃ y30, r = some (.int y30) ∧ ((y18 ≤ y30 → (∃ n31, mS μ28 a18 = (2, n31) ∧ Wx K_LW_law d (rc - cc1 - cc7 - cc13 - cc19 - cc25) (rs - ss2 - ss8 - ss14 - ss20 - ss26) Q 610 [(0, .ref a0), (2, .ref a2), (3, .ref a3), (4, .ref a4), (5, .int x5), (6, .int x6), (7, .long x7), (9, .int x9), (10, .int x10), (12, .int x12), (13, .int x13), (14, .int x14), (15, .int x15), (17, .int x17), (18, .ref a18), (19, .int x19), (20, .int 0), (21, .ref a18), (22, .int (nI n31)), (23, .int 0)] [] μ28)) ∧ (¬ y18 ≤ y30 → Wx K_LW_law d (rc - cc1 - cc7 - cc13 - cc19 - cc25) (rs - ss2 - ss8 - ss14 - ss20 - ss26) Q 659 [(0, .ref a0), (2, .ref a2), (3, .ref a3), (4, .ref a4), (5, .int x5), (6, .int x6), (7, .long x7), (9, .int x9), (10, .int x10), (12, .int x12), (13, .int x13), (14, .int x14), (15, .int x15), (17, .int x17), (18, .ref a18), (19, .int x19)] [] μ28))))))))))))))) ∧ (¬ y6 = x17 → Wx K_LW_law d (rc - cc1) (rs - ss2) Q 659 [(0, .ref a0), (2, .ref a2), (3, .ref a3), (4, .ref a4), (5, .int x5), (6, .int x6), (7, .long x7), (9, .int x9), (10, .int x10), (12, .int x12), (13, .int x13), (14, .int x14), (15, .int x15), (17, .int x17), (18, .ref a18), (19, .int x19)] [] μ4)))))))) : Wx K_LW_law d rc rs Q 544 [(0, .ref a0), (2, .ref a2), (3, .ref a3), (4, .ref a4), (5, .int x5), (6, .int x6), (7, .long x7), (9, .int x9), (10, .int x10), (12, .int x12), (13, .int x13), (14, .int x14), (15, .int x15), (17, .int x17), (18, .ref a18), (19, .int x19)] [] μ := by
  refine Wa.iload (j := 15) d_LW_law_544 rfl ?_
  refine Wa.iload (j := 8) d_LW_law_546 rfl ?_
  refine Wa.icmp_ge 665 d_LW_law_548 (by decide) (fun hb => ?_) (fun hb => ?_)
  · have hF := hF.1 hb
    refine Wa.iinc (i := 17) (j := 13) (v := (x17 + 1)) (L' := [(17, .int (x17 + 1)), (0, .ref a0), (2, .ref a2), (3, .ref a3), (4, .ref a4), (5, .int x5), (6, .int x6), (7, .long x7), (9, .int x9), (10, .int x10), (12, .int x12), (13, .int x13), (14, .int x14), (15, .int x15), (18, .ref a18), (19, .int x19)]) d_LW_law_665 rfl rfl (by decide) rfl ?_
    refine Wa.goto 386 d_LW_law_668 (by decide) ?_
    exact Wa.loc [1, 2, 3, 4, 5, 6, 7, 8, 9, 10, 11, 12, 13, 0] rfl hF
  · have hF := hF.2 hb
    refine Wa.aload_n (j := 2) d_LW_law_551 rfl ?_
    refine Wa.iload (j := 15) d_LW_law_552 rfl ?_
    refine Wa.iconst (v := 1) d_LW_law_554 rfl ?_
    obtain ⟨cc1, ss2, hc3, hF⟩ := hF
    have hc5 := hF.1
    have hF := hF.2
    refine Wx.cVi (q := E_PB) (As := [.int x19, .int 1]) 0 (d - 1) cc1 ss2 _ d_LW_law_555 mok_PB_sheet vl_LW_228 rfl rfl rfl (Nat.le_of_ble_eq_true rfl) (by omega) hc3.1 hc3.2 hc5 hF (fun y6 μ4 hS hF => ?_)
    refine Wa.iload (j := 13) d_LW_law_558 rfl ?_
    refine Wa.icmp_ne 659 d_LW_law_560 (by decide) (fun hb => ?_) (fun hb => ?_)
    · have hF := hF.2 hb
      exact Wa.loc [0, 1, 2, 3, 4, 5, 6, 7, 8, 9, 10, 11, 12, 13, 14, 15] rfl hF
    · have hF := hF.1 hb
      refine Wa.aload_n (j := 2) d_LW_law_563 rfl ?_
      refine Wa.iload (j := 15) d_LW_law_564 rfl ?_
      refine Wa.aload_n (j := 2) d_LW_law_566 rfl ?_
      refine Wa.iload (j := 15) d_LW_law_567 rfl ?_
      refine Wa.iconst (v := 0) d_LW_law_569 rfl ?_
      obtain ⟨cc7, ss8, hc9, hF⟩ := hF
      have hc11 := hF.1
      have hF := hF.2
      refine Wx.cVi (q := E_PB) (As := [.int x19, .int 0]) 0 (d - 1) cc7 ss8 _ d_LW_law_570 mok_PB_sheet vl_LW_228 rfl rfl rfl (Nat.le_of_ble_eq_true rfl) (by omega) hc9.1 hc9.2 hc11 hF (fun y12 μ10 hS hF => ?_)
      obtain ⟨cc13, ss14, hc15, hF⟩ := hF
      have hc17 := hF.1
      have hF := hF.2
      refine Wx.cVi (q := E_PB) (As := [.int x19, .int y12]) 0 (d - 1) cc13 ss14 _ d_LW_law_573 mok_PB_stamp vl_LW_231 rfl rfl rfl (Nat.le_of_ble_eq_true rfl) (by omega) hc15.1 hc15.2 hc17 hF (fun y18 μ16 hS hF => ?_)
      refine Wa.aload_n (j := 2) d_LW_law_576 rfl ?_
      refine Wa.iload (j := 12) d_LW_law_577 rfl ?_
      refine Wa.aload_n (j := 2) d_LW_law_579 rfl ?_
      refine Wa.iload (j := 15) d_LW_law_580 rfl ?_
      refine Wa.iconst (v := 0) d_LW_law_582 rfl ?_
      obtain ⟨cc19, ss20, hc21, hF⟩ := hF
      have hc23 := hF.1
      have hF := hF.2
      refine Wx.cVi (q := E_PB) (As := [.int x19, .int 0]) 0 (d - 1) cc19 ss20 _ d_LW_law_583 mok_PB_sheet vl_LW_228 rfl rfl rfl (Nat.le_of_ble_eq_true rfl) (by omega) hc21.1 hc21.2 hc23 hF (fun y24 μ22 hS hF => ?_)
      obtain ⟨cc25, ss26, hc27, hF⟩ := hF
      have hc29 := hF.1
      have hF := hF.2
      refine Wx.cVi (q := E_PB) (As := [.int x15, .int y24]) 0 (d - 1) cc25 ss26 _ d_LW_law_586 mok_PB_knows vl_LW_215 rfl rfl rfl (Nat.le_of_ble_eq_true rfl) (by omega) hc27.1 hc27.2 hc29 hF (fun y30 μ28 hS hF => ?_)
      refine Wa.icmp_le 595 d_LW_law_589 (by decide) (fun hb => ?_) (fun hb => ?_)
      · have hF := hF.1 hb
        refine Wa.iconst (v := 0) d_LW_law_595 rfl ?_
        refine Wa.istore (i := 20) (L' := [(20, .int 0), (0, .ref a0), (2, .ref a2), (3, .ref a3), (4, .ref a4), (5, .int x5), (6, .int x6), (7, .long x7), (9, .int x9), (10, .int x10), (12, .int x12), (13, .int x13), (14, .int x14), (15, .int x15), (17, .int x17), (18, .ref a18), (19, .int x19)]) d_LW_law_596 (by decide) rfl ?_
        refine Wa.aload (j := 15) d_LW_law_598 rfl ?_
        refine Wa.astore (i := 21) (L' := [(21, .ref a18), (20, .int 0), (0, .ref a0), (2, .ref a2), (3, .ref a3), (4, .ref a4), (5, .int x5), (6, .int x6), (7, .long x7), (9, .int x9), (10, .int x10), (12, .int x12), (13, .int x13), (14, .int x14), (15, .int x15), (17, .int x17), (18, .ref a18), (19, .int x19)]) d_LW_law_600 (by decide) rfl ?_
        refine Wa.aload (j := 0) d_LW_law_602 rfl ?_
        obtain ⟨n31, hc32, hF⟩ := hF
        refine Wa.alen d_LW_law_604 hc32 (by decide) ?_
        refine Wa.istore (i := 22) (L' := [(22, .int (nI n31)), (21, .ref a18), (20, .int 0), (0, .ref a0), (2, .ref a2), (3, .ref a3), (4, .ref a4), (5, .int x5), (6, .int x6), (7, .long x7), (9, .int x9), (10, .int x10), (12, .int x12), (13, .int x13), (14, .int x14), (15, .int x15), (17, .int x17), (18, .ref a18), (19, .int x19)]) d_LW_law_605 (by decide) rfl ?_
        refine Wa.iconst (v := 0) d_LW_law_607 rfl ?_
        refine Wa.istore (i := 23) (L' := [(23, .int 0), (22, .int (nI n31)), (21, .ref a18), (20, .int 0), (0, .ref a0), (2, .ref a2), (3, .ref a3), (4, .ref a4), (5, .int x5), (6, .int x6), (7, .long x7), (9, .int x9), (10, .int x10), (12, .int x12), (13, .int x13), (14, .int x14), (15, .int x15), (17, .int x17), (18, .ref a18), (19, .int x19)]) d_LW_law_608 (by decide) rfl ?_
        exact Wa.loc [4, 5, 6, 7, 8, 9, 10, 11, 12, 13, 14, 15, 16, 17, 18, 19, 3, 2, 1, 0] rfl hF
      · have hF := hF.2 hb
        refine Wa.goto 659 d_LW_law_592 (by decide) ?_
        exact Wa.loc [0, 1, 2, 3, 4, 5, 6, 7, 8, 9, 10, 11, 12, 13, 14, 15] rfl hF
set_option maxHeartbeats 4000000 in
set_option maxRecDepth 20000 in
theorem r_LW_law_610 {d rc rs : Nat} {Q : Option Value → Mu → Prop} {μ : Mu} {a0 : Nat} {a2 : Nat} {a3 : Nat} {a4 : Nat} {x5 : Int32} {x6 : Int32} {x7 : Int64} {x9 : Int32} {x10 : Int32} {x12 : Int32} {x13 : Int32} {x14 : Int32} {x15 : Int32} {x17 : Int32} {a18 : Nat} {x19 : Int32} {x20 : Int32} {a21 : Nat} {x22 : Int32} {x23 : Int32} (hD : 1 ≤ d)
    (hF : ((x22 ≤ x23 → ((x20 = 0 → Q (some (.int 0)) μ) ∧ (¬ x20 = 0 → Wx K_LW_law d rc rs Q 659 [(0, .ref a0), (2, .ref a2), (3, .ref a3), (4, .ref a4), (5, .int x5), (6, .int x6), (7, .long x7), (9, .int x9), (10, .int x10), (12, .int x12), (13, .int x13), (14, .int x14), (15, .int x15), (17, .int x17), (18, .ref a18), (19, .int x19)] [] μ))) ∧ (¬ x22 ≤ x23 → (∃ n1, (mS μ a21 = (2, n1) ∧ vp_in x23 n1) ∧ (∃ cc3 ss4 : Nat, (cc3 ≤ rc ∧ ss4 ≤ rs) ∧ (mS μ a3 = (1, 0) ∧ Cal K_PB_compare (d - 1) cc3 ss4 [.ref a3, .int x19, .int (gI μ a21 x23.toNatClampNeg)] μ (fun r μ6 => ∃ y8, r = some (.int y8) ∧ ((2 ≤ y8 → Wx K_LW_law d (rc - cc3) (rs - ss4) Q 610 [(0, .ref a0), (2, .ref a2), (3, .ref a3), (4, .ref a4), (5, .int x5), (6, .int x6), (7, .long x7), (9, .int x9), (10, .int x10), (12, .int x12), (13, .int x13), (14, .int x14), (15, .int x15), (17, .int x17), (18, .ref a18), (19, .int x19), (20, .int (x20 ||| (0 : Int32))), (21, .ref a21), (22, .int x22), (23, .int (x23 + 1))] [] μ6) ∧ (¬ 2 ≤ y8 → Wx K_LW_law d (rc - cc3) (rs - ss4) Q 610 [(0, .ref a0), (2, .ref a2), (3, .ref a3), (4, .ref a4), (5, .int x5), (6, .int x6), (7, .long x7), (9, .int x9), (10, .int x10), (12, .int x12), (13, .int x13), (14, .int x14), (15, .int x15), (17, .int x17), (18, .ref a18), (19, .int x19), (20, .int (x20 ||| (1 : Int32))), (21, .ref a21), (22, .int x22), (23, .int (x23 + 1))] [] μ6))))))))) : Wx K_LW_law d rc rs Q 610 [(0, .ref a0), (2, .ref a2), (3, .ref a3), (4, .ref a4), (5, .int x5), (6, .int x6), (7, .long x7), (9, .int x9), (10, .int x10), (12, .int x12), (13, .int x13), (14, .int x14), (15, .int x15), (17, .int x17), (18, .ref a18), (19, .int x19), (20, .int x20), (21, .ref a21), (22, .int x22), (23, .int x23)] [] μ := by
  refine Wa.iload (j := 19) d_LW_law_610 rfl ?_
  refine Wa.iload (j := 18) d_LW_law_612 rfl ?_
  refine Wa.icmp_ge 652 d_LW_law_614 (by decide) (fun hb => ?_) (fun hb => ?_)
  · have hF := hF.1 hb
    refine Wa.iload (j := 16) d_LW_law_652 rfl ?_
    refine Wa.if_ne 659 d_LW_law_654 (by decide) (fun hb => ?_) (fun hb => ?_)
    · have hF := hF.2 hb
      exact Wa.loc [0, 1, 2, 3, 4, 5, 6, 7, 8, 9, 10, 11, 12, 13, 14, 15] rfl hF
    · have hF := hF.1 hb
      refine Wa.iconst (v := 0) d_LW_law_657 rfl ?_
      exact Wx.retz d_LW_law_658 rfl (Or.inl rfl) hF
  · have hF := hF.2 hb
    refine Wa.aload (j := 17) d_LW_law_617 rfl ?_
    refine Wa.iload (j := 19) d_LW_law_619 rfl ?_
    obtain ⟨n1, hc2, hF⟩ := hF
    refine Wa.iald d_LW_law_621 hc2.1 hc2.2 ?_
    refine Wa.istore (i := 24) (L' := [(24, .int (gI μ a21 x23.toNatClampNeg)), (0, .ref a0), (2, .ref a2), (3, .ref a3), (4, .ref a4), (5, .int x5), (6, .int x6), (7, .long x7), (9, .int x9), (10, .int x10), (12, .int x12), (13, .int x13), (14, .int x14), (15, .int x15), (17, .int x17), (18, .ref a18), (19, .int x19), (20, .int x20), (21, .ref a21), (22, .int x22), (23, .int x23)]) d_LW_law_622 (by decide) rfl ?_
    refine Wa.iload (j := 17) d_LW_law_624 rfl ?_
    refine Wa.aload_n (j := 3) d_LW_law_626 rfl ?_
    refine Wa.iload (j := 16) d_LW_law_627 rfl ?_
    refine Wa.iload (j := 0) d_LW_law_629 rfl ?_
    obtain ⟨cc3, ss4, hc5, hF⟩ := hF
    have hc7 := hF.1
    have hF := hF.2
    refine Wx.cVi (q := E_PB) (As := [.int x19, .int (gI μ a21 x23.toNatClampNeg)]) 0 (d - 1) cc3 ss4 _ d_LW_law_631 mok_PB_compare vl_LW_234 rfl rfl rfl (Nat.le_of_ble_eq_true rfl) (by omega) hc5.1 hc5.2 hc7 hF (fun y8 μ6 hS hF => ?_)
    refine Wa.iconst (v := 2) d_LW_law_634 rfl ?_
    refine Wa.icmp_ge 642 d_LW_law_635 (by decide) (fun hb => ?_) (fun hb => ?_)
    · have hF := hF.1 hb
      refine Wa.iconst (v := 0) d_LW_law_642 rfl ?_
      refine Wa.ior d_LW_law_643 ?_
      refine Wa.istore (i := 20) (L' := [(20, .int (x20 ||| (0 : Int32))), (24, .int (gI μ a21 x23.toNatClampNeg)), (0, .ref a0), (2, .ref a2), (3, .ref a3), (4, .ref a4), (5, .int x5), (6, .int x6), (7, .long x7), (9, .int x9), (10, .int x10), (12, .int x12), (13, .int x13), (14, .int x14), (15, .int x15), (17, .int x17), (18, .ref a18), (19, .int x19), (21, .ref a21), (22, .int x22), (23, .int x23)]) d_LW_law_644 (by decide) rfl ?_
      refine Wa.iinc (i := 23) (j := 20) (v := (x23 + 1)) (L' := [(23, .int (x23 + 1)), (20, .int (x20 ||| (0 : Int32))), (24, .int (gI μ a21 x23.toNatClampNeg)), (0, .ref a0), (2, .ref a2), (3, .ref a3), (4, .ref a4), (5, .int x5), (6, .int x6), (7, .long x7), (9, .int x9), (10, .int x10), (12, .int x12), (13, .int x13), (14, .int x14), (15, .int x15), (17, .int x17), (18, .ref a18), (19, .int x19), (21, .ref a21), (22, .int x22)]) d_LW_law_646 rfl rfl (by decide) rfl ?_
      refine Wa.goto 610 d_LW_law_649 (by decide) ?_
      exact Wa.loc [3, 4, 5, 6, 7, 8, 9, 10, 11, 12, 13, 14, 15, 16, 17, 18, 1, 19, 20, 0] rfl hF
    · have hF := hF.2 hb
      refine Wa.iconst (v := 1) d_LW_law_638 rfl ?_
      refine Wa.goto 643 d_LW_law_639 (by decide) ?_
      refine Wa.ior d_LW_law_643 ?_
      refine Wa.istore (i := 20) (L' := [(20, .int (x20 ||| (1 : Int32))), (24, .int (gI μ a21 x23.toNatClampNeg)), (0, .ref a0), (2, .ref a2), (3, .ref a3), (4, .ref a4), (5, .int x5), (6, .int x6), (7, .long x7), (9, .int x9), (10, .int x10), (12, .int x12), (13, .int x13), (14, .int x14), (15, .int x15), (17, .int x17), (18, .ref a18), (19, .int x19), (21, .ref a21), (22, .int x22), (23, .int x23)]) d_LW_law_644 (by decide) rfl ?_
      refine Wa.iinc (i := 23) (j := 20) (v := (x23 + 1)) (L' := [(23, .int (x23 + 1)), (20, .int (x20 ||| (1 : Int32))), (24, .int (gI μ a21 x23.toNatClampNeg)), (0, .ref a0), (2, .ref a2), (3, .ref a3), (4, .ref a4), (5, .int x5), (6, .int x6), (7, .long x7), (9, .int x9), (10, .int x10), (12, .int x12), (13, .int x13), (14, .int x14), (15, .int x15), (17, .int x17), (18, .ref a18), (19, .int x19), (21, .ref a21), (22, .int x22)]) d_LW_law_646 rfl rfl (by decide) rfl ?_
      refine Wa.goto 610 d_LW_law_649 (by decide) ?_
      exact Wa.loc [3, 4, 5, 6, 7, 8, 9, 10, 11, 12, 13, 14, 15, 16, 17, 18, 1, 19, 20, 0] rfl hF
set_option maxHeartbeats 4000000 in
set_option maxRecDepth 20000 in
theorem r_LW_law_659 {d rc rs : Nat} {Q : Option Value → Mu → Prop} {μ : Mu} {a0 : Nat} {a2 : Nat} {a3 : Nat} {a4 : Nat} {x5 : Int32} {x6 : Int32} {x7 : Int64} {x9 : Int32} {x10 : Int32} {x12 : Int32} {x13 : Int32} {x14 : Int32} {x15 : Int32} {x17 : Int32} {a18 : Nat} {x19 : Int32} (hD : 1 ≤ d)
    (hF : Wx K_LW_law d rc rs Q 544 [(0, .ref a0), (2, .ref a2), (3, .ref a3), (4, .ref a4), (5, .int x5), (6, .int x6), (7, .long x7), (9, .int x9), (10, .int x10), (12, .int x12), (13, .int x13), (14, .int x14), (15, .int x15), (17, .int x17), (18, .ref a18), (19, .int (x19 + 1))] [] μ) : Wx K_LW_law d rc rs Q 659 [(0, .ref a0), (2, .ref a2), (3, .ref a3), (4, .ref a4), (5, .int x5), (6, .int x6), (7, .long x7), (9, .int x9), (10, .int x10), (12, .int x12), (13, .int x13), (14, .int x14), (15, .int x15), (17, .int x17), (18, .ref a18), (19, .int x19)] [] μ := by
  refine Wa.iinc (i := 19) (j := 15) (v := (x19 + 1)) (L' := [(19, .int (x19 + 1)), (0, .ref a0), (2, .ref a2), (3, .ref a3), (4, .ref a4), (5, .int x5), (6, .int x6), (7, .long x7), (9, .int x9), (10, .int x10), (12, .int x12), (13, .int x13), (14, .int x14), (15, .int x15), (17, .int x17), (18, .ref a18)]) d_LW_law_659 rfl rfl (by decide) rfl ?_
  refine Wa.goto 544 d_LW_law_662 (by decide) ?_
  exact Wa.loc [1, 2, 3, 4, 5, 6, 7, 8, 9, 10, 11, 12, 13, 14, 15, 0] rfl hF
set_option maxHeartbeats 4000000 in
set_option maxRecDepth 20000 in
theorem r_LW_law_714 {d rc rs : Nat} {Q : Option Value → Mu → Prop} {μ : Mu}  (hD : 1 ≤ d)
    (hF : Q (some (.int 0)) μ) : Wx K_LW_law d rc rs Q 714 [] [] μ := by
  refine Wa.iconst (v := 0) d_LW_law_714 rfl ?_
  exact Wx.retz d_LW_law_715 rfl (Or.inl rfl) hF
set_option maxHeartbeats 4000000 in
set_option maxRecDepth 20000 in
theorem r_LW_law_719 {d rc rs : Nat} {Q : Option Value → Mu → Prop} {μ : Mu} {a0 : Nat} {a2 : Nat} {a3 : Nat} {a4 : Nat} {x5 : Int32} {x6 : Int32} {x7 : Int64} {x9 : Int32} {x10 : Int32} {x12 : Int32} {x15 : Int32} (hD : 1 ≤ d)
    (hF : ((x10 ≤ x15 → (∃ cc1 ss2 : Nat, (cc1 ≤ rc ∧ ss2 ≤ rs) ∧ (mS μ a3 = (1, 0) ∧ Cal K_PB_missed (d - 1) cc1 ss2 [.ref a3] μ (fun r μ4 => ∃ y6, r = some (.int y6) ∧ ((0 ≤ y6 → Wx K_LW_law d (rc - cc1) (rs - ss2) Q 1046 [(0, .ref a0), (2, .ref a2), (3, .ref a3), (4, .ref a4), (5, .int x5), (7, .long x7), (9, .int x9), (10, .int x10), (12, .int x12), (15, .int y6)] [.int 0] μ4) ∧ (¬ 0 ≤ y6 → Wx K_LW_law d (rc - cc1) (rs - ss2) Q 1046 [(0, .ref a0), (2, .ref a2), (3, .ref a3), (4, .ref a4), (5, .int x5), (7, .long x7), (9, .int x9), (10, .int x10), (12, .int x12), (15, .int y6)] [.int 1] μ4)))))) ∧ (¬ x10 ≤ x15 → (∃ cc7 ss8 : Nat, (cc7 ≤ rc ∧ ss8 ≤ rs) ∧ (mS μ a3 = (1, 0) ∧ Cal K_PB_sheet (d - 1) cc7 ss8 [.ref a3, .int x15, .int 0] μ (fun r μ10 => ∃ y12, r = some (.int y12) ∧ (∃ cc13 ss14 : Nat, (cc13 ≤ rc - cc7 ∧ ss14 ≤ rs - ss8) ∧ (mS μ10 a3 = (1, 0) ∧ Cal K_PB_sheet (d - 1) cc13 ss14 [.ref a3, .int x15, .int 6] μ10 (fun r μ16 => ∃ y18, r = some (.int y18) ∧ ((y18 < 1 → Wx K_LW_law d (rc - cc7 - cc13) (rs - ss8 - ss14) Q 851 [] [] μ16) ∧ (¬ y18 < 1 → (∃ cc19 ss20 : Nat, (cc19 ≤ rc - cc7 - cc13 ∧ ss20 ≤ rs - ss8 - ss14) ∧ (mS μ16 a3 = (1, 0) ∧ Cal K_PB_sheet (d - 1) cc19 ss20 [.ref a3, .int x15, .int 7] μ16 (fun r μ22 => ∃ y24, r = some (.int y24) ∧ (∃ cc25 ss26 : Nat, (cc25 ≤ rc - cc7 - cc13 - cc19 ∧ ss26 ≤ rs - ss8 - ss14 - ss20) ∧ (mS μ22 a3 = (1, 0) ∧ Cal K_PB_sheet (d - 1) cc25 ss26 [.ref a3, .int x15, .int 6] μ22 (fun r μ28 => ∃ y30, r = some (.int y30) ∧ ((y30 < y24 → Wx K_LW_law d (rc - cc7 - cc13 - cc19 - cc25) (rs - ss8 - ss14 - ss20 - ss26) Q 851 [] [] μ28) ∧ (¬ y30 < y24 → (∃ cc31 ss32 : Nat, (cc31 ≤ rc - cc7 - cc13 - cc19 - cc25 ∧ ss32 ≤ rs - ss8 - ss14 - ss20 - ss26) ∧ (mS μ28 a3 = (1, 0) ∧ Cal K_PB_sheet (d - 1) cc31 ss32 [.ref a3, .int x15, .int 6] μ28 (fun r μ34 => ∃ y36, r = some (.int y36) ∧ ((x9 < y36 → Wx K_LW_law d (rc - cc7 - cc13 - cc19 - cc25 - cc31) (rs - ss8 - ss14 - ss20 - ss26 - ss32) Q 851 [] [] μ34) ∧ (¬ x9 < y36 → (∃ cc37 ss38 : Nat, (cc37 ≤ rc - cc7 - cc13 - cc19 - cc25 - cc31 ∧ ss38 ≤ rs - ss8 - ss14 - ss20 - ss26 - ss32) ∧ (mS μ34 a3 = (1, 0) ∧ Cal K_PB_sheet (d - 1) cc37 ss38 [.ref a3, .int x15, .int 2] μ34 (fun r μ40 => ∃ y42, r = some (.int y42) ∧ ((y42 < 0 → Wx K_LW_law d (rc - cc7 - cc13 - cc19 - cc25 - cc31 - cc37) (rs - ss8 - ss14 - ss20 - ss26 - ss32 - ss38) Q 851 [] [] μ40) ∧ (¬ y42 < 0 → (∃ cc43 ss44 : Nat, (cc43 ≤ rc - cc7 - cc13 - cc19 - cc25 - cc31 - cc37 ∧ ss44 ≤ rs - ss8 - ss14 - ss20 - ss26 - ss32 - ss38) ∧ (mS μ40 a3 = (1, 0) ∧ Cal K_PB_sheet (d - 1) cc43 ss44 [.ref a3, .int x15, .int 2] μ40 (fun r μ46 => ∃ y48, r = some (.int y48) ∧ ((9999 < y48 → Wx K_LW_law d (rc - cc7 - cc13 - cc19 - cc25 - cc31 - cc37 - cc43) (rs - ss8 - ss14 - ss20 - ss26 - ss32 - ss38 - ss44) Q 851 [] [] μ46) ∧ (¬ 9999 < y48 → (∃ cc49 ss50 : Nat, (cc49 ≤ rc - cc7 - cc13 - cc19 - cc25 - cc31 - cc37 - cc43 ∧ ss50 ≤ rs - ss8 - ss14 - ss20 - ss26 - ss32 - ss38 - ss44) ∧ (mS μ46 a3 = (1, 0) ∧ Cal K_PB_sheet (d - 1) cc49 ss50 [.ref a3, .int x15, .int 3] μ46 (fun r μ52 => ∃ y54, r = some (.int y54) ∧ ((y54 < 0 → Wx K_LW_law d (rc - cc7 - cc13 - cc19 - cc25 - cc31 - cc37 - cc43 - cc49) (rs - ss8 - ss14 - ss20 - ss26 - ss32 - ss38 - ss44 - ss50) Q 851 [] [] μ52) ∧ (¬ y54 < 0 → (∃ cc55 ss56 : Nat, (cc55 ≤ rc - cc7 - cc13 - cc19 - cc25 - cc31 - cc37 - cc43 - cc49 ∧ ss56 ≤ rs - ss8 - ss14 - ss20 - ss26 - ss32 - ss38 - ss44 - ss50) ∧ (mS μ52 a3 = (1, 0) ∧ Cal K_PB_sheet (d - 1) cc55 ss56 [.ref a3, .int x15, .int 3] μ52 (fun r μ58 => ∃ y60, r = some (.int y60) ∧ ((65535 < y60 → Wx K_LW_law d (rc - cc7 - cc13 - cc19 - cc25 - cc31 - cc37 - cc43 - cc49 - cc55) (rs - ss8 - ss14 - ss20 - ss26 - ss32 - ss38 - ss44 - ss50 - ss56) Q 851 [] [] μ58) ∧ (¬ 65535 < y60 → (∃ cc61 ss62 : Nat, (cc61 ≤ rc - cc7 - cc13 - cc19 - cc25 - cc31 - cc37 - cc43 - cc49 - cc55 ∧ ss62 ≤ rs - ss8 - ss14 - ss20 - ss26 - ss32 - ss38 - ss44 - ss50 - ss56) ∧ (mS μ58 a3 = (1, 0) ∧ Cal K_PB_sheet (d - 1) cc61 ss62 [.ref a3, .int x15, .int 4] μ58 (fun r μ64 => ∃ y66, r = some (.int y66) ∧ (∃ cc67 ss68 : Nat, (cc67 ≤ rc - cc7 - cc13 - cc19 - cc25 - cc31 - cc37 - cc43 - cc49 - cc55 - cc61 ∧ ss68 ≤ rs - ss8 - ss14 - ss20 - ss26 - ss32 - ss38 - ss44 - ss50 - ss56 - ss62) ∧ (mS μ64 a3 = (1, 0) ∧ Cal K_PB_count (d - 1) cc67 ss68 [.ref a3, .int 0] μ64 (fun r μ70 => ∃ y72, r = some (.int y72) ∧ ((y72 < y66 → Wx K_LW_law d (rc - cc7 - cc13 - cc19 - cc25 - cc31 - cc37 - cc43 - cc49 - cc55 - cc61 - cc67) (rs - ss8 - ss14 - ss20 - ss26 - ss32 - ss38 - ss44 - ss50 - ss56 - ss62 - ss68) Q 851 [] [] μ70) ∧ (¬ y72 < y66 → (∃ cc73 ss74 : Nat, (cc73 ≤ rc - cc7 - cc13 - cc19 - cc25 - cc31 - cc37 - cc43 - cc49 - cc55 - cc61 - cc67 ∧ ss74 ≤ rs - ss8 - ss14 - ss20 - ss26 - ss32 - ss38 - ss44 - ss50 - ss56 - ss62 - ss68) ∧ (mS μ70 a3 = (1, 0) ∧ Cal K_PB_stamp (d - 1) cc73 ss74 [.ref a3, .int x15, .int y12] μ70 (fun r μ76 => ∃ y78, r = some (.int y78) ∧ ((1 ≤ y78 → Cal K_LW_below (d - 1) 0 0 [.int (x6 + ((5 : Int32) * x15)), .int x10] μ76 (fun r μ79 => ∃ y80, r = some (.int y80) ∧ (∃ cc81 ss82 : Nat, (cc81 ≤ rc - cc7 - cc13 - cc19 - cc25 - cc31 - cc37 - cc43 - cc49 - cc55 - cc61 - cc67 - cc73 - 0 ∧ ss82 ≤ rs - ss8 - ss14 - ss20 - ss26 - ss32 - ss38 - ss44 - ss50 - ss56 - ss62 - ss68 - ss74 - 0) ∧ (mS μ79 a3 = (1, 0) ∧ Cal K_PB_compare (d - 1) cc81 ss82 [.ref a3, .int x15, .int y80] μ79 (fun r μ84 => ∃ y86, r = some (.int y86) ∧ (∃ cc87 ss88 : Nat, (cc87 ≤ rc - cc7 - cc13 - cc19 - cc25 - cc31 - cc37 - cc43 - cc49 - cc55 - cc61 - cc67 - cc73 - 0 - cc81 ∧ ss88 ≤ rs - ss8 - ss14 - ss20 - ss26 - ss32 - ss38 - ss44 - ss50 - ss56 - ss62 - ss68 - ss74 - 0 - ss82) ∧ (mS μ84 a3 = (1, 0) ∧ Cal K_PB_compare (d - 1) cc87 ss88 [.ref a3, .int y80, .int x15] μ84 (fun r μ90 => ∃ y92, r = some (.int y92) ∧ ((y86 = 1 → Wx K_LW_law d (rc - cc7 - cc13 - cc19 - cc25 - cc31 - cc37 - cc43 - cc49 - cc55 - cc61 - cc67 - cc73 - 0 - cc81 - cc87) (rs - ss8 - ss14 - ss20 - ss26 - ss32 - ss38 - ss44 - ss50 - ss56 - ss62 - ss68 - ss74 - 0 - ss82 - ss88) Q 907 [(0, .ref a0), (2, .ref a2), (3, .ref a3), (4, .ref a4), (5, .int x5), (6, .int x6), (7, .long x7), (9, .int x9), (10, .int x10), (12, .int x12), (15, .int x15), (16, .int y12), (17, .int y80), (18, .int y86)] [.int 2, .int y92] μ90) ∧ (¬ y86 = 1 → ((y86 = 2 → Wx K_LW_law d (rc - cc7 - cc13 - cc19 - cc25 - cc31 - cc37 - cc43 - cc49 - cc55 - cc61 - cc67 - cc73 - 0 - cc81 - cc87) (rs - ss8 - ss14 - ss20 - ss26 - ss32 - ss38 - ss44 - ss50 - ss56 - ss62 - ss68 - ss74 - 0 - ss82 - ss88) Q 907 [(0, .ref a0), (2, .ref a2), (3, .ref a3), (4, .ref a4), (5, .int x5), (6, .int x6), (7, .long x7), (9, .int x9), (10, .int x10), (12, .int x12), (15, .int x15), (16, .int y12), (17, .int y80), (18, .int y86)] [.int 1, .int y92] μ90) ∧ (¬ y86 = 2 → Wx K_LW_law d (rc - cc7 - cc13 - cc19 - cc25 - cc31 - cc37 - cc43 - cc49 - cc55 - cc61 - cc67 - cc73 - 0 - cc81 - cc87) (rs - ss8 - ss14 - ss20 - ss26 - ss32 - ss38 - ss44 - ss50 - ss56 - ss62 - ss68 - ss74 - 0 - ss82 - ss88) Q 907 [(0, .ref a0), (2, .ref a2), (3, .ref a3), (4, .ref a4), (5, .int x5), (6, .int x6), (7, .long x7), (9, .int x9), (10, .int x10), (12, .int x12), (15, .int x15), (16, .int y12), (17, .int y80), (18, .int y86)] [.int y86, .int y92] μ90)))))))))))) ∧ (¬ 1 ≤ y78 → Wx K_LW_law d (rc - cc7 - cc13 - cc19 - cc25 - cc31 - cc37 - cc43 - cc49 - cc55 - cc61 - cc67 - cc73) (rs - ss8 - ss14 - ss20 - ss26 - ss32 - ss38 - ss44 - ss50 - ss56 - ss62 - ss68 - ss74) Q 851 [] [] μ76))))))))))))))))))))))))))))))))))))))))))))))))))))))))) : Wx K_LW_law d rc rs Q 719 [(0, .ref a0), (2, .ref a2), (3, .ref a3), (4, .ref a4), (5, .int x5), (6, .int x6), (7, .long x7), (9, .int x9), (10, .int x10), (12, .int x12), (15, .int x15)] [] μ := by
  refine Wa.iload (j := 10) d_LW_law_719 rfl ?_
  refine Wa.iload (j := 8) d_LW_law_721 rfl ?_
  refine Wa.icmp_ge 1030 d_LW_law_723 (by decide) (fun hb => ?_) (fun hb => ?_)
  · have hF := hF.1 hb
    refine Wa.aload_n (j := 2) d_LW_law_1030 rfl ?_
    obtain ⟨cc1, ss2, hc3, hF⟩ := hF
    have hc5 := hF.1
    have hF := hF.2
    refine Wx.cVi (q := E_PB) (As := []) 0 (d - 1) cc1 ss2 _ d_LW_law_1031 mok_PB_missed vl_LW_242 rfl rfl rfl (Nat.le_of_ble_eq_true rfl) (by omega) hc3.1 hc3.2 hc5 hF (fun y6 μ4 hS hF => ?_)
    refine Wa.istore (i := 15) (L' := [(15, .int y6), (0, .ref a0), (2, .ref a2), (3, .ref a3), (4, .ref a4), (5, .int x5), (6, .int x6), (7, .long x7), (9, .int x9), (10, .int x10), (12, .int x12)]) d_LW_law_1034 (by decide) rfl ?_
    refine Wa.iload (j := 0) d_LW_law_1036 rfl ?_
    refine Wa.if_ge 1045 d_LW_law_1038 (by decide) (fun hb => ?_) (fun hb => ?_)
    · have hF := hF.1 hb
      refine Wa.iconst (v := 0) d_LW_law_1045 rfl ?_
      exact Wa.loc [1, 2, 3, 4, 5, 7, 8, 9, 10, 0] rfl hF
    · have hF := hF.2 hb
      refine Wa.iconst (v := 1) d_LW_law_1041 rfl ?_
      refine Wa.goto 1046 d_LW_law_1042 (by decide) ?_
      exact Wa.loc [1, 2, 3, 4, 5, 7, 8, 9, 10, 0] rfl hF
  · have hF := hF.2 hb
    refine Wa.aload_n (j := 2) d_LW_law_726 rfl ?_
    refine Wa.iload (j := 10) d_LW_law_727 rfl ?_
    refine Wa.iconst (v := 0) d_LW_law_729 rfl ?_
    obtain ⟨cc7, ss8, hc9, hF⟩ := hF
    have hc11 := hF.1
    have hF := hF.2
    refine Wx.cVi (q := E_PB) (As := [.int x15, .int 0]) 0 (d - 1) cc7 ss8 _ d_LW_law_730 mok_PB_sheet vl_LW_228 rfl rfl rfl (Nat.le_of_ble_eq_true rfl) (by omega) hc9.1 hc9.2 hc11 hF (fun y12 μ10 hS hF => ?_)
    refine Wa.istore (i := 16) (L' := [(16, .int y12), (0, .ref a0), (2, .ref a2), (3, .ref a3), (4, .ref a4), (5, .int x5), (6, .int x6), (7, .long x7), (9, .int x9), (10, .int x10), (12, .int x12), (15, .int x15)]) d_LW_law_733 (by decide) rfl ?_
    refine Wa.aload_n (j := 3) d_LW_law_735 rfl ?_
    refine Wa.iload (j := 11) d_LW_law_736 rfl ?_
    refine Wa.bipush (v := 6) d_LW_law_738 rfl ?_
    obtain ⟨cc13, ss14, hc15, hF⟩ := hF
    have hc17 := hF.1
    have hF := hF.2
    refine Wx.cVi (q := E_PB) (As := [.int x15, .int 6]) 0 (d - 1) cc13 ss14 _ d_LW_law_740 mok_PB_sheet vl_LW_228 rfl rfl rfl (Nat.le_of_ble_eq_true rfl) (by omega) hc15.1 hc15.2 hc17 hF (fun y18 μ16 hS hF => ?_)
    refine Wa.iconst (v := 1) d_LW_law_743 rfl ?_
    refine Wa.icmp_lt 851 d_LW_law_744 (by decide) (fun hb => ?_) (fun hb => ?_)
    · have hF := hF.1 hb
      exact Wa.loc [] rfl hF
    · have hF := hF.2 hb
      refine Wa.aload_n (j := 3) d_LW_law_747 rfl ?_
      refine Wa.iload (j := 11) d_LW_law_748 rfl ?_
      refine Wa.bipush (v := 7) d_LW_law_750 rfl ?_
      obtain ⟨cc19, ss20, hc21, hF⟩ := hF
      have hc23 := hF.1
      have hF := hF.2
      refine Wx.cVi (q := E_PB) (As := [.int x15, .int 7]) 0 (d - 1) cc19 ss20 _ d_LW_law_752 mok_PB_sheet vl_LW_228 rfl rfl rfl (Nat.le_of_ble_eq_true rfl) (by omega) hc21.1 hc21.2 hc23 hF (fun y24 μ22 hS hF => ?_)
      refine Wa.aload_n (j := 3) d_LW_law_755 rfl ?_
      refine Wa.iload (j := 11) d_LW_law_756 rfl ?_
      refine Wa.bipush (v := 6) d_LW_law_758 rfl ?_
      obtain ⟨cc25, ss26, hc27, hF⟩ := hF
      have hc29 := hF.1
      have hF := hF.2
      refine Wx.cVi (q := E_PB) (As := [.int x15, .int 6]) 0 (d - 1) cc25 ss26 _ d_LW_law_760 mok_PB_sheet vl_LW_228 rfl rfl rfl (Nat.le_of_ble_eq_true rfl) (by omega) hc27.1 hc27.2 hc29 hF (fun y30 μ28 hS hF => ?_)
      refine Wa.icmp_gt 851 d_LW_law_763 (by decide) (fun hb => ?_) (fun hb => ?_)
      · have hF := hF.1 hb
        exact Wa.loc [] rfl hF
      · have hF := hF.2 hb
        refine Wa.aload_n (j := 3) d_LW_law_766 rfl ?_
        refine Wa.iload (j := 11) d_LW_law_767 rfl ?_
        refine Wa.bipush (v := 6) d_LW_law_769 rfl ?_
        obtain ⟨cc31, ss32, hc33, hF⟩ := hF
        have hc35 := hF.1
        have hF := hF.2
        refine Wx.cVi (q := E_PB) (As := [.int x15, .int 6]) 0 (d - 1) cc31 ss32 _ d_LW_law_771 mok_PB_sheet vl_LW_228 rfl rfl rfl (Nat.le_of_ble_eq_true rfl) (by omega) hc33.1 hc33.2 hc35 hF (fun y36 μ34 hS hF => ?_)
        refine Wa.iload (j := 8) d_LW_law_774 rfl ?_
        refine Wa.icmp_gt 851 d_LW_law_776 (by decide) (fun hb => ?_) (fun hb => ?_)
        · have hF := hF.1 hb
          exact Wa.loc [] rfl hF
        · have hF := hF.2 hb
          refine Wa.aload_n (j := 3) d_LW_law_779 rfl ?_
          refine Wa.iload (j := 11) d_LW_law_780 rfl ?_
          refine Wa.iconst (v := 2) d_LW_law_782 rfl ?_
          obtain ⟨cc37, ss38, hc39, hF⟩ := hF
          have hc41 := hF.1
          have hF := hF.2
          refine Wx.cVi (q := E_PB) (As := [.int x15, .int 2]) 0 (d - 1) cc37 ss38 _ d_LW_law_783 mok_PB_sheet vl_LW_228 rfl rfl rfl (Nat.le_of_ble_eq_true rfl) (by omega) hc39.1 hc39.2 hc41 hF (fun y42 μ40 hS hF => ?_)
          refine Wa.if_lt 851 d_LW_law_786 (by decide) (fun hb => ?_) (fun hb => ?_)
          · have hF := hF.1 hb
            exact Wa.loc [] rfl hF
          · have hF := hF.2 hb
            refine Wa.aload_n (j := 3) d_LW_law_789 rfl ?_
            refine Wa.iload (j := 11) d_LW_law_790 rfl ?_
            refine Wa.iconst (v := 2) d_LW_law_792 rfl ?_
            obtain ⟨cc43, ss44, hc45, hF⟩ := hF
            have hc47 := hF.1
            have hF := hF.2
            refine Wx.cVi (q := E_PB) (As := [.int x15, .int 2]) 0 (d - 1) cc43 ss44 _ d_LW_law_793 mok_PB_sheet vl_LW_228 rfl rfl rfl (Nat.le_of_ble_eq_true rfl) (by omega) hc45.1 hc45.2 hc47 hF (fun y48 μ46 hS hF => ?_)
            refine Wa.sipush (v := 9999) d_LW_law_796 rfl ?_
            refine Wa.icmp_gt 851 d_LW_law_799 (by decide) (fun hb => ?_) (fun hb => ?_)
            · have hF := hF.1 hb
              exact Wa.loc [] rfl hF
            · have hF := hF.2 hb
              refine Wa.aload_n (j := 3) d_LW_law_802 rfl ?_
              refine Wa.iload (j := 11) d_LW_law_803 rfl ?_
              refine Wa.iconst (v := 3) d_LW_law_805 rfl ?_
              obtain ⟨cc49, ss50, hc51, hF⟩ := hF
              have hc53 := hF.1
              have hF := hF.2
              refine Wx.cVi (q := E_PB) (As := [.int x15, .int 3]) 0 (d - 1) cc49 ss50 _ d_LW_law_806 mok_PB_sheet vl_LW_228 rfl rfl rfl (Nat.le_of_ble_eq_true rfl) (by omega) hc51.1 hc51.2 hc53 hF (fun y54 μ52 hS hF => ?_)
              refine Wa.if_lt 851 d_LW_law_809 (by decide) (fun hb => ?_) (fun hb => ?_)
              · have hF := hF.1 hb
                exact Wa.loc [] rfl hF
              · have hF := hF.2 hb
                refine Wa.aload_n (j := 3) d_LW_law_812 rfl ?_
                refine Wa.iload (j := 11) d_LW_law_813 rfl ?_
                refine Wa.iconst (v := 3) d_LW_law_815 rfl ?_
                obtain ⟨cc55, ss56, hc57, hF⟩ := hF
                have hc59 := hF.1
                have hF := hF.2
                refine Wx.cVi (q := E_PB) (As := [.int x15, .int 3]) 0 (d - 1) cc55 ss56 _ d_LW_law_816 mok_PB_sheet vl_LW_228 rfl rfl rfl (Nat.le_of_ble_eq_true rfl) (by omega) hc57.1 hc57.2 hc59 hF (fun y60 μ58 hS hF => ?_)
                refine Wa.ldc d_LW_law_819 k_LW_241 ?_
                refine Wa.icmp_gt 851 d_LW_law_821 (by decide) (fun hb => ?_) (fun hb => ?_)
                · have hF := hF.1 hb
                  exact Wa.loc [] rfl hF
                · have hF := hF.2 hb
                  refine Wa.aload_n (j := 3) d_LW_law_824 rfl ?_
                  refine Wa.iload (j := 11) d_LW_law_825 rfl ?_
                  refine Wa.iconst (v := 4) d_LW_law_827 rfl ?_
                  obtain ⟨cc61, ss62, hc63, hF⟩ := hF
                  have hc65 := hF.1
                  have hF := hF.2
                  refine Wx.cVi (q := E_PB) (As := [.int x15, .int 4]) 0 (d - 1) cc61 ss62 _ d_LW_law_828 mok_PB_sheet vl_LW_228 rfl rfl rfl (Nat.le_of_ble_eq_true rfl) (by omega) hc63.1 hc63.2 hc65 hF (fun y66 μ64 hS hF => ?_)
                  refine Wa.aload_n (j := 3) d_LW_law_831 rfl ?_
                  refine Wa.iconst (v := 0) d_LW_law_832 rfl ?_
                  obtain ⟨cc67, ss68, hc69, hF⟩ := hF
                  have hc71 := hF.1
                  have hF := hF.2
                  refine Wx.cVi (q := E_PB) (As := [.int 0]) 0 (d - 1) cc67 ss68 _ d_LW_law_833 mok_PB_count vl_LW_195 rfl rfl rfl (Nat.le_of_ble_eq_true rfl) (by omega) hc69.1 hc69.2 hc71 hF (fun y72 μ70 hS hF => ?_)
                  refine Wa.icmp_gt 851 d_LW_law_836 (by decide) (fun hb => ?_) (fun hb => ?_)
                  · have hF := hF.1 hb
                    exact Wa.loc [] rfl hF
                  · have hF := hF.2 hb
                    refine Wa.aload_n (j := 3) d_LW_law_839 rfl ?_
                    refine Wa.iload (j := 11) d_LW_law_840 rfl ?_
                    refine Wa.iload (j := 0) d_LW_law_842 rfl ?_
                    obtain ⟨cc73, ss74, hc75, hF⟩ := hF
                    have hc77 := hF.1
                    have hF := hF.2
                    refine Wx.cVi (q := E_PB) (As := [.int x15, .int y12]) 0 (d - 1) cc73 ss74 _ d_LW_law_844 mok_PB_stamp vl_LW_231 rfl rfl rfl (Nat.le_of_ble_eq_true rfl) (by omega) hc75.1 hc75.2 hc77 hF (fun y78 μ76 hS hF => ?_)
                    refine Wa.iconst (v := 1) d_LW_law_847 rfl ?_
                    refine Wa.icmp_ge 853 d_LW_law_848 (by decide) (fun hb => ?_) (fun hb => ?_)
                    · have hF := hF.1 hb
                      refine Wa.iload (j := 6) d_LW_law_853 rfl ?_
                      refine Wa.iconst (v := 5) d_LW_law_855 rfl ?_
                      refine Wa.iload (j := 11) d_LW_law_856 rfl ?_
                      refine Wa.imul d_LW_law_858 ?_
                      refine Wa.iadd d_LW_law_859 ?_
                      refine Wa.iload (j := 9) d_LW_law_860 rfl ?_
                      refine Wx.cSi (As := [.int (x6 + ((5 : Int32) * x15)), .int x10]) (d - 1) 0 0 _ d_LW_law_862 mok_LW_below sl_LW_89 rfl rfl (Nat.le_of_ble_eq_true rfl) (by omega) (Nat.zero_le _) (Nat.zero_le _) hF (fun y80 μ79 hS hF => ?_)
                      refine Wa.istore (i := 17) (L' := [(17, .int y80), (16, .int y12), (0, .ref a0), (2, .ref a2), (3, .ref a3), (4, .ref a4), (5, .int x5), (6, .int x6), (7, .long x7), (9, .int x9), (10, .int x10), (12, .int x12), (15, .int x15)]) d_LW_law_865 (by decide) rfl ?_
                      refine Wa.aload_n (j := 4) d_LW_law_867 rfl ?_
                      refine Wa.iload (j := 12) d_LW_law_868 rfl ?_
                      refine Wa.iload (j := 0) d_LW_law_870 rfl ?_
                      obtain ⟨cc81, ss82, hc83, hF⟩ := hF
                      have hc85 := hF.1
                      have hF := hF.2
                      refine Wx.cVi (q := E_PB) (As := [.int x15, .int y80]) 0 (d - 1) cc81 ss82 _ d_LW_law_872 mok_PB_compare vl_LW_234 rfl rfl rfl (Nat.le_of_ble_eq_true rfl) (by omega) hc83.1 hc83.2 hc85 hF (fun y86 μ84 hS hF => ?_)
                      refine Wa.istore (i := 18) (L' := [(18, .int y86), (17, .int y80), (16, .int y12), (0, .ref a0), (2, .ref a2), (3, .ref a3), (4, .ref a4), (5, .int x5), (6, .int x6), (7, .long x7), (9, .int x9), (10, .int x10), (12, .int x12), (15, .int x15)]) d_LW_law_875 (by decide) rfl ?_
                      refine Wa.aload_n (j := 5) d_LW_law_877 rfl ?_
                      refine Wa.iload (j := 1) d_LW_law_878 rfl ?_
                      refine Wa.iload (j := 13) d_LW_law_880 rfl ?_
                      obtain ⟨cc87, ss88, hc89, hF⟩ := hF
                      have hc91 := hF.1
                      have hF := hF.2
                      refine Wx.cVi (q := E_PB) (As := [.int y80, .int x15]) 0 (d - 1) cc87 ss88 _ d_LW_law_882 mok_PB_compare vl_LW_234 rfl rfl rfl (Nat.le_of_ble_eq_true rfl) (by omega) hc89.1 hc89.2 hc91 hF (fun y92 μ90 hS hF => ?_)
                      refine Wa.iload (j := 0) d_LW_law_885 rfl ?_
                      refine Wa.iconst (v := 1) d_LW_law_887 rfl ?_
                      refine Wa.icmp_ne 895 d_LW_law_888 (by decide) (fun hb => ?_) (fun hb => ?_)
                      · have hF := hF.2 hb
                        refine Wa.iload (j := 0) d_LW_law_895 rfl ?_
                        refine Wa.iconst (v := 2) d_LW_law_897 rfl ?_
                        refine Wa.icmp_ne 905 d_LW_law_898 (by decide) (fun hb => ?_) (fun hb => ?_)
                        · have hF := hF.2 hb
                          refine Wa.iload (j := 0) d_LW_law_905 rfl ?_
                          exact Wa.loc [3, 4, 5, 6, 7, 8, 9, 10, 11, 12, 13, 2, 1, 0] rfl hF
                        · have hF := hF.1 hb
                          refine Wa.iconst (v := 1) d_LW_law_901 rfl ?_
                          refine Wa.goto 907 d_LW_law_902 (by decide) ?_
                          exact Wa.loc [3, 4, 5, 6, 7, 8, 9, 10, 11, 12, 13, 2, 1, 0] rfl hF
                      · have hF := hF.1 hb
                        refine Wa.iconst (v := 2) d_LW_law_891 rfl ?_
                        refine Wa.goto 907 d_LW_law_892 (by decide) ?_
                        exact Wa.loc [3, 4, 5, 6, 7, 8, 9, 10, 11, 12, 13, 2, 1, 0] rfl hF
                    · have hF := hF.2 hb
                      exact Wa.loc [] rfl hF
set_option maxHeartbeats 4000000 in
set_option maxRecDepth 20000 in
theorem r_LW_law_851 {d rc rs : Nat} {Q : Option Value → Mu → Prop} {μ : Mu}  (hD : 1 ≤ d)
    (hF : Q (some (.int 0)) μ) : Wx K_LW_law d rc rs Q 851 [] [] μ := by
  refine Wa.iconst (v := 0) d_LW_law_851 rfl ?_
  exact Wx.retz d_LW_law_852 rfl (Or.inl rfl) hF
set_option maxHeartbeats 4000000 in
set_option maxRecDepth 20000 in
theorem r_LW_law_907 {d rc rs : Nat} {Q : Option Value → Mu → Prop} {μ : Mu} {a0 : Nat} {a2 : Nat} {a3 : Nat} {a4 : Nat} {x5 : Int32} {x6 : Int32} {x7 : Int64} {x9 : Int32} {x10 : Int32} {x12 : Int32} {x15 : Int32} {x16 : Int32} {x17 : Int32} {x18 : Int32} {z0 : Int32} {z1 : Int32} (hD : 1 ≤ d)
    (hF : ((z1 = z0 → ((x18 = 1 → ((x15 ≤ x17 → Wx K_LW_law d rc rs Q 925 [(0, .ref a0), (2, .ref a2), (3, .ref a3), (4, .ref a4), (5, .int x5), (6, .int x6), (7, .long x7), (9, .int x9), (10, .int x10), (12, .int x12), (15, .int x15), (16, .int x16), (17, .int x17), (18, .int x18)] [] μ) ∧ (¬ x15 ≤ x17 → Wx K_LW_law d rc rs Q 923 [] [] μ))) ∧ (¬ x18 = 1 → Wx K_LW_law d rc rs Q 925 [(0, .ref a0), (2, .ref a2), (3, .ref a3), (4, .ref a4), (5, .int x5), (6, .int x6), (7, .long x7), (9, .int x9), (10, .int x10), (12, .int x12), (15, .int x15), (16, .int x16), (17, .int x17), (18, .int x18)] [] μ))) ∧ (¬ z1 = z0 → Wx K_LW_law d rc rs Q 923 [] [] μ))) : Wx K_LW_law d rc rs Q 907 [(0, .ref a0), (2, .ref a2), (3, .ref a3), (4, .ref a4), (5, .int x5), (6, .int x6), (7, .long x7), (9, .int x9), (10, .int x10), (12, .int x12), (15, .int x15), (16, .int x16), (17, .int x17), (18, .int x18)] [.int z0, .int z1] μ := by
  refine Wa.icmp_ne 923 d_LW_law_907 (by decide) (fun hb => ?_) (fun hb => ?_)
  · have hF := hF.2 hb
    exact Wa.loc [] rfl hF
  · have hF := hF.1 hb
    refine Wa.iload (j := 13) d_LW_law_910 rfl ?_
    refine Wa.iconst (v := 1) d_LW_law_912 rfl ?_
    refine Wa.icmp_ne 925 d_LW_law_913 (by decide) (fun hb => ?_) (fun hb => ?_)
    · have hF := hF.2 hb
      exact Wa.loc [0, 1, 2, 3, 4, 5, 6, 7, 8, 9, 10, 11, 12, 13] rfl hF
    · have hF := hF.1 hb
      refine Wa.iload (j := 10) d_LW_law_916 rfl ?_
      refine Wa.iload (j := 12) d_LW_law_918 rfl ?_
      refine Wa.icmp_le 925 d_LW_law_920 (by decide) (fun hb => ?_) (fun hb => ?_)
      · have hF := hF.1 hb
        exact Wa.loc [0, 1, 2, 3, 4, 5, 6, 7, 8, 9, 10, 11, 12, 13] rfl hF
      · have hF := hF.2 hb
        exact Wa.loc [] rfl hF
set_option maxHeartbeats 4000000 in
set_option maxRecDepth 20000 in
theorem r_LW_law_923 {d rc rs : Nat} {Q : Option Value → Mu → Prop} {μ : Mu}  (hD : 1 ≤ d)
    (hF : Q (some (.int 0)) μ) : Wx K_LW_law d rc rs Q 923 [] [] μ := by
  refine Wa.iconst (v := 0) d_LW_law_923 rfl ?_
  exact Wx.retz d_LW_law_924 rfl (Or.inl rfl) hF
set_option maxHeartbeats 4000000 in
set_option maxRecDepth 20000 in
theorem r_LW_law_925 {d rc rs : Nat} {Q : Option Value → Mu → Prop} {μ : Mu} {a0 : Nat} {a2 : Nat} {a3 : Nat} {a4 : Nat} {x5 : Int32} {x6 : Int32} {x7 : Int64} {x9 : Int32} {x10 : Int32} {x12 : Int32} {x15 : Int32} {x16 : Int32} {x17 : Int32} {x18 : Int32} (hD : 1 ≤ d)
    (hF : Wx K_LW_law d rc rs Q 928 [(0, .ref a0), (2, .ref a2), (3, .ref a3), (4, .ref a4), (5, .int x5), (6, .int x6), (7, .long x7), (9, .int x9), (10, .int x10), (12, .int x12), (15, .int x15), (16, .int x16), (17, .int x17), (18, .int x18), (19, .int 0)] [] μ) : Wx K_LW_law d rc rs Q 925 [(0, .ref a0), (2, .ref a2), (3, .ref a3), (4, .ref a4), (5, .int x5), (6, .int x6), (7, .long x7), (9, .int x9), (10, .int x10), (12, .int x12), (15, .int x15), (16, .int x16), (17, .int x17), (18, .int x18)] [] μ := by
  refine Wa.iconst (v := 0) d_LW_law_925 rfl ?_
  refine Wa.istore (i := 19) (L' := [(19, .int 0), (0, .ref a0), (2, .ref a2), (3, .ref a3), (4, .ref a4), (5, .int x5), (6, .int x6), (7, .long x7), (9, .int x9), (10, .int x10), (12, .int x12), (15, .int x15), (16, .int x16), (17, .int x17), (18, .int x18)]) d_LW_law_926 (by decide) rfl ?_
  exact Wa.loc [1, 2, 3, 4, 5, 6, 7, 8, 9, 10, 11, 12, 13, 14, 0] rfl hF
set_option maxHeartbeats 4000000 in
set_option maxRecDepth 20000 in
theorem r_LW_law_928 {d rc rs : Nat} {Q : Option Value → Mu → Prop} {μ : Mu} {a0 : Nat} {a2 : Nat} {a3 : Nat} {a4 : Nat} {x5 : Int32} {x6 : Int32} {x7 : Int64} {x9 : Int32} {x10 : Int32} {x12 : Int32} {x15 : Int32} {x16 : Int32} {x17 : Int32} {x18 : Int32} {x19 : Int32} (hD : 1 ≤ d)
    (hF : ((x9 ≤ x19 → Wx K_LW_law d rc rs Q 719 [(0, .ref a0), (2, .ref a2), (3, .ref a3), (4, .ref a4), (5, .int x5), (6, .int x6), (7, .long x7), (9, .int x9), (10, .int x10), (12, .int x12), (15, .int (x15 + 1))] [] μ) ∧ (¬ x9 ≤ x19 → ((x18 = 1 → (∃ cc1 ss2 : Nat, (cc1 ≤ rc ∧ ss2 ≤ rs) ∧ (mS μ a3 = (1, 0) ∧ Cal K_PB_stamp (d - 1) cc1 ss2 [.ref a3, .int x15, .int x19] μ (fun r μ4 => ∃ y6, r = some (.int y6) ∧ (∃ cc7 ss8 : Nat, (cc7 ≤ rc - cc1 ∧ ss8 ≤ rs - ss2) ∧ (mS μ4 a3 = (1, 0) ∧ Cal K_PB_stamp (d - 1) cc7 ss8 [.ref a3, .int x17, .int x19] μ4 (fun r μ10 => ∃ y12, r = some (.int y12) ∧ ((y6 ≤ y12 → Wx K_LW_law d (rc - cc1 - cc7) (rs - ss2 - ss8) Q 962 [(0, .ref a0), (2, .ref a2), (3, .ref a3), (4, .ref a4), (5, .int x5), (6, .int x6), (7, .long x7), (9, .int x9), (10, .int x10), (12, .int x12), (15, .int x15), (16, .int x16), (17, .int x17), (18, .int x18), (19, .int x19)] [] μ10) ∧ (¬ y6 ≤ y12 → Q (some (.int 0)) μ10))))))))) ∧ (¬ x18 = 1 → Wx K_LW_law d rc rs Q 962 [(0, .ref a0), (2, .ref a2), (3, .ref a3), (4, .ref a4), (5, .int x5), (6, .int x6), (7, .long x7), (9, .int x9), (10, .int x10), (12, .int x12), (15, .int x15), (16, .int x16), (17, .int x17), (18, .int x18), (19, .int x19)] [] μ))))) : Wx K_LW_law d rc rs Q 928 [(0, .ref a0), (2, .ref a2), (3, .ref a3), (4, .ref a4), (5, .int x5), (6, .int x6), (7, .long x7), (9, .int x9), (10, .int x10), (12, .int x12), (15, .int x15), (16, .int x16), (17, .int x17), (18, .int x18), (19, .int x19)] [] μ := by
  refine Wa.iload (j := 14) d_LW_law_928 rfl ?_
  refine Wa.iload (j := 7) d_LW_law_930 rfl ?_
  refine Wa.icmp_ge 1024 d_LW_law_932 (by decide) (fun hb => ?_) (fun hb => ?_)
  · have hF := hF.1 hb
    refine Wa.iinc (i := 15) (j := 10) (v := (x15 + 1)) (L' := [(15, .int (x15 + 1)), (0, .ref a0), (2, .ref a2), (3, .ref a3), (4, .ref a4), (5, .int x5), (6, .int x6), (7, .long x7), (9, .int x9), (10, .int x10), (12, .int x12), (16, .int x16), (17, .int x17), (18, .int x18), (19, .int x19)]) d_LW_law_1024 rfl rfl (by decide) rfl ?_
    refine Wa.goto 719 d_LW_law_1027 (by decide) ?_
    exact Wa.loc [1, 2, 3, 4, 5, 6, 7, 8, 9, 10, 0] rfl hF
  · have hF := hF.2 hb
    refine Wa.iload (j := 13) d_LW_law_935 rfl ?_
    refine Wa.iconst (v := 1) d_LW_law_937 rfl ?_
    refine Wa.icmp_ne 962 d_LW_law_938 (by decide) (fun hb => ?_) (fun hb => ?_)
    · have hF := hF.2 hb
      exact Wa.loc [0, 1, 2, 3, 4, 5, 6, 7, 8, 9, 10, 11, 12, 13, 14] rfl hF
    · have hF := hF.1 hb
      refine Wa.aload_n (j := 2) d_LW_law_941 rfl ?_
      refine Wa.iload (j := 10) d_LW_law_942 rfl ?_
      refine Wa.iload (j := 14) d_LW_law_944 rfl ?_
      obtain ⟨cc1, ss2, hc3, hF⟩ := hF
      have hc5 := hF.1
      have hF := hF.2
      refine Wx.cVi (q := E_PB) (As := [.int x15, .int x19]) 0 (d - 1) cc1 ss2 _ d_LW_law_946 mok_PB_stamp vl_LW_231 rfl rfl rfl (Nat.le_of_ble_eq_true rfl) (by omega) hc3.1 hc3.2 hc5 hF (fun y6 μ4 hS hF => ?_)
      refine Wa.aload_n (j := 2) d_LW_law_949 rfl ?_
      refine Wa.iload (j := 12) d_LW_law_950 rfl ?_
      refine Wa.iload (j := 14) d_LW_law_952 rfl ?_
      obtain ⟨cc7, ss8, hc9, hF⟩ := hF
      have hc11 := hF.1
      have hF := hF.2
      refine Wx.cVi (q := E_PB) (As := [.int x17, .int x19]) 0 (d - 1) cc7 ss8 _ d_LW_law_954 mok_PB_stamp vl_LW_231 rfl rfl rfl (Nat.le_of_ble_eq_true rfl) (by omega) hc9.1 hc9.2 hc11 hF (fun y12 μ10 hS hF => ?_)
      refine Wa.icmp_le 962 d_LW_law_957 (by decide) (fun hb => ?_) (fun hb => ?_)
      · have hF := hF.1 hb
        exact Wa.loc [0, 1, 2, 3, 4, 5, 6, 7, 8, 9, 10, 11, 12, 13, 14] rfl hF
      · have hF := hF.2 hb
        refine Wa.iconst (v := 0) d_LW_law_960 rfl ?_
        exact Wx.retz d_LW_law_961 rfl (Or.inl rfl) hF
set_option maxHeartbeats 4000000 in
set_option maxRecDepth 20000 in
theorem r_LW_law_962 {d rc rs : Nat} {Q : Option Value → Mu → Prop} {μ : Mu} {a0 : Nat} {a2 : Nat} {a3 : Nat} {a4 : Nat} {x5 : Int32} {x6 : Int32} {x7 : Int64} {x9 : Int32} {x10 : Int32} {x12 : Int32} {x15 : Int32} {x16 : Int32} {x17 : Int32} {x18 : Int32} {x19 : Int32} (hD : 1 ≤ d)
    (hF : (∃ cc1 ss2 : Nat, (cc1 ≤ rc ∧ ss2 ≤ rs) ∧ (mS μ a3 = (1, 0) ∧ Cal K_PB_knows (d - 1) cc1 ss2 [.ref a3, .int x19, .int x16] μ (fun r μ4 => ∃ y6, r = some (.int y6) ∧ (∃ cc7 ss8 : Nat, (cc7 ≤ rc - cc1 ∧ ss8 ≤ rs - ss2) ∧ (mS μ4 a3 = (1, 0) ∧ Cal K_PB_stamp (d - 1) cc7 ss8 [.ref a3, .int x15, .int x16] μ4 (fun r μ10 => ∃ y12, r = some (.int y12) ∧ ((y6 < y12 → Wx K_LW_law d (rc - cc1 - cc7) (rs - ss2 - ss8) Q 1018 [(0, .ref a0), (2, .ref a2), (3, .ref a3), (4, .ref a4), (5, .int x5), (6, .int x6), (7, .long x7), (9, .int x9), (10, .int x10), (12, .int x12), (15, .int x15), (16, .int x16), (17, .int x17), (18, .int x18), (19, .int x19)] [] μ10) ∧ (¬ y6 < y12 → Wx K_LW_law d (rc - cc1 - cc7) (rs - ss2 - ss8) Q 984 [(0, .ref a0), (2, .ref a2), (3, .ref a3), (4, .ref a4), (5, .int x5), (6, .int x6), (7, .long x7), (9, .int x9), (10, .int x10), (12, .int x12), (15, .int x15), (16, .int x16), (17, .int x17), (18, .int x18), (19, .int x19), (20, .int 0)] [] μ10))))))))) : Wx K_LW_law d rc rs Q 962 [(0, .ref a0), (2, .ref a2), (3, .ref a3), (4, .ref a4), (5, .int x5), (6, .int x6), (7, .long x7), (9, .int x9), (10, .int x10), (12, .int x12), (15, .int x15), (16, .int x16), (17, .int x17), (18, .int x18), (19, .int x19)] [] μ := by
  refine Wa.aload_n (j := 2) d_LW_law_962 rfl ?_
  refine Wa.iload (j := 14) d_LW_law_963 rfl ?_
  refine Wa.iload (j := 11) d_LW_law_965 rfl ?_
  obtain ⟨cc1, ss2, hc3, hF⟩ := hF
  have hc5 := hF.1
  have hF := hF.2
  refine Wx.cVi (q := E_PB) (As := [.int x19, .int x16]) 0 (d - 1) cc1 ss2 _ d_LW_law_967 mok_PB_knows vl_LW_215 rfl rfl rfl (Nat.le_of_ble_eq_true rfl) (by omega) hc3.1 hc3.2 hc5 hF (fun y6 μ4 hS hF => ?_)
  refine Wa.aload_n (j := 2) d_LW_law_970 rfl ?_
  refine Wa.iload (j := 10) d_LW_law_971 rfl ?_
  refine Wa.iload (j := 11) d_LW_law_973 rfl ?_
  obtain ⟨cc7, ss8, hc9, hF⟩ := hF
  have hc11 := hF.1
  have hF := hF.2
  refine Wx.cVi (q := E_PB) (As := [.int x15, .int x16]) 0 (d - 1) cc7 ss8 _ d_LW_law_975 mok_PB_stamp vl_LW_231 rfl rfl rfl (Nat.le_of_ble_eq_true rfl) (by omega) hc9.1 hc9.2 hc11 hF (fun y12 μ10 hS hF => ?_)
  refine Wa.icmp_lt 1018 d_LW_law_978 (by decide) (fun hb => ?_) (fun hb => ?_)
  · have hF := hF.1 hb
    exact Wa.loc [0, 1, 2, 3, 4, 5, 6, 7, 8, 9, 10, 11, 12, 13, 14] rfl hF
  · have hF := hF.2 hb
    refine Wa.iconst (v := 0) d_LW_law_981 rfl ?_
    refine Wa.istore (i := 20) (L' := [(20, .int 0), (0, .ref a0), (2, .ref a2), (3, .ref a3), (4, .ref a4), (5, .int x5), (6, .int x6), (7, .long x7), (9, .int x9), (10, .int x10), (12, .int x12), (15, .int x15), (16, .int x16), (17, .int x17), (18, .int x18), (19, .int x19)]) d_LW_law_982 (by decide) rfl ?_
    exact Wa.loc [1, 2, 3, 4, 5, 6, 7, 8, 9, 10, 11, 12, 13, 14, 15, 0] rfl hF
set_option maxHeartbeats 4000000 in
set_option maxRecDepth 20000 in
theorem r_LW_law_984 {d rc rs : Nat} {Q : Option Value → Mu → Prop} {μ : Mu} {a0 : Nat} {a2 : Nat} {a3 : Nat} {a4 : Nat} {x5 : Int32} {x6 : Int32} {x7 : Int64} {x9 : Int32} {x10 : Int32} {x12 : Int32} {x15 : Int32} {x16 : Int32} {x17 : Int32} {x18 : Int32} {x19 : Int32} {x20 : Int32} (hD : 1 ≤ d)
    (hF : ((x9 ≤ x20 → Wx K_LW_law d rc rs Q 1018 [(0, .ref a0), (2, .ref a2), (3, .ref a3), (4, .ref a4), (5, .int x5), (6, .int x6), (7, .long x7), (9, .int x9), (10, .int x10), (12, .int x12), (15, .int x15), (16, .int x16), (17, .int x17), (18, .int x18), (19, .int x19)] [] μ) ∧ (¬ x9 ≤ x20 → (∃ cc1 ss2 : Nat, (cc1 ≤ rc ∧ ss2 ≤ rs) ∧ (mS μ a3 = (1, 0) ∧ Cal K_PB_knows (d - 1) cc1 ss2 [.ref a3, .int x19, .int x20] μ (fun r μ4 => ∃ y6, r = some (.int y6) ∧ (∃ cc7 ss8 : Nat, (cc7 ≤ rc - cc1 ∧ ss8 ≤ rs - ss2) ∧ (mS μ4 a3 = (1, 0) ∧ Cal K_PB_stamp (d - 1) cc7 ss8 [.ref a3, .int x15, .int x20] μ4 (fun r μ10 => ∃ y12, r = some (.int y12) ∧ ((y12 ≤ y6 → Wx K_LW_law d (rc - cc1 - cc7) (rs - ss2 - ss8) Q 984 [(0, .ref a0), (2, .ref a2), (3, .ref a3), (4, .ref a4), (5, .int x5), (6, .int x6), (7, .long x7), (9, .int x9), (10, .int x10), (12, .int x12), (15, .int x15), (16, .int x16), (17, .int x17), (18, .int x18), (19, .int x19), (20, .int (x20 + 1))] [] μ10) ∧ (¬ y12 ≤ y6 → Q (some (.int 0)) μ10))))))))))) : Wx K_LW_law d rc rs Q 984 [(0, .ref a0), (2, .ref a2), (3, .ref a3), (4, .ref a4), (5, .int x5), (6, .int x6), (7, .long x7), (9, .int x9), (10, .int x10), (12, .int x12), (15, .int x15), (16, .int x16), (17, .int x17), (18, .int x18), (19, .int x19), (20, .int x20)] [] μ := by
  refine Wa.iload (j := 15) d_LW_law_984 rfl ?_
  refine Wa.iload (j := 7) d_LW_law_986 rfl ?_
  refine Wa.icmp_ge 1018 d_LW_law_988 (by decide) (fun hb => ?_) (fun hb => ?_)
  · have hF := hF.1 hb
    exact Wa.loc [0, 1, 2, 3, 4, 5, 6, 7, 8, 9, 10, 11, 12, 13, 14] rfl hF
  · have hF := hF.2 hb
    refine Wa.aload_n (j := 2) d_LW_law_991 rfl ?_
    refine Wa.iload (j := 14) d_LW_law_992 rfl ?_
    refine Wa.iload (j := 15) d_LW_law_994 rfl ?_
    obtain ⟨cc1, ss2, hc3, hF⟩ := hF
    have hc5 := hF.1
    have hF := hF.2
    refine Wx.cVi (q := E_PB) (As := [.int x19, .int x20]) 0 (d - 1) cc1 ss2 _ d_LW_law_996 mok_PB_knows vl_LW_215 rfl rfl rfl (Nat.le_of_ble_eq_true rfl) (by omega) hc3.1 hc3.2 hc5 hF (fun y6 μ4 hS hF => ?_)
    refine Wa.aload_n (j := 2) d_LW_law_999 rfl ?_
    refine Wa.iload (j := 10) d_LW_law_1000 rfl ?_
    refine Wa.iload (j := 15) d_LW_law_1002 rfl ?_
    obtain ⟨cc7, ss8, hc9, hF⟩ := hF
    have hc11 := hF.1
    have hF := hF.2
    refine Wx.cVi (q := E_PB) (As := [.int x15, .int x20]) 0 (d - 1) cc7 ss8 _ d_LW_law_1004 mok_PB_stamp vl_LW_231 rfl rfl rfl (Nat.le_of_ble_eq_true rfl) (by omega) hc9.1 hc9.2 hc11 hF (fun y12 μ10 hS hF => ?_)
    refine Wa.icmp_ge 1012 d_LW_law_1007 (by decide) (fun hb => ?_) (fun hb => ?_)
    · have hF := hF.1 hb
      refine Wa.iinc (i := 20) (j := 15) (v := (x20 + 1)) (L' := [(20, .int (x20 + 1)), (0, .ref a0), (2, .ref a2), (3, .ref a3), (4, .ref a4), (5, .int x5), (6, .int x6), (7, .long x7), (9, .int x9), (10, .int x10), (12, .int x12), (15, .int x15), (16, .int x16), (17, .int x17), (18, .int x18), (19, .int x19)]) d_LW_law_1012 rfl rfl (by decide) rfl ?_
      refine Wa.goto 984 d_LW_law_1015 (by decide) ?_
      exact Wa.loc [1, 2, 3, 4, 5, 6, 7, 8, 9, 10, 11, 12, 13, 14, 15, 0] rfl hF
    · have hF := hF.2 hb
      refine Wa.iconst (v := 0) d_LW_law_1010 rfl ?_
      exact Wx.retz d_LW_law_1011 rfl (Or.inl rfl) hF
set_option maxHeartbeats 4000000 in
set_option maxRecDepth 20000 in
theorem r_LW_law_1018 {d rc rs : Nat} {Q : Option Value → Mu → Prop} {μ : Mu} {a0 : Nat} {a2 : Nat} {a3 : Nat} {a4 : Nat} {x5 : Int32} {x6 : Int32} {x7 : Int64} {x9 : Int32} {x10 : Int32} {x12 : Int32} {x15 : Int32} {x16 : Int32} {x17 : Int32} {x18 : Int32} {x19 : Int32} (hD : 1 ≤ d)
    (hF : Wx K_LW_law d rc rs Q 928 [(0, .ref a0), (2, .ref a2), (3, .ref a3), (4, .ref a4), (5, .int x5), (6, .int x6), (7, .long x7), (9, .int x9), (10, .int x10), (12, .int x12), (15, .int x15), (16, .int x16), (17, .int x17), (18, .int x18), (19, .int (x19 + 1))] [] μ) : Wx K_LW_law d rc rs Q 1018 [(0, .ref a0), (2, .ref a2), (3, .ref a3), (4, .ref a4), (5, .int x5), (6, .int x6), (7, .long x7), (9, .int x9), (10, .int x10), (12, .int x12), (15, .int x15), (16, .int x16), (17, .int x17), (18, .int x18), (19, .int x19)] [] μ := by
  refine Wa.iinc (i := 19) (j := 14) (v := (x19 + 1)) (L' := [(19, .int (x19 + 1)), (0, .ref a0), (2, .ref a2), (3, .ref a3), (4, .ref a4), (5, .int x5), (6, .int x6), (7, .long x7), (9, .int x9), (10, .int x10), (12, .int x12), (15, .int x15), (16, .int x16), (17, .int x17), (18, .int x18)]) d_LW_law_1018 rfl rfl (by decide) rfl ?_
  refine Wa.goto 928 d_LW_law_1021 (by decide) ?_
  exact Wa.loc [1, 2, 3, 4, 5, 6, 7, 8, 9, 10, 11, 12, 13, 14, 0] rfl hF
set_option maxHeartbeats 4000000 in
set_option maxRecDepth 20000 in
theorem r_LW_law_1046 {d rc rs : Nat} {Q : Option Value → Mu → Prop} {μ : Mu} {a0 : Nat} {a2 : Nat} {a3 : Nat} {a4 : Nat} {x5 : Int32} {x7 : Int64} {x9 : Int32} {x10 : Int32} {x12 : Int32} {x15 : Int32} {z0 : Int32} (hD : 1 ≤ d)
    (hF : ((x12 = (x9 * x10) → ((z0 = 1 → ((x15 < 0 → Wx K_LW_law d rc rs Q 1082 [(0, .ref a0), (2, .ref a2), (3, .ref a3), (4, .ref a4), (5, .int x5), (7, .long x7)] [] μ) ∧ (¬ x15 < 0 → (∃ cc7 ss8 : Nat, (cc7 ≤ rc ∧ ss8 ≤ rs) ∧ (mS μ a3 = (1, 0) ∧ Cal K_PB_sheet (d - 1) cc7 ss8 [.ref a3, .int x15, .int 6] μ (fun r μ10 => ∃ y12, r = some (.int y12) ∧ ((y12 = x9 → Wx K_LW_law d (rc - cc7) (rs - ss8) Q 1092 [] [] μ10) ∧ (¬ y12 = x9 → Wx K_LW_law d (rc - cc7) (rs - ss8) Q 1082 [(0, .ref a0), (2, .ref a2), (3, .ref a3), (4, .ref a4), (5, .int x5), (7, .long x7)] [] μ10)))))))) ∧ (¬ z0 = 1 → Wx K_LW_law d rc rs Q 1092 [] [] μ))) ∧ (¬ x12 = (x9 * x10) → ((z0 = 0 → ((x15 < 0 → Wx K_LW_law d rc rs Q 1082 [(0, .ref a0), (2, .ref a2), (3, .ref a3), (4, .ref a4), (5, .int x5), (7, .long x7)] [] μ) ∧ (¬ x15 < 0 → (∃ cc1 ss2 : Nat, (cc1 ≤ rc ∧ ss2 ≤ rs) ∧ (mS μ a3 = (1, 0) ∧ Cal K_PB_sheet (d - 1) cc1 ss2 [.ref a3, .int x15, .int 6] μ (fun r μ4 => ∃ y6, r = some (.int y6) ∧ ((y6 = x9 → Wx K_LW_law d (rc - cc1) (rs - ss2) Q 1092 [] [] μ4) ∧ (¬ y6 = x9 → Wx K_LW_law d (rc - cc1) (rs - ss2) Q 1082 [(0, .ref a0), (2, .ref a2), (3, .ref a3), (4, .ref a4), (5, .int x5), (7, .long x7)] [] μ4)))))))) ∧ (¬ z0 = 0 → Wx K_LW_law d rc rs Q 1092 [] [] μ))))) : Wx K_LW_law d rc rs Q 1046 [(0, .ref a0), (2, .ref a2), (3, .ref a3), (4, .ref a4), (5, .int x5), (7, .long x7), (9, .int x9), (10, .int x10), (12, .int x12), (15, .int x15)] [.int z0] μ := by
  refine Wa.iload (j := 8) d_LW_law_1046 rfl ?_
  refine Wa.iload (j := 6) d_LW_law_1048 rfl ?_
  refine Wa.iload (j := 7) d_LW_law_1050 rfl ?_
  refine Wa.imul d_LW_law_1052 ?_
  refine Wa.icmp_ne 1060 d_LW_law_1053 (by decide) (fun hb => ?_) (fun hb => ?_)
  · have hF := hF.2 hb
    refine Wa.iconst (v := 0) d_LW_law_1060 rfl ?_
    refine Wa.icmp_ne 1092 d_LW_law_1061 (by decide) (fun hb => ?_) (fun hb => ?_)
    · have hF := hF.2 hb
      exact Wa.loc [] rfl hF
    · have hF := hF.1 hb
      refine Wa.iload (j := 9) d_LW_law_1064 rfl ?_
      refine Wa.if_lt 1082 d_LW_law_1066 (by decide) (fun hb => ?_) (fun hb => ?_)
      · have hF := hF.1 hb
        exact Wa.loc [0, 1, 2, 3, 4, 5] rfl hF
      · have hF := hF.2 hb
        refine Wa.aload_n (j := 2) d_LW_law_1069 rfl ?_
        refine Wa.iload (j := 9) d_LW_law_1070 rfl ?_
        refine Wa.bipush (v := 6) d_LW_law_1072 rfl ?_
        obtain ⟨cc1, ss2, hc3, hF⟩ := hF
        have hc5 := hF.1
        have hF := hF.2
        refine Wx.cVi (q := E_PB) (As := [.int x15, .int 6]) 0 (d - 1) cc1 ss2 _ d_LW_law_1074 mok_PB_sheet vl_LW_228 rfl rfl rfl (Nat.le_of_ble_eq_true rfl) (by omega) hc3.1 hc3.2 hc5 hF (fun y6 μ4 hS hF => ?_)
        refine Wa.iload (j := 6) d_LW_law_1077 rfl ?_
        refine Wa.icmp_eq 1092 d_LW_law_1079 (by decide) (fun hb => ?_) (fun hb => ?_)
        · have hF := hF.1 hb
          exact Wa.loc [] rfl hF
        · have hF := hF.2 hb
          exact Wa.loc [0, 1, 2, 3, 4, 5] rfl hF
  · have hF := hF.1 hb
    refine Wa.iconst (v := 1) d_LW_law_1056 rfl ?_
    refine Wa.goto 1061 d_LW_law_1057 (by decide) ?_
    refine Wa.icmp_ne 1092 d_LW_law_1061 (by decide) (fun hb => ?_) (fun hb => ?_)
    · have hF := hF.2 hb
      exact Wa.loc [] rfl hF
    · have hF := hF.1 hb
      refine Wa.iload (j := 9) d_LW_law_1064 rfl ?_
      refine Wa.if_lt 1082 d_LW_law_1066 (by decide) (fun hb => ?_) (fun hb => ?_)
      · have hF := hF.1 hb
        exact Wa.loc [0, 1, 2, 3, 4, 5] rfl hF
      · have hF := hF.2 hb
        refine Wa.aload_n (j := 2) d_LW_law_1069 rfl ?_
        refine Wa.iload (j := 9) d_LW_law_1070 rfl ?_
        refine Wa.bipush (v := 6) d_LW_law_1072 rfl ?_
        obtain ⟨cc7, ss8, hc9, hF⟩ := hF
        have hc11 := hF.1
        have hF := hF.2
        refine Wx.cVi (q := E_PB) (As := [.int x15, .int 6]) 0 (d - 1) cc7 ss8 _ d_LW_law_1074 mok_PB_sheet vl_LW_228 rfl rfl rfl (Nat.le_of_ble_eq_true rfl) (by omega) hc9.1 hc9.2 hc11 hF (fun y12 μ10 hS hF => ?_)
        refine Wa.iload (j := 6) d_LW_law_1077 rfl ?_
        refine Wa.icmp_eq 1092 d_LW_law_1079 (by decide) (fun hb => ?_) (fun hb => ?_)
        · have hF := hF.1 hb
          exact Wa.loc [] rfl hF
        · have hF := hF.2 hb
          exact Wa.loc [0, 1, 2, 3, 4, 5] rfl hF
set_option maxHeartbeats 4000000 in
set_option maxRecDepth 20000 in
theorem r_LW_law_1082 {d rc rs : Nat} {Q : Option Value → Mu → Prop} {μ : Mu} {a0 : Nat} {a2 : Nat} {a3 : Nat} {a4 : Nat} {x5 : Int32} {x7 : Int64} (hD : 1 ≤ d)
    (hF : (∃ cc1 ss2 : Nat, (cc1 ≤ rc ∧ ss2 ≤ rs) ∧ (mS μ a3 = (1, 0) ∧ Cal K_PB_digest (d - 1) cc1 ss2 [.ref a3] μ (fun r μ4 => ∃ y6, r = some (.long y6) ∧ (((lg_cmp y6 x7) = 0 → Wx K_LW_law d (rc - cc1) (rs - ss2) Q 44 [(0, .ref a0), (2, .ref a2), (3, .ref a3), (4, .ref a4), (5, .int (x5 + 1))] [] μ4) ∧ (¬ (lg_cmp y6 x7) = 0 → Wx K_LW_law d (rc - cc1) (rs - ss2) Q 1092 [] [] μ4)))))) : Wx K_LW_law d rc rs Q 1082 [(0, .ref a0), (2, .ref a2), (3, .ref a3), (4, .ref a4), (5, .int x5), (7, .long x7)] [] μ := by
  refine Wa.aload_n (j := 2) d_LW_law_1082 rfl ?_
  obtain ⟨cc1, ss2, hc3, hF⟩ := hF
  have hc5 := hF.1
  have hF := hF.2
  refine Wx.cVl (q := E_PB) (As := []) 0 (d - 1) cc1 ss2 _ d_LW_law_1083 mok_PB_digest vl_LW_211 rfl rfl rfl (Nat.le_of_ble_eq_true rfl) (by omega) hc3.1 hc3.2 hc5 hF (fun y6 μ4 hS hF => ?_)
  refine Wa.lload (j := 5) d_LW_law_1086 rfl ?_
  refine Wa.lcmp d_LW_law_1088 ?_
  refine Wa.if_eq 1094 d_LW_law_1089 (by decide) (fun hb => ?_) (fun hb => ?_)
  · have hF := hF.1 hb
    refine Wa.iinc (i := 5) (j := 4) (v := (x5 + 1)) (L' := [(5, .int (x5 + 1)), (0, .ref a0), (2, .ref a2), (3, .ref a3), (4, .ref a4), (7, .long x7)]) d_LW_law_1094 rfl rfl (by decide) rfl ?_
    refine Wa.goto 44 d_LW_law_1097 (by decide) ?_
    exact Wa.loc [1, 2, 3, 4, 0] rfl hF
  · have hF := hF.2 hb
    exact Wa.loc [] rfl hF
set_option maxHeartbeats 4000000 in
set_option maxRecDepth 20000 in
theorem r_LW_law_1092 {d rc rs : Nat} {Q : Option Value → Mu → Prop} {μ : Mu}  (hD : 1 ≤ d)
    (hF : Q (some (.int 0)) μ) : Wx K_LW_law d rc rs Q 1092 [] [] μ := by
  refine Wa.iconst (v := 0) d_LW_law_1092 rfl ?_
  exact Wx.retz d_LW_law_1093 rfl (Or.inl rfl) hF
