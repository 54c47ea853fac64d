/-! segments of methods, by machine -/
set_option maxHeartbeats 4000000 in
set_option maxRecDepth 20000 in
theorem g_JI_bitCount_0f7a4_0 {d rc rs : Nat} {Q : Option Value → Mu → Prop} {μ : Mu} {x0 : Int32} (hD : 1 ≤ d)  (hS : St μ)
    (hF : Q (some (.int ((((((((x0 - (((x0.toUInt32 >>> ((1 : Int32).toUInt32 &&& Int32.toUInt32 31)).toInt32) &&& (1431655765 : Int32))) &&& (858993459 : Int32)) + ((((x0 - (((x0.toUInt32 >>> ((1 : Int32).toUInt32 &&& Int32.toUInt32 31)).toInt32) &&& (1431655765 : Int32))).toUInt32 >>> ((2 : Int32).toUInt32 &&& Int32.toUInt32 31)).toInt32) &&& (858993459 : Int32))) + (((((x0 - (((x0.toUInt32 >>> ((1 : Int32).toUInt32 &&& Int32.toUInt32 31)).toInt32) &&& (1431655765 : Int32))) &&& (858993459 : Int32)) + ((((x0 - (((x0.toUInt32 >>> ((1 : Int32).toUInt32 &&& Int32.toUInt32 31)).toInt32) &&& (1431655765 : Int32))).toUInt32 >>> ((2 : Int32).toUInt32 &&& Int32.toUInt32 31)).toInt32) &&& (858993459 : Int32))).toUInt32 >>> ((4 : Int32).toUInt32 &&& Int32.toUInt32 31)).toInt32)) &&& (252645135 : Int32)) + (((((((x0 - (((x0.toUInt32 >>> ((1 : Int32).toUInt32 &&& Int32.toUInt32 31)).toInt32) &&& (1431655765 : Int32))) &&& (858993459 : Int32)) + ((((x0 - (((x0.toUInt32 >>> ((1 : Int32).toUInt32 &&& Int32.toUInt32 31)).toInt32) &&& (1431655765 : Int32))).toUInt32 >>> ((2 : Int32).toUInt32 &&& Int32.toUInt32 31)).toInt32) &&& (858993459 : Int32))) + (((((x0 - (((x0.toUInt32 >>> ((1 : Int32).toUInt32 &&& Int32.toUInt32 31)).toInt32) &&& (1431655765 : Int32))) &&& (858993459 : Int32)) + ((((x0 - (((x0.toUInt32 >>> ((1 : Int32).toUInt32 &&& Int32.toUInt32 31)).toInt32) &&& (1431655765 : Int32))).toUInt32 >>> ((2 : Int32).toUInt32 &&& Int32.toUInt32 31)).toInt32) &&& (858993459 : Int32))).toUInt32 >>> ((4 : Int32).toUInt32 &&& Int32.toUInt32 31)).toInt32)) &&& (252645135 : Int32)).toUInt32 >>> ((8 : Int32).toUInt32 &&& Int32.toUInt32 31)).toInt32)) + ((((((((x0 - (((x0.toUInt32 >>> ((1 : Int32).toUInt32 &&& Int32.toUInt32 31)).toInt32) &&& (1431655765 : Int32))) &&& (858993459 : Int32)) + ((((x0 - (((x0.toUInt32 >>> ((1 : Int32).toUInt32 &&& Int32.toUInt32 31)).toInt32) &&& (1431655765 : Int32))).toUInt32 >>> ((2 : Int32).toUInt32 &&& Int32.toUInt32 31)).toInt32) &&& (858993459 : Int32))) + (((((x0 - (((x0.toUInt32 >>> ((1 : Int32).toUInt32 &&& Int32.toUInt32 31)).toInt32) &&& (1431655765 : Int32))) &&& (858993459 : Int32)) + ((((x0 - (((x0.toUInt32 >>> ((1 : Int32).toUInt32 &&& Int32.toUInt32 31)).toInt32) &&& (1431655765 : Int32))).toUInt32 >>> ((2 : Int32).toUInt32 &&& Int32.toUInt32 31)).toInt32) &&& (858993459 : Int32))).toUInt32 >>> ((4 : Int32).toUInt32 &&& Int32.toUInt32 31)).toInt32)) &&& (252645135 : Int32)) + (((((((x0 - (((x0.toUInt32 >>> ((1 : Int32).toUInt32 &&& Int32.toUInt32 31)).toInt32) &&& (1431655765 : Int32))) &&& (858993459 : Int32)) + ((((x0 - (((x0.toUInt32 >>> ((1 : Int32).toUInt32 &&& Int32.toUInt32 31)).toInt32) &&& (1431655765 : Int32))).toUInt32 >>> ((2 : Int32).toUInt32 &&& Int32.toUInt32 31)).toInt32) &&& (858993459 : Int32))) + (((((x0 - (((x0.toUInt32 >>> ((1 : Int32).toUInt32 &&& Int32.toUInt32 31)).toInt32) &&& (1431655765 : Int32))) &&& (858993459 : Int32)) + ((((x0 - (((x0.toUInt32 >>> ((1 : Int32).toUInt32 &&& Int32.toUInt32 31)).toInt32) &&& (1431655765 : Int32))).toUInt32 >>> ((2 : Int32).toUInt32 &&& Int32.toUInt32 31)).toInt32) &&& (858993459 : Int32))).toUInt32 >>> ((4 : Int32).toUInt32 &&& Int32.toUInt32 31)).toInt32)) &&& (252645135 : Int32)).toUInt32 >>> ((8 : Int32).toUInt32 &&& Int32.toUInt32 31)).toInt32)).toUInt32 >>> ((16 : Int32).toUInt32 &&& Int32.toUInt32 31)).toInt32)) &&& (63 : Int32)))) μ) : Wx K_JI_bitCount_0f7a4 d rc rs Q 0 [(0, .int x0)] [] μ := by
  refine Wa.iload_n (j := 0) d_JI_bitCount_0f7a4_0 rfl ?_
  refine Wa.iload_n (j := 0) d_JI_bitCount_0f7a4_1 rfl ?_
  refine Wa.iconst (v := 1) d_JI_bitCount_0f7a4_2 rfl ?_
  refine Wx.iushr d_JI_bitCount_0f7a4_3 ?_
  refine Wx.ldcw d_JI_bitCount_0f7a4_4 k_JI_265 ?_
  refine Wa.iand d_JI_bitCount_0f7a4_7 ?_
  refine Wa.isub d_JI_bitCount_0f7a4_8 ?_
  refine Wa.istore_n (i := 0) (L' := [(0, .int (x0 - (((x0.toUInt32 >>> ((1 : Int32).toUInt32 &&& Int32.toUInt32 31)).toInt32) &&& (1431655765 : Int32))))]) d_JI_bitCount_0f7a4_9 rfl (by decide) rfl ?_
  refine Wa.iload_n (j := 0) d_JI_bitCount_0f7a4_10 rfl ?_
  refine Wx.ldcw d_JI_bitCount_0f7a4_11 k_JI_266 ?_
  refine Wa.iand d_JI_bitCount_0f7a4_14 ?_
  refine Wa.iload_n (j := 0) d_JI_bitCount_0f7a4_15 rfl ?_
  refine Wa.iconst (v := 2) d_JI_bitCount_0f7a4_16 rfl ?_
  refine Wx.iushr d_JI_bitCount_0f7a4_17 ?_
  refine Wx.ldcw d_JI_bitCount_0f7a4_18 k_JI_266 ?_
  refine Wa.iand d_JI_bitCount_0f7a4_21 ?_
  refine Wa.iadd d_JI_bitCount_0f7a4_22 ?_
  refine Wa.istore_n (i := 0) (L' := [(0, .int (((x0 - (((x0.toUInt32 >>> ((1 : Int32).toUInt32 &&& Int32.toUInt32 31)).toInt32) &&& (1431655765 : Int32))) &&& (858993459 : Int32)) + ((((x0 - (((x0.toUInt32 >>> ((1 : Int32).toUInt32 &&& Int32.toUInt32 31)).toInt32) &&& (1431655765 : Int32))).toUInt32 >>> ((2 : Int32).toUInt32 &&& Int32.toUInt32 31)).toInt32) &&& (858993459 : Int32))))]) d_JI_bitCount_0f7a4_23 rfl (by decide) rfl ?_
  refine Wa.iload_n (j := 0) d_JI_bitCount_0f7a4_24 rfl ?_
  refine Wa.iload_n (j := 0) d_JI_bitCount_0f7a4_25 rfl ?_
  refine Wa.iconst (v := 4) d_JI_bitCount_0f7a4_26 rfl ?_
  refine Wx.iushr d_JI_bitCount_0f7a4_27 ?_
  refine Wa.iadd d_JI_bitCount_0f7a4_28 ?_
  refine Wx.ldcw d_JI_bitCount_0f7a4_29 k_JI_267 ?_
  refine Wa.iand d_JI_bitCount_0f7a4_32 ?_
  refine Wa.istore_n (i := 0) (L' := [(0, .int (((((x0 - (((x0.toUInt32 >>> ((1 : Int32).toUInt32 &&& Int32.toUInt32 31)).toInt32) &&& (1431655765 : Int32))) &&& (858993459 : Int32)) + ((((x0 - (((x0.toUInt32 >>> ((1 : Int32).toUInt32 &&& Int32.toUInt32 31)).toInt32) &&& (1431655765 : Int32))).toUInt32 >>> ((2 : Int32).toUInt32 &&& Int32.toUInt32 31)).toInt32) &&& (858993459 : Int32))) + (((((x0 - (((x0.toUInt32 >>> ((1 : Int32).toUInt32 &&& Int32.toUInt32 31)).toInt32) &&& (1431655765 : Int32))) &&& (858993459 : Int32)) + ((((x0 - (((x0.toUInt32 >>> ((1 : Int32).toUInt32 &&& Int32.toUInt32 31)).toInt32) &&& (1431655765 : Int32))).toUInt32 >>> ((2 : Int32).toUInt32 &&& Int32.toUInt32 31)).toInt32) &&& (858993459 : Int32))).toUInt32 >>> ((4 : Int32).toUInt32 &&& Int32.toUInt32 31)).toInt32)) &&& (252645135 : Int32)))]) d_JI_bitCount_0f7a4_33 rfl (by decide) rfl ?_
  refine Wa.iload_n (j := 0) d_JI_bitCount_0f7a4_34 rfl ?_
  refine Wa.iload_n (j := 0) d_JI_bitCount_0f7a4_35 rfl ?_
  refine Wa.bipush (v := 8) d_JI_bitCount_0f7a4_36 rfl ?_
  refine Wx.iushr d_JI_bitCount_0f7a4_38 ?_
  refine Wa.iadd d_JI_bitCount_0f7a4_39 ?_
  refine Wa.istore_n (i := 0) (L' := [(0, .int ((((((x0 - (((x0.toUInt32 >>> ((1 : Int32).toUInt32 &&& Int32.toUInt32 31)).toInt32) &&& (1431655765 : Int32))) &&& (858993459 : Int32)) + ((((x0 - (((x0.toUInt32 >>> ((1 : Int32).toUInt32 &&& Int32.toUInt32 31)).toInt32) &&& (1431655765 : Int32))).toUInt32 >>> ((2 : Int32).toUInt32 &&& Int32.toUInt32 31)).toInt32) &&& (858993459 : Int32))) + (((((x0 - (((x0.toUInt32 >>> ((1 : Int32).toUInt32 &&& Int32.toUInt32 31)).toInt32) &&& (1431655765 : Int32))) &&& (858993459 : Int32)) + ((((x0 - (((x0.toUInt32 >>> ((1 : Int32).toUInt32 &&& Int32.toUInt32 31)).toInt32) &&& (1431655765 : Int32))).toUInt32 >>> ((2 : Int32).toUInt32 &&& Int32.toUInt32 31)).toInt32) &&& (858993459 : Int32))).toUInt32 >>> ((4 : Int32).toUInt32 &&& Int32.toUInt32 31)).toInt32)) &&& (252645135 : Int32)) + (((((((x0 - (((x0.toUInt32 >>> ((1 : Int32).toUInt32 &&& Int32.toUInt32 31)).toInt32) &&& (1431655765 : Int32))) &&& (858993459 : Int32)) + ((((x0 - (((x0.toUInt32 >>> ((1 : Int32).toUInt32 &&& Int32.toUInt32 31)).toInt32) &&& (1431655765 : Int32))).toUInt32 >>> ((2 : Int32).toUInt32 &&& Int32.toUInt32 31)).toInt32) &&& (858993459 : Int32))) + (((((x0 - (((x0.toUInt32 >>> ((1 : Int32).toUInt32 &&& Int32.toUInt32 31)).toInt32) &&& (1431655765 : Int32))) &&& (858993459 : Int32)) + ((((x0 - (((x0.toUInt32 >>> ((1 : Int32).toUInt32 &&& Int32.toUInt32 31)).toInt32) &&& (1431655765 : Int32))).toUInt32 >>> ((2 : Int32).toUInt32 &&& Int32.toUInt32 31)).toInt32) &&& (858993459 : Int32))).toUInt32 >>> ((4 : Int32).toUInt32 &&& Int32.toUInt32 31)).toInt32)) &&& (252645135 : Int32)).toUInt32 >>> ((8 : Int32).toUInt32 &&& Int32.toUInt32 31)).toInt32)))]) d_JI_bitCount_0f7a4_40 rfl (by decide) rfl ?_
  refine Wa.iload_n (j := 0) d_JI_bitCount_0f7a4_41 rfl ?_
  refine Wa.iload_n (j := 0) d_JI_bitCount_0f7a4_42 rfl ?_
  refine Wa.bipush (v := 16) d_JI_bitCount_0f7a4_43 rfl ?_
  refine Wx.iushr d_JI_bitCount_0f7a4_45 ?_
  refine Wa.iadd d_JI_bitCount_0f7a4_46 ?_
  refine Wa.istore_n (i := 0) (L' := [(0, .int (((((((x0 - (((x0.toUInt32 >>> ((1 : Int32).toUInt32 &&& Int32.toUInt32 31)).toInt32) &&& (1431655765 : Int32))) &&& (858993459 : Int32)) + ((((x0 - (((x0.toUInt32 >>> ((1 : Int32).toUInt32 &&& Int32.toUInt32 31)).toInt32) &&& (1431655765 : Int32))).toUInt32 >>> ((2 : Int32).toUInt32 &&& Int32.toUInt32 31)).toInt32) &&& (858993459 : Int32))) + (((((x0 - (((x0.toUInt32 >>> ((1 : Int32).toUInt32 &&& Int32.toUInt32 31)).toInt32) &&& (1431655765 : Int32))) &&& (858993459 : Int32)) + ((((x0 - (((x0.toUInt32 >>> ((1 : Int32).toUInt32 &&& Int32.toUInt32 31)).toInt32) &&& (1431655765 : Int32))).toUInt32 >>> ((2 : Int32).toUInt32 &&& Int32.toUInt32 31)).toInt32) &&& (858993459 : Int32))).toUInt32 >>> ((4 : Int32).toUInt32 &&& Int32.toUInt32 31)).toInt32)) &&& (252645135 : Int32)) + (((((((x0 - (((x0.toUInt32 >>> ((1 : Int32).toUInt32 &&& Int32.toUInt32 31)).toInt32) &&& (1431655765 : Int32))) &&& (858993459 : Int32)) + ((((x0 - (((x0.toUInt32 >>> ((1 : Int32).toUInt32 &&& Int32.toUInt32 31)).toInt32) &&& (1431655765 : Int32))).toUInt32 >>> ((2 : Int32).toUInt32 &&& Int32.toUInt32 31)).toInt32) &&& (858993459 : Int32))) + (((((x0 - (((x0.toUInt32 >>> ((1 : Int32).toUInt32 &&& Int32.toUInt32 31)).toInt32) &&& (1431655765 : Int32))) &&& (858993459 : Int32)) + ((((x0 - (((x0.toUInt32 >>> ((1 : Int32).toUInt32 &&& Int32.toUInt32 31)).toInt32) &&& (1431655765 : Int32))).toUInt32 >>> ((2 : Int32).toUInt32 &&& Int32.toUInt32 31)).toInt32) &&& (858993459 : Int32))).toUInt32 >>> ((4 : Int32).toUInt32 &&& Int32.toUInt32 31)).toInt32)) &&& (252645135 : Int32)).toUInt32 >>> ((8 : Int32).toUInt32 &&& Int32.toUInt32 31)).toInt32)) + ((((((((x0 - (((x0.toUInt32 >>> ((1 : Int32).toUInt32 &&& Int32.toUInt32 31)).toInt32) &&& (1431655765 : Int32))) &&& (858993459 : Int32)) + ((((x0 - (((x0.toUInt32 >>> ((1 : Int32).toUInt32 &&& Int32.toUInt32 31)).toInt32) &&& (1431655765 : Int32))).toUInt32 >>> ((2 : Int32).toUInt32 &&& Int32.toUInt32 31)).toInt32) &&& (858993459 : Int32))) + (((((x0 - (((x0.toUInt32 >>> ((1 : Int32).toUInt32 &&& Int32.toUInt32 31)).toInt32) &&& (1431655765 : Int32))) &&& (858993459 : Int32)) + ((((x0 - (((x0.toUInt32 >>> ((1 : Int32).toUInt32 &&& Int32.toUInt32 31)).toInt32) &&& (1431655765 : Int32))).toUInt32 >>> ((2 : Int32).toUInt32 &&& Int32.toUInt32 31)).toInt32) &&& (858993459 : Int32))).toUInt32 >>> ((4 : Int32).toUInt32 &&& Int32.toUInt32 31)).toInt32)) &&& (252645135 : Int32)) + (((((((x0 - (((x0.toUInt32 >>> ((1 : Int32).toUInt32 &&& Int32.toUInt32 31)).toInt32) &&& (1431655765 : Int32))) &&& (858993459 : Int32)) + ((((x0 - (((x0.toUInt32 >>> ((1 : Int32).toUInt32 &&& Int32.toUInt32 31)).toInt32) &&& (1431655765 : Int32))).toUInt32 >>> ((2 : Int32).toUInt32 &&& Int32.toUInt32 31)).toInt32) &&& (858993459 : Int32))) + (((((x0 - (((x0.toUInt32 >>> ((1 : Int32).toUInt32 &&& Int32.toUInt32 31)).toInt32) &&& (1431655765 : Int32))) &&& (858993459 : Int32)) + ((((x0 - (((x0.toUInt32 >>> ((1 : Int32).toUInt32 &&& Int32.toUInt32 31)).toInt32) &&& (1431655765 : Int32))).toUInt32 >>> ((2 : Int32).toUInt32 &&& Int32.toUInt32 31)).toInt32) &&& (858993459 : Int32))).toUInt32 >>> ((4 : Int32).toUInt32 &&& Int32.toUInt32 31)).toInt32)) &&& (252645135 : Int32)).toUInt32 >>> ((8 : Int32).toUInt32 &&& Int32.toUInt32 31)).toInt32)).toUInt32 >>> ((16 : Int32).toUInt32 &&& Int32.toUInt32 31)).toInt32)))]) d_JI_bitCount_0f7a4_47 rfl (by decide) rfl ?_
  refine Wa.iload_n (j := 0) d_JI_bitCount_0f7a4_48 rfl ?_
  refine Wa.bipush (v := 63) d_JI_bitCount_0f7a4_49 rfl ?_
  refine Wa.iand d_JI_bitCount_0f7a4_51 ?_
  exact Wx.reti d_JI_bitCount_0f7a4_52 rfl hF
theorem e_JI_bitCount_0f7a4 {d rc rs : Nat} {Q : Option Value → Mu → Prop} {μ : Mu} {x0 : Int32} (hk : Wx K_JI_bitCount_0f7a4 d rc rs (fun r μ' => St μ' ∧ Q r μ') 0 [(0, .int x0)] [] μ) : Cal K_JI_bitCount_0f7a4 d rc rs [.int x0] μ Q := Cal.of (by decide +kernel) rfl rfl (Nat.le_of_ble_eq_true rfl) rfl hk
set_option maxHeartbeats 4000000 in
set_option maxRecDepth 20000 in
theorem g_Bd_clear_0 {d rc rs : Nat} {Q : Option Value → Mu → Prop} {μ : Mu} {i0 : Nat} (hD : 1 ≤ d) (h0 : i0 < 10) (hS : St μ)
    (hF : Wx K_Bd_clear d rc rs Q 2 [(0, .ref (hd 35 i0)), (1, .int 0)] [] μ) : Wx K_Bd_clear d rc rs Q 0 [(0, .ref (hd 35 i0))] [] μ := by
  refine Wa.iconst (v := 0) d_Bd_clear_0 rfl ?_
  refine Wa.istore_n (i := 1) (L' := [(1, .int 0), (0, .ref (hd 35 i0))]) d_Bd_clear_1 rfl (by decide) rfl ?_
  exact Wa.loc [1, 0] rfl hF
theorem e_Bd_clear {d rc rs : Nat} {Q : Option Value → Mu → Prop} {μ : Mu} {i0 : Nat} (hk : Wx K_Bd_clear d rc rs (fun r μ' => St μ' ∧ Q r μ') 0 [(0, .ref (hd 35 i0))] [] μ) : Cal K_Bd_clear d rc rs [.ref (hd 35 i0)] μ Q := Cal.of (by decide +kernel) rfl rfl (Nat.le_of_ble_eq_true rfl) rfl hk
set_option maxHeartbeats 4000000 in
set_option maxRecDepth 20000 in
theorem g_Bd_clear_2 {d rc rs : Nat} {Q : Option Value → Mu → Prop} {μ : Mu} {i0 : Nat} {x1 : Int32} (hD : 1 ≤ d) (h0 : i0 < 10) (hS : St μ)
    (hF : (((nI 5) ≤ x1 → Wx K_Bd_clear d rc rs Q 26 [(0, .ref (hd 35 i0)), (1, .int 0)] [] μ) ∧ (¬ (nI 5) ≤ x1 → (vp_in x1 5 ∧ Wx K_Bd_clear d rc rs Q 2 [(0, .ref (hd 35 i0)), (1, .int (x1 + 1))] [] (setI μ (hd 36 i0) x1.toNatClampNeg 0))))) : Wx K_Bd_clear d rc rs Q 2 [(0, .ref (hd 35 i0)), (1, .int x1)] [] μ := by
  refine Wa.iload_n (j := 1) d_Bd_clear_2 rfl ?_
  refine Wa.aload_n (j := 0) d_Bd_clear_3 rfl ?_
  refine Wx.getR 1 0 d_Bd_clear_4 f_Bd_0 rfl fl_Bd_9 (s_35 hS h0) (r_35_0 hS h0) ?_
  refine Wa.alen d_Bd_clear_7 (s_36 hS h0) (by decide) ?_
  refine Wa.icmp_ge 24 d_Bd_clear_8 (by decide) (fun hb => ?_) (fun hb => ?_)
  · have hF := hF.1 hb
    refine Wa.iconst (v := 0) d_Bd_clear_24 rfl ?_
    refine Wa.istore_n (i := 1) (L' := [(1, .int 0), (0, .ref (hd 35 i0))]) d_Bd_clear_25 rfl (by decide) rfl ?_
    exact Wa.loc [1, 0] rfl hF
  · have hF := hF.2 hb
    refine Wa.aload_n (j := 0) d_Bd_clear_11 rfl ?_
    refine Wx.getR 1 0 d_Bd_clear_12 f_Bd_0 rfl fl_Bd_9 (s_35 hS h0) (r_35_0 hS h0) ?_
    refine Wa.iload_n (j := 1) d_Bd_clear_15 rfl ?_
    refine Wa.iconst (v := 0) d_Bd_clear_16 rfl ?_
    have hc1 := hF.1
    have hF := hF.2
    have hlhc1 := vp_in_lt hc1
    refine Wa.iast d_Bd_clear_17 w_36 (s_36 hS h0) hc1 ?_
    refine Wa.iinc (i := 1) (j := 1) (v := (x1 + 1)) (L' := [(1, .int (x1 + 1)), (0, .ref (hd 35 i0))]) d_Bd_clear_18 rfl rfl (by decide) rfl ?_
    refine Wa.goto 2 d_Bd_clear_21 (by decide) ?_
    exact Wa.loc [1, 0] rfl hF
set_option maxHeartbeats 4000000 in
set_option maxRecDepth 20000 in
theorem g_Bd_clear_26 {d rc rs : Nat} {Q : Option Value → Mu → Prop} {μ : Mu} {i0 : Nat} {x1 : Int32} (hD : 1 ≤ d) (h0 : i0 < 10) (hS : St μ)
    (hF : (((nI 30) ≤ x1 → Wx K_Bd_clear d rc rs Q 50 [(0, .ref (hd 35 i0)), (1, .int 0)] [] μ) ∧ (¬ (nI 30) ≤ x1 → (vp_in x1 30 ∧ Wx K_Bd_clear d rc rs Q 26 [(0, .ref (hd 35 i0)), (1, .int (x1 + 1))] [] (setI μ (hd 37 i0) x1.toNatClampNeg (-1)))))) : Wx K_Bd_clear d rc rs Q 26 [(0, .ref (hd 35 i0)), (1, .int x1)] [] μ := by
  refine Wa.iload_n (j := 1) d_Bd_clear_26 rfl ?_
  refine Wa.aload_n (j := 0) d_Bd_clear_27 rfl ?_
  refine Wx.getR 1 1 d_Bd_clear_28 f_Bd_1 rfl fl_Bd_15 (s_35 hS h0) (r_35_1 hS h0) ?_
  refine Wa.alen d_Bd_clear_31 (s_37 hS h0) (by decide) ?_
  refine Wa.icmp_ge 48 d_Bd_clear_32 (by decide) (fun hb => ?_) (fun hb => ?_)
  · have hF := hF.1 hb
    refine Wa.iconst (v := 0) d_Bd_clear_48 rfl ?_
    refine Wa.istore_n (i := 1) (L' := [(1, .int 0), (0, .ref (hd 35 i0))]) d_Bd_clear_49 rfl (by decide) rfl ?_
    exact Wa.loc [1, 0] rfl hF
  · have hF := hF.2 hb
    refine Wa.aload_n (j := 0) d_Bd_clear_35 rfl ?_
    refine Wx.getR 1 1 d_Bd_clear_36 f_Bd_1 rfl fl_Bd_15 (s_35 hS h0) (r_35_1 hS h0) ?_
    refine Wa.iload_n (j := 1) d_Bd_clear_39 rfl ?_
    refine Wa.iconst (v := (-1)) d_Bd_clear_40 rfl ?_
    have hc1 := hF.1
    have hF := hF.2
    have hlhc1 := vp_in_lt hc1
    refine Wa.iast d_Bd_clear_41 w_37 (s_37 hS h0) hc1 ?_
    refine Wa.iinc (i := 1) (j := 1) (v := (x1 + 1)) (L' := [(1, .int (x1 + 1)), (0, .ref (hd 35 i0))]) d_Bd_clear_42 rfl rfl (by decide) rfl ?_
    refine Wa.goto 26 d_Bd_clear_45 (by decide) ?_
    exact Wa.loc [1, 0] rfl hF
set_option maxHeartbeats 4000000 in
set_option maxRecDepth 20000 in
theorem g_Bd_clear_50 {d rc rs : Nat} {Q : Option Value → Mu → Prop} {μ : Mu} {i0 : Nat} {x1 : Int32} (hD : 1 ≤ d) (h0 : i0 < 10) (hS : St μ)
    (hF : (((nI 60) ≤ x1 → Q none (setI μ (hd 35 i0) 3 0)) ∧ (¬ (nI 60) ≤ x1 → (vp_in x1 60 ∧ Wx K_Bd_clear d rc rs Q 50 [(0, .ref (hd 35 i0)), (1, .int (x1 + 1))] [] (setI μ (hd 38 i0) x1.toNatClampNeg (vp_nar .boolean 0)))))) : Wx K_Bd_clear d rc rs Q 50 [(0, .ref (hd 35 i0)), (1, .int x1)] [] μ := by
  refine Wa.iload_n (j := 1) d_Bd_clear_50 rfl ?_
  refine Wa.aload_n (j := 0) d_Bd_clear_51 rfl ?_
  refine Wx.getR 1 2 d_Bd_clear_52 f_Bd_2 rfl fl_Bd_18 (s_35 hS h0) (r_35_2 hS h0) ?_
  refine Wa.alen d_Bd_clear_55 (s_38 hS h0) (by decide) ?_
  refine Wa.icmp_ge 72 d_Bd_clear_56 (by decide) (fun hb => ?_) (fun hb => ?_)
  · have hF := hF.1 hb
    refine Wa.aload_n (j := 0) d_Bd_clear_72 rfl ?_
    refine Wa.iconst (v := 0) d_Bd_clear_73 rfl ?_
    refine Wx.putI 1 3 d_Bd_clear_74 f_Bd_3 ok_Bd fl_Bd_22 (Or.inl rfl) w_35 (s_35 hS h0) ?_
    exact Wx.retv d_Bd_clear_77 rfl hF
  · have hF := hF.2 hb
    refine Wa.aload_n (j := 0) d_Bd_clear_59 rfl ?_
    refine Wx.getR 1 2 d_Bd_clear_60 f_Bd_2 rfl fl_Bd_18 (s_35 hS h0) (r_35_2 hS h0) ?_
    refine Wa.iload_n (j := 1) d_Bd_clear_63 rfl ?_
    refine Wa.iconst (v := 0) d_Bd_clear_64 rfl ?_
    have hc1 := hF.1
    have hF := hF.2
    have hlhc1 := vp_in_lt hc1
    refine Wa.zast d_Bd_clear_65 w_38 (s_38 hS h0) hc1 ?_
    refine Wa.iinc (i := 1) (j := 1) (v := (x1 + 1)) (L' := [(1, .int (x1 + 1)), (0, .ref (hd 35 i0))]) d_Bd_clear_66 rfl rfl (by decide) rfl ?_
    refine Wa.goto 50 d_Bd_clear_69 (by decide) ?_
    exact Wa.loc [1, 0] rfl hF
set_option maxHeartbeats 4000000 in
set_option maxRecDepth 20000 in
theorem g_Bd_has_0 {d rc rs : Nat} {Q : Option Value → Mu → Prop} {μ : Mu} {i0 : Nat} {i1 : Nat} (hD : 1 ≤ d) (h0 : i0 < 10) (h1 : i1 < 120) (hS : St μ)
    (hF : (vp_in (mI μ (hd 33 i1) 1) 5 ∧ (vp_in (mI μ (hd 33 i1) 1) 5 ∧ (((mI μ (hd 36 i0) (mI μ (hd 33 i1) 1).toNatClampNeg) < (mI μ (hd 34 i1) (mI μ (hd 33 i1) 1).toNatClampNeg) → Q (some (.int 0)) μ) ∧ (¬ (mI μ (hd 36 i0) (mI μ (hd 33 i1) 1).toNatClampNeg) < (mI μ (hd 34 i1) (mI μ (hd 33 i1) 1).toNatClampNeg) → Q (some (.int 1)) μ))))) : Wx K_Bd_has d rc rs Q 0 [(0, .ref (hd 35 i0)), (1, .ref (hd 33 i1))] [] μ := by
  refine Wa.aload_n (j := 0) d_Bd_has_0 rfl ?_
  refine Wx.getR 1 0 d_Bd_has_1 f_Bd_0 rfl fl_Bd_9 (s_35 hS h0) (r_35_0 hS h0) ?_
  refine Wa.aload_n (j := 1) d_Bd_has_4 rfl ?_
  refine Wx.getI 8 1 d_Bd_has_5 f_Sh_1 fl_Bd_35 w_33 (s_33 hS h1) ?_
  have hc1 := hF.1
  have hF := hF.2
  have hlhc1 := vp_in_lt hc1
  refine Wx.iald d_Bd_has_8 w_36 (s_36 hS h0) hc1 ?_
  refine Wa.aload_n (j := 1) d_Bd_has_9 rfl ?_
  refine Wx.getR 8 0 d_Bd_has_10 f_Sh_0 rfl fl_Bd_40 (s_33 hS h1) (r_33_0 hS h1) ?_
  refine Wa.aload_n (j := 1) d_Bd_has_13 rfl ?_
  refine Wx.getI 8 1 d_Bd_has_14 f_Sh_1 fl_Bd_35 w_33 (s_33 hS h1) ?_
  have hc2 := hF.1
  have hF := hF.2
  have hlhc2 := vp_in_lt hc2
  refine Wx.iald d_Bd_has_17 w_34 (s_34 hS h1) hc2 ?_
  refine Wa.icmp_lt 25 d_Bd_has_18 (by decide) (fun hb => ?_) (fun hb => ?_)
  · have hF := hF.1 hb
    refine Wa.iconst (v := 0) d_Bd_has_25 rfl ?_
    exact Wx.retz d_Bd_has_26 rfl (Or.inl rfl) hF
  · have hF := hF.2 hb
    refine Wa.iconst (v := 1) d_Bd_has_21 rfl ?_
    refine Wa.goto 26 d_Bd_has_22 (by decide) ?_
    exact Wx.retz d_Bd_has_26 rfl (Or.inr rfl) hF
theorem e_Bd_has {d rc rs : Nat} {Q : Option Value → Mu → Prop} {μ : Mu} {i0 : Nat} {i1 : Nat} (hk : Wx K_Bd_has d rc rs (fun r μ' => St μ' ∧ Q r μ') 0 [(0, .ref (hd 35 i0)), (1, .ref (hd 33 i1))] [] μ) : Cal K_Bd_has d rc rs [.ref (hd 35 i0), .ref (hd 33 i1)] μ Q := Cal.of (by decide +kernel) rfl rfl (Nat.le_of_ble_eq_true rfl) rfl hk
set_option maxHeartbeats 4000000 in
set_option maxRecDepth 20000 in
theorem g_Bd_knownCount_0 {d rc rs : Nat} {Q : Option Value → Mu → Prop} {μ : Mu} {i0 : Nat} (hD : 1 ≤ d) (h0 : i0 < 10) (hS : St μ)
    (hF : Wx K_Bd_knownCount d rc rs Q 13 [(1, .int 0), (2, .ref (hd 36 i0)), (3, .int (nI 5)), (4, .int 0)] [] μ) : Wx K_Bd_knownCount d rc rs Q 0 [(0, .ref (hd 35 i0))] [] μ := by
  refine Wa.iconst (v := 0) d_Bd_knownCount_0 rfl ?_
  refine Wa.istore_n (i := 1) (L' := [(1, .int 0), (0, .ref (hd 35 i0))]) d_Bd_knownCount_1 rfl (by decide) rfl ?_
  refine Wa.aload_n (j := 1) d_Bd_knownCount_2 rfl ?_
  refine Wx.getR 1 0 d_Bd_knownCount_3 f_Bd_0 rfl fl_Bd_9 (s_35 hS h0) (r_35_0 hS h0) ?_
  refine Wa.astore_n (i := 2) (L' := [(2, .ref (hd 36 i0)), (1, .int 0), (0, .ref (hd 35 i0))]) d_Bd_knownCount_6 rfl (by decide) rfl ?_
  refine Wa.aload_n (j := 0) d_Bd_knownCount_7 rfl ?_
  refine Wa.alen d_Bd_knownCount_8 (s_36 hS h0) (by decide) ?_
  refine Wa.istore_n (i := 3) (L' := [(3, .int (nI 5)), (2, .ref (hd 36 i0)), (1, .int 0), (0, .ref (hd 35 i0))]) d_Bd_knownCount_9 rfl (by decide) rfl ?_
  refine Wa.iconst (v := 0) d_Bd_knownCount_10 rfl ?_
  refine Wa.istore (i := 4) (L' := [(4, .int 0), (3, .int (nI 5)), (2, .ref (hd 36 i0)), (1, .int 0), (0, .ref (hd 35 i0))]) d_Bd_knownCount_11 (by decide) rfl ?_
  exact Wa.loc [3, 2, 1, 0] rfl hF
theorem e_Bd_knownCount {d rc rs : Nat} {Q : Option Value → Mu → Prop} {μ : Mu} {i0 : Nat} (hk : Wx K_Bd_knownCount d rc rs (fun r μ' => St μ' ∧ Q r μ') 0 [(0, .ref (hd 35 i0))] [] μ) : Cal K_Bd_knownCount d rc rs [.ref (hd 35 i0)] μ Q := Cal.of (by decide +kernel) rfl rfl (Nat.le_of_ble_eq_true rfl) rfl hk
set_option maxHeartbeats 4000000 in
set_option maxRecDepth 20000 in
theorem g_Bd_knownCount_13 {d rc rs : Nat} {Q : Option Value → Mu → Prop} {μ : Mu} {x1 : Int32} {i2 : Nat} {x3 : Int32} {x4 : Int32} (hD : 1 ≤ d) (h2 : i2 < 10) (hS : St μ)
    (hF : ((x3 ≤ x4 → Q (some (.int x1)) μ) ∧ (¬ x3 ≤ x4 → (vp_in x4 5 ∧ Wx K_Bd_knownCount d rc rs Q 13 [(1, .int (x1 + (mI μ (hd 36 i2) x4.toNatClampNeg))), (2, .ref (hd 36 i2)), (3, .int x3), (4, .int (x4 + 1))] [] μ)))) : Wx K_Bd_knownCount d rc rs Q 13 [(1, .int x1), (2, .ref (hd 36 i2)), (3, .int x3), (4, .int x4)] [] μ := by
  refine Wa.iload (j := 3) d_Bd_knownCount_13 rfl ?_
  refine Wa.iload_n (j := 2) d_Bd_knownCount_15 rfl ?_
  refine Wa.icmp_ge 36 d_Bd_knownCount_16 (by decide) (fun hb => ?_) (fun hb => ?_)
  · have hF := hF.1 hb
    refine Wa.iload_n (j := 0) d_Bd_knownCount_36 rfl ?_
    exact Wx.reti d_Bd_knownCount_37 rfl hF
  · have hF := hF.2 hb
    refine Wa.aload_n (j := 1) d_Bd_knownCount_19 rfl ?_
    refine Wa.iload (j := 3) d_Bd_knownCount_20 rfl ?_
    have hc1 := hF.1
    have hF := hF.2
    have hlhc1 := vp_in_lt hc1
    refine Wx.iald d_Bd_knownCount_22 w_36 (s_36 hS h2) hc1 ?_
    refine Wa.istore (i := 5) (L' := [(5, .int (mI μ (hd 36 i2) x4.toNatClampNeg)), (1, .int x1), (2, .ref (hd 36 i2)), (3, .int x3), (4, .int x4)]) d_Bd_knownCount_23 (by decide) rfl ?_
    refine Wa.iload_n (j := 1) d_Bd_knownCount_25 rfl ?_
    refine Wa.iload (j := 0) d_Bd_knownCount_26 rfl ?_
    refine Wa.iadd d_Bd_knownCount_28 ?_
    refine Wa.istore_n (i := 1) (L' := [(1, .int (x1 + (mI μ (hd 36 i2) x4.toNatClampNeg))), (5, .int (mI μ (hd 36 i2) x4.toNatClampNeg)), (2, .ref (hd 36 i2)), (3, .int x3), (4, .int x4)]) d_Bd_knownCount_29 rfl (by decide) rfl ?_
    refine Wa.iinc (i := 4) (j := 4) (v := (x4 + 1)) (L' := [(4, .int (x4 + 1)), (1, .int (x1 + (mI μ (hd 36 i2) x4.toNatClampNeg))), (5, .int (mI μ (hd 36 i2) x4.toNatClampNeg)), (2, .ref (hd 36 i2)), (3, .int x3)]) d_Bd_knownCount_30 rfl rfl (by decide) rfl ?_
    refine Wa.goto 13 d_Bd_knownCount_33 (by decide) ?_
    exact Wa.loc [1, 3, 4, 0] rfl hF
set_option maxHeartbeats 4000000 in
set_option maxRecDepth 20000 in
theorem g_Bd_canHang_0 {d rc rs : Nat} {Q : Option Value → Mu → Prop} {μ : Mu} {i0 : Nat} {i1 : Nat} (hD : 1 ≤ d) (h0 : i0 < 10) (h1 : i1 < 120) (hS : St μ)
    (hF : Wx K_Bd_canHang d rc rs Q 2 [(0, .ref (hd 35 i0)), (1, .ref (hd 33 i1)), (2, .int 0)] [] μ) : Wx K_Bd_canHang d rc rs Q 0 [(0, .ref (hd 35 i0)), (1, .ref (hd 33 i1))] [] μ := by
  refine Wa.iconst (v := 0) d_Bd_canHang_0 rfl ?_
  refine Wa.istore_n (i := 2) (L' := [(2, .int 0), (0, .ref (hd 35 i0)), (1, .ref (hd 33 i1))]) d_Bd_canHang_1 rfl (by decide) rfl ?_
  exact Wa.loc [1, 2, 0] rfl hF
theorem e_Bd_canHang {d rc rs : Nat} {Q : Option Value → Mu → Prop} {μ : Mu} {i0 : Nat} {i1 : Nat} (hk : Wx K_Bd_canHang d rc rs (fun r μ' => St μ' ∧ Q r μ') 0 [(0, .ref (hd 35 i0)), (1, .ref (hd 33 i1))] [] μ) : Cal K_Bd_canHang d rc rs [.ref (hd 35 i0), .ref (hd 33 i1)] μ Q := Cal.of (by decide +kernel) rfl rfl (Nat.le_of_ble_eq_true rfl) rfl hk
set_option maxHeartbeats 4000000 in
set_option maxRecDepth 20000 in
theorem g_Bd_canHang_2 {d rc rs : Nat} {Q : Option Value → Mu → Prop} {μ : Mu} {i0 : Nat} {i1 : Nat} {x2 : Int32} (hD : 1 ≤ d) (h0 : i0 < 10) (h1 : i1 < 120) (hS : St μ)
    (hF : (((nI 5) ≤ x2 → Q (some (.int 1)) μ) ∧ (¬ (nI 5) ≤ x2 → ((x2 = (mI μ (hd 33 i1) 1) → (vp_in x2 5 ∧ ((x2 = (mI μ (hd 33 i1) 1) → (vp_in x2 5 ∧ (((mI μ (hd 36 i0) x2.toNatClampNeg) = ((mI μ (hd 34 i1) x2.toNatClampNeg) - (1 : Int32)) → Wx K_Bd_canHang d rc rs Q 2 [(0, .ref (hd 35 i0)), (1, .ref (hd 33 i1)), (2, .int (x2 + 1))] [] μ) ∧ (¬ (mI μ (hd 36 i0) x2.toNatClampNeg) = ((mI μ (hd 34 i1) x2.toNatClampNeg) - (1 : Int32)) → Q (some (.int 0)) μ)))) ∧ (¬ x2 = (mI μ (hd 33 i1) 1) → (vp_in x2 5 ∧ ((((mI μ (hd 34 i1) x2.toNatClampNeg) - (1 : Int32)) ≤ (mI μ (hd 36 i0) x2.toNatClampNeg) → Wx K_Bd_canHang d rc rs Q 2 [(0, .ref (hd 35 i0)), (1, .ref (hd 33 i1)), (2, .int (x2 + 1))] [] μ) ∧ (¬ ((mI μ (hd 34 i1) x2.toNatClampNeg) - (1 : Int32)) ≤ (mI μ (hd 36 i0) x2.toNatClampNeg) → Q (some (.int 0)) μ))))))) ∧ (¬ x2 = (mI μ (hd 33 i1) 1) → (vp_in x2 5 ∧ ((x2 = (mI μ (hd 33 i1) 1) → (vp_in x2 5 ∧ (((mI μ (hd 36 i0) x2.toNatClampNeg) = (mI μ (hd 34 i1) x2.toNatClampNeg) → Wx K_Bd_canHang d rc rs Q 2 [(0, .ref (hd 35 i0)), (1, .ref (hd 33 i1)), (2, .int (x2 + 1))] [] μ) ∧ (¬ (mI μ (hd 36 i0) x2.toNatClampNeg) = (mI μ (hd 34 i1) x2.toNatClampNeg) → Q (some (.int 0)) μ)))) ∧ (¬ x2 = (mI μ (hd 33 i1) 1) → (vp_in x2 5 ∧ (((mI μ (hd 34 i1) x2.toNatClampNeg) ≤ (mI μ (hd 36 i0) x2.toNatClampNeg) → Wx K_Bd_canHang d rc rs Q 2 [(0, .ref (hd 35 i0)), (1, .ref (hd 33 i1)), (2, .int (x2 + 1))] [] μ) ∧ (¬ (mI μ (hd 34 i1) x2.toNatClampNeg) ≤ (mI μ (hd 36 i0) x2.toNatClampNeg) → Q (some (.int 0)) μ))))))))))) : Wx K_Bd_canHang d rc rs Q 2 [(0, .ref (hd 35 i0)), (1, .ref (hd 33 i1)), (2, .int x2)] [] μ := by
  refine Wa.iload_n (j := 2) d_Bd_canHang_2 rfl ?_
  refine Wa.aload_n (j := 0) d_Bd_canHang_3 rfl ?_
  refine Wx.getR 1 0 d_Bd_canHang_4 f_Bd_0 rfl fl_Bd_9 (s_35 hS h0) (r_35_0 hS h0) ?_
  refine Wa.alen d_Bd_canHang_7 (s_36 hS h0) (by decide) ?_
  refine Wa.icmp_ge 76 d_Bd_canHang_8 (by decide) (fun hb => ?_) (fun hb => ?_)
  · have hF := hF.1 hb
    refine Wa.iconst (v := 1) d_Bd_canHang_76 rfl ?_
    exact Wx.retz d_Bd_canHang_77 rfl (Or.inr rfl) hF
  · have hF := hF.2 hb
    refine Wa.iload_n (j := 2) d_Bd_canHang_11 rfl ?_
    refine Wa.aload_n (j := 1) d_Bd_canHang_12 rfl ?_
    refine Wx.getI 8 1 d_Bd_canHang_13 f_Sh_1 fl_Bd_35 w_33 (s_33 hS h1) ?_
    refine Wa.icmp_ne 30 d_Bd_canHang_16 (by decide) (fun hb => ?_) (fun hb => ?_)
    · have hF := hF.2 hb
      refine Wa.aload_n (j := 1) d_Bd_canHang_30 rfl ?_
      refine Wx.getR 8 0 d_Bd_canHang_31 f_Sh_0 rfl fl_Bd_40 (s_33 hS h1) (r_33_0 hS h1) ?_
      refine Wa.iload_n (j := 2) d_Bd_canHang_34 rfl ?_
      have hc1 := hF.1
      have hF := hF.2
      have hlhc1 := vp_in_lt hc1
      refine Wx.iald d_Bd_canHang_35 w_34 (s_34 hS h1) hc1 ?_
      refine Wa.istore_n (i := 3) (L' := [(3, .int (mI μ (hd 34 i1) x2.toNatClampNeg)), (0, .ref (hd 35 i0)), (1, .ref (hd 33 i1)), (2, .int x2)]) d_Bd_canHang_36 rfl (by decide) rfl ?_
      refine Wa.iload_n (j := 3) d_Bd_canHang_37 rfl ?_
      refine Wa.aload_n (j := 2) d_Bd_canHang_38 rfl ?_
      refine Wx.getI 8 1 d_Bd_canHang_39 f_Sh_1 fl_Bd_35 w_33 (s_33 hS h1) ?_
      refine Wa.icmp_ne 58 d_Bd_canHang_42 (by decide) (fun hb => ?_) (fun hb => ?_)
      · have hF := hF.2 hb
        refine Wa.aload_n (j := 1) d_Bd_canHang_58 rfl ?_
        refine Wx.getR 1 0 d_Bd_canHang_59 f_Bd_0 rfl fl_Bd_9 (s_35 hS h0) (r_35_0 hS h0) ?_
        refine Wa.iload_n (j := 3) d_Bd_canHang_62 rfl ?_
        have hc2 := hF.1
        have hF := hF.2
        have hlhc2 := vp_in_lt hc2
        refine Wx.iald d_Bd_canHang_63 w_36 (s_36 hS h0) hc2 ?_
        refine Wa.iload_n (j := 0) d_Bd_canHang_64 rfl ?_
        refine Wa.icmp_ge 70 d_Bd_canHang_65 (by decide) (fun hb => ?_) (fun hb => ?_)
        · have hF := hF.1 hb
          refine Wa.iinc (i := 2) (j := 3) (v := (x2 + 1)) (L' := [(2, .int (x2 + 1)), (3, .int (mI μ (hd 34 i1) x2.toNatClampNeg)), (0, .ref (hd 35 i0)), (1, .ref (hd 33 i1))]) d_Bd_canHang_70 rfl rfl (by decide) rfl ?_
          refine Wa.goto 2 d_Bd_canHang_73 (by decide) ?_
          exact Wa.loc [2, 3, 0] rfl hF
        · have hF := hF.2 hb
          refine Wa.iconst (v := 0) d_Bd_canHang_68 rfl ?_
          exact Wx.retz d_Bd_canHang_69 rfl (Or.inl rfl) hF
      · have hF := hF.1 hb
        refine Wa.aload_n (j := 1) d_Bd_canHang_45 rfl ?_
        refine Wx.getR 1 0 d_Bd_canHang_46 f_Bd_0 rfl fl_Bd_9 (s_35 hS h0) (r_35_0 hS h0) ?_
        refine Wa.iload_n (j := 3) d_Bd_canHang_49 rfl ?_
        have hc3 := hF.1
        have hF := hF.2
        have hlhc3 := vp_in_lt hc3
        refine Wx.iald d_Bd_canHang_50 w_36 (s_36 hS h0) hc3 ?_
        refine Wa.iload_n (j := 0) d_Bd_canHang_51 rfl ?_
        refine Wa.icmp_eq 70 d_Bd_canHang_52 (by decide) (fun hb => ?_) (fun hb => ?_)
        · have hF := hF.1 hb
          refine Wa.iinc (i := 2) (j := 3) (v := (x2 + 1)) (L' := [(2, .int (x2 + 1)), (3, .int (mI μ (hd 34 i1) x2.toNatClampNeg)), (0, .ref (hd 35 i0)), (1, .ref (hd 33 i1))]) d_Bd_canHang_70 rfl rfl (by decide) rfl ?_
          refine Wa.goto 2 d_Bd_canHang_73 (by decide) ?_
          exact Wa.loc [2, 3, 0] rfl hF
        · have hF := hF.2 hb
          refine Wa.goto 68 d_Bd_canHang_55 (by decide) ?_
          refine Wa.iconst (v := 0) d_Bd_canHang_68 rfl ?_
          exact Wx.retz d_Bd_canHang_69 rfl (Or.inl rfl) hF
    · have hF := hF.1 hb
      refine Wa.aload_n (j := 1) d_Bd_canHang_19 rfl ?_
      refine Wx.getR 8 0 d_Bd_canHang_20 f_Sh_0 rfl fl_Bd_40 (s_33 hS h1) (r_33_0 hS h1) ?_
      refine Wa.iload_n (j := 2) d_Bd_canHang_23 rfl ?_
      have hc4 := hF.1
      have hF := hF.2
      have hlhc4 := vp_in_lt hc4
      refine Wx.iald d_Bd_canHang_24 w_34 (s_34 hS h1) hc4 ?_
      refine Wa.iconst (v := 1) d_Bd_canHang_25 rfl ?_
      refine Wa.isub d_Bd_canHang_26 ?_
      refine Wa.goto 36 d_Bd_canHang_27 (by decide) ?_
      refine Wa.istore_n (i := 3) (L' := [(3, .int ((mI μ (hd 34 i1) x2.toNatClampNeg) - (1 : Int32))), (0, .ref (hd 35 i0)), (1, .ref (hd 33 i1)), (2, .int x2)]) d_Bd_canHang_36 rfl (by decide) rfl ?_
      refine Wa.iload_n (j := 3) d_Bd_canHang_37 rfl ?_
      refine Wa.aload_n (j := 2) d_Bd_canHang_38 rfl ?_
      refine Wx.getI 8 1 d_Bd_canHang_39 f_Sh_1 fl_Bd_35 w_33 (s_33 hS h1) ?_
      refine Wa.icmp_ne 58 d_Bd_canHang_42 (by decide) (fun hb => ?_) (fun hb => ?_)
      · have hF := hF.2 hb
        refine Wa.aload_n (j := 1) d_Bd_canHang_58 rfl ?_
        refine Wx.getR 1 0 d_Bd_canHang_59 f_Bd_0 rfl fl_Bd_9 (s_35 hS h0) (r_35_0 hS h0) ?_
        refine Wa.iload_n (j := 3) d_Bd_canHang_62 rfl ?_
        have hc5 := hF.1
        have hF := hF.2
        have hlhc5 := vp_in_lt hc5
        refine Wx.iald d_Bd_canHang_63 w_36 (s_36 hS h0) hc5 ?_
        refine Wa.iload_n (j := 0) d_Bd_canHang_64 rfl ?_
        refine Wa.icmp_ge 70 d_Bd_canHang_65 (by decide) (fun hb => ?_) (fun hb => ?_)
        · have hF := hF.1 hb
          refine Wa.iinc (i := 2) (j := 3) (v := (x2 + 1)) (L' := [(2, .int (x2 + 1)), (3, .int ((mI μ (hd 34 i1) x2.toNatClampNeg) - (1 : Int32))), (0, .ref (hd 35 i0)), (1, .ref (hd 33 i1))]) d_Bd_canHang_70 rfl rfl (by decide) rfl ?_
          refine Wa.goto 2 d_Bd_canHang_73 (by decide) ?_
          exact Wa.loc [2, 3, 0] rfl hF
        · have hF := hF.2 hb
          refine Wa.iconst (v := 0) d_Bd_canHang_68 rfl ?_
          exact Wx.retz d_Bd_canHang_69 rfl (Or.inl rfl) hF
      · have hF := hF.1 hb
        refine Wa.aload_n (j := 1) d_Bd_canHang_45 rfl ?_
        refine Wx.getR 1 0 d_Bd_canHang_46 f_Bd_0 rfl fl_Bd_9 (s_35 hS h0) (r_35_0 hS h0) ?_
        refine Wa.iload_n (j := 3) d_Bd_canHang_49 rfl ?_
        have hc6 := hF.1
        have hF := hF.2
        have hlhc6 := vp_in_lt hc6
        refine Wx.iald d_Bd_canHang_50 w_36 (s_36 hS h0) hc6 ?_
        refine Wa.iload_n (j := 0) d_Bd_canHang_51 rfl ?_
        refine Wa.icmp_eq 70 d_Bd_canHang_52 (by decide) (fun hb => ?_) (fun hb => ?_)
        · have hF := hF.1 hb
          refine Wa.iinc (i := 2) (j := 3) (v := (x2 + 1)) (L' := [(2, .int (x2 + 1)), (3, .int ((mI μ (hd 34 i1) x2.toNatClampNeg) - (1 : Int32))), (0, .ref (hd 35 i0)), (1, .ref (hd 33 i1))]) d_Bd_canHang_70 rfl rfl (by decide) rfl ?_
          refine Wa.goto 2 d_Bd_canHang_73 (by decide) ?_
          exact Wa.loc [2, 3, 0] rfl hF
        · have hF := hF.2 hb
          refine Wa.goto 68 d_Bd_canHang_55 (by decide) ?_
          refine Wa.iconst (v := 0) d_Bd_canHang_68 rfl ?_
          exact Wx.retz d_Bd_canHang_69 rfl (Or.inl rfl) hF
set_option maxHeartbeats 4000000 in
set_option maxRecDepth 20000 in
theorem g_Bd_keepWaiting_0 {d rc rs : Nat} {Q : Option Value → Mu → Prop} {μ : Mu} {i0 : Nat} {x1 : Int32} (hD : 1 ≤ d) (h0 : i0 < 10) (hS : St μ)
    (hF : (vp_in x1 60 ∧ (((mI μ (hd 38 i0) x1.toNatClampNeg) = 0 → (vp_in x1 60 ∧ Q none (setI (setI μ (hd 38 i0) x1.toNatClampNeg (vp_nar .boolean 1)) (hd 35 i0) 3 ((mI (setI μ (hd 38 i0) x1.toNatClampNeg (vp_nar .boolean 1)) (hd 35 i0) 3) + (1 : Int32))))) ∧ (¬ (mI μ (hd 38 i0) x1.toNatClampNeg) = 0 → Q none μ)))) : Wx K_Bd_keepWaiting d rc rs Q 0 [(0, .ref (hd 35 i0)), (1, .int x1)] [] μ := by
  refine Wa.aload_n (j := 0) d_Bd_keepWaiting_0 rfl ?_
  refine Wx.getR 1 2 d_Bd_keepWaiting_1 f_Bd_2 rfl fl_Bd_18 (s_35 hS h0) (r_35_2 hS h0) ?_
  refine Wa.iload_n (j := 1) d_Bd_keepWaiting_4 rfl ?_
  have hc1 := hF.1
  have hF := hF.2
  have hlhc1 := vp_in_lt hc1
  refine Wx.zald d_Bd_keepWaiting_5 w_38 (s_38 hS h0) hc1 ?_
  refine Wa.if_ne 26 d_Bd_keepWaiting_6 (by decide) (fun hb => ?_) (fun hb => ?_)
  · have hF := hF.2 hb
    exact Wx.retv d_Bd_keepWaiting_26 rfl hF
  · have hF := hF.1 hb
    refine Wa.aload_n (j := 0) d_Bd_keepWaiting_9 rfl ?_
    refine Wx.getR 1 2 d_Bd_keepWaiting_10 f_Bd_2 rfl fl_Bd_18 (s_35 hS h0) (r_35_2 hS h0) ?_
    refine Wa.iload_n (j := 1) d_Bd_keepWaiting_13 rfl ?_
    refine Wa.iconst (v := 1) d_Bd_keepWaiting_14 rfl ?_
    have hc2 := hF.1
    have hF := hF.2
    have hlhc2 := vp_in_lt hc2
    refine Wa.zast d_Bd_keepWaiting_15 w_38 (s_38 hS h0) hc2 ?_
    refine Wa.aload_n (j := 0) d_Bd_keepWaiting_16 rfl ?_
    refine Wa.dup d_Bd_keepWaiting_17 rfl ?_
    refine Wx.getI 1 3 d_Bd_keepWaiting_18 f_Bd_3 fl_Bd_22 w_35 (s_35 hS h0) ?_
    refine Wa.iconst (v := 1) d_Bd_keepWaiting_21 rfl ?_
    refine Wa.iadd d_Bd_keepWaiting_22 ?_
    refine Wx.putI 1 3 d_Bd_keepWaiting_23 f_Bd_3 ok_Bd fl_Bd_22 (Or.inl rfl) w_35 (s_35 hS h0) ?_
    exact Wx.retv d_Bd_keepWaiting_26 rfl hF
theorem e_Bd_keepWaiting {d rc rs : Nat} {Q : Option Value → Mu → Prop} {μ : Mu} {i0 : Nat} {x1 : Int32} (hk : Wx K_Bd_keepWaiting d rc rs (fun r μ' => St μ' ∧ Q r μ') 0 [(0, .ref (hd 35 i0)), (1, .int x1)] [] μ) : Cal K_Bd_keepWaiting d rc rs [.ref (hd 35 i0), .int x1] μ Q := Cal.of (by decide +kernel) rfl rfl (Nat.le_of_ble_eq_true rfl) rfl hk
set_option maxHeartbeats 4000000 in
set_option maxRecDepth 20000 in
theorem g_Bd_endWaiting_0 {d rc rs : Nat} {Q : Option Value → Mu → Prop} {μ : Mu} {i0 : Nat} {x1 : Int32} (hD : 1 ≤ d) (h0 : i0 < 10) (hS : St μ)
    (hF : (vp_in x1 60 ∧ (((mI μ (hd 38 i0) x1.toNatClampNeg) = 0 → Q none μ) ∧ (¬ (mI μ (hd 38 i0) x1.toNatClampNeg) = 0 → (vp_in x1 60 ∧ Q none (setI (setI μ (hd 38 i0) x1.toNatClampNeg (vp_nar .boolean 0)) (hd 35 i0) 3 ((mI (setI μ (hd 38 i0) x1.toNatClampNeg (vp_nar .boolean 0)) (hd 35 i0) 3) - (1 : Int32)))))))) : Wx K_Bd_endWaiting d rc rs Q 0 [(0, .ref (hd 35 i0)), (1, .int x1)] [] μ := by
  refine Wa.aload_n (j := 0) d_Bd_endWaiting_0 rfl ?_
  refine Wx.getR 1 2 d_Bd_endWaiting_1 f_Bd_2 rfl fl_Bd_18 (s_35 hS h0) (r_35_2 hS h0) ?_
  refine Wa.iload_n (j := 1) d_Bd_endWaiting_4 rfl ?_
  have hc1 := hF.1
  have hF := hF.2
  have hlhc1 := vp_in_lt hc1
  refine Wx.zald d_Bd_endWaiting_5 w_38 (s_38 hS h0) hc1 ?_
  refine Wa.if_eq 26 d_Bd_endWaiting_6 (by decide) (fun hb => ?_) (fun hb => ?_)
  · have hF := hF.1 hb
    exact Wx.retv d_Bd_endWaiting_26 rfl hF
  · have hF := hF.2 hb
    refine Wa.aload_n (j := 0) d_Bd_endWaiting_9 rfl ?_
    refine Wx.getR 1 2 d_Bd_endWaiting_10 f_Bd_2 rfl fl_Bd_18 (s_35 hS h0) (r_35_2 hS h0) ?_
    refine Wa.iload_n (j := 1) d_Bd_endWaiting_13 rfl ?_
    refine Wa.iconst (v := 0) d_Bd_endWaiting_14 rfl ?_
    have hc2 := hF.1
    have hF := hF.2
    have hlhc2 := vp_in_lt hc2
    refine Wa.zast d_Bd_endWaiting_15 w_38 (s_38 hS h0) hc2 ?_
    refine Wa.aload_n (j := 0) d_Bd_endWaiting_16 rfl ?_
    refine Wa.dup d_Bd_endWaiting_17 rfl ?_
    refine Wx.getI 1 3 d_Bd_endWaiting_18 f_Bd_3 fl_Bd_22 w_35 (s_35 hS h0) ?_
    refine Wa.iconst (v := 1) d_Bd_endWaiting_21 rfl ?_
    refine Wa.isub d_Bd_endWaiting_22 ?_
    refine Wx.putI 1 3 d_Bd_endWaiting_23 f_Bd_3 ok_Bd fl_Bd_22 (Or.inl rfl) w_35 (s_35 hS h0) ?_
    exact Wx.retv d_Bd_endWaiting_26 rfl hF
theorem e_Bd_endWaiting {d rc rs : Nat} {Q : Option Value → Mu → Prop} {μ : Mu} {i0 : Nat} {x1 : Int32} (hk : Wx K_Bd_endWaiting d rc rs (fun r μ' => St μ' ∧ Q r μ') 0 [(0, .ref (hd 35 i0)), (1, .int x1)] [] μ) : Cal K_Bd_endWaiting d rc rs [.ref (hd 35 i0), .int x1] μ Q := Cal.of (by decide +kernel) rfl rfl (Nat.le_of_ble_eq_true rfl) rfl hk
set_option maxHeartbeats 4000000 in
set_option maxRecDepth 20000 in
theorem g_Bd_show_0 {d rc rs : Nat} {Q : Option Value → Mu → Prop} {μ : Mu} {i0 : Nat} {x1 : Int32} {x2 : Int32} {x3 : Int32} (hD : 1 ≤ d) (h0 : i0 < 10) (hS : St μ)
    (hF : (vp_in ((x1 * (5 : Int32)) + x2) 30 ∧ Q none (setI μ (hd 37 i0) ((x1 * (5 : Int32)) + x2).toNatClampNeg x3))) : Wx K_Bd_show d rc rs Q 0 [(0, .ref (hd 35 i0)), (1, .int x1), (2, .int x2), (3, .int x3)] [] μ := by
  refine Wa.aload_n (j := 0) d_Bd_show_0 rfl ?_
  refine Wx.getR 1 1 d_Bd_show_1 f_Bd_1 rfl fl_Bd_15 (s_35 hS h0) (r_35_1 hS h0) ?_
  refine Wa.iload_n (j := 1) d_Bd_show_4 rfl ?_
  refine Wa.iconst (v := 5) d_Bd_show_5 rfl ?_
  refine Wa.imul d_Bd_show_6 ?_
  refine Wa.iload_n (j := 2) d_Bd_show_7 rfl ?_
  refine Wa.iadd d_Bd_show_8 ?_
  refine Wa.iload_n (j := 3) d_Bd_show_9 rfl ?_
  have hc1 := hF.1
  have hF := hF.2
  have hlhc1 := vp_in_lt hc1
  refine Wa.iast d_Bd_show_10 w_37 (s_37 hS h0) hc1 ?_
  exact Wx.retv d_Bd_show_11 rfl hF
theorem e_Bd_show {d rc rs : Nat} {Q : Option Value → Mu → Prop} {μ : Mu} {i0 : Nat} {x1 : Int32} {x2 : Int32} {x3 : Int32} (hk : Wx K_Bd_show d rc rs (fun r μ' => St μ' ∧ Q r μ') 0 [(0, .ref (hd 35 i0)), (1, .int x1), (2, .int x2), (3, .int x3)] [] μ) : Cal K_Bd_show d rc rs [.ref (hd 35 i0), .int x1, .int x2, .int x3] μ Q := Cal.of (by decide +kernel) rfl rfl (Nat.le_of_ble_eq_true rfl) rfl hk
set_option maxHeartbeats 4000000 in
set_option maxRecDepth 20000 in
theorem g_Bd_shownFrom_0 {d rc rs : Nat} {Q : Option Value → Mu → Prop} {μ : Mu} {i0 : Nat} {x1 : Int32} {x2 : Int32} (hD : 1 ≤ d) (h0 : i0 < 10) (hS : St μ)
    (hF : (vp_in ((x1 * (5 : Int32)) + x2) 30 ∧ Q (some (.int (mI μ (hd 37 i0) ((x1 * (5 : Int32)) + x2).toNatClampNeg))) μ)) : Wx K_Bd_shownFrom d rc rs Q 0 [(0, .ref (hd 35 i0)), (1, .int x1), (2, .int x2)] [] μ := by
  refine Wa.aload_n (j := 0) d_Bd_shownFrom_0 rfl ?_
  refine Wx.getR 1 1 d_Bd_shownFrom_1 f_Bd_1 rfl fl_Bd_15 (s_35 hS h0) (r_35_1 hS h0) ?_
  refine Wa.iload_n (j := 1) d_Bd_shownFrom_4 rfl ?_
  refine Wa.iconst (v := 5) d_Bd_shownFrom_5 rfl ?_
  refine Wa.imul d_Bd_shownFrom_6 ?_
  refine Wa.iload_n (j := 2) d_Bd_shownFrom_7 rfl ?_
  refine Wa.iadd d_Bd_shownFrom_8 ?_
  have hc1 := hF.1
  have hF := hF.2
  have hlhc1 := vp_in_lt hc1
  refine Wx.iald d_Bd_shownFrom_9 w_37 (s_37 hS h0) hc1 ?_
  exact Wx.reti d_Bd_shownFrom_10 rfl hF
theorem e_Bd_shownFrom {d rc rs : Nat} {Q : Option Value → Mu → Prop} {μ : Mu} {i0 : Nat} {x1 : Int32} {x2 : Int32} (hk : Wx K_Bd_shownFrom d rc rs (fun r μ' => St μ' ∧ Q r μ') 0 [(0, .ref (hd 35 i0)), (1, .int x1), (2, .int x2)] [] μ) : Cal K_Bd_shownFrom d rc rs [.ref (hd 35 i0), .int x1, .int x2] μ Q := Cal.of (by decide +kernel) rfl rfl (Nat.le_of_ble_eq_true rfl) rfl hk
set_option maxHeartbeats 4000000 in
set_option maxRecDepth 20000 in
theorem g_Bd_shownAt_0 {d rc rs : Nat} {Q : Option Value → Mu → Prop} {μ : Mu} {i0 : Nat} {x1 : Int32} {x2 : Int32} (hD : 1 ≤ d) (h0 : i0 < 10) (hS : St μ)
    (hF : Wx K_Bd_shownAt d rc rs Q 5 [(0, .ref (hd 35 i0)), (1, .int x1), (3, .int x2), (4, .int 0)] [] μ) : Wx K_Bd_shownAt d rc rs Q 0 [(0, .ref (hd 35 i0)), (1, .int x1), (2, .int x2)] [] μ := by
  refine Wa.iload_n (j := 2) d_Bd_shownAt_0 rfl ?_
  refine Wa.istore_n (i := 3) (L' := [(3, .int x2), (0, .ref (hd 35 i0)), (1, .int x1), (2, .int x2)]) d_Bd_shownAt_1 rfl (by decide) rfl ?_
  refine Wa.iconst (v := 0) d_Bd_shownAt_2 rfl ?_
  refine Wa.istore (i := 4) (L' := [(4, .int 0), (3, .int x2), (0, .ref (hd 35 i0)), (1, .int x1), (2, .int x2)]) d_Bd_shownAt_3 (by decide) rfl ?_
  exact Wa.loc [2, 3, 1, 0] rfl hF
theorem e_Bd_shownAt {d rc rs : Nat} {Q : Option Value → Mu → Prop} {μ : Mu} {i0 : Nat} {x1 : Int32} {x2 : Int32} (hk : Wx K_Bd_shownAt d rc rs (fun r μ' => St μ' ∧ Q r μ') 0 [(0, .ref (hd 35 i0)), (1, .int x1), (2, .int x2)] [] μ) : Cal K_Bd_shownAt d rc rs [.ref (hd 35 i0), .int x1, .int x2] μ Q := Cal.of (by decide +kernel) rfl rfl (Nat.le_of_ble_eq_true rfl) rfl hk
set_option maxHeartbeats 4000000 in
set_option maxRecDepth 20000 in
theorem g_Bd_shownAt_5 {d rc rs : Nat} {Q : Option Value → Mu → Prop} {μ : Mu} {i0 : Nat} {x1 : Int32} {x3 : Int32} {x4 : Int32} (hD : 1 ≤ d) (h0 : i0 < 10) (hS : St μ)
    (hF : ((5 ≤ x4 → Q (some (.int (-1))) μ) ∧ (¬ 5 ≤ x4 → ((x3 < 0 → Q (some (.int (-1))) μ) ∧ (¬ x3 < 0 → (Cal K_Bd_shownFrom (d - 1) 0 0 [.ref (hd 35 i0), .int x1, .int x4] μ (fun r μ1 => ∃ y2, r = some (.int y2) ∧ ((y2 = (-1) → ((y2 = (-1) → Wx K_Bd_shownAt d rc rs Q 5 [(0, .ref (hd 35 i0)), (1, .int x1), (3, .int (x3 - (0 : Int32))), (4, .int (x4 + 1))] [] μ1) ∧ (¬ y2 = (-1) → Wx K_Bd_shownAt d rc rs Q 5 [(0, .ref (hd 35 i0)), (1, .int x1), (3, .int (x3 - (1 : Int32))), (4, .int (x4 + 1))] [] μ1))) ∧ (¬ y2 = (-1) → ((x3 = 0 → Q (some (.int y2)) μ1) ∧ (¬ x3 = 0 → ((y2 = (-1) → Wx K_Bd_shownAt d rc rs Q 5 [(0, .ref (hd 35 i0)), (1, .int x1), (3, .int (x3 - (0 : Int32))), (4, .int (x4 + 1))] [] μ1) ∧ (¬ y2 = (-1) → Wx K_Bd_shownAt d rc rs Q 5 [(0, .ref (hd 35 i0)), (1, .int x1), (3, .int (x3 - (1 : Int32))), (4, .int (x4 + 1))] [] μ1))))))))))))) : Wx K_Bd_shownAt d rc rs Q 5 [(0, .ref (hd 35 i0)), (1, .int x1), (3, .int x3), (4, .int x4)] [] μ := by
  refine Wa.iload (j := 3) d_Bd_shownAt_5 rfl ?_
  refine Wa.iconst (v := 5) d_Bd_shownAt_7 rfl ?_
  refine Wa.icmp_ge 57 d_Bd_shownAt_8 (by decide) (fun hb => ?_) (fun hb => ?_)
  · have hF := hF.1 hb
    refine Wa.iconst (v := (-1)) d_Bd_shownAt_57 rfl ?_
    exact Wx.reti d_Bd_shownAt_58 rfl hF
  · have hF := hF.2 hb
    refine Wa.iload_n (j := 2) d_Bd_shownAt_11 rfl ?_
    refine Wa.if_lt 57 d_Bd_shownAt_12 (by decide) (fun hb => ?_) (fun hb => ?_)
    · have hF := hF.1 hb
      refine Wa.iconst (v := (-1)) d_Bd_shownAt_57 rfl ?_
      exact Wx.reti d_Bd_shownAt_58 rfl hF
    · have hF := hF.2 hb
      refine Wa.aload_n (j := 0) d_Bd_shownAt_15 rfl ?_
      refine Wa.iload_n (j := 1) d_Bd_shownAt_16 rfl ?_
      refine Wa.iload (j := 3) d_Bd_shownAt_17 rfl ?_
      refine Wx.cVi (q := E_Bd) (As := [.int x1, .int x4]) 1 (d - 1) 0 0 _ d_Bd_shownAt_19 mok_Bd_shownFrom vl_Bd_43 rfl rfl rfl (Nat.le_of_ble_eq_true rfl) (by omega) (Nat.zero_le _) (Nat.zero_le _) (s_35 hS h0) hF (fun y2 μ1 hS hF => ?_)
      refine Wa.istore (i := 5) (L' := [(5, .int y2), (0, .ref (hd 35 i0)), (1, .int x1), (3, .int x3), (4, .int x4)]) d_Bd_shownAt_22 (by decide) rfl ?_
      refine Wa.iload (j := 0) d_Bd_shownAt_24 rfl ?_
      refine Wa.iconst (v := (-1)) d_Bd_shownAt_26 rfl ?_
      refine Wa.icmp_eq 37 d_Bd_shownAt_27 (by decide) (fun hb => ?_) (fun hb => ?_)
      · have hF := hF.1 hb
        refine Wa.iload_n (j := 3) d_Bd_shownAt_37 rfl ?_
        refine Wa.iload (j := 0) d_Bd_shownAt_38 rfl ?_
        refine Wa.iconst (v := (-1)) d_Bd_shownAt_40 rfl ?_
        refine Wa.icmp_ne 48 d_Bd_shownAt_41 (by decide) (fun hb => ?_) (fun hb => ?_)
        · have hF := hF.2 hb
          refine Wa.iconst (v := 1) d_Bd_shownAt_48 rfl ?_
          refine Wa.isub d_Bd_shownAt_49 ?_
          refine Wa.istore_n (i := 3) (L' := [(3, .int (x3 - (1 : Int32))), (5, .int y2), (0, .ref (hd 35 i0)), (1, .int x1), (4, .int x4)]) d_Bd_shownAt_50 rfl (by decide) rfl ?_
          refine Wa.iinc (i := 4) (j := 4) (v := (x4 + 1)) (L' := [(4, .int (x4 + 1)), (3, .int (x3 - (1 : Int32))), (5, .int y2), (0, .ref (hd 35 i0)), (1, .int x1)]) d_Bd_shownAt_51 rfl rfl (by decide) rfl ?_
          refine Wa.goto 5 d_Bd_shownAt_54 (by decide) ?_
          exact Wa.loc [3, 4, 1, 0] rfl hF
        · have hF := hF.1 hb
          refine Wa.iconst (v := 0) d_Bd_shownAt_44 rfl ?_
          refine Wa.goto 49 d_Bd_shownAt_45 (by decide) ?_
          refine Wa.isub d_Bd_shownAt_49 ?_
          refine Wa.istore_n (i := 3) (L' := [(3, .int (x3 - (0 : Int32))), (5, .int y2), (0, .ref (hd 35 i0)), (1, .int x1), (4, .int x4)]) d_Bd_shownAt_50 rfl (by decide) rfl ?_
          refine Wa.iinc (i := 4) (j := 4) (v := (x4 + 1)) (L' := [(4, .int (x4 + 1)), (3, .int (x3 - (0 : Int32))), (5, .int y2), (0, .ref (hd 35 i0)), (1, .int x1)]) d_Bd_shownAt_51 rfl rfl (by decide) rfl ?_
          refine Wa.goto 5 d_Bd_shownAt_54 (by decide) ?_
          exact Wa.loc [3, 4, 1, 0] rfl hF
      · have hF := hF.2 hb
        refine Wa.iload_n (j := 3) d_Bd_shownAt_30 rfl ?_
        refine Wa.if_ne 37 d_Bd_shownAt_31 (by decide) (fun hb => ?_) (fun hb => ?_)
        · have hF := hF.2 hb
          refine Wa.iload_n (j := 3) d_Bd_shownAt_37 rfl ?_
          refine Wa.iload (j := 0) d_Bd_shownAt_38 rfl ?_
          refine Wa.iconst (v := (-1)) d_Bd_shownAt_40 rfl ?_
          refine Wa.icmp_ne 48 d_Bd_shownAt_41 (by decide) (fun hb => ?_) (fun hb => ?_)
          · have hF := hF.2 hb
            refine Wa.iconst (v := 1) d_Bd_shownAt_48 rfl ?_
            refine Wa.isub d_Bd_shownAt_49 ?_
            refine Wa.istore_n (i := 3) (L' := [(3, .int (x3 - (1 : Int32))), (5, .int y2), (0, .ref (hd 35 i0)), (1, .int x1), (4, .int x4)]) d_Bd_shownAt_50 rfl (by decide) rfl ?_
            refine Wa.iinc (i := 4) (j := 4) (v := (x4 + 1)) (L' := [(4, .int (x4 + 1)), (3, .int (x3 - (1 : Int32))), (5, .int y2), (0, .ref (hd 35 i0)), (1, .int x1)]) d_Bd_shownAt_51 rfl rfl (by decide) rfl ?_
            refine Wa.goto 5 d_Bd_shownAt_54 (by decide) ?_
            exact Wa.loc [3, 4, 1, 0] rfl hF
          · have hF := hF.1 hb
            refine Wa.iconst (v := 0) d_Bd_shownAt_44 rfl ?_
            refine Wa.goto 49 d_Bd_shownAt_45 (by decide) ?_
            refine Wa.isub d_Bd_shownAt_49 ?_
            refine Wa.istore_n (i := 3) (L' := [(3, .int (x3 - (0 : Int32))), (5, .int y2), (0, .ref (hd 35 i0)), (1, .int x1), (4, .int x4)]) d_Bd_shownAt_50 rfl (by decide) rfl ?_
            refine Wa.iinc (i := 4) (j := 4) (v := (x4 + 1)) (L' := [(4, .int (x4 + 1)), (3, .int (x3 - (0 : Int32))), (5, .int y2), (0, .ref (hd 35 i0)), (1, .int x1)]) d_Bd_shownAt_51 rfl rfl (by decide) rfl ?_
            refine Wa.goto 5 d_Bd_shownAt_54 (by decide) ?_
            exact Wa.loc [3, 4, 1, 0] rfl hF
        · have hF := hF.1 hb
          refine Wa.iload (j := 0) d_Bd_shownAt_34 rfl ?_
          exact Wx.reti d_Bd_shownAt_36 rfl hF
set_option maxHeartbeats 4000000 in
set_option maxRecDepth 20000 in
theorem g_Bd_shownCount_0 {d rc rs : Nat} {Q : Option Value → Mu → Prop} {μ : Mu} {i0 : Nat} {x1 : Int32} (hD : 1 ≤ d) (h0 : i0 < 10) (hS : St μ)
    (hF : Wx K_Bd_shownCount d rc rs Q 4 [(0, .ref (hd 35 i0)), (1, .int x1), (2, .int 0), (3, .int 0)] [] μ) : Wx K_Bd_shownCount d rc rs Q 0 [(0, .ref (hd 35 i0)), (1, .int x1)] [] μ := by
  refine Wa.iconst (v := 0) d_Bd_shownCount_0 rfl ?_
  refine Wa.istore_n (i := 2) (L' := [(2, .int 0), (0, .ref (hd 35 i0)), (1, .int x1)]) d_Bd_shownCount_1 rfl (by decide) rfl ?_
  refine Wa.iconst (v := 0) d_Bd_shownCount_2 rfl ?_
  refine Wa.istore_n (i := 3) (L' := [(3, .int 0), (2, .int 0), (0, .ref (hd 35 i0)), (1, .int x1)]) d_Bd_shownCount_3 rfl (by decide) rfl ?_
  exact Wa.loc [2, 3, 1, 0] rfl hF
theorem e_Bd_shownCount {d rc rs : Nat} {Q : Option Value → Mu → Prop} {μ : Mu} {i0 : Nat} {x1 : Int32} (hk : Wx K_Bd_shownCount d rc rs (fun r μ' => St μ' ∧ Q r μ') 0 [(0, .ref (hd 35 i0)), (1, .int x1)] [] μ) : Cal K_Bd_shownCount d rc rs [.ref (hd 35 i0), .int x1] μ Q := Cal.of (by decide +kernel) rfl rfl (Nat.le_of_ble_eq_true rfl) rfl hk
set_option maxHeartbeats 4000000 in
set_option maxRecDepth 20000 in
theorem g_Bd_shownCount_4 {d rc rs : Nat} {Q : Option Value → Mu → Prop} {μ : Mu} {i0 : Nat} {x1 : Int32} {x2 : Int32} {x3 : Int32} (hD : 1 ≤ d) (h0 : i0 < 10) (hS : St μ)
    (hF : ((5 ≤ x3 → Q (some (.int x2)) μ) ∧ (¬ 5 ≤ x3 → (Cal K_Bd_shownFrom (d - 1) 0 0 [.ref (hd 35 i0), .int x1, .int x3] μ (fun r μ1 => ∃ y2, r = some (.int y2) ∧ ((y2 = (-1) → Wx K_Bd_shownCount d rc rs Q 4 [(0, .ref (hd 35 i0)), (1, .int x1), (2, .int (x2 + (0 : Int32))), (3, .int (x3 + 1))] [] μ1) ∧ (¬ y2 = (-1) → Wx K_Bd_shownCount d rc rs Q 4 [(0, .ref (hd 35 i0)), (1, .int x1), (2, .int (x2 + (1 : Int32))), (3, .int (x3 + 1))] [] μ1))))))) : Wx K_Bd_shownCount d rc rs Q 4 [(0, .ref (hd 35 i0)), (1, .int x1), (2, .int x2), (3, .int x3)] [] μ := by
  refine Wa.iload_n (j := 3) d_Bd_shownCount_4 rfl ?_
  refine Wa.iconst (v := 5) d_Bd_shownCount_5 rfl ?_
  refine Wa.icmp_ge 33 d_Bd_shownCount_6 (by decide) (fun hb => ?_) (fun hb => ?_)
  · have hF := hF.1 hb
    refine Wa.iload_n (j := 2) d_Bd_shownCount_33 rfl ?_
    exact Wx.reti d_Bd_shownCount_34 rfl hF
  · have hF := hF.2 hb
    refine Wa.iload_n (j := 2) d_Bd_shownCount_9 rfl ?_
    refine Wa.aload_n (j := 0) d_Bd_shownCount_10 rfl ?_
    refine Wa.iload_n (j := 1) d_Bd_shownCount_11 rfl ?_
    refine Wa.iload_n (j := 3) d_Bd_shownCount_12 rfl ?_
    refine Wx.cVi (q := E_Bd) (As := [.int x1, .int x3]) 1 (d - 1) 0 0 _ d_Bd_shownCount_13 mok_Bd_shownFrom vl_Bd_43 rfl rfl rfl (Nat.le_of_ble_eq_true rfl) (by omega) (Nat.zero_le _) (Nat.zero_le _) (s_35 hS h0) hF (fun y2 μ1 hS hF => ?_)
    refine Wa.iconst (v := (-1)) d_Bd_shownCount_16 rfl ?_
    refine Wa.icmp_ne 24 d_Bd_shownCount_17 (by decide) (fun hb => ?_) (fun hb => ?_)
    · have hF := hF.2 hb
      refine Wa.iconst (v := 1) d_Bd_shownCount_24 rfl ?_
      refine Wa.iadd d_Bd_shownCount_25 ?_
      refine Wa.istore_n (i := 2) (L' := [(2, .int (x2 + (1 : Int32))), (0, .ref (hd 35 i0)), (1, .int x1), (3, .int x3)]) d_Bd_shownCount_26 rfl (by decide) rfl ?_
      refine Wa.iinc (i := 3) (j := 3) (v := (x3 + 1)) (L' := [(3, .int (x3 + 1)), (2, .int (x2 + (1 : Int32))), (0, .ref (hd 35 i0)), (1, .int x1)]) d_Bd_shownCount_27 rfl rfl (by decide) rfl ?_
      refine Wa.goto 4 d_Bd_shownCount_30 (by decide) ?_
      exact Wa.loc [2, 3, 1, 0] rfl hF
    · have hF := hF.1 hb
      refine Wa.iconst (v := 0) d_Bd_shownCount_20 rfl ?_
      refine Wa.goto 25 d_Bd_shownCount_21 (by decide) ?_
      refine Wa.iadd d_Bd_shownCount_25 ?_
      refine Wa.istore_n (i := 2) (L' := [(2, .int (x2 + (0 : Int32))), (0, .ref (hd 35 i0)), (1, .int x1), (3, .int x3)]) d_Bd_shownCount_26 rfl (by decide) rfl ?_
      refine Wa.iinc (i := 3) (j := 3) (v := (x3 + 1)) (L' := [(3, .int (x3 + 1)), (2, .int (x2 + (0 : Int32))), (0, .ref (hd 35 i0)), (1, .int x1)]) d_Bd_shownCount_27 rfl rfl (by decide) rfl ?_
      refine Wa.goto 4 d_Bd_shownCount_30 (by decide) ?_
      exact Wa.loc [2, 3, 1, 0] rfl hF
set_option maxHeartbeats 4000000 in
set_option maxRecDepth 20000 in
theorem g_Bd_noticesWith_0 {d rc rs : Nat} {Q : Option Value → Mu → Prop} {μ : Mu} {i0 : Nat} {x1 : Int32} (hD : 1 ≤ d) (h0 : i0 < 10) (hS : St μ)
    (hF : Wx K_Bd_noticesWith d rc rs Q 4 [(0, .ref (hd 35 i0)), (1, .int x1), (2, .int 0), (3, .int 0)] [] μ) : Wx K_Bd_noticesWith d rc rs Q 0 [(0, .ref (hd 35 i0)), (1, .int x1)] [] μ := by
  refine Wa.iconst (v := 0) d_Bd_noticesWith_0 rfl ?_
  refine Wa.istore_n (i := 2) (L' := [(2, .int 0), (0, .ref (hd 35 i0)), (1, .int x1)]) d_Bd_noticesWith_1 rfl (by decide) rfl ?_
  refine Wa.iconst (v := 0) d_Bd_noticesWith_2 rfl ?_
  refine Wa.istore_n (i := 3) (L' := [(3, .int 0), (2, .int 0), (0, .ref (hd 35 i0)), (1, .int x1)]) d_Bd_noticesWith_3 rfl (by decide) rfl ?_
  exact Wa.loc [2, 3, 1, 0] rfl hF
theorem e_Bd_noticesWith {d rc rs : Nat} {Q : Option Value → Mu → Prop} {μ : Mu} {i0 : Nat} {x1 : Int32} (hk : Wx K_Bd_noticesWith d rc rs (fun r μ' => St μ' ∧ Q r μ') 0 [(0, .ref (hd 35 i0)), (1, .int x1)] [] μ) : Cal K_Bd_noticesWith d rc rs [.ref (hd 35 i0), .int x1] μ Q := Cal.of (by decide +kernel) rfl rfl (Nat.le_of_ble_eq_true rfl) rfl hk
set_option maxHeartbeats 4000000 in
set_option maxRecDepth 20000 in
theorem g_Bd_noticesWith_4 {d rc rs : Nat} {Q : Option Value → Mu → Prop} {μ : Mu} {i0 : Nat} {x1 : Int32} {x2 : Int32} {x3 : Int32} (hD : 1 ≤ d) (h0 : i0 < 10) (hS : St μ)
    (hF : ((6 ≤ x3 → Q (some (.int x2)) μ) ∧ (¬ 6 ≤ x3 → (Cal K_Bd_shownCount (d - 1) 0 0 [.ref (hd 35 i0), .int x3] μ (fun r μ1 => ∃ y2, r = some (.int y2) ∧ ((y2 < x1 → Wx K_Bd_noticesWith d rc rs Q 4 [(0, .ref (hd 35 i0)), (1, .int x1), (2, .int (x2 + (0 : Int32))), (3, .int (x3 + 1))] [] μ1) ∧ (¬ y2 < x1 → Wx K_Bd_noticesWith d rc rs Q 4 [(0, .ref (hd 35 i0)), (1, .int x1), (2, .int (x2 + (1 : Int32))), (3, .int (x3 + 1))] [] μ1))))))) : Wx K_Bd_noticesWith d rc rs Q 4 [(0, .ref (hd 35 i0)), (1, .int x1), (2, .int x2), (3, .int x3)] [] μ := by
  refine Wa.iload_n (j := 3) d_Bd_noticesWith_4 rfl ?_
  refine Wa.bipush (v := 6) d_Bd_noticesWith_5 rfl ?_
  refine Wa.icmp_ge 33 d_Bd_noticesWith_7 (by decide) (fun hb => ?_) (fun hb => ?_)
  · have hF := hF.1 hb
    refine Wa.iload_n (j := 2) d_Bd_noticesWith_33 rfl ?_
    exact Wx.reti d_Bd_noticesWith_34 rfl hF
  · have hF := hF.2 hb
    refine Wa.iload_n (j := 2) d_Bd_noticesWith_10 rfl ?_
    refine Wa.aload_n (j := 0) d_Bd_noticesWith_11 rfl ?_
    refine Wa.iload_n (j := 3) d_Bd_noticesWith_12 rfl ?_
    refine Wx.cVi (q := E_Bd) (As := [.int x3]) 1 (d - 1) 0 0 _ d_Bd_noticesWith_13 mok_Bd_shownCount vl_Bd_47 rfl rfl rfl (Nat.le_of_ble_eq_true rfl) (by omega) (Nat.zero_le _) (Nat.zero_le _) (s_35 hS h0) hF (fun y2 μ1 hS hF => ?_)
    refine Wa.iload_n (j := 1) d_Bd_noticesWith_16 rfl ?_
    refine Wa.icmp_lt 24 d_Bd_noticesWith_17 (by decide) (fun hb => ?_) (fun hb => ?_)
    · have hF := hF.1 hb
      refine Wa.iconst (v := 0) d_Bd_noticesWith_24 rfl ?_
      refine Wa.iadd d_Bd_noticesWith_25 ?_
      refine Wa.istore_n (i := 2) (L' := [(2, .int (x2 + (0 : Int32))), (0, .ref (hd 35 i0)), (1, .int x1), (3, .int x3)]) d_Bd_noticesWith_26 rfl (by decide) rfl ?_
      refine Wa.iinc (i := 3) (j := 3) (v := (x3 + 1)) (L' := [(3, .int (x3 + 1)), (2, .int (x2 + (0 : Int32))), (0, .ref (hd 35 i0)), (1, .int x1)]) d_Bd_noticesWith_27 rfl rfl (by decide) rfl ?_
      refine Wa.goto 4 d_Bd_noticesWith_30 (by decide) ?_
      exact Wa.loc [2, 3, 1, 0] rfl hF
    · have hF := hF.2 hb
      refine Wa.iconst (v := 1) d_Bd_noticesWith_20 rfl ?_
      refine Wa.goto 25 d_Bd_noticesWith_21 (by decide) ?_
      refine Wa.iadd d_Bd_noticesWith_25 ?_
      refine Wa.istore_n (i := 2) (L' := [(2, .int (x2 + (1 : Int32))), (0, .ref (hd 35 i0)), (1, .int x1), (3, .int x3)]) d_Bd_noticesWith_26 rfl (by decide) rfl ?_
      refine Wa.iinc (i := 3) (j := 3) (v := (x3 + 1)) (L' := [(3, .int (x3 + 1)), (2, .int (x2 + (1 : Int32))), (0, .ref (hd 35 i0)), (1, .int x1)]) d_Bd_noticesWith_27 rfl rfl (by decide) rfl ?_
      refine Wa.goto 4 d_Bd_noticesWith_30 (by decide) ?_
      exact Wa.loc [2, 3, 1, 0] rfl hF
set_option maxHeartbeats 4000000 in
set_option maxRecDepth 20000 in
theorem g_Bd_showsAsMuchAs_0 {d rc rs : Nat} {Q : Option Value → Mu → Prop} {μ : Mu} {i0 : Nat} {i1 : Nat} (hD : 1 ≤ d) (h0 : i0 < 10) (h1 : i1 < 10) (hS : St μ)
    (hF : Wx K_Bd_showsAsMuchAs d rc rs Q 2 [(0, .ref (hd 35 i0)), (1, .ref (hd 35 i1)), (2, .int 0)] [] μ) : Wx K_Bd_showsAsMuchAs d rc rs Q 0 [(0, .ref (hd 35 i0)), (1, .ref (hd 35 i1))] [] μ := by
  refine Wa.iconst (v := 0) d_Bd_showsAsMuchAs_0 rfl ?_
  refine Wa.istore_n (i := 2) (L' := [(2, .int 0), (0, .ref (hd 35 i0)), (1, .ref (hd 35 i1))]) d_Bd_showsAsMuchAs_1 rfl (by decide) rfl ?_
  exact Wa.loc [1, 2, 0] rfl hF
theorem e_Bd_showsAsMuchAs {d rc rs : Nat} {Q : Option Value → Mu → Prop} {μ : Mu} {i0 : Nat} {i1 : Nat} (hk : Wx K_Bd_showsAsMuchAs d rc rs (fun r μ' => St μ' ∧ Q r μ') 0 [(0, .ref (hd 35 i0)), (1, .ref (hd 35 i1))] [] μ) : Cal K_Bd_showsAsMuchAs d rc rs [.ref (hd 35 i0), .ref (hd 35 i1)] μ Q := Cal.of (by decide +kernel) rfl rfl (Nat.le_of_ble_eq_true rfl) rfl hk
set_option maxHeartbeats 4000000 in
set_option maxRecDepth 20000 in
theorem g_Bd_showsAsMuchAs_2 {d rc rs : Nat} {Q : Option Value → Mu → Prop} {μ : Mu} {i0 : Nat} {i1 : Nat} {x2 : Int32} (hD : 1 ≤ d) (h0 : i0 < 10) (h1 : i1 < 10) (hS : St μ)
    (hF : (((nI 30) ≤ x2 → Q (some (.int 1)) μ) ∧ (¬ (nI 30) ≤ x2 → (vp_in x2 30 ∧ (vp_in x2 30 ∧ (((mI μ (hd 37 i0) x2.toNatClampNeg) = (mI μ (hd 37 i1) x2.toNatClampNeg) → Wx K_Bd_showsAsMuchAs d rc rs Q 2 [(0, .ref (hd 35 i0)), (1, .ref (hd 35 i1)), (2, .int (x2 + 1))] [] μ) ∧ (¬ (mI μ (hd 37 i0) x2.toNatClampNeg) = (mI μ (hd 37 i1) x2.toNatClampNeg) → Q (some (.int 0)) μ))))))) : Wx K_Bd_showsAsMuchAs d rc rs Q 2 [(0, .ref (hd 35 i0)), (1, .ref (hd 35 i1)), (2, .int x2)] [] μ := by
  refine Wa.iload_n (j := 2) d_Bd_showsAsMuchAs_2 rfl ?_
  refine Wa.aload_n (j := 0) d_Bd_showsAsMuchAs_3 rfl ?_
  refine Wx.getR 1 1 d_Bd_showsAsMuchAs_4 f_Bd_1 rfl fl_Bd_15 (s_35 hS h0) (r_35_1 hS h0) ?_
  refine Wa.alen d_Bd_showsAsMuchAs_7 (s_37 hS h0) (by decide) ?_
  refine Wa.icmp_ge 34 d_Bd_showsAsMuchAs_8 (by decide) (fun hb => ?_) (fun hb => ?_)
  · have hF := hF.1 hb
    refine Wa.iconst (v := 1) d_Bd_showsAsMuchAs_34 rfl ?_
    exact Wx.retz d_Bd_showsAsMuchAs_35 rfl (Or.inr rfl) hF
  · have hF := hF.2 hb
    refine Wa.aload_n (j := 0) d_Bd_showsAsMuchAs_11 rfl ?_
    refine Wx.getR 1 1 d_Bd_showsAsMuchAs_12 f_Bd_1 rfl fl_Bd_15 (s_35 hS h0) (r_35_1 hS h0) ?_
    refine Wa.iload_n (j := 2) d_Bd_showsAsMuchAs_15 rfl ?_
    have hc1 := hF.1
    have hF := hF.2
    have hlhc1 := vp_in_lt hc1
    refine Wx.iald d_Bd_showsAsMuchAs_16 w_37 (s_37 hS h0) hc1 ?_
    refine Wa.aload_n (j := 1) d_Bd_showsAsMuchAs_17 rfl ?_
    refine Wx.getR 1 1 d_Bd_showsAsMuchAs_18 f_Bd_1 rfl fl_Bd_15 (s_35 hS h1) (r_35_1 hS h1) ?_
    refine Wa.iload_n (j := 2) d_Bd_showsAsMuchAs_21 rfl ?_
    have hc2 := hF.1
    have hF := hF.2
    have hlhc2 := vp_in_lt hc2
    refine Wx.iald d_Bd_showsAsMuchAs_22 w_37 (s_37 hS h1) hc2 ?_
    refine Wa.icmp_eq 28 d_Bd_showsAsMuchAs_23 (by decide) (fun hb => ?_) (fun hb => ?_)
    · have hF := hF.1 hb
      refine Wa.iinc (i := 2) (j := 2) (v := (x2 + 1)) (L' := [(2, .int (x2 + 1)), (0, .ref (hd 35 i0)), (1, .ref (hd 35 i1))]) d_Bd_showsAsMuchAs_28 rfl rfl (by decide) rfl ?_
      refine Wa.goto 2 d_Bd_showsAsMuchAs_31 (by decide) ?_
      exact Wa.loc [1, 2, 0] rfl hF
    · have hF := hF.2 hb
      refine Wa.iconst (v := 0) d_Bd_showsAsMuchAs_26 rfl ?_
      exact Wx.retz d_Bd_showsAsMuchAs_27 rfl (Or.inl rfl) hF
set_option maxHeartbeats 4000000 in
set_option maxRecDepth 20000 in
theorem g_Sh_isAheadOf_0 {d rc rs : Nat} {Q : Option Value → Mu → Prop} {μ : Mu} {i0 : Nat} {i1 : Nat} (hD : 1 ≤ d) (h0 : i0 < 120) (h1 : i1 < 120) (hS : St μ)
    (hF : (vp_in (mI μ (hd 33 i0) 1) 5 ∧ (vp_in (mI μ (hd 33 i0) 1) 5 ∧ (((mI μ (hd 34 i1) (mI μ (hd 33 i0) 1).toNatClampNeg) < (mI μ (hd 34 i0) (mI μ (hd 33 i0) 1).toNatClampNeg) → Q (some (.int 0)) μ) ∧ (¬ (mI μ (hd 34 i1) (mI μ (hd 33 i0) 1).toNatClampNeg) < (mI μ (hd 34 i0) (mI μ (hd 33 i0) 1).toNatClampNeg) → Q (some (.int 1)) μ))))) : Wx K_Sh_isAheadOf d rc rs Q 0 [(0, .ref (hd 33 i0)), (1, .ref (hd 33 i1))] [] μ := by
  refine Wa.aload_n (j := 1) d_Sh_isAheadOf_0 rfl ?_
  refine Wx.getR 8 0 d_Sh_isAheadOf_1 f_Sh_0 rfl fl_Sh_9 (s_33 hS h1) (r_33_0 hS h1) ?_
  refine Wa.aload_n (j := 0) d_Sh_isAheadOf_4 rfl ?_
  refine Wx.getI 8 1 d_Sh_isAheadOf_5 f_Sh_1 fl_Sh_15 w_33 (s_33 hS h0) ?_
  have hc1 := hF.1
  have hF := hF.2
  have hlhc1 := vp_in_lt hc1
  refine Wx.iald d_Sh_isAheadOf_8 w_34 (s_34 hS h1) hc1 ?_
  refine Wa.aload_n (j := 0) d_Sh_isAheadOf_9 rfl ?_
  refine Wx.getR 8 0 d_Sh_isAheadOf_10 f_Sh_0 rfl fl_Sh_9 (s_33 hS h0) (r_33_0 hS h0) ?_
  refine Wa.aload_n (j := 0) d_Sh_isAheadOf_13 rfl ?_
  refine Wx.getI 8 1 d_Sh_isAheadOf_14 f_Sh_1 fl_Sh_15 w_33 (s_33 hS h0) ?_
  have hc2 := hF.1
  have hF := hF.2
  have hlhc2 := vp_in_lt hc2
  refine Wx.iald d_Sh_isAheadOf_17 w_34 (s_34 hS h0) hc2 ?_
  refine Wa.icmp_lt 25 d_Sh_isAheadOf_18 (by decide) (fun hb => ?_) (fun hb => ?_)
  · have hF := hF.1 hb
    refine Wa.iconst (v := 0) d_Sh_isAheadOf_25 rfl ?_
    exact Wx.retz d_Sh_isAheadOf_26 rfl (Or.inl rfl) hF
  · have hF := hF.2 hb
    refine Wa.iconst (v := 1) d_Sh_isAheadOf_21 rfl ?_
    refine Wa.goto 26 d_Sh_isAheadOf_22 (by decide) ?_
    exact Wx.retz d_Sh_isAheadOf_26 rfl (Or.inr rfl) hF
theorem e_Sh_isAheadOf {d rc rs : Nat} {Q : Option Value → Mu → Prop} {μ : Mu} {i0 : Nat} {i1 : Nat} (hk : Wx K_Sh_isAheadOf d rc rs (fun r μ' => St μ' ∧ Q r μ') 0 [(0, .ref (hd 33 i0)), (1, .ref (hd 33 i1))] [] μ) : Cal K_Sh_isAheadOf d rc rs [.ref (hd 33 i0), .ref (hd 33 i1)] μ Q := Cal.of (by decide +kernel) rfl rfl (Nat.le_of_ble_eq_true rfl) rfl hk
set_option maxHeartbeats 4000000 in
set_option maxRecDepth 20000 in
theorem g_Rd_lay_0 {d rc rs : Nat} {Q : Option Value → Mu → Prop} {μ : Mu} {i0 : Nat} {x1 : Int32} {x2 : Int32} {x3 : Int32} (hD : 1 ≤ d) (h0 : i0 < 32) (hS : St μ)
    (hF : Wx K_Rd_lay d rc rs Q 23 [(0, .ref (hd 27 i0)), (4, .int 0)] [] (setI (setI (setI (setI μ (hd 27 i0) 1 x1) (hd 27 i0) 2 x2) (hd 27 i0) 3 x3) (hd 27 i0) 4 0)) : Wx K_Rd_lay d rc rs Q 0 [(0, .ref (hd 27 i0)), (1, .int x1), (2, .int x2), (3, .int x3)] [] μ := by
  refine Wa.aload_n (j := 0) d_Rd_lay_0 rfl ?_
  refine Wa.iload_n (j := 1) d_Rd_lay_1 rfl ?_
  refine Wx.putI 7 1 d_Rd_lay_2 f_Rd_1 ok_Rd fl_Rd_15 (Or.inl rfl) w_27 (s_27 hS h0) ?_
  refine Wa.aload_n (j := 0) d_Rd_lay_5 rfl ?_
  refine Wa.iload_n (j := 2) d_Rd_lay_6 rfl ?_
  refine Wx.putI 7 2 d_Rd_lay_7 f_Rd_2 ok_Rd fl_Rd_19 (Or.inl rfl) w_27 (s_27 hS h0) ?_
  refine Wa.aload_n (j := 0) d_Rd_lay_10 rfl ?_
  refine Wa.iload_n (j := 3) d_Rd_lay_11 rfl ?_
  refine Wx.putI 7 3 d_Rd_lay_12 f_Rd_3 ok_Rd fl_Rd_22 (Or.inl rfl) w_27 (s_27 hS h0) ?_
  refine Wa.aload_n (j := 0) d_Rd_lay_15 rfl ?_
  refine Wa.iconst (v := 0) d_Rd_lay_16 rfl ?_
  refine Wx.putI 7 4 d_Rd_lay_17 f_Rd_4 ok_Rd fl_Rd_25 (Or.inl rfl) w_27 (s_27 hS h0) ?_
  refine Wa.iconst (v := 0) d_Rd_lay_20 rfl ?_
  refine Wa.istore (i := 4) (L' := [(4, .int 0), (0, .ref (hd 27 i0)), (1, .int x1), (2, .int x2), (3, .int x3)]) d_Rd_lay_21 (by decide) rfl ?_
  exact Wa.loc [1, 0] rfl hF
theorem e_Rd_lay {d rc rs : Nat} {Q : Option Value → Mu → Prop} {μ : Mu} {i0 : Nat} {x1 : Int32} {x2 : Int32} {x3 : Int32} (hk : Wx K_Rd_lay d rc rs (fun r μ' => St μ' ∧ Q r μ') 0 [(0, .ref (hd 27 i0)), (1, .int x1), (2, .int x2), (3, .int x3)] [] μ) : Cal K_Rd_lay d rc rs [.ref (hd 27 i0), .int x1, .int x2, .int x3] μ Q := Cal.of (by decide +kernel) rfl rfl (Nat.le_of_ble_eq_true rfl) rfl hk
set_option maxHeartbeats 4000000 in
set_option maxRecDepth 20000 in
theorem g_Rd_lay_23 {d rc rs : Nat} {Q : Option Value → Mu → Prop} {μ : Mu} {i0 : Nat} {x4 : Int32} (hD : 1 ≤ d) (h0 : i0 < 32) (hS : St μ)
    (hF : (((nI 60) ≤ x4 → Q none μ) ∧ (¬ (nI 60) ≤ x4 → (vp_in x4 60 ∧ Wx K_Rd_lay d rc rs Q 23 [(0, .ref (hd 27 i0)), (4, .int (x4 + 1))] [] (setI μ (hd 28 i0) x4.toNatClampNeg (-1)))))) : Wx K_Rd_lay d rc rs Q 23 [(0, .ref (hd 27 i0)), (4, .int x4)] [] μ := by
  refine Wa.iload (j := 1) d_Rd_lay_23 rfl ?_
  refine Wa.aload_n (j := 0) d_Rd_lay_25 rfl ?_
  refine Wx.getR 7 0 d_Rd_lay_26 f_Rd_0 rfl fl_Rd_9 (s_27 hS h0) (r_27_0 hS h0) ?_
  refine Wa.alen d_Rd_lay_29 (s_28 hS h0) (by decide) ?_
  refine Wa.icmp_ge 47 d_Rd_lay_30 (by decide) (fun hb => ?_) (fun hb => ?_)
  · have hF := hF.1 hb
    exact Wx.retv d_Rd_lay_47 rfl hF
  · have hF := hF.2 hb
    refine Wa.aload_n (j := 0) d_Rd_lay_33 rfl ?_
    refine Wx.getR 7 0 d_Rd_lay_34 f_Rd_0 rfl fl_Rd_9 (s_27 hS h0) (r_27_0 hS h0) ?_
    refine Wa.iload (j := 1) d_Rd_lay_37 rfl ?_
    refine Wa.iconst (v := (-1)) d_Rd_lay_39 rfl ?_
    have hc1 := hF.1
    have hF := hF.2
    have hlhc1 := vp_in_lt hc1
    refine Wa.iast d_Rd_lay_40 w_28 (s_28 hS h0) hc1 ?_
    refine Wa.iinc (i := 4) (j := 1) (v := (x4 + 1)) (L' := [(4, .int (x4 + 1)), (0, .ref (hd 27 i0))]) d_Rd_lay_41 rfl rfl (by decide) rfl ?_
    refine Wa.goto 23 d_Rd_lay_44 (by decide) ?_
    exact Wa.loc [1, 0] rfl hF
set_option maxHeartbeats 4000000 in
set_option maxRecDepth 20000 in
theorem g_Rd_copyFrom_0 {d rc rs : Nat} {Q : Option Value → Mu → Prop} {μ : Mu} {i0 : Nat} {i1 : Nat} (hD : 1 ≤ d) (h0 : i0 < 32) (h1 : i1 < 32) (hS : St μ)
    (hF : ((¬ (0 : Int32) < 0 ∧ ¬ (0 : Int32) < 0 ∧ ¬ (nI 60) < 0 ∧ (0 : Int32).toNatClampNeg + (nI 60).toNatClampNeg ≤ 60 ∧ (0 : Int32).toNatClampNeg + (nI 60).toNatClampNeg ≤ 60) ∧ (∀ μ2 : Mu, μ2 = (setI (cpI μ (hd 28 i1) (hd 28 i0) (0 : Int32).toNatClampNeg (0 : Int32).toNatClampNeg (nI 60).toNatClampNeg) (hd 27 i0) 1 (mI (cpI μ (hd 28 i1) (hd 28 i0) (0 : Int32).toNatClampNeg (0 : Int32).toNatClampNeg (nI 60).toNatClampNeg) (hd 27 i1) 1)) → (∀ μ3 : Mu, μ3 = (setI (setI (setI μ2 (hd 27 i0) 2 (mI μ2 (hd 27 i1) 2)) (hd 27 i0) 3 (mI (setI μ2 (hd 27 i0) 2 (mI μ2 (hd 27 i1) 2)) (hd 27 i1) 3)) (hd 27 i0) 4 (mI (setI (setI μ2 (hd 27 i0) 2 (mI μ2 (hd 27 i1) 2)) (hd 27 i0) 3 (mI (setI μ2 (hd 27 i0) 2 (mI μ2 (hd 27 i1) 2)) (hd 27 i1) 3)) (hd 27 i1) 4)) → Q none μ3)))) : Wx K_Rd_copyFrom d rc rs Q 0 [(0, .ref (hd 27 i0)), (1, .ref (hd 27 i1))] [] μ := by
  refine Wa.aload_n (j := 1) d_Rd_copyFrom_0 rfl ?_
  refine Wx.getR 7 0 d_Rd_copyFrom_1 f_Rd_0 rfl fl_Rd_9 (s_27 hS h1) (r_27_0 hS h1) ?_
  refine Wa.iconst (v := 0) d_Rd_copyFrom_4 rfl ?_
  refine Wa.aload_n (j := 0) d_Rd_copyFrom_5 rfl ?_
  refine Wx.getR 7 0 d_Rd_copyFrom_6 f_Rd_0 rfl fl_Rd_9 (s_27 hS h0) (r_27_0 hS h0) ?_
  refine Wa.iconst (v := 0) d_Rd_copyFrom_9 rfl ?_
  refine Wa.aload_n (j := 0) d_Rd_copyFrom_10 rfl ?_
  refine Wx.getR 7 0 d_Rd_copyFrom_11 f_Rd_0 rfl fl_Rd_9 (s_27 hS h0) (r_27_0 hS h0) ?_
  refine Wa.alen d_Rd_copyFrom_14 (s_28 hS h0) (by decide) ?_
  have hc1 := hF.1
  have hF := hF.2
  refine Wa.copyI d_Rd_copyFrom_15 ml_Rd_28 cp_1 cp_2 cp_3 (Nat.le_of_ble_eq_true rfl) hD w_28 w_28 (s_28 hS h1) (s_28 hS h0) hc1.1 hc1.2.1 hc1.2.2.1 hc1.2.2.2.1 hc1.2.2.2.2 ?_
  refine Wa.aload_n (j := 0) d_Rd_copyFrom_18 rfl ?_
  refine Wa.aload_n (j := 1) d_Rd_copyFrom_19 rfl ?_
  refine Wx.getI 7 1 d_Rd_copyFrom_20 f_Rd_1 fl_Rd_15 w_27 (s_27 hS h1) ?_
  refine Wx.putI 7 1 d_Rd_copyFrom_23 f_Rd_1 ok_Rd fl_Rd_15 (Or.inl rfl) w_27 (s_27 hS h0) ?_
  suffices hh : ∀ μ2 : Mu, μ2 = (setI (cpI μ (hd 28 i1) (hd 28 i0) (0 : Int32).toNatClampNeg (0 : Int32).toNatClampNeg (nI 60).toNatClampNeg) (hd 27 i0) 1 (mI (cpI μ (hd 28 i1) (hd 28 i0) (0 : Int32).toNatClampNeg (0 : Int32).toNatClampNeg (nI 60).toNatClampNeg) (hd 27 i1) 1)) → Wx K_Rd_copyFrom d rc rs Q 26 [(0, .ref (hd 27 i0)), (1, .ref (hd 27 i1))] [] μ2 from hh _ rfl
  intro μ2 em
  have hF := hF μ2 em
  have hS : St μ2 := by rw [em]; exact hS
  refine Wa.aload_n (j := 0) d_Rd_copyFrom_26 rfl ?_
  refine Wa.aload_n (j := 1) d_Rd_copyFrom_27 rfl ?_
  refine Wx.getI 7 2 d_Rd_copyFrom_28 f_Rd_2 fl_Rd_19 w_27 (s_27 hS h1) ?_
  refine Wx.putI 7 2 d_Rd_copyFrom_31 f_Rd_2 ok_Rd fl_Rd_19 (Or.inl rfl) w_27 (s_27 hS h0) ?_
  refine Wa.aload_n (j := 0) d_Rd_copyFrom_34 rfl ?_
  refine Wa.aload_n (j := 1) d_Rd_copyFrom_35 rfl ?_
  refine Wx.getI 7 3 d_Rd_copyFrom_36 f_Rd_3 fl_Rd_22 w_27 (s_27 hS h1) ?_
  refine Wx.putI 7 3 d_Rd_copyFrom_39 f_Rd_3 ok_Rd fl_Rd_22 (Or.inl rfl) w_27 (s_27 hS h0) ?_
  refine Wa.aload_n (j := 0) d_Rd_copyFrom_42 rfl ?_
  refine Wa.aload_n (j := 1) d_Rd_copyFrom_43 rfl ?_
  refine Wx.getI 7 4 d_Rd_copyFrom_44 f_Rd_4 fl_Rd_25 w_27 (s_27 hS h1) ?_
  refine Wx.putI 7 4 d_Rd_copyFrom_47 f_Rd_4 ok_Rd fl_Rd_25 (Or.inl rfl) w_27 (s_27 hS h0) ?_
  suffices hh : ∀ μ3 : Mu, μ3 = (setI (setI (setI μ2 (hd 27 i0) 2 (mI μ2 (hd 27 i1) 2)) (hd 27 i0) 3 (mI (setI μ2 (hd 27 i0) 2 (mI μ2 (hd 27 i1) 2)) (hd 27 i1) 3)) (hd 27 i0) 4 (mI (setI (setI μ2 (hd 27 i0) 2 (mI μ2 (hd 27 i1) 2)) (hd 27 i0) 3 (mI (setI μ2 (hd 27 i0) 2 (mI μ2 (hd 27 i1) 2)) (hd 27 i1) 3)) (hd 27 i1) 4)) → Wx K_Rd_copyFrom d rc rs Q 50 [(0, .ref (hd 27 i0)), (1, .ref (hd 27 i1))] [] μ3 from hh _ rfl
  intro μ3 em
  have hF := hF μ3 em
  have hS : St μ3 := by rw [em]; exact hS
  exact Wx.retv d_Rd_copyFrom_50 rfl hF
theorem e_Rd_copyFrom {d rc rs : Nat} {Q : Option Value → Mu → Prop} {μ : Mu} {i0 : Nat} {i1 : Nat} (hk : Wx K_Rd_copyFrom d rc rs (fun r μ' => St μ' ∧ Q r μ') 0 [(0, .ref (hd 27 i0)), (1, .ref (hd 27 i1))] [] μ) : Cal K_Rd_copyFrom d rc rs [.ref (hd 27 i0), .ref (hd 27 i1)] μ Q := Cal.of (by decide +kernel) rfl rfl (Nat.le_of_ble_eq_true rfl) rfl hk
