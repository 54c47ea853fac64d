/-! the JDK's text, before there is a component -/
set_option maxHeartbeats 4000000 in
set_option maxRecDepth 20000 in
theorem y_AB_init_d00df_0 {d rc rs : Nat} {Q : Option Value → Mu → Prop} {μ : Mu} {a0 : Nat} {x1 : Int32} (hD : 1 ≤ d)
    (hF : ((¬ x1 < 0 ∧ x1.toNatClampNeg ≤ 1000000 ∧ 1 ≤ rc ∧ x1.toNatClampNeg ≤ rs) ∧ (∃ q2, FreN μ q2 ∧ ((mS (mkA μ q2 (4, x1.toNatClampNeg)) a0 = (1, 12) ∧ hiN a0) ∧ ((mS (setR (mkA μ q2 (4, x1.toNatClampNeg)) a0 0 q2) a0 = (1, 12) ∧ hiN a0) ∧ Q none (setI (setR (mkA μ q2 (4, x1.toNatClampNeg)) a0 0 q2) a0 1 0)))))) : Wx K_AB_init_d00df d rc rs Q 0 [(0, .ref a0), (1, .int x1)] [] μ := by
  refine Wa.aload_n (j := 0) d_AB_init_d00df_0 rfl ?_
  refine Wa.objInit d_AB_init_d00df_1 ol_AB_3 oi_1 oi_2 (Nat.le_of_ble_eq_true rfl) hD ?_
  refine Wx.gets d_AB_init_d00df_4 st_3 sf_AB_18 ?_
  refine Wa.if_eq 25 d_AB_init_d00df_7 (by decide) (fun h => absurd h (by decide)) (fun _ => ?_)
  refine Wa.aload_n (j := 0) d_AB_init_d00df_10 rfl ?_
  refine Wa.iload_n (j := 1) d_AB_init_d00df_11 rfl ?_
  have hc1 := hF.1
  have hF := hF.2
  obtain ⟨q2, hc3, hF⟩ := hF
  refine Wr.newarr 4 x1.toNatClampNeg q2 d_AB_init_d00df_12 ac_byte rfl (by decide) hc1.1 rfl hc1.2.1 hc1.2.2.1 hc1.2.2.2 hc3 ?_
  have hc4 := hF.1
  have hF := hF.2
  refine Wr.putR 12 0 d_AB_init_d00df_14 f_SB_0 rfl ok_SB fl_AB_15 (Or.inl rfl) hc4.1 hc4.2 ?_
  refine Wa.aload_n (j := 0) d_AB_init_d00df_17 rfl ?_
  refine Wa.iconst (v := 0) d_AB_init_d00df_18 rfl ?_
  have hc5 := hF.1
  have hF := hF.2
  refine Wr.putB0 12 1 d_AB_init_d00df_19 f_SB_1 ok_SB fl_AB_22 (Or.inl rfl) hc5.1 hc5.2 ?_
  refine Wa.goto 38 d_AB_init_d00df_22 (by decide) ?_
  exact Wx.retv d_AB_init_d00df_38 rfl hF
theorem z_AB_init_d00df {d rc rs : Nat} {Q : Option Value → Mu → Prop} {μ : Mu} {a0 : Nat} {x1 : Int32} (hk : Wx K_AB_init_d00df d rc rs (fun r μ' => S8 μ' ∧ Q r μ') 0 [(0, .ref a0), (1, .int x1)] [] μ) : CalS K_AB_init_d00df d rc rs [.ref a0, .int x1] μ Q := CalS.of (by decide +kernel) rfl rfl (Nat.le_of_ble_eq_true rfl) rfl hk
set_option maxHeartbeats 4000000 in
set_option maxRecDepth 20000 in
theorem y_AB_length_8abf5_0 {d rc rs : Nat} {Q : Option Value → Mu → Prop} {μ : Mu} {a0 : Nat} (hD : 1 ≤ d)
    (hF : (mS μ a0 = (1, 12) ∧ Q (some (.int (gI μ a0 3))) μ)) : Wx K_AB_length_8abf5 d rc rs Q 0 [(0, .ref a0)] [] μ := by
  refine Wa.aload_n (j := 0) d_AB_length_8abf5_0 rfl ?_
  have hc1 := hF.1
  have hF := hF.2
  refine Wr.getI 12 3 d_AB_length_8abf5_1 f_SB_3 fl_AB_79 hc1 ?_
  exact Wx.reti d_AB_length_8abf5_4 rfl hF
theorem z_AB_length_8abf5 {d rc rs : Nat} {Q : Option Value → Mu → Prop} {μ : Mu} {a0 : Nat} (hk : Wx K_AB_length_8abf5 d rc rs (fun r μ' => S8 μ' ∧ Q r μ') 0 [(0, .ref a0)] [] μ) : CalS K_AB_length_8abf5 d rc rs [.ref a0] μ Q := CalS.of (by decide +kernel) rfl rfl (Nat.le_of_ble_eq_true rfl) rfl hk
set_option maxHeartbeats 4000000 in
set_option maxRecDepth 20000 in
theorem y_AB_ensureCapacityInternal_d00df_0 {d rc rs : Nat} {Q : Option Value → Mu → Prop} {μ : Mu} {a0 : Nat} {x1 : Int32} (hD : 1 ≤ d)
    (hF : (mS μ a0 = (1, 12) ∧ (∃ b2, gR μ a0 0 = some b2 ∧ (∃ n4, mS μ b2 = (4, n4) ∧ (mS μ a0 = (1, 12) ∧ (((x1 - ((nI n4) >>> ((gI μ a0 1) &&& 31))) ≤ 0 → Q none μ) ∧ (¬ (x1 - ((nI n4) >>> ((gI μ a0 1) &&& 31))) ≤ 0 → (mS μ a0 = (1, 12) ∧ (∃ b8, gR μ a0 0 = some b8 ∧ (mS μ a0 = (1, 12) ∧ CalS K_AB_newCapacity_0f7a4 (d - 1) 0 0 [.ref a0, .int x1] μ (fun r μ10 => ∃ y12, r = some (.int y12) ∧ (mS μ10 a0 = (1, 12) ∧ (∃ cc14 ss15 : Nat, (cc14 ≤ rc - 0 ∧ ss15 ≤ rs - 0) ∧ CalS K_Ars_copyOf_9075b (d - 1) cc14 ss15 [.ref b8, .int (y12 <<< ((gI μ10 a0 1) &&& 31))] μ10 (fun r μ17 => ∃ b18, r = some (.ref b18) ∧ ((mS μ17 a0 = (1, 12) ∧ hiN a0) ∧ Q none (setR μ17 a0 0 b18)))))))))))))))) : Wx K_AB_ensureCapacityInternal_d00df d rc rs Q 0 [(0, .ref a0), (1, .int x1)] [] μ := by
  refine Wa.aload_n (j := 0) d_AB_ensureCapacityInternal_d00df_0 rfl ?_
  have hc1 := hF.1
  have hF := hF.2
  obtain ⟨b2, hc3, hF⟩ := hF
  refine Wr.getR 12 0 d_AB_ensureCapacityInternal_d00df_1 f_SB_0 rfl fl_AB_15 hc1 hc3 ?_
  obtain ⟨n4, hc5, hF⟩ := hF
  refine Wa.alen d_AB_ensureCapacityInternal_d00df_4 hc5 (by decide) ?_
  refine Wa.aload_n (j := 0) d_AB_ensureCapacityInternal_d00df_5 rfl ?_
  have hc6 := hF.1
  have hF := hF.2
  refine Wr.getB 12 1 d_AB_ensureCapacityInternal_d00df_6 f_SB_1 fl_AB_22 hc6 ?_
  refine Wa.ishr d_AB_ensureCapacityInternal_d00df_9 ?_
  refine Wa.istore_n (i := 2) (L' := [(2, .int ((nI n4) >>> ((gI μ a0 1) &&& 31))), (0, .ref a0), (1, .int x1)]) d_AB_ensureCapacityInternal_d00df_10 rfl (by decide) rfl ?_
  refine Wa.iload_n (j := 2) d_AB_ensureCapacityInternal_d00df_11 rfl ?_
  refine Wa.iload_n (j := 0) d_AB_ensureCapacityInternal_d00df_12 rfl ?_
  refine Wa.isub d_AB_ensureCapacityInternal_d00df_13 ?_
  refine Wa.if_le 38 d_AB_ensureCapacityInternal_d00df_14 (by decide) (fun hb => ?_) (fun hb => ?_)
  · have hF := hF.1 hb
    exact Wx.retv d_AB_ensureCapacityInternal_d00df_38 rfl hF
  · have hF := hF.2 hb
    refine Wa.aload_n (j := 1) d_AB_ensureCapacityInternal_d00df_17 rfl ?_
    refine Wa.aload_n (j := 1) d_AB_ensureCapacityInternal_d00df_18 rfl ?_
    have hc7 := hF.1
    have hF := hF.2
    obtain ⟨b8, hc9, hF⟩ := hF
    refine Wr.getR 12 0 d_AB_ensureCapacityInternal_d00df_19 f_SB_0 rfl fl_AB_15 hc7 hc9 ?_
    refine Wa.aload_n (j := 1) d_AB_ensureCapacityInternal_d00df_22 rfl ?_
    refine Wa.iload_n (j := 2) d_AB_ensureCapacityInternal_d00df_23 rfl ?_
    have hc11 := hF.1
    have hF := hF.2
    refine Ws.cNi (q := E_SB) (As := [.int x1]) 12 (d - 1) 0 0 _ d_AB_ensureCapacityInternal_d00df_24 mok_AB_newCapacity_0f7a4 ux_AB_104 rfl rfl rfl (Nat.le_of_ble_eq_true rfl) (by omega) (Nat.zero_le _) (Nat.zero_le _) hc11 hF (fun y12 μ10 hS hF => ?_)
    refine Wa.aload_n (j := 1) d_AB_ensureCapacityInternal_d00df_27 rfl ?_
    have hc13 := hF.1
    have hF := hF.2
    refine Wr.getB 12 1 d_AB_ensureCapacityInternal_d00df_28 f_SB_1 fl_AB_22 hc13 ?_
    refine Wa.ishl d_AB_ensureCapacityInternal_d00df_31 ?_
    obtain ⟨cc14, ss15, hc16, hF⟩ := hF
    refine Ws.cSr (As := [.ref b8, .int (y12 <<< ((gI μ10 a0 1) &&& 31))]) (d - 1) cc14 ss15 _ d_AB_ensureCapacityInternal_d00df_32 mok_Ars_copyOf_9075b sl_AB_108 rfl rfl (Nat.le_of_ble_eq_true rfl) (by omega) hc16.1 hc16.2 hF (fun b18 μ17 hS hF => ?_)
    have hc19 := hF.1
    have hF := hF.2
    refine Wr.putR 12 0 d_AB_ensureCapacityInternal_d00df_35 f_SB_0 rfl ok_SB fl_AB_15 (Or.inl rfl) hc19.1 hc19.2 ?_
    exact Wx.retv d_AB_ensureCapacityInternal_d00df_38 rfl hF
theorem z_AB_ensureCapacityInternal_d00df {d rc rs : Nat} {Q : Option Value → Mu → Prop} {μ : Mu} {a0 : Nat} {x1 : Int32} (hk : Wx K_AB_ensureCapacityInternal_d00df d rc rs (fun r μ' => S8 μ' ∧ Q r μ') 0 [(0, .ref a0), (1, .int x1)] [] μ) : CalS K_AB_ensureCapacityInternal_d00df d rc rs [.ref a0, .int x1] μ Q := CalS.of (by decide +kernel) rfl rfl (Nat.le_of_ble_eq_true rfl) rfl hk
set_option maxHeartbeats 4000000 in
set_option maxRecDepth 20000 in
theorem y_AB_newCapacity_0f7a4_0 {d rc rs : Nat} {Q : Option Value → Mu → Prop} {μ : Mu} {a0 : Nat} {x1 : Int32} (hD : 1 ≤ d)
    (hF : (mS μ a0 = (1, 12) ∧ (∃ b2, gR μ a0 0 = some b2 ∧ (∃ n4, mS μ b2 = (4, n4) ∧ (mS μ a0 = (1, 12) ∧ (mS μ a0 = (1, 12) ∧ CalS K_Asu_newLength_cabcc (d - 1) 0 0 [.int (nI n4), .int ((x1 <<< ((gI μ a0 1) &&& 31)) - (nI n4)), .int ((nI n4) + ((2 : Int32) <<< ((gI μ a0 1) &&& 31)))] μ (fun r μ8 => ∃ y9, r = some (.int y9) ∧ ((y9 = 2147483647 → False) ∧ (¬ y9 = 2147483647 → (mS μ8 a0 = (1, 12) ∧ Q (some (.int (y9 >>> ((gI μ8 a0 1) &&& 31)))) μ8)))))))))) : Wx K_AB_newCapacity_0f7a4 d rc rs Q 0 [(0, .ref a0), (1, .int x1)] [] μ := by
  refine Wa.aload_n (j := 0) d_AB_newCapacity_0f7a4_0 rfl ?_
  have hc1 := hF.1
  have hF := hF.2
  obtain ⟨b2, hc3, hF⟩ := hF
  refine Wr.getR 12 0 d_AB_newCapacity_0f7a4_1 f_SB_0 rfl fl_AB_15 hc1 hc3 ?_
  obtain ⟨n4, hc5, hF⟩ := hF
  refine Wa.alen d_AB_newCapacity_0f7a4_4 hc5 (by decide) ?_
  refine Wa.istore_n (i := 2) (L' := [(2, .int (nI n4)), (0, .ref a0), (1, .int x1)]) d_AB_newCapacity_0f7a4_5 rfl (by decide) rfl ?_
  refine Wa.iload_n (j := 2) d_AB_newCapacity_0f7a4_6 rfl ?_
  refine Wa.aload_n (j := 1) d_AB_newCapacity_0f7a4_7 rfl ?_
  have hc6 := hF.1
  have hF := hF.2
  refine Wr.getB 12 1 d_AB_newCapacity_0f7a4_8 f_SB_1 fl_AB_22 hc6 ?_
  refine Wa.ishl d_AB_newCapacity_0f7a4_11 ?_
  refine Wa.istore_n (i := 3) (L' := [(3, .int (x1 <<< ((gI μ a0 1) &&& 31))), (2, .int (nI n4)), (0, .ref a0), (1, .int x1)]) d_AB_newCapacity_0f7a4_12 rfl (by decide) rfl ?_
  refine Wa.iload_n (j := 0) d_AB_newCapacity_0f7a4_13 rfl ?_
  refine Wa.iload_n (j := 1) d_AB_newCapacity_0f7a4_14 rfl ?_
  refine Wa.isub d_AB_newCapacity_0f7a4_15 ?_
  refine Wa.istore (i := 4) (L' := [(4, .int ((x1 <<< ((gI μ a0 1) &&& 31)) - (nI n4))), (3, .int (x1 <<< ((gI μ a0 1) &&& 31))), (2, .int (nI n4)), (0, .ref a0), (1, .int x1)]) d_AB_newCapacity_0f7a4_16 (by decide) rfl ?_
  refine Wa.iload_n (j := 2) d_AB_newCapacity_0f7a4_18 rfl ?_
  refine Wa.iload (j := 0) d_AB_newCapacity_0f7a4_19 rfl ?_
  refine Wa.iload_n (j := 2) d_AB_newCapacity_0f7a4_21 rfl ?_
  refine Wa.iconst (v := 2) d_AB_newCapacity_0f7a4_22 rfl ?_
  refine Wa.aload_n (j := 3) d_AB_newCapacity_0f7a4_23 rfl ?_
  have hc7 := hF.1
  have hF := hF.2
  refine Wr.getB 12 1 d_AB_newCapacity_0f7a4_24 f_SB_1 fl_AB_22 hc7 ?_
  refine Wa.ishl d_AB_newCapacity_0f7a4_27 ?_
  refine Wa.iadd d_AB_newCapacity_0f7a4_28 ?_
  refine Wt.cSi (As := [.int (nI n4), .int ((x1 <<< ((gI μ a0 1) &&& 31)) - (nI n4)), .int ((nI n4) + ((2 : Int32) <<< ((gI μ a0 1) &&& 31)))]) (d - 1) 0 0 _ d_AB_newCapacity_0f7a4_29 mok_Asu_newLength_cabcc sl_AB_114 rfl rfl (Nat.le_of_ble_eq_true rfl) (by omega) (Nat.zero_le _) (Nat.zero_le _) hF (fun y9 μ8 hS hF => ?_)
  refine Wa.istore (i := 5) (L' := [(5, .int y9), (4, .int ((x1 <<< ((gI μ a0 1) &&& 31)) - (nI n4))), (3, .int (x1 <<< ((gI μ a0 1) &&& 31))), (2, .int (nI n4)), (0, .ref a0), (1, .int x1)]) d_AB_newCapacity_0f7a4_32 (by decide) rfl ?_
  refine Wa.iload (j := 0) d_AB_newCapacity_0f7a4_34 rfl ?_
  refine Wa.ldc d_AB_newCapacity_0f7a4_36 k_AB_39 ?_
  refine Wa.icmp_ne 51 d_AB_newCapacity_0f7a4_38 (by decide) (fun hb => ?_) (fun hb => ?_)
  · have hF := hF.2 hb
    refine Wa.iload (j := 0) d_AB_newCapacity_0f7a4_51 rfl ?_
    refine Wa.aload_n (j := 4) d_AB_newCapacity_0f7a4_53 rfl ?_
    have hc10 := hF.1
    have hF := hF.2
    refine Wr.getB 12 1 d_AB_newCapacity_0f7a4_54 f_SB_1 fl_AB_22 hc10 ?_
    refine Wa.ishr d_AB_newCapacity_0f7a4_57 ?_
    exact Wx.reti d_AB_newCapacity_0f7a4_58 rfl hF
  · have hF := hF.1 hb
    exact hF.elim
theorem z_AB_newCapacity_0f7a4 {d rc rs : Nat} {Q : Option Value → Mu → Prop} {μ : Mu} {a0 : Nat} {x1 : Int32} (hk : Wx K_AB_newCapacity_0f7a4 d rc rs (fun r μ' => S8 μ' ∧ Q r μ') 0 [(0, .ref a0), (1, .int x1)] [] μ) : CalS K_AB_newCapacity_0f7a4 d rc rs [.ref a0, .int x1] μ Q := CalS.of (by decide +kernel) rfl rfl (Nat.le_of_ble_eq_true rfl) rfl hk
set_option maxHeartbeats 4000000 in
set_option maxRecDepth 20000 in
theorem y_AB_append_cf1ce_0 {d rc rs : Nat} {Q : Option Value → Mu → Prop} {μ : Mu} {a0 : Nat} {a1 : Nat} (hD : 1 ≤ d)
    (hF : (mS μ a1 = (1, 15) ∧ CalS K_Str_length_8abf5 (d - 1) 0 0 [.ref a1] μ (fun r μ1 => ∃ y3, r = some (.int y3) ∧ (mS μ1 a0 = (1, 12) ∧ (∃ cc5 ss6 : Nat, (cc5 ≤ rc - 0 ∧ ss6 ≤ rs - 0) ∧ (mS μ1 a0 = (1, 12) ∧ CalS K_AB_ensureCapacityInternal_d00df (d - 1) cc5 ss6 [.ref a0, .int ((gI μ1 a0 3) + y3)] μ1 (fun r μ8 => r = none ∧ (mS μ8 a0 = (1, 12) ∧ (mS μ8 a0 = (1, 12) ∧ CalS K_AB_putStringAt_47b60 (d - 1) 0 0 [.ref a0, .int (gI μ8 a0 3), .ref a1] μ8 (fun r μ11 => r = none ∧ (mS μ11 a0 = (1, 12) ∧ ((mS μ11 a0 = (1, 12) ∧ hiN a0) ∧ Q (some (.ref a0)) (setI μ11 a0 3 ((gI μ11 a0 3) + y3)))))))))))))) : Wx K_AB_append_cf1ce d rc rs Q 0 [(0, .ref a0), (1, .ref a1)] [] μ := by
  refine Wa.aload_n (j := 1) d_AB_append_cf1ce_0 rfl ?_
  refine Wa.ifnonnull 9 d_AB_append_cf1ce_1 (by decide) ?_
  refine Wa.aload_n (j := 1) d_AB_append_cf1ce_9 rfl ?_
  have hc2 := hF.1
  have hF := hF.2
  refine Wt.cVi (q := E_Str) (As := []) 15 (d - 1) 0 0 _ d_AB_append_cf1ce_10 mok_Str_length_8abf5 vl_AB_32 rfl rfl rfl (Nat.le_of_ble_eq_true rfl) (by omega) (Nat.zero_le _) (Nat.zero_le _) hc2 hF (fun y3 μ1 hS hF => ?_)
  refine Wa.istore_n (i := 2) (L' := [(2, .int y3), (0, .ref a0), (1, .ref a1)]) d_AB_append_cf1ce_13 rfl (by decide) rfl ?_
  refine Wa.aload_n (j := 1) d_AB_append_cf1ce_14 rfl ?_
  refine Wa.aload_n (j := 1) d_AB_append_cf1ce_15 rfl ?_
  have hc4 := hF.1
  have hF := hF.2
  refine Wr.getI 12 3 d_AB_append_cf1ce_16 f_SB_3 fl_AB_79 hc4 ?_
  refine Wa.iload_n (j := 0) d_AB_append_cf1ce_19 rfl ?_
  refine Wa.iadd d_AB_append_cf1ce_20 ?_
  obtain ⟨cc5, ss6, hc7, hF⟩ := hF
  have hc9 := hF.1
  have hF := hF.2
  refine Ws.cNv (q := E_SB) (As := [.int ((gI μ1 a0 3) + y3)]) 12 (d - 1) cc5 ss6 _ d_AB_append_cf1ce_21 mok_AB_ensureCapacityInternal_d00df ux_AB_100 rfl rfl rfl (Nat.le_of_ble_eq_true rfl) (by omega) hc7.1 hc7.2 hc9 hF (fun μ8 hS hF => ?_)
  refine Wa.aload_n (j := 1) d_AB_append_cf1ce_24 rfl ?_
  refine Wa.aload_n (j := 1) d_AB_append_cf1ce_25 rfl ?_
  have hc10 := hF.1
  have hF := hF.2
  refine Wr.getI 12 3 d_AB_append_cf1ce_26 f_SB_3 fl_AB_79 hc10 ?_
  refine Wa.aload_n (j := 2) d_AB_append_cf1ce_29 rfl ?_
  have hc12 := hF.1
  have hF := hF.2
  refine Ws.cNv (q := E_SB) (As := [.int (gI μ8 a0 3), .ref a1]) 12 (d - 1) 0 0 _ d_AB_append_cf1ce_30 mok_AB_putStringAt_47b60 ux_AB_208 rfl rfl rfl (Nat.le_of_ble_eq_true rfl) (by omega) (Nat.zero_le _) (Nat.zero_le _) hc12 hF (fun μ11 hS hF => ?_)
  refine Wa.aload_n (j := 1) d_AB_append_cf1ce_33 rfl ?_
  refine Wa.dup d_AB_append_cf1ce_34 rfl ?_
  have hc13 := hF.1
  have hF := hF.2
  refine Wr.getI 12 3 d_AB_append_cf1ce_35 f_SB_3 fl_AB_79 hc13 ?_
  refine Wa.iload_n (j := 0) d_AB_append_cf1ce_38 rfl ?_
  refine Wa.iadd d_AB_append_cf1ce_39 ?_
  have hc14 := hF.1
  have hF := hF.2
  refine Wr.putI 12 3 d_AB_append_cf1ce_40 f_SB_3 ok_SB fl_AB_79 (Or.inl rfl) hc14.1 hc14.2 ?_
  refine Wa.aload_n (j := 1) d_AB_append_cf1ce_43 rfl ?_
  exact Wx.reta d_AB_append_cf1ce_44 rfl hF
theorem z_AB_append_cf1ce {d rc rs : Nat} {Q : Option Value → Mu → Prop} {μ : Mu} {a0 : Nat} {a1 : Nat} (hk : Wx K_AB_append_cf1ce d rc rs (fun r μ' => S8 μ' ∧ Q r μ') 0 [(0, .ref a0), (1, .ref a1)] [] μ) : CalS K_AB_append_cf1ce d rc rs [.ref a0, .ref a1] μ Q := CalS.of (by decide +kernel) rfl rfl (Nat.le_of_ble_eq_true rfl) rfl hk
set_option maxHeartbeats 4000000 in
set_option maxRecDepth 20000 in
theorem y_AB_append_c97b9_0 {d rc rs : Nat} {Q : Option Value → Mu → Prop} {μ : Mu} {a0 : Nat} {x1 : Int32} (hD : 1 ≤ d)
    (hF : (mS μ a0 = (1, 12) ∧ CalS K_JI_stringSize_0f7a4 (d - 1) 0 0 [.int x1] μ (fun r μ2 => ∃ y3, r = some (.int y3) ∧ (∃ cc4 ss5 : Nat, (cc4 ≤ rc - 0 ∧ ss5 ≤ rs - 0) ∧ (mS μ2 a0 = (1, 12) ∧ CalS K_AB_ensureCapacityInternal_d00df (d - 1) cc4 ss5 [.ref a0, .int ((gI μ a0 3) + y3)] μ2 (fun r μ7 => r = none ∧ (mS μ7 a0 = (1, 12) ∧ CalS K_AB_isLatin1_aae02 (d - 1) 0 0 [.ref a0] μ7 (fun r μ9 => ∃ y11, r = some (.int y11) ∧ ((y11 = 0 → False) ∧ (¬ y11 = 0 → (mS μ9 a0 = (1, 12) ∧ (∃ b13, gR μ9 a0 0 = some b13 ∧ CalS K_JI_getChars_ba4f3 (d - 1) 0 0 [.int x1, .int ((gI μ a0 3) + y3), .ref b13] μ9 (fun r μ15 => ∃ y16, r = some (.int y16) ∧ ((mS μ15 a0 = (1, 12) ∧ hiN a0) ∧ Q (some (.ref a0)) (setI μ15 a0 3 ((gI μ a0 3) + y3)))))))))))))))) : Wx K_AB_append_c97b9 d rc rs Q 0 [(0, .ref a0), (1, .int x1)] [] μ := by
  refine Wa.aload_n (j := 0) d_AB_append_c97b9_0 rfl ?_
  have hc1 := hF.1
  have hF := hF.2
  refine Wr.getI 12 3 d_AB_append_c97b9_1 f_SB_3 fl_AB_79 hc1 ?_
  refine Wa.istore_n (i := 2) (L' := [(2, .int (gI μ a0 3)), (0, .ref a0), (1, .int x1)]) d_AB_append_c97b9_4 rfl (by decide) rfl ?_
  refine Wa.iload_n (j := 0) d_AB_append_c97b9_5 rfl ?_
  refine Wa.iload_n (j := 2) d_AB_append_c97b9_6 rfl ?_
  refine Wt.cSi (As := [.int x1]) (d - 1) 0 0 _ d_AB_append_c97b9_7 mok_JI_stringSize_0f7a4 sl_AB_245 rfl rfl (Nat.le_of_ble_eq_true rfl) (by omega) (Nat.zero_le _) (Nat.zero_le _) hF (fun y3 μ2 hS hF => ?_)
  refine Wa.iadd d_AB_append_c97b9_10 ?_
  refine Wa.istore_n (i := 3) (L' := [(3, .int ((gI μ a0 3) + y3)), (2, .int (gI μ a0 3)), (0, .ref a0), (1, .int x1)]) d_AB_append_c97b9_11 rfl (by decide) rfl ?_
  refine Wa.aload_n (j := 2) d_AB_append_c97b9_12 rfl ?_
  refine Wa.iload_n (j := 0) d_AB_append_c97b9_13 rfl ?_
  obtain ⟨cc4, ss5, hc6, hF⟩ := hF
  have hc8 := hF.1
  have hF := hF.2
  refine Ws.cNv (q := E_SB) (As := [.int ((gI μ a0 3) + y3)]) 12 (d - 1) cc4 ss5 _ d_AB_append_c97b9_14 mok_AB_ensureCapacityInternal_d00df ux_AB_100 rfl rfl rfl (Nat.le_of_ble_eq_true rfl) (by omega) hc6.1 hc6.2 hc8 hF (fun μ7 hS hF => ?_)
  refine Wa.aload_n (j := 2) d_AB_append_c97b9_17 rfl ?_
  have hc10 := hF.1
  have hF := hF.2
  refine Ws.cNi (q := E_SB) (As := []) 12 (d - 1) 0 0 _ d_AB_append_c97b9_18 mok_AB_isLatin1_aae02 ux_AB_83 rfl rfl rfl (Nat.le_of_ble_eq_true rfl) (by omega) (Nat.zero_le _) (Nat.zero_le _) hc10 hF (fun y11 μ9 hS hF => ?_)
  refine Wa.if_eq 37 d_AB_append_c97b9_21 (by decide) (fun hb => ?_) (fun hb => ?_)
  · have hF := hF.1 hb
    exact hF.elim
  · have hF := hF.2 hb
    refine Wa.iload_n (j := 3) d_AB_append_c97b9_24 rfl ?_
    refine Wa.iload_n (j := 0) d_AB_append_c97b9_25 rfl ?_
    refine Wa.aload_n (j := 2) d_AB_append_c97b9_26 rfl ?_
    have hc12 := hF.1
    have hF := hF.2
    obtain ⟨b13, hc14, hF⟩ := hF
    refine Wr.getR 12 0 d_AB_append_c97b9_27 f_SB_0 rfl fl_AB_15 hc12 hc14 ?_
    refine Wt.cSi (As := [.int x1, .int ((gI μ a0 3) + y3), .ref b13]) (d - 1) 0 0 _ d_AB_append_c97b9_30 mok_JI_getChars_ba4f3 sl_AB_248 rfl rfl (Nat.le_of_ble_eq_true rfl) (by omega) (Nat.zero_le _) (Nat.zero_le _) hF (fun y16 μ15 hS hF => ?_)
    refine Wa.pop d_AB_append_c97b9_33 rfl ?_
    refine Wa.goto 48 d_AB_append_c97b9_34 (by decide) ?_
    refine Wa.aload_n (j := 2) d_AB_append_c97b9_48 rfl ?_
    refine Wa.iload_n (j := 0) d_AB_append_c97b9_49 rfl ?_
    have hc17 := hF.1
    have hF := hF.2
    refine Wr.putI 12 3 d_AB_append_c97b9_50 f_SB_3 ok_SB fl_AB_79 (Or.inl rfl) hc17.1 hc17.2 ?_
    refine Wa.aload_n (j := 2) d_AB_append_c97b9_53 rfl ?_
    exact Wx.reta d_AB_append_c97b9_54 rfl hF
theorem z_AB_append_c97b9 {d rc rs : Nat} {Q : Option Value → Mu → Prop} {μ : Mu} {a0 : Nat} {x1 : Int32} (hk : Wx K_AB_append_c97b9 d rc rs (fun r μ' => S8 μ' ∧ Q r μ') 0 [(0, .ref a0), (1, .int x1)] [] μ) : CalS K_AB_append_c97b9 d rc rs [.ref a0, .int x1] μ Q := CalS.of (by decide +kernel) rfl rfl (Nat.le_of_ble_eq_true rfl) rfl hk
set_option maxHeartbeats 4000000 in
set_option maxRecDepth 20000 in
theorem y_AB_getValue_6d5f1_0 {d rc rs : Nat} {Q : Option Value → Mu → Prop} {μ : Mu} {a0 : Nat} (hD : 1 ≤ d)
    (hF : (mS μ a0 = (1, 12) ∧ (∃ b2, gR μ a0 0 = some b2 ∧ Q (some (.ref b2)) μ))) : Wx K_AB_getValue_6d5f1 d rc rs Q 0 [(0, .ref a0)] [] μ := by
  refine Wa.aload_n (j := 0) d_AB_getValue_6d5f1_0 rfl ?_
  have hc1 := hF.1
  have hF := hF.2
  obtain ⟨b2, hc3, hF⟩ := hF
  refine Wr.getR 12 0 d_AB_getValue_6d5f1_1 f_SB_0 rfl fl_AB_15 hc1 hc3 ?_
  exact Wx.retA d_AB_getValue_6d5f1_4 rfl hF
theorem z_AB_getValue_6d5f1 {d rc rs : Nat} {Q : Option Value → Mu → Prop} {μ : Mu} {a0 : Nat} (hk : Wx K_AB_getValue_6d5f1 d rc rs (fun r μ' => S8 μ' ∧ Q r μ') 0 [(0, .ref a0)] [] μ) : CalS K_AB_getValue_6d5f1 d rc rs [.ref a0] μ Q := CalS.of (by decide +kernel) rfl rfl (Nat.le_of_ble_eq_true rfl) rfl hk
set_option maxHeartbeats 4000000 in
set_option maxRecDepth 20000 in
theorem y_AB_isLatin1_aae02_0 {d rc rs : Nat} {Q : Option Value → Mu → Prop} {μ : Mu} {a0 : Nat} (hD : 1 ≤ d)
    (hF : (mS μ a0 = (1, 12) ∧ (((gI μ a0 1) = 0 → Q (some (.int 1)) μ) ∧ (¬ (gI μ a0 1) = 0 → Q (some (.int 0)) μ)))) : Wx K_AB_isLatin1_aae02 d rc rs Q 0 [(0, .ref a0)] [] μ := by
  refine Wx.gets d_AB_isLatin1_aae02_0 st_3 sf_AB_18 ?_
  refine Wa.if_eq 17 d_AB_isLatin1_aae02_3 (by decide) (fun h => absurd h (by decide)) (fun _ => ?_)
  refine Wa.aload_n (j := 0) d_AB_isLatin1_aae02_6 rfl ?_
  have hc1 := hF.1
  have hF := hF.2
  refine Wr.getB 12 1 d_AB_isLatin1_aae02_7 f_SB_1 fl_AB_22 hc1 ?_
  refine Wa.if_ne 17 d_AB_isLatin1_aae02_10 (by decide) (fun hb => ?_) (fun hb => ?_)
  · have hF := hF.2 hb
    refine Wa.iconst (v := 0) d_AB_isLatin1_aae02_17 rfl ?_
    exact Wx.retz d_AB_isLatin1_aae02_18 rfl (Or.inl rfl) hF
  · have hF := hF.1 hb
    refine Wa.iconst (v := 1) d_AB_isLatin1_aae02_13 rfl ?_
    refine Wa.goto 18 d_AB_isLatin1_aae02_14 (by decide) ?_
    exact Wx.retz d_AB_isLatin1_aae02_18 rfl (Or.inr rfl) hF
theorem z_AB_isLatin1_aae02 {d rc rs : Nat} {Q : Option Value → Mu → Prop} {μ : Mu} {a0 : Nat} (hk : Wx K_AB_isLatin1_aae02 d rc rs (fun r μ' => S8 μ' ∧ Q r μ') 0 [(0, .ref a0)] [] μ) : CalS K_AB_isLatin1_aae02 d rc rs [.ref a0] μ Q := CalS.of (by decide +kernel) rfl rfl (Nat.le_of_ble_eq_true rfl) rfl hk
set_option maxHeartbeats 4000000 in
set_option maxRecDepth 20000 in
theorem y_AB_inflateIfNeededFor_a7421_0 {d rc rs : Nat} {Q : Option Value → Mu → Prop} {μ : Mu} {a0 : Nat} {a1 : Nat} (hD : 1 ≤ d)
    (hF : (mS μ a0 = (1, 12) ∧ (mS μ a1 = (1, 15) ∧ CalS K_Str_coder_7d493 (d - 1) 0 0 [.ref a1] μ (fun r μ2 => ∃ y4, r = some (.int y4) ∧ (((gI μ a0 1) = y4 → Q none μ2) ∧ (¬ (gI μ a0 1) = y4 → False)))))) : Wx K_AB_inflateIfNeededFor_a7421 d rc rs Q 0 [(0, .ref a0), (1, .ref a1)] [] μ := by
  refine Wx.gets d_AB_inflateIfNeededFor_a7421_0 st_3 sf_AB_18 ?_
  refine Wa.if_eq 21 d_AB_inflateIfNeededFor_a7421_3 (by decide) (fun h => absurd h (by decide)) (fun _ => ?_)
  refine Wa.aload_n (j := 0) d_AB_inflateIfNeededFor_a7421_6 rfl ?_
  have hc1 := hF.1
  have hF := hF.2
  refine Wr.getB 12 1 d_AB_inflateIfNeededFor_a7421_7 f_SB_1 fl_AB_22 hc1 ?_
  refine Wa.aload_n (j := 1) d_AB_inflateIfNeededFor_a7421_10 rfl ?_
  have hc3 := hF.1
  have hF := hF.2
  refine Wt.cVi (q := E_Str) (As := []) 15 (d - 1) 0 0 _ d_AB_inflateIfNeededFor_a7421_11 mok_Str_coder_7d493 vl_AB_40 rfl rfl rfl (Nat.le_of_ble_eq_true rfl) (by omega) (Nat.zero_le _) (Nat.zero_le _) hc3 hF (fun y4 μ2 hS hF => ?_)
  refine Wa.icmp_eq 21 d_AB_inflateIfNeededFor_a7421_14 (by decide) (fun hb => ?_) (fun hb => ?_)
  · have hF := hF.1 hb
    exact Wx.retv d_AB_inflateIfNeededFor_a7421_21 rfl hF
  · have hF := hF.2 hb
    exact hF.elim
theorem z_AB_inflateIfNeededFor_a7421 {d rc rs : Nat} {Q : Option Value → Mu → Prop} {μ : Mu} {a0 : Nat} {a1 : Nat} (hk : Wx K_AB_inflateIfNeededFor_a7421 d rc rs (fun r μ' => S8 μ' ∧ Q r μ') 0 [(0, .ref a0), (1, .ref a1)] [] μ) : CalS K_AB_inflateIfNeededFor_a7421 d rc rs [.ref a0, .ref a1] μ Q := CalS.of (by decide +kernel) rfl rfl (Nat.le_of_ble_eq_true rfl) rfl hk
set_option maxHeartbeats 4000000 in
set_option maxRecDepth 20000 in
theorem y_AB_putStringAt_47b60_0 {d rc rs : Nat} {Q : Option Value → Mu → Prop} {μ : Mu} {a0 : Nat} {x1 : Int32} {a2 : Nat} (hD : 1 ≤ d)
    (hF : (mS μ a0 = (1, 12) ∧ CalS K_AB_inflateIfNeededFor_a7421 (d - 1) 0 0 [.ref a0, .ref a2] μ (fun r μ1 => r = none ∧ (mS μ1 a0 = (1, 12) ∧ (∃ b4, gR μ1 a0 0 = some b4 ∧ (mS μ1 a0 = (1, 12) ∧ (mS μ1 a2 = (1, 15) ∧ CalS K_Str_getBytes_840e7 (d - 1) 0 0 [.ref a2, .ref b4, .int x1, .int (gI μ1 a0 1)] μ1 (fun r μ7 => r = none ∧ Q none μ7)))))))) : Wx K_AB_putStringAt_47b60 d rc rs Q 0 [(0, .ref a0), (1, .int x1), (2, .ref a2)] [] μ := by
  refine Wa.aload_n (j := 0) d_AB_putStringAt_47b60_0 rfl ?_
  refine Wa.aload_n (j := 2) d_AB_putStringAt_47b60_1 rfl ?_
  have hc2 := hF.1
  have hF := hF.2
  refine Ws.cNv (q := E_SB) (As := [.ref a2]) 12 (d - 1) 0 0 _ d_AB_putStringAt_47b60_2 mok_AB_inflateIfNeededFor_a7421 ux_AB_397 rfl rfl rfl (Nat.le_of_ble_eq_true rfl) (by omega) (Nat.zero_le _) (Nat.zero_le _) hc2 hF (fun μ1 hS hF => ?_)
  refine Wa.aload_n (j := 2) d_AB_putStringAt_47b60_5 rfl ?_
  refine Wa.aload_n (j := 0) d_AB_putStringAt_47b60_6 rfl ?_
  have hc3 := hF.1
  have hF := hF.2
  obtain ⟨b4, hc5, hF⟩ := hF
  refine Wr.getR 12 0 d_AB_putStringAt_47b60_7 f_SB_0 rfl fl_AB_15 hc3 hc5 ?_
  refine Wa.iload_n (j := 1) d_AB_putStringAt_47b60_10 rfl ?_
  refine Wa.aload_n (j := 0) d_AB_putStringAt_47b60_11 rfl ?_
  have hc6 := hF.1
  have hF := hF.2
  refine Wr.getB 12 1 d_AB_putStringAt_47b60_12 f_SB_1 fl_AB_22 hc6 ?_
  have hc8 := hF.1
  have hF := hF.2
  refine Wt.cVv (q := E_Str) (As := [.ref b4, .int x1, .int (gI μ1 a0 1)]) 15 (d - 1) 0 0 _ d_AB_putStringAt_47b60_15 mok_Str_getBytes_840e7 vl_AB_399 rfl rfl rfl (Nat.le_of_ble_eq_true rfl) (by omega) (Nat.zero_le _) (Nat.zero_le _) hc8 hF (fun μ7 hS hF => ?_)
  exact Wx.retv d_AB_putStringAt_47b60_18 rfl hF
theorem z_AB_putStringAt_47b60 {d rc rs : Nat} {Q : Option Value → Mu → Prop} {μ : Mu} {a0 : Nat} {x1 : Int32} {a2 : Nat} (hk : Wx K_AB_putStringAt_47b60 d rc rs (fun r μ' => S8 μ' ∧ Q r μ') 0 [(0, .ref a0), (1, .int x1), (2, .ref a2)] [] μ) : CalS K_AB_putStringAt_47b60 d rc rs [.ref a0, .int x1, .ref a2] μ Q := CalS.of (by decide +kernel) rfl rfl (Nat.le_of_ble_eq_true rfl) rfl hk
set_option maxHeartbeats 4000000 in
set_option maxRecDepth 20000 in
theorem y_JI_getChars_ba4f3_0 {d rc rs : Nat} {Q : Option Value → Mu → Prop} {μ : Mu} {x0 : Int32} {x1 : Int32} {a2 : Nat} (hD : 1 ≤ d)
    (hF : ((0 ≤ x0 → Wx K_JI_getChars_ba4f3 d rc rs Q 22 [(0, .int (-x0)), (2, .ref a2), (5, .int x1), (6, .int 0)] [] μ) ∧ (¬ 0 ≤ x0 → Wx K_JI_getChars_ba4f3 d rc rs Q 22 [(0, .int x0), (2, .ref a2), (5, .int x1), (6, .int 1)] [] μ))) : Wx K_JI_getChars_ba4f3 d rc rs Q 0 [(0, .int x0), (1, .int x1), (2, .ref a2)] [] μ := by
  refine Wa.iload_n (j := 1) d_JI_getChars_ba4f3_0 rfl ?_
  refine Wa.istore (i := 5) (L' := [(5, .int x1), (0, .int x0), (1, .int x1), (2, .ref a2)]) d_JI_getChars_ba4f3_1 (by decide) rfl ?_
  refine Wa.iload_n (j := 1) d_JI_getChars_ba4f3_3 rfl ?_
  refine Wa.if_ge 11 d_JI_getChars_ba4f3_4 (by decide) (fun hb => ?_) (fun hb => ?_)
  · have hF := hF.1 hb
    refine Wa.iconst (v := 0) d_JI_getChars_ba4f3_11 rfl ?_
    refine Wa.istore (i := 6) (L' := [(6, .int 0), (5, .int x1), (0, .int x0), (1, .int x1), (2, .ref a2)]) d_JI_getChars_ba4f3_12 (by decide) rfl ?_
    refine Wa.iload (j := 0) d_JI_getChars_ba4f3_14 rfl ?_
    refine Wa.if_ne 22 d_JI_getChars_ba4f3_16 (by decide) (fun h => absurd h (by decide)) (fun _ => ?_)
    refine Wa.iload_n (j := 2) d_JI_getChars_ba4f3_19 rfl ?_
    refine Wa.ineg d_JI_getChars_ba4f3_20 ?_
    refine Wa.istore_n (i := 0) (L' := [(0, .int (-x0)), (6, .int 0), (5, .int x1), (1, .int x1), (2, .ref a2)]) d_JI_getChars_ba4f3_21 rfl (by decide) rfl ?_
    exact Wa.loc [0, 4, 2, 1] rfl hF
  · have hF := hF.2 hb
    refine Wa.iconst (v := 1) d_JI_getChars_ba4f3_7 rfl ?_
    refine Wa.goto 12 d_JI_getChars_ba4f3_8 (by decide) ?_
    refine Wa.istore (i := 6) (L' := [(6, .int 1), (5, .int x1), (0, .int x0), (1, .int x1), (2, .ref a2)]) d_JI_getChars_ba4f3_12 (by decide) rfl ?_
    refine Wa.iload (j := 0) d_JI_getChars_ba4f3_14 rfl ?_
    refine Wa.if_ne 22 d_JI_getChars_ba4f3_16 (by decide) (fun _ => ?_) (fun h => absurd h (by decide))
    exact Wa.loc [2, 4, 1, 0] rfl hF
theorem z_JI_getChars_ba4f3 {d rc rs : Nat} {Q : Option Value → Mu → Prop} {μ : Mu} {x0 : Int32} {x1 : Int32} {a2 : Nat} (hk : Wx K_JI_getChars_ba4f3 d rc rs (fun r μ' => S8 μ' ∧ Q r μ') 0 [(0, .int x0), (1, .int x1), (2, .ref a2)] [] μ) : CalS K_JI_getChars_ba4f3 d rc rs [.int x0, .int x1, .ref a2] μ Q := CalS.of (by decide +kernel) rfl rfl (Nat.le_of_ble_eq_true rfl) rfl hk
set_option maxHeartbeats 4000000 in
set_option maxRecDepth 20000 in
theorem y_JI_getChars_ba4f3_22 {d rc rs : Nat} {Q : Option Value → Mu → Prop} {μ : Mu} {x0 : Int32} {a2 : Nat} {x5 : Int32} {x6 : Int32} (hD : 1 ≤ d)
    (hF : (((-100) < x0 → (∃ n1, (mS μ (hd 5 0) = (4, n1) ∧ vp_in (-x0) n1) ∧ (∃ n3, (mS μ a2 = (4, n3) ∧ vp_in (x5 + (-1)) n3 ∧ hiN a2) ∧ (((-9) ≤ x0 → ((x6 = 0 → Q (some (.int (x5 + (-1)))) (setI μ a2 (x5 + (-1)).toNatClampNeg (vp_nar .byte (gI μ (hd 5 0) (-x0).toNatClampNeg)))) ∧ (¬ x6 = 0 → (∃ n5, (mS (setI μ a2 (x5 + (-1)).toNatClampNeg (vp_nar .byte (gI μ (hd 5 0) (-x0).toNatClampNeg))) a2 = (4, n5) ∧ vp_in ((x5 + (-1)) + (-1)) n5 ∧ hiN a2) ∧ Q (some (.int ((x5 + (-1)) + (-1)))) (setI (setI μ a2 (x5 + (-1)).toNatClampNeg (vp_nar .byte (gI μ (hd 5 0) (-x0).toNatClampNeg))) a2 ((x5 + (-1)) + (-1)).toNatClampNeg (vp_nar .byte 45)))))) ∧ (¬ (-9) ≤ x0 → (∃ n7, (mS (setI μ a2 (x5 + (-1)).toNatClampNeg (vp_nar .byte (gI μ (hd 5 0) (-x0).toNatClampNeg))) (hd 5 1) = (4, n7) ∧ vp_in (-x0) n7) ∧ (∃ n9, (mS (setI μ a2 (x5 + (-1)).toNatClampNeg (vp_nar .byte (gI μ (hd 5 0) (-x0).toNatClampNeg))) a2 = (4, n9) ∧ vp_in ((x5 + (-1)) + (-1)) n9 ∧ hiN a2) ∧ ((x6 = 0 → Q (some (.int ((x5 + (-1)) + (-1)))) (setI (setI μ a2 (x5 + (-1)).toNatClampNeg (vp_nar .byte (gI μ (hd 5 0) (-x0).toNatClampNeg))) a2 ((x5 + (-1)) + (-1)).toNatClampNeg (vp_nar .byte (gI (setI μ a2 (x5 + (-1)).toNatClampNeg (vp_nar .byte (gI μ (hd 5 0) (-x0).toNatClampNeg))) (hd 5 1) (-x0).toNatClampNeg)))) ∧ (¬ x6 = 0 → (∃ n11, (mS (setI (setI μ a2 (x5 + (-1)).toNatClampNeg (vp_nar .byte (gI μ (hd 5 0) (-x0).toNatClampNeg))) a2 ((x5 + (-1)) + (-1)).toNatClampNeg (vp_nar .byte (gI (setI μ a2 (x5 + (-1)).toNatClampNeg (vp_nar .byte (gI μ (hd 5 0) (-x0).toNatClampNeg))) (hd 5 1) (-x0).toNatClampNeg))) a2 = (4, n11) ∧ vp_in (((x5 + (-1)) + (-1)) + (-1)) n11 ∧ hiN a2) ∧ (∀ μ13 : Mu, μ13 = (setI (setI (setI μ a2 (x5 + (-1)).toNatClampNeg (vp_nar .byte (gI μ (hd 5 0) (-x0).toNatClampNeg))) a2 ((x5 + (-1)) + (-1)).toNatClampNeg (vp_nar .byte (gI (setI μ a2 (x5 + (-1)).toNatClampNeg (vp_nar .byte (gI μ (hd 5 0) (-x0).toNatClampNeg))) (hd 5 1) (-x0).toNatClampNeg))) a2 (((x5 + (-1)) + (-1)) + (-1)).toNatClampNeg (vp_nar .byte 45)) → Q (some (.int (((x5 + (-1)) + (-1)) + (-1)))) μ13))))))))))) ∧ (¬ (-100) < x0 → (¬ (100 : Int32) = 0 ∧ (∃ n15, (mS μ (hd 5 0) = (4, n15) ∧ vp_in (((x0 / (100 : Int32)) * (100 : Int32)) - x0) n15) ∧ (∃ n17, (mS μ a2 = (4, n17) ∧ vp_in (x5 + (-1)) n17 ∧ hiN a2) ∧ (∃ n19, (mS (setI μ a2 (x5 + (-1)).toNatClampNeg (vp_nar .byte (gI μ (hd 5 0) (((x0 / (100 : Int32)) * (100 : Int32)) - x0).toNatClampNeg))) (hd 5 1) = (4, n19) ∧ vp_in (((x0 / (100 : Int32)) * (100 : Int32)) - x0) n19) ∧ (∃ n21, (mS (setI μ a2 (x5 + (-1)).toNatClampNeg (vp_nar .byte (gI μ (hd 5 0) (((x0 / (100 : Int32)) * (100 : Int32)) - x0).toNatClampNeg))) a2 = (4, n21) ∧ vp_in ((x5 + (-1)) + (-1)) n21 ∧ hiN a2) ∧ (∀ μ23 : Mu, μ23 = (setI (setI μ a2 (x5 + (-1)).toNatClampNeg (vp_nar .byte (gI μ (hd 5 0) (((x0 / (100 : Int32)) * (100 : Int32)) - x0).toNatClampNeg))) a2 ((x5 + (-1)) + (-1)).toNatClampNeg (vp_nar .byte (gI (setI μ a2 (x5 + (-1)).toNatClampNeg (vp_nar .byte (gI μ (hd 5 0) (((x0 / (100 : Int32)) * (100 : Int32)) - x0).toNatClampNeg))) (hd 5 1) (((x0 / (100 : Int32)) * (100 : Int32)) - x0).toNatClampNeg))) → Wx K_JI_getChars_ba4f3 d rc rs Q 22 [(0, .int (x0 / (100 : Int32))), (2, .ref a2), (5, .int ((x5 + (-1)) + (-1))), (6, .int x6)] [] μ23))))))))) : Wx K_JI_getChars_ba4f3 d rc rs Q 22 [(0, .int x0), (2, .ref a2), (5, .int x5), (6, .int x6)] [] μ := by
  refine Wa.iload_n (j := 0) d_JI_getChars_ba4f3_22 rfl ?_
  refine Wa.bipush (v := (-100)) d_JI_getChars_ba4f3_23 rfl ?_
  refine Wa.icmp_gt 72 d_JI_getChars_ba4f3_25 (by decide) (fun hb => ?_) (fun hb => ?_)
  · have hF := hF.1 hb
    refine Wa.aload_n (j := 1) d_JI_getChars_ba4f3_72 rfl ?_
    refine Wa.iinc (i := 5) (j := 2) (v := (x5 + (-1))) (L' := [(5, .int (x5 + (-1))), (0, .int x0), (2, .ref a2), (6, .int x6)]) d_JI_getChars_ba4f3_73 rfl rfl (by decide) rfl ?_
    refine Wa.iload (j := 0) d_JI_getChars_ba4f3_76 rfl ?_
    refine Wx.gets d_JI_getChars_ba4f3_78 st_2 sf_JI_83 ?_
    refine Wa.iload_n (j := 1) d_JI_getChars_ba4f3_81 rfl ?_
    refine Wa.ineg d_JI_getChars_ba4f3_82 ?_
    obtain ⟨n1, hc2, hF⟩ := hF
    refine Wa.bald d_JI_getChars_ba4f3_83 hc2.1 hc2.2 ?_
    obtain ⟨n3, hc4, hF⟩ := hF
    refine Wr.bast d_JI_getChars_ba4f3_84 hc4.1 hc4.2.1 hc4.2.2 ?_
    refine Wa.iload_n (j := 1) d_JI_getChars_ba4f3_85 rfl ?_
    refine Wa.bipush (v := (-9)) d_JI_getChars_ba4f3_86 rfl ?_
    refine Wa.icmp_ge 104 d_JI_getChars_ba4f3_88 (by decide) (fun hb => ?_) (fun hb => ?_)
    · have hF := hF.1 hb
      refine Wa.iload (j := 3) d_JI_getChars_ba4f3_104 rfl ?_
      refine Wa.if_eq 118 d_JI_getChars_ba4f3_106 (by decide) (fun hb => ?_) (fun hb => ?_)
      · have hF := hF.1 hb
        refine Wa.iload (j := 0) d_JI_getChars_ba4f3_118 rfl ?_
        exact Wx.reti d_JI_getChars_ba4f3_120 rfl hF
      · have hF := hF.2 hb
        refine Wa.aload_n (j := 2) d_JI_getChars_ba4f3_109 rfl ?_
        refine Wa.iinc (i := 5) (j := 0) (v := ((x5 + (-1)) + (-1))) (L' := [(5, .int ((x5 + (-1)) + (-1))), (0, .int x0), (2, .ref a2), (6, .int x6)]) d_JI_getChars_ba4f3_110 rfl rfl (by decide) rfl ?_
        refine Wa.iload (j := 0) d_JI_getChars_ba4f3_113 rfl ?_
        refine Wa.bipush (v := 45) d_JI_getChars_ba4f3_115 rfl ?_
        obtain ⟨n5, hc6, hF⟩ := hF
        refine Wr.bast d_JI_getChars_ba4f3_117 hc6.1 hc6.2.1 hc6.2.2 ?_
        refine Wa.iload (j := 0) d_JI_getChars_ba4f3_118 rfl ?_
        exact Wx.reti d_JI_getChars_ba4f3_120 rfl hF
    · have hF := hF.2 hb
      refine Wa.aload_n (j := 2) d_JI_getChars_ba4f3_91 rfl ?_
      refine Wa.iinc (i := 5) (j := 0) (v := ((x5 + (-1)) + (-1))) (L' := [(5, .int ((x5 + (-1)) + (-1))), (0, .int x0), (2, .ref a2), (6, .int x6)]) d_JI_getChars_ba4f3_92 rfl rfl (by decide) rfl ?_
      refine Wa.iload (j := 0) d_JI_getChars_ba4f3_95 rfl ?_
      refine Wx.gets d_JI_getChars_ba4f3_97 st_53 sf_JI_87 ?_
      refine Wa.iload_n (j := 1) d_JI_getChars_ba4f3_100 rfl ?_
      refine Wa.ineg d_JI_getChars_ba4f3_101 ?_
      obtain ⟨n7, hc8, hF⟩ := hF
      refine Wa.bald d_JI_getChars_ba4f3_102 hc8.1 hc8.2 ?_
      obtain ⟨n9, hc10, hF⟩ := hF
      refine Wr.bast d_JI_getChars_ba4f3_103 hc10.1 hc10.2.1 hc10.2.2 ?_
      refine Wa.iload (j := 3) d_JI_getChars_ba4f3_104 rfl ?_
      refine Wa.if_eq 118 d_JI_getChars_ba4f3_106 (by decide) (fun hb => ?_) (fun hb => ?_)
      · have hF := hF.1 hb
        refine Wa.iload (j := 0) d_JI_getChars_ba4f3_118 rfl ?_
        exact Wx.reti d_JI_getChars_ba4f3_120 rfl hF
      · have hF := hF.2 hb
        refine Wa.aload_n (j := 2) d_JI_getChars_ba4f3_109 rfl ?_
        refine Wa.iinc (i := 5) (j := 0) (v := (((x5 + (-1)) + (-1)) + (-1))) (L' := [(5, .int (((x5 + (-1)) + (-1)) + (-1))), (0, .int x0), (2, .ref a2), (6, .int x6)]) d_JI_getChars_ba4f3_110 rfl rfl (by decide) rfl ?_
        refine Wa.iload (j := 0) d_JI_getChars_ba4f3_113 rfl ?_
        refine Wa.bipush (v := 45) d_JI_getChars_ba4f3_115 rfl ?_
        obtain ⟨n11, hc12, hF⟩ := hF
        refine Wr.bast d_JI_getChars_ba4f3_117 hc12.1 hc12.2.1 hc12.2.2 ?_
        suffices hh : ∀ μ13 : Mu, μ13 = (setI (setI (setI μ a2 (x5 + (-1)).toNatClampNeg (vp_nar .byte (gI μ (hd 5 0) (-x0).toNatClampNeg))) a2 ((x5 + (-1)) + (-1)).toNatClampNeg (vp_nar .byte (gI (setI μ a2 (x5 + (-1)).toNatClampNeg (vp_nar .byte (gI μ (hd 5 0) (-x0).toNatClampNeg))) (hd 5 1) (-x0).toNatClampNeg))) a2 (((x5 + (-1)) + (-1)) + (-1)).toNatClampNeg (vp_nar .byte 45)) → Wx K_JI_getChars_ba4f3 d rc rs Q 118 [(5, .int (((x5 + (-1)) + (-1)) + (-1))), (0, .int x0), (2, .ref a2), (6, .int x6)] [] μ13 from hh _ rfl
        intro μ13 em13
        have hF := hF μ13 em13
        refine Wa.iload (j := 0) d_JI_getChars_ba4f3_118 rfl ?_
        exact Wx.reti d_JI_getChars_ba4f3_120 rfl hF
  · have hF := hF.2 hb
    refine Wa.iload_n (j := 0) d_JI_getChars_ba4f3_28 rfl ?_
    refine Wa.bipush (v := 100) d_JI_getChars_ba4f3_29 rfl ?_
    have hc14 := hF.1
    have hF := hF.2
    refine Wa.idiv d_JI_getChars_ba4f3_31 hc14 ?_
    refine Wa.istore_n (i := 3) (L' := [(3, .int (x0 / (100 : Int32))), (0, .int x0), (2, .ref a2), (5, .int x5), (6, .int x6)]) d_JI_getChars_ba4f3_32 rfl (by decide) rfl ?_
    refine Wa.iload_n (j := 0) d_JI_getChars_ba4f3_33 rfl ?_
    refine Wa.bipush (v := 100) d_JI_getChars_ba4f3_34 rfl ?_
    refine Wa.imul d_JI_getChars_ba4f3_36 ?_
    refine Wa.iload_n (j := 1) d_JI_getChars_ba4f3_37 rfl ?_
    refine Wa.isub d_JI_getChars_ba4f3_38 ?_
    refine Wa.istore (i := 4) (L' := [(4, .int (((x0 / (100 : Int32)) * (100 : Int32)) - x0)), (3, .int (x0 / (100 : Int32))), (0, .int x0), (2, .ref a2), (5, .int x5), (6, .int x6)]) d_JI_getChars_ba4f3_39 (by decide) rfl ?_
    refine Wa.iload_n (j := 1) d_JI_getChars_ba4f3_41 rfl ?_
    refine Wa.istore_n (i := 0) (L' := [(0, .int (x0 / (100 : Int32))), (4, .int (((x0 / (100 : Int32)) * (100 : Int32)) - x0)), (3, .int (x0 / (100 : Int32))), (2, .ref a2), (5, .int x5), (6, .int x6)]) d_JI_getChars_ba4f3_42 rfl (by decide) rfl ?_
    refine Wa.aload_n (j := 3) d_JI_getChars_ba4f3_43 rfl ?_
    refine Wa.iinc (i := 5) (j := 4) (v := (x5 + (-1))) (L' := [(5, .int (x5 + (-1))), (0, .int (x0 / (100 : Int32))), (4, .int (((x0 / (100 : Int32)) * (100 : Int32)) - x0)), (3, .int (x0 / (100 : Int32))), (2, .ref a2), (6, .int x6)]) d_JI_getChars_ba4f3_44 rfl rfl (by decide) rfl ?_
    refine Wa.iload (j := 0) d_JI_getChars_ba4f3_47 rfl ?_
    refine Wx.gets d_JI_getChars_ba4f3_49 st_2 sf_JI_83 ?_
    refine Wa.iload (j := 2) d_JI_getChars_ba4f3_52 rfl ?_
    obtain ⟨n15, hc16, hF⟩ := hF
    refine Wa.bald d_JI_getChars_ba4f3_54 hc16.1 hc16.2 ?_
    obtain ⟨n17, hc18, hF⟩ := hF
    refine Wr.bast d_JI_getChars_ba4f3_55 hc18.1 hc18.2.1 hc18.2.2 ?_
    refine Wa.aload_n (j := 4) d_JI_getChars_ba4f3_56 rfl ?_
    refine Wa.iinc (i := 5) (j := 0) (v := ((x5 + (-1)) + (-1))) (L' := [(5, .int ((x5 + (-1)) + (-1))), (0, .int (x0 / (100 : Int32))), (4, .int (((x0 / (100 : Int32)) * (100 : Int32)) - x0)), (3, .int (x0 / (100 : Int32))), (2, .ref a2), (6, .int x6)]) d_JI_getChars_ba4f3_57 rfl rfl (by decide) rfl ?_
    refine Wa.iload (j := 0) d_JI_getChars_ba4f3_60 rfl ?_
    refine Wx.gets d_JI_getChars_ba4f3_62 st_53 sf_JI_87 ?_
    refine Wa.iload (j := 2) d_JI_getChars_ba4f3_65 rfl ?_
    obtain ⟨n19, hc20, hF⟩ := hF
    refine Wa.bald d_JI_getChars_ba4f3_67 hc20.1 hc20.2 ?_
    obtain ⟨n21, hc22, hF⟩ := hF
    refine Wr.bast d_JI_getChars_ba4f3_68 hc22.1 hc22.2.1 hc22.2.2 ?_
    suffices hh : ∀ μ23 : Mu, μ23 = (setI (setI μ a2 (x5 + (-1)).toNatClampNeg (vp_nar .byte (gI μ (hd 5 0) (((x0 / (100 : Int32)) * (100 : Int32)) - x0).toNatClampNeg))) a2 ((x5 + (-1)) + (-1)).toNatClampNeg (vp_nar .byte (gI (setI μ a2 (x5 + (-1)).toNatClampNeg (vp_nar .byte (gI μ (hd 5 0) (((x0 / (100 : Int32)) * (100 : Int32)) - x0).toNatClampNeg))) (hd 5 1) (((x0 / (100 : Int32)) * (100 : Int32)) - x0).toNatClampNeg))) → Wx K_JI_getChars_ba4f3 d rc rs Q 69 [(5, .int ((x5 + (-1)) + (-1))), (0, .int (x0 / (100 : Int32))), (4, .int (((x0 / (100 : Int32)) * (100 : Int32)) - x0)), (3, .int (x0 / (100 : Int32))), (2, .ref a2), (6, .int x6)] [] μ23 from hh _ rfl
    intro μ23 em23
    have hF := hF μ23 em23
    refine Wa.goto 22 d_JI_getChars_ba4f3_69 (by decide) ?_
    exact Wa.loc [1, 4, 0, 5] rfl hF
set_option maxHeartbeats 4000000 in
set_option maxRecDepth 20000 in
theorem y_JI_stringSize_0f7a4_0 {d rc rs : Nat} {Q : Option Value → Mu → Prop} {μ : Mu} {x0 : Int32} (hD : 1 ≤ d)
    (hF : ((x0 < 0 → Wx K_JI_stringSize_0f7a4 d rc rs Q 16 [(0, .int x0), (1, .int 1), (2, .int (-10)), (3, .int 1)] [] μ) ∧ (¬ x0 < 0 → Wx K_JI_stringSize_0f7a4 d rc rs Q 16 [(0, .int (-x0)), (1, .int 0), (2, .int (-10)), (3, .int 1)] [] μ))) : Wx K_JI_stringSize_0f7a4 d rc rs Q 0 [(0, .int x0)] [] μ := by
  refine Wa.iconst (v := 1) d_JI_stringSize_0f7a4_0 rfl ?_
  refine Wa.istore_n (i := 1) (L' := [(1, .int 1), (0, .int x0)]) d_JI_stringSize_0f7a4_1 rfl (by decide) rfl ?_
  refine Wa.iload_n (j := 1) d_JI_stringSize_0f7a4_2 rfl ?_
  refine Wa.if_lt 11 d_JI_stringSize_0f7a4_3 (by decide) (fun hb => ?_) (fun hb => ?_)
  · have hF := hF.1 hb
    refine Wa.bipush (v := (-10)) d_JI_stringSize_0f7a4_11 rfl ?_
    refine Wa.istore_n (i := 2) (L' := [(2, .int (-10)), (1, .int 1), (0, .int x0)]) d_JI_stringSize_0f7a4_13 rfl (by decide) rfl ?_
    refine Wa.iconst (v := 1) d_JI_stringSize_0f7a4_14 rfl ?_
    refine Wa.istore_n (i := 3) (L' := [(3, .int 1), (2, .int (-10)), (1, .int 1), (0, .int x0)]) d_JI_stringSize_0f7a4_15 rfl (by decide) rfl ?_
    exact Wa.loc [3, 2, 1, 0] rfl hF
  · have hF := hF.2 hb
    refine Wa.iconst (v := 0) d_JI_stringSize_0f7a4_6 rfl ?_
    refine Wa.istore_n (i := 1) (L' := [(1, .int 0), (0, .int x0)]) d_JI_stringSize_0f7a4_7 rfl (by decide) rfl ?_
    refine Wa.iload_n (j := 1) d_JI_stringSize_0f7a4_8 rfl ?_
    refine Wa.ineg d_JI_stringSize_0f7a4_9 ?_
    refine Wa.istore_n (i := 0) (L' := [(0, .int (-x0)), (1, .int 0)]) d_JI_stringSize_0f7a4_10 rfl (by decide) rfl ?_
    refine Wa.bipush (v := (-10)) d_JI_stringSize_0f7a4_11 rfl ?_
    refine Wa.istore_n (i := 2) (L' := [(2, .int (-10)), (0, .int (-x0)), (1, .int 0)]) d_JI_stringSize_0f7a4_13 rfl (by decide) rfl ?_
    refine Wa.iconst (v := 1) d_JI_stringSize_0f7a4_14 rfl ?_
    refine Wa.istore_n (i := 3) (L' := [(3, .int 1), (2, .int (-10)), (0, .int (-x0)), (1, .int 0)]) d_JI_stringSize_0f7a4_15 rfl (by decide) rfl ?_
    exact Wa.loc [2, 3, 1, 0] rfl hF
theorem z_JI_stringSize_0f7a4 {d rc rs : Nat} {Q : Option Value → Mu → Prop} {μ : Mu} {x0 : Int32} (hk : Wx K_JI_stringSize_0f7a4 d rc rs (fun r μ' => S8 μ' ∧ Q r μ') 0 [(0, .int x0)] [] μ) : CalS K_JI_stringSize_0f7a4 d rc rs [.int x0] μ Q := CalS.of (by decide +kernel) rfl rfl (Nat.le_of_ble_eq_true rfl) rfl hk
set_option maxHeartbeats 4000000 in
set_option maxRecDepth 20000 in
theorem y_JI_stringSize_0f7a4_16 {d rc rs : Nat} {Q : Option Value → Mu → Prop} {μ : Mu} {x0 : Int32} {x1 : Int32} {x2 : Int32} {x3 : Int32} (hD : 1 ≤ d)
    (hF : ((10 ≤ x3 → Q (some (.int ((10 : Int32) + x1))) μ) ∧ (¬ 10 ≤ x3 → ((x0 ≤ x2 → Wx K_JI_stringSize_0f7a4 d rc rs Q 16 [(0, .int x0), (1, .int x1), (2, .int ((10 : Int32) * x2)), (3, .int (x3 + 1))] [] μ) ∧ (¬ x0 ≤ x2 → Q (some (.int (x3 + x1))) μ))))) : Wx K_JI_stringSize_0f7a4 d rc rs Q 16 [(0, .int x0), (1, .int x1), (2, .int x2), (3, .int x3)] [] μ := by
  refine Wa.iload_n (j := 3) d_JI_stringSize_0f7a4_16 rfl ?_
  refine Wa.bipush (v := 10) d_JI_stringSize_0f7a4_17 rfl ?_
  refine Wa.icmp_ge 42 d_JI_stringSize_0f7a4_19 (by decide) (fun hb => ?_) (fun hb => ?_)
  · have hF := hF.1 hb
    refine Wa.bipush (v := 10) d_JI_stringSize_0f7a4_42 rfl ?_
    refine Wa.iload_n (j := 1) d_JI_stringSize_0f7a4_44 rfl ?_
    refine Wa.iadd d_JI_stringSize_0f7a4_45 ?_
    exact Wx.reti d_JI_stringSize_0f7a4_46 rfl hF
  · have hF := hF.2 hb
    refine Wa.iload_n (j := 0) d_JI_stringSize_0f7a4_22 rfl ?_
    refine Wa.iload_n (j := 2) d_JI_stringSize_0f7a4_23 rfl ?_
    refine Wa.icmp_le 31 d_JI_stringSize_0f7a4_24 (by decide) (fun hb => ?_) (fun hb => ?_)
    · have hF := hF.1 hb
      refine Wa.bipush (v := 10) d_JI_stringSize_0f7a4_31 rfl ?_
      refine Wa.iload_n (j := 2) d_JI_stringSize_0f7a4_33 rfl ?_
      refine Wa.imul d_JI_stringSize_0f7a4_34 ?_
      refine Wa.istore_n (i := 2) (L' := [(2, .int ((10 : Int32) * x2)), (0, .int x0), (1, .int x1), (3, .int x3)]) d_JI_stringSize_0f7a4_35 rfl (by decide) rfl ?_
      refine Wa.iinc (i := 3) (j := 3) (v := (x3 + 1)) (L' := [(3, .int (x3 + 1)), (2, .int ((10 : Int32) * x2)), (0, .int x0), (1, .int x1)]) d_JI_stringSize_0f7a4_36 rfl rfl (by decide) rfl ?_
      refine Wa.goto 16 d_JI_stringSize_0f7a4_39 (by decide) ?_
      exact Wa.loc [2, 3, 1, 0] rfl hF
    · have hF := hF.2 hb
      refine Wa.iload_n (j := 3) d_JI_stringSize_0f7a4_27 rfl ?_
      refine Wa.iload_n (j := 1) d_JI_stringSize_0f7a4_28 rfl ?_
      refine Wa.iadd d_JI_stringSize_0f7a4_29 ?_
      exact Wx.reti d_JI_stringSize_0f7a4_30 rfl hF
set_option maxHeartbeats 4000000 in
set_option maxRecDepth 20000 in
theorem y_Str_init_81219_0 {d rc rs : Nat} {Q : Option Value → Mu → Prop} {μ : Mu} {a0 : Nat} {a1 : Nat} (hD : 1 ≤ d)
    (hF : (∃ cc1 ss2 : Nat, (cc1 ≤ rc ∧ ss2 ≤ rs) ∧ CalS K_Str_init_db425 (d - 1) cc1 ss2 [.ref a0, .ref a1, .null] μ (fun r μ4 => r = none ∧ Q none μ4))) : Wx K_Str_init_81219 d rc rs Q 0 [(0, .ref a0), (1, .ref a1)] [] μ := by
  refine Wa.aload_n (j := 0) d_Str_init_81219_0 rfl ?_
  refine Wa.aload_n (j := 1) d_Str_init_81219_1 rfl ?_
  refine Wa.null d_Str_init_81219_2 ?_
  obtain ⟨cc1, ss2, hc3, hF⟩ := hF
  refine Ws.cIv (As := [.ref a1, .null]) (d - 1) cc1 ss2 _ d_Str_init_81219_3 mok_Str_init_db425 rfl il_Str_489 rfl rfl (Nat.le_of_ble_eq_true rfl) (by omega) hc3.1 hc3.2 hF (fun μ4 hS hF => ?_)
  exact Wx.retv d_Str_init_81219_6 rfl hF
theorem z_Str_init_81219 {d rc rs : Nat} {Q : Option Value → Mu → Prop} {μ : Mu} {a0 : Nat} {a1 : Nat} (hk : Wx K_Str_init_81219 d rc rs (fun r μ' => S8 μ' ∧ Q r μ') 0 [(0, .ref a0), (1, .ref a1)] [] μ) : CalS K_Str_init_81219 d rc rs [.ref a0, .ref a1] μ Q := CalS.of (by decide +kernel) rfl rfl (Nat.le_of_ble_eq_true rfl) rfl hk
set_option maxHeartbeats 4000000 in
set_option maxRecDepth 20000 in
theorem y_Str_length_8abf5_0 {d rc rs : Nat} {Q : Option Value → Mu → Prop} {μ : Mu} {a0 : Nat} (hD : 1 ≤ d)
    (hF : (mS μ a0 = (1, 15) ∧ (∃ b2, gR μ a0 0 = some b2 ∧ (∃ n4, mS μ b2 = (4, n4) ∧ (mS μ a0 = (1, 15) ∧ CalS K_Str_coder_7d493 (d - 1) 0 0 [.ref a0] μ (fun r μ6 => ∃ y8, r = some (.int y8) ∧ Q (some (.int ((nI n4) >>> (y8 &&& 31)))) μ6)))))) : Wx K_Str_length_8abf5 d rc rs Q 0 [(0, .ref a0)] [] μ := by
  refine Wa.aload_n (j := 0) d_Str_length_8abf5_0 rfl ?_
  have hc1 := hF.1
  have hF := hF.2
  obtain ⟨b2, hc3, hF⟩ := hF
  refine Wr.getR 15 0 d_Str_length_8abf5_1 f_Str_0 rfl fl_Str_9 hc1 hc3 ?_
  obtain ⟨n4, hc5, hF⟩ := hF
  refine Wa.alen d_Str_length_8abf5_4 hc5 (by decide) ?_
  refine Wa.aload_n (j := 0) d_Str_length_8abf5_5 rfl ?_
  have hc7 := hF.1
  have hF := hF.2
  refine Wt.cVi (q := E_Str) (As := []) 15 (d - 1) 0 0 _ d_Str_length_8abf5_6 mok_Str_coder_7d493 vl_Str_335 rfl rfl rfl (Nat.le_of_ble_eq_true rfl) (by omega) (Nat.zero_le _) (Nat.zero_le _) hc7 hF (fun y8 μ6 hS hF => ?_)
  refine Wa.ishr d_Str_length_8abf5_9 ?_
  exact Wx.reti d_Str_length_8abf5_10 rfl hF
theorem z_Str_length_8abf5 {d rc rs : Nat} {Q : Option Value → Mu → Prop} {μ : Mu} {a0 : Nat} (hk : Wx K_Str_length_8abf5 d rc rs (fun r μ' => S8 μ' ∧ Q r μ') 0 [(0, .ref a0)] [] μ) : CalS K_Str_length_8abf5 d rc rs [.ref a0] μ Q := CalS.of (by decide +kernel) rfl rfl (Nat.le_of_ble_eq_true rfl) rfl hk
set_option maxHeartbeats 4000000 in
set_option maxRecDepth 20000 in
theorem y_Str_getBytes_840e7_0 {d rc rs : Nat} {Q : Option Value → Mu → Prop} {μ : Mu} {a0 : Nat} {a1 : Nat} {x2 : Int32} {x3 : Int32} (hD : 1 ≤ d)
    (hF : (mS μ a0 = (1, 15) ∧ CalS K_Str_coder_7d493 (d - 1) 0 0 [.ref a0] μ (fun r μ1 => ∃ y3, r = some (.int y3) ∧ ((y3 = x3 → (mS μ1 a0 = (1, 15) ∧ (∃ b5, gR μ1 a0 0 = some b5 ∧ (mS μ1 a0 = (1, 15) ∧ (∃ b8, gR μ1 a0 0 = some b8 ∧ (∃ n10, mS μ1 b8 = (4, n10) ∧ (∃ n12 n13, (mS μ1 b5 = (4, n12) ∧ mS μ1 a1 = (4, n13) ∧ hiN a1 ∧ ¬ (0 : Int32) < 0 ∧ ¬ (x2 <<< (x3 &&& 31)) < 0 ∧ ¬ (nI n10) < 0 ∧ (0 : Int32).toNatClampNeg + (nI n10).toNatClampNeg ≤ n12 ∧ (x2 <<< (x3 &&& 31)).toNatClampNeg + (nI n10).toNatClampNeg ≤ n13) ∧ ((∀ i, i < (nI n10).toNatClampNeg → fits .byte (.int (gI μ1 b5 ((0 : Int32).toNatClampNeg + i))) = true) ∧ Q none (cpG μ1 b5 a1 (0 : Int32).toNatClampNeg (x2 <<< (x3 &&& 31)).toNatClampNeg (nI n10).toNatClampNeg))))))))) ∧ (¬ y3 = x3 → False))))) : Wx K_Str_getBytes_840e7 d rc rs Q 0 [(0, .ref a0), (1, .ref a1), (2, .int x2), (3, .int x3)] [] μ := by
  refine Wa.aload_n (j := 0) d_Str_getBytes_840e7_0 rfl ?_
  have hc2 := hF.1
  have hF := hF.2
  refine Wt.cVi (q := E_Str) (As := []) 15 (d - 1) 0 0 _ d_Str_getBytes_840e7_1 mok_Str_coder_7d493 vl_Str_335 rfl rfl rfl (Nat.le_of_ble_eq_true rfl) (by omega) (Nat.zero_le _) (Nat.zero_le _) hc2 hF (fun y3 μ1 hS hF => ?_)
  refine Wa.iload_n (j := 3) d_Str_getBytes_840e7_4 rfl ?_
  refine Wa.icmp_ne 28 d_Str_getBytes_840e7_5 (by decide) (fun hb => ?_) (fun hb => ?_)
  · have hF := hF.2 hb
    exact hF.elim
  · have hF := hF.1 hb
    refine Wa.aload_n (j := 0) d_Str_getBytes_840e7_8 rfl ?_
    have hc4 := hF.1
    have hF := hF.2
    obtain ⟨b5, hc6, hF⟩ := hF
    refine Wr.getR 15 0 d_Str_getBytes_840e7_9 f_Str_0 rfl fl_Str_9 hc4 hc6 ?_
    refine Wa.iconst (v := 0) d_Str_getBytes_840e7_12 rfl ?_
    refine Wa.aload_n (j := 1) d_Str_getBytes_840e7_13 rfl ?_
    refine Wa.iload_n (j := 2) d_Str_getBytes_840e7_14 rfl ?_
    refine Wa.iload_n (j := 3) d_Str_getBytes_840e7_15 rfl ?_
    refine Wa.ishl d_Str_getBytes_840e7_16 ?_
    refine Wa.aload_n (j := 0) d_Str_getBytes_840e7_17 rfl ?_
    have hc7 := hF.1
    have hF := hF.2
    obtain ⟨b8, hc9, hF⟩ := hF
    refine Wr.getR 15 0 d_Str_getBytes_840e7_18 f_Str_0 rfl fl_Str_9 hc7 hc9 ?_
    obtain ⟨n10, hc11, hF⟩ := hF
    refine Wa.alen d_Str_getBytes_840e7_21 hc11 (by decide) ?_
    obtain ⟨n12, n13, hc14, hF⟩ := hF
    have hc15 := hF.1
    have hF := hF.2
    refine Wa.copyB d_Str_getBytes_840e7_22 ml_Str_212 cp_1 cp_2 cp_3 (Nat.le_of_ble_eq_true rfl) hD hc14.2.2.1.rw hc14.1 hc14.2.1 hc14.2.2.2.1 hc14.2.2.2.2.1 hc14.2.2.2.2.2.1 hc14.2.2.2.2.2.2.1 hc14.2.2.2.2.2.2.2 hc15 ?_
    refine Wa.goto 43 d_Str_getBytes_840e7_25 (by decide) ?_
    exact Wx.retv d_Str_getBytes_840e7_43 rfl hF
theorem z_Str_getBytes_840e7 {d rc rs : Nat} {Q : Option Value → Mu → Prop} {μ : Mu} {a0 : Nat} {a1 : Nat} {x2 : Int32} {x3 : Int32} (hk : Wx K_Str_getBytes_840e7 d rc rs (fun r μ' => S8 μ' ∧ Q r μ') 0 [(0, .ref a0), (1, .ref a1), (2, .int x2), (3, .int x3)] [] μ) : CalS K_Str_getBytes_840e7 d rc rs [.ref a0, .ref a1, .int x2, .int x3] μ Q := CalS.of (by decide +kernel) rfl rfl (Nat.le_of_ble_eq_true rfl) rfl hk
set_option maxHeartbeats 4000000 in
set_option maxRecDepth 20000 in
theorem y_Str_init_db425_0 {d rc rs : Nat} {Q : Option Value → Mu → Prop} {μ : Mu} {a0 : Nat} {a1 : Nat} (hD : 1 ≤ d)
    (hF : (mS μ a1 = (1, 12) ∧ CalS K_AB_getValue_6d5f1 (d - 1) 0 0 [.ref a1] μ (fun r μ1 => ∃ b3, r = some (.ref b3) ∧ (mS μ1 a1 = (1, 12) ∧ CalS K_SB_length_8abf5 (d - 1) 0 0 [.ref a1] μ1 (fun r μ4 => ∃ y6, r = some (.int y6) ∧ (mS μ4 a1 = (1, 12) ∧ CalS K_AB_isLatin1_aae02 (d - 1) 0 0 [.ref a1] μ4 (fun r μ7 => ∃ y9, r = some (.int y9) ∧ ((y9 = 0 → False) ∧ (¬ y9 = 0 → ((mS μ7 a0 = (1, 13) ∧ hiN a0) ∧ (∃ cc11 ss12 : Nat, (cc11 ≤ rc - 0 - 0 - 0 ∧ ss12 ≤ rs - 0 - 0 - 0) ∧ CalS K_Ars_copyOfRange_39247 (d - 1) cc11 ss12 [.ref b3, .int 0, .int y6] (setI μ7 a0 1 0) (fun r μ14 => ∃ b15, r = some (.ref b15) ∧ ((mS μ14 a0 = (1, 13) ∧ hiN a0) ∧ Q none (setR μ14 a0 0 b15)))))))))))))) : Wx K_Str_init_db425 d rc rs Q 0 [(0, .ref a0), (1, .ref a1), (2, .null)] [] μ := by
  refine Wa.aload_n (j := 0) d_Str_init_db425_0 rfl ?_
  refine Wa.objInit d_Str_init_db425_1 ol_Str_1 oi_1 oi_2 (Nat.le_of_ble_eq_true rfl) hD ?_
  refine Wa.aload_n (j := 1) d_Str_init_db425_4 rfl ?_
  have hc2 := hF.1
  have hF := hF.2
  refine Ws.cNr (q := E_SB) (As := []) 12 (d - 1) 0 0 _ d_Str_init_db425_5 mok_AB_getValue_6d5f1 ux_Str_552 rfl rfl rfl (Nat.le_of_ble_eq_true rfl) (by omega) (Nat.zero_le _) (Nat.zero_le _) hc2 hF (fun b3 μ1 hS hF => ?_)
  refine Wa.astore_n (i := 3) (L' := [(3, .ref b3), (0, .ref a0), (1, .ref a1), (2, .null)]) d_Str_init_db425_8 rfl (by decide) rfl ?_
  refine Wa.aload_n (j := 2) d_Str_init_db425_9 rfl ?_
  have hc5 := hF.1
  have hF := hF.2
  refine Ws.cNi (q := E_SB) (As := []) 12 (d - 1) 0 0 _ d_Str_init_db425_10 mok_SB_length_8abf5 ux_Str_549 rfl rfl rfl (Nat.le_of_ble_eq_true rfl) (by omega) (Nat.zero_le _) (Nat.zero_le _) hc5 hF (fun y6 μ4 hS hF => ?_)
  refine Wa.istore (i := 4) (L' := [(4, .int y6), (3, .ref b3), (0, .ref a0), (1, .ref a1), (2, .null)]) d_Str_init_db425_13 (by decide) rfl ?_
  refine Wa.aload_n (j := 3) d_Str_init_db425_15 rfl ?_
  have hc8 := hF.1
  have hF := hF.2
  refine Ws.cNi (q := E_SB) (As := []) 12 (d - 1) 0 0 _ d_Str_init_db425_16 mok_AB_isLatin1_aae02 ux_Str_1047 rfl rfl rfl (Nat.le_of_ble_eq_true rfl) (by omega) (Nat.zero_le _) (Nat.zero_le _) hc8 hF (fun y9 μ7 hS hF => ?_)
  refine Wa.if_eq 41 d_Str_init_db425_19 (by decide) (fun hb => ?_) (fun hb => ?_)
  · have hF := hF.1 hb
    exact hF.elim
  · have hF := hF.2 hb
    refine Wa.aload_n (j := 2) d_Str_init_db425_22 rfl ?_
    refine Wa.iconst (v := 0) d_Str_init_db425_23 rfl ?_
    have hc10 := hF.1
    have hF := hF.2
    refine Wr.putB0 13 1 d_Str_init_db425_24 f_St_1 ok_St fl_Str_15 (Or.inr ⟨rfl, rfl, rfl⟩) hc10.1 hc10.2 ?_
    refine Wa.aload_n (j := 2) d_Str_init_db425_27 rfl ?_
    refine Wa.aload_n (j := 1) d_Str_init_db425_28 rfl ?_
    refine Wa.iconst (v := 0) d_Str_init_db425_29 rfl ?_
    refine Wa.iload (j := 0) d_Str_init_db425_30 rfl ?_
    obtain ⟨cc11, ss12, hc13, hF⟩ := hF
    refine Ws.cSr (As := [.ref b3, .int 0, .int y6]) (d - 1) cc11 ss12 _ d_Str_init_db425_32 mok_Ars_copyOfRange_39247 sl_Str_54 rfl rfl (Nat.le_of_ble_eq_true rfl) (by omega) hc13.1 hc13.2 hF (fun b15 μ14 hS hF => ?_)
    have hc16 := hF.1
    have hF := hF.2
    refine Wr.putR 13 0 d_Str_init_db425_35 f_St_0 rfl ok_St fl_Str_9 (Or.inr ⟨rfl, rfl, rfl⟩) hc16.1 hc16.2 ?_
    refine Wa.goto 97 d_Str_init_db425_38 (by decide) ?_
    exact Wx.retv d_Str_init_db425_97 rfl hF
theorem z_Str_init_db425 {d rc rs : Nat} {Q : Option Value → Mu → Prop} {μ : Mu} {a0 : Nat} {a1 : Nat} (hk : Wx K_Str_init_db425 d rc rs (fun r μ' => S8 μ' ∧ Q r μ') 0 [(0, .ref a0), (1, .ref a1), (2, .null)] [] μ) : CalS K_Str_init_db425 d rc rs [.ref a0, .ref a1, .null] μ Q := CalS.of (by decide +kernel) rfl rfl (Nat.le_of_ble_eq_true rfl) rfl hk
set_option maxHeartbeats 4000000 in
set_option maxRecDepth 20000 in
theorem y_Str_coder_7d493_0 {d rc rs : Nat} {Q : Option Value → Mu → Prop} {μ : Mu} {a0 : Nat} (hD : 1 ≤ d)
    (hF : (mS μ a0 = (1, 15) ∧ (narrow .byte (.int (gI μ a0 1)) = .int (gI μ a0 1) ∧ Q (some (.int (gI μ a0 1))) μ))) : Wx K_Str_coder_7d493 d rc rs Q 0 [(0, .ref a0)] [] μ := by
  refine Wx.gets d_Str_coder_7d493_0 st_3 sf_Str_38 ?_
  refine Wa.if_eq 13 d_Str_coder_7d493_3 (by decide) (fun h => absurd h (by decide)) (fun _ => ?_)
  refine Wa.aload_n (j := 0) d_Str_coder_7d493_6 rfl ?_
  have hc1 := hF.1
  have hF := hF.2
  refine Wr.getB 15 1 d_Str_coder_7d493_7 f_Str_1 fl_Str_15 hc1 ?_
  refine Wa.goto 14 d_Str_coder_7d493_10 (by decide) ?_
  exact Wx.retb d_Str_coder_7d493_14 rfl hF.1 hF.2
theorem z_Str_coder_7d493 {d rc rs : Nat} {Q : Option Value → Mu → Prop} {μ : Mu} {a0 : Nat} (hk : Wx K_Str_coder_7d493 d rc rs (fun r μ' => S8 μ' ∧ Q r μ') 0 [(0, .ref a0)] [] μ) : CalS K_Str_coder_7d493 d rc rs [.ref a0] μ Q := CalS.of (by decide +kernel) rfl rfl (Nat.le_of_ble_eq_true rfl) rfl hk
set_option maxHeartbeats 4000000 in
set_option maxRecDepth 20000 in
theorem y_Str_isLatin1_aae02_0 {d rc rs : Nat} {Q : Option Value → Mu → Prop} {μ : Mu} {a0 : Nat} (hD : 1 ≤ d)
    (hF : (mS μ a0 = (1, 15) ∧ (((gI μ a0 1) = 0 → Q (some (.int 1)) μ) ∧ (¬ (gI μ a0 1) = 0 → Q (some (.int 0)) μ)))) : Wx K_Str_isLatin1_aae02 d rc rs Q 0 [(0, .ref a0)] [] μ := by
  refine Wx.gets d_Str_isLatin1_aae02_0 st_3 sf_Str_38 ?_
  refine Wa.if_eq 17 d_Str_isLatin1_aae02_3 (by decide) (fun h => absurd h (by decide)) (fun _ => ?_)
  refine Wa.aload_n (j := 0) d_Str_isLatin1_aae02_6 rfl ?_
  have hc1 := hF.1
  have hF := hF.2
  refine Wr.getB 15 1 d_Str_isLatin1_aae02_7 f_Str_1 fl_Str_15 hc1 ?_
  refine Wa.if_ne 17 d_Str_isLatin1_aae02_10 (by decide) (fun hb => ?_) (fun hb => ?_)
  · have hF := hF.2 hb
    refine Wa.iconst (v := 0) d_Str_isLatin1_aae02_17 rfl ?_
    exact Wx.retz d_Str_isLatin1_aae02_18 rfl (Or.inl rfl) hF
  · have hF := hF.1 hb
    refine Wa.iconst (v := 1) d_Str_isLatin1_aae02_13 rfl ?_
    refine Wa.goto 18 d_Str_isLatin1_aae02_14 (by decide) ?_
    exact Wx.retz d_Str_isLatin1_aae02_18 rfl (Or.inr rfl) hF
theorem z_Str_isLatin1_aae02 {d rc rs : Nat} {Q : Option Value → Mu → Prop} {μ : Mu} {a0 : Nat} (hk : Wx K_Str_isLatin1_aae02 d rc rs (fun r μ' => S8 μ' ∧ Q r μ') 0 [(0, .ref a0)] [] μ) : CalS K_Str_isLatin1_aae02 d rc rs [.ref a0] μ Q := CalS.of (by decide +kernel) rfl rfl (Nat.le_of_ble_eq_true rfl) rfl hk
set_option maxHeartbeats 4000000 in
set_option maxRecDepth 20000 in
theorem y_SB_init_da8c8_0 {d rc rs : Nat} {Q : Option Value → Mu → Prop} {μ : Mu} {a0 : Nat} (hD : 1 ≤ d)
    (hF : (∃ cc1 ss2 : Nat, (cc1 ≤ rc ∧ ss2 ≤ rs) ∧ CalS K_AB_init_d00df (d - 1) cc1 ss2 [.ref a0, .int 16] μ (fun r μ4 => r = none ∧ Q none μ4))) : Wx K_SB_init_da8c8 d rc rs Q 0 [(0, .ref a0)] [] μ := by
  refine Wa.aload_n (j := 0) d_SB_init_da8c8_0 rfl ?_
  refine Wa.bipush (v := 16) d_SB_init_da8c8_1 rfl ?_
  obtain ⟨cc1, ss2, hc3, hF⟩ := hF
  refine Ws.cIv (As := [.int 16]) (d - 1) cc1 ss2 _ d_SB_init_da8c8_3 mok_AB_init_d00df rfl il_SB_1 rfl rfl (Nat.le_of_ble_eq_true rfl) (by omega) hc3.1 hc3.2 hF (fun μ4 hS hF => ?_)
  exact Wx.retv d_SB_init_da8c8_6 rfl hF
theorem z_SB_init_da8c8 {d rc rs : Nat} {Q : Option Value → Mu → Prop} {μ : Mu} {a0 : Nat} (hk : Wx K_SB_init_da8c8 d rc rs (fun r μ' => S8 μ' ∧ Q r μ') 0 [(0, .ref a0)] [] μ) : CalS K_SB_init_da8c8 d rc rs [.ref a0] μ Q := CalS.of (by decide +kernel) rfl rfl (Nat.le_of_ble_eq_true rfl) rfl hk
set_option maxHeartbeats 4000000 in
set_option maxRecDepth 20000 in
theorem y_SB_append_15ec4_0 {d rc rs : Nat} {Q : Option Value → Mu → Prop} {μ : Mu} {a0 : Nat} {a1 : Nat} (hD : 1 ≤ d)
    (hF : (∃ cc1 ss2 : Nat, (cc1 ≤ rc ∧ ss2 ≤ rs) ∧ (mS μ a0 = (1, 12) ∧ CalS K_AB_append_cf1ce (d - 1) cc1 ss2 [.ref a0, .ref a1] μ (fun r μ4 => ∃ b6, r = some (.ref b6) ∧ Q (some (.ref a0)) μ4)))) : Wx K_SB_append_15ec4 d rc rs Q 0 [(0, .ref a0), (1, .ref a1)] [] μ := by
  refine Wa.aload_n (j := 0) d_SB_append_15ec4_0 rfl ?_
  refine Wa.aload_n (j := 1) d_SB_append_15ec4_1 rfl ?_
  obtain ⟨cc1, ss2, hc3, hF⟩ := hF
  have hc5 := hF.1
  have hF := hF.2
  refine Ws.cXr (q := E_SB) (As := [.ref a1]) 12 (d - 1) cc1 ss2 _ d_SB_append_15ec4_2 mok_AB_append_cf1ce su_SB_29 rfl ok_SB rfl rfl (Nat.le_of_ble_eq_true rfl) (by omega) hc3.1 hc3.2 hc5 hF (fun b6 μ4 hS hF => ?_)
  refine Wa.pop d_SB_append_15ec4_5 rfl ?_
  refine Wa.aload_n (j := 0) d_SB_append_15ec4_6 rfl ?_
  exact Wx.reta d_SB_append_15ec4_7 rfl hF
theorem z_SB_append_15ec4 {d rc rs : Nat} {Q : Option Value → Mu → Prop} {μ : Mu} {a0 : Nat} {a1 : Nat} (hk : Wx K_SB_append_15ec4 d rc rs (fun r μ' => S8 μ' ∧ Q r μ') 0 [(0, .ref a0), (1, .ref a1)] [] μ) : CalS K_SB_append_15ec4 d rc rs [.ref a0, .ref a1] μ Q := CalS.of (by decide +kernel) rfl rfl (Nat.le_of_ble_eq_true rfl) rfl hk
set_option maxHeartbeats 4000000 in
set_option maxRecDepth 20000 in
theorem y_SB_append_bf812_0 {d rc rs : Nat} {Q : Option Value → Mu → Prop} {μ : Mu} {a0 : Nat} {x1 : Int32} (hD : 1 ≤ d)
    (hF : (∃ cc1 ss2 : Nat, (cc1 ≤ rc ∧ ss2 ≤ rs) ∧ (mS μ a0 = (1, 12) ∧ CalS K_AB_append_c97b9 (d - 1) cc1 ss2 [.ref a0, .int x1] μ (fun r μ4 => ∃ b6, r = some (.ref b6) ∧ Q (some (.ref a0)) μ4)))) : Wx K_SB_append_bf812 d rc rs Q 0 [(0, .ref a0), (1, .int x1)] [] μ := by
  refine Wa.aload_n (j := 0) d_SB_append_bf812_0 rfl ?_
  refine Wa.iload_n (j := 1) d_SB_append_bf812_1 rfl ?_
  obtain ⟨cc1, ss2, hc3, hF⟩ := hF
  have hc5 := hF.1
  have hF := hF.2
  refine Ws.cXr (q := E_SB) (As := [.int x1]) 12 (d - 1) cc1 ss2 _ d_SB_append_bf812_2 mok_AB_append_c97b9 su_SB_53 rfl ok_SB rfl rfl (Nat.le_of_ble_eq_true rfl) (by omega) hc3.1 hc3.2 hc5 hF (fun b6 μ4 hS hF => ?_)
  refine Wa.pop d_SB_append_bf812_5 rfl ?_
  refine Wa.aload_n (j := 0) d_SB_append_bf812_6 rfl ?_
  exact Wx.reta d_SB_append_bf812_7 rfl hF
theorem z_SB_append_bf812 {d rc rs : Nat} {Q : Option Value → Mu → Prop} {μ : Mu} {a0 : Nat} {x1 : Int32} (hk : Wx K_SB_append_bf812 d rc rs (fun r μ' => S8 μ' ∧ Q r μ') 0 [(0, .ref a0), (1, .int x1)] [] μ) : CalS K_SB_append_bf812 d rc rs [.ref a0, .int x1] μ Q := CalS.of (by decide +kernel) rfl rfl (Nat.le_of_ble_eq_true rfl) rfl hk
set_option maxHeartbeats 4000000 in
set_option maxRecDepth 20000 in
theorem y_SB_toString_0e30d_0 {d rc rs : Nat} {Q : Option Value → Mu → Prop} {μ : Mu} {a0 : Nat} (hD : 1 ≤ d)
    (hF : ((1 ≤ rc ∧ 4 ≤ rs) ∧ (∃ q2, FreN μ q2 ∧ (∃ cc4 ss5 : Nat, (cc4 ≤ rc - 1 ∧ ss5 ≤ rs - 4) ∧ CalS K_Str_init_81219 (d - 1) cc4 ss5 [.ref q2, .ref a0] (mkA μ q2 (1, 13)) (fun r μ7 => r = none ∧ Q (some (.ref q2)) μ7))))) : Wx K_SB_toString_0e30d d rc rs Q 0 [(0, .ref a0)] [] μ := by
  have hc1 := hF.1
  have hF := hF.2
  obtain ⟨q2, hc3, hF⟩ := hF
  refine Wa.new (q := E_St) q2 13 d_SB_toString_0e30d_0 rfl ok_St (by decide +kernel) cl_SB_18 hc1.1 hc1.2 hc3.1 hc3.2.rw ?_
  refine Wa.dup d_SB_toString_0e30d_3 rfl ?_
  refine Wa.aload_n (j := 0) d_SB_toString_0e30d_4 rfl ?_
  obtain ⟨cc4, ss5, hc6, hF⟩ := hF
  refine Ws.cIv (As := [.ref a0]) (d - 1) cc4 ss5 _ d_SB_toString_0e30d_5 mok_Str_init_81219 rfl il_SB_137 rfl rfl (Nat.le_of_ble_eq_true rfl) (by omega) hc6.1 hc6.2 hF (fun μ7 hS hF => ?_)
  exact Wx.reta d_SB_toString_0e30d_8 rfl hF
theorem z_SB_toString_0e30d {d rc rs : Nat} {Q : Option Value → Mu → Prop} {μ : Mu} {a0 : Nat} (hk : Wx K_SB_toString_0e30d d rc rs (fun r μ' => S8 μ' ∧ Q r μ') 0 [(0, .ref a0)] [] μ) : CalS K_SB_toString_0e30d d rc rs [.ref a0] μ Q := CalS.of (by decide +kernel) rfl rfl (Nat.le_of_ble_eq_true rfl) rfl hk
set_option maxHeartbeats 4000000 in
set_option maxRecDepth 20000 in
theorem y_SB_length_8abf5_0 {d rc rs : Nat} {Q : Option Value → Mu → Prop} {μ : Mu} {a0 : Nat} (hD : 1 ≤ d)
    (hF : (mS μ a0 = (1, 12) ∧ CalS K_AB_length_8abf5 (d - 1) 0 0 [.ref a0] μ (fun r μ1 => ∃ y3, r = some (.int y3) ∧ Q (some (.int y3)) μ1))) : Wx K_SB_length_8abf5 d rc rs Q 0 [(0, .ref a0)] [] μ := by
  refine Wa.aload_n (j := 0) d_SB_length_8abf5_0 rfl ?_
  have hc2 := hF.1
  have hF := hF.2
  refine Ws.cXi (q := E_SB) (As := []) 12 (d - 1) 0 0 _ d_SB_length_8abf5_1 mok_AB_length_8abf5 su_SB_343 rfl ok_SB rfl rfl (Nat.le_of_ble_eq_true rfl) (by omega) (Nat.zero_le _) (Nat.zero_le _) hc2 hF (fun y3 μ1 hS hF => ?_)
  exact Wx.reti d_SB_length_8abf5_4 rfl hF
theorem z_SB_length_8abf5 {d rc rs : Nat} {Q : Option Value → Mu → Prop} {μ : Mu} {a0 : Nat} (hk : Wx K_SB_length_8abf5 d rc rs (fun r μ' => S8 μ' ∧ Q r μ') 0 [(0, .ref a0)] [] μ) : CalS K_SB_length_8abf5 d rc rs [.ref a0] μ Q := CalS.of (by decide +kernel) rfl rfl (Nat.le_of_ble_eq_true rfl) rfl hk
set_option maxHeartbeats 4000000 in
set_option maxRecDepth 20000 in
theorem y_Ars_copyOf_9075b_0 {d rc rs : Nat} {Q : Option Value → Mu → Prop} {μ : Mu} {a0 : Nat} {x1 : Int32} (hD : 1 ≤ d)
    (hF : (∃ n1, mS μ a0 = (4, n1) ∧ ((x1 = (nI n1) → (∃ n12, (mS μ a0 = (4, n12) ∧ hiN a0 ∧ (∀ k, k < n12 → fits .byte (.int (gI μ a0 k)) = true) ∧ 1 ≤ rc ∧ n12 ≤ rs) ∧ (∃ q14, FreN μ q14 ∧ (∃ n16, (mS (clA μ a0 q14) q14 = (4, n16) ∧ hiN q14) ∧ Q (some (.ref q14)) (clA μ a0 q14))))) ∧ (¬ x1 = (nI n1) → ((¬ x1 < 0 ∧ x1.toNatClampNeg ≤ 1000000 ∧ 1 ≤ rc ∧ x1.toNatClampNeg ≤ rs) ∧ (∃ q4, FreN μ q4 ∧ (∃ n6, mS (mkA μ q4 (4, x1.toNatClampNeg)) a0 = (4, n6) ∧ (∃ n8 n9, (mS (mkA μ q4 (4, x1.toNatClampNeg)) a0 = (4, n8) ∧ mS (mkA μ q4 (4, x1.toNatClampNeg)) q4 = (4, n9) ∧ hiN q4 ∧ ¬ (0 : Int32) < 0 ∧ ¬ (0 : Int32) < 0 ∧ ¬ (imin (nI n6) x1) < 0 ∧ (0 : Int32).toNatClampNeg + (imin (nI n6) x1).toNatClampNeg ≤ n8 ∧ (0 : Int32).toNatClampNeg + (imin (nI n6) x1).toNatClampNeg ≤ n9) ∧ ((∀ i, i < (imin (nI n6) x1).toNatClampNeg → fits .byte (.int (gI (mkA μ q4 (4, x1.toNatClampNeg)) a0 ((0 : Int32).toNatClampNeg + i))) = true) ∧ Q (some (.ref q4)) (cpG (mkA μ q4 (4, x1.toNatClampNeg)) a0 q4 (0 : Int32).toNatClampNeg (0 : Int32).toNatClampNeg (imin (nI n6) x1).toNatClampNeg)))))))))) : Wx K_Ars_copyOf_9075b d rc rs Q 0 [(0, .ref a0), (1, .int x1)] [] μ := by
  refine Wa.iload_n (j := 1) d_Ars_copyOf_9075b_0 rfl ?_
  refine Wa.aload_n (j := 0) d_Ars_copyOf_9075b_1 rfl ?_
  obtain ⟨n1, hc2, hF⟩ := hF
  refine Wa.alen d_Ars_copyOf_9075b_2 hc2 (by decide) ?_
  refine Wa.icmp_ne 14 d_Ars_copyOf_9075b_3 (by decide) (fun hb => ?_) (fun hb => ?_)
  · have hF := hF.2 hb
    refine Wa.iload_n (j := 1) d_Ars_copyOf_9075b_14 rfl ?_
    have hc3 := hF.1
    have hF := hF.2
    obtain ⟨q4, hc5, hF⟩ := hF
    refine Wr.newarr 4 x1.toNatClampNeg q4 d_Ars_copyOf_9075b_15 ac_byte rfl (by decide) hc3.1 rfl hc3.2.1 hc3.2.2.1 hc3.2.2.2 hc5 ?_
    refine Wa.astore_n (i := 2) (L' := [(2, .ref q4), (0, .ref a0), (1, .int x1)]) d_Ars_copyOf_9075b_17 rfl (by decide) rfl ?_
    refine Wa.aload_n (j := 1) d_Ars_copyOf_9075b_18 rfl ?_
    refine Wa.iconst (v := 0) d_Ars_copyOf_9075b_19 rfl ?_
    refine Wa.aload_n (j := 0) d_Ars_copyOf_9075b_20 rfl ?_
    refine Wa.iconst (v := 0) d_Ars_copyOf_9075b_21 rfl ?_
    refine Wa.aload_n (j := 1) d_Ars_copyOf_9075b_22 rfl ?_
    obtain ⟨n6, hc7, hF⟩ := hF
    refine Wa.alen d_Ars_copyOf_9075b_23 hc7 (by decide) ?_
    refine Wa.iload_n (j := 2) d_Ars_copyOf_9075b_24 rfl ?_
    refine Wx.mmin d_Ars_copyOf_9075b_25 mm_Ars_304 (Nat.le_of_ble_eq_true rfl) hD ?_
    obtain ⟨n8, n9, hc10, hF⟩ := hF
    have hc11 := hF.1
    have hF := hF.2
    refine Wa.copyB d_Ars_copyOf_9075b_28 ml_Ars_150 cp_1 cp_2 cp_3 (Nat.le_of_ble_eq_true rfl) hD hc10.2.2.1.rw hc10.1 hc10.2.1 hc10.2.2.2.1 hc10.2.2.2.2.1 hc10.2.2.2.2.2.1 hc10.2.2.2.2.2.2.1 hc10.2.2.2.2.2.2.2 hc11 ?_
    refine Wa.aload_n (j := 0) d_Ars_copyOf_9075b_31 rfl ?_
    exact Wx.retA d_Ars_copyOf_9075b_32 rfl hF
  · have hF := hF.1 hb
    refine Wa.aload_n (j := 0) d_Ars_copyOf_9075b_6 rfl ?_
    obtain ⟨n12, hc13, hF⟩ := hF
    obtain ⟨q14, hc15, hF⟩ := hF
    refine Wr.cloneB q14 d_Ars_copyOf_9075b_7 cn_Ars_310 hc13.1 hc13.2.1 hc13.2.2.1 (Nat.le_of_ble_eq_true rfl) hD hc13.2.2.2.1 hc13.2.2.2.2 hc15 ?_
    obtain ⟨n16, hc17, hF⟩ := hF
    refine Wa.castA d_Ars_copyOf_9075b_10 cl_Ars_311 (Or.inl ⟨rfl, rfl⟩) hc17.2.rw hc17.1 ?_
    exact Wx.retA d_Ars_copyOf_9075b_13 rfl hF
theorem z_Ars_copyOf_9075b {d rc rs : Nat} {Q : Option Value → Mu → Prop} {μ : Mu} {a0 : Nat} {x1 : Int32} (hk : Wx K_Ars_copyOf_9075b d rc rs (fun r μ' => S8 μ' ∧ Q r μ') 0 [(0, .ref a0), (1, .int x1)] [] μ) : CalS K_Ars_copyOf_9075b d rc rs [.ref a0, .int x1] μ Q := CalS.of (by decide +kernel) rfl rfl (Nat.le_of_ble_eq_true rfl) rfl hk
set_option maxHeartbeats 4000000 in
set_option maxRecDepth 20000 in
theorem y_Ars_checkLength_df160_0 {d rc rs : Nat} {Q : Option Value → Mu → Prop} {μ : Mu} {x0 : Int32} {x1 : Int32} (hD : 1 ≤ d)
    (hF : ((x0 ≤ x1 → Q none μ) ∧ (¬ x0 ≤ x1 → False))) : Wx K_Ars_checkLength_df160 d rc rs Q 0 [(0, .int x0), (1, .int x1)] [] μ := by
  refine Wa.iload_n (j := 1) d_Ars_checkLength_df160_0 rfl ?_
  refine Wa.iload_n (j := 0) d_Ars_checkLength_df160_1 rfl ?_
  refine Wa.icmp_ge 37 d_Ars_checkLength_df160_2 (by decide) (fun hb => ?_) (fun hb => ?_)
  · have hF := hF.1 hb
    exact Wx.retv d_Ars_checkLength_df160_37 rfl hF
  · have hF := hF.2 hb
    exact hF.elim
theorem z_Ars_checkLength_df160 {d rc rs : Nat} {Q : Option Value → Mu → Prop} {μ : Mu} {x0 : Int32} {x1 : Int32} (hk : Wx K_Ars_checkLength_df160 d rc rs (fun r μ' => S8 μ' ∧ Q r μ') 0 [(0, .int x0), (1, .int x1)] [] μ) : CalS K_Ars_checkLength_df160 d rc rs [.int x0, .int x1] μ Q := CalS.of (by decide +kernel) rfl rfl (Nat.le_of_ble_eq_true rfl) rfl hk
set_option maxHeartbeats 4000000 in
set_option maxRecDepth 20000 in
theorem y_Ars_copyOfRange_39247_0 {d rc rs : Nat} {Q : Option Value → Mu → Prop} {μ : Mu} {a0 : Nat} {x1 : Int32} {x2 : Int32} (hD : 1 ≤ d)
    (hF : ((x1 = 0 → (∃ n6, mS μ a0 = (4, n6) ∧ ((x2 = (nI n6) → (∃ n8, (mS μ a0 = (4, n8) ∧ hiN a0 ∧ (∀ k, k < n8 → fits .byte (.int (gI μ a0 k)) = true) ∧ 1 ≤ rc ∧ n8 ≤ rs) ∧ (∃ q10, FreN μ q10 ∧ (∃ n12, (mS (clA μ a0 q10) q10 = (4, n12) ∧ hiN q10) ∧ Q (some (.ref q10)) (clA μ a0 q10))))) ∧ (¬ x2 = (nI n6) → (∃ cc14 ss15 : Nat, (cc14 ≤ rc ∧ ss15 ≤ rs) ∧ CalS K_Ars_copyOfRangeByte_39247 (d - 1) cc14 ss15 [.ref a0, .int x1, .int x2] μ (fun r μ17 => ∃ b18, r = some (.ref b18) ∧ Q (some (.ref b18)) μ17)))))) ∧ (¬ x1 = 0 → (∃ cc1 ss2 : Nat, (cc1 ≤ rc ∧ ss2 ≤ rs) ∧ CalS K_Ars_copyOfRangeByte_39247 (d - 1) cc1 ss2 [.ref a0, .int x1, .int x2] μ (fun r μ4 => ∃ b5, r = some (.ref b5) ∧ Q (some (.ref b5)) μ4))))) : Wx K_Ars_copyOfRange_39247 d rc rs Q 0 [(0, .ref a0), (1, .int x1), (2, .int x2)] [] μ := by
  refine Wa.iload_n (j := 1) d_Ars_copyOfRange_39247_0 rfl ?_
  refine Wa.if_ne 10 d_Ars_copyOfRange_39247_1 (by decide) (fun hb => ?_) (fun hb => ?_)
  · have hF := hF.2 hb
    refine Wa.aload_n (j := 0) d_Ars_copyOfRange_39247_10 rfl ?_
    refine Wa.iload_n (j := 1) d_Ars_copyOfRange_39247_11 rfl ?_
    refine Wa.iload_n (j := 2) d_Ars_copyOfRange_39247_12 rfl ?_
    obtain ⟨cc1, ss2, hc3, hF⟩ := hF
    refine Ws.cSr (As := [.ref a0, .int x1, .int x2]) (d - 1) cc1 ss2 _ d_Ars_copyOfRange_39247_13 mok_Ars_copyOfRangeByte_39247 sl_Ars_339 rfl rfl (Nat.le_of_ble_eq_true rfl) (by omega) hc3.1 hc3.2 hF (fun b5 μ4 hS hF => ?_)
    exact Wx.retA d_Ars_copyOfRange_39247_16 rfl hF
  · have hF := hF.1 hb
    refine Wa.iload_n (j := 2) d_Ars_copyOfRange_39247_4 rfl ?_
    refine Wa.aload_n (j := 0) d_Ars_copyOfRange_39247_5 rfl ?_
    obtain ⟨n6, hc7, hF⟩ := hF
    refine Wa.alen d_Ars_copyOfRange_39247_6 hc7 (by decide) ?_
    refine Wa.icmp_eq 17 d_Ars_copyOfRange_39247_7 (by decide) (fun hb => ?_) (fun hb => ?_)
    · have hF := hF.1 hb
      refine Wa.aload_n (j := 0) d_Ars_copyOfRange_39247_17 rfl ?_
      obtain ⟨n8, hc9, hF⟩ := hF
      obtain ⟨q10, hc11, hF⟩ := hF
      refine Wr.cloneB q10 d_Ars_copyOfRange_39247_18 cn_Ars_310 hc9.1 hc9.2.1 hc9.2.2.1 (Nat.le_of_ble_eq_true rfl) hD hc9.2.2.2.1 hc9.2.2.2.2 hc11 ?_
      obtain ⟨n12, hc13, hF⟩ := hF
      refine Wa.castA d_Ars_copyOfRange_39247_21 cl_Ars_311 (Or.inl ⟨rfl, rfl⟩) hc13.2.rw hc13.1 ?_
      exact Wx.retA d_Ars_copyOfRange_39247_24 rfl hF
    · have hF := hF.2 hb
      refine Wa.aload_n (j := 0) d_Ars_copyOfRange_39247_10 rfl ?_
      refine Wa.iload_n (j := 1) d_Ars_copyOfRange_39247_11 rfl ?_
      refine Wa.iload_n (j := 2) d_Ars_copyOfRange_39247_12 rfl ?_
      obtain ⟨cc14, ss15, hc16, hF⟩ := hF
      refine Ws.cSr (As := [.ref a0, .int x1, .int x2]) (d - 1) cc14 ss15 _ d_Ars_copyOfRange_39247_13 mok_Ars_copyOfRangeByte_39247 sl_Ars_339 rfl rfl (Nat.le_of_ble_eq_true rfl) (by omega) hc16.1 hc16.2 hF (fun b18 μ17 hS hF => ?_)
      exact Wx.retA d_Ars_copyOfRange_39247_16 rfl hF
theorem z_Ars_copyOfRange_39247 {d rc rs : Nat} {Q : Option Value → Mu → Prop} {μ : Mu} {a0 : Nat} {x1 : Int32} {x2 : Int32} (hk : Wx K_Ars_copyOfRange_39247 d rc rs (fun r μ' => S8 μ' ∧ Q r μ') 0 [(0, .ref a0), (1, .int x1), (2, .int x2)] [] μ) : CalS K_Ars_copyOfRange_39247 d rc rs [.ref a0, .int x1, .int x2] μ Q := CalS.of (by decide +kernel) rfl rfl (Nat.le_of_ble_eq_true rfl) rfl hk
set_option maxHeartbeats 4000000 in
set_option maxRecDepth 20000 in
theorem y_Ars_copyOfRangeByte_39247_0 {d rc rs : Nat} {Q : Option Value → Mu → Prop} {μ : Mu} {a0 : Nat} {x1 : Int32} {x2 : Int32} (hD : 1 ≤ d)
    (hF : CalS K_Ars_checkLength_df160 (d - 1) 0 0 [.int x1, .int x2] μ (fun r μ1 => r = none ∧ ((¬ (x2 - x1) < 0 ∧ (x2 - x1).toNatClampNeg ≤ 1000000 ∧ 1 ≤ rc - 0 ∧ (x2 - x1).toNatClampNeg ≤ rs - 0) ∧ (∃ q3, FreN μ1 q3 ∧ (∃ n5, mS (mkA μ1 q3 (4, (x2 - x1).toNatClampNeg)) a0 = (4, n5) ∧ (∃ n7 n8, (mS (mkA μ1 q3 (4, (x2 - x1).toNatClampNeg)) a0 = (4, n7) ∧ mS (mkA μ1 q3 (4, (x2 - x1).toNatClampNeg)) q3 = (4, n8) ∧ hiN q3 ∧ ¬ x1 < 0 ∧ ¬ (0 : Int32) < 0 ∧ ¬ (imin ((nI n5) - x1) (x2 - x1)) < 0 ∧ x1.toNatClampNeg + (imin ((nI n5) - x1) (x2 - x1)).toNatClampNeg ≤ n7 ∧ (0 : Int32).toNatClampNeg + (imin ((nI n5) - x1) (x2 - x1)).toNatClampNeg ≤ n8) ∧ ((∀ i, i < (imin ((nI n5) - x1) (x2 - x1)).toNatClampNeg → fits .byte (.int (gI (mkA μ1 q3 (4, (x2 - x1).toNatClampNeg)) a0 (x1.toNatClampNeg + i))) = true) ∧ Q (some (.ref q3)) (cpG (mkA μ1 q3 (4, (x2 - x1).toNatClampNeg)) a0 q3 x1.toNatClampNeg (0 : Int32).toNatClampNeg (imin ((nI n5) - x1) (x2 - x1)).toNatClampNeg)))))))) : Wx K_Ars_copyOfRangeByte_39247 d rc rs Q 0 [(0, .ref a0), (1, .int x1), (2, .int x2)] [] μ := by
  refine Wa.iload_n (j := 1) d_Ars_copyOfRangeByte_39247_0 rfl ?_
  refine Wa.iload_n (j := 2) d_Ars_copyOfRangeByte_39247_1 rfl ?_
  refine Wt.cSv (As := [.int x1, .int x2]) (d - 1) 0 0 _ d_Ars_copyOfRangeByte_39247_2 mok_Ars_checkLength_df160 sl_Ars_343 rfl rfl (Nat.le_of_ble_eq_true rfl) (by omega) (Nat.zero_le _) (Nat.zero_le _) hF (fun μ1 hS hF => ?_)
  refine Wa.iload_n (j := 2) d_Ars_copyOfRangeByte_39247_5 rfl ?_
  refine Wa.iload_n (j := 1) d_Ars_copyOfRangeByte_39247_6 rfl ?_
  refine Wa.isub d_Ars_copyOfRangeByte_39247_7 ?_
  refine Wa.istore_n (i := 3) (L' := [(3, .int (x2 - x1)), (0, .ref a0), (1, .int x1), (2, .int x2)]) d_Ars_copyOfRangeByte_39247_8 rfl (by decide) rfl ?_
  refine Wa.iload_n (j := 0) d_Ars_copyOfRangeByte_39247_9 rfl ?_
  have hc2 := hF.1
  have hF := hF.2
  obtain ⟨q3, hc4, hF⟩ := hF
  refine Wr.newarr 4 ((x2 - x1).toNatClampNeg) q3 d_Ars_copyOfRangeByte_39247_10 ac_byte rfl (by decide) hc2.1 rfl hc2.2.1 hc2.2.2.1 hc2.2.2.2 hc4 ?_
  refine Wa.astore (i := 4) (L' := [(4, .ref q3), (3, .int (x2 - x1)), (0, .ref a0), (1, .int x1), (2, .int x2)]) d_Ars_copyOfRangeByte_39247_12 (by decide) rfl ?_
  refine Wa.aload_n (j := 2) d_Ars_copyOfRangeByte_39247_14 rfl ?_
  refine Wa.iload_n (j := 3) d_Ars_copyOfRangeByte_39247_15 rfl ?_
  refine Wa.aload (j := 0) d_Ars_copyOfRangeByte_39247_16 rfl ?_
  refine Wa.iconst (v := 0) d_Ars_copyOfRangeByte_39247_18 rfl ?_
  refine Wa.aload_n (j := 2) d_Ars_copyOfRangeByte_39247_19 rfl ?_
  obtain ⟨n5, hc6, hF⟩ := hF
  refine Wa.alen d_Ars_copyOfRangeByte_39247_20 hc6 (by decide) ?_
  refine Wa.iload_n (j := 3) d_Ars_copyOfRangeByte_39247_21 rfl ?_
  refine Wa.isub d_Ars_copyOfRangeByte_39247_22 ?_
  refine Wa.iload_n (j := 1) d_Ars_copyOfRangeByte_39247_23 rfl ?_
  refine Wx.mmin d_Ars_copyOfRangeByte_39247_24 mm_Ars_304 (Nat.le_of_ble_eq_true rfl) hD ?_
  obtain ⟨n7, n8, hc9, hF⟩ := hF
  have hc10 := hF.1
  have hF := hF.2
  refine Wa.copyB d_Ars_copyOfRangeByte_39247_27 ml_Ars_150 cp_1 cp_2 cp_3 (Nat.le_of_ble_eq_true rfl) hD hc9.2.2.1.rw hc9.1 hc9.2.1 hc9.2.2.2.1 hc9.2.2.2.2.1 hc9.2.2.2.2.2.1 hc9.2.2.2.2.2.2.1 hc9.2.2.2.2.2.2.2 hc10 ?_
  refine Wa.aload (j := 0) d_Ars_copyOfRangeByte_39247_30 rfl ?_
  exact Wx.retA d_Ars_copyOfRangeByte_39247_32 rfl hF
theorem z_Ars_copyOfRangeByte_39247 {d rc rs : Nat} {Q : Option Value → Mu → Prop} {μ : Mu} {a0 : Nat} {x1 : Int32} {x2 : Int32} (hk : Wx K_Ars_copyOfRangeByte_39247 d rc rs (fun r μ' => S8 μ' ∧ Q r μ') 0 [(0, .ref a0), (1, .int x1), (2, .int x2)] [] μ) : CalS K_Ars_copyOfRangeByte_39247 d rc rs [.ref a0, .int x1, .int x2] μ Q := CalS.of (by decide +kernel) rfl rfl (Nat.le_of_ble_eq_true rfl) rfl hk
set_option maxHeartbeats 4000000 in
set_option maxRecDepth 20000 in
theorem y_Asu_newLength_cabcc_0 {d rc rs : Nat} {Q : Option Value → Mu → Prop} {μ : Mu} {x0 : Int32} {x1 : Int32} {x2 : Int32} (hD : 1 ≤ d)
    (hF : (((x0 + (imax x1 x2)) ≤ (0 : Int32) → False) ∧ (¬ (x0 + (imax x1 x2)) ≤ (0 : Int32) → ((2147483639 < (x0 + (imax x1 x2)) → False) ∧ (¬ 2147483639 < (x0 + (imax x1 x2)) → Q (some (.int (x0 + (imax x1 x2)))) μ))))) : Wx K_Asu_newLength_cabcc d rc rs Q 0 [(0, .int x0), (1, .int x1), (2, .int x2)] [] μ := by
  refine Wa.iload_n (j := 0) d_Asu_newLength_cabcc_0 rfl ?_
  refine Wa.iload_n (j := 1) d_Asu_newLength_cabcc_1 rfl ?_
  refine Wa.iload_n (j := 2) d_Asu_newLength_cabcc_2 rfl ?_
  refine Wx.mmax d_Asu_newLength_cabcc_3 mm_Asu_194 (Nat.le_of_ble_eq_true rfl) hD ?_
  refine Wa.iadd d_Asu_newLength_cabcc_6 ?_
  refine Wa.istore_n (i := 3) (L' := [(3, .int (x0 + (imax x1 x2))), (0, .int x0), (1, .int x1), (2, .int x2)]) d_Asu_newLength_cabcc_7 rfl (by decide) rfl ?_
  refine Wa.iconst (v := 0) d_Asu_newLength_cabcc_8 rfl ?_
  refine Wa.iload_n (j := 0) d_Asu_newLength_cabcc_9 rfl ?_
  refine Wa.icmp_ge 21 d_Asu_newLength_cabcc_10 (by decide) (fun hb => ?_) (fun hb => ?_)
  · have hF := hF.1 hb
    exact hF.elim
  · have hF := hF.2 hb
    refine Wa.iload_n (j := 0) d_Asu_newLength_cabcc_13 rfl ?_
    refine Wa.ldc d_Asu_newLength_cabcc_14 k_Asu_200 ?_
    refine Wa.icmp_gt 21 d_Asu_newLength_cabcc_16 (by decide) (fun hb => ?_) (fun hb => ?_)
    · have hF := hF.1 hb
      exact hF.elim
    · have hF := hF.2 hb
      refine Wa.iload_n (j := 0) d_Asu_newLength_cabcc_19 rfl ?_
      exact Wx.reti d_Asu_newLength_cabcc_20 rfl hF
theorem z_Asu_newLength_cabcc {d rc rs : Nat} {Q : Option Value → Mu → Prop} {μ : Mu} {x0 : Int32} {x1 : Int32} {x2 : Int32} (hk : Wx K_Asu_newLength_cabcc d rc rs (fun r μ' => S8 μ' ∧ Q r μ') 0 [(0, .int x0), (1, .int x1), (2, .int x2)] [] μ) : CalS K_Asu_newLength_cabcc d rc rs [.int x0, .int x1, .int x2] μ Q := CalS.of (by decide +kernel) rfl rfl (Nat.le_of_ble_eq_true rfl) rfl hk
