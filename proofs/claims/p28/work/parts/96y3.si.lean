/-! the law's boards, before there is a component -/
set_option maxHeartbeats 4000000 in
set_option maxRecDepth 20000 in
theorem y_SI_init_0 {d rc rs : Nat} {Q : Option Value → Mu → Prop} {μ : Mu} {a0 : Nat} (hD : 1 ≤ d)
    (hF : ((¬ (0 : Int32) < 0 ∧ 0 ≤ 1000000 ∧ 1 ≤ rc ∧ 0 ≤ rs) ∧ (∃ q2, FreN μ q2 ∧ ((mS (mkA μ q2 (40, 0)) a0 = (1, 11) ∧ hiN a0) ∧ ((¬ (60 : Int32) < 0 ∧ 60 ≤ 1000000 ∧ 1 ≤ rc - 1 ∧ 60 ≤ rs - 0) ∧ (∃ q6, FreN (setR (mkA μ q2 (40, 0)) a0 6 q2) q6 ∧ ((mS (mkA (setR (mkA μ q2 (40, 0)) a0 6 q2) q6 (41, 60)) a0 = (1, 11) ∧ hiN a0) ∧ ((¬ (0 : Int32) < 0 ∧ 0 ≤ 1000000 ∧ 1 ≤ rc - 1 - 1 ∧ 0 ≤ rs - 0 - 60) ∧ (∃ q10, FreN (setR (mkA (setR (mkA μ q2 (40, 0)) a0 6 q2) q6 (41, 60)) a0 7 q6) q10 ∧ ((mS (mkA (setR (mkA (setR (mkA μ q2 (40, 0)) a0 6 q2) q6 (41, 60)) a0 7 q6) q10 (40, 0)) a0 = (1, 11) ∧ hiN a0) ∧ ((¬ (0 : Int32) < 0 ∧ 0 ≤ 1000000 ∧ 1 ≤ rc - 1 - 1 - 1 ∧ 0 ≤ rs - 0 - 60 - 0) ∧ (∃ q14, FreN (setR (mkA (setR (mkA (setR (mkA μ q2 (40, 0)) a0 6 q2) q6 (41, 60)) a0 7 q6) q10 (40, 0)) a0 11 q10) q14 ∧ ((mS (mkA (setR (mkA (setR (mkA (setR (mkA μ q2 (40, 0)) a0 6 q2) q6 (41, 60)) a0 7 q6) q10 (40, 0)) a0 11 q10) q14 (40, 0)) a0 = (1, 11) ∧ hiN a0) ∧ ((¬ (0 : Int32) < 0 ∧ 0 ≤ 1000000 ∧ 1 ≤ rc - 1 - 1 - 1 - 1 ∧ 0 ≤ rs - 0 - 60 - 0 - 0) ∧ (∃ q18, FreN (setR (mkA (setR (mkA (setR (mkA (setR (mkA μ q2 (40, 0)) a0 6 q2) q6 (41, 60)) a0 7 q6) q10 (40, 0)) a0 11 q10) q14 (40, 0)) a0 13 q14) q18 ∧ ((mS (mkA (setR (mkA (setR (mkA (setR (mkA (setR (mkA μ q2 (40, 0)) a0 6 q2) q6 (41, 60)) a0 7 q6) q10 (40, 0)) a0 11 q10) q14 (40, 0)) a0 13 q14) q18 (40, 0)) a0 = (1, 11) ∧ hiN a0) ∧ Q none (setR (mkA (setR (mkA (setR (mkA (setR (mkA (setR (mkA μ q2 (40, 0)) a0 6 q2) q6 (41, 60)) a0 7 q6) q10 (40, 0)) a0 11 q10) q14 (40, 0)) a0 13 q14) q18 (40, 0)) a0 14 q18))))))))))))))))) : Wx K_SI_init d rc rs Q 0 [(0, .ref a0)] [] μ := by
  refine Wa.aload_n (j := 0) d_SI_init_0 rfl ?_
  refine Wa.objInit d_SI_init_1 ol_SI_1 oi_1 oi_2 (Nat.le_of_ble_eq_true rfl) hD ?_
  refine Wa.aload_n (j := 0) d_SI_init_4 rfl ?_
  refine Wa.iconst (v := 0) d_SI_init_5 rfl ?_
  have hc1 := hF.1
  have hF := hF.2
  obtain ⟨q2, hc3, hF⟩ := hF
  refine Wr.anewA 40 0 q2 d_SI_init_6 (Or.inl rfl) cl_SI_7 aa_int hc1.1 rfl hc1.2.1 hc1.2.2.1 hc1.2.2.2 hc3 ?_
  have hc4 := hF.1
  have hF := hF.2
  refine Wr.putR 11 6 d_SI_init_9 f_SI_6 rfl ok_SI fl_SI_9 (Or.inl rfl) hc4.1 hc4.2 ?_
  refine Wa.aload_n (j := 0) d_SI_init_12 rfl ?_
  refine Wa.bipush (v := 60) d_SI_init_13 rfl ?_
  have hc5 := hF.1
  have hF := hF.2
  obtain ⟨q6, hc7, hF⟩ := hF
  refine Wr.anewA 41 60 q6 d_SI_init_15 (Or.inr rfl) cl_SI_15 aa_boolean hc5.1 rfl hc5.2.1 hc5.2.2.1 hc5.2.2.2 hc7 ?_
  have hc8 := hF.1
  have hF := hF.2
  refine Wr.putR 11 7 d_SI_init_18 f_SI_7 rfl ok_SI fl_SI_17 (Or.inl rfl) hc8.1 hc8.2 ?_
  refine Wa.aload_n (j := 0) d_SI_init_21 rfl ?_
  refine Wa.iconst (v := 0) d_SI_init_22 rfl ?_
  have hc9 := hF.1
  have hF := hF.2
  obtain ⟨q10, hc11, hF⟩ := hF
  refine Wr.anewA 40 0 q10 d_SI_init_23 (Or.inl rfl) cl_SI_7 aa_int hc9.1 rfl hc9.2.1 hc9.2.2.1 hc9.2.2.2 hc11 ?_
  have hc12 := hF.1
  have hF := hF.2
  refine Wr.putR 11 11 d_SI_init_26 f_SI_11 rfl ok_SI fl_SI_21 (Or.inl rfl) hc12.1 hc12.2 ?_
  refine Wa.aload_n (j := 0) d_SI_init_29 rfl ?_
  refine Wa.iconst (v := 0) d_SI_init_30 rfl ?_
  have hc13 := hF.1
  have hF := hF.2
  obtain ⟨q14, hc15, hF⟩ := hF
  refine Wr.anewA 40 0 q14 d_SI_init_31 (Or.inl rfl) cl_SI_7 aa_int hc13.1 rfl hc13.2.1 hc13.2.2.1 hc13.2.2.2 hc15 ?_
  have hc16 := hF.1
  have hF := hF.2
  refine Wr.putR 11 13 d_SI_init_34 f_SI_13 rfl ok_SI fl_SI_24 (Or.inl rfl) hc16.1 hc16.2 ?_
  refine Wa.aload_n (j := 0) d_SI_init_37 rfl ?_
  refine Wa.iconst (v := 0) d_SI_init_38 rfl ?_
  have hc17 := hF.1
  have hF := hF.2
  obtain ⟨q18, hc19, hF⟩ := hF
  refine Wr.anewA 40 0 q18 d_SI_init_39 (Or.inl rfl) cl_SI_7 aa_int hc17.1 rfl hc17.2.1 hc17.2.2.1 hc17.2.2.2 hc19 ?_
  have hc20 := hF.1
  have hF := hF.2
  refine Wr.putR 11 14 d_SI_init_42 f_SI_14 rfl ok_SI fl_SI_27 (Or.inl rfl) hc20.1 hc20.2 ?_
  exact Wx.retv d_SI_init_45 rfl hF
theorem z_SI_init {d rc rs : Nat} {Q : Option Value → Mu → Prop} {μ : Mu} {a0 : Nat} (hk : Wx K_SI_init d rc rs (fun r μ' => S8 μ' ∧ Q r μ') 0 [(0, .ref a0)] [] μ) : CalS K_SI_init d rc rs [.ref a0] μ Q := CalS.of (by decide +kernel) rfl rfl (Nat.le_of_ble_eq_true rfl) rfl hk
set_option maxHeartbeats 4000000 in
set_option maxRecDepth 20000 in
theorem y_SI_with_0 {d rc rs : Nat} {Q : Option Value → Mu → Prop} {μ : Mu} {a0 : Nat} {a1 : Nat} (hD : 1 ≤ d)
    (hF : (∃ n1, mS μ a0 = (40, n1) ∧ ((¬ ((nI n1) + (1 : Int32)) < 0 ∧ ((nI n1) + (1 : Int32)).toNatClampNeg ≤ 1000000 ∧ 1 ≤ rc ∧ ((nI n1) + (1 : Int32)).toNatClampNeg ≤ rs) ∧ (∃ q4, FreN μ q4 ∧ Wx K_SI_with d (rc - 1) (rs - ((nI n1) + (1 : Int32)).toNatClampNeg) Q 10 [(0, .ref a0), (1, .ref a1), (2, .ref q4), (3, .int 0)] [] (mkA μ q4 (40, ((nI n1) + (1 : Int32)).toNatClampNeg)))))) : Wx K_SI_with d rc rs Q 0 [(0, .ref a0), (1, .ref a1)] [] μ := by
  refine Wa.aload_n (j := 0) d_SI_with_0 rfl ?_
  obtain ⟨n1, hc2, hF⟩ := hF
  refine Wa.alen d_SI_with_1 hc2 (by decide) ?_
  refine Wa.iconst (v := 1) d_SI_with_2 rfl ?_
  refine Wa.iadd d_SI_with_3 ?_
  have hc3 := hF.1
  have hF := hF.2
  obtain ⟨q4, hc5, hF⟩ := hF
  refine Wr.anewA 40 (((nI n1) + (1 : Int32)).toNatClampNeg) q4 d_SI_with_4 (Or.inl rfl) cl_SI_7 aa_int hc3.1 rfl hc3.2.1 hc3.2.2.1 hc3.2.2.2 hc5 ?_
  refine Wa.astore_n (i := 2) (L' := [(2, .ref q4), (0, .ref a0), (1, .ref a1)]) d_SI_with_7 rfl (by decide) rfl ?_
  refine Wa.iconst (v := 0) d_SI_with_8 rfl ?_
  refine Wa.istore_n (i := 3) (L' := [(3, .int 0), (2, .ref q4), (0, .ref a0), (1, .ref a1)]) d_SI_with_9 rfl (by decide) rfl ?_
  exact Wa.loc [2, 3, 1, 0] rfl hF
theorem z_SI_with {d rc rs : Nat} {Q : Option Value → Mu → Prop} {μ : Mu} {a0 : Nat} {a1 : Nat} (hk : Wx K_SI_with d rc rs (fun r μ' => S8 μ' ∧ Q r μ') 0 [(0, .ref a0), (1, .ref a1)] [] μ) : CalS K_SI_with d rc rs [.ref a0, .ref a1] μ Q := CalS.of (by decide +kernel) rfl rfl (Nat.le_of_ble_eq_true rfl) rfl hk
set_option maxHeartbeats 4000000 in
set_option maxRecDepth 20000 in
theorem y_SI_with_10 {d rc rs : Nat} {Q : Option Value → Mu → Prop} {μ : Mu} {a0 : Nat} {a1 : Nat} {a2 : Nat} {x3 : Int32} (hD : 1 ≤ d)
    (hF : (∃ n1, mS μ a0 = (40, n1) ∧ (((nI n1) ≤ x3 → (∃ n3, mS μ a0 = (40, n3) ∧ (∃ n5, (mS μ a2 = (40, n5) ∧ vp_in (nI n3) n5 ∧ hiN a2) ∧ (∃ n7, (mS μ a1 = (2, n7) ∧ hiN a1) ∧ Q (some (.ref a2)) (setR μ a2 (nI n3).toNatClampNeg a1))))) ∧ (¬ (nI n1) ≤ x3 → (∃ n9, (mS μ a0 = (40, n9) ∧ vp_in x3 n9) ∧ (∃ b11, gR μ a0 x3.toNatClampNeg = some b11 ∧ (∃ n13, (mS μ a2 = (40, n13) ∧ vp_in x3 n13 ∧ hiN a2) ∧ (∃ n15, (mS μ b11 = (2, n15) ∧ hiN b11) ∧ Wx K_SI_with d rc rs Q 10 [(0, .ref a0), (1, .ref a1), (2, .ref a2), (3, .int (x3 + 1))] [] (setR μ a2 x3.toNatClampNeg b11))))))))) : Wx K_SI_with d rc rs Q 10 [(0, .ref a0), (1, .ref a1), (2, .ref a2), (3, .int x3)] [] μ := by
  refine Wa.iload_n (j := 3) d_SI_with_10 rfl ?_
  refine Wa.aload_n (j := 0) d_SI_with_11 rfl ?_
  obtain ⟨n1, hc2, hF⟩ := hF
  refine Wa.alen d_SI_with_12 hc2 (by decide) ?_
  refine Wa.icmp_ge 28 d_SI_with_13 (by decide) (fun hb => ?_) (fun hb => ?_)
  · have hF := hF.1 hb
    refine Wa.aload_n (j := 2) d_SI_with_28 rfl ?_
    refine Wa.aload_n (j := 0) d_SI_with_29 rfl ?_
    obtain ⟨n3, hc4, hF⟩ := hF
    refine Wa.alen d_SI_with_30 hc4 (by decide) ?_
    refine Wa.aload_n (j := 1) d_SI_with_31 rfl ?_
    obtain ⟨n5, hc6, hF⟩ := hF
    obtain ⟨n7, hc8, hF⟩ := hF
    refine Wr.aastA d_SI_with_32 (Or.inl rfl) hc6.1 hc6.2.1 hc6.2.2 hc8.1 hc8.2 ?_
    refine Wa.aload_n (j := 2) d_SI_with_33 rfl ?_
    exact Wx.retA d_SI_with_34 rfl hF
  · have hF := hF.2 hb
    refine Wa.aload_n (j := 2) d_SI_with_16 rfl ?_
    refine Wa.iload_n (j := 3) d_SI_with_17 rfl ?_
    refine Wa.aload_n (j := 0) d_SI_with_18 rfl ?_
    refine Wa.iload_n (j := 3) d_SI_with_19 rfl ?_
    obtain ⟨n9, hc10, hF⟩ := hF
    obtain ⟨b11, hc12, hF⟩ := hF
    refine Wa.aaldA ct_le d_SI_with_20 (Or.inl rfl) hc10.1 hc10.2 hc12 ?_
    obtain ⟨n13, hc14, hF⟩ := hF
    obtain ⟨n15, hc16, hF⟩ := hF
    refine Wr.aastA d_SI_with_21 (Or.inl rfl) hc14.1 hc14.2.1 hc14.2.2 hc16.1 hc16.2 ?_
    refine Wa.iinc (i := 3) (j := 3) (v := (x3 + 1)) (L' := [(3, .int (x3 + 1)), (0, .ref a0), (1, .ref a1), (2, .ref a2)]) d_SI_with_22 rfl rfl (by decide) rfl ?_
    refine Wa.goto 10 d_SI_with_25 (by decide) ?_
    exact Wa.loc [1, 2, 3, 0] rfl hF
set_option maxHeartbeats 4000000 in
set_option maxRecDepth 20000 in
theorem y_SI_begin_0 {d rc rs : Nat} {Q : Option Value → Mu → Prop} {μ : Mu} {a0 : Nat} {x1 : Int32} {x2 : Int32} (hD : 1 ≤ d)
    (hF : ((mS μ a0 = (1, 11) ∧ hiN a0) ∧ ((mS (setI μ a0 4 x1) a0 = (1, 11) ∧ hiN a0) ∧ ((¬ x1 < 0 ∧ ¬ (60 : Int32) < 0 ∧ x1.toNatClampNeg ≤ 1000 ∧ 60 ≤ 1000 ∧ 1 + x1.toNatClampNeg ≤ rc ∧ x1.toNatClampNeg + x1.toNatClampNeg * 60 ≤ rs) ∧ (∃ q4 κ5, ((100 ≤ κ5 ∧ κ5 < 256) ∧ FreN (setI (setI μ a0 4 x1) a0 5 x2) q4 ∧ (∀ i, i < x1.toNatClampNeg → hd κ5 i ≠ q4) ∧ ∀ i, i < x1.toNatClampNeg → mS (setI (setI μ a0 4 x1) a0 5 x2) (hd κ5 i) = (0, 0)) ∧ ((mS (mkM (setI (setI μ a0 4 x1) a0 5 x2) q4 κ5 x1.toNatClampNeg 60) a0 = (1, 11) ∧ hiN a0) ∧ ((¬ x1 < 0 ∧ ¬ (60 : Int32) < 0 ∧ x1.toNatClampNeg ≤ 1000 ∧ 60 ≤ 1000 ∧ 1 + x1.toNatClampNeg ≤ rc - (1 + x1.toNatClampNeg) ∧ x1.toNatClampNeg + x1.toNatClampNeg * 60 ≤ rs - (x1.toNatClampNeg + x1.toNatClampNeg * 60)) ∧ (∃ q9 κ10, ((100 ≤ κ10 ∧ κ10 < 256) ∧ FreN (setR (mkM (setI (setI μ a0 4 x1) a0 5 x2) q4 κ5 x1.toNatClampNeg 60) a0 8 q4) q9 ∧ (∀ i, i < x1.toNatClampNeg → hd κ10 i ≠ q9) ∧ ∀ i, i < x1.toNatClampNeg → mS (setR (mkM (setI (setI μ a0 4 x1) a0 5 x2) q4 κ5 x1.toNatClampNeg 60) a0 8 q4) (hd κ10 i) = (0, 0)) ∧ ((mS (mkM (setR (mkM (setI (setI μ a0 4 x1) a0 5 x2) q4 κ5 x1.toNatClampNeg 60) a0 8 q4) q9 κ10 x1.toNatClampNeg 60) a0 = (1, 11) ∧ hiN a0) ∧ ((¬ x1 < 0 ∧ ¬ (60 : Int32) < 0 ∧ x1.toNatClampNeg ≤ 1000 ∧ 60 ≤ 1000 ∧ 1 + x1.toNatClampNeg ≤ rc - (1 + x1.toNatClampNeg) - (1 + x1.toNatClampNeg) ∧ x1.toNatClampNeg + x1.toNatClampNeg * 60 ≤ rs - (x1.toNatClampNeg + x1.toNatClampNeg * 60) - (x1.toNatClampNeg + x1.toNatClampNeg * 60)) ∧ (∃ q14 κ15, ((100 ≤ κ15 ∧ κ15 < 256) ∧ FreN (setR (mkM (setR (mkM (setI (setI μ a0 4 x1) a0 5 x2) q4 κ5 x1.toNatClampNeg 60) a0 8 q4) q9 κ10 x1.toNatClampNeg 60) a0 9 q9) q14 ∧ (∀ i, i < x1.toNatClampNeg → hd κ15 i ≠ q14) ∧ ∀ i, i < x1.toNatClampNeg → mS (setR (mkM (setR (mkM (setI (setI μ a0 4 x1) a0 5 x2) q4 κ5 x1.toNatClampNeg 60) a0 8 q4) q9 κ10 x1.toNatClampNeg 60) a0 9 q9) (hd κ15 i) = (0, 0)) ∧ ((mS (mkM (setR (mkM (setR (mkM (setI (setI μ a0 4 x1) a0 5 x2) q4 κ5 x1.toNatClampNeg 60) a0 8 q4) q9 κ10 x1.toNatClampNeg 60) a0 9 q9) q14 κ15 x1.toNatClampNeg 60) a0 = (1, 11) ∧ hiN a0) ∧ Q none (setR (mkM (setR (mkM (setR (mkM (setI (setI μ a0 4 x1) a0 5 x2) q4 κ5 x1.toNatClampNeg 60) a0 8 q4) q9 κ10 x1.toNatClampNeg 60) a0 9 q9) q14 κ15 x1.toNatClampNeg 60) a0 10 q14))))))))))))) : Wx K_SI_begin d rc rs Q 0 [(0, .ref a0), (1, .int x1), (2, .int x2)] [] μ := by
  refine Wa.aload_n (j := 0) d_SI_begin_0 rfl ?_
  refine Wa.iload_n (j := 1) d_SI_begin_1 rfl ?_
  have hc1 := hF.1
  have hF := hF.2
  refine Wr.putI 11 4 d_SI_begin_2 f_SI_4 ok_SI fl_SI_30 (Or.inl rfl) hc1.1 hc1.2 ?_
  refine Wa.aload_n (j := 0) d_SI_begin_5 rfl ?_
  refine Wa.iload_n (j := 2) d_SI_begin_6 rfl ?_
  have hc2 := hF.1
  have hF := hF.2
  refine Wr.putI 11 5 d_SI_begin_7 f_SI_5 ok_SI fl_SI_34 (Or.inl rfl) hc2.1 hc2.2 ?_
  refine Wa.aload_n (j := 0) d_SI_begin_10 rfl ?_
  refine Wa.iload_n (j := 1) d_SI_begin_11 rfl ?_
  refine Wa.bipush (v := 60) d_SI_begin_12 rfl ?_
  have hc3 := hF.1
  have hF := hF.2
  obtain ⟨q4, κ5, hc6, hF⟩ := hF
  refine Wr.mnew x1.toNatClampNeg 60 q4 κ5 d_SI_begin_14 cl_SI_37 hc3.1 hc3.2.1 rfl rfl hc3.2.2.1 hc3.2.2.2.1 hc3.2.2.2.2.1 hc3.2.2.2.2.2 hc6.1 hc6.2.1 hc6.2.2.1 hc6.2.2.2 ?_
  have hc7 := hF.1
  have hF := hF.2
  refine Wr.putR 11 8 d_SI_begin_18 f_SI_8 rfl ok_SI fl_SI_38 (Or.inl rfl) hc7.1 hc7.2 ?_
  refine Wa.aload_n (j := 0) d_SI_begin_21 rfl ?_
  refine Wa.iload_n (j := 1) d_SI_begin_22 rfl ?_
  refine Wa.bipush (v := 60) d_SI_begin_23 rfl ?_
  have hc8 := hF.1
  have hF := hF.2
  obtain ⟨q9, κ10, hc11, hF⟩ := hF
  refine Wr.mnew x1.toNatClampNeg 60 q9 κ10 d_SI_begin_25 cl_SI_37 hc8.1 hc8.2.1 rfl rfl hc8.2.2.1 hc8.2.2.2.1 hc8.2.2.2.2.1 hc8.2.2.2.2.2 hc11.1 hc11.2.1 hc11.2.2.1 hc11.2.2.2 ?_
  have hc12 := hF.1
  have hF := hF.2
  refine Wr.putR 11 9 d_SI_begin_29 f_SI_9 rfl ok_SI fl_SI_41 (Or.inl rfl) hc12.1 hc12.2 ?_
  refine Wa.aload_n (j := 0) d_SI_begin_32 rfl ?_
  refine Wa.iload_n (j := 1) d_SI_begin_33 rfl ?_
  refine Wa.bipush (v := 60) d_SI_begin_34 rfl ?_
  have hc13 := hF.1
  have hF := hF.2
  obtain ⟨q14, κ15, hc16, hF⟩ := hF
  refine Wr.mnew x1.toNatClampNeg 60 q14 κ15 d_SI_begin_36 cl_SI_37 hc13.1 hc13.2.1 rfl rfl hc13.2.2.1 hc13.2.2.2.1 hc13.2.2.2.2.1 hc13.2.2.2.2.2 hc16.1 hc16.2.1 hc16.2.2.1 hc16.2.2.2 ?_
  have hc17 := hF.1
  have hF := hF.2
  refine Wr.putR 11 10 d_SI_begin_40 f_SI_10 rfl ok_SI fl_SI_44 (Or.inl rfl) hc17.1 hc17.2 ?_
  exact Wx.retv d_SI_begin_43 rfl hF
theorem z_SI_begin {d rc rs : Nat} {Q : Option Value → Mu → Prop} {μ : Mu} {a0 : Nat} {x1 : Int32} {x2 : Int32} (hk : Wx K_SI_begin d rc rs (fun r μ' => S8 μ' ∧ Q r μ') 0 [(0, .ref a0), (1, .int x1), (2, .int x2)] [] μ) : CalS K_SI_begin d rc rs [.ref a0, .int x1, .int x2] μ Q := CalS.of (by decide +kernel) rfl rfl (Nat.le_of_ble_eq_true rfl) rfl hk
