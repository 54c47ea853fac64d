/-! segments of methods, by machine: of the law and of the JDK -/
set_option maxHeartbeats 4000000 in
set_option maxRecDepth 20000 in
theorem r_SI_init_0 {d rc rs : Nat} {Q : Option Value → Mu → Prop} {μ : Mu} {a0 : Nat} (hD : 1 ≤ d)
    (hF : ((¬ (0 : Int32) < 0 ∧ 0 ≤ 1000000 ∧ 1 ≤ rc ∧ 0 ≤ rs) ∧ (∃ q2, FreN μ q2 ∧ ((mS (mkA μ q2 (40, 0)) a0 = (1, 11) ∧ hiN a0) ∧ ((¬ (60 : Int32) < 0 ∧ 60 ≤ 1000000 ∧ 1 ≤ rc - 1 ∧ 60 ≤ rs - 0) ∧ (∃ q6, FreN (setR (mkA μ q2 (40, 0)) a0 6 q2) q6 ∧ ((mS (mkA (setR (mkA μ q2 (40, 0)) a0 6 q2) q6 (41, 60)) a0 = (1, 11) ∧ hiN a0) ∧ ((¬ (0 : Int32) < 0 ∧ 0 ≤ 1000000 ∧ 1 ≤ rc - 1 - 1 ∧ 0 ≤ rs - 0 - 60) ∧ (∃ q10, FreN (setR (mkA (setR (mkA μ q2 (40, 0)) a0 6 q2) q6 (41, 60)) a0 7 q6) q10 ∧ ((mS (mkA (setR (mkA (setR (mkA μ q2 (40, 0)) a0 6 q2) q6 (41, 60)) a0 7 q6) q10 (40, 0)) a0 = (1, 11) ∧ hiN a0) ∧ ((¬ (0 : Int32) < 0 ∧ 0 ≤ 1000000 ∧ 1 ≤ rc - 1 - 1 - 1 ∧ 0 ≤ rs - 0 - 60 - 0) ∧ (∃ q14, FreN (setR (mkA (setR (mkA (setR (mkA μ q2 (40, 0)) a0 6 q2) q6 (41, 60)) a0 7 q6) q10 (40, 0)) a0 11 q10) q14 ∧ ((mS (mkA (setR (mkA (setR (mkA (setR (mkA μ q2 (40, 0)) a0 6 q2) q6 (41, 60)) a0 7 q6) q10 (40, 0)) a0 11 q10) q14 (40, 0)) a0 = (1, 11) ∧ hiN a0) ∧ ((¬ (0 : Int32) < 0 ∧ 0 ≤ 1000000 ∧ 1 ≤ rc - 1 - 1 - 1 - 1 ∧ 0 ≤ rs - 0 - 60 - 0 - 0) ∧ (∃ q18, FreN (setR (mkA (setR (mkA (setR (mkA (setR (mkA μ q2 (40, 0)) a0 6 q2) q6 (41, 60)) a0 7 q6) q10 (40, 0)) a0 11 q10) q14 (40, 0)) a0 13 q14) q18 ∧ ((mS (mkA (setR (mkA (setR (mkA (setR (mkA (setR (mkA μ q2 (40, 0)) a0 6 q2) q6 (41, 60)) a0 7 q6) q10 (40, 0)) a0 11 q10) q14 (40, 0)) a0 13 q14) q18 (40, 0)) a0 = (1, 11) ∧ hiN a0) ∧ Q none (setR (mkA (setR (mkA (setR (mkA (setR (mkA (setR (mkA μ q2 (40, 0)) a0 6 q2) q6 (41, 60)) a0 7 q6) q10 (40, 0)) a0 11 q10) q14 (40, 0)) a0 13 q14) q18 (40, 0)) a0 14 q18))))))))))))))))) : Wx K_SI_init d rc rs Q 0 [(0, .ref a0)] [] μ := by
  refine Wa.aload_n (j := 0) d_SI_init_0 rfl ?_
  refine Wa.objInit d_SI_init_1 ol_SI_1 oi_1 oi_2 (Nat.le_of_ble_eq_true rfl) hD ?_
  refine Wa.aload_n (j := 0) d_SI_init_4 rfl ?_
  refine Wa.iconst (v := 0) d_SI_init_5 rfl ?_
  have hc1 := hF.1
  have hF := hF.2
  obtain ⟨q2, hc3, hF⟩ := hF
  refine Wr.anewA 40 0 q2 d_SI_init_6 (Or.inl rfl) cl_SI_7 aa_int hc1.1 rfl hc1.2.1 hc1.2.2.1 hc1.2.2.2 hc3 ?_
  have hc4 := hF.1
  have hF := hF.2
  refine Wr.putR 11 6 d_SI_init_9 f_SI_6 rfl ok_SI fl_SI_9 (Or.inl rfl) hc4.1 hc4.2 ?_
  refine Wa.aload_n (j := 0) d_SI_init_12 rfl ?_
  refine Wa.bipush (v := 60) d_SI_init_13 rfl ?_
  have hc5 := hF.1
  have hF := hF.2
  obtain ⟨q6, hc7, hF⟩ := hF
  refine Wr.anewA 41 60 q6 d_SI_init_15 (Or.inr rfl) cl_SI_15 aa_boolean hc5.1 rfl hc5.2.1 hc5.2.2.1 hc5.2.2.2 hc7 ?_
  have hc8 := hF.1
  have hF := hF.2
  refine Wr.putR 11 7 d_SI_init_18 f_SI_7 rfl ok_SI fl_SI_17 (Or.inl rfl) hc8.1 hc8.2 ?_
  refine Wa.aload_n (j := 0) d_SI_init_21 rfl ?_
  refine Wa.iconst (v := 0) d_SI_init_22 rfl ?_
  have hc9 := hF.1
  have hF := hF.2
  obtain ⟨q10, hc11, hF⟩ := hF
  refine Wr.anewA 40 0 q10 d_SI_init_23 (Or.inl rfl) cl_SI_7 aa_int hc9.1 rfl hc9.2.1 hc9.2.2.1 hc9.2.2.2 hc11 ?_
  have hc12 := hF.1
  have hF := hF.2
  refine Wr.putR 11 11 d_SI_init_26 f_SI_11 rfl ok_SI fl_SI_21 (Or.inl rfl) hc12.1 hc12.2 ?_
  refine Wa.aload_n (j := 0) d_SI_init_29 rfl ?_
  refine Wa.iconst (v := 0) d_SI_init_30 rfl ?_
  have hc13 := hF.1
  have hF := hF.2
  obtain ⟨q14, hc15, hF⟩ := hF
  refine Wr.anewA 40 0 q14 d_SI_init_31 (Or.inl rfl) cl_SI_7 aa_int hc13.1 rfl hc13.2.1 hc13.2.2.1 hc13.2.2.2 hc15 ?_
  have hc16 := hF.1
  have hF := hF.2
  refine Wr.putR 11 13 d_SI_init_34 f_SI_13 rfl ok_SI fl_SI_24 (Or.inl rfl) hc16.1 hc16.2 ?_
  refine Wa.aload_n (j := 0) d_SI_init_37 rfl ?_
  refine Wa.iconst (v := 0) d_SI_init_38 rfl ?_
  have hc17 := hF.1
  have hF := hF.2
  obtain ⟨q18, hc19, hF⟩ := hF
  refine Wr.anewA 40 0 q18 d_SI_init_39 (Or.inl rfl) cl_SI_7 aa_int hc17.1 rfl hc17.2.1 hc17.2.2.1 hc17.2.2.2 hc19 ?_
  have hc20 := hF.1
  have hF := hF.2
  refine Wr.putR 11 14 d_SI_init_42 f_SI_14 rfl ok_SI fl_SI_27 (Or.inl rfl) hc20.1 hc20.2 ?_
  exact Wx.retv d_SI_init_45 rfl hF
theorem e_SI_init {d rc rs : Nat} {Q : Option Value → Mu → Prop} {μ : Mu} {a0 : Nat} (hk : Wx K_SI_init d rc rs (fun r μ' => St μ' ∧ Q r μ') 0 [(0, .ref a0)] [] μ) : Cal K_SI_init d rc rs [.ref a0] μ Q := Cal.of (by decide +kernel) rfl rfl (Nat.le_of_ble_eq_true rfl) rfl hk
set_option maxHeartbeats 4000000 in
set_option maxRecDepth 20000 in
theorem r_SI_with_0 {d rc rs : Nat} {Q : Option Value → Mu → Prop} {μ : Mu} {a0 : Nat} {a1 : Nat} (hD : 1 ≤ d)
    (hF : (∃ n1, mS μ a0 = (40, n1) ∧ ((¬ ((nI n1) + (1 : Int32)) < 0 ∧ ((nI n1) + (1 : Int32)).toNatClampNeg ≤ 1000000 ∧ 1 ≤ rc ∧ ((nI n1) + (1 : Int32)).toNatClampNeg ≤ rs) ∧ (∃ q4, FreN μ q4 ∧ Wx K_SI_with d (rc - 1) (rs - ((nI n1) + (1 : Int32)).toNatClampNeg) Q 10 [(0, .ref a0), (1, .ref a1), (2, .ref q4), (3, .int 0)] [] (mkA μ q4 (40, ((nI n1) + (1 : Int32)).toNatClampNeg)))))) : Wx K_SI_with d rc rs Q 0 [(0, .ref a0), (1, .ref a1)] [] μ := by
  refine Wa.aload_n (j := 0) d_SI_with_0 rfl ?_
  obtain ⟨n1, hc2, hF⟩ := hF
  refine Wa.alen d_SI_with_1 hc2 (by decide) ?_
  refine Wa.iconst (v := 1) d_SI_with_2 rfl ?_
  refine Wa.iadd d_SI_with_3 ?_
  have hc3 := hF.1
  have hF := hF.2
  obtain ⟨q4, hc5, hF⟩ := hF
  refine Wr.anewA 40 (((nI n1) + (1 : Int32)).toNatClampNeg) q4 d_SI_with_4 (Or.inl rfl) cl_SI_7 aa_int hc3.1 rfl hc3.2.1 hc3.2.2.1 hc3.2.2.2 hc5 ?_
  refine Wa.astore_n (i := 2) (L' := [(2, .ref q4), (0, .ref a0), (1, .ref a1)]) d_SI_with_7 rfl (by decide) rfl ?_
  refine Wa.iconst (v := 0) d_SI_with_8 rfl ?_
  refine Wa.istore_n (i := 3) (L' := [(3, .int 0), (2, .ref q4), (0, .ref a0), (1, .ref a1)]) d_SI_with_9 rfl (by decide) rfl ?_
  exact Wa.loc [2, 3, 1, 0] rfl hF
theorem e_SI_with {d rc rs : Nat} {Q : Option Value → Mu → Prop} {μ : Mu} {a0 : Nat} {a1 : Nat} (hk : Wx K_SI_with d rc rs (fun r μ' => St μ' ∧ Q r μ') 0 [(0, .ref a0), (1, .ref a1)] [] μ) : Cal K_SI_with d rc rs [.ref a0, .ref a1] μ Q := Cal.of (by decide +kernel) rfl rfl (Nat.le_of_ble_eq_true rfl) rfl hk
set_option maxHeartbeats 4000000 in
set_option maxRecDepth 20000 in
theorem r_SI_with_10 {d rc rs : Nat} {Q : Option Value → Mu → Prop} {μ : Mu} {a0 : Nat} {a1 : Nat} {a2 : Nat} {x3 : Int32} (hD : 1 ≤ d)
    (hF : (∃ n1, mS μ a0 = (40, n1) ∧ (((nI n1) ≤ x3 → (∃ n3, mS μ a0 = (40, n3) ∧ (∃ n5, (mS μ a2 = (40, n5) ∧ vp_in (nI n3) n5 ∧ hiN a2) ∧ (∃ n7, (mS μ a1 = (2, n7) ∧ hiN a1) ∧ Q (some (.ref a2)) (setR μ a2 (nI n3).toNatClampNeg a1))))) ∧ (¬ (nI n1) ≤ x3 → (∃ n9, (mS μ a0 = (40, n9) ∧ vp_in x3 n9) ∧ (∃ b11, gR μ a0 x3.toNatClampNeg = some b11 ∧ (∃ n13, (mS μ a2 = (40, n13) ∧ vp_in x3 n13 ∧ hiN a2) ∧ (∃ n15, (mS μ b11 = (2, n15) ∧ hiN b11) ∧ Wx K_SI_with d rc rs Q 10 [(0, .ref a0), (1, .ref a1), (2, .ref a2), (3, .int (x3 + 1))] [] (setR μ a2 x3.toNatClampNeg b11))))))))) : Wx K_SI_with d rc rs Q 10 [(0, .ref a0), (1, .ref a1), (2, .ref a2), (3, .int x3)] [] μ := by
  refine Wa.iload_n (j := 3) d_SI_with_10 rfl ?_
  refine Wa.aload_n (j := 0) d_SI_with_11 rfl ?_
  obtain ⟨n1, hc2, hF⟩ := hF
  refine Wa.alen d_SI_with_12 hc2 (by decide) ?_
  refine Wa.icmp_ge 28 d_SI_with_13 (by decide) (fun hb => ?_) (fun hb => ?_)
  · have hF := hF.1 hb
    refine Wa.aload_n (j := 2) d_SI_with_28 rfl ?_
    refine Wa.aload_n (j := 0) d_SI_with_29 rfl ?_
    obtain ⟨n3, hc4, hF⟩ := hF
    refine Wa.alen d_SI_with_30 hc4 (by decide) ?_
    refine Wa.aload_n (j := 1) d_SI_with_31 rfl ?_
    obtain ⟨n5, hc6, hF⟩ := hF
    obtain ⟨n7, hc8, hF⟩ := hF
    refine Wr.aastA d_SI_with_32 (Or.inl rfl) hc6.1 hc6.2.1 hc6.2.2 hc8.1 hc8.2 ?_
    refine Wa.aload_n (j := 2) d_SI_with_33 rfl ?_
    exact Wx.retA d_SI_with_34 rfl hF
  · have hF := hF.2 hb
    refine Wa.aload_n (j := 2) d_SI_with_16 rfl ?_
    refine Wa.iload_n (j := 3) d_SI_with_17 rfl ?_
    refine Wa.aload_n (j := 0) d_SI_with_18 rfl ?_
    refine Wa.iload_n (j := 3) d_SI_with_19 rfl ?_
    obtain ⟨n9, hc10, hF⟩ := hF
    obtain ⟨b11, hc12, hF⟩ := hF
    refine Wa.aaldA ct_le d_SI_with_20 (Or.inl rfl) hc10.1 hc10.2 hc12 ?_
    obtain ⟨n13, hc14, hF⟩ := hF
    obtain ⟨n15, hc16, hF⟩ := hF
    refine Wr.aastA d_SI_with_21 (Or.inl rfl) hc14.1 hc14.2.1 hc14.2.2 hc16.1 hc16.2 ?_
    refine Wa.iinc (i := 3) (j := 3) (v := (x3 + 1)) (L' := [(3, .int (x3 + 1)), (0, .ref a0), (1, .ref a1), (2, .ref a2)]) d_SI_with_22 rfl rfl (by decide) rfl ?_
    refine Wa.goto 10 d_SI_with_25 (by decide) ?_
    exact Wa.loc [1, 2, 3, 0] rfl hF
set_option maxHeartbeats 4000000 in
set_option maxRecDepth 20000 in
theorem r_SI_begin_0 {d rc rs : Nat} {Q : Option Value → Mu → Prop} {μ : Mu} {a0 : Nat} {x1 : Int32} {x2 : Int32} (hD : 1 ≤ d)
    (hF : ((mS μ a0 = (1, 11) ∧ hiN a0) ∧ ((mS (setI μ a0 4 x1) a0 = (1, 11) ∧ hiN a0) ∧ ((¬ x1 < 0 ∧ ¬ (60 : Int32) < 0 ∧ x1.toNatClampNeg ≤ 1000 ∧ 60 ≤ 1000 ∧ 1 + x1.toNatClampNeg ≤ rc ∧ x1.toNatClampNeg + x1.toNatClampNeg * 60 ≤ rs) ∧ (∃ q4 κ5, ((100 ≤ κ5 ∧ κ5 < 256) ∧ FreN (setI (setI μ a0 4 x1) a0 5 x2) q4 ∧ (∀ i, i < x1.toNatClampNeg → hd κ5 i ≠ q4) ∧ ∀ i, i < x1.toNatClampNeg → mS (setI (setI μ a0 4 x1) a0 5 x2) (hd κ5 i) = (0, 0)) ∧ ((mS (mkM (setI (setI μ a0 4 x1) a0 5 x2) q4 κ5 x1.toNatClampNeg 60) a0 = (1, 11) ∧ hiN a0) ∧ ((¬ x1 < 0 ∧ ¬ (60 : Int32) < 0 ∧ x1.toNatClampNeg ≤ 1000 ∧ 60 ≤ 1000 ∧ 1 + x1.toNatClampNeg ≤ rc - (1 + x1.toNatClampNeg) ∧ x1.toNatClampNeg + x1.toNatClampNeg * 60 ≤ rs - (x1.toNatClampNeg + x1.toNatClampNeg * 60)) ∧ (∃ q9 κ10, ((100 ≤ κ10 ∧ κ10 < 256) ∧ FreN (setR (mkM (setI (setI μ a0 4 x1) a0 5 x2) q4 κ5 x1.toNatClampNeg 60) a0 8 q4) q9 ∧ (∀ i, i < x1.toNatClampNeg → hd κ10 i ≠ q9) ∧ ∀ i, i < x1.toNatClampNeg → mS (setR (mkM (setI (setI μ a0 4 x1) a0 5 x2) q4 κ5 x1.toNatClampNeg 60) a0 8 q4) (hd κ10 i) = (0, 0)) ∧ ((mS (mkM (setR (mkM (setI (setI μ a0 4 x1) a0 5 x2) q4 κ5 x1.toNatClampNeg 60) a0 8 q4) q9 κ10 x1.toNatClampNeg 60) a0 = (1, 11) ∧ hiN a0) ∧ ((¬ x1 < 0 ∧ ¬ (60 : Int32) < 0 ∧ x1.toNatClampNeg ≤ 1000 ∧ 60 ≤ 1000 ∧ 1 + x1.toNatClampNeg ≤ rc - (1 + x1.toNatClampNeg) - (1 + x1.toNatClampNeg) ∧ x1.toNatClampNeg + x1.toNatClampNeg * 60 ≤ rs - (x1.toNatClampNeg + x1.toNatClampNeg * 60) - (x1.toNatClampNeg + x1.toNatClampNeg * 60)) ∧ (∃ q14 κ15, ((100 ≤ κ15 ∧ κ15 < 256) ∧ FreN (setR (mkM (setR (mkM (setI (setI μ a0 4 x1) a0 5 x2) q4 κ5 x1.toNatClampNeg 60) a0 8 q4) q9 κ10 x1.toNatClampNeg 60) a0 9 q9) q14 ∧ (∀ i, i < x1.toNatClampNeg → hd κ15 i ≠ q14) ∧ ∀ i, i < x1.toNatClampNeg → mS (setR (mkM (setR (mkM (setI (setI μ a0 4 x1) a0 5 x2) q4 κ5 x1.toNatClampNeg 60) a0 8 q4) q9 κ10 x1.toNatClampNeg 60) a0 9 q9) (hd κ15 i) = (0, 0)) ∧ ((mS (mkM (setR (mkM (setR (mkM (setI (setI μ a0 4 x1) a0 5 x2) q4 κ5 x1.toNatClampNeg 60) a0 8 q4) q9 κ10 x1.toNatClampNeg 60) a0 9 q9) q14 κ15 x1.toNatClampNeg 60) a0 = (1, 11) ∧ hiN a0) ∧ Q none (setR (mkM (setR (mkM (setR (mkM (setI (setI μ a0 4 x1) a0 5 x2) q4 κ5 x1.toNatClampNeg 60) a0 8 q4) q9 κ10 x1.toNatClampNeg 60) a0 9 q9) q14 κ15 x1.toNatClampNeg 60) a0 10 q14))))))))))))) : Wx K_SI_begin d rc rs Q 0 [(0, .ref a0), (1, .int x1), (2, .int x2)] [] μ := by
  refine Wa.aload_n (j := 0) d_SI_begin_0 rfl ?_
  refine Wa.iload_n (j := 1) d_SI_begin_1 rfl ?_
  have hc1 := hF.1
  have hF := hF.2
  refine Wr.putI 11 4 d_SI_begin_2 f_SI_4 ok_SI fl_SI_30 (Or.inl rfl) hc1.1 hc1.2 ?_
  refine Wa.aload_n (j := 0) d_SI_begin_5 rfl ?_
  refine Wa.iload_n (j := 2) d_SI_begin_6 rfl ?_
  have hc2 := hF.1
  have hF := hF.2
  refine Wr.putI 11 5 d_SI_begin_7 f_SI_5 ok_SI fl_SI_34 (Or.inl rfl) hc2.1 hc2.2 ?_
  refine Wa.aload_n (j := 0) d_SI_begin_10 rfl ?_
  refine Wa.iload_n (j := 1) d_SI_begin_11 rfl ?_
  refine Wa.bipush (v := 60) d_SI_begin_12 rfl ?_
  have hc3 := hF.1
  have hF := hF.2
  obtain ⟨q4, κ5, hc6, hF⟩ := hF
  refine Wr.mnew x1.toNatClampNeg 60 q4 κ5 d_SI_begin_14 cl_SI_37 hc3.1 hc3.2.1 rfl rfl hc3.2.2.1 hc3.2.2.2.1 hc3.2.2.2.2.1 hc3.2.2.2.2.2 hc6.1 hc6.2.1 hc6.2.2.1 hc6.2.2.2 ?_
  have hc7 := hF.1
  have hF := hF.2
  refine Wr.putR 11 8 d_SI_begin_18 f_SI_8 rfl ok_SI fl_SI_38 (Or.inl rfl) hc7.1 hc7.2 ?_
  refine Wa.aload_n (j := 0) d_SI_begin_21 rfl ?_
  refine Wa.iload_n (j := 1) d_SI_begin_22 rfl ?_
  refine Wa.bipush (v := 60) d_SI_begin_23 rfl ?_
  have hc8 := hF.1
  have hF := hF.2
  obtain ⟨q9, κ10, hc11, hF⟩ := hF
  refine Wr.mnew x1.toNatClampNeg 60 q9 κ10 d_SI_begin_25 cl_SI_37 hc8.1 hc8.2.1 rfl rfl hc8.2.2.1 hc8.2.2.2.1 hc8.2.2.2.2.1 hc8.2.2.2.2.2 hc11.1 hc11.2.1 hc11.2.2.1 hc11.2.2.2 ?_
  have hc12 := hF.1
  have hF := hF.2
  refine Wr.putR 11 9 d_SI_begin_29 f_SI_9 rfl ok_SI fl_SI_41 (Or.inl rfl) hc12.1 hc12.2 ?_
  refine Wa.aload_n (j := 0) d_SI_begin_32 rfl ?_
  refine Wa.iload_n (j := 1) d_SI_begin_33 rfl ?_
  refine Wa.bipush (v := 60) d_SI_begin_34 rfl ?_
  have hc13 := hF.1
  have hF := hF.2
  obtain ⟨q14, κ15, hc16, hF⟩ := hF
  refine Wr.mnew x1.toNatClampNeg 60 q14 κ15 d_SI_begin_36 cl_SI_37 hc13.1 hc13.2.1 rfl rfl hc13.2.2.1 hc13.2.2.2.1 hc13.2.2.2.2.1 hc13.2.2.2.2.2 hc16.1 hc16.2.1 hc16.2.2.1 hc16.2.2.2 ?_
  have hc17 := hF.1
  have hF := hF.2
  refine Wr.putR 11 10 d_SI_begin_40 f_SI_10 rfl ok_SI fl_SI_44 (Or.inl rfl) hc17.1 hc17.2 ?_
  exact Wx.retv d_SI_begin_43 rfl hF
theorem e_SI_begin {d rc rs : Nat} {Q : Option Value → Mu → Prop} {μ : Mu} {a0 : Nat} {x1 : Int32} {x2 : Int32} (hk : Wx K_SI_begin d rc rs (fun r μ' => St μ' ∧ Q r μ') 0 [(0, .ref a0), (1, .int x1), (2, .int x2)] [] μ) : Cal K_SI_begin d rc rs [.ref a0, .int x1, .int x2] μ Q := Cal.of (by decide +kernel) rfl rfl (Nat.le_of_ble_eq_true rfl) rfl hk
set_option maxHeartbeats 4000000 in
set_option maxRecDepth 20000 in
theorem r_SI_many_0 {d rc rs : Nat} {Q : Option Value → Mu → Prop} {μ : Mu} {a0 : Nat} (hD : 1 ≤ d)
    (hF : (∃ n1, mS μ a0 = (5, n1) ∧ Wx K_SI_many d rc rs Q 10 [(1, .int 0), (2, .ref a0), (3, .int (nI n1)), (4, .int 0)] [] μ)) : Wx K_SI_many d rc rs Q 0 [(0, .ref a0)] [] μ := by
  refine Wa.iconst (v := 0) d_SI_many_0 rfl ?_
  refine Wa.istore_n (i := 1) (L' := [(1, .int 0), (0, .ref a0)]) d_SI_many_1 rfl (by decide) rfl ?_
  refine Wa.aload_n (j := 1) d_SI_many_2 rfl ?_
  refine Wa.astore_n (i := 2) (L' := [(2, .ref a0), (1, .int 0), (0, .ref a0)]) d_SI_many_3 rfl (by decide) rfl ?_
  refine Wa.aload_n (j := 0) d_SI_many_4 rfl ?_
  obtain ⟨n1, hc2, hF⟩ := hF
  refine Wa.alen d_SI_many_5 hc2 (by decide) ?_
  refine Wa.istore_n (i := 3) (L' := [(3, .int (nI n1)), (2, .ref a0), (1, .int 0), (0, .ref a0)]) d_SI_many_6 rfl (by decide) rfl ?_
  refine Wa.iconst (v := 0) d_SI_many_7 rfl ?_
  refine Wa.istore (i := 4) (L' := [(4, .int 0), (3, .int (nI n1)), (2, .ref a0), (1, .int 0), (0, .ref a0)]) d_SI_many_8 (by decide) rfl ?_
  exact Wa.loc [3, 2, 1, 0] rfl hF
theorem e_SI_many {d rc rs : Nat} {Q : Option Value → Mu → Prop} {μ : Mu} {a0 : Nat} (hk : Wx K_SI_many d rc rs (fun r μ' => St μ' ∧ Q r μ') 0 [(0, .ref a0)] [] μ) : Cal K_SI_many d rc rs [.ref a0] μ Q := Cal.of (by decide +kernel) rfl rfl (Nat.le_of_ble_eq_true rfl) rfl hk
set_option maxHeartbeats 4000000 in
set_option maxRecDepth 20000 in
theorem r_SI_many_10 {d rc rs : Nat} {Q : Option Value → Mu → Prop} {μ : Mu} {x1 : Int32} {a2 : Nat} {x3 : Int32} {x4 : Int32} (hD : 1 ≤ d)
    (hF : ((x3 ≤ x4 → Q (some (.int x1)) μ) ∧ (¬ x3 ≤ x4 → (∃ n1, (mS μ a2 = (5, n1) ∧ vp_in x4 n1) ∧ (((gI μ a2 x4.toNatClampNeg) = 0 → Wx K_SI_many d rc rs Q 10 [(1, .int (x1 + (0 : Int32))), (2, .ref a2), (3, .int x3), (4, .int (x4 + 1))] [] μ) ∧ (¬ (gI μ a2 x4.toNatClampNeg) = 0 → Wx K_SI_many d rc rs Q 10 [(1, .int (x1 + (1 : Int32))), (2, .ref a2), (3, .int x3), (4, .int (x4 + 1))] [] μ)))))) : Wx K_SI_many d rc rs Q 10 [(1, .int x1), (2, .ref a2), (3, .int x3), (4, .int x4)] [] μ := by
  refine Wa.iload (j := 3) d_SI_many_10 rfl ?_
  refine Wa.iload_n (j := 2) d_SI_many_12 rfl ?_
  refine Wa.icmp_ge 41 d_SI_many_13 (by decide) (fun hb => ?_) (fun hb => ?_)
  · have hF := hF.1 hb
    refine Wa.iload_n (j := 0) d_SI_many_41 rfl ?_
    exact Wx.reti d_SI_many_42 rfl hF
  · have hF := hF.2 hb
    refine Wa.aload_n (j := 1) d_SI_many_16 rfl ?_
    refine Wa.iload (j := 3) d_SI_many_17 rfl ?_
    obtain ⟨n1, hc2, hF⟩ := hF
    refine Wa.zald d_SI_many_19 hc2.1 hc2.2 ?_
    refine Wa.istore (i := 5) (L' := [(5, .int (gI μ a2 x4.toNatClampNeg)), (1, .int x1), (2, .ref a2), (3, .int x3), (4, .int x4)]) d_SI_many_20 (by decide) rfl ?_
    refine Wa.iload_n (j := 1) d_SI_many_22 rfl ?_
    refine Wa.iload (j := 0) d_SI_many_23 rfl ?_
    refine Wa.if_eq 32 d_SI_many_25 (by decide) (fun hb => ?_) (fun hb => ?_)
    · have hF := hF.1 hb
      refine Wa.iconst (v := 0) d_SI_many_32 rfl ?_
      refine Wa.iadd d_SI_many_33 ?_
      refine Wa.istore_n (i := 1) (L' := [(1, .int (x1 + (0 : Int32))), (5, .int (gI μ a2 x4.toNatClampNeg)), (2, .ref a2), (3, .int x3), (4, .int x4)]) d_SI_many_34 rfl (by decide) rfl ?_
      refine Wa.iinc (i := 4) (j := 4) (v := (x4 + 1)) (L' := [(4, .int (x4 + 1)), (1, .int (x1 + (0 : Int32))), (5, .int (gI μ a2 x4.toNatClampNeg)), (2, .ref a2), (3, .int x3)]) d_SI_many_35 rfl rfl (by decide) rfl ?_
      refine Wa.goto 10 d_SI_many_38 (by decide) ?_
      exact Wa.loc [1, 3, 4, 0] rfl hF
    · have hF := hF.2 hb
      refine Wa.iconst (v := 1) d_SI_many_28 rfl ?_
      refine Wa.goto 33 d_SI_many_29 (by decide) ?_
      refine Wa.iadd d_SI_many_33 ?_
      refine Wa.istore_n (i := 1) (L' := [(1, .int (x1 + (1 : Int32))), (5, .int (gI μ a2 x4.toNatClampNeg)), (2, .ref a2), (3, .int x3), (4, .int x4)]) d_SI_many_34 rfl (by decide) rfl ?_
      refine Wa.iinc (i := 4) (j := 4) (v := (x4 + 1)) (L' := [(4, .int (x4 + 1)), (1, .int (x1 + (1 : Int32))), (5, .int (gI μ a2 x4.toNatClampNeg)), (2, .ref a2), (3, .int x3)]) d_SI_many_35 rfl rfl (by decide) rfl ?_
      refine Wa.goto 10 d_SI_many_38 (by decide) ?_
      exact Wa.loc [1, 3, 4, 0] rfl hF
set_option maxHeartbeats 4000000 in
set_option maxRecDepth 20000 in
theorem r_SI_of_0 {d rc rs : Nat} {Q : Option Value → Mu → Prop} {μ : Mu} {a0 : Nat} {a1 : Nat} {x2 : Int32} (hD : 1 ≤ d)
    (hF : Wx K_SI_of d rc rs Q 5 [(0, .ref a0), (1, .ref a1), (2, .int x2), (3, .int 0), (4, .int 0)] [] μ) : Wx K_SI_of d rc rs Q 0 [(0, .ref a0), (1, .ref a1), (2, .int x2)] [] μ := by
  refine Wa.iconst (v := 0) d_SI_of_0 rfl ?_
  refine Wa.istore_n (i := 3) (L' := [(3, .int 0), (0, .ref a0), (1, .ref a1), (2, .int x2)]) d_SI_of_1 rfl (by decide) rfl ?_
  refine Wa.iconst (v := 0) d_SI_of_2 rfl ?_
  refine Wa.istore (i := 4) (L' := [(4, .int 0), (3, .int 0), (0, .ref a0), (1, .ref a1), (2, .int x2)]) d_SI_of_3 (by decide) rfl ?_
  exact Wa.loc [2, 3, 4, 1, 0] rfl hF
theorem e_SI_of {d rc rs : Nat} {Q : Option Value → Mu → Prop} {μ : Mu} {a0 : Nat} {a1 : Nat} {x2 : Int32} (hk : Wx K_SI_of d rc rs (fun r μ' => St μ' ∧ Q r μ') 0 [(0, .ref a0), (1, .ref a1), (2, .int x2)] [] μ) : Cal K_SI_of d rc rs [.ref a0, .ref a1, .int x2] μ Q := Cal.of (by decide +kernel) rfl rfl (Nat.le_of_ble_eq_true rfl) rfl hk
set_option maxHeartbeats 4000000 in
set_option maxRecDepth 20000 in
theorem r_SI_of_5 {d rc rs : Nat} {Q : Option Value → Mu → Prop} {μ : Mu} {a0 : Nat} {a1 : Nat} {x2 : Int32} {x3 : Int32} {x4 : Int32} (hD : 1 ≤ d)
    (hF : (mS μ a0 = (1, 11) ∧ (∃ b2, gR μ a0 6 = some b2 ∧ (∃ n4, mS μ b2 = (40, n4) ∧ (((nI n4) ≤ x4 → Q (some (.int x3)) μ) ∧ (¬ (nI n4) ≤ x4 → (∃ n6, (mS μ a1 = (5, n6) ∧ vp_in x4 n6) ∧ (((gI μ a1 x4.toNatClampNeg) = 0 → Wx K_SI_of d rc rs Q 5 [(0, .ref a0), (1, .ref a1), (2, .int x2), (3, .int (x3 + (0 : Int32))), (4, .int (x4 + 1))] [] μ) ∧ (¬ (gI μ a1 x4.toNatClampNeg) = 0 → (mS μ a0 = (1, 11) ∧ (∃ b9, gR μ a0 6 = some b9 ∧ (∃ n11, (mS μ b9 = (40, n11) ∧ vp_in x4 n11) ∧ (∃ b13, gR μ b9 x4.toNatClampNeg = some b13 ∧ (∃ n15, (mS μ b13 = (2, n15) ∧ vp_in (0 : Int32) n15) ∧ (((gI μ b13 (0 : Int32).toNatClampNeg) = x2 → Wx K_SI_of d rc rs Q 5 [(0, .ref a0), (1, .ref a1), (2, .int x2), (3, .int (x3 + (1 : Int32))), (4, .int (x4 + 1))] [] μ) ∧ (¬ (gI μ b13 (0 : Int32).toNatClampNeg) = x2 → Wx K_SI_of d rc rs Q 5 [(0, .ref a0), (1, .ref a1), (2, .int x2), (3, .int (x3 + (0 : Int32))), (4, .int (x4 + 1))] [] μ)))))))))))))))) : Wx K_SI_of d rc rs Q 5 [(0, .ref a0), (1, .ref a1), (2, .int x2), (3, .int x3), (4, .int x4)] [] μ := by
  refine Wa.iload (j := 4) d_SI_of_5 rfl ?_
  refine Wa.aload_n (j := 0) d_SI_of_7 rfl ?_
  have hc1 := hF.1
  have hF := hF.2
  obtain ⟨b2, hc3, hF⟩ := hF
  refine Wr.getR 11 6 d_SI_of_8 f_SI_6 rfl fl_SI_9 hc1 hc3 ?_
  obtain ⟨n4, hc5, hF⟩ := hF
  refine Wa.alen d_SI_of_11 hc5 (by decide) ?_
  refine Wa.icmp_ge 49 d_SI_of_12 (by decide) (fun hb => ?_) (fun hb => ?_)
  · have hF := hF.1 hb
    refine Wa.iload_n (j := 3) d_SI_of_49 rfl ?_
    exact Wx.reti d_SI_of_50 rfl hF
  · have hF := hF.2 hb
    refine Wa.iload_n (j := 3) d_SI_of_15 rfl ?_
    refine Wa.aload_n (j := 1) d_SI_of_16 rfl ?_
    refine Wa.iload (j := 4) d_SI_of_17 rfl ?_
    obtain ⟨n6, hc7, hF⟩ := hF
    refine Wa.zald d_SI_of_19 hc7.1 hc7.2 ?_
    refine Wa.if_eq 40 d_SI_of_20 (by decide) (fun hb => ?_) (fun hb => ?_)
    · have hF := hF.1 hb
      refine Wa.iconst (v := 0) d_SI_of_40 rfl ?_
      refine Wa.iadd d_SI_of_41 ?_
      refine Wa.istore_n (i := 3) (L' := [(3, .int (x3 + (0 : Int32))), (0, .ref a0), (1, .ref a1), (2, .int x2), (4, .int x4)]) d_SI_of_42 rfl (by decide) rfl ?_
      refine Wa.iinc (i := 4) (j := 4) (v := (x4 + 1)) (L' := [(4, .int (x4 + 1)), (3, .int (x3 + (0 : Int32))), (0, .ref a0), (1, .ref a1), (2, .int x2)]) d_SI_of_43 rfl rfl (by decide) rfl ?_
      refine Wa.goto 5 d_SI_of_46 (by decide) ?_
      exact Wa.loc [2, 3, 4, 1, 0] rfl hF
    · have hF := hF.2 hb
      refine Wa.aload_n (j := 0) d_SI_of_23 rfl ?_
      have hc8 := hF.1
      have hF := hF.2
      obtain ⟨b9, hc10, hF⟩ := hF
      refine Wr.getR 11 6 d_SI_of_24 f_SI_6 rfl fl_SI_9 hc8 hc10 ?_
      refine Wa.iload (j := 4) d_SI_of_27 rfl ?_
      obtain ⟨n11, hc12, hF⟩ := hF
      obtain ⟨b13, hc14, hF⟩ := hF
      refine Wa.aaldA ct_le d_SI_of_29 (Or.inl rfl) hc12.1 hc12.2 hc14 ?_
      refine Wa.iconst (v := 0) d_SI_of_30 rfl ?_
      obtain ⟨n15, hc16, hF⟩ := hF
      refine Wa.iald d_SI_of_31 hc16.1 hc16.2 ?_
      refine Wa.iload_n (j := 2) d_SI_of_32 rfl ?_
      refine Wa.icmp_ne 40 d_SI_of_33 (by decide) (fun hb => ?_) (fun hb => ?_)
      · have hF := hF.2 hb
        refine Wa.iconst (v := 0) d_SI_of_40 rfl ?_
        refine Wa.iadd d_SI_of_41 ?_
        refine Wa.istore_n (i := 3) (L' := [(3, .int (x3 + (0 : Int32))), (0, .ref a0), (1, .ref a1), (2, .int x2), (4, .int x4)]) d_SI_of_42 rfl (by decide) rfl ?_
        refine Wa.iinc (i := 4) (j := 4) (v := (x4 + 1)) (L' := [(4, .int (x4 + 1)), (3, .int (x3 + (0 : Int32))), (0, .ref a0), (1, .ref a1), (2, .int x2)]) d_SI_of_43 rfl rfl (by decide) rfl ?_
        refine Wa.goto 5 d_SI_of_46 (by decide) ?_
        exact Wa.loc [2, 3, 4, 1, 0] rfl hF
      · have hF := hF.1 hb
        refine Wa.iconst (v := 1) d_SI_of_36 rfl ?_
        refine Wa.goto 41 d_SI_of_37 (by decide) ?_
        refine Wa.iadd d_SI_of_41 ?_
        refine Wa.istore_n (i := 3) (L' := [(3, .int (x3 + (1 : Int32))), (0, .ref a0), (1, .ref a1), (2, .int x2), (4, .int x4)]) d_SI_of_42 rfl (by decide) rfl ?_
        refine Wa.iinc (i := 4) (j := 4) (v := (x4 + 1)) (L' := [(4, .int (x4 + 1)), (3, .int (x3 + (1 : Int32))), (0, .ref a0), (1, .ref a1), (2, .int x2)]) d_SI_of_43 rfl rfl (by decide) rfl ?_
        refine Wa.goto 5 d_SI_of_46 (by decide) ?_
        exact Wa.loc [2, 3, 4, 1, 0] rfl hF
set_option maxHeartbeats 4000000 in
set_option maxRecDepth 20000 in
theorem r_SI_shows_0 {d rc rs : Nat} {Q : Option Value → Mu → Prop} {μ : Mu} {a0 : Nat} {x1 : Int32} {x2 : Int32} (hD : 1 ≤ d)
    (hF : ((¬ (60 : Int32) < 0 ∧ 60 ≤ 1000000 ∧ 1 ≤ rc ∧ 60 ≤ rs) ∧ (∃ q2, FreN μ q2 ∧ Wx K_SI_shows d (rc - 1) (rs - 60) Q 11 [(0, .ref a0), (1, .int x1), (2, .int x2), (3, .int 0), (4, .ref q2), (5, .int 0)] [] (mkA μ q2 (2, 60))))) : Wx K_SI_shows d rc rs Q 0 [(0, .ref a0), (1, .int x1), (2, .int x2)] [] μ := by
  refine Wa.iconst (v := 0) d_SI_shows_0 rfl ?_
  refine Wa.istore_n (i := 3) (L' := [(3, .int 0), (0, .ref a0), (1, .int x1), (2, .int x2)]) d_SI_shows_1 rfl (by decide) rfl ?_
  refine Wa.bipush (v := 60) d_SI_shows_2 rfl ?_
  have hc1 := hF.1
  have hF := hF.2
  obtain ⟨q2, hc3, hF⟩ := hF
  refine Wr.newarr 2 60 q2 d_SI_shows_4 ac_int rfl (by decide) hc1.1 rfl hc1.2.1 hc1.2.2.1 hc1.2.2.2 hc3 ?_
  refine Wa.astore (i := 4) (L' := [(4, .ref q2), (3, .int 0), (0, .ref a0), (1, .int x1), (2, .int x2)]) d_SI_shows_6 (by decide) rfl ?_
  refine Wa.iconst (v := 0) d_SI_shows_8 rfl ?_
  refine Wa.istore (i := 5) (L' := [(5, .int 0), (4, .ref q2), (3, .int 0), (0, .ref a0), (1, .int x1), (2, .int x2)]) d_SI_shows_9 (by decide) rfl ?_
  exact Wa.loc [3, 4, 5, 2, 1, 0] rfl hF
theorem e_SI_shows {d rc rs : Nat} {Q : Option Value → Mu → Prop} {μ : Mu} {a0 : Nat} {x1 : Int32} {x2 : Int32} (hk : Wx K_SI_shows d rc rs (fun r μ' => St μ' ∧ Q r μ') 0 [(0, .ref a0), (1, .int x1), (2, .int x2)] [] μ) : Cal K_SI_shows d rc rs [.ref a0, .int x1, .int x2] μ Q := Cal.of (by decide +kernel) rfl rfl (Nat.le_of_ble_eq_true rfl) rfl hk
set_option maxHeartbeats 4000000 in
set_option maxRecDepth 20000 in
theorem r_SI_shows_11 {d rc rs : Nat} {Q : Option Value → Mu → Prop} {μ : Mu} {a0 : Nat} {x1 : Int32} {x2 : Int32} {x3 : Int32} {a4 : Nat} {x5 : Int32} (hD : 1 ≤ d)
    (hF : (mS μ a0 = (1, 11) ∧ (((gI μ a0 4) ≤ x5 → ((¬ x3 < 0 ∧ x3.toNatClampNeg ≤ 1000000 ∧ 1 ≤ rc ∧ x3.toNatClampNeg ≤ rs) ∧ (∃ q3, FreN μ q3 ∧ Wx K_SI_shows d (rc - 1) (rs - x3.toNatClampNeg) Q 104 [(3, .int x3), (4, .ref a4), (5, .ref q3), (6, .int 0)] [] (mkA μ q3 (2, x3.toNatClampNeg))))) ∧ (¬ (gI μ a0 4) ≤ x5 → Wx K_SI_shows d rc rs Q 23 [(0, .ref a0), (1, .int x1), (2, .int x2), (3, .int x3), (4, .ref a4), (5, .int x5), (6, .int 0)] [] μ)))) : Wx K_SI_shows d rc rs Q 11 [(0, .ref a0), (1, .int x1), (2, .int x2), (3, .int x3), (4, .ref a4), (5, .int x5)] [] μ := by
  refine Wa.iload (j := 5) d_SI_shows_11 rfl ?_
  refine Wa.aload_n (j := 0) d_SI_shows_13 rfl ?_
  have hc1 := hF.1
  have hF := hF.2
  refine Wr.getI 11 4 d_SI_shows_14 f_SI_4 fl_SI_30 hc1 ?_
  refine Wa.icmp_ge 96 d_SI_shows_17 (by decide) (fun hb => ?_) (fun hb => ?_)
  · have hF := hF.1 hb
    refine Wa.iload_n (j := 3) d_SI_shows_96 rfl ?_
    have hc2 := hF.1
    have hF := hF.2
    obtain ⟨q3, hc4, hF⟩ := hF
    refine Wr.newarr 2 x3.toNatClampNeg q3 d_SI_shows_97 ac_int rfl (by decide) hc2.1 rfl hc2.2.1 hc2.2.2.1 hc2.2.2.2 hc4 ?_
    refine Wa.astore (i := 5) (L' := [(5, .ref q3), (0, .ref a0), (1, .int x1), (2, .int x2), (3, .int x3), (4, .ref a4)]) d_SI_shows_99 (by decide) rfl ?_
    refine Wa.iconst (v := 0) d_SI_shows_101 rfl ?_
    refine Wa.istore (i := 6) (L' := [(6, .int 0), (5, .ref q3), (0, .ref a0), (1, .int x1), (2, .int x2), (3, .int x3), (4, .ref a4)]) d_SI_shows_102 (by decide) rfl ?_
    exact Wa.loc [5, 6, 1, 0] rfl hF
  · have hF := hF.2 hb
    refine Wa.iconst (v := 0) d_SI_shows_20 rfl ?_
    refine Wa.istore (i := 6) (L' := [(6, .int 0), (0, .ref a0), (1, .int x1), (2, .int x2), (3, .int x3), (4, .ref a4), (5, .int x5)]) d_SI_shows_21 (by decide) rfl ?_
    exact Wa.loc [1, 2, 3, 4, 5, 6, 0] rfl hF
set_option maxHeartbeats 4000000 in
set_option maxRecDepth 20000 in
theorem r_SI_shows_23 {d rc rs : Nat} {Q : Option Value → Mu → Prop} {μ : Mu} {a0 : Nat} {x1 : Int32} {x2 : Int32} {x3 : Int32} {a4 : Nat} {x5 : Int32} {x6 : Int32} (hD : 1 ≤ d)
    (hF : (mS μ a0 = (1, 11) ∧ (∃ b2, gR μ a0 6 = some b2 ∧ (∃ n4, mS μ b2 = (40, n4) ∧ (((nI n4) ≤ x6 → Wx K_SI_shows d rc rs Q 11 [(0, .ref a0), (1, .int x1), (2, .int x2), (3, .int x3), (4, .ref a4), (5, .int (x5 + 1))] [] μ) ∧ (¬ (nI n4) ≤ x6 → (mS μ a0 = (1, 11) ∧ (∃ b7, gR μ a0 9 = some b7 ∧ (∃ n9, (mS μ b7 = (41, n9) ∧ vp_in x1 n9) ∧ (∃ b11, gR μ b7 x1.toNatClampNeg = some b11 ∧ (∃ n13, (mS μ b11 = (5, n13) ∧ vp_in x6 n13) ∧ (((gI μ b11 x6.toNatClampNeg) = 0 → Wx K_SI_shows d rc rs Q 23 [(0, .ref a0), (1, .int x1), (2, .int x2), (3, .int x3), (4, .ref a4), (5, .int x5), (6, .int (x6 + 1))] [] μ) ∧ (¬ (gI μ b11 x6.toNatClampNeg) = 0 → (mS μ a0 = (1, 11) ∧ (∃ b16, gR μ a0 6 = some b16 ∧ (∃ n18, (mS μ b16 = (40, n18) ∧ vp_in x6 n18) ∧ (∃ b20, gR μ b16 x6.toNatClampNeg = some b20 ∧ (∃ n22, (mS μ b20 = (2, n22) ∧ vp_in (1 : Int32) n22) ∧ (((gI μ b20 (1 : Int32).toNatClampNeg) = x2 → (mS μ a0 = (1, 11) ∧ (∃ b25, gR μ a0 6 = some b25 ∧ (∃ n27, (mS μ b25 = (40, n27) ∧ vp_in x6 n27) ∧ (∃ b29, gR μ b25 x6.toNatClampNeg = some b29 ∧ (∃ n31, (mS μ b29 = (2, n31) ∧ vp_in (0 : Int32) n31) ∧ (((gI μ b29 (0 : Int32).toNatClampNeg) = x5 → (∃ n33, (mS μ a4 = (2, n33) ∧ vp_in x3 n33 ∧ hiN a4) ∧ Wx K_SI_shows d rc rs Q 23 [(0, .ref a0), (1, .int x1), (2, .int x2), (3, .int (x3 + 1)), (4, .ref a4), (5, .int x5), (6, .int (x6 + 1))] [] (setI μ a4 x3.toNatClampNeg x6))) ∧ (¬ (gI μ b29 (0 : Int32).toNatClampNeg) = x5 → Wx K_SI_shows d rc rs Q 23 [(0, .ref a0), (1, .int x1), (2, .int x2), (3, .int x3), (4, .ref a4), (5, .int x5), (6, .int (x6 + 1))] [] μ)))))))) ∧ (¬ (gI μ b20 (1 : Int32).toNatClampNeg) = x2 → Wx K_SI_shows d rc rs Q 23 [(0, .ref a0), (1, .int x1), (2, .int x2), (3, .int x3), (4, .ref a4), (5, .int x5), (6, .int (x6 + 1))] [] μ)))))))))))))))))))) : Wx K_SI_shows d rc rs Q 23 [(0, .ref a0), (1, .int x1), (2, .int x2), (3, .int x3), (4, .ref a4), (5, .int x5), (6, .int x6)] [] μ := by
  refine Wa.iload (j := 6) d_SI_shows_23 rfl ?_
  refine Wa.aload_n (j := 0) d_SI_shows_25 rfl ?_
  have hc1 := hF.1
  have hF := hF.2
  obtain ⟨b2, hc3, hF⟩ := hF
  refine Wr.getR 11 6 d_SI_shows_26 f_SI_6 rfl fl_SI_9 hc1 hc3 ?_
  obtain ⟨n4, hc5, hF⟩ := hF
  refine Wa.alen d_SI_shows_29 hc5 (by decide) ?_
  refine Wa.icmp_ge 90 d_SI_shows_30 (by decide) (fun hb => ?_) (fun hb => ?_)
  · have hF := hF.1 hb
    refine Wa.iinc (i := 5) (j := 5) (v := (x5 + 1)) (L' := [(5, .int (x5 + 1)), (0, .ref a0), (1, .int x1), (2, .int x2), (3, .int x3), (4, .ref a4), (6, .int x6)]) d_SI_shows_90 rfl rfl (by decide) rfl ?_
    refine Wa.goto 11 d_SI_shows_93 (by decide) ?_
    exact Wa.loc [1, 2, 3, 4, 5, 0] rfl hF
  · have hF := hF.2 hb
    refine Wa.aload_n (j := 0) d_SI_shows_33 rfl ?_
    have hc6 := hF.1
    have hF := hF.2
    obtain ⟨b7, hc8, hF⟩ := hF
    refine Wr.getR 11 9 d_SI_shows_34 f_SI_9 rfl fl_SI_41 hc6 hc8 ?_
    refine Wa.iload_n (j := 1) d_SI_shows_37 rfl ?_
    obtain ⟨n9, hc10, hF⟩ := hF
    obtain ⟨b11, hc12, hF⟩ := hF
    refine Wa.aaldA ct_le d_SI_shows_38 (Or.inr rfl) hc10.1 hc10.2 hc12 ?_
    refine Wa.iload (j := 6) d_SI_shows_39 rfl ?_
    obtain ⟨n13, hc14, hF⟩ := hF
    refine Wa.zald d_SI_shows_41 hc14.1 hc14.2 ?_
    refine Wa.if_eq 84 d_SI_shows_42 (by decide) (fun hb => ?_) (fun hb => ?_)
    · have hF := hF.1 hb
      refine Wa.iinc (i := 6) (j := 6) (v := (x6 + 1)) (L' := [(6, .int (x6 + 1)), (0, .ref a0), (1, .int x1), (2, .int x2), (3, .int x3), (4, .ref a4), (5, .int x5)]) d_SI_shows_84 rfl rfl (by decide) rfl ?_
      refine Wa.goto 23 d_SI_shows_87 (by decide) ?_
      exact Wa.loc [1, 2, 3, 4, 5, 6, 0] rfl hF
    · have hF := hF.2 hb
      refine Wa.aload_n (j := 0) d_SI_shows_45 rfl ?_
      have hc15 := hF.1
      have hF := hF.2
      obtain ⟨b16, hc17, hF⟩ := hF
      refine Wr.getR 11 6 d_SI_shows_46 f_SI_6 rfl fl_SI_9 hc15 hc17 ?_
      refine Wa.iload (j := 6) d_SI_shows_49 rfl ?_
      obtain ⟨n18, hc19, hF⟩ := hF
      obtain ⟨b20, hc21, hF⟩ := hF
      refine Wa.aaldA ct_le d_SI_shows_51 (Or.inl rfl) hc19.1 hc19.2 hc21 ?_
      refine Wa.iconst (v := 1) d_SI_shows_52 rfl ?_
      obtain ⟨n22, hc23, hF⟩ := hF
      refine Wa.iald d_SI_shows_53 hc23.1 hc23.2 ?_
      refine Wa.iload_n (j := 2) d_SI_shows_54 rfl ?_
      refine Wa.icmp_ne 84 d_SI_shows_55 (by decide) (fun hb => ?_) (fun hb => ?_)
      · have hF := hF.2 hb
        refine Wa.iinc (i := 6) (j := 6) (v := (x6 + 1)) (L' := [(6, .int (x6 + 1)), (0, .ref a0), (1, .int x1), (2, .int x2), (3, .int x3), (4, .ref a4), (5, .int x5)]) d_SI_shows_84 rfl rfl (by decide) rfl ?_
        refine Wa.goto 23 d_SI_shows_87 (by decide) ?_
        exact Wa.loc [1, 2, 3, 4, 5, 6, 0] rfl hF
      · have hF := hF.1 hb
        refine Wa.aload_n (j := 0) d_SI_shows_58 rfl ?_
        have hc24 := hF.1
        have hF := hF.2
        obtain ⟨b25, hc26, hF⟩ := hF
        refine Wr.getR 11 6 d_SI_shows_59 f_SI_6 rfl fl_SI_9 hc24 hc26 ?_
        refine Wa.iload (j := 6) d_SI_shows_62 rfl ?_
        obtain ⟨n27, hc28, hF⟩ := hF
        obtain ⟨b29, hc30, hF⟩ := hF
        refine Wa.aaldA ct_le d_SI_shows_64 (Or.inl rfl) hc28.1 hc28.2 hc30 ?_
        refine Wa.iconst (v := 0) d_SI_shows_65 rfl ?_
        obtain ⟨n31, hc32, hF⟩ := hF
        refine Wa.iald d_SI_shows_66 hc32.1 hc32.2 ?_
        refine Wa.iload (j := 5) d_SI_shows_67 rfl ?_
        refine Wa.icmp_eq 75 d_SI_shows_69 (by decide) (fun hb => ?_) (fun hb => ?_)
        · have hF := hF.1 hb
          refine Wa.aload (j := 4) d_SI_shows_75 rfl ?_
          refine Wa.iload_n (j := 3) d_SI_shows_77 rfl ?_
          refine Wa.iload (j := 6) d_SI_shows_78 rfl ?_
          obtain ⟨n33, hc34, hF⟩ := hF
          refine Wr.iast d_SI_shows_80 hc34.1 hc34.2.1 hc34.2.2 ?_
          refine Wa.iinc (i := 3) (j := 3) (v := (x3 + 1)) (L' := [(3, .int (x3 + 1)), (0, .ref a0), (1, .int x1), (2, .int x2), (4, .ref a4), (5, .int x5), (6, .int x6)]) d_SI_shows_81 rfl rfl (by decide) rfl ?_
          refine Wa.iinc (i := 6) (j := 6) (v := (x6 + 1)) (L' := [(6, .int (x6 + 1)), (3, .int (x3 + 1)), (0, .ref a0), (1, .int x1), (2, .int x2), (4, .ref a4), (5, .int x5)]) d_SI_shows_84 rfl rfl (by decide) rfl ?_
          refine Wa.goto 23 d_SI_shows_87 (by decide) ?_
          exact Wa.loc [2, 3, 4, 1, 5, 6, 0] rfl hF
        · have hF := hF.2 hb
          refine Wa.goto 84 d_SI_shows_72 (by decide) ?_
          refine Wa.iinc (i := 6) (j := 6) (v := (x6 + 1)) (L' := [(6, .int (x6 + 1)), (0, .ref a0), (1, .int x1), (2, .int x2), (3, .int x3), (4, .ref a4), (5, .int x5)]) d_SI_shows_84 rfl rfl (by decide) rfl ?_
          refine Wa.goto 23 d_SI_shows_87 (by decide) ?_
          exact Wa.loc [1, 2, 3, 4, 5, 6, 0] rfl hF
set_option maxHeartbeats 4000000 in
set_option maxRecDepth 20000 in
theorem r_SI_shows_104 {d rc rs : Nat} {Q : Option Value → Mu → Prop} {μ : Mu} {x3 : Int32} {a4 : Nat} {a5 : Nat} {x6 : Int32} (hD : 1 ≤ d)
    (hF : ((x3 ≤ x6 → Q (some (.ref a5)) μ) ∧ (¬ x3 ≤ x6 → (∃ n1, (mS μ a4 = (2, n1) ∧ vp_in x6 n1) ∧ (∃ n3, (mS μ a5 = (2, n3) ∧ vp_in x6 n3 ∧ hiN a5) ∧ Wx K_SI_shows d rc rs Q 104 [(3, .int x3), (4, .ref a4), (5, .ref a5), (6, .int (x6 + 1))] [] (setI μ a5 x6.toNatClampNeg (gI μ a4 x6.toNatClampNeg))))))) : Wx K_SI_shows d rc rs Q 104 [(3, .int x3), (4, .ref a4), (5, .ref a5), (6, .int x6)] [] μ := by
  refine Wa.iload (j := 3) d_SI_shows_104 rfl ?_
  refine Wa.iload_n (j := 0) d_SI_shows_106 rfl ?_
  refine Wa.icmp_ge 126 d_SI_shows_107 (by decide) (fun hb => ?_) (fun hb => ?_)
  · have hF := hF.1 hb
    refine Wa.aload (j := 2) d_SI_shows_126 rfl ?_
    exact Wx.retA d_SI_shows_128 rfl hF
  · have hF := hF.2 hb
    refine Wa.aload (j := 2) d_SI_shows_110 rfl ?_
    refine Wa.iload (j := 3) d_SI_shows_112 rfl ?_
    refine Wa.aload (j := 1) d_SI_shows_114 rfl ?_
    refine Wa.iload (j := 3) d_SI_shows_116 rfl ?_
    obtain ⟨n1, hc2, hF⟩ := hF
    refine Wa.iald d_SI_shows_118 hc2.1 hc2.2 ?_
    obtain ⟨n3, hc4, hF⟩ := hF
    refine Wr.iast d_SI_shows_119 hc4.1 hc4.2.1 hc4.2.2 ?_
    refine Wa.iinc (i := 6) (j := 3) (v := (x6 + 1)) (L' := [(6, .int (x6 + 1)), (3, .int x3), (4, .ref a4), (5, .ref a5)]) d_SI_shows_120 rfl rfl (by decide) rfl ?_
    refine Wa.goto 104 d_SI_shows_123 (by decide) ?_
    exact Wa.loc [1, 2, 3, 0] rfl hF
set_option maxHeartbeats 4000000 in
set_option maxRecDepth 20000 in
theorem r_SI_marks_0 {d rc rs : Nat} {Q : Option Value → Mu → Prop} {μ : Mu} {a0 : Nat} {x1 : Int32} {x2 : Int32} (hD : 1 ≤ d)
    (hF : (∃ cc1 ss2 : Nat, (cc1 ≤ rc ∧ ss2 ≤ rs) ∧ (mS μ a0 = (1, 11) ∧ Cal K_SI_shows (d - 1) cc1 ss2 [.ref a0, .int x1, .int x2] μ (fun r μ4 => ∃ b6, r = some (.ref b6) ∧ (∃ n7, mS μ4 b6 = (2, n7) ∧ Wx K_SI_marks d (rc - cc1) (rs - ss2) Q 18 [(0, .ref a0), (3, .int 0), (4, .ref b6), (5, .int (nI n7)), (6, .int 0)] [] μ4))))) : Wx K_SI_marks d rc rs Q 0 [(0, .ref a0), (1, .int x1), (2, .int x2)] [] μ := by
  refine Wa.iconst (v := 0) d_SI_marks_0 rfl ?_
  refine Wa.istore_n (i := 3) (L' := [(3, .int 0), (0, .ref a0), (1, .int x1), (2, .int x2)]) d_SI_marks_1 rfl (by decide) rfl ?_
  refine Wa.aload_n (j := 1) d_SI_marks_2 rfl ?_
  refine Wa.iload_n (j := 2) d_SI_marks_3 rfl ?_
  refine Wa.iload_n (j := 3) d_SI_marks_4 rfl ?_
  obtain ⟨cc1, ss2, hc3, hF⟩ := hF
  have hc5 := hF.1
  have hF := hF.2
  refine Wr.cVr (q := E_SI) (As := [.int x1, .int x2]) 11 (d - 1) cc1 ss2 _ d_SI_marks_5 mok_SI_shows vl_SI_72 rfl rfl rfl (Nat.le_of_ble_eq_true rfl) (by omega) hc3.1 hc3.2 hc5 hF (fun b6 μ4 hS hF => ?_)
  refine Wa.astore (i := 4) (L' := [(4, .ref b6), (3, .int 0), (0, .ref a0), (1, .int x1), (2, .int x2)]) d_SI_marks_8 (by decide) rfl ?_
  refine Wa.aload (j := 0) d_SI_marks_10 rfl ?_
  obtain ⟨n7, hc8, hF⟩ := hF
  refine Wa.alen d_SI_marks_12 hc8 (by decide) ?_
  refine Wa.istore (i := 5) (L' := [(5, .int (nI n7)), (4, .ref b6), (3, .int 0), (0, .ref a0), (1, .int x1), (2, .int x2)]) d_SI_marks_13 (by decide) rfl ?_
  refine Wa.iconst (v := 0) d_SI_marks_15 rfl ?_
  refine Wa.istore (i := 6) (L' := [(6, .int 0), (5, .int (nI n7)), (4, .ref b6), (3, .int 0), (0, .ref a0), (1, .int x1), (2, .int x2)]) d_SI_marks_16 (by decide) rfl ?_
  exact Wa.loc [4, 3, 2, 1, 0] rfl hF
theorem e_SI_marks {d rc rs : Nat} {Q : Option Value → Mu → Prop} {μ : Mu} {a0 : Nat} {x1 : Int32} {x2 : Int32} (hk : Wx K_SI_marks d rc rs (fun r μ' => St μ' ∧ Q r μ') 0 [(0, .ref a0), (1, .int x1), (2, .int x2)] [] μ) : Cal K_SI_marks d rc rs [.ref a0, .int x1, .int x2] μ Q := Cal.of (by decide +kernel) rfl rfl (Nat.le_of_ble_eq_true rfl) rfl hk
set_option maxHeartbeats 4000000 in
set_option maxRecDepth 20000 in
theorem r_SI_marks_18 {d rc rs : Nat} {Q : Option Value → Mu → Prop} {μ : Mu} {a0 : Nat} {x3 : Int32} {a4 : Nat} {x5 : Int32} {x6 : Int32} (hD : 1 ≤ d)
    (hF : ((x5 ≤ x6 → Q (some (.int x3)) μ) ∧ (¬ x5 ≤ x6 → (∃ n1, (mS μ a4 = (2, n1) ∧ vp_in x6 n1) ∧ (mS μ a0 = (1, 11) ∧ (∃ b4, gR μ a0 6 = some b4 ∧ (∃ n6, (mS μ b4 = (40, n6) ∧ vp_in (gI μ a4 x6.toNatClampNeg) n6) ∧ (∃ b8, gR μ b4 (gI μ a4 x6.toNatClampNeg).toNatClampNeg = some b8 ∧ (∃ n10, (mS μ b8 = (2, n10) ∧ vp_in (3 : Int32) n10) ∧ Wx K_SI_marks d rc rs Q 18 [(0, .ref a0), (3, .int (x3 ||| (gI μ b8 (3 : Int32).toNatClampNeg))), (4, .ref a4), (5, .int x5), (6, .int (x6 + 1))] [] μ))))))))) : Wx K_SI_marks d rc rs Q 18 [(0, .ref a0), (3, .int x3), (4, .ref a4), (5, .int x5), (6, .int x6)] [] μ := by
  refine Wa.iload (j := 4) d_SI_marks_18 rfl ?_
  refine Wa.iload (j := 3) d_SI_marks_20 rfl ?_
  refine Wa.icmp_ge 50 d_SI_marks_22 (by decide) (fun hb => ?_) (fun hb => ?_)
  · have hF := hF.1 hb
    refine Wa.iload_n (j := 1) d_SI_marks_50 rfl ?_
    exact Wx.reti d_SI_marks_51 rfl hF
  · have hF := hF.2 hb
    refine Wa.aload (j := 2) d_SI_marks_25 rfl ?_
    refine Wa.iload (j := 4) d_SI_marks_27 rfl ?_
    obtain ⟨n1, hc2, hF⟩ := hF
    refine Wa.iald d_SI_marks_29 hc2.1 hc2.2 ?_
    refine Wa.istore (i := 7) (L' := [(7, .int (gI μ a4 x6.toNatClampNeg)), (0, .ref a0), (3, .int x3), (4, .ref a4), (5, .int x5), (6, .int x6)]) d_SI_marks_30 (by decide) rfl ?_
    refine Wa.iload_n (j := 2) d_SI_marks_32 rfl ?_
    refine Wa.aload_n (j := 1) d_SI_marks_33 rfl ?_
    have hc3 := hF.1
    have hF := hF.2
    obtain ⟨b4, hc5, hF⟩ := hF
    refine Wr.getR 11 6 d_SI_marks_34 f_SI_6 rfl fl_SI_9 hc3 hc5 ?_
    refine Wa.iload (j := 0) d_SI_marks_37 rfl ?_
    obtain ⟨n6, hc7, hF⟩ := hF
    obtain ⟨b8, hc9, hF⟩ := hF
    refine Wa.aaldA ct_le d_SI_marks_39 (Or.inl rfl) hc7.1 hc7.2 hc9 ?_
    refine Wa.iconst (v := 3) d_SI_marks_40 rfl ?_
    obtain ⟨n10, hc11, hF⟩ := hF
    refine Wa.iald d_SI_marks_41 hc11.1 hc11.2 ?_
    refine Wa.ior d_SI_marks_42 ?_
    refine Wa.istore_n (i := 3) (L' := [(3, .int (x3 ||| (gI μ b8 (3 : Int32).toNatClampNeg))), (7, .int (gI μ a4 x6.toNatClampNeg)), (0, .ref a0), (4, .ref a4), (5, .int x5), (6, .int x6)]) d_SI_marks_43 rfl (by decide) rfl ?_
    refine Wa.iinc (i := 6) (j := 5) (v := (x6 + 1)) (L' := [(6, .int (x6 + 1)), (3, .int (x3 ||| (gI μ b8 (3 : Int32).toNatClampNeg))), (7, .int (gI μ a4 x6.toNatClampNeg)), (0, .ref a0), (4, .ref a4), (5, .int x5)]) d_SI_marks_44 rfl rfl (by decide) rfl ?_
    refine Wa.goto 18 d_SI_marks_47 (by decide) ?_
    exact Wa.loc [3, 1, 4, 5, 0] rfl hF
set_option maxHeartbeats 4000000 in
set_option maxRecDepth 20000 in
theorem r_SI_make_0 {d rc rs : Nat} {Q : Option Value → Mu → Prop} {μ : Mu} {a0 : Nat} {x1 : Int32} {x2 : Int32} {x3 : Int32} {x4 : Int32} {x5 : Int32} (hD : 1 ≤ d)
    (hF : (mS μ a0 = (1, 11) ∧ (∃ b2, gR μ a0 6 = some b2 ∧ (∃ n4, mS μ b2 = (40, n4) ∧ (∃ cc6 ss7 : Nat, (cc6 ≤ rc ∧ ss7 ≤ rs) ∧ (mS μ a0 = (1, 11) ∧ Cal K_SI_shows (d - 1) cc6 ss7 [.ref a0, .int x1, .int x2] μ (fun r μ9 => ∃ b11, r = some (.ref b11) ∧ (∃ n12, mS μ9 b11 = (2, n12) ∧ Wx K_SI_make d (rc - cc6) (rs - ss7) Q 23 [(0, .ref a0), (1, .int x1), (2, .int x2), (3, .int x3), (4, .int x4), (5, .int x5), (6, .int (nI n4)), (7, .ref b11), (8, .int (nI n12)), (9, .int 0)] [] μ9)))))))) : Wx K_SI_make d rc rs Q 0 [(0, .ref a0), (1, .int x1), (2, .int x2), (3, .int x3), (4, .int x4), (5, .int x5)] [] μ := by
  refine Wa.aload_n (j := 0) d_SI_make_0 rfl ?_
  have hc1 := hF.1
  have hF := hF.2
  obtain ⟨b2, hc3, hF⟩ := hF
  refine Wr.getR 11 6 d_SI_make_1 f_SI_6 rfl fl_SI_9 hc1 hc3 ?_
  obtain ⟨n4, hc5, hF⟩ := hF
  refine Wa.alen d_SI_make_4 hc5 (by decide) ?_
  refine Wa.istore (i := 6) (L' := [(6, .int (nI n4)), (0, .ref a0), (1, .int x1), (2, .int x2), (3, .int x3), (4, .int x4), (5, .int x5)]) d_SI_make_5 (by decide) rfl ?_
  refine Wa.aload_n (j := 1) d_SI_make_7 rfl ?_
  refine Wa.iload_n (j := 2) d_SI_make_8 rfl ?_
  refine Wa.iload_n (j := 3) d_SI_make_9 rfl ?_
  obtain ⟨cc6, ss7, hc8, hF⟩ := hF
  have hc10 := hF.1
  have hF := hF.2
  refine Wr.cVr (q := E_SI) (As := [.int x1, .int x2]) 11 (d - 1) cc6 ss7 _ d_SI_make_10 mok_SI_shows vl_SI_72 rfl rfl rfl (Nat.le_of_ble_eq_true rfl) (by omega) hc8.1 hc8.2 hc10 hF (fun b11 μ9 hS hF => ?_)
  refine Wa.astore (i := 7) (L' := [(7, .ref b11), (6, .int (nI n4)), (0, .ref a0), (1, .int x1), (2, .int x2), (3, .int x3), (4, .int x4), (5, .int x5)]) d_SI_make_13 (by decide) rfl ?_
  refine Wa.aload (j := 0) d_SI_make_15 rfl ?_
  obtain ⟨n12, hc13, hF⟩ := hF
  refine Wa.alen d_SI_make_17 hc13 (by decide) ?_
  refine Wa.istore (i := 8) (L' := [(8, .int (nI n12)), (7, .ref b11), (6, .int (nI n4)), (0, .ref a0), (1, .int x1), (2, .int x2), (3, .int x3), (4, .int x4), (5, .int x5)]) d_SI_make_18 (by decide) rfl ?_
  refine Wa.iconst (v := 0) d_SI_make_20 rfl ?_
  refine Wa.istore (i := 9) (L' := [(9, .int 0), (8, .int (nI n12)), (7, .ref b11), (6, .int (nI n4)), (0, .ref a0), (1, .int x1), (2, .int x2), (3, .int x3), (4, .int x4), (5, .int x5)]) d_SI_make_21 (by decide) rfl ?_
  exact Wa.loc [4, 5, 6, 7, 8, 9, 3, 2, 1, 0] rfl hF
theorem e_SI_make {d rc rs : Nat} {Q : Option Value → Mu → Prop} {μ : Mu} {a0 : Nat} {x1 : Int32} {x2 : Int32} {x3 : Int32} {x4 : Int32} {x5 : Int32} (hk : Wx K_SI_make d rc rs (fun r μ' => St μ' ∧ Q r μ') 0 [(0, .ref a0), (1, .int x1), (2, .int x2), (3, .int x3), (4, .int x4), (5, .int x5)] [] μ) : Cal K_SI_make d rc rs [.ref a0, .int x1, .int x2, .int x3, .int x4, .int x5] μ Q := Cal.of (by decide +kernel) rfl rfl (Nat.le_of_ble_eq_true rfl) rfl hk
set_option maxHeartbeats 4000000 in
set_option maxRecDepth 20000 in
theorem r_SI_make_23 {d rc rs : Nat} {Q : Option Value → Mu → Prop} {μ : Mu} {a0 : Nat} {x1 : Int32} {x2 : Int32} {x3 : Int32} {x4 : Int32} {x5 : Int32} {x6 : Int32} {a7 : Nat} {x8 : Int32} {x9 : Int32} (hD : 1 ≤ d)
    (hF : ((x8 ≤ x9 → (mS μ a0 = (1, 11) ∧ (∃ b2, gR μ a0 6 = some b2 ∧ ((¬ (6 : Int32) < 0 ∧ 6 ≤ 1000000 ∧ 1 ≤ rc ∧ 6 ≤ rs) ∧ (∃ q5, FreN μ q5 ∧ (∃ n7, (mS (mkA μ q5 (2, 6)) q5 = (2, n7) ∧ vp_in (0 : Int32) n7 ∧ hiN q5) ∧ (∃ n9, (mS (setI (mkA μ q5 (2, 6)) q5 (0 : Int32).toNatClampNeg x1) q5 = (2, n9) ∧ vp_in (1 : Int32) n9 ∧ hiN q5) ∧ (∃ n11, (mS (setI (setI (mkA μ q5 (2, 6)) q5 (0 : Int32).toNatClampNeg x1) q5 (1 : Int32).toNatClampNeg x2) q5 = (2, n11) ∧ vp_in (2 : Int32) n11 ∧ hiN q5) ∧ (∃ n13, (mS (setI (setI (setI (mkA μ q5 (2, 6)) q5 (0 : Int32).toNatClampNeg x1) q5 (1 : Int32).toNatClampNeg x2) q5 (2 : Int32).toNatClampNeg x3) q5 = (2, n13) ∧ vp_in (3 : Int32) n13 ∧ hiN q5) ∧ (mS (setI (setI (setI (setI (mkA μ q5 (2, 6)) q5 (0 : Int32).toNatClampNeg x1) q5 (1 : Int32).toNatClampNeg x2) q5 (2 : Int32).toNatClampNeg x3) q5 (3 : Int32).toNatClampNeg x4) a0 = (1, 11) ∧ (∃ n16, (mS (setI (setI (setI (setI (mkA μ q5 (2, 6)) q5 (0 : Int32).toNatClampNeg x1) q5 (1 : Int32).toNatClampNeg x2) q5 (2 : Int32).toNatClampNeg x3) q5 (3 : Int32).toNatClampNeg x4) q5 = (2, n16) ∧ vp_in (4 : Int32) n16 ∧ hiN q5) ∧ (∀ μ18 : Mu, μ18 = (setI (setI (setI (setI (setI (mkA μ q5 (2, 6)) q5 (0 : Int32).toNatClampNeg x1) q5 (1 : Int32).toNatClampNeg x2) q5 (2 : Int32).toNatClampNeg x3) q5 (3 : Int32).toNatClampNeg x4) q5 (4 : Int32).toNatClampNeg (gI (setI (setI (setI (setI (mkA μ q5 (2, 6)) q5 (0 : Int32).toNatClampNeg x1) q5 (1 : Int32).toNatClampNeg x2) q5 (2 : Int32).toNatClampNeg x3) q5 (3 : Int32).toNatClampNeg x4) a0 0)) → (∃ n19, (mS μ18 q5 = (2, n19) ∧ vp_in (5 : Int32) n19 ∧ hiN q5) ∧ (∃ cc21 ss22 : Nat, (cc21 ≤ rc - 1 ∧ ss22 ≤ rs - 6) ∧ Cal K_SI_with (d - 1) cc21 ss22 [.ref b2, .ref q5] (setI μ18 q5 (5 : Int32).toNatClampNeg x5) (fun r μ24 => ∃ b25, r = some (.ref b25) ∧ ((mS μ24 a0 = (1, 11) ∧ hiN a0) ∧ (mS (setR μ24 a0 6 b25) a0 = (1, 11) ∧ (∃ b28, gR (setR μ24 a0 6 b25) a0 8 = some b28 ∧ (∃ n30, (mS (setR μ24 a0 6 b25) b28 = (41, n30) ∧ vp_in x1 n30) ∧ (∃ b32, gR (setR μ24 a0 6 b25) b28 x1.toNatClampNeg = some b32 ∧ (∃ n34, (mS (setR μ24 a0 6 b25) b32 = (5, n34) ∧ vp_in x6 n34 ∧ hiN b32) ∧ (mS (setI (setR μ24 a0 6 b25) b32 x6.toNatClampNeg (vp_nar .boolean 1)) a0 = (1, 11) ∧ (∃ b37, gR (setI (setR μ24 a0 6 b25) b32 x6.toNatClampNeg (vp_nar .boolean 1)) a0 9 = some b37 ∧ (∃ n39, (mS (setI (setR μ24 a0 6 b25) b32 x6.toNatClampNeg (vp_nar .boolean 1)) b37 = (41, n39) ∧ vp_in x1 n39) ∧ (∃ b41, gR (setI (setR μ24 a0 6 b25) b32 x6.toNatClampNeg (vp_nar .boolean 1)) b37 x1.toNatClampNeg = some b41 ∧ (∃ n43, (mS (setI (setR μ24 a0 6 b25) b32 x6.toNatClampNeg (vp_nar .boolean 1)) b41 = (5, n43) ∧ vp_in x6 n43 ∧ hiN b41) ∧ (mS (setI (setI (setR μ24 a0 6 b25) b32 x6.toNatClampNeg (vp_nar .boolean 1)) b41 x6.toNatClampNeg (vp_nar .boolean 1)) a0 = (1, 11) ∧ (∃ b46, gR (setI (setI (setR μ24 a0 6 b25) b32 x6.toNatClampNeg (vp_nar .boolean 1)) b41 x6.toNatClampNeg (vp_nar .boolean 1)) a0 7 = some b46 ∧ (mS (setI (setI (setR μ24 a0 6 b25) b32 x6.toNatClampNeg (vp_nar .boolean 1)) b41 x6.toNatClampNeg (vp_nar .boolean 1)) a0 = (1, 11) ∧ (∃ b49, gR (setI (setI (setR μ24 a0 6 b25) b32 x6.toNatClampNeg (vp_nar .boolean 1)) b41 x6.toNatClampNeg (vp_nar .boolean 1)) a0 8 = some b49 ∧ (∃ n51, (mS (setI (setI (setR μ24 a0 6 b25) b32 x6.toNatClampNeg (vp_nar .boolean 1)) b41 x6.toNatClampNeg (vp_nar .boolean 1)) b49 = (41, n51) ∧ vp_in x1 n51) ∧ (∃ b53, gR (setI (setI (setR μ24 a0 6 b25) b32 x6.toNatClampNeg (vp_nar .boolean 1)) b41 x6.toNatClampNeg (vp_nar .boolean 1)) b49 x1.toNatClampNeg = some b53 ∧ (∃ n55, (mS (setI (setI (setR μ24 a0 6 b25) b32 x6.toNatClampNeg (vp_nar .boolean 1)) b41 x6.toNatClampNeg (vp_nar .boolean 1)) b53 = (5, n55) ∧ hiN b53 ∧ (∀ k, k < n55 → fits .boolean (.int (gI (setI (setI (setR μ24 a0 6 b25) b32 x6.toNatClampNeg (vp_nar .boolean 1)) b41 x6.toNatClampNeg (vp_nar .boolean 1)) b53 k)) = true) ∧ 1 ≤ rc - 1 - cc21 ∧ n55 ≤ rs - 6 - ss22) ∧ (∃ q57, FreN (setI (setI (setR μ24 a0 6 b25) b32 x6.toNatClampNeg (vp_nar .boolean 1)) b41 x6.toNatClampNeg (vp_nar .boolean 1)) q57 ∧ (∃ n59, (mS (clA (setI (setI (setR μ24 a0 6 b25) b32 x6.toNatClampNeg (vp_nar .boolean 1)) b41 x6.toNatClampNeg (vp_nar .boolean 1)) b53 q57) q57 = (5, n59) ∧ hiN q57) ∧ (∃ n61, (mS (clA (setI (setI (setR μ24 a0 6 b25) b32 x6.toNatClampNeg (vp_nar .boolean 1)) b41 x6.toNatClampNeg (vp_nar .boolean 1)) b53 q57) b46 = (41, n61) ∧ vp_in x6 n61 ∧ hiN b46) ∧ (∃ n63, (mS (clA (setI (setI (setR μ24 a0 6 b25) b32 x6.toNatClampNeg (vp_nar .boolean 1)) b41 x6.toNatClampNeg (vp_nar .boolean 1)) b53 q57) q57 = (5, n63) ∧ hiN q57) ∧ (mS (setR (clA (setI (setI (setR μ24 a0 6 b25) b32 x6.toNatClampNeg (vp_nar .boolean 1)) b41 x6.toNatClampNeg (vp_nar .boolean 1)) b53 q57) b46 x6.toNatClampNeg q57) a0 = (1, 11) ∧ ((x5 = 2 → ((mS (setR (clA (setI (setI (setR μ24 a0 6 b25) b32 x6.toNatClampNeg (vp_nar .boolean 1)) b41 x6.toNatClampNeg (vp_nar .boolean 1)) b53 q57) b46 x6.toNatClampNeg q57) a0 = (1, 11) ∧ hiN a0) ∧ (∀ μ69 : Mu, μ69 = (setI (setR (clA (setI (setI (setR μ24 a0 6 b25) b32 x6.toNatClampNeg (vp_nar .boolean 1)) b41 x6.toNatClampNeg (vp_nar .boolean 1)) b53 q57) b46 x6.toNatClampNeg q57) a0 2 ((gI (setR (clA (setI (setI (setR μ24 a0 6 b25) b32 x6.toNatClampNeg (vp_nar .boolean 1)) b41 x6.toNatClampNeg (vp_nar .boolean 1)) b53 q57) b46 x6.toNatClampNeg q57) a0 2) + (1 : Int32))) → Q (some (.int x6)) μ69))) ∧ (¬ x5 = 2 → ((mS (setR (clA (setI (setI (setR μ24 a0 6 b25) b32 x6.toNatClampNeg (vp_nar .boolean 1)) b41 x6.toNatClampNeg (vp_nar .boolean 1)) b53 q57) b46 x6.toNatClampNeg q57) a0 = (1, 11) ∧ hiN a0) ∧ (∀ μ67 : Mu, μ67 = (setI (setR (clA (setI (setI (setR μ24 a0 6 b25) b32 x6.toNatClampNeg (vp_nar .boolean 1)) b41 x6.toNatClampNeg (vp_nar .boolean 1)) b53 q57) b46 x6.toNatClampNeg q57) a0 2 ((gI (setR (clA (setI (setI (setR μ24 a0 6 b25) b32 x6.toNatClampNeg (vp_nar .boolean 1)) b41 x6.toNatClampNeg (vp_nar .boolean 1)) b53 q57) b46 x6.toNatClampNeg q57) a0 2) + (0 : Int32))) → Q (some (.int x6)) μ67)))))))))))))))))))))))))))))))))))))))))) ∧ (¬ x8 ≤ x9 → (∃ n70, (mS μ a7 = (2, n70) ∧ vp_in x9 n70) ∧ (mS μ a0 = (1, 11) ∧ (∃ b73, gR μ a0 9 = some b73 ∧ (∃ n75, (mS μ b73 = (41, n75) ∧ vp_in x1 n75) ∧ (∃ b77, gR μ b73 x1.toNatClampNeg = some b77 ∧ (∃ n79, (mS μ b77 = (5, n79) ∧ vp_in (gI μ a7 x9.toNatClampNeg) n79 ∧ hiN b77) ∧ Wx K_SI_make d rc rs Q 23 [(0, .ref a0), (1, .int x1), (2, .int x2), (3, .int x3), (4, .int x4), (5, .int x5), (6, .int x6), (7, .ref a7), (8, .int x8), (9, .int (x9 + 1))] [] (setI μ b77 (gI μ a7 x9.toNatClampNeg).toNatClampNeg (vp_nar .boolean 0))))))))))) : Wx K_SI_make d rc rs Q 23 [(0, .ref a0), (1, .int x1), (2, .int x2), (3, .int x3), (4, .int x4), (5, .int x5), (6, .int x6), (7, .ref a7), (8, .int x8), (9, .int x9)] [] μ := by
  refine Wa.iload (j := 9) d_SI_make_23 rfl ?_
  refine Wa.iload (j := 8) d_SI_make_25 rfl ?_
  refine Wa.icmp_ge 53 d_SI_make_27 (by decide) (fun hb => ?_) (fun hb => ?_)
  · have hF := hF.1 hb
    refine Wa.aload_n (j := 0) d_SI_make_53 rfl ?_
    refine Wa.aload_n (j := 0) d_SI_make_54 rfl ?_
    have hc1 := hF.1
    have hF := hF.2
    obtain ⟨b2, hc3, hF⟩ := hF
    refine Wr.getR 11 6 d_SI_make_55 f_SI_6 rfl fl_SI_9 hc1 hc3 ?_
    refine Wa.bipush (v := 6) d_SI_make_58 rfl ?_
    have hc4 := hF.1
    have hF := hF.2
    obtain ⟨q5, hc6, hF⟩ := hF
    refine Wr.newarr 2 6 q5 d_SI_make_60 ac_int rfl (by decide) hc4.1 rfl hc4.2.1 hc4.2.2.1 hc4.2.2.2 hc6 ?_
    refine Wa.dup d_SI_make_62 rfl ?_
    refine Wa.iconst (v := 0) d_SI_make_63 rfl ?_
    refine Wa.iload_n (j := 1) d_SI_make_64 rfl ?_
    obtain ⟨n7, hc8, hF⟩ := hF
    refine Wr.iast d_SI_make_65 hc8.1 hc8.2.1 hc8.2.2 ?_
    refine Wa.dup d_SI_make_66 rfl ?_
    refine Wa.iconst (v := 1) d_SI_make_67 rfl ?_
    refine Wa.iload_n (j := 2) d_SI_make_68 rfl ?_
    obtain ⟨n9, hc10, hF⟩ := hF
    refine Wr.iast d_SI_make_69 hc10.1 hc10.2.1 hc10.2.2 ?_
    refine Wa.dup d_SI_make_70 rfl ?_
    refine Wa.iconst (v := 2) d_SI_make_71 rfl ?_
    refine Wa.iload_n (j := 3) d_SI_make_72 rfl ?_
    obtain ⟨n11, hc12, hF⟩ := hF
    refine Wr.iast d_SI_make_73 hc12.1 hc12.2.1 hc12.2.2 ?_
    refine Wa.dup d_SI_make_74 rfl ?_
    refine Wa.iconst (v := 3) d_SI_make_75 rfl ?_
    refine Wa.iload (j := 4) d_SI_make_76 rfl ?_
    obtain ⟨n13, hc14, hF⟩ := hF
    refine Wr.iast d_SI_make_78 hc14.1 hc14.2.1 hc14.2.2 ?_
    refine Wa.dup d_SI_make_79 rfl ?_
    refine Wa.iconst (v := 4) d_SI_make_80 rfl ?_
    refine Wa.aload_n (j := 0) d_SI_make_81 rfl ?_
    have hc15 := hF.1
    have hF := hF.2
    refine Wr.getI 11 0 d_SI_make_82 f_SI_0 fl_SI_52 hc15 ?_
    obtain ⟨n16, hc17, hF⟩ := hF
    refine Wr.iast d_SI_make_85 hc17.1 hc17.2.1 hc17.2.2 ?_
    suffices hh : ∀ μ18 : Mu, μ18 = (setI (setI (setI (setI (setI (mkA μ q5 (2, 6)) q5 (0 : Int32).toNatClampNeg x1) q5 (1 : Int32).toNatClampNeg x2) q5 (2 : Int32).toNatClampNeg x3) q5 (3 : Int32).toNatClampNeg x4) q5 (4 : Int32).toNatClampNeg (gI (setI (setI (setI (setI (mkA μ q5 (2, 6)) q5 (0 : Int32).toNatClampNeg x1) q5 (1 : Int32).toNatClampNeg x2) q5 (2 : Int32).toNatClampNeg x3) q5 (3 : Int32).toNatClampNeg x4) a0 0)) → Wx K_SI_make d (rc - 1) (rs - 6) Q 86 [(0, .ref a0), (1, .int x1), (2, .int x2), (3, .int x3), (4, .int x4), (5, .int x5), (6, .int x6), (7, .ref a7), (8, .int x8), (9, .int x9)] [.ref q5, .ref b2, .ref a0] μ18 from hh _ rfl
    intro μ18 em18
    have hF := hF μ18 em18
    refine Wa.dup d_SI_make_86 rfl ?_
    refine Wa.iconst (v := 5) d_SI_make_87 rfl ?_
    refine Wa.iload (j := 5) d_SI_make_88 rfl ?_
    obtain ⟨n19, hc20, hF⟩ := hF
    refine Wr.iast d_SI_make_90 hc20.1 hc20.2.1 hc20.2.2 ?_
    obtain ⟨cc21, ss22, hc23, hF⟩ := hF
    refine Wr.cSr (As := [.ref b2, .ref q5]) (d - 1) cc21 ss22 _ d_SI_make_91 mok_SI_with sl_SI_76 rfl rfl (Nat.le_of_ble_eq_true rfl) (by omega) hc23.1 hc23.2 hF (fun b25 μ24 hS hF => ?_)
    have hc26 := hF.1
    have hF := hF.2
    refine Wr.putR 11 6 d_SI_make_94 f_SI_6 rfl ok_SI fl_SI_9 (Or.inl rfl) hc26.1 hc26.2 ?_
    refine Wa.aload_n (j := 0) d_SI_make_97 rfl ?_
    have hc27 := hF.1
    have hF := hF.2
    obtain ⟨b28, hc29, hF⟩ := hF
    refine Wr.getR 11 8 d_SI_make_98 f_SI_8 rfl fl_SI_38 hc27 hc29 ?_
    refine Wa.iload_n (j := 1) d_SI_make_101 rfl ?_
    obtain ⟨n30, hc31, hF⟩ := hF
    obtain ⟨b32, hc33, hF⟩ := hF
    refine Wa.aaldA ct_le d_SI_make_102 (Or.inr rfl) hc31.1 hc31.2 hc33 ?_
    refine Wa.iload (j := 6) d_SI_make_103 rfl ?_
    refine Wa.iconst (v := 1) d_SI_make_105 rfl ?_
    obtain ⟨n34, hc35, hF⟩ := hF
    refine Wr.zast d_SI_make_106 hc35.1 hc35.2.1 hc35.2.2 ?_
    refine Wa.aload_n (j := 0) d_SI_make_107 rfl ?_
    have hc36 := hF.1
    have hF := hF.2
    obtain ⟨b37, hc38, hF⟩ := hF
    refine Wr.getR 11 9 d_SI_make_108 f_SI_9 rfl fl_SI_41 hc36 hc38 ?_
    refine Wa.iload_n (j := 1) d_SI_make_111 rfl ?_
    obtain ⟨n39, hc40, hF⟩ := hF
    obtain ⟨b41, hc42, hF⟩ := hF
    refine Wa.aaldA ct_le d_SI_make_112 (Or.inr rfl) hc40.1 hc40.2 hc42 ?_
    refine Wa.iload (j := 6) d_SI_make_113 rfl ?_
    refine Wa.iconst (v := 1) d_SI_make_115 rfl ?_
    obtain ⟨n43, hc44, hF⟩ := hF
    refine Wr.zast d_SI_make_116 hc44.1 hc44.2.1 hc44.2.2 ?_
    refine Wa.aload_n (j := 0) d_SI_make_117 rfl ?_
    have hc45 := hF.1
    have hF := hF.2
    obtain ⟨b46, hc47, hF⟩ := hF
    refine Wr.getR 11 7 d_SI_make_118 f_SI_7 rfl fl_SI_17 hc45 hc47 ?_
    refine Wa.iload (j := 6) d_SI_make_121 rfl ?_
    refine Wa.aload_n (j := 0) d_SI_make_123 rfl ?_
    have hc48 := hF.1
    have hF := hF.2
    obtain ⟨b49, hc50, hF⟩ := hF
    refine Wr.getR 11 8 d_SI_make_124 f_SI_8 rfl fl_SI_38 hc48 hc50 ?_
    refine Wa.iload_n (j := 1) d_SI_make_127 rfl ?_
    obtain ⟨n51, hc52, hF⟩ := hF
    obtain ⟨b53, hc54, hF⟩ := hF
    refine Wa.aaldA ct_le d_SI_make_128 (Or.inr rfl) hc52.1 hc52.2 hc54 ?_
    obtain ⟨n55, hc56, hF⟩ := hF
    obtain ⟨q57, hc58, hF⟩ := hF
    refine Wr.cloneZ q57 d_SI_make_129 cn_SI_47 hc56.1 hc56.2.1 hc56.2.2.1 (Nat.le_of_ble_eq_true rfl) hD hc56.2.2.2.1 hc56.2.2.2.2 hc58 ?_
    obtain ⟨n59, hc60, hF⟩ := hF
    refine Wa.castA d_SI_make_132 cl_SI_15 (Or.inr ⟨rfl, rfl⟩) hc60.2.rw hc60.1 ?_
    obtain ⟨n61, hc62, hF⟩ := hF
    obtain ⟨n63, hc64, hF⟩ := hF
    refine Wr.aastA d_SI_make_135 (Or.inr rfl) hc62.1 hc62.2.1 hc62.2.2 hc64.1 hc64.2 ?_
    refine Wa.aload_n (j := 0) d_SI_make_136 rfl ?_
    refine Wa.dup d_SI_make_137 rfl ?_
    have hc65 := hF.1
    have hF := hF.2
    refine Wr.getI 11 2 d_SI_make_138 f_SI_2 fl_SI_58 hc65 ?_
    refine Wa.iload (j := 5) d_SI_make_141 rfl ?_
    refine Wa.iconst (v := 2) d_SI_make_143 rfl ?_
    refine Wa.icmp_ne 151 d_SI_make_144 (by decide) (fun hb => ?_) (fun hb => ?_)
    · have hF := hF.2 hb
      refine Wa.iconst (v := 0) d_SI_make_151 rfl ?_
      refine Wa.iadd d_SI_make_152 ?_
      have hc66 := hF.1
      have hF := hF.2
      refine Wr.putI 11 2 d_SI_make_153 f_SI_2 ok_SI fl_SI_58 (Or.inl rfl) hc66.1 hc66.2 ?_
      suffices hh : ∀ μ67 : Mu, μ67 = (setI (setR (clA (setI (setI (setR μ24 a0 6 b25) b32 x6.toNatClampNeg (vp_nar .boolean 1)) b41 x6.toNatClampNeg (vp_nar .boolean 1)) b53 q57) b46 x6.toNatClampNeg q57) a0 2 ((gI (setR (clA (setI (setI (setR μ24 a0 6 b25) b32 x6.toNatClampNeg (vp_nar .boolean 1)) b41 x6.toNatClampNeg (vp_nar .boolean 1)) b53 q57) b46 x6.toNatClampNeg q57) a0 2) + (0 : Int32))) → Wx K_SI_make d (rc - 1 - cc21 - 1) (rs - 6 - ss22 - n55) Q 156 [(0, .ref a0), (1, .int x1), (2, .int x2), (3, .int x3), (4, .int x4), (5, .int x5), (6, .int x6), (7, .ref a7), (8, .int x8), (9, .int x9)] [] μ67 from hh _ rfl
      intro μ67 em67
      have hF := hF μ67 em67
      refine Wa.iload (j := 6) d_SI_make_156 rfl ?_
      exact Wx.reti d_SI_make_158 rfl hF
    · have hF := hF.1 hb
      refine Wa.iconst (v := 1) d_SI_make_147 rfl ?_
      refine Wa.goto 152 d_SI_make_148 (by decide) ?_
      refine Wa.iadd d_SI_make_152 ?_
      have hc68 := hF.1
      have hF := hF.2
      refine Wr.putI 11 2 d_SI_make_153 f_SI_2 ok_SI fl_SI_58 (Or.inl rfl) hc68.1 hc68.2 ?_
      suffices hh : ∀ μ69 : Mu, μ69 = (setI (setR (clA (setI (setI (setR μ24 a0 6 b25) b32 x6.toNatClampNeg (vp_nar .boolean 1)) b41 x6.toNatClampNeg (vp_nar .boolean 1)) b53 q57) b46 x6.toNatClampNeg q57) a0 2 ((gI (setR (clA (setI (setI (setR μ24 a0 6 b25) b32 x6.toNatClampNeg (vp_nar .boolean 1)) b41 x6.toNatClampNeg (vp_nar .boolean 1)) b53 q57) b46 x6.toNatClampNeg q57) a0 2) + (1 : Int32))) → Wx K_SI_make d (rc - 1 - cc21 - 1) (rs - 6 - ss22 - n55) Q 156 [(0, .ref a0), (1, .int x1), (2, .int x2), (3, .int x3), (4, .int x4), (5, .int x5), (6, .int x6), (7, .ref a7), (8, .int x8), (9, .int x9)] [] μ69 from hh _ rfl
      intro μ69 em69
      have hF := hF μ69 em69
      refine Wa.iload (j := 6) d_SI_make_156 rfl ?_
      exact Wx.reti d_SI_make_158 rfl hF
  · have hF := hF.2 hb
    refine Wa.aload (j := 7) d_SI_make_30 rfl ?_
    refine Wa.iload (j := 9) d_SI_make_32 rfl ?_
    obtain ⟨n70, hc71, hF⟩ := hF
    refine Wa.iald d_SI_make_34 hc71.1 hc71.2 ?_
    refine Wa.istore (i := 10) (L' := [(10, .int (gI μ a7 x9.toNatClampNeg)), (0, .ref a0), (1, .int x1), (2, .int x2), (3, .int x3), (4, .int x4), (5, .int x5), (6, .int x6), (7, .ref a7), (8, .int x8), (9, .int x9)]) d_SI_make_35 (by decide) rfl ?_
    refine Wa.aload_n (j := 1) d_SI_make_37 rfl ?_
    have hc72 := hF.1
    have hF := hF.2
    obtain ⟨b73, hc74, hF⟩ := hF
    refine Wr.getR 11 9 d_SI_make_38 f_SI_9 rfl fl_SI_41 hc72 hc74 ?_
    refine Wa.iload_n (j := 2) d_SI_make_41 rfl ?_
    obtain ⟨n75, hc76, hF⟩ := hF
    obtain ⟨b77, hc78, hF⟩ := hF
    refine Wa.aaldA ct_le d_SI_make_42 (Or.inr rfl) hc76.1 hc76.2 hc78 ?_
    refine Wa.iload (j := 0) d_SI_make_43 rfl ?_
    refine Wa.iconst (v := 0) d_SI_make_45 rfl ?_
    obtain ⟨n79, hc80, hF⟩ := hF
    refine Wr.zast d_SI_make_46 hc80.1 hc80.2.1 hc80.2.2 ?_
    refine Wa.iinc (i := 9) (j := 10) (v := (x9 + 1)) (L' := [(9, .int (x9 + 1)), (10, .int (gI μ a7 x9.toNatClampNeg)), (0, .ref a0), (1, .int x1), (2, .int x2), (3, .int x3), (4, .int x4), (5, .int x5), (6, .int x6), (7, .ref a7), (8, .int x8)]) d_SI_make_47 rfl rfl (by decide) rfl ?_
    refine Wa.goto 23 d_SI_make_50 (by decide) ?_
    exact Wa.loc [2, 3, 4, 5, 6, 7, 8, 9, 10, 0] rfl hF
set_option maxHeartbeats 4000000 in
set_option maxRecDepth 20000 in
theorem r_SI_merge_0 {d rc rs : Nat} {Q : Option Value → Mu → Prop} {μ : Mu} {a0 : Nat} {x1 : Int32} {x2 : Int32} {x3 : Int32} (hD : 1 ≤ d)
    (hF : (∃ cc1 ss2 : Nat, (cc1 ≤ rc ∧ ss2 ≤ rs) ∧ (mS μ a0 = (1, 11) ∧ Cal K_SI_shows (d - 1) cc1 ss2 [.ref a0, .int x1, .int x2] μ (fun r μ4 => ∃ b6, r = some (.ref b6) ∧ (∃ n7, mS μ4 b6 = (2, n7) ∧ (((nI n7) < 2 → Q (some (.int (-1))) μ4) ∧ (¬ (nI n7) < 2 → (mS μ4 a0 = (1, 11) ∧ (∃ b10, gR μ4 a0 6 = some b10 ∧ (∃ n12, mS μ4 b10 = (40, n12) ∧ (((nI n12) = 60 → Q (some (.int (-1))) μ4) ∧ (¬ (nI n12) = 60 → (mS μ4 a0 = (1, 11) ∧ (∃ b15, gR μ4 a0 6 = some b15 ∧ (∃ n17, (mS μ4 b6 = (2, n17) ∧ vp_in (0 : Int32) n17) ∧ (∃ n19, (mS μ4 b15 = (40, n19) ∧ vp_in (gI μ4 b6 (0 : Int32).toNatClampNeg) n19) ∧ (∃ b21, gR μ4 b15 (gI μ4 b6 (0 : Int32).toNatClampNeg).toNatClampNeg = some b21 ∧ (∃ n23, (mS μ4 b21 = (2, n23) ∧ vp_in (2 : Int32) n23) ∧ Wx K_SI_merge d (rc - cc1) (rs - ss2) Q 43 [(0, .ref a0), (1, .int x1), (2, .int x2), (3, .int x3), (4, .ref b6), (5, .int (gI μ4 b21 (2 : Int32).toNatClampNeg)), (6, .int 1)] [] μ4)))))))))))))))))) : Wx K_SI_merge d rc rs Q 0 [(0, .ref a0), (1, .int x1), (2, .int x2), (3, .int x3)] [] μ := by
  refine Wa.aload_n (j := 0) d_SI_merge_0 rfl ?_
  refine Wa.iload_n (j := 1) d_SI_merge_1 rfl ?_
  refine Wa.iload_n (j := 2) d_SI_merge_2 rfl ?_
  obtain ⟨cc1, ss2, hc3, hF⟩ := hF
  have hc5 := hF.1
  have hF := hF.2
  refine Wr.cVr (q := E_SI) (As := [.int x1, .int x2]) 11 (d - 1) cc1 ss2 _ d_SI_merge_3 mok_SI_shows vl_SI_72 rfl rfl rfl (Nat.le_of_ble_eq_true rfl) (by omega) hc3.1 hc3.2 hc5 hF (fun b6 μ4 hS hF => ?_)
  refine Wa.astore (i := 4) (L' := [(4, .ref b6), (0, .ref a0), (1, .int x1), (2, .int x2), (3, .int x3)]) d_SI_merge_6 (by decide) rfl ?_
  refine Wa.aload (j := 0) d_SI_merge_8 rfl ?_
  obtain ⟨n7, hc8, hF⟩ := hF
  refine Wa.alen d_SI_merge_10 hc8 (by decide) ?_
  refine Wa.iconst (v := 2) d_SI_merge_11 rfl ?_
  refine Wa.icmp_lt 25 d_SI_merge_12 (by decide) (fun hb => ?_) (fun hb => ?_)
  · have hF := hF.1 hb
    refine Wa.iconst (v := (-1)) d_SI_merge_25 rfl ?_
    exact Wx.reti d_SI_merge_26 rfl hF
  · have hF := hF.2 hb
    refine Wa.aload_n (j := 1) d_SI_merge_15 rfl ?_
    have hc9 := hF.1
    have hF := hF.2
    obtain ⟨b10, hc11, hF⟩ := hF
    refine Wr.getR 11 6 d_SI_merge_16 f_SI_6 rfl fl_SI_9 hc9 hc11 ?_
    obtain ⟨n12, hc13, hF⟩ := hF
    refine Wa.alen d_SI_merge_19 hc13 (by decide) ?_
    refine Wa.bipush (v := 60) d_SI_merge_20 rfl ?_
    refine Wa.icmp_ne 27 d_SI_merge_22 (by decide) (fun hb => ?_) (fun hb => ?_)
    · have hF := hF.2 hb
      refine Wa.aload_n (j := 1) d_SI_merge_27 rfl ?_
      have hc14 := hF.1
      have hF := hF.2
      obtain ⟨b15, hc16, hF⟩ := hF
      refine Wr.getR 11 6 d_SI_merge_28 f_SI_6 rfl fl_SI_9 hc14 hc16 ?_
      refine Wa.aload (j := 0) d_SI_merge_31 rfl ?_
      refine Wa.iconst (v := 0) d_SI_merge_33 rfl ?_
      obtain ⟨n17, hc18, hF⟩ := hF
      refine Wa.iald d_SI_merge_34 hc18.1 hc18.2 ?_
      obtain ⟨n19, hc20, hF⟩ := hF
      obtain ⟨b21, hc22, hF⟩ := hF
      refine Wa.aaldA ct_le d_SI_merge_35 (Or.inl rfl) hc20.1 hc20.2 hc22 ?_
      refine Wa.iconst (v := 2) d_SI_merge_36 rfl ?_
      obtain ⟨n23, hc24, hF⟩ := hF
      refine Wa.iald d_SI_merge_37 hc24.1 hc24.2 ?_
      refine Wa.istore (i := 5) (L' := [(5, .int (gI μ4 b21 (2 : Int32).toNatClampNeg)), (4, .ref b6), (0, .ref a0), (1, .int x1), (2, .int x2), (3, .int x3)]) d_SI_merge_38 (by decide) rfl ?_
      refine Wa.iconst (v := 1) d_SI_merge_40 rfl ?_
      refine Wa.istore (i := 6) (L' := [(6, .int 1), (5, .int (gI μ4 b21 (2 : Int32).toNatClampNeg)), (4, .ref b6), (0, .ref a0), (1, .int x1), (2, .int x2), (3, .int x3)]) d_SI_merge_41 (by decide) rfl ?_
      exact Wa.loc [3, 4, 5, 6, 2, 1, 0] rfl hF
    · have hF := hF.1 hb
      refine Wa.iconst (v := (-1)) d_SI_merge_25 rfl ?_
      exact Wx.reti d_SI_merge_26 rfl hF
theorem e_SI_merge {d rc rs : Nat} {Q : Option Value → Mu → Prop} {μ : Mu} {a0 : Nat} {x1 : Int32} {x2 : Int32} {x3 : Int32} (hk : Wx K_SI_merge d rc rs (fun r μ' => St μ' ∧ Q r μ') 0 [(0, .ref a0), (1, .int x1), (2, .int x2), (3, .int x3)] [] μ) : Cal K_SI_merge d rc rs [.ref a0, .int x1, .int x2, .int x3] μ Q := Cal.of (by decide +kernel) rfl rfl (Nat.le_of_ble_eq_true rfl) rfl hk
set_option maxHeartbeats 4000000 in
set_option maxRecDepth 20000 in
theorem r_SI_merge_43 {d rc rs : Nat} {Q : Option Value → Mu → Prop} {μ : Mu} {a0 : Nat} {x1 : Int32} {x2 : Int32} {x3 : Int32} {a4 : Nat} {x5 : Int32} {x6 : Int32} (hD : 1 ≤ d)
    (hF : (∃ n1, mS μ a4 = (2, n1) ∧ (((nI n1) ≤ x6 → (∃ cc3 ss4 : Nat, (cc3 ≤ rc ∧ ss4 ≤ rs) ∧ (mS μ a0 = (1, 11) ∧ Cal K_SI_marks (d - 1) cc3 ss4 [.ref a0, .int x1, .int x2] μ (fun r μ6 => ∃ y8, r = some (.int y8) ∧ (∃ cc9 ss10 : Nat, (cc9 ≤ rc - cc3 ∧ ss10 ≤ rs - ss4) ∧ (mS μ6 a0 = (1, 11) ∧ Cal K_SI_make (d - 1) cc9 ss10 [.ref a0, .int x1, .int x2, .int (imin 9999 x5), .int y8, .int 2] μ6 (fun r μ12 => ∃ y14, r = some (.int y14) ∧ Q (some (.int y14)) μ12))))))) ∧ (¬ (nI n1) ≤ x6 → (mS μ a0 = (1, 11) ∧ (∃ b16, gR μ a0 6 = some b16 ∧ (∃ n18, (mS μ a4 = (2, n18) ∧ vp_in x6 n18) ∧ (∃ n20, (mS μ b16 = (40, n20) ∧ vp_in (gI μ a4 x6.toNatClampNeg) n20) ∧ (∃ b22, gR μ b16 (gI μ a4 x6.toNatClampNeg).toNatClampNeg = some b22 ∧ (∃ n24, (mS μ b22 = (2, n24) ∧ vp_in (2 : Int32) n24) ∧ ((x3 = 0 → Wx K_SI_merge d rc rs Q 43 [(0, .ref a0), (1, .int x1), (2, .int x2), (3, .int x3), (4, .ref a4), (5, .int (imin x5 (gI μ b22 (2 : Int32).toNatClampNeg))), (6, .int (x6 + 1))] [] μ) ∧ (¬ x3 = 0 → ((x3 = 1 → Wx K_SI_merge d rc rs Q 43 [(0, .ref a0), (1, .int x1), (2, .int x2), (3, .int x3), (4, .ref a4), (5, .int (imax x5 (gI μ b22 (2 : Int32).toNatClampNeg))), (6, .int (x6 + 1))] [] μ) ∧ (¬ x3 = 1 → Wx K_SI_merge d rc rs Q 43 [(0, .ref a0), (1, .int x1), (2, .int x2), (3, .int x3), (4, .ref a4), (5, .int (x5 + (gI μ b22 (2 : Int32).toNatClampNeg))), (6, .int (x6 + 1))] [] μ)))))))))))))) : Wx K_SI_merge d rc rs Q 43 [(0, .ref a0), (1, .int x1), (2, .int x2), (3, .int x3), (4, .ref a4), (5, .int x5), (6, .int x6)] [] μ := by
  refine Wa.iload (j := 6) d_SI_merge_43 rfl ?_
  refine Wa.aload (j := 4) d_SI_merge_45 rfl ?_
  obtain ⟨n1, hc2, hF⟩ := hF
  refine Wa.alen d_SI_merge_47 hc2 (by decide) ?_
  refine Wa.icmp_ge 107 d_SI_merge_48 (by decide) (fun hb => ?_) (fun hb => ?_)
  · have hF := hF.1 hb
    refine Wa.aload_n (j := 0) d_SI_merge_107 rfl ?_
    refine Wa.iload_n (j := 1) d_SI_merge_108 rfl ?_
    refine Wa.iload_n (j := 2) d_SI_merge_109 rfl ?_
    refine Wa.sipush (v := 9999) d_SI_merge_110 rfl ?_
    refine Wa.iload (j := 5) d_SI_merge_113 rfl ?_
    refine Wx.mmin d_SI_merge_115 mm_SI_80 (Nat.le_of_ble_eq_true rfl) hD ?_
    refine Wa.aload_n (j := 0) d_SI_merge_118 rfl ?_
    refine Wa.iload_n (j := 1) d_SI_merge_119 rfl ?_
    refine Wa.iload_n (j := 2) d_SI_merge_120 rfl ?_
    obtain ⟨cc3, ss4, hc5, hF⟩ := hF
    have hc7 := hF.1
    have hF := hF.2
    refine Wx.cVi (q := E_SI) (As := [.int x1, .int x2]) 11 (d - 1) cc3 ss4 _ d_SI_merge_121 mok_SI_marks vl_SI_89 rfl rfl rfl (Nat.le_of_ble_eq_true rfl) (by omega) hc5.1 hc5.2 hc7 hF (fun y8 μ6 hS hF => ?_)
    refine Wa.iconst (v := 2) d_SI_merge_124 rfl ?_
    obtain ⟨cc9, ss10, hc11, hF⟩ := hF
    have hc13 := hF.1
    have hF := hF.2
    refine Wx.cVi (q := E_SI) (As := [.int x1, .int x2, .int (imin 9999 x5), .int y8, .int 2]) 11 (d - 1) cc9 ss10 _ d_SI_merge_125 mok_SI_make vl_SI_92 rfl rfl rfl (Nat.le_of_ble_eq_true rfl) (by omega) hc11.1 hc11.2 hc13 hF (fun y14 μ12 hS hF => ?_)
    exact Wx.reti d_SI_merge_128 rfl hF
  · have hF := hF.2 hb
    refine Wa.aload_n (j := 0) d_SI_merge_51 rfl ?_
    have hc15 := hF.1
    have hF := hF.2
    obtain ⟨b16, hc17, hF⟩ := hF
    refine Wr.getR 11 6 d_SI_merge_52 f_SI_6 rfl fl_SI_9 hc15 hc17 ?_
    refine Wa.aload (j := 4) d_SI_merge_55 rfl ?_
    refine Wa.iload (j := 6) d_SI_merge_57 rfl ?_
    obtain ⟨n18, hc19, hF⟩ := hF
    refine Wa.iald d_SI_merge_59 hc19.1 hc19.2 ?_
    obtain ⟨n20, hc21, hF⟩ := hF
    obtain ⟨b22, hc23, hF⟩ := hF
    refine Wa.aaldA ct_le d_SI_merge_60 (Or.inl rfl) hc21.1 hc21.2 hc23 ?_
    refine Wa.iconst (v := 2) d_SI_merge_61 rfl ?_
    obtain ⟨n24, hc25, hF⟩ := hF
    refine Wa.iald d_SI_merge_62 hc25.1 hc25.2 ?_
    refine Wa.istore (i := 7) (L' := [(7, .int (gI μ b22 (2 : Int32).toNatClampNeg)), (0, .ref a0), (1, .int x1), (2, .int x2), (3, .int x3), (4, .ref a4), (5, .int x5), (6, .int x6)]) d_SI_merge_63 (by decide) rfl ?_
    refine Wa.iload_n (j := 4) d_SI_merge_65 rfl ?_
    refine Wa.if_ne 79 d_SI_merge_66 (by decide) (fun hb => ?_) (fun hb => ?_)
    · have hF := hF.2 hb
      refine Wa.iload_n (j := 4) d_SI_merge_79 rfl ?_
      refine Wa.iconst (v := 1) d_SI_merge_80 rfl ?_
      refine Wa.icmp_ne 94 d_SI_merge_81 (by decide) (fun hb => ?_) (fun hb => ?_)
      · have hF := hF.2 hb
        refine Wa.iload (j := 6) d_SI_merge_94 rfl ?_
        refine Wa.iload (j := 0) d_SI_merge_96 rfl ?_
        refine Wa.iadd d_SI_merge_98 ?_
        refine Wa.istore (i := 5) (L' := [(5, .int (x5 + (gI μ b22 (2 : Int32).toNatClampNeg))), (7, .int (gI μ b22 (2 : Int32).toNatClampNeg)), (0, .ref a0), (1, .int x1), (2, .int x2), (3, .int x3), (4, .ref a4), (6, .int x6)]) d_SI_merge_99 (by decide) rfl ?_
        refine Wa.iinc (i := 6) (j := 7) (v := (x6 + 1)) (L' := [(6, .int (x6 + 1)), (5, .int (x5 + (gI μ b22 (2 : Int32).toNatClampNeg))), (7, .int (gI μ b22 (2 : Int32).toNatClampNeg)), (0, .ref a0), (1, .int x1), (2, .int x2), (3, .int x3), (4, .ref a4)]) d_SI_merge_101 rfl rfl (by decide) rfl ?_
        refine Wa.goto 43 d_SI_merge_104 (by decide) ?_
        exact Wa.loc [3, 4, 5, 6, 7, 1, 0] rfl hF
      · have hF := hF.1 hb
        refine Wa.iload (j := 6) d_SI_merge_84 rfl ?_
        refine Wa.iload (j := 0) d_SI_merge_86 rfl ?_
        refine Wx.mmax d_SI_merge_88 mm_SI_86 (Nat.le_of_ble_eq_true rfl) hD ?_
        refine Wa.goto 99 d_SI_merge_91 (by decide) ?_
        refine Wa.istore (i := 5) (L' := [(5, .int (imax x5 (gI μ b22 (2 : Int32).toNatClampNeg))), (7, .int (gI μ b22 (2 : Int32).toNatClampNeg)), (0, .ref a0), (1, .int x1), (2, .int x2), (3, .int x3), (4, .ref a4), (6, .int x6)]) d_SI_merge_99 (by decide) rfl ?_
        refine Wa.iinc (i := 6) (j := 7) (v := (x6 + 1)) (L' := [(6, .int (x6 + 1)), (5, .int (imax x5 (gI μ b22 (2 : Int32).toNatClampNeg))), (7, .int (gI μ b22 (2 : Int32).toNatClampNeg)), (0, .ref a0), (1, .int x1), (2, .int x2), (3, .int x3), (4, .ref a4)]) d_SI_merge_101 rfl rfl (by decide) rfl ?_
        refine Wa.goto 43 d_SI_merge_104 (by decide) ?_
        exact Wa.loc [3, 4, 5, 6, 7, 1, 0] rfl hF
    · have hF := hF.1 hb
      refine Wa.iload (j := 6) d_SI_merge_69 rfl ?_
      refine Wa.iload (j := 0) d_SI_merge_71 rfl ?_
      refine Wx.mmin d_SI_merge_73 mm_SI_80 (Nat.le_of_ble_eq_true rfl) hD ?_
      refine Wa.goto 99 d_SI_merge_76 (by decide) ?_
      refine Wa.istore (i := 5) (L' := [(5, .int (imin x5 (gI μ b22 (2 : Int32).toNatClampNeg))), (7, .int (gI μ b22 (2 : Int32).toNatClampNeg)), (0, .ref a0), (1, .int x1), (2, .int x2), (3, .int x3), (4, .ref a4), (6, .int x6)]) d_SI_merge_99 (by decide) rfl ?_
      refine Wa.iinc (i := 6) (j := 7) (v := (x6 + 1)) (L' := [(6, .int (x6 + 1)), (5, .int (imin x5 (gI μ b22 (2 : Int32).toNatClampNeg))), (7, .int (gI μ b22 (2 : Int32).toNatClampNeg)), (0, .ref a0), (1, .int x1), (2, .int x2), (3, .int x3), (4, .ref a4)]) d_SI_merge_101 rfl rfl (by decide) rfl ?_
      refine Wa.goto 43 d_SI_merge_104 (by decide) ?_
      exact Wa.loc [3, 4, 5, 6, 7, 1, 0] rfl hF
set_option maxHeartbeats 4000000 in
set_option maxRecDepth 20000 in
theorem r_SI_note_0 {d rc rs : Nat} {Q : Option Value → Mu → Prop} {μ : Mu} {a0 : Nat} {x1 : Int32} {x2 : Int32} {x3 : Int32} (hD : 1 ≤ d)
    (hF : (∃ cc1 ss2 : Nat, (cc1 ≤ rc ∧ ss2 ≤ rs) ∧ (mS μ a0 = (1, 11) ∧ Cal K_SI_shows (d - 1) cc1 ss2 [.ref a0, .int x1, .int x2] μ (fun r μ4 => ∃ b6, r = some (.ref b6) ∧ (∃ n7, mS μ4 b6 = (2, n7) ∧ (((nI n7) = 1 → (mS μ4 a0 = (1, 11) ∧ (∃ b10, gR μ4 a0 6 = some b10 ∧ (∃ n12, mS μ4 b10 = (40, n12) ∧ (((nI n12) = 60 → Q (some (.int (-1))) μ4) ∧ (¬ (nI n12) = 60 → (mS μ4 a0 = (1, 11) ∧ (∃ b15, gR μ4 a0 6 = some b15 ∧ (∃ n17, (mS μ4 b6 = (2, n17) ∧ vp_in (0 : Int32) n17) ∧ (∃ n19, (mS μ4 b15 = (40, n19) ∧ vp_in (gI μ4 b6 (0 : Int32).toNatClampNeg) n19) ∧ (∃ b21, gR μ4 b15 (gI μ4 b6 (0 : Int32).toNatClampNeg).toNatClampNeg = some b21 ∧ (∃ n23, (mS μ4 b21 = (2, n23) ∧ vp_in (2 : Int32) n23) ∧ (mS μ4 a0 = (1, 11) ∧ (∃ b26, gR μ4 a0 6 = some b26 ∧ (∃ n28, (mS μ4 b6 = (2, n28) ∧ vp_in (0 : Int32) n28) ∧ (∃ n30, (mS μ4 b26 = (40, n30) ∧ vp_in (gI μ4 b6 (0 : Int32).toNatClampNeg) n30) ∧ (∃ b32, gR μ4 b26 (gI μ4 b6 (0 : Int32).toNatClampNeg).toNatClampNeg = some b32 ∧ (∃ n34, (mS μ4 b32 = (2, n34) ∧ vp_in (3 : Int32) n34) ∧ (∃ cc36 ss37 : Nat, (cc36 ≤ rc - cc1 ∧ ss37 ≤ rs - ss2) ∧ (mS μ4 a0 = (1, 11) ∧ Cal K_SI_make (d - 1) cc36 ss37 [.ref a0, .int x1, .int x2, .int (gI μ4 b21 (2 : Int32).toNatClampNeg), .int ((gI μ4 b32 (3 : Int32).toNatClampNeg) ||| ((1 : Int32) <<< (x3 &&& 31))), .int 1] μ4 (fun r μ39 => ∃ y41, r = some (.int y41) ∧ Q (some (.int y41)) μ39))))))))))))))))))))) ∧ (¬ (nI n7) = 1 → Q (some (.int (-1))) μ4))))))) : Wx K_SI_note d rc rs Q 0 [(0, .ref a0), (1, .int x1), (2, .int x2), (3, .int x3)] [] μ := by
  refine Wa.aload_n (j := 0) d_SI_note_0 rfl ?_
  refine Wa.iload_n (j := 1) d_SI_note_1 rfl ?_
  refine Wa.iload_n (j := 2) d_SI_note_2 rfl ?_
  obtain ⟨cc1, ss2, hc3, hF⟩ := hF
  have hc5 := hF.1
  have hF := hF.2
  refine Wr.cVr (q := E_SI) (As := [.int x1, .int x2]) 11 (d - 1) cc1 ss2 _ d_SI_note_3 mok_SI_shows vl_SI_72 rfl rfl rfl (Nat.le_of_ble_eq_true rfl) (by omega) hc3.1 hc3.2 hc5 hF (fun b6 μ4 hS hF => ?_)
  refine Wa.astore (i := 4) (L' := [(4, .ref b6), (0, .ref a0), (1, .int x1), (2, .int x2), (3, .int x3)]) d_SI_note_6 (by decide) rfl ?_
  refine Wa.aload (j := 0) d_SI_note_8 rfl ?_
  obtain ⟨n7, hc8, hF⟩ := hF
  refine Wa.alen d_SI_note_10 hc8 (by decide) ?_
  refine Wa.iconst (v := 1) d_SI_note_11 rfl ?_
  refine Wa.icmp_ne 25 d_SI_note_12 (by decide) (fun hb => ?_) (fun hb => ?_)
  · have hF := hF.2 hb
    refine Wa.iconst (v := (-1)) d_SI_note_25 rfl ?_
    refine Wa.goto 62 d_SI_note_26 (by decide) ?_
    exact Wx.reti d_SI_note_62 rfl hF
  · have hF := hF.1 hb
    refine Wa.aload_n (j := 1) d_SI_note_15 rfl ?_
    have hc9 := hF.1
    have hF := hF.2
    obtain ⟨b10, hc11, hF⟩ := hF
    refine Wr.getR 11 6 d_SI_note_16 f_SI_6 rfl fl_SI_9 hc9 hc11 ?_
    obtain ⟨n12, hc13, hF⟩ := hF
    refine Wa.alen d_SI_note_19 hc13 (by decide) ?_
    refine Wa.bipush (v := 60) d_SI_note_20 rfl ?_
    refine Wa.icmp_ne 29 d_SI_note_22 (by decide) (fun hb => ?_) (fun hb => ?_)
    · have hF := hF.2 hb
      refine Wa.aload_n (j := 1) d_SI_note_29 rfl ?_
      refine Wa.iload_n (j := 2) d_SI_note_30 rfl ?_
      refine Wa.iload_n (j := 3) d_SI_note_31 rfl ?_
      refine Wa.aload_n (j := 1) d_SI_note_32 rfl ?_
      have hc14 := hF.1
      have hF := hF.2
      obtain ⟨b15, hc16, hF⟩ := hF
      refine Wr.getR 11 6 d_SI_note_33 f_SI_6 rfl fl_SI_9 hc14 hc16 ?_
      refine Wa.aload (j := 0) d_SI_note_36 rfl ?_
      refine Wa.iconst (v := 0) d_SI_note_38 rfl ?_
      obtain ⟨n17, hc18, hF⟩ := hF
      refine Wa.iald d_SI_note_39 hc18.1 hc18.2 ?_
      obtain ⟨n19, hc20, hF⟩ := hF
      obtain ⟨b21, hc22, hF⟩ := hF
      refine Wa.aaldA ct_le d_SI_note_40 (Or.inl rfl) hc20.1 hc20.2 hc22 ?_
      refine Wa.iconst (v := 2) d_SI_note_41 rfl ?_
      obtain ⟨n23, hc24, hF⟩ := hF
      refine Wa.iald d_SI_note_42 hc24.1 hc24.2 ?_
      refine Wa.aload_n (j := 1) d_SI_note_43 rfl ?_
      have hc25 := hF.1
      have hF := hF.2
      obtain ⟨b26, hc27, hF⟩ := hF
      refine Wr.getR 11 6 d_SI_note_44 f_SI_6 rfl fl_SI_9 hc25 hc27 ?_
      refine Wa.aload (j := 0) d_SI_note_47 rfl ?_
      refine Wa.iconst (v := 0) d_SI_note_49 rfl ?_
      obtain ⟨n28, hc29, hF⟩ := hF
      refine Wa.iald d_SI_note_50 hc29.1 hc29.2 ?_
      obtain ⟨n30, hc31, hF⟩ := hF
      obtain ⟨b32, hc33, hF⟩ := hF
      refine Wa.aaldA ct_le d_SI_note_51 (Or.inl rfl) hc31.1 hc31.2 hc33 ?_
      refine Wa.iconst (v := 3) d_SI_note_52 rfl ?_
      obtain ⟨n34, hc35, hF⟩ := hF
      refine Wa.iald d_SI_note_53 hc35.1 hc35.2 ?_
      refine Wa.iconst (v := 1) d_SI_note_54 rfl ?_
      refine Wa.iload_n (j := 4) d_SI_note_55 rfl ?_
      refine Wa.ishl d_SI_note_56 ?_
      refine Wa.ior d_SI_note_57 ?_
      refine Wa.iconst (v := 1) d_SI_note_58 rfl ?_
      obtain ⟨cc36, ss37, hc38, hF⟩ := hF
      have hc40 := hF.1
      have hF := hF.2
      refine Wx.cVi (q := E_SI) (As := [.int x1, .int x2, .int (gI μ4 b21 (2 : Int32).toNatClampNeg), .int ((gI μ4 b32 (3 : Int32).toNatClampNeg) ||| ((1 : Int32) <<< (x3 &&& 31))), .int 1]) 11 (d - 1) cc36 ss37 _ d_SI_note_59 mok_SI_make vl_SI_92 rfl rfl rfl (Nat.le_of_ble_eq_true rfl) (by omega) hc38.1 hc38.2 hc40 hF (fun y41 μ39 hS hF => ?_)
      exact Wx.reti d_SI_note_62 rfl hF
    · have hF := hF.1 hb
      refine Wa.iconst (v := (-1)) d_SI_note_25 rfl ?_
      refine Wa.goto 62 d_SI_note_26 (by decide) ?_
      exact Wx.reti d_SI_note_62 rfl hF
theorem e_SI_note {d rc rs : Nat} {Q : Option Value → Mu → Prop} {μ : Mu} {a0 : Nat} {x1 : Int32} {x2 : Int32} {x3 : Int32} (hk : Wx K_SI_note d rc rs (fun r μ' => St μ' ∧ Q r μ') 0 [(0, .ref a0), (1, .int x1), (2, .int x2), (3, .int x3)] [] μ) : Cal K_SI_note d rc rs [.ref a0, .int x1, .int x2, .int x3] μ Q := Cal.of (by decide +kernel) rfl rfl (Nat.le_of_ble_eq_true rfl) rfl hk
set_option maxHeartbeats 4000000 in
set_option maxRecDepth 20000 in
theorem r_SI_write_0 {d rc rs : Nat} {Q : Option Value → Mu → Prop} {μ : Mu} {a0 : Nat} {x1 : Int32} {x2 : Int32} {x3 : Int32} (hD : 1 ≤ d)
    (hF : (mS μ a0 = (1, 11) ∧ (∃ b2, gR μ a0 6 = some b2 ∧ (∃ n4, mS μ b2 = (40, n4) ∧ (((nI n4) = 60 → Q (some (.int (-1))) μ) ∧ (¬ (nI n4) = 60 → (∃ cc6 ss7 : Nat, (cc6 ≤ rc ∧ ss7 ≤ rs) ∧ (mS μ a0 = (1, 11) ∧ Cal K_SI_marks (d - 1) cc6 ss7 [.ref a0, .int x1, .int x2] μ (fun r μ9 => ∃ y11, r = some (.int y11) ∧ (∃ cc12 ss13 : Nat, (cc12 ≤ rc - cc6 ∧ ss13 ≤ rs - ss7) ∧ (mS μ9 a0 = (1, 11) ∧ Cal K_SI_make (d - 1) cc12 ss13 [.ref a0, .int x1, .int x2, .int x3, .int y11, .int 0] μ9 (fun r μ15 => ∃ y17, r = some (.int y17) ∧ Q (some (.int y17)) μ15)))))))))))) : Wx K_SI_write d rc rs Q 0 [(0, .ref a0), (1, .int x1), (2, .int x2), (3, .int x3)] [] μ := by
  refine Wa.aload_n (j := 0) d_SI_write_0 rfl ?_
  have hc1 := hF.1
  have hF := hF.2
  obtain ⟨b2, hc3, hF⟩ := hF
  refine Wr.getR 11 6 d_SI_write_1 f_SI_6 rfl fl_SI_9 hc1 hc3 ?_
  obtain ⟨n4, hc5, hF⟩ := hF
  refine Wa.alen d_SI_write_4 hc5 (by decide) ?_
  refine Wa.bipush (v := 60) d_SI_write_5 rfl ?_
  refine Wa.icmp_ne 14 d_SI_write_7 (by decide) (fun hb => ?_) (fun hb => ?_)
  · have hF := hF.2 hb
    refine Wa.aload_n (j := 0) d_SI_write_14 rfl ?_
    refine Wa.iload_n (j := 1) d_SI_write_15 rfl ?_
    refine Wa.iload_n (j := 2) d_SI_write_16 rfl ?_
    refine Wa.iload_n (j := 3) d_SI_write_17 rfl ?_
    refine Wa.aload_n (j := 0) d_SI_write_18 rfl ?_
    refine Wa.iload_n (j := 1) d_SI_write_19 rfl ?_
    refine Wa.iload_n (j := 2) d_SI_write_20 rfl ?_
    obtain ⟨cc6, ss7, hc8, hF⟩ := hF
    have hc10 := hF.1
    have hF := hF.2
    refine Wx.cVi (q := E_SI) (As := [.int x1, .int x2]) 11 (d - 1) cc6 ss7 _ d_SI_write_21 mok_SI_marks vl_SI_89 rfl rfl rfl (Nat.le_of_ble_eq_true rfl) (by omega) hc8.1 hc8.2 hc10 hF (fun y11 μ9 hS hF => ?_)
    refine Wa.iconst (v := 0) d_SI_write_24 rfl ?_
    obtain ⟨cc12, ss13, hc14, hF⟩ := hF
    have hc16 := hF.1
    have hF := hF.2
    refine Wx.cVi (q := E_SI) (As := [.int x1, .int x2, .int x3, .int y11, .int 0]) 11 (d - 1) cc12 ss13 _ d_SI_write_25 mok_SI_make vl_SI_92 rfl rfl rfl (Nat.le_of_ble_eq_true rfl) (by omega) hc14.1 hc14.2 hc16 hF (fun y17 μ15 hS hF => ?_)
    exact Wx.reti d_SI_write_28 rfl hF
  · have hF := hF.1 hb
    refine Wa.iconst (v := (-1)) d_SI_write_10 rfl ?_
    refine Wa.goto 28 d_SI_write_11 (by decide) ?_
    exact Wx.reti d_SI_write_28 rfl hF
theorem e_SI_write {d rc rs : Nat} {Q : Option Value → Mu → Prop} {μ : Mu} {a0 : Nat} {x1 : Int32} {x2 : Int32} {x3 : Int32} (hk : Wx K_SI_write d rc rs (fun r μ' => St μ' ∧ Q r μ') 0 [(0, .ref a0), (1, .int x1), (2, .int x2), (3, .int x3)] [] μ) : Cal K_SI_write d rc rs [.ref a0, .int x1, .int x2, .int x3] μ Q := Cal.of (by decide +kernel) rfl rfl (Nat.le_of_ble_eq_true rfl) rfl hk
set_option maxHeartbeats 4000000 in
set_option maxRecDepth 20000 in
theorem r_SI_send_0 {d rc rs : Nat} {Q : Option Value → Mu → Prop} {μ : Mu} {a0 : Nat} {x1 : Int32} (hD : 1 ≤ d)
    (hF : ((¬ (2 : Int32) < 0 ∧ 2 ≤ 1000000 ∧ 1 ≤ rc ∧ 2 ≤ rs) ∧ (∃ q2, FreN μ q2 ∧ (∃ n4, (mS (mkA μ q2 (2, 2)) q2 = (2, n4) ∧ vp_in (0 : Int32) n4 ∧ hiN q2) ∧ (mS (setI (mkA μ q2 (2, 2)) q2 (0 : Int32).toNatClampNeg x1) a0 = (1, 11) ∧ (mS (setI (mkA μ q2 (2, 2)) q2 (0 : Int32).toNatClampNeg x1) a0 = (1, 11) ∧ (∃ b8, gR (setI (mkA μ q2 (2, 2)) q2 (0 : Int32).toNatClampNeg x1) a0 11 = some b8 ∧ (∃ n10, (mS (setI (mkA μ q2 (2, 2)) q2 (0 : Int32).toNatClampNeg x1) b8 = (40, n10) ∧ vp_in x1 n10) ∧ (∃ b12, gR (setI (mkA μ q2 (2, 2)) q2 (0 : Int32).toNatClampNeg x1) b8 x1.toNatClampNeg = some b12 ∧ (∃ n14, (mS (setI (mkA μ q2 (2, 2)) q2 (0 : Int32).toNatClampNeg x1) b12 = (2, n14) ∧ vp_in (2 : Int32) n14) ∧ (∃ n16, (mS (setI (mkA μ q2 (2, 2)) q2 (0 : Int32).toNatClampNeg x1) q2 = (2, n16) ∧ vp_in (1 : Int32) n16 ∧ hiN q2) ∧ Wx K_SI_send d (rc - 1) (rs - 2) Q 26 [(0, .ref a0), (1, .int x1), (2, .ref q2), (3, .int 0)] [] (setI (setI (mkA μ q2 (2, 2)) q2 (0 : Int32).toNatClampNeg x1) q2 (1 : Int32).toNatClampNeg ((gI (setI (mkA μ q2 (2, 2)) q2 (0 : Int32).toNatClampNeg x1) a0 0) + (gI (setI (mkA μ q2 (2, 2)) q2 (0 : Int32).toNatClampNeg x1) b12 (2 : Int32).toNatClampNeg)))))))))))))) : Wx K_SI_send d rc rs Q 0 [(0, .ref a0), (1, .int x1)] [] μ := by
  refine Wa.iconst (v := 2) d_SI_send_0 rfl ?_
  have hc1 := hF.1
  have hF := hF.2
  obtain ⟨q2, hc3, hF⟩ := hF
  refine Wr.newarr 2 2 q2 d_SI_send_1 ac_int rfl (by decide) hc1.1 rfl hc1.2.1 hc1.2.2.1 hc1.2.2.2 hc3 ?_
  refine Wa.dup d_SI_send_3 rfl ?_
  refine Wa.iconst (v := 0) d_SI_send_4 rfl ?_
  refine Wa.iload_n (j := 1) d_SI_send_5 rfl ?_
  obtain ⟨n4, hc5, hF⟩ := hF
  refine Wr.iast d_SI_send_6 hc5.1 hc5.2.1 hc5.2.2 ?_
  refine Wa.dup d_SI_send_7 rfl ?_
  refine Wa.iconst (v := 1) d_SI_send_8 rfl ?_
  refine Wa.aload_n (j := 0) d_SI_send_9 rfl ?_
  have hc6 := hF.1
  have hF := hF.2
  refine Wr.getI 11 0 d_SI_send_10 f_SI_0 fl_SI_52 hc6 ?_
  refine Wa.aload_n (j := 0) d_SI_send_13 rfl ?_
  have hc7 := hF.1
  have hF := hF.2
  obtain ⟨b8, hc9, hF⟩ := hF
  refine Wr.getR 11 11 d_SI_send_14 f_SI_11 rfl fl_SI_21 hc7 hc9 ?_
  refine Wa.iload_n (j := 1) d_SI_send_17 rfl ?_
  obtain ⟨n10, hc11, hF⟩ := hF
  obtain ⟨b12, hc13, hF⟩ := hF
  refine Wa.aaldA ct_le d_SI_send_18 (Or.inl rfl) hc11.1 hc11.2 hc13 ?_
  refine Wa.iconst (v := 2) d_SI_send_19 rfl ?_
  obtain ⟨n14, hc15, hF⟩ := hF
  refine Wa.iald d_SI_send_20 hc15.1 hc15.2 ?_
  refine Wa.iadd d_SI_send_21 ?_
  obtain ⟨n16, hc17, hF⟩ := hF
  refine Wr.iast d_SI_send_22 hc17.1 hc17.2.1 hc17.2.2 ?_
  refine Wa.astore_n (i := 2) (L' := [(2, .ref q2), (0, .ref a0), (1, .int x1)]) d_SI_send_23 rfl (by decide) rfl ?_
  refine Wa.iconst (v := 0) d_SI_send_24 rfl ?_
  refine Wa.istore_n (i := 3) (L' := [(3, .int 0), (2, .ref q2), (0, .ref a0), (1, .int x1)]) d_SI_send_25 rfl (by decide) rfl ?_
  exact Wa.loc [2, 3, 1, 0] rfl hF
theorem e_SI_send {d rc rs : Nat} {Q : Option Value → Mu → Prop} {μ : Mu} {a0 : Nat} {x1 : Int32} (hk : Wx K_SI_send d rc rs (fun r μ' => St μ' ∧ Q r μ') 0 [(0, .ref a0), (1, .int x1)] [] μ) : Cal K_SI_send d rc rs [.ref a0, .int x1] μ Q := Cal.of (by decide +kernel) rfl rfl (Nat.le_of_ble_eq_true rfl) rfl hk
set_option maxHeartbeats 4000000 in
set_option maxRecDepth 20000 in
theorem r_SI_send_26 {d rc rs : Nat} {Q : Option Value → Mu → Prop} {μ : Mu} {a0 : Nat} {x1 : Int32} {a2 : Nat} {x3 : Int32} (hD : 1 ≤ d)
    (hF : (mS μ a0 = (1, 11) ∧ (∃ b2, gR μ a0 6 = some b2 ∧ (∃ n4, mS μ b2 = (40, n4) ∧ (((nI n4) ≤ x3 → (∃ n6, mS μ a2 = (2, n6) ∧ (((nI n6) = 2 → Q (some (.int 0)) μ) ∧ (¬ (nI n6) = 2 → (mS μ a0 = (1, 11) ∧ (∃ b9, gR μ a0 13 = some b9 ∧ (∃ cc11 ss12 : Nat, (cc11 ≤ rc ∧ ss12 ≤ rs) ∧ Cal K_SI_with (d - 1) cc11 ss12 [.ref b9, .ref a2] μ (fun r μ14 => ∃ b15, r = some (.ref b15) ∧ ((mS μ14 a0 = (1, 11) ∧ hiN a0) ∧ (mS (setR μ14 a0 13 b15) a0 = (1, 11) ∧ (∃ b18, gR (setR μ14 a0 13 b15) a0 11 = some b18 ∧ (∃ n20, (mS (setR μ14 a0 13 b15) b18 = (40, n20) ∧ vp_in x1 n20) ∧ (∃ b22, gR (setR μ14 a0 13 b15) b18 x1.toNatClampNeg = some b22 ∧ (∃ n24, (mS (setR μ14 a0 13 b15) b22 = (2, n24) ∧ vp_in (3 : Int32) n24) ∧ (∃ n26, (mS (setR μ14 a0 13 b15) b22 = (2, n26) ∧ vp_in (3 : Int32) n26 ∧ hiN b22) ∧ (∃ n28, mS (setI (setR μ14 a0 13 b15) b22 (3 : Int32).toNatClampNeg ((gI (setR μ14 a0 13 b15) b22 (3 : Int32).toNatClampNeg) + (1 : Int32))) a2 = (2, n28) ∧ Q (some (.int ((nI n28) - (2 : Int32)))) (setI (setR μ14 a0 13 b15) b22 (3 : Int32).toNatClampNeg ((gI (setR μ14 a0 13 b15) b22 (3 : Int32).toNatClampNeg) + (1 : Int32))))))))))))))))))) ∧ (¬ (nI n4) ≤ x3 → (mS μ a0 = (1, 11) ∧ (∃ b31, gR μ a0 8 = some b31 ∧ (mS μ a0 = (1, 11) ∧ (∃ b34, gR μ a0 11 = some b34 ∧ (∃ n36, (mS μ b34 = (40, n36) ∧ vp_in x1 n36) ∧ (∃ b38, gR μ b34 x1.toNatClampNeg = some b38 ∧ (∃ n40, (mS μ b38 = (2, n40) ∧ vp_in (0 : Int32) n40) ∧ (∃ n42, (mS μ b31 = (41, n42) ∧ vp_in (gI μ b38 (0 : Int32).toNatClampNeg) n42) ∧ (∃ b44, gR μ b31 (gI μ b38 (0 : Int32).toNatClampNeg).toNatClampNeg = some b44 ∧ (∃ n46, (mS μ b44 = (5, n46) ∧ vp_in x3 n46) ∧ (((gI μ b44 x3.toNatClampNeg) = 0 → Wx K_SI_send d rc rs Q 26 [(0, .ref a0), (1, .int x1), (2, .ref a2), (3, .int (x3 + 1))] [] μ) ∧ (¬ (gI μ b44 x3.toNatClampNeg) = 0 → (mS μ a0 = (1, 11) ∧ (∃ b49, gR μ a0 12 = some b49 ∧ (∃ n51, (mS μ b49 = (41, n51) ∧ vp_in x1 n51) ∧ (∃ b53, gR μ b49 x1.toNatClampNeg = some b53 ∧ (∃ n55, (mS μ b53 = (5, n55) ∧ vp_in x3 n55) ∧ (((gI μ b53 x3.toNatClampNeg) = 0 → (mS μ a0 = (1, 11) ∧ (∃ b58, gR μ a0 12 = some b58 ∧ (∃ n60, (mS μ b58 = (41, n60) ∧ vp_in x1 n60) ∧ (∃ b62, gR μ b58 x1.toNatClampNeg = some b62 ∧ (∃ n64, (mS μ b62 = (5, n64) ∧ vp_in x3 n64 ∧ hiN b62) ∧ (∃ n66, mS (setI μ b62 x3.toNatClampNeg (vp_nar .boolean 1)) a2 = (2, n66) ∧ ((¬ ((nI n66) + (1 : Int32)) < 0 ∧ ((nI n66) + (1 : Int32)).toNatClampNeg ≤ 1000000 ∧ 1 ≤ rc ∧ ((nI n66) + (1 : Int32)).toNatClampNeg ≤ rs) ∧ (∃ q69, FreN (setI μ b62 x3.toNatClampNeg (vp_nar .boolean 1)) q69 ∧ (∃ n71, mS (mkA (setI μ b62 x3.toNatClampNeg (vp_nar .boolean 1)) q69 (2, ((nI n66) + (1 : Int32)).toNatClampNeg)) a2 = (2, n71) ∧ (∃ n73 n74, (mS (mkA (setI μ b62 x3.toNatClampNeg (vp_nar .boolean 1)) q69 (2, ((nI n66) + (1 : Int32)).toNatClampNeg)) a2 = (2, n73) ∧ mS (mkA (setI μ b62 x3.toNatClampNeg (vp_nar .boolean 1)) q69 (2, ((nI n66) + (1 : Int32)).toNatClampNeg)) q69 = (2, n74) ∧ hiN q69 ∧ ¬ (0 : Int32) < 0 ∧ ¬ (0 : Int32) < 0 ∧ ¬ (nI n71) < 0 ∧ (0 : Int32).toNatClampNeg + (nI n71).toNatClampNeg ≤ n73 ∧ (0 : Int32).toNatClampNeg + (nI n71).toNatClampNeg ≤ n74) ∧ (hiN a2 ∧ (∃ n77, mS (cpI (mkA (setI μ b62 x3.toNatClampNeg (vp_nar .boolean 1)) q69 (2, ((nI n66) + (1 : Int32)).toNatClampNeg)) a2 q69 (0 : Int32).toNatClampNeg (0 : Int32).toNatClampNeg (nI n71).toNatClampNeg) a2 = (2, n77) ∧ (∃ n79, (mS (cpI (mkA (setI μ b62 x3.toNatClampNeg (vp_nar .boolean 1)) q69 (2, ((nI n66) + (1 : Int32)).toNatClampNeg)) a2 q69 (0 : Int32).toNatClampNeg (0 : Int32).toNatClampNeg (nI n71).toNatClampNeg) q69 = (2, n79) ∧ vp_in (nI n77) n79 ∧ hiN q69) ∧ Wx K_SI_send d (rc - 1) (rs - ((nI n66) + (1 : Int32)).toNatClampNeg) Q 26 [(0, .ref a0), (1, .int x1), (2, .ref q69), (3, .int (x3 + 1))] [] (setI (cpI (mkA (setI μ b62 x3.toNatClampNeg (vp_nar .boolean 1)) q69 (2, ((nI n66) + (1 : Int32)).toNatClampNeg)) a2 q69 (0 : Int32).toNatClampNeg (0 : Int32).toNatClampNeg (nI n71).toNatClampNeg) q69 (nI n77).toNatClampNeg x3))))))))))))))) ∧ (¬ (gI μ b53 x3.toNatClampNeg) = 0 → Wx K_SI_send d rc rs Q 26 [(0, .ref a0), (1, .int x1), (2, .ref a2), (3, .int (x3 + 1))] [] μ))))))))))))))))))))))))) : Wx K_SI_send d rc rs Q 26 [(0, .ref a0), (1, .int x1), (2, .ref a2), (3, .int x3)] [] μ := by
  refine Wa.iload_n (j := 3) d_SI_send_26 rfl ?_
  refine Wa.aload_n (j := 0) d_SI_send_27 rfl ?_
  have hc1 := hF.1
  have hF := hF.2
  obtain ⟨b2, hc3, hF⟩ := hF
  refine Wr.getR 11 6 d_SI_send_28 f_SI_6 rfl fl_SI_9 hc1 hc3 ?_
  obtain ⟨n4, hc5, hF⟩ := hF
  refine Wa.alen d_SI_send_31 hc5 (by decide) ?_
  refine Wa.icmp_ge 109 d_SI_send_32 (by decide) (fun hb => ?_) (fun hb => ?_)
  · have hF := hF.1 hb
    refine Wa.aload_n (j := 2) d_SI_send_109 rfl ?_
    obtain ⟨n6, hc7, hF⟩ := hF
    refine Wa.alen d_SI_send_110 hc7 (by decide) ?_
    refine Wa.iconst (v := 2) d_SI_send_111 rfl ?_
    refine Wa.icmp_ne 117 d_SI_send_112 (by decide) (fun hb => ?_) (fun hb => ?_)
    · have hF := hF.2 hb
      refine Wa.aload_n (j := 0) d_SI_send_117 rfl ?_
      refine Wa.aload_n (j := 0) d_SI_send_118 rfl ?_
      have hc8 := hF.1
      have hF := hF.2
      obtain ⟨b9, hc10, hF⟩ := hF
      refine Wr.getR 11 13 d_SI_send_119 f_SI_13 rfl fl_SI_24 hc8 hc10 ?_
      refine Wa.aload_n (j := 2) d_SI_send_122 rfl ?_
      obtain ⟨cc11, ss12, hc13, hF⟩ := hF
      refine Wr.cSr (As := [.ref b9, .ref a2]) (d - 1) cc11 ss12 _ d_SI_send_123 mok_SI_with sl_SI_76 rfl rfl (Nat.le_of_ble_eq_true rfl) (by omega) hc13.1 hc13.2 hF (fun b15 μ14 hS hF => ?_)
      have hc16 := hF.1
      have hF := hF.2
      refine Wr.putR 11 13 d_SI_send_126 f_SI_13 rfl ok_SI fl_SI_24 (Or.inl rfl) hc16.1 hc16.2 ?_
      refine Wa.aload_n (j := 0) d_SI_send_129 rfl ?_
      have hc17 := hF.1
      have hF := hF.2
      obtain ⟨b18, hc19, hF⟩ := hF
      refine Wr.getR 11 11 d_SI_send_130 f_SI_11 rfl fl_SI_21 hc17 hc19 ?_
      refine Wa.iload_n (j := 1) d_SI_send_133 rfl ?_
      obtain ⟨n20, hc21, hF⟩ := hF
      obtain ⟨b22, hc23, hF⟩ := hF
      refine Wa.aaldA ct_le d_SI_send_134 (Or.inl rfl) hc21.1 hc21.2 hc23 ?_
      refine Wa.iconst (v := 3) d_SI_send_135 rfl ?_
      refine Wa.dup2 d_SI_send_136 rfl rfl ?_
      obtain ⟨n24, hc25, hF⟩ := hF
      refine Wa.iald d_SI_send_137 hc25.1 hc25.2 ?_
      refine Wa.iconst (v := 1) d_SI_send_138 rfl ?_
      refine Wa.iadd d_SI_send_139 ?_
      obtain ⟨n26, hc27, hF⟩ := hF
      refine Wr.iast d_SI_send_140 hc27.1 hc27.2.1 hc27.2.2 ?_
      refine Wa.aload_n (j := 2) d_SI_send_141 rfl ?_
      obtain ⟨n28, hc29, hF⟩ := hF
      refine Wa.alen d_SI_send_142 hc29 (by decide) ?_
      refine Wa.iconst (v := 2) d_SI_send_143 rfl ?_
      refine Wa.isub d_SI_send_144 ?_
      exact Wx.reti d_SI_send_145 rfl hF
    · have hF := hF.1 hb
      refine Wa.iconst (v := 0) d_SI_send_115 rfl ?_
      exact Wx.reti d_SI_send_116 rfl hF
  · have hF := hF.2 hb
    refine Wa.aload_n (j := 0) d_SI_send_35 rfl ?_
    have hc30 := hF.1
    have hF := hF.2
    obtain ⟨b31, hc32, hF⟩ := hF
    refine Wr.getR 11 8 d_SI_send_36 f_SI_8 rfl fl_SI_38 hc30 hc32 ?_
    refine Wa.aload_n (j := 0) d_SI_send_39 rfl ?_
    have hc33 := hF.1
    have hF := hF.2
    obtain ⟨b34, hc35, hF⟩ := hF
    refine Wr.getR 11 11 d_SI_send_40 f_SI_11 rfl fl_SI_21 hc33 hc35 ?_
    refine Wa.iload_n (j := 1) d_SI_send_43 rfl ?_
    obtain ⟨n36, hc37, hF⟩ := hF
    obtain ⟨b38, hc39, hF⟩ := hF
    refine Wa.aaldA ct_le d_SI_send_44 (Or.inl rfl) hc37.1 hc37.2 hc39 ?_
    refine Wa.iconst (v := 0) d_SI_send_45 rfl ?_
    obtain ⟨n40, hc41, hF⟩ := hF
    refine Wa.iald d_SI_send_46 hc41.1 hc41.2 ?_
    obtain ⟨n42, hc43, hF⟩ := hF
    obtain ⟨b44, hc45, hF⟩ := hF
    refine Wa.aaldA ct_le d_SI_send_47 (Or.inr rfl) hc43.1 hc43.2 hc45 ?_
    refine Wa.iload_n (j := 3) d_SI_send_48 rfl ?_
    obtain ⟨n46, hc47, hF⟩ := hF
    refine Wa.zald d_SI_send_49 hc47.1 hc47.2 ?_
    refine Wa.if_eq 103 d_SI_send_50 (by decide) (fun hb => ?_) (fun hb => ?_)
    · have hF := hF.1 hb
      refine Wa.iinc (i := 3) (j := 3) (v := (x3 + 1)) (L' := [(3, .int (x3 + 1)), (0, .ref a0), (1, .int x1), (2, .ref a2)]) d_SI_send_103 rfl rfl (by decide) rfl ?_
      refine Wa.goto 26 d_SI_send_106 (by decide) ?_
      exact Wa.loc [1, 2, 3, 0] rfl hF
    · have hF := hF.2 hb
      refine Wa.aload_n (j := 0) d_SI_send_53 rfl ?_
      have hc48 := hF.1
      have hF := hF.2
      obtain ⟨b49, hc50, hF⟩ := hF
      refine Wr.getR 11 12 d_SI_send_54 f_SI_12 rfl fl_SI_68 hc48 hc50 ?_
      refine Wa.iload_n (j := 1) d_SI_send_57 rfl ?_
      obtain ⟨n51, hc52, hF⟩ := hF
      obtain ⟨b53, hc54, hF⟩ := hF
      refine Wa.aaldA ct_le d_SI_send_58 (Or.inr rfl) hc52.1 hc52.2 hc54 ?_
      refine Wa.iload_n (j := 3) d_SI_send_59 rfl ?_
      obtain ⟨n55, hc56, hF⟩ := hF
      refine Wa.zald d_SI_send_60 hc56.1 hc56.2 ?_
      refine Wa.if_eq 67 d_SI_send_61 (by decide) (fun hb => ?_) (fun hb => ?_)
      · have hF := hF.1 hb
        refine Wa.aload_n (j := 0) d_SI_send_67 rfl ?_
        have hc57 := hF.1
        have hF := hF.2
        obtain ⟨b58, hc59, hF⟩ := hF
        refine Wr.getR 11 12 d_SI_send_68 f_SI_12 rfl fl_SI_68 hc57 hc59 ?_
        refine Wa.iload_n (j := 1) d_SI_send_71 rfl ?_
        obtain ⟨n60, hc61, hF⟩ := hF
        obtain ⟨b62, hc63, hF⟩ := hF
        refine Wa.aaldA ct_le d_SI_send_72 (Or.inr rfl) hc61.1 hc61.2 hc63 ?_
        refine Wa.iload_n (j := 3) d_SI_send_73 rfl ?_
        refine Wa.iconst (v := 1) d_SI_send_74 rfl ?_
        obtain ⟨n64, hc65, hF⟩ := hF
        refine Wr.zast d_SI_send_75 hc65.1 hc65.2.1 hc65.2.2 ?_
        refine Wa.aload_n (j := 2) d_SI_send_76 rfl ?_
        obtain ⟨n66, hc67, hF⟩ := hF
        refine Wa.alen d_SI_send_77 hc67 (by decide) ?_
        refine Wa.iconst (v := 1) d_SI_send_78 rfl ?_
        refine Wa.iadd d_SI_send_79 ?_
        have hc68 := hF.1
        have hF := hF.2
        obtain ⟨q69, hc70, hF⟩ := hF
        refine Wr.newarr 2 (((nI n66) + (1 : Int32)).toNatClampNeg) q69 d_SI_send_80 ac_int rfl (by decide) hc68.1 rfl hc68.2.1 hc68.2.2.1 hc68.2.2.2 hc70 ?_
        refine Wa.astore (i := 4) (L' := [(4, .ref q69), (0, .ref a0), (1, .int x1), (2, .ref a2), (3, .int x3)]) d_SI_send_82 (by decide) rfl ?_
        refine Wa.aload_n (j := 3) d_SI_send_84 rfl ?_
        refine Wa.iconst (v := 0) d_SI_send_85 rfl ?_
        refine Wa.aload (j := 0) d_SI_send_86 rfl ?_
        refine Wa.iconst (v := 0) d_SI_send_88 rfl ?_
        refine Wa.aload_n (j := 3) d_SI_send_89 rfl ?_
        obtain ⟨n71, hc72, hF⟩ := hF
        refine Wa.alen d_SI_send_90 hc72 (by decide) ?_
        obtain ⟨n73, n74, hc75, hF⟩ := hF
        have hc76 := hF.1
        have hF := hF.2
        refine Wa.copyI d_SI_send_91 ml_SI_96 cp_1 cp_2 cp_3 (Nat.le_of_ble_eq_true rfl) hD hc76.rw hc75.2.2.1.rw hc75.1 hc75.2.1 hc75.2.2.2.1 hc75.2.2.2.2.1 hc75.2.2.2.2.2.1 hc75.2.2.2.2.2.2.1 hc75.2.2.2.2.2.2.2 ?_
        refine Wa.aload (j := 0) d_SI_send_94 rfl ?_
        refine Wa.aload_n (j := 3) d_SI_send_96 rfl ?_
        obtain ⟨n77, hc78, hF⟩ := hF
        refine Wa.alen d_SI_send_97 hc78 (by decide) ?_
        refine Wa.iload_n (j := 4) d_SI_send_98 rfl ?_
        obtain ⟨n79, hc80, hF⟩ := hF
        refine Wr.iast d_SI_send_99 hc80.1 hc80.2.1 hc80.2.2 ?_
        refine Wa.aload (j := 0) d_SI_send_100 rfl ?_
        refine Wa.astore_n (i := 2) (L' := [(2, .ref q69), (4, .ref q69), (0, .ref a0), (1, .int x1), (3, .int x3)]) d_SI_send_102 rfl (by decide) rfl ?_
        refine Wa.iinc (i := 3) (j := 4) (v := (x3 + 1)) (L' := [(3, .int (x3 + 1)), (2, .ref q69), (4, .ref q69), (0, .ref a0), (1, .int x1)]) d_SI_send_103 rfl rfl (by decide) rfl ?_
        refine Wa.goto 26 d_SI_send_106 (by decide) ?_
        exact Wa.loc [3, 4, 1, 0] rfl hF
      · have hF := hF.2 hb
        refine Wa.goto 103 d_SI_send_64 (by decide) ?_
        refine Wa.iinc (i := 3) (j := 3) (v := (x3 + 1)) (L' := [(3, .int (x3 + 1)), (0, .ref a0), (1, .int x1), (2, .ref a2)]) d_SI_send_103 rfl rfl (by decide) rfl ?_
        refine Wa.goto 26 d_SI_send_106 (by decide) ?_
        exact Wa.loc [1, 2, 3, 0] rfl hF
set_option maxHeartbeats 4000000 in
set_option maxRecDepth 20000 in
theorem r_SI_canHang_0 {d rc rs : Nat} {Q : Option Value → Mu → Prop} {μ : Mu} {a0 : Nat} {x1 : Int32} {x2 : Int32} (hD : 1 ≤ d)
    (hF : Wx K_SI_canHang d rc rs Q 2 [(0, .ref a0), (1, .int x1), (2, .int x2), (3, .int 0)] [] μ) : Wx K_SI_canHang d rc rs Q 0 [(0, .ref a0), (1, .int x1), (2, .int x2)] [] μ := by
  refine Wa.iconst (v := 0) d_SI_canHang_0 rfl ?_
  refine Wa.istore_n (i := 3) (L' := [(3, .int 0), (0, .ref a0), (1, .int x1), (2, .int x2)]) d_SI_canHang_1 rfl (by decide) rfl ?_
  exact Wa.loc [1, 2, 3, 0] rfl hF
theorem e_SI_canHang {d rc rs : Nat} {Q : Option Value → Mu → Prop} {μ : Mu} {a0 : Nat} {x1 : Int32} {x2 : Int32} (hk : Wx K_SI_canHang d rc rs (fun r μ' => St μ' ∧ Q r μ') 0 [(0, .ref a0), (1, .int x1), (2, .int x2)] [] μ) : Cal K_SI_canHang d rc rs [.ref a0, .int x1, .int x2] μ Q := Cal.of (by decide +kernel) rfl rfl (Nat.le_of_ble_eq_true rfl) rfl hk
set_option maxHeartbeats 4000000 in
set_option maxRecDepth 20000 in
theorem r_SI_canHang_2 {d rc rs : Nat} {Q : Option Value → Mu → Prop} {μ : Mu} {a0 : Nat} {x1 : Int32} {x2 : Int32} {x3 : Int32} (hD : 1 ≤ d)
    (hF : (mS μ a0 = (1, 11) ∧ (∃ b2, gR μ a0 6 = some b2 ∧ (∃ n4, mS μ b2 = (40, n4) ∧ (((nI n4) ≤ x3 → (mS μ a0 = (1, 11) ∧ (∃ b7, gR μ a0 10 = some b7 ∧ (∃ n9, (mS μ b7 = (41, n9) ∧ vp_in x1 n9) ∧ (∃ b11, gR μ b7 x1.toNatClampNeg = some b11 ∧ (∃ n13, (mS μ b11 = (5, n13) ∧ vp_in x2 n13) ∧ (((gI μ b11 x2.toNatClampNeg) = 0 ∨ (gI μ b11 x2.toNatClampNeg) = 1) ∧ Q (some (.int (gI μ b11 x2.toNatClampNeg))) μ))))))) ∧ (¬ (nI n4) ≤ x3 → ((x3 = x2 → Wx K_SI_canHang d rc rs Q 2 [(0, .ref a0), (1, .int x1), (2, .int x2), (3, .int (x3 + 1))] [] μ) ∧ (¬ x3 = x2 → (mS μ a0 = (1, 11) ∧ (∃ b16, gR μ a0 7 = some b16 ∧ (∃ n18, (mS μ b16 = (41, n18) ∧ vp_in x2 n18) ∧ (∃ b20, gR μ b16 x2.toNatClampNeg = some b20 ∧ (∃ n22, (mS μ b20 = (5, n22) ∧ vp_in x3 n22) ∧ (((gI μ b20 x3.toNatClampNeg) = 0 → Wx K_SI_canHang d rc rs Q 2 [(0, .ref a0), (1, .int x1), (2, .int x2), (3, .int (x3 + 1))] [] μ) ∧ (¬ (gI μ b20 x3.toNatClampNeg) = 0 → (mS μ a0 = (1, 11) ∧ (∃ b25, gR μ a0 8 = some b25 ∧ (∃ n27, (mS μ b25 = (41, n27) ∧ vp_in x1 n27) ∧ (∃ b29, gR μ b25 x1.toNatClampNeg = some b29 ∧ (∃ n31, (mS μ b29 = (5, n31) ∧ vp_in x3 n31) ∧ (((gI μ b29 x3.toNatClampNeg) = 0 → Q (some (.int 0)) μ) ∧ (¬ (gI μ b29 x3.toNatClampNeg) = 0 → Wx K_SI_canHang d rc rs Q 2 [(0, .ref a0), (1, .int x1), (2, .int x2), (3, .int (x3 + 1))] [] μ)))))))))))))))))))))) : Wx K_SI_canHang d rc rs Q 2 [(0, .ref a0), (1, .int x1), (2, .int x2), (3, .int x3)] [] μ := by
  refine Wa.iload_n (j := 3) d_SI_canHang_2 rfl ?_
  refine Wa.aload_n (j := 0) d_SI_canHang_3 rfl ?_
  have hc1 := hF.1
  have hF := hF.2
  obtain ⟨b2, hc3, hF⟩ := hF
  refine Wr.getR 11 6 d_SI_canHang_4 f_SI_6 rfl fl_SI_9 hc1 hc3 ?_
  obtain ⟨n4, hc5, hF⟩ := hF
  refine Wa.alen d_SI_canHang_7 hc5 (by decide) ?_
  refine Wa.icmp_ge 46 d_SI_canHang_8 (by decide) (fun hb => ?_) (fun hb => ?_)
  · have hF := hF.1 hb
    refine Wa.aload_n (j := 0) d_SI_canHang_46 rfl ?_
    have hc6 := hF.1
    have hF := hF.2
    obtain ⟨b7, hc8, hF⟩ := hF
    refine Wr.getR 11 10 d_SI_canHang_47 f_SI_10 rfl fl_SI_44 hc6 hc8 ?_
    refine Wa.iload_n (j := 1) d_SI_canHang_50 rfl ?_
    obtain ⟨n9, hc10, hF⟩ := hF
    obtain ⟨b11, hc12, hF⟩ := hF
    refine Wa.aaldA ct_le d_SI_canHang_51 (Or.inr rfl) hc10.1 hc10.2 hc12 ?_
    refine Wa.iload_n (j := 2) d_SI_canHang_52 rfl ?_
    obtain ⟨n13, hc14, hF⟩ := hF
    refine Wa.zald d_SI_canHang_53 hc14.1 hc14.2 ?_
    exact Wx.retz d_SI_canHang_54 rfl hF.1 hF.2
  · have hF := hF.2 hb
    refine Wa.iload_n (j := 3) d_SI_canHang_11 rfl ?_
    refine Wa.iload_n (j := 2) d_SI_canHang_12 rfl ?_
    refine Wa.icmp_eq 40 d_SI_canHang_13 (by decide) (fun hb => ?_) (fun hb => ?_)
    · have hF := hF.1 hb
      refine Wa.iinc (i := 3) (j := 3) (v := (x3 + 1)) (L' := [(3, .int (x3 + 1)), (0, .ref a0), (1, .int x1), (2, .int x2)]) d_SI_canHang_40 rfl rfl (by decide) rfl ?_
      refine Wa.goto 2 d_SI_canHang_43 (by decide) ?_
      exact Wa.loc [1, 2, 3, 0] rfl hF
    · have hF := hF.2 hb
      refine Wa.aload_n (j := 0) d_SI_canHang_16 rfl ?_
      have hc15 := hF.1
      have hF := hF.2
      obtain ⟨b16, hc17, hF⟩ := hF
      refine Wr.getR 11 7 d_SI_canHang_17 f_SI_7 rfl fl_SI_17 hc15 hc17 ?_
      refine Wa.iload_n (j := 2) d_SI_canHang_20 rfl ?_
      obtain ⟨n18, hc19, hF⟩ := hF
      obtain ⟨b20, hc21, hF⟩ := hF
      refine Wa.aaldA ct_le d_SI_canHang_21 (Or.inr rfl) hc19.1 hc19.2 hc21 ?_
      refine Wa.iload_n (j := 3) d_SI_canHang_22 rfl ?_
      obtain ⟨n22, hc23, hF⟩ := hF
      refine Wa.zald d_SI_canHang_23 hc23.1 hc23.2 ?_
      refine Wa.if_eq 40 d_SI_canHang_24 (by decide) (fun hb => ?_) (fun hb => ?_)
      · have hF := hF.1 hb
        refine Wa.iinc (i := 3) (j := 3) (v := (x3 + 1)) (L' := [(3, .int (x3 + 1)), (0, .ref a0), (1, .int x1), (2, .int x2)]) d_SI_canHang_40 rfl rfl (by decide) rfl ?_
        refine Wa.goto 2 d_SI_canHang_43 (by decide) ?_
        exact Wa.loc [1, 2, 3, 0] rfl hF
      · have hF := hF.2 hb
        refine Wa.aload_n (j := 0) d_SI_canHang_27 rfl ?_
        have hc24 := hF.1
        have hF := hF.2
        obtain ⟨b25, hc26, hF⟩ := hF
        refine Wr.getR 11 8 d_SI_canHang_28 f_SI_8 rfl fl_SI_38 hc24 hc26 ?_
        refine Wa.iload_n (j := 1) d_SI_canHang_31 rfl ?_
        obtain ⟨n27, hc28, hF⟩ := hF
        obtain ⟨b29, hc30, hF⟩ := hF
        refine Wa.aaldA ct_le d_SI_canHang_32 (Or.inr rfl) hc28.1 hc28.2 hc30 ?_
        refine Wa.iload_n (j := 3) d_SI_canHang_33 rfl ?_
        obtain ⟨n31, hc32, hF⟩ := hF
        refine Wa.zald d_SI_canHang_34 hc32.1 hc32.2 ?_
        refine Wa.if_ne 40 d_SI_canHang_35 (by decide) (fun hb => ?_) (fun hb => ?_)
        · have hF := hF.2 hb
          refine Wa.iinc (i := 3) (j := 3) (v := (x3 + 1)) (L' := [(3, .int (x3 + 1)), (0, .ref a0), (1, .int x1), (2, .int x2)]) d_SI_canHang_40 rfl rfl (by decide) rfl ?_
          refine Wa.goto 2 d_SI_canHang_43 (by decide) ?_
          exact Wa.loc [1, 2, 3, 0] rfl hF
        · have hF := hF.1 hb
          refine Wa.iconst (v := 0) d_SI_canHang_38 rfl ?_
          exact Wx.retz d_SI_canHang_39 rfl (Or.inl rfl) hF
set_option maxHeartbeats 4000000 in
set_option maxRecDepth 20000 in
theorem r_SI_hang_0 {d rc rs : Nat} {Q : Option Value → Mu → Prop} {μ : Mu} {a0 : Nat} {x1 : Int32} {x2 : Int32} (hD : 1 ≤ d)
    (hF : (mS μ a0 = (1, 11) ∧ (∃ b2, gR μ a0 6 = some b2 ∧ (∃ n4, (mS μ b2 = (40, n4) ∧ vp_in x2 n4) ∧ (∃ b6, gR μ b2 x2.toNatClampNeg = some b6 ∧ (∃ n8, (mS μ b6 = (2, n8) ∧ vp_in (1 : Int32) n8) ∧ (∃ cc10 ss11 : Nat, (cc10 ≤ rc ∧ ss11 ≤ rs) ∧ (mS μ a0 = (1, 11) ∧ Cal K_SI_shows (d - 1) cc10 ss11 [.ref a0, .int x1, .int (gI μ b6 (1 : Int32).toNatClampNeg)] μ (fun r μ13 => ∃ b15, r = some (.ref b15) ∧ (∃ n16, mS μ13 b15 = (2, n16) ∧ Wx K_SI_hang d (rc - cc10) (rs - ss11) Q 21 [(0, .ref a0), (1, .int x1), (2, .int x2), (3, .ref b15), (4, .int (nI n16)), (5, .int 0)] [] μ13)))))))))) : Wx K_SI_hang d rc rs Q 0 [(0, .ref a0), (1, .int x1), (2, .int x2)] [] μ := by
  refine Wa.aload_n (j := 0) d_SI_hang_0 rfl ?_
  refine Wa.iload_n (j := 1) d_SI_hang_1 rfl ?_
  refine Wa.aload_n (j := 0) d_SI_hang_2 rfl ?_
  have hc1 := hF.1
  have hF := hF.2
  obtain ⟨b2, hc3, hF⟩ := hF
  refine Wr.getR 11 6 d_SI_hang_3 f_SI_6 rfl fl_SI_9 hc1 hc3 ?_
  refine Wa.iload_n (j := 2) d_SI_hang_6 rfl ?_
  obtain ⟨n4, hc5, hF⟩ := hF
  obtain ⟨b6, hc7, hF⟩ := hF
  refine Wa.aaldA ct_le d_SI_hang_7 (Or.inl rfl) hc5.1 hc5.2 hc7 ?_
  refine Wa.iconst (v := 1) d_SI_hang_8 rfl ?_
  obtain ⟨n8, hc9, hF⟩ := hF
  refine Wa.iald d_SI_hang_9 hc9.1 hc9.2 ?_
  obtain ⟨cc10, ss11, hc12, hF⟩ := hF
  have hc14 := hF.1
  have hF := hF.2
  refine Wr.cVr (q := E_SI) (As := [.int x1, .int (gI μ b6 (1 : Int32).toNatClampNeg)]) 11 (d - 1) cc10 ss11 _ d_SI_hang_10 mok_SI_shows vl_SI_72 rfl rfl rfl (Nat.le_of_ble_eq_true rfl) (by omega) hc12.1 hc12.2 hc14 hF (fun b15 μ13 hS hF => ?_)
  refine Wa.astore_n (i := 3) (L' := [(3, .ref b15), (0, .ref a0), (1, .int x1), (2, .int x2)]) d_SI_hang_13 rfl (by decide) rfl ?_
  refine Wa.aload_n (j := 0) d_SI_hang_14 rfl ?_
  obtain ⟨n16, hc17, hF⟩ := hF
  refine Wa.alen d_SI_hang_15 hc17 (by decide) ?_
  refine Wa.istore (i := 4) (L' := [(4, .int (nI n16)), (3, .ref b15), (0, .ref a0), (1, .int x1), (2, .int x2)]) d_SI_hang_16 (by decide) rfl ?_
  refine Wa.iconst (v := 0) d_SI_hang_18 rfl ?_
  refine Wa.istore (i := 5) (L' := [(5, .int 0), (4, .int (nI n16)), (3, .ref b15), (0, .ref a0), (1, .int x1), (2, .int x2)]) d_SI_hang_19 (by decide) rfl ?_
  exact Wa.loc [3, 4, 5, 2, 1, 0] rfl hF
theorem e_SI_hang {d rc rs : Nat} {Q : Option Value → Mu → Prop} {μ : Mu} {a0 : Nat} {x1 : Int32} {x2 : Int32} (hk : Wx K_SI_hang d rc rs (fun r μ' => St μ' ∧ Q r μ') 0 [(0, .ref a0), (1, .int x1), (2, .int x2)] [] μ) : Cal K_SI_hang d rc rs [.ref a0, .int x1, .int x2] μ Q := Cal.of (by decide +kernel) rfl rfl (Nat.le_of_ble_eq_true rfl) rfl hk
set_option maxHeartbeats 4000000 in
set_option maxRecDepth 20000 in
theorem r_SI_hang_21 {d rc rs : Nat} {Q : Option Value → Mu → Prop} {μ : Mu} {a0 : Nat} {x1 : Int32} {x2 : Int32} {a3 : Nat} {x4 : Int32} {x5 : Int32} (hD : 1 ≤ d)
    (hF : ((x4 ≤ x5 → (mS μ a0 = (1, 11) ∧ (∃ b2, gR μ a0 10 = some b2 ∧ (∃ n4, (mS μ b2 = (41, n4) ∧ vp_in x1 n4) ∧ (∃ b6, gR μ b2 x1.toNatClampNeg = some b6 ∧ (∃ n8, (mS μ b6 = (5, n8) ∧ vp_in x2 n8 ∧ hiN b6) ∧ (mS (setI μ b6 x2.toNatClampNeg (vp_nar .boolean 0)) a0 = (1, 11) ∧ (∃ b11, gR (setI μ b6 x2.toNatClampNeg (vp_nar .boolean 0)) a0 8 = some b11 ∧ (∃ n13, (mS (setI μ b6 x2.toNatClampNeg (vp_nar .boolean 0)) b11 = (41, n13) ∧ vp_in x1 n13) ∧ (∃ b15, gR (setI μ b6 x2.toNatClampNeg (vp_nar .boolean 0)) b11 x1.toNatClampNeg = some b15 ∧ (∃ n17, (mS (setI μ b6 x2.toNatClampNeg (vp_nar .boolean 0)) b15 = (5, n17) ∧ vp_in x2 n17 ∧ hiN b15) ∧ (mS (setI (setI μ b6 x2.toNatClampNeg (vp_nar .boolean 0)) b15 x2.toNatClampNeg (vp_nar .boolean 1)) a0 = (1, 11) ∧ (∃ b20, gR (setI (setI μ b6 x2.toNatClampNeg (vp_nar .boolean 0)) b15 x2.toNatClampNeg (vp_nar .boolean 1)) a0 9 = some b20 ∧ (∃ n22, (mS (setI (setI μ b6 x2.toNatClampNeg (vp_nar .boolean 0)) b15 x2.toNatClampNeg (vp_nar .boolean 1)) b20 = (41, n22) ∧ vp_in x1 n22) ∧ (∃ b24, gR (setI (setI μ b6 x2.toNatClampNeg (vp_nar .boolean 0)) b15 x2.toNatClampNeg (vp_nar .boolean 1)) b20 x1.toNatClampNeg = some b24 ∧ (∃ n26, (mS (setI (setI μ b6 x2.toNatClampNeg (vp_nar .boolean 0)) b15 x2.toNatClampNeg (vp_nar .boolean 1)) b24 = (5, n26) ∧ vp_in x2 n26 ∧ hiN b24) ∧ (mS (setI (setI (setI μ b6 x2.toNatClampNeg (vp_nar .boolean 0)) b15 x2.toNatClampNeg (vp_nar .boolean 1)) b24 x2.toNatClampNeg (vp_nar .boolean 1)) a0 = (1, 11) ∧ ((mS (setI (setI (setI μ b6 x2.toNatClampNeg (vp_nar .boolean 0)) b15 x2.toNatClampNeg (vp_nar .boolean 1)) b24 x2.toNatClampNeg (vp_nar .boolean 1)) a0 = (1, 11) ∧ hiN a0) ∧ (∀ μ30 : Mu, μ30 = (setI (setI (setI (setI μ b6 x2.toNatClampNeg (vp_nar .boolean 0)) b15 x2.toNatClampNeg (vp_nar .boolean 1)) b24 x2.toNatClampNeg (vp_nar .boolean 1)) a0 1 ((gI (setI (setI (setI μ b6 x2.toNatClampNeg (vp_nar .boolean 0)) b15 x2.toNatClampNeg (vp_nar .boolean 1)) b24 x2.toNatClampNeg (vp_nar .boolean 1)) a0 1) + (1 : Int32))) → Q none μ30))))))))))))))))))) ∧ (¬ x4 ≤ x5 → (∃ n31, (mS μ a3 = (2, n31) ∧ vp_in x5 n31) ∧ (mS μ a0 = (1, 11) ∧ (∃ b34, gR μ a0 7 = some b34 ∧ (∃ n36, (mS μ b34 = (41, n36) ∧ vp_in x2 n36) ∧ (∃ b38, gR μ b34 x2.toNatClampNeg = some b38 ∧ (∃ n40, (mS μ b38 = (5, n40) ∧ vp_in (gI μ a3 x5.toNatClampNeg) n40) ∧ (((gI μ b38 (gI μ a3 x5.toNatClampNeg).toNatClampNeg) = 0 → Wx K_SI_hang d rc rs Q 21 [(0, .ref a0), (1, .int x1), (2, .int x2), (3, .ref a3), (4, .int x4), (5, .int (x5 + 1))] [] μ) ∧ (¬ (gI μ b38 (gI μ a3 x5.toNatClampNeg).toNatClampNeg) = 0 → (mS μ a0 = (1, 11) ∧ (∃ b43, gR μ a0 9 = some b43 ∧ (∃ n45, (mS μ b43 = (41, n45) ∧ vp_in x1 n45) ∧ (∃ b47, gR μ b43 x1.toNatClampNeg = some b47 ∧ (∃ n49, (mS μ b47 = (5, n49) ∧ vp_in (gI μ a3 x5.toNatClampNeg) n49 ∧ hiN b47) ∧ Wx K_SI_hang d rc rs Q 21 [(0, .ref a0), (1, .int x1), (2, .int x2), (3, .ref a3), (4, .int x4), (5, .int (x5 + 1))] [] (setI μ b47 (gI μ a3 x5.toNatClampNeg).toNatClampNeg (vp_nar .boolean 0)))))))))))))))))) : Wx K_SI_hang d rc rs Q 21 [(0, .ref a0), (1, .int x1), (2, .int x2), (3, .ref a3), (4, .int x4), (5, .int x5)] [] μ := by
  refine Wa.iload (j := 5) d_SI_hang_21 rfl ?_
  refine Wa.iload (j := 4) d_SI_hang_23 rfl ?_
  refine Wa.icmp_ge 62 d_SI_hang_25 (by decide) (fun hb => ?_) (fun hb => ?_)
  · have hF := hF.1 hb
    refine Wa.aload_n (j := 0) d_SI_hang_62 rfl ?_
    have hc1 := hF.1
    have hF := hF.2
    obtain ⟨b2, hc3, hF⟩ := hF
    refine Wr.getR 11 10 d_SI_hang_63 f_SI_10 rfl fl_SI_44 hc1 hc3 ?_
    refine Wa.iload_n (j := 1) d_SI_hang_66 rfl ?_
    obtain ⟨n4, hc5, hF⟩ := hF
    obtain ⟨b6, hc7, hF⟩ := hF
    refine Wa.aaldA ct_le d_SI_hang_67 (Or.inr rfl) hc5.1 hc5.2 hc7 ?_
    refine Wa.iload_n (j := 2) d_SI_hang_68 rfl ?_
    refine Wa.iconst (v := 0) d_SI_hang_69 rfl ?_
    obtain ⟨n8, hc9, hF⟩ := hF
    refine Wr.zast d_SI_hang_70 hc9.1 hc9.2.1 hc9.2.2 ?_
    refine Wa.aload_n (j := 0) d_SI_hang_71 rfl ?_
    have hc10 := hF.1
    have hF := hF.2
    obtain ⟨b11, hc12, hF⟩ := hF
    refine Wr.getR 11 8 d_SI_hang_72 f_SI_8 rfl fl_SI_38 hc10 hc12 ?_
    refine Wa.iload_n (j := 1) d_SI_hang_75 rfl ?_
    obtain ⟨n13, hc14, hF⟩ := hF
    obtain ⟨b15, hc16, hF⟩ := hF
    refine Wa.aaldA ct_le d_SI_hang_76 (Or.inr rfl) hc14.1 hc14.2 hc16 ?_
    refine Wa.iload_n (j := 2) d_SI_hang_77 rfl ?_
    refine Wa.iconst (v := 1) d_SI_hang_78 rfl ?_
    obtain ⟨n17, hc18, hF⟩ := hF
    refine Wr.zast d_SI_hang_79 hc18.1 hc18.2.1 hc18.2.2 ?_
    refine Wa.aload_n (j := 0) d_SI_hang_80 rfl ?_
    have hc19 := hF.1
    have hF := hF.2
    obtain ⟨b20, hc21, hF⟩ := hF
    refine Wr.getR 11 9 d_SI_hang_81 f_SI_9 rfl fl_SI_41 hc19 hc21 ?_
    refine Wa.iload_n (j := 1) d_SI_hang_84 rfl ?_
    obtain ⟨n22, hc23, hF⟩ := hF
    obtain ⟨b24, hc25, hF⟩ := hF
    refine Wa.aaldA ct_le d_SI_hang_85 (Or.inr rfl) hc23.1 hc23.2 hc25 ?_
    refine Wa.iload_n (j := 2) d_SI_hang_86 rfl ?_
    refine Wa.iconst (v := 1) d_SI_hang_87 rfl ?_
    obtain ⟨n26, hc27, hF⟩ := hF
    refine Wr.zast d_SI_hang_88 hc27.1 hc27.2.1 hc27.2.2 ?_
    refine Wa.aload_n (j := 0) d_SI_hang_89 rfl ?_
    refine Wa.dup d_SI_hang_90 rfl ?_
    have hc28 := hF.1
    have hF := hF.2
    refine Wr.getI 11 1 d_SI_hang_91 f_SI_1 fl_SI_55 hc28 ?_
    refine Wa.iconst (v := 1) d_SI_hang_94 rfl ?_
    refine Wa.iadd d_SI_hang_95 ?_
    have hc29 := hF.1
    have hF := hF.2
    refine Wr.putI 11 1 d_SI_hang_96 f_SI_1 ok_SI fl_SI_55 (Or.inl rfl) hc29.1 hc29.2 ?_
    suffices hh : ∀ μ30 : Mu, μ30 = (setI (setI (setI (setI μ b6 x2.toNatClampNeg (vp_nar .boolean 0)) b15 x2.toNatClampNeg (vp_nar .boolean 1)) b24 x2.toNatClampNeg (vp_nar .boolean 1)) a0 1 ((gI (setI (setI (setI μ b6 x2.toNatClampNeg (vp_nar .boolean 0)) b15 x2.toNatClampNeg (vp_nar .boolean 1)) b24 x2.toNatClampNeg (vp_nar .boolean 1)) a0 1) + (1 : Int32))) → Wx K_SI_hang d rc rs Q 99 [(0, .ref a0), (1, .int x1), (2, .int x2), (3, .ref a3), (4, .int x4), (5, .int x5)] [] μ30 from hh _ rfl
    intro μ30 em30
    have hF := hF μ30 em30
    exact Wx.retv d_SI_hang_99 rfl hF
  · have hF := hF.2 hb
    refine Wa.aload_n (j := 3) d_SI_hang_28 rfl ?_
    refine Wa.iload (j := 5) d_SI_hang_29 rfl ?_
    obtain ⟨n31, hc32, hF⟩ := hF
    refine Wa.iald d_SI_hang_31 hc32.1 hc32.2 ?_
    refine Wa.istore (i := 6) (L' := [(6, .int (gI μ a3 x5.toNatClampNeg)), (0, .ref a0), (1, .int x1), (2, .int x2), (3, .ref a3), (4, .int x4), (5, .int x5)]) d_SI_hang_32 (by decide) rfl ?_
    refine Wa.aload_n (j := 1) d_SI_hang_34 rfl ?_
    have hc33 := hF.1
    have hF := hF.2
    obtain ⟨b34, hc35, hF⟩ := hF
    refine Wr.getR 11 7 d_SI_hang_35 f_SI_7 rfl fl_SI_17 hc33 hc35 ?_
    refine Wa.iload_n (j := 3) d_SI_hang_38 rfl ?_
    obtain ⟨n36, hc37, hF⟩ := hF
    obtain ⟨b38, hc39, hF⟩ := hF
    refine Wa.aaldA ct_le d_SI_hang_39 (Or.inr rfl) hc37.1 hc37.2 hc39 ?_
    refine Wa.iload (j := 0) d_SI_hang_40 rfl ?_
    obtain ⟨n40, hc41, hF⟩ := hF
    refine Wa.zald d_SI_hang_42 hc41.1 hc41.2 ?_
    refine Wa.if_eq 56 d_SI_hang_43 (by decide) (fun hb => ?_) (fun hb => ?_)
    · have hF := hF.1 hb
      refine Wa.iinc (i := 5) (j := 6) (v := (x5 + 1)) (L' := [(5, .int (x5 + 1)), (6, .int (gI μ a3 x5.toNatClampNeg)), (0, .ref a0), (1, .int x1), (2, .int x2), (3, .ref a3), (4, .int x4)]) d_SI_hang_56 rfl rfl (by decide) rfl ?_
      refine Wa.goto 21 d_SI_hang_59 (by decide) ?_
      exact Wa.loc [2, 3, 4, 5, 6, 0] rfl hF
    · have hF := hF.2 hb
      refine Wa.aload_n (j := 1) d_SI_hang_46 rfl ?_
      have hc42 := hF.1
      have hF := hF.2
      obtain ⟨b43, hc44, hF⟩ := hF
      refine Wr.getR 11 9 d_SI_hang_47 f_SI_9 rfl fl_SI_41 hc42 hc44 ?_
      refine Wa.iload_n (j := 2) d_SI_hang_50 rfl ?_
      obtain ⟨n45, hc46, hF⟩ := hF
      obtain ⟨b47, hc48, hF⟩ := hF
      refine Wa.aaldA ct_le d_SI_hang_51 (Or.inr rfl) hc46.1 hc46.2 hc48 ?_
      refine Wa.iload (j := 0) d_SI_hang_52 rfl ?_
      refine Wa.iconst (v := 0) d_SI_hang_54 rfl ?_
      obtain ⟨n49, hc50, hF⟩ := hF
      refine Wr.zast d_SI_hang_55 hc50.1 hc50.2.1 hc50.2.2 ?_
      refine Wa.iinc (i := 5) (j := 6) (v := (x5 + 1)) (L' := [(5, .int (x5 + 1)), (6, .int (gI μ a3 x5.toNatClampNeg)), (0, .ref a0), (1, .int x1), (2, .int x2), (3, .ref a3), (4, .int x4)]) d_SI_hang_56 rfl rfl (by decide) rfl ?_
      refine Wa.goto 21 d_SI_hang_59 (by decide) ?_
      exact Wa.loc [2, 3, 4, 5, 6, 0] rfl hF
set_option maxHeartbeats 4000000 in
set_option maxRecDepth 20000 in
theorem r_SI_holds_0 {d rc rs : Nat} {Q : Option Value → Mu → Prop} {μ : Mu} {a0 : Nat} {a1 : Nat} (hD : 1 ≤ d)
    (hF : (∃ n1, (mS μ a1 = (2, n1) ∧ vp_in (6 : Int32) n1) ∧ (∃ n3, (mS μ a1 = (2, n3) ∧ vp_in (7 : Int32) n3) ∧ (∃ n5, (mS μ a1 = (2, n5) ∧ vp_in (5 : Int32) n5) ∧ ((((gI μ a1 (5 : Int32).toNatClampNeg) = 0) → Q (some (.int 1)) μ) ∧ (((gI μ a1 (5 : Int32).toNatClampNeg) = 1) → (∃ cc9 ss10 : Nat, (cc9 ≤ rc ∧ ss10 ≤ rs) ∧ (mS μ a0 = (1, 11) ∧ Cal K_SI_shows (d - 1) cc9 ss10 [.ref a0, .int (gI μ a1 (6 : Int32).toNatClampNeg), .int (gI μ a1 (7 : Int32).toNatClampNeg)] μ (fun r μ12 => ∃ b14, r = some (.ref b14) ∧ (∃ n15, mS μ12 b14 = (2, n15) ∧ (((nI n15) ≤ 1 → Q (some (.int 0)) μ12) ∧ (¬ (nI n15) ≤ 1 → Q (some (.int 1)) μ12))))))) ∧ (((gI μ a1 (5 : Int32).toNatClampNeg) = 2) → (∃ cc18 ss19 : Nat, (cc18 ≤ rc ∧ ss19 ≤ rs) ∧ (mS μ a0 = (1, 11) ∧ Cal K_SI_shows (d - 1) cc18 ss19 [.ref a0, .int (gI μ a1 (6 : Int32).toNatClampNeg), .int (gI μ a1 (7 : Int32).toNatClampNeg)] μ (fun r μ21 => ∃ b23, r = some (.ref b23) ∧ (∃ n24, mS μ21 b23 = (2, n24) ∧ (((nI n24) = 0 → Q (some (.int 1)) μ21) ∧ (¬ (nI n24) = 0 → (mS μ21 a0 = (1, 11) ∧ (¬ (5 : Int32) = 0 ∧ ((((gI μ21 a0 0) - (gI μ21 a0 0) / (5 : Int32) * (5 : Int32)) = 0 → Q (some (.int 1)) μ21) ∧ (¬ ((gI μ21 a0 0) - (gI μ21 a0 0) / (5 : Int32) * (5 : Int32)) = 0 → Q (some (.int 0)) μ21))))))))))) ∧ (((gI μ a1 (5 : Int32).toNatClampNeg) = 3) → (mS μ a0 = (1, 11) ∧ (¬ (gI μ a1 (6 : Int32).toNatClampNeg) = 0 ∧ ((((gI μ a0 0) - (gI μ a0 0) / (gI μ a1 (6 : Int32).toNatClampNeg) * (gI μ a1 (6 : Int32).toNatClampNeg)) = (gI μ a1 (7 : Int32).toNatClampNeg) → Q (some (.int 1)) μ) ∧ (¬ ((gI μ a0 0) - (gI μ a0 0) / (gI μ a1 (6 : Int32).toNatClampNeg) * (gI μ a1 (6 : Int32).toNatClampNeg)) = (gI μ a1 (7 : Int32).toNatClampNeg) → Q (some (.int 0)) μ))))) ∧ (((gI μ a1 (5 : Int32).toNatClampNeg) = 4) → (mS μ a0 = (1, 11) ∧ (∃ b33, gR μ a0 10 = some b33 ∧ (∃ n35, (mS μ b33 = (41, n35) ∧ vp_in (gI μ a1 (6 : Int32).toNatClampNeg) n35) ∧ (∃ b37, gR μ b33 (gI μ a1 (6 : Int32).toNatClampNeg).toNatClampNeg = some b37 ∧ Cal K_SI_many (d - 1) 0 0 [.ref b37] μ (fun r μ39 => ∃ y40, r = some (.int y40) ∧ (((gI μ a1 (7 : Int32).toNatClampNeg) < y40 → Q (some (.int 1)) μ39) ∧ (¬ (gI μ a1 (7 : Int32).toNatClampNeg) < y40 → (∃ cc41 ss42 : Nat, (cc41 ≤ rc - 0 ∧ ss42 ≤ rs - 0) ∧ (mS μ39 a0 = (1, 11) ∧ Cal K_SI_shows (d - 1) cc41 ss42 [.ref a0, .int (gI μ a1 (6 : Int32).toNatClampNeg), .int 0] μ39 (fun r μ44 => ∃ b46, r = some (.ref b46) ∧ (∃ n47, mS μ44 b46 = (2, n47) ∧ (((nI n47) ≤ 1 → Q (some (.int 0)) μ44) ∧ (¬ (nI n47) ≤ 1 → Q (some (.int 1)) μ44)))))))))))))) ∧ (((gI μ a1 (5 : Int32).toNatClampNeg).toInt < 0 ∨ 4 < (gI μ a1 (5 : Int32).toNatClampNeg).toInt) → (∃ cc50 ss51 : Nat, (cc50 ≤ rc ∧ ss51 ≤ rs) ∧ (mS μ a0 = (1, 11) ∧ Cal K_SI_marks (d - 1) cc50 ss51 [.ref a0, .int (gI μ a1 (6 : Int32).toNatClampNeg), .int (gI μ a1 (7 : Int32).toNatClampNeg)] μ (fun r μ53 => ∃ y55, r = some (.int y55) ∧ Cal K_JI_bitCount_0f7a4 (d - 1) 0 0 [.int y55] μ53 (fun r μ56 => ∃ y57, r = some (.int y57) ∧ ((3 ≤ y57 → Q (some (.int 0)) μ56) ∧ (¬ 3 ≤ y57 → (∃ cc58 ss59 : Nat, (cc58 ≤ rc - cc50 - 0 ∧ ss59 ≤ rs - ss51 - 0) ∧ (mS μ56 a0 = (1, 11) ∧ Cal K_SI_shows (d - 1) cc58 ss59 [.ref a0, .int (gI μ a1 (6 : Int32).toNatClampNeg), .int (gI μ a1 (7 : Int32).toNatClampNeg)] μ56 (fun r μ61 => ∃ b63, r = some (.ref b63) ∧ (∃ n64, mS μ61 b63 = (2, n64) ∧ ((1 < (nI n64) → Q (some (.int 0)) μ61) ∧ (¬ 1 < (nI n64) → Q (some (.int 1)) μ61)))))))))))))))))) : Wx K_SI_holds d rc rs Q 0 [(0, .ref a0), (1, .ref a1)] [] μ := by
  refine Wa.aload_n (j := 1) d_SI_holds_0 rfl ?_
  refine Wa.bipush (v := 6) d_SI_holds_1 rfl ?_
  obtain ⟨n1, hc2, hF⟩ := hF
  refine Wa.iald d_SI_holds_3 hc2.1 hc2.2 ?_
  refine Wa.istore_n (i := 2) (L' := [(2, .int (gI μ a1 (6 : Int32).toNatClampNeg)), (0, .ref a0), (1, .ref a1)]) d_SI_holds_4 rfl (by decide) rfl ?_
  refine Wa.aload_n (j := 2) d_SI_holds_5 rfl ?_
  refine Wa.bipush (v := 7) d_SI_holds_6 rfl ?_
  obtain ⟨n3, hc4, hF⟩ := hF
  refine Wa.iald d_SI_holds_8 hc4.1 hc4.2 ?_
  refine Wa.istore_n (i := 3) (L' := [(3, .int (gI μ a1 (7 : Int32).toNatClampNeg)), (2, .int (gI μ a1 (6 : Int32).toNatClampNeg)), (0, .ref a0), (1, .ref a1)]) d_SI_holds_9 rfl (by decide) rfl ?_
  refine Wa.aload_n (j := 3) d_SI_holds_10 rfl ?_
  refine Wa.iconst (v := 5) d_SI_holds_11 rfl ?_
  obtain ⟨n5, hc6, hF⟩ := hF
  refine Wa.iald d_SI_holds_12 hc6.1 hc6.2 ?_
  have k7 : ((gI μ a1 (5 : Int32).toNatClampNeg) = 0) → Wx K_SI_holds d rc rs Q 48 [(3, .int (gI μ a1 (7 : Int32).toNatClampNeg)), (2, .int (gI μ a1 (6 : Int32).toNatClampNeg)), (0, .ref a0), (1, .ref a1)] [] μ := by
    intro hb
    have hF := hF.1 hb
    refine Wa.iconst (v := 1) d_SI_holds_48 rfl ?_
    exact Wx.retz d_SI_holds_49 rfl (Or.inr rfl) hF
  have k8 : ((gI μ a1 (5 : Int32).toNatClampNeg) = 1) → Wx K_SI_holds d rc rs Q 50 [(3, .int (gI μ a1 (7 : Int32).toNatClampNeg)), (2, .int (gI μ a1 (6 : Int32).toNatClampNeg)), (0, .ref a0), (1, .ref a1)] [] μ := by
    intro hb
    have hF := hF.2.1 hb
    refine Wa.aload_n (j := 2) d_SI_holds_50 rfl ?_
    refine Wa.iload_n (j := 1) d_SI_holds_51 rfl ?_
    refine Wa.iload_n (j := 0) d_SI_holds_52 rfl ?_
    obtain ⟨cc9, ss10, hc11, hF⟩ := hF
    have hc13 := hF.1
    have hF := hF.2
    refine Wr.cVr (q := E_SI) (As := [.int (gI μ a1 (6 : Int32).toNatClampNeg), .int (gI μ a1 (7 : Int32).toNatClampNeg)]) 11 (d - 1) cc9 ss10 _ d_SI_holds_53 mok_SI_shows vl_SI_72 rfl rfl rfl (Nat.le_of_ble_eq_true rfl) (by omega) hc11.1 hc11.2 hc13 hF (fun b14 μ12 hS hF => ?_)
    obtain ⟨n15, hc16, hF⟩ := hF
    refine Wa.alen d_SI_holds_56 hc16 (by decide) ?_
    refine Wa.iconst (v := 1) d_SI_holds_57 rfl ?_
    refine Wa.icmp_le 65 d_SI_holds_58 (by decide) (fun hb => ?_) (fun hb => ?_)
    · have hF := hF.1 hb
      refine Wa.iconst (v := 0) d_SI_holds_65 rfl ?_
      exact Wx.retz d_SI_holds_66 rfl (Or.inl rfl) hF
    · have hF := hF.2 hb
      refine Wa.iconst (v := 1) d_SI_holds_61 rfl ?_
      refine Wa.goto 66 d_SI_holds_62 (by decide) ?_
      exact Wx.retz d_SI_holds_66 rfl (Or.inr rfl) hF
  have k17 : ((gI μ a1 (5 : Int32).toNatClampNeg) = 2) → Wx K_SI_holds d rc rs Q 67 [(3, .int (gI μ a1 (7 : Int32).toNatClampNeg)), (2, .int (gI μ a1 (6 : Int32).toNatClampNeg)), (0, .ref a0), (1, .ref a1)] [] μ := by
    intro hb
    have hF := hF.2.2.1 hb
    refine Wa.aload_n (j := 2) d_SI_holds_67 rfl ?_
    refine Wa.iload_n (j := 1) d_SI_holds_68 rfl ?_
    refine Wa.iload_n (j := 0) d_SI_holds_69 rfl ?_
    obtain ⟨cc18, ss19, hc20, hF⟩ := hF
    have hc22 := hF.1
    have hF := hF.2
    refine Wr.cVr (q := E_SI) (As := [.int (gI μ a1 (6 : Int32).toNatClampNeg), .int (gI μ a1 (7 : Int32).toNatClampNeg)]) 11 (d - 1) cc18 ss19 _ d_SI_holds_70 mok_SI_shows vl_SI_72 rfl rfl rfl (Nat.le_of_ble_eq_true rfl) (by omega) hc20.1 hc20.2 hc22 hF (fun b23 μ21 hS hF => ?_)
    obtain ⟨n24, hc25, hF⟩ := hF
    refine Wa.alen d_SI_holds_73 hc25 (by decide) ?_
    refine Wa.if_eq 86 d_SI_holds_74 (by decide) (fun hb => ?_) (fun hb => ?_)
    · have hF := hF.1 hb
      refine Wa.iconst (v := 1) d_SI_holds_86 rfl ?_
      refine Wa.goto 91 d_SI_holds_87 (by decide) ?_
      exact Wx.retz d_SI_holds_91 rfl (Or.inr rfl) hF
    · have hF := hF.2 hb
      refine Wa.aload_n (j := 2) d_SI_holds_77 rfl ?_
      have hc26 := hF.1
      have hF := hF.2
      refine Wr.getI 11 0 d_SI_holds_78 f_SI_0 fl_SI_52 hc26 ?_
      refine Wa.iconst (v := 5) d_SI_holds_81 rfl ?_
      have hc27 := hF.1
      have hF := hF.2
      refine Wa.irem d_SI_holds_82 hc27 ?_
      refine Wa.if_ne 90 d_SI_holds_83 (by decide) (fun hb => ?_) (fun hb => ?_)
      · have hF := hF.2 hb
        refine Wa.iconst (v := 0) d_SI_holds_90 rfl ?_
        exact Wx.retz d_SI_holds_91 rfl (Or.inl rfl) hF
      · have hF := hF.1 hb
        refine Wa.iconst (v := 1) d_SI_holds_86 rfl ?_
        refine Wa.goto 91 d_SI_holds_87 (by decide) ?_
        exact Wx.retz d_SI_holds_91 rfl (Or.inr rfl) hF
  have k28 : ((gI μ a1 (5 : Int32).toNatClampNeg) = 3) → Wx K_SI_holds d rc rs Q 92 [(3, .int (gI μ a1 (7 : Int32).toNatClampNeg)), (2, .int (gI μ a1 (6 : Int32).toNatClampNeg)), (0, .ref a0), (1, .ref a1)] [] μ := by
    intro hb
    have hF := hF.2.2.2.1 hb
    refine Wa.aload_n (j := 2) d_SI_holds_92 rfl ?_
    have hc29 := hF.1
    have hF := hF.2
    refine Wr.getI 11 0 d_SI_holds_93 f_SI_0 fl_SI_52 hc29 ?_
    refine Wa.iload_n (j := 1) d_SI_holds_96 rfl ?_
    have hc30 := hF.1
    have hF := hF.2
    refine Wa.irem d_SI_holds_97 hc30 ?_
    refine Wa.iload_n (j := 0) d_SI_holds_98 rfl ?_
    refine Wa.icmp_ne 106 d_SI_holds_99 (by decide) (fun hb => ?_) (fun hb => ?_)
    · have hF := hF.2 hb
      refine Wa.iconst (v := 0) d_SI_holds_106 rfl ?_
      exact Wx.retz d_SI_holds_107 rfl (Or.inl rfl) hF
    · have hF := hF.1 hb
      refine Wa.iconst (v := 1) d_SI_holds_102 rfl ?_
      refine Wa.goto 107 d_SI_holds_103 (by decide) ?_
      exact Wx.retz d_SI_holds_107 rfl (Or.inr rfl) hF
  have k31 : ((gI μ a1 (5 : Int32).toNatClampNeg) = 4) → Wx K_SI_holds d rc rs Q 108 [(3, .int (gI μ a1 (7 : Int32).toNatClampNeg)), (2, .int (gI μ a1 (6 : Int32).toNatClampNeg)), (0, .ref a0), (1, .ref a1)] [] μ := by
    intro hb
    have hF := hF.2.2.2.2.1 hb
    refine Wa.aload_n (j := 2) d_SI_holds_108 rfl ?_
    have hc32 := hF.1
    have hF := hF.2
    obtain ⟨b33, hc34, hF⟩ := hF
    refine Wr.getR 11 10 d_SI_holds_109 f_SI_10 rfl fl_SI_44 hc32 hc34 ?_
    refine Wa.iload_n (j := 1) d_SI_holds_112 rfl ?_
    obtain ⟨n35, hc36, hF⟩ := hF
    obtain ⟨b37, hc38, hF⟩ := hF
    refine Wa.aaldA ct_le d_SI_holds_113 (Or.inr rfl) hc36.1 hc36.2 hc38 ?_
    refine Wx.cSi (As := [.ref b37]) (d - 1) 0 0 _ d_SI_holds_114 mok_SI_many sl_SI_102 rfl rfl (Nat.le_of_ble_eq_true rfl) (by omega) (Nat.zero_le _) (Nat.zero_le _) hF (fun y40 μ39 hS hF => ?_)
    refine Wa.iload_n (j := 0) d_SI_holds_117 rfl ?_
    refine Wa.icmp_gt 132 d_SI_holds_118 (by decide) (fun hb => ?_) (fun hb => ?_)
    · have hF := hF.1 hb
      refine Wa.iconst (v := 1) d_SI_holds_132 rfl ?_
      refine Wa.goto 137 d_SI_holds_133 (by decide) ?_
      exact Wx.retz d_SI_holds_137 rfl (Or.inr rfl) hF
    · have hF := hF.2 hb
      refine Wa.aload_n (j := 2) d_SI_holds_121 rfl ?_
      refine Wa.iload_n (j := 1) d_SI_holds_122 rfl ?_
      refine Wa.iconst (v := 0) d_SI_holds_123 rfl ?_
      obtain ⟨cc41, ss42, hc43, hF⟩ := hF
      have hc45 := hF.1
      have hF := hF.2
      refine Wr.cVr (q := E_SI) (As := [.int (gI μ a1 (6 : Int32).toNatClampNeg), .int 0]) 11 (d - 1) cc41 ss42 _ d_SI_holds_124 mok_SI_shows vl_SI_72 rfl rfl rfl (Nat.le_of_ble_eq_true rfl) (by omega) hc43.1 hc43.2 hc45 hF (fun b46 μ44 hS hF => ?_)
      obtain ⟨n47, hc48, hF⟩ := hF
      refine Wa.alen d_SI_holds_127 hc48 (by decide) ?_
      refine Wa.iconst (v := 1) d_SI_holds_128 rfl ?_
      refine Wa.icmp_le 136 d_SI_holds_129 (by decide) (fun hb => ?_) (fun hb => ?_)
      · have hF := hF.1 hb
        refine Wa.iconst (v := 0) d_SI_holds_136 rfl ?_
        exact Wx.retz d_SI_holds_137 rfl (Or.inl rfl) hF
      · have hF := hF.2 hb
        refine Wa.iconst (v := 1) d_SI_holds_132 rfl ?_
        refine Wa.goto 137 d_SI_holds_133 (by decide) ?_
        exact Wx.retz d_SI_holds_137 rfl (Or.inr rfl) hF
  have k49 : ((gI μ a1 (5 : Int32).toNatClampNeg).toInt < 0 ∨ 4 < (gI μ a1 (5 : Int32).toNatClampNeg).toInt) → Wx K_SI_holds d rc rs Q 138 [(3, .int (gI μ a1 (7 : Int32).toNatClampNeg)), (2, .int (gI μ a1 (6 : Int32).toNatClampNeg)), (0, .ref a0), (1, .ref a1)] [] μ := by
    intro hb
    have hF := hF.2.2.2.2.2 hb
    refine Wa.aload_n (j := 2) d_SI_holds_138 rfl ?_
    refine Wa.iload_n (j := 1) d_SI_holds_139 rfl ?_
    refine Wa.iload_n (j := 0) d_SI_holds_140 rfl ?_
    obtain ⟨cc50, ss51, hc52, hF⟩ := hF
    have hc54 := hF.1
    have hF := hF.2
    refine Wx.cVi (q := E_SI) (As := [.int (gI μ a1 (6 : Int32).toNatClampNeg), .int (gI μ a1 (7 : Int32).toNatClampNeg)]) 11 (d - 1) cc50 ss51 _ d_SI_holds_141 mok_SI_marks vl_SI_89 rfl rfl rfl (Nat.le_of_ble_eq_true rfl) (by omega) hc52.1 hc52.2 hc54 hF (fun y55 μ53 hS hF => ?_)
    refine Wx.cSi (As := [.int y55]) (d - 1) 0 0 _ d_SI_holds_144 mok_JI_bitCount_0f7a4 sl_SI_106 rfl rfl (Nat.le_of_ble_eq_true rfl) (by omega) (Nat.zero_le _) (Nat.zero_le _) hF (fun y57 μ56 hS hF => ?_)
    refine Wa.iconst (v := 3) d_SI_holds_147 rfl ?_
    refine Wa.icmp_ge 166 d_SI_holds_148 (by decide) (fun hb => ?_) (fun hb => ?_)
    · have hF := hF.1 hb
      refine Wa.iconst (v := 0) d_SI_holds_166 rfl ?_
      exact Wx.retz d_SI_holds_167 rfl (Or.inl rfl) hF
    · have hF := hF.2 hb
      refine Wa.aload_n (j := 2) d_SI_holds_151 rfl ?_
      refine Wa.iload_n (j := 1) d_SI_holds_152 rfl ?_
      refine Wa.iload_n (j := 0) d_SI_holds_153 rfl ?_
      obtain ⟨cc58, ss59, hc60, hF⟩ := hF
      have hc62 := hF.1
      have hF := hF.2
      refine Wr.cVr (q := E_SI) (As := [.int (gI μ a1 (6 : Int32).toNatClampNeg), .int (gI μ a1 (7 : Int32).toNatClampNeg)]) 11 (d - 1) cc58 ss59 _ d_SI_holds_154 mok_SI_shows vl_SI_72 rfl rfl rfl (Nat.le_of_ble_eq_true rfl) (by omega) hc60.1 hc60.2 hc62 hF (fun b63 μ61 hS hF => ?_)
      obtain ⟨n64, hc65, hF⟩ := hF
      refine Wa.alen d_SI_holds_157 hc65 (by decide) ?_
      refine Wa.iconst (v := 1) d_SI_holds_158 rfl ?_
      refine Wa.icmp_gt 166 d_SI_holds_159 (by decide) (fun hb => ?_) (fun hb => ?_)
      · have hF := hF.1 hb
        refine Wa.iconst (v := 0) d_SI_holds_166 rfl ?_
        exact Wx.retz d_SI_holds_167 rfl (Or.inl rfl) hF
      · have hF := hF.2 hb
        refine Wa.iconst (v := 1) d_SI_holds_162 rfl ?_
        refine Wa.goto 167 d_SI_holds_163 (by decide) ?_
        exact Wx.retz d_SI_holds_167 rfl (Or.inr rfl) hF
  rcases sw_0_4 (gI μ a1 (5 : Int32).toNatClampNeg) with hb | hb | hb | hb | hb | hb | hb
  · exact Wa.tabOut 138 d_SI_holds_13 (Or.inl hb) (by decide) (k49 (Or.inl hb))
  · exact Wa.tabOut 138 d_SI_holds_13 (Or.inr hb) (by decide) (k49 (Or.inr hb))
  · exact Wa.tabIn 48 d_SI_holds_13 (by rw [hb]; decide) (by rw [hb]; decide) (by rw [hb]; rfl) (by decide) (k7 hb)
  · exact Wa.tabIn 50 d_SI_holds_13 (by rw [hb]; decide) (by rw [hb]; decide) (by rw [hb]; rfl) (by decide) (k8 hb)
  · exact Wa.tabIn 67 d_SI_holds_13 (by rw [hb]; decide) (by rw [hb]; decide) (by rw [hb]; rfl) (by decide) (k17 hb)
  · exact Wa.tabIn 92 d_SI_holds_13 (by rw [hb]; decide) (by rw [hb]; decide) (by rw [hb]; rfl) (by decide) (k28 hb)
  · exact Wa.tabIn 108 d_SI_holds_13 (by rw [hb]; decide) (by rw [hb]; decide) (by rw [hb]; rfl) (by decide) (k31 hb)
theorem e_SI_holds {d rc rs : Nat} {Q : Option Value → Mu → Prop} {μ : Mu} {a0 : Nat} {a1 : Nat} (hk : Wx K_SI_holds d rc rs (fun r μ' => St μ' ∧ Q r μ') 0 [(0, .ref a0), (1, .ref a1)] [] μ) : Cal K_SI_holds d rc rs [.ref a0, .ref a1] μ Q := Cal.of (by decide +kernel) rfl rfl (Nat.le_of_ble_eq_true rfl) rfl hk
set_option maxHeartbeats 4000000 in
set_option maxRecDepth 20000 in
theorem r_SI_does_0 {d rc rs : Nat} {Q : Option Value → Mu → Prop} {μ : Mu} {a0 : Nat} {a1 : Nat} (hD : 1 ≤ d)
    (hF : (∃ n1, (mS μ a1 = (2, n1) ∧ vp_in (1 : Int32) n1) ∧ (∃ n3, (mS μ a1 = (2, n3) ∧ vp_in (2 : Int32) n3) ∧ (∃ n5, (mS μ a1 = (2, n5) ∧ vp_in (0 : Int32) n5) ∧ (((gI μ a1 (0 : Int32).toNatClampNeg) = 3 → (∃ cc37 ss38 : Nat, (cc37 ≤ rc ∧ ss38 ≤ rs) ∧ (mS μ a0 = (1, 11) ∧ Cal K_SI_send (d - 1) cc37 ss38 [.ref a0, .int (gI μ a1 (1 : Int32).toNatClampNeg)] μ (fun r μ40 => ∃ y42, r = some (.int y42) ∧ ((y42 ≤ 0 → Q (some (.int 0)) μ40) ∧ (¬ y42 ≤ 0 → Q (some (.int 1)) μ40)))))) ∧ (¬ (gI μ a1 (0 : Int32).toNatClampNeg) = 3 → (∃ n7, (mS μ a1 = (2, n7) ∧ vp_in (0 : Int32) n7) ∧ (((gI μ a1 (0 : Int32).toNatClampNeg) = 2 → (∃ n29, (mS μ a1 = (2, n29) ∧ vp_in (4 : Int32) n29) ∧ (∃ cc31 ss32 : Nat, (cc31 ≤ rc ∧ ss32 ≤ rs) ∧ (mS μ a0 = (1, 11) ∧ Cal K_SI_merge (d - 1) cc31 ss32 [.ref a0, .int (gI μ a1 (1 : Int32).toNatClampNeg), .int (gI μ a1 (2 : Int32).toNatClampNeg), .int (gI μ a1 (4 : Int32).toNatClampNeg)] μ (fun r μ34 => ∃ y36, r = some (.int y36) ∧ ((y36 < 0 → Q (some (.int 0)) μ34) ∧ (¬ y36 < 0 → Q (some (.int 1)) μ34))))))) ∧ (¬ (gI μ a1 (0 : Int32).toNatClampNeg) = 2 → (∃ n9, (mS μ a1 = (2, n9) ∧ vp_in (3 : Int32) n9) ∧ (((gI μ a1 (3 : Int32).toNatClampNeg) = 0 → (∃ n27, (mS μ a1 = (2, n27) ∧ vp_in (4 : Int32) n27) ∧ Wx K_SI_does d rc rs Q 105 [(0, .ref a0), (1, .ref a1), (2, .int (gI μ a1 (1 : Int32).toNatClampNeg)), (3, .int (gI μ a1 (2 : Int32).toNatClampNeg))] [.int (gI μ a1 (4 : Int32).toNatClampNeg)] μ)) ∧ (¬ (gI μ a1 (3 : Int32).toNatClampNeg) = 0 → (∃ n11, (mS μ a1 = (2, n11) ∧ vp_in (3 : Int32) n11) ∧ (((gI μ a1 (3 : Int32).toNatClampNeg) = 1 → (mS μ a0 = (1, 11) ∧ (∃ n25, (mS μ a1 = (2, n25) ∧ vp_in (4 : Int32) n25) ∧ Wx K_SI_does d rc rs Q 105 [(0, .ref a0), (1, .ref a1), (2, .int (gI μ a1 (1 : Int32).toNatClampNeg)), (3, .int (gI μ a1 (2 : Int32).toNatClampNeg))] [.int (((gI μ a0 0) * (7 : Int32)) - (gI μ a1 (4 : Int32).toNatClampNeg))] μ))) ∧ (¬ (gI μ a1 (3 : Int32).toNatClampNeg) = 1 → (∃ n13, (mS μ a1 = (2, n13) ∧ vp_in (4 : Int32) n13) ∧ (∃ cc15 ss16 : Nat, (cc15 ≤ rc ∧ ss16 ≤ rs) ∧ (mS μ a0 = (1, 11) ∧ Cal K_SI_shows (d - 1) cc15 ss16 [.ref a0, .int (gI μ a1 (1 : Int32).toNatClampNeg), .int (gI μ a1 (2 : Int32).toNatClampNeg)] μ (fun r μ18 => ∃ b20, r = some (.ref b20) ∧ (∃ n21, mS μ18 b20 = (2, n21) ∧ (mS μ18 a0 = (1, 11) ∧ Wx K_SI_does d (rc - cc15) (rs - ss16) Q 105 [(0, .ref a0), (1, .ref a1), (2, .int (gI μ a1 (1 : Int32).toNatClampNeg)), (3, .int (gI μ a1 (2 : Int32).toNatClampNeg))] [.int ((((gI μ a1 (4 : Int32).toNatClampNeg) * (3 : Int32)) * (nI n21)) - (gI μ18 a0 0))] μ18))))))))))))))))))))) : Wx K_SI_does d rc rs Q 0 [(0, .ref a0), (1, .ref a1)] [] μ := by
  refine Wa.aload_n (j := 1) d_SI_does_0 rfl ?_
  refine Wa.iconst (v := 1) d_SI_does_1 rfl ?_
  obtain ⟨n1, hc2, hF⟩ := hF
  refine Wa.iald d_SI_does_2 hc2.1 hc2.2 ?_
  refine Wa.istore_n (i := 2) (L' := [(2, .int (gI μ a1 (1 : Int32).toNatClampNeg)), (0, .ref a0), (1, .ref a1)]) d_SI_does_3 rfl (by decide) rfl ?_
  refine Wa.aload_n (j := 2) d_SI_does_4 rfl ?_
  refine Wa.iconst (v := 2) d_SI_does_5 rfl ?_
  obtain ⟨n3, hc4, hF⟩ := hF
  refine Wa.iald d_SI_does_6 hc4.1 hc4.2 ?_
  refine Wa.istore_n (i := 3) (L' := [(3, .int (gI μ a1 (2 : Int32).toNatClampNeg)), (2, .int (gI μ a1 (1 : Int32).toNatClampNeg)), (0, .ref a0), (1, .ref a1)]) d_SI_does_7 rfl (by decide) rfl ?_
  refine Wa.aload_n (j := 3) d_SI_does_8 rfl ?_
  refine Wa.iconst (v := 0) d_SI_does_9 rfl ?_
  obtain ⟨n5, hc6, hF⟩ := hF
  refine Wa.iald d_SI_does_10 hc6.1 hc6.2 ?_
  refine Wa.iconst (v := 3) d_SI_does_11 rfl ?_
  refine Wa.icmp_ne 29 d_SI_does_12 (by decide) (fun hb => ?_) (fun hb => ?_)
  · have hF := hF.2 hb
    refine Wa.aload_n (j := 3) d_SI_does_29 rfl ?_
    refine Wa.iconst (v := 0) d_SI_does_30 rfl ?_
    obtain ⟨n7, hc8, hF⟩ := hF
    refine Wa.iald d_SI_does_31 hc8.1 hc8.2 ?_
    refine Wa.iconst (v := 2) d_SI_does_32 rfl ?_
    refine Wa.icmp_ne 54 d_SI_does_33 (by decide) (fun hb => ?_) (fun hb => ?_)
    · have hF := hF.2 hb
      refine Wa.aload_n (j := 3) d_SI_does_54 rfl ?_
      refine Wa.iconst (v := 3) d_SI_does_55 rfl ?_
      obtain ⟨n9, hc10, hF⟩ := hF
      refine Wa.iald d_SI_does_56 hc10.1 hc10.2 ?_
      refine Wa.if_ne 66 d_SI_does_57 (by decide) (fun hb => ?_) (fun hb => ?_)
      · have hF := hF.2 hb
        refine Wa.aload_n (j := 3) d_SI_does_66 rfl ?_
        refine Wa.iconst (v := 3) d_SI_does_67 rfl ?_
        obtain ⟨n11, hc12, hF⟩ := hF
        refine Wa.iald d_SI_does_68 hc12.1 hc12.2 ?_
        refine Wa.iconst (v := 1) d_SI_does_69 rfl ?_
        refine Wa.icmp_ne 87 d_SI_does_70 (by decide) (fun hb => ?_) (fun hb => ?_)
        · have hF := hF.2 hb
          refine Wa.aload_n (j := 3) d_SI_does_87 rfl ?_
          refine Wa.iconst (v := 4) d_SI_does_88 rfl ?_
          obtain ⟨n13, hc14, hF⟩ := hF
          refine Wa.iald d_SI_does_89 hc14.1 hc14.2 ?_
          refine Wa.iconst (v := 3) d_SI_does_90 rfl ?_
          refine Wa.imul d_SI_does_91 ?_
          refine Wa.aload_n (j := 2) d_SI_does_92 rfl ?_
          refine Wa.iload_n (j := 1) d_SI_does_93 rfl ?_
          refine Wa.iload_n (j := 0) d_SI_does_94 rfl ?_
          obtain ⟨cc15, ss16, hc17, hF⟩ := hF
          have hc19 := hF.1
          have hF := hF.2
          refine Wr.cVr (q := E_SI) (As := [.int (gI μ a1 (1 : Int32).toNatClampNeg), .int (gI μ a1 (2 : Int32).toNatClampNeg)]) 11 (d - 1) cc15 ss16 _ d_SI_does_95 mok_SI_shows vl_SI_72 rfl rfl rfl (Nat.le_of_ble_eq_true rfl) (by omega) hc17.1 hc17.2 hc19 hF (fun b20 μ18 hS hF => ?_)
          obtain ⟨n21, hc22, hF⟩ := hF
          refine Wa.alen d_SI_does_98 hc22 (by decide) ?_
          refine Wa.imul d_SI_does_99 ?_
          refine Wa.aload_n (j := 2) d_SI_does_100 rfl ?_
          have hc23 := hF.1
          have hF := hF.2
          refine Wr.getI 11 0 d_SI_does_101 f_SI_0 fl_SI_52 hc23 ?_
          refine Wa.isub d_SI_does_104 ?_
          exact Wa.loc [2, 3, 1, 0] rfl hF
        · have hF := hF.1 hb
          refine Wa.aload_n (j := 2) d_SI_does_73 rfl ?_
          have hc24 := hF.1
          have hF := hF.2
          refine Wr.getI 11 0 d_SI_does_74 f_SI_0 fl_SI_52 hc24 ?_
          refine Wa.bipush (v := 7) d_SI_does_77 rfl ?_
          refine Wa.imul d_SI_does_79 ?_
          refine Wa.aload_n (j := 3) d_SI_does_80 rfl ?_
          refine Wa.iconst (v := 4) d_SI_does_81 rfl ?_
          obtain ⟨n25, hc26, hF⟩ := hF
          refine Wa.iald d_SI_does_82 hc26.1 hc26.2 ?_
          refine Wa.isub d_SI_does_83 ?_
          refine Wa.goto 105 d_SI_does_84 (by decide) ?_
          exact Wa.loc [2, 3, 1, 0] rfl hF
      · have hF := hF.1 hb
        refine Wa.aload_n (j := 3) d_SI_does_60 rfl ?_
        refine Wa.iconst (v := 4) d_SI_does_61 rfl ?_
        obtain ⟨n27, hc28, hF⟩ := hF
        refine Wa.iald d_SI_does_62 hc28.1 hc28.2 ?_
        refine Wa.goto 105 d_SI_does_63 (by decide) ?_
        exact Wa.loc [2, 3, 1, 0] rfl hF
    · have hF := hF.1 hb
      refine Wa.aload_n (j := 2) d_SI_does_36 rfl ?_
      refine Wa.iload_n (j := 1) d_SI_does_37 rfl ?_
      refine Wa.iload_n (j := 0) d_SI_does_38 rfl ?_
      refine Wa.aload_n (j := 3) d_SI_does_39 rfl ?_
      refine Wa.iconst (v := 4) d_SI_does_40 rfl ?_
      obtain ⟨n29, hc30, hF⟩ := hF
      refine Wa.iald d_SI_does_41 hc30.1 hc30.2 ?_
      obtain ⟨cc31, ss32, hc33, hF⟩ := hF
      have hc35 := hF.1
      have hF := hF.2
      refine Wx.cVi (q := E_SI) (As := [.int (gI μ a1 (1 : Int32).toNatClampNeg), .int (gI μ a1 (2 : Int32).toNatClampNeg), .int (gI μ a1 (4 : Int32).toNatClampNeg)]) 11 (d - 1) cc31 ss32 _ d_SI_does_42 mok_SI_merge vl_SI_115 rfl rfl rfl (Nat.le_of_ble_eq_true rfl) (by omega) hc33.1 hc33.2 hc35 hF (fun y36 μ34 hS hF => ?_)
      refine Wa.if_lt 52 d_SI_does_45 (by decide) (fun hb => ?_) (fun hb => ?_)
      · have hF := hF.1 hb
        refine Wa.iconst (v := 0) d_SI_does_52 rfl ?_
        exact Wx.retz d_SI_does_53 rfl (Or.inl rfl) hF
      · have hF := hF.2 hb
        refine Wa.iconst (v := 1) d_SI_does_48 rfl ?_
        refine Wa.goto 53 d_SI_does_49 (by decide) ?_
        exact Wx.retz d_SI_does_53 rfl (Or.inr rfl) hF
  · have hF := hF.1 hb
    refine Wa.aload_n (j := 2) d_SI_does_15 rfl ?_
    refine Wa.iload_n (j := 1) d_SI_does_16 rfl ?_
    obtain ⟨cc37, ss38, hc39, hF⟩ := hF
    have hc41 := hF.1
    have hF := hF.2
    refine Wx.cVi (q := E_SI) (As := [.int (gI μ a1 (1 : Int32).toNatClampNeg)]) 11 (d - 1) cc37 ss38 _ d_SI_does_17 mok_SI_send vl_SI_112 rfl rfl rfl (Nat.le_of_ble_eq_true rfl) (by omega) hc39.1 hc39.2 hc41 hF (fun y42 μ40 hS hF => ?_)
    refine Wa.if_le 27 d_SI_does_20 (by decide) (fun hb => ?_) (fun hb => ?_)
    · have hF := hF.1 hb
      refine Wa.iconst (v := 0) d_SI_does_27 rfl ?_
      exact Wx.retz d_SI_does_28 rfl (Or.inl rfl) hF
    · have hF := hF.2 hb
      refine Wa.iconst (v := 1) d_SI_does_23 rfl ?_
      refine Wa.goto 28 d_SI_does_24 (by decide) ?_
      exact Wx.retz d_SI_does_28 rfl (Or.inr rfl) hF
theorem e_SI_does {d rc rs : Nat} {Q : Option Value → Mu → Prop} {μ : Mu} {a0 : Nat} {a1 : Nat} (hk : Wx K_SI_does d rc rs (fun r μ' => St μ' ∧ Q r μ') 0 [(0, .ref a0), (1, .ref a1)] [] μ) : Cal K_SI_does d rc rs [.ref a0, .ref a1] μ Q := Cal.of (by decide +kernel) rfl rfl (Nat.le_of_ble_eq_true rfl) rfl hk
set_option maxHeartbeats 4000000 in
set_option maxRecDepth 20000 in
theorem r_SI_does_105 {d rc rs : Nat} {Q : Option Value → Mu → Prop} {μ : Mu} {a0 : Nat} {a1 : Nat} {x2 : Int32} {x3 : Int32} {z0 : Int32} (hD : 1 ≤ d)
    (hF : (∃ n1, (mS μ a1 = (2, n1) ∧ vp_in (0 : Int32) n1) ∧ (((gI μ a1 (0 : Int32).toNatClampNeg) = 0 → ((0 ≤ z0 → ((z0 ≤ 9999 → (∃ cc15 ss16 : Nat, (cc15 ≤ rc ∧ ss16 ≤ rs) ∧ (mS μ a0 = (1, 11) ∧ Cal K_SI_write (d - 1) cc15 ss16 [.ref a0, .int x2, .int x3, .int z0] μ (fun r μ18 => ∃ y20, r = some (.int y20) ∧ ((y20 < 0 → Q (some (.int 0)) μ18) ∧ (¬ y20 < 0 → Q (some (.int 1)) μ18)))))) ∧ (¬ z0 ≤ 9999 → (∃ cc21 ss22 : Nat, (cc21 ≤ rc ∧ ss22 ≤ rs) ∧ (mS μ a0 = (1, 11) ∧ Cal K_SI_write (d - 1) cc21 ss22 [.ref a0, .int x2, .int x3, .int 9999] μ (fun r μ24 => ∃ y26, r = some (.int y26) ∧ ((y26 < 0 → Q (some (.int 0)) μ24) ∧ (¬ y26 < 0 → Q (some (.int 1)) μ24)))))))) ∧ (¬ 0 ≤ z0 → (∃ cc27 ss28 : Nat, (cc27 ≤ rc ∧ ss28 ≤ rs) ∧ (mS μ a0 = (1, 11) ∧ Cal K_SI_write (d - 1) cc27 ss28 [.ref a0, .int x2, .int x3, .int 0] μ (fun r μ30 => ∃ y32, r = some (.int y32) ∧ ((y32 < 0 → Q (some (.int 0)) μ30) ∧ (¬ y32 < 0 → Q (some (.int 1)) μ30)))))))) ∧ (¬ (gI μ a1 (0 : Int32).toNatClampNeg) = 0 → ((z0 < 0 → Wx K_SI_does d rc rs Q 194 [] [] μ) ∧ (¬ z0 < 0 → ((16 ≤ z0 → Wx K_SI_does d rc rs Q 194 [] [] μ) ∧ (¬ 16 ≤ z0 → (∃ cc3 ss4 : Nat, (cc3 ≤ rc ∧ ss4 ≤ rs) ∧ (mS μ a0 = (1, 11) ∧ Cal K_SI_marks (d - 1) cc3 ss4 [.ref a0, .int x2, .int x3] μ (fun r μ6 => ∃ y8, r = some (.int y8) ∧ (((y8 &&& ((1 : Int32) <<< (z0 &&& 31))) = 0 → (∃ cc9 ss10 : Nat, (cc9 ≤ rc - cc3 ∧ ss10 ≤ rs - ss4) ∧ (mS μ6 a0 = (1, 11) ∧ Cal K_SI_note (d - 1) cc9 ss10 [.ref a0, .int x2, .int x3, .int z0] μ6 (fun r μ12 => ∃ y14, r = some (.int y14) ∧ ((y14 < 0 → Wx K_SI_does d (rc - cc3 - cc9) (rs - ss4 - ss10) Q 194 [] [] μ12) ∧ (¬ y14 < 0 → Q (some (.int 1)) μ12)))))) ∧ (¬ (y8 &&& ((1 : Int32) <<< (z0 &&& 31))) = 0 → Wx K_SI_does d (rc - cc3) (rs - ss4) Q 194 [] [] μ6))))))))))))) : Wx K_SI_does d rc rs Q 105 [(0, .ref a0), (1, .ref a1), (2, .int x2), (3, .int x3)] [.int z0] μ := by
  refine Wa.istore (i := 4) (L' := [(4, .int z0), (0, .ref a0), (1, .ref a1), (2, .int x2), (3, .int x3)]) d_SI_does_105 (by decide) rfl ?_
  refine Wa.aload_n (j := 2) d_SI_does_107 rfl ?_
  refine Wa.iconst (v := 0) d_SI_does_108 rfl ?_
  obtain ⟨n1, hc2, hF⟩ := hF
  refine Wa.iald d_SI_does_109 hc2.1 hc2.2 ?_
  refine Wa.if_ne 153 d_SI_does_110 (by decide) (fun hb => ?_) (fun hb => ?_)
  · have hF := hF.2 hb
    refine Wa.iload (j := 0) d_SI_does_153 rfl ?_
    refine Wa.if_lt 194 d_SI_does_155 (by decide) (fun hb => ?_) (fun hb => ?_)
    · have hF := hF.1 hb
      exact Wa.loc [] rfl hF
    · have hF := hF.2 hb
      refine Wa.iload (j := 0) d_SI_does_158 rfl ?_
      refine Wa.bipush (v := 16) d_SI_does_160 rfl ?_
      refine Wa.icmp_ge 194 d_SI_does_162 (by decide) (fun hb => ?_) (fun hb => ?_)
      · have hF := hF.1 hb
        exact Wa.loc [] rfl hF
      · have hF := hF.2 hb
        refine Wa.aload_n (j := 1) d_SI_does_165 rfl ?_
        refine Wa.iload_n (j := 3) d_SI_does_166 rfl ?_
        refine Wa.iload_n (j := 4) d_SI_does_167 rfl ?_
        obtain ⟨cc3, ss4, hc5, hF⟩ := hF
        have hc7 := hF.1
        have hF := hF.2
        refine Wx.cVi (q := E_SI) (As := [.int x2, .int x3]) 11 (d - 1) cc3 ss4 _ d_SI_does_168 mok_SI_marks vl_SI_89 rfl rfl rfl (Nat.le_of_ble_eq_true rfl) (by omega) hc5.1 hc5.2 hc7 hF (fun y8 μ6 hS hF => ?_)
        refine Wa.iconst (v := 1) d_SI_does_171 rfl ?_
        refine Wa.iload (j := 0) d_SI_does_172 rfl ?_
        refine Wa.ishl d_SI_does_174 ?_
        refine Wa.iand d_SI_does_175 ?_
        refine Wa.if_ne 194 d_SI_does_176 (by decide) (fun hb => ?_) (fun hb => ?_)
        · have hF := hF.2 hb
          exact Wa.loc [] rfl hF
        · have hF := hF.1 hb
          refine Wa.aload_n (j := 1) d_SI_does_179 rfl ?_
          refine Wa.iload_n (j := 3) d_SI_does_180 rfl ?_
          refine Wa.iload_n (j := 4) d_SI_does_181 rfl ?_
          refine Wa.iload (j := 0) d_SI_does_182 rfl ?_
          obtain ⟨cc9, ss10, hc11, hF⟩ := hF
          have hc13 := hF.1
          have hF := hF.2
          refine Wx.cVi (q := E_SI) (As := [.int x2, .int x3, .int z0]) 11 (d - 1) cc9 ss10 _ d_SI_does_184 mok_SI_note vl_SI_122 rfl rfl rfl (Nat.le_of_ble_eq_true rfl) (by omega) hc11.1 hc11.2 hc13 hF (fun y14 μ12 hS hF => ?_)
          refine Wa.if_lt 194 d_SI_does_187 (by decide) (fun hb => ?_) (fun hb => ?_)
          · have hF := hF.1 hb
            exact Wa.loc [] rfl hF
          · have hF := hF.2 hb
            refine Wa.iconst (v := 1) d_SI_does_190 rfl ?_
            refine Wa.goto 195 d_SI_does_191 (by decide) ?_
            exact Wx.retz d_SI_does_195 rfl (Or.inr rfl) hF
  · have hF := hF.1 hb
    refine Wa.aload_n (j := 1) d_SI_does_113 rfl ?_
    refine Wa.iload_n (j := 3) d_SI_does_114 rfl ?_
    refine Wa.iload_n (j := 4) d_SI_does_115 rfl ?_
    refine Wa.iload (j := 0) d_SI_does_116 rfl ?_
    refine Wa.if_ge 125 d_SI_does_118 (by decide) (fun hb => ?_) (fun hb => ?_)
    · have hF := hF.1 hb
      refine Wa.iload (j := 0) d_SI_does_125 rfl ?_
      refine Wa.sipush (v := 9999) d_SI_does_127 rfl ?_
      refine Wa.icmp_le 139 d_SI_does_130 (by decide) (fun hb => ?_) (fun hb => ?_)
      · have hF := hF.1 hb
        refine Wa.iload (j := 0) d_SI_does_139 rfl ?_
        obtain ⟨cc15, ss16, hc17, hF⟩ := hF
        have hc19 := hF.1
        have hF := hF.2
        refine Wx.cVi (q := E_SI) (As := [.int x2, .int x3, .int z0]) 11 (d - 1) cc15 ss16 _ d_SI_does_141 mok_SI_write vl_SI_119 rfl rfl rfl (Nat.le_of_ble_eq_true rfl) (by omega) hc17.1 hc17.2 hc19 hF (fun y20 μ18 hS hF => ?_)
        refine Wa.if_lt 151 d_SI_does_144 (by decide) (fun hb => ?_) (fun hb => ?_)
        · have hF := hF.1 hb
          refine Wa.iconst (v := 0) d_SI_does_151 rfl ?_
          exact Wx.retz d_SI_does_152 rfl (Or.inl rfl) hF
        · have hF := hF.2 hb
          refine Wa.iconst (v := 1) d_SI_does_147 rfl ?_
          refine Wa.goto 152 d_SI_does_148 (by decide) ?_
          exact Wx.retz d_SI_does_152 rfl (Or.inr rfl) hF
      · have hF := hF.2 hb
        refine Wa.sipush (v := 9999) d_SI_does_133 rfl ?_
        refine Wa.goto 141 d_SI_does_136 (by decide) ?_
        obtain ⟨cc21, ss22, hc23, hF⟩ := hF
        have hc25 := hF.1
        have hF := hF.2
        refine Wx.cVi (q := E_SI) (As := [.int x2, .int x3, .int 9999]) 11 (d - 1) cc21 ss22 _ d_SI_does_141 mok_SI_write vl_SI_119 rfl rfl rfl (Nat.le_of_ble_eq_true rfl) (by omega) hc23.1 hc23.2 hc25 hF (fun y26 μ24 hS hF => ?_)
        refine Wa.if_lt 151 d_SI_does_144 (by decide) (fun hb => ?_) (fun hb => ?_)
        · have hF := hF.1 hb
          refine Wa.iconst (v := 0) d_SI_does_151 rfl ?_
          exact Wx.retz d_SI_does_152 rfl (Or.inl rfl) hF
        · have hF := hF.2 hb
          refine Wa.iconst (v := 1) d_SI_does_147 rfl ?_
          refine Wa.goto 152 d_SI_does_148 (by decide) ?_
          exact Wx.retz d_SI_does_152 rfl (Or.inr rfl) hF
    · have hF := hF.2 hb
      refine Wa.iconst (v := 0) d_SI_does_121 rfl ?_
      refine Wa.goto 141 d_SI_does_122 (by decide) ?_
      obtain ⟨cc27, ss28, hc29, hF⟩ := hF
      have hc31 := hF.1
      have hF := hF.2
      refine Wx.cVi (q := E_SI) (As := [.int x2, .int x3, .int 0]) 11 (d - 1) cc27 ss28 _ d_SI_does_141 mok_SI_write vl_SI_119 rfl rfl rfl (Nat.le_of_ble_eq_true rfl) (by omega) hc29.1 hc29.2 hc31 hF (fun y32 μ30 hS hF => ?_)
      refine Wa.if_lt 151 d_SI_does_144 (by decide) (fun hb => ?_) (fun hb => ?_)
      · have hF := hF.1 hb
        refine Wa.iconst (v := 0) d_SI_does_151 rfl ?_
        exact Wx.retz d_SI_does_152 rfl (Or.inl rfl) hF
      · have hF := hF.2 hb
        refine Wa.iconst (v := 1) d_SI_does_147 rfl ?_
        refine Wa.goto 152 d_SI_does_148 (by decide) ?_
        exact Wx.retz d_SI_does_152 rfl (Or.inr rfl) hF
set_option maxHeartbeats 4000000 in
set_option maxRecDepth 20000 in
theorem r_SI_does_194 {d rc rs : Nat} {Q : Option Value → Mu → Prop} {μ : Mu}  (hD : 1 ≤ d)
    (hF : Q (some (.int 0)) μ) : Wx K_SI_does d rc rs Q 194 [] [] μ := by
  refine Wa.iconst (v := 0) d_SI_does_194 rfl ?_
  exact Wx.retz d_SI_does_195 rfl (Or.inl rfl) hF
set_option maxHeartbeats 4000000 in
set_option maxRecDepth 20000 in
theorem r_SI_pass_0 {d rc rs : Nat} {Q : Option Value → Mu → Prop} {μ : Mu} {a0 : Nat} (hD : 1 ≤ d)
    (hF : (mS μ a0 = (1, 11) ∧ (∃ b2, gR μ a0 14 = some b2 ∧ (∃ n4, mS μ b2 = (40, n4) ∧ Wx K_SI_pass d rc rs Q 10 [(0, .ref a0), (1, .ref b2), (2, .int (nI n4)), (3, .int 0)] [] μ)))) : Wx K_SI_pass d rc rs Q 0 [(0, .ref a0)] [] μ := by
  refine Wa.aload_n (j := 0) d_SI_pass_0 rfl ?_
  have hc1 := hF.1
  have hF := hF.2
  obtain ⟨b2, hc3, hF⟩ := hF
  refine Wr.getR 11 14 d_SI_pass_1 f_SI_14 rfl fl_SI_27 hc1 hc3 ?_
  refine Wa.astore_n (i := 1) (L' := [(1, .ref b2), (0, .ref a0)]) d_SI_pass_4 rfl (by decide) rfl ?_
  refine Wa.aload_n (j := 0) d_SI_pass_5 rfl ?_
  obtain ⟨n4, hc5, hF⟩ := hF
  refine Wa.alen d_SI_pass_6 hc5 (by decide) ?_
  refine Wa.istore_n (i := 2) (L' := [(2, .int (nI n4)), (1, .ref b2), (0, .ref a0)]) d_SI_pass_7 rfl (by decide) rfl ?_
  refine Wa.iconst (v := 0) d_SI_pass_8 rfl ?_
  refine Wa.istore_n (i := 3) (L' := [(3, .int 0), (2, .int (nI n4)), (1, .ref b2), (0, .ref a0)]) d_SI_pass_9 rfl (by decide) rfl ?_
  exact Wa.loc [3, 2, 1, 0] rfl hF
theorem e_SI_pass {d rc rs : Nat} {Q : Option Value → Mu → Prop} {μ : Mu} {a0 : Nat} (hk : Wx K_SI_pass d rc rs (fun r μ' => St μ' ∧ Q r μ') 0 [(0, .ref a0)] [] μ) : Cal K_SI_pass d rc rs [.ref a0] μ Q := Cal.of (by decide +kernel) rfl rfl (Nat.le_of_ble_eq_true rfl) rfl hk
set_option maxHeartbeats 4000000 in
set_option maxRecDepth 20000 in
theorem r_SI_pass_10 {d rc rs : Nat} {Q : Option Value → Mu → Prop} {μ : Mu} {a0 : Nat} {a1 : Nat} {x2 : Int32} {x3 : Int32} (hD : 1 ≤ d)
    (hF : ((x2 ≤ x3 → ((¬ (0 : Int32) < 0 ∧ 0 ≤ 1000000 ∧ 1 ≤ rc ∧ 0 ≤ rs) ∧ (∃ q2, FreN μ q2 ∧ (mS (mkA μ q2 (40, 0)) a0 = (1, 11) ∧ (∃ b5, gR (mkA μ q2 (40, 0)) a0 13 = some b5 ∧ (∃ n7, mS (mkA μ q2 (40, 0)) b5 = (40, n7) ∧ Wx K_SI_pass d (rc - 1) (rs - 0) Q 70 [(0, .ref a0), (1, .ref q2), (2, .ref b5), (3, .int (nI n7)), (4, .int 0)] [] (mkA μ q2 (40, 0)))))))) ∧ (¬ x2 ≤ x3 → (∃ n9, (mS μ a1 = (40, n9) ∧ vp_in x3 n9) ∧ (∃ b11, gR μ a1 x3.toNatClampNeg = some b11 ∧ (∃ cc13 ss14 : Nat, (cc13 ≤ rc ∧ ss14 ≤ rs) ∧ (mS μ a0 = (1, 11) ∧ Cal K_SI_holds (d - 1) cc13 ss14 [.ref a0, .ref b11] μ (fun r μ16 => ∃ y18, r = some (.int y18) ∧ ((y18 = 0 → Wx K_SI_pass d (rc - cc13) (rs - ss14) Q 10 [(0, .ref a0), (1, .ref a1), (2, .int x2), (3, .int (x3 + 1))] [] μ16) ∧ (¬ y18 = 0 → (∃ cc19 ss20 : Nat, (cc19 ≤ rc - cc13 ∧ ss20 ≤ rs - ss14) ∧ (mS μ16 a0 = (1, 11) ∧ Cal K_SI_does (d - 1) cc19 ss20 [.ref a0, .ref b11] μ16 (fun r μ22 => ∃ y24, r = some (.int y24) ∧ ((y24 = 0 → Wx K_SI_pass d (rc - cc13 - cc19) (rs - ss14 - ss20) Q 10 [(0, .ref a0), (1, .ref a1), (2, .int x2), (3, .int (x3 + 1))] [] μ22) ∧ (¬ y24 = 0 → (mS μ22 a0 = (1, 11) ∧ ((mS μ22 a0 = (1, 11) ∧ hiN a0) ∧ Wx K_SI_pass d (rc - cc13 - cc19) (rs - ss14 - ss20) Q 10 [(0, .ref a0), (1, .ref a1), (2, .int x2), (3, .int (x3 + 1))] [] (setI μ22 a0 3 ((gI μ22 a0 3) + (1 : Int32)))))))))))))))))))) : Wx K_SI_pass d rc rs Q 10 [(0, .ref a0), (1, .ref a1), (2, .int x2), (3, .int x3)] [] μ := by
  refine Wa.iload_n (j := 3) d_SI_pass_10 rfl ?_
  refine Wa.iload_n (j := 2) d_SI_pass_11 rfl ?_
  refine Wa.icmp_ge 54 d_SI_pass_12 (by decide) (fun hb => ?_) (fun hb => ?_)
  · have hF := hF.1 hb
    refine Wa.iconst (v := 0) d_SI_pass_54 rfl ?_
    have hc1 := hF.1
    have hF := hF.2
    obtain ⟨q2, hc3, hF⟩ := hF
    refine Wr.anewA 40 0 q2 d_SI_pass_55 (Or.inl rfl) cl_SI_7 aa_int hc1.1 rfl hc1.2.1 hc1.2.2.1 hc1.2.2.2 hc3 ?_
    refine Wa.astore_n (i := 1) (L' := [(1, .ref q2), (0, .ref a0), (2, .int x2), (3, .int x3)]) d_SI_pass_58 rfl (by decide) rfl ?_
    refine Wa.aload_n (j := 1) d_SI_pass_59 rfl ?_
    have hc4 := hF.1
    have hF := hF.2
    obtain ⟨b5, hc6, hF⟩ := hF
    refine Wr.getR 11 13 d_SI_pass_60 f_SI_13 rfl fl_SI_24 hc4 hc6 ?_
    refine Wa.astore_n (i := 2) (L' := [(2, .ref b5), (1, .ref q2), (0, .ref a0), (3, .int x3)]) d_SI_pass_63 rfl (by decide) rfl ?_
    refine Wa.aload_n (j := 0) d_SI_pass_64 rfl ?_
    obtain ⟨n7, hc8, hF⟩ := hF
    refine Wa.alen d_SI_pass_65 hc8 (by decide) ?_
    refine Wa.istore_n (i := 3) (L' := [(3, .int (nI n7)), (2, .ref b5), (1, .ref q2), (0, .ref a0)]) d_SI_pass_66 rfl (by decide) rfl ?_
    refine Wa.iconst (v := 0) d_SI_pass_67 rfl ?_
    refine Wa.istore (i := 4) (L' := [(4, .int 0), (3, .int (nI n7)), (2, .ref b5), (1, .ref q2), (0, .ref a0)]) d_SI_pass_68 (by decide) rfl ?_
    exact Wa.loc [4, 3, 2, 1, 0] rfl hF
  · have hF := hF.2 hb
    refine Wa.aload_n (j := 1) d_SI_pass_15 rfl ?_
    refine Wa.iload_n (j := 3) d_SI_pass_16 rfl ?_
    obtain ⟨n9, hc10, hF⟩ := hF
    obtain ⟨b11, hc12, hF⟩ := hF
    refine Wa.aaldA ct_le d_SI_pass_17 (Or.inl rfl) hc10.1 hc10.2 hc12 ?_
    refine Wa.astore (i := 4) (L' := [(4, .ref b11), (0, .ref a0), (1, .ref a1), (2, .int x2), (3, .int x3)]) d_SI_pass_18 (by decide) rfl ?_
    refine Wa.aload_n (j := 1) d_SI_pass_20 rfl ?_
    refine Wa.aload (j := 0) d_SI_pass_21 rfl ?_
    obtain ⟨cc13, ss14, hc15, hF⟩ := hF
    have hc17 := hF.1
    have hF := hF.2
    refine Wx.cVi (q := E_SI) (As := [.ref b11]) 11 (d - 1) cc13 ss14 _ d_SI_pass_23 mok_SI_holds vl_SI_125 rfl rfl rfl (Nat.le_of_ble_eq_true rfl) (by omega) hc15.1 hc15.2 hc17 hF (fun y18 μ16 hS hF => ?_)
    refine Wa.if_eq 48 d_SI_pass_26 (by decide) (fun hb => ?_) (fun hb => ?_)
    · have hF := hF.1 hb
      refine Wa.iinc (i := 3) (j := 4) (v := (x3 + 1)) (L' := [(3, .int (x3 + 1)), (4, .ref b11), (0, .ref a0), (1, .ref a1), (2, .int x2)]) d_SI_pass_48 rfl rfl (by decide) rfl ?_
      refine Wa.goto 10 d_SI_pass_51 (by decide) ?_
      exact Wa.loc [2, 3, 4, 0] rfl hF
    · have hF := hF.2 hb
      refine Wa.aload_n (j := 1) d_SI_pass_29 rfl ?_
      refine Wa.aload (j := 0) d_SI_pass_30 rfl ?_
      obtain ⟨cc19, ss20, hc21, hF⟩ := hF
      have hc23 := hF.1
      have hF := hF.2
      refine Wx.cVi (q := E_SI) (As := [.ref b11]) 11 (d - 1) cc19 ss20 _ d_SI_pass_32 mok_SI_does vl_SI_129 rfl rfl rfl (Nat.le_of_ble_eq_true rfl) (by omega) hc21.1 hc21.2 hc23 hF (fun y24 μ22 hS hF => ?_)
      refine Wa.if_eq 48 d_SI_pass_35 (by decide) (fun hb => ?_) (fun hb => ?_)
      · have hF := hF.1 hb
        refine Wa.iinc (i := 3) (j := 4) (v := (x3 + 1)) (L' := [(3, .int (x3 + 1)), (4, .ref b11), (0, .ref a0), (1, .ref a1), (2, .int x2)]) d_SI_pass_48 rfl rfl (by decide) rfl ?_
        refine Wa.goto 10 d_SI_pass_51 (by decide) ?_
        exact Wa.loc [2, 3, 4, 0] rfl hF
      · have hF := hF.2 hb
        refine Wa.aload_n (j := 1) d_SI_pass_38 rfl ?_
        refine Wa.dup d_SI_pass_39 rfl ?_
        have hc25 := hF.1
        have hF := hF.2
        refine Wr.getI 11 3 d_SI_pass_40 f_SI_3 fl_SI_61 hc25 ?_
        refine Wa.iconst (v := 1) d_SI_pass_43 rfl ?_
        refine Wa.iadd d_SI_pass_44 ?_
        have hc26 := hF.1
        have hF := hF.2
        refine Wr.putI 11 3 d_SI_pass_45 f_SI_3 ok_SI fl_SI_61 (Or.inl rfl) hc26.1 hc26.2 ?_
        refine Wa.iinc (i := 3) (j := 4) (v := (x3 + 1)) (L' := [(3, .int (x3 + 1)), (4, .ref b11), (0, .ref a0), (1, .ref a1), (2, .int x2)]) d_SI_pass_48 rfl rfl (by decide) rfl ?_
        refine Wa.goto 10 d_SI_pass_51 (by decide) ?_
        exact Wa.loc [2, 3, 4, 0] rfl hF
set_option maxHeartbeats 4000000 in
set_option maxRecDepth 20000 in
theorem r_SI_pass_70 {d rc rs : Nat} {Q : Option Value → Mu → Prop} {μ : Mu} {a0 : Nat} {a1 : Nat} {a2 : Nat} {x3 : Int32} {x4 : Int32} (hD : 1 ≤ d)
    (hF : ((x3 ≤ x4 → ((mS μ a0 = (1, 11) ∧ hiN a0) ∧ Wx K_SI_pass d rc rs Q 183 [(0, .ref a0), (2, .int 0)] [] (setR μ a0 13 a1))) ∧ (¬ x3 ≤ x4 → (∃ n2, (mS μ a2 = (40, n2) ∧ vp_in x4 n2) ∧ (∃ b4, gR μ a2 x4.toNatClampNeg = some b4 ∧ (∃ n6, (mS μ b4 = (2, n6) ∧ vp_in (1 : Int32) n6) ∧ (mS μ a0 = (1, 11) ∧ (((gI μ b4 (1 : Int32).toNatClampNeg) = (gI μ a0 0) → (mS μ a0 = (1, 11) ∧ (∃ b10, gR μ a0 11 = some b10 ∧ (∃ n12, (mS μ b4 = (2, n12) ∧ vp_in (0 : Int32) n12) ∧ (∃ n14, (mS μ b10 = (40, n14) ∧ vp_in (gI μ b4 (0 : Int32).toNatClampNeg) n14) ∧ (∃ b16, gR μ b10 (gI μ b4 (0 : Int32).toNatClampNeg).toNatClampNeg = some b16 ∧ (∃ n18, (mS μ b16 = (2, n18) ∧ vp_in (1 : Int32) n18) ∧ Wx K_SI_pass d rc rs Q 119 [(0, .ref a0), (1, .ref a1), (2, .ref a2), (3, .int x3), (4, .int x4), (5, .ref b4), (6, .int (gI μ b16 (1 : Int32).toNatClampNeg)), (7, .int 2)] [] μ))))))) ∧ (¬ (gI μ b4 (1 : Int32).toNatClampNeg) = (gI μ a0 0) → (∃ cc20 ss21 : Nat, (cc20 ≤ rc ∧ ss21 ≤ rs) ∧ Cal K_SI_with (d - 1) cc20 ss21 [.ref a1, .ref b4] μ (fun r μ23 => ∃ b24, r = some (.ref b24) ∧ Wx K_SI_pass d (rc - cc20) (rs - ss21) Q 70 [(0, .ref a0), (1, .ref b24), (2, .ref a2), (3, .int x3), (4, .int (x4 + 1))] [] μ23))))))))))) : Wx K_SI_pass d rc rs Q 70 [(0, .ref a0), (1, .ref a1), (2, .ref a2), (3, .int x3), (4, .int x4)] [] μ := by
  refine Wa.iload (j := 4) d_SI_pass_70 rfl ?_
  refine Wa.iload_n (j := 3) d_SI_pass_72 rfl ?_
  refine Wa.icmp_ge 176 d_SI_pass_73 (by decide) (fun hb => ?_) (fun hb => ?_)
  · have hF := hF.1 hb
    refine Wa.aload_n (j := 0) d_SI_pass_176 rfl ?_
    refine Wa.aload_n (j := 1) d_SI_pass_177 rfl ?_
    have hc1 := hF.1
    have hF := hF.2
    refine Wr.putR 11 13 d_SI_pass_178 f_SI_13 rfl ok_SI fl_SI_24 (Or.inl rfl) hc1.1 hc1.2 ?_
    refine Wa.iconst (v := 0) d_SI_pass_181 rfl ?_
    refine Wa.istore_n (i := 2) (L' := [(2, .int 0), (0, .ref a0), (1, .ref a1), (3, .int x3), (4, .int x4)]) d_SI_pass_182 rfl (by decide) rfl ?_
    exact Wa.loc [1, 0] rfl hF
  · have hF := hF.2 hb
    refine Wa.aload_n (j := 2) d_SI_pass_76 rfl ?_
    refine Wa.iload (j := 4) d_SI_pass_77 rfl ?_
    obtain ⟨n2, hc3, hF⟩ := hF
    obtain ⟨b4, hc5, hF⟩ := hF
    refine Wa.aaldA ct_le d_SI_pass_79 (Or.inl rfl) hc3.1 hc3.2 hc5 ?_
    refine Wa.astore (i := 5) (L' := [(5, .ref b4), (0, .ref a0), (1, .ref a1), (2, .ref a2), (3, .int x3), (4, .int x4)]) d_SI_pass_80 (by decide) rfl ?_
    refine Wa.aload (j := 0) d_SI_pass_82 rfl ?_
    refine Wa.iconst (v := 1) d_SI_pass_84 rfl ?_
    obtain ⟨n6, hc7, hF⟩ := hF
    refine Wa.iald d_SI_pass_85 hc7.1 hc7.2 ?_
    refine Wa.aload_n (j := 1) d_SI_pass_86 rfl ?_
    have hc8 := hF.1
    have hF := hF.2
    refine Wr.getI 11 0 d_SI_pass_87 f_SI_0 fl_SI_52 hc8 ?_
    refine Wa.icmp_eq 103 d_SI_pass_90 (by decide) (fun hb => ?_) (fun hb => ?_)
    · have hF := hF.1 hb
      refine Wa.aload_n (j := 1) d_SI_pass_103 rfl ?_
      have hc9 := hF.1
      have hF := hF.2
      obtain ⟨b10, hc11, hF⟩ := hF
      refine Wr.getR 11 11 d_SI_pass_104 f_SI_11 rfl fl_SI_21 hc9 hc11 ?_
      refine Wa.aload (j := 0) d_SI_pass_107 rfl ?_
      refine Wa.iconst (v := 0) d_SI_pass_109 rfl ?_
      obtain ⟨n12, hc13, hF⟩ := hF
      refine Wa.iald d_SI_pass_110 hc13.1 hc13.2 ?_
      obtain ⟨n14, hc15, hF⟩ := hF
      obtain ⟨b16, hc17, hF⟩ := hF
      refine Wa.aaldA ct_le d_SI_pass_111 (Or.inl rfl) hc15.1 hc15.2 hc17 ?_
      refine Wa.iconst (v := 1) d_SI_pass_112 rfl ?_
      obtain ⟨n18, hc19, hF⟩ := hF
      refine Wa.iald d_SI_pass_113 hc19.1 hc19.2 ?_
      refine Wa.istore (i := 6) (L' := [(6, .int (gI μ b16 (1 : Int32).toNatClampNeg)), (5, .ref b4), (0, .ref a0), (1, .ref a1), (2, .ref a2), (3, .int x3), (4, .int x4)]) d_SI_pass_114 (by decide) rfl ?_
      refine Wa.iconst (v := 2) d_SI_pass_116 rfl ?_
      refine Wa.istore (i := 7) (L' := [(7, .int 2), (6, .int (gI μ b16 (1 : Int32).toNatClampNeg)), (5, .ref b4), (0, .ref a0), (1, .ref a1), (2, .ref a2), (3, .int x3), (4, .int x4)]) d_SI_pass_117 (by decide) rfl ?_
      exact Wa.loc [3, 4, 5, 6, 7, 2, 1, 0] rfl hF
    · have hF := hF.2 hb
      refine Wa.aload_n (j := 2) d_SI_pass_93 rfl ?_
      refine Wa.aload (j := 0) d_SI_pass_94 rfl ?_
      obtain ⟨cc20, ss21, hc22, hF⟩ := hF
      refine Wr.cSr (As := [.ref a1, .ref b4]) (d - 1) cc20 ss21 _ d_SI_pass_96 mok_SI_with sl_SI_76 rfl rfl (Nat.le_of_ble_eq_true rfl) (by omega) hc22.1 hc22.2 hF (fun b24 μ23 hS hF => ?_)
      refine Wa.astore_n (i := 1) (L' := [(1, .ref b24), (5, .ref b4), (0, .ref a0), (2, .ref a2), (3, .int x3), (4, .int x4)]) d_SI_pass_99 rfl (by decide) rfl ?_
      refine Wa.goto 170 d_SI_pass_100 (by decide) ?_
      refine Wa.iinc (i := 4) (j := 5) (v := (x4 + 1)) (L' := [(4, .int (x4 + 1)), (1, .ref b24), (5, .ref b4), (0, .ref a0), (2, .ref a2), (3, .int x3)]) d_SI_pass_170 rfl rfl (by decide) rfl ?_
      refine Wa.goto 70 d_SI_pass_173 (by decide) ?_
      exact Wa.loc [3, 1, 4, 5, 0] rfl hF
set_option maxHeartbeats 4000000 in
set_option maxRecDepth 20000 in
theorem r_SI_pass_119 {d rc rs : Nat} {Q : Option Value → Mu → Prop} {μ : Mu} {a0 : Nat} {a1 : Nat} {a2 : Nat} {x3 : Int32} {x4 : Int32} {a5 : Nat} {x6 : Int32} {x7 : Int32} (hD : 1 ≤ d)
    (hF : (∃ n1, mS μ a5 = (2, n1) ∧ (((nI n1) ≤ x7 → Wx K_SI_pass d rc rs Q 70 [(0, .ref a0), (1, .ref a1), (2, .ref a2), (3, .int x3), (4, .int (x4 + 1))] [] μ) ∧ (¬ (nI n1) ≤ x7 → (mS μ a0 = (1, 11) ∧ (∃ b4, gR μ a0 10 = some b4 ∧ (∃ n6, (mS μ b4 = (41, n6) ∧ vp_in x6 n6) ∧ (∃ b8, gR μ b4 x6.toNatClampNeg = some b8 ∧ (∃ n10, (mS μ a5 = (2, n10) ∧ vp_in x7 n10) ∧ (∃ n12, (mS μ b8 = (5, n12) ∧ vp_in (gI μ a5 x7.toNatClampNeg) n12) ∧ (mS μ a0 = (1, 11) ∧ (∃ b15, gR μ a0 8 = some b15 ∧ (∃ n17, (mS μ b15 = (41, n17) ∧ vp_in x6 n17) ∧ (∃ b19, gR μ b15 x6.toNatClampNeg = some b19 ∧ (∃ n21, (mS μ a5 = (2, n21) ∧ vp_in x7 n21) ∧ (∃ n23, (mS μ b19 = (5, n23) ∧ vp_in (gI μ a5 x7.toNatClampNeg) n23) ∧ (((gI μ b19 (gI μ a5 x7.toNatClampNeg).toNatClampNeg) = 0 → (∃ n27, (mS μ b8 = (5, n27) ∧ vp_in (gI μ a5 x7.toNatClampNeg) n27 ∧ hiN b8) ∧ Wx K_SI_pass d rc rs Q 119 [(0, .ref a0), (1, .ref a1), (2, .ref a2), (3, .int x3), (4, .int x4), (5, .ref a5), (6, .int x6), (7, .int (x7 + 1))] [] (setI μ b8 (gI μ a5 x7.toNatClampNeg).toNatClampNeg (vp_nar .boolean ((gI μ b8 (gI μ a5 x7.toNatClampNeg).toNatClampNeg) ||| (1 : Int32)))))) ∧ (¬ (gI μ b19 (gI μ a5 x7.toNatClampNeg).toNatClampNeg) = 0 → (∃ n25, (mS μ b8 = (5, n25) ∧ vp_in (gI μ a5 x7.toNatClampNeg) n25 ∧ hiN b8) ∧ Wx K_SI_pass d rc rs Q 119 [(0, .ref a0), (1, .ref a1), (2, .ref a2), (3, .int x3), (4, .int x4), (5, .ref a5), (6, .int x6), (7, .int (x7 + 1))] [] (setI μ b8 (gI μ a5 x7.toNatClampNeg).toNatClampNeg (vp_nar .boolean ((gI μ b8 (gI μ a5 x7.toNatClampNeg).toNatClampNeg) ||| (0 : Int32))))))))))))))))))))))) : Wx K_SI_pass d rc rs Q 119 [(0, .ref a0), (1, .ref a1), (2, .ref a2), (3, .int x3), (4, .int x4), (5, .ref a5), (6, .int x6), (7, .int x7)] [] μ := by
  refine Wa.iload (j := 7) d_SI_pass_119 rfl ?_
  refine Wa.aload (j := 5) d_SI_pass_121 rfl ?_
  obtain ⟨n1, hc2, hF⟩ := hF
  refine Wa.alen d_SI_pass_123 hc2 (by decide) ?_
  refine Wa.icmp_ge 170 d_SI_pass_124 (by decide) (fun hb => ?_) (fun hb => ?_)
  · have hF := hF.1 hb
    refine Wa.iinc (i := 4) (j := 4) (v := (x4 + 1)) (L' := [(4, .int (x4 + 1)), (0, .ref a0), (1, .ref a1), (2, .ref a2), (3, .int x3), (5, .ref a5), (6, .int x6), (7, .int x7)]) d_SI_pass_170 rfl rfl (by decide) rfl ?_
    refine Wa.goto 70 d_SI_pass_173 (by decide) ?_
    exact Wa.loc [1, 2, 3, 4, 0] rfl hF
  · have hF := hF.2 hb
    refine Wa.aload_n (j := 0) d_SI_pass_127 rfl ?_
    have hc3 := hF.1
    have hF := hF.2
    obtain ⟨b4, hc5, hF⟩ := hF
    refine Wr.getR 11 10 d_SI_pass_128 f_SI_10 rfl fl_SI_44 hc3 hc5 ?_
    refine Wa.iload (j := 6) d_SI_pass_131 rfl ?_
    obtain ⟨n6, hc7, hF⟩ := hF
    obtain ⟨b8, hc9, hF⟩ := hF
    refine Wa.aaldA ct_le d_SI_pass_133 (Or.inr rfl) hc7.1 hc7.2 hc9 ?_
    refine Wa.aload (j := 5) d_SI_pass_134 rfl ?_
    refine Wa.iload (j := 7) d_SI_pass_136 rfl ?_
    obtain ⟨n10, hc11, hF⟩ := hF
    refine Wa.iald d_SI_pass_138 hc11.1 hc11.2 ?_
    refine Wa.dup2 d_SI_pass_139 rfl rfl ?_
    obtain ⟨n12, hc13, hF⟩ := hF
    refine Wa.zald d_SI_pass_140 hc13.1 hc13.2 ?_
    refine Wa.aload_n (j := 0) d_SI_pass_141 rfl ?_
    have hc14 := hF.1
    have hF := hF.2
    obtain ⟨b15, hc16, hF⟩ := hF
    refine Wr.getR 11 8 d_SI_pass_142 f_SI_8 rfl fl_SI_38 hc14 hc16 ?_
    refine Wa.iload (j := 6) d_SI_pass_145 rfl ?_
    obtain ⟨n17, hc18, hF⟩ := hF
    obtain ⟨b19, hc20, hF⟩ := hF
    refine Wa.aaldA ct_le d_SI_pass_147 (Or.inr rfl) hc18.1 hc18.2 hc20 ?_
    refine Wa.aload (j := 5) d_SI_pass_148 rfl ?_
    refine Wa.iload (j := 7) d_SI_pass_150 rfl ?_
    obtain ⟨n21, hc22, hF⟩ := hF
    refine Wa.iald d_SI_pass_152 hc22.1 hc22.2 ?_
    obtain ⟨n23, hc24, hF⟩ := hF
    refine Wa.zald d_SI_pass_153 hc24.1 hc24.2 ?_
    refine Wa.if_ne 161 d_SI_pass_154 (by decide) (fun hb => ?_) (fun hb => ?_)
    · have hF := hF.2 hb
      refine Wa.iconst (v := 0) d_SI_pass_161 rfl ?_
      refine Wa.ior d_SI_pass_162 ?_
      obtain ⟨n25, hc26, hF⟩ := hF
      refine Wr.zast d_SI_pass_163 hc26.1 hc26.2.1 hc26.2.2 ?_
      refine Wa.iinc (i := 7) (j := 7) (v := (x7 + 1)) (L' := [(7, .int (x7 + 1)), (0, .ref a0), (1, .ref a1), (2, .ref a2), (3, .int x3), (4, .int x4), (5, .ref a5), (6, .int x6)]) d_SI_pass_164 rfl rfl (by decide) rfl ?_
      refine Wa.goto 119 d_SI_pass_167 (by decide) ?_
      exact Wa.loc [1, 2, 3, 4, 5, 6, 7, 0] rfl hF
    · have hF := hF.1 hb
      refine Wa.iconst (v := 1) d_SI_pass_157 rfl ?_
      refine Wa.goto 162 d_SI_pass_158 (by decide) ?_
      refine Wa.ior d_SI_pass_162 ?_
      obtain ⟨n27, hc28, hF⟩ := hF
      refine Wr.zast d_SI_pass_163 hc28.1 hc28.2.1 hc28.2.2 ?_
      refine Wa.iinc (i := 7) (j := 7) (v := (x7 + 1)) (L' := [(7, .int (x7 + 1)), (0, .ref a0), (1, .ref a1), (2, .ref a2), (3, .int x3), (4, .int x4), (5, .ref a5), (6, .int x6)]) d_SI_pass_164 rfl rfl (by decide) rfl ?_
      refine Wa.goto 119 d_SI_pass_167 (by decide) ?_
      exact Wa.loc [1, 2, 3, 4, 5, 6, 7, 0] rfl hF
set_option maxHeartbeats 4000000 in
set_option maxRecDepth 20000 in
theorem r_SI_pass_183 {d rc rs : Nat} {Q : Option Value → Mu → Prop} {μ : Mu} {a0 : Nat} {x2 : Int32} (hD : 1 ≤ d)
    (hF : (mS μ a0 = (1, 11) ∧ (((gI μ a0 4) ≤ x2 → (mS μ a0 = (1, 11) ∧ ((mS μ a0 = (1, 11) ∧ hiN a0) ∧ Q none (setI μ a0 0 ((gI μ a0 0) + (1 : Int32)))))) ∧ (¬ (gI μ a0 4) ≤ x2 → Wx K_SI_pass d rc rs Q 193 [(0, .ref a0), (2, .int x2), (3, .int 1)] [] μ)))) : Wx K_SI_pass d rc rs Q 183 [(0, .ref a0), (2, .int x2)] [] μ := by
  refine Wa.iload_n (j := 1) d_SI_pass_183 rfl ?_
  refine Wa.aload_n (j := 0) d_SI_pass_184 rfl ?_
  have hc1 := hF.1
  have hF := hF.2
  refine Wr.getI 11 4 d_SI_pass_185 f_SI_4 fl_SI_30 hc1 ?_
  refine Wa.icmp_ge 250 d_SI_pass_188 (by decide) (fun hb => ?_) (fun hb => ?_)
  · have hF := hF.1 hb
    refine Wa.aload_n (j := 0) d_SI_pass_250 rfl ?_
    refine Wa.dup d_SI_pass_251 rfl ?_
    have hc2 := hF.1
    have hF := hF.2
    refine Wr.getI 11 0 d_SI_pass_252 f_SI_0 fl_SI_52 hc2 ?_
    refine Wa.iconst (v := 1) d_SI_pass_255 rfl ?_
    refine Wa.iadd d_SI_pass_256 ?_
    have hc3 := hF.1
    have hF := hF.2
    refine Wr.putI 11 0 d_SI_pass_257 f_SI_0 ok_SI fl_SI_52 (Or.inl rfl) hc3.1 hc3.2 ?_
    exact Wx.retv d_SI_pass_260 rfl hF
  · have hF := hF.2 hb
    refine Wa.iconst (v := 1) d_SI_pass_191 rfl ?_
    refine Wa.istore_n (i := 3) (L' := [(3, .int 1), (0, .ref a0), (2, .int x2)]) d_SI_pass_192 rfl (by decide) rfl ?_
    exact Wa.loc [1, 2, 0] rfl hF
set_option maxHeartbeats 4000000 in
set_option maxRecDepth 20000 in
theorem r_SI_pass_193 {d rc rs : Nat} {Q : Option Value → Mu → Prop} {μ : Mu} {a0 : Nat} {x2 : Int32} {x3 : Int32} (hD : 1 ≤ d)
    (hF : ((x3 = 0 → Wx K_SI_pass d rc rs Q 183 [(0, .ref a0), (2, .int (x2 + 1))] [] μ) ∧ (¬ x3 = 0 → Wx K_SI_pass d rc rs Q 202 [(0, .ref a0), (2, .int x2), (3, .int 0), (4, .int 0)] [] μ))) : Wx K_SI_pass d rc rs Q 193 [(0, .ref a0), (2, .int x2), (3, .int x3)] [] μ := by
  refine Wa.iload_n (j := 2) d_SI_pass_193 rfl ?_
  refine Wa.if_eq 244 d_SI_pass_194 (by decide) (fun hb => ?_) (fun hb => ?_)
  · have hF := hF.1 hb
    refine Wa.iinc (i := 2) (j := 1) (v := (x2 + 1)) (L' := [(2, .int (x2 + 1)), (0, .ref a0), (3, .int x3)]) d_SI_pass_244 rfl rfl (by decide) rfl ?_
    refine Wa.goto 183 d_SI_pass_247 (by decide) ?_
    exact Wa.loc [1, 0] rfl hF
  · have hF := hF.2 hb
    refine Wa.iconst (v := 0) d_SI_pass_197 rfl ?_
    refine Wa.istore_n (i := 3) (L' := [(3, .int 0), (0, .ref a0), (2, .int x2)]) d_SI_pass_198 rfl (by decide) rfl ?_
    refine Wa.iconst (v := 0) d_SI_pass_199 rfl ?_
    refine Wa.istore (i := 4) (L' := [(4, .int 0), (3, .int 0), (0, .ref a0), (2, .int x2)]) d_SI_pass_200 (by decide) rfl ?_
    exact Wa.loc [2, 3, 1, 0] rfl hF
set_option maxHeartbeats 4000000 in
set_option maxRecDepth 20000 in
theorem r_SI_pass_202 {d rc rs : Nat} {Q : Option Value → Mu → Prop} {μ : Mu} {a0 : Nat} {x2 : Int32} {x3 : Int32} {x4 : Int32} (hD : 1 ≤ d)
    (hF : (mS μ a0 = (1, 11) ∧ (∃ b2, gR μ a0 6 = some b2 ∧ (∃ n4, mS μ b2 = (40, n4) ∧ (((nI n4) ≤ x4 → Wx K_SI_pass d rc rs Q 193 [(0, .ref a0), (2, .int x2), (3, .int x3)] [] μ) ∧ (¬ (nI n4) ≤ x4 → ((x3 = 0 → (mS μ a0 = (1, 11) ∧ Cal K_SI_canHang (d - 1) 0 0 [.ref a0, .int x2, .int x4] μ (fun r μ6 => ∃ y8, r = some (.int y8) ∧ ((y8 = 0 → Wx K_SI_pass d (rc - 0) (rs - 0) Q 202 [(0, .ref a0), (2, .int x2), (3, .int y8), (4, .int (x4 + 1))] [] μ6) ∧ (¬ y8 = 0 → (∃ cc9 ss10 : Nat, (cc9 ≤ rc - 0 ∧ ss10 ≤ rs - 0) ∧ (mS μ6 a0 = (1, 11) ∧ Cal K_SI_hang (d - 1) cc9 ss10 [.ref a0, .int x2, .int x4] μ6 (fun r μ12 => r = none ∧ Wx K_SI_pass d (rc - 0 - cc9) (rs - 0 - ss10) Q 202 [(0, .ref a0), (2, .int x2), (3, .int y8), (4, .int (x4 + 1))] [] μ12)))))))) ∧ (¬ x3 = 0 → Wx K_SI_pass d rc rs Q 193 [(0, .ref a0), (2, .int x2), (3, .int x3)] [] μ)))))))) : Wx K_SI_pass d rc rs Q 202 [(0, .ref a0), (2, .int x2), (3, .int x3), (4, .int x4)] [] μ := by
  refine Wa.iload (j := 3) d_SI_pass_202 rfl ?_
  refine Wa.aload_n (j := 0) d_SI_pass_204 rfl ?_
  have hc1 := hF.1
  have hF := hF.2
  obtain ⟨b2, hc3, hF⟩ := hF
  refine Wr.getR 11 6 d_SI_pass_205 f_SI_6 rfl fl_SI_9 hc1 hc3 ?_
  obtain ⟨n4, hc5, hF⟩ := hF
  refine Wa.alen d_SI_pass_208 hc5 (by decide) ?_
  refine Wa.icmp_ge 241 d_SI_pass_209 (by decide) (fun hb => ?_) (fun hb => ?_)
  · have hF := hF.1 hb
    refine Wa.goto 193 d_SI_pass_241 (by decide) ?_
    exact Wa.loc [0, 1, 2] rfl hF
  · have hF := hF.2 hb
    refine Wa.iload_n (j := 2) d_SI_pass_212 rfl ?_
    refine Wa.if_ne 241 d_SI_pass_213 (by decide) (fun hb => ?_) (fun hb => ?_)
    · have hF := hF.2 hb
      refine Wa.goto 193 d_SI_pass_241 (by decide) ?_
      exact Wa.loc [0, 1, 2] rfl hF
    · have hF := hF.1 hb
      refine Wa.aload_n (j := 0) d_SI_pass_216 rfl ?_
      refine Wa.iload_n (j := 1) d_SI_pass_217 rfl ?_
      refine Wa.iload (j := 3) d_SI_pass_218 rfl ?_
      have hc7 := hF.1
      have hF := hF.2
      refine Wx.cVi (q := E_SI) (As := [.int x2, .int x4]) 11 (d - 1) 0 0 _ d_SI_pass_220 mok_SI_canHang vl_SI_132 rfl rfl rfl (Nat.le_of_ble_eq_true rfl) (by omega) (Nat.zero_le _) (Nat.zero_le _) hc7 hF (fun y8 μ6 hS hF => ?_)
      refine Wa.istore_n (i := 3) (L' := [(3, .int y8), (0, .ref a0), (2, .int x2), (4, .int x4)]) d_SI_pass_223 rfl (by decide) rfl ?_
      refine Wa.iload_n (j := 0) d_SI_pass_224 rfl ?_
      refine Wa.if_eq 235 d_SI_pass_225 (by decide) (fun hb => ?_) (fun hb => ?_)
      · have hF := hF.1 hb
        refine Wa.iinc (i := 4) (j := 3) (v := (x4 + 1)) (L' := [(4, .int (x4 + 1)), (3, .int y8), (0, .ref a0), (2, .int x2)]) d_SI_pass_235 rfl rfl (by decide) rfl ?_
        refine Wa.goto 202 d_SI_pass_238 (by decide) ?_
        exact Wa.loc [2, 3, 1, 0] rfl hF
      · have hF := hF.2 hb
        refine Wa.aload_n (j := 1) d_SI_pass_228 rfl ?_
        refine Wa.iload_n (j := 2) d_SI_pass_229 rfl ?_
        refine Wa.iload (j := 3) d_SI_pass_230 rfl ?_
        obtain ⟨cc9, ss10, hc11, hF⟩ := hF
        have hc13 := hF.1
        have hF := hF.2
        refine Wx.cVv (q := E_SI) (As := [.int x2, .int x4]) 11 (d - 1) cc9 ss10 _ d_SI_pass_232 mok_SI_hang vl_SI_136 rfl rfl rfl (Nat.le_of_ble_eq_true rfl) (by omega) hc11.1 hc11.2 hc13 hF (fun μ12 hS hF => ?_)
        refine Wa.iinc (i := 4) (j := 3) (v := (x4 + 1)) (L' := [(4, .int (x4 + 1)), (3, .int y8), (0, .ref a0), (2, .int x2)]) d_SI_pass_235 rfl rfl (by decide) rfl ?_
        refine Wa.goto 202 d_SI_pass_238 (by decide) ?_
        exact Wa.loc [2, 3, 1, 0] rfl hF
set_option maxHeartbeats 4000000 in
set_option maxRecDepth 20000 in
theorem r_SI_pass__0 {d rc rs : Nat} {Q : Option Value → Mu → Prop} {μ : Mu} {a0 : Nat} {x1 : Int32} (hD : 1 ≤ d)
    (hF : Wx K_SI_pass_ d rc rs Q 2 [(0, .ref a0), (1, .int x1), (2, .int 0)] [] μ) : Wx K_SI_pass_ d rc rs Q 0 [(0, .ref a0), (1, .int x1)] [] μ := by
  refine Wa.iconst (v := 0) d_SI_pass__0 rfl ?_
  refine Wa.istore_n (i := 2) (L' := [(2, .int 0), (0, .ref a0), (1, .int x1)]) d_SI_pass__1 rfl (by decide) rfl ?_
  exact Wa.loc [1, 2, 0] rfl hF
theorem e_SI_pass_ {d rc rs : Nat} {Q : Option Value → Mu → Prop} {μ : Mu} {a0 : Nat} {x1 : Int32} (hk : Wx K_SI_pass_ d rc rs (fun r μ' => St μ' ∧ Q r μ') 0 [(0, .ref a0), (1, .int x1)] [] μ) : Cal K_SI_pass_ d rc rs [.ref a0, .int x1] μ Q := Cal.of (by decide +kernel) rfl rfl (Nat.le_of_ble_eq_true rfl) rfl hk
set_option maxHeartbeats 4000000 in
set_option maxRecDepth 20000 in
theorem r_SI_pass__2 {d rc rs : Nat} {Q : Option Value → Mu → Prop} {μ : Mu} {a0 : Nat} {x1 : Int32} {x2 : Int32} (hD : 1 ≤ d)
    (hF : ((x1 ≤ x2 → Q (some (.ref a0)) μ) ∧ (¬ x1 ≤ x2 → (∃ cc1 ss2 : Nat, (cc1 ≤ rc ∧ ss2 ≤ rs) ∧ (mS μ a0 = (1, 11) ∧ Cal K_SI_pass (d - 1) cc1 ss2 [.ref a0] μ (fun r μ4 => r = none ∧ Wx K_SI_pass_ d (rc - cc1) (rs - ss2) Q 2 [(0, .ref a0), (1, .int x1), (2, .int (x2 + 1))] [] μ4)))))) : Wx K_SI_pass_ d rc rs Q 2 [(0, .ref a0), (1, .int x1), (2, .int x2)] [] μ := by
  refine Wa.iload_n (j := 2) d_SI_pass__2 rfl ?_
  refine Wa.iload_n (j := 1) d_SI_pass__3 rfl ?_
  refine Wa.icmp_ge 17 d_SI_pass__4 (by decide) (fun hb => ?_) (fun hb => ?_)
  · have hF := hF.1 hb
    refine Wa.aload_n (j := 0) d_SI_pass__17 rfl ?_
    exact Wx.reta d_SI_pass__18 rfl hF
  · have hF := hF.2 hb
    refine Wa.aload_n (j := 0) d_SI_pass__7 rfl ?_
    obtain ⟨cc1, ss2, hc3, hF⟩ := hF
    have hc5 := hF.1
    have hF := hF.2
    refine Wx.cVv (q := E_SI) (As := []) 11 (d - 1) cc1 ss2 _ d_SI_pass__8 mok_SI_pass vl_SI_140 rfl rfl rfl (Nat.le_of_ble_eq_true rfl) (by omega) hc3.1 hc3.2 hc5 hF (fun μ4 hS hF => ?_)
    refine Wa.iinc (i := 2) (j := 2) (v := (x2 + 1)) (L' := [(2, .int (x2 + 1)), (0, .ref a0), (1, .int x1)]) d_SI_pass__11 rfl rfl (by decide) rfl ?_
    refine Wa.goto 2 d_SI_pass__14 (by decide) ?_
    exact Wa.loc [1, 2, 0] rfl hF
set_option maxHeartbeats 4000000 in
set_option maxRecDepth 20000 in
theorem r_SI_allKnown_0 {d rc rs : Nat} {Q : Option Value → Mu → Prop} {μ : Mu} {a0 : Nat} (hD : 1 ≤ d)
    (hF : (mS μ a0 = (1, 11) ∧ (∃ b2, gR μ a0 8 = some b2 ∧ (∃ n4, mS μ b2 = (41, n4) ∧ Wx K_SI_allKnown d rc rs Q 13 [(1, .int 0), (2, .ref b2), (3, .int (nI n4)), (4, .int 0)] [] μ)))) : Wx K_SI_allKnown d rc rs Q 0 [(0, .ref a0)] [] μ := by
  refine Wa.iconst (v := 0) d_SI_allKnown_0 rfl ?_
  refine Wa.istore_n (i := 1) (L' := [(1, .int 0), (0, .ref a0)]) d_SI_allKnown_1 rfl (by decide) rfl ?_
  refine Wa.aload_n (j := 1) d_SI_allKnown_2 rfl ?_
  have hc1 := hF.1
  have hF := hF.2
  obtain ⟨b2, hc3, hF⟩ := hF
  refine Wr.getR 11 8 d_SI_allKnown_3 f_SI_8 rfl fl_SI_38 hc1 hc3 ?_
  refine Wa.astore_n (i := 2) (L' := [(2, .ref b2), (1, .int 0), (0, .ref a0)]) d_SI_allKnown_6 rfl (by decide) rfl ?_
  refine Wa.aload_n (j := 0) d_SI_allKnown_7 rfl ?_
  obtain ⟨n4, hc5, hF⟩ := hF
  refine Wa.alen d_SI_allKnown_8 hc5 (by decide) ?_
  refine Wa.istore_n (i := 3) (L' := [(3, .int (nI n4)), (2, .ref b2), (1, .int 0), (0, .ref a0)]) d_SI_allKnown_9 rfl (by decide) rfl ?_
  refine Wa.iconst (v := 0) d_SI_allKnown_10 rfl ?_
  refine Wa.istore (i := 4) (L' := [(4, .int 0), (3, .int (nI n4)), (2, .ref b2), (1, .int 0), (0, .ref a0)]) d_SI_allKnown_11 (by decide) rfl ?_
  exact Wa.loc [3, 2, 1, 0] rfl hF
theorem e_SI_allKnown {d rc rs : Nat} {Q : Option Value → Mu → Prop} {μ : Mu} {a0 : Nat} (hk : Wx K_SI_allKnown d rc rs (fun r μ' => St μ' ∧ Q r μ') 0 [(0, .ref a0)] [] μ) : Cal K_SI_allKnown d rc rs [.ref a0] μ Q := Cal.of (by decide +kernel) rfl rfl (Nat.le_of_ble_eq_true rfl) rfl hk
set_option maxHeartbeats 4000000 in
set_option maxRecDepth 20000 in
theorem r_SI_allKnown_13 {d rc rs : Nat} {Q : Option Value → Mu → Prop} {μ : Mu} {x1 : Int32} {a2 : Nat} {x3 : Int32} {x4 : Int32} (hD : 1 ≤ d)
    (hF : ((x3 ≤ x4 → Q (some (.int x1)) μ) ∧ (¬ x3 ≤ x4 → (∃ n1, (mS μ a2 = (41, n1) ∧ vp_in x4 n1) ∧ (∃ b3, gR μ a2 x4.toNatClampNeg = some b3 ∧ Cal K_SI_many (d - 1) 0 0 [.ref b3] μ (fun r μ5 => ∃ y6, r = some (.int y6) ∧ Wx K_SI_allKnown d (rc - 0) (rs - 0) Q 13 [(1, .int (x1 + y6)), (2, .ref a2), (3, .int x3), (4, .int (x4 + 1))] [] μ5)))))) : Wx K_SI_allKnown d rc rs Q 13 [(1, .int x1), (2, .ref a2), (3, .int x3), (4, .int x4)] [] μ := by
  refine Wa.iload (j := 3) d_SI_allKnown_13 rfl ?_
  refine Wa.iload_n (j := 2) d_SI_allKnown_15 rfl ?_
  refine Wa.icmp_ge 39 d_SI_allKnown_16 (by decide) (fun hb => ?_) (fun hb => ?_)
  · have hF := hF.1 hb
    refine Wa.iload_n (j := 0) d_SI_allKnown_39 rfl ?_
    exact Wx.reti d_SI_allKnown_40 rfl hF
  · have hF := hF.2 hb
    refine Wa.aload_n (j := 1) d_SI_allKnown_19 rfl ?_
    refine Wa.iload (j := 3) d_SI_allKnown_20 rfl ?_
    obtain ⟨n1, hc2, hF⟩ := hF
    obtain ⟨b3, hc4, hF⟩ := hF
    refine Wa.aaldA ct_le d_SI_allKnown_22 (Or.inr rfl) hc2.1 hc2.2 hc4 ?_
    refine Wa.astore (i := 5) (L' := [(5, .ref b3), (1, .int x1), (2, .ref a2), (3, .int x3), (4, .int x4)]) d_SI_allKnown_23 (by decide) rfl ?_
    refine Wa.iload_n (j := 1) d_SI_allKnown_25 rfl ?_
    refine Wa.aload (j := 0) d_SI_allKnown_26 rfl ?_
    refine Wx.cSi (As := [.ref b3]) (d - 1) 0 0 _ d_SI_allKnown_28 mok_SI_many sl_SI_102 rfl rfl (Nat.le_of_ble_eq_true rfl) (by omega) (Nat.zero_le _) (Nat.zero_le _) hF (fun y6 μ5 hS hF => ?_)
    refine Wa.iadd d_SI_allKnown_31 ?_
    refine Wa.istore_n (i := 1) (L' := [(1, .int (x1 + y6)), (5, .ref b3), (2, .ref a2), (3, .int x3), (4, .int x4)]) d_SI_allKnown_32 rfl (by decide) rfl ?_
    refine Wa.iinc (i := 4) (j := 4) (v := (x4 + 1)) (L' := [(4, .int (x4 + 1)), (1, .int (x1 + y6)), (5, .ref b3), (2, .ref a2), (3, .int x3)]) d_SI_allKnown_33 rfl rfl (by decide) rfl ?_
    refine Wa.goto 13 d_SI_allKnown_36 (by decide) ?_
    exact Wa.loc [1, 3, 4, 0] rfl hF
set_option maxHeartbeats 4000000 in
set_option maxRecDepth 20000 in
theorem r_SI_counted_0 {d rc rs : Nat} {Q : Option Value → Mu → Prop} {μ : Mu} {a0 : Nat} {x1 : Int32} (hD : 1 ≤ d)
    (hF : (mS μ a0 = (1, 11) ∧ (∃ b2, gR μ a0 13 = some b2 ∧ (∃ n4, mS μ b2 = (40, n4) ∧ Wx K_SI_counted d rc rs Q 21 [(0, .ref a0), (1, .int x1), (2, .int 0), (3, .int 0), (4, .int 0), (5, .ref b2), (6, .int (nI n4)), (7, .int 0)] [] μ)))) : Wx K_SI_counted d rc rs Q 0 [(0, .ref a0), (1, .int x1)] [] μ := by
  refine Wa.iconst (v := 0) d_SI_counted_0 rfl ?_
  refine Wa.istore_n (i := 2) (L' := [(2, .int 0), (0, .ref a0), (1, .int x1)]) d_SI_counted_1 rfl (by decide) rfl ?_
  refine Wa.iconst (v := 0) d_SI_counted_2 rfl ?_
  refine Wa.istore_n (i := 3) (L' := [(3, .int 0), (2, .int 0), (0, .ref a0), (1, .int x1)]) d_SI_counted_3 rfl (by decide) rfl ?_
  refine Wa.iconst (v := 0) d_SI_counted_4 rfl ?_
  refine Wa.istore (i := 4) (L' := [(4, .int 0), (3, .int 0), (2, .int 0), (0, .ref a0), (1, .int x1)]) d_SI_counted_5 (by decide) rfl ?_
  refine Wa.aload_n (j := 3) d_SI_counted_7 rfl ?_
  have hc1 := hF.1
  have hF := hF.2
  obtain ⟨b2, hc3, hF⟩ := hF
  refine Wr.getR 11 13 d_SI_counted_8 f_SI_13 rfl fl_SI_24 hc1 hc3 ?_
  refine Wa.astore (i := 5) (L' := [(5, .ref b2), (4, .int 0), (3, .int 0), (2, .int 0), (0, .ref a0), (1, .int x1)]) d_SI_counted_11 (by decide) rfl ?_
  refine Wa.aload (j := 0) d_SI_counted_13 rfl ?_
  obtain ⟨n4, hc5, hF⟩ := hF
  refine Wa.alen d_SI_counted_15 hc5 (by decide) ?_
  refine Wa.istore (i := 6) (L' := [(6, .int (nI n4)), (5, .ref b2), (4, .int 0), (3, .int 0), (2, .int 0), (0, .ref a0), (1, .int x1)]) d_SI_counted_16 (by decide) rfl ?_
  refine Wa.iconst (v := 0) d_SI_counted_18 rfl ?_
  refine Wa.istore (i := 7) (L' := [(7, .int 0), (6, .int (nI n4)), (5, .ref b2), (4, .int 0), (3, .int 0), (2, .int 0), (0, .ref a0), (1, .int x1)]) d_SI_counted_19 (by decide) rfl ?_
  exact Wa.loc [6, 7, 5, 4, 3, 2, 1, 0] rfl hF
theorem e_SI_counted {d rc rs : Nat} {Q : Option Value → Mu → Prop} {μ : Mu} {a0 : Nat} {x1 : Int32} (hk : Wx K_SI_counted d rc rs (fun r μ' => St μ' ∧ Q r μ') 0 [(0, .ref a0), (1, .int x1)] [] μ) : Cal K_SI_counted d rc rs [.ref a0, .int x1] μ Q := Cal.of (by decide +kernel) rfl rfl (Nat.le_of_ble_eq_true rfl) rfl hk
set_option maxHeartbeats 4000000 in
set_option maxRecDepth 20000 in
theorem r_SI_counted_21 {d rc rs : Nat} {Q : Option Value → Mu → Prop} {μ : Mu} {a0 : Nat} {x1 : Int32} {x2 : Int32} {x3 : Int32} {x4 : Int32} {a5 : Nat} {x6 : Int32} {x7 : Int32} (hD : 1 ≤ d)
    (hF : ((x6 ≤ x7 → Wx K_SI_counted d rc rs Q 52 [(0, .ref a0), (1, .int x1), (2, .int x2), (3, .int x3), (4, .int x4), (5, .int 0)] [] μ) ∧ (¬ x6 ≤ x7 → (∃ n1, (mS μ a5 = (40, n1) ∧ vp_in x7 n1) ∧ (∃ b3, gR μ a5 x7.toNatClampNeg = some b3 ∧ (∃ n5, mS μ b3 = (2, n5) ∧ Wx K_SI_counted d rc rs Q 21 [(0, .ref a0), (1, .int x1), (2, .int (x2 + ((nI n5) - (2 : Int32)))), (3, .int x3), (4, .int x4), (5, .ref a5), (6, .int x6), (7, .int (x7 + 1))] [] μ)))))) : Wx K_SI_counted d rc rs Q 21 [(0, .ref a0), (1, .int x1), (2, .int x2), (3, .int x3), (4, .int x4), (5, .ref a5), (6, .int x6), (7, .int x7)] [] μ := by
  refine Wa.iload (j := 7) d_SI_counted_21 rfl ?_
  refine Wa.iload (j := 6) d_SI_counted_23 rfl ?_
  refine Wa.icmp_ge 49 d_SI_counted_25 (by decide) (fun hb => ?_) (fun hb => ?_)
  · have hF := hF.1 hb
    refine Wa.iconst (v := 0) d_SI_counted_49 rfl ?_
    refine Wa.istore (i := 5) (L' := [(5, .int 0), (0, .ref a0), (1, .int x1), (2, .int x2), (3, .int x3), (4, .int x4), (6, .int x6), (7, .int x7)]) d_SI_counted_50 (by decide) rfl ?_
    exact Wa.loc [1, 2, 3, 4, 5, 0] rfl hF
  · have hF := hF.2 hb
    refine Wa.aload (j := 5) d_SI_counted_28 rfl ?_
    refine Wa.iload (j := 7) d_SI_counted_30 rfl ?_
    obtain ⟨n1, hc2, hF⟩ := hF
    obtain ⟨b3, hc4, hF⟩ := hF
    refine Wa.aaldA ct_le d_SI_counted_32 (Or.inl rfl) hc2.1 hc2.2 hc4 ?_
    refine Wa.astore (i := 8) (L' := [(8, .ref b3), (0, .ref a0), (1, .int x1), (2, .int x2), (3, .int x3), (4, .int x4), (5, .ref a5), (6, .int x6), (7, .int x7)]) d_SI_counted_33 (by decide) rfl ?_
    refine Wa.iload_n (j := 3) d_SI_counted_35 rfl ?_
    refine Wa.aload (j := 0) d_SI_counted_36 rfl ?_
    obtain ⟨n5, hc6, hF⟩ := hF
    refine Wa.alen d_SI_counted_38 hc6 (by decide) ?_
    refine Wa.iconst (v := 2) d_SI_counted_39 rfl ?_
    refine Wa.isub d_SI_counted_40 ?_
    refine Wa.iadd d_SI_counted_41 ?_
    refine Wa.istore_n (i := 2) (L' := [(2, .int (x2 + ((nI n5) - (2 : Int32)))), (8, .ref b3), (0, .ref a0), (1, .int x1), (3, .int x3), (4, .int x4), (5, .ref a5), (6, .int x6), (7, .int x7)]) d_SI_counted_42 rfl (by decide) rfl ?_
    refine Wa.iinc (i := 7) (j := 8) (v := (x7 + 1)) (L' := [(7, .int (x7 + 1)), (2, .int (x2 + ((nI n5) - (2 : Int32)))), (8, .ref b3), (0, .ref a0), (1, .int x1), (3, .int x3), (4, .int x4), (5, .ref a5), (6, .int x6)]) d_SI_counted_43 rfl rfl (by decide) rfl ?_
    refine Wa.goto 21 d_SI_counted_46 (by decide) ?_
    exact Wa.loc [3, 4, 1, 5, 6, 7, 8, 0] rfl hF
set_option maxHeartbeats 4000000 in
set_option maxRecDepth 20000 in
theorem r_SI_counted_52 {d rc rs : Nat} {Q : Option Value → Mu → Prop} {μ : Mu} {a0 : Nat} {x1 : Int32} {x2 : Int32} {x3 : Int32} {x4 : Int32} {x5 : Int32} (hD : 1 ≤ d)
    (hF : (mS μ a0 = (1, 11) ∧ (((gI μ a0 4) ≤ x5 → ((¬ (13 : Int32) < 0 ∧ 13 ≤ 1000000 ∧ 1 ≤ rc ∧ 13 ≤ rs) ∧ (∃ q3, FreN μ q3 ∧ (mS (mkA μ q3 (2, 13)) a0 = (1, 11) ∧ (∃ n6, (mS (mkA μ q3 (2, 13)) q3 = (2, n6) ∧ vp_in (0 : Int32) n6 ∧ hiN q3) ∧ (mS (setI (mkA μ q3 (2, 13)) q3 (0 : Int32).toNatClampNeg (gI (mkA μ q3 (2, 13)) a0 0)) a0 = (1, 11) ∧ (∃ n9, (mS (setI (mkA μ q3 (2, 13)) q3 (0 : Int32).toNatClampNeg (gI (mkA μ q3 (2, 13)) a0 0)) q3 = (2, n9) ∧ vp_in (1 : Int32) n9 ∧ hiN q3) ∧ (mS (setI (setI (mkA μ q3 (2, 13)) q3 (0 : Int32).toNatClampNeg (gI (mkA μ q3 (2, 13)) a0 0)) q3 (1 : Int32).toNatClampNeg (gI (setI (mkA μ q3 (2, 13)) q3 (0 : Int32).toNatClampNeg (gI (mkA μ q3 (2, 13)) a0 0)) a0 4)) a0 = (1, 11) ∧ (∃ n12, (mS (setI (setI (mkA μ q3 (2, 13)) q3 (0 : Int32).toNatClampNeg (gI (mkA μ q3 (2, 13)) a0 0)) q3 (1 : Int32).toNatClampNeg (gI (setI (mkA μ q3 (2, 13)) q3 (0 : Int32).toNatClampNeg (gI (mkA μ q3 (2, 13)) a0 0)) a0 4)) q3 = (2, n12) ∧ vp_in (2 : Int32) n12 ∧ hiN q3) ∧ (∀ μ14 : Mu, μ14 = (setI (setI (setI (mkA μ q3 (2, 13)) q3 (0 : Int32).toNatClampNeg (gI (mkA μ q3 (2, 13)) a0 0)) q3 (1 : Int32).toNatClampNeg (gI (setI (mkA μ q3 (2, 13)) q3 (0 : Int32).toNatClampNeg (gI (mkA μ q3 (2, 13)) a0 0)) a0 4)) q3 (2 : Int32).toNatClampNeg (gI (setI (setI (mkA μ q3 (2, 13)) q3 (0 : Int32).toNatClampNeg (gI (mkA μ q3 (2, 13)) a0 0)) q3 (1 : Int32).toNatClampNeg (gI (setI (mkA μ q3 (2, 13)) q3 (0 : Int32).toNatClampNeg (gI (mkA μ q3 (2, 13)) a0 0)) a0 4)) a0 5)) → (mS μ14 a0 = (1, 11) ∧ (∃ b16, gR μ14 a0 11 = some b16 ∧ (∃ n18, mS μ14 b16 = (40, n18) ∧ (∃ n20, (mS μ14 q3 = (2, n20) ∧ vp_in (3 : Int32) n20 ∧ hiN q3) ∧ (mS (setI μ14 q3 (3 : Int32).toNatClampNeg (nI n18)) a0 = (1, 11) ∧ (∃ b23, gR (setI μ14 q3 (3 : Int32).toNatClampNeg (nI n18)) a0 14 = some b23 ∧ (∃ n25, mS (setI μ14 q3 (3 : Int32).toNatClampNeg (nI n18)) b23 = (40, n25) ∧ (∃ n27, (mS (setI μ14 q3 (3 : Int32).toNatClampNeg (nI n18)) q3 = (2, n27) ∧ vp_in (4 : Int32) n27 ∧ hiN q3) ∧ (mS (setI (setI μ14 q3 (3 : Int32).toNatClampNeg (nI n18)) q3 (4 : Int32).toNatClampNeg (nI n25)) a0 = (1, 11) ∧ (∃ b30, gR (setI (setI μ14 q3 (3 : Int32).toNatClampNeg (nI n18)) q3 (4 : Int32).toNatClampNeg (nI n25)) a0 6 = some b30 ∧ (∃ n32, mS (setI (setI μ14 q3 (3 : Int32).toNatClampNeg (nI n18)) q3 (4 : Int32).toNatClampNeg (nI n25)) b30 = (40, n32) ∧ (∃ n34, (mS (setI (setI μ14 q3 (3 : Int32).toNatClampNeg (nI n18)) q3 (4 : Int32).toNatClampNeg (nI n25)) q3 = (2, n34) ∧ vp_in (5 : Int32) n34 ∧ hiN q3) ∧ (∃ n36, (mS (setI (setI (setI μ14 q3 (3 : Int32).toNatClampNeg (nI n18)) q3 (4 : Int32).toNatClampNeg (nI n25)) q3 (5 : Int32).toNatClampNeg (nI n32)) q3 = (2, n36) ∧ vp_in (6 : Int32) n36 ∧ hiN q3) ∧ (∃ n38, (mS (setI (setI (setI (setI μ14 q3 (3 : Int32).toNatClampNeg (nI n18)) q3 (4 : Int32).toNatClampNeg (nI n25)) q3 (5 : Int32).toNatClampNeg (nI n32)) q3 (6 : Int32).toNatClampNeg x2) q3 = (2, n38) ∧ vp_in (7 : Int32) n38 ∧ hiN q3) ∧ (∃ n40, (mS (setI (setI (setI (setI (setI μ14 q3 (3 : Int32).toNatClampNeg (nI n18)) q3 (4 : Int32).toNatClampNeg (nI n25)) q3 (5 : Int32).toNatClampNeg (nI n32)) q3 (6 : Int32).toNatClampNeg x2) q3 (7 : Int32).toNatClampNeg x3) q3 = (2, n40) ∧ vp_in (8 : Int32) n40 ∧ hiN q3) ∧ (mS (setI (setI (setI (setI (setI (setI μ14 q3 (3 : Int32).toNatClampNeg (nI n18)) q3 (4 : Int32).toNatClampNeg (nI n25)) q3 (5 : Int32).toNatClampNeg (nI n32)) q3 (6 : Int32).toNatClampNeg x2) q3 (7 : Int32).toNatClampNeg x3) q3 (8 : Int32).toNatClampNeg x4) a0 = (1, 11) ∧ (∃ n43, (mS (setI (setI (setI (setI (setI (setI μ14 q3 (3 : Int32).toNatClampNeg (nI n18)) q3 (4 : Int32).toNatClampNeg (nI n25)) q3 (5 : Int32).toNatClampNeg (nI n32)) q3 (6 : Int32).toNatClampNeg x2) q3 (7 : Int32).toNatClampNeg x3) q3 (8 : Int32).toNatClampNeg x4) q3 = (2, n43) ∧ vp_in (9 : Int32) n43 ∧ hiN q3) ∧ (∀ μ45 : Mu, μ45 = (setI (setI (setI (setI (setI (setI (setI μ14 q3 (3 : Int32).toNatClampNeg (nI n18)) q3 (4 : Int32).toNatClampNeg (nI n25)) q3 (5 : Int32).toNatClampNeg (nI n32)) q3 (6 : Int32).toNatClampNeg x2) q3 (7 : Int32).toNatClampNeg x3) q3 (8 : Int32).toNatClampNeg x4) q3 (9 : Int32).toNatClampNeg (gI (setI (setI (setI (setI (setI (setI μ14 q3 (3 : Int32).toNatClampNeg (nI n18)) q3 (4 : Int32).toNatClampNeg (nI n25)) q3 (5 : Int32).toNatClampNeg (nI n32)) q3 (6 : Int32).toNatClampNeg x2) q3 (7 : Int32).toNatClampNeg x3) q3 (8 : Int32).toNatClampNeg x4) a0 1)) → (mS μ45 a0 = (1, 11) ∧ (∃ n47, (mS μ45 q3 = (2, n47) ∧ vp_in (10 : Int32) n47 ∧ hiN q3) ∧ (mS (setI μ45 q3 (10 : Int32).toNatClampNeg (gI μ45 a0 2)) a0 = (1, 11) ∧ (∃ n50, (mS (setI μ45 q3 (10 : Int32).toNatClampNeg (gI μ45 a0 2)) q3 = (2, n50) ∧ vp_in (11 : Int32) n50 ∧ hiN q3) ∧ (∃ n52, (mS (setI (setI μ45 q3 (10 : Int32).toNatClampNeg (gI μ45 a0 2)) q3 (11 : Int32).toNatClampNeg (gI (setI μ45 q3 (10 : Int32).toNatClampNeg (gI μ45 a0 2)) a0 3)) q3 = (2, n52) ∧ vp_in (12 : Int32) n52 ∧ hiN q3) ∧ (∃ n54, (mS (setI (setI (setI μ45 q3 (10 : Int32).toNatClampNeg (gI μ45 a0 2)) q3 (11 : Int32).toNatClampNeg (gI (setI μ45 q3 (10 : Int32).toNatClampNeg (gI μ45 a0 2)) a0 3)) q3 (12 : Int32).toNatClampNeg 0) q3 = (2, n54) ∧ vp_in x1 n54) ∧ Q (some (.int (gI (setI (setI (setI μ45 q3 (10 : Int32).toNatClampNeg (gI μ45 a0 2)) q3 (11 : Int32).toNatClampNeg (gI (setI μ45 q3 (10 : Int32).toNatClampNeg (gI μ45 a0 2)) a0 3)) q3 (12 : Int32).toNatClampNeg 0) q3 x1.toNatClampNeg))) (setI (setI (setI μ45 q3 (10 : Int32).toNatClampNeg (gI μ45 a0 2)) q3 (11 : Int32).toNatClampNeg (gI (setI μ45 q3 (10 : Int32).toNatClampNeg (gI μ45 a0 2)) a0 3)) q3 (12 : Int32).toNatClampNeg 0))))))))))))))))))))))))))))))))))) ∧ (¬ (gI μ a0 4) ≤ x5 → (mS μ a0 = (1, 11) ∧ (∃ b57, gR μ a0 10 = some b57 ∧ (∃ n59, (mS μ b57 = (41, n59) ∧ vp_in x5 n59) ∧ (∃ b61, gR μ b57 x5.toNatClampNeg = some b61 ∧ Cal K_SI_many (d - 1) 0 0 [.ref b61] μ (fun r μ63 => ∃ y64, r = some (.int y64) ∧ Wx K_SI_counted d (rc - 0) (rs - 0) Q 77 [(0, .ref a0), (1, .int x1), (2, .int x2), (3, .int (x3 + y64)), (4, .int x4), (5, .int x5), (6, .int 0)] [] μ63))))))))) : Wx K_SI_counted d rc rs Q 52 [(0, .ref a0), (1, .int x1), (2, .int x2), (3, .int x3), (4, .int x4), (5, .int x5)] [] μ := by
  refine Wa.iload (j := 5) d_SI_counted_52 rfl ?_
  refine Wa.aload_n (j := 0) d_SI_counted_54 rfl ?_
  have hc1 := hF.1
  have hF := hF.2
  refine Wr.getI 11 4 d_SI_counted_55 f_SI_4 fl_SI_30 hc1 ?_
  refine Wa.icmp_ge 121 d_SI_counted_58 (by decide) (fun hb => ?_) (fun hb => ?_)
  · have hF := hF.1 hb
    refine Wa.bipush (v := 13) d_SI_counted_121 rfl ?_
    have hc2 := hF.1
    have hF := hF.2
    obtain ⟨q3, hc4, hF⟩ := hF
    refine Wr.newarr 2 13 q3 d_SI_counted_123 ac_int rfl (by decide) hc2.1 rfl hc2.2.1 hc2.2.2.1 hc2.2.2.2 hc4 ?_
    refine Wa.dup d_SI_counted_125 rfl ?_
    refine Wa.iconst (v := 0) d_SI_counted_126 rfl ?_
    refine Wa.aload_n (j := 0) d_SI_counted_127 rfl ?_
    have hc5 := hF.1
    have hF := hF.2
    refine Wr.getI 11 0 d_SI_counted_128 f_SI_0 fl_SI_52 hc5 ?_
    obtain ⟨n6, hc7, hF⟩ := hF
    refine Wr.iast d_SI_counted_131 hc7.1 hc7.2.1 hc7.2.2 ?_
    refine Wa.dup d_SI_counted_132 rfl ?_
    refine Wa.iconst (v := 1) d_SI_counted_133 rfl ?_
    refine Wa.aload_n (j := 0) d_SI_counted_134 rfl ?_
    have hc8 := hF.1
    have hF := hF.2
    refine Wr.getI 11 4 d_SI_counted_135 f_SI_4 fl_SI_30 hc8 ?_
    obtain ⟨n9, hc10, hF⟩ := hF
    refine Wr.iast d_SI_counted_138 hc10.1 hc10.2.1 hc10.2.2 ?_
    refine Wa.dup d_SI_counted_139 rfl ?_
    refine Wa.iconst (v := 2) d_SI_counted_140 rfl ?_
    refine Wa.aload_n (j := 0) d_SI_counted_141 rfl ?_
    have hc11 := hF.1
    have hF := hF.2
    refine Wr.getI 11 5 d_SI_counted_142 f_SI_5 fl_SI_34 hc11 ?_
    obtain ⟨n12, hc13, hF⟩ := hF
    refine Wr.iast d_SI_counted_145 hc13.1 hc13.2.1 hc13.2.2 ?_
    suffices hh : ∀ μ14 : Mu, μ14 = (setI (setI (setI (mkA μ q3 (2, 13)) q3 (0 : Int32).toNatClampNeg (gI (mkA μ q3 (2, 13)) a0 0)) q3 (1 : Int32).toNatClampNeg (gI (setI (mkA μ q3 (2, 13)) q3 (0 : Int32).toNatClampNeg (gI (mkA μ q3 (2, 13)) a0 0)) a0 4)) q3 (2 : Int32).toNatClampNeg (gI (setI (setI (mkA μ q3 (2, 13)) q3 (0 : Int32).toNatClampNeg (gI (mkA μ q3 (2, 13)) a0 0)) q3 (1 : Int32).toNatClampNeg (gI (setI (mkA μ q3 (2, 13)) q3 (0 : Int32).toNatClampNeg (gI (mkA μ q3 (2, 13)) a0 0)) a0 4)) a0 5)) → Wx K_SI_counted d (rc - 1) (rs - 13) Q 146 [(0, .ref a0), (1, .int x1), (2, .int x2), (3, .int x3), (4, .int x4), (5, .int x5)] [.ref q3] μ14 from hh _ rfl
    intro μ14 em14
    have hF := hF μ14 em14
    refine Wa.dup d_SI_counted_146 rfl ?_
    refine Wa.iconst (v := 3) d_SI_counted_147 rfl ?_
    refine Wa.aload_n (j := 0) d_SI_counted_148 rfl ?_
    have hc15 := hF.1
    have hF := hF.2
    obtain ⟨b16, hc17, hF⟩ := hF
    refine Wr.getR 11 11 d_SI_counted_149 f_SI_11 rfl fl_SI_21 hc15 hc17 ?_
    obtain ⟨n18, hc19, hF⟩ := hF
    refine Wa.alen d_SI_counted_152 hc19 (by decide) ?_
    obtain ⟨n20, hc21, hF⟩ := hF
    refine Wr.iast d_SI_counted_153 hc21.1 hc21.2.1 hc21.2.2 ?_
    refine Wa.dup d_SI_counted_154 rfl ?_
    refine Wa.iconst (v := 4) d_SI_counted_155 rfl ?_
    refine Wa.aload_n (j := 0) d_SI_counted_156 rfl ?_
    have hc22 := hF.1
    have hF := hF.2
    obtain ⟨b23, hc24, hF⟩ := hF
    refine Wr.getR 11 14 d_SI_counted_157 f_SI_14 rfl fl_SI_27 hc22 hc24 ?_
    obtain ⟨n25, hc26, hF⟩ := hF
    refine Wa.alen d_SI_counted_160 hc26 (by decide) ?_
    obtain ⟨n27, hc28, hF⟩ := hF
    refine Wr.iast d_SI_counted_161 hc28.1 hc28.2.1 hc28.2.2 ?_
    refine Wa.dup d_SI_counted_162 rfl ?_
    refine Wa.iconst (v := 5) d_SI_counted_163 rfl ?_
    refine Wa.aload_n (j := 0) d_SI_counted_164 rfl ?_
    have hc29 := hF.1
    have hF := hF.2
    obtain ⟨b30, hc31, hF⟩ := hF
    refine Wr.getR 11 6 d_SI_counted_165 f_SI_6 rfl fl_SI_9 hc29 hc31 ?_
    obtain ⟨n32, hc33, hF⟩ := hF
    refine Wa.alen d_SI_counted_168 hc33 (by decide) ?_
    obtain ⟨n34, hc35, hF⟩ := hF
    refine Wr.iast d_SI_counted_169 hc35.1 hc35.2.1 hc35.2.2 ?_
    refine Wa.dup d_SI_counted_170 rfl ?_
    refine Wa.bipush (v := 6) d_SI_counted_171 rfl ?_
    refine Wa.iload_n (j := 2) d_SI_counted_173 rfl ?_
    obtain ⟨n36, hc37, hF⟩ := hF
    refine Wr.iast d_SI_counted_174 hc37.1 hc37.2.1 hc37.2.2 ?_
    refine Wa.dup d_SI_counted_175 rfl ?_
    refine Wa.bipush (v := 7) d_SI_counted_176 rfl ?_
    refine Wa.iload_n (j := 3) d_SI_counted_178 rfl ?_
    obtain ⟨n38, hc39, hF⟩ := hF
    refine Wr.iast d_SI_counted_179 hc39.1 hc39.2.1 hc39.2.2 ?_
    refine Wa.dup d_SI_counted_180 rfl ?_
    refine Wa.bipush (v := 8) d_SI_counted_181 rfl ?_
    refine Wa.iload (j := 4) d_SI_counted_183 rfl ?_
    obtain ⟨n40, hc41, hF⟩ := hF
    refine Wr.iast d_SI_counted_185 hc41.1 hc41.2.1 hc41.2.2 ?_
    refine Wa.dup d_SI_counted_186 rfl ?_
    refine Wa.bipush (v := 9) d_SI_counted_187 rfl ?_
    refine Wa.aload_n (j := 0) d_SI_counted_189 rfl ?_
    have hc42 := hF.1
    have hF := hF.2
    refine Wr.getI 11 1 d_SI_counted_190 f_SI_1 fl_SI_55 hc42 ?_
    obtain ⟨n43, hc44, hF⟩ := hF
    refine Wr.iast d_SI_counted_193 hc44.1 hc44.2.1 hc44.2.2 ?_
    suffices hh : ∀ μ45 : Mu, μ45 = (setI (setI (setI (setI (setI (setI (setI μ14 q3 (3 : Int32).toNatClampNeg (nI n18)) q3 (4 : Int32).toNatClampNeg (nI n25)) q3 (5 : Int32).toNatClampNeg (nI n32)) q3 (6 : Int32).toNatClampNeg x2) q3 (7 : Int32).toNatClampNeg x3) q3 (8 : Int32).toNatClampNeg x4) q3 (9 : Int32).toNatClampNeg (gI (setI (setI (setI (setI (setI (setI μ14 q3 (3 : Int32).toNatClampNeg (nI n18)) q3 (4 : Int32).toNatClampNeg (nI n25)) q3 (5 : Int32).toNatClampNeg (nI n32)) q3 (6 : Int32).toNatClampNeg x2) q3 (7 : Int32).toNatClampNeg x3) q3 (8 : Int32).toNatClampNeg x4) a0 1)) → Wx K_SI_counted d (rc - 1) (rs - 13) Q 194 [(0, .ref a0), (1, .int x1), (2, .int x2), (3, .int x3), (4, .int x4), (5, .int x5)] [.ref q3] μ45 from hh _ rfl
    intro μ45 em45
    have hF := hF μ45 em45
    refine Wa.dup d_SI_counted_194 rfl ?_
    refine Wa.bipush (v := 10) d_SI_counted_195 rfl ?_
    refine Wa.aload_n (j := 0) d_SI_counted_197 rfl ?_
    have hc46 := hF.1
    have hF := hF.2
    refine Wr.getI 11 2 d_SI_counted_198 f_SI_2 fl_SI_58 hc46 ?_
    obtain ⟨n47, hc48, hF⟩ := hF
    refine Wr.iast d_SI_counted_201 hc48.1 hc48.2.1 hc48.2.2 ?_
    refine Wa.dup d_SI_counted_202 rfl ?_
    refine Wa.bipush (v := 11) d_SI_counted_203 rfl ?_
    refine Wa.aload_n (j := 0) d_SI_counted_205 rfl ?_
    have hc49 := hF.1
    have hF := hF.2
    refine Wr.getI 11 3 d_SI_counted_206 f_SI_3 fl_SI_61 hc49 ?_
    obtain ⟨n50, hc51, hF⟩ := hF
    refine Wr.iast d_SI_counted_209 hc51.1 hc51.2.1 hc51.2.2 ?_
    refine Wa.dup d_SI_counted_210 rfl ?_
    refine Wa.bipush (v := 12) d_SI_counted_211 rfl ?_
    refine Wa.iconst (v := 0) d_SI_counted_213 rfl ?_
    obtain ⟨n52, hc53, hF⟩ := hF
    refine Wr.iast d_SI_counted_214 hc53.1 hc53.2.1 hc53.2.2 ?_
    refine Wa.astore (i := 5) (L' := [(5, .ref q3), (0, .ref a0), (1, .int x1), (2, .int x2), (3, .int x3), (4, .int x4)]) d_SI_counted_215 (by decide) rfl ?_
    refine Wa.aload (j := 0) d_SI_counted_217 rfl ?_
    refine Wa.iload_n (j := 2) d_SI_counted_219 rfl ?_
    obtain ⟨n54, hc55, hF⟩ := hF
    refine Wa.iald d_SI_counted_220 hc55.1 hc55.2 ?_
    exact Wx.reti d_SI_counted_221 rfl hF
  · have hF := hF.2 hb
    refine Wa.iload_n (j := 3) d_SI_counted_61 rfl ?_
    refine Wa.aload_n (j := 0) d_SI_counted_62 rfl ?_
    have hc56 := hF.1
    have hF := hF.2
    obtain ⟨b57, hc58, hF⟩ := hF
    refine Wr.getR 11 10 d_SI_counted_63 f_SI_10 rfl fl_SI_44 hc56 hc58 ?_
    refine Wa.iload (j := 5) d_SI_counted_66 rfl ?_
    obtain ⟨n59, hc60, hF⟩ := hF
    obtain ⟨b61, hc62, hF⟩ := hF
    refine Wa.aaldA ct_le d_SI_counted_68 (Or.inr rfl) hc60.1 hc60.2 hc62 ?_
    refine Wx.cSi (As := [.ref b61]) (d - 1) 0 0 _ d_SI_counted_69 mok_SI_many sl_SI_102 rfl rfl (Nat.le_of_ble_eq_true rfl) (by omega) (Nat.zero_le _) (Nat.zero_le _) hF (fun y64 μ63 hS hF => ?_)
    refine Wa.iadd d_SI_counted_72 ?_
    refine Wa.istore_n (i := 3) (L' := [(3, .int (x3 + y64)), (0, .ref a0), (1, .int x1), (2, .int x2), (4, .int x4), (5, .int x5)]) d_SI_counted_73 rfl (by decide) rfl ?_
    refine Wa.iconst (v := 0) d_SI_counted_74 rfl ?_
    refine Wa.istore (i := 6) (L' := [(6, .int 0), (3, .int (x3 + y64)), (0, .ref a0), (1, .int x1), (2, .int x2), (4, .int x4), (5, .int x5)]) d_SI_counted_75 (by decide) rfl ?_
    exact Wa.loc [2, 3, 4, 1, 5, 6, 0] rfl hF
set_option maxHeartbeats 4000000 in
set_option maxRecDepth 20000 in
theorem r_SI_counted_77 {d rc rs : Nat} {Q : Option Value → Mu → Prop} {μ : Mu} {a0 : Nat} {x1 : Int32} {x2 : Int32} {x3 : Int32} {x4 : Int32} {x5 : Int32} {x6 : Int32} (hD : 1 ≤ d)
    (hF : (mS μ a0 = (1, 11) ∧ (((gI μ a0 5) ≤ x6 → Wx K_SI_counted d rc rs Q 52 [(0, .ref a0), (1, .int x1), (2, .int x2), (3, .int x3), (4, .int x4), (5, .int (x5 + 1))] [] μ) ∧ (¬ (gI μ a0 5) ≤ x6 → (∃ cc2 ss3 : Nat, (cc2 ≤ rc ∧ ss3 ≤ rs) ∧ (mS μ a0 = (1, 11) ∧ Cal K_SI_shows (d - 1) cc2 ss3 [.ref a0, .int x5, .int x6] μ (fun r μ5 => ∃ b7, r = some (.ref b7) ∧ (∃ n8, mS μ5 b7 = (2, n8) ∧ (((nI n8) ≤ 1 → Wx K_SI_counted d (rc - cc2) (rs - ss3) Q 77 [(0, .ref a0), (1, .int x1), (2, .int x2), (3, .int x3), (4, .int (x4 + (0 : Int32))), (5, .int x5), (6, .int (x6 + 1))] [] μ5) ∧ (¬ (nI n8) ≤ 1 → Wx K_SI_counted d (rc - cc2) (rs - ss3) Q 77 [(0, .ref a0), (1, .int x1), (2, .int x2), (3, .int x3), (4, .int (x4 + (1 : Int32))), (5, .int x5), (6, .int (x6 + 1))] [] μ5)))))))))) : Wx K_SI_counted d rc rs Q 77 [(0, .ref a0), (1, .int x1), (2, .int x2), (3, .int x3), (4, .int x4), (5, .int x5), (6, .int x6)] [] μ := by
  refine Wa.iload (j := 6) d_SI_counted_77 rfl ?_
  refine Wa.aload_n (j := 0) d_SI_counted_79 rfl ?_
  have hc1 := hF.1
  have hF := hF.2
  refine Wr.getI 11 5 d_SI_counted_80 f_SI_5 fl_SI_34 hc1 ?_
  refine Wa.icmp_ge 115 d_SI_counted_83 (by decide) (fun hb => ?_) (fun hb => ?_)
  · have hF := hF.1 hb
    refine Wa.iinc (i := 5) (j := 5) (v := (x5 + 1)) (L' := [(5, .int (x5 + 1)), (0, .ref a0), (1, .int x1), (2, .int x2), (3, .int x3), (4, .int x4), (6, .int x6)]) d_SI_counted_115 rfl rfl (by decide) rfl ?_
    refine Wa.goto 52 d_SI_counted_118 (by decide) ?_
    exact Wa.loc [1, 2, 3, 4, 5, 0] rfl hF
  · have hF := hF.2 hb
    refine Wa.iload (j := 4) d_SI_counted_86 rfl ?_
    refine Wa.aload_n (j := 0) d_SI_counted_88 rfl ?_
    refine Wa.iload (j := 5) d_SI_counted_89 rfl ?_
    refine Wa.iload (j := 6) d_SI_counted_91 rfl ?_
    obtain ⟨cc2, ss3, hc4, hF⟩ := hF
    have hc6 := hF.1
    have hF := hF.2
    refine Wr.cVr (q := E_SI) (As := [.int x5, .int x6]) 11 (d - 1) cc2 ss3 _ d_SI_counted_93 mok_SI_shows vl_SI_72 rfl rfl rfl (Nat.le_of_ble_eq_true rfl) (by omega) hc4.1 hc4.2 hc6 hF (fun b7 μ5 hS hF => ?_)
    obtain ⟨n8, hc9, hF⟩ := hF
    refine Wa.alen d_SI_counted_96 hc9 (by decide) ?_
    refine Wa.iconst (v := 1) d_SI_counted_97 rfl ?_
    refine Wa.icmp_le 105 d_SI_counted_98 (by decide) (fun hb => ?_) (fun hb => ?_)
    · have hF := hF.1 hb
      refine Wa.iconst (v := 0) d_SI_counted_105 rfl ?_
      refine Wa.iadd d_SI_counted_106 ?_
      refine Wa.istore (i := 4) (L' := [(4, .int (x4 + (0 : Int32))), (0, .ref a0), (1, .int x1), (2, .int x2), (3, .int x3), (5, .int x5), (6, .int x6)]) d_SI_counted_107 (by decide) rfl ?_
      refine Wa.iinc (i := 6) (j := 6) (v := (x6 + 1)) (L' := [(6, .int (x6 + 1)), (4, .int (x4 + (0 : Int32))), (0, .ref a0), (1, .int x1), (2, .int x2), (3, .int x3), (5, .int x5)]) d_SI_counted_109 rfl rfl (by decide) rfl ?_
      refine Wa.goto 77 d_SI_counted_112 (by decide) ?_
      exact Wa.loc [2, 3, 4, 5, 1, 6, 0] rfl hF
    · have hF := hF.2 hb
      refine Wa.iconst (v := 1) d_SI_counted_101 rfl ?_
      refine Wa.goto 106 d_SI_counted_102 (by decide) ?_
      refine Wa.iadd d_SI_counted_106 ?_
      refine Wa.istore (i := 4) (L' := [(4, .int (x4 + (1 : Int32))), (0, .ref a0), (1, .int x1), (2, .int x2), (3, .int x3), (5, .int x5), (6, .int x6)]) d_SI_counted_107 (by decide) rfl ?_
      refine Wa.iinc (i := 6) (j := 6) (v := (x6 + 1)) (L' := [(6, .int (x6 + 1)), (4, .int (x4 + (1 : Int32))), (0, .ref a0), (1, .int x1), (2, .int x2), (3, .int x3), (5, .int x5)]) d_SI_counted_109 rfl rfl (by decide) rfl ?_
      refine Wa.goto 77 d_SI_counted_112 (by decide) ?_
      exact Wa.loc [2, 3, 4, 5, 1, 6, 0] rfl hF
