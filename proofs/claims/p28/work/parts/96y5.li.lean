/-! the law's list, before there is a component -/
set_option maxHeartbeats 4000000 in
set_option maxRecDepth 20000 in
theorem y_LW_list_0 {d rc rs : Nat} {Q : Option Value → Mu → Prop} {μ : Mu} {a0 : Nat} {a1 : Nat} (hD : 1 ≤ d)
    (hF : ((1 ≤ rc ∧ 15 ≤ rs) ∧ (∃ q2, FreN μ q2 ∧ (∃ cc4 ss5 : Nat, (cc4 ≤ rc - 1 ∧ ss5 ≤ rs - 15) ∧ CalS K_SI_init (d - 1) cc4 ss5 [.ref q2] (mkA μ q2 (1, 11)) (fun r μ7 => r = none ∧ CalS K_LW_cell (d - 1) 0 0 [.ref a0, .int 0] μ7 (fun r μ8 => ∃ y9, r = some (.int y9) ∧ CalS K_LW_below (d - 1) 0 0 [.int y9, .int 4] μ8 (fun r μ10 => ∃ y11, r = some (.int y11) ∧ CalS K_LW_cell (d - 1) 0 0 [.ref a0, .int 0] μ10 (fun r μ12 => ∃ y13, r = some (.int y13) ∧ CalS K_LW_below (d - 1) 0 0 [.int (y13 >>> ((4 : Int32) &&& 31)), .int 3] μ12 (fun r μ14 => ∃ y15, r = some (.int y15) ∧ (∃ cc16 ss17 : Nat, (cc16 ≤ rc - 1 - cc4 - 0 - 0 - 0 - 0 ∧ ss17 ≤ rs - 15 - ss5 - 0 - 0 - 0 - 0) ∧ (mS μ14 q2 = (1, 11) ∧ CalS K_SI_begin (d - 1) cc16 ss17 [.ref q2, .int ((2 : Int32) + y11), .int ((1 : Int32) + y15)] μ14 (fun r μ19 => r = none ∧ Wx K_LW_list d (rc - 1 - cc4 - 0 - 0 - 0 - 0 - cc16) (rs - 15 - ss5 - 0 - 0 - 0 - 0 - ss17) Q 45 [(0, .ref a0), (1, .ref a1), (2, .ref q2), (3, .int ((2 : Int32) + y11)), (4, .int ((1 : Int32) + y15)), (5, .int 0)] [] μ19)))))))))))) : Wx K_LW_list d rc rs Q 0 [(0, .ref a0), (1, .ref a1)] [] μ := by
  have hc1 := hF.1
  have hF := hF.2
  obtain ⟨q2, hc3, hF⟩ := hF
  refine Wa.new (q := E_SI) q2 11 d_LW_list_0 rfl ok_SI (by decide +kernel) cl_LW_80 hc1.1 hc1.2 hc3.1 hc3.2.rw ?_
  refine Wa.dup d_LW_list_3 rfl ?_
  obtain ⟨cc4, ss5, hc6, hF⟩ := hF
  refine Ws.cIv (As := []) (d - 1) cc4 ss5 _ d_LW_list_4 mok_SI_init rfl il_LW_82 rfl rfl (Nat.le_of_ble_eq_true rfl) (by omega) hc6.1 hc6.2 hF (fun μ7 hS hF => ?_)
  refine Wa.astore_n (i := 2) (L' := [(2, .ref q2), (0, .ref a0), (1, .ref a1)]) d_LW_list_7 rfl (by decide) rfl ?_
  refine Wa.iconst (v := 2) d_LW_list_8 rfl ?_
  refine Wa.aload_n (j := 1) d_LW_list_9 rfl ?_
  refine Wa.iconst (v := 0) d_LW_list_10 rfl ?_
  refine Wt.cSi (As := [.ref a0, .int 0]) (d - 1) 0 0 _ d_LW_list_11 mok_LW_cell sl_LW_83 rfl rfl (Nat.le_of_ble_eq_true rfl) (by omega) (Nat.zero_le _) (Nat.zero_le _) hF (fun y9 μ8 hS hF => ?_)
  refine Wa.iconst (v := 4) d_LW_list_14 rfl ?_
  refine Wt.cSi (As := [.int y9, .int 4]) (d - 1) 0 0 _ d_LW_list_15 mok_LW_below sl_LW_89 rfl rfl (Nat.le_of_ble_eq_true rfl) (by omega) (Nat.zero_le _) (Nat.zero_le _) hF (fun y11 μ10 hS hF => ?_)
  refine Wa.iadd d_LW_list_18 ?_
  refine Wa.istore_n (i := 3) (L' := [(3, .int ((2 : Int32) + y11)), (2, .ref q2), (0, .ref a0), (1, .ref a1)]) d_LW_list_19 rfl (by decide) rfl ?_
  refine Wa.iconst (v := 1) d_LW_list_20 rfl ?_
  refine Wa.aload_n (j := 2) d_LW_list_21 rfl ?_
  refine Wa.iconst (v := 0) d_LW_list_22 rfl ?_
  refine Wt.cSi (As := [.ref a0, .int 0]) (d - 1) 0 0 _ d_LW_list_23 mok_LW_cell sl_LW_83 rfl rfl (Nat.le_of_ble_eq_true rfl) (by omega) (Nat.zero_le _) (Nat.zero_le _) hF (fun y13 μ12 hS hF => ?_)
  refine Wa.iconst (v := 4) d_LW_list_26 rfl ?_
  refine Wa.ishr d_LW_list_27 ?_
  refine Wa.iconst (v := 3) d_LW_list_28 rfl ?_
  refine Wt.cSi (As := [.int (y13 >>> ((4 : Int32) &&& 31)), .int 3]) (d - 1) 0 0 _ d_LW_list_29 mok_LW_below sl_LW_89 rfl rfl (Nat.le_of_ble_eq_true rfl) (by omega) (Nat.zero_le _) (Nat.zero_le _) hF (fun y15 μ14 hS hF => ?_)
  refine Wa.iadd d_LW_list_32 ?_
  refine Wa.istore (i := 4) (L' := [(4, .int ((1 : Int32) + y15)), (3, .int ((2 : Int32) + y11)), (2, .ref q2), (0, .ref a0), (1, .ref a1)]) d_LW_list_33 (by decide) rfl ?_
  refine Wa.aload_n (j := 2) d_LW_list_35 rfl ?_
  refine Wa.iload_n (j := 1) d_LW_list_36 rfl ?_
  refine Wa.iload (j := 0) d_LW_list_37 rfl ?_
  obtain ⟨cc16, ss17, hc18, hF⟩ := hF
  have hc20 := hF.1
  have hF := hF.2
  refine Wt.cVv (q := E_SI) (As := [.int ((2 : Int32) + y11), .int ((1 : Int32) + y15)]) 11 (d - 1) cc16 ss17 _ d_LW_list_39 mok_SI_begin vl_LW_93 rfl rfl rfl (Nat.le_of_ble_eq_true rfl) (by omega) hc18.1 hc18.2 hc20 hF (fun μ19 hS hF => ?_)
  refine Wa.iconst (v := 0) d_LW_list_42 rfl ?_
  refine Wa.istore (i := 5) (L' := [(5, .int 0), (4, .int ((1 : Int32) + y15)), (3, .int ((2 : Int32) + y11)), (2, .ref q2), (0, .ref a0), (1, .ref a1)]) d_LW_list_43 (by decide) rfl ?_
  exact Wa.loc [4, 5, 3, 2, 1, 0] rfl hF
theorem z_LW_list {d rc rs : Nat} {Q : Option Value → Mu → Prop} {μ : Mu} {a0 : Nat} {a1 : Nat} (hk : Wx K_LW_list d rc rs (fun r μ' => S8 μ' ∧ Q r μ') 0 [(0, .ref a0), (1, .ref a1)] [] μ) : CalS K_LW_list d rc rs [.ref a0, .ref a1] μ Q := CalS.of (by decide +kernel) rfl rfl (Nat.le_of_ble_eq_true rfl) rfl hk
set_option maxHeartbeats 4000000 in
set_option maxRecDepth 20000 in
theorem y_LW_list_45 {d rc rs : Nat} {Q : Option Value → Mu → Prop} {μ : Mu} {a0 : Nat} {a1 : Nat} {a2 : Nat} {x3 : Int32} {x4 : Int32} {x5 : Int32} (hD : 1 ≤ d)
    (hF : ((x3 ≤ x5 → Wx K_LW_list d rc rs Q 77 [(0, .ref a0), (1, .ref a1), (2, .ref a2), (3, .int x3), (4, .int x4), (5, .int 0)] [] μ) ∧ (¬ x3 ≤ x5 → (∃ cc1 ss2 : Nat, (cc1 ≤ rc ∧ ss2 ≤ rs) ∧ (mS μ a1 = (1, 12) ∧ CalS K_SB_append_15ec4 (d - 1) cc1 ss2 [.ref a1, .ref (hd 1 62)] μ (fun r μ4 => ∃ b6, r = some (.ref b6) ∧ (∃ cc7 ss8 : Nat, (cc7 ≤ rc - cc1 ∧ ss8 ≤ rs - ss2) ∧ (mS μ4 b6 = (1, 12) ∧ CalS K_SB_append_bf812 (d - 1) cc7 ss8 [.ref b6, .int x5] μ4 (fun r μ10 => ∃ b12, r = some (.ref b12) ∧ (∃ cc13 ss14 : Nat, (cc13 ≤ rc - cc1 - cc7 ∧ ss14 ≤ rs - ss2 - ss8) ∧ (mS μ10 b12 = (1, 12) ∧ CalS K_SB_append_15ec4 (d - 1) cc13 ss14 [.ref b12, .ref (hd 1 63)] μ10 (fun r μ16 => ∃ b18, r = some (.ref b18) ∧ Wx K_LW_list d (rc - cc1 - cc7 - cc13) (rs - ss2 - ss8 - ss14) Q 45 [(0, .ref a0), (1, .ref a1), (2, .ref a2), (3, .int x3), (4, .int x4), (5, .int (x5 + 1))] [] μ16)))))))))))) : Wx K_LW_list d rc rs Q 45 [(0, .ref a0), (1, .ref a1), (2, .ref a2), (3, .int x3), (4, .int x4), (5, .int x5)] [] μ := by
  refine Wa.iload (j := 5) d_LW_list_45 rfl ?_
  refine Wa.iload_n (j := 3) d_LW_list_47 rfl ?_
  refine Wa.icmp_ge 74 d_LW_list_48 (by decide) (fun hb => ?_) (fun hb => ?_)
  · have hF := hF.1 hb
    refine Wa.iconst (v := 0) d_LW_list_74 rfl ?_
    refine Wa.istore (i := 5) (L' := [(5, .int 0), (0, .ref a0), (1, .ref a1), (2, .ref a2), (3, .int x3), (4, .int x4)]) d_LW_list_75 (by decide) rfl ?_
    exact Wa.loc [1, 2, 3, 4, 5, 0] rfl hF
  · have hF := hF.2 hb
    refine Wa.aload_n (j := 1) d_LW_list_51 rfl ?_
    refine Wa.ldcS 17 d_LW_list_52 (by decide) rfl rfl ?_
    obtain ⟨cc1, ss2, hc3, hF⟩ := hF
    have hc5 := hF.1
    have hF := hF.2
    refine Ws.cVr (q := E_SB) (As := [.ref (hd 1 62)]) 12 (d - 1) cc1 ss2 _ d_LW_list_54 mok_SB_append_15ec4 vl_LW_39 rfl rfl rfl (Nat.le_of_ble_eq_true rfl) (by omega) hc3.1 hc3.2 hc5 hF (fun b6 μ4 hS hF => ?_)
    refine Wa.iload (j := 5) d_LW_list_57 rfl ?_
    obtain ⟨cc7, ss8, hc9, hF⟩ := hF
    have hc11 := hF.1
    have hF := hF.2
    refine Ws.cVr (q := E_SB) (As := [.int x5]) 12 (d - 1) cc7 ss8 _ d_LW_list_59 mok_SB_append_bf812 vl_LW_43 rfl rfl rfl (Nat.le_of_ble_eq_true rfl) (by omega) hc9.1 hc9.2 hc11 hF (fun b12 μ10 hS hF => ?_)
    refine Wa.ldcS 18 d_LW_list_62 (by decide) rfl rfl ?_
    obtain ⟨cc13, ss14, hc15, hF⟩ := hF
    have hc17 := hF.1
    have hF := hF.2
    refine Ws.cVr (q := E_SB) (As := [.ref (hd 1 63)]) 12 (d - 1) cc13 ss14 _ d_LW_list_64 mok_SB_append_15ec4 vl_LW_39 rfl rfl rfl (Nat.le_of_ble_eq_true rfl) (by omega) hc15.1 hc15.2 hc17 hF (fun b18 μ16 hS hF => ?_)
    refine Wa.pop d_LW_list_67 rfl ?_
    refine Wa.iinc (i := 5) (j := 5) (v := (x5 + 1)) (L' := [(5, .int (x5 + 1)), (0, .ref a0), (1, .ref a1), (2, .ref a2), (3, .int x3), (4, .int x4)]) d_LW_list_68 rfl rfl (by decide) rfl ?_
    refine Wa.goto 45 d_LW_list_71 (by decide) ?_
    exact Wa.loc [1, 2, 3, 4, 5, 0] rfl hF
set_option maxHeartbeats 4000000 in
set_option maxRecDepth 20000 in
theorem y_LW_list_77 {d rc rs : Nat} {Q : Option Value → Mu → Prop} {μ : Mu} {a0 : Nat} {a1 : Nat} {a2 : Nat} {x3 : Int32} {x4 : Int32} {x5 : Int32} (hD : 1 ≤ d)
    (hF : ((x4 ≤ x5 → CalS K_LW_cell (d - 1) 0 0 [.ref a0, .int 1] μ (fun r μ1 => ∃ y2, r = some (.int y2) ∧ CalS K_LW_below (d - 1) 0 0 [.int y2, .int 8] μ1 (fun r μ3 => ∃ y4, r = some (.int y4) ∧ Wx K_LW_list d (rc - 0 - 0) (rs - 0 - 0) Q 124 [(0, .ref a0), (1, .ref a1), (2, .ref a2), (3, .int x3), (4, .int x4), (5, .int ((1 : Int32) + y4)), (6, .int 0)] [] μ3))) ∧ (¬ x4 ≤ x5 → (∃ cc5 ss6 : Nat, (cc5 ≤ rc ∧ ss6 ≤ rs) ∧ (mS μ a1 = (1, 12) ∧ CalS K_SB_append_15ec4 (d - 1) cc5 ss6 [.ref a1, .ref (hd 1 64)] μ (fun r μ8 => ∃ b10, r = some (.ref b10) ∧ (∃ cc11 ss12 : Nat, (cc11 ≤ rc - cc5 ∧ ss12 ≤ rs - ss6) ∧ (mS μ8 b10 = (1, 12) ∧ CalS K_SB_append_bf812 (d - 1) cc11 ss12 [.ref b10, .int x5] μ8 (fun r μ14 => ∃ b16, r = some (.ref b16) ∧ (∃ cc17 ss18 : Nat, (cc17 ≤ rc - cc5 - cc11 ∧ ss18 ≤ rs - ss6 - ss12) ∧ (mS μ14 b16 = (1, 12) ∧ CalS K_SB_append_15ec4 (d - 1) cc17 ss18 [.ref b16, .ref (hd 1 63)] μ14 (fun r μ20 => ∃ b22, r = some (.ref b22) ∧ Wx K_LW_list d (rc - cc5 - cc11 - cc17) (rs - ss6 - ss12 - ss18) Q 77 [(0, .ref a0), (1, .ref a1), (2, .ref a2), (3, .int x3), (4, .int x4), (5, .int (x5 + 1))] [] μ20)))))))))))) : Wx K_LW_list d rc rs Q 77 [(0, .ref a0), (1, .ref a1), (2, .ref a2), (3, .int x3), (4, .int x4), (5, .int x5)] [] μ := by
  refine Wa.iload (j := 5) d_LW_list_77 rfl ?_
  refine Wa.iload (j := 4) d_LW_list_79 rfl ?_
  refine Wa.icmp_ge 107 d_LW_list_81 (by decide) (fun hb => ?_) (fun hb => ?_)
  · have hF := hF.1 hb
    refine Wa.iconst (v := 1) d_LW_list_107 rfl ?_
    refine Wa.aload_n (j := 0) d_LW_list_108 rfl ?_
    refine Wa.iconst (v := 1) d_LW_list_109 rfl ?_
    refine Wt.cSi (As := [.ref a0, .int 1]) (d - 1) 0 0 _ d_LW_list_110 mok_LW_cell sl_LW_83 rfl rfl (Nat.le_of_ble_eq_true rfl) (by omega) (Nat.zero_le _) (Nat.zero_le _) hF (fun y2 μ1 hS hF => ?_)
    refine Wa.bipush (v := 8) d_LW_list_113 rfl ?_
    refine Wt.cSi (As := [.int y2, .int 8]) (d - 1) 0 0 _ d_LW_list_115 mok_LW_below sl_LW_89 rfl rfl (Nat.le_of_ble_eq_true rfl) (by omega) (Nat.zero_le _) (Nat.zero_le _) hF (fun y4 μ3 hS hF => ?_)
    refine Wa.iadd d_LW_list_118 ?_
    refine Wa.istore (i := 5) (L' := [(5, .int ((1 : Int32) + y4)), (0, .ref a0), (1, .ref a1), (2, .ref a2), (3, .int x3), (4, .int x4)]) d_LW_list_119 (by decide) rfl ?_
    refine Wa.iconst (v := 0) d_LW_list_121 rfl ?_
    refine Wa.istore (i := 6) (L' := [(6, .int 0), (5, .int ((1 : Int32) + y4)), (0, .ref a0), (1, .ref a1), (2, .ref a2), (3, .int x3), (4, .int x4)]) d_LW_list_122 (by decide) rfl ?_
    exact Wa.loc [2, 3, 4, 5, 6, 1, 0] rfl hF
  · have hF := hF.2 hb
    refine Wa.aload_n (j := 1) d_LW_list_84 rfl ?_
    refine Wa.ldcS 19 d_LW_list_85 (by decide) rfl rfl ?_
    obtain ⟨cc5, ss6, hc7, hF⟩ := hF
    have hc9 := hF.1
    have hF := hF.2
    refine Ws.cVr (q := E_SB) (As := [.ref (hd 1 64)]) 12 (d - 1) cc5 ss6 _ d_LW_list_87 mok_SB_append_15ec4 vl_LW_39 rfl rfl rfl (Nat.le_of_ble_eq_true rfl) (by omega) hc7.1 hc7.2 hc9 hF (fun b10 μ8 hS hF => ?_)
    refine Wa.iload (j := 5) d_LW_list_90 rfl ?_
    obtain ⟨cc11, ss12, hc13, hF⟩ := hF
    have hc15 := hF.1
    have hF := hF.2
    refine Ws.cVr (q := E_SB) (As := [.int x5]) 12 (d - 1) cc11 ss12 _ d_LW_list_92 mok_SB_append_bf812 vl_LW_43 rfl rfl rfl (Nat.le_of_ble_eq_true rfl) (by omega) hc13.1 hc13.2 hc15 hF (fun b16 μ14 hS hF => ?_)
    refine Wa.ldcS 18 d_LW_list_95 (by decide) rfl rfl ?_
    obtain ⟨cc17, ss18, hc19, hF⟩ := hF
    have hc21 := hF.1
    have hF := hF.2
    refine Ws.cVr (q := E_SB) (As := [.ref (hd 1 63)]) 12 (d - 1) cc17 ss18 _ d_LW_list_97 mok_SB_append_15ec4 vl_LW_39 rfl rfl rfl (Nat.le_of_ble_eq_true rfl) (by omega) hc19.1 hc19.2 hc21 hF (fun b22 μ20 hS hF => ?_)
    refine Wa.pop d_LW_list_100 rfl ?_
    refine Wa.iinc (i := 5) (j := 5) (v := (x5 + 1)) (L' := [(5, .int (x5 + 1)), (0, .ref a0), (1, .ref a1), (2, .ref a2), (3, .int x3), (4, .int x4)]) d_LW_list_101 rfl rfl (by decide) rfl ?_
    refine Wa.goto 77 d_LW_list_104 (by decide) ?_
    exact Wa.loc [1, 2, 3, 4, 5, 0] rfl hF
set_option maxHeartbeats 4000000 in
set_option maxRecDepth 20000 in
theorem y_LW_list_124 {d rc rs : Nat} {Q : Option Value → Mu → Prop} {μ : Mu} {a0 : Nat} {a1 : Nat} {a2 : Nat} {x3 : Int32} {x4 : Int32} {x5 : Int32} {x6 : Int32} (hD : 1 ≤ d)
    (hF : ((x5 ≤ x6 → ((¬ x5 < 0 ∧ ¬ (60 : Int32) < 0 ∧ x5.toNatClampNeg ≤ 1000 ∧ 60 ≤ 1000 ∧ 1 + x5.toNatClampNeg ≤ rc ∧ x5.toNatClampNeg + x5.toNatClampNeg * 60 ≤ rs) ∧ (∃ q2 κ3, ((100 ≤ κ3 ∧ κ3 < 256) ∧ FreN μ q2 ∧ (∀ i, i < x5.toNatClampNeg → hd κ3 i ≠ q2) ∧ ∀ i, i < x5.toNatClampNeg → mS μ (hd κ3 i) = (0, 0)) ∧ ((mS (mkM μ q2 κ3 x5.toNatClampNeg 60) a2 = (1, 11) ∧ hiN a2) ∧ CalS K_LW_cell (d - 1) 0 0 [.ref a0, .int 6] (setR (mkM μ q2 κ3 x5.toNatClampNeg 60) a2 12 q2) (fun r μ6 => ∃ y7, r = some (.int y7) ∧ CalS K_LW_below (d - 1) 0 0 [.int y7, .int 11] μ6 (fun r μ8 => ∃ y9, r = some (.int y9) ∧ Wx K_LW_list d (rc - (1 + x5.toNatClampNeg) - 0 - 0) (rs - (x5.toNatClampNeg + x5.toNatClampNeg * 60) - 0 - 0) Q 337 [(0, .ref a0), (1, .ref a1), (2, .ref a2), (3, .int x3), (4, .int x4), (5, .int x5), (6, .int y9)] [] μ8)))))) ∧ (¬ x5 ≤ x6 → (¬ (4 : Int32) = 0 ∧ CalS K_LW_cell (d - 1) 0 0 [.ref a0, .int ((2 : Int32) + (x6 - x6 / (4 : Int32) * (4 : Int32)))] μ (fun r μ11 => ∃ y12, r = some (.int y12) ∧ ((x3 ≤ x6 → CalS K_LW_below (d - 1) 0 0 [.int (y12 >>> (x6 &&& 31)), .int x3] μ11 (fun r μ13 => ∃ y14, r = some (.int y14) ∧ Wx K_LW_list d (rc - 0 - 0) (rs - 0 - 0) Q 163 [(0, .ref a0), (1, .ref a1), (2, .ref a2), (3, .int x3), (4, .int x4), (5, .int x5), (6, .int x6), (7, .int (y12 >>> (x6 &&& 31)))] [.int y14] μ13)) ∧ (¬ x3 ≤ x6 → Wx K_LW_list d (rc - 0) (rs - 0) Q 163 [(0, .ref a0), (1, .ref a1), (2, .ref a2), (3, .int x3), (4, .int x4), (5, .int x5), (6, .int x6), (7, .int (y12 >>> (x6 &&& 31)))] [.int x6] μ11))))))) : Wx K_LW_list d rc rs Q 124 [(0, .ref a0), (1, .ref a1), (2, .ref a2), (3, .int x3), (4, .int x4), (5, .int x5), (6, .int x6)] [] μ := by
  refine Wa.iload (j := 6) d_LW_list_124 rfl ?_
  refine Wa.iload (j := 5) d_LW_list_126 rfl ?_
  refine Wa.icmp_ge 312 d_LW_list_128 (by decide) (fun hb => ?_) (fun hb => ?_)
  · have hF := hF.1 hb
    refine Wa.aload_n (j := 2) d_LW_list_312 rfl ?_
    refine Wa.iload (j := 5) d_LW_list_313 rfl ?_
    refine Wa.bipush (v := 60) d_LW_list_315 rfl ?_
    have hc1 := hF.1
    have hF := hF.2
    obtain ⟨q2, κ3, hc4, hF⟩ := hF
    refine Wr.mnew x5.toNatClampNeg 60 q2 κ3 d_LW_list_317 cl_LW_121 hc1.1 hc1.2.1 rfl rfl hc1.2.2.1 hc1.2.2.2.1 hc1.2.2.2.2.1 hc1.2.2.2.2.2 hc4.1 hc4.2.1 hc4.2.2.1 hc4.2.2.2 ?_
    have hc5 := hF.1
    have hF := hF.2
    refine Wr.putR 11 12 d_LW_list_321 f_SI_12 rfl ok_SI fl_LW_123 (Or.inl rfl) hc5.1 hc5.2 ?_
    refine Wa.aload_n (j := 0) d_LW_list_324 rfl ?_
    refine Wa.bipush (v := 6) d_LW_list_325 rfl ?_
    refine Wt.cSi (As := [.ref a0, .int 6]) (d - 1) 0 0 _ d_LW_list_327 mok_LW_cell sl_LW_83 rfl rfl (Nat.le_of_ble_eq_true rfl) (by omega) (Nat.zero_le _) (Nat.zero_le _) hF (fun y7 μ6 hS hF => ?_)
    refine Wa.bipush (v := 11) d_LW_list_330 rfl ?_
    refine Wt.cSi (As := [.int y7, .int 11]) (d - 1) 0 0 _ d_LW_list_332 mok_LW_below sl_LW_89 rfl rfl (Nat.le_of_ble_eq_true rfl) (by omega) (Nat.zero_le _) (Nat.zero_le _) hF (fun y9 μ8 hS hF => ?_)
    refine Wa.istore (i := 6) (L' := [(6, .int y9), (0, .ref a0), (1, .ref a1), (2, .ref a2), (3, .int x3), (4, .int x4), (5, .int x5)]) d_LW_list_335 (by decide) rfl ?_
    exact Wa.loc [1, 2, 3, 4, 5, 6, 0] rfl hF
  · have hF := hF.2 hb
    refine Wa.aload_n (j := 0) d_LW_list_131 rfl ?_
    refine Wa.iconst (v := 2) d_LW_list_132 rfl ?_
    refine Wa.iload (j := 6) d_LW_list_133 rfl ?_
    refine Wa.iconst (v := 4) d_LW_list_135 rfl ?_
    have hc10 := hF.1
    have hF := hF.2
    refine Wa.irem d_LW_list_136 hc10 ?_
    refine Wa.iadd d_LW_list_137 ?_
    refine Wt.cSi (As := [.ref a0, .int ((2 : Int32) + (x6 - x6 / (4 : Int32) * (4 : Int32)))]) (d - 1) 0 0 _ d_LW_list_138 mok_LW_cell sl_LW_83 rfl rfl (Nat.le_of_ble_eq_true rfl) (by omega) (Nat.zero_le _) (Nat.zero_le _) hF (fun y12 μ11 hS hF => ?_)
    refine Wa.iload (j := 6) d_LW_list_141 rfl ?_
    refine Wa.ishr d_LW_list_143 ?_
    refine Wa.istore (i := 7) (L' := [(7, .int (y12 >>> (x6 &&& 31))), (0, .ref a0), (1, .ref a1), (2, .ref a2), (3, .int x3), (4, .int x4), (5, .int x5), (6, .int x6)]) d_LW_list_144 (by decide) rfl ?_
    refine Wa.iload (j := 7) d_LW_list_146 rfl ?_
    refine Wa.iload_n (j := 4) d_LW_list_148 rfl ?_
    refine Wa.icmp_ge 157 d_LW_list_149 (by decide) (fun hb => ?_) (fun hb => ?_)
    · have hF := hF.1 hb
      refine Wa.iload (j := 0) d_LW_list_157 rfl ?_
      refine Wa.iload_n (j := 4) d_LW_list_159 rfl ?_
      refine Wt.cSi (As := [.int (y12 >>> (x6 &&& 31)), .int x3]) (d - 1) 0 0 _ d_LW_list_160 mok_LW_below sl_LW_89 rfl rfl (Nat.le_of_ble_eq_true rfl) (by omega) (Nat.zero_le _) (Nat.zero_le _) hF (fun y14 μ13 hS hF => ?_)
      exact Wa.loc [1, 2, 3, 4, 5, 6, 7, 0] rfl hF
    · have hF := hF.2 hb
      refine Wa.iload (j := 7) d_LW_list_152 rfl ?_
      refine Wa.goto 163 d_LW_list_154 (by decide) ?_
      exact Wa.loc [1, 2, 3, 4, 5, 6, 7, 0] rfl hF
set_option maxHeartbeats 4000000 in
set_option maxRecDepth 20000 in
theorem y_LW_list_163 {d rc rs : Nat} {Q : Option Value → Mu → Prop} {μ : Mu} {a0 : Nat} {a1 : Nat} {a2 : Nat} {x3 : Int32} {x4 : Int32} {x5 : Int32} {x6 : Int32} {x7 : Int32} {z0 : Int32} (hD : 1 ≤ d)
    (hF : ((x3 ≤ x6 → CalS K_LW_below (d - 1) 0 0 [.int (x7 >>> ((2 : Int32) &&& 31)), .int (x3 - (1 : Int32))] μ (fun r μ1 => ∃ y2, r = some (.int y2) ∧ (¬ x3 = 0 ∧ (mS μ1 a2 = (1, 11) ∧ (∃ b5, gR μ1 a2 11 = some b5 ∧ ((¬ (4 : Int32) < 0 ∧ 4 ≤ 1000000 ∧ 1 ≤ rc - 0 ∧ 4 ≤ rs - 0) ∧ (∃ q8, FreN μ1 q8 ∧ (∃ n10, (mS (mkA μ1 q8 (2, 4)) q8 = (2, n10) ∧ vp_in (0 : Int32) n10 ∧ hiN q8) ∧ (∃ n12, (mS (setI (mkA μ1 q8 (2, 4)) q8 (0 : Int32).toNatClampNeg z0) q8 = (2, n12) ∧ vp_in (1 : Int32) n12 ∧ hiN q8) ∧ CalS K_LW_below (d - 1) 0 0 [.int (x7 >>> ((6 : Int32) &&& 31)), .int 3] (setI (setI (mkA μ1 q8 (2, 4)) q8 (0 : Int32).toNatClampNeg z0) q8 (1 : Int32).toNatClampNeg ((z0 + ((1 : Int32) + y2)) - (z0 + ((1 : Int32) + y2)) / x3 * x3)) (fun r μ14 => ∃ y15, r = some (.int y15) ∧ ((y15 = 0 → CalS K_LW_below (d - 1) 0 0 [.int (x7 >>> ((4 : Int32) &&& 31)), .int 9] μ14 (fun r μ91 => ∃ y92, r = some (.int y92) ∧ (∃ n93, (mS μ91 q8 = (2, n93) ∧ vp_in (2 : Int32) n93 ∧ hiN q8) ∧ (∃ n95, (mS (setI μ91 q8 (2 : Int32).toNatClampNeg ((1 : Int32) + y92)) q8 = (2, n95) ∧ vp_in (3 : Int32) n95 ∧ hiN q8) ∧ (∃ cc97 ss98 : Nat, (cc97 ≤ rc - 0 - 1 - 0 - 0 ∧ ss98 ≤ rs - 0 - 4 - 0 - 0) ∧ CalS K_SI_with (d - 1) cc97 ss98 [.ref b5, .ref q8] (setI (setI μ91 q8 (2 : Int32).toNatClampNeg ((1 : Int32) + y92)) q8 (3 : Int32).toNatClampNeg 0) (fun r μ100 => ∃ b101, r = some (.ref b101) ∧ ((mS μ100 a2 = (1, 11) ∧ hiN a2) ∧ (∃ cc103 ss104 : Nat, (cc103 ≤ rc - 0 - 1 - 0 - 0 - cc97 ∧ ss104 ≤ rs - 0 - 4 - 0 - 0 - ss98) ∧ (mS (setR μ100 a2 11 b101) a1 = (1, 12) ∧ CalS K_SB_append_15ec4 (d - 1) cc103 ss104 [.ref a1, .ref (hd 1 65)] (setR μ100 a2 11 b101) (fun r μ106 => ∃ b108, r = some (.ref b108) ∧ (∃ cc109 ss110 : Nat, (cc109 ≤ rc - 0 - 1 - 0 - 0 - cc97 - cc103 ∧ ss110 ≤ rs - 0 - 4 - 0 - 0 - ss98 - ss104) ∧ (mS μ106 b108 = (1, 12) ∧ CalS K_SB_append_bf812 (d - 1) cc109 ss110 [.ref b108, .int x6] μ106 (fun r μ112 => ∃ b114, r = some (.ref b114) ∧ (∃ cc115 ss116 : Nat, (cc115 ≤ rc - 0 - 1 - 0 - 0 - cc97 - cc103 - cc109 ∧ ss116 ≤ rs - 0 - 4 - 0 - 0 - ss98 - ss104 - ss110) ∧ (mS μ112 b114 = (1, 12) ∧ CalS K_SB_append_15ec4 (d - 1) cc115 ss116 [.ref b114, .ref (hd 1 66)] μ112 (fun r μ118 => ∃ b120, r = some (.ref b120) ∧ (∃ cc121 ss122 : Nat, (cc121 ≤ rc - 0 - 1 - 0 - 0 - cc97 - cc103 - cc109 - cc115 ∧ ss122 ≤ rs - 0 - 4 - 0 - 0 - ss98 - ss104 - ss110 - ss116) ∧ (mS μ118 b120 = (1, 12) ∧ CalS K_SB_append_bf812 (d - 1) cc121 ss122 [.ref b120, .int z0] μ118 (fun r μ124 => ∃ b126, r = some (.ref b126) ∧ (∃ cc127 ss128 : Nat, (cc127 ≤ rc - 0 - 1 - 0 - 0 - cc97 - cc103 - cc109 - cc115 - cc121 ∧ ss128 ≤ rs - 0 - 4 - 0 - 0 - ss98 - ss104 - ss110 - ss116 - ss122) ∧ (mS μ124 b126 = (1, 12) ∧ CalS K_SB_append_15ec4 (d - 1) cc127 ss128 [.ref b126, .ref (hd 1 67)] μ124 (fun r μ130 => ∃ b132, r = some (.ref b132) ∧ (∃ cc133 ss134 : Nat, (cc133 ≤ rc - 0 - 1 - 0 - 0 - cc97 - cc103 - cc109 - cc115 - cc121 - cc127 ∧ ss134 ≤ rs - 0 - 4 - 0 - 0 - ss98 - ss104 - ss110 - ss116 - ss122 - ss128) ∧ (mS μ130 b132 = (1, 12) ∧ CalS K_SB_append_bf812 (d - 1) cc133 ss134 [.ref b132, .int ((z0 + ((1 : Int32) + y2)) - (z0 + ((1 : Int32) + y2)) / x3 * x3)] μ130 (fun r μ136 => ∃ b138, r = some (.ref b138) ∧ (∃ cc139 ss140 : Nat, (cc139 ≤ rc - 0 - 1 - 0 - 0 - cc97 - cc103 - cc109 - cc115 - cc121 - cc127 - cc133 ∧ ss140 ≤ rs - 0 - 4 - 0 - 0 - ss98 - ss104 - ss110 - ss116 - ss122 - ss128 - ss134) ∧ (mS μ136 b138 = (1, 12) ∧ CalS K_SB_append_15ec4 (d - 1) cc139 ss140 [.ref b138, .ref (hd 1 68)] μ136 (fun r μ142 => ∃ b144, r = some (.ref b144) ∧ (mS μ142 a2 = (1, 11) ∧ (∃ b146, gR μ142 a2 11 = some b146 ∧ (∃ n148, (mS μ142 b146 = (40, n148) ∧ vp_in x6 n148) ∧ (∃ b150, gR μ142 b146 x6.toNatClampNeg = some b150 ∧ (∃ n152, (mS μ142 b150 = (2, n152) ∧ vp_in (2 : Int32) n152) ∧ (∃ cc154 ss155 : Nat, (cc154 ≤ rc - 0 - 1 - 0 - 0 - cc97 - cc103 - cc109 - cc115 - cc121 - cc127 - cc133 - cc139 ∧ ss155 ≤ rs - 0 - 4 - 0 - 0 - ss98 - ss104 - ss110 - ss116 - ss122 - ss128 - ss134 - ss140) ∧ (mS μ142 b144 = (1, 12) ∧ CalS K_SB_append_bf812 (d - 1) cc154 ss155 [.ref b144, .int (gI μ142 b150 (2 : Int32).toNatClampNeg)] μ142 (fun r μ157 => ∃ b159, r = some (.ref b159) ∧ (∃ cc160 ss161 : Nat, (cc160 ≤ rc - 0 - 1 - 0 - 0 - cc97 - cc103 - cc109 - cc115 - cc121 - cc127 - cc133 - cc139 - cc154 ∧ ss161 ≤ rs - 0 - 4 - 0 - 0 - ss98 - ss104 - ss110 - ss116 - ss122 - ss128 - ss134 - ss140 - ss155) ∧ (mS μ157 b159 = (1, 12) ∧ CalS K_SB_append_15ec4 (d - 1) cc160 ss161 [.ref b159, .ref (hd 1 69)] μ157 (fun r μ163 => ∃ b165, r = some (.ref b165) ∧ Wx K_LW_list d (rc - 0 - 1 - 0 - 0 - cc97 - cc103 - cc109 - cc115 - cc121 - cc127 - cc133 - cc139 - cc154 - cc160) (rs - 0 - 4 - 0 - 0 - ss98 - ss104 - ss110 - ss116 - ss122 - ss128 - ss134 - ss140 - ss155 - ss161) Q 124 [(0, .ref a0), (1, .ref a1), (2, .ref a2), (3, .int x3), (4, .int x4), (5, .int x5), (6, .int (x6 + 1))] [] μ163))))))))))))))))))))))))))))))))))))))) ∧ (¬ y15 = 0 → CalS K_LW_below (d - 1) 0 0 [.int (x7 >>> ((4 : Int32) &&& 31)), .int 3] μ14 (fun r μ16 => ∃ y17, r = some (.int y17) ∧ (∃ n18, (mS μ16 q8 = (2, n18) ∧ vp_in (2 : Int32) n18 ∧ hiN q8) ∧ (∃ n20, (mS (setI μ16 q8 (2 : Int32).toNatClampNeg ((1 : Int32) + y17)) q8 = (2, n20) ∧ vp_in (3 : Int32) n20 ∧ hiN q8) ∧ (∃ cc22 ss23 : Nat, (cc22 ≤ rc - 0 - 1 - 0 - 0 ∧ ss23 ≤ rs - 0 - 4 - 0 - 0) ∧ CalS K_SI_with (d - 1) cc22 ss23 [.ref b5, .ref q8] (setI (setI μ16 q8 (2 : Int32).toNatClampNeg ((1 : Int32) + y17)) q8 (3 : Int32).toNatClampNeg 0) (fun r μ25 => ∃ b26, r = some (.ref b26) ∧ ((mS μ25 a2 = (1, 11) ∧ hiN a2) ∧ (∃ cc28 ss29 : Nat, (cc28 ≤ rc - 0 - 1 - 0 - 0 - cc22 ∧ ss29 ≤ rs - 0 - 4 - 0 - 0 - ss23) ∧ (mS (setR μ25 a2 11 b26) a1 = (1, 12) ∧ CalS K_SB_append_15ec4 (d - 1) cc28 ss29 [.ref a1, .ref (hd 1 65)] (setR μ25 a2 11 b26) (fun r μ31 => ∃ b33, r = some (.ref b33) ∧ (∃ cc34 ss35 : Nat, (cc34 ≤ rc - 0 - 1 - 0 - 0 - cc22 - cc28 ∧ ss35 ≤ rs - 0 - 4 - 0 - 0 - ss23 - ss29) ∧ (mS μ31 b33 = (1, 12) ∧ CalS K_SB_append_bf812 (d - 1) cc34 ss35 [.ref b33, .int x6] μ31 (fun r μ37 => ∃ b39, r = some (.ref b39) ∧ (∃ cc40 ss41 : Nat, (cc40 ≤ rc - 0 - 1 - 0 - 0 - cc22 - cc28 - cc34 ∧ ss41 ≤ rs - 0 - 4 - 0 - 0 - ss23 - ss29 - ss35) ∧ (mS μ37 b39 = (1, 12) ∧ CalS K_SB_append_15ec4 (d - 1) cc40 ss41 [.ref b39, .ref (hd 1 66)] μ37 (fun r μ43 => ∃ b45, r = some (.ref b45) ∧ (∃ cc46 ss47 : Nat, (cc46 ≤ rc - 0 - 1 - 0 - 0 - cc22 - cc28 - cc34 - cc40 ∧ ss47 ≤ rs - 0 - 4 - 0 - 0 - ss23 - ss29 - ss35 - ss41) ∧ (mS μ43 b45 = (1, 12) ∧ CalS K_SB_append_bf812 (d - 1) cc46 ss47 [.ref b45, .int z0] μ43 (fun r μ49 => ∃ b51, r = some (.ref b51) ∧ (∃ cc52 ss53 : Nat, (cc52 ≤ rc - 0 - 1 - 0 - 0 - cc22 - cc28 - cc34 - cc40 - cc46 ∧ ss53 ≤ rs - 0 - 4 - 0 - 0 - ss23 - ss29 - ss35 - ss41 - ss47) ∧ (mS μ49 b51 = (1, 12) ∧ CalS K_SB_append_15ec4 (d - 1) cc52 ss53 [.ref b51, .ref (hd 1 67)] μ49 (fun r μ55 => ∃ b57, r = some (.ref b57) ∧ (∃ cc58 ss59 : Nat, (cc58 ≤ rc - 0 - 1 - 0 - 0 - cc22 - cc28 - cc34 - cc40 - cc46 - cc52 ∧ ss59 ≤ rs - 0 - 4 - 0 - 0 - ss23 - ss29 - ss35 - ss41 - ss47 - ss53) ∧ (mS μ55 b57 = (1, 12) ∧ CalS K_SB_append_bf812 (d - 1) cc58 ss59 [.ref b57, .int ((z0 + ((1 : Int32) + y2)) - (z0 + ((1 : Int32) + y2)) / x3 * x3)] μ55 (fun r μ61 => ∃ b63, r = some (.ref b63) ∧ (∃ cc64 ss65 : Nat, (cc64 ≤ rc - 0 - 1 - 0 - 0 - cc22 - cc28 - cc34 - cc40 - cc46 - cc52 - cc58 ∧ ss65 ≤ rs - 0 - 4 - 0 - 0 - ss23 - ss29 - ss35 - ss41 - ss47 - ss53 - ss59) ∧ (mS μ61 b63 = (1, 12) ∧ CalS K_SB_append_15ec4 (d - 1) cc64 ss65 [.ref b63, .ref (hd 1 68)] μ61 (fun r μ67 => ∃ b69, r = some (.ref b69) ∧ (mS μ67 a2 = (1, 11) ∧ (∃ b71, gR μ67 a2 11 = some b71 ∧ (∃ n73, (mS μ67 b71 = (40, n73) ∧ vp_in x6 n73) ∧ (∃ b75, gR μ67 b71 x6.toNatClampNeg = some b75 ∧ (∃ n77, (mS μ67 b75 = (2, n77) ∧ vp_in (2 : Int32) n77) ∧ (∃ cc79 ss80 : Nat, (cc79 ≤ rc - 0 - 1 - 0 - 0 - cc22 - cc28 - cc34 - cc40 - cc46 - cc52 - cc58 - cc64 ∧ ss80 ≤ rs - 0 - 4 - 0 - 0 - ss23 - ss29 - ss35 - ss41 - ss47 - ss53 - ss59 - ss65) ∧ (mS μ67 b69 = (1, 12) ∧ CalS K_SB_append_bf812 (d - 1) cc79 ss80 [.ref b69, .int (gI μ67 b75 (2 : Int32).toNatClampNeg)] μ67 (fun r μ82 => ∃ b84, r = some (.ref b84) ∧ (∃ cc85 ss86 : Nat, (cc85 ≤ rc - 0 - 1 - 0 - 0 - cc22 - cc28 - cc34 - cc40 - cc46 - cc52 - cc58 - cc64 - cc79 ∧ ss86 ≤ rs - 0 - 4 - 0 - 0 - ss23 - ss29 - ss35 - ss41 - ss47 - ss53 - ss59 - ss65 - ss80) ∧ (mS μ82 b84 = (1, 12) ∧ CalS K_SB_append_15ec4 (d - 1) cc85 ss86 [.ref b84, .ref (hd 1 69)] μ82 (fun r μ88 => ∃ b90, r = some (.ref b90) ∧ Wx K_LW_list d (rc - 0 - 1 - 0 - 0 - cc22 - cc28 - cc34 - cc40 - cc46 - cc52 - cc58 - cc64 - cc79 - cc85) (rs - 0 - 4 - 0 - 0 - ss23 - ss29 - ss35 - ss41 - ss47 - ss53 - ss59 - ss65 - ss80 - ss86) Q 124 [(0, .ref a0), (1, .ref a1), (2, .ref a2), (3, .int x3), (4, .int x4), (5, .int x5), (6, .int (x6 + 1))] [] μ88)))))))))))))))))))))))))))))))))))))))))))))))))) ∧ (¬ x3 ≤ x6 → (¬ x3 = 0 ∧ (mS μ a2 = (1, 11) ∧ (∃ b168, gR μ a2 11 = some b168 ∧ ((¬ (4 : Int32) < 0 ∧ 4 ≤ 1000000 ∧ 1 ≤ rc ∧ 4 ≤ rs) ∧ (∃ q171, FreN μ q171 ∧ (∃ n173, (mS (mkA μ q171 (2, 4)) q171 = (2, n173) ∧ vp_in (0 : Int32) n173 ∧ hiN q171) ∧ (∃ n175, (mS (setI (mkA μ q171 (2, 4)) q171 (0 : Int32).toNatClampNeg z0) q171 = (2, n175) ∧ vp_in (1 : Int32) n175 ∧ hiN q171) ∧ CalS K_LW_below (d - 1) 0 0 [.int (x7 >>> ((6 : Int32) &&& 31)), .int 3] (setI (setI (mkA μ q171 (2, 4)) q171 (0 : Int32).toNatClampNeg z0) q171 (1 : Int32).toNatClampNeg ((z0 + (1 : Int32)) - (z0 + (1 : Int32)) / x3 * x3)) (fun r μ177 => ∃ y178, r = some (.int y178) ∧ ((y178 = 0 → CalS K_LW_below (d - 1) 0 0 [.int (x7 >>> ((4 : Int32) &&& 31)), .int 9] μ177 (fun r μ254 => ∃ y255, r = some (.int y255) ∧ (∃ n256, (mS μ254 q171 = (2, n256) ∧ vp_in (2 : Int32) n256 ∧ hiN q171) ∧ (∃ n258, (mS (setI μ254 q171 (2 : Int32).toNatClampNeg ((1 : Int32) + y255)) q171 = (2, n258) ∧ vp_in (3 : Int32) n258 ∧ hiN q171) ∧ (∃ cc260 ss261 : Nat, (cc260 ≤ rc - 1 - 0 - 0 ∧ ss261 ≤ rs - 4 - 0 - 0) ∧ CalS K_SI_with (d - 1) cc260 ss261 [.ref b168, .ref q171] (setI (setI μ254 q171 (2 : Int32).toNatClampNeg ((1 : Int32) + y255)) q171 (3 : Int32).toNatClampNeg 0) (fun r μ263 => ∃ b264, r = some (.ref b264) ∧ ((mS μ263 a2 = (1, 11) ∧ hiN a2) ∧ (∃ cc266 ss267 : Nat, (cc266 ≤ rc - 1 - 0 - 0 - cc260 ∧ ss267 ≤ rs - 4 - 0 - 0 - ss261) ∧ (mS (setR μ263 a2 11 b264) a1 = (1, 12) ∧ CalS K_SB_append_15ec4 (d - 1) cc266 ss267 [.ref a1, .ref (hd 1 65)] (setR μ263 a2 11 b264) (fun r μ269 => ∃ b271, r = some (.ref b271) ∧ (∃ cc272 ss273 : Nat, (cc272 ≤ rc - 1 - 0 - 0 - cc260 - cc266 ∧ ss273 ≤ rs - 4 - 0 - 0 - ss261 - ss267) ∧ (mS μ269 b271 = (1, 12) ∧ CalS K_SB_append_bf812 (d - 1) cc272 ss273 [.ref b271, .int x6] μ269 (fun r μ275 => ∃ b277, r = some (.ref b277) ∧ (∃ cc278 ss279 : Nat, (cc278 ≤ rc - 1 - 0 - 0 - cc260 - cc266 - cc272 ∧ ss279 ≤ rs - 4 - 0 - 0 - ss261 - ss267 - ss273) ∧ (mS μ275 b277 = (1, 12) ∧ CalS K_SB_append_15ec4 (d - 1) cc278 ss279 [.ref b277, .ref (hd 1 66)] μ275 (fun r μ281 => ∃ b283, r = some (.ref b283) ∧ (∃ cc284 ss285 : Nat, (cc284 ≤ rc - 1 - 0 - 0 - cc260 - cc266 - cc272 - cc278 ∧ ss285 ≤ rs - 4 - 0 - 0 - ss261 - ss267 - ss273 - ss279) ∧ (mS μ281 b283 = (1, 12) ∧ CalS K_SB_append_bf812 (d - 1) cc284 ss285 [.ref b283, .int z0] μ281 (fun r μ287 => ∃ b289, r = some (.ref b289) ∧ (∃ cc290 ss291 : Nat, (cc290 ≤ rc - 1 - 0 - 0 - cc260 - cc266 - cc272 - cc278 - cc284 ∧ ss291 ≤ rs - 4 - 0 - 0 - ss261 - ss267 - ss273 - ss279 - ss285) ∧ (mS μ287 b289 = (1, 12) ∧ CalS K_SB_append_15ec4 (d - 1) cc290 ss291 [.ref b289, .ref (hd 1 67)] μ287 (fun r μ293 => ∃ b295, r = some (.ref b295) ∧ (∃ cc296 ss297 : Nat, (cc296 ≤ rc - 1 - 0 - 0 - cc260 - cc266 - cc272 - cc278 - cc284 - cc290 ∧ ss297 ≤ rs - 4 - 0 - 0 - ss261 - ss267 - ss273 - ss279 - ss285 - ss291) ∧ (mS μ293 b295 = (1, 12) ∧ CalS K_SB_append_bf812 (d - 1) cc296 ss297 [.ref b295, .int ((z0 + (1 : Int32)) - (z0 + (1 : Int32)) / x3 * x3)] μ293 (fun r μ299 => ∃ b301, r = some (.ref b301) ∧ (∃ cc302 ss303 : Nat, (cc302 ≤ rc - 1 - 0 - 0 - cc260 - cc266 - cc272 - cc278 - cc284 - cc290 - cc296 ∧ ss303 ≤ rs - 4 - 0 - 0 - ss261 - ss267 - ss273 - ss279 - ss285 - ss291 - ss297) ∧ (mS μ299 b301 = (1, 12) ∧ CalS K_SB_append_15ec4 (d - 1) cc302 ss303 [.ref b301, .ref (hd 1 68)] μ299 (fun r μ305 => ∃ b307, r = some (.ref b307) ∧ (mS μ305 a2 = (1, 11) ∧ (∃ b309, gR μ305 a2 11 = some b309 ∧ (∃ n311, (mS μ305 b309 = (40, n311) ∧ vp_in x6 n311) ∧ (∃ b313, gR μ305 b309 x6.toNatClampNeg = some b313 ∧ (∃ n315, (mS μ305 b313 = (2, n315) ∧ vp_in (2 : Int32) n315) ∧ (∃ cc317 ss318 : Nat, (cc317 ≤ rc - 1 - 0 - 0 - cc260 - cc266 - cc272 - cc278 - cc284 - cc290 - cc296 - cc302 ∧ ss318 ≤ rs - 4 - 0 - 0 - ss261 - ss267 - ss273 - ss279 - ss285 - ss291 - ss297 - ss303) ∧ (mS μ305 b307 = (1, 12) ∧ CalS K_SB_append_bf812 (d - 1) cc317 ss318 [.ref b307, .int (gI μ305 b313 (2 : Int32).toNatClampNeg)] μ305 (fun r μ320 => ∃ b322, r = some (.ref b322) ∧ (∃ cc323 ss324 : Nat, (cc323 ≤ rc - 1 - 0 - 0 - cc260 - cc266 - cc272 - cc278 - cc284 - cc290 - cc296 - cc302 - cc317 ∧ ss324 ≤ rs - 4 - 0 - 0 - ss261 - ss267 - ss273 - ss279 - ss285 - ss291 - ss297 - ss303 - ss318) ∧ (mS μ320 b322 = (1, 12) ∧ CalS K_SB_append_15ec4 (d - 1) cc323 ss324 [.ref b322, .ref (hd 1 69)] μ320 (fun r μ326 => ∃ b328, r = some (.ref b328) ∧ Wx K_LW_list d (rc - 1 - 0 - 0 - cc260 - cc266 - cc272 - cc278 - cc284 - cc290 - cc296 - cc302 - cc317 - cc323) (rs - 4 - 0 - 0 - ss261 - ss267 - ss273 - ss279 - ss285 - ss291 - ss297 - ss303 - ss318 - ss324) Q 124 [(0, .ref a0), (1, .ref a1), (2, .ref a2), (3, .int x3), (4, .int x4), (5, .int x5), (6, .int (x6 + 1))] [] μ326))))))))))))))))))))))))))))))))))))))) ∧ (¬ y178 = 0 → CalS K_LW_below (d - 1) 0 0 [.int (x7 >>> ((4 : Int32) &&& 31)), .int 3] μ177 (fun r μ179 => ∃ y180, r = some (.int y180) ∧ (∃ n181, (mS μ179 q171 = (2, n181) ∧ vp_in (2 : Int32) n181 ∧ hiN q171) ∧ (∃ n183, (mS (setI μ179 q171 (2 : Int32).toNatClampNeg ((1 : Int32) + y180)) q171 = (2, n183) ∧ vp_in (3 : Int32) n183 ∧ hiN q171) ∧ (∃ cc185 ss186 : Nat, (cc185 ≤ rc - 1 - 0 - 0 ∧ ss186 ≤ rs - 4 - 0 - 0) ∧ CalS K_SI_with (d - 1) cc185 ss186 [.ref b168, .ref q171] (setI (setI μ179 q171 (2 : Int32).toNatClampNeg ((1 : Int32) + y180)) q171 (3 : Int32).toNatClampNeg 0) (fun r μ188 => ∃ b189, r = some (.ref b189) ∧ ((mS μ188 a2 = (1, 11) ∧ hiN a2) ∧ (∃ cc191 ss192 : Nat, (cc191 ≤ rc - 1 - 0 - 0 - cc185 ∧ ss192 ≤ rs - 4 - 0 - 0 - ss186) ∧ (mS (setR μ188 a2 11 b189) a1 = (1, 12) ∧ CalS K_SB_append_15ec4 (d - 1) cc191 ss192 [.ref a1, .ref (hd 1 65)] (setR μ188 a2 11 b189) (fun r μ194 => ∃ b196, r = some (.ref b196) ∧ (∃ cc197 ss198 : Nat, (cc197 ≤ rc - 1 - 0 - 0 - cc185 - cc191 ∧ ss198 ≤ rs - 4 - 0 - 0 - ss186 - ss192) ∧ (mS μ194 b196 = (1, 12) ∧ CalS K_SB_append_bf812 (d - 1) cc197 ss198 [.ref b196, .int x6] μ194 (fun r μ200 => ∃ b202, r = some (.ref b202) ∧ (∃ cc203 ss204 : Nat, (cc203 ≤ rc - 1 - 0 - 0 - cc185 - cc191 - cc197 ∧ ss204 ≤ rs - 4 - 0 - 0 - ss186 - ss192 - ss198) ∧ (mS μ200 b202 = (1, 12) ∧ CalS K_SB_append_15ec4 (d - 1) cc203 ss204 [.ref b202, .ref (hd 1 66)] μ200 (fun r μ206 => ∃ b208, r = some (.ref b208) ∧ (∃ cc209 ss210 : Nat, (cc209 ≤ rc - 1 - 0 - 0 - cc185 - cc191 - cc197 - cc203 ∧ ss210 ≤ rs - 4 - 0 - 0 - ss186 - ss192 - ss198 - ss204) ∧ (mS μ206 b208 = (1, 12) ∧ CalS K_SB_append_bf812 (d - 1) cc209 ss210 [.ref b208, .int z0] μ206 (fun r μ212 => ∃ b214, r = some (.ref b214) ∧ (∃ cc215 ss216 : Nat, (cc215 ≤ rc - 1 - 0 - 0 - cc185 - cc191 - cc197 - cc203 - cc209 ∧ ss216 ≤ rs - 4 - 0 - 0 - ss186 - ss192 - ss198 - ss204 - ss210) ∧ (mS μ212 b214 = (1, 12) ∧ CalS K_SB_append_15ec4 (d - 1) cc215 ss216 [.ref b214, .ref (hd 1 67)] μ212 (fun r μ218 => ∃ b220, r = some (.ref b220) ∧ (∃ cc221 ss222 : Nat, (cc221 ≤ rc - 1 - 0 - 0 - cc185 - cc191 - cc197 - cc203 - cc209 - cc215 ∧ ss222 ≤ rs - 4 - 0 - 0 - ss186 - ss192 - ss198 - ss204 - ss210 - ss216) ∧ (mS μ218 b220 = (1, 12) ∧ CalS K_SB_append_bf812 (d - 1) cc221 ss222 [.ref b220, .int ((z0 + (1 : Int32)) - (z0 + (1 : Int32)) / x3 * x3)] μ218 (fun r μ224 => ∃ b226, r = some (.ref b226) ∧ (∃ cc227 ss228 : Nat, (cc227 ≤ rc - 1 - 0 - 0 - cc185 - cc191 - cc197 - cc203 - cc209 - cc215 - cc221 ∧ ss228 ≤ rs - 4 - 0 - 0 - ss186 - ss192 - ss198 - ss204 - ss210 - ss216 - ss222) ∧ (mS μ224 b226 = (1, 12) ∧ CalS K_SB_append_15ec4 (d - 1) cc227 ss228 [.ref b226, .ref (hd 1 68)] μ224 (fun r μ230 => ∃ b232, r = some (.ref b232) ∧ (mS μ230 a2 = (1, 11) ∧ (∃ b234, gR μ230 a2 11 = some b234 ∧ (∃ n236, (mS μ230 b234 = (40, n236) ∧ vp_in x6 n236) ∧ (∃ b238, gR μ230 b234 x6.toNatClampNeg = some b238 ∧ (∃ n240, (mS μ230 b238 = (2, n240) ∧ vp_in (2 : Int32) n240) ∧ (∃ cc242 ss243 : Nat, (cc242 ≤ rc - 1 - 0 - 0 - cc185 - cc191 - cc197 - cc203 - cc209 - cc215 - cc221 - cc227 ∧ ss243 ≤ rs - 4 - 0 - 0 - ss186 - ss192 - ss198 - ss204 - ss210 - ss216 - ss222 - ss228) ∧ (mS μ230 b232 = (1, 12) ∧ CalS K_SB_append_bf812 (d - 1) cc242 ss243 [.ref b232, .int (gI μ230 b238 (2 : Int32).toNatClampNeg)] μ230 (fun r μ245 => ∃ b247, r = some (.ref b247) ∧ (∃ cc248 ss249 : Nat, (cc248 ≤ rc - 1 - 0 - 0 - cc185 - cc191 - cc197 - cc203 - cc209 - cc215 - cc221 - cc227 - cc242 ∧ ss249 ≤ rs - 4 - 0 - 0 - ss186 - ss192 - ss198 - ss204 - ss210 - ss216 - ss222 - ss228 - ss243) ∧ (mS μ245 b247 = (1, 12) ∧ CalS K_SB_append_15ec4 (d - 1) cc248 ss249 [.ref b247, .ref (hd 1 69)] μ245 (fun r μ251 => ∃ b253, r = some (.ref b253) ∧ Wx K_LW_list d (rc - 1 - 0 - 0 - cc185 - cc191 - cc197 - cc203 - cc209 - cc215 - cc221 - cc227 - cc242 - cc248) (rs - 4 - 0 - 0 - ss186 - ss192 - ss198 - ss204 - ss210 - ss216 - ss222 - ss228 - ss243 - ss249) Q 124 [(0, .ref a0), (1, .ref a1), (2, .ref a2), (3, .int x3), (4, .int x4), (5, .int x5), (6, .int (x6 + 1))] [] μ251))))))))))))))))))))))))))))))))))))))))))))))))))) : Wx K_LW_list d rc rs Q 163 [(0, .ref a0), (1, .ref a1), (2, .ref a2), (3, .int x3), (4, .int x4), (5, .int x5), (6, .int x6), (7, .int x7)] [.int z0] μ := by
  refine Wa.istore (i := 8) (L' := [(8, .int z0), (0, .ref a0), (1, .ref a1), (2, .ref a2), (3, .int x3), (4, .int x4), (5, .int x5), (6, .int x6), (7, .int x7)]) d_LW_list_163 (by decide) rfl ?_
  refine Wa.iload (j := 0) d_LW_list_165 rfl ?_
  refine Wa.iload (j := 7) d_LW_list_167 rfl ?_
  refine Wa.iload_n (j := 4) d_LW_list_169 rfl ?_
  refine Wa.icmp_ge 177 d_LW_list_170 (by decide) (fun hb => ?_) (fun hb => ?_)
  · have hF := hF.1 hb
    refine Wa.iconst (v := 1) d_LW_list_177 rfl ?_
    refine Wa.iload (j := 8) d_LW_list_178 rfl ?_
    refine Wa.iconst (v := 2) d_LW_list_180 rfl ?_
    refine Wa.ishr d_LW_list_181 ?_
    refine Wa.iload_n (j := 4) d_LW_list_182 rfl ?_
    refine Wa.iconst (v := 1) d_LW_list_183 rfl ?_
    refine Wa.isub d_LW_list_184 ?_
    refine Wt.cSi (As := [.int (x7 >>> ((2 : Int32) &&& 31)), .int (x3 - (1 : Int32))]) (d - 1) 0 0 _ d_LW_list_185 mok_LW_below sl_LW_89 rfl rfl (Nat.le_of_ble_eq_true rfl) (by omega) (Nat.zero_le _) (Nat.zero_le _) hF (fun y2 μ1 hS hF => ?_)
    refine Wa.iadd d_LW_list_188 ?_
    refine Wa.iadd d_LW_list_189 ?_
    refine Wa.iload_n (j := 4) d_LW_list_190 rfl ?_
    have hc3 := hF.1
    have hF := hF.2
    refine Wa.irem d_LW_list_191 hc3 ?_
    refine Wa.istore (i := 9) (L' := [(9, .int ((z0 + ((1 : Int32) + y2)) - (z0 + ((1 : Int32) + y2)) / x3 * x3)), (8, .int z0), (0, .ref a0), (1, .ref a1), (2, .ref a2), (3, .int x3), (4, .int x4), (5, .int x5), (6, .int x6), (7, .int x7)]) d_LW_list_192 (by decide) rfl ?_
    refine Wa.aload_n (j := 4) d_LW_list_194 rfl ?_
    refine Wa.aload_n (j := 4) d_LW_list_195 rfl ?_
    have hc4 := hF.1
    have hF := hF.2
    obtain ⟨b5, hc6, hF⟩ := hF
    refine Wr.getR 11 11 d_LW_list_196 f_SI_11 rfl fl_LW_103 hc4 hc6 ?_
    refine Wa.iconst (v := 4) d_LW_list_199 rfl ?_
    have hc7 := hF.1
    have hF := hF.2
    obtain ⟨q8, hc9, hF⟩ := hF
    refine Wr.newarr 2 4 q8 d_LW_list_200 ac_int rfl (by decide) hc7.1 rfl hc7.2.1 hc7.2.2.1 hc7.2.2.2 hc9 ?_
    refine Wa.dup d_LW_list_202 rfl ?_
    refine Wa.iconst (v := 0) d_LW_list_203 rfl ?_
    refine Wa.iload (j := 1) d_LW_list_204 rfl ?_
    obtain ⟨n10, hc11, hF⟩ := hF
    refine Wr.iast d_LW_list_206 hc11.1 hc11.2.1 hc11.2.2 ?_
    refine Wa.dup d_LW_list_207 rfl ?_
    refine Wa.iconst (v := 1) d_LW_list_208 rfl ?_
    refine Wa.iload (j := 0) d_LW_list_209 rfl ?_
    obtain ⟨n12, hc13, hF⟩ := hF
    refine Wr.iast d_LW_list_211 hc13.1 hc13.2.1 hc13.2.2 ?_
    refine Wa.dup d_LW_list_212 rfl ?_
    refine Wa.iconst (v := 2) d_LW_list_213 rfl ?_
    refine Wa.iconst (v := 1) d_LW_list_214 rfl ?_
    refine Wa.iload (j := 9) d_LW_list_215 rfl ?_
    refine Wa.iconst (v := 4) d_LW_list_217 rfl ?_
    refine Wa.ishr d_LW_list_218 ?_
    refine Wa.iload (j := 9) d_LW_list_219 rfl ?_
    refine Wa.bipush (v := 6) d_LW_list_221 rfl ?_
    refine Wa.ishr d_LW_list_223 ?_
    refine Wa.iconst (v := 3) d_LW_list_224 rfl ?_
    refine Wt.cSi (As := [.int (x7 >>> ((6 : Int32) &&& 31)), .int 3]) (d - 1) 0 0 _ d_LW_list_225 mok_LW_below sl_LW_89 rfl rfl (Nat.le_of_ble_eq_true rfl) (by omega) (Nat.zero_le _) (Nat.zero_le _) hF (fun y15 μ14 hS hF => ?_)
    refine Wa.if_ne 236 d_LW_list_228 (by decide) (fun hb => ?_) (fun hb => ?_)
    · have hF := hF.2 hb
      refine Wa.iconst (v := 3) d_LW_list_236 rfl ?_
      refine Wt.cSi (As := [.int (x7 >>> ((4 : Int32) &&& 31)), .int 3]) (d - 1) 0 0 _ d_LW_list_237 mok_LW_below sl_LW_89 rfl rfl (Nat.le_of_ble_eq_true rfl) (by omega) (Nat.zero_le _) (Nat.zero_le _) hF (fun y17 μ16 hS hF => ?_)
      refine Wa.iadd d_LW_list_240 ?_
      obtain ⟨n18, hc19, hF⟩ := hF
      refine Wr.iast d_LW_list_241 hc19.1 hc19.2.1 hc19.2.2 ?_
      refine Wa.dup d_LW_list_242 rfl ?_
      refine Wa.iconst (v := 3) d_LW_list_243 rfl ?_
      refine Wa.iconst (v := 0) d_LW_list_244 rfl ?_
      obtain ⟨n20, hc21, hF⟩ := hF
      refine Wr.iast d_LW_list_245 hc21.1 hc21.2.1 hc21.2.2 ?_
      obtain ⟨cc22, ss23, hc24, hF⟩ := hF
      refine Ws.cSr (As := [.ref b5, .ref q8]) (d - 1) cc22 ss23 _ d_LW_list_246 mok_SI_with sl_LW_107 rfl rfl (Nat.le_of_ble_eq_true rfl) (by omega) hc24.1 hc24.2 hF (fun b26 μ25 hS hF => ?_)
      have hc27 := hF.1
      have hF := hF.2
      refine Wr.putR 11 11 d_LW_list_249 f_SI_11 rfl ok_SI fl_LW_103 (Or.inl rfl) hc27.1 hc27.2 ?_
      refine Wa.aload_n (j := 3) d_LW_list_252 rfl ?_
      refine Wa.ldcS 20 d_LW_list_253 (by decide) rfl rfl ?_
      obtain ⟨cc28, ss29, hc30, hF⟩ := hF
      have hc32 := hF.1
      have hF := hF.2
      refine Ws.cVr (q := E_SB) (As := [.ref (hd 1 65)]) 12 (d - 1) cc28 ss29 _ d_LW_list_255 mok_SB_append_15ec4 vl_LW_39 rfl rfl rfl (Nat.le_of_ble_eq_true rfl) (by omega) hc30.1 hc30.2 hc32 hF (fun b33 μ31 hS hF => ?_)
      refine Wa.iload (j := 8) d_LW_list_258 rfl ?_
      obtain ⟨cc34, ss35, hc36, hF⟩ := hF
      have hc38 := hF.1
      have hF := hF.2
      refine Ws.cVr (q := E_SB) (As := [.int x6]) 12 (d - 1) cc34 ss35 _ d_LW_list_260 mok_SB_append_bf812 vl_LW_43 rfl rfl rfl (Nat.le_of_ble_eq_true rfl) (by omega) hc36.1 hc36.2 hc38 hF (fun b39 μ37 hS hF => ?_)
      refine Wa.ldcS 21 d_LW_list_263 (by decide) rfl rfl ?_
      obtain ⟨cc40, ss41, hc42, hF⟩ := hF
      have hc44 := hF.1
      have hF := hF.2
      refine Ws.cVr (q := E_SB) (As := [.ref (hd 1 66)]) 12 (d - 1) cc40 ss41 _ d_LW_list_265 mok_SB_append_15ec4 vl_LW_39 rfl rfl rfl (Nat.le_of_ble_eq_true rfl) (by omega) hc42.1 hc42.2 hc44 hF (fun b45 μ43 hS hF => ?_)
      refine Wa.iload (j := 1) d_LW_list_268 rfl ?_
      obtain ⟨cc46, ss47, hc48, hF⟩ := hF
      have hc50 := hF.1
      have hF := hF.2
      refine Ws.cVr (q := E_SB) (As := [.int z0]) 12 (d - 1) cc46 ss47 _ d_LW_list_270 mok_SB_append_bf812 vl_LW_43 rfl rfl rfl (Nat.le_of_ble_eq_true rfl) (by omega) hc48.1 hc48.2 hc50 hF (fun b51 μ49 hS hF => ?_)
      refine Wa.ldcS 22 d_LW_list_273 (by decide) rfl rfl ?_
      obtain ⟨cc52, ss53, hc54, hF⟩ := hF
      have hc56 := hF.1
      have hF := hF.2
      refine Ws.cVr (q := E_SB) (As := [.ref (hd 1 67)]) 12 (d - 1) cc52 ss53 _ d_LW_list_275 mok_SB_append_15ec4 vl_LW_39 rfl rfl rfl (Nat.le_of_ble_eq_true rfl) (by omega) hc54.1 hc54.2 hc56 hF (fun b57 μ55 hS hF => ?_)
      refine Wa.iload (j := 0) d_LW_list_278 rfl ?_
      obtain ⟨cc58, ss59, hc60, hF⟩ := hF
      have hc62 := hF.1
      have hF := hF.2
      refine Ws.cVr (q := E_SB) (As := [.int ((z0 + ((1 : Int32) + y2)) - (z0 + ((1 : Int32) + y2)) / x3 * x3)]) 12 (d - 1) cc58 ss59 _ d_LW_list_280 mok_SB_append_bf812 vl_LW_43 rfl rfl rfl (Nat.le_of_ble_eq_true rfl) (by omega) hc60.1 hc60.2 hc62 hF (fun b63 μ61 hS hF => ?_)
      refine Wa.ldcS 23 d_LW_list_283 (by decide) rfl rfl ?_
      obtain ⟨cc64, ss65, hc66, hF⟩ := hF
      have hc68 := hF.1
      have hF := hF.2
      refine Ws.cVr (q := E_SB) (As := [.ref (hd 1 68)]) 12 (d - 1) cc64 ss65 _ d_LW_list_285 mok_SB_append_15ec4 vl_LW_39 rfl rfl rfl (Nat.le_of_ble_eq_true rfl) (by omega) hc66.1 hc66.2 hc68 hF (fun b69 μ67 hS hF => ?_)
      refine Wa.aload_n (j := 4) d_LW_list_288 rfl ?_
      have hc70 := hF.1
      have hF := hF.2
      obtain ⟨b71, hc72, hF⟩ := hF
      refine Wr.getR 11 11 d_LW_list_289 f_SI_11 rfl fl_LW_103 hc70 hc72 ?_
      refine Wa.iload (j := 8) d_LW_list_292 rfl ?_
      obtain ⟨n73, hc74, hF⟩ := hF
      obtain ⟨b75, hc76, hF⟩ := hF
      refine Wa.aaldA ct_le d_LW_list_294 (Or.inl rfl) hc74.1 hc74.2 hc76 ?_
      refine Wa.iconst (v := 2) d_LW_list_295 rfl ?_
      obtain ⟨n77, hc78, hF⟩ := hF
      refine Wa.iald d_LW_list_296 hc78.1 hc78.2 ?_
      obtain ⟨cc79, ss80, hc81, hF⟩ := hF
      have hc83 := hF.1
      have hF := hF.2
      refine Ws.cVr (q := E_SB) (As := [.int (gI μ67 b75 (2 : Int32).toNatClampNeg)]) 12 (d - 1) cc79 ss80 _ d_LW_list_297 mok_SB_append_bf812 vl_LW_43 rfl rfl rfl (Nat.le_of_ble_eq_true rfl) (by omega) hc81.1 hc81.2 hc83 hF (fun b84 μ82 hS hF => ?_)
      refine Wa.ldcS 24 d_LW_list_300 (by decide) rfl rfl ?_
      obtain ⟨cc85, ss86, hc87, hF⟩ := hF
      have hc89 := hF.1
      have hF := hF.2
      refine Ws.cVr (q := E_SB) (As := [.ref (hd 1 69)]) 12 (d - 1) cc85 ss86 _ d_LW_list_302 mok_SB_append_15ec4 vl_LW_39 rfl rfl rfl (Nat.le_of_ble_eq_true rfl) (by omega) hc87.1 hc87.2 hc89 hF (fun b90 μ88 hS hF => ?_)
      refine Wa.pop d_LW_list_305 rfl ?_
      refine Wa.iinc (i := 6) (j := 8) (v := (x6 + 1)) (L' := [(6, .int (x6 + 1)), (9, .int ((z0 + ((1 : Int32) + y2)) - (z0 + ((1 : Int32) + y2)) / x3 * x3)), (8, .int z0), (0, .ref a0), (1, .ref a1), (2, .ref a2), (3, .int x3), (4, .int x4), (5, .int x5), (7, .int x7)]) d_LW_list_306 rfl rfl (by decide) rfl ?_
      refine Wa.goto 124 d_LW_list_309 (by decide) ?_
      exact Wa.loc [3, 4, 5, 6, 7, 8, 0] rfl hF
    · have hF := hF.1 hb
      refine Wa.bipush (v := 9) d_LW_list_231 rfl ?_
      refine Wa.goto 237 d_LW_list_233 (by decide) ?_
      refine Wt.cSi (As := [.int (x7 >>> ((4 : Int32) &&& 31)), .int 9]) (d - 1) 0 0 _ d_LW_list_237 mok_LW_below sl_LW_89 rfl rfl (Nat.le_of_ble_eq_true rfl) (by omega) (Nat.zero_le _) (Nat.zero_le _) hF (fun y92 μ91 hS hF => ?_)
      refine Wa.iadd d_LW_list_240 ?_
      obtain ⟨n93, hc94, hF⟩ := hF
      refine Wr.iast d_LW_list_241 hc94.1 hc94.2.1 hc94.2.2 ?_
      refine Wa.dup d_LW_list_242 rfl ?_
      refine Wa.iconst (v := 3) d_LW_list_243 rfl ?_
      refine Wa.iconst (v := 0) d_LW_list_244 rfl ?_
      obtain ⟨n95, hc96, hF⟩ := hF
      refine Wr.iast d_LW_list_245 hc96.1 hc96.2.1 hc96.2.2 ?_
      obtain ⟨cc97, ss98, hc99, hF⟩ := hF
      refine Ws.cSr (As := [.ref b5, .ref q8]) (d - 1) cc97 ss98 _ d_LW_list_246 mok_SI_with sl_LW_107 rfl rfl (Nat.le_of_ble_eq_true rfl) (by omega) hc99.1 hc99.2 hF (fun b101 μ100 hS hF => ?_)
      have hc102 := hF.1
      have hF := hF.2
      refine Wr.putR 11 11 d_LW_list_249 f_SI_11 rfl ok_SI fl_LW_103 (Or.inl rfl) hc102.1 hc102.2 ?_
      refine Wa.aload_n (j := 3) d_LW_list_252 rfl ?_
      refine Wa.ldcS 20 d_LW_list_253 (by decide) rfl rfl ?_
      obtain ⟨cc103, ss104, hc105, hF⟩ := hF
      have hc107 := hF.1
      have hF := hF.2
      refine Ws.cVr (q := E_SB) (As := [.ref (hd 1 65)]) 12 (d - 1) cc103 ss104 _ d_LW_list_255 mok_SB_append_15ec4 vl_LW_39 rfl rfl rfl (Nat.le_of_ble_eq_true rfl) (by omega) hc105.1 hc105.2 hc107 hF (fun b108 μ106 hS hF => ?_)
      refine Wa.iload (j := 8) d_LW_list_258 rfl ?_
      obtain ⟨cc109, ss110, hc111, hF⟩ := hF
      have hc113 := hF.1
      have hF := hF.2
      refine Ws.cVr (q := E_SB) (As := [.int x6]) 12 (d - 1) cc109 ss110 _ d_LW_list_260 mok_SB_append_bf812 vl_LW_43 rfl rfl rfl (Nat.le_of_ble_eq_true rfl) (by omega) hc111.1 hc111.2 hc113 hF (fun b114 μ112 hS hF => ?_)
      refine Wa.ldcS 21 d_LW_list_263 (by decide) rfl rfl ?_
      obtain ⟨cc115, ss116, hc117, hF⟩ := hF
      have hc119 := hF.1
      have hF := hF.2
      refine Ws.cVr (q := E_SB) (As := [.ref (hd 1 66)]) 12 (d - 1) cc115 ss116 _ d_LW_list_265 mok_SB_append_15ec4 vl_LW_39 rfl rfl rfl (Nat.le_of_ble_eq_true rfl) (by omega) hc117.1 hc117.2 hc119 hF (fun b120 μ118 hS hF => ?_)
      refine Wa.iload (j := 1) d_LW_list_268 rfl ?_
      obtain ⟨cc121, ss122, hc123, hF⟩ := hF
      have hc125 := hF.1
      have hF := hF.2
      refine Ws.cVr (q := E_SB) (As := [.int z0]) 12 (d - 1) cc121 ss122 _ d_LW_list_270 mok_SB_append_bf812 vl_LW_43 rfl rfl rfl (Nat.le_of_ble_eq_true rfl) (by omega) hc123.1 hc123.2 hc125 hF (fun b126 μ124 hS hF => ?_)
      refine Wa.ldcS 22 d_LW_list_273 (by decide) rfl rfl ?_
      obtain ⟨cc127, ss128, hc129, hF⟩ := hF
      have hc131 := hF.1
      have hF := hF.2
      refine Ws.cVr (q := E_SB) (As := [.ref (hd 1 67)]) 12 (d - 1) cc127 ss128 _ d_LW_list_275 mok_SB_append_15ec4 vl_LW_39 rfl rfl rfl (Nat.le_of_ble_eq_true rfl) (by omega) hc129.1 hc129.2 hc131 hF (fun b132 μ130 hS hF => ?_)
      refine Wa.iload (j := 0) d_LW_list_278 rfl ?_
      obtain ⟨cc133, ss134, hc135, hF⟩ := hF
      have hc137 := hF.1
      have hF := hF.2
      refine Ws.cVr (q := E_SB) (As := [.int ((z0 + ((1 : Int32) + y2)) - (z0 + ((1 : Int32) + y2)) / x3 * x3)]) 12 (d - 1) cc133 ss134 _ d_LW_list_280 mok_SB_append_bf812 vl_LW_43 rfl rfl rfl (Nat.le_of_ble_eq_true rfl) (by omega) hc135.1 hc135.2 hc137 hF (fun b138 μ136 hS hF => ?_)
      refine Wa.ldcS 23 d_LW_list_283 (by decide) rfl rfl ?_
      obtain ⟨cc139, ss140, hc141, hF⟩ := hF
      have hc143 := hF.1
      have hF := hF.2
      refine Ws.cVr (q := E_SB) (As := [.ref (hd 1 68)]) 12 (d - 1) cc139 ss140 _ d_LW_list_285 mok_SB_append_15ec4 vl_LW_39 rfl rfl rfl (Nat.le_of_ble_eq_true rfl) (by omega) hc141.1 hc141.2 hc143 hF (fun b144 μ142 hS hF => ?_)
      refine Wa.aload_n (j := 4) d_LW_list_288 rfl ?_
      have hc145 := hF.1
      have hF := hF.2
      obtain ⟨b146, hc147, hF⟩ := hF
      refine Wr.getR 11 11 d_LW_list_289 f_SI_11 rfl fl_LW_103 hc145 hc147 ?_
      refine Wa.iload (j := 8) d_LW_list_292 rfl ?_
      obtain ⟨n148, hc149, hF⟩ := hF
      obtain ⟨b150, hc151, hF⟩ := hF
      refine Wa.aaldA ct_le d_LW_list_294 (Or.inl rfl) hc149.1 hc149.2 hc151 ?_
      refine Wa.iconst (v := 2) d_LW_list_295 rfl ?_
      obtain ⟨n152, hc153, hF⟩ := hF
      refine Wa.iald d_LW_list_296 hc153.1 hc153.2 ?_
      obtain ⟨cc154, ss155, hc156, hF⟩ := hF
      have hc158 := hF.1
      have hF := hF.2
      refine Ws.cVr (q := E_SB) (As := [.int (gI μ142 b150 (2 : Int32).toNatClampNeg)]) 12 (d - 1) cc154 ss155 _ d_LW_list_297 mok_SB_append_bf812 vl_LW_43 rfl rfl rfl (Nat.le_of_ble_eq_true rfl) (by omega) hc156.1 hc156.2 hc158 hF (fun b159 μ157 hS hF => ?_)
      refine Wa.ldcS 24 d_LW_list_300 (by decide) rfl rfl ?_
      obtain ⟨cc160, ss161, hc162, hF⟩ := hF
      have hc164 := hF.1
      have hF := hF.2
      refine Ws.cVr (q := E_SB) (As := [.ref (hd 1 69)]) 12 (d - 1) cc160 ss161 _ d_LW_list_302 mok_SB_append_15ec4 vl_LW_39 rfl rfl rfl (Nat.le_of_ble_eq_true rfl) (by omega) hc162.1 hc162.2 hc164 hF (fun b165 μ163 hS hF => ?_)
      refine Wa.pop d_LW_list_305 rfl ?_
      refine Wa.iinc (i := 6) (j := 8) (v := (x6 + 1)) (L' := [(6, .int (x6 + 1)), (9, .int ((z0 + ((1 : Int32) + y2)) - (z0 + ((1 : Int32) + y2)) / x3 * x3)), (8, .int z0), (0, .ref a0), (1, .ref a1), (2, .ref a2), (3, .int x3), (4, .int x4), (5, .int x5), (7, .int x7)]) d_LW_list_306 rfl rfl (by decide) rfl ?_
      refine Wa.goto 124 d_LW_list_309 (by decide) ?_
      exact Wa.loc [3, 4, 5, 6, 7, 8, 0] rfl hF
  · have hF := hF.2 hb
    refine Wa.iconst (v := 1) d_LW_list_173 rfl ?_
    refine Wa.goto 189 d_LW_list_174 (by decide) ?_
    refine Wa.iadd d_LW_list_189 ?_
    refine Wa.iload_n (j := 4) d_LW_list_190 rfl ?_
    have hc166 := hF.1
    have hF := hF.2
    refine Wa.irem d_LW_list_191 hc166 ?_
    refine Wa.istore (i := 9) (L' := [(9, .int ((z0 + (1 : Int32)) - (z0 + (1 : Int32)) / x3 * x3)), (8, .int z0), (0, .ref a0), (1, .ref a1), (2, .ref a2), (3, .int x3), (4, .int x4), (5, .int x5), (6, .int x6), (7, .int x7)]) d_LW_list_192 (by decide) rfl ?_
    refine Wa.aload_n (j := 4) d_LW_list_194 rfl ?_
    refine Wa.aload_n (j := 4) d_LW_list_195 rfl ?_
    have hc167 := hF.1
    have hF := hF.2
    obtain ⟨b168, hc169, hF⟩ := hF
    refine Wr.getR 11 11 d_LW_list_196 f_SI_11 rfl fl_LW_103 hc167 hc169 ?_
    refine Wa.iconst (v := 4) d_LW_list_199 rfl ?_
    have hc170 := hF.1
    have hF := hF.2
    obtain ⟨q171, hc172, hF⟩ := hF
    refine Wr.newarr 2 4 q171 d_LW_list_200 ac_int rfl (by decide) hc170.1 rfl hc170.2.1 hc170.2.2.1 hc170.2.2.2 hc172 ?_
    refine Wa.dup d_LW_list_202 rfl ?_
    refine Wa.iconst (v := 0) d_LW_list_203 rfl ?_
    refine Wa.iload (j := 1) d_LW_list_204 rfl ?_
    obtain ⟨n173, hc174, hF⟩ := hF
    refine Wr.iast d_LW_list_206 hc174.1 hc174.2.1 hc174.2.2 ?_
    refine Wa.dup d_LW_list_207 rfl ?_
    refine Wa.iconst (v := 1) d_LW_list_208 rfl ?_
    refine Wa.iload (j := 0) d_LW_list_209 rfl ?_
    obtain ⟨n175, hc176, hF⟩ := hF
    refine Wr.iast d_LW_list_211 hc176.1 hc176.2.1 hc176.2.2 ?_
    refine Wa.dup d_LW_list_212 rfl ?_
    refine Wa.iconst (v := 2) d_LW_list_213 rfl ?_
    refine Wa.iconst (v := 1) d_LW_list_214 rfl ?_
    refine Wa.iload (j := 9) d_LW_list_215 rfl ?_
    refine Wa.iconst (v := 4) d_LW_list_217 rfl ?_
    refine Wa.ishr d_LW_list_218 ?_
    refine Wa.iload (j := 9) d_LW_list_219 rfl ?_
    refine Wa.bipush (v := 6) d_LW_list_221 rfl ?_
    refine Wa.ishr d_LW_list_223 ?_
    refine Wa.iconst (v := 3) d_LW_list_224 rfl ?_
    refine Wt.cSi (As := [.int (x7 >>> ((6 : Int32) &&& 31)), .int 3]) (d - 1) 0 0 _ d_LW_list_225 mok_LW_below sl_LW_89 rfl rfl (Nat.le_of_ble_eq_true rfl) (by omega) (Nat.zero_le _) (Nat.zero_le _) hF (fun y178 μ177 hS hF => ?_)
    refine Wa.if_ne 236 d_LW_list_228 (by decide) (fun hb => ?_) (fun hb => ?_)
    · have hF := hF.2 hb
      refine Wa.iconst (v := 3) d_LW_list_236 rfl ?_
      refine Wt.cSi (As := [.int (x7 >>> ((4 : Int32) &&& 31)), .int 3]) (d - 1) 0 0 _ d_LW_list_237 mok_LW_below sl_LW_89 rfl rfl (Nat.le_of_ble_eq_true rfl) (by omega) (Nat.zero_le _) (Nat.zero_le _) hF (fun y180 μ179 hS hF => ?_)
      refine Wa.iadd d_LW_list_240 ?_
      obtain ⟨n181, hc182, hF⟩ := hF
      refine Wr.iast d_LW_list_241 hc182.1 hc182.2.1 hc182.2.2 ?_
      refine Wa.dup d_LW_list_242 rfl ?_
      refine Wa.iconst (v := 3) d_LW_list_243 rfl ?_
      refine Wa.iconst (v := 0) d_LW_list_244 rfl ?_
      obtain ⟨n183, hc184, hF⟩ := hF
      refine Wr.iast d_LW_list_245 hc184.1 hc184.2.1 hc184.2.2 ?_
      obtain ⟨cc185, ss186, hc187, hF⟩ := hF
      refine Ws.cSr (As := [.ref b168, .ref q171]) (d - 1) cc185 ss186 _ d_LW_list_246 mok_SI_with sl_LW_107 rfl rfl (Nat.le_of_ble_eq_true rfl) (by omega) hc187.1 hc187.2 hF (fun b189 μ188 hS hF => ?_)
      have hc190 := hF.1
      have hF := hF.2
      refine Wr.putR 11 11 d_LW_list_249 f_SI_11 rfl ok_SI fl_LW_103 (Or.inl rfl) hc190.1 hc190.2 ?_
      refine Wa.aload_n (j := 3) d_LW_list_252 rfl ?_
      refine Wa.ldcS 20 d_LW_list_253 (by decide) rfl rfl ?_
      obtain ⟨cc191, ss192, hc193, hF⟩ := hF
      have hc195 := hF.1
      have hF := hF.2
      refine Ws.cVr (q := E_SB) (As := [.ref (hd 1 65)]) 12 (d - 1) cc191 ss192 _ d_LW_list_255 mok_SB_append_15ec4 vl_LW_39 rfl rfl rfl (Nat.le_of_ble_eq_true rfl) (by omega) hc193.1 hc193.2 hc195 hF (fun b196 μ194 hS hF => ?_)
      refine Wa.iload (j := 8) d_LW_list_258 rfl ?_
      obtain ⟨cc197, ss198, hc199, hF⟩ := hF
      have hc201 := hF.1
      have hF := hF.2
      refine Ws.cVr (q := E_SB) (As := [.int x6]) 12 (d - 1) cc197 ss198 _ d_LW_list_260 mok_SB_append_bf812 vl_LW_43 rfl rfl rfl (Nat.le_of_ble_eq_true rfl) (by omega) hc199.1 hc199.2 hc201 hF (fun b202 μ200 hS hF => ?_)
      refine Wa.ldcS 21 d_LW_list_263 (by decide) rfl rfl ?_
      obtain ⟨cc203, ss204, hc205, hF⟩ := hF
      have hc207 := hF.1
      have hF := hF.2
      refine Ws.cVr (q := E_SB) (As := [.ref (hd 1 66)]) 12 (d - 1) cc203 ss204 _ d_LW_list_265 mok_SB_append_15ec4 vl_LW_39 rfl rfl rfl (Nat.le_of_ble_eq_true rfl) (by omega) hc205.1 hc205.2 hc207 hF (fun b208 μ206 hS hF => ?_)
      refine Wa.iload (j := 1) d_LW_list_268 rfl ?_
      obtain ⟨cc209, ss210, hc211, hF⟩ := hF
      have hc213 := hF.1
      have hF := hF.2
      refine Ws.cVr (q := E_SB) (As := [.int z0]) 12 (d - 1) cc209 ss210 _ d_LW_list_270 mok_SB_append_bf812 vl_LW_43 rfl rfl rfl (Nat.le_of_ble_eq_true rfl) (by omega) hc211.1 hc211.2 hc213 hF (fun b214 μ212 hS hF => ?_)
      refine Wa.ldcS 22 d_LW_list_273 (by decide) rfl rfl ?_
      obtain ⟨cc215, ss216, hc217, hF⟩ := hF
      have hc219 := hF.1
      have hF := hF.2
      refine Ws.cVr (q := E_SB) (As := [.ref (hd 1 67)]) 12 (d - 1) cc215 ss216 _ d_LW_list_275 mok_SB_append_15ec4 vl_LW_39 rfl rfl rfl (Nat.le_of_ble_eq_true rfl) (by omega) hc217.1 hc217.2 hc219 hF (fun b220 μ218 hS hF => ?_)
      refine Wa.iload (j := 0) d_LW_list_278 rfl ?_
      obtain ⟨cc221, ss222, hc223, hF⟩ := hF
      have hc225 := hF.1
      have hF := hF.2
      refine Ws.cVr (q := E_SB) (As := [.int ((z0 + (1 : Int32)) - (z0 + (1 : Int32)) / x3 * x3)]) 12 (d - 1) cc221 ss222 _ d_LW_list_280 mok_SB_append_bf812 vl_LW_43 rfl rfl rfl (Nat.le_of_ble_eq_true rfl) (by omega) hc223.1 hc223.2 hc225 hF (fun b226 μ224 hS hF => ?_)
      refine Wa.ldcS 23 d_LW_list_283 (by decide) rfl rfl ?_
      obtain ⟨cc227, ss228, hc229, hF⟩ := hF
      have hc231 := hF.1
      have hF := hF.2
      refine Ws.cVr (q := E_SB) (As := [.ref (hd 1 68)]) 12 (d - 1) cc227 ss228 _ d_LW_list_285 mok_SB_append_15ec4 vl_LW_39 rfl rfl rfl (Nat.le_of_ble_eq_true rfl) (by omega) hc229.1 hc229.2 hc231 hF (fun b232 μ230 hS hF => ?_)
      refine Wa.aload_n (j := 4) d_LW_list_288 rfl ?_
      have hc233 := hF.1
      have hF := hF.2
      obtain ⟨b234, hc235, hF⟩ := hF
      refine Wr.getR 11 11 d_LW_list_289 f_SI_11 rfl fl_LW_103 hc233 hc235 ?_
      refine Wa.iload (j := 8) d_LW_list_292 rfl ?_
      obtain ⟨n236, hc237, hF⟩ := hF
      obtain ⟨b238, hc239, hF⟩ := hF
      refine Wa.aaldA ct_le d_LW_list_294 (Or.inl rfl) hc237.1 hc237.2 hc239 ?_
      refine Wa.iconst (v := 2) d_LW_list_295 rfl ?_
      obtain ⟨n240, hc241, hF⟩ := hF
      refine Wa.iald d_LW_list_296 hc241.1 hc241.2 ?_
      obtain ⟨cc242, ss243, hc244, hF⟩ := hF
      have hc246 := hF.1
      have hF := hF.2
      refine Ws.cVr (q := E_SB) (As := [.int (gI μ230 b238 (2 : Int32).toNatClampNeg)]) 12 (d - 1) cc242 ss243 _ d_LW_list_297 mok_SB_append_bf812 vl_LW_43 rfl rfl rfl (Nat.le_of_ble_eq_true rfl) (by omega) hc244.1 hc244.2 hc246 hF (fun b247 μ245 hS hF => ?_)
      refine Wa.ldcS 24 d_LW_list_300 (by decide) rfl rfl ?_
      obtain ⟨cc248, ss249, hc250, hF⟩ := hF
      have hc252 := hF.1
      have hF := hF.2
      refine Ws.cVr (q := E_SB) (As := [.ref (hd 1 69)]) 12 (d - 1) cc248 ss249 _ d_LW_list_302 mok_SB_append_15ec4 vl_LW_39 rfl rfl rfl (Nat.le_of_ble_eq_true rfl) (by omega) hc250.1 hc250.2 hc252 hF (fun b253 μ251 hS hF => ?_)
      refine Wa.pop d_LW_list_305 rfl ?_
      refine Wa.iinc (i := 6) (j := 8) (v := (x6 + 1)) (L' := [(6, .int (x6 + 1)), (9, .int ((z0 + (1 : Int32)) - (z0 + (1 : Int32)) / x3 * x3)), (8, .int z0), (0, .ref a0), (1, .ref a1), (2, .ref a2), (3, .int x3), (4, .int x4), (5, .int x5), (7, .int x7)]) d_LW_list_306 rfl rfl (by decide) rfl ?_
      refine Wa.goto 124 d_LW_list_309 (by decide) ?_
      exact Wa.loc [3, 4, 5, 6, 7, 8, 0] rfl hF
    · have hF := hF.1 hb
      refine Wa.bipush (v := 9) d_LW_list_231 rfl ?_
      refine Wa.goto 237 d_LW_list_233 (by decide) ?_
      refine Wt.cSi (As := [.int (x7 >>> ((4 : Int32) &&& 31)), .int 9]) (d - 1) 0 0 _ d_LW_list_237 mok_LW_below sl_LW_89 rfl rfl (Nat.le_of_ble_eq_true rfl) (by omega) (Nat.zero_le _) (Nat.zero_le _) hF (fun y255 μ254 hS hF => ?_)
      refine Wa.iadd d_LW_list_240 ?_
      obtain ⟨n256, hc257, hF⟩ := hF
      refine Wr.iast d_LW_list_241 hc257.1 hc257.2.1 hc257.2.2 ?_
      refine Wa.dup d_LW_list_242 rfl ?_
      refine Wa.iconst (v := 3) d_LW_list_243 rfl ?_
      refine Wa.iconst (v := 0) d_LW_list_244 rfl ?_
      obtain ⟨n258, hc259, hF⟩ := hF
      refine Wr.iast d_LW_list_245 hc259.1 hc259.2.1 hc259.2.2 ?_
      obtain ⟨cc260, ss261, hc262, hF⟩ := hF
      refine Ws.cSr (As := [.ref b168, .ref q171]) (d - 1) cc260 ss261 _ d_LW_list_246 mok_SI_with sl_LW_107 rfl rfl (Nat.le_of_ble_eq_true rfl) (by omega) hc262.1 hc262.2 hF (fun b264 μ263 hS hF => ?_)
      have hc265 := hF.1
      have hF := hF.2
      refine Wr.putR 11 11 d_LW_list_249 f_SI_11 rfl ok_SI fl_LW_103 (Or.inl rfl) hc265.1 hc265.2 ?_
      refine Wa.aload_n (j := 3) d_LW_list_252 rfl ?_
      refine Wa.ldcS 20 d_LW_list_253 (by decide) rfl rfl ?_
      obtain ⟨cc266, ss267, hc268, hF⟩ := hF
      have hc270 := hF.1
      have hF := hF.2
      refine Ws.cVr (q := E_SB) (As := [.ref (hd 1 65)]) 12 (d - 1) cc266 ss267 _ d_LW_list_255 mok_SB_append_15ec4 vl_LW_39 rfl rfl rfl (Nat.le_of_ble_eq_true rfl) (by omega) hc268.1 hc268.2 hc270 hF (fun b271 μ269 hS hF => ?_)
      refine Wa.iload (j := 8) d_LW_list_258 rfl ?_
      obtain ⟨cc272, ss273, hc274, hF⟩ := hF
      have hc276 := hF.1
      have hF := hF.2
      refine Ws.cVr (q := E_SB) (As := [.int x6]) 12 (d - 1) cc272 ss273 _ d_LW_list_260 mok_SB_append_bf812 vl_LW_43 rfl rfl rfl (Nat.le_of_ble_eq_true rfl) (by omega) hc274.1 hc274.2 hc276 hF (fun b277 μ275 hS hF => ?_)
      refine Wa.ldcS 21 d_LW_list_263 (by decide) rfl rfl ?_
      obtain ⟨cc278, ss279, hc280, hF⟩ := hF
      have hc282 := hF.1
      have hF := hF.2
      refine Ws.cVr (q := E_SB) (As := [.ref (hd 1 66)]) 12 (d - 1) cc278 ss279 _ d_LW_list_265 mok_SB_append_15ec4 vl_LW_39 rfl rfl rfl (Nat.le_of_ble_eq_true rfl) (by omega) hc280.1 hc280.2 hc282 hF (fun b283 μ281 hS hF => ?_)
      refine Wa.iload (j := 1) d_LW_list_268 rfl ?_
      obtain ⟨cc284, ss285, hc286, hF⟩ := hF
      have hc288 := hF.1
      have hF := hF.2
      refine Ws.cVr (q := E_SB) (As := [.int z0]) 12 (d - 1) cc284 ss285 _ d_LW_list_270 mok_SB_append_bf812 vl_LW_43 rfl rfl rfl (Nat.le_of_ble_eq_true rfl) (by omega) hc286.1 hc286.2 hc288 hF (fun b289 μ287 hS hF => ?_)
      refine Wa.ldcS 22 d_LW_list_273 (by decide) rfl rfl ?_
      obtain ⟨cc290, ss291, hc292, hF⟩ := hF
      have hc294 := hF.1
      have hF := hF.2
      refine Ws.cVr (q := E_SB) (As := [.ref (hd 1 67)]) 12 (d - 1) cc290 ss291 _ d_LW_list_275 mok_SB_append_15ec4 vl_LW_39 rfl rfl rfl (Nat.le_of_ble_eq_true rfl) (by omega) hc292.1 hc292.2 hc294 hF (fun b295 μ293 hS hF => ?_)
      refine Wa.iload (j := 0) d_LW_list_278 rfl ?_
      obtain ⟨cc296, ss297, hc298, hF⟩ := hF
      have hc300 := hF.1
      have hF := hF.2
      refine Ws.cVr (q := E_SB) (As := [.int ((z0 + (1 : Int32)) - (z0 + (1 : Int32)) / x3 * x3)]) 12 (d - 1) cc296 ss297 _ d_LW_list_280 mok_SB_append_bf812 vl_LW_43 rfl rfl rfl (Nat.le_of_ble_eq_true rfl) (by omega) hc298.1 hc298.2 hc300 hF (fun b301 μ299 hS hF => ?_)
      refine Wa.ldcS 23 d_LW_list_283 (by decide) rfl rfl ?_
      obtain ⟨cc302, ss303, hc304, hF⟩ := hF
      have hc306 := hF.1
      have hF := hF.2
      refine Ws.cVr (q := E_SB) (As := [.ref (hd 1 68)]) 12 (d - 1) cc302 ss303 _ d_LW_list_285 mok_SB_append_15ec4 vl_LW_39 rfl rfl rfl (Nat.le_of_ble_eq_true rfl) (by omega) hc304.1 hc304.2 hc306 hF (fun b307 μ305 hS hF => ?_)
      refine Wa.aload_n (j := 4) d_LW_list_288 rfl ?_
      have hc308 := hF.1
      have hF := hF.2
      obtain ⟨b309, hc310, hF⟩ := hF
      refine Wr.getR 11 11 d_LW_list_289 f_SI_11 rfl fl_LW_103 hc308 hc310 ?_
      refine Wa.iload (j := 8) d_LW_list_292 rfl ?_
      obtain ⟨n311, hc312, hF⟩ := hF
      obtain ⟨b313, hc314, hF⟩ := hF
      refine Wa.aaldA ct_le d_LW_list_294 (Or.inl rfl) hc312.1 hc312.2 hc314 ?_
      refine Wa.iconst (v := 2) d_LW_list_295 rfl ?_
      obtain ⟨n315, hc316, hF⟩ := hF
      refine Wa.iald d_LW_list_296 hc316.1 hc316.2 ?_
      obtain ⟨cc317, ss318, hc319, hF⟩ := hF
      have hc321 := hF.1
      have hF := hF.2
      refine Ws.cVr (q := E_SB) (As := [.int (gI μ305 b313 (2 : Int32).toNatClampNeg)]) 12 (d - 1) cc317 ss318 _ d_LW_list_297 mok_SB_append_bf812 vl_LW_43 rfl rfl rfl (Nat.le_of_ble_eq_true rfl) (by omega) hc319.1 hc319.2 hc321 hF (fun b322 μ320 hS hF => ?_)
      refine Wa.ldcS 24 d_LW_list_300 (by decide) rfl rfl ?_
      obtain ⟨cc323, ss324, hc325, hF⟩ := hF
      have hc327 := hF.1
      have hF := hF.2
      refine Ws.cVr (q := E_SB) (As := [.ref (hd 1 69)]) 12 (d - 1) cc323 ss324 _ d_LW_list_302 mok_SB_append_15ec4 vl_LW_39 rfl rfl rfl (Nat.le_of_ble_eq_true rfl) (by omega) hc325.1 hc325.2 hc327 hF (fun b328 μ326 hS hF => ?_)
      refine Wa.pop d_LW_list_305 rfl ?_
      refine Wa.iinc (i := 6) (j := 8) (v := (x6 + 1)) (L' := [(6, .int (x6 + 1)), (9, .int ((z0 + (1 : Int32)) - (z0 + (1 : Int32)) / x3 * x3)), (8, .int z0), (0, .ref a0), (1, .ref a1), (2, .ref a2), (3, .int x3), (4, .int x4), (5, .int x5), (7, .int x7)]) d_LW_list_306 rfl rfl (by decide) rfl ?_
      refine Wa.goto 124 d_LW_list_309 (by decide) ?_
      exact Wa.loc [3, 4, 5, 6, 7, 8, 0] rfl hF
set_option maxHeartbeats 4000000 in
set_option maxRecDepth 20000 in
theorem y_LW_list_337 {d rc rs : Nat} {Q : Option Value → Mu → Prop} {μ : Mu} {a0 : Nat} {a1 : Nat} {a2 : Nat} {x3 : Int32} {x4 : Int32} {x5 : Int32} {x6 : Int32} (hD : 1 ≤ d)
    (hF : ((x6 ≤ 0 → Q (some (.ref a2)) μ) ∧ (¬ x6 ≤ 0 → CalS K_LW_cell (d - 1) 0 0 [.ref a0, .int 7] μ (fun r μ1 => ∃ y2, r = some (.int y2) ∧ CalS K_LW_below (d - 1) 0 0 [.int ((y2 >>> (x6 &&& 31)) + ((71 : Int32) * x6)), .int 6] μ1 (fun r μ3 => ∃ y4, r = some (.int y4) ∧ ((3 ≤ y4 → CalS K_LW_below (d - 1) 0 0 [.int (((y2 >>> (x6 &&& 31)) + ((71 : Int32) * x6)) >>> ((2 : Int32) &&& 31)), .int 3] μ3 (fun r μ5 => ∃ y6, r = some (.int y6) ∧ Wx K_LW_list d (rc - 0 - 0 - 0) (rs - 0 - 0 - 0) Q 382 [(0, .ref a0), (1, .ref a1), (2, .ref a2), (3, .int x3), (4, .int x4), (5, .int x5), (6, .int x6), (7, .int ((y2 >>> (x6 &&& 31)) + ((71 : Int32) * x6)))] [.int y6] μ5)) ∧ (¬ 3 ≤ y4 → Wx K_LW_list d (rc - 0 - 0) (rs - 0 - 0) Q 382 [(0, .ref a0), (1, .ref a1), (2, .ref a2), (3, .int x3), (4, .int x4), (5, .int x5), (6, .int x6), (7, .int ((y2 >>> (x6 &&& 31)) + ((71 : Int32) * x6)))] [.int 3] μ3))))))) : Wx K_LW_list d rc rs Q 337 [(0, .ref a0), (1, .ref a1), (2, .ref a2), (3, .int x3), (4, .int x4), (5, .int x5), (6, .int x6)] [] μ := by
  refine Wa.iload (j := 6) d_LW_list_337 rfl ?_
  refine Wa.if_le 855 d_LW_list_339 (by decide) (fun hb => ?_) (fun hb => ?_)
  · have hF := hF.1 hb
    refine Wa.aload_n (j := 2) d_LW_list_855 rfl ?_
    exact Wx.reta d_LW_list_856 rfl hF
  · have hF := hF.2 hb
    refine Wa.aload_n (j := 0) d_LW_list_342 rfl ?_
    refine Wa.bipush (v := 7) d_LW_list_343 rfl ?_
    refine Wt.cSi (As := [.ref a0, .int 7]) (d - 1) 0 0 _ d_LW_list_345 mok_LW_cell sl_LW_83 rfl rfl (Nat.le_of_ble_eq_true rfl) (by omega) (Nat.zero_le _) (Nat.zero_le _) hF (fun y2 μ1 hS hF => ?_)
    refine Wa.iload (j := 6) d_LW_list_348 rfl ?_
    refine Wa.ishr d_LW_list_350 ?_
    refine Wa.bipush (v := 71) d_LW_list_351 rfl ?_
    refine Wa.iload (j := 6) d_LW_list_353 rfl ?_
    refine Wa.imul d_LW_list_355 ?_
    refine Wa.iadd d_LW_list_356 ?_
    refine Wa.istore (i := 7) (L' := [(7, .int ((y2 >>> (x6 &&& 31)) + ((71 : Int32) * x6))), (0, .ref a0), (1, .ref a1), (2, .ref a2), (3, .int x3), (4, .int x4), (5, .int x5), (6, .int x6)]) d_LW_list_357 (by decide) rfl ?_
    refine Wa.iload (j := 0) d_LW_list_359 rfl ?_
    refine Wa.bipush (v := 6) d_LW_list_361 rfl ?_
    refine Wt.cSi (As := [.int ((y2 >>> (x6 &&& 31)) + ((71 : Int32) * x6)), .int 6]) (d - 1) 0 0 _ d_LW_list_363 mok_LW_below sl_LW_89 rfl rfl (Nat.le_of_ble_eq_true rfl) (by omega) (Nat.zero_le _) (Nat.zero_le _) hF (fun y4 μ3 hS hF => ?_)
    refine Wa.iconst (v := 3) d_LW_list_366 rfl ?_
    refine Wa.icmp_ge 374 d_LW_list_367 (by decide) (fun hb => ?_) (fun hb => ?_)
    · have hF := hF.1 hb
      refine Wa.iload (j := 0) d_LW_list_374 rfl ?_
      refine Wa.iconst (v := 2) d_LW_list_376 rfl ?_
      refine Wa.ishr d_LW_list_377 ?_
      refine Wa.iconst (v := 3) d_LW_list_378 rfl ?_
      refine Wt.cSi (As := [.int (((y2 >>> (x6 &&& 31)) + ((71 : Int32) * x6)) >>> ((2 : Int32) &&& 31)), .int 3]) (d - 1) 0 0 _ d_LW_list_379 mok_LW_below sl_LW_89 rfl rfl (Nat.le_of_ble_eq_true rfl) (by omega) (Nat.zero_le _) (Nat.zero_le _) hF (fun y6 μ5 hS hF => ?_)
      exact Wa.loc [1, 2, 3, 4, 5, 6, 7, 0] rfl hF
    · have hF := hF.2 hb
      refine Wa.iconst (v := 3) d_LW_list_370 rfl ?_
      refine Wa.goto 382 d_LW_list_371 (by decide) ?_
      exact Wa.loc [1, 2, 3, 4, 5, 6, 7, 0] rfl hF
set_option maxHeartbeats 4000000 in
set_option maxRecDepth 20000 in
theorem y_LW_list_382 {d rc rs : Nat} {Q : Option Value → Mu → Prop} {μ : Mu} {a0 : Nat} {a1 : Nat} {a2 : Nat} {x3 : Int32} {x4 : Int32} {x5 : Int32} {x6 : Int32} {x7 : Int32} {z0 : Int32} (hD : 1 ≤ d)
    (hF : CalS K_LW_below (d - 1) 0 0 [.int (x7 >>> ((3 : Int32) &&& 31)), .int x3] μ (fun r μ1 => ∃ y2, r = some (.int y2) ∧ CalS K_LW_below (d - 1) 0 0 [.int (x7 >>> ((5 : Int32) &&& 31)), .int x4] μ1 (fun r μ3 => ∃ y4, r = some (.int y4) ∧ ((¬ (8 : Int32) < 0 ∧ 8 ≤ 1000000 ∧ 1 ≤ rc - 0 - 0 ∧ 8 ≤ rs - 0 - 0) ∧ (∃ q6, FreN μ3 q6 ∧ (∃ n8, (mS (mkA μ3 q6 (2, 8)) q6 = (2, n8) ∧ vp_in (0 : Int32) n8 ∧ hiN q6) ∧ ((z0 = 3 → CalS K_LW_below (d - 1) 0 0 [.int (x7 >>> ((4 : Int32) &&& 31)), .int x5] (setI (mkA μ3 q6 (2, 8)) q6 (0 : Int32).toNatClampNeg z0) (fun r μ38 => ∃ y39, r = some (.int y39) ∧ (∃ n40, (mS μ38 q6 = (2, n40) ∧ vp_in (1 : Int32) n40 ∧ hiN q6) ∧ (∃ n42, (mS (setI μ38 q6 (1 : Int32).toNatClampNeg y39) q6 = (2, n42) ∧ vp_in (2 : Int32) n42 ∧ hiN q6) ∧ CalS K_LW_below (d - 1) 0 0 [.int (x7 >>> ((6 : Int32) &&& 31)), .int 3] (setI (setI μ38 q6 (1 : Int32).toNatClampNeg y39) q6 (2 : Int32).toNatClampNeg y4) (fun r μ44 => ∃ y45, r = some (.int y45) ∧ (∃ n46, (mS μ44 q6 = (2, n46) ∧ vp_in (3 : Int32) n46 ∧ hiN q6) ∧ CalS K_LW_below (d - 1) 0 0 [.int (x7 >>> ((7 : Int32) &&& 31)), .int 16] (setI μ44 q6 (3 : Int32).toNatClampNeg y45) (fun r μ48 => ∃ y49, r = some (.int y49) ∧ (∃ n50, (mS μ48 q6 = (2, n50) ∧ vp_in (4 : Int32) n50 ∧ hiN q6) ∧ CalS K_LW_below (d - 1) 0 0 [.int (x7 >>> ((8 : Int32) &&& 31)), .int 6] (setI μ48 q6 (4 : Int32).toNatClampNeg y49) (fun r μ52 => ∃ y53, r = some (.int y53) ∧ (∃ n54, (mS μ52 q6 = (2, n54) ∧ vp_in (5 : Int32) n54 ∧ hiN q6) ∧ CalS K_LW_below (d - 1) 0 0 [.int (x7 >>> ((2 : Int32) &&& 31)), .int x3] (setI μ52 q6 (5 : Int32).toNatClampNeg y53) (fun r μ56 => ∃ y57, r = some (.int y57) ∧ (∃ n58, (mS μ56 q6 = (2, n58) ∧ vp_in (6 : Int32) n58 ∧ hiN q6) ∧ CalS K_LW_below (d - 1) 0 0 [.int (x7 >>> ((4 : Int32) &&& 31)), .int x4] (setI μ56 q6 (6 : Int32).toNatClampNeg y57) (fun r μ60 => ∃ y61, r = some (.int y61) ∧ (∃ n62, (mS μ60 q6 = (2, n62) ∧ vp_in (7 : Int32) n62 ∧ hiN q6) ∧ ((z0 = 2 → CalS K_LW_below (d - 1) 0 0 [.int (x7 >>> ((6 : Int32) &&& 31)), .int 3] (setI μ60 q6 (7 : Int32).toNatClampNeg y61) (fun r μ64 => ∃ y65, r = some (.int y65) ∧ (∃ n66, (mS μ64 q6 = (2, n66) ∧ vp_in (4 : Int32) n66 ∧ hiN q6) ∧ Wx K_LW_list d (rc - 0 - 0 - 1 - 0 - 0 - 0 - 0 - 0 - 0 - 0) (rs - 0 - 0 - 8 - 0 - 0 - 0 - 0 - 0 - 0 - 0) Q 526 [(0, .ref a0), (1, .ref a1), (2, .ref a2), (3, .int x3), (4, .int x4), (5, .int x5), (6, .int x6), (7, .int x7), (8, .int z0), (9, .int y2), (10, .int y4), (11, .ref q6)] [] (setI μ64 q6 (4 : Int32).toNatClampNeg y65)))) ∧ (¬ z0 = 2 → Wx K_LW_list d (rc - 0 - 0 - 1 - 0 - 0 - 0 - 0 - 0 - 0) (rs - 0 - 0 - 8 - 0 - 0 - 0 - 0 - 0 - 0) Q 526 [(0, .ref a0), (1, .ref a1), (2, .ref a2), (3, .int x3), (4, .int x4), (5, .int x5), (6, .int x6), (7, .int x7), (8, .int z0), (9, .int y2), (10, .int y4), (11, .ref q6)] [] (setI μ60 q6 (7 : Int32).toNatClampNeg y61))))))))))))))))) ∧ (¬ z0 = 3 → (∃ n10, (mS (setI (mkA μ3 q6 (2, 8)) q6 (0 : Int32).toNatClampNeg z0) q6 = (2, n10) ∧ vp_in (1 : Int32) n10 ∧ hiN q6) ∧ (∃ n12, (mS (setI (setI (mkA μ3 q6 (2, 8)) q6 (0 : Int32).toNatClampNeg z0) q6 (1 : Int32).toNatClampNeg y2) q6 = (2, n12) ∧ vp_in (2 : Int32) n12 ∧ hiN q6) ∧ CalS K_LW_below (d - 1) 0 0 [.int (x7 >>> ((6 : Int32) &&& 31)), .int 3] (setI (setI (setI (mkA μ3 q6 (2, 8)) q6 (0 : Int32).toNatClampNeg z0) q6 (1 : Int32).toNatClampNeg y2) q6 (2 : Int32).toNatClampNeg y4) (fun r μ14 => ∃ y15, r = some (.int y15) ∧ (∃ n16, (mS μ14 q6 = (2, n16) ∧ vp_in (3 : Int32) n16 ∧ hiN q6) ∧ CalS K_LW_below (d - 1) 0 0 [.int (x7 >>> ((7 : Int32) &&& 31)), .int 16] (setI μ14 q6 (3 : Int32).toNatClampNeg y15) (fun r μ18 => ∃ y19, r = some (.int y19) ∧ (∃ n20, (mS μ18 q6 = (2, n20) ∧ vp_in (4 : Int32) n20 ∧ hiN q6) ∧ CalS K_LW_below (d - 1) 0 0 [.int (x7 >>> ((8 : Int32) &&& 31)), .int 6] (setI μ18 q6 (4 : Int32).toNatClampNeg y19) (fun r μ22 => ∃ y23, r = some (.int y23) ∧ (∃ n24, (mS μ22 q6 = (2, n24) ∧ vp_in (5 : Int32) n24 ∧ hiN q6) ∧ CalS K_LW_below (d - 1) 0 0 [.int (x7 >>> ((2 : Int32) &&& 31)), .int x3] (setI μ22 q6 (5 : Int32).toNatClampNeg y23) (fun r μ26 => ∃ y27, r = some (.int y27) ∧ (∃ n28, (mS μ26 q6 = (2, n28) ∧ vp_in (6 : Int32) n28 ∧ hiN q6) ∧ CalS K_LW_below (d - 1) 0 0 [.int (x7 >>> ((4 : Int32) &&& 31)), .int x4] (setI μ26 q6 (6 : Int32).toNatClampNeg y27) (fun r μ30 => ∃ y31, r = some (.int y31) ∧ (∃ n32, (mS μ30 q6 = (2, n32) ∧ vp_in (7 : Int32) n32 ∧ hiN q6) ∧ ((z0 = 2 → CalS K_LW_below (d - 1) 0 0 [.int (x7 >>> ((6 : Int32) &&& 31)), .int 3] (setI μ30 q6 (7 : Int32).toNatClampNeg y31) (fun r μ34 => ∃ y35, r = some (.int y35) ∧ (∃ n36, (mS μ34 q6 = (2, n36) ∧ vp_in (4 : Int32) n36 ∧ hiN q6) ∧ Wx K_LW_list d (rc - 0 - 0 - 1 - 0 - 0 - 0 - 0 - 0 - 0) (rs - 0 - 0 - 8 - 0 - 0 - 0 - 0 - 0 - 0) Q 526 [(0, .ref a0), (1, .ref a1), (2, .ref a2), (3, .int x3), (4, .int x4), (5, .int x5), (6, .int x6), (7, .int x7), (8, .int z0), (9, .int y2), (10, .int y4), (11, .ref q6)] [] (setI μ34 q6 (4 : Int32).toNatClampNeg y35)))) ∧ (¬ z0 = 2 → Wx K_LW_list d (rc - 0 - 0 - 1 - 0 - 0 - 0 - 0 - 0) (rs - 0 - 0 - 8 - 0 - 0 - 0 - 0 - 0) Q 526 [(0, .ref a0), (1, .ref a1), (2, .ref a2), (3, .int x3), (4, .int x4), (5, .int x5), (6, .int x6), (7, .int x7), (8, .int z0), (9, .int y2), (10, .int y4), (11, .ref q6)] [] (setI μ30 q6 (7 : Int32).toNatClampNeg y31))))))))))))))))))))))) : Wx K_LW_list d rc rs Q 382 [(0, .ref a0), (1, .ref a1), (2, .ref a2), (3, .int x3), (4, .int x4), (5, .int x5), (6, .int x6), (7, .int x7)] [.int z0] μ := by
  refine Wa.istore (i := 8) (L' := [(8, .int z0), (0, .ref a0), (1, .ref a1), (2, .ref a2), (3, .int x3), (4, .int x4), (5, .int x5), (6, .int x6), (7, .int x7)]) d_LW_list_382 (by decide) rfl ?_
  refine Wa.iload (j := 8) d_LW_list_384 rfl ?_
  refine Wa.iconst (v := 3) d_LW_list_386 rfl ?_
  refine Wa.ishr d_LW_list_387 ?_
  refine Wa.iload_n (j := 4) d_LW_list_388 rfl ?_
  refine Wt.cSi (As := [.int (x7 >>> ((3 : Int32) &&& 31)), .int x3]) (d - 1) 0 0 _ d_LW_list_389 mok_LW_below sl_LW_89 rfl rfl (Nat.le_of_ble_eq_true rfl) (by omega) (Nat.zero_le _) (Nat.zero_le _) hF (fun y2 μ1 hS hF => ?_)
  refine Wa.istore (i := 9) (L' := [(9, .int y2), (8, .int z0), (0, .ref a0), (1, .ref a1), (2, .ref a2), (3, .int x3), (4, .int x4), (5, .int x5), (6, .int x6), (7, .int x7)]) d_LW_list_392 (by decide) rfl ?_
  refine Wa.iload (j := 9) d_LW_list_394 rfl ?_
  refine Wa.iconst (v := 5) d_LW_list_396 rfl ?_
  refine Wa.ishr d_LW_list_397 ?_
  refine Wa.iload (j := 6) d_LW_list_398 rfl ?_
  refine Wt.cSi (As := [.int (x7 >>> ((5 : Int32) &&& 31)), .int x4]) (d - 1) 0 0 _ d_LW_list_400 mok_LW_below sl_LW_89 rfl rfl (Nat.le_of_ble_eq_true rfl) (by omega) (Nat.zero_le _) (Nat.zero_le _) hF (fun y4 μ3 hS hF => ?_)
  refine Wa.istore (i := 10) (L' := [(10, .int y4), (9, .int y2), (8, .int z0), (0, .ref a0), (1, .ref a1), (2, .ref a2), (3, .int x3), (4, .int x4), (5, .int x5), (6, .int x6), (7, .int x7)]) d_LW_list_403 (by decide) rfl ?_
  refine Wa.bipush (v := 8) d_LW_list_405 rfl ?_
  have hc5 := hF.1
  have hF := hF.2
  obtain ⟨q6, hc7, hF⟩ := hF
  refine Wr.newarr 2 8 q6 d_LW_list_407 ac_int rfl (by decide) hc5.1 rfl hc5.2.1 hc5.2.2.1 hc5.2.2.2 hc7 ?_
  refine Wa.dup d_LW_list_409 rfl ?_
  refine Wa.iconst (v := 0) d_LW_list_410 rfl ?_
  refine Wa.iload (j := 2) d_LW_list_411 rfl ?_
  obtain ⟨n8, hc9, hF⟩ := hF
  refine Wr.iast d_LW_list_413 hc9.1 hc9.2.1 hc9.2.2 ?_
  refine Wa.dup d_LW_list_414 rfl ?_
  refine Wa.iconst (v := 1) d_LW_list_415 rfl ?_
  refine Wa.iload (j := 2) d_LW_list_416 rfl ?_
  refine Wa.iconst (v := 3) d_LW_list_418 rfl ?_
  refine Wa.icmp_ne 434 d_LW_list_419 (by decide) (fun hb => ?_) (fun hb => ?_)
  · have hF := hF.2 hb
    refine Wa.iload (j := 1) d_LW_list_434 rfl ?_
    obtain ⟨n10, hc11, hF⟩ := hF
    refine Wr.iast d_LW_list_436 hc11.1 hc11.2.1 hc11.2.2 ?_
    refine Wa.dup d_LW_list_437 rfl ?_
    refine Wa.iconst (v := 2) d_LW_list_438 rfl ?_
    refine Wa.iload (j := 0) d_LW_list_439 rfl ?_
    obtain ⟨n12, hc13, hF⟩ := hF
    refine Wr.iast d_LW_list_441 hc13.1 hc13.2.1 hc13.2.2 ?_
    refine Wa.dup d_LW_list_442 rfl ?_
    refine Wa.iconst (v := 3) d_LW_list_443 rfl ?_
    refine Wa.iload (j := 10) d_LW_list_444 rfl ?_
    refine Wa.bipush (v := 6) d_LW_list_446 rfl ?_
    refine Wa.ishr d_LW_list_448 ?_
    refine Wa.iconst (v := 3) d_LW_list_449 rfl ?_
    refine Wt.cSi (As := [.int (x7 >>> ((6 : Int32) &&& 31)), .int 3]) (d - 1) 0 0 _ d_LW_list_450 mok_LW_below sl_LW_89 rfl rfl (Nat.le_of_ble_eq_true rfl) (by omega) (Nat.zero_le _) (Nat.zero_le _) hF (fun y15 μ14 hS hF => ?_)
    obtain ⟨n16, hc17, hF⟩ := hF
    refine Wr.iast d_LW_list_453 hc17.1 hc17.2.1 hc17.2.2 ?_
    refine Wa.dup d_LW_list_454 rfl ?_
    refine Wa.iconst (v := 4) d_LW_list_455 rfl ?_
    refine Wa.iload (j := 10) d_LW_list_456 rfl ?_
    refine Wa.bipush (v := 7) d_LW_list_458 rfl ?_
    refine Wa.ishr d_LW_list_460 ?_
    refine Wa.bipush (v := 16) d_LW_list_461 rfl ?_
    refine Wt.cSi (As := [.int (x7 >>> ((7 : Int32) &&& 31)), .int 16]) (d - 1) 0 0 _ d_LW_list_463 mok_LW_below sl_LW_89 rfl rfl (Nat.le_of_ble_eq_true rfl) (by omega) (Nat.zero_le _) (Nat.zero_le _) hF (fun y19 μ18 hS hF => ?_)
    obtain ⟨n20, hc21, hF⟩ := hF
    refine Wr.iast d_LW_list_466 hc21.1 hc21.2.1 hc21.2.2 ?_
    refine Wa.dup d_LW_list_467 rfl ?_
    refine Wa.iconst (v := 5) d_LW_list_468 rfl ?_
    refine Wa.iload (j := 10) d_LW_list_469 rfl ?_
    refine Wa.bipush (v := 8) d_LW_list_471 rfl ?_
    refine Wa.ishr d_LW_list_473 ?_
    refine Wa.bipush (v := 6) d_LW_list_474 rfl ?_
    refine Wt.cSi (As := [.int (x7 >>> ((8 : Int32) &&& 31)), .int 6]) (d - 1) 0 0 _ d_LW_list_476 mok_LW_below sl_LW_89 rfl rfl (Nat.le_of_ble_eq_true rfl) (by omega) (Nat.zero_le _) (Nat.zero_le _) hF (fun y23 μ22 hS hF => ?_)
    obtain ⟨n24, hc25, hF⟩ := hF
    refine Wr.iast d_LW_list_479 hc25.1 hc25.2.1 hc25.2.2 ?_
    refine Wa.dup d_LW_list_480 rfl ?_
    refine Wa.bipush (v := 6) d_LW_list_481 rfl ?_
    refine Wa.iload (j := 10) d_LW_list_483 rfl ?_
    refine Wa.iconst (v := 2) d_LW_list_485 rfl ?_
    refine Wa.ishr d_LW_list_486 ?_
    refine Wa.iload_n (j := 6) d_LW_list_487 rfl ?_
    refine Wt.cSi (As := [.int (x7 >>> ((2 : Int32) &&& 31)), .int x3]) (d - 1) 0 0 _ d_LW_list_488 mok_LW_below sl_LW_89 rfl rfl (Nat.le_of_ble_eq_true rfl) (by omega) (Nat.zero_le _) (Nat.zero_le _) hF (fun y27 μ26 hS hF => ?_)
    obtain ⟨n28, hc29, hF⟩ := hF
    refine Wr.iast d_LW_list_491 hc29.1 hc29.2.1 hc29.2.2 ?_
    refine Wa.dup d_LW_list_492 rfl ?_
    refine Wa.bipush (v := 7) d_LW_list_493 rfl ?_
    refine Wa.iload (j := 10) d_LW_list_495 rfl ?_
    refine Wa.iconst (v := 4) d_LW_list_497 rfl ?_
    refine Wa.ishr d_LW_list_498 ?_
    refine Wa.iload (j := 7) d_LW_list_499 rfl ?_
    refine Wt.cSi (As := [.int (x7 >>> ((4 : Int32) &&& 31)), .int x4]) (d - 1) 0 0 _ d_LW_list_501 mok_LW_below sl_LW_89 rfl rfl (Nat.le_of_ble_eq_true rfl) (by omega) (Nat.zero_le _) (Nat.zero_le _) hF (fun y31 μ30 hS hF => ?_)
    obtain ⟨n32, hc33, hF⟩ := hF
    refine Wr.iast d_LW_list_504 hc33.1 hc33.2.1 hc33.2.2 ?_
    refine Wa.astore (i := 11) (L' := [(11, .ref q6), (10, .int y4), (9, .int y2), (8, .int z0), (0, .ref a0), (1, .ref a1), (2, .ref a2), (3, .int x3), (4, .int x4), (5, .int x5), (6, .int x6), (7, .int x7)]) d_LW_list_505 (by decide) rfl ?_
    refine Wa.iload (j := 3) d_LW_list_507 rfl ?_
    refine Wa.iconst (v := 2) d_LW_list_509 rfl ?_
    refine Wa.icmp_ne 526 d_LW_list_510 (by decide) (fun hb => ?_) (fun hb => ?_)
    · have hF := hF.2 hb
      exact Wa.loc [4, 5, 6, 7, 8, 9, 10, 11, 3, 2, 1, 0] rfl hF
    · have hF := hF.1 hb
      refine Wa.aload (j := 0) d_LW_list_513 rfl ?_
      refine Wa.iconst (v := 4) d_LW_list_515 rfl ?_
      refine Wa.iload (j := 11) d_LW_list_516 rfl ?_
      refine Wa.bipush (v := 6) d_LW_list_518 rfl ?_
      refine Wa.ishr d_LW_list_520 ?_
      refine Wa.iconst (v := 3) d_LW_list_521 rfl ?_
      refine Wt.cSi (As := [.int (x7 >>> ((6 : Int32) &&& 31)), .int 3]) (d - 1) 0 0 _ d_LW_list_522 mok_LW_below sl_LW_89 rfl rfl (Nat.le_of_ble_eq_true rfl) (by omega) (Nat.zero_le _) (Nat.zero_le _) hF (fun y35 μ34 hS hF => ?_)
      obtain ⟨n36, hc37, hF⟩ := hF
      refine Wr.iast d_LW_list_525 hc37.1 hc37.2.1 hc37.2.2 ?_
      exact Wa.loc [4, 5, 6, 7, 8, 9, 10, 11, 3, 2, 1, 0] rfl hF
  · have hF := hF.1 hb
    refine Wa.iload (j := 10) d_LW_list_422 rfl ?_
    refine Wa.iconst (v := 4) d_LW_list_424 rfl ?_
    refine Wa.ishr d_LW_list_425 ?_
    refine Wa.iload (j := 8) d_LW_list_426 rfl ?_
    refine Wt.cSi (As := [.int (x7 >>> ((4 : Int32) &&& 31)), .int x5]) (d - 1) 0 0 _ d_LW_list_428 mok_LW_below sl_LW_89 rfl rfl (Nat.le_of_ble_eq_true rfl) (by omega) (Nat.zero_le _) (Nat.zero_le _) hF (fun y39 μ38 hS hF => ?_)
    refine Wa.goto 436 d_LW_list_431 (by decide) ?_
    obtain ⟨n40, hc41, hF⟩ := hF
    refine Wr.iast d_LW_list_436 hc41.1 hc41.2.1 hc41.2.2 ?_
    refine Wa.dup d_LW_list_437 rfl ?_
    refine Wa.iconst (v := 2) d_LW_list_438 rfl ?_
    refine Wa.iload (j := 0) d_LW_list_439 rfl ?_
    obtain ⟨n42, hc43, hF⟩ := hF
    refine Wr.iast d_LW_list_441 hc43.1 hc43.2.1 hc43.2.2 ?_
    refine Wa.dup d_LW_list_442 rfl ?_
    refine Wa.iconst (v := 3) d_LW_list_443 rfl ?_
    refine Wa.iload (j := 10) d_LW_list_444 rfl ?_
    refine Wa.bipush (v := 6) d_LW_list_446 rfl ?_
    refine Wa.ishr d_LW_list_448 ?_
    refine Wa.iconst (v := 3) d_LW_list_449 rfl ?_
    refine Wt.cSi (As := [.int (x7 >>> ((6 : Int32) &&& 31)), .int 3]) (d - 1) 0 0 _ d_LW_list_450 mok_LW_below sl_LW_89 rfl rfl (Nat.le_of_ble_eq_true rfl) (by omega) (Nat.zero_le _) (Nat.zero_le _) hF (fun y45 μ44 hS hF => ?_)
    obtain ⟨n46, hc47, hF⟩ := hF
    refine Wr.iast d_LW_list_453 hc47.1 hc47.2.1 hc47.2.2 ?_
    refine Wa.dup d_LW_list_454 rfl ?_
    refine Wa.iconst (v := 4) d_LW_list_455 rfl ?_
    refine Wa.iload (j := 10) d_LW_list_456 rfl ?_
    refine Wa.bipush (v := 7) d_LW_list_458 rfl ?_
    refine Wa.ishr d_LW_list_460 ?_
    refine Wa.bipush (v := 16) d_LW_list_461 rfl ?_
    refine Wt.cSi (As := [.int (x7 >>> ((7 : Int32) &&& 31)), .int 16]) (d - 1) 0 0 _ d_LW_list_463 mok_LW_below sl_LW_89 rfl rfl (Nat.le_of_ble_eq_true rfl) (by omega) (Nat.zero_le _) (Nat.zero_le _) hF (fun y49 μ48 hS hF => ?_)
    obtain ⟨n50, hc51, hF⟩ := hF
    refine Wr.iast d_LW_list_466 hc51.1 hc51.2.1 hc51.2.2 ?_
    refine Wa.dup d_LW_list_467 rfl ?_
    refine Wa.iconst (v := 5) d_LW_list_468 rfl ?_
    refine Wa.iload (j := 10) d_LW_list_469 rfl ?_
    refine Wa.bipush (v := 8) d_LW_list_471 rfl ?_
    refine Wa.ishr d_LW_list_473 ?_
    refine Wa.bipush (v := 6) d_LW_list_474 rfl ?_
    refine Wt.cSi (As := [.int (x7 >>> ((8 : Int32) &&& 31)), .int 6]) (d - 1) 0 0 _ d_LW_list_476 mok_LW_below sl_LW_89 rfl rfl (Nat.le_of_ble_eq_true rfl) (by omega) (Nat.zero_le _) (Nat.zero_le _) hF (fun y53 μ52 hS hF => ?_)
    obtain ⟨n54, hc55, hF⟩ := hF
    refine Wr.iast d_LW_list_479 hc55.1 hc55.2.1 hc55.2.2 ?_
    refine Wa.dup d_LW_list_480 rfl ?_
    refine Wa.bipush (v := 6) d_LW_list_481 rfl ?_
    refine Wa.iload (j := 10) d_LW_list_483 rfl ?_
    refine Wa.iconst (v := 2) d_LW_list_485 rfl ?_
    refine Wa.ishr d_LW_list_486 ?_
    refine Wa.iload_n (j := 6) d_LW_list_487 rfl ?_
    refine Wt.cSi (As := [.int (x7 >>> ((2 : Int32) &&& 31)), .int x3]) (d - 1) 0 0 _ d_LW_list_488 mok_LW_below sl_LW_89 rfl rfl (Nat.le_of_ble_eq_true rfl) (by omega) (Nat.zero_le _) (Nat.zero_le _) hF (fun y57 μ56 hS hF => ?_)
    obtain ⟨n58, hc59, hF⟩ := hF
    refine Wr.iast d_LW_list_491 hc59.1 hc59.2.1 hc59.2.2 ?_
    refine Wa.dup d_LW_list_492 rfl ?_
    refine Wa.bipush (v := 7) d_LW_list_493 rfl ?_
    refine Wa.iload (j := 10) d_LW_list_495 rfl ?_
    refine Wa.iconst (v := 4) d_LW_list_497 rfl ?_
    refine Wa.ishr d_LW_list_498 ?_
    refine Wa.iload (j := 7) d_LW_list_499 rfl ?_
    refine Wt.cSi (As := [.int (x7 >>> ((4 : Int32) &&& 31)), .int x4]) (d - 1) 0 0 _ d_LW_list_501 mok_LW_below sl_LW_89 rfl rfl (Nat.le_of_ble_eq_true rfl) (by omega) (Nat.zero_le _) (Nat.zero_le _) hF (fun y61 μ60 hS hF => ?_)
    obtain ⟨n62, hc63, hF⟩ := hF
    refine Wr.iast d_LW_list_504 hc63.1 hc63.2.1 hc63.2.2 ?_
    refine Wa.astore (i := 11) (L' := [(11, .ref q6), (10, .int y4), (9, .int y2), (8, .int z0), (0, .ref a0), (1, .ref a1), (2, .ref a2), (3, .int x3), (4, .int x4), (5, .int x5), (6, .int x6), (7, .int x7)]) d_LW_list_505 (by decide) rfl ?_
    refine Wa.iload (j := 3) d_LW_list_507 rfl ?_
    refine Wa.iconst (v := 2) d_LW_list_509 rfl ?_
    refine Wa.icmp_ne 526 d_LW_list_510 (by decide) (fun hb => ?_) (fun hb => ?_)
    · have hF := hF.2 hb
      exact Wa.loc [4, 5, 6, 7, 8, 9, 10, 11, 3, 2, 1, 0] rfl hF
    · have hF := hF.1 hb
      refine Wa.aload (j := 0) d_LW_list_513 rfl ?_
      refine Wa.iconst (v := 4) d_LW_list_515 rfl ?_
      refine Wa.iload (j := 11) d_LW_list_516 rfl ?_
      refine Wa.bipush (v := 6) d_LW_list_518 rfl ?_
      refine Wa.ishr d_LW_list_520 ?_
      refine Wa.iconst (v := 3) d_LW_list_521 rfl ?_
      refine Wt.cSi (As := [.int (x7 >>> ((6 : Int32) &&& 31)), .int 3]) (d - 1) 0 0 _ d_LW_list_522 mok_LW_below sl_LW_89 rfl rfl (Nat.le_of_ble_eq_true rfl) (by omega) (Nat.zero_le _) (Nat.zero_le _) hF (fun y65 μ64 hS hF => ?_)
      obtain ⟨n66, hc67, hF⟩ := hF
      refine Wr.iast d_LW_list_525 hc67.1 hc67.2.1 hc67.2.2 ?_
      exact Wa.loc [4, 5, 6, 7, 8, 9, 10, 11, 3, 2, 1, 0] rfl hF
set_option maxHeartbeats 4000000 in
set_option maxRecDepth 20000 in
theorem y_LW_list_526 {d rc rs : Nat} {Q : Option Value → Mu → Prop} {μ : Mu} {a0 : Nat} {a1 : Nat} {a2 : Nat} {x3 : Int32} {x4 : Int32} {x5 : Int32} {x6 : Int32} {x7 : Int32} {x8 : Int32} {x9 : Int32} {x10 : Int32} {a11 : Nat} (hD : 1 ≤ d)
    (hF : ((2 ≤ x8 → Wx K_LW_list d rc rs Q 544 [(0, .ref a0), (1, .ref a1), (2, .ref a2), (3, .int x3), (4, .int x4), (5, .int x5), (6, .int x6), (7, .int x7), (8, .int x8), (9, .int x9), (10, .int x10), (11, .ref a11)] [] μ) ∧ (¬ 2 ≤ x8 → (∃ n1, (mS μ a11 = (2, n1) ∧ vp_in (5 : Int32) n1) ∧ (((gI μ a11 (5 : Int32).toNatClampNeg) = 0 → (∃ n3, (mS μ a11 = (2, n3) ∧ vp_in (5 : Int32) n3 ∧ hiN a11) ∧ Wx K_LW_list d rc rs Q 544 [(0, .ref a0), (1, .ref a1), (2, .ref a2), (3, .int x3), (4, .int x4), (5, .int x5), (6, .int x6), (7, .int x7), (8, .int x8), (9, .int x9), (10, .int x10), (11, .ref a11)] [] (setI μ a11 (5 : Int32).toNatClampNeg 5))) ∧ (¬ (gI μ a11 (5 : Int32).toNatClampNeg) = 0 → Wx K_LW_list d rc rs Q 544 [(0, .ref a0), (1, .ref a1), (2, .ref a2), (3, .int x3), (4, .int x4), (5, .int x5), (6, .int x6), (7, .int x7), (8, .int x8), (9, .int x9), (10, .int x10), (11, .ref a11)] [] μ)))))) : Wx K_LW_list d rc rs Q 526 [(0, .ref a0), (1, .ref a1), (2, .ref a2), (3, .int x3), (4, .int x4), (5, .int x5), (6, .int x6), (7, .int x7), (8, .int x8), (9, .int x9), (10, .int x10), (11, .ref a11)] [] μ := by
  refine Wa.iload (j := 8) d_LW_list_526 rfl ?_
  refine Wa.iconst (v := 2) d_LW_list_528 rfl ?_
  refine Wa.icmp_ge 544 d_LW_list_529 (by decide) (fun hb => ?_) (fun hb => ?_)
  · have hF := hF.1 hb
    exact Wa.loc [0, 1, 2, 3, 4, 5, 6, 7, 8, 9, 10, 11] rfl hF
  · have hF := hF.2 hb
    refine Wa.aload (j := 11) d_LW_list_532 rfl ?_
    refine Wa.iconst (v := 5) d_LW_list_534 rfl ?_
    obtain ⟨n1, hc2, hF⟩ := hF
    refine Wa.iald d_LW_list_535 hc2.1 hc2.2 ?_
    refine Wa.if_ne 544 d_LW_list_536 (by decide) (fun hb => ?_) (fun hb => ?_)
    · have hF := hF.2 hb
      exact Wa.loc [0, 1, 2, 3, 4, 5, 6, 7, 8, 9, 10, 11] rfl hF
    · have hF := hF.1 hb
      refine Wa.aload (j := 11) d_LW_list_539 rfl ?_
      refine Wa.iconst (v := 5) d_LW_list_541 rfl ?_
      refine Wa.iconst (v := 5) d_LW_list_542 rfl ?_
      obtain ⟨n3, hc4, hF⟩ := hF
      refine Wr.iast d_LW_list_543 hc4.1 hc4.2.1 hc4.2.2 ?_
      exact Wa.loc [0, 1, 2, 3, 4, 5, 6, 7, 8, 9, 10, 11] rfl hF
set_option maxHeartbeats 4000000 in
set_option maxRecDepth 20000 in
theorem y_LW_list_544 {d rc rs : Nat} {Q : Option Value → Mu → Prop} {μ : Mu} {a0 : Nat} {a1 : Nat} {a2 : Nat} {x3 : Int32} {x4 : Int32} {x5 : Int32} {x6 : Int32} {x7 : Int32} {x8 : Int32} {x9 : Int32} {x10 : Int32} {a11 : Nat} (hD : 1 ≤ d)
    (hF : (∃ n1, (mS μ a11 = (2, n1) ∧ vp_in (5 : Int32) n1) ∧ (((gI μ a11 (5 : Int32).toNatClampNeg) = 3 → CalS K_LW_below (d - 1) 0 0 [.int (x7 >>> ((9 : Int32) &&& 31)), .int 7] μ (fun r μ3 => ∃ y4, r = some (.int y4) ∧ (∃ n5, (mS μ3 a11 = (2, n5) ∧ vp_in (6 : Int32) n5 ∧ hiN a11) ∧ Wx K_LW_list d (rc - 0) (rs - 0) Q 569 [(0, .ref a0), (1, .ref a1), (2, .ref a2), (3, .int x3), (4, .int x4), (5, .int x5), (6, .int x6), (7, .int x7), (8, .int x8), (9, .int x9), (10, .int x10), (11, .ref a11)] [] (setI μ3 a11 (6 : Int32).toNatClampNeg ((2 : Int32) + y4))))) ∧ (¬ (gI μ a11 (5 : Int32).toNatClampNeg) = 3 → Wx K_LW_list d rc rs Q 569 [(0, .ref a0), (1, .ref a1), (2, .ref a2), (3, .int x3), (4, .int x4), (5, .int x5), (6, .int x6), (7, .int x7), (8, .int x8), (9, .int x9), (10, .int x10), (11, .ref a11)] [] μ)))) : Wx K_LW_list d rc rs Q 544 [(0, .ref a0), (1, .ref a1), (2, .ref a2), (3, .int x3), (4, .int x4), (5, .int x5), (6, .int x6), (7, .int x7), (8, .int x8), (9, .int x9), (10, .int x10), (11, .ref a11)] [] μ := by
  refine Wa.aload (j := 11) d_LW_list_544 rfl ?_
  refine Wa.iconst (v := 5) d_LW_list_546 rfl ?_
  obtain ⟨n1, hc2, hF⟩ := hF
  refine Wa.iald d_LW_list_547 hc2.1 hc2.2 ?_
  refine Wa.iconst (v := 3) d_LW_list_548 rfl ?_
  refine Wa.icmp_ne 569 d_LW_list_549 (by decide) (fun hb => ?_) (fun hb => ?_)
  · have hF := hF.2 hb
    exact Wa.loc [0, 1, 2, 3, 4, 5, 6, 7, 8, 9, 10, 11] rfl hF
  · have hF := hF.1 hb
    refine Wa.aload (j := 11) d_LW_list_552 rfl ?_
    refine Wa.bipush (v := 6) d_LW_list_554 rfl ?_
    refine Wa.iconst (v := 2) d_LW_list_556 rfl ?_
    refine Wa.iload (j := 7) d_LW_list_557 rfl ?_
    refine Wa.bipush (v := 9) d_LW_list_559 rfl ?_
    refine Wa.ishr d_LW_list_561 ?_
    refine Wa.bipush (v := 7) d_LW_list_562 rfl ?_
    refine Wt.cSi (As := [.int (x7 >>> ((9 : Int32) &&& 31)), .int 7]) (d - 1) 0 0 _ d_LW_list_564 mok_LW_below sl_LW_89 rfl rfl (Nat.le_of_ble_eq_true rfl) (by omega) (Nat.zero_le _) (Nat.zero_le _) hF (fun y4 μ3 hS hF => ?_)
    refine Wa.iadd d_LW_list_567 ?_
    obtain ⟨n5, hc6, hF⟩ := hF
    refine Wr.iast d_LW_list_568 hc6.1 hc6.2.1 hc6.2.2 ?_
    exact Wa.loc [0, 1, 2, 3, 4, 5, 6, 7, 8, 9, 10, 11] rfl hF
set_option maxHeartbeats 4000000 in
set_option maxRecDepth 20000 in
theorem y_LW_list_569 {d rc rs : Nat} {Q : Option Value → Mu → Prop} {μ : Mu} {a0 : Nat} {a1 : Nat} {a2 : Nat} {x3 : Int32} {x4 : Int32} {x5 : Int32} {x6 : Int32} {x7 : Int32} {x8 : Int32} {x9 : Int32} {x10 : Int32} {a11 : Nat} (hD : 1 ≤ d)
    (hF : (∃ n1, (mS μ a11 = (2, n1) ∧ vp_in (5 : Int32) n1) ∧ (((gI μ a11 (5 : Int32).toNatClampNeg) = 3 → (∃ n3, (mS μ a11 = (2, n3) ∧ vp_in (6 : Int32) n3) ∧ CalS K_LW_below (d - 1) 0 0 [.int (x7 >>> ((4 : Int32) &&& 31)), .int (gI μ a11 (6 : Int32).toNatClampNeg)] μ (fun r μ5 => ∃ y6, r = some (.int y6) ∧ (∃ n7, (mS μ5 a11 = (2, n7) ∧ vp_in (7 : Int32) n7 ∧ hiN a11) ∧ Wx K_LW_list d (rc - 0) (rs - 0) Q 594 [(0, .ref a0), (1, .ref a1), (2, .ref a2), (3, .int x3), (4, .int x4), (5, .int x5), (6, .int x6), (7, .int x7), (8, .int x8), (9, .int x9), (10, .int x10), (11, .ref a11)] [] (setI μ5 a11 (7 : Int32).toNatClampNeg y6))))) ∧ (¬ (gI μ a11 (5 : Int32).toNatClampNeg) = 3 → Wx K_LW_list d rc rs Q 594 [(0, .ref a0), (1, .ref a1), (2, .ref a2), (3, .int x3), (4, .int x4), (5, .int x5), (6, .int x6), (7, .int x7), (8, .int x8), (9, .int x9), (10, .int x10), (11, .ref a11)] [] μ)))) : Wx K_LW_list d rc rs Q 569 [(0, .ref a0), (1, .ref a1), (2, .ref a2), (3, .int x3), (4, .int x4), (5, .int x5), (6, .int x6), (7, .int x7), (8, .int x8), (9, .int x9), (10, .int x10), (11, .ref a11)] [] μ := by
  refine Wa.aload (j := 11) d_LW_list_569 rfl ?_
  refine Wa.iconst (v := 5) d_LW_list_571 rfl ?_
  obtain ⟨n1, hc2, hF⟩ := hF
  refine Wa.iald d_LW_list_572 hc2.1 hc2.2 ?_
  refine Wa.iconst (v := 3) d_LW_list_573 rfl ?_
  refine Wa.icmp_ne 594 d_LW_list_574 (by decide) (fun hb => ?_) (fun hb => ?_)
  · have hF := hF.2 hb
    exact Wa.loc [0, 1, 2, 3, 4, 5, 6, 7, 8, 9, 10, 11] rfl hF
  · have hF := hF.1 hb
    refine Wa.aload (j := 11) d_LW_list_577 rfl ?_
    refine Wa.bipush (v := 7) d_LW_list_579 rfl ?_
    refine Wa.iload (j := 7) d_LW_list_581 rfl ?_
    refine Wa.iconst (v := 4) d_LW_list_583 rfl ?_
    refine Wa.ishr d_LW_list_584 ?_
    refine Wa.aload (j := 11) d_LW_list_585 rfl ?_
    refine Wa.bipush (v := 6) d_LW_list_587 rfl ?_
    obtain ⟨n3, hc4, hF⟩ := hF
    refine Wa.iald d_LW_list_589 hc4.1 hc4.2 ?_
    refine Wt.cSi (As := [.int (x7 >>> ((4 : Int32) &&& 31)), .int (gI μ a11 (6 : Int32).toNatClampNeg)]) (d - 1) 0 0 _ d_LW_list_590 mok_LW_below sl_LW_89 rfl rfl (Nat.le_of_ble_eq_true rfl) (by omega) (Nat.zero_le _) (Nat.zero_le _) hF (fun y6 μ5 hS hF => ?_)
    obtain ⟨n7, hc8, hF⟩ := hF
    refine Wr.iast d_LW_list_593 hc8.1 hc8.2.1 hc8.2.2 ?_
    exact Wa.loc [0, 1, 2, 3, 4, 5, 6, 7, 8, 9, 10, 11] rfl hF
set_option maxHeartbeats 4000000 in
set_option maxRecDepth 20000 in
theorem y_LW_list_594 {d rc rs : Nat} {Q : Option Value → Mu → Prop} {μ : Mu} {a0 : Nat} {a1 : Nat} {a2 : Nat} {x3 : Int32} {x4 : Int32} {x5 : Int32} {x6 : Int32} {x7 : Int32} {x8 : Int32} {x9 : Int32} {x10 : Int32} {a11 : Nat} (hD : 1 ≤ d)
    (hF : (∃ n1, (mS μ a11 = (2, n1) ∧ vp_in (5 : Int32) n1) ∧ (((gI μ a11 (5 : Int32).toNatClampNeg) = 4 → CalS K_LW_below (d - 1) 0 0 [.int (x7 >>> ((9 : Int32) &&& 31)), .int 3] μ (fun r μ3 => ∃ y4, r = some (.int y4) ∧ (∃ n5, (mS μ3 a11 = (2, n5) ∧ vp_in (7 : Int32) n5 ∧ hiN a11) ∧ Wx K_LW_list d (rc - 0) (rs - 0) Q 616 [(0, .ref a0), (1, .ref a1), (2, .ref a2), (3, .int x3), (4, .int x4), (5, .int x5), (6, .int x6), (8, .int x8), (9, .int x9), (10, .int x10), (11, .ref a11)] [] (setI μ3 a11 (7 : Int32).toNatClampNeg y4)))) ∧ (¬ (gI μ a11 (5 : Int32).toNatClampNeg) = 4 → Wx K_LW_list d rc rs Q 616 [(0, .ref a0), (1, .ref a1), (2, .ref a2), (3, .int x3), (4, .int x4), (5, .int x5), (6, .int x6), (8, .int x8), (9, .int x9), (10, .int x10), (11, .ref a11)] [] μ)))) : Wx K_LW_list d rc rs Q 594 [(0, .ref a0), (1, .ref a1), (2, .ref a2), (3, .int x3), (4, .int x4), (5, .int x5), (6, .int x6), (7, .int x7), (8, .int x8), (9, .int x9), (10, .int x10), (11, .ref a11)] [] μ := by
  refine Wa.aload (j := 11) d_LW_list_594 rfl ?_
  refine Wa.iconst (v := 5) d_LW_list_596 rfl ?_
  obtain ⟨n1, hc2, hF⟩ := hF
  refine Wa.iald d_LW_list_597 hc2.1 hc2.2 ?_
  refine Wa.iconst (v := 4) d_LW_list_598 rfl ?_
  refine Wa.icmp_ne 616 d_LW_list_599 (by decide) (fun hb => ?_) (fun hb => ?_)
  · have hF := hF.2 hb
    exact Wa.loc [0, 1, 2, 3, 4, 5, 6, 8, 9, 10, 11] rfl hF
  · have hF := hF.1 hb
    refine Wa.aload (j := 11) d_LW_list_602 rfl ?_
    refine Wa.bipush (v := 7) d_LW_list_604 rfl ?_
    refine Wa.iload (j := 7) d_LW_list_606 rfl ?_
    refine Wa.bipush (v := 9) d_LW_list_608 rfl ?_
    refine Wa.ishr d_LW_list_610 ?_
    refine Wa.iconst (v := 3) d_LW_list_611 rfl ?_
    refine Wt.cSi (As := [.int (x7 >>> ((9 : Int32) &&& 31)), .int 3]) (d - 1) 0 0 _ d_LW_list_612 mok_LW_below sl_LW_89 rfl rfl (Nat.le_of_ble_eq_true rfl) (by omega) (Nat.zero_le _) (Nat.zero_le _) hF (fun y4 μ3 hS hF => ?_)
    obtain ⟨n5, hc6, hF⟩ := hF
    refine Wr.iast d_LW_list_615 hc6.1 hc6.2.1 hc6.2.2 ?_
    exact Wa.loc [0, 1, 2, 3, 4, 5, 6, 8, 9, 10, 11] rfl hF
set_option maxHeartbeats 4000000 in
set_option maxRecDepth 20000 in
theorem y_LW_list_616 {d rc rs : Nat} {Q : Option Value → Mu → Prop} {μ : Mu} {a0 : Nat} {a1 : Nat} {a2 : Nat} {x3 : Int32} {x4 : Int32} {x5 : Int32} {x6 : Int32} {x8 : Int32} {x9 : Int32} {x10 : Int32} {a11 : Nat} (hD : 1 ≤ d)
    (hF : ((1 ≤ rc ∧ 4 ≤ rs) ∧ (∃ q2, FreN μ q2 ∧ (∃ cc4 ss5 : Nat, (cc4 ≤ rc - 1 ∧ ss5 ≤ rs - 4) ∧ CalS K_SB_init_da8c8 (d - 1) cc4 ss5 [.ref q2] (mkA μ q2 (1, 12)) (fun r μ7 => r = none ∧ (∃ cc8 ss9 : Nat, (cc8 ≤ rc - 1 - cc4 ∧ ss9 ≤ rs - 4 - ss5) ∧ (mS μ7 q2 = (1, 12) ∧ CalS K_SB_append_15ec4 (d - 1) cc8 ss9 [.ref q2, .ref (hd 1 70)] μ7 (fun r μ11 => ∃ b13, r = some (.ref b13) ∧ (∃ cc14 ss15 : Nat, (cc14 ≤ rc - 1 - cc4 - cc8 ∧ ss15 ≤ rs - 4 - ss5 - ss9) ∧ (mS μ11 b13 = (1, 12) ∧ CalS K_SB_append_bf812 (d - 1) cc14 ss15 [.ref b13, .int x9] μ11 (fun r μ17 => ∃ b19, r = some (.ref b19) ∧ (∃ cc20 ss21 : Nat, (cc20 ≤ rc - 1 - cc4 - cc8 - cc14 ∧ ss21 ≤ rs - 4 - ss5 - ss9 - ss15) ∧ (mS μ17 b19 = (1, 12) ∧ CalS K_SB_append_15ec4 (d - 1) cc20 ss21 [.ref b19, .ref (hd 1 47)] μ17 (fun r μ23 => ∃ b25, r = some (.ref b25) ∧ (∃ cc26 ss27 : Nat, (cc26 ≤ rc - 1 - cc4 - cc8 - cc14 - cc20 ∧ ss27 ≤ rs - 4 - ss5 - ss9 - ss15 - ss21) ∧ (mS μ23 b25 = (1, 12) ∧ CalS K_SB_append_bf812 (d - 1) cc26 ss27 [.ref b25, .int x10] μ23 (fun r μ29 => ∃ b31, r = some (.ref b31) ∧ (∃ cc32 ss33 : Nat, (cc32 ≤ rc - 1 - cc4 - cc8 - cc14 - cc20 - cc26 ∧ ss33 ≤ rs - 4 - ss5 - ss9 - ss15 - ss21 - ss27) ∧ (mS μ29 b31 = (1, 12) ∧ CalS K_SB_toString_0e30d (d - 1) cc32 ss33 [.ref b31] μ29 (fun r μ35 => ∃ b37, r = some (.ref b37) ∧ ((¬ (3 : Int32) < 0 ∧ 3 ≤ 1000000 ∧ 1 ≤ rc - 1 - cc4 - cc8 - cc14 - cc20 - cc26 - cc32 ∧ 3 ≤ rs - 4 - ss5 - ss9 - ss15 - ss21 - ss27 - ss33) ∧ (∃ q39, FreN μ35 q39 ∧ (∃ n41, (mS (mkA μ35 q39 (21, 3)) q39 = (21, n41) ∧ vp_in (0 : Int32) n41 ∧ hiN q39) ∧ (mS (mkA μ35 q39 (21, 3)) (hd 1 71) = (1, 15) ∧ (∃ n44, (mS (setR (mkA μ35 q39 (21, 3)) q39 (0 : Int32).toNatClampNeg (hd 1 71)) q39 = (21, n44) ∧ vp_in (1 : Int32) n44 ∧ hiN q39) ∧ (mS (setR (mkA μ35 q39 (21, 3)) q39 (0 : Int32).toNatClampNeg (hd 1 71)) (hd 1 72) = (1, 15) ∧ (∃ n47, (mS (setR (setR (mkA μ35 q39 (21, 3)) q39 (0 : Int32).toNatClampNeg (hd 1 71)) q39 (1 : Int32).toNatClampNeg (hd 1 72)) q39 = (21, n47) ∧ vp_in (2 : Int32) n47 ∧ hiN q39) ∧ (mS (setR (setR (mkA μ35 q39 (21, 3)) q39 (0 : Int32).toNatClampNeg (hd 1 71)) q39 (1 : Int32).toNatClampNeg (hd 1 72)) (hd 1 73) = (1, 15) ∧ ((x8 = 3 → ((1 ≤ rc - 1 - cc4 - cc8 - cc14 - cc20 - cc26 - cc32 - 1 ∧ 4 ≤ rs - 4 - ss5 - ss9 - ss15 - ss21 - ss27 - ss33 - 3) ∧ (∃ q274, FreN (setR (setR (setR (mkA μ35 q39 (21, 3)) q39 (0 : Int32).toNatClampNeg (hd 1 71)) q39 (1 : Int32).toNatClampNeg (hd 1 72)) q39 (2 : Int32).toNatClampNeg (hd 1 73)) q274 ∧ (∃ cc276 ss277 : Nat, (cc276 ≤ rc - 1 - cc4 - cc8 - cc14 - cc20 - cc26 - cc32 - 1 - 1 ∧ ss277 ≤ rs - 4 - ss5 - ss9 - ss15 - ss21 - ss27 - ss33 - 3 - 4) ∧ CalS K_SB_init_da8c8 (d - 1) cc276 ss277 [.ref q274] (mkA (setR (setR (setR (mkA μ35 q39 (21, 3)) q39 (0 : Int32).toNatClampNeg (hd 1 71)) q39 (1 : Int32).toNatClampNeg (hd 1 72)) q39 (2 : Int32).toNatClampNeg (hd 1 73)) q274 (1, 12)) (fun r μ279 => r = none ∧ (∃ cc280 ss281 : Nat, (cc280 ≤ rc - 1 - cc4 - cc8 - cc14 - cc20 - cc26 - cc32 - 1 - 1 - cc276 ∧ ss281 ≤ rs - 4 - ss5 - ss9 - ss15 - ss21 - ss27 - ss33 - 3 - 4 - ss277) ∧ (mS μ279 q274 = (1, 12) ∧ CalS K_SB_append_15ec4 (d - 1) cc280 ss281 [.ref q274, .ref (hd 1 74)] μ279 (fun r μ283 => ∃ b285, r = some (.ref b285) ∧ (∃ n286, (mS μ283 a11 = (2, n286) ∧ vp_in (1 : Int32) n286) ∧ (∃ cc288 ss289 : Nat, (cc288 ≤ rc - 1 - cc4 - cc8 - cc14 - cc20 - cc26 - cc32 - 1 - 1 - cc276 - cc280 ∧ ss289 ≤ rs - 4 - ss5 - ss9 - ss15 - ss21 - ss27 - ss33 - 3 - 4 - ss277 - ss281) ∧ (mS μ283 b285 = (1, 12) ∧ CalS K_SB_append_bf812 (d - 1) cc288 ss289 [.ref b285, .int (gI μ283 a11 (1 : Int32).toNatClampNeg)] μ283 (fun r μ291 => ∃ b293, r = some (.ref b293) ∧ (∃ cc294 ss295 : Nat, (cc294 ≤ rc - 1 - cc4 - cc8 - cc14 - cc20 - cc26 - cc32 - 1 - 1 - cc276 - cc280 - cc288 ∧ ss295 ≤ rs - 4 - ss5 - ss9 - ss15 - ss21 - ss27 - ss33 - 3 - 4 - ss277 - ss281 - ss289) ∧ (mS μ291 b293 = (1, 12) ∧ CalS K_SB_toString_0e30d (d - 1) cc294 ss295 [.ref b293] μ291 (fun r μ297 => ∃ b299, r = some (.ref b299) ∧ (∃ cc300 ss301 : Nat, (cc300 ≤ rc - 1 - cc4 - cc8 - cc14 - cc20 - cc26 - cc32 - 1 - 1 - cc276 - cc280 - cc288 - cc294 ∧ ss301 ≤ rs - 4 - ss5 - ss9 - ss15 - ss21 - ss27 - ss33 - 3 - 4 - ss277 - ss281 - ss289 - ss295) ∧ (mS μ297 a1 = (1, 12) ∧ CalS K_SB_append_15ec4 (d - 1) cc300 ss301 [.ref a1, .ref b299] μ297 (fun r μ303 => ∃ b305, r = some (.ref b305) ∧ (∃ cc306 ss307 : Nat, (cc306 ≤ rc - 1 - cc4 - cc8 - cc14 - cc20 - cc26 - cc32 - 1 - 1 - cc276 - cc280 - cc288 - cc294 - cc300 ∧ ss307 ≤ rs - 4 - ss5 - ss9 - ss15 - ss21 - ss27 - ss33 - 3 - 4 - ss277 - ss281 - ss289 - ss295 - ss301) ∧ CalS K_LW_test (d - 1) cc306 ss307 [.ref a11] μ303 (fun r μ309 => ∃ b310, r = some (.ref b310) ∧ (∃ cc311 ss312 : Nat, (cc311 ≤ rc - 1 - cc4 - cc8 - cc14 - cc20 - cc26 - cc32 - 1 - 1 - cc276 - cc280 - cc288 - cc294 - cc300 - cc306 ∧ ss312 ≤ rs - 4 - ss5 - ss9 - ss15 - ss21 - ss27 - ss33 - 3 - 4 - ss277 - ss281 - ss289 - ss295 - ss301 - ss307) ∧ (mS μ309 b305 = (1, 12) ∧ CalS K_SB_append_15ec4 (d - 1) cc311 ss312 [.ref b305, .ref b310] μ309 (fun r μ314 => ∃ b316, r = some (.ref b316) ∧ (∃ cc317 ss318 : Nat, (cc317 ≤ rc - 1 - cc4 - cc8 - cc14 - cc20 - cc26 - cc32 - 1 - 1 - cc276 - cc280 - cc288 - cc294 - cc300 - cc306 - cc311 ∧ ss318 ≤ rs - 4 - ss5 - ss9 - ss15 - ss21 - ss27 - ss33 - 3 - 4 - ss277 - ss281 - ss289 - ss295 - ss301 - ss307 - ss312) ∧ (mS μ314 b316 = (1, 12) ∧ CalS K_SB_append_15ec4 (d - 1) cc317 ss318 [.ref b316, .ref (hd 1 69)] μ314 (fun r μ320 => ∃ b322, r = some (.ref b322) ∧ (mS μ320 a2 = (1, 11) ∧ (∃ b324, gR μ320 a2 14 = some b324 ∧ (∃ cc326 ss327 : Nat, (cc326 ≤ rc - 1 - cc4 - cc8 - cc14 - cc20 - cc26 - cc32 - 1 - 1 - cc276 - cc280 - cc288 - cc294 - cc300 - cc306 - cc311 - cc317 ∧ ss327 ≤ rs - 4 - ss5 - ss9 - ss15 - ss21 - ss27 - ss33 - 3 - 4 - ss277 - ss281 - ss289 - ss295 - ss301 - ss307 - ss312 - ss318) ∧ CalS K_SI_with (d - 1) cc326 ss327 [.ref b324, .ref a11] μ320 (fun r μ329 => ∃ b330, r = some (.ref b330) ∧ ((mS μ329 a2 = (1, 11) ∧ hiN a2) ∧ Wx K_LW_list d (rc - 1 - cc4 - cc8 - cc14 - cc20 - cc26 - cc32 - 1 - 1 - cc276 - cc280 - cc288 - cc294 - cc300 - cc306 - cc311 - cc317 - cc326) (rs - 4 - ss5 - ss9 - ss15 - ss21 - ss27 - ss33 - 3 - 4 - ss277 - ss281 - ss289 - ss295 - ss301 - ss307 - ss312 - ss318 - ss327) Q 337 [(0, .ref a0), (1, .ref a1), (2, .ref a2), (3, .int x3), (4, .int x4), (5, .int x5), (6, .int (x6 + (-1)))] [] (setR μ329 a2 14 b330)))))))))))))))))))))))))))))))) ∧ (¬ x8 = 3 → ((x8 = 2 → ((1 ≤ rc - 1 - cc4 - cc8 - cc14 - cc20 - cc26 - cc32 - 1 ∧ 4 ≤ rs - 4 - ss5 - ss9 - ss15 - ss21 - ss27 - ss33 - 3) ∧ (∃ q199, FreN (setR (setR (setR (mkA μ35 q39 (21, 3)) q39 (0 : Int32).toNatClampNeg (hd 1 71)) q39 (1 : Int32).toNatClampNeg (hd 1 72)) q39 (2 : Int32).toNatClampNeg (hd 1 73)) q199 ∧ (∃ cc201 ss202 : Nat, (cc201 ≤ rc - 1 - cc4 - cc8 - cc14 - cc20 - cc26 - cc32 - 1 - 1 ∧ ss202 ≤ rs - 4 - ss5 - ss9 - ss15 - ss21 - ss27 - ss33 - 3 - 4) ∧ CalS K_SB_init_da8c8 (d - 1) cc201 ss202 [.ref q199] (mkA (setR (setR (setR (mkA μ35 q39 (21, 3)) q39 (0 : Int32).toNatClampNeg (hd 1 71)) q39 (1 : Int32).toNatClampNeg (hd 1 72)) q39 (2 : Int32).toNatClampNeg (hd 1 73)) q199 (1, 12)) (fun r μ204 => r = none ∧ (∃ cc205 ss206 : Nat, (cc205 ≤ rc - 1 - cc4 - cc8 - cc14 - cc20 - cc26 - cc32 - 1 - 1 - cc201 ∧ ss206 ≤ rs - 4 - ss5 - ss9 - ss15 - ss21 - ss27 - ss33 - 3 - 4 - ss202) ∧ (mS μ204 q199 = (1, 12) ∧ CalS K_SB_append_15ec4 (d - 1) cc205 ss206 [.ref q199, .ref (hd 1 75)] μ204 (fun r μ208 => ∃ b210, r = some (.ref b210) ∧ (∃ cc211 ss212 : Nat, (cc211 ≤ rc - 1 - cc4 - cc8 - cc14 - cc20 - cc26 - cc32 - 1 - 1 - cc201 - cc205 ∧ ss212 ≤ rs - 4 - ss5 - ss9 - ss15 - ss21 - ss27 - ss33 - 3 - 4 - ss202 - ss206) ∧ (mS μ208 b210 = (1, 12) ∧ CalS K_SB_append_15ec4 (d - 1) cc211 ss212 [.ref b210, .ref b37] μ208 (fun r μ214 => ∃ b216, r = some (.ref b216) ∧ (∃ cc217 ss218 : Nat, (cc217 ≤ rc - 1 - cc4 - cc8 - cc14 - cc20 - cc26 - cc32 - 1 - 1 - cc201 - cc205 - cc211 ∧ ss218 ≤ rs - 4 - ss5 - ss9 - ss15 - ss21 - ss27 - ss33 - 3 - 4 - ss202 - ss206 - ss212) ∧ (mS μ214 b216 = (1, 12) ∧ CalS K_SB_append_15ec4 (d - 1) cc217 ss218 [.ref b216, .ref (hd 1 76)] μ214 (fun r μ220 => ∃ b222, r = some (.ref b222) ∧ (∃ n223, (mS μ220 a11 = (2, n223) ∧ vp_in (4 : Int32) n223) ∧ (∃ n225, (mS μ220 q39 = (21, n225) ∧ vp_in (gI μ220 a11 (4 : Int32).toNatClampNeg) n225) ∧ (∃ b227, gR μ220 q39 (gI μ220 a11 (4 : Int32).toNatClampNeg).toNatClampNeg = some b227 ∧ (∃ cc229 ss230 : Nat, (cc229 ≤ rc - 1 - cc4 - cc8 - cc14 - cc20 - cc26 - cc32 - 1 - 1 - cc201 - cc205 - cc211 - cc217 ∧ ss230 ≤ rs - 4 - ss5 - ss9 - ss15 - ss21 - ss27 - ss33 - 3 - 4 - ss202 - ss206 - ss212 - ss218) ∧ (mS μ220 b222 = (1, 12) ∧ CalS K_SB_append_15ec4 (d - 1) cc229 ss230 [.ref b222, .ref b227] μ220 (fun r μ232 => ∃ b234, r = some (.ref b234) ∧ (∃ cc235 ss236 : Nat, (cc235 ≤ rc - 1 - cc4 - cc8 - cc14 - cc20 - cc26 - cc32 - 1 - 1 - cc201 - cc205 - cc211 - cc217 - cc229 ∧ ss236 ≤ rs - 4 - ss5 - ss9 - ss15 - ss21 - ss27 - ss33 - 3 - 4 - ss202 - ss206 - ss212 - ss218 - ss230) ∧ (mS μ232 b234 = (1, 12) ∧ CalS K_SB_toString_0e30d (d - 1) cc235 ss236 [.ref b234] μ232 (fun r μ238 => ∃ b240, r = some (.ref b240) ∧ (∃ cc241 ss242 : Nat, (cc241 ≤ rc - 1 - cc4 - cc8 - cc14 - cc20 - cc26 - cc32 - 1 - 1 - cc201 - cc205 - cc211 - cc217 - cc229 - cc235 ∧ ss242 ≤ rs - 4 - ss5 - ss9 - ss15 - ss21 - ss27 - ss33 - 3 - 4 - ss202 - ss206 - ss212 - ss218 - ss230 - ss236) ∧ (mS μ238 a1 = (1, 12) ∧ CalS K_SB_append_15ec4 (d - 1) cc241 ss242 [.ref a1, .ref b240] μ238 (fun r μ244 => ∃ b246, r = some (.ref b246) ∧ (∃ cc247 ss248 : Nat, (cc247 ≤ rc - 1 - cc4 - cc8 - cc14 - cc20 - cc26 - cc32 - 1 - 1 - cc201 - cc205 - cc211 - cc217 - cc229 - cc235 - cc241 ∧ ss248 ≤ rs - 4 - ss5 - ss9 - ss15 - ss21 - ss27 - ss33 - 3 - 4 - ss202 - ss206 - ss212 - ss218 - ss230 - ss236 - ss242) ∧ CalS K_LW_test (d - 1) cc247 ss248 [.ref a11] μ244 (fun r μ250 => ∃ b251, r = some (.ref b251) ∧ (∃ cc252 ss253 : Nat, (cc252 ≤ rc - 1 - cc4 - cc8 - cc14 - cc20 - cc26 - cc32 - 1 - 1 - cc201 - cc205 - cc211 - cc217 - cc229 - cc235 - cc241 - cc247 ∧ ss253 ≤ rs - 4 - ss5 - ss9 - ss15 - ss21 - ss27 - ss33 - 3 - 4 - ss202 - ss206 - ss212 - ss218 - ss230 - ss236 - ss242 - ss248) ∧ (mS μ250 b246 = (1, 12) ∧ CalS K_SB_append_15ec4 (d - 1) cc252 ss253 [.ref b246, .ref b251] μ250 (fun r μ255 => ∃ b257, r = some (.ref b257) ∧ (∃ cc258 ss259 : Nat, (cc258 ≤ rc - 1 - cc4 - cc8 - cc14 - cc20 - cc26 - cc32 - 1 - 1 - cc201 - cc205 - cc211 - cc217 - cc229 - cc235 - cc241 - cc247 - cc252 ∧ ss259 ≤ rs - 4 - ss5 - ss9 - ss15 - ss21 - ss27 - ss33 - 3 - 4 - ss202 - ss206 - ss212 - ss218 - ss230 - ss236 - ss242 - ss248 - ss253) ∧ (mS μ255 b257 = (1, 12) ∧ CalS K_SB_append_15ec4 (d - 1) cc258 ss259 [.ref b257, .ref (hd 1 69)] μ255 (fun r μ261 => ∃ b263, r = some (.ref b263) ∧ (mS μ261 a2 = (1, 11) ∧ (∃ b265, gR μ261 a2 14 = some b265 ∧ (∃ cc267 ss268 : Nat, (cc267 ≤ rc - 1 - cc4 - cc8 - cc14 - cc20 - cc26 - cc32 - 1 - 1 - cc201 - cc205 - cc211 - cc217 - cc229 - cc235 - cc241 - cc247 - cc252 - cc258 ∧ ss268 ≤ rs - 4 - ss5 - ss9 - ss15 - ss21 - ss27 - ss33 - 3 - 4 - ss202 - ss206 - ss212 - ss218 - ss230 - ss236 - ss242 - ss248 - ss253 - ss259) ∧ CalS K_SI_with (d - 1) cc267 ss268 [.ref b265, .ref a11] μ261 (fun r μ270 => ∃ b271, r = some (.ref b271) ∧ ((mS μ270 a2 = (1, 11) ∧ hiN a2) ∧ Wx K_LW_list d (rc - 1 - cc4 - cc8 - cc14 - cc20 - cc26 - cc32 - 1 - 1 - cc201 - cc205 - cc211 - cc217 - cc229 - cc235 - cc241 - cc247 - cc252 - cc258 - cc267) (rs - 4 - ss5 - ss9 - ss15 - ss21 - ss27 - ss33 - 3 - 4 - ss202 - ss206 - ss212 - ss218 - ss230 - ss236 - ss242 - ss248 - ss253 - ss259 - ss268) Q 337 [(0, .ref a0), (1, .ref a1), (2, .ref a2), (3, .int x3), (4, .int x4), (5, .int x5), (6, .int (x6 + (-1)))] [] (setR μ270 a2 14 b271)))))))))))))))))))))))))))))))))))))))) ∧ (¬ x8 = 2 → ((x8 = 0 → ((1 ≤ rc - 1 - cc4 - cc8 - cc14 - cc20 - cc26 - cc32 - 1 ∧ 4 ≤ rs - 4 - ss5 - ss9 - ss15 - ss21 - ss27 - ss33 - 3) ∧ (∃ q125, FreN (setR (setR (setR (mkA μ35 q39 (21, 3)) q39 (0 : Int32).toNatClampNeg (hd 1 71)) q39 (1 : Int32).toNatClampNeg (hd 1 72)) q39 (2 : Int32).toNatClampNeg (hd 1 73)) q125 ∧ (∃ cc127 ss128 : Nat, (cc127 ≤ rc - 1 - cc4 - cc8 - cc14 - cc20 - cc26 - cc32 - 1 - 1 ∧ ss128 ≤ rs - 4 - ss5 - ss9 - ss15 - ss21 - ss27 - ss33 - 3 - 4) ∧ CalS K_SB_init_da8c8 (d - 1) cc127 ss128 [.ref q125] (mkA (setR (setR (setR (mkA μ35 q39 (21, 3)) q39 (0 : Int32).toNatClampNeg (hd 1 71)) q39 (1 : Int32).toNatClampNeg (hd 1 72)) q39 (2 : Int32).toNatClampNeg (hd 1 73)) q125 (1, 12)) (fun r μ130 => r = none ∧ (∃ cc131 ss132 : Nat, (cc131 ≤ rc - 1 - cc4 - cc8 - cc14 - cc20 - cc26 - cc32 - 1 - 1 - cc127 ∧ ss132 ≤ rs - 4 - ss5 - ss9 - ss15 - ss21 - ss27 - ss33 - 3 - 4 - ss128) ∧ (mS μ130 q125 = (1, 12) ∧ CalS K_SB_append_15ec4 (d - 1) cc131 ss132 [.ref q125, .ref (hd 1 77)] μ130 (fun r μ134 => ∃ b136, r = some (.ref b136) ∧ (∃ cc137 ss138 : Nat, (cc137 ≤ rc - 1 - cc4 - cc8 - cc14 - cc20 - cc26 - cc32 - 1 - 1 - cc127 - cc131 ∧ ss138 ≤ rs - 4 - ss5 - ss9 - ss15 - ss21 - ss27 - ss33 - 3 - 4 - ss128 - ss132) ∧ (mS μ134 b136 = (1, 12) ∧ CalS K_SB_append_15ec4 (d - 1) cc137 ss138 [.ref b136, .ref b37] μ134 (fun r μ140 => ∃ b142, r = some (.ref b142) ∧ (∃ cc143 ss144 : Nat, (cc143 ≤ rc - 1 - cc4 - cc8 - cc14 - cc20 - cc26 - cc32 - 1 - 1 - cc127 - cc131 - cc137 ∧ ss144 ≤ rs - 4 - ss5 - ss9 - ss15 - ss21 - ss27 - ss33 - 3 - 4 - ss128 - ss132 - ss138) ∧ (mS μ140 b142 = (1, 12) ∧ CalS K_SB_append_15ec4 (d - 1) cc143 ss144 [.ref b142, .ref (hd 1 78)] μ140 (fun r μ146 => ∃ b148, r = some (.ref b148) ∧ (∃ cc149 ss150 : Nat, (cc149 ≤ rc - 1 - cc4 - cc8 - cc14 - cc20 - cc26 - cc32 - 1 - 1 - cc127 - cc131 - cc137 - cc143 ∧ ss150 ≤ rs - 4 - ss5 - ss9 - ss15 - ss21 - ss27 - ss33 - 3 - 4 - ss128 - ss132 - ss138 - ss144) ∧ CalS K_LW_sum (d - 1) cc149 ss150 [.ref a11] μ146 (fun r μ152 => ∃ b153, r = some (.ref b153) ∧ (∃ cc154 ss155 : Nat, (cc154 ≤ rc - 1 - cc4 - cc8 - cc14 - cc20 - cc26 - cc32 - 1 - 1 - cc127 - cc131 - cc137 - cc143 - cc149 ∧ ss155 ≤ rs - 4 - ss5 - ss9 - ss15 - ss21 - ss27 - ss33 - 3 - 4 - ss128 - ss132 - ss138 - ss144 - ss150) ∧ (mS μ152 b148 = (1, 12) ∧ CalS K_SB_append_15ec4 (d - 1) cc154 ss155 [.ref b148, .ref b153] μ152 (fun r μ157 => ∃ b159, r = some (.ref b159) ∧ (∃ cc160 ss161 : Nat, (cc160 ≤ rc - 1 - cc4 - cc8 - cc14 - cc20 - cc26 - cc32 - 1 - 1 - cc127 - cc131 - cc137 - cc143 - cc149 - cc154 ∧ ss161 ≤ rs - 4 - ss5 - ss9 - ss15 - ss21 - ss27 - ss33 - 3 - 4 - ss128 - ss132 - ss138 - ss144 - ss150 - ss155) ∧ (mS μ157 b159 = (1, 12) ∧ CalS K_SB_toString_0e30d (d - 1) cc160 ss161 [.ref b159] μ157 (fun r μ163 => ∃ b165, r = some (.ref b165) ∧ (∃ cc166 ss167 : Nat, (cc166 ≤ rc - 1 - cc4 - cc8 - cc14 - cc20 - cc26 - cc32 - 1 - 1 - cc127 - cc131 - cc137 - cc143 - cc149 - cc154 - cc160 ∧ ss167 ≤ rs - 4 - ss5 - ss9 - ss15 - ss21 - ss27 - ss33 - 3 - 4 - ss128 - ss132 - ss138 - ss144 - ss150 - ss155 - ss161) ∧ (mS μ163 a1 = (1, 12) ∧ CalS K_SB_append_15ec4 (d - 1) cc166 ss167 [.ref a1, .ref b165] μ163 (fun r μ169 => ∃ b171, r = some (.ref b171) ∧ (∃ cc172 ss173 : Nat, (cc172 ≤ rc - 1 - cc4 - cc8 - cc14 - cc20 - cc26 - cc32 - 1 - 1 - cc127 - cc131 - cc137 - cc143 - cc149 - cc154 - cc160 - cc166 ∧ ss173 ≤ rs - 4 - ss5 - ss9 - ss15 - ss21 - ss27 - ss33 - 3 - 4 - ss128 - ss132 - ss138 - ss144 - ss150 - ss155 - ss161 - ss167) ∧ CalS K_LW_test (d - 1) cc172 ss173 [.ref a11] μ169 (fun r μ175 => ∃ b176, r = some (.ref b176) ∧ (∃ cc177 ss178 : Nat, (cc177 ≤ rc - 1 - cc4 - cc8 - cc14 - cc20 - cc26 - cc32 - 1 - 1 - cc127 - cc131 - cc137 - cc143 - cc149 - cc154 - cc160 - cc166 - cc172 ∧ ss178 ≤ rs - 4 - ss5 - ss9 - ss15 - ss21 - ss27 - ss33 - 3 - 4 - ss128 - ss132 - ss138 - ss144 - ss150 - ss155 - ss161 - ss167 - ss173) ∧ (mS μ175 b171 = (1, 12) ∧ CalS K_SB_append_15ec4 (d - 1) cc177 ss178 [.ref b171, .ref b176] μ175 (fun r μ180 => ∃ b182, r = some (.ref b182) ∧ (∃ cc183 ss184 : Nat, (cc183 ≤ rc - 1 - cc4 - cc8 - cc14 - cc20 - cc26 - cc32 - 1 - 1 - cc127 - cc131 - cc137 - cc143 - cc149 - cc154 - cc160 - cc166 - cc172 - cc177 ∧ ss184 ≤ rs - 4 - ss5 - ss9 - ss15 - ss21 - ss27 - ss33 - 3 - 4 - ss128 - ss132 - ss138 - ss144 - ss150 - ss155 - ss161 - ss167 - ss173 - ss178) ∧ (mS μ180 b182 = (1, 12) ∧ CalS K_SB_append_15ec4 (d - 1) cc183 ss184 [.ref b182, .ref (hd 1 69)] μ180 (fun r μ186 => ∃ b188, r = some (.ref b188) ∧ (mS μ186 a2 = (1, 11) ∧ (∃ b190, gR μ186 a2 14 = some b190 ∧ (∃ cc192 ss193 : Nat, (cc192 ≤ rc - 1 - cc4 - cc8 - cc14 - cc20 - cc26 - cc32 - 1 - 1 - cc127 - cc131 - cc137 - cc143 - cc149 - cc154 - cc160 - cc166 - cc172 - cc177 - cc183 ∧ ss193 ≤ rs - 4 - ss5 - ss9 - ss15 - ss21 - ss27 - ss33 - 3 - 4 - ss128 - ss132 - ss138 - ss144 - ss150 - ss155 - ss161 - ss167 - ss173 - ss178 - ss184) ∧ CalS K_SI_with (d - 1) cc192 ss193 [.ref b190, .ref a11] μ186 (fun r μ195 => ∃ b196, r = some (.ref b196) ∧ ((mS μ195 a2 = (1, 11) ∧ hiN a2) ∧ Wx K_LW_list d (rc - 1 - cc4 - cc8 - cc14 - cc20 - cc26 - cc32 - 1 - 1 - cc127 - cc131 - cc137 - cc143 - cc149 - cc154 - cc160 - cc166 - cc172 - cc177 - cc183 - cc192) (rs - 4 - ss5 - ss9 - ss15 - ss21 - ss27 - ss33 - 3 - 4 - ss128 - ss132 - ss138 - ss144 - ss150 - ss155 - ss161 - ss167 - ss173 - ss178 - ss184 - ss193) Q 337 [(0, .ref a0), (1, .ref a1), (2, .ref a2), (3, .int x3), (4, .int x4), (5, .int x5), (6, .int (x6 + (-1)))] [] (setR μ195 a2 14 b196))))))))))))))))))))))))))))))))))))))) ∧ (¬ x8 = 0 → ((1 ≤ rc - 1 - cc4 - cc8 - cc14 - cc20 - cc26 - cc32 - 1 ∧ 4 ≤ rs - 4 - ss5 - ss9 - ss15 - ss21 - ss27 - ss33 - 3) ∧ (∃ q51, FreN (setR (setR (setR (mkA μ35 q39 (21, 3)) q39 (0 : Int32).toNatClampNeg (hd 1 71)) q39 (1 : Int32).toNatClampNeg (hd 1 72)) q39 (2 : Int32).toNatClampNeg (hd 1 73)) q51 ∧ (∃ cc53 ss54 : Nat, (cc53 ≤ rc - 1 - cc4 - cc8 - cc14 - cc20 - cc26 - cc32 - 1 - 1 ∧ ss54 ≤ rs - 4 - ss5 - ss9 - ss15 - ss21 - ss27 - ss33 - 3 - 4) ∧ CalS K_SB_init_da8c8 (d - 1) cc53 ss54 [.ref q51] (mkA (setR (setR (setR (mkA μ35 q39 (21, 3)) q39 (0 : Int32).toNatClampNeg (hd 1 71)) q39 (1 : Int32).toNatClampNeg (hd 1 72)) q39 (2 : Int32).toNatClampNeg (hd 1 73)) q51 (1, 12)) (fun r μ56 => r = none ∧ (∃ cc57 ss58 : Nat, (cc57 ≤ rc - 1 - cc4 - cc8 - cc14 - cc20 - cc26 - cc32 - 1 - 1 - cc53 ∧ ss58 ≤ rs - 4 - ss5 - ss9 - ss15 - ss21 - ss27 - ss33 - 3 - 4 - ss54) ∧ (mS μ56 q51 = (1, 12) ∧ CalS K_SB_append_15ec4 (d - 1) cc57 ss58 [.ref q51, .ref (hd 1 79)] μ56 (fun r μ60 => ∃ b62, r = some (.ref b62) ∧ (∃ cc63 ss64 : Nat, (cc63 ≤ rc - 1 - cc4 - cc8 - cc14 - cc20 - cc26 - cc32 - 1 - 1 - cc53 - cc57 ∧ ss64 ≤ rs - 4 - ss5 - ss9 - ss15 - ss21 - ss27 - ss33 - 3 - 4 - ss54 - ss58) ∧ (mS μ60 b62 = (1, 12) ∧ CalS K_SB_append_15ec4 (d - 1) cc63 ss64 [.ref b62, .ref b37] μ60 (fun r μ66 => ∃ b68, r = some (.ref b68) ∧ (∃ cc69 ss70 : Nat, (cc69 ≤ rc - 1 - cc4 - cc8 - cc14 - cc20 - cc26 - cc32 - 1 - 1 - cc53 - cc57 - cc63 ∧ ss70 ≤ rs - 4 - ss5 - ss9 - ss15 - ss21 - ss27 - ss33 - 3 - 4 - ss54 - ss58 - ss64) ∧ (mS μ66 b68 = (1, 12) ∧ CalS K_SB_append_15ec4 (d - 1) cc69 ss70 [.ref b68, .ref (hd 1 80)] μ66 (fun r μ72 => ∃ b74, r = some (.ref b74) ∧ (∃ cc75 ss76 : Nat, (cc75 ≤ rc - 1 - cc4 - cc8 - cc14 - cc20 - cc26 - cc32 - 1 - 1 - cc53 - cc57 - cc63 - cc69 ∧ ss76 ≤ rs - 4 - ss5 - ss9 - ss15 - ss21 - ss27 - ss33 - 3 - 4 - ss54 - ss58 - ss64 - ss70) ∧ CalS K_LW_sum (d - 1) cc75 ss76 [.ref a11] μ72 (fun r μ78 => ∃ b79, r = some (.ref b79) ∧ (∃ cc80 ss81 : Nat, (cc80 ≤ rc - 1 - cc4 - cc8 - cc14 - cc20 - cc26 - cc32 - 1 - 1 - cc53 - cc57 - cc63 - cc69 - cc75 ∧ ss81 ≤ rs - 4 - ss5 - ss9 - ss15 - ss21 - ss27 - ss33 - 3 - 4 - ss54 - ss58 - ss64 - ss70 - ss76) ∧ (mS μ78 b74 = (1, 12) ∧ CalS K_SB_append_15ec4 (d - 1) cc80 ss81 [.ref b74, .ref b79] μ78 (fun r μ83 => ∃ b85, r = some (.ref b85) ∧ (∃ cc86 ss87 : Nat, (cc86 ≤ rc - 1 - cc4 - cc8 - cc14 - cc20 - cc26 - cc32 - 1 - 1 - cc53 - cc57 - cc63 - cc69 - cc75 - cc80 ∧ ss87 ≤ rs - 4 - ss5 - ss9 - ss15 - ss21 - ss27 - ss33 - 3 - 4 - ss54 - ss58 - ss64 - ss70 - ss76 - ss81) ∧ (mS μ83 b85 = (1, 12) ∧ CalS K_SB_toString_0e30d (d - 1) cc86 ss87 [.ref b85] μ83 (fun r μ89 => ∃ b91, r = some (.ref b91) ∧ (∃ cc92 ss93 : Nat, (cc92 ≤ rc - 1 - cc4 - cc8 - cc14 - cc20 - cc26 - cc32 - 1 - 1 - cc53 - cc57 - cc63 - cc69 - cc75 - cc80 - cc86 ∧ ss93 ≤ rs - 4 - ss5 - ss9 - ss15 - ss21 - ss27 - ss33 - 3 - 4 - ss54 - ss58 - ss64 - ss70 - ss76 - ss81 - ss87) ∧ (mS μ89 a1 = (1, 12) ∧ CalS K_SB_append_15ec4 (d - 1) cc92 ss93 [.ref a1, .ref b91] μ89 (fun r μ95 => ∃ b97, r = some (.ref b97) ∧ (∃ cc98 ss99 : Nat, (cc98 ≤ rc - 1 - cc4 - cc8 - cc14 - cc20 - cc26 - cc32 - 1 - 1 - cc53 - cc57 - cc63 - cc69 - cc75 - cc80 - cc86 - cc92 ∧ ss99 ≤ rs - 4 - ss5 - ss9 - ss15 - ss21 - ss27 - ss33 - 3 - 4 - ss54 - ss58 - ss64 - ss70 - ss76 - ss81 - ss87 - ss93) ∧ CalS K_LW_test (d - 1) cc98 ss99 [.ref a11] μ95 (fun r μ101 => ∃ b102, r = some (.ref b102) ∧ (∃ cc103 ss104 : Nat, (cc103 ≤ rc - 1 - cc4 - cc8 - cc14 - cc20 - cc26 - cc32 - 1 - 1 - cc53 - cc57 - cc63 - cc69 - cc75 - cc80 - cc86 - cc92 - cc98 ∧ ss104 ≤ rs - 4 - ss5 - ss9 - ss15 - ss21 - ss27 - ss33 - 3 - 4 - ss54 - ss58 - ss64 - ss70 - ss76 - ss81 - ss87 - ss93 - ss99) ∧ (mS μ101 b97 = (1, 12) ∧ CalS K_SB_append_15ec4 (d - 1) cc103 ss104 [.ref b97, .ref b102] μ101 (fun r μ106 => ∃ b108, r = some (.ref b108) ∧ (∃ cc109 ss110 : Nat, (cc109 ≤ rc - 1 - cc4 - cc8 - cc14 - cc20 - cc26 - cc32 - 1 - 1 - cc53 - cc57 - cc63 - cc69 - cc75 - cc80 - cc86 - cc92 - cc98 - cc103 ∧ ss110 ≤ rs - 4 - ss5 - ss9 - ss15 - ss21 - ss27 - ss33 - 3 - 4 - ss54 - ss58 - ss64 - ss70 - ss76 - ss81 - ss87 - ss93 - ss99 - ss104) ∧ (mS μ106 b108 = (1, 12) ∧ CalS K_SB_append_15ec4 (d - 1) cc109 ss110 [.ref b108, .ref (hd 1 69)] μ106 (fun r μ112 => ∃ b114, r = some (.ref b114) ∧ (mS μ112 a2 = (1, 11) ∧ (∃ b116, gR μ112 a2 14 = some b116 ∧ (∃ cc118 ss119 : Nat, (cc118 ≤ rc - 1 - cc4 - cc8 - cc14 - cc20 - cc26 - cc32 - 1 - 1 - cc53 - cc57 - cc63 - cc69 - cc75 - cc80 - cc86 - cc92 - cc98 - cc103 - cc109 ∧ ss119 ≤ rs - 4 - ss5 - ss9 - ss15 - ss21 - ss27 - ss33 - 3 - 4 - ss54 - ss58 - ss64 - ss70 - ss76 - ss81 - ss87 - ss93 - ss99 - ss104 - ss110) ∧ CalS K_SI_with (d - 1) cc118 ss119 [.ref b116, .ref a11] μ112 (fun r μ121 => ∃ b122, r = some (.ref b122) ∧ ((mS μ121 a2 = (1, 11) ∧ hiN a2) ∧ Wx K_LW_list d (rc - 1 - cc4 - cc8 - cc14 - cc20 - cc26 - cc32 - 1 - 1 - cc53 - cc57 - cc63 - cc69 - cc75 - cc80 - cc86 - cc92 - cc98 - cc103 - cc109 - cc118) (rs - 4 - ss5 - ss9 - ss15 - ss21 - ss27 - ss33 - 3 - 4 - ss54 - ss58 - ss64 - ss70 - ss76 - ss81 - ss87 - ss93 - ss99 - ss104 - ss110 - ss119) Q 337 [(0, .ref a0), (1, .ref a1), (2, .ref a2), (3, .int x3), (4, .int x4), (5, .int x5), (6, .int (x6 + (-1)))] [] (setR μ121 a2 14 b122)))))))))))))))))))))))))))))))))))))))))))))))))))))))))))))))))))))))) : Wx K_LW_list d rc rs Q 616 [(0, .ref a0), (1, .ref a1), (2, .ref a2), (3, .int x3), (4, .int x4), (5, .int x5), (6, .int x6), (8, .int x8), (9, .int x9), (10, .int x10), (11, .ref a11)] [] μ := by
  have hc1 := hF.1
  have hF := hF.2
  obtain ⟨q2, hc3, hF⟩ := hF
  refine Wa.new (q := E_SB) q2 12 d_LW_list_616 rfl ok_SB (by decide +kernel) cl_LW_34 hc1.1 hc1.2 hc3.1 hc3.2.rw ?_
  refine Wa.dup d_LW_list_619 rfl ?_
  obtain ⟨cc4, ss5, hc6, hF⟩ := hF
  refine Ws.cIv (As := []) (d - 1) cc4 ss5 _ d_LW_list_620 mok_SB_init_da8c8 rfl il_LW_36 rfl rfl (Nat.le_of_ble_eq_true rfl) (by omega) hc6.1 hc6.2 hF (fun μ7 hS hF => ?_)
  refine Wa.ldcS 25 d_LW_list_623 (by decide) rfl rfl ?_
  obtain ⟨cc8, ss9, hc10, hF⟩ := hF
  have hc12 := hF.1
  have hF := hF.2
  refine Ws.cVr (q := E_SB) (As := [.ref (hd 1 70)]) 12 (d - 1) cc8 ss9 _ d_LW_list_625 mok_SB_append_15ec4 vl_LW_39 rfl rfl rfl (Nat.le_of_ble_eq_true rfl) (by omega) hc10.1 hc10.2 hc12 hF (fun b13 μ11 hS hF => ?_)
  refine Wa.iload (j := 8) d_LW_list_628 rfl ?_
  obtain ⟨cc14, ss15, hc16, hF⟩ := hF
  have hc18 := hF.1
  have hF := hF.2
  refine Ws.cVr (q := E_SB) (As := [.int x9]) 12 (d - 1) cc14 ss15 _ d_LW_list_630 mok_SB_append_bf812 vl_LW_43 rfl rfl rfl (Nat.le_of_ble_eq_true rfl) (by omega) hc16.1 hc16.2 hc18 hF (fun b19 μ17 hS hF => ?_)
  refine Wa.ldcS 2 d_LW_list_633 (by decide) rfl rfl ?_
  obtain ⟨cc20, ss21, hc22, hF⟩ := hF
  have hc24 := hF.1
  have hF := hF.2
  refine Ws.cVr (q := E_SB) (As := [.ref (hd 1 47)]) 12 (d - 1) cc20 ss21 _ d_LW_list_635 mok_SB_append_15ec4 vl_LW_39 rfl rfl rfl (Nat.le_of_ble_eq_true rfl) (by omega) hc22.1 hc22.2 hc24 hF (fun b25 μ23 hS hF => ?_)
  refine Wa.iload (j := 9) d_LW_list_638 rfl ?_
  obtain ⟨cc26, ss27, hc28, hF⟩ := hF
  have hc30 := hF.1
  have hF := hF.2
  refine Ws.cVr (q := E_SB) (As := [.int x10]) 12 (d - 1) cc26 ss27 _ d_LW_list_640 mok_SB_append_bf812 vl_LW_43 rfl rfl rfl (Nat.le_of_ble_eq_true rfl) (by omega) hc28.1 hc28.2 hc30 hF (fun b31 μ29 hS hF => ?_)
  obtain ⟨cc32, ss33, hc34, hF⟩ := hF
  have hc36 := hF.1
  have hF := hF.2
  refine Ws.cVr (q := E_SB) (As := []) 12 (d - 1) cc32 ss33 _ d_LW_list_643 mok_SB_toString_0e30d vl_LW_48 rfl rfl rfl (Nat.le_of_ble_eq_true rfl) (by omega) hc34.1 hc34.2 hc36 hF (fun b37 μ35 hS hF => ?_)
  refine Wa.astore (i := 12) (L' := [(12, .ref b37), (0, .ref a0), (1, .ref a1), (2, .ref a2), (3, .int x3), (4, .int x4), (5, .int x5), (6, .int x6), (8, .int x8), (9, .int x9), (10, .int x10), (11, .ref a11)]) d_LW_list_646 (by decide) rfl ?_
  refine Wa.iconst (v := 3) d_LW_list_648 rfl ?_
  have hc38 := hF.1
  have hF := hF.2
  obtain ⟨q39, hc40, hF⟩ := hF
  refine Wr.anewS 3 q39 d_LW_list_649 cl_LW_16 hc38.1 rfl hc38.2.1 hc38.2.2.1 hc38.2.2.2 hc40 ?_
  refine Wa.dup d_LW_list_652 rfl ?_
  refine Wa.iconst (v := 0) d_LW_list_653 rfl ?_
  refine Wa.ldcS 26 d_LW_list_654 (by decide) rfl rfl ?_
  obtain ⟨n41, hc42, hF⟩ := hF
  have hc43 := hF.1
  have hF := hF.2
  refine Wa.aast (t := 15) (q := E_Str) d_LW_list_656 rfl hc42.2.2.rw hc42.1 hc42.2.1 hc43 ?_
  refine Wa.dup d_LW_list_657 rfl ?_
  refine Wa.iconst (v := 1) d_LW_list_658 rfl ?_
  refine Wa.ldcS 27 d_LW_list_659 (by decide) rfl rfl ?_
  obtain ⟨n44, hc45, hF⟩ := hF
  have hc46 := hF.1
  have hF := hF.2
  refine Wa.aast (t := 15) (q := E_Str) d_LW_list_661 rfl hc45.2.2.rw hc45.1 hc45.2.1 hc46 ?_
  refine Wa.dup d_LW_list_662 rfl ?_
  refine Wa.iconst (v := 2) d_LW_list_663 rfl ?_
  refine Wa.ldcS 28 d_LW_list_664 (by decide) rfl rfl ?_
  obtain ⟨n47, hc48, hF⟩ := hF
  have hc49 := hF.1
  have hF := hF.2
  refine Wa.aast (t := 15) (q := E_Str) d_LW_list_666 rfl hc48.2.2.rw hc48.1 hc48.2.1 hc49 ?_
  refine Wa.astore (i := 13) (L' := [(13, .ref q39), (12, .ref b37), (0, .ref a0), (1, .ref a1), (2, .ref a2), (3, .int x3), (4, .int x4), (5, .int x5), (6, .int x6), (8, .int x8), (9, .int x9), (10, .int x10), (11, .ref a11)]) d_LW_list_667 (by decide) rfl ?_
  refine Wa.aload_n (j := 3) d_LW_list_669 rfl ?_
  refine Wa.iload (j := 9) d_LW_list_670 rfl ?_
  refine Wa.iconst (v := 3) d_LW_list_672 rfl ?_
  refine Wa.icmp_ne 701 d_LW_list_673 (by decide) (fun hb => ?_) (fun hb => ?_)
  · have hF := hF.2 hb
    refine Wa.iload (j := 9) d_LW_list_701 rfl ?_
    refine Wa.iconst (v := 2) d_LW_list_703 rfl ?_
    refine Wa.icmp_ne 745 d_LW_list_704 (by decide) (fun hb => ?_) (fun hb => ?_)
    · have hF := hF.2 hb
      refine Wa.iload (j := 9) d_LW_list_745 rfl ?_
      refine Wa.if_ne 786 d_LW_list_747 (by decide) (fun hb => ?_) (fun hb => ?_)
      · have hF := hF.2 hb
        have hc50 := hF.1
        have hF := hF.2
        obtain ⟨q51, hc52, hF⟩ := hF
        refine Wa.new (q := E_SB) q51 12 d_LW_list_786 rfl ok_SB (by decide +kernel) cl_LW_34 hc50.1 hc50.2 hc52.1 hc52.2.rw ?_
        refine Wa.dup d_LW_list_789 rfl ?_
        obtain ⟨cc53, ss54, hc55, hF⟩ := hF
        refine Ws.cIv (As := []) (d - 1) cc53 ss54 _ d_LW_list_790 mok_SB_init_da8c8 rfl il_LW_36 rfl rfl (Nat.le_of_ble_eq_true rfl) (by omega) hc55.1 hc55.2 hF (fun μ56 hS hF => ?_)
        refine Wa.ldcS 34 d_LW_list_793 (by decide) rfl rfl ?_
        obtain ⟨cc57, ss58, hc59, hF⟩ := hF
        have hc61 := hF.1
        have hF := hF.2
        refine Ws.cVr (q := E_SB) (As := [.ref (hd 1 79)]) 12 (d - 1) cc57 ss58 _ d_LW_list_795 mok_SB_append_15ec4 vl_LW_39 rfl rfl rfl (Nat.le_of_ble_eq_true rfl) (by omega) hc59.1 hc59.2 hc61 hF (fun b62 μ60 hS hF => ?_)
        refine Wa.aload (j := 1) d_LW_list_798 rfl ?_
        obtain ⟨cc63, ss64, hc65, hF⟩ := hF
        have hc67 := hF.1
        have hF := hF.2
        refine Ws.cVr (q := E_SB) (As := [.ref b37]) 12 (d - 1) cc63 ss64 _ d_LW_list_800 mok_SB_append_15ec4 vl_LW_39 rfl rfl rfl (Nat.le_of_ble_eq_true rfl) (by omega) hc65.1 hc65.2 hc67 hF (fun b68 μ66 hS hF => ?_)
        refine Wa.ldcS 35 d_LW_list_803 (by decide) rfl rfl ?_
        obtain ⟨cc69, ss70, hc71, hF⟩ := hF
        have hc73 := hF.1
        have hF := hF.2
        refine Ws.cVr (q := E_SB) (As := [.ref (hd 1 80)]) 12 (d - 1) cc69 ss70 _ d_LW_list_805 mok_SB_append_15ec4 vl_LW_39 rfl rfl rfl (Nat.le_of_ble_eq_true rfl) (by omega) hc71.1 hc71.2 hc73 hF (fun b74 μ72 hS hF => ?_)
        refine Wa.aload (j := 12) d_LW_list_808 rfl ?_
        obtain ⟨cc75, ss76, hc77, hF⟩ := hF
        refine Ws.cSr (As := [.ref a11]) (d - 1) cc75 ss76 _ d_LW_list_810 mok_LW_sum sl_LW_144 rfl rfl (Nat.le_of_ble_eq_true rfl) (by omega) hc77.1 hc77.2 hF (fun b79 μ78 hS hF => ?_)
        obtain ⟨cc80, ss81, hc82, hF⟩ := hF
        have hc84 := hF.1
        have hF := hF.2
        refine Ws.cVr (q := E_SB) (As := [.ref b79]) 12 (d - 1) cc80 ss81 _ d_LW_list_813 mok_SB_append_15ec4 vl_LW_39 rfl rfl rfl (Nat.le_of_ble_eq_true rfl) (by omega) hc82.1 hc82.2 hc84 hF (fun b85 μ83 hS hF => ?_)
        obtain ⟨cc86, ss87, hc88, hF⟩ := hF
        have hc90 := hF.1
        have hF := hF.2
        refine Ws.cVr (q := E_SB) (As := []) 12 (d - 1) cc86 ss87 _ d_LW_list_816 mok_SB_toString_0e30d vl_LW_48 rfl rfl rfl (Nat.le_of_ble_eq_true rfl) (by omega) hc88.1 hc88.2 hc90 hF (fun b91 μ89 hS hF => ?_)
        obtain ⟨cc92, ss93, hc94, hF⟩ := hF
        have hc96 := hF.1
        have hF := hF.2
        refine Ws.cVr (q := E_SB) (As := [.ref b91]) 12 (d - 1) cc92 ss93 _ d_LW_list_819 mok_SB_append_15ec4 vl_LW_39 rfl rfl rfl (Nat.le_of_ble_eq_true rfl) (by omega) hc94.1 hc94.2 hc96 hF (fun b97 μ95 hS hF => ?_)
        refine Wa.aload (j := 12) d_LW_list_822 rfl ?_
        obtain ⟨cc98, ss99, hc100, hF⟩ := hF
        refine Ws.cSr (As := [.ref a11]) (d - 1) cc98 ss99 _ d_LW_list_824 mok_LW_test sl_LW_151 rfl rfl (Nat.le_of_ble_eq_true rfl) (by omega) hc100.1 hc100.2 hF (fun b102 μ101 hS hF => ?_)
        obtain ⟨cc103, ss104, hc105, hF⟩ := hF
        have hc107 := hF.1
        have hF := hF.2
        refine Ws.cVr (q := E_SB) (As := [.ref b102]) 12 (d - 1) cc103 ss104 _ d_LW_list_827 mok_SB_append_15ec4 vl_LW_39 rfl rfl rfl (Nat.le_of_ble_eq_true rfl) (by omega) hc105.1 hc105.2 hc107 hF (fun b108 μ106 hS hF => ?_)
        refine Wa.ldcS 24 d_LW_list_830 (by decide) rfl rfl ?_
        obtain ⟨cc109, ss110, hc111, hF⟩ := hF
        have hc113 := hF.1
        have hF := hF.2
        refine Ws.cVr (q := E_SB) (As := [.ref (hd 1 69)]) 12 (d - 1) cc109 ss110 _ d_LW_list_832 mok_SB_append_15ec4 vl_LW_39 rfl rfl rfl (Nat.le_of_ble_eq_true rfl) (by omega) hc111.1 hc111.2 hc113 hF (fun b114 μ112 hS hF => ?_)
        refine Wa.pop d_LW_list_835 rfl ?_
        refine Wa.aload_n (j := 4) d_LW_list_836 rfl ?_
        refine Wa.aload_n (j := 4) d_LW_list_837 rfl ?_
        have hc115 := hF.1
        have hF := hF.2
        obtain ⟨b116, hc117, hF⟩ := hF
        refine Wr.getR 11 14 d_LW_list_838 f_SI_14 rfl fl_LW_154 hc115 hc117 ?_
        refine Wa.aload (j := 12) d_LW_list_841 rfl ?_
        obtain ⟨cc118, ss119, hc120, hF⟩ := hF
        refine Ws.cSr (As := [.ref b116, .ref a11]) (d - 1) cc118 ss119 _ d_LW_list_843 mok_SI_with sl_LW_107 rfl rfl (Nat.le_of_ble_eq_true rfl) (by omega) hc120.1 hc120.2 hF (fun b122 μ121 hS hF => ?_)
        have hc123 := hF.1
        have hF := hF.2
        refine Wr.putR 11 14 d_LW_list_846 f_SI_14 rfl ok_SI fl_LW_154 (Or.inl rfl) hc123.1 hc123.2 ?_
        refine Wa.iinc (i := 6) (j := 8) (v := (x6 + (-1))) (L' := [(6, .int (x6 + (-1))), (13, .ref q39), (12, .ref b37), (0, .ref a0), (1, .ref a1), (2, .ref a2), (3, .int x3), (4, .int x4), (5, .int x5), (8, .int x8), (9, .int x9), (10, .int x10), (11, .ref a11)]) d_LW_list_849 rfl rfl (by decide) rfl ?_
        refine Wa.goto 337 d_LW_list_852 (by decide) ?_
        exact Wa.loc [3, 4, 5, 6, 7, 8, 0] rfl hF
      · have hF := hF.1 hb
        have hc124 := hF.1
        have hF := hF.2
        obtain ⟨q125, hc126, hF⟩ := hF
        refine Wa.new (q := E_SB) q125 12 d_LW_list_750 rfl ok_SB (by decide +kernel) cl_LW_34 hc124.1 hc124.2 hc126.1 hc126.2.rw ?_
        refine Wa.dup d_LW_list_753 rfl ?_
        obtain ⟨cc127, ss128, hc129, hF⟩ := hF
        refine Ws.cIv (As := []) (d - 1) cc127 ss128 _ d_LW_list_754 mok_SB_init_da8c8 rfl il_LW_36 rfl rfl (Nat.le_of_ble_eq_true rfl) (by omega) hc129.1 hc129.2 hF (fun μ130 hS hF => ?_)
        refine Wa.ldcS 32 d_LW_list_757 (by decide) rfl rfl ?_
        obtain ⟨cc131, ss132, hc133, hF⟩ := hF
        have hc135 := hF.1
        have hF := hF.2
        refine Ws.cVr (q := E_SB) (As := [.ref (hd 1 77)]) 12 (d - 1) cc131 ss132 _ d_LW_list_759 mok_SB_append_15ec4 vl_LW_39 rfl rfl rfl (Nat.le_of_ble_eq_true rfl) (by omega) hc133.1 hc133.2 hc135 hF (fun b136 μ134 hS hF => ?_)
        refine Wa.aload (j := 1) d_LW_list_762 rfl ?_
        obtain ⟨cc137, ss138, hc139, hF⟩ := hF
        have hc141 := hF.1
        have hF := hF.2
        refine Ws.cVr (q := E_SB) (As := [.ref b37]) 12 (d - 1) cc137 ss138 _ d_LW_list_764 mok_SB_append_15ec4 vl_LW_39 rfl rfl rfl (Nat.le_of_ble_eq_true rfl) (by omega) hc139.1 hc139.2 hc141 hF (fun b142 μ140 hS hF => ?_)
        refine Wa.ldcS 33 d_LW_list_767 (by decide) rfl rfl ?_
        obtain ⟨cc143, ss144, hc145, hF⟩ := hF
        have hc147 := hF.1
        have hF := hF.2
        refine Ws.cVr (q := E_SB) (As := [.ref (hd 1 78)]) 12 (d - 1) cc143 ss144 _ d_LW_list_769 mok_SB_append_15ec4 vl_LW_39 rfl rfl rfl (Nat.le_of_ble_eq_true rfl) (by omega) hc145.1 hc145.2 hc147 hF (fun b148 μ146 hS hF => ?_)
        refine Wa.aload (j := 12) d_LW_list_772 rfl ?_
        obtain ⟨cc149, ss150, hc151, hF⟩ := hF
        refine Ws.cSr (As := [.ref a11]) (d - 1) cc149 ss150 _ d_LW_list_774 mok_LW_sum sl_LW_144 rfl rfl (Nat.le_of_ble_eq_true rfl) (by omega) hc151.1 hc151.2 hF (fun b153 μ152 hS hF => ?_)
        obtain ⟨cc154, ss155, hc156, hF⟩ := hF
        have hc158 := hF.1
        have hF := hF.2
        refine Ws.cVr (q := E_SB) (As := [.ref b153]) 12 (d - 1) cc154 ss155 _ d_LW_list_777 mok_SB_append_15ec4 vl_LW_39 rfl rfl rfl (Nat.le_of_ble_eq_true rfl) (by omega) hc156.1 hc156.2 hc158 hF (fun b159 μ157 hS hF => ?_)
        obtain ⟨cc160, ss161, hc162, hF⟩ := hF
        have hc164 := hF.1
        have hF := hF.2
        refine Ws.cVr (q := E_SB) (As := []) 12 (d - 1) cc160 ss161 _ d_LW_list_780 mok_SB_toString_0e30d vl_LW_48 rfl rfl rfl (Nat.le_of_ble_eq_true rfl) (by omega) hc162.1 hc162.2 hc164 hF (fun b165 μ163 hS hF => ?_)
        refine Wa.goto 819 d_LW_list_783 (by decide) ?_
        obtain ⟨cc166, ss167, hc168, hF⟩ := hF
        have hc170 := hF.1
        have hF := hF.2
        refine Ws.cVr (q := E_SB) (As := [.ref b165]) 12 (d - 1) cc166 ss167 _ d_LW_list_819 mok_SB_append_15ec4 vl_LW_39 rfl rfl rfl (Nat.le_of_ble_eq_true rfl) (by omega) hc168.1 hc168.2 hc170 hF (fun b171 μ169 hS hF => ?_)
        refine Wa.aload (j := 12) d_LW_list_822 rfl ?_
        obtain ⟨cc172, ss173, hc174, hF⟩ := hF
        refine Ws.cSr (As := [.ref a11]) (d - 1) cc172 ss173 _ d_LW_list_824 mok_LW_test sl_LW_151 rfl rfl (Nat.le_of_ble_eq_true rfl) (by omega) hc174.1 hc174.2 hF (fun b176 μ175 hS hF => ?_)
        obtain ⟨cc177, ss178, hc179, hF⟩ := hF
        have hc181 := hF.1
        have hF := hF.2
        refine Ws.cVr (q := E_SB) (As := [.ref b176]) 12 (d - 1) cc177 ss178 _ d_LW_list_827 mok_SB_append_15ec4 vl_LW_39 rfl rfl rfl (Nat.le_of_ble_eq_true rfl) (by omega) hc179.1 hc179.2 hc181 hF (fun b182 μ180 hS hF => ?_)
        refine Wa.ldcS 24 d_LW_list_830 (by decide) rfl rfl ?_
        obtain ⟨cc183, ss184, hc185, hF⟩ := hF
        have hc187 := hF.1
        have hF := hF.2
        refine Ws.cVr (q := E_SB) (As := [.ref (hd 1 69)]) 12 (d - 1) cc183 ss184 _ d_LW_list_832 mok_SB_append_15ec4 vl_LW_39 rfl rfl rfl (Nat.le_of_ble_eq_true rfl) (by omega) hc185.1 hc185.2 hc187 hF (fun b188 μ186 hS hF => ?_)
        refine Wa.pop d_LW_list_835 rfl ?_
        refine Wa.aload_n (j := 4) d_LW_list_836 rfl ?_
        refine Wa.aload_n (j := 4) d_LW_list_837 rfl ?_
        have hc189 := hF.1
        have hF := hF.2
        obtain ⟨b190, hc191, hF⟩ := hF
        refine Wr.getR 11 14 d_LW_list_838 f_SI_14 rfl fl_LW_154 hc189 hc191 ?_
        refine Wa.aload (j := 12) d_LW_list_841 rfl ?_
        obtain ⟨cc192, ss193, hc194, hF⟩ := hF
        refine Ws.cSr (As := [.ref b190, .ref a11]) (d - 1) cc192 ss193 _ d_LW_list_843 mok_SI_with sl_LW_107 rfl rfl (Nat.le_of_ble_eq_true rfl) (by omega) hc194.1 hc194.2 hF (fun b196 μ195 hS hF => ?_)
        have hc197 := hF.1
        have hF := hF.2
        refine Wr.putR 11 14 d_LW_list_846 f_SI_14 rfl ok_SI fl_LW_154 (Or.inl rfl) hc197.1 hc197.2 ?_
        refine Wa.iinc (i := 6) (j := 8) (v := (x6 + (-1))) (L' := [(6, .int (x6 + (-1))), (13, .ref q39), (12, .ref b37), (0, .ref a0), (1, .ref a1), (2, .ref a2), (3, .int x3), (4, .int x4), (5, .int x5), (8, .int x8), (9, .int x9), (10, .int x10), (11, .ref a11)]) d_LW_list_849 rfl rfl (by decide) rfl ?_
        refine Wa.goto 337 d_LW_list_852 (by decide) ?_
        exact Wa.loc [3, 4, 5, 6, 7, 8, 0] rfl hF
    · have hF := hF.1 hb
      have hc198 := hF.1
      have hF := hF.2
      obtain ⟨q199, hc200, hF⟩ := hF
      refine Wa.new (q := E_SB) q199 12 d_LW_list_707 rfl ok_SB (by decide +kernel) cl_LW_34 hc198.1 hc198.2 hc200.1 hc200.2.rw ?_
      refine Wa.dup d_LW_list_710 rfl ?_
      obtain ⟨cc201, ss202, hc203, hF⟩ := hF
      refine Ws.cIv (As := []) (d - 1) cc201 ss202 _ d_LW_list_711 mok_SB_init_da8c8 rfl il_LW_36 rfl rfl (Nat.le_of_ble_eq_true rfl) (by omega) hc203.1 hc203.2 hF (fun μ204 hS hF => ?_)
      refine Wa.ldcS 30 d_LW_list_714 (by decide) rfl rfl ?_
      obtain ⟨cc205, ss206, hc207, hF⟩ := hF
      have hc209 := hF.1
      have hF := hF.2
      refine Ws.cVr (q := E_SB) (As := [.ref (hd 1 75)]) 12 (d - 1) cc205 ss206 _ d_LW_list_716 mok_SB_append_15ec4 vl_LW_39 rfl rfl rfl (Nat.le_of_ble_eq_true rfl) (by omega) hc207.1 hc207.2 hc209 hF (fun b210 μ208 hS hF => ?_)
      refine Wa.aload (j := 1) d_LW_list_719 rfl ?_
      obtain ⟨cc211, ss212, hc213, hF⟩ := hF
      have hc215 := hF.1
      have hF := hF.2
      refine Ws.cVr (q := E_SB) (As := [.ref b37]) 12 (d - 1) cc211 ss212 _ d_LW_list_721 mok_SB_append_15ec4 vl_LW_39 rfl rfl rfl (Nat.le_of_ble_eq_true rfl) (by omega) hc213.1 hc213.2 hc215 hF (fun b216 μ214 hS hF => ?_)
      refine Wa.ldcS 31 d_LW_list_724 (by decide) rfl rfl ?_
      obtain ⟨cc217, ss218, hc219, hF⟩ := hF
      have hc221 := hF.1
      have hF := hF.2
      refine Ws.cVr (q := E_SB) (As := [.ref (hd 1 76)]) 12 (d - 1) cc217 ss218 _ d_LW_list_726 mok_SB_append_15ec4 vl_LW_39 rfl rfl rfl (Nat.le_of_ble_eq_true rfl) (by omega) hc219.1 hc219.2 hc221 hF (fun b222 μ220 hS hF => ?_)
      refine Wa.aload (j := 0) d_LW_list_729 rfl ?_
      refine Wa.aload (j := 12) d_LW_list_731 rfl ?_
      refine Wa.iconst (v := 4) d_LW_list_733 rfl ?_
      obtain ⟨n223, hc224, hF⟩ := hF
      refine Wa.iald d_LW_list_734 hc224.1 hc224.2 ?_
      obtain ⟨n225, hc226, hF⟩ := hF
      obtain ⟨b227, hc228, hF⟩ := hF
      refine Wa.aald (t := 15) (q := E_Str) d_LW_list_735 rfl hc226.1 hc226.2 hc228 ?_
      obtain ⟨cc229, ss230, hc231, hF⟩ := hF
      have hc233 := hF.1
      have hF := hF.2
      refine Ws.cVr (q := E_SB) (As := [.ref b227]) 12 (d - 1) cc229 ss230 _ d_LW_list_736 mok_SB_append_15ec4 vl_LW_39 rfl rfl rfl (Nat.le_of_ble_eq_true rfl) (by omega) hc231.1 hc231.2 hc233 hF (fun b234 μ232 hS hF => ?_)
      obtain ⟨cc235, ss236, hc237, hF⟩ := hF
      have hc239 := hF.1
      have hF := hF.2
      refine Ws.cVr (q := E_SB) (As := []) 12 (d - 1) cc235 ss236 _ d_LW_list_739 mok_SB_toString_0e30d vl_LW_48 rfl rfl rfl (Nat.le_of_ble_eq_true rfl) (by omega) hc237.1 hc237.2 hc239 hF (fun b240 μ238 hS hF => ?_)
      refine Wa.goto 819 d_LW_list_742 (by decide) ?_
      obtain ⟨cc241, ss242, hc243, hF⟩ := hF
      have hc245 := hF.1
      have hF := hF.2
      refine Ws.cVr (q := E_SB) (As := [.ref b240]) 12 (d - 1) cc241 ss242 _ d_LW_list_819 mok_SB_append_15ec4 vl_LW_39 rfl rfl rfl (Nat.le_of_ble_eq_true rfl) (by omega) hc243.1 hc243.2 hc245 hF (fun b246 μ244 hS hF => ?_)
      refine Wa.aload (j := 12) d_LW_list_822 rfl ?_
      obtain ⟨cc247, ss248, hc249, hF⟩ := hF
      refine Ws.cSr (As := [.ref a11]) (d - 1) cc247 ss248 _ d_LW_list_824 mok_LW_test sl_LW_151 rfl rfl (Nat.le_of_ble_eq_true rfl) (by omega) hc249.1 hc249.2 hF (fun b251 μ250 hS hF => ?_)
      obtain ⟨cc252, ss253, hc254, hF⟩ := hF
      have hc256 := hF.1
      have hF := hF.2
      refine Ws.cVr (q := E_SB) (As := [.ref b251]) 12 (d - 1) cc252 ss253 _ d_LW_list_827 mok_SB_append_15ec4 vl_LW_39 rfl rfl rfl (Nat.le_of_ble_eq_true rfl) (by omega) hc254.1 hc254.2 hc256 hF (fun b257 μ255 hS hF => ?_)
      refine Wa.ldcS 24 d_LW_list_830 (by decide) rfl rfl ?_
      obtain ⟨cc258, ss259, hc260, hF⟩ := hF
      have hc262 := hF.1
      have hF := hF.2
      refine Ws.cVr (q := E_SB) (As := [.ref (hd 1 69)]) 12 (d - 1) cc258 ss259 _ d_LW_list_832 mok_SB_append_15ec4 vl_LW_39 rfl rfl rfl (Nat.le_of_ble_eq_true rfl) (by omega) hc260.1 hc260.2 hc262 hF (fun b263 μ261 hS hF => ?_)
      refine Wa.pop d_LW_list_835 rfl ?_
      refine Wa.aload_n (j := 4) d_LW_list_836 rfl ?_
      refine Wa.aload_n (j := 4) d_LW_list_837 rfl ?_
      have hc264 := hF.1
      have hF := hF.2
      obtain ⟨b265, hc266, hF⟩ := hF
      refine Wr.getR 11 14 d_LW_list_838 f_SI_14 rfl fl_LW_154 hc264 hc266 ?_
      refine Wa.aload (j := 12) d_LW_list_841 rfl ?_
      obtain ⟨cc267, ss268, hc269, hF⟩ := hF
      refine Ws.cSr (As := [.ref b265, .ref a11]) (d - 1) cc267 ss268 _ d_LW_list_843 mok_SI_with sl_LW_107 rfl rfl (Nat.le_of_ble_eq_true rfl) (by omega) hc269.1 hc269.2 hF (fun b271 μ270 hS hF => ?_)
      have hc272 := hF.1
      have hF := hF.2
      refine Wr.putR 11 14 d_LW_list_846 f_SI_14 rfl ok_SI fl_LW_154 (Or.inl rfl) hc272.1 hc272.2 ?_
      refine Wa.iinc (i := 6) (j := 8) (v := (x6 + (-1))) (L' := [(6, .int (x6 + (-1))), (13, .ref q39), (12, .ref b37), (0, .ref a0), (1, .ref a1), (2, .ref a2), (3, .int x3), (4, .int x4), (5, .int x5), (8, .int x8), (9, .int x9), (10, .int x10), (11, .ref a11)]) d_LW_list_849 rfl rfl (by decide) rfl ?_
      refine Wa.goto 337 d_LW_list_852 (by decide) ?_
      exact Wa.loc [3, 4, 5, 6, 7, 8, 0] rfl hF
  · have hF := hF.1 hb
    have hc273 := hF.1
    have hF := hF.2
    obtain ⟨q274, hc275, hF⟩ := hF
    refine Wa.new (q := E_SB) q274 12 d_LW_list_676 rfl ok_SB (by decide +kernel) cl_LW_34 hc273.1 hc273.2 hc275.1 hc275.2.rw ?_
    refine Wa.dup d_LW_list_679 rfl ?_
    obtain ⟨cc276, ss277, hc278, hF⟩ := hF
    refine Ws.cIv (As := []) (d - 1) cc276 ss277 _ d_LW_list_680 mok_SB_init_da8c8 rfl il_LW_36 rfl rfl (Nat.le_of_ble_eq_true rfl) (by omega) hc278.1 hc278.2 hF (fun μ279 hS hF => ?_)
    refine Wa.ldcS 29 d_LW_list_683 (by decide) rfl rfl ?_
    obtain ⟨cc280, ss281, hc282, hF⟩ := hF
    have hc284 := hF.1
    have hF := hF.2
    refine Ws.cVr (q := E_SB) (As := [.ref (hd 1 74)]) 12 (d - 1) cc280 ss281 _ d_LW_list_685 mok_SB_append_15ec4 vl_LW_39 rfl rfl rfl (Nat.le_of_ble_eq_true rfl) (by omega) hc282.1 hc282.2 hc284 hF (fun b285 μ283 hS hF => ?_)
    refine Wa.aload (j := 12) d_LW_list_688 rfl ?_
    refine Wa.iconst (v := 1) d_LW_list_690 rfl ?_
    obtain ⟨n286, hc287, hF⟩ := hF
    refine Wa.iald d_LW_list_691 hc287.1 hc287.2 ?_
    obtain ⟨cc288, ss289, hc290, hF⟩ := hF
    have hc292 := hF.1
    have hF := hF.2
    refine Ws.cVr (q := E_SB) (As := [.int (gI μ283 a11 (1 : Int32).toNatClampNeg)]) 12 (d - 1) cc288 ss289 _ d_LW_list_692 mok_SB_append_bf812 vl_LW_43 rfl rfl rfl (Nat.le_of_ble_eq_true rfl) (by omega) hc290.1 hc290.2 hc292 hF (fun b293 μ291 hS hF => ?_)
    obtain ⟨cc294, ss295, hc296, hF⟩ := hF
    have hc298 := hF.1
    have hF := hF.2
    refine Ws.cVr (q := E_SB) (As := []) 12 (d - 1) cc294 ss295 _ d_LW_list_695 mok_SB_toString_0e30d vl_LW_48 rfl rfl rfl (Nat.le_of_ble_eq_true rfl) (by omega) hc296.1 hc296.2 hc298 hF (fun b299 μ297 hS hF => ?_)
    refine Wa.goto 819 d_LW_list_698 (by decide) ?_
    obtain ⟨cc300, ss301, hc302, hF⟩ := hF
    have hc304 := hF.1
    have hF := hF.2
    refine Ws.cVr (q := E_SB) (As := [.ref b299]) 12 (d - 1) cc300 ss301 _ d_LW_list_819 mok_SB_append_15ec4 vl_LW_39 rfl rfl rfl (Nat.le_of_ble_eq_true rfl) (by omega) hc302.1 hc302.2 hc304 hF (fun b305 μ303 hS hF => ?_)
    refine Wa.aload (j := 12) d_LW_list_822 rfl ?_
    obtain ⟨cc306, ss307, hc308, hF⟩ := hF
    refine Ws.cSr (As := [.ref a11]) (d - 1) cc306 ss307 _ d_LW_list_824 mok_LW_test sl_LW_151 rfl rfl (Nat.le_of_ble_eq_true rfl) (by omega) hc308.1 hc308.2 hF (fun b310 μ309 hS hF => ?_)
    obtain ⟨cc311, ss312, hc313, hF⟩ := hF
    have hc315 := hF.1
    have hF := hF.2
    refine Ws.cVr (q := E_SB) (As := [.ref b310]) 12 (d - 1) cc311 ss312 _ d_LW_list_827 mok_SB_append_15ec4 vl_LW_39 rfl rfl rfl (Nat.le_of_ble_eq_true rfl) (by omega) hc313.1 hc313.2 hc315 hF (fun b316 μ314 hS hF => ?_)
    refine Wa.ldcS 24 d_LW_list_830 (by decide) rfl rfl ?_
    obtain ⟨cc317, ss318, hc319, hF⟩ := hF
    have hc321 := hF.1
    have hF := hF.2
    refine Ws.cVr (q := E_SB) (As := [.ref (hd 1 69)]) 12 (d - 1) cc317 ss318 _ d_LW_list_832 mok_SB_append_15ec4 vl_LW_39 rfl rfl rfl (Nat.le_of_ble_eq_true rfl) (by omega) hc319.1 hc319.2 hc321 hF (fun b322 μ320 hS hF => ?_)
    refine Wa.pop d_LW_list_835 rfl ?_
    refine Wa.aload_n (j := 4) d_LW_list_836 rfl ?_
    refine Wa.aload_n (j := 4) d_LW_list_837 rfl ?_
    have hc323 := hF.1
    have hF := hF.2
    obtain ⟨b324, hc325, hF⟩ := hF
    refine Wr.getR 11 14 d_LW_list_838 f_SI_14 rfl fl_LW_154 hc323 hc325 ?_
    refine Wa.aload (j := 12) d_LW_list_841 rfl ?_
    obtain ⟨cc326, ss327, hc328, hF⟩ := hF
    refine Ws.cSr (As := [.ref b324, .ref a11]) (d - 1) cc326 ss327 _ d_LW_list_843 mok_SI_with sl_LW_107 rfl rfl (Nat.le_of_ble_eq_true rfl) (by omega) hc328.1 hc328.2 hF (fun b330 μ329 hS hF => ?_)
    have hc331 := hF.1
    have hF := hF.2
    refine Wr.putR 11 14 d_LW_list_846 f_SI_14 rfl ok_SI fl_LW_154 (Or.inl rfl) hc331.1 hc331.2 ?_
    refine Wa.iinc (i := 6) (j := 8) (v := (x6 + (-1))) (L' := [(6, .int (x6 + (-1))), (13, .ref q39), (12, .ref b37), (0, .ref a0), (1, .ref a1), (2, .ref a2), (3, .int x3), (4, .int x4), (5, .int x5), (8, .int x8), (9, .int x9), (10, .int x10), (11, .ref a11)]) d_LW_list_849 rfl rfl (by decide) rfl ?_
    refine Wa.goto 337 d_LW_list_852 (by decide) ?_
    exact Wa.loc [3, 4, 5, 6, 7, 8, 0] rfl hF
