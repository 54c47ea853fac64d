/-! segments of methods, by machine: of the law and of the JDK -/
set_option maxHeartbeats 4000000 in
set_option maxRecDepth 20000 in
theorem r_SI_isSame_0 {d rc rs : Nat} {Q : Option Value → Mu → Prop} {μ : Mu} {a0 : Nat} {a1 : Nat} (hD : 1 ≤ d)
    (hF : Wx K_SI_isSame d rc rs Q 2 [(0, .ref a0), (1, .ref a1), (2, .int 0)] [] μ) : Wx K_SI_isSame d rc rs Q 0 [(0, .ref a0), (1, .ref a1)] [] μ := by
  refine Wa.iconst (v := 0) d_SI_isSame_0 rfl ?_
  refine Wa.istore_n (i := 2) (L' := [(2, .int 0), (0, .ref a0), (1, .ref a1)]) d_SI_isSame_1 rfl (by decide) rfl ?_
  exact Wa.loc [1, 2, 0] rfl hF
theorem e_SI_isSame {d rc rs : Nat} {Q : Option Value → Mu → Prop} {μ : Mu} {a0 : Nat} {a1 : Nat} (hk : Wx K_SI_isSame d rc rs (fun r μ' => St μ' ∧ Q r μ') 0 [(0, .ref a0), (1, .ref a1)] [] μ) : Cal K_SI_isSame d rc rs [.ref a0, .ref a1] μ Q := Cal.of (by decide +kernel) rfl rfl (Nat.le_of_ble_eq_true rfl) rfl hk
set_option maxHeartbeats 4000000 in
set_option maxRecDepth 20000 in
theorem r_SI_isSame_2 {d rc rs : Nat} {Q : Option Value → Mu → Prop} {μ : Mu} {a0 : Nat} {a1 : Nat} {x2 : Int32} (hD : 1 ≤ d)
    (hF : ((13 ≤ x2 → Wx K_SI_isSame d rc rs Q 31 [(0, .ref a0), (1, .ref a1), (2, .int 0)] [] μ) ∧ (¬ 13 ≤ x2 → (∃ cc1 ss2 : Nat, (cc1 ≤ rc ∧ ss2 ≤ rs) ∧ (mS μ a1 = (1, 0) ∧ Cal K_PB_count (d - 1) cc1 ss2 [.ref a1, .int x2] μ (fun r μ4 => ∃ y6, r = some (.int y6) ∧ (∃ cc7 ss8 : Nat, (cc7 ≤ rc - cc1 ∧ ss8 ≤ rs - ss2) ∧ (mS μ4 a0 = (1, 11) ∧ Cal K_SI_counted (d - 1) cc7 ss8 [.ref a0, .int x2] μ4 (fun r μ10 => ∃ y12, r = some (.int y12) ∧ ((y6 = y12 → Wx K_SI_isSame d (rc - cc1 - cc7) (rs - ss2 - ss8) Q 2 [(0, .ref a0), (1, .ref a1), (2, .int (x2 + 1))] [] μ10) ∧ (¬ y6 = y12 → Q (some (.int 0)) μ10))))))))))) : Wx K_SI_isSame d rc rs Q 2 [(0, .ref a0), (1, .ref a1), (2, .int x2)] [] μ := by
  refine Wa.iload_n (j := 2) d_SI_isSame_2 rfl ?_
  refine Wa.bipush (v := 13) d_SI_isSame_3 rfl ?_
  refine Wa.icmp_ge 29 d_SI_isSame_5 (by decide) (fun hb => ?_) (fun hb => ?_)
  · have hF := hF.1 hb
    refine Wa.iconst (v := 0) d_SI_isSame_29 rfl ?_
    refine Wa.istore_n (i := 2) (L' := [(2, .int 0), (0, .ref a0), (1, .ref a1)]) d_SI_isSame_30 rfl (by decide) rfl ?_
    exact Wa.loc [1, 2, 0] rfl hF
  · have hF := hF.2 hb
    refine Wa.aload_n (j := 1) d_SI_isSame_8 rfl ?_
    refine Wa.iload_n (j := 2) d_SI_isSame_9 rfl ?_
    obtain ⟨cc1, ss2, hc3, hF⟩ := hF
    have hc5 := hF.1
    have hF := hF.2
    refine Wx.cVi (q := E_PB) (As := [.int x2]) 0 (d - 1) cc1 ss2 _ d_SI_isSame_10 mok_PB_count vl_SI_143 rfl rfl rfl (Nat.le_of_ble_eq_true rfl) (by omega) hc3.1 hc3.2 hc5 hF (fun y6 μ4 hS hF => ?_)
    refine Wa.aload_n (j := 0) d_SI_isSame_13 rfl ?_
    refine Wa.iload_n (j := 2) d_SI_isSame_14 rfl ?_
    obtain ⟨cc7, ss8, hc9, hF⟩ := hF
    have hc11 := hF.1
    have hF := hF.2
    refine Wx.cVi (q := E_SI) (As := [.int x2]) 11 (d - 1) cc7 ss8 _ d_SI_isSame_15 mok_SI_counted vl_SI_148 rfl rfl rfl (Nat.le_of_ble_eq_true rfl) (by omega) hc9.1 hc9.2 hc11 hF (fun y12 μ10 hS hF => ?_)
    refine Wa.icmp_eq 23 d_SI_isSame_18 (by decide) (fun hb => ?_) (fun hb => ?_)
    · have hF := hF.1 hb
      refine Wa.iinc (i := 2) (j := 2) (v := (x2 + 1)) (L' := [(2, .int (x2 + 1)), (0, .ref a0), (1, .ref a1)]) d_SI_isSame_23 rfl rfl (by decide) rfl ?_
      refine Wa.goto 2 d_SI_isSame_26 (by decide) ?_
      exact Wa.loc [1, 2, 0] rfl hF
    · have hF := hF.2 hb
      refine Wa.iconst (v := 0) d_SI_isSame_21 rfl ?_
      exact Wx.retz d_SI_isSame_22 rfl (Or.inl rfl) hF
set_option maxHeartbeats 4000000 in
set_option maxRecDepth 20000 in
theorem r_SI_isSame_31 {d rc rs : Nat} {Q : Option Value → Mu → Prop} {μ : Mu} {a0 : Nat} {a1 : Nat} {x2 : Int32} (hD : 1 ≤ d)
    (hF : (mS μ a0 = (1, 11) ∧ (((gI μ a0 4) ≤ x2 → (mS μ a0 = (1, 11) ∧ (∃ b3, gR μ a0 6 = some b3 ∧ (∃ n5, mS μ b3 = (40, n5) ∧ Wx K_SI_isSame d rc rs Q 388 [(0, .ref a0), (1, .ref a1), (2, .int (-1)), (3, .int ((nI n5) - (1 : Int32)))] [] μ)))) ∧ (¬ (gI μ a0 4) ≤ x2 → Wx K_SI_isSame d rc rs Q 53 [(0, .ref a0), (1, .ref a1), (2, .int x2), (3, .int 0), (4, .int 0), (5, .int 0), (6, .int 0), (7, .int 0)] [] μ)))) : Wx K_SI_isSame d rc rs Q 31 [(0, .ref a0), (1, .ref a1), (2, .int x2)] [] μ := by
  refine Wa.iload_n (j := 2) d_SI_isSame_31 rfl ?_
  refine Wa.aload_n (j := 0) d_SI_isSame_32 rfl ?_
  have hc1 := hF.1
  have hF := hF.2
  refine Wr.getI 11 4 d_SI_isSame_33 f_SI_4 fl_SI_30 hc1 ?_
  refine Wa.icmp_ge 378 d_SI_isSame_36 (by decide) (fun hb => ?_) (fun hb => ?_)
  · have hF := hF.1 hb
    refine Wa.iconst (v := (-1)) d_SI_isSame_378 rfl ?_
    refine Wa.istore_n (i := 2) (L' := [(2, .int (-1)), (0, .ref a0), (1, .ref a1)]) d_SI_isSame_379 rfl (by decide) rfl ?_
    refine Wa.aload_n (j := 1) d_SI_isSame_380 rfl ?_
    have hc2 := hF.1
    have hF := hF.2
    obtain ⟨b3, hc4, hF⟩ := hF
    refine Wr.getR 11 6 d_SI_isSame_381 f_SI_6 rfl fl_SI_9 hc2 hc4 ?_
    obtain ⟨n5, hc6, hF⟩ := hF
    refine Wa.alen d_SI_isSame_384 hc6 (by decide) ?_
    refine Wa.iconst (v := 1) d_SI_isSame_385 rfl ?_
    refine Wa.isub d_SI_isSame_386 ?_
    refine Wa.istore_n (i := 3) (L' := [(3, .int ((nI n5) - (1 : Int32))), (2, .int (-1)), (0, .ref a0), (1, .ref a1)]) d_SI_isSame_387 rfl (by decide) rfl ?_
    exact Wa.loc [2, 3, 1, 0] rfl hF
  · have hF := hF.2 hb
    refine Wa.iconst (v := 0) d_SI_isSame_39 rfl ?_
    refine Wa.istore_n (i := 3) (L' := [(3, .int 0), (0, .ref a0), (1, .ref a1), (2, .int x2)]) d_SI_isSame_40 rfl (by decide) rfl ?_
    refine Wa.iconst (v := 0) d_SI_isSame_41 rfl ?_
    refine Wa.istore (i := 4) (L' := [(4, .int 0), (3, .int 0), (0, .ref a0), (1, .ref a1), (2, .int x2)]) d_SI_isSame_42 (by decide) rfl ?_
    refine Wa.iconst (v := 0) d_SI_isSame_44 rfl ?_
    refine Wa.istore (i := 5) (L' := [(5, .int 0), (4, .int 0), (3, .int 0), (0, .ref a0), (1, .ref a1), (2, .int x2)]) d_SI_isSame_45 (by decide) rfl ?_
    refine Wa.iconst (v := 0) d_SI_isSame_47 rfl ?_
    refine Wa.istore (i := 6) (L' := [(6, .int 0), (5, .int 0), (4, .int 0), (3, .int 0), (0, .ref a0), (1, .ref a1), (2, .int x2)]) d_SI_isSame_48 (by decide) rfl ?_
    refine Wa.iconst (v := 0) d_SI_isSame_50 rfl ?_
    refine Wa.istore (i := 7) (L' := [(7, .int 0), (6, .int 0), (5, .int 0), (4, .int 0), (3, .int 0), (0, .ref a0), (1, .ref a1), (2, .int x2)]) d_SI_isSame_51 (by decide) rfl ?_
    exact Wa.loc [5, 6, 7, 4, 3, 2, 1, 0] rfl hF
set_option maxHeartbeats 4000000 in
set_option maxRecDepth 20000 in
theorem r_SI_isSame_53 {d rc rs : Nat} {Q : Option Value → Mu → Prop} {μ : Mu} {a0 : Nat} {a1 : Nat} {x2 : Int32} {x3 : Int32} {x4 : Int32} {x5 : Int32} {x6 : Int32} {x7 : Int32} (hD : 1 ≤ d)
    (hF : (mS μ a0 = (1, 11) ∧ (((gI μ a0 5) ≤ x7 → (mS μ a0 = (1, 11) ∧ (∃ b3, gR μ a0 11 = some b3 ∧ (∃ n5, mS μ b3 = (40, n5) ∧ Wx K_SI_isSame d rc rs Q 158 [(0, .ref a0), (1, .ref a1), (2, .int x2), (3, .int x3), (4, .int x4), (5, .int x5), (6, .int x6), (7, .ref b3), (8, .int (nI n5)), (9, .int 0)] [] μ)))) ∧ (¬ (gI μ a0 5) ≤ x7 → (∃ cc7 ss8 : Nat, (cc7 ≤ rc ∧ ss8 ≤ rs) ∧ (mS μ a0 = (1, 11) ∧ Cal K_SI_shows (d - 1) cc7 ss8 [.ref a0, .int x2, .int x7] μ (fun r μ10 => ∃ b12, r = some (.ref b12) ∧ Wx K_SI_isSame d (rc - cc7) (rs - ss8) Q 74 [(0, .ref a0), (1, .ref a1), (2, .int x2), (3, .int x3), (4, .int x4), (5, .int x5), (6, .int x6), (7, .int x7), (8, .ref b12), (9, .int 0)] [] μ10))))))) : Wx K_SI_isSame d rc rs Q 53 [(0, .ref a0), (1, .ref a1), (2, .int x2), (3, .int x3), (4, .int x4), (5, .int x5), (6, .int x6), (7, .int x7)] [] μ := by
  refine Wa.iload (j := 7) d_SI_isSame_53 rfl ?_
  refine Wa.aload_n (j := 0) d_SI_isSame_55 rfl ?_
  have hc1 := hF.1
  have hF := hF.2
  refine Wr.getI 11 5 d_SI_isSame_56 f_SI_5 fl_SI_34 hc1 ?_
  refine Wa.icmp_ge 144 d_SI_isSame_59 (by decide) (fun hb => ?_) (fun hb => ?_)
  · have hF := hF.1 hb
    refine Wa.aload_n (j := 0) d_SI_isSame_144 rfl ?_
    have hc2 := hF.1
    have hF := hF.2
    obtain ⟨b3, hc4, hF⟩ := hF
    refine Wr.getR 11 11 d_SI_isSame_145 f_SI_11 rfl fl_SI_21 hc2 hc4 ?_
    refine Wa.astore (i := 7) (L' := [(7, .ref b3), (0, .ref a0), (1, .ref a1), (2, .int x2), (3, .int x3), (4, .int x4), (5, .int x5), (6, .int x6)]) d_SI_isSame_148 (by decide) rfl ?_
    refine Wa.aload (j := 0) d_SI_isSame_150 rfl ?_
    obtain ⟨n5, hc6, hF⟩ := hF
    refine Wa.alen d_SI_isSame_152 hc6 (by decide) ?_
    refine Wa.istore (i := 8) (L' := [(8, .int (nI n5)), (7, .ref b3), (0, .ref a0), (1, .ref a1), (2, .int x2), (3, .int x3), (4, .int x4), (5, .int x5), (6, .int x6)]) d_SI_isSame_153 (by decide) rfl ?_
    refine Wa.iconst (v := 0) d_SI_isSame_155 rfl ?_
    refine Wa.istore (i := 9) (L' := [(9, .int 0), (8, .int (nI n5)), (7, .ref b3), (0, .ref a0), (1, .ref a1), (2, .int x2), (3, .int x3), (4, .int x4), (5, .int x5), (6, .int x6)]) d_SI_isSame_156 (by decide) rfl ?_
    exact Wa.loc [3, 4, 5, 6, 7, 8, 9, 2, 1, 0] rfl hF
  · have hF := hF.2 hb
    refine Wa.aload_n (j := 0) d_SI_isSame_62 rfl ?_
    refine Wa.iload_n (j := 2) d_SI_isSame_63 rfl ?_
    refine Wa.iload (j := 7) d_SI_isSame_64 rfl ?_
    obtain ⟨cc7, ss8, hc9, hF⟩ := hF
    have hc11 := hF.1
    have hF := hF.2
    refine Wr.cVr (q := E_SI) (As := [.int x2, .int x7]) 11 (d - 1) cc7 ss8 _ d_SI_isSame_66 mok_SI_shows vl_SI_72 rfl rfl rfl (Nat.le_of_ble_eq_true rfl) (by omega) hc9.1 hc9.2 hc11 hF (fun b12 μ10 hS hF => ?_)
    refine Wa.astore (i := 8) (L' := [(8, .ref b12), (0, .ref a0), (1, .ref a1), (2, .int x2), (3, .int x3), (4, .int x4), (5, .int x5), (6, .int x6), (7, .int x7)]) d_SI_isSame_69 (by decide) rfl ?_
    refine Wa.iconst (v := 0) d_SI_isSame_71 rfl ?_
    refine Wa.istore (i := 9) (L' := [(9, .int 0), (8, .ref b12), (0, .ref a0), (1, .ref a1), (2, .int x2), (3, .int x3), (4, .int x4), (5, .int x5), (6, .int x6), (7, .int x7)]) d_SI_isSame_72 (by decide) rfl ?_
    exact Wa.loc [2, 3, 4, 5, 6, 7, 8, 9, 1, 0] rfl hF
set_option maxHeartbeats 4000000 in
set_option maxRecDepth 20000 in
theorem r_SI_isSame_74 {d rc rs : Nat} {Q : Option Value → Mu → Prop} {μ : Mu} {a0 : Nat} {a1 : Nat} {x2 : Int32} {x3 : Int32} {x4 : Int32} {x5 : Int32} {x6 : Int32} {x7 : Int32} {a8 : Nat} {x9 : Int32} (hD : 1 ≤ d)
    (hF : (∃ n1, mS μ a8 = (2, n1) ∧ (((nI n1) ≤ x9 → (∃ n3, mS μ a8 = (2, n3) ∧ (((nI n3) ≤ 0 → (∃ n5, mS μ a8 = (2, n5) ∧ (((nI n5) ≤ 1 → Wx K_SI_isSame d rc rs Q 53 [(0, .ref a0), (1, .ref a1), (2, .int x2), (3, .int (x3 + (0 : Int32))), (4, .int (x4 + (0 : Int32))), (5, .int x5), (6, .int x6), (7, .int (x7 + 1))] [] μ) ∧ (¬ (nI n5) ≤ 1 → Wx K_SI_isSame d rc rs Q 53 [(0, .ref a0), (1, .ref a1), (2, .int x2), (3, .int (x3 + (0 : Int32))), (4, .int (x4 + (1 : Int32))), (5, .int x5), (6, .int x6), (7, .int (x7 + 1))] [] μ)))) ∧ (¬ (nI n3) ≤ 0 → (∃ n7, mS μ a8 = (2, n7) ∧ (((nI n7) ≤ 1 → Wx K_SI_isSame d rc rs Q 53 [(0, .ref a0), (1, .ref a1), (2, .int x2), (3, .int (x3 + (1 : Int32))), (4, .int (x4 + (0 : Int32))), (5, .int x5), (6, .int x6), (7, .int (x7 + 1))] [] μ) ∧ (¬ (nI n7) ≤ 1 → Wx K_SI_isSame d rc rs Q 53 [(0, .ref a0), (1, .ref a1), (2, .int x2), (3, .int (x3 + (1 : Int32))), (4, .int (x4 + (1 : Int32))), (5, .int x5), (6, .int x6), (7, .int (x7 + 1))] [] μ))))))) ∧ (¬ (nI n1) ≤ x9 → (∃ cc9 ss10 : Nat, (cc9 ≤ rc ∧ ss10 ≤ rs) ∧ (mS μ a1 = (1, 0) ∧ Cal K_PB_shown (d - 1) cc9 ss10 [.ref a1, .int x2, .int x7, .int x9] μ (fun r μ12 => ∃ y14, r = some (.int y14) ∧ (∃ n15, (mS μ12 a8 = (2, n15) ∧ vp_in x9 n15) ∧ ((y14 = (gI μ12 a8 x9.toNatClampNeg) → Wx K_SI_isSame d (rc - cc9) (rs - ss10) Q 74 [(0, .ref a0), (1, .ref a1), (2, .int x2), (3, .int x3), (4, .int x4), (5, .int x5), (6, .int x6), (7, .int x7), (8, .ref a8), (9, .int (x9 + 1))] [] μ12) ∧ (¬ y14 = (gI μ12 a8 x9.toNatClampNeg) → Q (some (.int 0)) μ12)))))))))) : Wx K_SI_isSame d rc rs Q 74 [(0, .ref a0), (1, .ref a1), (2, .int x2), (3, .int x3), (4, .int x4), (5, .int x5), (6, .int x6), (7, .int x7), (8, .ref a8), (9, .int x9)] [] μ := by
  refine Wa.iload (j := 9) d_SI_isSame_74 rfl ?_
  refine Wa.aload (j := 8) d_SI_isSame_76 rfl ?_
  obtain ⟨n1, hc2, hF⟩ := hF
  refine Wa.alen d_SI_isSame_78 hc2 (by decide) ?_
  refine Wa.icmp_ge 107 d_SI_isSame_79 (by decide) (fun hb => ?_) (fun hb => ?_)
  · have hF := hF.1 hb
    refine Wa.iload_n (j := 3) d_SI_isSame_107 rfl ?_
    refine Wa.aload (j := 8) d_SI_isSame_108 rfl ?_
    obtain ⟨n3, hc4, hF⟩ := hF
    refine Wa.alen d_SI_isSame_110 hc4 (by decide) ?_
    refine Wa.if_le 118 d_SI_isSame_111 (by decide) (fun hb => ?_) (fun hb => ?_)
    · have hF := hF.1 hb
      refine Wa.iconst (v := 0) d_SI_isSame_118 rfl ?_
      refine Wa.iadd d_SI_isSame_119 ?_
      refine Wa.istore_n (i := 3) (L' := [(3, .int (x3 + (0 : Int32))), (0, .ref a0), (1, .ref a1), (2, .int x2), (4, .int x4), (5, .int x5), (6, .int x6), (7, .int x7), (8, .ref a8), (9, .int x9)]) d_SI_isSame_120 rfl (by decide) rfl ?_
      refine Wa.iload (j := 4) d_SI_isSame_121 rfl ?_
      refine Wa.aload (j := 8) d_SI_isSame_123 rfl ?_
      obtain ⟨n5, hc6, hF⟩ := hF
      refine Wa.alen d_SI_isSame_125 hc6 (by decide) ?_
      refine Wa.iconst (v := 1) d_SI_isSame_126 rfl ?_
      refine Wa.icmp_le 134 d_SI_isSame_127 (by decide) (fun hb => ?_) (fun hb => ?_)
      · have hF := hF.1 hb
        refine Wa.iconst (v := 0) d_SI_isSame_134 rfl ?_
        refine Wa.iadd d_SI_isSame_135 ?_
        refine Wa.istore (i := 4) (L' := [(4, .int (x4 + (0 : Int32))), (3, .int (x3 + (0 : Int32))), (0, .ref a0), (1, .ref a1), (2, .int x2), (5, .int x5), (6, .int x6), (7, .int x7), (8, .ref a8), (9, .int x9)]) d_SI_isSame_136 (by decide) rfl ?_
        refine Wa.iinc (i := 7) (j := 7) (v := (x7 + 1)) (L' := [(7, .int (x7 + 1)), (4, .int (x4 + (0 : Int32))), (3, .int (x3 + (0 : Int32))), (0, .ref a0), (1, .ref a1), (2, .int x2), (5, .int x5), (6, .int x6), (8, .ref a8), (9, .int x9)]) d_SI_isSame_138 rfl rfl (by decide) rfl ?_
        refine Wa.goto 53 d_SI_isSame_141 (by decide) ?_
        exact Wa.loc [3, 4, 5, 2, 1, 6, 7, 0] rfl hF
      · have hF := hF.2 hb
        refine Wa.iconst (v := 1) d_SI_isSame_130 rfl ?_
        refine Wa.goto 135 d_SI_isSame_131 (by decide) ?_
        refine Wa.iadd d_SI_isSame_135 ?_
        refine Wa.istore (i := 4) (L' := [(4, .int (x4 + (1 : Int32))), (3, .int (x3 + (0 : Int32))), (0, .ref a0), (1, .ref a1), (2, .int x2), (5, .int x5), (6, .int x6), (7, .int x7), (8, .ref a8), (9, .int x9)]) d_SI_isSame_136 (by decide) rfl ?_
        refine Wa.iinc (i := 7) (j := 7) (v := (x7 + 1)) (L' := [(7, .int (x7 + 1)), (4, .int (x4 + (1 : Int32))), (3, .int (x3 + (0 : Int32))), (0, .ref a0), (1, .ref a1), (2, .int x2), (5, .int x5), (6, .int x6), (8, .ref a8), (9, .int x9)]) d_SI_isSame_138 rfl rfl (by decide) rfl ?_
        refine Wa.goto 53 d_SI_isSame_141 (by decide) ?_
        exact Wa.loc [3, 4, 5, 2, 1, 6, 7, 0] rfl hF
    · have hF := hF.2 hb
      refine Wa.iconst (v := 1) d_SI_isSame_114 rfl ?_
      refine Wa.goto 119 d_SI_isSame_115 (by decide) ?_
      refine Wa.iadd d_SI_isSame_119 ?_
      refine Wa.istore_n (i := 3) (L' := [(3, .int (x3 + (1 : Int32))), (0, .ref a0), (1, .ref a1), (2, .int x2), (4, .int x4), (5, .int x5), (6, .int x6), (7, .int x7), (8, .ref a8), (9, .int x9)]) d_SI_isSame_120 rfl (by decide) rfl ?_
      refine Wa.iload (j := 4) d_SI_isSame_121 rfl ?_
      refine Wa.aload (j := 8) d_SI_isSame_123 rfl ?_
      obtain ⟨n7, hc8, hF⟩ := hF
      refine Wa.alen d_SI_isSame_125 hc8 (by decide) ?_
      refine Wa.iconst (v := 1) d_SI_isSame_126 rfl ?_
      refine Wa.icmp_le 134 d_SI_isSame_127 (by decide) (fun hb => ?_) (fun hb => ?_)
      · have hF := hF.1 hb
        refine Wa.iconst (v := 0) d_SI_isSame_134 rfl ?_
        refine Wa.iadd d_SI_isSame_135 ?_
        refine Wa.istore (i := 4) (L' := [(4, .int (x4 + (0 : Int32))), (3, .int (x3 + (1 : Int32))), (0, .ref a0), (1, .ref a1), (2, .int x2), (5, .int x5), (6, .int x6), (7, .int x7), (8, .ref a8), (9, .int x9)]) d_SI_isSame_136 (by decide) rfl ?_
        refine Wa.iinc (i := 7) (j := 7) (v := (x7 + 1)) (L' := [(7, .int (x7 + 1)), (4, .int (x4 + (0 : Int32))), (3, .int (x3 + (1 : Int32))), (0, .ref a0), (1, .ref a1), (2, .int x2), (5, .int x5), (6, .int x6), (8, .ref a8), (9, .int x9)]) d_SI_isSame_138 rfl rfl (by decide) rfl ?_
        refine Wa.goto 53 d_SI_isSame_141 (by decide) ?_
        exact Wa.loc [3, 4, 5, 2, 1, 6, 7, 0] rfl hF
      · have hF := hF.2 hb
        refine Wa.iconst (v := 1) d_SI_isSame_130 rfl ?_
        refine Wa.goto 135 d_SI_isSame_131 (by decide) ?_
        refine Wa.iadd d_SI_isSame_135 ?_
        refine Wa.istore (i := 4) (L' := [(4, .int (x4 + (1 : Int32))), (3, .int (x3 + (1 : Int32))), (0, .ref a0), (1, .ref a1), (2, .int x2), (5, .int x5), (6, .int x6), (7, .int x7), (8, .ref a8), (9, .int x9)]) d_SI_isSame_136 (by decide) rfl ?_
        refine Wa.iinc (i := 7) (j := 7) (v := (x7 + 1)) (L' := [(7, .int (x7 + 1)), (4, .int (x4 + (1 : Int32))), (3, .int (x3 + (1 : Int32))), (0, .ref a0), (1, .ref a1), (2, .int x2), (5, .int x5), (6, .int x6), (8, .ref a8), (9, .int x9)]) d_SI_isSame_138 rfl rfl (by decide) rfl ?_
        refine Wa.goto 53 d_SI_isSame_141 (by decide) ?_
        exact Wa.loc [3, 4, 5, 2, 1, 6, 7, 0] rfl hF
  · have hF := hF.2 hb
    refine Wa.aload_n (j := 1) d_SI_isSame_82 rfl ?_
    refine Wa.iload_n (j := 2) d_SI_isSame_83 rfl ?_
    refine Wa.iload (j := 7) d_SI_isSame_84 rfl ?_
    refine Wa.iload (j := 9) d_SI_isSame_86 rfl ?_
    obtain ⟨cc9, ss10, hc11, hF⟩ := hF
    have hc13 := hF.1
    have hF := hF.2
    refine Wx.cVi (q := E_PB) (As := [.int x2, .int x7, .int x9]) 0 (d - 1) cc9 ss10 _ d_SI_isSame_88 mok_PB_shown vl_SI_151 rfl rfl rfl (Nat.le_of_ble_eq_true rfl) (by omega) hc11.1 hc11.2 hc13 hF (fun y14 μ12 hS hF => ?_)
    refine Wa.aload (j := 8) d_SI_isSame_91 rfl ?_
    refine Wa.iload (j := 9) d_SI_isSame_93 rfl ?_
    obtain ⟨n15, hc16, hF⟩ := hF
    refine Wa.iald d_SI_isSame_95 hc16.1 hc16.2 ?_
    refine Wa.icmp_eq 101 d_SI_isSame_96 (by decide) (fun hb => ?_) (fun hb => ?_)
    · have hF := hF.1 hb
      refine Wa.iinc (i := 9) (j := 9) (v := (x9 + 1)) (L' := [(9, .int (x9 + 1)), (0, .ref a0), (1, .ref a1), (2, .int x2), (3, .int x3), (4, .int x4), (5, .int x5), (6, .int x6), (7, .int x7), (8, .ref a8)]) d_SI_isSame_101 rfl rfl (by decide) rfl ?_
      refine Wa.goto 74 d_SI_isSame_104 (by decide) ?_
      exact Wa.loc [1, 2, 3, 4, 5, 6, 7, 8, 9, 0] rfl hF
    · have hF := hF.2 hb
      refine Wa.iconst (v := 0) d_SI_isSame_99 rfl ?_
      exact Wx.retz d_SI_isSame_100 rfl (Or.inl rfl) hF
set_option maxHeartbeats 4000000 in
set_option maxRecDepth 20000 in
theorem r_SI_isSame_158 {d rc rs : Nat} {Q : Option Value → Mu → Prop} {μ : Mu} {a0 : Nat} {a1 : Nat} {x2 : Int32} {x3 : Int32} {x4 : Int32} {x5 : Int32} {x6 : Int32} {a7 : Nat} {x8 : Int32} {x9 : Int32} (hD : 1 ≤ d)
    (hF : ((x8 ≤ x9 → (mS μ a0 = (1, 11) ∧ (∃ b2, gR μ a0 6 = some b2 ∧ (∃ n4, mS μ b2 = (40, n4) ∧ Wx K_SI_isSame d rc rs Q 210 [(0, .ref a0), (1, .ref a1), (2, .int x2), (3, .int x3), (4, .int x4), (5, .int x5), (6, .int x6), (7, .ref b2), (8, .int (nI n4)), (9, .int 0)] [] μ)))) ∧ (¬ x8 ≤ x9 → (∃ n6, (mS μ a7 = (40, n6) ∧ vp_in x9 n6) ∧ (∃ b8, gR μ a7 x9.toNatClampNeg = some b8 ∧ (∃ n10, (mS μ b8 = (2, n10) ∧ vp_in (0 : Int32) n10) ∧ (((gI μ b8 (0 : Int32).toNatClampNeg) = x2 → Wx K_SI_isSame d rc rs Q 158 [(0, .ref a0), (1, .ref a1), (2, .int x2), (3, .int x3), (4, .int x4), (5, .int (x5 + (1 : Int32))), (6, .int x6), (7, .ref a7), (8, .int x8), (9, .int (x9 + 1))] [] μ) ∧ (¬ (gI μ b8 (0 : Int32).toNatClampNeg) = x2 → Wx K_SI_isSame d rc rs Q 158 [(0, .ref a0), (1, .ref a1), (2, .int x2), (3, .int x3), (4, .int x4), (5, .int (x5 + (0 : Int32))), (6, .int x6), (7, .ref a7), (8, .int x8), (9, .int (x9 + 1))] [] μ)))))))) : Wx K_SI_isSame d rc rs Q 158 [(0, .ref a0), (1, .ref a1), (2, .int x2), (3, .int x3), (4, .int x4), (5, .int x5), (6, .int x6), (7, .ref a7), (8, .int x8), (9, .int x9)] [] μ := by
  refine Wa.iload (j := 9) d_SI_isSame_158 rfl ?_
  refine Wa.iload (j := 8) d_SI_isSame_160 rfl ?_
  refine Wa.icmp_ge 196 d_SI_isSame_162 (by decide) (fun hb => ?_) (fun hb => ?_)
  · have hF := hF.1 hb
    refine Wa.aload_n (j := 0) d_SI_isSame_196 rfl ?_
    have hc1 := hF.1
    have hF := hF.2
    obtain ⟨b2, hc3, hF⟩ := hF
    refine Wr.getR 11 6 d_SI_isSame_197 f_SI_6 rfl fl_SI_9 hc1 hc3 ?_
    refine Wa.astore (i := 7) (L' := [(7, .ref b2), (0, .ref a0), (1, .ref a1), (2, .int x2), (3, .int x3), (4, .int x4), (5, .int x5), (6, .int x6), (8, .int x8), (9, .int x9)]) d_SI_isSame_200 (by decide) rfl ?_
    refine Wa.aload (j := 0) d_SI_isSame_202 rfl ?_
    obtain ⟨n4, hc5, hF⟩ := hF
    refine Wa.alen d_SI_isSame_204 hc5 (by decide) ?_
    refine Wa.istore (i := 8) (L' := [(8, .int (nI n4)), (7, .ref b2), (0, .ref a0), (1, .ref a1), (2, .int x2), (3, .int x3), (4, .int x4), (5, .int x5), (6, .int x6), (9, .int x9)]) d_SI_isSame_205 (by decide) rfl ?_
    refine Wa.iconst (v := 0) d_SI_isSame_207 rfl ?_
    refine Wa.istore (i := 9) (L' := [(9, .int 0), (8, .int (nI n4)), (7, .ref b2), (0, .ref a0), (1, .ref a1), (2, .int x2), (3, .int x3), (4, .int x4), (5, .int x5), (6, .int x6)]) d_SI_isSame_208 (by decide) rfl ?_
    exact Wa.loc [3, 4, 5, 6, 7, 8, 9, 2, 1, 0] rfl hF
  · have hF := hF.2 hb
    refine Wa.aload (j := 7) d_SI_isSame_165 rfl ?_
    refine Wa.iload (j := 9) d_SI_isSame_167 rfl ?_
    obtain ⟨n6, hc7, hF⟩ := hF
    obtain ⟨b8, hc9, hF⟩ := hF
    refine Wa.aaldA ct_le d_SI_isSame_169 (Or.inl rfl) hc7.1 hc7.2 hc9 ?_
    refine Wa.astore (i := 10) (L' := [(10, .ref b8), (0, .ref a0), (1, .ref a1), (2, .int x2), (3, .int x3), (4, .int x4), (5, .int x5), (6, .int x6), (7, .ref a7), (8, .int x8), (9, .int x9)]) d_SI_isSame_170 (by decide) rfl ?_
    refine Wa.iload (j := 6) d_SI_isSame_172 rfl ?_
    refine Wa.aload (j := 0) d_SI_isSame_174 rfl ?_
    refine Wa.iconst (v := 0) d_SI_isSame_176 rfl ?_
    obtain ⟨n10, hc11, hF⟩ := hF
    refine Wa.iald d_SI_isSame_177 hc11.1 hc11.2 ?_
    refine Wa.iload_n (j := 3) d_SI_isSame_178 rfl ?_
    refine Wa.icmp_ne 186 d_SI_isSame_179 (by decide) (fun hb => ?_) (fun hb => ?_)
    · have hF := hF.2 hb
      refine Wa.iconst (v := 0) d_SI_isSame_186 rfl ?_
      refine Wa.iadd d_SI_isSame_187 ?_
      refine Wa.istore (i := 5) (L' := [(5, .int (x5 + (0 : Int32))), (10, .ref b8), (0, .ref a0), (1, .ref a1), (2, .int x2), (3, .int x3), (4, .int x4), (6, .int x6), (7, .ref a7), (8, .int x8), (9, .int x9)]) d_SI_isSame_188 (by decide) rfl ?_
      refine Wa.iinc (i := 9) (j := 10) (v := (x9 + 1)) (L' := [(9, .int (x9 + 1)), (5, .int (x5 + (0 : Int32))), (10, .ref b8), (0, .ref a0), (1, .ref a1), (2, .int x2), (3, .int x3), (4, .int x4), (6, .int x6), (7, .ref a7), (8, .int x8)]) d_SI_isSame_190 rfl rfl (by decide) rfl ?_
      refine Wa.goto 158 d_SI_isSame_193 (by decide) ?_
      exact Wa.loc [3, 4, 5, 6, 7, 1, 8, 9, 10, 0] rfl hF
    · have hF := hF.1 hb
      refine Wa.iconst (v := 1) d_SI_isSame_182 rfl ?_
      refine Wa.goto 187 d_SI_isSame_183 (by decide) ?_
      refine Wa.iadd d_SI_isSame_187 ?_
      refine Wa.istore (i := 5) (L' := [(5, .int (x5 + (1 : Int32))), (10, .ref b8), (0, .ref a0), (1, .ref a1), (2, .int x2), (3, .int x3), (4, .int x4), (6, .int x6), (7, .ref a7), (8, .int x8), (9, .int x9)]) d_SI_isSame_188 (by decide) rfl ?_
      refine Wa.iinc (i := 9) (j := 10) (v := (x9 + 1)) (L' := [(9, .int (x9 + 1)), (5, .int (x5 + (1 : Int32))), (10, .ref b8), (0, .ref a0), (1, .ref a1), (2, .int x2), (3, .int x3), (4, .int x4), (6, .int x6), (7, .ref a7), (8, .int x8)]) d_SI_isSame_190 rfl rfl (by decide) rfl ?_
      refine Wa.goto 158 d_SI_isSame_193 (by decide) ?_
      exact Wa.loc [3, 4, 5, 6, 7, 1, 8, 9, 10, 0] rfl hF
set_option maxHeartbeats 4000000 in
set_option maxRecDepth 20000 in
theorem r_SI_isSame_210 {d rc rs : Nat} {Q : Option Value → Mu → Prop} {μ : Mu} {a0 : Nat} {a1 : Nat} {x2 : Int32} {x3 : Int32} {x4 : Int32} {x5 : Int32} {x6 : Int32} {a7 : Nat} {x8 : Int32} {x9 : Int32} (hD : 1 ≤ d)
    (hF : ((x8 ≤ x9 → ((¬ (6 : Int32) < 0 ∧ 6 ≤ 1000000 ∧ 1 ≤ rc ∧ 6 ≤ rs) ∧ (∃ q2, FreN μ q2 ∧ (mS (mkA μ q2 (2, 6)) a0 = (1, 11) ∧ (∃ b5, gR (mkA μ q2 (2, 6)) a0 8 = some b5 ∧ (∃ n7, (mS (mkA μ q2 (2, 6)) b5 = (41, n7) ∧ vp_in x2 n7) ∧ (∃ b9, gR (mkA μ q2 (2, 6)) b5 x2.toNatClampNeg = some b9 ∧ Cal K_SI_many (d - 1) 0 0 [.ref b9] (mkA μ q2 (2, 6)) (fun r μ11 => ∃ y12, r = some (.int y12) ∧ (∃ n13, (mS μ11 q2 = (2, n13) ∧ vp_in (0 : Int32) n13 ∧ hiN q2) ∧ (mS (setI μ11 q2 (0 : Int32).toNatClampNeg y12) a0 = (1, 11) ∧ (∃ b16, gR (setI μ11 q2 (0 : Int32).toNatClampNeg y12) a0 10 = some b16 ∧ (∃ n18, (mS (setI μ11 q2 (0 : Int32).toNatClampNeg y12) b16 = (41, n18) ∧ vp_in x2 n18) ∧ (∃ b20, gR (setI μ11 q2 (0 : Int32).toNatClampNeg y12) b16 x2.toNatClampNeg = some b20 ∧ Cal K_SI_many (d - 1) 0 0 [.ref b20] (setI μ11 q2 (0 : Int32).toNatClampNeg y12) (fun r μ22 => ∃ y23, r = some (.int y23) ∧ (∃ n24, (mS μ22 q2 = (2, n24) ∧ vp_in (1 : Int32) n24 ∧ hiN q2) ∧ (∃ n26, (mS (setI μ22 q2 (1 : Int32).toNatClampNeg y23) q2 = (2, n26) ∧ vp_in (2 : Int32) n26 ∧ hiN q2) ∧ (∃ n28, (mS (setI (setI μ22 q2 (1 : Int32).toNatClampNeg y23) q2 (2 : Int32).toNatClampNeg x3) q2 = (2, n28) ∧ vp_in (3 : Int32) n28 ∧ hiN q2) ∧ (∃ n30, (mS (setI (setI (setI μ22 q2 (1 : Int32).toNatClampNeg y23) q2 (2 : Int32).toNatClampNeg x3) q2 (3 : Int32).toNatClampNeg x4) q2 = (2, n30) ∧ vp_in (4 : Int32) n30 ∧ hiN q2) ∧ (∃ n32, (mS (setI (setI (setI (setI μ22 q2 (1 : Int32).toNatClampNeg y23) q2 (2 : Int32).toNatClampNeg x3) q2 (3 : Int32).toNatClampNeg x4) q2 (4 : Int32).toNatClampNeg x6) q2 = (2, n32) ∧ vp_in (5 : Int32) n32 ∧ hiN q2) ∧ Wx K_SI_isSame d (rc - 1 - 0 - 0) (rs - 6 - 0 - 0) Q 300 [(0, .ref a0), (1, .ref a1), (2, .int x2), (7, .ref q2), (8, .int 0)] [] (setI (setI (setI (setI (setI μ22 q2 (1 : Int32).toNatClampNeg y23) q2 (2 : Int32).toNatClampNeg x3) q2 (3 : Int32).toNatClampNeg x4) q2 (4 : Int32).toNatClampNeg x6) q2 (5 : Int32).toNatClampNeg x5)))))))))))))))))))) ∧ (¬ x8 ≤ x9 → (∃ n34, (mS μ a7 = (40, n34) ∧ vp_in x9 n34) ∧ (∃ b36, gR μ a7 x9.toNatClampNeg = some b36 ∧ (∃ n38, (mS μ b36 = (2, n38) ∧ vp_in (0 : Int32) n38) ∧ (((gI μ b36 (0 : Int32).toNatClampNeg) = x2 → Wx K_SI_isSame d rc rs Q 210 [(0, .ref a0), (1, .ref a1), (2, .int x2), (3, .int x3), (4, .int x4), (5, .int x5), (6, .int (x6 + (1 : Int32))), (7, .ref a7), (8, .int x8), (9, .int (x9 + 1))] [] μ) ∧ (¬ (gI μ b36 (0 : Int32).toNatClampNeg) = x2 → Wx K_SI_isSame d rc rs Q 210 [(0, .ref a0), (1, .ref a1), (2, .int x2), (3, .int x3), (4, .int x4), (5, .int x5), (6, .int (x6 + (0 : Int32))), (7, .ref a7), (8, .int x8), (9, .int (x9 + 1))] [] μ)))))))) : Wx K_SI_isSame d rc rs Q 210 [(0, .ref a0), (1, .ref a1), (2, .int x2), (3, .int x3), (4, .int x4), (5, .int x5), (6, .int x6), (7, .ref a7), (8, .int x8), (9, .int x9)] [] μ := by
  refine Wa.iload (j := 9) d_SI_isSame_210 rfl ?_
  refine Wa.iload (j := 8) d_SI_isSame_212 rfl ?_
  refine Wa.icmp_ge 248 d_SI_isSame_214 (by decide) (fun hb => ?_) (fun hb => ?_)
  · have hF := hF.1 hb
    refine Wa.bipush (v := 6) d_SI_isSame_248 rfl ?_
    have hc1 := hF.1
    have hF := hF.2
    obtain ⟨q2, hc3, hF⟩ := hF
    refine Wr.newarr 2 6 q2 d_SI_isSame_250 ac_int rfl (by decide) hc1.1 rfl hc1.2.1 hc1.2.2.1 hc1.2.2.2 hc3 ?_
    refine Wa.dup d_SI_isSame_252 rfl ?_
    refine Wa.iconst (v := 0) d_SI_isSame_253 rfl ?_
    refine Wa.aload_n (j := 0) d_SI_isSame_254 rfl ?_
    have hc4 := hF.1
    have hF := hF.2
    obtain ⟨b5, hc6, hF⟩ := hF
    refine Wr.getR 11 8 d_SI_isSame_255 f_SI_8 rfl fl_SI_38 hc4 hc6 ?_
    refine Wa.iload_n (j := 2) d_SI_isSame_258 rfl ?_
    obtain ⟨n7, hc8, hF⟩ := hF
    obtain ⟨b9, hc10, hF⟩ := hF
    refine Wa.aaldA ct_le d_SI_isSame_259 (Or.inr rfl) hc8.1 hc8.2 hc10 ?_
    refine Wx.cSi (As := [.ref b9]) (d - 1) 0 0 _ d_SI_isSame_260 mok_SI_many sl_SI_102 rfl rfl (Nat.le_of_ble_eq_true rfl) (by omega) (Nat.zero_le _) (Nat.zero_le _) hF (fun y12 μ11 hS hF => ?_)
    obtain ⟨n13, hc14, hF⟩ := hF
    refine Wr.iast d_SI_isSame_263 hc14.1 hc14.2.1 hc14.2.2 ?_
    refine Wa.dup d_SI_isSame_264 rfl ?_
    refine Wa.iconst (v := 1) d_SI_isSame_265 rfl ?_
    refine Wa.aload_n (j := 0) d_SI_isSame_266 rfl ?_
    have hc15 := hF.1
    have hF := hF.2
    obtain ⟨b16, hc17, hF⟩ := hF
    refine Wr.getR 11 10 d_SI_isSame_267 f_SI_10 rfl fl_SI_44 hc15 hc17 ?_
    refine Wa.iload_n (j := 2) d_SI_isSame_270 rfl ?_
    obtain ⟨n18, hc19, hF⟩ := hF
    obtain ⟨b20, hc21, hF⟩ := hF
    refine Wa.aaldA ct_le d_SI_isSame_271 (Or.inr rfl) hc19.1 hc19.2 hc21 ?_
    refine Wx.cSi (As := [.ref b20]) (d - 1) 0 0 _ d_SI_isSame_272 mok_SI_many sl_SI_102 rfl rfl (Nat.le_of_ble_eq_true rfl) (by omega) (Nat.zero_le _) (Nat.zero_le _) hF (fun y23 μ22 hS hF => ?_)
    obtain ⟨n24, hc25, hF⟩ := hF
    refine Wr.iast d_SI_isSame_275 hc25.1 hc25.2.1 hc25.2.2 ?_
    refine Wa.dup d_SI_isSame_276 rfl ?_
    refine Wa.iconst (v := 2) d_SI_isSame_277 rfl ?_
    refine Wa.iload_n (j := 3) d_SI_isSame_278 rfl ?_
    obtain ⟨n26, hc27, hF⟩ := hF
    refine Wr.iast d_SI_isSame_279 hc27.1 hc27.2.1 hc27.2.2 ?_
    refine Wa.dup d_SI_isSame_280 rfl ?_
    refine Wa.iconst (v := 3) d_SI_isSame_281 rfl ?_
    refine Wa.iload (j := 4) d_SI_isSame_282 rfl ?_
    obtain ⟨n28, hc29, hF⟩ := hF
    refine Wr.iast d_SI_isSame_284 hc29.1 hc29.2.1 hc29.2.2 ?_
    refine Wa.dup d_SI_isSame_285 rfl ?_
    refine Wa.iconst (v := 4) d_SI_isSame_286 rfl ?_
    refine Wa.iload (j := 6) d_SI_isSame_287 rfl ?_
    obtain ⟨n30, hc31, hF⟩ := hF
    refine Wr.iast d_SI_isSame_289 hc31.1 hc31.2.1 hc31.2.2 ?_
    refine Wa.dup d_SI_isSame_290 rfl ?_
    refine Wa.iconst (v := 5) d_SI_isSame_291 rfl ?_
    refine Wa.iload (j := 5) d_SI_isSame_292 rfl ?_
    obtain ⟨n32, hc33, hF⟩ := hF
    refine Wr.iast d_SI_isSame_294 hc33.1 hc33.2.1 hc33.2.2 ?_
    refine Wa.astore (i := 7) (L' := [(7, .ref q2), (0, .ref a0), (1, .ref a1), (2, .int x2), (3, .int x3), (4, .int x4), (5, .int x5), (6, .int x6), (8, .int x8), (9, .int x9)]) d_SI_isSame_295 (by decide) rfl ?_
    refine Wa.iconst (v := 0) d_SI_isSame_297 rfl ?_
    refine Wa.istore (i := 8) (L' := [(8, .int 0), (7, .ref q2), (0, .ref a0), (1, .ref a1), (2, .int x2), (3, .int x3), (4, .int x4), (5, .int x5), (6, .int x6), (9, .int x9)]) d_SI_isSame_298 (by decide) rfl ?_
    exact Wa.loc [2, 3, 4, 1, 0] rfl hF
  · have hF := hF.2 hb
    refine Wa.aload (j := 7) d_SI_isSame_217 rfl ?_
    refine Wa.iload (j := 9) d_SI_isSame_219 rfl ?_
    obtain ⟨n34, hc35, hF⟩ := hF
    obtain ⟨b36, hc37, hF⟩ := hF
    refine Wa.aaldA ct_le d_SI_isSame_221 (Or.inl rfl) hc35.1 hc35.2 hc37 ?_
    refine Wa.astore (i := 10) (L' := [(10, .ref b36), (0, .ref a0), (1, .ref a1), (2, .int x2), (3, .int x3), (4, .int x4), (5, .int x5), (6, .int x6), (7, .ref a7), (8, .int x8), (9, .int x9)]) d_SI_isSame_222 (by decide) rfl ?_
    refine Wa.iload (j := 7) d_SI_isSame_224 rfl ?_
    refine Wa.aload (j := 0) d_SI_isSame_226 rfl ?_
    refine Wa.iconst (v := 0) d_SI_isSame_228 rfl ?_
    obtain ⟨n38, hc39, hF⟩ := hF
    refine Wa.iald d_SI_isSame_229 hc39.1 hc39.2 ?_
    refine Wa.iload_n (j := 3) d_SI_isSame_230 rfl ?_
    refine Wa.icmp_ne 238 d_SI_isSame_231 (by decide) (fun hb => ?_) (fun hb => ?_)
    · have hF := hF.2 hb
      refine Wa.iconst (v := 0) d_SI_isSame_238 rfl ?_
      refine Wa.iadd d_SI_isSame_239 ?_
      refine Wa.istore (i := 6) (L' := [(6, .int (x6 + (0 : Int32))), (10, .ref b36), (0, .ref a0), (1, .ref a1), (2, .int x2), (3, .int x3), (4, .int x4), (5, .int x5), (7, .ref a7), (8, .int x8), (9, .int x9)]) d_SI_isSame_240 (by decide) rfl ?_
      refine Wa.iinc (i := 9) (j := 10) (v := (x9 + 1)) (L' := [(9, .int (x9 + 1)), (6, .int (x6 + (0 : Int32))), (10, .ref b36), (0, .ref a0), (1, .ref a1), (2, .int x2), (3, .int x3), (4, .int x4), (5, .int x5), (7, .ref a7), (8, .int x8)]) d_SI_isSame_242 rfl rfl (by decide) rfl ?_
      refine Wa.goto 210 d_SI_isSame_245 (by decide) ?_
      exact Wa.loc [3, 4, 5, 6, 7, 8, 1, 9, 10, 0] rfl hF
    · have hF := hF.1 hb
      refine Wa.iconst (v := 1) d_SI_isSame_234 rfl ?_
      refine Wa.goto 239 d_SI_isSame_235 (by decide) ?_
      refine Wa.iadd d_SI_isSame_239 ?_
      refine Wa.istore (i := 6) (L' := [(6, .int (x6 + (1 : Int32))), (10, .ref b36), (0, .ref a0), (1, .ref a1), (2, .int x2), (3, .int x3), (4, .int x4), (5, .int x5), (7, .ref a7), (8, .int x8), (9, .int x9)]) d_SI_isSame_240 (by decide) rfl ?_
      refine Wa.iinc (i := 9) (j := 10) (v := (x9 + 1)) (L' := [(9, .int (x9 + 1)), (6, .int (x6 + (1 : Int32))), (10, .ref b36), (0, .ref a0), (1, .ref a1), (2, .int x2), (3, .int x3), (4, .int x4), (5, .int x5), (7, .ref a7), (8, .int x8)]) d_SI_isSame_242 rfl rfl (by decide) rfl ?_
      refine Wa.goto 210 d_SI_isSame_245 (by decide) ?_
      exact Wa.loc [3, 4, 5, 6, 7, 8, 1, 9, 10, 0] rfl hF
set_option maxHeartbeats 4000000 in
set_option maxRecDepth 20000 in
theorem r_SI_isSame_300 {d rc rs : Nat} {Q : Option Value → Mu → Prop} {μ : Mu} {a0 : Nat} {a1 : Nat} {x2 : Int32} {a7 : Nat} {x8 : Int32} (hD : 1 ≤ d)
    (hF : ((6 ≤ x8 → Wx K_SI_isSame d rc rs Q 333 [(0, .ref a0), (1, .ref a1), (2, .int x2), (8, .int 0)] [] μ) ∧ (¬ 6 ≤ x8 → (∃ cc1 ss2 : Nat, (cc1 ≤ rc ∧ ss2 ≤ rs) ∧ (mS μ a1 = (1, 0) ∧ Cal K_PB_parish (d - 1) cc1 ss2 [.ref a1, .int x2, .int x8] μ (fun r μ4 => ∃ y6, r = some (.int y6) ∧ (∃ n7, (mS μ4 a7 = (2, n7) ∧ vp_in x8 n7) ∧ ((y6 = (gI μ4 a7 x8.toNatClampNeg) → Wx K_SI_isSame d (rc - cc1) (rs - ss2) Q 300 [(0, .ref a0), (1, .ref a1), (2, .int x2), (7, .ref a7), (8, .int (x8 + 1))] [] μ4) ∧ (¬ y6 = (gI μ4 a7 x8.toNatClampNeg) → Q (some (.int 0)) μ4))))))))) : Wx K_SI_isSame d rc rs Q 300 [(0, .ref a0), (1, .ref a1), (2, .int x2), (7, .ref a7), (8, .int x8)] [] μ := by
  refine Wa.iload (j := 4) d_SI_isSame_300 rfl ?_
  refine Wa.bipush (v := 6) d_SI_isSame_302 rfl ?_
  refine Wa.icmp_ge 330 d_SI_isSame_304 (by decide) (fun hb => ?_) (fun hb => ?_)
  · have hF := hF.1 hb
    refine Wa.iconst (v := 0) d_SI_isSame_330 rfl ?_
    refine Wa.istore (i := 8) (L' := [(8, .int 0), (0, .ref a0), (1, .ref a1), (2, .int x2), (7, .ref a7)]) d_SI_isSame_331 (by decide) rfl ?_
    exact Wa.loc [1, 2, 3, 0] rfl hF
  · have hF := hF.2 hb
    refine Wa.aload_n (j := 1) d_SI_isSame_307 rfl ?_
    refine Wa.iload_n (j := 2) d_SI_isSame_308 rfl ?_
    refine Wa.iload (j := 4) d_SI_isSame_309 rfl ?_
    obtain ⟨cc1, ss2, hc3, hF⟩ := hF
    have hc5 := hF.1
    have hF := hF.2
    refine Wx.cVi (q := E_PB) (As := [.int x2, .int x8]) 0 (d - 1) cc1 ss2 _ d_SI_isSame_311 mok_PB_parish vl_SI_153 rfl rfl rfl (Nat.le_of_ble_eq_true rfl) (by omega) hc3.1 hc3.2 hc5 hF (fun y6 μ4 hS hF => ?_)
    refine Wa.aload (j := 3) d_SI_isSame_314 rfl ?_
    refine Wa.iload (j := 4) d_SI_isSame_316 rfl ?_
    obtain ⟨n7, hc8, hF⟩ := hF
    refine Wa.iald d_SI_isSame_318 hc8.1 hc8.2 ?_
    refine Wa.icmp_eq 324 d_SI_isSame_319 (by decide) (fun hb => ?_) (fun hb => ?_)
    · have hF := hF.1 hb
      refine Wa.iinc (i := 8) (j := 4) (v := (x8 + 1)) (L' := [(8, .int (x8 + 1)), (0, .ref a0), (1, .ref a1), (2, .int x2), (7, .ref a7)]) d_SI_isSame_324 rfl rfl (by decide) rfl ?_
      refine Wa.goto 300 d_SI_isSame_327 (by decide) ?_
      exact Wa.loc [1, 2, 3, 4, 0] rfl hF
    · have hF := hF.2 hb
      refine Wa.iconst (v := 0) d_SI_isSame_322 rfl ?_
      exact Wx.retz d_SI_isSame_323 rfl (Or.inl rfl) hF
set_option maxHeartbeats 4000000 in
set_option maxRecDepth 20000 in
theorem r_SI_isSame_333 {d rc rs : Nat} {Q : Option Value → Mu → Prop} {μ : Mu} {a0 : Nat} {a1 : Nat} {x2 : Int32} {x8 : Int32} (hD : 1 ≤ d)
    (hF : (mS μ a0 = (1, 11) ∧ (((gI μ a0 4) ≤ x8 → Wx K_SI_isSame d rc rs Q 31 [(0, .ref a0), (1, .ref a1), (2, .int (x2 + 1))] [] μ) ∧ (¬ (gI μ a0 4) ≤ x8 → (∃ cc2 ss3 : Nat, (cc2 ≤ rc ∧ ss3 ≤ rs) ∧ (mS μ a1 = (1, 0) ∧ Cal K_PB_knows (d - 1) cc2 ss3 [.ref a1, .int x2, .int x8] μ (fun r μ5 => ∃ y7, r = some (.int y7) ∧ (mS μ5 a0 = (1, 11) ∧ (∃ b9, gR μ5 a0 8 = some b9 ∧ (∃ n11, (mS μ5 b9 = (41, n11) ∧ vp_in x2 n11) ∧ (∃ b13, gR μ5 b9 x2.toNatClampNeg = some b13 ∧ (mS μ5 a0 = (1, 11) ∧ Cal K_SI_of (d - 1) 0 0 [.ref a0, .ref b13, .int x8] μ5 (fun r μ15 => ∃ y17, r = some (.int y17) ∧ ((y7 = y17 → Wx K_SI_isSame d (rc - cc2 - 0) (rs - ss3 - 0) Q 333 [(0, .ref a0), (1, .ref a1), (2, .int x2), (8, .int (x8 + 1))] [] μ15) ∧ (¬ y7 = y17 → Q (some (.int 0)) μ15))))))))))))))) : Wx K_SI_isSame d rc rs Q 333 [(0, .ref a0), (1, .ref a1), (2, .int x2), (8, .int x8)] [] μ := by
  refine Wa.iload (j := 3) d_SI_isSame_333 rfl ?_
  refine Wa.aload_n (j := 0) d_SI_isSame_335 rfl ?_
  have hc1 := hF.1
  have hF := hF.2
  refine Wr.getI 11 4 d_SI_isSame_336 f_SI_4 fl_SI_30 hc1 ?_
  refine Wa.icmp_ge 372 d_SI_isSame_339 (by decide) (fun hb => ?_) (fun hb => ?_)
  · have hF := hF.1 hb
    refine Wa.iinc (i := 2) (j := 2) (v := (x2 + 1)) (L' := [(2, .int (x2 + 1)), (0, .ref a0), (1, .ref a1), (8, .int x8)]) d_SI_isSame_372 rfl rfl (by decide) rfl ?_
    refine Wa.goto 31 d_SI_isSame_375 (by decide) ?_
    exact Wa.loc [1, 2, 0] rfl hF
  · have hF := hF.2 hb
    refine Wa.aload_n (j := 1) d_SI_isSame_342 rfl ?_
    refine Wa.iload_n (j := 2) d_SI_isSame_343 rfl ?_
    refine Wa.iload (j := 3) d_SI_isSame_344 rfl ?_
    obtain ⟨cc2, ss3, hc4, hF⟩ := hF
    have hc6 := hF.1
    have hF := hF.2
    refine Wx.cVi (q := E_PB) (As := [.int x2, .int x8]) 0 (d - 1) cc2 ss3 _ d_SI_isSame_346 mok_PB_knows vl_SI_156 rfl rfl rfl (Nat.le_of_ble_eq_true rfl) (by omega) hc4.1 hc4.2 hc6 hF (fun y7 μ5 hS hF => ?_)
    refine Wa.aload_n (j := 0) d_SI_isSame_349 rfl ?_
    refine Wa.aload_n (j := 0) d_SI_isSame_350 rfl ?_
    have hc8 := hF.1
    have hF := hF.2
    obtain ⟨b9, hc10, hF⟩ := hF
    refine Wr.getR 11 8 d_SI_isSame_351 f_SI_8 rfl fl_SI_38 hc8 hc10 ?_
    refine Wa.iload_n (j := 2) d_SI_isSame_354 rfl ?_
    obtain ⟨n11, hc12, hF⟩ := hF
    obtain ⟨b13, hc14, hF⟩ := hF
    refine Wa.aaldA ct_le d_SI_isSame_355 (Or.inr rfl) hc12.1 hc12.2 hc14 ?_
    refine Wa.iload (j := 3) d_SI_isSame_356 rfl ?_
    have hc16 := hF.1
    have hF := hF.2
    refine Wx.cVi (q := E_SI) (As := [.ref b13, .int x8]) 11 (d - 1) 0 0 _ d_SI_isSame_358 mok_SI_of vl_SI_159 rfl rfl rfl (Nat.le_of_ble_eq_true rfl) (by omega) (Nat.zero_le _) (Nat.zero_le _) hc16 hF (fun y17 μ15 hS hF => ?_)
    refine Wa.icmp_eq 366 d_SI_isSame_361 (by decide) (fun hb => ?_) (fun hb => ?_)
    · have hF := hF.1 hb
      refine Wa.iinc (i := 8) (j := 3) (v := (x8 + 1)) (L' := [(8, .int (x8 + 1)), (0, .ref a0), (1, .ref a1), (2, .int x2)]) d_SI_isSame_366 rfl rfl (by decide) rfl ?_
      refine Wa.goto 333 d_SI_isSame_369 (by decide) ?_
      exact Wa.loc [1, 2, 3, 0] rfl hF
    · have hF := hF.2 hb
      refine Wa.iconst (v := 0) d_SI_isSame_364 rfl ?_
      exact Wx.retz d_SI_isSame_365 rfl (Or.inl rfl) hF
set_option maxHeartbeats 4000000 in
set_option maxRecDepth 20000 in
theorem r_SI_isSame_388 {d rc rs : Nat} {Q : Option Value → Mu → Prop} {μ : Mu} {a0 : Nat} {a1 : Nat} {x2 : Int32} {x3 : Int32} (hD : 1 ≤ d)
    (hF : ((x3 < 0 → Wx K_SI_isSame d rc rs Q 645 [(0, .ref a0), (1, .ref a1), (2, .int x2), (3, .int 1), (4, .int 1)] [] μ) ∧ (¬ x3 < 0 → Wx K_SI_isSame d rc rs Q 401 [(0, .ref a0), (1, .ref a1), (2, .int x2), (3, .int x3), (4, .int 0), (5, .int 0), (6, .int 0)] [] μ))) : Wx K_SI_isSame d rc rs Q 388 [(0, .ref a0), (1, .ref a1), (2, .int x2), (3, .int x3)] [] μ := by
  refine Wa.iload_n (j := 3) d_SI_isSame_388 rfl ?_
  refine Wa.if_lt 640 d_SI_isSame_389 (by decide) (fun hb => ?_) (fun hb => ?_)
  · have hF := hF.1 hb
    refine Wa.iconst (v := 1) d_SI_isSame_640 rfl ?_
    refine Wa.istore_n (i := 3) (L' := [(3, .int 1), (0, .ref a0), (1, .ref a1), (2, .int x2)]) d_SI_isSame_641 rfl (by decide) rfl ?_
    refine Wa.iconst (v := 1) d_SI_isSame_642 rfl ?_
    refine Wa.istore (i := 4) (L' := [(4, .int 1), (3, .int 1), (0, .ref a0), (1, .ref a1), (2, .int x2)]) d_SI_isSame_643 (by decide) rfl ?_
    exact Wa.loc [2, 3, 4, 1, 0] rfl hF
  · have hF := hF.2 hb
    refine Wa.iconst (v := 0) d_SI_isSame_392 rfl ?_
    refine Wa.istore (i := 4) (L' := [(4, .int 0), (0, .ref a0), (1, .ref a1), (2, .int x2), (3, .int x3)]) d_SI_isSame_393 (by decide) rfl ?_
    refine Wa.iconst (v := 0) d_SI_isSame_395 rfl ?_
    refine Wa.istore (i := 5) (L' := [(5, .int 0), (4, .int 0), (0, .ref a0), (1, .ref a1), (2, .int x2), (3, .int x3)]) d_SI_isSame_396 (by decide) rfl ?_
    refine Wa.iconst (v := 0) d_SI_isSame_398 rfl ?_
    refine Wa.istore (i := 6) (L' := [(6, .int 0), (5, .int 0), (4, .int 0), (0, .ref a0), (1, .ref a1), (2, .int x2), (3, .int x3)]) d_SI_isSame_399 (by decide) rfl ?_
    exact Wa.loc [3, 4, 5, 6, 2, 1, 0] rfl hF
set_option maxHeartbeats 4000000 in
set_option maxRecDepth 20000 in
theorem r_SI_isSame_401 {d rc rs : Nat} {Q : Option Value → Mu → Prop} {μ : Mu} {a0 : Nat} {a1 : Nat} {x2 : Int32} {x3 : Int32} {x4 : Int32} {x5 : Int32} {x6 : Int32} (hD : 1 ≤ d)
    (hF : (mS μ a0 = (1, 11) ∧ (((gI μ a0 4) ≤ x6 → (mS μ a0 = (1, 11) ∧ (((gI μ a0 4) ≤ x4 → Wx K_SI_isSame d rc rs Q 498 [(0, .ref a0), (1, .ref a1), (3, .int x3), (4, .int x4), (5, .int x5)] [.int x2] μ) ∧ (¬ (gI μ a0 4) ≤ x4 → Wx K_SI_isSame d rc rs Q 498 [(0, .ref a0), (1, .ref a1), (3, .int x3), (4, .int x4), (5, .int x5)] [.int x3] μ)))) ∧ (¬ (gI μ a0 4) ≤ x6 → (mS μ a0 = (1, 11) ∧ (∃ b4, gR μ a0 8 = some b4 ∧ (∃ n6, (mS μ b4 = (41, n6) ∧ vp_in x6 n6) ∧ (∃ b8, gR μ b4 x6.toNatClampNeg = some b8 ∧ (∃ n10, (mS μ b8 = (5, n10) ∧ vp_in x3 n10) ∧ (((gI μ b8 x3.toNatClampNeg) = 0 → (mS μ a0 = (1, 11) ∧ (∃ b13, gR μ a0 9 = some b13 ∧ (∃ n15, (mS μ b13 = (41, n15) ∧ vp_in x6 n15) ∧ (∃ b17, gR μ b13 x6.toNatClampNeg = some b17 ∧ (∃ n19, (mS μ b17 = (5, n19) ∧ vp_in x3 n19) ∧ (((gI μ b17 x3.toNatClampNeg) = 0 → Wx K_SI_isSame d rc rs Q 451 [(0, .ref a0), (1, .ref a1), (2, .int x2), (3, .int x3), (4, .int (x4 + (0 : Int32))), (6, .int x6)] [.int 0, .int x5] μ) ∧ (¬ (gI μ b17 x3.toNatClampNeg) = 0 → Wx K_SI_isSame d rc rs Q 451 [(0, .ref a0), (1, .ref a1), (2, .int x2), (3, .int x3), (4, .int (x4 + (0 : Int32))), (6, .int x6)] [.int 1, .int x5] μ)))))))) ∧ (¬ (gI μ b8 x3.toNatClampNeg) = 0 → (mS μ a0 = (1, 11) ∧ (∃ b22, gR μ a0 9 = some b22 ∧ (∃ n24, (mS μ b22 = (41, n24) ∧ vp_in x6 n24) ∧ (∃ b26, gR μ b22 x6.toNatClampNeg = some b26 ∧ (∃ n28, (mS μ b26 = (5, n28) ∧ vp_in x3 n28) ∧ (((gI μ b26 x3.toNatClampNeg) = 0 → Wx K_SI_isSame d rc rs Q 451 [(0, .ref a0), (1, .ref a1), (2, .int x2), (3, .int x3), (4, .int (x4 + (1 : Int32))), (6, .int x6)] [.int 0, .int x5] μ) ∧ (¬ (gI μ b26 x3.toNatClampNeg) = 0 → Wx K_SI_isSame d rc rs Q 451 [(0, .ref a0), (1, .ref a1), (2, .int x2), (3, .int x3), (4, .int (x4 + (1 : Int32))), (6, .int x6)] [.int 1, .int x5] μ)))))))))))))))))) : Wx K_SI_isSame d rc rs Q 401 [(0, .ref a0), (1, .ref a1), (2, .int x2), (3, .int x3), (4, .int x4), (5, .int x5), (6, .int x6)] [] μ := by
  refine Wa.iload (j := 6) d_SI_isSame_401 rfl ?_
  refine Wa.aload_n (j := 0) d_SI_isSame_403 rfl ?_
  have hc1 := hF.1
  have hF := hF.2
  refine Wr.getI 11 4 d_SI_isSame_404 f_SI_4 fl_SI_30 hc1 ?_
  refine Wa.icmp_ge 484 d_SI_isSame_407 (by decide) (fun hb => ?_) (fun hb => ?_)
  · have hF := hF.1 hb
    refine Wa.iload (j := 4) d_SI_isSame_484 rfl ?_
    refine Wa.aload_n (j := 0) d_SI_isSame_486 rfl ?_
    have hc2 := hF.1
    have hF := hF.2
    refine Wr.getI 11 4 d_SI_isSame_487 f_SI_4 fl_SI_30 hc2 ?_
    refine Wa.icmp_ge 497 d_SI_isSame_490 (by decide) (fun hb => ?_) (fun hb => ?_)
    · have hF := hF.1 hb
      refine Wa.iload_n (j := 2) d_SI_isSame_497 rfl ?_
      exact Wa.loc [0, 1, 3, 4, 5] rfl hF
    · have hF := hF.2 hb
      refine Wa.iload_n (j := 3) d_SI_isSame_493 rfl ?_
      refine Wa.goto 498 d_SI_isSame_494 (by decide) ?_
      exact Wa.loc [0, 1, 3, 4, 5] rfl hF
  · have hF := hF.2 hb
    refine Wa.iload (j := 4) d_SI_isSame_410 rfl ?_
    refine Wa.aload_n (j := 0) d_SI_isSame_412 rfl ?_
    have hc3 := hF.1
    have hF := hF.2
    obtain ⟨b4, hc5, hF⟩ := hF
    refine Wr.getR 11 8 d_SI_isSame_413 f_SI_8 rfl fl_SI_38 hc3 hc5 ?_
    refine Wa.iload (j := 6) d_SI_isSame_416 rfl ?_
    obtain ⟨n6, hc7, hF⟩ := hF
    obtain ⟨b8, hc9, hF⟩ := hF
    refine Wa.aaldA ct_le d_SI_isSame_418 (Or.inr rfl) hc7.1 hc7.2 hc9 ?_
    refine Wa.iload_n (j := 3) d_SI_isSame_419 rfl ?_
    obtain ⟨n10, hc11, hF⟩ := hF
    refine Wa.zald d_SI_isSame_420 hc11.1 hc11.2 ?_
    refine Wa.if_eq 428 d_SI_isSame_421 (by decide) (fun hb => ?_) (fun hb => ?_)
    · have hF := hF.1 hb
      refine Wa.iconst (v := 0) d_SI_isSame_428 rfl ?_
      refine Wa.iadd d_SI_isSame_429 ?_
      refine Wa.istore (i := 4) (L' := [(4, .int (x4 + (0 : Int32))), (0, .ref a0), (1, .ref a1), (2, .int x2), (3, .int x3), (5, .int x5), (6, .int x6)]) d_SI_isSame_430 (by decide) rfl ?_
      refine Wa.iload (j := 5) d_SI_isSame_432 rfl ?_
      refine Wa.aload_n (j := 1) d_SI_isSame_434 rfl ?_
      have hc12 := hF.1
      have hF := hF.2
      obtain ⟨b13, hc14, hF⟩ := hF
      refine Wr.getR 11 9 d_SI_isSame_435 f_SI_9 rfl fl_SI_41 hc12 hc14 ?_
      refine Wa.iload (j := 6) d_SI_isSame_438 rfl ?_
      obtain ⟨n15, hc16, hF⟩ := hF
      obtain ⟨b17, hc18, hF⟩ := hF
      refine Wa.aaldA ct_le d_SI_isSame_440 (Or.inr rfl) hc16.1 hc16.2 hc18 ?_
      refine Wa.iload_n (j := 4) d_SI_isSame_441 rfl ?_
      obtain ⟨n19, hc20, hF⟩ := hF
      refine Wa.zald d_SI_isSame_442 hc20.1 hc20.2 ?_
      refine Wa.if_eq 450 d_SI_isSame_443 (by decide) (fun hb => ?_) (fun hb => ?_)
      · have hF := hF.1 hb
        refine Wa.iconst (v := 0) d_SI_isSame_450 rfl ?_
        exact Wa.loc [1, 2, 3, 4, 0, 6] rfl hF
      · have hF := hF.2 hb
        refine Wa.iconst (v := 1) d_SI_isSame_446 rfl ?_
        refine Wa.goto 451 d_SI_isSame_447 (by decide) ?_
        exact Wa.loc [1, 2, 3, 4, 0, 6] rfl hF
    · have hF := hF.2 hb
      refine Wa.iconst (v := 1) d_SI_isSame_424 rfl ?_
      refine Wa.goto 429 d_SI_isSame_425 (by decide) ?_
      refine Wa.iadd d_SI_isSame_429 ?_
      refine Wa.istore (i := 4) (L' := [(4, .int (x4 + (1 : Int32))), (0, .ref a0), (1, .ref a1), (2, .int x2), (3, .int x3), (5, .int x5), (6, .int x6)]) d_SI_isSame_430 (by decide) rfl ?_
      refine Wa.iload (j := 5) d_SI_isSame_432 rfl ?_
      refine Wa.aload_n (j := 1) d_SI_isSame_434 rfl ?_
      have hc21 := hF.1
      have hF := hF.2
      obtain ⟨b22, hc23, hF⟩ := hF
      refine Wr.getR 11 9 d_SI_isSame_435 f_SI_9 rfl fl_SI_41 hc21 hc23 ?_
      refine Wa.iload (j := 6) d_SI_isSame_438 rfl ?_
      obtain ⟨n24, hc25, hF⟩ := hF
      obtain ⟨b26, hc27, hF⟩ := hF
      refine Wa.aaldA ct_le d_SI_isSame_440 (Or.inr rfl) hc25.1 hc25.2 hc27 ?_
      refine Wa.iload_n (j := 4) d_SI_isSame_441 rfl ?_
      obtain ⟨n28, hc29, hF⟩ := hF
      refine Wa.zald d_SI_isSame_442 hc29.1 hc29.2 ?_
      refine Wa.if_eq 450 d_SI_isSame_443 (by decide) (fun hb => ?_) (fun hb => ?_)
      · have hF := hF.1 hb
        refine Wa.iconst (v := 0) d_SI_isSame_450 rfl ?_
        exact Wa.loc [1, 2, 3, 4, 0, 6] rfl hF
      · have hF := hF.2 hb
        refine Wa.iconst (v := 1) d_SI_isSame_446 rfl ?_
        refine Wa.goto 451 d_SI_isSame_447 (by decide) ?_
        exact Wa.loc [1, 2, 3, 4, 0, 6] rfl hF
set_option maxHeartbeats 4000000 in
set_option maxRecDepth 20000 in
theorem r_SI_isSame_451 {d rc rs : Nat} {Q : Option Value → Mu → Prop} {μ : Mu} {a0 : Nat} {a1 : Nat} {x2 : Int32} {x3 : Int32} {x4 : Int32} {x6 : Int32} {z0 : Int32} {z1 : Int32} (hD : 1 ≤ d)
    (hF : (∃ cc1 ss2 : Nat, (cc1 ≤ rc ∧ ss2 ≤ rs) ∧ (mS μ a1 = (1, 0) ∧ Cal K_PB_stamp (d - 1) cc1 ss2 [.ref a1, .int x3, .int x6] μ (fun r μ4 => ∃ y6, r = some (.int y6) ∧ (mS μ4 a0 = (1, 11) ∧ (∃ b8, gR μ4 a0 7 = some b8 ∧ (∃ n10, (mS μ4 b8 = (41, n10) ∧ vp_in x3 n10) ∧ (∃ b12, gR μ4 b8 x3.toNatClampNeg = some b12 ∧ (mS μ4 a0 = (1, 11) ∧ Cal K_SI_of (d - 1) 0 0 [.ref a0, .ref b12, .int x6] μ4 (fun r μ14 => ∃ y16, r = some (.int y16) ∧ ((y6 = y16 → Wx K_SI_isSame d (rc - cc1 - 0) (rs - ss2 - 0) Q 401 [(0, .ref a0), (1, .ref a1), (2, .int x2), (3, .int x3), (4, .int x4), (5, .int (z1 + z0)), (6, .int (x6 + 1))] [] μ14) ∧ (¬ y6 = y16 → Q (some (.int 0)) μ14)))))))))))) : Wx K_SI_isSame d rc rs Q 451 [(0, .ref a0), (1, .ref a1), (2, .int x2), (3, .int x3), (4, .int x4), (6, .int x6)] [.int z0, .int z1] μ := by
  refine Wa.iadd d_SI_isSame_451 ?_
  refine Wa.istore (i := 5) (L' := [(5, .int (z1 + z0)), (0, .ref a0), (1, .ref a1), (2, .int x2), (3, .int x3), (4, .int x4), (6, .int x6)]) d_SI_isSame_452 (by decide) rfl ?_
  refine Wa.aload_n (j := 2) d_SI_isSame_454 rfl ?_
  refine Wa.iload_n (j := 4) d_SI_isSame_455 rfl ?_
  refine Wa.iload (j := 6) d_SI_isSame_456 rfl ?_
  obtain ⟨cc1, ss2, hc3, hF⟩ := hF
  have hc5 := hF.1
  have hF := hF.2
  refine Wx.cVi (q := E_PB) (As := [.int x3, .int x6]) 0 (d - 1) cc1 ss2 _ d_SI_isSame_458 mok_PB_stamp vl_SI_163 rfl rfl rfl (Nat.le_of_ble_eq_true rfl) (by omega) hc3.1 hc3.2 hc5 hF (fun y6 μ4 hS hF => ?_)
  refine Wa.aload_n (j := 1) d_SI_isSame_461 rfl ?_
  refine Wa.aload_n (j := 1) d_SI_isSame_462 rfl ?_
  have hc7 := hF.1
  have hF := hF.2
  obtain ⟨b8, hc9, hF⟩ := hF
  refine Wr.getR 11 7 d_SI_isSame_463 f_SI_7 rfl fl_SI_17 hc7 hc9 ?_
  refine Wa.iload_n (j := 4) d_SI_isSame_466 rfl ?_
  obtain ⟨n10, hc11, hF⟩ := hF
  obtain ⟨b12, hc13, hF⟩ := hF
  refine Wa.aaldA ct_le d_SI_isSame_467 (Or.inr rfl) hc11.1 hc11.2 hc13 ?_
  refine Wa.iload (j := 6) d_SI_isSame_468 rfl ?_
  have hc15 := hF.1
  have hF := hF.2
  refine Wx.cVi (q := E_SI) (As := [.ref b12, .int x6]) 11 (d - 1) 0 0 _ d_SI_isSame_470 mok_SI_of vl_SI_159 rfl rfl rfl (Nat.le_of_ble_eq_true rfl) (by omega) (Nat.zero_le _) (Nat.zero_le _) hc15 hF (fun y16 μ14 hS hF => ?_)
  refine Wa.icmp_eq 478 d_SI_isSame_473 (by decide) (fun hb => ?_) (fun hb => ?_)
  · have hF := hF.1 hb
    refine Wa.iinc (i := 6) (j := 6) (v := (x6 + 1)) (L' := [(6, .int (x6 + 1)), (5, .int (z1 + z0)), (0, .ref a0), (1, .ref a1), (2, .int x2), (3, .int x3), (4, .int x4)]) d_SI_isSame_478 rfl rfl (by decide) rfl ?_
    refine Wa.goto 401 d_SI_isSame_481 (by decide) ?_
    exact Wa.loc [2, 3, 4, 5, 6, 1, 0] rfl hF
  · have hF := hF.2 hb
    refine Wa.iconst (v := 0) d_SI_isSame_476 rfl ?_
    exact Wx.retz d_SI_isSame_477 rfl (Or.inl rfl) hF
set_option maxHeartbeats 4000000 in
set_option maxRecDepth 20000 in
theorem r_SI_isSame_498 {d rc rs : Nat} {Q : Option Value → Mu → Prop} {μ : Mu} {a0 : Nat} {a1 : Nat} {x3 : Int32} {x4 : Int32} {x5 : Int32} {z0 : Int32} (hD : 1 ≤ d)
    (hF : Wx K_SI_isSame d rc rs Q 502 [(0, .ref a0), (1, .ref a1), (2, .int z0), (3, .int x3), (4, .int x4), (5, .int x5), (6, .int 0)] [] μ) : Wx K_SI_isSame d rc rs Q 498 [(0, .ref a0), (1, .ref a1), (3, .int x3), (4, .int x4), (5, .int x5)] [.int z0] μ := by
  refine Wa.istore_n (i := 2) (L' := [(2, .int z0), (0, .ref a0), (1, .ref a1), (3, .int x3), (4, .int x4), (5, .int x5)]) d_SI_isSame_498 rfl (by decide) rfl ?_
  refine Wa.iconst (v := 0) d_SI_isSame_499 rfl ?_
  refine Wa.istore (i := 6) (L' := [(6, .int 0), (2, .int z0), (0, .ref a0), (1, .ref a1), (3, .int x3), (4, .int x4), (5, .int x5)]) d_SI_isSame_500 (by decide) rfl ?_
  exact Wa.loc [2, 3, 1, 4, 5, 6, 0] rfl hF
set_option maxHeartbeats 4000000 in
set_option maxRecDepth 20000 in
theorem r_SI_isSame_502 {d rc rs : Nat} {Q : Option Value → Mu → Prop} {μ : Mu} {a0 : Nat} {a1 : Nat} {x2 : Int32} {x3 : Int32} {x4 : Int32} {x5 : Int32} {x6 : Int32} (hD : 1 ≤ d)
    (hF : ((6 ≤ x6 → (∃ cc1 ss2 : Nat, (cc1 ≤ rc ∧ ss2 ≤ rs) ∧ (mS μ a1 = (1, 0) ∧ Cal K_PB_sheet (d - 1) cc1 ss2 [.ref a1, .int x3, .int 6] μ (fun r μ4 => ∃ y6, r = some (.int y6) ∧ ((y6 = x4 → (∃ cc7 ss8 : Nat, (cc7 ≤ rc - cc1 ∧ ss8 ≤ rs - ss2) ∧ (mS μ4 a1 = (1, 0) ∧ Cal K_PB_sheet (d - 1) cc7 ss8 [.ref a1, .int x3, .int 7] μ4 (fun r μ10 => ∃ y12, r = some (.int y12) ∧ ((y12 = x5 → (mS μ10 a0 = (1, 11) ∧ (mS μ10 a0 = (1, 11) ∧ (∃ b15, gR μ10 a0 6 = some b15 ∧ (∃ n17, mS μ10 b15 = (40, n17) ∧ (¬ (nI n17) = 0 ∧ (∃ cc20 ss21 : Nat, (cc20 ≤ rc - cc1 - cc7 ∧ ss21 ≤ rs - ss2 - ss8) ∧ (mS μ10 a1 = (1, 0) ∧ Cal K_PB_compare (d - 1) cc20 ss21 [.ref a1, .int x3, .int ((((7 : Int32) * x3) + (gI μ10 a0 0)) - (((7 : Int32) * x3) + (gI μ10 a0 0)) / (nI n17) * (nI n17))] μ10 (fun r μ23 => ∃ y25, r = some (.int y25) ∧ ((x3 = ((((7 : Int32) * x3) + (gI μ10 a0 0)) - (((7 : Int32) * x3) + (gI μ10 a0 0)) / (nI n17) * (nI n17)) → Wx K_SI_isSame d (rc - cc1 - cc7 - cc20) (rs - ss2 - ss8 - ss21) Q 629 [(0, .ref a0), (1, .ref a1), (2, .int x2), (3, .int x3)] [.int 0, .int y25] μ23) ∧ (¬ x3 = ((((7 : Int32) * x3) + (gI μ10 a0 0)) - (((7 : Int32) * x3) + (gI μ10 a0 0)) / (nI n17) * (nI n17)) → (mS μ23 a0 = (1, 11) ∧ (∃ b27, gR μ23 a0 7 = some b27 ∧ (∃ n29, (mS μ23 b27 = (41, n29) ∧ vp_in ((((7 : Int32) * x3) + (gI μ10 a0 0)) - (((7 : Int32) * x3) + (gI μ10 a0 0)) / (nI n17) * (nI n17)) n29) ∧ (∃ b31, gR μ23 b27 ((((7 : Int32) * x3) + (gI μ10 a0 0)) - (((7 : Int32) * x3) + (gI μ10 a0 0)) / (nI n17) * (nI n17)).toNatClampNeg = some b31 ∧ (∃ n33, (mS μ23 b31 = (5, n33) ∧ vp_in x3 n33) ∧ (((gI μ23 b31 x3.toNatClampNeg) = 0 → (mS μ23 a0 = (1, 11) ∧ (∃ b36, gR μ23 a0 7 = some b36 ∧ (∃ n38, (mS μ23 b36 = (41, n38) ∧ vp_in x3 n38) ∧ (∃ b40, gR μ23 b36 x3.toNatClampNeg = some b40 ∧ (∃ n42, (mS μ23 b40 = (5, n42) ∧ vp_in ((((7 : Int32) * x3) + (gI μ10 a0 0)) - (((7 : Int32) * x3) + (gI μ10 a0 0)) / (nI n17) * (nI n17)) n42) ∧ (((gI μ23 b40 ((((7 : Int32) * x3) + (gI μ10 a0 0)) - (((7 : Int32) * x3) + (gI μ10 a0 0)) / (nI n17) * (nI n17)).toNatClampNeg) = 0 → Wx K_SI_isSame d (rc - cc1 - cc7 - cc20) (rs - ss2 - ss8 - ss21) Q 629 [(0, .ref a0), (1, .ref a1), (2, .int x2), (3, .int x3)] [.int 3, .int y25] μ23) ∧ (¬ (gI μ23 b40 ((((7 : Int32) * x3) + (gI μ10 a0 0)) - (((7 : Int32) * x3) + (gI μ10 a0 0)) / (nI n17) * (nI n17)).toNatClampNeg) = 0 → Wx K_SI_isSame d (rc - cc1 - cc7 - cc20) (rs - ss2 - ss8 - ss21) Q 629 [(0, .ref a0), (1, .ref a1), (2, .int x2), (3, .int x3)] [.int 2, .int y25] μ23)))))))) ∧ (¬ (gI μ23 b31 x3.toNatClampNeg) = 0 → Wx K_SI_isSame d (rc - cc1 - cc7 - cc20) (rs - ss2 - ss8 - ss21) Q 629 [(0, .ref a0), (1, .ref a1), (2, .int x2), (3, .int x3)] [.int 1, .int y25] μ23)))))))))))))))))) ∧ (¬ y12 = x5 → Wx K_SI_isSame d (rc - cc1 - cc7) (rs - ss2 - ss8) Q 560 [] [] μ10)))))) ∧ (¬ y6 = x4 → Wx K_SI_isSame d (rc - cc1) (rs - ss2) Q 560 [] [] μ4)))))) ∧ (¬ 6 ≤ x6 → (∃ cc44 ss45 : Nat, (cc44 ≤ rc ∧ ss45 ≤ rs) ∧ (mS μ a1 = (1, 0) ∧ Cal K_PB_sheet (d - 1) cc44 ss45 [.ref a1, .int x3, .int x6] μ (fun r μ47 => ∃ y49, r = some (.int y49) ∧ (mS μ47 a0 = (1, 11) ∧ (∃ b51, gR μ47 a0 6 = some b51 ∧ (∃ n53, (mS μ47 b51 = (40, n53) ∧ vp_in x3 n53) ∧ (∃ b55, gR μ47 b51 x3.toNatClampNeg = some b55 ∧ (∃ n57, (mS μ47 b55 = (2, n57) ∧ vp_in x6 n57) ∧ ((y49 = (gI μ47 b55 x6.toNatClampNeg) → Wx K_SI_isSame d (rc - cc44) (rs - ss45) Q 502 [(0, .ref a0), (1, .ref a1), (2, .int x2), (3, .int x3), (4, .int x4), (5, .int x5), (6, .int (x6 + 1))] [] μ47) ∧ (¬ y49 = (gI μ47 b55 x6.toNatClampNeg) → Q (some (.int 0)) μ47))))))))))))) : Wx K_SI_isSame d rc rs Q 502 [(0, .ref a0), (1, .ref a1), (2, .int x2), (3, .int x3), (4, .int x4), (5, .int x5), (6, .int x6)] [] μ := by
  refine Wa.iload (j := 6) d_SI_isSame_502 rfl ?_
  refine Wa.bipush (v := 6) d_SI_isSame_504 rfl ?_
  refine Wa.icmp_ge 536 d_SI_isSame_506 (by decide) (fun hb => ?_) (fun hb => ?_)
  · have hF := hF.1 hb
    refine Wa.aload_n (j := 1) d_SI_isSame_536 rfl ?_
    refine Wa.iload_n (j := 3) d_SI_isSame_537 rfl ?_
    refine Wa.bipush (v := 6) d_SI_isSame_538 rfl ?_
    obtain ⟨cc1, ss2, hc3, hF⟩ := hF
    have hc5 := hF.1
    have hF := hF.2
    refine Wx.cVi (q := E_PB) (As := [.int x3, .int 6]) 0 (d - 1) cc1 ss2 _ d_SI_isSame_540 mok_PB_sheet vl_SI_166 rfl rfl rfl (Nat.le_of_ble_eq_true rfl) (by omega) hc3.1 hc3.2 hc5 hF (fun y6 μ4 hS hF => ?_)
    refine Wa.iload (j := 4) d_SI_isSame_543 rfl ?_
    refine Wa.icmp_ne 560 d_SI_isSame_545 (by decide) (fun hb => ?_) (fun hb => ?_)
    · have hF := hF.2 hb
      exact Wa.loc [] rfl hF
    · have hF := hF.1 hb
      refine Wa.aload_n (j := 1) d_SI_isSame_548 rfl ?_
      refine Wa.iload_n (j := 3) d_SI_isSame_549 rfl ?_
      refine Wa.bipush (v := 7) d_SI_isSame_550 rfl ?_
      obtain ⟨cc7, ss8, hc9, hF⟩ := hF
      have hc11 := hF.1
      have hF := hF.2
      refine Wx.cVi (q := E_PB) (As := [.int x3, .int 7]) 0 (d - 1) cc7 ss8 _ d_SI_isSame_552 mok_PB_sheet vl_SI_166 rfl rfl rfl (Nat.le_of_ble_eq_true rfl) (by omega) hc9.1 hc9.2 hc11 hF (fun y12 μ10 hS hF => ?_)
      refine Wa.iload (j := 5) d_SI_isSame_555 rfl ?_
      refine Wa.icmp_eq 562 d_SI_isSame_557 (by decide) (fun hb => ?_) (fun hb => ?_)
      · have hF := hF.1 hb
        refine Wa.bipush (v := 7) d_SI_isSame_562 rfl ?_
        refine Wa.iload_n (j := 3) d_SI_isSame_564 rfl ?_
        refine Wa.imul d_SI_isSame_565 ?_
        refine Wa.aload_n (j := 0) d_SI_isSame_566 rfl ?_
        have hc13 := hF.1
        have hF := hF.2
        refine Wr.getI 11 0 d_SI_isSame_567 f_SI_0 fl_SI_52 hc13 ?_
        refine Wa.iadd d_SI_isSame_570 ?_
        refine Wa.aload_n (j := 0) d_SI_isSame_571 rfl ?_
        have hc14 := hF.1
        have hF := hF.2
        obtain ⟨b15, hc16, hF⟩ := hF
        refine Wr.getR 11 6 d_SI_isSame_572 f_SI_6 rfl fl_SI_9 hc14 hc16 ?_
        obtain ⟨n17, hc18, hF⟩ := hF
        refine Wa.alen d_SI_isSame_575 hc18 (by decide) ?_
        have hc19 := hF.1
        have hF := hF.2
        refine Wa.irem d_SI_isSame_576 hc19 ?_
        refine Wa.istore (i := 6) (L' := [(6, .int ((((7 : Int32) * x3) + (gI μ10 a0 0)) - (((7 : Int32) * x3) + (gI μ10 a0 0)) / (nI n17) * (nI n17))), (0, .ref a0), (1, .ref a1), (2, .int x2), (3, .int x3), (4, .int x4), (5, .int x5)]) d_SI_isSame_577 (by decide) rfl ?_
        refine Wa.aload_n (j := 2) d_SI_isSame_579 rfl ?_
        refine Wa.iload_n (j := 4) d_SI_isSame_580 rfl ?_
        refine Wa.iload (j := 0) d_SI_isSame_581 rfl ?_
        obtain ⟨cc20, ss21, hc22, hF⟩ := hF
        have hc24 := hF.1
        have hF := hF.2
        refine Wx.cVi (q := E_PB) (As := [.int x3, .int ((((7 : Int32) * x3) + (gI μ10 a0 0)) - (((7 : Int32) * x3) + (gI μ10 a0 0)) / (nI n17) * (nI n17))]) 0 (d - 1) cc20 ss21 _ d_SI_isSame_583 mok_PB_compare vl_SI_169 rfl rfl rfl (Nat.le_of_ble_eq_true rfl) (by omega) hc22.1 hc22.2 hc24 hF (fun y25 μ23 hS hF => ?_)
        refine Wa.iload_n (j := 4) d_SI_isSame_586 rfl ?_
        refine Wa.iload (j := 0) d_SI_isSame_587 rfl ?_
        refine Wa.icmp_ne 596 d_SI_isSame_589 (by decide) (fun hb => ?_) (fun hb => ?_)
        · have hF := hF.2 hb
          refine Wa.aload_n (j := 1) d_SI_isSame_596 rfl ?_
          have hc26 := hF.1
          have hF := hF.2
          obtain ⟨b27, hc28, hF⟩ := hF
          refine Wr.getR 11 7 d_SI_isSame_597 f_SI_7 rfl fl_SI_17 hc26 hc28 ?_
          refine Wa.iload (j := 0) d_SI_isSame_600 rfl ?_
          obtain ⟨n29, hc30, hF⟩ := hF
          obtain ⟨b31, hc32, hF⟩ := hF
          refine Wa.aaldA ct_le d_SI_isSame_602 (Or.inr rfl) hc30.1 hc30.2 hc32 ?_
          refine Wa.iload_n (j := 4) d_SI_isSame_603 rfl ?_
          obtain ⟨n33, hc34, hF⟩ := hF
          refine Wa.zald d_SI_isSame_604 hc34.1 hc34.2 ?_
          refine Wa.if_eq 612 d_SI_isSame_605 (by decide) (fun hb => ?_) (fun hb => ?_)
          · have hF := hF.1 hb
            refine Wa.aload_n (j := 1) d_SI_isSame_612 rfl ?_
            have hc35 := hF.1
            have hF := hF.2
            obtain ⟨b36, hc37, hF⟩ := hF
            refine Wr.getR 11 7 d_SI_isSame_613 f_SI_7 rfl fl_SI_17 hc35 hc37 ?_
            refine Wa.iload_n (j := 4) d_SI_isSame_616 rfl ?_
            obtain ⟨n38, hc39, hF⟩ := hF
            obtain ⟨b40, hc41, hF⟩ := hF
            refine Wa.aaldA ct_le d_SI_isSame_617 (Or.inr rfl) hc39.1 hc39.2 hc41 ?_
            refine Wa.iload (j := 0) d_SI_isSame_618 rfl ?_
            obtain ⟨n42, hc43, hF⟩ := hF
            refine Wa.zald d_SI_isSame_620 hc43.1 hc43.2 ?_
            refine Wa.if_eq 628 d_SI_isSame_621 (by decide) (fun hb => ?_) (fun hb => ?_)
            · have hF := hF.1 hb
              refine Wa.iconst (v := 3) d_SI_isSame_628 rfl ?_
              exact Wa.loc [1, 2, 3, 4] rfl hF
            · have hF := hF.2 hb
              refine Wa.iconst (v := 2) d_SI_isSame_624 rfl ?_
              refine Wa.goto 629 d_SI_isSame_625 (by decide) ?_
              exact Wa.loc [1, 2, 3, 4] rfl hF
          · have hF := hF.2 hb
            refine Wa.iconst (v := 1) d_SI_isSame_608 rfl ?_
            refine Wa.goto 629 d_SI_isSame_609 (by decide) ?_
            exact Wa.loc [1, 2, 3, 4] rfl hF
        · have hF := hF.1 hb
          refine Wa.iconst (v := 0) d_SI_isSame_592 rfl ?_
          refine Wa.goto 629 d_SI_isSame_593 (by decide) ?_
          exact Wa.loc [1, 2, 3, 4] rfl hF
      · have hF := hF.2 hb
        exact Wa.loc [] rfl hF
  · have hF := hF.2 hb
    refine Wa.aload_n (j := 1) d_SI_isSame_509 rfl ?_
    refine Wa.iload_n (j := 3) d_SI_isSame_510 rfl ?_
    refine Wa.iload (j := 6) d_SI_isSame_511 rfl ?_
    obtain ⟨cc44, ss45, hc46, hF⟩ := hF
    have hc48 := hF.1
    have hF := hF.2
    refine Wx.cVi (q := E_PB) (As := [.int x3, .int x6]) 0 (d - 1) cc44 ss45 _ d_SI_isSame_513 mok_PB_sheet vl_SI_166 rfl rfl rfl (Nat.le_of_ble_eq_true rfl) (by omega) hc46.1 hc46.2 hc48 hF (fun y49 μ47 hS hF => ?_)
    refine Wa.aload_n (j := 0) d_SI_isSame_516 rfl ?_
    have hc50 := hF.1
    have hF := hF.2
    obtain ⟨b51, hc52, hF⟩ := hF
    refine Wr.getR 11 6 d_SI_isSame_517 f_SI_6 rfl fl_SI_9 hc50 hc52 ?_
    refine Wa.iload_n (j := 3) d_SI_isSame_520 rfl ?_
    obtain ⟨n53, hc54, hF⟩ := hF
    obtain ⟨b55, hc56, hF⟩ := hF
    refine Wa.aaldA ct_le d_SI_isSame_521 (Or.inl rfl) hc54.1 hc54.2 hc56 ?_
    refine Wa.iload (j := 6) d_SI_isSame_522 rfl ?_
    obtain ⟨n57, hc58, hF⟩ := hF
    refine Wa.iald d_SI_isSame_524 hc58.1 hc58.2 ?_
    refine Wa.icmp_eq 530 d_SI_isSame_525 (by decide) (fun hb => ?_) (fun hb => ?_)
    · have hF := hF.1 hb
      refine Wa.iinc (i := 6) (j := 6) (v := (x6 + 1)) (L' := [(6, .int (x6 + 1)), (0, .ref a0), (1, .ref a1), (2, .int x2), (3, .int x3), (4, .int x4), (5, .int x5)]) d_SI_isSame_530 rfl rfl (by decide) rfl ?_
      refine Wa.goto 502 d_SI_isSame_533 (by decide) ?_
      exact Wa.loc [1, 2, 3, 4, 5, 6, 0] rfl hF
    · have hF := hF.2 hb
      refine Wa.iconst (v := 0) d_SI_isSame_528 rfl ?_
      exact Wx.retz d_SI_isSame_529 rfl (Or.inl rfl) hF
set_option maxHeartbeats 4000000 in
set_option maxRecDepth 20000 in
theorem r_SI_isSame_560 {d rc rs : Nat} {Q : Option Value → Mu → Prop} {μ : Mu}  (hD : 1 ≤ d)
    (hF : Q (some (.int 0)) μ) : Wx K_SI_isSame d rc rs Q 560 [] [] μ := by
  refine Wa.iconst (v := 0) d_SI_isSame_560 rfl ?_
  exact Wx.retz d_SI_isSame_561 rfl (Or.inl rfl) hF
set_option maxHeartbeats 4000000 in
set_option maxRecDepth 20000 in
theorem r_SI_isSame_629 {d rc rs : Nat} {Q : Option Value → Mu → Prop} {μ : Mu} {a0 : Nat} {a1 : Nat} {x2 : Int32} {x3 : Int32} {z0 : Int32} {z1 : Int32} (hD : 1 ≤ d)
    (hF : ((z1 = z0 → Wx K_SI_isSame d rc rs Q 388 [(0, .ref a0), (1, .ref a1), (2, .int x2), (3, .int (x3 + (-1)))] [] μ) ∧ (¬ z1 = z0 → Q (some (.int 0)) μ))) : Wx K_SI_isSame d rc rs Q 629 [(0, .ref a0), (1, .ref a1), (2, .int x2), (3, .int x3)] [.int z0, .int z1] μ := by
  refine Wa.icmp_eq 634 d_SI_isSame_629 (by decide) (fun hb => ?_) (fun hb => ?_)
  · have hF := hF.1 hb
    refine Wa.iinc (i := 3) (j := 3) (v := (x3 + (-1))) (L' := [(3, .int (x3 + (-1))), (0, .ref a0), (1, .ref a1), (2, .int x2)]) d_SI_isSame_634 rfl rfl (by decide) rfl ?_
    refine Wa.goto 388 d_SI_isSame_637 (by decide) ?_
    exact Wa.loc [1, 2, 3, 0] rfl hF
  · have hF := hF.2 hb
    refine Wa.iconst (v := 0) d_SI_isSame_632 rfl ?_
    exact Wx.retz d_SI_isSame_633 rfl (Or.inl rfl) hF
set_option maxHeartbeats 4000000 in
set_option maxRecDepth 20000 in
theorem r_SI_isSame_645 {d rc rs : Nat} {Q : Option Value → Mu → Prop} {μ : Mu} {a0 : Nat} {a1 : Nat} {x2 : Int32} {x3 : Int32} {x4 : Int32} (hD : 1 ≤ d)
    (hF : (mS μ a0 = (1, 11) ∧ (((gI μ a0 4) ≤ x4 → Wx K_SI_isSame d rc rs Q 712 [(0, .ref a0), (1, .ref a1), (2, .int x2), (3, .int x3), (4, .int 0)] [] μ) ∧ (¬ (gI μ a0 4) ≤ x4 → Wx K_SI_isSame d rc rs Q 657 [(0, .ref a0), (1, .ref a1), (2, .int x2), (3, .int x3), (4, .int x4), (5, .int 0)] [] μ)))) : Wx K_SI_isSame d rc rs Q 645 [(0, .ref a0), (1, .ref a1), (2, .int x2), (3, .int x3), (4, .int x4)] [] μ := by
  refine Wa.iload (j := 4) d_SI_isSame_645 rfl ?_
  refine Wa.aload_n (j := 0) d_SI_isSame_647 rfl ?_
  have hc1 := hF.1
  have hF := hF.2
  refine Wr.getI 11 4 d_SI_isSame_648 f_SI_4 fl_SI_30 hc1 ?_
  refine Wa.icmp_ge 709 d_SI_isSame_651 (by decide) (fun hb => ?_) (fun hb => ?_)
  · have hF := hF.1 hb
    refine Wa.iconst (v := 0) d_SI_isSame_709 rfl ?_
    refine Wa.istore (i := 4) (L' := [(4, .int 0), (0, .ref a0), (1, .ref a1), (2, .int x2), (3, .int x3)]) d_SI_isSame_710 (by decide) rfl ?_
    exact Wa.loc [1, 2, 3, 4, 0] rfl hF
  · have hF := hF.2 hb
    refine Wa.iconst (v := 0) d_SI_isSame_654 rfl ?_
    refine Wa.istore (i := 5) (L' := [(5, .int 0), (0, .ref a0), (1, .ref a1), (2, .int x2), (3, .int x3), (4, .int x4)]) d_SI_isSame_655 (by decide) rfl ?_
    exact Wa.loc [1, 2, 3, 4, 5, 0] rfl hF
set_option maxHeartbeats 4000000 in
set_option maxRecDepth 20000 in
theorem r_SI_isSame_657 {d rc rs : Nat} {Q : Option Value → Mu → Prop} {μ : Mu} {a0 : Nat} {a1 : Nat} {x2 : Int32} {x3 : Int32} {x4 : Int32} {x5 : Int32} (hD : 1 ≤ d)
    (hF : (mS μ a0 = (1, 11) ∧ (∃ b2, gR μ a0 6 = some b2 ∧ (∃ n4, mS μ b2 = (40, n4) ∧ (((nI n4) ≤ x5 → Wx K_SI_isSame d rc rs Q 645 [(0, .ref a0), (1, .ref a1), (2, .int x2), (3, .int x3), (4, .int (x4 + 1))] [] μ) ∧ (¬ (nI n4) ≤ x5 → (mS μ a0 = (1, 11) ∧ (∃ b7, gR μ a0 9 = some b7 ∧ (∃ n9, (mS μ b7 = (41, n9) ∧ vp_in x4 n9) ∧ (∃ b11, gR μ b7 x4.toNatClampNeg = some b11 ∧ (∃ n13, (mS μ b11 = (5, n13) ∧ vp_in x5 n13) ∧ (mS μ a0 = (1, 11) ∧ (∃ b16, gR μ a0 9 = some b16 ∧ (∃ n18, (mS μ b16 = (41, n18) ∧ vp_in (0 : Int32) n18) ∧ (∃ b20, gR μ b16 (0 : Int32).toNatClampNeg = some b20 ∧ (∃ n22, (mS μ b20 = (5, n22) ∧ vp_in x5 n22) ∧ (((gI μ b11 x5.toNatClampNeg) = (gI μ b20 x5.toNatClampNeg) → Wx K_SI_isSame d rc rs Q 695 [(0, .ref a0), (1, .ref a1), (2, .int x2), (4, .int x4), (5, .int x5)] [.int 1, .int x3] μ) ∧ (¬ (gI μ b11 x5.toNatClampNeg) = (gI μ b20 x5.toNatClampNeg) → Wx K_SI_isSame d rc rs Q 695 [(0, .ref a0), (1, .ref a1), (2, .int x2), (4, .int x4), (5, .int x5)] [.int 0, .int x3] μ)))))))))))))))))) : Wx K_SI_isSame d rc rs Q 657 [(0, .ref a0), (1, .ref a1), (2, .int x2), (3, .int x3), (4, .int x4), (5, .int x5)] [] μ := by
  refine Wa.iload (j := 5) d_SI_isSame_657 rfl ?_
  refine Wa.aload_n (j := 0) d_SI_isSame_659 rfl ?_
  have hc1 := hF.1
  have hF := hF.2
  obtain ⟨b2, hc3, hF⟩ := hF
  refine Wr.getR 11 6 d_SI_isSame_660 f_SI_6 rfl fl_SI_9 hc1 hc3 ?_
  obtain ⟨n4, hc5, hF⟩ := hF
  refine Wa.alen d_SI_isSame_663 hc5 (by decide) ?_
  refine Wa.icmp_ge 703 d_SI_isSame_664 (by decide) (fun hb => ?_) (fun hb => ?_)
  · have hF := hF.1 hb
    refine Wa.iinc (i := 4) (j := 4) (v := (x4 + 1)) (L' := [(4, .int (x4 + 1)), (0, .ref a0), (1, .ref a1), (2, .int x2), (3, .int x3), (5, .int x5)]) d_SI_isSame_703 rfl rfl (by decide) rfl ?_
    refine Wa.goto 645 d_SI_isSame_706 (by decide) ?_
    exact Wa.loc [1, 2, 3, 4, 0] rfl hF
  · have hF := hF.2 hb
    refine Wa.iload_n (j := 3) d_SI_isSame_667 rfl ?_
    refine Wa.aload_n (j := 0) d_SI_isSame_668 rfl ?_
    have hc6 := hF.1
    have hF := hF.2
    obtain ⟨b7, hc8, hF⟩ := hF
    refine Wr.getR 11 9 d_SI_isSame_669 f_SI_9 rfl fl_SI_41 hc6 hc8 ?_
    refine Wa.iload (j := 4) d_SI_isSame_672 rfl ?_
    obtain ⟨n9, hc10, hF⟩ := hF
    obtain ⟨b11, hc12, hF⟩ := hF
    refine Wa.aaldA ct_le d_SI_isSame_674 (Or.inr rfl) hc10.1 hc10.2 hc12 ?_
    refine Wa.iload (j := 5) d_SI_isSame_675 rfl ?_
    obtain ⟨n13, hc14, hF⟩ := hF
    refine Wa.zald d_SI_isSame_677 hc14.1 hc14.2 ?_
    refine Wa.aload_n (j := 0) d_SI_isSame_678 rfl ?_
    have hc15 := hF.1
    have hF := hF.2
    obtain ⟨b16, hc17, hF⟩ := hF
    refine Wr.getR 11 9 d_SI_isSame_679 f_SI_9 rfl fl_SI_41 hc15 hc17 ?_
    refine Wa.iconst (v := 0) d_SI_isSame_682 rfl ?_
    obtain ⟨n18, hc19, hF⟩ := hF
    obtain ⟨b20, hc21, hF⟩ := hF
    refine Wa.aaldA ct_le d_SI_isSame_683 (Or.inr rfl) hc19.1 hc19.2 hc21 ?_
    refine Wa.iload (j := 5) d_SI_isSame_684 rfl ?_
    obtain ⟨n22, hc23, hF⟩ := hF
    refine Wa.zald d_SI_isSame_686 hc23.1 hc23.2 ?_
    refine Wa.icmp_ne 694 d_SI_isSame_687 (by decide) (fun hb => ?_) (fun hb => ?_)
    · have hF := hF.2 hb
      refine Wa.iconst (v := 0) d_SI_isSame_694 rfl ?_
      exact Wa.loc [0, 1, 2, 4, 5] rfl hF
    · have hF := hF.1 hb
      refine Wa.iconst (v := 1) d_SI_isSame_690 rfl ?_
      refine Wa.goto 695 d_SI_isSame_691 (by decide) ?_
      exact Wa.loc [0, 1, 2, 4, 5] rfl hF
set_option maxHeartbeats 4000000 in
set_option maxRecDepth 20000 in
theorem r_SI_isSame_695 {d rc rs : Nat} {Q : Option Value → Mu → Prop} {μ : Mu} {a0 : Nat} {a1 : Nat} {x2 : Int32} {x4 : Int32} {x5 : Int32} {z0 : Int32} {z1 : Int32} (hD : 1 ≤ d)
    (hF : Wx K_SI_isSame d rc rs Q 657 [(0, .ref a0), (1, .ref a1), (2, .int x2), (3, .int (z1 &&& z0)), (4, .int x4), (5, .int (x5 + 1))] [] μ) : Wx K_SI_isSame d rc rs Q 695 [(0, .ref a0), (1, .ref a1), (2, .int x2), (4, .int x4), (5, .int x5)] [.int z0, .int z1] μ := by
  refine Wa.iand d_SI_isSame_695 ?_
  refine Wa.istore_n (i := 3) (L' := [(3, .int (z1 &&& z0)), (0, .ref a0), (1, .ref a1), (2, .int x2), (4, .int x4), (5, .int x5)]) d_SI_isSame_696 rfl (by decide) rfl ?_
  refine Wa.iinc (i := 5) (j := 5) (v := (x5 + 1)) (L' := [(5, .int (x5 + 1)), (3, .int (z1 &&& z0)), (0, .ref a0), (1, .ref a1), (2, .int x2), (4, .int x4)]) d_SI_isSame_697 rfl rfl (by decide) rfl ?_
  refine Wa.goto 657 d_SI_isSame_700 (by decide) ?_
  exact Wa.loc [2, 3, 4, 1, 5, 0] rfl hF
set_option maxHeartbeats 4000000 in
set_option maxRecDepth 20000 in
theorem r_SI_isSame_712 {d rc rs : Nat} {Q : Option Value → Mu → Prop} {μ : Mu} {a0 : Nat} {a1 : Nat} {x2 : Int32} {x3 : Int32} {x4 : Int32} (hD : 1 ≤ d)
    (hF : (mS μ a0 = (1, 11) ∧ (∃ b2, gR μ a0 11 = some b2 ∧ (∃ n4, mS μ b2 = (40, n4) ∧ (((nI n4) ≤ x4 → (∃ cc6 ss7 : Nat, (cc6 ≤ rc ∧ ss7 ≤ rs) ∧ (mS μ a1 = (1, 0) ∧ Cal K_PB_missed (d - 1) cc6 ss7 [.ref a1] μ (fun r μ9 => ∃ y11, r = some (.int y11) ∧ ((y11 = x2 → (∃ cc12 ss13 : Nat, (cc12 ≤ rc - cc6 ∧ ss13 ≤ rs - ss7) ∧ (mS μ9 a1 = (1, 0) ∧ Cal K_PB_alike (d - 1) cc12 ss13 [.ref a1] μ9 (fun r μ15 => ∃ y17, r = some (.int y17) ∧ ((y17 = x3 → (∃ cc18 ss19 : Nat, (cc18 ≤ rc - cc6 - cc12 ∧ ss19 ≤ rs - ss7 - ss13) ∧ (mS μ15 a1 = (1, 0) ∧ Cal K_PB_mean (d - 1) cc18 ss19 [.ref a1] μ15 (fun r μ21 => ∃ y23, r = some (.double y23) ∧ (mS μ21 a0 = (1, 11) ∧ (((gI μ21 a0 4) = 0 → Wx K_SI_isSame d (rc - cc6 - cc12 - cc18) (rs - ss7 - ss13 - ss19) Q 921 [] [.double 0, .double y23] μ21) ∧ (¬ (gI μ21 a0 4) = 0 → (mS μ21 a0 = (1, 11) ∧ Cal K_SI_allKnown (d - 1) 0 0 [.ref a0] μ21 (fun r μ25 => ∃ y27, r = some (.int y27) ∧ (mS μ25 a0 = (1, 11) ∧ (vf_n64 (FP.ddiv (FP.i2d y27) (FP.i2d (gI μ25 a0 4))) ∧ Wx K_SI_isSame d (rc - cc6 - cc12 - cc18 - 0) (rs - ss7 - ss13 - ss19 - 0) Q 921 [] [.double (FP.ddiv (FP.i2d y27) (FP.i2d (gI μ25 a0 4))), .double y23] μ25))))))))))) ∧ (¬ y17 = x3 → Wx K_SI_isSame d (rc - cc6 - cc12) (rs - ss7 - ss13) Q 929 [] [] μ15)))))) ∧ (¬ y11 = x2 → Wx K_SI_isSame d (rc - cc6) (rs - ss7) Q 929 [] [] μ9)))))) ∧ (¬ (nI n4) ≤ x4 → (mS μ a0 = (1, 11) ∧ (∃ b31, gR μ a0 13 = some b31 ∧ (∃ n33, mS μ b31 = (40, n33) ∧ Wx K_SI_isSame d rc rs Q 739 [(0, .ref a0), (1, .ref a1), (2, .int x2), (3, .int x3), (4, .int x4), (5, .int 0), (6, .ref b31), (7, .int (nI n33)), (8, .int 0)] [] μ))))))))) : Wx K_SI_isSame d rc rs Q 712 [(0, .ref a0), (1, .ref a1), (2, .int x2), (3, .int x3), (4, .int x4)] [] μ := by
  refine Wa.iload (j := 4) d_SI_isSame_712 rfl ?_
  refine Wa.aload_n (j := 0) d_SI_isSame_714 rfl ?_
  have hc1 := hF.1
  have hF := hF.2
  obtain ⟨b2, hc3, hF⟩ := hF
  refine Wr.getR 11 11 d_SI_isSame_715 f_SI_11 rfl fl_SI_21 hc1 hc3 ?_
  obtain ⟨n4, hc5, hF⟩ := hF
  refine Wa.alen d_SI_isSame_718 hc5 (by decide) ?_
  refine Wa.icmp_ge 879 d_SI_isSame_719 (by decide) (fun hb => ?_) (fun hb => ?_)
  · have hF := hF.1 hb
    refine Wa.aload_n (j := 1) d_SI_isSame_879 rfl ?_
    obtain ⟨cc6, ss7, hc8, hF⟩ := hF
    have hc10 := hF.1
    have hF := hF.2
    refine Wx.cVi (q := E_PB) (As := []) 0 (d - 1) cc6 ss7 _ d_SI_isSame_880 mok_PB_missed vl_SI_175 rfl rfl rfl (Nat.le_of_ble_eq_true rfl) (by omega) hc8.1 hc8.2 hc10 hF (fun y11 μ9 hS hF => ?_)
    refine Wa.iload_n (j := 2) d_SI_isSame_883 rfl ?_
    refine Wa.icmp_ne 929 d_SI_isSame_884 (by decide) (fun hb => ?_) (fun hb => ?_)
    · have hF := hF.2 hb
      exact Wa.loc [] rfl hF
    · have hF := hF.1 hb
      refine Wa.aload_n (j := 1) d_SI_isSame_887 rfl ?_
      obtain ⟨cc12, ss13, hc14, hF⟩ := hF
      have hc16 := hF.1
      have hF := hF.2
      refine Wx.cVi (q := E_PB) (As := []) 0 (d - 1) cc12 ss13 _ d_SI_isSame_888 mok_PB_alike vl_SI_179 rfl rfl rfl (Nat.le_of_ble_eq_true rfl) (by omega) hc14.1 hc14.2 hc16 hF (fun y17 μ15 hS hF => ?_)
      refine Wa.iload_n (j := 3) d_SI_isSame_891 rfl ?_
      refine Wa.icmp_ne 929 d_SI_isSame_892 (by decide) (fun hb => ?_) (fun hb => ?_)
      · have hF := hF.2 hb
        exact Wa.loc [] rfl hF
      · have hF := hF.1 hb
        refine Wa.aload_n (j := 1) d_SI_isSame_895 rfl ?_
        obtain ⟨cc18, ss19, hc20, hF⟩ := hF
        have hc22 := hF.1
        have hF := hF.2
        refine Wx.cVd (q := E_PB) (As := []) 0 (d - 1) cc18 ss19 _ d_SI_isSame_896 mok_PB_mean vl_SI_183 rfl rfl rfl (Nat.le_of_ble_eq_true rfl) (by omega) hc20.1 hc20.2 hc22 hF (fun y23 μ21 hS hF => ?_)
        refine Wa.aload_n (j := 0) d_SI_isSame_899 rfl ?_
        have hc24 := hF.1
        have hF := hF.2
        refine Wr.getI 11 4 d_SI_isSame_900 f_SI_4 fl_SI_30 hc24 ?_
        refine Wa.if_ne 910 d_SI_isSame_903 (by decide) (fun hb => ?_) (fun hb => ?_)
        · have hF := hF.2 hb
          refine Wa.aload_n (j := 0) d_SI_isSame_910 rfl ?_
          have hc26 := hF.1
          have hF := hF.2
          refine Wx.cVi (q := E_SI) (As := []) 11 (d - 1) 0 0 _ d_SI_isSame_911 mok_SI_allKnown vl_SI_187 rfl rfl rfl (Nat.le_of_ble_eq_true rfl) (by omega) (Nat.zero_le _) (Nat.zero_le _) hc26 hF (fun y27 μ25 hS hF => ?_)
          refine Wa.i2d d_SI_isSame_914 ?_
          refine Wa.aload_n (j := 0) d_SI_isSame_915 rfl ?_
          have hc28 := hF.1
          have hF := hF.2
          refine Wr.getI 11 4 d_SI_isSame_916 f_SI_4 fl_SI_30 hc28 ?_
          refine Wa.i2d d_SI_isSame_919 ?_
          have hc29 := hF.1
          have hF := hF.2
          refine Wa.ddiv d_SI_isSame_920 hc29 ?_
          exact Wa.loc [] rfl hF
        · have hF := hF.1 hb
          refine Wa.dconst0 d_SI_isSame_906 ?_
          refine Wa.goto 921 d_SI_isSame_907 (by decide) ?_
          exact Wa.loc [] rfl hF
  · have hF := hF.2 hb
    refine Wa.iconst (v := 0) d_SI_isSame_722 rfl ?_
    refine Wa.istore (i := 5) (L' := [(5, .int 0), (0, .ref a0), (1, .ref a1), (2, .int x2), (3, .int x3), (4, .int x4)]) d_SI_isSame_723 (by decide) rfl ?_
    refine Wa.aload_n (j := 1) d_SI_isSame_725 rfl ?_
    have hc30 := hF.1
    have hF := hF.2
    obtain ⟨b31, hc32, hF⟩ := hF
    refine Wr.getR 11 13 d_SI_isSame_726 f_SI_13 rfl fl_SI_24 hc30 hc32 ?_
    refine Wa.astore (i := 6) (L' := [(6, .ref b31), (5, .int 0), (0, .ref a0), (1, .ref a1), (2, .int x2), (3, .int x3), (4, .int x4)]) d_SI_isSame_729 (by decide) rfl ?_
    refine Wa.aload (j := 0) d_SI_isSame_731 rfl ?_
    obtain ⟨n33, hc34, hF⟩ := hF
    refine Wa.alen d_SI_isSame_733 hc34 (by decide) ?_
    refine Wa.istore (i := 7) (L' := [(7, .int (nI n33)), (6, .ref b31), (5, .int 0), (0, .ref a0), (1, .ref a1), (2, .int x2), (3, .int x3), (4, .int x4)]) d_SI_isSame_734 (by decide) rfl ?_
    refine Wa.iconst (v := 0) d_SI_isSame_736 rfl ?_
    refine Wa.istore (i := 8) (L' := [(8, .int 0), (7, .int (nI n33)), (6, .ref b31), (5, .int 0), (0, .ref a0), (1, .ref a1), (2, .int x2), (3, .int x3), (4, .int x4)]) d_SI_isSame_737 (by decide) rfl ?_
    exact Wa.loc [4, 5, 6, 7, 8, 3, 2, 1, 0] rfl hF
set_option maxHeartbeats 4000000 in
set_option maxRecDepth 20000 in
theorem r_SI_isSame_739 {d rc rs : Nat} {Q : Option Value → Mu → Prop} {μ : Mu} {a0 : Nat} {a1 : Nat} {x2 : Int32} {x3 : Int32} {x4 : Int32} {x5 : Int32} {a6 : Nat} {x7 : Int32} {x8 : Int32} (hD : 1 ≤ d)
    (hF : ((x7 ≤ x8 → ((¬ (5 : Int32) < 0 ∧ 5 ≤ 1000000 ∧ 1 ≤ rc ∧ 5 ≤ rs) ∧ (∃ q2, FreN μ q2 ∧ (mS (mkA μ q2 (2, 5)) a0 = (1, 11) ∧ (∃ b5, gR (mkA μ q2 (2, 5)) a0 11 = some b5 ∧ (∃ n7, (mS (mkA μ q2 (2, 5)) b5 = (40, n7) ∧ vp_in x4 n7) ∧ (∃ b9, gR (mkA μ q2 (2, 5)) b5 x4.toNatClampNeg = some b9 ∧ (∃ n11, (mS (mkA μ q2 (2, 5)) b9 = (2, n11) ∧ vp_in (0 : Int32) n11) ∧ (∃ n13, (mS (mkA μ q2 (2, 5)) q2 = (2, n13) ∧ vp_in (0 : Int32) n13 ∧ hiN q2) ∧ (mS (setI (mkA μ q2 (2, 5)) q2 (0 : Int32).toNatClampNeg (gI (mkA μ q2 (2, 5)) b9 (0 : Int32).toNatClampNeg)) a0 = (1, 11) ∧ (∃ b16, gR (setI (mkA μ q2 (2, 5)) q2 (0 : Int32).toNatClampNeg (gI (mkA μ q2 (2, 5)) b9 (0 : Int32).toNatClampNeg)) a0 11 = some b16 ∧ (∃ n18, (mS (setI (mkA μ q2 (2, 5)) q2 (0 : Int32).toNatClampNeg (gI (mkA μ q2 (2, 5)) b9 (0 : Int32).toNatClampNeg)) b16 = (40, n18) ∧ vp_in x4 n18) ∧ (∃ b20, gR (setI (mkA μ q2 (2, 5)) q2 (0 : Int32).toNatClampNeg (gI (mkA μ q2 (2, 5)) b9 (0 : Int32).toNatClampNeg)) b16 x4.toNatClampNeg = some b20 ∧ (∃ n22, (mS (setI (mkA μ q2 (2, 5)) q2 (0 : Int32).toNatClampNeg (gI (mkA μ q2 (2, 5)) b9 (0 : Int32).toNatClampNeg)) b20 = (2, n22) ∧ vp_in (1 : Int32) n22) ∧ (∃ n24, (mS (setI (mkA μ q2 (2, 5)) q2 (0 : Int32).toNatClampNeg (gI (mkA μ q2 (2, 5)) b9 (0 : Int32).toNatClampNeg)) q2 = (2, n24) ∧ vp_in (1 : Int32) n24 ∧ hiN q2) ∧ (mS (setI (setI (mkA μ q2 (2, 5)) q2 (0 : Int32).toNatClampNeg (gI (mkA μ q2 (2, 5)) b9 (0 : Int32).toNatClampNeg)) q2 (1 : Int32).toNatClampNeg (gI (setI (mkA μ q2 (2, 5)) q2 (0 : Int32).toNatClampNeg (gI (mkA μ q2 (2, 5)) b9 (0 : Int32).toNatClampNeg)) b20 (1 : Int32).toNatClampNeg)) a0 = (1, 11) ∧ (∃ b27, gR (setI (setI (mkA μ q2 (2, 5)) q2 (0 : Int32).toNatClampNeg (gI (mkA μ q2 (2, 5)) b9 (0 : Int32).toNatClampNeg)) q2 (1 : Int32).toNatClampNeg (gI (setI (mkA μ q2 (2, 5)) q2 (0 : Int32).toNatClampNeg (gI (mkA μ q2 (2, 5)) b9 (0 : Int32).toNatClampNeg)) b20 (1 : Int32).toNatClampNeg)) a0 11 = some b27 ∧ (∃ n29, (mS (setI (setI (mkA μ q2 (2, 5)) q2 (0 : Int32).toNatClampNeg (gI (mkA μ q2 (2, 5)) b9 (0 : Int32).toNatClampNeg)) q2 (1 : Int32).toNatClampNeg (gI (setI (mkA μ q2 (2, 5)) q2 (0 : Int32).toNatClampNeg (gI (mkA μ q2 (2, 5)) b9 (0 : Int32).toNatClampNeg)) b20 (1 : Int32).toNatClampNeg)) b27 = (40, n29) ∧ vp_in x4 n29) ∧ (∃ b31, gR (setI (setI (mkA μ q2 (2, 5)) q2 (0 : Int32).toNatClampNeg (gI (mkA μ q2 (2, 5)) b9 (0 : Int32).toNatClampNeg)) q2 (1 : Int32).toNatClampNeg (gI (setI (mkA μ q2 (2, 5)) q2 (0 : Int32).toNatClampNeg (gI (mkA μ q2 (2, 5)) b9 (0 : Int32).toNatClampNeg)) b20 (1 : Int32).toNatClampNeg)) b27 x4.toNatClampNeg = some b31 ∧ (∃ n33, (mS (setI (setI (mkA μ q2 (2, 5)) q2 (0 : Int32).toNatClampNeg (gI (mkA μ q2 (2, 5)) b9 (0 : Int32).toNatClampNeg)) q2 (1 : Int32).toNatClampNeg (gI (setI (mkA μ q2 (2, 5)) q2 (0 : Int32).toNatClampNeg (gI (mkA μ q2 (2, 5)) b9 (0 : Int32).toNatClampNeg)) b20 (1 : Int32).toNatClampNeg)) b31 = (2, n33) ∧ vp_in (2 : Int32) n33) ∧ (∃ n35, (mS (setI (setI (mkA μ q2 (2, 5)) q2 (0 : Int32).toNatClampNeg (gI (mkA μ q2 (2, 5)) b9 (0 : Int32).toNatClampNeg)) q2 (1 : Int32).toNatClampNeg (gI (setI (mkA μ q2 (2, 5)) q2 (0 : Int32).toNatClampNeg (gI (mkA μ q2 (2, 5)) b9 (0 : Int32).toNatClampNeg)) b20 (1 : Int32).toNatClampNeg)) q2 = (2, n35) ∧ vp_in (2 : Int32) n35 ∧ hiN q2) ∧ (∀ μ37 : Mu, μ37 = (setI (setI (setI (mkA μ q2 (2, 5)) q2 (0 : Int32).toNatClampNeg (gI (mkA μ q2 (2, 5)) b9 (0 : Int32).toNatClampNeg)) q2 (1 : Int32).toNatClampNeg (gI (setI (mkA μ q2 (2, 5)) q2 (0 : Int32).toNatClampNeg (gI (mkA μ q2 (2, 5)) b9 (0 : Int32).toNatClampNeg)) b20 (1 : Int32).toNatClampNeg)) q2 (2 : Int32).toNatClampNeg (gI (setI (setI (mkA μ q2 (2, 5)) q2 (0 : Int32).toNatClampNeg (gI (mkA μ q2 (2, 5)) b9 (0 : Int32).toNatClampNeg)) q2 (1 : Int32).toNatClampNeg (gI (setI (mkA μ q2 (2, 5)) q2 (0 : Int32).toNatClampNeg (gI (mkA μ q2 (2, 5)) b9 (0 : Int32).toNatClampNeg)) b20 (1 : Int32).toNatClampNeg)) b31 (2 : Int32).toNatClampNeg)) → (∃ n38, (mS μ37 q2 = (2, n38) ∧ vp_in (3 : Int32) n38 ∧ hiN q2) ∧ (mS (setI μ37 q2 (3 : Int32).toNatClampNeg x5) a0 = (1, 11) ∧ (∃ b41, gR (setI μ37 q2 (3 : Int32).toNatClampNeg x5) a0 11 = some b41 ∧ (∃ n43, (mS (setI μ37 q2 (3 : Int32).toNatClampNeg x5) b41 = (40, n43) ∧ vp_in x4 n43) ∧ (∃ b45, gR (setI μ37 q2 (3 : Int32).toNatClampNeg x5) b41 x4.toNatClampNeg = some b45 ∧ (∃ n47, (mS (setI μ37 q2 (3 : Int32).toNatClampNeg x5) b45 = (2, n47) ∧ vp_in (3 : Int32) n47) ∧ (∃ n49, (mS (setI μ37 q2 (3 : Int32).toNatClampNeg x5) q2 = (2, n49) ∧ vp_in (4 : Int32) n49 ∧ hiN q2) ∧ Wx K_SI_isSame d (rc - 1) (rs - 5) Q 843 [(0, .ref a0), (1, .ref a1), (2, .int x2), (3, .int x3), (4, .int x4), (6, .ref q2), (7, .int 0)] [] (setI (setI μ37 q2 (3 : Int32).toNatClampNeg x5) q2 (4 : Int32).toNatClampNeg (gI (setI μ37 q2 (3 : Int32).toNatClampNeg x5) b45 (3 : Int32).toNatClampNeg))))))))))))))))))))))))))))))) ∧ (¬ x7 ≤ x8 → (∃ n51, (mS μ a6 = (40, n51) ∧ vp_in x8 n51) ∧ (∃ b53, gR μ a6 x8.toNatClampNeg = some b53 ∧ (∃ n55, (mS μ b53 = (2, n55) ∧ vp_in (0 : Int32) n55) ∧ (((gI μ b53 (0 : Int32).toNatClampNeg) = x4 → (∃ n57, mS μ b53 = (2, n57) ∧ Wx K_SI_isSame d rc rs Q 773 [(0, .ref a0), (1, .ref a1), (2, .int x2), (3, .int x3), (4, .int x4), (6, .ref a6), (7, .int x7), (8, .int x8)] [.int ((nI n57) - (2 : Int32)), .int x5] μ)) ∧ (¬ (gI μ b53 (0 : Int32).toNatClampNeg) = x4 → Wx K_SI_isSame d rc rs Q 773 [(0, .ref a0), (1, .ref a1), (2, .int x2), (3, .int x3), (4, .int x4), (6, .ref a6), (7, .int x7), (8, .int x8)] [.int 0, .int x5] μ)))))))) : Wx K_SI_isSame d rc rs Q 739 [(0, .ref a0), (1, .ref a1), (2, .int x2), (3, .int x3), (4, .int x4), (5, .int x5), (6, .ref a6), (7, .int x7), (8, .int x8)] [] μ := by
  refine Wa.iload (j := 8) d_SI_isSame_739 rfl ?_
  refine Wa.iload (j := 7) d_SI_isSame_741 rfl ?_
  refine Wa.icmp_ge 782 d_SI_isSame_743 (by decide) (fun hb => ?_) (fun hb => ?_)
  · have hF := hF.1 hb
    refine Wa.iconst (v := 5) d_SI_isSame_782 rfl ?_
    have hc1 := hF.1
    have hF := hF.2
    obtain ⟨q2, hc3, hF⟩ := hF
    refine Wr.newarr 2 5 q2 d_SI_isSame_783 ac_int rfl (by decide) hc1.1 rfl hc1.2.1 hc1.2.2.1 hc1.2.2.2 hc3 ?_
    refine Wa.dup d_SI_isSame_785 rfl ?_
    refine Wa.iconst (v := 0) d_SI_isSame_786 rfl ?_
    refine Wa.aload_n (j := 0) d_SI_isSame_787 rfl ?_
    have hc4 := hF.1
    have hF := hF.2
    obtain ⟨b5, hc6, hF⟩ := hF
    refine Wr.getR 11 11 d_SI_isSame_788 f_SI_11 rfl fl_SI_21 hc4 hc6 ?_
    refine Wa.iload (j := 4) d_SI_isSame_791 rfl ?_
    obtain ⟨n7, hc8, hF⟩ := hF
    obtain ⟨b9, hc10, hF⟩ := hF
    refine Wa.aaldA ct_le d_SI_isSame_793 (Or.inl rfl) hc8.1 hc8.2 hc10 ?_
    refine Wa.iconst (v := 0) d_SI_isSame_794 rfl ?_
    obtain ⟨n11, hc12, hF⟩ := hF
    refine Wa.iald d_SI_isSame_795 hc12.1 hc12.2 ?_
    obtain ⟨n13, hc14, hF⟩ := hF
    refine Wr.iast d_SI_isSame_796 hc14.1 hc14.2.1 hc14.2.2 ?_
    refine Wa.dup d_SI_isSame_797 rfl ?_
    refine Wa.iconst (v := 1) d_SI_isSame_798 rfl ?_
    refine Wa.aload_n (j := 0) d_SI_isSame_799 rfl ?_
    have hc15 := hF.1
    have hF := hF.2
    obtain ⟨b16, hc17, hF⟩ := hF
    refine Wr.getR 11 11 d_SI_isSame_800 f_SI_11 rfl fl_SI_21 hc15 hc17 ?_
    refine Wa.iload (j := 4) d_SI_isSame_803 rfl ?_
    obtain ⟨n18, hc19, hF⟩ := hF
    obtain ⟨b20, hc21, hF⟩ := hF
    refine Wa.aaldA ct_le d_SI_isSame_805 (Or.inl rfl) hc19.1 hc19.2 hc21 ?_
    refine Wa.iconst (v := 1) d_SI_isSame_806 rfl ?_
    obtain ⟨n22, hc23, hF⟩ := hF
    refine Wa.iald d_SI_isSame_807 hc23.1 hc23.2 ?_
    obtain ⟨n24, hc25, hF⟩ := hF
    refine Wr.iast d_SI_isSame_808 hc25.1 hc25.2.1 hc25.2.2 ?_
    refine Wa.dup d_SI_isSame_809 rfl ?_
    refine Wa.iconst (v := 2) d_SI_isSame_810 rfl ?_
    refine Wa.aload_n (j := 0) d_SI_isSame_811 rfl ?_
    have hc26 := hF.1
    have hF := hF.2
    obtain ⟨b27, hc28, hF⟩ := hF
    refine Wr.getR 11 11 d_SI_isSame_812 f_SI_11 rfl fl_SI_21 hc26 hc28 ?_
    refine Wa.iload (j := 4) d_SI_isSame_815 rfl ?_
    obtain ⟨n29, hc30, hF⟩ := hF
    obtain ⟨b31, hc32, hF⟩ := hF
    refine Wa.aaldA ct_le d_SI_isSame_817 (Or.inl rfl) hc30.1 hc30.2 hc32 ?_
    refine Wa.iconst (v := 2) d_SI_isSame_818 rfl ?_
    obtain ⟨n33, hc34, hF⟩ := hF
    refine Wa.iald d_SI_isSame_819 hc34.1 hc34.2 ?_
    obtain ⟨n35, hc36, hF⟩ := hF
    refine Wr.iast d_SI_isSame_820 hc36.1 hc36.2.1 hc36.2.2 ?_
    suffices hh : ∀ μ37 : Mu, μ37 = (setI (setI (setI (mkA μ q2 (2, 5)) q2 (0 : Int32).toNatClampNeg (gI (mkA μ q2 (2, 5)) b9 (0 : Int32).toNatClampNeg)) q2 (1 : Int32).toNatClampNeg (gI (setI (mkA μ q2 (2, 5)) q2 (0 : Int32).toNatClampNeg (gI (mkA μ q2 (2, 5)) b9 (0 : Int32).toNatClampNeg)) b20 (1 : Int32).toNatClampNeg)) q2 (2 : Int32).toNatClampNeg (gI (setI (setI (mkA μ q2 (2, 5)) q2 (0 : Int32).toNatClampNeg (gI (mkA μ q2 (2, 5)) b9 (0 : Int32).toNatClampNeg)) q2 (1 : Int32).toNatClampNeg (gI (setI (mkA μ q2 (2, 5)) q2 (0 : Int32).toNatClampNeg (gI (mkA μ q2 (2, 5)) b9 (0 : Int32).toNatClampNeg)) b20 (1 : Int32).toNatClampNeg)) b31 (2 : Int32).toNatClampNeg)) → Wx K_SI_isSame d (rc - 1) (rs - 5) Q 821 [(0, .ref a0), (1, .ref a1), (2, .int x2), (3, .int x3), (4, .int x4), (5, .int x5), (6, .ref a6), (7, .int x7), (8, .int x8)] [.ref q2] μ37 from hh _ rfl
    intro μ37 em37
    have hF := hF μ37 em37
    refine Wa.dup d_SI_isSame_821 rfl ?_
    refine Wa.iconst (v := 3) d_SI_isSame_822 rfl ?_
    refine Wa.iload (j := 5) d_SI_isSame_823 rfl ?_
    obtain ⟨n38, hc39, hF⟩ := hF
    refine Wr.iast d_SI_isSame_825 hc39.1 hc39.2.1 hc39.2.2 ?_
    refine Wa.dup d_SI_isSame_826 rfl ?_
    refine Wa.iconst (v := 4) d_SI_isSame_827 rfl ?_
    refine Wa.aload_n (j := 0) d_SI_isSame_828 rfl ?_
    have hc40 := hF.1
    have hF := hF.2
    obtain ⟨b41, hc42, hF⟩ := hF
    refine Wr.getR 11 11 d_SI_isSame_829 f_SI_11 rfl fl_SI_21 hc40 hc42 ?_
    refine Wa.iload (j := 4) d_SI_isSame_832 rfl ?_
    obtain ⟨n43, hc44, hF⟩ := hF
    obtain ⟨b45, hc46, hF⟩ := hF
    refine Wa.aaldA ct_le d_SI_isSame_834 (Or.inl rfl) hc44.1 hc44.2 hc46 ?_
    refine Wa.iconst (v := 3) d_SI_isSame_835 rfl ?_
    obtain ⟨n47, hc48, hF⟩ := hF
    refine Wa.iald d_SI_isSame_836 hc48.1 hc48.2 ?_
    obtain ⟨n49, hc50, hF⟩ := hF
    refine Wr.iast d_SI_isSame_837 hc50.1 hc50.2.1 hc50.2.2 ?_
    refine Wa.astore (i := 6) (L' := [(6, .ref q2), (0, .ref a0), (1, .ref a1), (2, .int x2), (3, .int x3), (4, .int x4), (5, .int x5), (7, .int x7), (8, .int x8)]) d_SI_isSame_838 (by decide) rfl ?_
    refine Wa.iconst (v := 0) d_SI_isSame_840 rfl ?_
    refine Wa.istore (i := 7) (L' := [(7, .int 0), (6, .ref q2), (0, .ref a0), (1, .ref a1), (2, .int x2), (3, .int x3), (4, .int x4), (5, .int x5), (8, .int x8)]) d_SI_isSame_841 (by decide) rfl ?_
    exact Wa.loc [2, 3, 4, 5, 6, 1, 0] rfl hF
  · have hF := hF.2 hb
    refine Wa.aload (j := 6) d_SI_isSame_746 rfl ?_
    refine Wa.iload (j := 8) d_SI_isSame_748 rfl ?_
    obtain ⟨n51, hc52, hF⟩ := hF
    obtain ⟨b53, hc54, hF⟩ := hF
    refine Wa.aaldA ct_le d_SI_isSame_750 (Or.inl rfl) hc52.1 hc52.2 hc54 ?_
    refine Wa.astore (i := 9) (L' := [(9, .ref b53), (0, .ref a0), (1, .ref a1), (2, .int x2), (3, .int x3), (4, .int x4), (5, .int x5), (6, .ref a6), (7, .int x7), (8, .int x8)]) d_SI_isSame_751 (by decide) rfl ?_
    refine Wa.iload (j := 6) d_SI_isSame_753 rfl ?_
    refine Wa.aload (j := 0) d_SI_isSame_755 rfl ?_
    refine Wa.iconst (v := 0) d_SI_isSame_757 rfl ?_
    obtain ⟨n55, hc56, hF⟩ := hF
    refine Wa.iald d_SI_isSame_758 hc56.1 hc56.2 ?_
    refine Wa.iload (j := 5) d_SI_isSame_759 rfl ?_
    refine Wa.icmp_ne 772 d_SI_isSame_761 (by decide) (fun hb => ?_) (fun hb => ?_)
    · have hF := hF.2 hb
      refine Wa.iconst (v := 0) d_SI_isSame_772 rfl ?_
      exact Wa.loc [1, 2, 3, 4, 5, 7, 8, 9] rfl hF
    · have hF := hF.1 hb
      refine Wa.aload (j := 0) d_SI_isSame_764 rfl ?_
      obtain ⟨n57, hc58, hF⟩ := hF
      refine Wa.alen d_SI_isSame_766 hc58 (by decide) ?_
      refine Wa.iconst (v := 2) d_SI_isSame_767 rfl ?_
      refine Wa.isub d_SI_isSame_768 ?_
      refine Wa.goto 773 d_SI_isSame_769 (by decide) ?_
      exact Wa.loc [1, 2, 3, 4, 5, 7, 8, 9] rfl hF
set_option maxHeartbeats 4000000 in
set_option maxRecDepth 20000 in
theorem r_SI_isSame_773 {d rc rs : Nat} {Q : Option Value → Mu → Prop} {μ : Mu} {a0 : Nat} {a1 : Nat} {x2 : Int32} {x3 : Int32} {x4 : Int32} {a6 : Nat} {x7 : Int32} {x8 : Int32} {z0 : Int32} {z1 : Int32} (hD : 1 ≤ d)
    (hF : Wx K_SI_isSame d rc rs Q 739 [(0, .ref a0), (1, .ref a1), (2, .int x2), (3, .int x3), (4, .int x4), (5, .int (z1 + z0)), (6, .ref a6), (7, .int x7), (8, .int (x8 + 1))] [] μ) : Wx K_SI_isSame d rc rs Q 773 [(0, .ref a0), (1, .ref a1), (2, .int x2), (3, .int x3), (4, .int x4), (6, .ref a6), (7, .int x7), (8, .int x8)] [.int z0, .int z1] μ := by
  refine Wa.iadd d_SI_isSame_773 ?_
  refine Wa.istore (i := 5) (L' := [(5, .int (z1 + z0)), (0, .ref a0), (1, .ref a1), (2, .int x2), (3, .int x3), (4, .int x4), (6, .ref a6), (7, .int x7), (8, .int x8)]) d_SI_isSame_774 (by decide) rfl ?_
  refine Wa.iinc (i := 8) (j := 8) (v := (x8 + 1)) (L' := [(8, .int (x8 + 1)), (5, .int (z1 + z0)), (0, .ref a0), (1, .ref a1), (2, .int x2), (3, .int x3), (4, .int x4), (6, .ref a6), (7, .int x7)]) d_SI_isSame_776 rfl rfl (by decide) rfl ?_
  refine Wa.goto 739 d_SI_isSame_779 (by decide) ?_
  exact Wa.loc [2, 3, 4, 5, 6, 1, 7, 8, 0] rfl hF
set_option maxHeartbeats 4000000 in
set_option maxRecDepth 20000 in
theorem r_SI_isSame_843 {d rc rs : Nat} {Q : Option Value → Mu → Prop} {μ : Mu} {a0 : Nat} {a1 : Nat} {x2 : Int32} {x3 : Int32} {x4 : Int32} {a6 : Nat} {x7 : Int32} (hD : 1 ≤ d)
    (hF : ((5 ≤ x7 → Wx K_SI_isSame d rc rs Q 712 [(0, .ref a0), (1, .ref a1), (2, .int x2), (3, .int x3), (4, .int (x4 + 1))] [] μ) ∧ (¬ 5 ≤ x7 → (∃ cc1 ss2 : Nat, (cc1 ≤ rc ∧ ss2 ≤ rs) ∧ (mS μ a1 = (1, 0) ∧ Cal K_PB_road (d - 1) cc1 ss2 [.ref a1, .int x4, .int x7] μ (fun r μ4 => ∃ y6, r = some (.int y6) ∧ (∃ n7, (mS μ4 a6 = (2, n7) ∧ vp_in x7 n7) ∧ ((y6 = (gI μ4 a6 x7.toNatClampNeg) → Wx K_SI_isSame d (rc - cc1) (rs - ss2) Q 843 [(0, .ref a0), (1, .ref a1), (2, .int x2), (3, .int x3), (4, .int x4), (6, .ref a6), (7, .int (x7 + 1))] [] μ4) ∧ (¬ y6 = (gI μ4 a6 x7.toNatClampNeg) → Q (some (.int 0)) μ4))))))))) : Wx K_SI_isSame d rc rs Q 843 [(0, .ref a0), (1, .ref a1), (2, .int x2), (3, .int x3), (4, .int x4), (6, .ref a6), (7, .int x7)] [] μ := by
  refine Wa.iload (j := 6) d_SI_isSame_843 rfl ?_
  refine Wa.iconst (v := 5) d_SI_isSame_845 rfl ?_
  refine Wa.icmp_ge 873 d_SI_isSame_846 (by decide) (fun hb => ?_) (fun hb => ?_)
  · have hF := hF.1 hb
    refine Wa.iinc (i := 4) (j := 4) (v := (x4 + 1)) (L' := [(4, .int (x4 + 1)), (0, .ref a0), (1, .ref a1), (2, .int x2), (3, .int x3), (6, .ref a6), (7, .int x7)]) d_SI_isSame_873 rfl rfl (by decide) rfl ?_
    refine Wa.goto 712 d_SI_isSame_876 (by decide) ?_
    exact Wa.loc [1, 2, 3, 4, 0] rfl hF
  · have hF := hF.2 hb
    refine Wa.aload_n (j := 1) d_SI_isSame_849 rfl ?_
    refine Wa.iload (j := 4) d_SI_isSame_850 rfl ?_
    refine Wa.iload (j := 6) d_SI_isSame_852 rfl ?_
    obtain ⟨cc1, ss2, hc3, hF⟩ := hF
    have hc5 := hF.1
    have hF := hF.2
    refine Wx.cVi (q := E_PB) (As := [.int x4, .int x7]) 0 (d - 1) cc1 ss2 _ d_SI_isSame_854 mok_PB_road vl_SI_172 rfl rfl rfl (Nat.le_of_ble_eq_true rfl) (by omega) hc3.1 hc3.2 hc5 hF (fun y6 μ4 hS hF => ?_)
    refine Wa.aload (j := 5) d_SI_isSame_857 rfl ?_
    refine Wa.iload (j := 6) d_SI_isSame_859 rfl ?_
    obtain ⟨n7, hc8, hF⟩ := hF
    refine Wa.iald d_SI_isSame_861 hc8.1 hc8.2 ?_
    refine Wa.icmp_eq 867 d_SI_isSame_862 (by decide) (fun hb => ?_) (fun hb => ?_)
    · have hF := hF.1 hb
      refine Wa.iinc (i := 7) (j := 6) (v := (x7 + 1)) (L' := [(7, .int (x7 + 1)), (0, .ref a0), (1, .ref a1), (2, .int x2), (3, .int x3), (4, .int x4), (6, .ref a6)]) d_SI_isSame_867 rfl rfl (by decide) rfl ?_
      refine Wa.goto 843 d_SI_isSame_870 (by decide) ?_
      exact Wa.loc [1, 2, 3, 4, 5, 6, 0] rfl hF
    · have hF := hF.2 hb
      refine Wa.iconst (v := 0) d_SI_isSame_865 rfl ?_
      exact Wx.retz d_SI_isSame_866 rfl (Or.inl rfl) hF
set_option maxHeartbeats 4000000 in
set_option maxRecDepth 20000 in
theorem r_SI_isSame_921 {d rc rs : Nat} {Q : Option Value → Mu → Prop} {μ : Mu} {z0 : UInt64} {z1 : UInt64} (hD : 1 ≤ d)
    (hF : (((Op.cmpValue (FP.dcmp z1 z0) .l) = 0 → Wx K_SI_isSame d rc rs Q 930 [] [.int 1] μ) ∧ (¬ (Op.cmpValue (FP.dcmp z1 z0) .l) = 0 → Wx K_SI_isSame d rc rs Q 929 [] [] μ))) : Wx K_SI_isSame d rc rs Q 921 [] [.double z0, .double z1] μ := by
  refine Wa.dcmp d_SI_isSame_921 ?_
  refine Wa.if_ne 929 d_SI_isSame_922 (by decide) (fun hb => ?_) (fun hb => ?_)
  · have hF := hF.2 hb
    exact Wa.loc [] rfl hF
  · have hF := hF.1 hb
    refine Wa.iconst (v := 1) d_SI_isSame_925 rfl ?_
    refine Wa.goto 930 d_SI_isSame_926 (by decide) ?_
    exact Wa.loc [] rfl hF
set_option maxHeartbeats 4000000 in
set_option maxRecDepth 20000 in
theorem r_SI_isSame_929 {d rc rs : Nat} {Q : Option Value → Mu → Prop} {μ : Mu}  (hD : 1 ≤ d)
    (hF : Wx K_SI_isSame d rc rs Q 930 [] [.int 0] μ) : Wx K_SI_isSame d rc rs Q 929 [] [] μ := by
  refine Wa.iconst (v := 0) d_SI_isSame_929 rfl ?_
  exact Wa.loc [] rfl hF
set_option maxHeartbeats 4000000 in
set_option maxRecDepth 20000 in
theorem r_SI_isSame_930 {d rc rs : Nat} {Q : Option Value → Mu → Prop} {μ : Mu} {z0 : Int32} (hD : 1 ≤ d)
    (hF : ((z0 = 0 ∨ z0 = 1) ∧ Q (some (.int z0)) μ)) : Wx K_SI_isSame d rc rs Q 930 [] [.int z0] μ := by
  exact Wx.retz d_SI_isSame_930 rfl hF.1 hF.2
