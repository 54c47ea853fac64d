/-! the law's small methods, before there is a component -/
set_option maxHeartbeats 4000000 in
set_option maxRecDepth 20000 in
theorem y_LW_below_0 {d rc rs : Nat} {Q : Option Value → Mu → Prop} {μ : Mu} {x0 : Int32} {x1 : Int32} (hD : 1 ≤ d)
    (hF : (¬ x1 = 0 ∧ Q (some (.int ((x0 &&& (2147483647 : Int32)) - (x0 &&& (2147483647 : Int32)) / x1 * x1))) μ)) : Wx K_LW_below d rc rs Q 0 [(0, .int x0), (1, .int x1)] [] μ := by
  refine Wa.iload_n (j := 0) d_LW_below_0 rfl ?_
  refine Wa.ldc d_LW_below_1 k_LW_7 ?_
  refine Wa.iand d_LW_below_3 ?_
  refine Wa.iload_n (j := 1) d_LW_below_4 rfl ?_
  have hc1 := hF.1
  have hF := hF.2
  refine Wa.irem d_LW_below_5 hc1 ?_
  exact Wx.reti d_LW_below_6 rfl hF
theorem z_LW_below {d rc rs : Nat} {Q : Option Value → Mu → Prop} {μ : Mu} {x0 : Int32} {x1 : Int32} (hk : Wx K_LW_below d rc rs (fun r μ' => S8 μ' ∧ Q r μ') 0 [(0, .int x0), (1, .int x1)] [] μ) : CalS K_LW_below d rc rs [.int x0, .int x1] μ Q := CalS.of (by decide +kernel) rfl rfl (Nat.le_of_ble_eq_true rfl) rfl hk
set_option maxHeartbeats 4000000 in
set_option maxRecDepth 20000 in
theorem y_LW_cell_0 {d rc rs : Nat} {Q : Option Value → Mu → Prop} {μ : Mu} {a0 : Nat} {x1 : Int32} (hD : 1 ≤ d)
    (hF : (∃ n1, mS μ a0 = (2, n1) ∧ (((nI n1) ≤ x1 → Q (some (.int ((790386105 : Int32) * (x1 + (3 : Int32))))) μ) ∧ (¬ (nI n1) ≤ x1 → (∃ n3, (mS μ a0 = (2, n3) ∧ vp_in x1 n3) ∧ Q (some (.int (gI μ a0 x1.toNatClampNeg))) μ))))) : Wx K_LW_cell d rc rs Q 0 [(0, .ref a0), (1, .int x1)] [] μ := by
  refine Wa.iload_n (j := 1) d_LW_cell_0 rfl ?_
  refine Wa.aload_n (j := 0) d_LW_cell_1 rfl ?_
  obtain ⟨n1, hc2, hF⟩ := hF
  refine Wa.alen d_LW_cell_2 hc2 (by decide) ?_
  refine Wa.icmp_ge 12 d_LW_cell_3 (by decide) (fun hb => ?_) (fun hb => ?_)
  · have hF := hF.1 hb
    refine Wa.ldc d_LW_cell_12 k_LW_8 ?_
    refine Wa.iload_n (j := 1) d_LW_cell_14 rfl ?_
    refine Wa.iconst (v := 3) d_LW_cell_15 rfl ?_
    refine Wa.iadd d_LW_cell_16 ?_
    refine Wa.imul d_LW_cell_17 ?_
    exact Wx.reti d_LW_cell_18 rfl hF
  · have hF := hF.2 hb
    refine Wa.aload_n (j := 0) d_LW_cell_6 rfl ?_
    refine Wa.iload_n (j := 1) d_LW_cell_7 rfl ?_
    obtain ⟨n3, hc4, hF⟩ := hF
    refine Wa.iald d_LW_cell_8 hc4.1 hc4.2 ?_
    refine Wa.goto 18 d_LW_cell_9 (by decide) ?_
    exact Wx.reti d_LW_cell_18 rfl hF
theorem z_LW_cell {d rc rs : Nat} {Q : Option Value → Mu → Prop} {μ : Mu} {a0 : Nat} {x1 : Int32} (hk : Wx K_LW_cell d rc rs (fun r μ' => S8 μ' ∧ Q r μ') 0 [(0, .ref a0), (1, .int x1)] [] μ) : CalS K_LW_cell d rc rs [.ref a0, .int x1] μ Q := CalS.of (by decide +kernel) rfl rfl (Nat.le_of_ble_eq_true rfl) rfl hk
set_option maxHeartbeats 4000000 in
set_option maxRecDepth 20000 in
theorem y_LW_test_0 {d rc rs : Nat} {Q : Option Value → Mu → Prop} {μ : Mu} {a0 : Nat} (hD : 1 ≤ d)
    (hF : (∃ n1, (mS μ a0 = (2, n1) ∧ vp_in (6 : Int32) n1) ∧ (∃ n3, (mS μ a0 = (2, n3) ∧ vp_in (7 : Int32) n3) ∧ (∃ n5, (mS μ a0 = (2, n5) ∧ vp_in (5 : Int32) n5) ∧ ((((gI μ a0 (5 : Int32).toNatClampNeg) = 0) → Q (some (.ref (hd 1 45))) μ) ∧ (((gI μ a0 (5 : Int32).toNatClampNeg) = 1) → ((1 ≤ rc ∧ 4 ≤ rs) ∧ (∃ q10, FreN μ q10 ∧ (∃ cc12 ss13 : Nat, (cc12 ≤ rc - 1 ∧ ss13 ≤ rs - 4) ∧ CalS K_SB_init_da8c8 (d - 1) cc12 ss13 [.ref q10] (mkA μ q10 (1, 12)) (fun r μ15 => r = none ∧ (∃ cc16 ss17 : Nat, (cc16 ≤ rc - 1 - cc12 ∧ ss17 ≤ rs - 4 - ss13) ∧ (mS μ15 q10 = (1, 12) ∧ CalS K_SB_append_15ec4 (d - 1) cc16 ss17 [.ref q10, .ref (hd 1 46)] μ15 (fun r μ19 => ∃ b21, r = some (.ref b21) ∧ (∃ cc22 ss23 : Nat, (cc22 ≤ rc - 1 - cc12 - cc16 ∧ ss23 ≤ rs - 4 - ss13 - ss17) ∧ (mS μ19 b21 = (1, 12) ∧ CalS K_SB_append_bf812 (d - 1) cc22 ss23 [.ref b21, .int (gI μ a0 (6 : Int32).toNatClampNeg)] μ19 (fun r μ25 => ∃ b27, r = some (.ref b27) ∧ (∃ cc28 ss29 : Nat, (cc28 ≤ rc - 1 - cc12 - cc16 - cc22 ∧ ss29 ≤ rs - 4 - ss13 - ss17 - ss23) ∧ (mS μ25 b27 = (1, 12) ∧ CalS K_SB_append_15ec4 (d - 1) cc28 ss29 [.ref b27, .ref (hd 1 47)] μ25 (fun r μ31 => ∃ b33, r = some (.ref b33) ∧ (∃ cc34 ss35 : Nat, (cc34 ≤ rc - 1 - cc12 - cc16 - cc22 - cc28 ∧ ss35 ≤ rs - 4 - ss13 - ss17 - ss23 - ss29) ∧ (mS μ31 b33 = (1, 12) ∧ CalS K_SB_append_bf812 (d - 1) cc34 ss35 [.ref b33, .int (gI μ a0 (7 : Int32).toNatClampNeg)] μ31 (fun r μ37 => ∃ b39, r = some (.ref b39) ∧ (∃ cc40 ss41 : Nat, (cc40 ≤ rc - 1 - cc12 - cc16 - cc22 - cc28 - cc34 ∧ ss41 ≤ rs - 4 - ss13 - ss17 - ss23 - ss29 - ss35) ∧ (mS μ37 b39 = (1, 12) ∧ CalS K_SB_toString_0e30d (d - 1) cc40 ss41 [.ref b39] μ37 (fun r μ43 => ∃ b45, r = some (.ref b45) ∧ Q (some (.ref b45)) μ43)))))))))))))))))))) ∧ (((gI μ a0 (5 : Int32).toNatClampNeg) = 2) → ((1 ≤ rc ∧ 4 ≤ rs) ∧ (∃ q48, FreN μ q48 ∧ (∃ cc50 ss51 : Nat, (cc50 ≤ rc - 1 ∧ ss51 ≤ rs - 4) ∧ CalS K_SB_init_da8c8 (d - 1) cc50 ss51 [.ref q48] (mkA μ q48 (1, 12)) (fun r μ53 => r = none ∧ (∃ cc54 ss55 : Nat, (cc54 ≤ rc - 1 - cc50 ∧ ss55 ≤ rs - 4 - ss51) ∧ (mS μ53 q48 = (1, 12) ∧ CalS K_SB_append_15ec4 (d - 1) cc54 ss55 [.ref q48, .ref (hd 1 48)] μ53 (fun r μ57 => ∃ b59, r = some (.ref b59) ∧ (∃ cc60 ss61 : Nat, (cc60 ≤ rc - 1 - cc50 - cc54 ∧ ss61 ≤ rs - 4 - ss51 - ss55) ∧ (mS μ57 b59 = (1, 12) ∧ CalS K_SB_append_bf812 (d - 1) cc60 ss61 [.ref b59, .int (gI μ a0 (6 : Int32).toNatClampNeg)] μ57 (fun r μ63 => ∃ b65, r = some (.ref b65) ∧ (∃ cc66 ss67 : Nat, (cc66 ≤ rc - 1 - cc50 - cc54 - cc60 ∧ ss67 ≤ rs - 4 - ss51 - ss55 - ss61) ∧ (mS μ63 b65 = (1, 12) ∧ CalS K_SB_append_15ec4 (d - 1) cc66 ss67 [.ref b65, .ref (hd 1 47)] μ63 (fun r μ69 => ∃ b71, r = some (.ref b71) ∧ (∃ cc72 ss73 : Nat, (cc72 ≤ rc - 1 - cc50 - cc54 - cc60 - cc66 ∧ ss73 ≤ rs - 4 - ss51 - ss55 - ss61 - ss67) ∧ (mS μ69 b71 = (1, 12) ∧ CalS K_SB_append_bf812 (d - 1) cc72 ss73 [.ref b71, .int (gI μ a0 (7 : Int32).toNatClampNeg)] μ69 (fun r μ75 => ∃ b77, r = some (.ref b77) ∧ (∃ cc78 ss79 : Nat, (cc78 ≤ rc - 1 - cc50 - cc54 - cc60 - cc66 - cc72 ∧ ss79 ≤ rs - 4 - ss51 - ss55 - ss61 - ss67 - ss73) ∧ (mS μ75 b77 = (1, 12) ∧ CalS K_SB_append_15ec4 (d - 1) cc78 ss79 [.ref b77, .ref (hd 1 49)] μ75 (fun r μ81 => ∃ b83, r = some (.ref b83) ∧ (∃ cc84 ss85 : Nat, (cc84 ≤ rc - 1 - cc50 - cc54 - cc60 - cc66 - cc72 - cc78 ∧ ss85 ≤ rs - 4 - ss51 - ss55 - ss61 - ss67 - ss73 - ss79) ∧ (mS μ81 b83 = (1, 12) ∧ CalS K_SB_toString_0e30d (d - 1) cc84 ss85 [.ref b83] μ81 (fun r μ87 => ∃ b89, r = some (.ref b89) ∧ Q (some (.ref b89)) μ87))))))))))))))))))))))) ∧ (((gI μ a0 (5 : Int32).toNatClampNeg) = 3) → ((1 ≤ rc ∧ 4 ≤ rs) ∧ (∃ q92, FreN μ q92 ∧ (∃ cc94 ss95 : Nat, (cc94 ≤ rc - 1 ∧ ss95 ≤ rs - 4) ∧ CalS K_SB_init_da8c8 (d - 1) cc94 ss95 [.ref q92] (mkA μ q92 (1, 12)) (fun r μ97 => r = none ∧ (∃ cc98 ss99 : Nat, (cc98 ≤ rc - 1 - cc94 ∧ ss99 ≤ rs - 4 - ss95) ∧ (mS μ97 q92 = (1, 12) ∧ CalS K_SB_append_15ec4 (d - 1) cc98 ss99 [.ref q92, .ref (hd 1 50)] μ97 (fun r μ101 => ∃ b103, r = some (.ref b103) ∧ (∃ cc104 ss105 : Nat, (cc104 ≤ rc - 1 - cc94 - cc98 ∧ ss105 ≤ rs - 4 - ss95 - ss99) ∧ (mS μ101 b103 = (1, 12) ∧ CalS K_SB_append_bf812 (d - 1) cc104 ss105 [.ref b103, .int (gI μ a0 (6 : Int32).toNatClampNeg)] μ101 (fun r μ107 => ∃ b109, r = some (.ref b109) ∧ (∃ cc110 ss111 : Nat, (cc110 ≤ rc - 1 - cc94 - cc98 - cc104 ∧ ss111 ≤ rs - 4 - ss95 - ss99 - ss105) ∧ (mS μ107 b109 = (1, 12) ∧ CalS K_SB_append_15ec4 (d - 1) cc110 ss111 [.ref b109, .ref (hd 1 51)] μ107 (fun r μ113 => ∃ b115, r = some (.ref b115) ∧ (∃ cc116 ss117 : Nat, (cc116 ≤ rc - 1 - cc94 - cc98 - cc104 - cc110 ∧ ss117 ≤ rs - 4 - ss95 - ss99 - ss105 - ss111) ∧ (mS μ113 b115 = (1, 12) ∧ CalS K_SB_append_bf812 (d - 1) cc116 ss117 [.ref b115, .int (gI μ a0 (6 : Int32).toNatClampNeg)] μ113 (fun r μ119 => ∃ b121, r = some (.ref b121) ∧ (∃ cc122 ss123 : Nat, (cc122 ≤ rc - 1 - cc94 - cc98 - cc104 - cc110 - cc116 ∧ ss123 ≤ rs - 4 - ss95 - ss99 - ss105 - ss111 - ss117) ∧ (mS μ119 b121 = (1, 12) ∧ CalS K_SB_append_15ec4 (d - 1) cc122 ss123 [.ref b121, .ref (hd 1 52)] μ119 (fun r μ125 => ∃ b127, r = some (.ref b127) ∧ (∃ cc128 ss129 : Nat, (cc128 ≤ rc - 1 - cc94 - cc98 - cc104 - cc110 - cc116 - cc122 ∧ ss129 ≤ rs - 4 - ss95 - ss99 - ss105 - ss111 - ss117 - ss123) ∧ (mS μ125 b127 = (1, 12) ∧ CalS K_SB_append_bf812 (d - 1) cc128 ss129 [.ref b127, .int (gI μ a0 (7 : Int32).toNatClampNeg)] μ125 (fun r μ131 => ∃ b133, r = some (.ref b133) ∧ (∃ cc134 ss135 : Nat, (cc134 ≤ rc - 1 - cc94 - cc98 - cc104 - cc110 - cc116 - cc122 - cc128 ∧ ss135 ≤ rs - 4 - ss95 - ss99 - ss105 - ss111 - ss117 - ss123 - ss129) ∧ (mS μ131 b133 = (1, 12) ∧ CalS K_SB_toString_0e30d (d - 1) cc134 ss135 [.ref b133] μ131 (fun r μ137 => ∃ b139, r = some (.ref b139) ∧ Q (some (.ref b139)) μ137)))))))))))))))))))))))))) ∧ (((gI μ a0 (5 : Int32).toNatClampNeg) = 4) → ((1 ≤ rc ∧ 4 ≤ rs) ∧ (∃ q142, FreN μ q142 ∧ (∃ cc144 ss145 : Nat, (cc144 ≤ rc - 1 ∧ ss145 ≤ rs - 4) ∧ CalS K_SB_init_da8c8 (d - 1) cc144 ss145 [.ref q142] (mkA μ q142 (1, 12)) (fun r μ147 => r = none ∧ (∃ cc148 ss149 : Nat, (cc148 ≤ rc - 1 - cc144 ∧ ss149 ≤ rs - 4 - ss145) ∧ (mS μ147 q142 = (1, 12) ∧ CalS K_SB_append_15ec4 (d - 1) cc148 ss149 [.ref q142, .ref (hd 1 53)] μ147 (fun r μ151 => ∃ b153, r = some (.ref b153) ∧ (∃ cc154 ss155 : Nat, (cc154 ≤ rc - 1 - cc144 - cc148 ∧ ss155 ≤ rs - 4 - ss145 - ss149) ∧ (mS μ151 b153 = (1, 12) ∧ CalS K_SB_append_bf812 (d - 1) cc154 ss155 [.ref b153, .int (gI μ a0 (6 : Int32).toNatClampNeg)] μ151 (fun r μ157 => ∃ b159, r = some (.ref b159) ∧ (∃ cc160 ss161 : Nat, (cc160 ≤ rc - 1 - cc144 - cc148 - cc154 ∧ ss161 ≤ rs - 4 - ss145 - ss149 - ss155) ∧ (mS μ157 b159 = (1, 12) ∧ CalS K_SB_append_15ec4 (d - 1) cc160 ss161 [.ref b159, .ref (hd 1 54)] μ157 (fun r μ163 => ∃ b165, r = some (.ref b165) ∧ (∃ cc166 ss167 : Nat, (cc166 ≤ rc - 1 - cc144 - cc148 - cc154 - cc160 ∧ ss167 ≤ rs - 4 - ss145 - ss149 - ss155 - ss161) ∧ (mS μ163 b165 = (1, 12) ∧ CalS K_SB_append_bf812 (d - 1) cc166 ss167 [.ref b165, .int (gI μ a0 (7 : Int32).toNatClampNeg)] μ163 (fun r μ169 => ∃ b171, r = some (.ref b171) ∧ (∃ cc172 ss173 : Nat, (cc172 ≤ rc - 1 - cc144 - cc148 - cc154 - cc160 - cc166 ∧ ss173 ≤ rs - 4 - ss145 - ss149 - ss155 - ss161 - ss167) ∧ (mS μ169 b171 = (1, 12) ∧ CalS K_SB_append_15ec4 (d - 1) cc172 ss173 [.ref b171, .ref (hd 1 55)] μ169 (fun r μ175 => ∃ b177, r = some (.ref b177) ∧ (∃ cc178 ss179 : Nat, (cc178 ≤ rc - 1 - cc144 - cc148 - cc154 - cc160 - cc166 - cc172 ∧ ss179 ≤ rs - 4 - ss145 - ss149 - ss155 - ss161 - ss167 - ss173) ∧ (mS μ175 b177 = (1, 12) ∧ CalS K_SB_append_bf812 (d - 1) cc178 ss179 [.ref b177, .int (gI μ a0 (6 : Int32).toNatClampNeg)] μ175 (fun r μ181 => ∃ b183, r = some (.ref b183) ∧ (∃ cc184 ss185 : Nat, (cc184 ≤ rc - 1 - cc144 - cc148 - cc154 - cc160 - cc166 - cc172 - cc178 ∧ ss185 ≤ rs - 4 - ss145 - ss149 - ss155 - ss161 - ss167 - ss173 - ss179) ∧ (mS μ181 b183 = (1, 12) ∧ CalS K_SB_append_15ec4 (d - 1) cc184 ss185 [.ref b183, .ref (hd 1 56)] μ181 (fun r μ187 => ∃ b189, r = some (.ref b189) ∧ (∃ cc190 ss191 : Nat, (cc190 ≤ rc - 1 - cc144 - cc148 - cc154 - cc160 - cc166 - cc172 - cc178 - cc184 ∧ ss191 ≤ rs - 4 - ss145 - ss149 - ss155 - ss161 - ss167 - ss173 - ss179 - ss185) ∧ (mS μ187 b189 = (1, 12) ∧ CalS K_SB_toString_0e30d (d - 1) cc190 ss191 [.ref b189] μ187 (fun r μ193 => ∃ b195, r = some (.ref b195) ∧ Q (some (.ref b195)) μ193))))))))))))))))))))))))))))) ∧ (((gI μ a0 (5 : Int32).toNatClampNeg).toInt < 0 ∨ 4 < (gI μ a0 (5 : Int32).toNatClampNeg).toInt) → ((1 ≤ rc ∧ 4 ≤ rs) ∧ (∃ q198, FreN μ q198 ∧ (∃ cc200 ss201 : Nat, (cc200 ≤ rc - 1 ∧ ss201 ≤ rs - 4) ∧ CalS K_SB_init_da8c8 (d - 1) cc200 ss201 [.ref q198] (mkA μ q198 (1, 12)) (fun r μ203 => r = none ∧ (∃ cc204 ss205 : Nat, (cc204 ≤ rc - 1 - cc200 ∧ ss205 ≤ rs - 4 - ss201) ∧ (mS μ203 q198 = (1, 12) ∧ CalS K_SB_append_15ec4 (d - 1) cc204 ss205 [.ref q198, .ref (hd 1 57)] μ203 (fun r μ207 => ∃ b209, r = some (.ref b209) ∧ (∃ cc210 ss211 : Nat, (cc210 ≤ rc - 1 - cc200 - cc204 ∧ ss211 ≤ rs - 4 - ss201 - ss205) ∧ (mS μ207 b209 = (1, 12) ∧ CalS K_SB_append_bf812 (d - 1) cc210 ss211 [.ref b209, .int (gI μ a0 (6 : Int32).toNatClampNeg)] μ207 (fun r μ213 => ∃ b215, r = some (.ref b215) ∧ (∃ cc216 ss217 : Nat, (cc216 ≤ rc - 1 - cc200 - cc204 - cc210 ∧ ss217 ≤ rs - 4 - ss201 - ss205 - ss211) ∧ (mS μ213 b215 = (1, 12) ∧ CalS K_SB_append_15ec4 (d - 1) cc216 ss217 [.ref b215, .ref (hd 1 47)] μ213 (fun r μ219 => ∃ b221, r = some (.ref b221) ∧ (∃ cc222 ss223 : Nat, (cc222 ≤ rc - 1 - cc200 - cc204 - cc210 - cc216 ∧ ss223 ≤ rs - 4 - ss201 - ss205 - ss211 - ss217) ∧ (mS μ219 b221 = (1, 12) ∧ CalS K_SB_append_bf812 (d - 1) cc222 ss223 [.ref b221, .int (gI μ a0 (7 : Int32).toNatClampNeg)] μ219 (fun r μ225 => ∃ b227, r = some (.ref b227) ∧ (∃ cc228 ss229 : Nat, (cc228 ≤ rc - 1 - cc200 - cc204 - cc210 - cc216 - cc222 ∧ ss229 ≤ rs - 4 - ss201 - ss205 - ss211 - ss217 - ss223) ∧ (mS μ225 b227 = (1, 12) ∧ CalS K_SB_append_15ec4 (d - 1) cc228 ss229 [.ref b227, .ref (hd 1 58)] μ225 (fun r μ231 => ∃ b233, r = some (.ref b233) ∧ (∃ cc234 ss235 : Nat, (cc234 ≤ rc - 1 - cc200 - cc204 - cc210 - cc216 - cc222 - cc228 ∧ ss235 ≤ rs - 4 - ss201 - ss205 - ss211 - ss217 - ss223 - ss229) ∧ (mS μ231 b233 = (1, 12) ∧ CalS K_SB_append_bf812 (d - 1) cc234 ss235 [.ref b233, .int (gI μ a0 (6 : Int32).toNatClampNeg)] μ231 (fun r μ237 => ∃ b239, r = some (.ref b239) ∧ (∃ cc240 ss241 : Nat, (cc240 ≤ rc - 1 - cc200 - cc204 - cc210 - cc216 - cc222 - cc228 - cc234 ∧ ss241 ≤ rs - 4 - ss201 - ss205 - ss211 - ss217 - ss223 - ss229 - ss235) ∧ (mS μ237 b239 = (1, 12) ∧ CalS K_SB_append_15ec4 (d - 1) cc240 ss241 [.ref b239, .ref (hd 1 47)] μ237 (fun r μ243 => ∃ b245, r = some (.ref b245) ∧ (∃ cc246 ss247 : Nat, (cc246 ≤ rc - 1 - cc200 - cc204 - cc210 - cc216 - cc222 - cc228 - cc234 - cc240 ∧ ss247 ≤ rs - 4 - ss201 - ss205 - ss211 - ss217 - ss223 - ss229 - ss235 - ss241) ∧ (mS μ243 b245 = (1, 12) ∧ CalS K_SB_append_bf812 (d - 1) cc246 ss247 [.ref b245, .int (gI μ a0 (7 : Int32).toNatClampNeg)] μ243 (fun r μ249 => ∃ b251, r = some (.ref b251) ∧ (∃ cc252 ss253 : Nat, (cc252 ≤ rc - 1 - cc200 - cc204 - cc210 - cc216 - cc222 - cc228 - cc234 - cc240 - cc246 ∧ ss253 ≤ rs - 4 - ss201 - ss205 - ss211 - ss217 - ss223 - ss229 - ss235 - ss241 - ss247) ∧ (mS μ249 b251 = (1, 12) ∧ CalS K_SB_toString_0e30d (d - 1) cc252 ss253 [.ref b251] μ249 (fun r μ255 => ∃ b257, r = some (.ref b257) ∧ Q (some (.ref b257)) μ255))))))))))))))))))))))))))))))))))))) : Wx K_LW_test d rc rs Q 0 [(0, .ref a0)] [] μ := by
  refine Wa.aload_n (j := 0) d_LW_test_0 rfl ?_
  refine Wa.bipush (v := 6) d_LW_test_1 rfl ?_
  obtain ⟨n1, hc2, hF⟩ := hF
  refine Wa.iald d_LW_test_3 hc2.1 hc2.2 ?_
  refine Wa.istore_n (i := 1) (L' := [(1, .int (gI μ a0 (6 : Int32).toNatClampNeg)), (0, .ref a0)]) d_LW_test_4 rfl (by decide) rfl ?_
  refine Wa.aload_n (j := 1) d_LW_test_5 rfl ?_
  refine Wa.bipush (v := 7) d_LW_test_6 rfl ?_
  obtain ⟨n3, hc4, hF⟩ := hF
  refine Wa.iald d_LW_test_8 hc4.1 hc4.2 ?_
  refine Wa.istore_n (i := 2) (L' := [(2, .int (gI μ a0 (7 : Int32).toNatClampNeg)), (1, .int (gI μ a0 (6 : Int32).toNatClampNeg)), (0, .ref a0)]) d_LW_test_9 rfl (by decide) rfl ?_
  refine Wa.aload_n (j := 2) d_LW_test_10 rfl ?_
  refine Wa.iconst (v := 5) d_LW_test_11 rfl ?_
  obtain ⟨n5, hc6, hF⟩ := hF
  refine Wa.iald d_LW_test_12 hc6.1 hc6.2 ?_
  have k7 : ((gI μ a0 (5 : Int32).toNatClampNeg) = 0) → Wx K_LW_test d rc rs Q 48 [(2, .int (gI μ a0 (7 : Int32).toNatClampNeg)), (1, .int (gI μ a0 (6 : Int32).toNatClampNeg)), (0, .ref a0)] [] μ := by
    intro hb
    have hF := hF.1 hb
    refine Wa.ldcS 0 d_LW_test_48 (by decide) rfl rfl ?_
    exact Wx.reta d_LW_test_50 rfl hF
  have k8 : ((gI μ a0 (5 : Int32).toNatClampNeg) = 1) → Wx K_LW_test d rc rs Q 51 [(2, .int (gI μ a0 (7 : Int32).toNatClampNeg)), (1, .int (gI μ a0 (6 : Int32).toNatClampNeg)), (0, .ref a0)] [] μ := by
    intro hb
    have hF := hF.2.1 hb
    have hc9 := hF.1
    have hF := hF.2
    obtain ⟨q10, hc11, hF⟩ := hF
    refine Wa.new (q := E_SB) q10 12 d_LW_test_51 rfl ok_SB (by decide +kernel) cl_LW_34 hc9.1 hc9.2 hc11.1 hc11.2.rw ?_
    refine Wa.dup d_LW_test_54 rfl ?_
    obtain ⟨cc12, ss13, hc14, hF⟩ := hF
    refine Ws.cIv (As := []) (d - 1) cc12 ss13 _ d_LW_test_55 mok_SB_init_da8c8 rfl il_LW_36 rfl rfl (Nat.le_of_ble_eq_true rfl) (by omega) hc14.1 hc14.2 hF (fun μ15 hS hF => ?_)
    refine Wa.ldcS 1 d_LW_test_58 (by decide) rfl rfl ?_
    obtain ⟨cc16, ss17, hc18, hF⟩ := hF
    have hc20 := hF.1
    have hF := hF.2
    refine Ws.cVr (q := E_SB) (As := [.ref (hd 1 46)]) 12 (d - 1) cc16 ss17 _ d_LW_test_60 mok_SB_append_15ec4 vl_LW_39 rfl rfl rfl (Nat.le_of_ble_eq_true rfl) (by omega) hc18.1 hc18.2 hc20 hF (fun b21 μ19 hS hF => ?_)
    refine Wa.iload_n (j := 1) d_LW_test_63 rfl ?_
    obtain ⟨cc22, ss23, hc24, hF⟩ := hF
    have hc26 := hF.1
    have hF := hF.2
    refine Ws.cVr (q := E_SB) (As := [.int (gI μ a0 (6 : Int32).toNatClampNeg)]) 12 (d - 1) cc22 ss23 _ d_LW_test_64 mok_SB_append_bf812 vl_LW_43 rfl rfl rfl (Nat.le_of_ble_eq_true rfl) (by omega) hc24.1 hc24.2 hc26 hF (fun b27 μ25 hS hF => ?_)
    refine Wa.ldcS 2 d_LW_test_67 (by decide) rfl rfl ?_
    obtain ⟨cc28, ss29, hc30, hF⟩ := hF
    have hc32 := hF.1
    have hF := hF.2
    refine Ws.cVr (q := E_SB) (As := [.ref (hd 1 47)]) 12 (d - 1) cc28 ss29 _ d_LW_test_69 mok_SB_append_15ec4 vl_LW_39 rfl rfl rfl (Nat.le_of_ble_eq_true rfl) (by omega) hc30.1 hc30.2 hc32 hF (fun b33 μ31 hS hF => ?_)
    refine Wa.iload_n (j := 0) d_LW_test_72 rfl ?_
    obtain ⟨cc34, ss35, hc36, hF⟩ := hF
    have hc38 := hF.1
    have hF := hF.2
    refine Ws.cVr (q := E_SB) (As := [.int (gI μ a0 (7 : Int32).toNatClampNeg)]) 12 (d - 1) cc34 ss35 _ d_LW_test_73 mok_SB_append_bf812 vl_LW_43 rfl rfl rfl (Nat.le_of_ble_eq_true rfl) (by omega) hc36.1 hc36.2 hc38 hF (fun b39 μ37 hS hF => ?_)
    obtain ⟨cc40, ss41, hc42, hF⟩ := hF
    have hc44 := hF.1
    have hF := hF.2
    refine Ws.cVr (q := E_SB) (As := []) 12 (d - 1) cc40 ss41 _ d_LW_test_76 mok_SB_toString_0e30d vl_LW_48 rfl rfl rfl (Nat.le_of_ble_eq_true rfl) (by omega) hc42.1 hc42.2 hc44 hF (fun b45 μ43 hS hF => ?_)
    exact Wx.reta d_LW_test_79 rfl hF
  have k46 : ((gI μ a0 (5 : Int32).toNatClampNeg) = 2) → Wx K_LW_test d rc rs Q 80 [(2, .int (gI μ a0 (7 : Int32).toNatClampNeg)), (1, .int (gI μ a0 (6 : Int32).toNatClampNeg)), (0, .ref a0)] [] μ := by
    intro hb
    have hF := hF.2.2.1 hb
    have hc47 := hF.1
    have hF := hF.2
    obtain ⟨q48, hc49, hF⟩ := hF
    refine Wa.new (q := E_SB) q48 12 d_LW_test_80 rfl ok_SB (by decide +kernel) cl_LW_34 hc47.1 hc47.2 hc49.1 hc49.2.rw ?_
    refine Wa.dup d_LW_test_83 rfl ?_
    obtain ⟨cc50, ss51, hc52, hF⟩ := hF
    refine Ws.cIv (As := []) (d - 1) cc50 ss51 _ d_LW_test_84 mok_SB_init_da8c8 rfl il_LW_36 rfl rfl (Nat.le_of_ble_eq_true rfl) (by omega) hc52.1 hc52.2 hF (fun μ53 hS hF => ?_)
    refine Wa.ldcS 3 d_LW_test_87 (by decide) rfl rfl ?_
    obtain ⟨cc54, ss55, hc56, hF⟩ := hF
    have hc58 := hF.1
    have hF := hF.2
    refine Ws.cVr (q := E_SB) (As := [.ref (hd 1 48)]) 12 (d - 1) cc54 ss55 _ d_LW_test_89 mok_SB_append_15ec4 vl_LW_39 rfl rfl rfl (Nat.le_of_ble_eq_true rfl) (by omega) hc56.1 hc56.2 hc58 hF (fun b59 μ57 hS hF => ?_)
    refine Wa.iload_n (j := 1) d_LW_test_92 rfl ?_
    obtain ⟨cc60, ss61, hc62, hF⟩ := hF
    have hc64 := hF.1
    have hF := hF.2
    refine Ws.cVr (q := E_SB) (As := [.int (gI μ a0 (6 : Int32).toNatClampNeg)]) 12 (d - 1) cc60 ss61 _ d_LW_test_93 mok_SB_append_bf812 vl_LW_43 rfl rfl rfl (Nat.le_of_ble_eq_true rfl) (by omega) hc62.1 hc62.2 hc64 hF (fun b65 μ63 hS hF => ?_)
    refine Wa.ldcS 2 d_LW_test_96 (by decide) rfl rfl ?_
    obtain ⟨cc66, ss67, hc68, hF⟩ := hF
    have hc70 := hF.1
    have hF := hF.2
    refine Ws.cVr (q := E_SB) (As := [.ref (hd 1 47)]) 12 (d - 1) cc66 ss67 _ d_LW_test_98 mok_SB_append_15ec4 vl_LW_39 rfl rfl rfl (Nat.le_of_ble_eq_true rfl) (by omega) hc68.1 hc68.2 hc70 hF (fun b71 μ69 hS hF => ?_)
    refine Wa.iload_n (j := 0) d_LW_test_101 rfl ?_
    obtain ⟨cc72, ss73, hc74, hF⟩ := hF
    have hc76 := hF.1
    have hF := hF.2
    refine Ws.cVr (q := E_SB) (As := [.int (gI μ a0 (7 : Int32).toNatClampNeg)]) 12 (d - 1) cc72 ss73 _ d_LW_test_102 mok_SB_append_bf812 vl_LW_43 rfl rfl rfl (Nat.le_of_ble_eq_true rfl) (by omega) hc74.1 hc74.2 hc76 hF (fun b77 μ75 hS hF => ?_)
    refine Wa.ldcS 4 d_LW_test_105 (by decide) rfl rfl ?_
    obtain ⟨cc78, ss79, hc80, hF⟩ := hF
    have hc82 := hF.1
    have hF := hF.2
    refine Ws.cVr (q := E_SB) (As := [.ref (hd 1 49)]) 12 (d - 1) cc78 ss79 _ d_LW_test_107 mok_SB_append_15ec4 vl_LW_39 rfl rfl rfl (Nat.le_of_ble_eq_true rfl) (by omega) hc80.1 hc80.2 hc82 hF (fun b83 μ81 hS hF => ?_)
    obtain ⟨cc84, ss85, hc86, hF⟩ := hF
    have hc88 := hF.1
    have hF := hF.2
    refine Ws.cVr (q := E_SB) (As := []) 12 (d - 1) cc84 ss85 _ d_LW_test_110 mok_SB_toString_0e30d vl_LW_48 rfl rfl rfl (Nat.le_of_ble_eq_true rfl) (by omega) hc86.1 hc86.2 hc88 hF (fun b89 μ87 hS hF => ?_)
    exact Wx.reta d_LW_test_113 rfl hF
  have k90 : ((gI μ a0 (5 : Int32).toNatClampNeg) = 3) → Wx K_LW_test d rc rs Q 114 [(2, .int (gI μ a0 (7 : Int32).toNatClampNeg)), (1, .int (gI μ a0 (6 : Int32).toNatClampNeg)), (0, .ref a0)] [] μ := by
    intro hb
    have hF := hF.2.2.2.1 hb
    have hc91 := hF.1
    have hF := hF.2
    obtain ⟨q92, hc93, hF⟩ := hF
    refine Wa.new (q := E_SB) q92 12 d_LW_test_114 rfl ok_SB (by decide +kernel) cl_LW_34 hc91.1 hc91.2 hc93.1 hc93.2.rw ?_
    refine Wa.dup d_LW_test_117 rfl ?_
    obtain ⟨cc94, ss95, hc96, hF⟩ := hF
    refine Ws.cIv (As := []) (d - 1) cc94 ss95 _ d_LW_test_118 mok_SB_init_da8c8 rfl il_LW_36 rfl rfl (Nat.le_of_ble_eq_true rfl) (by omega) hc96.1 hc96.2 hF (fun μ97 hS hF => ?_)
    refine Wa.ldcS 5 d_LW_test_121 (by decide) rfl rfl ?_
    obtain ⟨cc98, ss99, hc100, hF⟩ := hF
    have hc102 := hF.1
    have hF := hF.2
    refine Ws.cVr (q := E_SB) (As := [.ref (hd 1 50)]) 12 (d - 1) cc98 ss99 _ d_LW_test_123 mok_SB_append_15ec4 vl_LW_39 rfl rfl rfl (Nat.le_of_ble_eq_true rfl) (by omega) hc100.1 hc100.2 hc102 hF (fun b103 μ101 hS hF => ?_)
    refine Wa.iload_n (j := 1) d_LW_test_126 rfl ?_
    obtain ⟨cc104, ss105, hc106, hF⟩ := hF
    have hc108 := hF.1
    have hF := hF.2
    refine Ws.cVr (q := E_SB) (As := [.int (gI μ a0 (6 : Int32).toNatClampNeg)]) 12 (d - 1) cc104 ss105 _ d_LW_test_127 mok_SB_append_bf812 vl_LW_43 rfl rfl rfl (Nat.le_of_ble_eq_true rfl) (by omega) hc106.1 hc106.2 hc108 hF (fun b109 μ107 hS hF => ?_)
    refine Wa.ldcS 6 d_LW_test_130 (by decide) rfl rfl ?_
    obtain ⟨cc110, ss111, hc112, hF⟩ := hF
    have hc114 := hF.1
    have hF := hF.2
    refine Ws.cVr (q := E_SB) (As := [.ref (hd 1 51)]) 12 (d - 1) cc110 ss111 _ d_LW_test_132 mok_SB_append_15ec4 vl_LW_39 rfl rfl rfl (Nat.le_of_ble_eq_true rfl) (by omega) hc112.1 hc112.2 hc114 hF (fun b115 μ113 hS hF => ?_)
    refine Wa.iload_n (j := 1) d_LW_test_135 rfl ?_
    obtain ⟨cc116, ss117, hc118, hF⟩ := hF
    have hc120 := hF.1
    have hF := hF.2
    refine Ws.cVr (q := E_SB) (As := [.int (gI μ a0 (6 : Int32).toNatClampNeg)]) 12 (d - 1) cc116 ss117 _ d_LW_test_136 mok_SB_append_bf812 vl_LW_43 rfl rfl rfl (Nat.le_of_ble_eq_true rfl) (by omega) hc118.1 hc118.2 hc120 hF (fun b121 μ119 hS hF => ?_)
    refine Wa.ldcS 7 d_LW_test_139 (by decide) rfl rfl ?_
    obtain ⟨cc122, ss123, hc124, hF⟩ := hF
    have hc126 := hF.1
    have hF := hF.2
    refine Ws.cVr (q := E_SB) (As := [.ref (hd 1 52)]) 12 (d - 1) cc122 ss123 _ d_LW_test_141 mok_SB_append_15ec4 vl_LW_39 rfl rfl rfl (Nat.le_of_ble_eq_true rfl) (by omega) hc124.1 hc124.2 hc126 hF (fun b127 μ125 hS hF => ?_)
    refine Wa.iload_n (j := 0) d_LW_test_144 rfl ?_
    obtain ⟨cc128, ss129, hc130, hF⟩ := hF
    have hc132 := hF.1
    have hF := hF.2
    refine Ws.cVr (q := E_SB) (As := [.int (gI μ a0 (7 : Int32).toNatClampNeg)]) 12 (d - 1) cc128 ss129 _ d_LW_test_145 mok_SB_append_bf812 vl_LW_43 rfl rfl rfl (Nat.le_of_ble_eq_true rfl) (by omega) hc130.1 hc130.2 hc132 hF (fun b133 μ131 hS hF => ?_)
    obtain ⟨cc134, ss135, hc136, hF⟩ := hF
    have hc138 := hF.1
    have hF := hF.2
    refine Ws.cVr (q := E_SB) (As := []) 12 (d - 1) cc134 ss135 _ d_LW_test_148 mok_SB_toString_0e30d vl_LW_48 rfl rfl rfl (Nat.le_of_ble_eq_true rfl) (by omega) hc136.1 hc136.2 hc138 hF (fun b139 μ137 hS hF => ?_)
    exact Wx.reta d_LW_test_151 rfl hF
  have k140 : ((gI μ a0 (5 : Int32).toNatClampNeg) = 4) → Wx K_LW_test d rc rs Q 152 [(2, .int (gI μ a0 (7 : Int32).toNatClampNeg)), (1, .int (gI μ a0 (6 : Int32).toNatClampNeg)), (0, .ref a0)] [] μ := by
    intro hb
    have hF := hF.2.2.2.2.1 hb
    have hc141 := hF.1
    have hF := hF.2
    obtain ⟨q142, hc143, hF⟩ := hF
    refine Wa.new (q := E_SB) q142 12 d_LW_test_152 rfl ok_SB (by decide +kernel) cl_LW_34 hc141.1 hc141.2 hc143.1 hc143.2.rw ?_
    refine Wa.dup d_LW_test_155 rfl ?_
    obtain ⟨cc144, ss145, hc146, hF⟩ := hF
    refine Ws.cIv (As := []) (d - 1) cc144 ss145 _ d_LW_test_156 mok_SB_init_da8c8 rfl il_LW_36 rfl rfl (Nat.le_of_ble_eq_true rfl) (by omega) hc146.1 hc146.2 hF (fun μ147 hS hF => ?_)
    refine Wa.ldcS 8 d_LW_test_159 (by decide) rfl rfl ?_
    obtain ⟨cc148, ss149, hc150, hF⟩ := hF
    have hc152 := hF.1
    have hF := hF.2
    refine Ws.cVr (q := E_SB) (As := [.ref (hd 1 53)]) 12 (d - 1) cc148 ss149 _ d_LW_test_161 mok_SB_append_15ec4 vl_LW_39 rfl rfl rfl (Nat.le_of_ble_eq_true rfl) (by omega) hc150.1 hc150.2 hc152 hF (fun b153 μ151 hS hF => ?_)
    refine Wa.iload_n (j := 1) d_LW_test_164 rfl ?_
    obtain ⟨cc154, ss155, hc156, hF⟩ := hF
    have hc158 := hF.1
    have hF := hF.2
    refine Ws.cVr (q := E_SB) (As := [.int (gI μ a0 (6 : Int32).toNatClampNeg)]) 12 (d - 1) cc154 ss155 _ d_LW_test_165 mok_SB_append_bf812 vl_LW_43 rfl rfl rfl (Nat.le_of_ble_eq_true rfl) (by omega) hc156.1 hc156.2 hc158 hF (fun b159 μ157 hS hF => ?_)
    refine Wa.ldcS 9 d_LW_test_168 (by decide) rfl rfl ?_
    obtain ⟨cc160, ss161, hc162, hF⟩ := hF
    have hc164 := hF.1
    have hF := hF.2
    refine Ws.cVr (q := E_SB) (As := [.ref (hd 1 54)]) 12 (d - 1) cc160 ss161 _ d_LW_test_170 mok_SB_append_15ec4 vl_LW_39 rfl rfl rfl (Nat.le_of_ble_eq_true rfl) (by omega) hc162.1 hc162.2 hc164 hF (fun b165 μ163 hS hF => ?_)
    refine Wa.iload_n (j := 0) d_LW_test_173 rfl ?_
    obtain ⟨cc166, ss167, hc168, hF⟩ := hF
    have hc170 := hF.1
    have hF := hF.2
    refine Ws.cVr (q := E_SB) (As := [.int (gI μ a0 (7 : Int32).toNatClampNeg)]) 12 (d - 1) cc166 ss167 _ d_LW_test_174 mok_SB_append_bf812 vl_LW_43 rfl rfl rfl (Nat.le_of_ble_eq_true rfl) (by omega) hc168.1 hc168.2 hc170 hF (fun b171 μ169 hS hF => ?_)
    refine Wa.ldcS 10 d_LW_test_177 (by decide) rfl rfl ?_
    obtain ⟨cc172, ss173, hc174, hF⟩ := hF
    have hc176 := hF.1
    have hF := hF.2
    refine Ws.cVr (q := E_SB) (As := [.ref (hd 1 55)]) 12 (d - 1) cc172 ss173 _ d_LW_test_179 mok_SB_append_15ec4 vl_LW_39 rfl rfl rfl (Nat.le_of_ble_eq_true rfl) (by omega) hc174.1 hc174.2 hc176 hF (fun b177 μ175 hS hF => ?_)
    refine Wa.iload_n (j := 1) d_LW_test_182 rfl ?_
    obtain ⟨cc178, ss179, hc180, hF⟩ := hF
    have hc182 := hF.1
    have hF := hF.2
    refine Ws.cVr (q := E_SB) (As := [.int (gI μ a0 (6 : Int32).toNatClampNeg)]) 12 (d - 1) cc178 ss179 _ d_LW_test_183 mok_SB_append_bf812 vl_LW_43 rfl rfl rfl (Nat.le_of_ble_eq_true rfl) (by omega) hc180.1 hc180.2 hc182 hF (fun b183 μ181 hS hF => ?_)
    refine Wa.ldcS 11 d_LW_test_186 (by decide) rfl rfl ?_
    obtain ⟨cc184, ss185, hc186, hF⟩ := hF
    have hc188 := hF.1
    have hF := hF.2
    refine Ws.cVr (q := E_SB) (As := [.ref (hd 1 56)]) 12 (d - 1) cc184 ss185 _ d_LW_test_188 mok_SB_append_15ec4 vl_LW_39 rfl rfl rfl (Nat.le_of_ble_eq_true rfl) (by omega) hc186.1 hc186.2 hc188 hF (fun b189 μ187 hS hF => ?_)
    obtain ⟨cc190, ss191, hc192, hF⟩ := hF
    have hc194 := hF.1
    have hF := hF.2
    refine Ws.cVr (q := E_SB) (As := []) 12 (d - 1) cc190 ss191 _ d_LW_test_191 mok_SB_toString_0e30d vl_LW_48 rfl rfl rfl (Nat.le_of_ble_eq_true rfl) (by omega) hc192.1 hc192.2 hc194 hF (fun b195 μ193 hS hF => ?_)
    exact Wx.reta d_LW_test_194 rfl hF
  have k196 : ((gI μ a0 (5 : Int32).toNatClampNeg).toInt < 0 ∨ 4 < (gI μ a0 (5 : Int32).toNatClampNeg).toInt) → Wx K_LW_test d rc rs Q 195 [(2, .int (gI μ a0 (7 : Int32).toNatClampNeg)), (1, .int (gI μ a0 (6 : Int32).toNatClampNeg)), (0, .ref a0)] [] μ := by
    intro hb
    have hF := hF.2.2.2.2.2 hb
    have hc197 := hF.1
    have hF := hF.2
    obtain ⟨q198, hc199, hF⟩ := hF
    refine Wa.new (q := E_SB) q198 12 d_LW_test_195 rfl ok_SB (by decide +kernel) cl_LW_34 hc197.1 hc197.2 hc199.1 hc199.2.rw ?_
    refine Wa.dup d_LW_test_198 rfl ?_
    obtain ⟨cc200, ss201, hc202, hF⟩ := hF
    refine Ws.cIv (As := []) (d - 1) cc200 ss201 _ d_LW_test_199 mok_SB_init_da8c8 rfl il_LW_36 rfl rfl (Nat.le_of_ble_eq_true rfl) (by omega) hc202.1 hc202.2 hF (fun μ203 hS hF => ?_)
    refine Wa.ldcS 12 d_LW_test_202 (by decide) rfl rfl ?_
    obtain ⟨cc204, ss205, hc206, hF⟩ := hF
    have hc208 := hF.1
    have hF := hF.2
    refine Ws.cVr (q := E_SB) (As := [.ref (hd 1 57)]) 12 (d - 1) cc204 ss205 _ d_LW_test_204 mok_SB_append_15ec4 vl_LW_39 rfl rfl rfl (Nat.le_of_ble_eq_true rfl) (by omega) hc206.1 hc206.2 hc208 hF (fun b209 μ207 hS hF => ?_)
    refine Wa.iload_n (j := 1) d_LW_test_207 rfl ?_
    obtain ⟨cc210, ss211, hc212, hF⟩ := hF
    have hc214 := hF.1
    have hF := hF.2
    refine Ws.cVr (q := E_SB) (As := [.int (gI μ a0 (6 : Int32).toNatClampNeg)]) 12 (d - 1) cc210 ss211 _ d_LW_test_208 mok_SB_append_bf812 vl_LW_43 rfl rfl rfl (Nat.le_of_ble_eq_true rfl) (by omega) hc212.1 hc212.2 hc214 hF (fun b215 μ213 hS hF => ?_)
    refine Wa.ldcS 2 d_LW_test_211 (by decide) rfl rfl ?_
    obtain ⟨cc216, ss217, hc218, hF⟩ := hF
    have hc220 := hF.1
    have hF := hF.2
    refine Ws.cVr (q := E_SB) (As := [.ref (hd 1 47)]) 12 (d - 1) cc216 ss217 _ d_LW_test_213 mok_SB_append_15ec4 vl_LW_39 rfl rfl rfl (Nat.le_of_ble_eq_true rfl) (by omega) hc218.1 hc218.2 hc220 hF (fun b221 μ219 hS hF => ?_)
    refine Wa.iload_n (j := 0) d_LW_test_216 rfl ?_
    obtain ⟨cc222, ss223, hc224, hF⟩ := hF
    have hc226 := hF.1
    have hF := hF.2
    refine Ws.cVr (q := E_SB) (As := [.int (gI μ a0 (7 : Int32).toNatClampNeg)]) 12 (d - 1) cc222 ss223 _ d_LW_test_217 mok_SB_append_bf812 vl_LW_43 rfl rfl rfl (Nat.le_of_ble_eq_true rfl) (by omega) hc224.1 hc224.2 hc226 hF (fun b227 μ225 hS hF => ?_)
    refine Wa.ldcS 13 d_LW_test_220 (by decide) rfl rfl ?_
    obtain ⟨cc228, ss229, hc230, hF⟩ := hF
    have hc232 := hF.1
    have hF := hF.2
    refine Ws.cVr (q := E_SB) (As := [.ref (hd 1 58)]) 12 (d - 1) cc228 ss229 _ d_LW_test_222 mok_SB_append_15ec4 vl_LW_39 rfl rfl rfl (Nat.le_of_ble_eq_true rfl) (by omega) hc230.1 hc230.2 hc232 hF (fun b233 μ231 hS hF => ?_)
    refine Wa.iload_n (j := 1) d_LW_test_225 rfl ?_
    obtain ⟨cc234, ss235, hc236, hF⟩ := hF
    have hc238 := hF.1
    have hF := hF.2
    refine Ws.cVr (q := E_SB) (As := [.int (gI μ a0 (6 : Int32).toNatClampNeg)]) 12 (d - 1) cc234 ss235 _ d_LW_test_226 mok_SB_append_bf812 vl_LW_43 rfl rfl rfl (Nat.le_of_ble_eq_true rfl) (by omega) hc236.1 hc236.2 hc238 hF (fun b239 μ237 hS hF => ?_)
    refine Wa.ldcS 2 d_LW_test_229 (by decide) rfl rfl ?_
    obtain ⟨cc240, ss241, hc242, hF⟩ := hF
    have hc244 := hF.1
    have hF := hF.2
    refine Ws.cVr (q := E_SB) (As := [.ref (hd 1 47)]) 12 (d - 1) cc240 ss241 _ d_LW_test_231 mok_SB_append_15ec4 vl_LW_39 rfl rfl rfl (Nat.le_of_ble_eq_true rfl) (by omega) hc242.1 hc242.2 hc244 hF (fun b245 μ243 hS hF => ?_)
    refine Wa.iload_n (j := 0) d_LW_test_234 rfl ?_
    obtain ⟨cc246, ss247, hc248, hF⟩ := hF
    have hc250 := hF.1
    have hF := hF.2
    refine Ws.cVr (q := E_SB) (As := [.int (gI μ a0 (7 : Int32).toNatClampNeg)]) 12 (d - 1) cc246 ss247 _ d_LW_test_235 mok_SB_append_bf812 vl_LW_43 rfl rfl rfl (Nat.le_of_ble_eq_true rfl) (by omega) hc248.1 hc248.2 hc250 hF (fun b251 μ249 hS hF => ?_)
    obtain ⟨cc252, ss253, hc254, hF⟩ := hF
    have hc256 := hF.1
    have hF := hF.2
    refine Ws.cVr (q := E_SB) (As := []) 12 (d - 1) cc252 ss253 _ d_LW_test_238 mok_SB_toString_0e30d vl_LW_48 rfl rfl rfl (Nat.le_of_ble_eq_true rfl) (by omega) hc254.1 hc254.2 hc256 hF (fun b257 μ255 hS hF => ?_)
    exact Wx.reta d_LW_test_241 rfl hF
  rcases sw_0_4 (gI μ a0 (5 : Int32).toNatClampNeg) with hb | hb | hb | hb | hb | hb | hb
  · exact Wa.tabOut 195 d_LW_test_13 (Or.inl hb) (by decide) (k196 (Or.inl hb))
  · exact Wa.tabOut 195 d_LW_test_13 (Or.inr hb) (by decide) (k196 (Or.inr hb))
  · exact Wa.tabIn 48 d_LW_test_13 (by rw [hb]; decide) (by rw [hb]; decide) (by rw [hb]; rfl) (by decide) (k7 hb)
  · exact Wa.tabIn 51 d_LW_test_13 (by rw [hb]; decide) (by rw [hb]; decide) (by rw [hb]; rfl) (by decide) (k8 hb)
  · exact Wa.tabIn 80 d_LW_test_13 (by rw [hb]; decide) (by rw [hb]; decide) (by rw [hb]; rfl) (by decide) (k46 hb)
  · exact Wa.tabIn 114 d_LW_test_13 (by rw [hb]; decide) (by rw [hb]; decide) (by rw [hb]; rfl) (by decide) (k90 hb)
  · exact Wa.tabIn 152 d_LW_test_13 (by rw [hb]; decide) (by rw [hb]; decide) (by rw [hb]; rfl) (by decide) (k140 hb)
theorem z_LW_test {d rc rs : Nat} {Q : Option Value → Mu → Prop} {μ : Mu} {a0 : Nat} (hk : Wx K_LW_test d rc rs (fun r μ' => S8 μ' ∧ Q r μ') 0 [(0, .ref a0)] [] μ) : CalS K_LW_test d rc rs [.ref a0] μ Q := CalS.of (by decide +kernel) rfl rfl (Nat.le_of_ble_eq_true rfl) rfl hk
set_option maxHeartbeats 4000000 in
set_option maxRecDepth 20000 in
theorem y_LW_sum_0 {d rc rs : Nat} {Q : Option Value → Mu → Prop} {μ : Mu} {a0 : Nat} (hD : 1 ≤ d)
    (hF : (∃ n1, (mS μ a0 = (2, n1) ∧ vp_in (3 : Int32) n1) ∧ (((gI μ a0 (3 : Int32).toNatClampNeg) = 0 → ((1 ≤ rc ∧ 4 ≤ rs) ∧ (∃ q88, FreN μ q88 ∧ (∃ cc90 ss91 : Nat, (cc90 ≤ rc - 1 ∧ ss91 ≤ rs - 4) ∧ CalS K_SB_init_da8c8 (d - 1) cc90 ss91 [.ref q88] (mkA μ q88 (1, 12)) (fun r μ93 => r = none ∧ (∃ cc94 ss95 : Nat, (cc94 ≤ rc - 1 - cc90 ∧ ss95 ≤ rs - 4 - ss91) ∧ (mS μ93 q88 = (1, 12) ∧ CalS K_SB_append_15ec4 (d - 1) cc94 ss95 [.ref q88, .ref (hd 1 45)] μ93 (fun r μ97 => ∃ b99, r = some (.ref b99) ∧ (∃ n100, (mS μ97 a0 = (2, n100) ∧ vp_in (4 : Int32) n100) ∧ (∃ cc102 ss103 : Nat, (cc102 ≤ rc - 1 - cc90 - cc94 ∧ ss103 ≤ rs - 4 - ss91 - ss95) ∧ (mS μ97 b99 = (1, 12) ∧ CalS K_SB_append_bf812 (d - 1) cc102 ss103 [.ref b99, .int (gI μ97 a0 (4 : Int32).toNatClampNeg)] μ97 (fun r μ105 => ∃ b107, r = some (.ref b107) ∧ (∃ cc108 ss109 : Nat, (cc108 ≤ rc - 1 - cc90 - cc94 - cc102 ∧ ss109 ≤ rs - 4 - ss91 - ss95 - ss103) ∧ (mS μ105 b107 = (1, 12) ∧ CalS K_SB_toString_0e30d (d - 1) cc108 ss109 [.ref b107] μ105 (fun r μ111 => ∃ b113, r = some (.ref b113) ∧ Q (some (.ref b113)) μ111))))))))))))))) ∧ (¬ (gI μ a0 (3 : Int32).toNatClampNeg) = 0 → (∃ n3, (mS μ a0 = (2, n3) ∧ vp_in (3 : Int32) n3) ∧ (((gI μ a0 (3 : Int32).toNatClampNeg) = 1 → ((1 ≤ rc ∧ 4 ≤ rs) ∧ (∃ q61, FreN μ q61 ∧ (∃ cc63 ss64 : Nat, (cc63 ≤ rc - 1 ∧ ss64 ≤ rs - 4) ∧ CalS K_SB_init_da8c8 (d - 1) cc63 ss64 [.ref q61] (mkA μ q61 (1, 12)) (fun r μ66 => r = none ∧ (∃ cc67 ss68 : Nat, (cc67 ≤ rc - 1 - cc63 ∧ ss68 ≤ rs - 4 - ss64) ∧ (mS μ66 q61 = (1, 12) ∧ CalS K_SB_append_15ec4 (d - 1) cc67 ss68 [.ref q61, .ref (hd 1 59)] μ66 (fun r μ70 => ∃ b72, r = some (.ref b72) ∧ (∃ n73, (mS μ70 a0 = (2, n73) ∧ vp_in (4 : Int32) n73) ∧ (∃ cc75 ss76 : Nat, (cc75 ≤ rc - 1 - cc63 - cc67 ∧ ss76 ≤ rs - 4 - ss64 - ss68) ∧ (mS μ70 b72 = (1, 12) ∧ CalS K_SB_append_bf812 (d - 1) cc75 ss76 [.ref b72, .int (gI μ70 a0 (4 : Int32).toNatClampNeg)] μ70 (fun r μ78 => ∃ b80, r = some (.ref b80) ∧ (∃ cc81 ss82 : Nat, (cc81 ≤ rc - 1 - cc63 - cc67 - cc75 ∧ ss82 ≤ rs - 4 - ss64 - ss68 - ss76) ∧ (mS μ78 b80 = (1, 12) ∧ CalS K_SB_toString_0e30d (d - 1) cc81 ss82 [.ref b80] μ78 (fun r μ84 => ∃ b86, r = some (.ref b86) ∧ Q (some (.ref b86)) μ84))))))))))))))) ∧ (¬ (gI μ a0 (3 : Int32).toNatClampNeg) = 1 → ((1 ≤ rc ∧ 4 ≤ rs) ∧ (∃ q6, FreN μ q6 ∧ (∃ cc8 ss9 : Nat, (cc8 ≤ rc - 1 ∧ ss9 ≤ rs - 4) ∧ CalS K_SB_init_da8c8 (d - 1) cc8 ss9 [.ref q6] (mkA μ q6 (1, 12)) (fun r μ11 => r = none ∧ (∃ n12, (mS μ11 a0 = (2, n12) ∧ vp_in (4 : Int32) n12) ∧ (∃ cc14 ss15 : Nat, (cc14 ≤ rc - 1 - cc8 ∧ ss15 ≤ rs - 4 - ss9) ∧ (mS μ11 q6 = (1, 12) ∧ CalS K_SB_append_bf812 (d - 1) cc14 ss15 [.ref q6, .int (gI μ11 a0 (4 : Int32).toNatClampNeg)] μ11 (fun r μ17 => ∃ b19, r = some (.ref b19) ∧ (∃ cc20 ss21 : Nat, (cc20 ≤ rc - 1 - cc8 - cc14 ∧ ss21 ≤ rs - 4 - ss9 - ss15) ∧ (mS μ17 b19 = (1, 12) ∧ CalS K_SB_append_15ec4 (d - 1) cc20 ss21 [.ref b19, .ref (hd 1 60)] μ17 (fun r μ23 => ∃ b25, r = some (.ref b25) ∧ (∃ n26, (mS μ23 a0 = (2, n26) ∧ vp_in (1 : Int32) n26) ∧ (∃ cc28 ss29 : Nat, (cc28 ≤ rc - 1 - cc8 - cc14 - cc20 ∧ ss29 ≤ rs - 4 - ss9 - ss15 - ss21) ∧ (mS μ23 b25 = (1, 12) ∧ CalS K_SB_append_bf812 (d - 1) cc28 ss29 [.ref b25, .int (gI μ23 a0 (1 : Int32).toNatClampNeg)] μ23 (fun r μ31 => ∃ b33, r = some (.ref b33) ∧ (∃ cc34 ss35 : Nat, (cc34 ≤ rc - 1 - cc8 - cc14 - cc20 - cc28 ∧ ss35 ≤ rs - 4 - ss9 - ss15 - ss21 - ss29) ∧ (mS μ31 b33 = (1, 12) ∧ CalS K_SB_append_15ec4 (d - 1) cc34 ss35 [.ref b33, .ref (hd 1 47)] μ31 (fun r μ37 => ∃ b39, r = some (.ref b39) ∧ (∃ n40, (mS μ37 a0 = (2, n40) ∧ vp_in (2 : Int32) n40) ∧ (∃ cc42 ss43 : Nat, (cc42 ≤ rc - 1 - cc8 - cc14 - cc20 - cc28 - cc34 ∧ ss43 ≤ rs - 4 - ss9 - ss15 - ss21 - ss29 - ss35) ∧ (mS μ37 b39 = (1, 12) ∧ CalS K_SB_append_bf812 (d - 1) cc42 ss43 [.ref b39, .int (gI μ37 a0 (2 : Int32).toNatClampNeg)] μ37 (fun r μ45 => ∃ b47, r = some (.ref b47) ∧ (∃ cc48 ss49 : Nat, (cc48 ≤ rc - 1 - cc8 - cc14 - cc20 - cc28 - cc34 - cc42 ∧ ss49 ≤ rs - 4 - ss9 - ss15 - ss21 - ss29 - ss35 - ss43) ∧ (mS μ45 b47 = (1, 12) ∧ CalS K_SB_append_15ec4 (d - 1) cc48 ss49 [.ref b47, .ref (hd 1 61)] μ45 (fun r μ51 => ∃ b53, r = some (.ref b53) ∧ (∃ cc54 ss55 : Nat, (cc54 ≤ rc - 1 - cc8 - cc14 - cc20 - cc28 - cc34 - cc42 - cc48 ∧ ss55 ≤ rs - 4 - ss9 - ss15 - ss21 - ss29 - ss35 - ss43 - ss49) ∧ (mS μ51 b53 = (1, 12) ∧ CalS K_SB_toString_0e30d (d - 1) cc54 ss55 [.ref b53] μ51 (fun r μ57 => ∃ b59, r = some (.ref b59) ∧ Q (some (.ref b59)) μ57))))))))))))))))))))))))))))))))))) : Wx K_LW_sum d rc rs Q 0 [(0, .ref a0)] [] μ := by
  refine Wa.aload_n (j := 0) d_LW_sum_0 rfl ?_
  refine Wa.iconst (v := 3) d_LW_sum_1 rfl ?_
  obtain ⟨n1, hc2, hF⟩ := hF
  refine Wa.iald d_LW_sum_2 hc2.1 hc2.2 ?_
  refine Wa.if_ne 30 d_LW_sum_3 (by decide) (fun hb => ?_) (fun hb => ?_)
  · have hF := hF.2 hb
    refine Wa.aload_n (j := 0) d_LW_sum_30 rfl ?_
    refine Wa.iconst (v := 3) d_LW_sum_31 rfl ?_
    obtain ⟨n3, hc4, hF⟩ := hF
    refine Wa.iald d_LW_sum_32 hc4.1 hc4.2 ?_
    refine Wa.iconst (v := 1) d_LW_sum_33 rfl ?_
    refine Wa.icmp_ne 61 d_LW_sum_34 (by decide) (fun hb => ?_) (fun hb => ?_)
    · have hF := hF.2 hb
      have hc5 := hF.1
      have hF := hF.2
      obtain ⟨q6, hc7, hF⟩ := hF
      refine Wa.new (q := E_SB) q6 12 d_LW_sum_61 rfl ok_SB (by decide +kernel) cl_LW_34 hc5.1 hc5.2 hc7.1 hc7.2.rw ?_
      refine Wa.dup d_LW_sum_64 rfl ?_
      obtain ⟨cc8, ss9, hc10, hF⟩ := hF
      refine Ws.cIv (As := []) (d - 1) cc8 ss9 _ d_LW_sum_65 mok_SB_init_da8c8 rfl il_LW_36 rfl rfl (Nat.le_of_ble_eq_true rfl) (by omega) hc10.1 hc10.2 hF (fun μ11 hS hF => ?_)
      refine Wa.aload_n (j := 0) d_LW_sum_68 rfl ?_
      refine Wa.iconst (v := 4) d_LW_sum_69 rfl ?_
      obtain ⟨n12, hc13, hF⟩ := hF
      refine Wa.iald d_LW_sum_70 hc13.1 hc13.2 ?_
      obtain ⟨cc14, ss15, hc16, hF⟩ := hF
      have hc18 := hF.1
      have hF := hF.2
      refine Ws.cVr (q := E_SB) (As := [.int (gI μ11 a0 (4 : Int32).toNatClampNeg)]) 12 (d - 1) cc14 ss15 _ d_LW_sum_71 mok_SB_append_bf812 vl_LW_43 rfl rfl rfl (Nat.le_of_ble_eq_true rfl) (by omega) hc16.1 hc16.2 hc18 hF (fun b19 μ17 hS hF => ?_)
      refine Wa.ldcS 15 d_LW_sum_74 (by decide) rfl rfl ?_
      obtain ⟨cc20, ss21, hc22, hF⟩ := hF
      have hc24 := hF.1
      have hF := hF.2
      refine Ws.cVr (q := E_SB) (As := [.ref (hd 1 60)]) 12 (d - 1) cc20 ss21 _ d_LW_sum_76 mok_SB_append_15ec4 vl_LW_39 rfl rfl rfl (Nat.le_of_ble_eq_true rfl) (by omega) hc22.1 hc22.2 hc24 hF (fun b25 μ23 hS hF => ?_)
      refine Wa.aload_n (j := 0) d_LW_sum_79 rfl ?_
      refine Wa.iconst (v := 1) d_LW_sum_80 rfl ?_
      obtain ⟨n26, hc27, hF⟩ := hF
      refine Wa.iald d_LW_sum_81 hc27.1 hc27.2 ?_
      obtain ⟨cc28, ss29, hc30, hF⟩ := hF
      have hc32 := hF.1
      have hF := hF.2
      refine Ws.cVr (q := E_SB) (As := [.int (gI μ23 a0 (1 : Int32).toNatClampNeg)]) 12 (d - 1) cc28 ss29 _ d_LW_sum_82 mok_SB_append_bf812 vl_LW_43 rfl rfl rfl (Nat.le_of_ble_eq_true rfl) (by omega) hc30.1 hc30.2 hc32 hF (fun b33 μ31 hS hF => ?_)
      refine Wa.ldcS 2 d_LW_sum_85 (by decide) rfl rfl ?_
      obtain ⟨cc34, ss35, hc36, hF⟩ := hF
      have hc38 := hF.1
      have hF := hF.2
      refine Ws.cVr (q := E_SB) (As := [.ref (hd 1 47)]) 12 (d - 1) cc34 ss35 _ d_LW_sum_87 mok_SB_append_15ec4 vl_LW_39 rfl rfl rfl (Nat.le_of_ble_eq_true rfl) (by omega) hc36.1 hc36.2 hc38 hF (fun b39 μ37 hS hF => ?_)
      refine Wa.aload_n (j := 0) d_LW_sum_90 rfl ?_
      refine Wa.iconst (v := 2) d_LW_sum_91 rfl ?_
      obtain ⟨n40, hc41, hF⟩ := hF
      refine Wa.iald d_LW_sum_92 hc41.1 hc41.2 ?_
      obtain ⟨cc42, ss43, hc44, hF⟩ := hF
      have hc46 := hF.1
      have hF := hF.2
      refine Ws.cVr (q := E_SB) (As := [.int (gI μ37 a0 (2 : Int32).toNatClampNeg)]) 12 (d - 1) cc42 ss43 _ d_LW_sum_93 mok_SB_append_bf812 vl_LW_43 rfl rfl rfl (Nat.le_of_ble_eq_true rfl) (by omega) hc44.1 hc44.2 hc46 hF (fun b47 μ45 hS hF => ?_)
      refine Wa.ldcS 16 d_LW_sum_96 (by decide) rfl rfl ?_
      obtain ⟨cc48, ss49, hc50, hF⟩ := hF
      have hc52 := hF.1
      have hF := hF.2
      refine Ws.cVr (q := E_SB) (As := [.ref (hd 1 61)]) 12 (d - 1) cc48 ss49 _ d_LW_sum_98 mok_SB_append_15ec4 vl_LW_39 rfl rfl rfl (Nat.le_of_ble_eq_true rfl) (by omega) hc50.1 hc50.2 hc52 hF (fun b53 μ51 hS hF => ?_)
      obtain ⟨cc54, ss55, hc56, hF⟩ := hF
      have hc58 := hF.1
      have hF := hF.2
      refine Ws.cVr (q := E_SB) (As := []) 12 (d - 1) cc54 ss55 _ d_LW_sum_101 mok_SB_toString_0e30d vl_LW_48 rfl rfl rfl (Nat.le_of_ble_eq_true rfl) (by omega) hc56.1 hc56.2 hc58 hF (fun b59 μ57 hS hF => ?_)
      exact Wx.reta d_LW_sum_104 rfl hF
    · have hF := hF.1 hb
      have hc60 := hF.1
      have hF := hF.2
      obtain ⟨q61, hc62, hF⟩ := hF
      refine Wa.new (q := E_SB) q61 12 d_LW_sum_37 rfl ok_SB (by decide +kernel) cl_LW_34 hc60.1 hc60.2 hc62.1 hc62.2.rw ?_
      refine Wa.dup d_LW_sum_40 rfl ?_
      obtain ⟨cc63, ss64, hc65, hF⟩ := hF
      refine Ws.cIv (As := []) (d - 1) cc63 ss64 _ d_LW_sum_41 mok_SB_init_da8c8 rfl il_LW_36 rfl rfl (Nat.le_of_ble_eq_true rfl) (by omega) hc65.1 hc65.2 hF (fun μ66 hS hF => ?_)
      refine Wa.ldcS 14 d_LW_sum_44 (by decide) rfl rfl ?_
      obtain ⟨cc67, ss68, hc69, hF⟩ := hF
      have hc71 := hF.1
      have hF := hF.2
      refine Ws.cVr (q := E_SB) (As := [.ref (hd 1 59)]) 12 (d - 1) cc67 ss68 _ d_LW_sum_46 mok_SB_append_15ec4 vl_LW_39 rfl rfl rfl (Nat.le_of_ble_eq_true rfl) (by omega) hc69.1 hc69.2 hc71 hF (fun b72 μ70 hS hF => ?_)
      refine Wa.aload_n (j := 0) d_LW_sum_49 rfl ?_
      refine Wa.iconst (v := 4) d_LW_sum_50 rfl ?_
      obtain ⟨n73, hc74, hF⟩ := hF
      refine Wa.iald d_LW_sum_51 hc74.1 hc74.2 ?_
      obtain ⟨cc75, ss76, hc77, hF⟩ := hF
      have hc79 := hF.1
      have hF := hF.2
      refine Ws.cVr (q := E_SB) (As := [.int (gI μ70 a0 (4 : Int32).toNatClampNeg)]) 12 (d - 1) cc75 ss76 _ d_LW_sum_52 mok_SB_append_bf812 vl_LW_43 rfl rfl rfl (Nat.le_of_ble_eq_true rfl) (by omega) hc77.1 hc77.2 hc79 hF (fun b80 μ78 hS hF => ?_)
      obtain ⟨cc81, ss82, hc83, hF⟩ := hF
      have hc85 := hF.1
      have hF := hF.2
      refine Ws.cVr (q := E_SB) (As := []) 12 (d - 1) cc81 ss82 _ d_LW_sum_55 mok_SB_toString_0e30d vl_LW_48 rfl rfl rfl (Nat.le_of_ble_eq_true rfl) (by omega) hc83.1 hc83.2 hc85 hF (fun b86 μ84 hS hF => ?_)
      refine Wa.goto 104 d_LW_sum_58 (by decide) ?_
      exact Wx.reta d_LW_sum_104 rfl hF
  · have hF := hF.1 hb
    have hc87 := hF.1
    have hF := hF.2
    obtain ⟨q88, hc89, hF⟩ := hF
    refine Wa.new (q := E_SB) q88 12 d_LW_sum_6 rfl ok_SB (by decide +kernel) cl_LW_34 hc87.1 hc87.2 hc89.1 hc89.2.rw ?_
    refine Wa.dup d_LW_sum_9 rfl ?_
    obtain ⟨cc90, ss91, hc92, hF⟩ := hF
    refine Ws.cIv (As := []) (d - 1) cc90 ss91 _ d_LW_sum_10 mok_SB_init_da8c8 rfl il_LW_36 rfl rfl (Nat.le_of_ble_eq_true rfl) (by omega) hc92.1 hc92.2 hF (fun μ93 hS hF => ?_)
    refine Wa.ldcS 0 d_LW_sum_13 (by decide) rfl rfl ?_
    obtain ⟨cc94, ss95, hc96, hF⟩ := hF
    have hc98 := hF.1
    have hF := hF.2
    refine Ws.cVr (q := E_SB) (As := [.ref (hd 1 45)]) 12 (d - 1) cc94 ss95 _ d_LW_sum_15 mok_SB_append_15ec4 vl_LW_39 rfl rfl rfl (Nat.le_of_ble_eq_true rfl) (by omega) hc96.1 hc96.2 hc98 hF (fun b99 μ97 hS hF => ?_)
    refine Wa.aload_n (j := 0) d_LW_sum_18 rfl ?_
    refine Wa.iconst (v := 4) d_LW_sum_19 rfl ?_
    obtain ⟨n100, hc101, hF⟩ := hF
    refine Wa.iald d_LW_sum_20 hc101.1 hc101.2 ?_
    obtain ⟨cc102, ss103, hc104, hF⟩ := hF
    have hc106 := hF.1
    have hF := hF.2
    refine Ws.cVr (q := E_SB) (As := [.int (gI μ97 a0 (4 : Int32).toNatClampNeg)]) 12 (d - 1) cc102 ss103 _ d_LW_sum_21 mok_SB_append_bf812 vl_LW_43 rfl rfl rfl (Nat.le_of_ble_eq_true rfl) (by omega) hc104.1 hc104.2 hc106 hF (fun b107 μ105 hS hF => ?_)
    obtain ⟨cc108, ss109, hc110, hF⟩ := hF
    have hc112 := hF.1
    have hF := hF.2
    refine Ws.cVr (q := E_SB) (As := []) 12 (d - 1) cc108 ss109 _ d_LW_sum_24 mok_SB_toString_0e30d vl_LW_48 rfl rfl rfl (Nat.le_of_ble_eq_true rfl) (by omega) hc110.1 hc110.2 hc112 hF (fun b113 μ111 hS hF => ?_)
    refine Wa.goto 104 d_LW_sum_27 (by decide) ?_
    exact Wx.reta d_LW_sum_104 rfl hF
theorem z_LW_sum {d rc rs : Nat} {Q : Option Value → Mu → Prop} {μ : Mu} {a0 : Nat} (hk : Wx K_LW_sum d rc rs (fun r μ' => S8 μ' ∧ Q r μ') 0 [(0, .ref a0)] [] μ) : CalS K_LW_sum d rc rs [.ref a0] μ Q := CalS.of (by decide +kernel) rfl rfl (Nat.le_of_ble_eq_true rfl) rfl hk
