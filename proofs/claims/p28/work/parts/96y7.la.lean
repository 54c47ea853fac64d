/-! the law begins, before there is a component -/
set_option maxHeartbeats 4000000 in
set_option maxRecDepth 20000 in
theorem y_LW_law_0 {d rc rs : Nat} {Q : Option Value → Mu → Prop} {μ : Mu} {a0 : Nat} (hD : 1 ≤ d)
    (hF : ((1 ≤ rc ∧ 4 ≤ rs) ∧ (∃ q2, FreN μ q2 ∧ (∃ cc4 ss5 : Nat, (cc4 ≤ rc - 1 ∧ ss5 ≤ rs - 4) ∧ CalS K_SB_init_da8c8 (d - 1) cc4 ss5 [.ref q2] (mkA μ q2 (1, 12)) (fun r μ7 => r = none ∧ (∃ cc8 ss9 : Nat, (cc8 ≤ rc - 1 - cc4 ∧ ss9 ≤ rs - 4 - ss5) ∧ CalS K_LW_list (d - 1) cc8 ss9 [.ref a0, .ref q2] μ7 (fun r μ11 => ∃ b12, r = some (.ref b12) ∧ Wx K_LW_law d (rc - 1 - cc4 - cc8) (rs - 4 - ss5 - ss9) Q 14 [(0, .ref a0), (1, .ref q2), (2, .ref b12)] [] μ11))))))) : Wx K_LW_law d rc rs Q 0 [(0, .ref a0)] [] μ := by
  have hc1 := hF.1
  have hF := hF.2
  obtain ⟨q2, hc3, hF⟩ := hF
  refine Wa.new (q := E_SB) q2 12 d_LW_law_0 rfl ok_SB (by decide +kernel) cl_LW_34 hc1.1 hc1.2 hc3.1 hc3.2.rw ?_
  refine Wa.dup d_LW_law_3 rfl ?_
  obtain ⟨cc4, ss5, hc6, hF⟩ := hF
  refine Ws.cIv (As := []) (d - 1) cc4 ss5 _ d_LW_law_4 mok_SB_init_da8c8 rfl il_LW_36 rfl rfl (Nat.le_of_ble_eq_true rfl) (by omega) hc6.1 hc6.2 hF (fun μ7 hS hF => ?_)
  refine Wa.astore_n (i := 1) (L' := [(1, .ref q2), (0, .ref a0)]) d_LW_law_7 rfl (by decide) rfl ?_
  refine Wa.aload_n (j := 1) d_LW_law_8 rfl ?_
  refine Wa.aload_n (j := 0) d_LW_law_9 rfl ?_
  obtain ⟨cc8, ss9, hc10, hF⟩ := hF
  refine Ws.cSr (As := [.ref a0, .ref q2]) (d - 1) cc8 ss9 _ d_LW_law_10 mok_LW_list sl_LW_198 rfl rfl (Nat.le_of_ble_eq_true rfl) (by omega) hc10.1 hc10.2 hF (fun b12 μ11 hS hF => ?_)
  refine Wa.astore_n (i := 2) (L' := [(2, .ref b12), (1, .ref q2), (0, .ref a0)]) d_LW_law_13 rfl (by decide) rfl ?_
  exact Wa.loc [2, 1, 0] rfl hF
