/-! the model's world begins before the law's own cell is made -/
def up9 (μ : Mu) : Mu := mkA μ (hd 90 0) (3, 1)
def S9 (μ : Mu) : Prop := St (up9 μ)
theorem S9.s {μ : Mu} {κ i : Nat} {e : Nat × Nat} (h : mS (up9 μ) (hd κ i) = e) (a : κ < 256) (b : κ ≠ 90) : mS μ (hd κ i) = e := (S_ne (by decide) a b).symm.trans h
theorem S9.mR {μ : Mu} {κ i k : Nat} (a : κ < 256) (b : κ ≠ 90) : mR (up9 μ) (hd κ i) k = mR μ (hd κ i) k := R_mkn (by decide) a b
theorem S9.r {μ : Mu} {κ i k : Nat} {e : Option Nat} (h : gR (up9 μ) (hd κ i) k = e) (a : κ < 256) (b : κ ≠ 90) : gR μ (hd κ i) k = e := by
  refine Eq.trans ?_ h
  unfold gR
  rw [S9.mR a b]
theorem S9.pxe {μ : Mu} {κ i k : Nat} (a : κ < 256) (b : κ ≠ 90) : px (up9 μ) (hd κ i) k = px μ (hd κ i) k := by
  unfold px
  rw [S9.mR a b]
theorem S9.pk {μ : Mu} {q : Nat} (h : PlanOK (up9 μ) q) : PlanOK μ q := ⟨fun e he => S9.s (h.1 e he) ((by decide : ∀ e ∈ mpTab, e.1 < 256 ∧ e.1 ≠ 90) e he).1 ((by decide : ∀ e ∈ mpTab, e.1 < 256 ∧ e.1 ≠ 90) e he).2, fun e he => (S9.mR (by decide) (by decide)).symm.trans (h.2 e he)⟩
theorem S9.plan {μ : Mu} (h : S9 μ) : gR μ (hd 40 0) 11 = some (hd 50 (px μ (hd 40 0) 11)) ∧ PlanOK μ (px μ (hd 40 0) 11) := by
  have p := St.plan h
  rw [S9.pxe (by decide) (by decide)] at p
  exact ⟨S9.r p.1 (by decide) (by decide), S9.pk p.2⟩
set_option maxHeartbeats 4000000 in
set_option maxRecDepth 20000 in
theorem g9_MS_begin_0 {d rc rs : Nat} {Q : Option Value → Mu → Prop} {μ : Mu} {i0 : Nat} (hD : 1 ≤ d) (h0 : i0 < 2) (hS : S9 μ)
    (hF : Wx K_MS_begin d rc rs Q 32 [(0, .ref (hd 65 i0)), (1, .int 0)] [] (setI (setI (setI (setI (setI (setI μ (hd 65 i0) 0 0) (hd 65 i0) 1 0) (hd 65 i0) 2 0) (hd 65 i0) 3 0) (hd 65 i0) 4 0) (hd 65 i0) 18 0)) : Wx K_MS_begin d rc rs Q 0 [(0, .ref (hd 65 i0))] [] μ := by
  refine Wa.aload_n (j := 0) d_MS_begin_0 rfl ?_
  refine Wa.iconst (v := 0) d_MS_begin_1 rfl ?_
  refine Wx.putI 13 0 d_MS_begin_2 f_MS_0 ok_MS fl_MS_74 (Or.inl rfl) w_65 (S9.s (s_65 hS h0) (by decide) (by decide)) ?_
  refine Wa.aload_n (j := 0) d_MS_begin_5 rfl ?_
  refine Wa.iconst (v := 0) d_MS_begin_6 rfl ?_
  refine Wx.putI 13 1 d_MS_begin_7 f_MS_1 ok_MS fl_MS_78 (Or.inl rfl) w_65 (S9.s (s_65 hS h0) (by decide) (by decide)) ?_
  refine Wa.aload_n (j := 0) d_MS_begin_10 rfl ?_
  refine Wa.iconst (v := 0) d_MS_begin_11 rfl ?_
  refine Wx.putI 13 2 d_MS_begin_12 f_MS_2 ok_MS fl_MS_81 (Or.inl rfl) w_65 (S9.s (s_65 hS h0) (by decide) (by decide)) ?_
  refine Wa.aload_n (j := 0) d_MS_begin_15 rfl ?_
  refine Wa.iconst (v := 0) d_MS_begin_16 rfl ?_
  refine Wx.putI 13 3 d_MS_begin_17 f_MS_3 ok_MS fl_MS_84 (Or.inl rfl) w_65 (S9.s (s_65 hS h0) (by decide) (by decide)) ?_
  refine Wa.aload_n (j := 0) d_MS_begin_20 rfl ?_
  refine Wa.iconst (v := 0) d_MS_begin_21 rfl ?_
  refine Wx.putI 13 4 d_MS_begin_22 f_MS_4 ok_MS fl_MS_87 (Or.inl rfl) w_65 (S9.s (s_65 hS h0) (by decide) (by decide)) ?_
  refine Wa.aload_n (j := 0) d_MS_begin_25 rfl ?_
  refine Wa.iconst (v := 0) d_MS_begin_26 rfl ?_
  refine Wx.putI 13 18 d_MS_begin_27 f_MS_18 ok_MS fl_MS_90 (Or.inl rfl) w_65 (S9.s (s_65 hS h0) (by decide) (by decide)) ?_
  refine Wa.iconst (v := 0) d_MS_begin_30 rfl ?_
  refine Wa.istore_n (i := 1) (L' := [(1, .int 0), (0, .ref (hd 65 i0))]) d_MS_begin_31 rfl (by decide) rfl ?_
  exact Wa.loc [1, 0] rfl hF
set_option maxHeartbeats 4000000 in
set_option maxRecDepth 20000 in
theorem g9_MS_begin_32 {d rc rs : Nat} {Q : Option Value → Mu → Prop} {μ : Mu} {i0 : Nat} {x1 : Int32} (hD : 1 ≤ d) (h0 : i0 < 2) (hS : S9 μ)
    (hF : (((nI 25) ≤ x1 → Wx K_MS_begin d rc rs Q 56 [(0, .ref (hd 65 i0)), (1, .int 0)] [] μ) ∧ (¬ (nI 25) ≤ x1 → (vp_in x1 25 ∧ Wx K_MS_begin d rc rs Q 32 [(0, .ref (hd 65 i0)), (1, .int (x1 + 1))] [] (setI μ (hd 73 i0) x1.toNatClampNeg 0))))) : Wx K_MS_begin d rc rs Q 32 [(0, .ref (hd 65 i0)), (1, .int x1)] [] μ := by
  refine Wa.iload_n (j := 1) d_MS_begin_32 rfl ?_
  refine Wa.aload_n (j := 0) d_MS_begin_33 rfl ?_
  refine Wx.getR 13 12 d_MS_begin_34 f_MS_12 rfl fl_MS_37 (S9.s (s_65 hS h0) (by decide) (by decide)) (S9.r (r_65_12 hS h0) (by decide) (by decide)) ?_
  refine Wa.alen d_MS_begin_37 (S9.s (s_73 hS h0) (by decide) (by decide)) (by decide) ?_
  refine Wa.icmp_ge 54 d_MS_begin_38 (by decide) (fun hb => ?_) (fun hb => ?_)
  · have hF := hF.1 hb
    refine Wa.iconst (v := 0) d_MS_begin_54 rfl ?_
    refine Wa.istore_n (i := 1) (L' := [(1, .int 0), (0, .ref (hd 65 i0))]) d_MS_begin_55 rfl (by decide) rfl ?_
    exact Wa.loc [1, 0] rfl hF
  · have hF := hF.2 hb
    refine Wa.aload_n (j := 0) d_MS_begin_41 rfl ?_
    refine Wx.getR 13 12 d_MS_begin_42 f_MS_12 rfl fl_MS_37 (S9.s (s_65 hS h0) (by decide) (by decide)) (S9.r (r_65_12 hS h0) (by decide) (by decide)) ?_
    refine Wa.iload_n (j := 1) d_MS_begin_45 rfl ?_
    refine Wa.iconst (v := 0) d_MS_begin_46 rfl ?_
    have hc1 := hF.1
    have hF := hF.2
    have hlhc1 := vp_in_lt hc1
    refine Wa.iast d_MS_begin_47 w_73 (S9.s (s_73 hS h0) (by decide) (by decide)) hc1 ?_
    refine Wa.iinc (i := 1) (j := 1) (v := (x1 + 1)) (L' := [(1, .int (x1 + 1)), (0, .ref (hd 65 i0))]) d_MS_begin_48 rfl rfl (by decide) rfl ?_
    refine Wa.goto 32 d_MS_begin_51 (by decide) ?_
    exact Wa.loc [1, 0] rfl hF
set_option maxHeartbeats 4000000 in
set_option maxRecDepth 20000 in
theorem g9_MS_begin_56 {d rc rs : Nat} {Q : Option Value → Mu → Prop} {μ : Mu} {i0 : Nat} {x1 : Int32} (hD : 1 ≤ d) (h0 : i0 < 2) (hS : S9 μ)
    (hF : (((nI 150) ≤ x1 → Wx K_MS_begin d rc rs Q 80 [(0, .ref (hd 65 i0)), (1, .int 0)] [] μ) ∧ (¬ (nI 150) ≤ x1 → (vp_in x1 150 ∧ Wx K_MS_begin d rc rs Q 56 [(0, .ref (hd 65 i0)), (1, .int (x1 + 1))] [] (setI μ (hd 74 i0) x1.toNatClampNeg (-1)))))) : Wx K_MS_begin d rc rs Q 56 [(0, .ref (hd 65 i0)), (1, .int x1)] [] μ := by
  refine Wa.iload_n (j := 1) d_MS_begin_56 rfl ?_
  refine Wa.aload_n (j := 0) d_MS_begin_57 rfl ?_
  refine Wx.getR 13 13 d_MS_begin_58 f_MS_13 rfl fl_MS_40 (S9.s (s_65 hS h0) (by decide) (by decide)) (S9.r (r_65_13 hS h0) (by decide) (by decide)) ?_
  refine Wa.alen d_MS_begin_61 (S9.s (s_74 hS h0) (by decide) (by decide)) (by decide) ?_
  refine Wa.icmp_ge 78 d_MS_begin_62 (by decide) (fun hb => ?_) (fun hb => ?_)
  · have hF := hF.1 hb
    refine Wa.iconst (v := 0) d_MS_begin_78 rfl ?_
    refine Wa.istore_n (i := 1) (L' := [(1, .int 0), (0, .ref (hd 65 i0))]) d_MS_begin_79 rfl (by decide) rfl ?_
    exact Wa.loc [1, 0] rfl hF
  · have hF := hF.2 hb
    refine Wa.aload_n (j := 0) d_MS_begin_65 rfl ?_
    refine Wx.getR 13 13 d_MS_begin_66 f_MS_13 rfl fl_MS_40 (S9.s (s_65 hS h0) (by decide) (by decide)) (S9.r (r_65_13 hS h0) (by decide) (by decide)) ?_
    refine Wa.iload_n (j := 1) d_MS_begin_69 rfl ?_
    refine Wa.iconst (v := (-1)) d_MS_begin_70 rfl ?_
    have hc1 := hF.1
    have hF := hF.2
    have hlhc1 := vp_in_lt hc1
    refine Wa.iast d_MS_begin_71 w_74 (S9.s (s_74 hS h0) (by decide) (by decide)) hc1 ?_
    refine Wa.iinc (i := 1) (j := 1) (v := (x1 + 1)) (L' := [(1, .int (x1 + 1)), (0, .ref (hd 65 i0))]) d_MS_begin_72 rfl rfl (by decide) rfl ?_
    refine Wa.goto 56 d_MS_begin_75 (by decide) ?_
    exact Wa.loc [1, 0] rfl hF
set_option maxHeartbeats 4000000 in
set_option maxRecDepth 20000 in
theorem g9_MS_begin_80 {d rc rs : Nat} {Q : Option Value → Mu → Prop} {μ : Mu} {i0 : Nat} {x1 : Int32} (hD : 1 ≤ d) (h0 : i0 < 2) (hS : S9 μ)
    (hF : ((5 ≤ x1 → (Call CT ST K_MS_copy (d - 1) 0 0 [.ref (hd 65 i0), .ref (hd 53 (px μ (hd 40 0) 11)), .ref (hd 76 i0)] μ (fun r μ2 => r = none ∧ Wx K_MS_begin d rc rs Q 118 [(0, .ref (hd 65 i0)), (1, .int 0)] [] μ2))) ∧ (¬ 5 ≤ x1 → (vp_in x1 5 ∧ Wx K_MS_begin d rc rs Q 80 [(0, .ref (hd 65 i0)), (1, .int (x1 + 1))] [] (setL μ (hd 75 i0) x1.toNatClampNeg 0))))) : Wx K_MS_begin d rc rs Q 80 [(0, .ref (hd 65 i0)), (1, .int x1)] [] μ := by
  refine Wa.iload_n (j := 1) d_MS_begin_80 rfl ?_
  refine Wa.iconst (v := 5) d_MS_begin_81 rfl ?_
  refine Wa.icmp_ge 98 d_MS_begin_82 (by decide) (fun hb => ?_) (fun hb => ?_)
  · have hF := hF.1 hb
    refine Wa.aload_n (j := 0) d_MS_begin_98 rfl ?_
    refine Wa.aload_n (j := 0) d_MS_begin_99 rfl ?_
    refine Wx.getR 13 23 d_MS_begin_100 f_MS_23 rfl fl_MS_3 (S9.s (s_65 hS h0) (by decide) (by decide)) (S9.r (r_65_23 hS h0) (by decide) (by decide)) ?_
    have hp1 := S9.plan hS
    refine Wx.getR 11 11 d_MS_begin_103 f_MM_11 rfl fl_MS_100 (S9.s (s_40 hS (by decide)) (by decide) (by decide)) (hp1.1) ?_
    refine Wx.getR 12 5 d_MS_begin_106 f_MP_5 rfl fl_MS_104 (s_50 hp1.2) (r_50_5 hp1.2) ?_
    refine Wa.aload_n (j := 0) d_MS_begin_109 rfl ?_
    refine Wx.getR 13 15 d_MS_begin_110 f_MS_15 rfl fl_MS_47 (S9.s (s_65 hS h0) (by decide) (by decide)) (S9.r (r_65_15 hS h0) (by decide) (by decide)) ?_
    refine Wa.callV (st := []) (b := hd 65 i0) (q := E_MS) (As := [.ref (hd 53 (px μ (hd 40 0) 11)), .ref (hd 76 i0)]) 13 (d - 1) 0 0 d_MS_begin_113 mok_MS_copy vl_MS_93 rfl rfl rfl (Nat.le_of_ble_eq_true rfl) (by omega) (Nat.zero_le _) (Nat.zero_le _) (S9.s (s_65 hS h0) (by decide) (by decide)) hF (fun r μ2 hh => ?_)
    obtain ⟨rfl, hF⟩ := hh
    refine Wa.iconst (v := 0) d_MS_begin_116 rfl ?_
    refine Wa.istore_n (i := 1) (L' := [(1, .int 0), (0, .ref (hd 65 i0))]) d_MS_begin_117 rfl (by decide) rfl ?_
    exact Wa.loc [1, 0] rfl hF
  · have hF := hF.2 hb
    refine Wa.aload_n (j := 0) d_MS_begin_85 rfl ?_
    refine Wx.getR 13 14 d_MS_begin_86 f_MS_14 rfl fl_MS_43 (S9.s (s_65 hS h0) (by decide) (by decide)) (S9.r (r_65_14 hS h0) (by decide) (by decide)) ?_
    refine Wa.iload_n (j := 1) d_MS_begin_89 rfl ?_
    refine Wa.lconst (v := 0) d_MS_begin_90 rfl ?_
    have hc3 := hF.1
    have hF := hF.2
    have hlhc3 := vp_in_lt hc3
    refine Wa.last d_MS_begin_91 w_75 (S9.s (s_75 hS h0) (by decide) (by decide)) hc3 ?_
    refine Wa.iinc (i := 1) (j := 1) (v := (x1 + 1)) (L' := [(1, .int (x1 + 1)), (0, .ref (hd 65 i0))]) d_MS_begin_92 rfl rfl (by decide) rfl ?_
    refine Wa.goto 80 d_MS_begin_95 (by decide) ?_
    exact Wa.loc [1, 0] rfl hF
set_option maxHeartbeats 4000000 in
set_option maxRecDepth 20000 in
theorem g9_MS_begin_118 {d rc rs : Nat} {Q : Option Value → Mu → Prop} {μ : Mu} {i0 : Nat} {x1 : Int32} (hD : 1 ≤ d) (h0 : i0 < 2) (hS : S9 μ)
    (hF : ((8 ≤ x1 → Q none μ) ∧ (¬ 8 ≤ x1 → (vp_in x1 8 ∧ (vp_in x1 8 ∧ Wx K_MS_begin d rc rs Q 118 [(0, .ref (hd 65 i0)), (1, .int (x1 + 1))] [] (setL (setI μ (hd 77 i0) x1.toNatClampNeg 0) (hd 78 i0) x1.toNatClampNeg 0)))))) : Wx K_MS_begin d rc rs Q 118 [(0, .ref (hd 65 i0)), (1, .int x1)] [] μ := by
  refine Wa.iload_n (j := 1) d_MS_begin_118 rfl ?_
  refine Wa.bipush (v := 8) d_MS_begin_119 rfl ?_
  refine Wa.icmp_ge 144 d_MS_begin_121 (by decide) (fun hb => ?_) (fun hb => ?_)
  · have hF := hF.1 hb
    exact Wx.retv d_MS_begin_144 rfl hF
  · have hF := hF.2 hb
    refine Wa.aload_n (j := 0) d_MS_begin_124 rfl ?_
    refine Wx.getR 13 16 d_MS_begin_125 f_MS_16 rfl fl_MS_50 (S9.s (s_65 hS h0) (by decide) (by decide)) (S9.r (r_65_16 hS h0) (by decide) (by decide)) ?_
    refine Wa.iload_n (j := 1) d_MS_begin_128 rfl ?_
    refine Wa.iconst (v := 0) d_MS_begin_129 rfl ?_
    have hc1 := hF.1
    have hF := hF.2
    have hlhc1 := vp_in_lt hc1
    refine Wa.iast d_MS_begin_130 w_77 (S9.s (s_77 hS h0) (by decide) (by decide)) hc1 ?_
    refine Wa.aload_n (j := 0) d_MS_begin_131 rfl ?_
    refine Wx.getR 13 17 d_MS_begin_132 f_MS_17 rfl fl_MS_53 (S9.s (s_65 hS h0) (by decide) (by decide)) (S9.r (r_65_17 hS h0) (by decide) (by decide)) ?_
    refine Wa.iload_n (j := 1) d_MS_begin_135 rfl ?_
    refine Wa.lconst (v := 0) d_MS_begin_136 rfl ?_
    have hc2 := hF.1
    have hF := hF.2
    have hlhc2 := vp_in_lt hc2
    refine Wa.last d_MS_begin_137 w_78 (S9.s (s_78 hS h0) (by decide) (by decide)) hc2 ?_
    refine Wa.iinc (i := 1) (j := 1) (v := (x1 + 1)) (L' := [(1, .int (x1 + 1)), (0, .ref (hd 65 i0))]) d_MS_begin_138 rfl rfl (by decide) rfl ?_
    refine Wa.goto 118 d_MS_begin_141 (by decide) ?_
    exact Wa.loc [1, 0] rfl hF
set_option maxHeartbeats 4000000 in
theorem g9_MS_copy_0 {d rc rs : Nat} {Q : Option Value → Mu → Prop} {μ : Mu} {i0 : Nat} {a1 n1 : Nat} {a2 n2 : Nat} (hD : 1 ≤ d) (h0 : i0 < 2) (h1 : mS μ a1 = (2, n1)) (w1 : rwN a1) (h2 : mS μ a2 = (2, n2)) (w2 : rwN a2)
    (hF : ((¬ (0 : Int32) < 0 ∧ ¬ (0 : Int32) < 0 ∧ ¬ (nI n1) < 0 ∧ (0 : Int32).toNatClampNeg + (nI n1).toNatClampNeg ≤ n1 ∧ (0 : Int32).toNatClampNeg + (nI n1).toNatClampNeg ≤ n2) ∧ Q none (cpI μ a1 a2 (0 : Int32).toNatClampNeg (0 : Int32).toNatClampNeg (nI n1).toNatClampNeg))) : Wx K_MS_copy d rc rs Q 0 [(0, .ref (hd 65 i0)), (1, .ref a1), (2, .ref a2)] [] μ := by
  refine Wa.aload_n (j := 1) d_MS_copy_0 rfl ?_
  refine Wa.iconst (v := 0) d_MS_copy_1 rfl ?_
  refine Wa.aload_n (j := 2) d_MS_copy_2 rfl ?_
  refine Wa.iconst (v := 0) d_MS_copy_3 rfl ?_
  refine Wa.aload_n (j := 1) d_MS_copy_4 rfl ?_
  refine Wa.alen d_MS_copy_5 (h1) (by decide) ?_
  have hc1 := hF.1
  have hF := hF.2
  refine Wa.copyI d_MS_copy_6 ml_MS_68 cp_1 cp_2 cp_3 (Nat.le_of_ble_eq_true rfl) hD w1 w2 (h1) (h2) hc1.1 hc1.2.1 hc1.2.2.1 hc1.2.2.2.1 hc1.2.2.2.2 ?_
  exact Wx.retv d_MS_copy_9 rfl hF
section WMB
variable {d rc rs : Nat} {Q : Option Value → Mu → Prop} {μ : Mu} {T : PT} {D : DT}
theorem c9_MS_copy {w a b n m : Nat} (hD : 1 ≤ d) (hS : S9 μ) (hw : w < 2) (ha : mS μ a = (2, n)) (wa : rwN a) (hb : mS μ b = (2, m)) (wb : rwN b) (hn : n ≤ m) (hn2 : n < 2 ^ 31) (hQ : S9 (cpI μ a b 0 0 n) → Q none (cpI μ a b 0 0 n)) : Call CT ST K_MS_copy d rc rs [.ref (hd 65 w), .ref a, .ref b] μ Q := by
  refine Call.of (by decide +kernel) rfl rfl (Nat.le_of_ble_eq_true rfl) rfl (fun _ => g9_MS_copy_0 (n1 := n) (n2 := m) hD hw ha wa hb wb ?_)
  have hS1 : S9 (cpI μ a b 0 0 n) := hS
  rw [nI_clamp hn2]
  refine ⟨⟨by decide, by decide, ?_, ?_, ?_⟩, hQ hS1⟩
  · rw [Int32.lt_iff_toInt_lt, nI_toInt hn2]; show ¬ ((n : Int) < 0); omega
  · show 0 + n ≤ n; omega
  · show 0 + n ≤ m; omega
theorem c9_MS_begin {q : Nat} (hD : 2 ≤ d) (hS : S9 μ) (hq : px μ (hd 40 0) 11 = q) (hB : DB T D) (hz : D0 D) (hP : PM μ T D) (hr : ∀ r, r < T 2 0 → mI μ (hd 53 q) r = nI (D 9 r 0))
    (hQ : ∀ μ', FrO 0 μ μ' → S9 μ' → MW μ' 0 T D [] → Q none μ') : Call CT ST K_MS_begin d rc rs [.ref (hd 65 0)] μ (fun r μ' => S9 μ' ∧ Q r μ') := by
  have h5 := hB.1.1; have h8 := hB.1.2.2.1
  obtain ⟨⟨z0, z1, z2, z3⟩, z6, z7, z8, z11, z9, z10⟩ := hz
  have hS1 : S9 (setI (setI (setI (setI (setI (setI μ (hd 65 0) 0 0) (hd 65 0) 1 0) (hd 65 0) 2 0) (hd 65 0) 3 0) (hd 65 0) 4 0) (hd 65 0) 18 0) := hS
  have f1 : FrO 0 μ (setI (setI (setI (setI (setI (setI μ (hd 65 0) 0 0) (hd 65 0) 1 0) (hd 65 0) 2 0) (hd 65 0) 3 0) (hd 65 0) 4 0) (hd 65 0) 18 0) := ⟨(((((Fr.rf.setI (by decide) ⟨by decide, rfl⟩).setI (by decide) ⟨by decide, rfl⟩).setI (by decide) ⟨by decide, rfl⟩).setI (by decide) ⟨by decide, rfl⟩).setI (by decide) ⟨by decide, rfl⟩).setI (by decide) ⟨by decide, rfl⟩, rfl⟩
  have a65 : ∀ k, (k ≤ 4 ∨ k = 18) → mI (setI (setI (setI (setI (setI (setI μ (hd 65 0) 0 0) (hd 65 0) 1 0) (hd 65 0) 2 0) (hd 65 0) 3 0) (hd 65 0) 4 0) (hd 65 0) 18 0) (hd 65 0) k = 0 := fun k hk => by
    rcases (by omega : k = 0 ∨ k = 1 ∨ k = 2 ∨ k = 3 ∨ k = 4 ∨ k = 18) with rfl | rfl | rfl | rfl | rfl | rfl
    · rw [rd_k (by decide), rd_k (by decide), rd_k (by decide), rd_k (by decide), rd_k (by decide), rd_eq]
    · rw [rd_k (by decide), rd_k (by decide), rd_k (by decide), rd_k (by decide), rd_eq]
    · rw [rd_k (by decide), rd_k (by decide), rd_k (by decide), rd_eq]
    · rw [rd_k (by decide), rd_k (by decide), rd_eq]
    · rw [rd_k (by decide), rd_eq]
    · rw [rd_eq]
  refine Call.of (by decide +kernel) rfl rfl (Nat.le_of_ble_eq_true rfl) rfl (fun _ => g9_MS_begin_0 (by omega) (by decide) hS ?_)
  generalize setI (setI (setI (setI (setI (setI μ (hd 65 0) 0 0) (hd 65 0) 1 0) (hd 65 0) 2 0) (hd 65 0) 3 0) (hd 65 0) 4 0) (hd 65 0) 18 0 = μ1 at *
  have k118 : ∀ r, r ≤ 8 → ∀ μ', FrO 0 μ μ' → S9 μ' → (∀ k, (k ≤ 4 ∨ k = 18) → mI μ' (hd 65 0) k = 0) → (∀ k, k < 25 → mI μ' (hd 73 0) k = 0) → (∀ k, k < 150 → mI μ' (hd 74 0) k = -1) → (∀ k, k < 5 → mL μ' (hd 75 0) k = 0) → (∀ k, k < T 2 0 → mI μ' (hd 76 0) k = nI (D 9 k 0)) → (∀ k, k < r → mI μ' (hd 77 0) k = 0 ∧ mL μ' (hd 78 0) k = 0) → Wx K_MS_begin d rc rs (fun r μ' => S9 μ' ∧ Q r μ') 118 [(0, .ref (hd 65 0)), (1, .int (nI r))] [] μ' := by
    refine up_loop 8 (fun μ' f s g y3 y4 y5 y6 y7 => ?_) (fun r hr' ih μ' f s g y3 y4 y5 y6 y7 => ?_)
    · refine g9_MS_begin_118 (by omega) (by decide) s ⟨fun _ => ⟨s, hQ μ' f s ?_⟩, fun h => absurd (Int32.le_refl _) h⟩
      have hm : mergedN D = 0 := by unfold mergedN; rw [z1]; rfl
      have hpx : px μ' (hd 40 0) 11 = px μ (hd 40 0) 11 := by unfold px; rw [f.2]
      refine ⟨⟨by decide, hB, fun f' i j hr' => ?_, ?_, fun b hb => ?_, fun r hr => ?_, ?_⟩, ⟨g 18 (Or.inr rfl), fun k e he => by rw [List.getElem?_nil] at he; cases he⟩, ⟨(fun e he => by cases he), fun r s hr hs => ?_⟩⟩
      · rcases f' with _|_|_|_|_|_|_|_|_|_|f' <;> simp only [mrg] at hr'
        · obtain ⟨rfl, rfl⟩ := hr'; show mI μ' (hd 65 0) 0 = nI (D 0 0 0); rw [z0]; exact g 0 (by decide)
        · obtain ⟨rfl, rfl⟩ := hr'; show mI μ' (hd 65 0) 1 = nI (D 1 0 0); rw [z1]; exact g 1 (by decide)
        · obtain ⟨rfl, rfl⟩ := hr'; show mI μ' (hd 65 0) 2 = nI (D 2 0 0); rw [z2]; exact g 2 (by decide)
        · obtain ⟨rfl, rfl⟩ := hr'; show mI μ' (hd 65 0) 4 = nI (D 3 0 0); rw [z3]; exact g 4 (by decide)
        · rw [z1] at hr'; exact absurd hr'.1 (Nat.not_lt_zero _)
        · rw [z1] at hr'; exact absurd hr'.1 (Nat.not_lt_zero _)
        · show mI μ' (hd 73 0) (5 * i + j) = nI (D 6 i j); rw [z6]; exact y3 _ (by omega)
        · show mI μ' (hd 74 0) (30 * i + j) = oI (D 7 i j); rw [z7, oI_0]; exact y4 _ (by omega)
        · show mI μ' (hd (76 + j) 0) i = nI (D 9 i j)
          rcases (by omega : j = 0 ∨ j = 1) with rfl | rfl
          · exact y6 i hr'.1
          · rw [z9]; exact (y7 i (by omega)).1
      · rw [hm]; exact g 3 (by decide)
      · rw [y5 b (by omega)]; exact Bs.zero (fun s _ h => h (z8 b s))
      · rw [(y7 r (by omega)).2]; exact Bs.zero (fun s _ h => h (z10 r s))
      · obtain ⟨p1, p2, p3, p4, p5⟩ := hP
        have e5 : ∀ κ k, 50 ≤ κ → κ ≤ 52 → mI μ' (hd κ (px μ (hd 40 0) 11)) k = mI μ (hd κ (px μ (hd 40 0) 11)) k := fun κ k g1 g2 => f.1.I (by omega) (by unfold OwM; omega)
        unfold PM
        rw [hpx, e5 50 _ (by decide) (by decide), e5 50 _ (by decide) (by decide), e5 50 _ (by decide) (by decide), e5 50 _ (by decide) (by decide)]
        refine ⟨p1, p2, p3, p4, fun r hr => ?_⟩
        rw [e5 51 _ (by decide) (by decide), e5 52 _ (by decide) (by decide)]
        exact p5 r hr
      · rw [z0, z10, bN_f (Nat.lt_irrefl _)]; rfl
    · refine g9_MS_begin_118 (by omega) (by decide) s ⟨fun h => absurd h (nI_ge hr' (by decide)), fun _ => ⟨vp_in_nI hr' (by decide), vp_in_nI hr' (by decide), ?_⟩⟩
      rw [nI_clamp (by omega), nI_1]
      have s1 : S9 (setL (setI μ' (hd 77 0) r 0) (hd 78 0) r 0) := s
      have e : ∀ κ k, κ < 256 → κ ≠ 77 → mI (setL (setI μ' (hd 77 0) r 0) (hd 78 0) r 0) (hd κ 0) k = mI μ' (hd κ 0) k := fun κ k a b => rd_ne (by decide) a b
      refine ih _ ⟨(f.1.setI (by decide) ⟨by decide, rfl⟩).setL (by decide) ⟨by decide, rfl⟩, f.2⟩ s1 (fun k hk => ?_) (fun k hk => ?_) (fun k hk => ?_) (fun k hk => ?_) (fun k hk => ?_) (fun k hk => ?_)
      · rw [e 65 _ (by decide) (by decide)]; exact g k hk
      · rw [e 73 _ (by decide) (by decide)]; exact y3 k hk
      · rw [e 74 _ (by decide) (by decide)]; exact y4 k hk
      · rw [mL_set, if_neg (fun z => absurd z.1 (hd_ne (by decide) (by decide) (by decide)))]; exact y5 k hk
      · rw [e 76 _ (by decide) (by decide)]; exact y6 k hk
      · rw [mL_set, mI_setL]
        by_cases z : k = r
        · rw [z, rd_eq, if_pos ⟨rfl, rfl⟩]; exact ⟨rfl, rfl⟩
        · rw [rd_k z, if_neg (fun w => z w.2)]; exact y7 k (by omega)
  have k80 : ∀ r, r ≤ 5 → ∀ μ', FrO 0 μ μ' → S9 μ' → (∀ k, (k ≤ 4 ∨ k = 18) → mI μ' (hd 65 0) k = 0) → (∀ k, k < 25 → mI μ' (hd 73 0) k = 0) → (∀ k, k < 150 → mI μ' (hd 74 0) k = -1) → (∀ k, k < r → mL μ' (hd 75 0) k = 0) → Wx K_MS_begin d rc rs (fun r μ' => S9 μ' ∧ Q r μ') 80 [(0, .ref (hd 65 0)), (1, .int (nI r))] [] μ' := by
    refine up_loop 5 (fun μ' f s g y3 y4 y5 => ?_) (fun r hr' ih μ' f s g y3 y4 y5 => ?_)
    · have hpx : px μ' (hd 40 0) 11 = q := by unfold px; rw [f.2]; exact hq
      have hpl := s.plan.2
      rw [hpx] at hpl
      refine g9_MS_begin_80 (by omega) (by decide) s ⟨fun _ => ?_, fun h => absurd (Int32.le_refl _) h⟩
      rw [hpx]
      refine c9_MS_copy (by omega) s (by decide) (s_53 hpl) (rw_hd (by decide) (by decide)) (S9.s (s_76 s (by decide)) (by decide) (by decide)) (rw_hd (by decide) (by decide)) (Nat.le_refl _) (by decide) (fun hS2 => ⟨rfl, ?_⟩)
      have e : ∀ κ k, κ < 256 → κ ≠ 76 → mI (cpI μ' (hd 53 q) (hd 76 0) 0 0 8) (hd κ 0) k = mI μ' (hd κ 0) k := fun κ k a b => rc_ne (by decide) a b
      refine k118 0 (by decide) _ ⟨f.1.cpI (by decide) ⟨by decide, rfl⟩, f.2⟩ hS2 (fun k hk => ?_) (fun k hk => ?_) (fun k hk => ?_) (fun k hk => y5 k hk) (fun k hk => ?_) (fun k hk => absurd hk (Nat.not_lt_zero _))
      · rw [e 65 _ (by decide) (by decide)]; exact g k hk
      · rw [e 73 _ (by decide) (by decide)]; exact y3 k hk
      · rw [e 74 _ (by decide) (by decide)]; exact y4 k hk
      · rw [rc_in (by omega), f.1.I (by decide) (by unfold OwM; omega)]; exact hr k hk
    · refine g9_MS_begin_80 (by omega) (by decide) s ⟨fun h => absurd h (nI_ge hr' (by decide)), fun _ => ⟨vp_in_nI hr' (by decide), ?_⟩⟩
      rw [nI_clamp (by omega), nI_1]
      have s1 : S9 (setL μ' (hd 75 0) r 0) := s
      refine ih _ ⟨f.1.setL (by decide) ⟨by decide, rfl⟩, f.2⟩ s1 g y3 y4 (fun k hk => ?_)
      rw [mL_set]
      by_cases z : k = r
      · rw [z, if_pos ⟨rfl, rfl⟩]
      · rw [if_neg (fun w => z w.2)]; exact y5 k (by omega)
  have k56 : ∀ r, r ≤ 150 → ∀ μ', FrO 0 μ μ' → S9 μ' → (∀ k, (k ≤ 4 ∨ k = 18) → mI μ' (hd 65 0) k = 0) → (∀ k, k < 25 → mI μ' (hd 73 0) k = 0) → (∀ k, k < r → mI μ' (hd 74 0) k = -1) → Wx K_MS_begin d rc rs (fun r μ' => S9 μ' ∧ Q r μ') 56 [(0, .ref (hd 65 0)), (1, .int (nI r))] [] μ' := by
    refine up_loop 150 (fun μ' f s g y3 y4 => ?_) (fun r hr' ih μ' f s g y3 y4 => ?_)
    · exact g9_MS_begin_56 (by omega) (by decide) s ⟨fun _ => k80 0 (by decide) μ' f s g y3 y4 (fun k hk => absurd hk (Nat.not_lt_zero _)), fun h => absurd (Int32.le_refl _) h⟩
    · refine g9_MS_begin_56 (by omega) (by decide) s ⟨fun h => absurd h (nI_ge hr' (by decide)), fun _ => ⟨vp_in_nI hr' (by decide), ?_⟩⟩
      rw [nI_clamp (by omega), nI_1]
      have s1 : S9 (setI μ' (hd 74 0) r (-1)) := s
      refine ih _ ⟨f.1.setI (by decide) ⟨by decide, rfl⟩, f.2⟩ s1 (fun k hk => ?_) (fun k hk => ?_) (fun k hk => ?_)
      · rw [rd_ne (by decide) (by decide) (by decide)]; exact g k hk
      · rw [rd_ne (by decide) (by decide) (by decide)]; exact y3 k hk
      · by_cases z : k = r
        · rw [z, rd_eq]
        · rw [rd_k z]; exact y4 k (by omega)
  have k32 : ∀ r, r ≤ 25 → ∀ μ', FrO 0 μ μ' → S9 μ' → (∀ k, (k ≤ 4 ∨ k = 18) → mI μ' (hd 65 0) k = 0) → (∀ k, k < r → mI μ' (hd 73 0) k = 0) → Wx K_MS_begin d rc rs (fun r μ' => S9 μ' ∧ Q r μ') 32 [(0, .ref (hd 65 0)), (1, .int (nI r))] [] μ' := by
    refine up_loop 25 (fun μ' f s g y3 => ?_) (fun r hr' ih μ' f s g y3 => ?_)
    · exact g9_MS_begin_32 (by omega) (by decide) s ⟨fun _ => k56 0 (by decide) μ' f s g y3 (fun k hk => absurd hk (Nat.not_lt_zero _)), fun h => absurd (Int32.le_refl _) h⟩
    · refine g9_MS_begin_32 (by omega) (by decide) s ⟨fun h => absurd h (nI_ge hr' (by decide)), fun _ => ⟨vp_in_nI hr' (by decide), ?_⟩⟩
      rw [nI_clamp (by omega), nI_1]
      have s1 : S9 (setI μ' (hd 73 0) r 0) := s
      refine ih _ ⟨f.1.setI (by decide) ⟨by decide, rfl⟩, f.2⟩ s1 (fun k hk => ?_) (fun k hk => ?_)
      · rw [rd_ne (by decide) (by decide) (by decide)]; exact g k hk
      · by_cases z : k = r
        · rw [z, rd_eq]
        · rw [rd_k z]; exact y3 k (by omega)
  exact k32 0 (by decide) μ1 f1 hS1 a65 (fun k hk => absurd hk (Nat.not_lt_zero _))
end WMB
