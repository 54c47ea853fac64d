/-! the law's own methods -/
theorem mL_90 {μ : Mu} {v : Int64} : mL (setL μ (hd 90 0) (0 : Int32).toNatClampNeg v) (hd 90 0) 0 = v := by
  rw [mL_set, if_pos ⟨rfl, by decide⟩]
def hh_feed : List (Nat × Nat × Nat × Nat) := [(0, 16, 19, 13)]
theorem hok_feed : ∀ z ∈ ([(0, 1)] : List (Nat × Nat)), HOK K_LW_feed hh_feed 11 z.1 (z.2 : Int) := by
  intro z hz
  rcases List.mem_cons.mp hz with rfl | hz
  · exact ⟨[], (⟨0, 16, 19, 13⟩ : ExceptionTableEntry), [], rfl, (fun z hz => by cases hz), by decide, by decide, tb_at 1021 (by decide +kernel) (by decide +kernel), Or.inl ⟨7, d_LW_feed_19, by decide, d_LW_feed_21, d_LW_feed_22⟩⟩
  cases hz
theorem exo_feed {T : PT} {C Ct : Nat → List Op} {D : DT} {t : Nat → Nat} {L : Nat} {x : Int32} {x1 : Int32} {x2 : Int32} {x3 : Int32} {x4 : Int32} {x5 : Int32} : exOK [(0, 1)] (dvFeed t L x1 x2 x3 x4 x5).1 := by
  unfold dvFeed
  repeat' first | exact exOK.ok | exact exOK.ex (by decide) | apply exOK.ite2 | apply exOK.ite
theorem moh_feed : MOH K_LW_feed hh_feed 7 := ⟨tb_at 1020 (by decide +kernel) (by decide +kernel), tb_at 123 (by decide +kernel) (by decide +kernel), by decide +kernel, by decide +kernel, by decide +kernel⟩
theorem c_LW_feed {d rc rs n : Nat} {Q : Option Value → Mu → Prop} {μ : Mu} {T : PT} {C Ct : Nat → List Op} {D : DT} {t : Nat → Nat} {L : Nat} {x : Int32} {x1 : Int32} {x2 : Int32} {x3 : Int32} {x4 : Int32} {x5 : Int32} (hC : CI μ T C Ct D t L x) (hD : 9 ≤ d) (hc : 1 ≤ rc) (hs : 6 ≤ rs) (hS : St μ) (hQ : ∀ μ' code, Fr OwE8 μ μ' → St μ' → CI μ' T C Ct D (dvFeed t L x1 x2 x3 x4 x5).2.1 (dvFeed t L x1 x2 x3 x4 x5).2.2 x → WO (dvFeed t L x1 x2 x3 x4 x5).1 code μ' → Q (some (.int code)) μ') : CalH K_LW_feed hh_feed d rc rs [.ref (hd 8 0), .int x1, .int x2, .int x3, .int x4, .int x5, .ref (hd 90 0)] μ Q := by
  refine CalH.of (by decide +kernel) rfl rfl (Nat.le_of_ble_eq_true rfl) rfl rfl ?_
  refine Wh.aload (j := 6) d_LW_feed_0 rfl ?_
  refine Wh.iconst (v := 0) d_LW_feed_2 rfl ?_
  refine Wh.aload_n (j := 0) d_LW_feed_3 rfl ?_
  refine Wh.iload_n (j := 1) d_LW_feed_4 rfl ?_
  refine Wh.iload_n (j := 2) d_LW_feed_5 rfl ?_
  refine Wh.iload_n (j := 3) d_LW_feed_6 rfl ?_
  refine Wh.iload (j := 4) d_LW_feed_7 rfl ?_
  refine Wh.iload (j := 5) d_LW_feed_9 rfl ?_
  refine Wh.callT (As := [.int x1, .int x2, .int x3, .int x4, .int x5]) (b := hd 8 0) (d - 1) 1 6 (Q' := fun r μ' => Fr OwC8 μ μ' ∧ CI μ' T C Ct D (dvFeed t L x1 x2 x3 x4 x5).2.1 (dvFeed t L x1 x2 x3 x4 x5).2.2 x ∧ r = (dvFeed t L x1 x2 x3 x4 x5).1.c) d_LW_feed_11 mok_PB_feed (tb_at 1022 (by decide +kernel) (by decide +kernel)) vl_LW_7.2.1 vl_LW_7.2.2 rfl rfl (Nat.le_of_ble_eq_true rfl) (by omega) hc hs (s_8 hS (by decide)) rfl (c_PB_feed hC (by omega) (Nat.le_refl _) (Nat.le_refl _) hS (fun μ' f s X => ⟨f, X, rfl⟩)) (fun v μ' hS2 hq => ?_) (fun k μ' hk hS2 hq => ?_)
  · obtain ⟨f, X, e⟩ := hq
    have ev := rv_ok e
    refine Wa.i2l d_LW_feed_14 ?_
    refine Wa.last d_LW_feed_15 w_90 (s_90 hS2 (by decide)) (vp_in_nI (n := 0) (N := 1) (by decide) (by decide)) ?_
    refine Wa.goto 23 d_LW_feed_16 (by decide) ?_
    refine Wa.iconst (v := 0) d_LW_feed_23 rfl ?_
    have s2 : St (setL μ' (hd 90 0) (0 : Int32).toNatClampNeg v.toInt64) := hS2
    exact Wx.reti d_LW_feed_24 rfl ⟨s2, hQ _ 0 (f.e8.setL (by decide) (Or.inr ⟨rfl, rfl⟩)) s2 X.e90 (by rw [ev]; exact ⟨rfl, mL_90⟩)⟩
  · obtain ⟨f, X, e⟩ := hq
    obtain ⟨c, hm, ev⟩ := rv_ex e hk (exo_feed (T := T) (C := C) (Ct := Ct) (D := D) (t := t) (L := L) (x := x)) (by decide)
    exact ⟨(c : Int), hok_feed (k, c) hm, hS2, hQ μ' _ f.e8 hS2 X (by rw [ev]; exact (by decide : ∀ z ∈ ([(0, 1)] : List (Nat × Nat)), Int32.ofInt (z.2 : Int) = nI z.2) (k, c) hm)⟩
def hh_trim : List (Nat × Nat × Nat × Nat) := [(0, 9, 12, 19)]
theorem hok_trim : ∀ z ∈ ([(1, 1)] : List (Nat × Nat)), HOK K_LW_trim hh_trim 4 z.1 (z.2 : Int) := by
  intro z hz
  rcases List.mem_cons.mp hz with rfl | hz
  · exact ⟨[], (⟨0, 9, 12, 19⟩ : ExceptionTableEntry), [], rfl, (fun z hz => by cases hz), by decide, by decide, tb_at 1100 (by decide +kernel) (by decide +kernel), Or.inr ⟨3, d_LW_trim_12, by decide, d_LW_trim_13, d_LW_trim_14⟩⟩
  cases hz
theorem exo_trim {T : PT} {C Ct : Nat → List Op} {D : DT} {t : Nat → Nat} {L : Nat} {x : Int32} {x1 : Int32} : exOK [(1, 1)] (dvTrim L x1).1 := by
  unfold dvTrim
  repeat' first | exact exOK.ok | exact exOK.ex (by decide) | apply exOK.ite2 | apply exOK.ite
theorem moh_trim : MOH K_LW_trim hh_trim 3 := ⟨tb_at 1099 (by decide +kernel) (by decide +kernel), tb_at 123 (by decide +kernel) (by decide +kernel), by decide +kernel, by decide +kernel, by decide +kernel⟩
theorem c_LW_trim {d rc rs n : Nat} {Q : Option Value → Mu → Prop} {μ : Mu} {T : PT} {C Ct : Nat → List Op} {D : DT} {t : Nat → Nat} {L : Nat} {x : Int32} {x1 : Int32} (hC : CI μ T C Ct D t L x) (hD : 9 ≤ d) (hc : 1 ≤ rc) (hs : 6 ≤ rs) (hS : St μ) (hQ : ∀ μ' code, Fr OwE8 μ μ' → St μ' → CI μ' T C Ct D t (dvTrim L x1).2 x → WO (dvTrim L x1).1 code μ' → Q (some (.int code)) μ') : CalH K_LW_trim hh_trim d rc rs [.ref (hd 8 0), .int x1, .ref (hd 90 0)] μ Q := by
  refine CalH.of (by decide +kernel) rfl rfl (Nat.le_of_ble_eq_true rfl) rfl rfl ?_
  refine Wh.aload_n (j := 2) d_LW_trim_0 rfl ?_
  refine Wh.iconst (v := 0) d_LW_trim_1 rfl ?_
  refine Wh.aload_n (j := 0) d_LW_trim_2 rfl ?_
  refine Wh.iload_n (j := 1) d_LW_trim_3 rfl ?_
  refine Wh.callT (As := [.int x1]) (b := hd 8 0) (d - 1) 1 6 (Q' := fun r μ' => Fr OwC8 μ μ' ∧ CI μ' T C Ct D t (dvTrim L x1).2 x ∧ r = (dvTrim L x1).1.c) d_LW_trim_4 mok_PB_trim (tb_at 1101 (by decide +kernel) (by decide +kernel)) vl_LW_15.2.1 vl_LW_15.2.2 rfl rfl (Nat.le_of_ble_eq_true rfl) (by omega) hc hs (s_8 hS (by decide)) rfl (c_PB_trim hC (by omega) (Nat.le_refl _) (Nat.le_refl _) hS (fun μ' f s X => ⟨f, X, rfl⟩)) (fun v μ' hS2 hq => ?_) (fun k μ' hk hS2 hq => ?_)
  · obtain ⟨f, X, e⟩ := hq
    have ev := rv_ok e
    refine Wa.i2l d_LW_trim_7 ?_
    refine Wa.last d_LW_trim_8 w_90 (s_90 hS2 (by decide)) (vp_in_nI (n := 0) (N := 1) (by decide) (by decide)) ?_
    refine Wa.goto 15 d_LW_trim_9 (by decide) ?_
    refine Wa.iconst (v := 0) d_LW_trim_15 rfl ?_
    have s2 : St (setL μ' (hd 90 0) (0 : Int32).toNatClampNeg v.toInt64) := hS2
    exact Wx.reti d_LW_trim_16 rfl ⟨s2, hQ _ 0 (f.e8.setL (by decide) (Or.inr ⟨rfl, rfl⟩)) s2 X.e90 (by rw [ev]; exact ⟨rfl, mL_90⟩)⟩
  · obtain ⟨f, X, e⟩ := hq
    obtain ⟨c, hm, ev⟩ := rv_ex e hk (exo_trim (T := T) (C := C) (Ct := Ct) (D := D) (t := t) (L := L) (x := x)) (by decide)
    exact ⟨(c : Int), hok_trim (k, c) hm, hS2, hQ μ' _ f.e8 hS2 X (by rw [ev]; exact (by decide : ∀ z ∈ ([(1, 1)] : List (Nat × Nat)), Int32.ofInt (z.2 : Int) = nI z.2) (k, c) hm)⟩
def hh_count : List (Nat × Nat × Nat × Nat) := [(0, 9, 12, 24)]
theorem hok_count : ∀ z ∈ ([(2, 1)] : List (Nat × Nat)), HOK K_LW_count hh_count 4 z.1 (z.2 : Int) := by
  intro z hz
  rcases List.mem_cons.mp hz with rfl | hz
  · exact ⟨[], (⟨0, 9, 12, 24⟩ : ExceptionTableEntry), [], rfl, (fun z hz => by cases hz), by decide, by decide, tb_at 1124 (by decide +kernel) (by decide +kernel), Or.inr ⟨3, d_LW_count_12, by decide, d_LW_count_13, d_LW_count_14⟩⟩
  cases hz
theorem exo_count {T : PT} {C Ct : Nat → List Op} {D : DT} {t : Nat → Nat} {L : Nat} {x : Int32} {x1 : Int32} : exOK [(2, 1)] (rvCount T D L x1) := by
  unfold rvCount
  repeat' first | exact exOK.ok | exact exOK.ex (by decide) | apply exOK.ite2 | apply exOK.ite
theorem moh_count : MOH K_LW_count hh_count 3 := ⟨tb_at 1123 (by decide +kernel) (by decide +kernel), tb_at 123 (by decide +kernel) (by decide +kernel), by decide +kernel, by decide +kernel, by decide +kernel⟩
theorem c_LW_count {d rc rs n : Nat} {Q : Option Value → Mu → Prop} {μ : Mu} {T : PT} {C Ct : Nat → List Op} {D : DT} {t : Nat → Nat} {L : Nat} {x : Int32} {x1 : Int32} (hC : CI μ T C Ct D t L x) (hD : 9 ≤ d) (hc : 1 ≤ rc) (hs : 6 ≤ rs) (hS : St μ) (hQ : ∀ μ' code, Fr OwE8 μ μ' → St μ' → CI μ' T C Ct D t L x → WO (rvCount T D L x1) code μ' → Q (some (.int code)) μ') : CalH K_LW_count hh_count d rc rs [.ref (hd 8 0), .int x1, .ref (hd 90 0)] μ Q := by
  refine CalH.of (by decide +kernel) rfl rfl (Nat.le_of_ble_eq_true rfl) rfl rfl ?_
  refine Wh.aload_n (j := 2) d_LW_count_0 rfl ?_
  refine Wh.iconst (v := 0) d_LW_count_1 rfl ?_
  refine Wh.aload_n (j := 0) d_LW_count_2 rfl ?_
  refine Wh.iload_n (j := 1) d_LW_count_3 rfl ?_
  refine Wh.callT (As := [.int x1]) (b := hd 8 0) (d - 1) 1 6 (Q' := fun r μ' => Fr OwC8 μ μ' ∧ CI μ' T C Ct D t L x ∧ r = (rvCount T D L x1).c) d_LW_count_4 mok_PB_count (tb_at 1125 (by decide +kernel) (by decide +kernel)) vl_LW_21.2.1 vl_LW_21.2.2 rfl rfl (Nat.le_of_ble_eq_true rfl) (by omega) hc hs (s_8 hS (by decide)) rfl (c_PB_count hC (by omega) (Nat.le_refl _) (Nat.le_refl _) hS ⟨Fr.rf, hC, rfl⟩) (fun v μ' hS2 hq => ?_) (fun k μ' hk hS2 hq => ?_)
  · obtain ⟨f, X, e⟩ := hq
    have ev := rv_ok e
    refine Wa.i2l d_LW_count_7 ?_
    refine Wa.last d_LW_count_8 w_90 (s_90 hS2 (by decide)) (vp_in_nI (n := 0) (N := 1) (by decide) (by decide)) ?_
    refine Wa.goto 15 d_LW_count_9 (by decide) ?_
    refine Wa.iconst (v := 0) d_LW_count_15 rfl ?_
    have s2 : St (setL μ' (hd 90 0) (0 : Int32).toNatClampNeg v.toInt64) := hS2
    exact Wx.reti d_LW_count_16 rfl ⟨s2, hQ _ 0 (f.e8.setL (by decide) (Or.inr ⟨rfl, rfl⟩)) s2 X.e90 (by rw [ev]; exact ⟨rfl, mL_90⟩)⟩
  · obtain ⟨f, X, e⟩ := hq
    obtain ⟨c, hm, ev⟩ := rv_ex e hk (exo_count (T := T) (C := C) (Ct := Ct) (D := D) (t := t) (L := L) (x := x)) (by decide)
    exact ⟨(c : Int), hok_count (k, c) hm, hS2, hQ μ' _ f.e8 hS2 X (by rw [ev]; exact (by decide : ∀ z ∈ ([(2, 1)] : List (Nat × Nat)), Int32.ofInt (z.2 : Int) = nI z.2) (k, c) hm)⟩
def hh_parish : List (Nat × Nat × Nat × Nat) := [(0, 10, 13, 24)]
theorem hok_parish : ∀ z ∈ ([(2, 1)] : List (Nat × Nat)), HOK K_LW_parish hh_parish 5 z.1 (z.2 : Int) := by
  intro z hz
  rcases List.mem_cons.mp hz with rfl | hz
  · exact ⟨[], (⟨0, 10, 13, 24⟩ : ExceptionTableEntry), [], rfl, (fun z hz => by cases hz), by decide, by decide, tb_at 1124 (by decide +kernel) (by decide +kernel), Or.inl ⟨4, d_LW_parish_13, by decide, d_LW_parish_15, d_LW_parish_16⟩⟩
  cases hz
theorem exo_parish {T : PT} {C Ct : Nat → List Op} {D : DT} {t : Nat → Nat} {L : Nat} {x : Int32} {x1 : Int32} {x2 : Int32} : exOK [(2, 1)] (rvParish T D x1 x2) := by
  unfold rvParish
  repeat' first | exact exOK.ok | exact exOK.ex (by decide) | apply exOK.ite2 | apply exOK.ite
theorem moh_parish : MOH K_LW_parish hh_parish 4 := ⟨tb_at 1147 (by decide +kernel) (by decide +kernel), tb_at 123 (by decide +kernel) (by decide +kernel), by decide +kernel, by decide +kernel, by decide +kernel⟩
theorem c_LW_parish {d rc rs n : Nat} {Q : Option Value → Mu → Prop} {μ : Mu} {T : PT} {C Ct : Nat → List Op} {D : DT} {t : Nat → Nat} {L : Nat} {x : Int32} {x1 : Int32} {x2 : Int32} (hC : CI μ T C Ct D t L x) (hD : 9 ≤ d) (hc : 1 ≤ rc) (hs : 6 ≤ rs) (hS : St μ) (hQ : ∀ μ' code, Fr OwE8 μ μ' → St μ' → CI μ' T C Ct D t L x → WO (rvParish T D x1 x2) code μ' → Q (some (.int code)) μ') : CalH K_LW_parish hh_parish d rc rs [.ref (hd 8 0), .int x1, .int x2, .ref (hd 90 0)] μ Q := by
  refine CalH.of (by decide +kernel) rfl rfl (Nat.le_of_ble_eq_true rfl) rfl rfl ?_
  refine Wh.aload_n (j := 3) d_LW_parish_0 rfl ?_
  refine Wh.iconst (v := 0) d_LW_parish_1 rfl ?_
  refine Wh.aload_n (j := 0) d_LW_parish_2 rfl ?_
  refine Wh.iload_n (j := 1) d_LW_parish_3 rfl ?_
  refine Wh.iload_n (j := 2) d_LW_parish_4 rfl ?_
  refine Wh.callT (As := [.int x1, .int x2]) (b := hd 8 0) (d - 1) 1 6 (Q' := fun r μ' => Fr OwC8 μ μ' ∧ CI μ' T C Ct D t L x ∧ r = (rvParish T D x1 x2).c) d_LW_parish_5 mok_PB_parish (tb_at 1148 (by decide +kernel) (by decide +kernel)) vl_LW_26.2.1 vl_LW_26.2.2 rfl rfl (Nat.le_of_ble_eq_true rfl) (by omega) hc hs (s_8 hS (by decide)) rfl (c_PB_parish hC (by omega) (Nat.le_refl _) (Nat.le_refl _) hS ⟨Fr.rf, hC, rfl⟩) (fun v μ' hS2 hq => ?_) (fun k μ' hk hS2 hq => ?_)
  · obtain ⟨f, X, e⟩ := hq
    have ev := rv_ok e
    refine Wa.i2l d_LW_parish_8 ?_
    refine Wa.last d_LW_parish_9 w_90 (s_90 hS2 (by decide)) (vp_in_nI (n := 0) (N := 1) (by decide) (by decide)) ?_
    refine Wa.goto 17 d_LW_parish_10 (by decide) ?_
    refine Wa.iconst (v := 0) d_LW_parish_17 rfl ?_
    have s2 : St (setL μ' (hd 90 0) (0 : Int32).toNatClampNeg v.toInt64) := hS2
    exact Wx.reti d_LW_parish_18 rfl ⟨s2, hQ _ 0 (f.e8.setL (by decide) (Or.inr ⟨rfl, rfl⟩)) s2 X.e90 (by rw [ev]; exact ⟨rfl, mL_90⟩)⟩
  · obtain ⟨f, X, e⟩ := hq
    obtain ⟨c, hm, ev⟩ := rv_ex e hk (exo_parish (T := T) (C := C) (Ct := Ct) (D := D) (t := t) (L := L) (x := x)) (by decide)
    exact ⟨(c : Int), hok_parish (k, c) hm, hS2, hQ μ' _ f.e8 hS2 X (by rw [ev]; exact (by decide : ∀ z ∈ ([(2, 1)] : List (Nat × Nat)), Int32.ofInt (z.2 : Int) = nI z.2) (k, c) hm)⟩
def hh_knows : List (Nat × Nat × Nat × Nat) := [(0, 10, 13, 24)]
theorem hok_knows : ∀ z ∈ ([(2, 1)] : List (Nat × Nat)), HOK K_LW_knows hh_knows 5 z.1 (z.2 : Int) := by
  intro z hz
  rcases List.mem_cons.mp hz with rfl | hz
  · exact ⟨[], (⟨0, 10, 13, 24⟩ : ExceptionTableEntry), [], rfl, (fun z hz => by cases hz), by decide, by decide, tb_at 1124 (by decide +kernel) (by decide +kernel), Or.inl ⟨4, d_LW_knows_13, by decide, d_LW_knows_15, d_LW_knows_16⟩⟩
  cases hz
theorem exo_knows {T : PT} {C Ct : Nat → List Op} {D : DT} {t : Nat → Nat} {L : Nat} {x : Int32} {x1 : Int32} {x2 : Int32} : exOK [(2, 1)] (rvKnows T D x1 x2) := by
  unfold rvKnows
  repeat' first | exact exOK.ok | exact exOK.ex (by decide) | apply exOK.ite2 | apply exOK.ite
theorem moh_knows : MOH K_LW_knows hh_knows 4 := ⟨tb_at 1159 (by decide +kernel) (by decide +kernel), tb_at 123 (by decide +kernel) (by decide +kernel), by decide +kernel, by decide +kernel, by decide +kernel⟩
theorem c_LW_knows {d rc rs n : Nat} {Q : Option Value → Mu → Prop} {μ : Mu} {T : PT} {C Ct : Nat → List Op} {D : DT} {t : Nat → Nat} {L : Nat} {x : Int32} {x1 : Int32} {x2 : Int32} (hC : CI μ T C Ct D t L x) (hD : 9 ≤ d) (hc : 1 ≤ rc) (hs : 6 ≤ rs) (hS : St μ) (hQ : ∀ μ' code, Fr OwE8 μ μ' → St μ' → CI μ' T C Ct D t L x → WO (rvKnows T D x1 x2) code μ' → Q (some (.int code)) μ') : CalH K_LW_knows hh_knows d rc rs [.ref (hd 8 0), .int x1, .int x2, .ref (hd 90 0)] μ Q := by
  refine CalH.of (by decide +kernel) rfl rfl (Nat.le_of_ble_eq_true rfl) rfl rfl ?_
  refine Wh.aload_n (j := 3) d_LW_knows_0 rfl ?_
  refine Wh.iconst (v := 0) d_LW_knows_1 rfl ?_
  refine Wh.aload_n (j := 0) d_LW_knows_2 rfl ?_
  refine Wh.iload_n (j := 1) d_LW_knows_3 rfl ?_
  refine Wh.iload_n (j := 2) d_LW_knows_4 rfl ?_
  refine Wh.callT (As := [.int x1, .int x2]) (b := hd 8 0) (d - 1) 1 6 (Q' := fun r μ' => Fr OwC8 μ μ' ∧ CI μ' T C Ct D t L x ∧ r = (rvKnows T D x1 x2).c) d_LW_knows_5 mok_PB_knows (tb_at 1160 (by decide +kernel) (by decide +kernel)) vl_LW_30.2.1 vl_LW_30.2.2 rfl rfl (Nat.le_of_ble_eq_true rfl) (by omega) hc hs (s_8 hS (by decide)) rfl (c_PB_knows hC (by omega) (Nat.le_refl _) (Nat.le_refl _) hS ⟨Fr.rf, hC, rfl⟩) (fun v μ' hS2 hq => ?_) (fun k μ' hk hS2 hq => ?_)
  · obtain ⟨f, X, e⟩ := hq
    have ev := rv_ok e
    refine Wa.i2l d_LW_knows_8 ?_
    refine Wa.last d_LW_knows_9 w_90 (s_90 hS2 (by decide)) (vp_in_nI (n := 0) (N := 1) (by decide) (by decide)) ?_
    refine Wa.goto 17 d_LW_knows_10 (by decide) ?_
    refine Wa.iconst (v := 0) d_LW_knows_17 rfl ?_
    have s2 : St (setL μ' (hd 90 0) (0 : Int32).toNatClampNeg v.toInt64) := hS2
    exact Wx.reti d_LW_knows_18 rfl ⟨s2, hQ _ 0 (f.e8.setL (by decide) (Or.inr ⟨rfl, rfl⟩)) s2 X.e90 (by rw [ev]; exact ⟨rfl, mL_90⟩)⟩
  · obtain ⟨f, X, e⟩ := hq
    obtain ⟨c, hm, ev⟩ := rv_ex e hk (exo_knows (T := T) (C := C) (Ct := Ct) (D := D) (t := t) (L := L) (x := x)) (by decide)
    exact ⟨(c : Int), hok_knows (k, c) hm, hS2, hQ μ' _ f.e8 hS2 X (by rw [ev]; exact (by decide : ∀ z ∈ ([(2, 1)] : List (Nat × Nat)), Int32.ofInt (z.2 : Int) = nI z.2) (k, c) hm)⟩
def hh_sheet : List (Nat × Nat × Nat × Nat) := [(0, 10, 13, 24)]
theorem hok_sheet : ∀ z ∈ ([(2, 1)] : List (Nat × Nat)), HOK K_LW_sheet hh_sheet 5 z.1 (z.2 : Int) := by
  intro z hz
  rcases List.mem_cons.mp hz with rfl | hz
  · exact ⟨[], (⟨0, 10, 13, 24⟩ : ExceptionTableEntry), [], rfl, (fun z hz => by cases hz), by decide, by decide, tb_at 1124 (by decide +kernel) (by decide +kernel), Or.inl ⟨4, d_LW_sheet_13, by decide, d_LW_sheet_15, d_LW_sheet_16⟩⟩
  cases hz
theorem exo_sheet {T : PT} {C Ct : Nat → List Op} {D : DT} {t : Nat → Nat} {L : Nat} {x : Int32} {x1 : Int32} {x2 : Int32} : exOK [(2, 1)] (rvSheet T D x1 x2) := by
  unfold rvSheet
  repeat' first | exact exOK.ok | exact exOK.ex (by decide) | apply exOK.ite2 | apply exOK.ite
theorem moh_sheet : MOH K_LW_sheet hh_sheet 4 := ⟨tb_at 1167 (by decide +kernel) (by decide +kernel), tb_at 123 (by decide +kernel) (by decide +kernel), by decide +kernel, by decide +kernel, by decide +kernel⟩
theorem c_LW_sheet {d rc rs n : Nat} {Q : Option Value → Mu → Prop} {μ : Mu} {T : PT} {C Ct : Nat → List Op} {D : DT} {t : Nat → Nat} {L : Nat} {x : Int32} {x1 : Int32} {x2 : Int32} (hC : CI μ T C Ct D t L x) (hD : 9 ≤ d) (hc : 1 ≤ rc) (hs : 6 ≤ rs) (hS : St μ) (hQ : ∀ μ' code, Fr OwE8 μ μ' → St μ' → CI μ' T C Ct D t L x → WO (rvSheet T D x1 x2) code μ' → Q (some (.int code)) μ') : CalH K_LW_sheet hh_sheet d rc rs [.ref (hd 8 0), .int x1, .int x2, .ref (hd 90 0)] μ Q := by
  refine CalH.of (by decide +kernel) rfl rfl (Nat.le_of_ble_eq_true rfl) rfl rfl ?_
  refine Wh.aload_n (j := 3) d_LW_sheet_0 rfl ?_
  refine Wh.iconst (v := 0) d_LW_sheet_1 rfl ?_
  refine Wh.aload_n (j := 0) d_LW_sheet_2 rfl ?_
  refine Wh.iload_n (j := 1) d_LW_sheet_3 rfl ?_
  refine Wh.iload_n (j := 2) d_LW_sheet_4 rfl ?_
  refine Wh.callT (As := [.int x1, .int x2]) (b := hd 8 0) (d - 1) 1 6 (Q' := fun r μ' => Fr OwC8 μ μ' ∧ CI μ' T C Ct D t L x ∧ r = (rvSheet T D x1 x2).c) d_LW_sheet_5 mok_PB_sheet (tb_at 1168 (by decide +kernel) (by decide +kernel)) vl_LW_33.2.1 vl_LW_33.2.2 rfl rfl (Nat.le_of_ble_eq_true rfl) (by omega) hc hs (s_8 hS (by decide)) rfl (c_PB_sheet hC (by omega) (Nat.le_refl _) (Nat.le_refl _) hS ⟨Fr.rf, hC, rfl⟩) (fun v μ' hS2 hq => ?_) (fun k μ' hk hS2 hq => ?_)
  · obtain ⟨f, X, e⟩ := hq
    have ev := rv_ok e
    refine Wa.i2l d_LW_sheet_8 ?_
    refine Wa.last d_LW_sheet_9 w_90 (s_90 hS2 (by decide)) (vp_in_nI (n := 0) (N := 1) (by decide) (by decide)) ?_
    refine Wa.goto 17 d_LW_sheet_10 (by decide) ?_
    refine Wa.iconst (v := 0) d_LW_sheet_17 rfl ?_
    have s2 : St (setL μ' (hd 90 0) (0 : Int32).toNatClampNeg v.toInt64) := hS2
    exact Wx.reti d_LW_sheet_18 rfl ⟨s2, hQ _ 0 (f.e8.setL (by decide) (Or.inr ⟨rfl, rfl⟩)) s2 X.e90 (by rw [ev]; exact ⟨rfl, mL_90⟩)⟩
  · obtain ⟨f, X, e⟩ := hq
    obtain ⟨c, hm, ev⟩ := rv_ex e hk (exo_sheet (T := T) (C := C) (Ct := Ct) (D := D) (t := t) (L := L) (x := x)) (by decide)
    exact ⟨(c : Int), hok_sheet (k, c) hm, hS2, hQ μ' _ f.e8 hS2 X (by rw [ev]; exact (by decide : ∀ z ∈ ([(2, 1)] : List (Nat × Nat)), Int32.ofInt (z.2 : Int) = nI z.2) (k, c) hm)⟩
def hh_stamp : List (Nat × Nat × Nat × Nat) := [(0, 10, 13, 24)]
theorem hok_stamp : ∀ z ∈ ([(2, 1)] : List (Nat × Nat)), HOK K_LW_stamp hh_stamp 5 z.1 (z.2 : Int) := by
  intro z hz
  rcases List.mem_cons.mp hz with rfl | hz
  · exact ⟨[], (⟨0, 10, 13, 24⟩ : ExceptionTableEntry), [], rfl, (fun z hz => by cases hz), by decide, by decide, tb_at 1124 (by decide +kernel) (by decide +kernel), Or.inl ⟨4, d_LW_stamp_13, by decide, d_LW_stamp_15, d_LW_stamp_16⟩⟩
  cases hz
theorem exo_stamp {T : PT} {C Ct : Nat → List Op} {D : DT} {t : Nat → Nat} {L : Nat} {x : Int32} {x1 : Int32} {x2 : Int32} : exOK [(2, 1)] (rvStamp T D x1 x2) := by
  unfold rvStamp
  repeat' first | exact exOK.ok | exact exOK.ex (by decide) | apply exOK.ite2 | apply exOK.ite
theorem moh_stamp : MOH K_LW_stamp hh_stamp 4 := ⟨tb_at 1179 (by decide +kernel) (by decide +kernel), tb_at 123 (by decide +kernel) (by decide +kernel), by decide +kernel, by decide +kernel, by decide +kernel⟩
theorem c_LW_stamp {d rc rs n : Nat} {Q : Option Value → Mu → Prop} {μ : Mu} {T : PT} {C Ct : Nat → List Op} {D : DT} {t : Nat → Nat} {L : Nat} {x : Int32} {x1 : Int32} {x2 : Int32} (hC : CI μ T C Ct D t L x) (hD : 9 ≤ d) (hc : 1 ≤ rc) (hs : 6 ≤ rs) (hS : St μ) (hQ : ∀ μ' code, Fr OwE8 μ μ' → St μ' → CI μ' T C Ct D t L x → WO (rvStamp T D x1 x2) code μ' → Q (some (.int code)) μ') : CalH K_LW_stamp hh_stamp d rc rs [.ref (hd 8 0), .int x1, .int x2, .ref (hd 90 0)] μ Q := by
  refine CalH.of (by decide +kernel) rfl rfl (Nat.le_of_ble_eq_true rfl) rfl rfl ?_
  refine Wh.aload_n (j := 3) d_LW_stamp_0 rfl ?_
  refine Wh.iconst (v := 0) d_LW_stamp_1 rfl ?_
  refine Wh.aload_n (j := 0) d_LW_stamp_2 rfl ?_
  refine Wh.iload_n (j := 1) d_LW_stamp_3 rfl ?_
  refine Wh.iload_n (j := 2) d_LW_stamp_4 rfl ?_
  refine Wh.callT (As := [.int x1, .int x2]) (b := hd 8 0) (d - 1) 1 6 (Q' := fun r μ' => Fr OwC8 μ μ' ∧ CI μ' T C Ct D t L x ∧ r = (rvStamp T D x1 x2).c) d_LW_stamp_5 mok_PB_stamp (tb_at 1180 (by decide +kernel) (by decide +kernel)) vl_LW_36.2.1 vl_LW_36.2.2 rfl rfl (Nat.le_of_ble_eq_true rfl) (by omega) hc hs (s_8 hS (by decide)) rfl (c_PB_stamp hC (by omega) (Nat.le_refl _) (Nat.le_refl _) hS ⟨Fr.rf, hC, rfl⟩) (fun v μ' hS2 hq => ?_) (fun k μ' hk hS2 hq => ?_)
  · obtain ⟨f, X, e⟩ := hq
    have ev := rv_ok e
    refine Wa.i2l d_LW_stamp_8 ?_
    refine Wa.last d_LW_stamp_9 w_90 (s_90 hS2 (by decide)) (vp_in_nI (n := 0) (N := 1) (by decide) (by decide)) ?_
    refine Wa.goto 17 d_LW_stamp_10 (by decide) ?_
    refine Wa.iconst (v := 0) d_LW_stamp_17 rfl ?_
    have s2 : St (setL μ' (hd 90 0) (0 : Int32).toNatClampNeg v.toInt64) := hS2
    exact Wx.reti d_LW_stamp_18 rfl ⟨s2, hQ _ 0 (f.e8.setL (by decide) (Or.inr ⟨rfl, rfl⟩)) s2 X.e90 (by rw [ev]; exact ⟨rfl, mL_90⟩)⟩
  · obtain ⟨f, X, e⟩ := hq
    obtain ⟨c, hm, ev⟩ := rv_ex e hk (exo_stamp (T := T) (C := C) (Ct := Ct) (D := D) (t := t) (L := L) (x := x)) (by decide)
    exact ⟨(c : Int), hok_stamp (k, c) hm, hS2, hQ μ' _ f.e8 hS2 X (by rw [ev]; exact (by decide : ∀ z ∈ ([(2, 1)] : List (Nat × Nat)), Int32.ofInt (z.2 : Int) = nI z.2) (k, c) hm)⟩
def hh_shown : List (Nat × Nat × Nat × Nat) := [(0, 12, 15, 24)]
theorem hok_shown : ∀ z ∈ ([(2, 1)] : List (Nat × Nat)), HOK K_LW_shown hh_shown 7 z.1 (z.2 : Int) := by
  intro z hz
  rcases List.mem_cons.mp hz with rfl | hz
  · exact ⟨[], (⟨0, 12, 15, 24⟩ : ExceptionTableEntry), [], rfl, (fun z hz => by cases hz), by decide, by decide, tb_at 1124 (by decide +kernel) (by decide +kernel), Or.inl ⟨5, d_LW_shown_15, by decide, d_LW_shown_17, d_LW_shown_18⟩⟩
  cases hz
theorem exo_shown {T : PT} {C Ct : Nat → List Op} {D : DT} {t : Nat → Nat} {L : Nat} {x : Int32} {x1 : Int32} {x2 : Int32} {x3 : Int32} : exOK [(2, 1)] (rvShown T D x1 x2 x3) := by
  unfold rvShown
  repeat' first | exact exOK.ok | exact exOK.ex (by decide) | apply exOK.ite2 | apply exOK.ite
theorem moh_shown : MOH K_LW_shown hh_shown 5 := ⟨tb_at 1187 (by decide +kernel) (by decide +kernel), tb_at 123 (by decide +kernel) (by decide +kernel), by decide +kernel, by decide +kernel, by decide +kernel⟩
theorem c_LW_shown {d rc rs n : Nat} {Q : Option Value → Mu → Prop} {μ : Mu} {T : PT} {C Ct : Nat → List Op} {D : DT} {t : Nat → Nat} {L : Nat} {x : Int32} {x1 : Int32} {x2 : Int32} {x3 : Int32} (hC : CI μ T C Ct D t L x) (hD : 9 ≤ d) (hc : 1 ≤ rc) (hs : 6 ≤ rs) (hS : St μ) (hQ : ∀ μ' code, Fr OwE8 μ μ' → St μ' → CI μ' T C Ct D t L x → WO (rvShown T D x1 x2 x3) code μ' → Q (some (.int code)) μ') : CalH K_LW_shown hh_shown d rc rs [.ref (hd 8 0), .int x1, .int x2, .int x3, .ref (hd 90 0)] μ Q := by
  refine CalH.of (by decide +kernel) rfl rfl (Nat.le_of_ble_eq_true rfl) rfl rfl ?_
  refine Wh.aload (j := 4) d_LW_shown_0 rfl ?_
  refine Wh.iconst (v := 0) d_LW_shown_2 rfl ?_
  refine Wh.aload_n (j := 0) d_LW_shown_3 rfl ?_
  refine Wh.iload_n (j := 1) d_LW_shown_4 rfl ?_
  refine Wh.iload_n (j := 2) d_LW_shown_5 rfl ?_
  refine Wh.iload_n (j := 3) d_LW_shown_6 rfl ?_
  refine Wh.callT (As := [.int x1, .int x2, .int x3]) (b := hd 8 0) (d - 1) 1 6 (Q' := fun r μ' => Fr OwC8 μ μ' ∧ CI μ' T C Ct D t L x ∧ r = (rvShown T D x1 x2 x3).c) d_LW_shown_7 mok_PB_shown (tb_at 1188 (by decide +kernel) (by decide +kernel)) vl_LW_39.2.1 vl_LW_39.2.2 rfl rfl (Nat.le_of_ble_eq_true rfl) (by omega) hc hs (s_8 hS (by decide)) rfl (c_PB_shown hC (by omega) (Nat.le_refl _) (Nat.le_refl _) hS ⟨Fr.rf, hC, rfl⟩) (fun v μ' hS2 hq => ?_) (fun k μ' hk hS2 hq => ?_)
  · obtain ⟨f, X, e⟩ := hq
    have ev := rv_ok e
    refine Wa.i2l d_LW_shown_10 ?_
    refine Wa.last d_LW_shown_11 w_90 (s_90 hS2 (by decide)) (vp_in_nI (n := 0) (N := 1) (by decide) (by decide)) ?_
    refine Wa.goto 19 d_LW_shown_12 (by decide) ?_
    refine Wa.iconst (v := 0) d_LW_shown_19 rfl ?_
    have s2 : St (setL μ' (hd 90 0) (0 : Int32).toNatClampNeg v.toInt64) := hS2
    exact Wx.reti d_LW_shown_20 rfl ⟨s2, hQ _ 0 (f.e8.setL (by decide) (Or.inr ⟨rfl, rfl⟩)) s2 X.e90 (by rw [ev]; exact ⟨rfl, mL_90⟩)⟩
  · obtain ⟨f, X, e⟩ := hq
    obtain ⟨c, hm, ev⟩ := rv_ex e hk (exo_shown (T := T) (C := C) (Ct := Ct) (D := D) (t := t) (L := L) (x := x)) (by decide)
    exact ⟨(c : Int), hok_shown (k, c) hm, hS2, hQ μ' _ f.e8 hS2 X (by rw [ev]; exact (by decide : ∀ z ∈ ([(2, 1)] : List (Nat × Nat)), Int32.ofInt (z.2 : Int) = nI z.2) (k, c) hm)⟩
def hh_compare : List (Nat × Nat × Nat × Nat) := [(0, 10, 13, 24)]
theorem hok_compare : ∀ z ∈ ([(2, 1)] : List (Nat × Nat)), HOK K_LW_compare hh_compare 5 z.1 (z.2 : Int) := by
  intro z hz
  rcases List.mem_cons.mp hz with rfl | hz
  · exact ⟨[], (⟨0, 10, 13, 24⟩ : ExceptionTableEntry), [], rfl, (fun z hz => by cases hz), by decide, by decide, tb_at 1124 (by decide +kernel) (by decide +kernel), Or.inl ⟨4, d_LW_compare_13, by decide, d_LW_compare_15, d_LW_compare_16⟩⟩
  cases hz
theorem exo_compare {T : PT} {C Ct : Nat → List Op} {D : DT} {t : Nat → Nat} {L : Nat} {x : Int32} {x1 : Int32} {x2 : Int32} : exOK [(2, 1)] (rvCompare D x1 x2) := by
  unfold rvCompare
  repeat' first | exact exOK.ok | exact exOK.ex (by decide) | apply exOK.ite2 | apply exOK.ite
theorem moh_compare : MOH K_LW_compare hh_compare 4 := ⟨tb_at 1200 (by decide +kernel) (by decide +kernel), tb_at 123 (by decide +kernel) (by decide +kernel), by decide +kernel, by decide +kernel, by decide +kernel⟩
theorem c_LW_compare {d rc rs n : Nat} {Q : Option Value → Mu → Prop} {μ : Mu} {T : PT} {C Ct : Nat → List Op} {D : DT} {t : Nat → Nat} {L : Nat} {x : Int32} {x1 : Int32} {x2 : Int32} (hC : CI μ T C Ct D t L x) (hD : 9 ≤ d) (hc : 1 ≤ rc) (hs : 6 ≤ rs) (hS : St μ) (hQ : ∀ μ' code, Fr OwE8 μ μ' → St μ' → CI μ' T C Ct D t L x → WO (rvCompare D x1 x2) code μ' → Q (some (.int code)) μ') : CalH K_LW_compare hh_compare d rc rs [.ref (hd 8 0), .int x1, .int x2, .ref (hd 90 0)] μ Q := by
  refine CalH.of (by decide +kernel) rfl rfl (Nat.le_of_ble_eq_true rfl) rfl rfl ?_
  refine Wh.aload_n (j := 3) d_LW_compare_0 rfl ?_
  refine Wh.iconst (v := 0) d_LW_compare_1 rfl ?_
  refine Wh.aload_n (j := 0) d_LW_compare_2 rfl ?_
  refine Wh.iload_n (j := 1) d_LW_compare_3 rfl ?_
  refine Wh.iload_n (j := 2) d_LW_compare_4 rfl ?_
  refine Wh.callT (As := [.int x1, .int x2]) (b := hd 8 0) (d - 1) 1 6 (Q' := fun r μ' => Fr OwC8 μ μ' ∧ CI μ' T C Ct D t L x ∧ r = (rvCompare D x1 x2).c) d_LW_compare_5 mok_PB_compare (tb_at 1201 (by decide +kernel) (by decide +kernel)) vl_LW_43.2.1 vl_LW_43.2.2 rfl rfl (Nat.le_of_ble_eq_true rfl) (by omega) hc hs (s_8 hS (by decide)) rfl (c_PB_compare hC (by omega) (Nat.le_refl _) (Nat.le_refl _) hS ⟨Fr.rf, hC, rfl⟩) (fun v μ' hS2 hq => ?_) (fun k μ' hk hS2 hq => ?_)
  · obtain ⟨f, X, e⟩ := hq
    have ev := rv_ok e
    refine Wa.i2l d_LW_compare_8 ?_
    refine Wa.last d_LW_compare_9 w_90 (s_90 hS2 (by decide)) (vp_in_nI (n := 0) (N := 1) (by decide) (by decide)) ?_
    refine Wa.goto 17 d_LW_compare_10 (by decide) ?_
    refine Wa.iconst (v := 0) d_LW_compare_17 rfl ?_
    have s2 : St (setL μ' (hd 90 0) (0 : Int32).toNatClampNeg v.toInt64) := hS2
    exact Wx.reti d_LW_compare_18 rfl ⟨s2, hQ _ 0 (f.e8.setL (by decide) (Or.inr ⟨rfl, rfl⟩)) s2 X.e90 (by rw [ev]; exact ⟨rfl, mL_90⟩)⟩
  · obtain ⟨f, X, e⟩ := hq
    obtain ⟨c, hm, ev⟩ := rv_ex e hk (exo_compare (T := T) (C := C) (Ct := Ct) (D := D) (t := t) (L := L) (x := x)) (by decide)
    exact ⟨(c : Int), hok_compare (k, c) hm, hS2, hQ μ' _ f.e8 hS2 X (by rw [ev]; exact (by decide : ∀ z ∈ ([(2, 1)] : List (Nat × Nat)), Int32.ofInt (z.2 : Int) = nI z.2) (k, c) hm)⟩
def hh_road : List (Nat × Nat × Nat × Nat) := [(0, 10, 13, 24)]
theorem hok_road : ∀ z ∈ ([(2, 1)] : List (Nat × Nat)), HOK K_LW_road hh_road 5 z.1 (z.2 : Int) := by
  intro z hz
  rcases List.mem_cons.mp hz with rfl | hz
  · exact ⟨[], (⟨0, 10, 13, 24⟩ : ExceptionTableEntry), [], rfl, (fun z hz => by cases hz), by decide, by decide, tb_at 1124 (by decide +kernel) (by decide +kernel), Or.inl ⟨4, d_LW_road_13, by decide, d_LW_road_15, d_LW_road_16⟩⟩
  cases hz
theorem exo_road {T : PT} {C Ct : Nat → List Op} {D : DT} {t : Nat → Nat} {L : Nat} {x : Int32} {x1 : Int32} {x2 : Int32} : exOK [(2, 1)] (rvRoad T D x1 x2) := by
  unfold rvRoad
  repeat' first | exact exOK.ok | exact exOK.ex (by decide) | apply exOK.ite2 | apply exOK.ite
theorem moh_road : MOH K_LW_road hh_road 4 := ⟨tb_at 1212 (by decide +kernel) (by decide +kernel), tb_at 123 (by decide +kernel) (by decide +kernel), by decide +kernel, by decide +kernel, by decide +kernel⟩
theorem c_LW_road {d rc rs n : Nat} {Q : Option Value → Mu → Prop} {μ : Mu} {T : PT} {C Ct : Nat → List Op} {D : DT} {t : Nat → Nat} {L : Nat} {x : Int32} {x1 : Int32} {x2 : Int32} (hC : CI μ T C Ct D t L x) (hD : 9 ≤ d) (hc : 1 ≤ rc) (hs : 6 ≤ rs) (hS : St μ) (hQ : ∀ μ' code, Fr OwE8 μ μ' → St μ' → CI μ' T C Ct D t L x → WO (rvRoad T D x1 x2) code μ' → Q (some (.int code)) μ') : CalH K_LW_road hh_road d rc rs [.ref (hd 8 0), .int x1, .int x2, .ref (hd 90 0)] μ Q := by
  refine CalH.of (by decide +kernel) rfl rfl (Nat.le_of_ble_eq_true rfl) rfl rfl ?_
  refine Wh.aload_n (j := 3) d_LW_road_0 rfl ?_
  refine Wh.iconst (v := 0) d_LW_road_1 rfl ?_
  refine Wh.aload_n (j := 0) d_LW_road_2 rfl ?_
  refine Wh.iload_n (j := 1) d_LW_road_3 rfl ?_
  refine Wh.iload_n (j := 2) d_LW_road_4 rfl ?_
  refine Wh.callT (As := [.int x1, .int x2]) (b := hd 8 0) (d - 1) 1 6 (Q' := fun r μ' => Fr OwC8 μ μ' ∧ CI μ' T C Ct D t L x ∧ r = (rvRoad T D x1 x2).c) d_LW_road_5 mok_PB_road (tb_at 1213 (by decide +kernel) (by decide +kernel)) vl_LW_46.2.1 vl_LW_46.2.2 rfl rfl (Nat.le_of_ble_eq_true rfl) (by omega) hc hs (s_8 hS (by decide)) rfl (c_PB_road hC (by omega) (Nat.le_refl _) (Nat.le_refl _) hS ⟨Fr.rf, hC, rfl⟩) (fun v μ' hS2 hq => ?_) (fun k μ' hk hS2 hq => ?_)
  · obtain ⟨f, X, e⟩ := hq
    have ev := rv_ok e
    refine Wa.i2l d_LW_road_8 ?_
    refine Wa.last d_LW_road_9 w_90 (s_90 hS2 (by decide)) (vp_in_nI (n := 0) (N := 1) (by decide) (by decide)) ?_
    refine Wa.goto 17 d_LW_road_10 (by decide) ?_
    refine Wa.iconst (v := 0) d_LW_road_17 rfl ?_
    have s2 : St (setL μ' (hd 90 0) (0 : Int32).toNatClampNeg v.toInt64) := hS2
    exact Wx.reti d_LW_road_18 rfl ⟨s2, hQ _ 0 (f.e8.setL (by decide) (Or.inr ⟨rfl, rfl⟩)) s2 X.e90 (by rw [ev]; exact ⟨rfl, mL_90⟩)⟩
  · obtain ⟨f, X, e⟩ := hq
    obtain ⟨c, hm, ev⟩ := rv_ex e hk (exo_road (T := T) (C := C) (Ct := Ct) (D := D) (t := t) (L := L) (x := x)) (by decide)
    exact ⟨(c : Int), hok_road (k, c) hm, hS2, hQ μ' _ f.e8 hS2 X (by rw [ev]; exact (by decide : ∀ z ∈ ([(2, 1)] : List (Nat × Nat)), Int32.ofInt (z.2 : Int) = nI z.2) (k, c) hm)⟩
def hh_write : List (Nat × Nat × Nat × Nat) := [(0, 12, 15, 24), (0, 12, 19, 19), (0, 12, 23, 13)]
theorem hok_write : ∀ z ∈ ([(2, 1), (1, 2), (0, 3)] : List (Nat × Nat)), HOK K_LW_write hh_write 7 z.1 (z.2 : Int) := by
  intro z hz
  rcases List.mem_cons.mp hz with rfl | hz
  · exact ⟨[], (⟨0, 12, 15, 24⟩ : ExceptionTableEntry), [(⟨0, 12, 19, 19⟩ : ExceptionTableEntry), (⟨0, 12, 23, 13⟩ : ExceptionTableEntry)], rfl, (fun z hz => by cases hz), by decide, by decide, tb_at 1124 (by decide +kernel) (by decide +kernel), Or.inl ⟨5, d_LW_write_15, by decide, d_LW_write_17, d_LW_write_18⟩⟩
  rcases List.mem_cons.mp hz with rfl | hz
  · exact ⟨[(⟨0, 12, 15, 24⟩ : ExceptionTableEntry)], (⟨0, 12, 19, 19⟩ : ExceptionTableEntry), [(⟨0, 12, 23, 13⟩ : ExceptionTableEntry)], rfl, (fun z hz => by
      rcases List.mem_cons.mp hz with rfl | hz
      · exact ⟨by decide, "java/lang/IndexOutOfBoundsException", tb_at 1124 (by decide +kernel) (by decide +kernel), by decide +kernel⟩
      cases hz), by decide, by decide, tb_at 1100 (by decide +kernel) (by decide +kernel), Or.inl ⟨5, d_LW_write_19, by decide, d_LW_write_21, d_LW_write_22⟩⟩
  rcases List.mem_cons.mp hz with rfl | hz
  · exact ⟨[(⟨0, 12, 15, 24⟩ : ExceptionTableEntry), (⟨0, 12, 19, 19⟩ : ExceptionTableEntry)], (⟨0, 12, 23, 13⟩ : ExceptionTableEntry), [], rfl, (fun z hz => by
      rcases List.mem_cons.mp hz with rfl | hz
      · exact ⟨by decide, "java/lang/IndexOutOfBoundsException", tb_at 1124 (by decide +kernel) (by decide +kernel), by decide +kernel⟩
      rcases List.mem_cons.mp hz with rfl | hz
      · exact ⟨by decide, "java/lang/IllegalArgumentException", tb_at 1100 (by decide +kernel) (by decide +kernel), by decide +kernel⟩
      cases hz), by decide, by decide, tb_at 1021 (by decide +kernel) (by decide +kernel), Or.inl ⟨5, d_LW_write_23, by decide, d_LW_write_25, d_LW_write_26⟩⟩
  cases hz
theorem exo_write {T : PT} {C Ct : Nat → List Op} {D : DT} {t : Nat → Nat} {L : Nat} {x : Int32} {x1 : Int32} {x2 : Int32} {x3 : Int32} : exOK [(2, 1), (1, 2), (0, 3)] (dvWrite T D x1 x2 x3).1 := by
  unfold dvWrite
  repeat' first | exact exOK.ok | exact exOK.ex (by decide) | apply exOK.ite2 | apply exOK.ite
theorem moh_write : MOH K_LW_write hh_write 5 := ⟨tb_at 1224 (by decide +kernel) (by decide +kernel), tb_at 123 (by decide +kernel) (by decide +kernel), by decide +kernel, by decide +kernel, by decide +kernel⟩
theorem c_LW_write {d rc rs n : Nat} {Q : Option Value → Mu → Prop} {μ : Mu} {T : PT} {C Ct : Nat → List Op} {D : DT} {t : Nat → Nat} {L : Nat} {x : Int32} {x1 : Int32} {x2 : Int32} {x3 : Int32} (hC : CI μ T C Ct D t L x) (hD : 9 ≤ d) (hc : 1 ≤ rc) (hs : 6 ≤ rs) (hS : St μ) (hQ : ∀ μ' code, Fr OwE8 μ μ' → St μ' → CI μ' T C Ct (dvWrite T D x1 x2 x3).2 t L x → WO (dvWrite T D x1 x2 x3).1 code μ' → Q (some (.int code)) μ') : CalH K_LW_write hh_write d rc rs [.ref (hd 8 0), .int x1, .int x2, .int x3, .ref (hd 90 0)] μ Q := by
  refine CalH.of (by decide +kernel) rfl rfl (Nat.le_of_ble_eq_true rfl) rfl rfl ?_
  refine Wh.aload (j := 4) d_LW_write_0 rfl ?_
  refine Wh.iconst (v := 0) d_LW_write_2 rfl ?_
  refine Wh.aload_n (j := 0) d_LW_write_3 rfl ?_
  refine Wh.iload_n (j := 1) d_LW_write_4 rfl ?_
  refine Wh.iload_n (j := 2) d_LW_write_5 rfl ?_
  refine Wh.iload_n (j := 3) d_LW_write_6 rfl ?_
  refine Wh.callT (As := [.int x1, .int x2, .int x3]) (b := hd 8 0) (d - 1) 1 6 (Q' := fun r μ' => Fr OwC8 μ μ' ∧ CI μ' T C Ct (dvWrite T D x1 x2 x3).2 t L x ∧ r = (dvWrite T D x1 x2 x3).1.c) d_LW_write_7 mok_PB_write (tb_at 1225 (by decide +kernel) (by decide +kernel)) vl_LW_49.2.1 vl_LW_49.2.2 rfl rfl (Nat.le_of_ble_eq_true rfl) (by omega) hc hs (s_8 hS (by decide)) rfl (c_PB_write hC (by omega) (Nat.le_refl _) (Nat.le_refl _) hS (fun μ' f s X => ⟨f, X, rfl⟩)) (fun v μ' hS2 hq => ?_) (fun k μ' hk hS2 hq => ?_)
  · obtain ⟨f, X, e⟩ := hq
    have ev := rv_ok e
    refine Wa.i2l d_LW_write_10 ?_
    refine Wa.last d_LW_write_11 w_90 (s_90 hS2 (by decide)) (vp_in_nI (n := 0) (N := 1) (by decide) (by decide)) ?_
    refine Wa.goto 27 d_LW_write_12 (by decide) ?_
    refine Wa.iconst (v := 0) d_LW_write_27 rfl ?_
    have s2 : St (setL μ' (hd 90 0) (0 : Int32).toNatClampNeg v.toInt64) := hS2
    exact Wx.reti d_LW_write_28 rfl ⟨s2, hQ _ 0 (f.e8.setL (by decide) (Or.inr ⟨rfl, rfl⟩)) s2 X.e90 (by rw [ev]; exact ⟨rfl, mL_90⟩)⟩
  · obtain ⟨f, X, e⟩ := hq
    obtain ⟨c, hm, ev⟩ := rv_ex e hk (exo_write (T := T) (C := C) (Ct := Ct) (D := D) (t := t) (L := L) (x := x)) (by decide)
    exact ⟨(c : Int), hok_write (k, c) hm, hS2, hQ μ' _ f.e8 hS2 X (by rw [ev]; exact (by decide : ∀ z ∈ ([(2, 1), (1, 2), (0, 3)] : List (Nat × Nat)), Int32.ofInt (z.2 : Int) = nI z.2) (k, c) hm)⟩
def hh_note : List (Nat × Nat × Nat × Nat) := [(0, 12, 15, 24), (0, 12, 19, 19), (0, 12, 23, 13)]
theorem hok_note : ∀ z ∈ ([(2, 1), (1, 2), (0, 3)] : List (Nat × Nat)), HOK K_LW_note hh_note 7 z.1 (z.2 : Int) := by
  intro z hz
  rcases List.mem_cons.mp hz with rfl | hz
  · exact ⟨[], (⟨0, 12, 15, 24⟩ : ExceptionTableEntry), [(⟨0, 12, 19, 19⟩ : ExceptionTableEntry), (⟨0, 12, 23, 13⟩ : ExceptionTableEntry)], rfl, (fun z hz => by cases hz), by decide, by decide, tb_at 1124 (by decide +kernel) (by decide +kernel), Or.inl ⟨5, d_LW_note_15, by decide, d_LW_note_17, d_LW_note_18⟩⟩
  rcases List.mem_cons.mp hz with rfl | hz
  · exact ⟨[(⟨0, 12, 15, 24⟩ : ExceptionTableEntry)], (⟨0, 12, 19, 19⟩ : ExceptionTableEntry), [(⟨0, 12, 23, 13⟩ : ExceptionTableEntry)], rfl, (fun z hz => by
      rcases List.mem_cons.mp hz with rfl | hz
      · exact ⟨by decide, "java/lang/IndexOutOfBoundsException", tb_at 1124 (by decide +kernel) (by decide +kernel), by decide +kernel⟩
      cases hz), by decide, by decide, tb_at 1100 (by decide +kernel) (by decide +kernel), Or.inl ⟨5, d_LW_note_19, by decide, d_LW_note_21, d_LW_note_22⟩⟩
  rcases List.mem_cons.mp hz with rfl | hz
  · exact ⟨[(⟨0, 12, 15, 24⟩ : ExceptionTableEntry), (⟨0, 12, 19, 19⟩ : ExceptionTableEntry)], (⟨0, 12, 23, 13⟩ : ExceptionTableEntry), [], rfl, (fun z hz => by
      rcases List.mem_cons.mp hz with rfl | hz
      · exact ⟨by decide, "java/lang/IndexOutOfBoundsException", tb_at 1124 (by decide +kernel) (by decide +kernel), by decide +kernel⟩
      rcases List.mem_cons.mp hz with rfl | hz
      · exact ⟨by decide, "java/lang/IllegalArgumentException", tb_at 1100 (by decide +kernel) (by decide +kernel), by decide +kernel⟩
      cases hz), by decide, by decide, tb_at 1021 (by decide +kernel) (by decide +kernel), Or.inl ⟨5, d_LW_note_23, by decide, d_LW_note_25, d_LW_note_26⟩⟩
  cases hz
theorem exo_note {T : PT} {C Ct : Nat → List Op} {D : DT} {t : Nat → Nat} {L : Nat} {x : Int32} {x1 : Int32} {x2 : Int32} {x3 : Int32} : exOK [(2, 1), (1, 2), (0, 3)] (dvNote T D x1 x2 x3).1 := by
  unfold dvNote
  repeat' first | exact exOK.ok | exact exOK.ex (by decide) | apply exOK.ite2 | apply exOK.ite
theorem moh_note : MOH K_LW_note hh_note 5 := ⟨tb_at 1255 (by decide +kernel) (by decide +kernel), tb_at 123 (by decide +kernel) (by decide +kernel), by decide +kernel, by decide +kernel, by decide +kernel⟩
theorem c_LW_note {d rc rs n : Nat} {Q : Option Value → Mu → Prop} {μ : Mu} {T : PT} {C Ct : Nat → List Op} {D : DT} {t : Nat → Nat} {L : Nat} {x : Int32} {x1 : Int32} {x2 : Int32} {x3 : Int32} (hC : CI μ T C Ct D t L x) (hD : 9 ≤ d) (hc : 1 ≤ rc) (hs : 6 ≤ rs) (hS : St μ) (hQ : ∀ μ' code, Fr OwE8 μ μ' → St μ' → CI μ' T C Ct (dvNote T D x1 x2 x3).2 t L x → WO (dvNote T D x1 x2 x3).1 code μ' → Q (some (.int code)) μ') : CalH K_LW_note hh_note d rc rs [.ref (hd 8 0), .int x1, .int x2, .int x3, .ref (hd 90 0)] μ Q := by
  refine CalH.of (by decide +kernel) rfl rfl (Nat.le_of_ble_eq_true rfl) rfl rfl ?_
  refine Wh.aload (j := 4) d_LW_note_0 rfl ?_
  refine Wh.iconst (v := 0) d_LW_note_2 rfl ?_
  refine Wh.aload_n (j := 0) d_LW_note_3 rfl ?_
  refine Wh.iload_n (j := 1) d_LW_note_4 rfl ?_
  refine Wh.iload_n (j := 2) d_LW_note_5 rfl ?_
  refine Wh.iload_n (j := 3) d_LW_note_6 rfl ?_
  refine Wh.callT (As := [.int x1, .int x2, .int x3]) (b := hd 8 0) (d - 1) 1 6 (Q' := fun r μ' => Fr OwC8 μ μ' ∧ CI μ' T C Ct (dvNote T D x1 x2 x3).2 t L x ∧ r = (dvNote T D x1 x2 x3).1.c) d_LW_note_7 mok_PB_note (tb_at 1256 (by decide +kernel) (by decide +kernel)) vl_LW_52.2.1 vl_LW_52.2.2 rfl rfl (Nat.le_of_ble_eq_true rfl) (by omega) hc hs (s_8 hS (by decide)) rfl (c_PB_note hC (by omega) (Nat.le_refl _) (Nat.le_refl _) hS (fun μ' f s X => ⟨f, X, rfl⟩)) (fun v μ' hS2 hq => ?_) (fun k μ' hk hS2 hq => ?_)
  · obtain ⟨f, X, e⟩ := hq
    have ev := rv_ok e
    refine Wa.i2l d_LW_note_10 ?_
    refine Wa.last d_LW_note_11 w_90 (s_90 hS2 (by decide)) (vp_in_nI (n := 0) (N := 1) (by decide) (by decide)) ?_
    refine Wa.goto 27 d_LW_note_12 (by decide) ?_
    refine Wa.iconst (v := 0) d_LW_note_27 rfl ?_
    have s2 : St (setL μ' (hd 90 0) (0 : Int32).toNatClampNeg v.toInt64) := hS2
    exact Wx.reti d_LW_note_28 rfl ⟨s2, hQ _ 0 (f.e8.setL (by decide) (Or.inr ⟨rfl, rfl⟩)) s2 X.e90 (by rw [ev]; exact ⟨rfl, mL_90⟩)⟩
  · obtain ⟨f, X, e⟩ := hq
    obtain ⟨c, hm, ev⟩ := rv_ex e hk (exo_note (T := T) (C := C) (Ct := Ct) (D := D) (t := t) (L := L) (x := x)) (by decide)
    exact ⟨(c : Int), hok_note (k, c) hm, hS2, hQ μ' _ f.e8 hS2 X (by rw [ev]; exact (by decide : ∀ z ∈ ([(2, 1), (1, 2), (0, 3)] : List (Nat × Nat)), Int32.ofInt (z.2 : Int) = nI z.2) (k, c) hm)⟩
def hh_merge : List (Nat × Nat × Nat × Nat) := [(0, 12, 15, 24), (0, 12, 19, 13)]
theorem hok_merge : ∀ z ∈ ([(2, 1), (0, 2)] : List (Nat × Nat)), HOK K_LW_merge hh_merge 7 z.1 (z.2 : Int) := by
  intro z hz
  rcases List.mem_cons.mp hz with rfl | hz
  · exact ⟨[], (⟨0, 12, 15, 24⟩ : ExceptionTableEntry), [(⟨0, 12, 19, 13⟩ : ExceptionTableEntry)], rfl, (fun z hz => by cases hz), by decide, by decide, tb_at 1124 (by decide +kernel) (by decide +kernel), Or.inl ⟨5, d_LW_merge_15, by decide, d_LW_merge_17, d_LW_merge_18⟩⟩
  rcases List.mem_cons.mp hz with rfl | hz
  · exact ⟨[(⟨0, 12, 15, 24⟩ : ExceptionTableEntry)], (⟨0, 12, 19, 13⟩ : ExceptionTableEntry), [], rfl, (fun z hz => by
      rcases List.mem_cons.mp hz with rfl | hz
      · exact ⟨by decide, "java/lang/IndexOutOfBoundsException", tb_at 1124 (by decide +kernel) (by decide +kernel), by decide +kernel⟩
      cases hz), by decide, by decide, tb_at 1021 (by decide +kernel) (by decide +kernel), Or.inl ⟨5, d_LW_merge_19, by decide, d_LW_merge_21, d_LW_merge_22⟩⟩
  cases hz
theorem exo_merge {T : PT} {C Ct : Nat → List Op} {D : DT} {t : Nat → Nat} {L : Nat} {x : Int32} {x1 : Int32} {x2 : Int32} {x3 : Int32} : exOK [(2, 1), (0, 2)] (dvMerge T D x1 x2 x3).1 := by
  unfold dvMerge
  repeat' first | exact exOK.ok | exact exOK.ex (by decide) | apply exOK.ite2 | apply exOK.ite
theorem moh_merge : MOH K_LW_merge hh_merge 5 := ⟨tb_at 1291 (by decide +kernel) (by decide +kernel), tb_at 123 (by decide +kernel) (by decide +kernel), by decide +kernel, by decide +kernel, by decide +kernel⟩
theorem c_LW_merge {d rc rs n : Nat} {Q : Option Value → Mu → Prop} {μ : Mu} {T : PT} {C Ct : Nat → List Op} {D : DT} {t : Nat → Nat} {L : Nat} {x : Int32} {x1 : Int32} {x2 : Int32} {x3 : Int32} (hC : CI μ T C Ct D t L x) (hD : 9 ≤ d) (hc : 1 ≤ rc) (hs : 6 ≤ rs) (hS : St μ) (hQ : ∀ μ' code, Fr OwE8 μ μ' → St μ' → CI μ' T C Ct (dvMerge T D x1 x2 x3).2 t L x → WO (dvMerge T D x1 x2 x3).1 code μ' → Q (some (.int code)) μ') : CalH K_LW_merge hh_merge d rc rs [.ref (hd 8 0), .int x1, .int x2, .int x3, .ref (hd 90 0)] μ Q := by
  refine CalH.of (by decide +kernel) rfl rfl (Nat.le_of_ble_eq_true rfl) rfl rfl ?_
  refine Wh.aload (j := 4) d_LW_merge_0 rfl ?_
  refine Wh.iconst (v := 0) d_LW_merge_2 rfl ?_
  refine Wh.aload_n (j := 0) d_LW_merge_3 rfl ?_
  refine Wh.iload_n (j := 1) d_LW_merge_4 rfl ?_
  refine Wh.iload_n (j := 2) d_LW_merge_5 rfl ?_
  refine Wh.iload_n (j := 3) d_LW_merge_6 rfl ?_
  refine Wh.callT (As := [.int x1, .int x2, .int x3]) (b := hd 8 0) (d - 1) 1 6 (Q' := fun r μ' => Fr OwC8 μ μ' ∧ CI μ' T C Ct (dvMerge T D x1 x2 x3).2 t L x ∧ r = (dvMerge T D x1 x2 x3).1.c) d_LW_merge_7 mok_PB_merge (tb_at 1292 (by decide +kernel) (by decide +kernel)) vl_LW_55.2.1 vl_LW_55.2.2 rfl rfl (Nat.le_of_ble_eq_true rfl) (by omega) hc hs (s_8 hS (by decide)) rfl (c_PB_merge hC (by omega) (Nat.le_refl _) (Nat.le_refl _) hS (fun μ' f s X => ⟨f, X, rfl⟩)) (fun v μ' hS2 hq => ?_) (fun k μ' hk hS2 hq => ?_)
  · obtain ⟨f, X, e⟩ := hq
    have ev := rv_ok e
    refine Wa.i2l d_LW_merge_10 ?_
    refine Wa.last d_LW_merge_11 w_90 (s_90 hS2 (by decide)) (vp_in_nI (n := 0) (N := 1) (by decide) (by decide)) ?_
    refine Wa.goto 23 d_LW_merge_12 (by decide) ?_
    refine Wa.iconst (v := 0) d_LW_merge_23 rfl ?_
    have s2 : St (setL μ' (hd 90 0) (0 : Int32).toNatClampNeg v.toInt64) := hS2
    exact Wx.reti d_LW_merge_24 rfl ⟨s2, hQ _ 0 (f.e8.setL (by decide) (Or.inr ⟨rfl, rfl⟩)) s2 X.e90 (by rw [ev]; exact ⟨rfl, mL_90⟩)⟩
  · obtain ⟨f, X, e⟩ := hq
    obtain ⟨c, hm, ev⟩ := rv_ex e hk (exo_merge (T := T) (C := C) (Ct := Ct) (D := D) (t := t) (L := L) (x := x)) (by decide)
    exact ⟨(c : Int), hok_merge (k, c) hm, hS2, hQ μ' _ f.e8 hS2 X (by rw [ev]; exact (by decide : ∀ z ∈ ([(2, 1), (0, 2)] : List (Nat × Nat)), Int32.ofInt (z.2 : Int) = nI z.2) (k, c) hm)⟩
def hh_send : List (Nat × Nat × Nat × Nat) := [(0, 9, 12, 24)]
theorem hok_send : ∀ z ∈ ([(2, 1)] : List (Nat × Nat)), HOK K_LW_send hh_send 4 z.1 (z.2 : Int) := by
  intro z hz
  rcases List.mem_cons.mp hz with rfl | hz
  · exact ⟨[], (⟨0, 9, 12, 24⟩ : ExceptionTableEntry), [], rfl, (fun z hz => by cases hz), by decide, by decide, tb_at 1124 (by decide +kernel) (by decide +kernel), Or.inr ⟨3, d_LW_send_12, by decide, d_LW_send_13, d_LW_send_14⟩⟩
  cases hz
theorem exo_send {T : PT} {C Ct : Nat → List Op} {D : DT} {t : Nat → Nat} {L : Nat} {x : Int32} {x1 : Int32} : exOK [(2, 1)] (dvSend T D x1).1 := by
  unfold dvSend
  repeat' first | exact exOK.ok | exact exOK.ex (by decide) | apply exOK.ite2 | apply exOK.ite
theorem moh_send : MOH K_LW_send hh_send 3 := ⟨tb_at 1314 (by decide +kernel) (by decide +kernel), tb_at 123 (by decide +kernel) (by decide +kernel), by decide +kernel, by decide +kernel, by decide +kernel⟩
theorem c_LW_send {d rc rs n : Nat} {Q : Option Value → Mu → Prop} {μ : Mu} {T : PT} {C Ct : Nat → List Op} {D : DT} {t : Nat → Nat} {L : Nat} {x : Int32} {x1 : Int32} (hC : CI μ T C Ct D t L x) (hD : 9 ≤ d) (hc : 1 ≤ rc) (hs : 6 ≤ rs) (hS : St μ) (hQ : ∀ μ' code, Fr OwE8 μ μ' → St μ' → CI μ' T C Ct (dvSend T D x1).2 t L x → WO (dvSend T D x1).1 code μ' → Q (some (.int code)) μ') : CalH K_LW_send hh_send d rc rs [.ref (hd 8 0), .int x1, .ref (hd 90 0)] μ Q := by
  refine CalH.of (by decide +kernel) rfl rfl (Nat.le_of_ble_eq_true rfl) rfl rfl ?_
  refine Wh.aload_n (j := 2) d_LW_send_0 rfl ?_
  refine Wh.iconst (v := 0) d_LW_send_1 rfl ?_
  refine Wh.aload_n (j := 0) d_LW_send_2 rfl ?_
  refine Wh.iload_n (j := 1) d_LW_send_3 rfl ?_
  refine Wh.callT (As := [.int x1]) (b := hd 8 0) (d - 1) 1 6 (Q' := fun r μ' => Fr OwC8 μ μ' ∧ CI μ' T C Ct (dvSend T D x1).2 t L x ∧ r = (dvSend T D x1).1.c) d_LW_send_4 mok_PB_send (tb_at 1315 (by decide +kernel) (by decide +kernel)) vl_LW_58.2.1 vl_LW_58.2.2 rfl rfl (Nat.le_of_ble_eq_true rfl) (by omega) hc hs (s_8 hS (by decide)) rfl (c_PB_send hC (by omega) (Nat.le_refl _) (Nat.le_refl _) hS (fun μ' f s X => ⟨f, X, rfl⟩)) (fun v μ' hS2 hq => ?_) (fun k μ' hk hS2 hq => ?_)
  · obtain ⟨f, X, e⟩ := hq
    have ev := rv_ok e
    refine Wa.i2l d_LW_send_7 ?_
    refine Wa.last d_LW_send_8 w_90 (s_90 hS2 (by decide)) (vp_in_nI (n := 0) (N := 1) (by decide) (by decide)) ?_
    refine Wa.goto 15 d_LW_send_9 (by decide) ?_
    refine Wa.iconst (v := 0) d_LW_send_15 rfl ?_
    have s2 : St (setL μ' (hd 90 0) (0 : Int32).toNatClampNeg v.toInt64) := hS2
    exact Wx.reti d_LW_send_16 rfl ⟨s2, hQ _ 0 (f.e8.setL (by decide) (Or.inr ⟨rfl, rfl⟩)) s2 X.e90 (by rw [ev]; exact ⟨rfl, mL_90⟩)⟩
  · obtain ⟨f, X, e⟩ := hq
    obtain ⟨c, hm, ev⟩ := rv_ex e hk (exo_send (T := T) (C := C) (Ct := Ct) (D := D) (t := t) (L := L) (x := x)) (by decide)
    exact ⟨(c : Int), hok_send (k, c) hm, hS2, hQ μ' _ f.e8 hS2 X (by rw [ev]; exact (by decide : ∀ z ∈ ([(2, 1)] : List (Nat × Nat)), Int32.ofInt (z.2 : Int) = nI z.2) (k, c) hm)⟩
def hh_setDays : List (Nat × Nat × Nat × Nat) := [(0, 10, 13, 24), (0, 10, 17, 19)]
theorem hok_setDays : ∀ z ∈ ([(2, 1), (1, 2)] : List (Nat × Nat)), HOK K_LW_setDays hh_setDays 5 z.1 (z.2 : Int) := by
  intro z hz
  rcases List.mem_cons.mp hz with rfl | hz
  · exact ⟨[], (⟨0, 10, 13, 24⟩ : ExceptionTableEntry), [(⟨0, 10, 17, 19⟩ : ExceptionTableEntry)], rfl, (fun z hz => by cases hz), by decide, by decide, tb_at 1124 (by decide +kernel) (by decide +kernel), Or.inl ⟨4, d_LW_setDays_13, by decide, d_LW_setDays_15, d_LW_setDays_16⟩⟩
  rcases List.mem_cons.mp hz with rfl | hz
  · exact ⟨[(⟨0, 10, 13, 24⟩ : ExceptionTableEntry)], (⟨0, 10, 17, 19⟩ : ExceptionTableEntry), [], rfl, (fun z hz => by
      rcases List.mem_cons.mp hz with rfl | hz
      · exact ⟨by decide, "java/lang/IndexOutOfBoundsException", tb_at 1124 (by decide +kernel) (by decide +kernel), by decide +kernel⟩
      cases hz), by decide, by decide, tb_at 1100 (by decide +kernel) (by decide +kernel), Or.inl ⟨4, d_LW_setDays_17, by decide, d_LW_setDays_19, d_LW_setDays_20⟩⟩
  cases hz
theorem exo_setDays {T : PT} {C Ct : Nat → List Op} {D : DT} {t : Nat → Nat} {L : Nat} {x : Int32} {x1 : Int32} {x2 : Int32} : exOK [(2, 1), (1, 2)] (dvSetDays T D x1 x2).1 := by
  unfold dvSetDays
  repeat' first | exact exOK.ok | exact exOK.ex (by decide) | apply exOK.ite2 | apply exOK.ite
theorem moh_setDays : MOH K_LW_setDays hh_setDays 4 := ⟨tb_at 1326 (by decide +kernel) (by decide +kernel), tb_at 123 (by decide +kernel) (by decide +kernel), by decide +kernel, by decide +kernel, by decide +kernel⟩
theorem c_LW_setDays {d rc rs n : Nat} {Q : Option Value → Mu → Prop} {μ : Mu} {T : PT} {C Ct : Nat → List Op} {D : DT} {t : Nat → Nat} {L : Nat} {x : Int32} {x1 : Int32} {x2 : Int32} (hC : CI μ T C Ct D t L x) (hD : 9 ≤ d) (hc : 1 ≤ rc) (hs : 6 ≤ rs) (hS : St μ) (hQ : ∀ μ' code, Fr OwE8 μ μ' → St μ' → CI μ' T C Ct (dvSetDays T D x1 x2).2 t L x → WO (dvSetDays T D x1 x2).1 code μ' → Q (some (.int code)) μ') : CalH K_LW_setDays hh_setDays d rc rs [.ref (hd 8 0), .int x1, .int x2, .ref (hd 90 0)] μ Q := by
  refine CalH.of (by decide +kernel) rfl rfl (Nat.le_of_ble_eq_true rfl) rfl rfl ?_
  refine Wh.aload_n (j := 3) d_LW_setDays_0 rfl ?_
  refine Wh.iconst (v := 0) d_LW_setDays_1 rfl ?_
  refine Wh.aload_n (j := 0) d_LW_setDays_2 rfl ?_
  refine Wh.iload_n (j := 1) d_LW_setDays_3 rfl ?_
  refine Wh.iload_n (j := 2) d_LW_setDays_4 rfl ?_
  refine Wh.callT (As := [.int x1, .int x2]) (b := hd 8 0) (d - 1) 1 6 (Q' := fun r μ' => Fr OwC8 μ μ' ∧ CI μ' T C Ct (dvSetDays T D x1 x2).2 t L x ∧ r = (dvSetDays T D x1 x2).1.c) d_LW_setDays_5 mok_PB_setDays (tb_at 1327 (by decide +kernel) (by decide +kernel)) vl_LW_61.2.1 vl_LW_61.2.2 rfl rfl (Nat.le_of_ble_eq_true rfl) (by omega) hc hs (s_8 hS (by decide)) rfl (c_PB_setDays hC (by omega) (Nat.le_refl _) (Nat.le_refl _) hS (fun μ' f s X => ⟨f, X, rfl⟩)) (fun v μ' hS2 hq => ?_) (fun k μ' hk hS2 hq => ?_)
  · obtain ⟨f, X, e⟩ := hq
    have ev := rv_ok e
    refine Wa.i2l d_LW_setDays_8 ?_
    refine Wa.last d_LW_setDays_9 w_90 (s_90 hS2 (by decide)) (vp_in_nI (n := 0) (N := 1) (by decide) (by decide)) ?_
    refine Wa.goto 21 d_LW_setDays_10 (by decide) ?_
    refine Wa.iconst (v := 0) d_LW_setDays_21 rfl ?_
    have s2 : St (setL μ' (hd 90 0) (0 : Int32).toNatClampNeg v.toInt64) := hS2
    exact Wx.reti d_LW_setDays_22 rfl ⟨s2, hQ _ 0 (f.e8.setL (by decide) (Or.inr ⟨rfl, rfl⟩)) s2 X.e90 (by rw [ev]; exact ⟨rfl, mL_90⟩)⟩
  · obtain ⟨f, X, e⟩ := hq
    obtain ⟨c, hm, ev⟩ := rv_ex e hk (exo_setDays (T := T) (C := C) (Ct := Ct) (D := D) (t := t) (L := L) (x := x)) (by decide)
    exact ⟨(c : Int), hok_setDays (k, c) hm, hS2, hQ μ' _ f.e8 hS2 X (by rw [ev]; exact (by decide : ∀ z ∈ ([(2, 1), (1, 2)] : List (Nat × Nat)), Int32.ofInt (z.2 : Int) = nI z.2) (k, c) hm)⟩
def hh_pass : List (Nat × Nat × Nat × Nat) := [(0, 9, 12, 19)]
theorem hok_pass : ∀ z ∈ ([(1, 1)] : List (Nat × Nat)), HOK K_LW_pass hh_pass 4 z.1 (z.2 : Int) := by
  intro z hz
  rcases List.mem_cons.mp hz with rfl | hz
  · exact ⟨[], (⟨0, 9, 12, 19⟩ : ExceptionTableEntry), [], rfl, (fun z hz => by cases hz), by decide, by decide, tb_at 1100 (by decide +kernel) (by decide +kernel), Or.inr ⟨3, d_LW_pass_12, by decide, d_LW_pass_13, d_LW_pass_14⟩⟩
  cases hz
theorem exo_pass {T : PT} {C Ct : Nat → List Op} {D : DT} {t : Nat → Nat} {L : Nat} {x : Int32} {x1 : Int32} : exOK [(1, 1)] (dvPass T C Ct D x1).1 := by
  unfold dvPass
  repeat' first | exact exOK.ok | exact exOK.ex (by decide) | apply exOK.ite2 | apply exOK.ite
theorem moh_pass : MOH K_LW_pass hh_pass 3 := ⟨tb_at 1334 (by decide +kernel) (by decide +kernel), tb_at 123 (by decide +kernel) (by decide +kernel), by decide +kernel, by decide +kernel, by decide +kernel⟩
theorem c_LW_pass {d rc rs n : Nat} {Q : Option Value → Mu → Prop} {μ : Mu} {T : PT} {C Ct : Nat → List Op} {D : DT} {t : Nat → Nat} {L : Nat} {x : Int32} {x1 : Int32} (hC : CI μ T C Ct D t L x) (hN : NI T C Ct D n) (hD : 9 ≤ d) (hc : 1 ≤ rc) (hs : 6 ≤ rs) (hS : St μ) (hQ : ∀ μ' code, Fr OwE8 μ μ' → St μ' → CI μ' T C Ct (dvPass T C Ct D x1).2 t L x → WO (dvPass T C Ct D x1).1 code μ' → Q (some (.int code)) μ') : CalH K_LW_pass hh_pass d rc rs [.ref (hd 8 0), .int x1, .ref (hd 90 0)] μ Q := by
  refine CalH.of (by decide +kernel) rfl rfl (Nat.le_of_ble_eq_true rfl) rfl rfl ?_
  refine Wh.aload_n (j := 2) d_LW_pass_0 rfl ?_
  refine Wh.iconst (v := 0) d_LW_pass_1 rfl ?_
  refine Wh.aload_n (j := 0) d_LW_pass_2 rfl ?_
  refine Wh.iload_n (j := 1) d_LW_pass_3 rfl ?_
  refine Wh.callT (As := [.int x1]) (b := hd 8 0) (d - 1) 1 6 (Q' := fun r μ' => Fr OwC8 μ μ' ∧ CI μ' T C Ct (dvPass T C Ct D x1).2 t L x ∧ r = (dvPass T C Ct D x1).1.c) d_LW_pass_4 mok_PB_pass (tb_at 1335 (by decide +kernel) (by decide +kernel)) vl_LW_64.2.1 vl_LW_64.2.2 rfl rfl (Nat.le_of_ble_eq_true rfl) (by omega) hc hs (s_8 hS (by decide)) rfl (c_PB_pass hC hN (by omega) (Nat.le_refl _) (Nat.le_refl _) hS (fun μ' f s X => ⟨f, X, rfl⟩)) (fun v μ' hS2 hq => ?_) (fun k μ' hk hS2 hq => ?_)
  · obtain ⟨f, X, e⟩ := hq
    have ev := rv_ok e
    refine Wa.i2l d_LW_pass_7 ?_
    refine Wa.last d_LW_pass_8 w_90 (s_90 hS2 (by decide)) (vp_in_nI (n := 0) (N := 1) (by decide) (by decide)) ?_
    refine Wa.goto 15 d_LW_pass_9 (by decide) ?_
    refine Wa.iconst (v := 0) d_LW_pass_15 rfl ?_
    have s2 : St (setL μ' (hd 90 0) (0 : Int32).toNatClampNeg v.toInt64) := hS2
    exact Wx.reti d_LW_pass_16 rfl ⟨s2, hQ _ 0 (f.e8.setL (by decide) (Or.inr ⟨rfl, rfl⟩)) s2 X.e90 (by rw [ev]; exact ⟨rfl, mL_90⟩)⟩
  · obtain ⟨f, X, e⟩ := hq
    obtain ⟨c, hm, ev⟩ := rv_ex e hk (exo_pass (T := T) (C := C) (Ct := Ct) (D := D) (t := t) (L := L) (x := x)) (by decide)
    exact ⟨(c : Int), hok_pass (k, c) hm, hS2, hQ μ' _ f.e8 hS2 X (by rw [ev]; exact (by decide : ∀ z ∈ ([(1, 1)] : List (Nat × Nat)), Int32.ofInt (z.2 : Int) = nI z.2) (k, c) hm)⟩
def hh_foresee : List (Nat × Nat × Nat × Nat) := [(0, 10, 13, 19), (0, 10, 17, 24)]
theorem hok_foresee : ∀ z ∈ ([(1, 1), (2, 2)] : List (Nat × Nat)), HOK K_LW_foresee hh_foresee 5 z.1 (z.2 : Int) := by
  intro z hz
  rcases List.mem_cons.mp hz with rfl | hz
  · exact ⟨[], (⟨0, 10, 13, 19⟩ : ExceptionTableEntry), [(⟨0, 10, 17, 24⟩ : ExceptionTableEntry)], rfl, (fun z hz => by cases hz), by decide, by decide, tb_at 1100 (by decide +kernel) (by decide +kernel), Or.inl ⟨4, d_LW_foresee_13, by decide, d_LW_foresee_15, d_LW_foresee_16⟩⟩
  rcases List.mem_cons.mp hz with rfl | hz
  · exact ⟨[(⟨0, 10, 13, 19⟩ : ExceptionTableEntry)], (⟨0, 10, 17, 24⟩ : ExceptionTableEntry), [], rfl, (fun z hz => by
      rcases List.mem_cons.mp hz with rfl | hz
      · exact ⟨by decide, "java/lang/IllegalArgumentException", tb_at 1100 (by decide +kernel) (by decide +kernel), by decide +kernel⟩
      cases hz), by decide, by decide, tb_at 1124 (by decide +kernel) (by decide +kernel), Or.inl ⟨4, d_LW_foresee_17, by decide, d_LW_foresee_19, d_LW_foresee_20⟩⟩
  cases hz
theorem exo_foresee {T : PT} {C Ct : Nat → List Op} {D : DT} {t : Nat → Nat} {L : Nat} {x : Int32} {x1 : Int32} {x2 : Int32} : exOK [(1, 1), (2, 2)] (rvForesee T C Ct D x1 x2) := by
  unfold rvForesee
  repeat' first | exact exOK.ok | exact exOK.ex (by decide) | apply exOK.ite2 | apply exOK.ite
theorem moh_foresee : MOH K_LW_foresee hh_foresee 4 := ⟨tb_at 1415 (by decide +kernel) (by decide +kernel), tb_at 123 (by decide +kernel) (by decide +kernel), by decide +kernel, by decide +kernel, by decide +kernel⟩
theorem c_LW_foresee {d rc rs n : Nat} {Q : Option Value → Mu → Prop} {μ : Mu} {T : PT} {C Ct : Nat → List Op} {D : DT} {t : Nat → Nat} {L : Nat} {x : Int32} {x1 : Int32} {x2 : Int32} (hC : CI μ T C Ct D t L x) (hN : NI T C Ct D n) (hD : 9 ≤ d) (hc : 1 ≤ rc) (hs : 6 ≤ rs) (hS : St μ) (hQ : ∀ μ' code, Fr OwE8 μ μ' → St μ' → CI μ' T C Ct D t L x → WO (rvForesee T C Ct D x1 x2) code μ' → Q (some (.int code)) μ') : CalH K_LW_foresee hh_foresee d rc rs [.ref (hd 8 0), .int x1, .int x2, .ref (hd 90 0)] μ Q := by
  refine CalH.of (by decide +kernel) rfl rfl (Nat.le_of_ble_eq_true rfl) rfl rfl ?_
  refine Wh.aload_n (j := 3) d_LW_foresee_0 rfl ?_
  refine Wh.iconst (v := 0) d_LW_foresee_1 rfl ?_
  refine Wh.aload_n (j := 0) d_LW_foresee_2 rfl ?_
  refine Wh.iload_n (j := 1) d_LW_foresee_3 rfl ?_
  refine Wh.iload_n (j := 2) d_LW_foresee_4 rfl ?_
  refine Wh.callT (As := [.int x1, .int x2]) (b := hd 8 0) (d - 1) 1 6 (Q' := fun r μ' => Fr OwC8 μ μ' ∧ CI μ' T C Ct D t L x ∧ r = (rvForesee T C Ct D x1 x2).c) d_LW_foresee_5 mok_PB_foresee (tb_at 1416 (by decide +kernel) (by decide +kernel)) vl_LW_67.2.1 vl_LW_67.2.2 rfl rfl (Nat.le_of_ble_eq_true rfl) (by omega) hc hs (s_8 hS (by decide)) rfl (c_PB_foresee hC hN (by omega) (Nat.le_refl _) (Nat.le_refl _) hS (fun μ' f s X => ⟨f, X, rfl⟩)) (fun v μ' hS2 hq => ?_) (fun k μ' hk hS2 hq => ?_)
  · obtain ⟨f, X, e⟩ := hq
    have ev := rv_ok e
    refine Wa.i2l d_LW_foresee_8 ?_
    refine Wa.last d_LW_foresee_9 w_90 (s_90 hS2 (by decide)) (vp_in_nI (n := 0) (N := 1) (by decide) (by decide)) ?_
    refine Wa.goto 21 d_LW_foresee_10 (by decide) ?_
    refine Wa.iconst (v := 0) d_LW_foresee_21 rfl ?_
    have s2 : St (setL μ' (hd 90 0) (0 : Int32).toNatClampNeg v.toInt64) := hS2
    exact Wx.reti d_LW_foresee_22 rfl ⟨s2, hQ _ 0 (f.e8.setL (by decide) (Or.inr ⟨rfl, rfl⟩)) s2 X.e90 (by rw [ev]; exact ⟨rfl, mL_90⟩)⟩
  · obtain ⟨f, X, e⟩ := hq
    obtain ⟨c, hm, ev⟩ := rv_ex e hk (exo_foresee (T := T) (C := C) (Ct := Ct) (D := D) (t := t) (L := L) (x := x)) (by decide)
    exact ⟨(c : Int), hok_foresee (k, c) hm, hS2, hQ μ' _ f.e8 hS2 X (by rw [ev]; exact (by decide : ∀ z ∈ ([(1, 1), (2, 2)] : List (Nat × Nat)), Int32.ofInt (z.2 : Int) = nI z.2) (k, c) hm)⟩
def hh_until : List (Nat × Nat × Nat × Nat) := [(0, 10, 13, 24)]
theorem hok_until : ∀ z ∈ ([(2, 1)] : List (Nat × Nat)), HOK K_LW_until hh_until 5 z.1 (z.2 : Int) := by
  intro z hz
  rcases List.mem_cons.mp hz with rfl | hz
  · exact ⟨[], (⟨0, 10, 13, 24⟩ : ExceptionTableEntry), [], rfl, (fun z hz => by cases hz), by decide, by decide, tb_at 1124 (by decide +kernel) (by decide +kernel), Or.inl ⟨4, d_LW_until_13, by decide, d_LW_until_15, d_LW_until_16⟩⟩
  cases hz
theorem exo_until {T : PT} {C Ct : Nat → List Op} {D : DT} {t : Nat → Nat} {L : Nat} {x : Int32} {x1 : Int32} {x2 : Int32} : exOK [(2, 1)] (rvUntil T C Ct D x1 x2) := by
  unfold rvUntil
  repeat' first | exact exOK.ok | exact exOK.ex (by decide) | apply exOK.ite2 | apply exOK.ite
theorem moh_until : MOH K_LW_until hh_until 4 := ⟨tb_at 1437 (by decide +kernel) (by decide +kernel), tb_at 123 (by decide +kernel) (by decide +kernel), by decide +kernel, by decide +kernel, by decide +kernel⟩
theorem c_LW_until {d rc rs n : Nat} {Q : Option Value → Mu → Prop} {μ : Mu} {T : PT} {C Ct : Nat → List Op} {D : DT} {t : Nat → Nat} {L : Nat} {x : Int32} {x1 : Int32} {x2 : Int32} (hC : CI μ T C Ct D t L x) (hN : NI T C Ct D n) (hD : 9 ≤ d) (hc : 1 ≤ rc) (hs : 6 ≤ rs) (hS : St μ) (hQ : ∀ μ' code, Fr OwE8 μ μ' → St μ' → CI μ' T C Ct D t L x → WO (rvUntil T C Ct D x1 x2) code μ' → Q (some (.int code)) μ') : CalH K_LW_until hh_until d rc rs [.ref (hd 8 0), .int x1, .int x2, .ref (hd 90 0)] μ Q := by
  refine CalH.of (by decide +kernel) rfl rfl (Nat.le_of_ble_eq_true rfl) rfl rfl ?_
  refine Wh.aload_n (j := 3) d_LW_until_0 rfl ?_
  refine Wh.iconst (v := 0) d_LW_until_1 rfl ?_
  refine Wh.aload_n (j := 0) d_LW_until_2 rfl ?_
  refine Wh.iload_n (j := 1) d_LW_until_3 rfl ?_
  refine Wh.iload_n (j := 2) d_LW_until_4 rfl ?_
  refine Wh.callT (As := [.int x1, .int x2]) (b := hd 8 0) (d - 1) 1 6 (Q' := fun r μ' => Fr OwC8 μ μ' ∧ CI μ' T C Ct D t L x ∧ r = (rvUntil T C Ct D x1 x2).c) d_LW_until_5 mok_PB_until (tb_at 1438 (by decide +kernel) (by decide +kernel)) vl_LW_70.2.1 vl_LW_70.2.2 rfl rfl (Nat.le_of_ble_eq_true rfl) (by omega) hc hs (s_8 hS (by decide)) rfl (c_PB_until hC hN (by omega) (Nat.le_refl _) (Nat.le_refl _) hS (fun μ' f s X => ⟨f, X, rfl⟩)) (fun v μ' hS2 hq => ?_) (fun k μ' hk hS2 hq => ?_)
  · obtain ⟨f, X, e⟩ := hq
    have ev := rv_ok e
    refine Wa.i2l d_LW_until_8 ?_
    refine Wa.last d_LW_until_9 w_90 (s_90 hS2 (by decide)) (vp_in_nI (n := 0) (N := 1) (by decide) (by decide)) ?_
    refine Wa.goto 17 d_LW_until_10 (by decide) ?_
    refine Wa.iconst (v := 0) d_LW_until_17 rfl ?_
    have s2 : St (setL μ' (hd 90 0) (0 : Int32).toNatClampNeg v.toInt64) := hS2
    exact Wx.reti d_LW_until_18 rfl ⟨s2, hQ _ 0 (f.e8.setL (by decide) (Or.inr ⟨rfl, rfl⟩)) s2 X.e90 (by rw [ev]; exact ⟨rfl, mL_90⟩)⟩
  · obtain ⟨f, X, e⟩ := hq
    obtain ⟨c, hm, ev⟩ := rv_ex e hk (exo_until (T := T) (C := C) (Ct := Ct) (D := D) (t := t) (L := L) (x := x)) (by decide)
    exact ⟨(c : Int), hok_until (k, c) hm, hS2, hQ μ' _ f.e8 hS2 X (by rw [ev]; exact (by decide : ∀ z ∈ ([(2, 1)] : List (Nat × Nat)), Int32.ofInt (z.2 : Int) = nI z.2) (k, c) hm)⟩
def hh_advise : List (Nat × Nat × Nat × Nat) := [(0, 9, 12, 19)]
theorem hok_advise : ∀ z ∈ ([(1, 1)] : List (Nat × Nat)), HOK K_LW_advise hh_advise 4 z.1 (z.2 : Int) := by
  intro z hz
  rcases List.mem_cons.mp hz with rfl | hz
  · exact ⟨[], (⟨0, 9, 12, 19⟩ : ExceptionTableEntry), [], rfl, (fun z hz => by cases hz), by decide, by decide, tb_at 1100 (by decide +kernel) (by decide +kernel), Or.inr ⟨3, d_LW_advise_12, by decide, d_LW_advise_13, d_LW_advise_14⟩⟩
  cases hz
theorem exo_advise {T : PT} {C Ct : Nat → List Op} {D : DT} {t : Nat → Nat} {L : Nat} {x : Int32} {x1 : Int32} : exOK [(1, 1)] (rvAdvise T C Ct D x1) := by
  unfold rvAdvise
  repeat' first | exact exOK.ok | exact exOK.ex (by decide) | apply exOK.ite2 | apply exOK.ite
theorem moh_advise : MOH K_LW_advise hh_advise 3 := ⟨tb_at 1446 (by decide +kernel) (by decide +kernel), tb_at 123 (by decide +kernel) (by decide +kernel), by decide +kernel, by decide +kernel, by decide +kernel⟩
theorem c_LW_advise {d rc rs n : Nat} {Q : Option Value → Mu → Prop} {μ : Mu} {T : PT} {C Ct : Nat → List Op} {D : DT} {t : Nat → Nat} {L : Nat} {x : Int32} {x1 : Int32} (hC : CI μ T C Ct D t L x) (hN : NI T C Ct D n) (hD : 9 ≤ d) (hc : 1 ≤ rc) (hs : 6 ≤ rs) (hS : St μ) (hQ : ∀ μ' code, Fr OwE8 μ μ' → St μ' → CI μ' T C Ct D t L x → WO (rvAdvise T C Ct D x1) code μ' → Q (some (.int code)) μ') : CalH K_LW_advise hh_advise d rc rs [.ref (hd 8 0), .int x1, .ref (hd 90 0)] μ Q := by
  refine CalH.of (by decide +kernel) rfl rfl (Nat.le_of_ble_eq_true rfl) rfl rfl ?_
  refine Wh.aload_n (j := 2) d_LW_advise_0 rfl ?_
  refine Wh.iconst (v := 0) d_LW_advise_1 rfl ?_
  refine Wh.aload_n (j := 0) d_LW_advise_2 rfl ?_
  refine Wh.iload_n (j := 1) d_LW_advise_3 rfl ?_
  refine Wh.callT (As := [.int x1]) (b := hd 8 0) (d - 1) 1 6 (Q' := fun r μ' => Fr OwC8 μ μ' ∧ CI μ' T C Ct D t L x ∧ r = (rvAdvise T C Ct D x1).c) d_LW_advise_4 mok_PB_advise (tb_at 1447 (by decide +kernel) (by decide +kernel)) vl_LW_73.2.1 vl_LW_73.2.2 rfl rfl (Nat.le_of_ble_eq_true rfl) (by omega) hc hs (s_8 hS (by decide)) rfl (c_PB_advise hC hN (by omega) (Nat.le_refl _) (Nat.le_refl _) hS (fun μ' f s X => ⟨f, X, rfl⟩)) (fun v μ' hS2 hq => ?_) (fun k μ' hk hS2 hq => ?_)
  · obtain ⟨f, X, e⟩ := hq
    have ev := rv_ok e
    refine Wa.i2l d_LW_advise_7 ?_
    refine Wa.last d_LW_advise_8 w_90 (s_90 hS2 (by decide)) (vp_in_nI (n := 0) (N := 1) (by decide) (by decide)) ?_
    refine Wa.goto 15 d_LW_advise_9 (by decide) ?_
    refine Wa.iconst (v := 0) d_LW_advise_15 rfl ?_
    have s2 : St (setL μ' (hd 90 0) (0 : Int32).toNatClampNeg v.toInt64) := hS2
    exact Wx.reti d_LW_advise_16 rfl ⟨s2, hQ _ 0 (f.e8.setL (by decide) (Or.inr ⟨rfl, rfl⟩)) s2 X.e90 (by rw [ev]; exact ⟨rfl, mL_90⟩)⟩
  · obtain ⟨f, X, e⟩ := hq
    obtain ⟨c, hm, ev⟩ := rv_ex e hk (exo_advise (T := T) (C := C) (Ct := Ct) (D := D) (t := t) (L := L) (x := x)) (by decide)
    exact ⟨(c : Int), hok_advise (k, c) hm, hS2, hQ μ' _ f.e8 hS2 X (by rw [ev]; exact (by decide : ∀ z ∈ ([(1, 1)] : List (Nat × Nat)), Int32.ofInt (z.2 : Int) = nI z.2) (k, c) hm)⟩
