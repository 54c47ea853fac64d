/-! the law: the other cases, and its loop -/
theorem lb_teach {d rc rs n Ls i : Nat} {xs : Nat → Int32} {Q : Option Value → Mu → Prop} {μ : Mu} (hD : 113 ≤ d) (hc : 13 ≤ rc) (hs : 1386 ≤ rs) (hS : St μ) (hR : SCR μ Ls xs) (hi : i + 6 ≤ Ls) (hL : Ls ≤ 3072) (hn : n + 1 ≤ 512) (hI : LI μ n) (next : LNx d rc rs n i Ls xs Q) : Wx K_LA d rc rs Q 316 [(0, .ref (hd 6 0)), (1, .ref (hd 8 0)), (2, .ref (hd 40 0)), (3, .ref (hd 90 0)), (4, .int (nI i))] [] μ := by
  obtain ⟨T, C, Ct, D, t, L, x, hC, hM, hN⟩ := hI
  refine Wa.aload_n (j := 1) d_LA_316 rfl ?_
  refine Wx.cVi (q := E_PB) (As := []) 0 (d - 1) 0 0 (fun v μ' => ∃ p r, TchO t L v p r ∧ Fr OwC8 μ μ' ∧ CI μ' (nxT t L r T) (nxC t L r C) (nxE t L r Ct) (nxD t L r D) t 0 p) d_LA_317 mok_PB_teach vl_LW_94 rfl rfl rfl (Nat.le_of_ble_eq_true rfl) (by omega) (Nat.zero_le _) (Nat.zero_le _) (s_8 hS (by decide)) (c_PB_teach (by omega) hS hC (fun μ' c p r h f s X => ⟨c, rfl, p, r, h, f, X⟩)) (fun v1 μ1 s1 q1 => ?_)
  obtain ⟨p, r, h, f1, X1⟩ := q1
  have m1 := hM.tr f1.e8.m40
  have r1 := hR.e8 f1.e8
  refine Wa.aload_n (j := 2) d_LA_320 rfl ?_
  refine Wx.cVi (q := E_MM) (As := []) 11 (d - 1) 13 1386 (fun v μ' => ∃ p r, TchO t L v p r ∧ FrX μ1 μ' ∧ MI μ' (nxT t L r T) (nxC t L r C) (nxE t L r Ct) (nxD t L r D) t 0 p) d_LA_321 mok_MM_teach vl_LW_97 rfl rfl rfl (Nat.le_of_ble_eq_true rfl) (by omega) (by omega) (by omega) (s_40 s1 (by decide)) (c_MM_teach (by omega) (Nat.le_refl _) (Nat.le_refl _) s1 m1 hC.2.2.1.1 hC.2.2.1.2.1 (fun μ' c p r h f s _ X => ⟨c, rfl, p, r, h, f, X⟩)) (fun v2 μ2 s2 q2 => ?_)
  obtain ⟨p', r', h', f2, X2⟩ := q2
  obtain ⟨e1, e2, e3⟩ := h.uniq h'
  rw [e2, e3] at X2
  rw [e1]
  refine Wa.icmp_eq 1579 d_LA_324 (by decide) (fun _ => ?_) (fun hh => absurd rfl hh)
  exact next _ _ μ2 (by omega) (by omega) s2 (r1.x f2) ⟨_, _, _, _, _, _, _, X1.tr f2.c8, X2, (NI.teach h hN).same hn⟩
theorem lb_errorAt {d rc rs n Ls i : Nat} {xs : Nat → Int32} {Q : Option Value → Mu → Prop} {μ : Mu} (hD : 113 ≤ d) (hc : 13 ≤ rc) (hs : 1386 ≤ rs) (hS : St μ) (hR : SCR μ Ls xs) (hi : i + 6 ≤ Ls) (hL : Ls ≤ 3072) (hn : n + 1 ≤ 512) (hI : LI μ n) (next : LNx d rc rs n i Ls xs Q) : Wx K_LA d rc rs Q 329 [(0, .ref (hd 6 0)), (1, .ref (hd 8 0)), (2, .ref (hd 40 0)), (3, .ref (hd 90 0)), (4, .int (nI i))] [] μ := by
  obtain ⟨T, C, Ct, D, t, L, x, hC, hM, hN⟩ := hI
  refine Wa.aload_n (j := 1) d_LA_329 rfl ?_
  refine Wx.cVi (q := E_PB) (As := []) 0 (d - 1) 0 0 (fun v μ' => v = x ∧ μ' = μ) d_LA_330 mok_PB_errorAt vl_LW_98 rfl rfl rfl (Nat.le_of_ble_eq_true rfl) (by omega) (Nat.zero_le _) (Nat.zero_le _) (s_8 hS (by decide)) (c_PB_errorAt hC (by omega) hS ⟨_, rfl, rfl, rfl⟩) (fun v1 μ1 s1 q1 => ?_)
  obtain ⟨e1, e2⟩ := q1
  rw [e1, e2]
  refine Wa.aload_n (j := 2) d_LA_333 rfl ?_
  refine Wx.cVi (q := E_MM) (As := []) 11 (d - 1) 0 0 (fun v μ' => v = x ∧ FrX μ μ' ∧ MI μ' T C Ct D t L x) d_LA_334 mok_MM_errorAt vl_LW_101 rfl rfl rfl (Nat.le_of_ble_eq_true rfl) (by omega) (Nat.zero_le _) (Nat.zero_le _) (s_40 hS (by decide)) (c_MM_errorAt hM (by omega) hS (fun μ' r f s X w => ⟨_, w.1, rfl, f, X⟩)) (fun v2 μ2 s2 q2 => ?_)
  obtain ⟨e3, f2, X2⟩ := q2
  rw [e3]
  refine Wa.icmp_eq 1579 d_LA_337 (by decide) (fun _ => ?_) (fun hh => absurd rfl hh)
  exact next _ _ μ2 (by omega) (by omega) s2 (hR.x f2) ⟨_, _, _, _, _, _, _, hC.tr f2.c8, X2, hN.same hn⟩
theorem lb_alike {d rc rs n Ls i : Nat} {xs : Nat → Int32} {Q : Option Value → Mu → Prop} {μ : Mu} (hD : 113 ≤ d) (hc : 13 ≤ rc) (hs : 1386 ≤ rs) (hS : St μ) (hR : SCR μ Ls xs) (hi : i + 6 ≤ Ls) (hL : Ls ≤ 3072) (hn : n + 1 ≤ 512) (hI : LI μ n) (next : LNx d rc rs n i Ls xs Q) : Wx K_LA d rc rs Q 1442 [(0, .ref (hd 6 0)), (1, .ref (hd 8 0)), (2, .ref (hd 40 0)), (3, .ref (hd 90 0)), (4, .int (nI i))] [] μ := by
  obtain ⟨T, C, Ct, D, t, L, x, hC, hM, hN⟩ := hI
  refine Wa.aload_n (j := 1) d_LA_1442 rfl ?_
  refine Wx.cVi (q := E_PB) (As := []) 0 (d - 1) 0 0 (fun v μ' => v = bI (alikeP T D) ∧ μ' = μ) d_LA_1443 mok_PB_alike vl_LW_152 rfl rfl rfl (Nat.le_of_ble_eq_true rfl) (by omega) (Nat.zero_le _) (Nat.zero_le _) (s_8 hS (by decide)) (c_PB_alike hC (by omega) hS ⟨_, rfl, rfl, rfl⟩) (fun v1 μ1 s1 q1 => ?_)
  obtain ⟨e1, e2⟩ := q1
  rw [e1, e2]
  refine Wa.aload_n (j := 2) d_LA_1446 rfl ?_
  refine Wx.cVi (q := E_MM) (As := []) 11 (d - 1) 0 0 (fun v μ' => v = bI (alikeP T D) ∧ FrX μ μ' ∧ MI μ' T C Ct D t L x) d_LA_1447 mok_MM_alike vl_LW_156 rfl rfl rfl (Nat.le_of_ble_eq_true rfl) (by omega) (Nat.zero_le _) (Nat.zero_le _) (s_40 hS (by decide)) (c_MM_alike hM (by omega) hS (fun μ' r f s X w => ⟨_, w.1, rfl, f, X⟩)) (fun v2 μ2 s2 q2 => ?_)
  obtain ⟨e3, f2, X2⟩ := q2
  rw [e3]
  refine Wa.icmp_eq 1579 d_LA_1450 (by decide) (fun _ => ?_) (fun hh => absurd rfl hh)
  exact next _ _ μ2 (by omega) (by omega) s2 (hR.x f2) ⟨_, _, _, _, _, _, _, hC.tr f2.c8, X2, hN.same hn⟩
theorem lb_missed {d rc rs n Ls i : Nat} {xs : Nat → Int32} {Q : Option Value → Mu → Prop} {μ : Mu} (hD : 113 ≤ d) (hc : 13 ≤ rc) (hs : 1386 ≤ rs) (hS : St μ) (hR : SCR μ Ls xs) (hi : i + 6 ≤ Ls) (hL : Ls ≤ 3072) (hn : n + 1 ≤ 512) (hI : LI μ n) (next : LNx d rc rs n i Ls xs Q) : Wx K_LA d rc rs Q 1455 [(0, .ref (hd 6 0)), (1, .ref (hd 8 0)), (2, .ref (hd 40 0)), (3, .ref (hd 90 0)), (4, .int (nI i))] [] μ := by
  obtain ⟨T, C, Ct, D, t, L, x, hC, hM, hN⟩ := hI
  refine Wa.aload_n (j := 1) d_LA_1455 rfl ?_
  refine Wx.cVi (q := E_PB) (As := []) 0 (d - 1) 0 0 (fun v μ' => v = miR T D (D 1 0 0) 0 ∧ μ' = μ) d_LA_1456 mok_PB_missed vl_LW_157 rfl rfl rfl (Nat.le_of_ble_eq_true rfl) (by omega) (Nat.zero_le _) (Nat.zero_le _) (s_8 hS (by decide)) (c_PB_missed hC (by omega) hS ⟨_, rfl, rfl, rfl⟩) (fun v1 μ1 s1 q1 => ?_)
  obtain ⟨e1, e2⟩ := q1
  rw [e1, e2]
  refine Wa.aload_n (j := 2) d_LA_1459 rfl ?_
  refine Wx.cVi (q := E_MM) (As := []) 11 (d - 1) 0 0 (fun v μ' => v = miR T D (D 1 0 0) 0 ∧ FrX μ μ' ∧ MI μ' T C Ct D t L x) d_LA_1460 mok_MM_missed vl_LW_160 rfl rfl rfl (Nat.le_of_ble_eq_true rfl) (by omega) (Nat.zero_le _) (Nat.zero_le _) (s_40 hS (by decide)) (c_MM_missed hM (by omega) hS (fun μ' r f s X w => ⟨_, w.1, rfl, f, X⟩)) (fun v2 μ2 s2 q2 => ?_)
  obtain ⟨e3, f2, X2⟩ := q2
  rw [e3]
  refine Wa.icmp_eq 1579 d_LA_1463 (by decide) (fun _ => ?_) (fun hh => absurd rfl hh)
  exact next _ _ μ2 (by omega) (by omega) s2 (hR.x f2) ⟨_, _, _, _, _, _, _, hC.tr f2.c8, X2, hN.same hn⟩
theorem lb_mean {d rc rs n Ls i : Nat} {xs : Nat → Int32} {Q : Option Value → Mu → Prop} {μ : Mu} (hD : 113 ≤ d) (hc : 13 ≤ rc) (hs : 1386 ≤ rs) (hS : St μ) (hR : SCR μ Ls xs) (hi : i + 6 ≤ Ls) (hL : Ls ≤ 3072) (hn : n + 1 ≤ 512) (hI : LI μ n) (next : LNx d rc rs n i Ls xs Q) : Wx K_LA d rc rs Q 1524 [(0, .ref (hd 6 0)), (1, .ref (hd 8 0)), (2, .ref (hd 40 0)), (3, .ref (hd 90 0)), (4, .int (nI i))] [] μ := by
  obtain ⟨T, C, Ct, D, t, L, x, hC, hM, hN⟩ := hI
  refine Wa.aload_n (j := 1) d_LA_1524 rfl ?_
  refine Wx.cVd (q := E_PB) (As := []) 0 (d - 1) 0 0 (fun v μ' => v = meanV T D ∧ μ' = μ) d_LA_1525 mok_PB_mean vl_LW_164 rfl rfl rfl (Nat.le_of_ble_eq_true rfl) (by omega) (Nat.zero_le _) (Nat.zero_le _) (s_8 hS (by decide)) (c_PB_mean hC (by omega) hS ⟨_, rfl, rfl, rfl⟩) (fun v1 μ1 s1 q1 => ?_)
  obtain ⟨e1, e2⟩ := q1
  rw [e1, e2]
  generalize hv : meanV T D = v
  refine Wa.dstore (i := 5) d_LA_1528 (by decide) rfl ?_
  refine Wa.aload_n (j := 3) d_LA_1530 rfl ?_
  refine Wx.cVd (q := E_MM) (As := []) 11 (d - 1) 0 0 (fun w μ' => w = v ∧ FrX μ μ' ∧ MI μ' T C Ct D t L x) d_LA_1531 mok_MM_mean vl_LW_168 rfl rfl rfl (Nat.le_of_ble_eq_true rfl) (by omega) (Nat.zero_le _) (Nat.zero_le _) (s_40 hS (by decide)) (c_MM_mean hM hN.1 (by omega) hS (fun μ' b => ⟨_, rfl, hv, b.1, b.2.2.1⟩)) (fun v2 μ2 s2 q2 => ?_)
  obtain ⟨e3, f2, X2⟩ := q2
  rw [e3]
  have fin := next (rc - 0 - 0) (rs - 0 - 0) μ2 (by omega) (by omega) s2 (hR.x f2) ⟨_, _, _, _, _, _, _, hC.tr f2.c8, X2, hN.same hn⟩
  refine Wa.dstore (i := 7) d_LA_1534 (by decide) rfl ?_
  refine Wa.dload (j := 1) d_LA_1536 rfl ?_
  refine Wa.dload (j := 0) d_LA_1538 rfl ?_
  refine Wa.dcmp d_LA_1540 ?_
  refine Wa.if_eq 1562 d_LA_1541 (by decide) (fun _ => Wa.goto 1579 d_LA_1562 (by decide) (Wa.loc [2, 3, 4, 5, 6] rfl fin)) (fun h => ?_)
  refine Wa.dload (j := 1) d_LA_1544 rfl ?_
  refine Wa.dload (j := 1) d_LA_1546 rfl ?_
  refine Wa.dcmp d_LA_1548 ?_
  refine Wa.if_eq 1560 d_LA_1549 (by decide) (fun h2 => absurd h2 h) (fun _ => ?_)
  refine Wa.dload (j := 0) d_LA_1552 rfl ?_
  refine Wa.dload (j := 0) d_LA_1554 rfl ?_
  refine Wa.dcmp d_LA_1556 ?_
  exact Wa.if_ne 1562 d_LA_1557 (by decide) (fun _ => Wa.goto 1579 d_LA_1562 (by decide) (Wa.loc [2, 3, 4, 5, 6] rfl fin)) (fun h3 => absurd h3 h)
theorem lb_digest {d rc rs n Ls i : Nat} {xs : Nat → Int32} {Q : Option Value → Mu → Prop} {μ : Mu} (hD : 113 ≤ d) (hc : 13 ≤ rc) (hs : 1386 ≤ rs) (hS : St μ) (hR : SCR μ Ls xs) (hi : i + 6 ≤ Ls) (hL : Ls ≤ 3072) (hn : n + 1 ≤ 512) (hI : LI μ n) (next : LNx d rc rs n i Ls xs Q) : Wx K_LA d rc rs Q 1565 [(0, .ref (hd 6 0)), (1, .ref (hd 8 0)), (2, .ref (hd 40 0)), (3, .ref (hd 90 0)), (4, .int (nI i))] [] μ := by
  obtain ⟨T, C, Ct, D, t, L, x, hC, hM, hN⟩ := hI
  refine Wa.aload_n (j := 1) d_LA_1565 rfl ?_
  refine Wx.cVl (q := E_PB) (As := []) 0 (d - 1) 0 0 (fun v μ' => v = digV T D L ∧ μ' = μ) d_LA_1566 mok_PB_digest vl_LW_169 rfl rfl rfl (Nat.le_of_ble_eq_true rfl) (by omega) (Nat.zero_le _) (Nat.zero_le _) (s_8 hS (by decide)) (c_PB_digest hC (by omega) hS ⟨_, rfl, rfl, rfl⟩) (fun v1 μ1 s1 q1 => ?_)
  obtain ⟨e1, e2⟩ := q1
  rw [e1, e2]
  refine Wa.aload_n (j := 2) d_LA_1569 rfl ?_
  refine Wx.cVl (q := E_MM) (As := []) 11 (d - 1) 13 65 (fun v μ' => v = digV T D L ∧ FrX μ μ' ∧ MI μ' T C Ct D t L x) d_LA_1570 mok_MM_digest vl_LW_173 rfl rfl rfl (Nat.le_of_ble_eq_true rfl) (by omega) (by omega) (by omega) (s_40 hS (by decide)) (c_MM_digest hM hN.1 (by omega) (Nat.le_refl _) (Nat.le_refl _) hS (fun μ' b => ⟨_, rfl, rfl, b.1, b.2.2.1⟩)) (fun v2 μ2 s2 q2 => ?_)
  obtain ⟨e3, f2, X2⟩ := q2
  rw [e3]
  refine Wa.lcmp d_LA_1573 ?_
  refine Wa.if_eq 1579 d_LA_1574 (by decide) (fun _ => ?_) (fun hh => absurd ((lg_cmp_eq _ _).mpr rfl) hh)
  exact next _ _ μ2 (by omega) (by omega) s2 (hR.x f2) ⟨_, _, _, _, _, _, _, hC.tr f2.c8, X2, hN.same hn⟩
theorem sub6 {n : Nat} (h : n ≤ 3072) : (nI n - nI 6).toInt = (n : Int) - 6 := by
  rcases Nat.lt_or_ge n 6 with z | z
  · exact (by decide : ∀ n, n < 6 → (nI n - nI 6).toInt = (n : Int) - 6) n z
  · rw [nI_sub z, nI_toInt (by omega)]; omega
theorem and31 (v : Int32) : v &&& nI 31 = nI (v.toBitVec.toNat % 32) := by
  apply Int32.toBitVec_inj.mp
  apply BitVec.eq_of_toNat_eq
  have e1 : (v &&& nI 31).toBitVec = v.toBitVec &&& 31#32 := rfl
  have e2 : (nI (v.toBitVec.toNat % 32)).toBitVec = BitVec.ofNat 32 (v.toBitVec.toNat % 32) := rfl
  rw [e1, e2, BitVec.toNat_and, BitVec.toNat_ofNat, BitVec.toNat_ofNat]
  have e3 : 31 % 2 ^ 32 = 2 ^ 5 - 1 := by decide
  have h : v.toBitVec.toNat % 32 < 32 := Nat.mod_lt _ (by decide)
  rw [e3, Nat.and_two_pow_sub_one_eq_mod, Nat.mod_eq_of_lt (a := v.toBitVec.toNat % 32) (Nat.lt_trans h (by decide))]
theorem law_loop {d Ls : Nat} {xs : Nat → Int32} {Q : Option Value → Mu → Prop} (hD : 113 ≤ d) (hL : Ls ≤ 3072) (hQ : ∀ μ', Q (some (.int 1)) μ') : ∀ (j n rc rs : Nat) (μ : Mu), n + j = 512 → 13 * j ≤ rc → 1386 * j ≤ rs → St μ → SCR μ Ls xs → LI μ n → Wx K_LA d rc rs Q 23 [(0, .ref (hd 6 0)), (1, .ref (hd 8 0)), (2, .ref (hd 40 0)), (3, .ref (hd 90 0)), (4, .int (nI (6 * n)))] [] μ := by
  intro j
  have start : ∀ (n rc rs : Nat) (μ : Mu), n ≤ 512 → SCR μ Ls xs → (6 * n + 6 ≤ Ls → Wx K_LA d rc rs Q 33 [(0, .ref (hd 6 0)), (1, .ref (hd 8 0)), (2, .ref (hd 40 0)), (3, .ref (hd 90 0)), (4, .int (nI (6 * n)))] [] μ) → Wx K_LA d rc rs Q 23 [(0, .ref (hd 6 0)), (1, .ref (hd 8 0)), (2, .ref (hd 40 0)), (3, .ref (hd 90 0)), (4, .int (nI (6 * n)))] [] μ := by
    intro n rc rs μ hn hR k
    refine Wa.iload (j := 4) d_LA_23 rfl ?_
    refine Wa.aload_n (j := 0) d_LA_25 rfl ?_
    refine Wa.alen d_LA_26 hR.1 (by decide) ?_
    refine Wa.bipush (v := nI 6) d_LA_27 rfl ?_
    refine Wa.isub d_LA_29 ?_
    refine Wa.icmp_gt 1585 d_LA_30 (by decide) (fun h => ?_) (fun h => ?_)
    · refine Wa.iconst (v := 1) d_LA_1585 rfl ?_
      exact Wx.retz d_LA_1586 rfl (Or.inr rfl) (hQ μ)
    · rw [Int32.lt_iff_toInt_lt, sub6 hL, nI_toInt (by omega)] at h
      exact k (by omega)
  induction j with
  | zero =>
    intro n rc rs μ hj h1 h2 hS hR hI
    exact start n rc rs μ (by omega) hR (fun h => by omega)
  | succ j ih =>
    intro n rc rs μ hj h1 h2 hS hR hI
    refine start n rc rs μ (by omega) hR (fun hi => ?_)
    have next : LNx d rc rs n (6 * n) Ls xs Q := fun rc' rs' μ' g1 g2 s R I => by
      refine Wa.iinc (i := 4) (j := 4) (v := nI (6 * (n + 1))) d_LA_1579 rfl (by rw [show Int32.ofInt 6 = nI 6 from rfl, nI_add]; exact congrArg nI (by omega)) (by decide) rfl ?_
      refine Wa.goto 23 d_LA_1582 (by decide) ?_
      exact Wa.loc [1, 2, 3, 4, 0] rfl (ih (n + 1) rc' rs' μ' (by omega) (by omega) (by omega) s R I)
    refine Wa.aload_n (j := 0) d_LA_33 rfl ?_
    refine Wa.iload (j := 4) d_LA_34 rfl ?_
    refine Wa.iald d_LA_36 hR.1 (vp_in_nI (by omega) (by omega)) ?_
    refine Wa.bipush (v := nI 31) d_LA_37 rfl ?_
    refine Wa.iand d_LA_39 ?_
    rw [and31]
    generalize hk : (gI μ (hd 6 0) (nI (6 * n)).toNatClampNeg).toBitVec.toNat % 32 = k
    have hk32 : k < 32 := by rw [← hk]; exact Nat.mod_lt _ (by decide)
    rcases (by omega : k = 0 ∨ k = 1 ∨ k = 2 ∨ k = 3 ∨ k = 4 ∨ k = 5 ∨ k = 6 ∨ k = 7 ∨ k = 8 ∨ k = 9 ∨ k = 10 ∨ k = 11 ∨ k = 12 ∨ k = 13 ∨ k = 14 ∨ k = 15 ∨ k = 16 ∨ k = 17 ∨ k = 18 ∨ k = 19 ∨ k = 20 ∨ k = 21 ∨ k = 22 ∨ k = 23 ∨ k = 24 ∨ 25 ≤ k) with rfl | rfl | rfl | rfl | rfl | rfl | rfl | rfl | rfl | rfl | rfl | rfl | rfl | rfl | rfl | rfl | rfl | rfl | rfl | rfl | rfl | rfl | rfl | rfl | rfl | h25
    · exact Wa.tabIn 156 d_LA_40 (by decide) (by decide) rfl (by decide) (lb_feed hD (by omega) (by omega) hS hR hi hL (by omega) hI next)
    · exact Wa.tabIn 260 d_LA_40 (by decide) (by decide) rfl (by decide) (lb_trim hD (by omega) (by omega) hS hR hi hL (by omega) hI next)
    · exact Wa.tabIn 316 d_LA_40 (by decide) (by decide) rfl (by decide) (lb_teach hD (by omega) (by omega) hS hR hi hL (by omega) hI next)
    · exact Wa.tabIn 329 d_LA_40 (by decide) (by decide) rfl (by decide) (lb_errorAt hD (by omega) (by omega) hS hR hi hL (by omega) hI next)
    · exact Wa.tabIn 342 d_LA_40 (by decide) (by decide) rfl (by decide) (lb_count hD (by omega) (by omega) hS hR hi hL (by omega) hI next)
    · exact Wa.tabIn 398 d_LA_40 (by decide) (by decide) rfl (by decide) (lb_parish hD (by omega) (by omega) hS hR hi hL (by omega) hI next)
    · exact Wa.tabIn 466 d_LA_40 (by decide) (by decide) rfl (by decide) (lb_knows hD (by omega) (by omega) hS hR hi hL (by omega) hI next)
    · exact Wa.tabIn 534 d_LA_40 (by decide) (by decide) rfl (by decide) (lb_sheet hD (by omega) (by omega) hS hR hi hL (by omega) hI next)
    · exact Wa.tabIn 602 d_LA_40 (by decide) (by decide) rfl (by decide) (lb_stamp hD (by omega) (by omega) hS hR hi hL (by omega) hI next)
    · exact Wa.tabIn 670 d_LA_40 (by decide) (by decide) rfl (by decide) (lb_shown hD (by omega) (by omega) hS hR hi hL (by omega) hI next)
    · exact Wa.tabIn 750 d_LA_40 (by decide) (by decide) rfl (by decide) (lb_compare hD (by omega) (by omega) hS hR hi hL (by omega) hI next)
    · exact Wa.tabIn 818 d_LA_40 (by decide) (by decide) rfl (by decide) (lb_road hD (by omega) (by omega) hS hR hi hL (by omega) hI next)
    · exact Wa.tabIn 886 d_LA_40 (by decide) (by decide) rfl (by decide) (lb_write hD (by omega) (by omega) hS hR hi hL (by omega) hI next)
    · exact Wa.tabIn 966 d_LA_40 (by decide) (by decide) rfl (by decide) (lb_note hD (by omega) (by omega) hS hR hi hL (by omega) hI next)
    · exact Wa.tabIn 1046 d_LA_40 (by decide) (by decide) rfl (by decide) (lb_merge hD (by omega) (by omega) hS hR hi hL (by omega) hI next)
    · exact Wa.tabIn 1126 d_LA_40 (by decide) (by decide) rfl (by decide) (lb_send hD (by omega) (by omega) hS hR hi hL (by omega) hI next)
    · exact Wa.tabIn 1182 d_LA_40 (by decide) (by decide) rfl (by decide) (lb_setDays hD (by omega) (by omega) hS hR hi hL (by omega) hI next)
    · exact Wa.tabIn 1250 d_LA_40 (by decide) (by decide) rfl (by decide) (lb_pass hD (by omega) (by omega) hS hR hi hL (by omega) hI next)
    · exact Wa.tabIn 1306 d_LA_40 (by decide) (by decide) rfl (by decide) (lb_foresee hD (by omega) (by omega) hS hR hi hL (by omega) hI next)
    · exact Wa.tabIn 1374 d_LA_40 (by decide) (by decide) rfl (by decide) (lb_until hD (by omega) (by omega) hS hR hi hL (by omega) hI next)
    · exact Wa.tabIn 1442 d_LA_40 (by decide) (by decide) rfl (by decide) (lb_alike hD (by omega) (by omega) hS hR hi hL (by omega) hI next)
    · exact Wa.tabIn 1455 d_LA_40 (by decide) (by decide) rfl (by decide) (lb_missed hD (by omega) (by omega) hS hR hi hL (by omega) hI next)
    · exact Wa.tabIn 1468 d_LA_40 (by decide) (by decide) rfl (by decide) (lb_advise hD (by omega) (by omega) hS hR hi hL (by omega) hI next)
    · exact Wa.tabIn 1524 d_LA_40 (by decide) (by decide) rfl (by decide) (lb_mean hD (by omega) (by omega) hS hR hi hL (by omega) hI next)
    · exact Wa.tabIn 1565 d_LA_40 (by decide) (by decide) rfl (by decide) (lb_digest hD (by omega) (by omega) hS hR hi hL (by omega) hI next)
    · refine Wa.tabOut 1579 d_LA_40 (Or.inr (by rw [nI_toInt (by omega)]; omega)) (by decide) (next rc rs μ (by omega) (by omega) hS hR ?_)
      obtain ⟨T, C, Ct, D, t, L, x, hC, hM, hN⟩ := hI
      exact ⟨T, C, Ct, D, t, L, x, hC, hM, hN.same (by omega)⟩
