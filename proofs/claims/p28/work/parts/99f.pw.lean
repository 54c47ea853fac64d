/-! plans and worlds are made -/
def RdF (i : Nat) (μ : Mu) : Prop := mS μ (hd 27 i) = (1, 7) ∧ mS μ (hd 28 i) = (2, 60) ∧ mR μ (hd 27 i) 0 = some (hd 28 i)
def OdF (i : Nat) (μ : Mu) : Prop := mS μ (hd 26 i) = (1, 5) ∧ mR μ (hd 26 i) 0 = some (hd 0 9)
def ShF (i : Nat) (μ : Mu) : Prop := mS μ (hd 33 i) = (1, 8) ∧ mS μ (hd 34 i) = (2, 5) ∧ mR μ (hd 33 i) 0 = some (hd 34 i)
def BdF (i : Nat) (μ : Mu) : Prop := BdS i μ
theorem RdF.fr {i : Nat} {μ μ' : Mu} {own : Nat → Nat → Prop} (h : RdF i μ) (f : FrS own μ μ') (ho : ∀ κ, κ = 27 ∨ κ = 28 → ¬ own κ i) : RdF i μ' := ⟨(f.S (by decide) (ho _ (Or.inl rfl))).trans h.1, (f.S (by decide) (ho _ (Or.inr rfl))).trans h.2.1, (f.R (by decide) (ho _ (Or.inl rfl))).trans h.2.2⟩
theorem OdF.fr {i : Nat} {μ μ' : Mu} {own : Nat → Nat → Prop} (h : OdF i μ) (f : FrS own μ μ') (ho : ¬ own 26 i) : OdF i μ' := ⟨(f.S (by decide) ho).trans h.1, (f.R (by decide) ho).trans h.2⟩
theorem ShF.fr {i : Nat} {μ μ' : Mu} {own : Nat → Nat → Prop} (h : ShF i μ) (f : FrS own μ μ') (ho : ∀ κ, κ = 33 ∨ κ = 34 → ¬ own κ i) : ShF i μ' := ⟨(f.S (by decide) (ho _ (Or.inl rfl))).trans h.1, (f.S (by decide) (ho _ (Or.inr rfl))).trans h.2.1, (f.R (by decide) (ho _ (Or.inl rfl))).trans h.2.2⟩
theorem BdF.fr {i : Nat} {μ μ' : Mu} {own : Nat → Nat → Prop} (h : BdF i μ) (f : FrS own μ μ') (ho : ∀ κ, 35 ≤ κ → κ ≤ 38 → ¬ own κ i) : BdF i μ' := by
  obtain ⟨a, b, c, e, g1, g2, g3⟩ := h
  rw [gR_rw w_35] at g1 g2 g3
  refine ⟨(f.S (by decide) (ho _ (by decide) (by decide))).trans a, (f.S (by decide) (ho _ (by decide) (by decide))).trans b, (f.S (by decide) (ho _ (by decide) (by decide))).trans c, (f.S (by decide) (ho _ (by decide) (by decide))).trans e, ?_, ?_, ?_⟩
  · rw [gR_rw w_35]; exact (f.R (by decide) (ho _ (by decide) (by decide))).trans g1
  · rw [gR_rw w_35]; exact (f.R (by decide) (ho _ (by decide) (by decide))).trans g2
  · rw [gR_rw w_35]; exact (f.R (by decide) (ho _ (by decide) (by decide))).trans g3
/-- an array of things is filled: what stands when n of them stand -/
def FilI (ka kf : Nat) (B N : Nat) (F : Nat → Mu → Prop) (e : Nat → Nat → Prop) (μ0 : Mu) (i n : Nat) (μ : Mu) : Prop := FrS (fun κ j => (κ = ka ∧ j = i) ∨ (e κ j ∧ ∃ m, m < N ∧ j = B + m)) μ0 μ ∧ mS μ (hd ka i) = mS μ0 (hd ka i) ∧ (∀ m, m < n → F (B + m) μ ∧ mR μ (hd ka i) m = some (hd kf (B + m))) ∧ ∀ m κ, n ≤ m → m < N → e κ (B + m) → mS μ (hd κ (B + m)) = (0, 0)
theorem l_PlR {d rc rs B q : Nat} {Q : Option Value → Mu → Prop} {μ0 : Mu} (hD : 3 ≤ d) (ho : mS μ0 (hd 18 q) = (1, 6)) (ha : mS μ0 (hd 19 q) = (13, 8)) (hr : gR μ0 (hd 18 q) 1 = some (hd 19 q)) (hz : ∀ m κ, m < 8 → (κ = 27 ∨ κ = 28) → mS μ0 (hd κ (B + m)) = (0, 0))
    (next : ∀ μ, FilI 19 27 B 8 RdF (fun κ _ => κ = 27 ∨ κ = 28) μ0 q 8 μ → Wx K_Pl_init d rc rs Q 83 [(0, .ref (hd 18 q))] [] μ) : ∀ j n rc' rs' μ, n + j = 8 → rc' = rc + 2 * j → rs' = rs + 65 * j → FilI 19 27 B 8 RdF (fun κ _ => κ = 27 ∨ κ = 28) μ0 q n μ → Wx K_Pl_init d rc' rs' Q 55 [(0, .ref (hd 18 q)), (1, .int (nI n))] [] μ := by
  intro j
  induction j with
  | zero =>
    intro n rc' rs' μ hn h1 h2 h
    obtain rfl : n = 8 := by omega
    have h' := h
    obtain ⟨f, hs, hF, hZ⟩ := h
    have hob : mS μ (hd 18 q) = (1, 6) := (f.S (by decide) (by omega)).trans ho
    have hrb : gR μ (hd 18 q) 1 = some (hd 19 q) := by
      rw [gR_rw (rw_hd (by decide) (by decide))] at hr ⊢
      exact (f.R (by decide) (by omega)).trans hr
    have hab := hs.trans ha
    refine Wa.iload_n (j := 1) d_Pl_init_55 rfl ?_
    refine Wa.aload_n (j := 0) d_Pl_init_56 rfl ?_
    refine Wx.getR 6 1 d_Pl_init_57 f_Pl_1 rfl fl_Pl_20 hob hrb ?_
    refine Wa.alen d_Pl_init_60 hab (by decide) ?_
    refine Wa.icmp_ge 83 d_Pl_init_61 (by decide) (fun _ => ?_) (fun hh => absurd (Int32.le_refl _) hh)
    rw [h1, h2]
    exact Wa.loc [0] rfl (next μ h')
  | succ j ih =>
    intro n rc' rs' μ hn h1 h2 h
    obtain ⟨f, hs, hF, hZ⟩ := h
    have hob : mS μ (hd 18 q) = (1, 6) := (f.S (by decide) (by omega)).trans ho
    have hrb : gR μ (hd 18 q) 1 = some (hd 19 q) := by
      rw [gR_rw (rw_hd (by decide) (by decide))] at hr ⊢
      exact (f.R (by decide) (by omega)).trans hr
    have hab := hs.trans ha
    refine Wa.iload_n (j := 1) d_Pl_init_55 rfl ?_
    refine Wa.aload_n (j := 0) d_Pl_init_56 rfl ?_
    refine Wx.getR 6 1 d_Pl_init_57 f_Pl_1 rfl fl_Pl_20 hob hrb ?_
    refine Wa.alen d_Pl_init_60 hab (by decide) ?_
    refine Wa.icmp_ge 83 d_Pl_init_61 (by decide) (fun hh => absurd hh (nI_ge (by omega) (by decide))) (fun _ => ?_)
    refine Wa.aload_n (j := 0) d_Pl_init_64 rfl ?_
    refine Wx.getR 6 1 d_Pl_init_65 f_Pl_1 rfl fl_Pl_20 hob hrb ?_
    refine Wa.iload_n (j := 1) d_Pl_init_68 rfl ?_
    have z : ∀ κ, (κ = 27 ∨ κ = 28) → mS μ (hd κ (B + n)) = (0, 0) := fun κ hκ => hZ n κ (Nat.le_refl _) (by omega) hκ
    refine Wa.new (q := E_Rd) (hd 27 (B + n)) 7 d_Pl_init_69 rfl ok_Rd (by decide +kernel) cl_Pl_18 (by omega) (by show 5 ≤ rs'; omega) (z 27 (by decide)) w_27 ?_
    refine Wa.dup d_Pl_init_72 rfl ?_
    have e0 : mS (mkA μ (hd 27 (B + n)) (1, 7)) (hd 27 (B + n)) = (1, 7) := alloc_S
    have ze : ∀ κ, κ < 256 → κ ≠ 27 → (κ = 27 ∨ κ = 28) → mS (mkA μ (hd 27 (B + n)) (1, 7)) (hd κ (B + n)) = (0, 0) := fun κ a b hκ => (S_ne (by decide) a b).trans (z κ hκ)
    refine Wa.callI (K' := K_Rd_init) (n := 0) (As := []) (b := hd 27 (B + n)) (st := [.ref (hd 27 (B + n)), .int (nI n), .ref (hd 19 q)]) (d - 1) 1 60 d_Pl_init_73 mok_Rd_init rfl il_Pl_43 rfl rfl (Nat.le_of_ble_eq_true rfl) (by omega) (by omega) (by show 60 ≤ rs' - 5; omega) (c_Rd_init (Q := fun r μ' => r = none ∧ FrS (fun κ j => (κ = 27 ∨ κ = 28) ∧ j = B + n) (mkA μ (hd 27 (B + n)) (1, 7)) μ' ∧ RdF (B + n) μ') (by omega) e0 (ze 28 (by decide) (by decide) (by decide)) (fun μ' a b c e _ _ _ _ => ⟨rfl, a.mono (fun κ j z => by omega), b, c, e⟩)) (fun r μ2 hq => ?_)
    obtain ⟨rfl, f2, g2⟩ := hq
    have f1 : FrS (fun κ j => (κ = 27 ∨ κ = 28) ∧ j = B + n) μ μ2 := (FrS.rf.mk (by decide) (by omega)).trans f2
    have hab2 := (f1.S (κ := 19) (i := q) (by decide) (by omega)).trans hab
    refine Wa.aast (t := 7) (q := E_Rd) d_Pl_init_76 rfl (rw_hd (by decide) (by decide)) hab2 (vp_in_nI (by omega) (by decide)) g2.1 ?_
    refine Wa.iinc (i := 1) (j := 1) (v := nI (n + 1)) d_Pl_init_77 rfl (by rw [show Int32.ofInt 1 = 1 from rfl, nI_1]) (by decide) rfl ?_
    refine Wa.goto 55 d_Pl_init_80 (by decide) ?_
    refine Wa.loc [1, 0] rfl (ih (n + 1) _ _ _ (by omega) (by rw [h1, Nat.mul_succ]; omega) (by rw [h2, Nat.mul_succ]; show rs + (65 * j + 65) - 5 - 60 = _; omega) ?_)
    rw [nI_clamp (by omega)]
    have f3 : FrS (fun κ j => κ = 19 ∧ j = q) μ2 (setR μ2 (hd 19 q) n (hd 27 (B + n))) := FrS.rf.sR (by decide) ⟨rfl, rfl⟩
    refine ⟨(f.trans (f1.mono (fun κ j z => Or.inr ⟨z.1, n, by omega, z.2⟩))).trans (f3.mono (fun κ j z => Or.inl z)), (hab2.trans ha.symm : mS μ2 (hd 19 q) = _), fun m hm => ?_, fun m κ a b hκ => ?_⟩
    · by_cases zz : m = n
      · rw [zz]
        exact ⟨g2.fr f3 (fun κ hκ => by omega), R_eq⟩
      · obtain ⟨q1, q2⟩ := hF m (by omega)
        exact ⟨(q1.fr f1 (fun κ hκ => by omega)).fr f3 (fun κ hκ => by omega), (R_k zz).trans ((f1.R (by decide) (by omega)).trans q2)⟩
    · have hk : κ < 256 := by rcases hκ with rfl | rfl <;> decide
      exact (f3.S hk (by omega)).trans ((f1.S hk (by omega)).trans (hZ m κ (by omega) b hκ))
theorem l_PlO {d rc rs B q : Nat} {Q : Option Value → Mu → Prop} {μ0 : Mu} (hD : 3 ≤ d) (ho : mS μ0 (hd 18 q) = (1, 6)) (ha : mS μ0 (hd 20 q) = (11, 21)) (hr : gR μ0 (hd 18 q) 2 = some (hd 20 q)) (hz : ∀ m κ, m < 21 → (κ = 26) → mS μ0 (hd κ (B + m)) = (0, 0))
    (next : ∀ μ, FilI 20 26 B 21 OdF (fun κ _ => κ = 26) μ0 q 21 μ → Wx K_Pl_init d rc rs Q 113 [(0, .ref (hd 18 q))] [] μ) : ∀ j n rc' rs' μ, n + j = 21 → rc' = rc + 1 * j → rs' = rs + 9 * j → FilI 20 26 B 21 OdF (fun κ _ => κ = 26) μ0 q n μ → Wx K_Pl_init d rc' rs' Q 85 [(0, .ref (hd 18 q)), (1, .int (nI n))] [] μ := by
  intro j
  induction j with
  | zero =>
    intro n rc' rs' μ hn h1 h2 h
    obtain rfl : n = 21 := by omega
    have h' := h
    obtain ⟨f, hs, hF, hZ⟩ := h
    have hob : mS μ (hd 18 q) = (1, 6) := (f.S (by decide) (by omega)).trans ho
    have hrb : gR μ (hd 18 q) 2 = some (hd 20 q) := by
      rw [gR_rw (rw_hd (by decide) (by decide))] at hr ⊢
      exact (f.R (by decide) (by omega)).trans hr
    have hab := hs.trans ha
    refine Wa.iload_n (j := 1) d_Pl_init_85 rfl ?_
    refine Wa.aload_n (j := 0) d_Pl_init_86 rfl ?_
    refine Wx.getR 6 2 d_Pl_init_87 f_Pl_2 rfl fl_Pl_26 hob hrb ?_
    refine Wa.alen d_Pl_init_90 hab (by decide) ?_
    refine Wa.icmp_ge 113 d_Pl_init_91 (by decide) (fun _ => ?_) (fun hh => absurd (Int32.le_refl _) hh)
    rw [h1, h2]
    exact Wa.loc [0] rfl (next μ h')
  | succ j ih =>
    intro n rc' rs' μ hn h1 h2 h
    obtain ⟨f, hs, hF, hZ⟩ := h
    have hob : mS μ (hd 18 q) = (1, 6) := (f.S (by decide) (by omega)).trans ho
    have hrb : gR μ (hd 18 q) 2 = some (hd 20 q) := by
      rw [gR_rw (rw_hd (by decide) (by decide))] at hr ⊢
      exact (f.R (by decide) (by omega)).trans hr
    have hab := hs.trans ha
    refine Wa.iload_n (j := 1) d_Pl_init_85 rfl ?_
    refine Wa.aload_n (j := 0) d_Pl_init_86 rfl ?_
    refine Wx.getR 6 2 d_Pl_init_87 f_Pl_2 rfl fl_Pl_26 hob hrb ?_
    refine Wa.alen d_Pl_init_90 hab (by decide) ?_
    refine Wa.icmp_ge 113 d_Pl_init_91 (by decide) (fun hh => absurd hh (nI_ge (by omega) (by decide))) (fun _ => ?_)
    refine Wa.aload_n (j := 0) d_Pl_init_94 rfl ?_
    refine Wx.getR 6 2 d_Pl_init_95 f_Pl_2 rfl fl_Pl_26 hob hrb ?_
    refine Wa.iload_n (j := 1) d_Pl_init_98 rfl ?_
    have z : ∀ κ, (κ = 26) → mS μ (hd κ (B + n)) = (0, 0) := fun κ hκ => hZ n κ (Nat.le_refl _) (by omega) hκ
    refine Wa.new (q := E_Od) (hd 26 (B + n)) 5 d_Pl_init_99 rfl ok_Od (by decide +kernel) cl_Pl_24 (by omega) (by show 9 ≤ rs'; omega) (z 26 (by decide)) w_26 ?_
    refine Wa.dup d_Pl_init_102 rfl ?_
    have e0 : mS (mkA μ (hd 26 (B + n)) (1, 5)) (hd 26 (B + n)) = (1, 5) := alloc_S
    have ze : ∀ κ, κ < 256 → κ ≠ 26 → (κ = 26) → mS (mkA μ (hd 26 (B + n)) (1, 5)) (hd κ (B + n)) = (0, 0) := fun κ a b hκ => (S_ne (by decide) a b).trans (z κ hκ)
    refine Wa.callI (K' := K_Od_init) (n := 0) (As := []) (b := hd 26 (B + n)) (st := [.ref (hd 26 (B + n)), .int (nI n), .ref (hd 20 q)]) (d - 1) 0 0 d_Pl_init_103 mok_Od_init rfl il_Pl_44 rfl rfl (Nat.le_of_ble_eq_true rfl) (by omega) (by omega) (by show 0 ≤ rs' - 9; omega) (c_Od_init (Q := fun r μ' => r = none ∧ FrS (fun κ j => (κ = 26) ∧ j = B + n) (mkA μ (hd 26 (B + n)) (1, 5)) μ' ∧ OdF (B + n) μ') (by omega) e0 (fun μ' a b c _ _ _ _ _ _ _ _ => ⟨rfl, a.mono (fun κ j z => by omega), b, c⟩)) (fun r μ2 hq => ?_)
    obtain ⟨rfl, f2, g2⟩ := hq
    have f1 : FrS (fun κ j => (κ = 26) ∧ j = B + n) μ μ2 := (FrS.rf.mk (by decide) (by omega)).trans f2
    have hab2 := (f1.S (κ := 20) (i := q) (by decide) (by omega)).trans hab
    refine Wa.aast (t := 5) (q := E_Od) d_Pl_init_106 rfl (rw_hd (by decide) (by decide)) hab2 (vp_in_nI (by omega) (by decide)) g2.1 ?_
    refine Wa.iinc (i := 1) (j := 1) (v := nI (n + 1)) d_Pl_init_107 rfl (by rw [show Int32.ofInt 1 = 1 from rfl, nI_1]) (by decide) rfl ?_
    refine Wa.goto 85 d_Pl_init_110 (by decide) ?_
    refine Wa.loc [1, 0] rfl (ih (n + 1) _ _ _ (by omega) (by rw [h1, Nat.mul_succ]; omega) (by rw [h2, Nat.mul_succ]; show rs + (9 * j + 9) - 9 - 0 = _; omega) ?_)
    rw [nI_clamp (by omega)]
    have f3 : FrS (fun κ j => κ = 20 ∧ j = q) μ2 (setR μ2 (hd 20 q) n (hd 26 (B + n))) := FrS.rf.sR (by decide) ⟨rfl, rfl⟩
    refine ⟨(f.trans (f1.mono (fun κ j z => Or.inr ⟨z.1, n, by omega, z.2⟩))).trans (f3.mono (fun κ j z => Or.inl z)), (hab2.trans ha.symm : mS μ2 (hd 20 q) = _), fun m hm => ?_, fun m κ a b hκ => ?_⟩
    · by_cases zz : m = n
      · rw [zz]
        exact ⟨g2.fr f3 (by omega), R_eq⟩
      · obtain ⟨q1, q2⟩ := hF m (by omega)
        exact ⟨(q1.fr f1 (by omega)).fr f3 (by omega), (R_k zz).trans ((f1.R (by decide) (by omega)).trans q2)⟩
    · have hk : κ < 256 := by rcases hκ with rfl; decide
      exact (f3.S hk (by omega)).trans ((f1.S hk (by omega)).trans (hZ m κ (by omega) b hκ))
theorem l_WdS {d rc rs B w : Nat} {Q : Option Value → Mu → Prop} {μ0 : Mu} (hD : 3 ≤ d) (ho : mS μ0 (hd 29 w) = (1, 10)) (ha : mS μ0 (hd 30 w) = (14, 60)) (hr : gR μ0 (hd 29 w) 0 = some (hd 30 w)) (hz : ∀ m κ, m < 60 → (κ = 33 ∨ κ = 34) → mS μ0 (hd κ (B + m)) = (0, 0))
    (next : ∀ μ, FilI 30 33 B 60 ShF (fun κ _ => κ = 33 ∨ κ = 34) μ0 w 60 μ → Wx K_Wd_init d rc rs Q 85 [(0, .ref (hd 29 w))] [] μ) : ∀ j n rc' rs' μ, n + j = 60 → rc' = rc + 2 * j → rs' = rs + 12 * j → FilI 30 33 B 60 ShF (fun κ _ => κ = 33 ∨ κ = 34) μ0 w n μ → Wx K_Wd_init d rc' rs' Q 57 [(0, .ref (hd 29 w)), (2, .int (nI n))] [] μ := by
  intro j
  induction j with
  | zero =>
    intro n rc' rs' μ hn h1 h2 h
    obtain rfl : n = 60 := by omega
    have h' := h
    obtain ⟨f, hs, hF, hZ⟩ := h
    have hob : mS μ (hd 29 w) = (1, 10) := (f.S (by decide) (by omega)).trans ho
    have hrb : gR μ (hd 29 w) 0 = some (hd 30 w) := by
      rw [gR_rw (rw_hd (by decide) (by decide))] at hr ⊢
      exact (f.R (by decide) (by omega)).trans hr
    have hab := hs.trans ha
    refine Wa.iload_n (j := 1) d_Wd_init_57 rfl ?_
    refine Wa.aload_n (j := 0) d_Wd_init_58 rfl ?_
    refine Wx.getR 10 0 d_Wd_init_59 f_Wd_0 rfl fl_Wd_11 hob hrb ?_
    refine Wa.alen d_Wd_init_62 hab (by decide) ?_
    refine Wa.icmp_ge 85 d_Wd_init_63 (by decide) (fun _ => ?_) (fun hh => absurd (Int32.le_refl _) hh)
    rw [h1, h2]
    exact Wa.loc [0] rfl (next μ h')
  | succ j ih =>
    intro n rc' rs' μ hn h1 h2 h
    obtain ⟨f, hs, hF, hZ⟩ := h
    have hob : mS μ (hd 29 w) = (1, 10) := (f.S (by decide) (by omega)).trans ho
    have hrb : gR μ (hd 29 w) 0 = some (hd 30 w) := by
      rw [gR_rw (rw_hd (by decide) (by decide))] at hr ⊢
      exact (f.R (by decide) (by omega)).trans hr
    have hab := hs.trans ha
    refine Wa.iload_n (j := 1) d_Wd_init_57 rfl ?_
    refine Wa.aload_n (j := 0) d_Wd_init_58 rfl ?_
    refine Wx.getR 10 0 d_Wd_init_59 f_Wd_0 rfl fl_Wd_11 hob hrb ?_
    refine Wa.alen d_Wd_init_62 hab (by decide) ?_
    refine Wa.icmp_ge 85 d_Wd_init_63 (by decide) (fun hh => absurd hh (nI_ge (by omega) (by decide))) (fun _ => ?_)
    refine Wa.aload_n (j := 0) d_Wd_init_66 rfl ?_
    refine Wx.getR 10 0 d_Wd_init_67 f_Wd_0 rfl fl_Wd_11 hob hrb ?_
    refine Wa.iload_n (j := 1) d_Wd_init_70 rfl ?_
    have z : ∀ κ, (κ = 33 ∨ κ = 34) → mS μ (hd κ (B + n)) = (0, 0) := fun κ hκ => hZ n κ (Nat.le_refl _) (by omega) hκ
    refine Wa.new (q := E_Sh) (hd 33 (B + n)) 8 d_Wd_init_71 rfl ok_Sh (by decide +kernel) cl_Wd_9 (by omega) (by show 7 ≤ rs'; omega) (z 33 (by decide)) w_33 ?_
    refine Wa.dup d_Wd_init_74 rfl ?_
    have e0 : mS (mkA μ (hd 33 (B + n)) (1, 8)) (hd 33 (B + n)) = (1, 8) := alloc_S
    have ze : ∀ κ, κ < 256 → κ ≠ 33 → (κ = 33 ∨ κ = 34) → mS (mkA μ (hd 33 (B + n)) (1, 8)) (hd κ (B + n)) = (0, 0) := fun κ a b hκ => (S_ne (by decide) a b).trans (z κ hκ)
    refine Wa.callI (K' := K_Sh_init) (n := 0) (As := []) (b := hd 33 (B + n)) (st := [.ref (hd 33 (B + n)), .int (nI n), .ref (hd 30 w)]) (d - 1) 1 5 d_Wd_init_75 mok_Sh_init rfl il_Wd_46 rfl rfl (Nat.le_of_ble_eq_true rfl) (by omega) (by omega) (by show 5 ≤ rs' - 7; omega) (c_Sh_init (Q := fun r μ' => r = none ∧ FrS (fun κ j => (κ = 33 ∨ κ = 34) ∧ j = B + n) (mkA μ (hd 33 (B + n)) (1, 8)) μ' ∧ ShF (B + n) μ') (by omega) e0 (ze 34 (by decide) (by decide) (by decide)) (fun μ' a b c e _ _ _ _ _ _ => ⟨rfl, a.mono (fun κ j z => by omega), b, c, e⟩)) (fun r μ2 hq => ?_)
    obtain ⟨rfl, f2, g2⟩ := hq
    have f1 : FrS (fun κ j => (κ = 33 ∨ κ = 34) ∧ j = B + n) μ μ2 := (FrS.rf.mk (by decide) (by omega)).trans f2
    have hab2 := (f1.S (κ := 30) (i := w) (by decide) (by omega)).trans hab
    refine Wa.aast (t := 8) (q := E_Sh) d_Wd_init_78 rfl (rw_hd (by decide) (by decide)) hab2 (vp_in_nI (by omega) (by decide)) g2.1 ?_
    refine Wa.iinc (i := 2) (j := 1) (v := nI (n + 1)) d_Wd_init_79 rfl (by rw [show Int32.ofInt 1 = 1 from rfl, nI_1]) (by decide) rfl ?_
    refine Wa.goto 57 d_Wd_init_82 (by decide) ?_
    refine Wa.loc [1, 0] rfl (ih (n + 1) _ _ _ (by omega) (by rw [h1, Nat.mul_succ]; omega) (by rw [h2, Nat.mul_succ]; show rs + (12 * j + 12) - 7 - 5 = _; omega) ?_)
    rw [nI_clamp (by omega)]
    have f3 : FrS (fun κ j => κ = 30 ∧ j = w) μ2 (setR μ2 (hd 30 w) n (hd 33 (B + n))) := FrS.rf.sR (by decide) ⟨rfl, rfl⟩
    refine ⟨(f.trans (f1.mono (fun κ j z => Or.inr ⟨z.1, n, by omega, z.2⟩))).trans (f3.mono (fun κ j z => Or.inl z)), (hab2.trans ha.symm : mS μ2 (hd 30 w) = _), fun m hm => ?_, fun m κ a b hκ => ?_⟩
    · by_cases zz : m = n
      · rw [zz]
        exact ⟨g2.fr f3 (fun κ hκ => by omega), R_eq⟩
      · obtain ⟨q1, q2⟩ := hF m (by omega)
        exact ⟨(q1.fr f1 (fun κ hκ => by omega)).fr f3 (fun κ hκ => by omega), (R_k zz).trans ((f1.R (by decide) (by omega)).trans q2)⟩
    · have hk : κ < 256 := by rcases hκ with rfl | rfl <;> decide
      exact (f3.S hk (by omega)).trans ((f1.S hk (by omega)).trans (hZ m κ (by omega) b hκ))
theorem l_WdB {d rc rs B w : Nat} {Q : Option Value → Mu → Prop} {μ0 : Mu} (hD : 3 ≤ d) (ho : mS μ0 (hd 29 w) = (1, 10)) (ha : mS μ0 (hd 31 w) = (7, 5)) (hr : gR μ0 (hd 29 w) 1 = some (hd 31 w)) (hz : ∀ m κ, m < 5 → (κ = 35 ∨ κ = 36 ∨ κ = 37 ∨ κ = 38) → mS μ0 (hd κ (B + m)) = (0, 0))
    (next : ∀ μ, FilI 31 35 B 5 BdF (fun κ _ => κ = 35 ∨ κ = 36 ∨ κ = 37 ∨ κ = 38) μ0 w 5 μ → Wx K_Wd_init d rc rs Q 115 [(0, .ref (hd 29 w))] [] μ) : ∀ j n rc' rs' μ, n + j = 5 → rc' = rc + 4 * j → rs' = rs + 99 * j → FilI 31 35 B 5 BdF (fun κ _ => κ = 35 ∨ κ = 36 ∨ κ = 37 ∨ κ = 38) μ0 w n μ → Wx K_Wd_init d rc' rs' Q 87 [(0, .ref (hd 29 w)), (2, .int (nI n))] [] μ := by
  intro j
  induction j with
  | zero =>
    intro n rc' rs' μ hn h1 h2 h
    obtain rfl : n = 5 := by omega
    have h' := h
    obtain ⟨f, hs, hF, hZ⟩ := h
    have hob : mS μ (hd 29 w) = (1, 10) := (f.S (by decide) (by omega)).trans ho
    have hrb : gR μ (hd 29 w) 1 = some (hd 31 w) := by
      rw [gR_rw (rw_hd (by decide) (by decide))] at hr ⊢
      exact (f.R (by decide) (by omega)).trans hr
    have hab := hs.trans ha
    refine Wa.iload_n (j := 1) d_Wd_init_87 rfl ?_
    refine Wa.aload_n (j := 0) d_Wd_init_88 rfl ?_
    refine Wx.getR 10 1 d_Wd_init_89 f_Wd_1 rfl fl_Wd_19 hob hrb ?_
    refine Wa.alen d_Wd_init_92 hab (by decide) ?_
    refine Wa.icmp_ge 115 d_Wd_init_93 (by decide) (fun _ => ?_) (fun hh => absurd (Int32.le_refl _) hh)
    rw [h1, h2]
    exact Wa.loc [0] rfl (next μ h')
  | succ j ih =>
    intro n rc' rs' μ hn h1 h2 h
    obtain ⟨f, hs, hF, hZ⟩ := h
    have hob : mS μ (hd 29 w) = (1, 10) := (f.S (by decide) (by omega)).trans ho
    have hrb : gR μ (hd 29 w) 1 = some (hd 31 w) := by
      rw [gR_rw (rw_hd (by decide) (by decide))] at hr ⊢
      exact (f.R (by decide) (by omega)).trans hr
    have hab := hs.trans ha
    refine Wa.iload_n (j := 1) d_Wd_init_87 rfl ?_
    refine Wa.aload_n (j := 0) d_Wd_init_88 rfl ?_
    refine Wx.getR 10 1 d_Wd_init_89 f_Wd_1 rfl fl_Wd_19 hob hrb ?_
    refine Wa.alen d_Wd_init_92 hab (by decide) ?_
    refine Wa.icmp_ge 115 d_Wd_init_93 (by decide) (fun hh => absurd hh (nI_ge (by omega) (by decide))) (fun _ => ?_)
    refine Wa.aload_n (j := 0) d_Wd_init_96 rfl ?_
    refine Wx.getR 10 1 d_Wd_init_97 f_Wd_1 rfl fl_Wd_19 hob hrb ?_
    refine Wa.iload_n (j := 1) d_Wd_init_100 rfl ?_
    have z : ∀ κ, (κ = 35 ∨ κ = 36 ∨ κ = 37 ∨ κ = 38) → mS μ (hd κ (B + n)) = (0, 0) := fun κ hκ => hZ n κ (Nat.le_refl _) (by omega) hκ
    refine Wa.new (q := E_Bd) (hd 35 (B + n)) 1 d_Wd_init_101 rfl ok_Bd (by decide +kernel) cl_Wd_17 (by omega) (by show 4 ≤ rs'; omega) (z 35 (by decide)) w_35 ?_
    refine Wa.dup d_Wd_init_104 rfl ?_
    have e0 : mS (mkA μ (hd 35 (B + n)) (1, 1)) (hd 35 (B + n)) = (1, 1) := alloc_S
    have ze : ∀ κ, κ < 256 → κ ≠ 35 → (κ = 35 ∨ κ = 36 ∨ κ = 37 ∨ κ = 38) → mS (mkA μ (hd 35 (B + n)) (1, 1)) (hd κ (B + n)) = (0, 0) := fun κ a b hκ => (S_ne (by decide) a b).trans (z κ hκ)
    refine Wa.callI (K' := K_Bd_init) (n := 0) (As := []) (b := hd 35 (B + n)) (st := [.ref (hd 35 (B + n)), .int (nI n), .ref (hd 31 w)]) (d - 1) 3 95 d_Wd_init_105 mok_Bd_init rfl il_Wd_47 rfl rfl (Nat.le_of_ble_eq_true rfl) (by omega) (by omega) (by show 95 ≤ rs' - 4; omega) (c_Bd_init (Q := fun r μ' => r = none ∧ FrS (fun κ j => (κ = 35 ∨ κ = 36 ∨ κ = 37 ∨ κ = 38) ∧ j = B + n) (mkA μ (hd 35 (B + n)) (1, 1)) μ' ∧ BdF (B + n) μ') (by omega) e0 (ze 36 (by decide) (by decide) (by decide)) (ze 37 (by decide) (by decide) (by decide)) (ze 38 (by decide) (by decide) (by decide)) (fun μ' a b => ⟨rfl, a.mono (fun κ j z => by unfold OwBd at z; omega), b⟩)) (fun r μ2 hq => ?_)
    obtain ⟨rfl, f2, g2⟩ := hq
    have f1 : FrS (fun κ j => (κ = 35 ∨ κ = 36 ∨ κ = 37 ∨ κ = 38) ∧ j = B + n) μ μ2 := (FrS.rf.mk (by decide) (by omega)).trans f2
    have hab2 := (f1.S (κ := 31) (i := w) (by decide) (by omega)).trans hab
    refine Wa.aast (t := 1) (q := E_Bd) d_Wd_init_108 rfl (rw_hd (by decide) (by decide)) hab2 (vp_in_nI (by omega) (by decide)) g2.1 ?_
    refine Wa.iinc (i := 2) (j := 1) (v := nI (n + 1)) d_Wd_init_109 rfl (by rw [show Int32.ofInt 1 = 1 from rfl, nI_1]) (by decide) rfl ?_
    refine Wa.goto 87 d_Wd_init_112 (by decide) ?_
    refine Wa.loc [1, 0] rfl (ih (n + 1) _ _ _ (by omega) (by rw [h1, Nat.mul_succ]; omega) (by rw [h2, Nat.mul_succ]; show rs + (99 * j + 99) - 4 - 95 = _; omega) ?_)
    rw [nI_clamp (by omega)]
    have f3 : FrS (fun κ j => κ = 31 ∧ j = w) μ2 (setR μ2 (hd 31 w) n (hd 35 (B + n))) := FrS.rf.sR (by decide) ⟨rfl, rfl⟩
    refine ⟨(f.trans (f1.mono (fun κ j z => Or.inr ⟨z.1, n, by omega, z.2⟩))).trans (f3.mono (fun κ j z => Or.inl z)), (hab2.trans ha.symm : mS μ2 (hd 31 w) = _), fun m hm => ?_, fun m κ a b hκ => ?_⟩
    · by_cases zz : m = n
      · rw [zz]
        exact ⟨g2.fr f3 (fun κ a b => by omega), R_eq⟩
      · obtain ⟨q1, q2⟩ := hF m (by omega)
        exact ⟨(q1.fr f1 (fun κ a b => by omega)).fr f3 (fun κ a b => by omega), (R_k zz).trans ((f1.R (by decide) (by omega)).trans q2)⟩
    · have hk : κ < 256 := by rcases hκ with rfl | rfl | rfl | rfl <;> decide
      exact (f3.S hk (by omega)).trans ((f1.S hk (by omega)).trans (hZ m κ (by omega) b hκ))
theorem l_WdR {d rc rs B w : Nat} {Q : Option Value → Mu → Prop} {μ0 : Mu} (hD : 3 ≤ d) (ho : mS μ0 (hd 29 w) = (1, 10)) (ha : mS μ0 (hd 32 w) = (13, 8)) (hr : gR μ0 (hd 29 w) 2 = some (hd 32 w)) (hz : ∀ m κ, m < 8 → (κ = 27 ∨ κ = 28) → mS μ0 (hd κ (B + m)) = (0, 0))
    (next : ∀ μ, FilI 32 27 B 8 RdF (fun κ _ => κ = 27 ∨ κ = 28) μ0 w 8 μ → Wx K_Wd_init d rc rs Q 145 [(0, .ref (hd 29 w))] [] μ) : ∀ j n rc' rs' μ, n + j = 8 → rc' = rc + 2 * j → rs' = rs + 65 * j → FilI 32 27 B 8 RdF (fun κ _ => κ = 27 ∨ κ = 28) μ0 w n μ → Wx K_Wd_init d rc' rs' Q 117 [(0, .ref (hd 29 w)), (2, .int (nI n))] [] μ := by
  intro j
  induction j with
  | zero =>
    intro n rc' rs' μ hn h1 h2 h
    obtain rfl : n = 8 := by omega
    have h' := h
    obtain ⟨f, hs, hF, hZ⟩ := h
    have hob : mS μ (hd 29 w) = (1, 10) := (f.S (by decide) (by omega)).trans ho
    have hrb : gR μ (hd 29 w) 2 = some (hd 32 w) := by
      rw [gR_rw (rw_hd (by decide) (by decide))] at hr ⊢
      exact (f.R (by decide) (by omega)).trans hr
    have hab := hs.trans ha
    refine Wa.iload_n (j := 1) d_Wd_init_117 rfl ?_
    refine Wa.aload_n (j := 0) d_Wd_init_118 rfl ?_
    refine Wx.getR 10 2 d_Wd_init_119 f_Wd_2 rfl fl_Wd_25 hob hrb ?_
    refine Wa.alen d_Wd_init_122 hab (by decide) ?_
    refine Wa.icmp_ge 145 d_Wd_init_123 (by decide) (fun _ => ?_) (fun hh => absurd (Int32.le_refl _) hh)
    rw [h1, h2]
    exact Wa.loc [0] rfl (next μ h')
  | succ j ih =>
    intro n rc' rs' μ hn h1 h2 h
    obtain ⟨f, hs, hF, hZ⟩ := h
    have hob : mS μ (hd 29 w) = (1, 10) := (f.S (by decide) (by omega)).trans ho
    have hrb : gR μ (hd 29 w) 2 = some (hd 32 w) := by
      rw [gR_rw (rw_hd (by decide) (by decide))] at hr ⊢
      exact (f.R (by decide) (by omega)).trans hr
    have hab := hs.trans ha
    refine Wa.iload_n (j := 1) d_Wd_init_117 rfl ?_
    refine Wa.aload_n (j := 0) d_Wd_init_118 rfl ?_
    refine Wx.getR 10 2 d_Wd_init_119 f_Wd_2 rfl fl_Wd_25 hob hrb ?_
    refine Wa.alen d_Wd_init_122 hab (by decide) ?_
    refine Wa.icmp_ge 145 d_Wd_init_123 (by decide) (fun hh => absurd hh (nI_ge (by omega) (by decide))) (fun _ => ?_)
    refine Wa.aload_n (j := 0) d_Wd_init_126 rfl ?_
    refine Wx.getR 10 2 d_Wd_init_127 f_Wd_2 rfl fl_Wd_25 hob hrb ?_
    refine Wa.iload_n (j := 1) d_Wd_init_130 rfl ?_
    have z : ∀ κ, (κ = 27 ∨ κ = 28) → mS μ (hd κ (B + n)) = (0, 0) := fun κ hκ => hZ n κ (Nat.le_refl _) (by omega) hκ
    refine Wa.new (q := E_Rd) (hd 27 (B + n)) 7 d_Wd_init_131 rfl ok_Rd (by decide +kernel) cl_Wd_23 (by omega) (by show 5 ≤ rs'; omega) (z 27 (by decide)) w_27 ?_
    refine Wa.dup d_Wd_init_134 rfl ?_
    have e0 : mS (mkA μ (hd 27 (B + n)) (1, 7)) (hd 27 (B + n)) = (1, 7) := alloc_S
    have ze : ∀ κ, κ < 256 → κ ≠ 27 → (κ = 27 ∨ κ = 28) → mS (mkA μ (hd 27 (B + n)) (1, 7)) (hd κ (B + n)) = (0, 0) := fun κ a b hκ => (S_ne (by decide) a b).trans (z κ hκ)
    refine Wa.callI (K' := K_Rd_init) (n := 0) (As := []) (b := hd 27 (B + n)) (st := [.ref (hd 27 (B + n)), .int (nI n), .ref (hd 32 w)]) (d - 1) 1 60 d_Wd_init_135 mok_Rd_init rfl il_Wd_48 rfl rfl (Nat.le_of_ble_eq_true rfl) (by omega) (by omega) (by show 60 ≤ rs' - 5; omega) (c_Rd_init (Q := fun r μ' => r = none ∧ FrS (fun κ j => (κ = 27 ∨ κ = 28) ∧ j = B + n) (mkA μ (hd 27 (B + n)) (1, 7)) μ' ∧ RdF (B + n) μ') (by omega) e0 (ze 28 (by decide) (by decide) (by decide)) (fun μ' a b c e _ _ _ _ => ⟨rfl, a.mono (fun κ j z => by omega), b, c, e⟩)) (fun r μ2 hq => ?_)
    obtain ⟨rfl, f2, g2⟩ := hq
    have f1 : FrS (fun κ j => (κ = 27 ∨ κ = 28) ∧ j = B + n) μ μ2 := (FrS.rf.mk (by decide) (by omega)).trans f2
    have hab2 := (f1.S (κ := 32) (i := w) (by decide) (by omega)).trans hab
    refine Wa.aast (t := 7) (q := E_Rd) d_Wd_init_138 rfl (rw_hd (by decide) (by decide)) hab2 (vp_in_nI (by omega) (by decide)) g2.1 ?_
    refine Wa.iinc (i := 2) (j := 1) (v := nI (n + 1)) d_Wd_init_139 rfl (by rw [show Int32.ofInt 1 = 1 from rfl, nI_1]) (by decide) rfl ?_
    refine Wa.goto 117 d_Wd_init_142 (by decide) ?_
    refine Wa.loc [1, 0] rfl (ih (n + 1) _ _ _ (by omega) (by rw [h1, Nat.mul_succ]; omega) (by rw [h2, Nat.mul_succ]; show rs + (65 * j + 65) - 5 - 60 = _; omega) ?_)
    rw [nI_clamp (by omega)]
    have f3 : FrS (fun κ j => κ = 32 ∧ j = w) μ2 (setR μ2 (hd 32 w) n (hd 27 (B + n))) := FrS.rf.sR (by decide) ⟨rfl, rfl⟩
    refine ⟨(f.trans (f1.mono (fun κ j z => Or.inr ⟨z.1, n, by omega, z.2⟩))).trans (f3.mono (fun κ j z => Or.inl z)), (hab2.trans ha.symm : mS μ2 (hd 32 w) = _), fun m hm => ?_, fun m κ a b hκ => ?_⟩
    · by_cases zz : m = n
      · rw [zz]
        exact ⟨g2.fr f3 (fun κ hκ => by omega), R_eq⟩
      · obtain ⟨q1, q2⟩ := hF m (by omega)
        exact ⟨(q1.fr f1 (fun κ hκ => by omega)).fr f3 (fun κ hκ => by omega), (R_k zz).trans ((f1.R (by decide) (by omega)).trans q2)⟩
    · have hk : κ < 256 := by rcases hκ with rfl | rfl <;> decide
      exact (f3.S hk (by omega)).trans ((f1.S hk (by omega)).trans (hZ m κ (by omega) b hκ))
