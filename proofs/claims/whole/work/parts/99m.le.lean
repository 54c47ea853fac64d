/-! the law begins -/
theorem xc_Z {μ : Mu} (h : WdF 0 0 μ) (p : PlF 0 μ) : XC μ 0 tZ dZ := by
  obtain ⟨-, ⟨-, -, -, r3⟩, ⟨i4, i5, i6, i7⟩, -⟩ := h
  have hpx : px μ (hd 29 0) 3 = 0 := px_eq (by decide) r3
  refine ⟨by decide, db_Z, fun f i j hr => ?_, ?_⟩
  · rcases f with _|_|_|_|_|_|_|_|_|_|_|_|_|f <;> simp only [rng] at hr
    · obtain ⟨rfl, rfl⟩ := hr; exact i4
    · obtain ⟨rfl, rfl⟩ := hr; exact i5
    · obtain ⟨rfl, rfl⟩ := hr; exact i6
    · obtain ⟨rfl, rfl⟩ := hr; exact i7
    all_goals exact absurd hr.1 (Nat.not_lt_zero _)
  · rw [hpx]
    exact p.2.2.1
theorem ni_Z : NI tZ (fun _ => []) (fun _ => []) dZ 0 :=
  ⟨⟨db_Z, fun b h => absurd h (Nat.not_lt_zero _), ⟨fun s p h => absurd h (Nat.not_lt_zero _), fun s h => absurd h (Nat.not_lt_zero _), fun b p h => absurd h (Nat.not_lt_zero _), fun b h => absurd h (Nat.not_lt_zero _)⟩, fun r s h => absurd h (Nat.not_lt_zero _)⟩, fun k h => absurd h (Nat.not_lt_zero _), fun k h => absurd h (Nat.not_lt_zero _), Nat.le_refl _, by decide⟩
theorem li_Z {μ : Mu} (h : PBF μ) (w : MW μ 0 tZ dZ []) (i2 : mI μ (hd 40 0) 2 = 0) (i3 : mI μ (hd 40 0) 3 = -1) : LI μ 0 := by
  have x3 : px μ (hd 8 0) 3 = 0 := px_eq (κ := 18) (by decide) (h.b8 (k := 3) (by decide) (by decide) (by decide))
  have x4 : px μ (hd 8 0) 4 = 1 := px_eq (κ := 18) (by decide) (h.b8 (k := 4) (by decide) (by decide) (by decide))
  have y3 : px μ (hd 29 0) 3 = 0 := px_eq (κ := 18) (by decide) (h.2.2.2.2.2.2.1).2.1.2.2.2
  refine ⟨tZ, fun _ => [], fun _ => [], dZ, fun _ => 0, 0, -1, ⟨xc_Z h.2.2.2.2.2.2.1 h.2.1, ⟨?_, ?_, ?_⟩, ⟨Nat.zero_le _, fun k hk => absurd hk (Nat.not_lt_zero _), h.1.2.1.1, fun k hk => absurd hk (Nat.not_lt_zero _)⟩, h.1.2.1.2⟩, ⟨⟨[], w⟩, fun k hk => absurd hk (Nat.not_lt_zero _), ⟨i2, fun k hk => absurd hk (Nat.not_lt_zero _)⟩, i3⟩, ni_Z⟩
  · rw [x3, x4]
  · rw [x3, y3]
  · rw [x3]
    exact ⟨0, Nat.zero_le _, h.2.1.2.2.2.1.2.2.2.1, fun k hk => absurd hk (Nat.not_lt_zero _)⟩
theorem law_start {d Ls : Nat} {xs : Nat → Int32} {Q : Option Value → Mu → Prop} {μ : Mu} (hD : 113 ≤ d) (hL : Ls ≤ 3072) (hQ : ∀ μ', Q (some (.int 1)) μ') (hC : CnF μ) (hR : SCR μ Ls xs) (hz : ∀ κ i, 8 ≤ κ → κ ≤ 90 → mS μ (hd κ i) = (0, 0)) : Wx K_LA d 7136 732481 Q 0 [(0, .ref (hd 6 0))] [] μ := by
  refine Wa.new (q := E_PB) (hd 8 0) 0 d_LA_0 rfl ok_PB (by decide +kernel) cl_LW_8 (by decide) (by decide) (hz 8 0 (by decide) (by decide)) w_8 ?_
  refine Wa.dup d_LA_3 rfl ?_
  refine Wa.callI (K' := K_PB_init) (n := 0) (As := []) (b := hd 8 0) (st := [.ref (hd 8 0)]) (d - 1) 422 11976 d_LA_4 mok_PB_init rfl il_LW_76 rfl rfl (Nat.le_of_ble_eq_true rfl) (by omega) (Nat.le_of_ble_eq_true rfl) (Nat.le_of_ble_eq_true rfl) (c_PB_init (Q := fun r μ' => r = none ∧ FrS (fun κ _ => 8 ≤ κ ∧ κ ≤ 38) (mkA μ (hd 8 0) (1, 0)) μ' ∧ PBF μ') (by omega) alloc_S (fun κ i a b => (S_ne (by decide) (by omega) (by omega)).trans (hz κ i (by omega) (by omega))) (fun μ' a b => ⟨rfl, a, b⟩)) (fun r M1 hq => ?_)
  obtain ⟨rfl, f1, b1⟩ := hq
  have f1 : FrS (fun κ _ => 8 ≤ κ ∧ κ ≤ 38) μ M1 := (FrS.rf.mk (by decide) (by decide)).trans f1
  refine Wa.astore_n (i := 1) (L' := [(1, .ref (hd 8 0)), (0, .ref (hd 6 0))]) d_LA_7 rfl (by decide) rfl ?_
  have z1 : ∀ κ i, 39 ≤ κ → κ ≤ 90 → mS M1 (hd κ i) = (0, 0) := fun κ i a b => (f1.S (by omega) (by omega)).trans (hz κ i (by omega) b)
  refine Wa.new (q := E_MM) (hd 40 0) 11 d_LA_8 rfl ok_MM (by decide +kernel) cl_LW_77 (Nat.le_of_ble_eq_true rfl) (Nat.le_of_ble_eq_true rfl) (z1 40 0 (by decide) (by decide)) w_40 ?_
  refine Wa.dup d_LA_11 rfl ?_
  have f2 : FrS (fun κ _ => κ = 40) M1 (mkA M1 (hd 40 0) (1, 11)) := FrS.rf.mk (by decide) rfl
  refine Wa.callI (K' := K_MM_init) (n := 0) (As := []) (b := hd 40 0) (st := [.ref (hd 40 0)]) (d - 1) 55 10847 d_LA_12 mok_MM_init rfl il_LW_79 rfl rfl (Nat.le_of_ble_eq_true rfl) (by omega) (Nat.le_of_ble_eq_true rfl) (Nat.le_of_ble_eq_true rfl) (c_MM_init (Q := fun r μ' => r = none ∧ FrS (fun κ _ => 40 ≤ κ ∧ κ ≤ 89) M1 μ' ∧ S9 μ' ∧ MW μ' 0 tZ dZ [] ∧ mI μ' (hd 40 0) 2 = 0 ∧ mI μ' (hd 40 0) 3 = -1) (by omega) alloc_S I_mk (fun κ i a b => (S_ne (by decide) (by omega) (by omega)).trans (z1 κ i (by omega) (by omega))) ((hC.fr f1 (fun κ i a => by omega)).fr f2 (fun κ i a => by omega)) (b1.fr f2 (fun κ i a b => by omega)) (fun μ' f s w a b => ⟨rfl, (f2.mono (fun κ i h => by omega)).trans f, s, w, a, b⟩)) (fun r M2 hq => ?_)
  obtain ⟨rfl, f3, s3, w3, i2, i3⟩ := hq
  refine Wa.astore_n (i := 2) (L' := [(2, .ref (hd 40 0)), (1, .ref (hd 8 0)), (0, .ref (hd 6 0))]) d_LA_15 rfl (by decide) rfl ?_
  refine Wa.iconst (v := 1) d_LA_16 rfl ?_
  refine Wa.newarr (hd 90 0) 3 1 d_LA_17 ac_long rfl (by decide) (by decide) (by decide) (by decide) (Nat.le_of_ble_eq_true rfl) (Nat.le_of_ble_eq_true rfl) ((f3.S (by decide) (by decide)).trans (z1 90 0 (by decide) (by decide))) w_90 ?_
  refine Wa.astore_n (i := 3) (L' := [(3, .ref (hd 90 0)), (2, .ref (hd 40 0)), (1, .ref (hd 8 0)), (0, .ref (hd 6 0))]) d_LA_19 rfl (by decide) rfl ?_
  refine Wa.iconst (v := 0) d_LA_20 rfl ?_
  refine Wa.istore (i := 4) (L' := [(4, .int 0), (3, .ref (hd 90 0)), (2, .ref (hd 40 0)), (1, .ref (hd 8 0)), (0, .ref (hd 6 0))]) d_LA_21 (by decide) rfl ?_
  have f4 : FrS (fun κ _ => κ = 90) M2 (mkA M2 (hd 90 0) (3, 1)) := FrS.rf.mk (by decide) rfl
  have e4 : EqR 40 82 M2 (mkA M2 (hd 90 0) (3, 1)) := EqR.rf.mk (by decide) (by decide) (by decide)
  have b4 : PBF (mkA M2 (hd 90 0) (3, 1)) := (b1.fr f3 (fun κ i a b => by omega)).fr f4 (fun κ i a b => by omega)
  have hI : LI M2 0 := li_Z (b1.fr f3 (fun κ i a b => by omega)) w3 i2 i3
  have F : FrS (fun κ _ => 8 ≤ κ) μ (mkA M2 (hd 90 0) (3, 1)) := ((f1.mono (fun κ i h => by omega)).trans (f3.mono (fun κ i h => by omega))).trans (f4.mono (fun κ i h => by omega))
  have hR' : SCR (mkA M2 (hd 90 0) (3, 1)) Ls xs := ⟨(F.S (by decide) (by decide)).trans hR.1, fun k hk => (F.I (by decide) (by decide)).trans (hR.2 k hk)⟩
  have hI' : LI (mkA M2 (hd 90 0) (3, 1)) 0 := by
    obtain ⟨T, C, Ct, D, t, L, x, c, m, n⟩ := hI
    exact ⟨T, C, Ct, D, t, L, x, c.tr (EqR.rf.mk (by decide) (by decide) (by decide)), m.tr e4, n⟩
  exact Wa.loc [4, 3, 2, 1, 0] rfl (law_loop hD hL hQ 512 0 _ _ _ rfl (Nat.le_of_ble_eq_true rfl) (Nat.le_of_ble_eq_true rfl) s3 hR' hI')
