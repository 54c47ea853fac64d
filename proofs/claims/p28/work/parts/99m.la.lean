/-! the law, from its first memory on -/
def tZ : PT := fun _ _ => 0
def dZ : DT := fun _ _ _ => 0
theorem db_Z : DB tZ dZ := ⟨⟨by decide, by decide, by decide, by decide, by decide, by decide⟩, fun s h => absurd h (Nat.not_lt_zero _), fun s h => absurd h (Nat.not_lt_zero _), fun s h => absurd h (Nat.not_lt_zero _)⟩
theorem xc_Z {μ : Mu} (h : WdF 0 0 μ) (p : PlF 0 μ) : XC μ 0 tZ dZ := by
  obtain ⟨-, ⟨-, -, -, r3⟩, ⟨i4, i5, i6, i7⟩, -⟩ := h
  have hpx : px μ (hd 29 0) 3 = 0 := px_eq (by decide) r3
  refine ⟨by decide, db_Z, fun f i j hr => ?_, ?_⟩
  · rcases f with _|_|_|_|_|_|_|_|_|_|_|_|_|f <;> simp only [rng] at hr
    · obtain ⟨rfl, rfl⟩ := hr; exact i4
    · obtain ⟨rfl, rfl⟩ := hr; exact i5
    · obtain ⟨rfl, rfl⟩ := hr; exact i6
    · obtain ⟨rfl, rfl⟩ := hr; exact i7
    all_goals exact absurd hr.1 (Nat.not_lt_zero _)
  · rw [hpx]
    exact p.2.2.1
theorem ni_Z : NI tZ (fun _ => []) (fun _ => []) dZ 0 :=
  ⟨⟨db_Z, fun b h => absurd h (Nat.not_lt_zero _), ⟨fun s p h => absurd h (Nat.not_lt_zero _), fun s h => absurd h (Nat.not_lt_zero _), fun b p h => absurd h (Nat.not_lt_zero _), fun b h => absurd h (Nat.not_lt_zero _)⟩, fun r s h => absurd h (Nat.not_lt_zero _)⟩, fun k h => absurd h (Nat.not_lt_zero _), fun k h => absurd h (Nat.not_lt_zero _), Nat.le_refl _, by decide⟩
theorem ci_Z {μ : Mu} (h : PBF μ) : CI μ tZ (fun _ => []) (fun _ => []) dZ (fun _ => 0) 0 (-1) := by
  have x3 : px μ (hd 8 0) 3 = 0 := px_eq (κ := 18) (by decide) (h.b8 (k := 3) (by decide) (by decide) (by decide))
  have x4 : px μ (hd 8 0) 4 = 1 := px_eq (κ := 18) (by decide) (h.b8 (k := 4) (by decide) (by decide) (by decide))
  have y3 : px μ (hd 29 0) 3 = 0 := px_eq (κ := 18) (by decide) (h.2.2.2.2.2.2.1).2.1.2.2.2
  refine ⟨xc_Z h.2.2.2.2.2.2.1 h.2.1, ⟨?_, ?_, ?_⟩, ⟨Nat.zero_le _, fun k hk => absurd hk (Nat.not_lt_zero _), h.1.2.1.1, fun k hk => absurd hk (Nat.not_lt_zero _)⟩, h.1.2.1.2⟩
  · rw [x3, x4]
  · rw [x3, y3]
  · rw [x3]
    exact ⟨0, Nat.zero_le _, h.2.1.2.2.2.1.2.2.2.1, fun k hk => absurd hk (Nat.not_lt_zero _)⟩
section LFI
variable {d rc rs : Nat} {Q : Option Value → Mu → Prop} {μ μ' : Mu} {P N R O cv c Ls : Nat} {F G H : Nat → Nat} {W : Nat → Nat → Nat} {T : PT} {D : DT}
theorem BxR.no {f o κ n m : Nat} {A : Nat → Nat → Prop} (h : BxR μ f o κ n m noP) (hA : ∀ p k, ¬ A p k) : BxR μ f o κ n m A :=
  ⟨h.1, h.2.1, fun p hp => ⟨(h.2.2 p hp).1, (h.2.2 p hp).2.1, fun k hk => by rw [(h.2.2 p hp).2.2 k hk, bI_f (fun z => z), bI_f (hA p k)]⟩⟩
/-- the boards, as the text has them -/
theorem sr_first (hE : LEnd μ P N R O F G H W cv c Ls) (t0 : T 0 0 = P) (t1 : T 1 0 = N) (t2 : T 2 0 = R) (t6 : T 6 0 = O) (hz : D0 D) (hd : ∀ r, r < R → D 12 r 0 = F r ∧ D 12 r 1 = G r ∧ D 9 r 0 = H r ∧ D 9 r 1 = 0) : SR μ T D W c ∧ LR μ [] c := by
  obtain ⟨-, ⟨hL, -, -⟩, hw⟩ := hE
  obtain ⟨⟨o1, o2, o3, o4⟩, h6, h7, h8, h9, h10, h11, h14, l, ⟨g0, g1, g2, -⟩⟩ := hL
  obtain ⟨⟨z0, z1, z2, z3⟩, z6, z7, z8, z11, z9, z10⟩ := hz
  have hm : mergedN D = 0 := by unfold mergedN; rw [z1]; rfl
  refine ⟨⟨⟨o1, ?_, ?_, ?_, ?_, ?_, ?_⟩, ?_, ?_, ?_, ?_, ?_, ?_, ?_, ?_, ?_⟩, l⟩
  · rw [o2 0 (by decide), z0]; rfl
  · rw [o2 1 (by decide), z2]; rfl
  · rw [o2 2 (by decide), hm]; rfl
  · rw [o2 3 (by decide), z3]; rfl
  · rw [o3, t0]
  · rw [o4, t1]
  · rw [z1]; exact ⟨h6.1, h6.2.1, fun k hk => absurd hk (Nat.not_lt_zero _)⟩
  · rw [z1]; exact ⟨h7.1, h7.2.1, fun k hk => absurd hk (Nat.not_lt_zero _)⟩
  · rw [t0]; exact h8.no (fun p k z => by have := z.1; omega)
  · rw [t0]; exact h9.no (fun p k z => by have := z.1; omega)
  · rw [t0]; exact h10.no (fun p k z => z (z8 p k))
  · rw [t2]
    refine ⟨h11.1, h11.2.1, fun k hk => ⟨(h11.2.2 k hk).1, (h11.2.2 k hk).2.1, fun i hi => ?_⟩⟩
    rw [(h11.2.2 k hk).2.2 i hi]
    obtain ⟨d1, d2, d3, d4⟩ := hd k hk
    unfold rX rdX
    rcases (by omega : i = 0 ∨ i = 1 ∨ i = 2 ∨ i = 3) with rfl | rfl | rfl | rfl
    · rw [if_pos rfl, if_pos (by decide), d1]
    · rw [if_neg (by decide), if_pos rfl, if_pos (by decide), d2]
    · rw [if_neg (by decide), if_neg (by decide), if_pos rfl, if_neg (by decide), d3]
    · rw [if_neg (by decide), if_neg (by decide), if_neg (by decide), if_neg (by decide), d4]
  · rw [t2]; exact BxR.no hw (fun p k z => z (z10 p k))
  · rw [t6]; exact h14
  · exact ⟨g0, fun k _ => g1 k, fun n hn => g2 n (by omega)⟩
theorem lp_first (hz : D0 D) : LPd T D [] := by
  obtain ⟨⟨z0, z1, z2, z3⟩, z6, z7, z8, z11, z9, z10⟩ := hz
  refine ⟨fun e he => absurd he List.not_mem_nil, fun r k _ _ h => ?_, fun r v _ _ => ?_, fun r _ => ?_⟩
  · rw [z10] at h; omega
  · rw [z1]; rfl
  · show 0 = uwN D r
    unfold uwN
    rw [z1]; rfl
theorem iv_first (hz : D0 D) : Iv T D := by
  obtain ⟨⟨z0, z1, z2, z3⟩, z6, z7, z8, z11, z9, z10⟩ := hz
  exact ⟨fun b s _ _ h => absurd (z8 b s) h, fun b s _ h => by have := h.1; omega, fun b s t _ h => by have := h.1; omega, fun b s _ h => by omega, fun b s p _ h => by omega, fun s t p h => by omega, fun s h => by omega⟩
theorem cb_first (hz : D0 D) : CBd D := by
  obtain ⟨⟨z0, z1, z2, z3⟩, -⟩ := hz
  exact ⟨by omega, by omega⟩
theorem pot_first {a b : Nat} (hz : D0 D) (h2 : T 2 0 ≤ 8) : pot a b T D ≤ 480 * a := by
  obtain ⟨-, z6, z7, z8, z11, z9, z10⟩ := hz
  have h1 : ∀ r n, sumN (fun k => potF a b (D 0 0 0) (D 10 r k)) n = n * a := fun r n => by
    induction n with
    | zero => rw [Nat.zero_mul]; rfl
    | succ n ih =>
      show sumN _ n + potF a b (D 0 0 0) (D 10 r n) = _
      rw [ih, z10]
      show n * a + a = _
      rw [Nat.succ_mul]
  have h3 : ∀ n, sumN (fun r => sumN (fun k => potF a b (D 0 0 0) (D 10 r k)) 60) n = n * (60 * a) := fun n => by
    induction n with
    | zero => rw [Nat.zero_mul]; rfl
    | succ n ih =>
      show sumN _ n + sumN (fun k => potF a b (D 0 0 0) (D 10 n k)) 60 = _
      rw [ih, h1]
      exact (Nat.succ_mul n (60 * a)).symm
  unfold pot
  rw [h3, show 480 * a = 8 * (60 * a) by rw [← Nat.mul_assoc]]
  exact Nat.mul_le_mul h2 (Nat.le_refl _)
set_option maxRecDepth 100000 in
set_option maxHeartbeats 1000000 in
/-- from where the component is, to the end -/
theorem law_22 (hD : 115 ≤ d) (hQ : ∀ μ', St μ' → Q (some (.int 1)) μ') (hE : LEnd μ P N R O F G H W cv c Ls) (hLs : Ls ≤ 260) (f : FrS (fun κ _ => 8 ≤ κ ∧ κ ≤ 38) μ μ') (S : St μ') (hB : PBF μ') (b1 : 77080 ≤ rc) (b2 : 4729920 ≤ rs) : Wx K_LW_law d rc rs Q 22 [(0, .ref (hd 6 0)), (1, .ref (hd 105 0)), (2, .ref (hd 100 0)), (3, .ref (hd 8 0))] [] μ' := by
  have hE' := hE
  obtain ⟨hPB, ⟨hL, ⟨m1, m2, m3, v, n, m4, m5⟩, hs⟩, hw⟩ := hE'
  have fc : FC μ' c := m1.nx (Nat.le_refl _) f (fun κ i z a => by omega)
  have V : SbV μ' 105 0 v n (flT (plT P N R O F G H W)) := m5.fr f (by decide) (by omega) (by omega)
  have hlen := pl_bytes hPB
  refine r_LW_law_22 (by omega) ⟨2, 20004, ⟨by omega, by omega⟩, V.1, Cal.ofS S (c9_str (c := c) V ⟨by decide, by decide, by decide, by decide⟩ fc (by omega) (by omega) (S8.of S) (by omega) (Nat.le_refl _) (by have := V.2.2.2.2.2.2.1; omega) (fun μ4 f4 S4 y4 => ⟨f4.lo (fun κ i z => z.lo), _, rfl, ?_⟩))⟩
  have St4 := f4.st (fun κ i z => z.lo) S
  have fc4 : FC μ4 (c + 1) := fc.nx (Nat.le_succ _) f4 (fun κ i z _ => z.2.2)
  refine ⟨1, 5, ⟨by omega, by omega⟩, c_LW_taught (c := c + 1) ((ci_Z hB).dy f4) (Nat.zero_le _) y4 (by omega) ⟨by decide, by decide, by decide⟩ ⟨by decide, by decide, by decide⟩ fc4 St4 (by omega) (Nat.le_refl _) (Nat.le_refl _) (fun μ5 cd p r t hT ht f5 S5 C5 => ⟨_, rfl, ?_⟩)⟩
  have hX := pl_TXS hPB rfl ht
  obtain ⟨e1, e2, e3⟩ := pl_Tch hX hPB hT
  subst e1
  subst e2
  subst e3
  refine ⟨fun _ => ?_, fun z => absurd rfl z⟩
  obtain ⟨q0, q1, q2⟩ := pl_T hX hPB (oS P N R O W)
  have q6 : ntT t (flT (plT P N R O F G H W)).length (oS P N R O W) 6 0 = O := oj_len O
  have hz : D0 (ntD t (flT (plT P N R O F G H W)).length) := D0_nt
  obtain ⟨R1, L1⟩ := sr_first (T := ntT t (flT (plT P N R O F G H W)).length (oS P N R O W)) (D := ntD t (flT (plT P N R O F G H W)).length) hE q0 q1 q2 q6 hz (fun r hr => pl_D hX hPB hr)
  have g5 : FrS (fun κ i => (8 ≤ κ ∧ κ ≤ 38) ∨ Dy c (c + 2) κ i) μ μ5 := (f.mono (fun κ i z => Or.inl z)).trans ((f4.mono (fun κ i z => Or.inr (by unfold Dy at *; omega))).trans (f5.mono (fun κ i z => by unfold OwQ OwC8 Dy at z; unfold Dy; omega)))
  have R5 := R1.fr2 g5 (by omega) (fun κ i z => z.elim (fun y => Or.inl (by omega)) Or.inr)
  have L5 := L1.fr2 g5 (by omega) (fun κ i z => z.elim (fun y => Or.inl (by omega)) Or.inr)
  have hN : NI (ntT t (flT (plT P N R O F G H W)).length (oS P N R O W)) _ _ (ntD t (flT (plT P N R O F G H W)).length) 0 := NI.teach hT ni_Z
  have p1 := pot_first (T := ntT t (flT (plT P N R O F G H W)).length (oS P N R O W)) (a := 11) (b := 1) hz (by rw [q2]; exact hPB.2.2.1.2)
  have p2 := pot_first (T := ntT t (flT (plT P N R O F G H W)).length (oS P N R O W)) (a := 4880) (b := 481) hz (by rw [q2]; exact hPB.2.2.1.2)
  have hs5 : mS μ5 (hd 6 0) = (2, Ls) := (g5.S (by decide) (by unfold Dy; omega)).trans hs.1
  exact law_was (T := ntT t (flT (plT P N R O F G H W)).length (oS P N R O W)) (D := ntD t (flT (plT P N R O F G H W)).length) (by rw [q0]; exact hPB.1.1) (by rw [q1]; exact hPB.2.1.1) (by rw [q2]; exact hPB.2.2.1.1) (by rw [q6]; exact hPB.2.2.2.1) (pl_OAll hX hPB) (by omega) hQ S5 C5 R5 L5 (lp_first hz) hN (iv_first hz) (cb_first hz) hs5 hLs (by decide) (by omega) (by omega)
set_option maxRecDepth 100000 in
set_option maxHeartbeats 1000000 in
/-- the law, from its first memory -/
theorem law_main (hD : 120 ≤ d) (hLs : Ls ≤ 260) (hQ : ∀ μ', St μ' → Q (some (.int 1)) μ') (hC : CnF μ) (hs : mS μ (hd 6 0) = (2, Ls)) (hz : ∀ κ i, 8 ≤ κ → κ < 256 → mS μ (hd κ i) = (0, 0)) (b1 : 78400 ≤ rc) (b2 : 6191960 ≤ rs) : Wx K_LW_law d rc rs Q 0 [(0, .ref (hd 6 0))] [] μ := by
  have fc : FC μ 0 := fun κ i a b _ => hz κ i (by omega) b
  have b5 : hiN (hd 105 0) := hi_hd (by decide) (by decide)
  have f0 : FrS (fun κ i => κ = 105 ∧ i = 0) μ (mkA μ (hd 105 0) (1, 12)) := FrS.rf.mk (by decide) ⟨rfl, rfl⟩
  have hC1 := List.mem_of_getElem? (l := sTab) (i := 1) rfl
  have S0 : S8 μ := ⟨fun i hi => hC _ (List.mem_of_getElem? (i := 1) rfl) (by decide) i hi, fun i hi => hC _ (List.mem_of_getElem? (i := 13) rfl) (by decide) i hi, fun i hi => hC _ (List.mem_of_getElem? (i := 16) rfl) (by decide) i hi⟩
  have S1 := f0.s8 (fun κ i z => by omega) S0
  have sc0 : SCl μ Ls := ⟨hs, hC, fun κ i a b => hz κ i a (by omega)⟩
  have a1 : mS (mkA μ (hd 105 0) (1, 12)) (hd 105 0) = (1, 12) := by rw [mS_mk, if_pos rfl]
  have a3 : gI (mkA μ (hd 105 0) (1, 12)) (hd 105 0) 3 = 0 := by rw [gI_hi b5, mI_mk, if_pos rfl]
  refine y_LW_law_0 (by omega) ⟨⟨by omega, by omega⟩, hd 105 0, ⟨hz 105 0 (by decide) (by decide), b5⟩, 1, 16, ⟨by omega, by omega⟩, c_SB_init (c := 0) ⟨by decide, by decide, by decide⟩ a1 a3 ⟨(f0.S (by decide) (by omega)).trans (hz 132 0 (by decide) (by decide)), hi_hd (by decide) (by decide)⟩ S1 (by omega) (Nat.le_refl _) (Nat.le_refl _) (fun μ1 f1 S1' V1 => ⟨rfl, 800, 1450000, ⟨by omega, by omega⟩, ?_⟩)⟩
  have F1 : FrS (fun κ i => (κ = 105 ∧ i = 0) ∨ (130 ≤ κ ∧ i < 1)) μ μ1 := (f0.mono (fun κ i z => Or.inl z)).trans (f1.mono (fun κ i z => by unfold OwV Dy at z; omega))
  have M1 : Mb μ1 1 1 [] := ⟨fc.nx (Nat.zero_le _) F1 (fun κ i z a => by omega), S1', Nat.le_refl _, 0, 16, by decide, V1⟩
  refine c_LW_list M1 (sc_fr sc0 F1 (fun κ i z => by omega)) hLs (fun κ i a b e => (F1.S (by omega) (by omega)).trans (hz κ i (by omega) (by omega))) (by omega) (Nat.le_refl _) (Nat.le_refl _) (fun μ2 c cv P N R O F G H W hE hP2 => ⟨_, rfl, ?_⟩)
  have sc2 := hE.2.1.2.2
  have f2 : FrS (fun κ i => κ = 8 ∧ i = 0) μ2 (mkA μ2 (hd 8 0) (1, 0)) := FrS.rf.mk (by decide) ⟨rfl, rfl⟩
  have a8 : mS (mkA μ2 (hd 8 0) (1, 0)) (hd 8 0) = (1, 0) := by rw [mS_mk, if_pos rfl]
  refine Wa.new (q := E_PB) (hd 8 0) 0 d_LW_law_14 rfl ok_PB (by decide +kernel) cl_LW_10 (by omega) (by show E_PB.2.2.1 ≤ _; exact Nat.le_trans (Nat.le_of_ble_eq_true rfl : E_PB.2.2.1 ≤ 20) (by omega)) (sc2.2.2 8 0 (by decide) (by decide)) w_8 ?_
  refine Wa.dup d_LW_law_17 rfl ?_
  refine Wa.callI (K' := K_PB_init) (n := 0) (As := []) (b := hd 8 0) (st := [.ref (hd 8 0)]) (d - 1) 422 11976 d_LW_law_18 mok_PB_init rfl il_LW_202 rfl rfl (Nat.le_of_ble_eq_true rfl) (by omega) (by omega) (by have : E_PB.2.2.1 ≤ 20 := Nat.le_of_ble_eq_true rfl; omega) (c_PB_init (Q := fun r μ' => r = none ∧ FrS (fun κ _ => 8 ≤ κ ∧ κ ≤ 38) (mkA μ2 (hd 8 0) (1, 0)) μ' ∧ PBF μ') (by omega) a8 (fun κ i a b => (f2.S (by omega) (by omega)).trans (sc2.2.2 κ i (by omega) b)) (fun μ' a b => ⟨rfl, a, b⟩)) (fun r M1 hq => ?_)
  obtain ⟨rfl, f3, b3⟩ := hq
  have F3 : FrS (fun κ _ => 8 ≤ κ ∧ κ ≤ 38) μ2 M1 := (f2.mono (fun κ i z => by omega)).trans f3
  have C3 : CnF M1 := fun e he a i hi => (F3.S (by omega) (by omega)).trans (sc2.2.1 e he a i hi)
  refine Wa.astore_n (i := 3) (L' := [(3, .ref (hd 8 0)), (0, .ref (hd 6 0)), (1, .ref (hd 105 0)), (2, .ref (hd 100 0))]) d_LW_law_21 rfl (by decide) rfl ?_
  have e20 : E_PB.2.2.1 ≤ 20 := Nat.le_of_ble_eq_true rfl
  refine Wa.loc [1, 2, 3, 0] rfl ?_
  exact law_22 (d := d) (rc := rc - 1 - 1 - 800 - 1 - 422) (rs := rs - 4 - 16 - 1450000 - E_PB.2.2.1 - 11976) (by omega) hQ hE hLs F3 (St.made C3 b3) b3 (by omega) (by omega)
end LFI
