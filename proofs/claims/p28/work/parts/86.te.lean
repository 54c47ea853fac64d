/-! a list is taught -/
def OwC8 (κ _i : Nat) : Prop := 8 ≤ κ ∧ κ ≤ 38
theorem nI_nm1 {n : Nat} (h : n < 2 ^ 31) : ¬ nI n = -1 := fun e => by
  have h2 := nI_toInt h
  rw [e] at h2
  have h1 : ((-1 : Int32).toInt) = -1 := by decide
  omega
/-- what the list told answers: the code, the position, the orders -/
def TchO (t : Nat → Nat) (L : Nat) (c p : Int32) (r : Option (List Ord3)) : Prop :=
  (∃ p', plF (tK t L) 400 0 = (p', none) ∧ c = 1 ∧ p = nI (tS t L p') ∧ r = none) ∨
  (∃ p' os e, plF (tK t L) 400 0 = (p', some os) ∧ e < nT t L ∧ ern t L e ≠ 0 ∧ (∀ i, i < e → ern t L i = 0) ∧ c = nI (ern t L e) ∧ p = nI (tS t L e) ∧ r = none) ∨
  (∃ p' os, plF (tK t L) 400 0 = (p', some os) ∧ (∀ i, i < nT t L → ern t L i = 0) ∧ (cn (tK t L) 1 (nT t L) ≤ 5 ∧ cn (tK t L) 2 (nT t L) ≤ 6 ∧ cn (tK t L) 3 (nT t L) ≤ 8 ∧ cn (tK t L) 7 (nT t L) ≤ 20) ∧ c = 0 ∧ p = -1 ∧ r = some os)
theorem TchO.uniq {t : Nat → Nat} {L : Nat} {c p c' p' : Int32} {r r' : Option (List Ord3)} (h : TchO t L c p r) (h' : TchO t L c' p' r') : c' = c ∧ p' = p ∧ r' = r := by
  rcases h with ⟨a, e, rfl, rfl, rfl⟩ | ⟨a, os, i, e, hi, h1, h2, rfl, rfl, rfl⟩ | ⟨a, os, e, h1, -, rfl, rfl, rfl⟩ <;> rcases h' with ⟨a', e', rfl, rfl, rfl⟩ | ⟨a', os', i', e', hi', h1', h2', rfl, rfl, rfl⟩ | ⟨a', os', e', h1', -, rfl, rfl, rfl⟩ <;> rw [e] at e' <;> cases e'
  · exact ⟨rfl, rfl, rfl⟩
  · obtain rfl : i' = i := by
      rcases Nat.lt_trichotomy i' i with z | z | z
      · exact absurd (h2 i' z) h1'
      · exact z
      · exact absurd (h2' i z) h1
    exact ⟨rfl, rfl, rfl⟩
  · exact absurd (h1' i hi) h1
  · exact absurd (h1 i' hi') h1'
  · exact ⟨rfl, rfl, rfl⟩
noncomputable def nxT (t : Nat → Nat) (L : Nat) (r : Option (List Ord3)) (T : PT) : PT := r.elim T (fun os => ntT t L os)
noncomputable def nxC (t : Nat → Nat) (L : Nat) (r : Option (List Ord3)) (C : Nat → List Op) : Nat → List Op := r.elim C (fun os => ntC t L os)
noncomputable def nxE (t : Nat → Nat) (L : Nat) (r : Option (List Ord3)) (C : Nat → List Op) : Nat → List Op := r.elim C (fun os => ntE t L os)
noncomputable def nxD (t : Nat → Nat) (L : Nat) (r : Option (List Ord3)) (D : DT) : DT := r.elim D (fun _ => ntD t L)
theorem os_len {K : Nat → Nat} {n : Nat} {os : List Ord3} (h : LnOK K n 0 n os) : cn K 7 n = os.length := by
  rw [cn_7, h.2.2.2.2.2.1]
  have : ordN K 0 = 0 := rfl
  omega
theorem D0_nt {t : Nat → Nat} {L : Nat} : D0 (ntD t L) := ⟨⟨rfl, rfl, rfl, rfl⟩, fun _ _ => rfl, fun _ _ => rfl, fun _ _ => rfl, fun _ => rfl, fun _ => rfl, fun _ _ => rfl⟩
theorem NI.teach {t : Nat → Nat} {L n : Nat} {c p : Int32} {r : Option (List Ord3)} {T : PT} {C Ct : Nat → List Op} {D : DT} (h : TchO t L c p r) (hN : NI T C Ct D n) : NI (nxT t L r T) (nxC t L r C) (nxE t L r Ct) (nxD t L r D) n := by
  rcases h with ⟨a, e, rfl, rfl, rfl⟩ | ⟨a, os, i, e, hi, h1, h2, rfl, rfl, rfl⟩ | ⟨a, os, e, h1, h5, rfl, rfl, rfl⟩
  · exact hN
  · exact hN
  · obtain ⟨-, h46, hLn⟩ := plF_facts e
    have hl := os_len hLn
    have hls : ∀ j, j < nT t L → LSj (tK t L) j := fun j hj => hLn.2.2.2.2.1 j (Nat.zero_le _) hj
    exact ⟨nt_Inv hls h1 ⟨h5.1, h5.2.1, h5.2.2.1⟩ (by omega), nt_OW hLn h1, nt_OB hLn, Nat.zero_le _, hN.2.2.2.2⟩
section TEA
variable {d rc rs : Nat} {Q : Option Value → Mu → Prop} {μ : Mu} {T : PT} {C Ct : Nat → List Op} {D : DT} {t : Nat → Nat} {L q : Nat} {x : Int32} {os : List Ord3}
theorem XC.tr2 {μ' : Mu} {w : Nat} (h : XC μ w T D) (e18 : ∀ k, mI μ' (hd 18 (px μ (hd 29 w) 3)) k = mI μ (hd 18 (px μ (hd 29 w) 3)) k) (e : ∀ κ i k, OwW w κ i → mI μ' (hd κ i) k = mI μ (hd κ i) k) (hr : mR μ' (hd 29 w) 3 = mR μ (hd 29 w) 3) : XC μ' w T D := by
  have hpx : px μ' (hd 29 w) 3 = px μ (hd 29 w) 3 := by unfold px; rw [hr]
  have h60 := h.S60; have h5 := h.P5; have h8 := h.R8
  refine ⟨h.1, h.2.1, h.2.2.1.fr (fun f' i j hr' => ?_), ?_⟩
  · rcases f' with _|_|_|_|_|_|_|_|_|_|_|_|_|f' <;> first | (simp only [rng] at hr'; done) | (simp only [rng] at hr'; exact e _ _ _ (by unfold OwW; omega))
  · rw [hpx, e18, e18, e18, e18]; exact h.2.2.2
/-- what reading may change while the world stands -/
def OwF (q κ i : Nat) : Prop := (κ = 8 ∧ i = 0) ∨ (10 ≤ κ ∧ κ ≤ 17) ∨ (κ = 18 ∧ i = q) ∨ (21 ≤ κ ∧ κ ≤ 24 ∧ i = q) ∨ (κ = 26 ∧ 21 * q ≤ i ∧ i ≤ 21 * q + 20) ∨ ((κ = 27 ∨ κ = 28) ∧ 16 + 8 * q ≤ i ∧ i < 16 + 8 * q + 8)
theorem OwF.ot {κ i : Nat} (h : OwT κ i) : OwF q κ i := by unfold OwT at h; unfold OwF; omega
theorem OwF.ol {κ i : Nat} (h : OwL q κ i) : OwF q κ i := by unfold OwL OwG at h; unfold OwF; omega
theorem OwF.on {κ i : Nat} (h : OwNm q κ i) : OwF q κ i := by unfold OwNm at h; unfold OwF; omega
theorem OwF.oc {κ i : Nat} (h : OwF q κ i) : OwC8 κ i := by unfold OwF at h; unfold OwC8; omega
theorem CI.fail {μ' : Mu} {y : Int32} {t' : Nat → Nat} (h : CI μ T C Ct D t L x) (hq2 : px μ (hd 8 0) 3 < 2) (hq : q ≠ px μ (hd 8 0) 3) (hq1 : q < 2) (f : Fr (OwF q) μ μ') (hr : ∀ k, mR μ' (hd 8 0) k = mR μ (hd 8 0) k) (ht : ∀ k, k < 0 → t' k < 256) (h1 : mI μ' (hd 8 0) 1 = 0) (h2 : mI μ' (hd 8 0) 2 = y) : CI μ' T C Ct D t' 0 y := by
  obtain ⟨g1, ⟨g2, g3, g4⟩, -, -⟩ := h
  have p3 : px μ' (hd 8 0) 3 = px μ (hd 8 0) 3 := by unfold px; rw [hr]
  have p4 : px μ' (hd 8 0) 4 = px μ (hd 8 0) 4 := by unfold px; rw [hr]
  have r29 : mR μ' (hd 29 0) 3 = mR μ (hd 29 0) 3 := f.R (by decide) (by unfold OwF; omega)
  have p29 : px μ' (hd 29 0) 3 = px μ (hd 29 0) 3 := by unfold px; rw [r29]
  generalize px μ (hd 8 0) 3 = q' at *
  have hO := g1.O20
  refine ⟨g1.tr2 (fun k => ?_) (fun κ i k z => f.I (by unfold OwW at z; omega) (by unfold OwW at z; unfold OwF; omega)) r29, ⟨by rw [p3, p4]; exact g2, by rw [p29, p3]; exact g3, ?_⟩, ⟨Nat.zero_le _, ht, h1, fun k hk => absurd hk (Nat.not_lt_zero _)⟩, h2⟩
  · rw [g3]; exact f.I (by decide) (by unfold OwF; omega)
  · rw [p3]
    exact g4.tr hO (f.I (by decide) (by unfold OwF; omega)) (fun k => f.R (by decide) (by unfold OwF; omega)) (fun κ k z => f.I (by omega) (by unfold OwF; omega)) (fun j k hj => ⟨f.I (by decide) (by unfold OwF; omega), f.R (by decide) (by unfold OwF; omega)⟩)
theorem c_Tk_startAt {i : Nat} (hD : 1 ≤ d) (hS : St μ) (h4 : mI μ (hd 10 0) 4 = nI (nT t L + 1)) (h12 : mI μ (hd 12 0) i = nI (tS t L i)) (hi : i ≤ nT t L) (hQ : Q (some (.int (nI (tS t L i)))) μ) : Cal K_Tk_startAt d rc rs [.ref (hd 10 0), .int (nI i)] μ Q := by
  have hn4 := nT_le (t := t) (L := L)
  refine e_Tk_startAt (g_Tk_startAt_0 hD hS ⟨fun h => absurd h (nI_pos (by omega)), fun _ => ?_⟩)
  rw [h4, nI_leI (by omega) (by omega), nI_clamp (by omega), h12]
  exact ⟨fun h => absurd h (by omega), fun _ => ⟨vp_in_nI (by omega) (by decide), hS, hQ⟩⟩
theorem c_PB_beginAnew (hD : 5 ≤ d) (hS : St μ) (hq : px μ (hd 8 0) 4 = q) (hq2 : q < 2) (hq3 : px μ (hd 8 0) 3 = 1 - q) (hn46 : tK t L (nT t L) = 46) (hN : NS μ t L q (nT t L)) (hLn : LnOK (tK t L) (nT t L) 0 (nT t L) os) (hc : GC μ q (some (flatO os))) (hO : ∀ k o, k < 20 → os[k]? = some o → OrdAt μ (tK t L) q os k o)
    (hQ : ∀ μ', Fr OwC8 μ μ' → (∀ k, mI μ' (hd 8 0) k = mI μ (hd 8 0) k) → St μ' → XC μ' 0 (ntT t L os) (ntD t L) → px μ' (hd 8 0) 4 = 1 - px μ' (hd 8 0) 3 → px μ' (hd 29 0) 3 = px μ' (hd 8 0) 3 → XO μ' (px μ' (hd 8 0) 3) (ntT t L os) (ntC t L os) (ntE t L os) → Q none μ') : Cal K_PB_beginAnew d rc rs [.ref (hd 8 0)] μ Q := by
  have hl := os_len hLn
  have hls : ∀ j, j < nT t L → LSj (tK t L) j := fun j hj => hLn.2.2.2.2.1 j (Nat.zero_le _) hj
  obtain ⟨n1, n2, n3, ⟨n4, n4'⟩, n5, n6, n7, n8, n9, n10⟩ := id hN
  have h20 : os.length ≤ 20 := by omega
  have hb : cn (tK t L) 1 (nT t L) ≤ 5 ∧ cn (tK t L) 2 (nT t L) ≤ 6 ∧ cn (tK t L) 3 (nT t L) ≤ 8 := ⟨(n3 1 (by decide) (by decide)).2.2, (n3 2 (by decide) (by decide)).2.2, (n3 3 (by decide) (by decide)).2.2⟩
  have hDB := nt_DB (os := os) hls n9 hb h20
  refine e_PB_beginAnew (g_PB_beginAnew_0 (by omega) hS ?_)
  rw [hq]
  refine c_Pl_settle (by omega) hS hq2 hn46 hN hLn hc h20 hO (fun μ2 f2 r2 s2 xo => ⟨rfl, ?_⟩)
  have e4 : px μ2 (hd 8 0) 4 = q := by unfold px; rw [r2]; exact hq
  have e3 : px μ2 (hd 8 0) 3 = 1 - q := by unfold px; rw [r2]; exact hq3
  rw [e4, e3]
  have s3 : St (setR (setR μ2 (hd 8 0) 3 (hd 18 q)) (hd 8 0) 4 (hd 18 (1 - q))) := sd_8_4 (sd_8_3 s2 (by decide) hq2) (by decide) (by omega)
  have p3 : px (setR (setR μ2 (hd 8 0) 3 (hd 18 q)) (hd 8 0) 4 (hd 18 (1 - q))) (hd 8 0) 3 = q := px_eq (κ := 18) (by decide) (by rw [mR_set, if_neg (fun z => absurd z.2 (by decide)), mR_set, if_pos ⟨rfl, rfl⟩])
  have p4 : px (setR (setR μ2 (hd 8 0) 3 (hd 18 q)) (hd 8 0) 4 (hd 18 (1 - q))) (hd 8 0) 4 = 1 - q := px_eq (κ := 18) (by decide) (by rw [mR_set, if_pos ⟨rfl, rfl⟩])
  have f3 : Fr (fun κ i => κ = 8 ∧ i = 0) μ2 (setR (setR μ2 (hd 8 0) 3 (hd 18 q)) (hd 8 0) 4 (hd 18 (1 - q))) := (Fr.rf.setR (by decide) ⟨rfl, rfl⟩).setR (by decide) ⟨rfl, rfl⟩
  have i3 : ∀ a k, mI (setR (setR μ2 (hd 8 0) 3 (hd 18 q)) (hd 8 0) 4 (hd 18 (1 - q))) a k = mI μ2 a k := fun _ _ => rfl
  rw [p3]
  generalize setR (setR μ2 (hd 8 0) 3 (hd 18 q)) (hd 8 0) 4 (hd 18 (1 - q)) = μ3 at *
  have i18 : ∀ k, mI μ3 (hd 18 q) k = mI μ (hd 18 q) k := fun k => by rw [i3, f2.I (by decide) (by unfold OwPl; omega)]
  have iR : ∀ κ i k, (κ = 27 ∨ κ = 28) → mI μ3 (hd κ i) k = mI μ (hd κ i) k := fun κ i k z => by rw [i3, f2.I (by omega) (by unfold OwPl; omega)]
  refine c_Wd_begin (T := ntT t L os) (D := ntD t L) (by omega) s3 hq2 hDB D0_nt ⟨?_, ?_, ?_, ?_⟩ (fun r hr => ?_) (fun μ4 f4 g4 s4 x4 => ⟨rfl, s4, hQ μ4 ?_ ?_ s4 x4 ?_ ?_ ?_⟩)
  · rw [i18]; exact (n3 1 (by decide) (by decide)).2.1
  · rw [i18]; exact (n3 2 (by decide) (by decide)).2.1
  · rw [i18]; exact (n3 3 (by decide) (by decide)).2.1
  · rw [i18, n10, hl, show min os.length 20 = os.length by omega]; rfl
  · have hr' : r < cn (tK t L) 3 (nT t L) := hr
    obtain ⟨a1, ⟨a2, a3, a4⟩, a5, a6, a7⟩ := rd_facts hls hr'
    obtain ⟨-, b1, b2, b3, b4, b5⟩ := n7 (ndI t L r + 6) a1 a4
    rw [a7, Nat.add_sub_cancel] at b1 b2 b3 b4 b5
    rw [show ndI t L r + 6 - 4 = ndI t L r + 2 by omega] at b1
    rw [show ndI t L r + 6 - 2 = ndI t L r + 4 by omega] at b2
    refine ⟨?_, ?_, ?_, ?_, fun k hk => ?_⟩
    · rw [iR _ _ _ (Or.inl rfl)]; exact b1
    · rw [iR _ _ _ (Or.inl rfl)]; exact b2
    · rw [iR _ _ _ (Or.inl rfl)]; exact b3
    · rw [iR _ _ _ (Or.inl rfl)]; exact b4
    · rw [iR _ _ _ (Or.inr rfl)]; exact b5 k hk
  · exact ((f2.mono (fun κ i z => by unfold OwPl at z; unfold OwC8; omega)).trans (f3.mono (fun κ i z => by unfold OwC8; omega))).trans (f4.mono (fun κ i z => by unfold OwW at z; unfold OwC8; omega))
  · exact fun k => ((f4.I (by decide) (by unfold OwW; omega)).trans (i3 _ _)).trans (f2.I (by decide) (by unfold OwPl; omega))
  · have r4 : ∀ k, mR μ4 (hd 8 0) k = mR μ3 (hd 8 0) k := fun k => f4.R (by decide) (by unfold OwW; omega)
    unfold px at p3 p4 ⊢
    rw [r4, r4, p3, p4]
  · have r4 : ∀ k, mR μ4 (hd 8 0) k = mR μ3 (hd 8 0) k := fun k => f4.R (by decide) (by unfold OwW; omega)
    rw [g4]
    unfold px at p3 ⊢
    rw [r4, p3]
  · have r4 : ∀ k, mR μ4 (hd 8 0) k = mR μ3 (hd 8 0) k := fun k => f4.R (by decide) (by unfold OwW; omega)
    have e : px μ4 (hd 8 0) 3 = q := by unfold px at p3 ⊢; rw [r4, p3]
    rw [e]
    refine xo.tr h20 ?_ (fun k => ?_) (fun κ k z => ?_) (fun j k hj => ⟨?_, ?_⟩)
    · rw [f4.I (by decide) (by unfold OwW; omega), i3]
    · rw [f4.R (by decide) (by unfold OwW; omega), f3.R (by decide) (by omega)]
    · rw [f4.I (by omega) (by unfold OwW; omega), i3]
    · rw [f4.I (by decide) (by unfold OwW; omega), i3]
    · rw [f4.R (by decide) (by unfold OwW; omega), f3.R (by decide) (by omega)]
/-- the component is taught what its tape holds -/
theorem c_PB_teach (hD : 106 ≤ d) (hS : St μ) (hC : CI μ T C Ct D t L x) (hQ : ∀ μ' c p r, TchO t L c p r → Fr OwC8 μ μ' → St μ' → CI μ' (nxT t L r T) (nxC t L r C) (nxE t L r Ct) (nxD t L r D) t 0 p → Q (some (.int c)) μ') : Cal K_PB_teach d rc rs [.ref (hd 8 0)] μ Q := by
  have hn4 := nT_le (t := t) (L := L)
  obtain ⟨c1, ⟨c2, c3, c4⟩, ⟨tL, tb', tn, tt⟩, c6⟩ := id hC
  have h83 := (d_8_3 hS (i := 0) (by decide)).2
  have h84 := (d_8_4 hS (i := 0) (by decide)).2
  generalize hqe : px μ (hd 8 0) 4 = q at c2 h84
  have hq3 : px μ (hd 8 0) 3 = 1 - q := by omega
  have hqn : q ≠ px μ (hd 8 0) 3 := by omega
  refine e_PB_teach (g_PB_teach_0 (by omega) hS ?_)
  rw [tn]
  refine c_Tk_scan (by omega) hS tL tb' tt (fun μ1 f1 s1 t1 => ⟨rfl, ?_⟩)
  have p1 : px μ1 (hd 8 0) 4 = q := by unfold px; rw [f1.R (by decide) (by unfold OwT; omega)]; exact hqe
  rw [p1]
  have s2 : St (setI (setI (setI (setI (setI (setI μ1 (hd 8 0) 1 0) (hd 21 q) 4 0) (hd 18 q) 3 0) (hd 18 q) 4 0) (hd 18 q) 5 0) (hd 18 q) 6 0) := s1
  have f2 : Fr (OwF q) μ1 (setI (setI (setI (setI (setI (setI μ1 (hd 8 0) 1 0) (hd 21 q) 4 0) (hd 18 q) 3 0) (hd 18 q) 4 0) (hd 18 q) 5 0) (hd 18 q) 6 0) := (((((Fr.rf.setI (by decide) (by unfold OwF; omega)).setI (by decide) (by unfold OwF; omega)).setI (by decide) (by unfold OwF; omega)).setI (by decide) (by unfold OwF; omega)).setI (by decide) (by unfold OwF; omega)).setI (by decide) (by unfold OwF; omega)
  refine e_Pl_clear (g_Pl_clear_0 (by omega) h84 s1 ⟨s2, rfl, ?_⟩)
  have z21 : mI (setI (setI (setI (setI (setI (setI μ1 (hd 8 0) 1 0) (hd 21 q) 4 0) (hd 18 q) 3 0) (hd 18 q) 4 0) (hd 18 q) 5 0) (hd 18 q) 6 0) (hd 21 q) 4 = 0 := by
    rw [rd_ne (by decide) (by decide) (by decide), rd_ne (by decide) (by decide) (by decide), rd_ne (by decide) (by decide) (by decide), rd_ne (by decide) (by decide) (by decide), rd_eq]
  have z18 : ∀ j, 3 ≤ j → j ≤ 6 → mI (setI (setI (setI (setI (setI (setI μ1 (hd 8 0) 1 0) (hd 21 q) 4 0) (hd 18 q) 3 0) (hd 18 q) 4 0) (hd 18 q) 5 0) (hd 18 q) 6 0) (hd 18 q) j = 0 := fun j a b => by
    rcases (by omega : j = 3 ∨ j = 4 ∨ j = 5 ∨ j = 6) with rfl | rfl | rfl | rfl
    · rw [rd_k (by decide), rd_k (by decide), rd_k (by decide), rd_eq]
    · rw [rd_k (by decide), rd_k (by decide), rd_eq]
    · rw [rd_k (by decide), rd_eq]
    · rw [rd_eq]
  have z8 : mI (setI (setI (setI (setI (setI (setI μ1 (hd 8 0) 1 0) (hd 21 q) 4 0) (hd 18 q) 3 0) (hd 18 q) 4 0) (hd 18 q) 5 0) (hd 18 q) 6 0) (hd 8 0) 1 = 0 := by
    rw [rd_ne (by decide) (by decide) (by decide), rd_ne (by decide) (by decide) (by decide), rd_ne (by decide) (by decide) (by decide), rd_ne (by decide) (by decide) (by decide), rd_ne (by decide) (by decide) (by decide), rd_eq]
  have t2 : TKP (setI (setI (setI (setI (setI (setI μ1 (hd 8 0) 1 0) (hd 21 q) 4 0) (hd 18 q) 3 0) (hd 18 q) 4 0) (hd 18 q) 5 0) (hd 18 q) 6 0) t L (nT t L + 1) := by
    have f2' : Fr (fun κ _ => κ = 8 ∨ κ = 18 ∨ κ = 21) μ1 (setI (setI (setI (setI (setI (setI μ1 (hd 8 0) 1 0) (hd 21 q) 4 0) (hd 18 q) 3 0) (hd 18 q) 4 0) (hd 18 q) 5 0) (hd 18 q) 6 0) := (((((Fr.rf.setI (by decide) (Or.inl rfl)).setI (by decide) (Or.inr (Or.inr rfl))).setI (by decide) (Or.inr (Or.inl rfl))).setI (by decide) (Or.inr (Or.inl rfl))).setI (by decide) (Or.inr (Or.inl rfl))).setI (by decide) (Or.inr (Or.inl rfl))
    exact t1.fr f2' (fun κ i a b => by omega)
  have r2 : mR (setI (setI (setI (setI (setI (setI μ1 (hd 8 0) 1 0) (hd 21 q) 4 0) (hd 18 q) 3 0) (hd 18 q) 4 0) (hd 18 q) 5 0) (hd 18 q) 6 0) = mR μ1 := rfl
  generalize setI (setI (setI (setI (setI (setI μ1 (hd 8 0) 1 0) (hd 21 q) 4 0) (hd 18 q) 3 0) (hd 18 q) 4 0) (hd 18 q) 5 0) (hd 18 q) 6 0 = μ2 at *
  have p2 : px μ2 (hd 8 0) 4 = q := by unfold px; rw [r2]; exact p1
  have f12 : Fr (OwF q) μ μ2 := (f1.mono (fun κ i z => OwF.ot z)).trans f2
  have r12 : ∀ k, mR μ2 (hd 8 0) k = mR μ (hd 8 0) k := fun k => by rw [r2, f1.R (by decide) (by unfold OwT; omega)]
  rw [p2]
  refine c_Gr_firstMisfit (by omega) s2 h84 t2 z21 ⟨z18 6 (by decide) (by decide), fun j a b => z18 j a (by omega)⟩ (fun μ3 f3 s3 e3 => ⟨_, rfl, ?_⟩)
  have f13 : Fr (OwF q) μ μ3 := f12.trans (f3.mono (fun κ i z => OwF.ol z))
  have r13 : ∀ k, mR μ3 (hd 8 0) k = mR μ (hd 8 0) k := fun k => (f3.R (by decide) (by unfold OwL OwG; omega)).trans (r12 k)
  have i3 : mI μ3 (hd 8 0) 1 = 0 := (f3.I (by decide) (by unfold OwL OwG; omega)).trans z8
  have hpl := pl_ok (K := tK t L) (n := nT t L) nT_end 400 0 (Nat.zero_le _)
  rcases he : plF (tK t L) 400 0 with ⟨p', _ | os⟩
  · rw [he] at hpl
    have hp : p' ≤ nT t L := hpl.2.1
    show ((nI p' = -1 → _) ∧ (¬ nI p' = -1 → _))
    refine ⟨fun h => absurd h (nI_nm1 (by omega)), fun _ => ?_⟩
    have t3 := t2.fr f3 (fun κ i a b => by unfold OwL OwG; omega)
    refine c_Tk_startAt (by omega) s3 t3.2.1 (t3.2.2 p' (by omega)).2.1 hp ⟨_, rfl, ?_⟩
    have s4 : St (setI μ3 (hd 8 0) 2 (nI (tS t L p'))) := s3
    refine ⟨s4, hQ _ 1 (nI (tS t L p')) none (Or.inl ⟨p', he, rfl, rfl, rfl⟩) ((f13.mono (fun κ i z => OwF.oc z)).setI (by decide) (by unfold OwC8; decide)) s4 ?_⟩
    exact hC.fail h83 hqn h84 (f13.setI (by decide) (Or.inl ⟨rfl, rfl⟩)) (fun k => r13 k) (fun k hk => absurd hk (Nat.not_lt_zero _)) ((rd_k (by decide)).trans i3) rd_eq
  · obtain ⟨hp, h46, hLn⟩ := plF_facts he
    subst hp
    rw [he] at e3
    have hP : PS μ3 t L q (nT t L) os := e3 os rfl
    have p3 : px μ3 (hd 8 0) 4 = q := by unfold px; rw [r13]; exact hqe
    refine ⟨fun _ => ?_, fun h => absurd rfl h⟩
    rw [p3]
    have hls : ∀ j, j < nT t L → LSj (tK t L) j := fun j hj => hLn.2.2.2.2.1 j (Nat.zero_le _) hj
    have hl := os_len hLn
    obtain ⟨y1, y2, ⟨y3, y3'⟩, y4⟩ := hP
    refine c_Nm_firstError (by omega) s3 h84 hls h46 y1.1 ⟨y3' 3 (by decide) (by decide), y3' 4 (by decide) (by decide), y3' 5 (by decide) (by decide)⟩ (by rw [y3, hl]) (fun μ4 f4 s4 n4 => ⟨_, rfl, fun _ => ?_, fun h => absurd rfl h⟩) (fun μ4 e f4 s4 k4 x4 => ⟨_, rfl, fun h => ?_, fun _ => ?_⟩)
    · have s5 : St (setI μ4 (hd 8 0) 2 (-1)) := s4
      have f5 : Fr (fun κ i => κ = 8 ∧ i = 0) μ4 (setI μ4 (hd 8 0) 2 (-1)) := Fr.rf.setI (by decide) ⟨rfl, rfl⟩
      have r5 : ∀ k, mR (setI μ4 (hd 8 0) 2 (-1)) (hd 8 0) k = mR μ (hd 8 0) k := fun k => (f4.R (by decide) (by unfold OwNm; omega)).trans (r13 k)
      have n5 : NS (setI μ4 (hd 8 0) 2 (-1)) t L q (nT t L) := by
        obtain ⟨a1, a2, a3, a4, a5, a6, a7, a8⟩ := n4
        have e : ∀ κ i k, κ < 256 → κ ≠ 8 → mI (setI μ4 (hd 8 0) 2 (-1)) (hd κ i) k = mI μ4 (hd κ i) k := fun κ i k a b => rd_ne (by decide) a b
        refine ⟨a1.fr f5 (fun κ i a b => by omega), a2, fun r g1 g2 => ?_, ?_, ?_, fun i hi => ?_, fun i hi hr => ?_, a8.1, a8.2.1, ?_⟩
        · rw [e _ _ _ (by decide) (by decide)]; exact a3 r g1 g2
        · rw [e _ _ _ (by decide) (by decide)]; exact a4
        · rw [e _ _ _ (by decide) (by decide)]; exact a5
        · rw [e _ _ _ (by decide) (by decide)]; exact a6 i hi
        · obtain ⟨b0, b1, b2, b3, b4, b5⟩ := a7 i hi hr
          refine ⟨b0, ?_, ?_, ?_, ?_, fun k hk => ?_⟩
          · rw [e _ _ _ (by decide) (by decide)]; exact b1
          · rw [e _ _ _ (by decide) (by decide)]; exact b2
          · rw [e _ _ _ (by decide) (by decide)]; exact b3
          · rw [e _ _ _ (by decide) (by decide)]; exact b4
          · rw [e _ _ _ (by decide) (by decide)]; exact b5 k hk
        · rw [e _ _ _ (by decide) (by decide)]; exact a8.2.2
      have f35 : Fr (fun κ i => (κ = 8 ∧ i = 0) ∨ OwNm q κ i) μ3 (setI μ4 (hd 8 0) 2 (-1)) := (f4.mono (fun κ i z => Or.inr z)).setI (by decide) (Or.inl ⟨rfl, rfl⟩)
      refine c_PB_beginAnew (by omega) s5 (by unfold px; rw [r5]; exact hqe) h84 (by unfold px; rw [r5]; exact hq3) h46 n5 hLn (y1.2.2.2.2.2.fr (f35.I (by decide) (by unfold OwNm; omega)) (fun k => f35.R (by decide) (by unfold OwNm; omega)) (fun k => f35.I (by decide) (by unfold OwNm; omega))) (fun k o hk ek => (y4 k o hk ek).eq (fun j => f35.I (by decide) (by unfold OwNm; omega)) (f35.R (by decide) (by unfold OwNm; omega))) (fun μ6 f6 i6 s6 x6 g6 h6 o6 => ⟨rfl, s6, ?_⟩)
      refine hQ μ6 0 (-1) (some os) (Or.inr (Or.inr ⟨_, os, he, n4.2.2.2.2.2.2.2.2.1, ⟨(n4.2.2.1 1 (by decide) (by decide)).2.2, (n4.2.2.1 2 (by decide) (by decide)).2.2, (n4.2.2.1 3 (by decide) (by decide)).2.2, n4.2.2.2.1.2⟩, rfl, rfl, rfl⟩)) (((f13.mono (fun κ i z => OwF.oc z)).trans (f35.mono (fun κ i z => by unfold OwNm at z; unfold OwC8; omega))).trans f6) s6 ?_
      refine ⟨x6, ⟨g6, h6, o6⟩, ⟨Nat.zero_le _, fun k hk => absurd hk (Nat.not_lt_zero _), ?_, fun k hk => absurd hk (Nat.not_lt_zero _)⟩, ?_⟩
      · rw [i6, rd_k (by decide), f4.I (by decide) (by unfold OwNm; omega)]; exact i3
      · rw [i6, rd_eq]
    · obtain ⟨-, -, q1, q2, -⟩ := x4
      have he9 : ern t L e < 2 ^ 31 := Nat.lt_of_lt_of_le ern_lt (by decide)
      exact absurd ((nI_eq he9 (by decide)).mp h) q2
    · obtain ⟨q0, q7, q1, q2, q3⟩ := x4
      rw [q7]
      refine c_Tk_startAt (by omega) s4 k4.2.1 (k4.2.2 e (by omega)).2.1 (by omega) ⟨_, rfl, ?_⟩
      have s5 : St (setI μ4 (hd 8 0) 2 (nI (tS t L e))) := s4
      have f14 := f13.trans (f4.mono (fun κ i z => OwF.on z))
      refine ⟨s5, hQ _ (nI (ern t L e)) (nI (tS t L e)) none (Or.inr (Or.inl ⟨_, os, e, he, q1, q2, q3, rfl, rfl, rfl⟩)) ((f14.mono (fun κ i z => OwF.oc z)).setI (by decide) (by unfold OwC8; decide)) s5 ?_⟩
      exact hC.fail h83 hqn h84 (f14.setI (by decide) (Or.inl ⟨rfl, rfl⟩)) (fun k => (f4.R (by decide) (by unfold OwNm; omega)).trans (r13 k)) (fun k hk => absurd hk (Nat.not_lt_zero _)) ((rd_k (by decide)).trans ((f4.I (by decide) (by unfold OwNm; omega)).trans i3)) rd_eq
end TEA
