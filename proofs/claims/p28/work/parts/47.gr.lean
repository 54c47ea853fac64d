/-! the component's reading of the language -/
def nx (K : Nat → Nat) (r : Rs) : Nat := match r.2 with | some _ => K r.1 | none => 47
def GC (μ : Mu) (q : Nat) (o : Option RO) : Prop := match o with
  | none => ∃ z, z ≤ 400 ∧ mI μ (hd 21 q) 4 = nI z
  | some l => mI μ (hd 21 q) 4 = nI (min l.length 400) ∧ ∀ i, i < min l.length 400 → mR μ (hd 22 q) i = some (hd 0 (l.getD i (0, 0)).1) ∧ mI μ (hd 23 q) i = oI (l.getD i (0, 0)).2
/-- the reading stands behind r -/
def GS (μ : Mu) (t : Nat → Nat) (L q : Nat) (r : Rs) : Prop := TKP μ t L (nT t L + 1) ∧ px μ (hd 15 0) 1 = q ∧ r.1 ≤ nT t L ∧ mI μ (hd 15 0) 2 = nI r.1 ∧ mR μ (hd 15 0) 3 = some (hd 0 (nx (tK t L) r)) ∧ GC μ q r.2
def OwG (q κ i : Nat) : Prop := κ = 15 ∨ (21 ≤ κ ∧ κ ≤ 24 ∧ i = q)
theorem TKP.fr {μ μ' : Mu} {t : Nat → Nat} {L k : Nat} {own : Nat → Nat → Prop} (h : TKP μ t L k) (f : Fr own μ μ') (ho : ∀ κ i, 9 ≤ κ → κ ≤ 14 → ¬ own κ i) : TKP μ' t L k := by
  obtain ⟨⟨a1, a2, a3, a4, a5⟩, h2, h3⟩ := h
  refine ⟨⟨a1, a2, ?_, ?_, fun j hj => ?_⟩, ?_, fun i hi => ?_⟩
  · rw [f.I (by decide) (ho _ _ (by decide) (by decide))]; exact a3
  · unfold px at a4 ⊢; rw [f.R (by decide) (ho _ _ (by decide) (by decide))]; exact a4
  · rw [f.I (by decide) (ho _ _ (by decide) (by decide))]; exact a5 j hj
  · rw [f.I (by decide) (ho _ _ (by decide) (by decide))]; exact h2
  · rw [f.R (by decide) (ho _ _ (by decide) (by decide)), f.I (by decide) (ho _ _ (by decide) (by decide)), f.L (by decide) (ho _ _ (by decide) (by decide)), f.I (by decide) (ho _ _ (by decide) (by decide))]; exact h3 i hi
theorem OwG.t {q : Nat} : ∀ κ i, 9 ≤ κ → κ ≤ 14 → ¬ OwG q κ i := fun κ i a b => by unfold OwG; omega
theorem sq_congr {r : Rs} {f g : Nat → Rs} (h : ∀ l, r.2 = some l → f r.1 = g r.1) : sq r f = sq r g := by
  obtain ⟨p, _ | l⟩ := r
  · rfl
  · unfold sq; dsimp only; rw [show f p = g p from h l rfl]
theorem gd_l {l l' : RO} {i : Nat} (h : i < l.length) : (l ++ l').getD i (0, 0) = l.getD i (0, 0) := by
  rw [List.getD_eq_getElem?_getD, List.getElem?_append_left h, ← List.getD_eq_getElem?_getD]
theorem gd_r {l l' : RO} {i : Nat} (h : l.length ≤ i) : (l ++ l').getD i (0, 0) = l'.getD (i - l.length) (0, 0) := by
  rw [List.getD_eq_getElem?_getD, List.getElem?_append_right h, ← List.getD_eq_getElem?_getD]
section GRC
variable {d rc rs : Nat} {Q : Option Value → Mu → Prop} {μ : Mu} {t : Nat → Nat} {L q : Nat} {r : Rs}
theorem GS.px3 (h : GS μ t L q r) : px μ (hd 15 0) 3 = nx (tK t L) r := px_eq (by decide) h.2.2.2.2.1
theorem GS.nxlt (_ : GS μ t L q r) : nx (tK t L) r ≤ 47 := by
  unfold nx
  split
  · exact tK_rng
  · exact Nat.le_refl _
theorem GC.fr {μ' : Mu} {o : Option RO} (h : GC μ q o) (e4 : mI μ' (hd 21 q) 4 = mI μ (hd 21 q) 4) (e22 : ∀ k, mR μ' (hd 22 q) k = mR μ (hd 22 q) k) (e23 : ∀ k, mI μ' (hd 23 q) k = mI μ (hd 23 q) k) : GC μ' q o := by
  cases o with
  | none => obtain ⟨z, a, b⟩ := h; exact ⟨z, a, e4.trans b⟩
  | some l => exact ⟨e4.trans h.1, fun i hi => ⟨(e22 i).trans (h.2 i hi).1, (e23 i).trans (h.2 i hi).2⟩⟩
theorem GC.no {o : Option RO} (h : GC μ q o) : GC μ q none := by
  cases o with
  | none => exact h
  | some l => exact ⟨_, Nat.min_le_right _ _, h.1⟩
/-- wrong from here on -/
theorem GS.wrong (h : GS μ t L q r) : GS (setR μ (hd 15 0) 3 (hd 0 47)) t L q (r.1, none) := by
  obtain ⟨h1, h2, h3, h4, h5, h6⟩ := h
  refine ⟨h1.fr (Fr.rf.setR (own := OwG q) (by decide) (Or.inl rfl)) OwG.t, ?_, h3, ?_, ?_, ?_⟩
  · unfold px at h2 ⊢; rw [mR_set, if_neg (by omega)]; exact h2
  · exact h4
  · rw [mR_set, if_pos ⟨rfl, rfl⟩]; rfl
  · exact (h6.no).fr rfl (fun k => by rw [mR_set, if_neg (fun z => hd_ne (by decide) (by decide) (by decide) z.1)]) (fun k => rfl)
theorem GS.wr {f : Nat → Rs} (h : GS μ t L q r) (h47 : nx (tK t L) r = 47) (hf : ∀ p, tK t L p = 47 → f p = (p, none)) : GS μ t L q (sq r f) := by
  obtain ⟨p, _ | l⟩ := r
  · exact h
  · have e : sq (p, some l) f = (p, none) := by
      unfold sq; dsimp only; rw [hf p h47]
    rw [e]
    obtain ⟨h1, h2, h3, h4, h5, h6⟩ := h
    exact ⟨h1, h2, h3, h4, by rw [h5, h47]; rfl, h6.no⟩
theorem c_Gr_take {k : Nat} (hD : 1 ≤ d) (hS : St μ) (hG : GS μ t L q r) (hk : k < 46) (hQ : ∀ μ', Fr (OwG q) μ μ' → St μ' → GS μ' t L q (sq r (gTk (tK t L) k)) → Q none μ') : Cal K_Gr_take d rc rs [.ref (hd 15 0), .ref (hd 0 k)] μ Q := by
  refine e_Gr_take (g_Gr_take_0 hD (by omega) hS ?_)
  rw [hG.px3]
  have wr : nx (tK t L) r ≠ k → sq r (gTk (tK t L) k) = (r.1, none) := by
    intro hne
    obtain ⟨p, _ | l⟩ := r
    · rfl
    · unfold sq; dsimp only; rw [tk_f (show tK t L p ≠ k from hne)]
  refine ⟨fun h => ⟨fun h2 => absurd (h.symm.trans h2) (by omega), fun _ => ?_⟩, fun h => ?_⟩
  · obtain ⟨h1, h2, h3, h4, h5, h6⟩ := hG
    have hn4 := nT_le (t := t) (L := L)
    obtain ⟨p, _ | l⟩ := r
    · have h' : 47 = k := h
      omega
    have hK : tK t L p = k := h
    have hpn : p < nT t L := by
      rcases Nat.eq_or_lt_of_le h3 with z | z
      · have := nT_end (t := t) (L := L); have z' : p = nT t L := z; rw [← z', hK] at this; omega
      · exact z
    have h4' : mI μ (hd 15 0) 2 = nI p := h4
    rw [rd_ne (by decide) (by decide) (by decide), rd_eq, h1.2.1, h4', nI_1, nI_leI (by omega) (by omega), nI_clamp (by omega)]
    have hc := (h1.2.2 (p + 1) (by omega)).1
    have hpx : px μ (hd 11 0) (p + 1) = tK t L (p + 1) := px_eq (by decide) hc
    refine ⟨fun z => absurd z (by omega), fun _ => ⟨vp_in_nI (by omega) (by decide), (by rw [hc]; exact fun z => nomatch z), ?_⟩⟩
    rw [hpx]
    have hS1 : St (setI μ (hd 15 0) 2 (nI (p + 1))) := hS
    have hS2 : St (setR (setI μ (hd 15 0) 2 (nI (p + 1))) (hd 15 0) 3 (hd 0 (tK t L (p + 1)))) := sd_15_3 hS1 (by decide) (by have := tK_rng (t := t) (L := L) (i := p + 1); omega)
    refine ⟨hS2, hQ _ ((Fr.rf.setI (by decide) (Or.inl rfl)).setR (by decide) (Or.inl rfl)) hS2 ?_⟩
    have e : sq (p, some l) (gTk (tK t L) k) = (p + 1, some l) := by
      unfold sq gTk; dsimp only; rw [if_pos hK]; dsimp only; rw [List.append_nil]
    rw [e]
    refine ⟨h1.fr ((Fr.rf.setI (own := OwG q) (by decide) (Or.inl rfl)).setR (by decide) (Or.inl rfl)) OwG.t, ?_, hpn, ?_, ?_, ?_⟩
    · unfold px at h2 ⊢; rw [mR_set, if_neg (by omega), mR_setI]; exact h2
    · show mI (setI μ (hd 15 0) 2 (nI (p + 1))) (hd 15 0) 2 = _
      rw [rd_eq]
    · rw [mR_set, if_pos ⟨rfl, rfl⟩]; rfl
    · refine h6.fr ?_ (fun k => ?_) (fun k => ?_)
      · show mI (setI μ (hd 15 0) 2 (nI (p + 1))) (hd 21 q) 4 = _
        rw [rd_ne (by decide) (by decide) (by decide)]
      · rw [mR_set, if_neg (fun z => hd_ne (by decide) (by decide) (by decide) z.1), mR_setI]
      · show mI (setI μ (hd 15 0) 2 (nI (p + 1))) (hd 23 q) k = _
        rw [rd_ne (by decide) (by decide) (by decide)]
  · have hS1 := sd_15_3 hS (i := 0) (by decide) (by decide : 47 < 49)
    refine ⟨hS1, hQ _ (Fr.rf.setR (by decide) (Or.inl rfl)) hS1 ?_⟩
    rw [wr h]; exact hG.wrong
theorem c_Gr_take47 (hD : 1 ≤ d) (hS : St μ) (hG : GS μ t L q r) (hQ : ∀ μ', Fr (OwG q) μ μ' → St μ' → GS μ' t L q (sq r gNo) → Q none μ') : Cal K_Gr_take d rc rs [.ref (hd 15 0), .ref (hd 0 47)] μ Q := by
  refine e_Gr_take (g_Gr_take_0 hD (by omega) hS ?_)
  have hS1 := sd_15_3 hS (i := 0) (by decide) (by decide : 47 < 49)
  have hq := hQ _ (Fr.rf.setR (by decide) (Or.inl rfl)) hS1 (by
    have e : sq r gNo = (r.1, none) := by obtain ⟨p, _ | l⟩ := r <;> rfl
    rw [e]; exact hG.wrong)
  exact ⟨fun h => ⟨fun _ => ⟨hS1, hq⟩, fun z => absurd h z⟩, fun _ => ⟨hS1, hq⟩⟩
theorem c_Cd_add {k x : Nat} (hD : 1 ≤ d) (hS : St μ) (hG : GS μ t L q r) (hk : k < 49) (hQ : ∀ μ', Fr (OwG q) μ μ' → St μ' → GS μ' t L q (sq r (gAd k x)) → Q none μ') : Cal K_Cd_add d rc rs [.ref (hd 21 q), .ref (hd 0 k), .int (oI x)] μ Q := by
  have hq2 : q < 2 := by rw [← hG.2.1]; exact (d_15_1 hS (by decide)).2
  refine e_Cd_add (g_Cd_add_0 hD hq2 hk hS ?_)
  obtain ⟨h1, h2, h3, h4, h5, h6⟩ := hG
  -- how many there are
  obtain ⟨z, hz4, hz, hzc⟩ : ∃ z, z ≤ 400 ∧ mI μ (hd 21 q) 4 = nI z ∧ (∀ l, r.2 = some l → z = min l.length 400) := by
    obtain ⟨p, _ | l⟩ := r
    · obtain ⟨z, a, b⟩ := h6; exact ⟨z, a, b, fun l e => by cases e⟩
    · exact ⟨_, Nat.min_le_right _ _, h6.1, fun l' e => by cases e; rfl⟩
  rw [mI_setR, rd_ne (by decide) (by decide) (by decide), mI_setR, hz, nI_clamp (by omega), show (400 : Int32) = nI 400 from rfl, nI_leI (by decide) (by omega)]
  refine ⟨fun h => ⟨hS, hQ _ Fr.rf hS ?_⟩, fun h => ?_⟩
  · obtain ⟨p, _ | l⟩ := r
    · exact ⟨h1, h2, h3, h4, h5, h6⟩
    · refine ⟨h1, h2, h3, h4, h5, ?_⟩
      have hl := hzc l rfl
      have g1 : (l ++ [(k, x)]).length = l.length + 1 := by rw [List.length_append]; rfl
      refine ⟨?_, fun i hi => ?_⟩
      · rw [g1, h6.1, show min l.length 400 = min (l.length + 1) 400 by omega]
      · rw [g1] at hi
        have := h6.2 i (by omega)
        rw [gd_l (by omega)]; exact this
  · have v4 : vp_in (nI z) 400 := vp_in_nI (by omega) (by decide)
    have hS1 : St (setI (setI (setI (setR μ (hd 22 q) z (hd 0 k)) (hd 23 q) z (oI x)) (hd 24 q) z 0) (hd 21 q) 4 (nI (z + 1))) := se_22 hS hq2 hk
    refine ⟨v4, v4, v4, fun μ4 e4 => ?_⟩
    subst e4
    rw [rd_ne (by decide) (by decide) (by decide), rd_ne (by decide) (by decide) (by decide), mI_setR, hz, nI_1]
    have fr : Fr (OwG q) μ (setI (setI (setI (setR μ (hd 22 q) z (hd 0 k)) (hd 23 q) z (oI x)) (hd 24 q) z 0) (hd 21 q) 4 (nI (z + 1))) :=
      (((Fr.rf.setR (by decide) (Or.inr ⟨by decide, by decide, rfl⟩)).setI (by decide) (Or.inr ⟨by decide, by decide, rfl⟩)).setI (by decide) (Or.inr ⟨by decide, by decide, rfl⟩)).setI (by decide) (Or.inr ⟨by decide, by decide, rfl⟩)
    refine ⟨hS1, hQ _ fr hS1 ?_⟩
    have e2 : ∀ o, GC (setI (setI (setI (setR μ (hd 22 q) z (hd 0 k)) (hd 23 q) z (oI x)) (hd 24 q) z 0) (hd 21 q) 4 (nI (z + 1))) q o → ∀ r' : Rs, r'.1 = r.1 → r'.2 = o → nx (tK t L) r' = nx (tK t L) r → GS (setI (setI (setI (setR μ (hd 22 q) z (hd 0 k)) (hd 23 q) z (oI x)) (hd 24 q) z 0) (hd 21 q) 4 (nI (z + 1))) t L q r' := by
      intro o ho r' e1 e2 e3
      refine ⟨h1.fr fr OwG.t, ?_, by rw [e1]; exact h3, ?_, ?_, by rw [e2]; exact ho⟩
      · unfold px at h2 ⊢; rw [mR_setI, mR_setI, mR_setI, mR_set, if_neg (fun z => hd_ne (by decide) (by decide) (by decide) z.1)]; exact h2
      · rw [e1, rd_ne (by decide) (by decide) (by decide), rd_ne (by decide) (by decide) (by decide), rd_ne (by decide) (by decide) (by decide), mI_setR]; exact h4
      · rw [mR_setI, mR_setI, mR_setI, mR_set, if_neg (fun z => hd_ne (by decide) (by decide) (by decide) z.1), e3]; exact h5
    obtain ⟨p, _ | l⟩ := r
    · exact e2 none ⟨z + 1, by omega, rd_eq⟩ _ rfl rfl rfl
    · have hl := hzc l rfl
      have g1 : (l ++ [(k, x)]).length = l.length + 1 := by rw [List.length_append]; rfl
      refine e2 (some (l ++ [(k, x)])) ⟨?_, fun i hi => ?_⟩ _ rfl rfl rfl
      · rw [rd_eq, g1]; exact congrArg nI (by omega)
      · rw [g1] at hi
        rw [mR_setI, mR_setI, mR_setI, mR_set, rd_ne (by decide) (by decide) (by decide), rd_ne (by decide) (by decide) (by decide)]
        by_cases hi2 : i = z
        · rw [if_pos ⟨rfl, hi2⟩, hi2, rd_eq]
          rw [gd_r (by omega), show z - l.length = 0 by omega]
          exact ⟨rfl, rfl⟩
        · rw [if_neg (fun z => hi2 z.2), rd_k hi2, mI_setR, gd_l (by omega)]
          exact h6.2 i (by omega)
theorem c_Cd_addN {k : Nat} (hD : 1 ≤ d) (hS : St μ) (hG : GS μ t L q r) (hk : k < 49) (hQ : ∀ μ', Fr (OwG q) μ μ' → St μ' → GS μ' t L q (sq r (gAd k 0)) → Q none μ') : Cal K_Cd_add d rc rs [.ref (hd 21 (px μ (hd 15 0) 1)), .ref (hd 0 k), .int (-1)] μ Q := by
  rw [hG.2.1, ← oI_0]; exact c_Cd_add hD hS hG hk hQ
theorem c_Cd_addP {k : Nat} (hD : 1 ≤ d) (hS : St μ) (hG : GS μ t L q r) (hk : k < 49) (hQ : ∀ μ', Fr (OwG q) μ μ' → St μ' → GS μ' t L q (sq r (fun p => gAd k (p + 1) p)) → Q none μ') : Cal K_Cd_add d rc rs [.ref (hd 21 (px μ (hd 15 0) 1)), .ref (hd 0 k), .int (mI μ (hd 15 0) 2)] μ Q := by
  rw [hG.2.1, hG.2.2.2.1, ← oI_s]
  exact c_Cd_add hD hS hG hk (fun μ' a b c => hQ μ' a b (by rw [show sq r (fun p => gAd k (p + 1) p) = sq r (gAd k (r.1 + 1)) from sq_congr (fun l _ => rfl)]; exact c))
theorem c_Gr_goesDeeper {k δ : Nat} (hD : 2 ≤ d) (hS : St μ) (hG : GS μ t L q r) (hk : k < 46) (hδ : δ ≤ 8) (hQ : ∀ μ', Fr (OwG q) μ μ' → St μ' → GS μ' t L q (sq r (gDp (tK t L) (decide (δ < 8)) k)) → Q (some (.int (bI (nx (tK t L) (sq r (gDp (tK t L) (decide (δ < 8)) k)) ≠ 47)))) μ') : Cal K_Gr_goesDeeper d rc rs [.ref (hd 15 0), .ref (hd 0 k), .int (nI δ)] μ Q := by
  refine e_Gr_goesDeeper (g_Gr_goesDeeper_0 (by omega) (by omega) hS ?_)
  rw [show (8 : Int32) = nI 8 from rfl, nI_leI (by decide) (by omega)]
  refine ⟨fun h => ?_, fun h => ?_⟩
  · have e : gDp (tK t L) (decide (δ < 8)) k = gNo := by
      funext p; unfold gDp gNo; rw [if_neg (by simp only [decide_eq_true_eq]; omega)]
    rw [e] at hQ
    refine c_Gr_take47 (by omega) hS hG (fun μ' m1 m2 m3 => ⟨rfl, ?_⟩)
    have hq := hQ μ' m1 m2 m3
    rw [m3.px3]
    refine ⟨fun z => ⟨m2, ?_⟩, fun z => ⟨m2, ?_⟩⟩
    · rw [bI_f (fun y => y z)] at hq; exact hq
    · rw [bI_t z] at hq; exact hq
  · have e : gDp (tK t L) (decide (δ < 8)) k = gTk (tK t L) k := by
      funext p; unfold gDp; rw [if_pos (by simp only [decide_eq_true_eq]; omega)]
    rw [e] at hQ
    refine c_Gr_take (by omega) hS hG hk (fun μ' m1 m2 m3 => ⟨rfl, ?_⟩)
    have hq := hQ μ' m1 m2 m3
    rw [m3.px3]
    refine ⟨fun z => ⟨m2, ?_⟩, fun z => ⟨m2, ?_⟩⟩
    · rw [bI_f (fun y => y z)] at hq; exact hq
    · rw [bI_t z] at hq; exact hq
theorem dp_lt {b : Bool} {k : Nat} (h : nx (tK t L) (sq r (gDp (tK t L) b k)) ≠ 47) : b = true := by
  cases b with
  | true => rfl
  | false =>
    exfalso; apply h
    obtain ⟨p, _ | l⟩ := r <;> rfl
theorem c_Gr_board {k : Nat} (hD : 2 ≤ d) (hS : St μ) (hG : GS μ t L q r) (hk : k < 46) (hQ : ∀ μ', Fr (OwG q) μ μ' → St μ' → GS μ' t L q (sq r (bdF (tK t L) k)) → Q none μ') : Cal K_Gr_board d rc rs [.ref (hd 15 0), .ref (hd 0 k)] μ Q := by
  refine e_Gr_board (g_Gr_board_0 (by omega) (by omega) hS ?_)
  have e : sq r (bdF (tK t L) k) = sq (sq (sq (sq r (fun p => gAd k (p + 1) p)) (gTk (tK t L) k)) (gTk (tK t L) 44)) (fun q => if k = 21 then (q, some []) else gTk (tK t L) 44 q) := by
    rw [sq_assoc, sq_assoc, sq_assoc]
    refine sq_congr (fun l _ => ?_)
    unfold bdF
    rw [sq_assoc, sq_assoc]
  refine c_Cd_addP (by omega) hS hG (by omega) (fun μ1 a1 a2 a3 => ⟨rfl, c_Gr_take (by omega) a2 a3 hk (fun μ2 b1 b2 b3 => ⟨rfl, c_Gr_take (by omega) b2 b3 (by decide) (fun μ3 c1 c2 c3 => ⟨rfl, fun z => ⟨c2, ?_⟩, fun z => ?_⟩)⟩)⟩)
  · refine hQ _ ((a1.trans b1).trans c1) c2 ?_
    rw [e]
    have : (fun q => if k = 21 then (q, some []) else gTk (tK t L) 44 q) = fun q => ((q, some []) : Rs) := by funext q; rw [if_pos z]
    rw [this, sq_id]; exact c3
  · refine c_Gr_take (by omega) c2 c3 (by decide) (fun μ4 d1 d2 d3 => ⟨rfl, d2, hQ _ (((a1.trans b1).trans c1).trans d1) d2 ?_⟩)
    rw [e]
    have : (fun q => if k = 21 then (q, some []) else gTk (tK t L) 44 q) = gTk (tK t L) 44 := by funext q; rw [if_neg z]
    rw [this]; exact d3
/-- what a method of the reading does -/
def GrM (A : KM) (t : Nat → Nat) (L q δ m : Nat) (F : Nat → Rs) : Prop := ∀ (d rc rs : Nat) (Q : Option Value → Mu → Prop) (μ : Mu) (r : Rs), m ≤ d → St μ → GS μ t L q r → (∀ μ', Fr (OwG q) μ μ' → St μ' → GS μ' t L q (sq r F) → Q none μ') → Cal A d rc rs [.ref (hd 15 0), .int (nI δ)] μ Q
theorem lp_out {F : Nat → Rs} {c1 c2 f : Nat} (h1 : nx (tK t L) r ≠ c1) (h2 : nx (tK t L) r ≠ c2) : sq r (lpF (tK t L) F c1 c2 f) = r := by
  obtain ⟨p, _ | l⟩ := r
  · rfl
  · have e : lpF (tK t L) F c1 c2 f p = (p, some []) := by
      cases f with
      | zero => rfl
      | succ f => unfold lpF; exact if_neg (fun z => z.elim h1 h2)
    unfold sq; dsimp only; rw [e]; dsimp only; rw [List.append_nil]
theorem lp_in {F : Nat → Rs} {c1 c2 f k : Nat} (h1 : nx (tK t L) r = k) (h2 : k = c1 ∨ k = c2) (h3 : k ≠ 47) : sq (sq (sq (sq r (gTk (tK t L) k)) F) (gAd k 0)) (lpF (tK t L) F c1 c2 f) = sq r (lpF (tK t L) F c1 c2 (f + 1)) := by
  obtain ⟨p, _ | l⟩ := r
  · exact absurd h1.symm h3
  · have hk : tK t L p = k := h1
    rw [sq_assoc, sq_assoc, sq_assoc]
    refine sq_congr (fun l _ => ?_)
    show _ = lpF (tK t L) F c1 c2 (f + 1) p
    rw [lpF, hk, if_pos h2, sq_assoc, sq_assoc]
theorem c_Gr_productL {δ m : Nat} {F : Nat → Rs} (hF : GrM K_Gr_value t L q δ m F) : ∀ i, i ≤ 400 → ∀ (d rc rs : Nat) (Q : Option Value → Mu → Prop) (μ : Mu) (r : Rs), m + 1 ≤ d → 3 ≤ d → St μ → GS μ t L q r → (∀ μ', Fr (OwG q) μ μ' → St μ' → GS μ' t L q (sq r (lpF (tK t L) F 37 38 (400 - i))) → Q none μ') → Wx K_Gr_product d rc rs (fun r μ' => St μ' ∧ Q r μ') 7 [(0, .ref (hd 15 0)), (1, .int (nI δ)), (2, .int (nI i))] [] μ := by
  refine up_loop 400 ?_ ?_
  · intro d rc rs Q μ r hm h3 hS hG hQ
    refine g_Gr_product_7 (by omega) hS ⟨fun _ => ⟨hS, hQ μ Fr.rf hS ?_⟩, fun h => absurd (Int32.le_refl _) h⟩
    show GS μ t L q (sq r (fun p => (p, some [])))
    rw [sq_id]; exact hG
  · intro i hi ih d rc rs Q μ r hm h3 hS hG hQ
    refine g_Gr_product_7 (by omega) hS ⟨fun h => absurd h ?_, fun _ => ?_⟩
    · rw [show (400 : Int32) = nI 400 from rfl, nI_leI (by decide) (by omega)]; omega
    rw [hG.px3]
    have go : ∀ k, (k = 37 ∨ k = 38) → nx (tK t L) r = k → Cal K_Gr_take (d - 1) 0 0 [.ref (hd 15 0), .ref (hd 0 k)] μ (fun r μ3 => r = none ∧ (Cal K_Gr_value (d - 1) 0 0 [.ref (hd 15 0), .int (nI δ)] μ3 (fun r μ4 => r = none ∧ (Cal K_Cd_add (d - 1) 0 0 [.ref (hd 21 (px μ4 (hd 15 0) 1)), .ref (hd 0 k), .int (-1)] μ4 (fun r μ6 => r = none ∧ Wx K_Gr_product d rc rs (fun r μ' => St μ' ∧ Q r μ') 7 [(0, .ref (hd 15 0)), (1, .int (nI δ)), (2, .int (nI i + 1))] [] μ6))))) := by
      intro k hk hnx
      refine c_Gr_take (by omega) hS hG (by omega) (fun μ1 a1 a2 a3 => ⟨rfl, hF _ _ _ _ _ _ (by omega) a2 a3 (fun μ2 b1 b2 b3 => ⟨rfl, c_Cd_addN (by omega) b2 b3 (by omega) (fun μ3 c1 c2 c3 => ⟨rfl, ?_⟩)⟩)⟩)
      rw [nI_1]
      refine ih d rc rs Q μ3 _ hm h3 c2 c3 (fun μ' e1 e2 e3 => hQ _ (((a1.trans b1).trans c1).trans e1) e2 ?_)
      rw [show 400 - i = (400 - (i + 1)) + 1 by omega, ← lp_in hnx hk (by omega)]; exact e3
    refine ⟨fun z => by rw [z]; exact go 37 (Or.inl rfl) z, fun z => ⟨fun y => by rw [y]; exact go 38 (Or.inr rfl) y, fun y => ⟨hS, hQ μ Fr.rf hS ?_⟩⟩⟩
    rw [lp_out z y]; exact hG
theorem c_Gr_sumL {δ m : Nat} {F : Nat → Rs} (hF : GrM K_Gr_product t L q δ m F) : ∀ i, i ≤ 400 → ∀ (d rc rs : Nat) (Q : Option Value → Mu → Prop) (μ : Mu) (r : Rs), m + 1 ≤ d → 3 ≤ d → St μ → GS μ t L q r → (∀ μ', Fr (OwG q) μ μ' → St μ' → GS μ' t L q (sq r (lpF (tK t L) F 35 36 (400 - i))) → Q none μ') → Wx K_Gr_sum d rc rs (fun r μ' => St μ' ∧ Q r μ') 7 [(0, .ref (hd 15 0)), (1, .int (nI δ)), (2, .int (nI i))] [] μ := by
  refine up_loop 400 ?_ ?_
  · intro d rc rs Q μ r hm h3 hS hG hQ
    refine g_Gr_sum_7 (by omega) hS ⟨fun _ => ⟨hS, hQ μ Fr.rf hS ?_⟩, fun h => absurd (Int32.le_refl _) h⟩
    show GS μ t L q (sq r (fun p => (p, some [])))
    rw [sq_id]; exact hG
  · intro i hi ih d rc rs Q μ r hm h3 hS hG hQ
    refine g_Gr_sum_7 (by omega) hS ⟨fun h => absurd h ?_, fun _ => ?_⟩
    · rw [show (400 : Int32) = nI 400 from rfl, nI_leI (by decide) (by omega)]; omega
    rw [hG.px3]
    have go : ∀ k, (k = 35 ∨ k = 36) → nx (tK t L) r = k → Cal K_Gr_take (d - 1) 0 0 [.ref (hd 15 0), .ref (hd 0 k)] μ (fun r μ3 => r = none ∧ (Cal K_Gr_product (d - 1) 0 0 [.ref (hd 15 0), .int (nI δ)] μ3 (fun r μ4 => r = none ∧ (Cal K_Cd_add (d - 1) 0 0 [.ref (hd 21 (px μ4 (hd 15 0) 1)), .ref (hd 0 k), .int (-1)] μ4 (fun r μ6 => r = none ∧ Wx K_Gr_sum d rc rs (fun r μ' => St μ' ∧ Q r μ') 7 [(0, .ref (hd 15 0)), (1, .int (nI δ)), (2, .int (nI i + 1))] [] μ6))))) := by
      intro k hk hnx
      refine c_Gr_take (by omega) hS hG (by omega) (fun μ1 a1 a2 a3 => ⟨rfl, hF _ _ _ _ _ _ (by omega) a2 a3 (fun μ2 b1 b2 b3 => ⟨rfl, c_Cd_addN (by omega) b2 b3 (by omega) (fun μ3 c1 c2 c3 => ⟨rfl, ?_⟩)⟩)⟩)
      rw [nI_1]
      refine ih d rc rs Q μ3 _ hm h3 c2 c3 (fun μ' e1 e2 e3 => hQ _ (((a1.trans b1).trans c1).trans e1) e2 ?_)
      rw [show 400 - i = (400 - (i + 1)) + 1 by omega, ← lp_in hnx hk (by omega)]; exact e3
    refine ⟨fun z => by rw [z]; exact go 35 (Or.inl rfl) z, fun z => ⟨fun y => by rw [y]; exact go 36 (Or.inr rfl) y, fun y => ⟨hS, hQ μ Fr.rf hS ?_⟩⟩⟩
    rw [lp_out z y]; exact hG
theorem c_Gr_bothL {δ m : Nat} {F : Nat → Rs} (hF : GrM K_Gr_single t L q δ m F) : ∀ i, i ≤ 400 → ∀ (d rc rs : Nat) (Q : Option Value → Mu → Prop) (μ : Mu) (r : Rs), m + 1 ≤ d → 3 ≤ d → St μ → GS μ t L q r → (∀ μ', Fr (OwG q) μ μ' → St μ' → GS μ' t L q (sq r (lpF (tK t L) F 25 25 (400 - i))) → Q none μ') → Wx K_Gr_both d rc rs (fun r μ' => St μ' ∧ Q r μ') 7 [(0, .ref (hd 15 0)), (1, .int (nI δ)), (2, .int (nI i))] [] μ := by
  refine up_loop 400 ?_ ?_
  · intro d rc rs Q μ r hm h3 hS hG hQ
    refine g_Gr_both_7 (by omega) hS ⟨fun _ => ⟨hS, hQ μ Fr.rf hS ?_⟩, fun h => absurd (Int32.le_refl _) h⟩
    show GS μ t L q (sq r (fun p => (p, some [])))
    rw [sq_id]; exact hG
  · intro i hi ih d rc rs Q μ r hm h3 hS hG hQ
    refine g_Gr_both_7 (by omega) hS ⟨fun h => absurd h ?_, fun _ => ?_⟩
    · rw [show (400 : Int32) = nI 400 from rfl, nI_leI (by decide) (by omega)]; omega
    rw [hG.px3]
    refine ⟨fun z => ?_, fun z => ⟨hS, hQ μ Fr.rf hS (by rw [lp_out z z]; exact hG)⟩⟩
    refine c_Gr_take (by omega) hS hG (by omega) (fun μ1 a1 a2 a3 => ⟨rfl, hF _ _ _ _ _ _ (by omega) a2 a3 (fun μ2 b1 b2 b3 => ⟨rfl, c_Cd_addN (by omega) b2 b3 (by omega) (fun μ3 c1 c2 c3 => ⟨rfl, ?_⟩)⟩)⟩)
    rw [nI_1]
    refine ih d rc rs Q μ3 _ hm h3 c2 c3 (fun μ' e1 e2 e3 => hQ _ (((a1.trans b1).trans c1).trans e1) e2 ?_)
    rw [show 400 - i = (400 - (i + 1)) + 1 by omega, ← lp_in z (Or.inl rfl) (by omega)]; exact e3
theorem c_Gr_testL {δ m : Nat} {F : Nat → Rs} (hF : GrM K_Gr_both t L q δ m F) : ∀ i, i ≤ 400 → ∀ (d rc rs : Nat) (Q : Option Value → Mu → Prop) (μ : Mu) (r : Rs), m + 1 ≤ d → 3 ≤ d → St μ → GS μ t L q r → (∀ μ', Fr (OwG q) μ μ' → St μ' → GS μ' t L q (sq r (lpF (tK t L) F 26 26 (400 - i))) → Q none μ') → Wx K_Gr_test d rc rs (fun r μ' => St μ' ∧ Q r μ') 7 [(0, .ref (hd 15 0)), (1, .int (nI δ)), (2, .int (nI i))] [] μ := by
  refine up_loop 400 ?_ ?_
  · intro d rc rs Q μ r hm h3 hS hG hQ
    refine g_Gr_test_7 (by omega) hS ⟨fun _ => ⟨hS, hQ μ Fr.rf hS ?_⟩, fun h => absurd (Int32.le_refl _) h⟩
    show GS μ t L q (sq r (fun p => (p, some [])))
    rw [sq_id]; exact hG
  · intro i hi ih d rc rs Q μ r hm h3 hS hG hQ
    refine g_Gr_test_7 (by omega) hS ⟨fun h => absurd h ?_, fun _ => ?_⟩
    · rw [show (400 : Int32) = nI 400 from rfl, nI_leI (by decide) (by omega)]; omega
    rw [hG.px3]
    refine ⟨fun z => ?_, fun z => ⟨hS, hQ μ Fr.rf hS (by rw [lp_out z z]; exact hG)⟩⟩
    refine c_Gr_take (by omega) hS hG (by omega) (fun μ1 a1 a2 a3 => ⟨rfl, hF _ _ _ _ _ _ (by omega) a2 a3 (fun μ2 b1 b2 b3 => ⟨rfl, c_Cd_addN (by omega) b2 b3 (by omega) (fun μ3 c1 c2 c3 => ⟨rfl, ?_⟩)⟩)⟩)
    rw [nI_1]
    refine ih d rc rs Q μ3 _ hm h3 c2 c3 (fun μ' e1 e2 e3 => hQ _ (((a1.trans b1).trans c1).trans e1) e2 ?_)
    rw [show 400 - i = (400 - (i + 1)) + 1 by omega, ← lp_in z (Or.inl rfl) (by omega)]; exact e3
theorem GrM.product {δ m : Nat} {F : Nat → Rs} (hF : GrM K_Gr_value t L q δ m F) : GrM K_Gr_product t L q δ (m + 3) (proF (tK t L) F) := by
  intro d rc rs Q μ r hm hS hG hQ
  refine e_Gr_product (g_Gr_product_0 (by omega) hS (hF _ _ _ _ _ _ (by omega) hS hG (fun μ1 a1 a2 a3 => ⟨rfl, ?_⟩)))
  refine c_Gr_productL hF 0 (Nat.zero_le _) d rc rs Q μ1 _ (by omega) (by omega) a2 a3 (fun μ' b1 b2 b3 => hQ _ (a1.trans b1) b2 ?_)
  rw [sq_assoc] at b3; exact b3
theorem GrM.sum {δ m : Nat} {F : Nat → Rs} (hF : GrM K_Gr_product t L q δ m F) : GrM K_Gr_sum t L q δ (m + 3) (fun p => sq (F p) (lpF (tK t L) F 35 36 400)) := by
  intro d rc rs Q μ r hm hS hG hQ
  refine e_Gr_sum (g_Gr_sum_0 (by omega) hS (hF _ _ _ _ _ _ (by omega) hS hG (fun μ1 a1 a2 a3 => ⟨rfl, ?_⟩)))
  refine c_Gr_sumL hF 0 (Nat.zero_le _) d rc rs Q μ1 _ (by omega) (by omega) a2 a3 (fun μ' b1 b2 b3 => hQ _ (a1.trans b1) b2 ?_)
  rw [sq_assoc] at b3; exact b3
theorem GrM.both {δ m : Nat} {F : Nat → Rs} (hF : GrM K_Gr_single t L q δ m F) : GrM K_Gr_both t L q δ (m + 3) (botF (tK t L) F) := by
  intro d rc rs Q μ r hm hS hG hQ
  refine e_Gr_both (g_Gr_both_0 (by omega) hS (hF _ _ _ _ _ _ (by omega) hS hG (fun μ1 a1 a2 a3 => ⟨rfl, ?_⟩)))
  refine c_Gr_bothL hF 0 (Nat.zero_le _) d rc rs Q μ1 _ (by omega) (by omega) a2 a3 (fun μ' b1 b2 b3 => hQ _ (a1.trans b1) b2 ?_)
  rw [sq_assoc] at b3; exact b3
theorem GrM.test {δ m : Nat} {F : Nat → Rs} (hF : GrM K_Gr_both t L q δ m F) : GrM K_Gr_test t L q δ (m + 3) (fun p => sq (F p) (lpF (tK t L) F 26 26 400)) := by
  intro d rc rs Q μ r hm hS hG hQ
  refine e_Gr_test (g_Gr_test_0 (by omega) hS (hF _ _ _ _ _ _ (by omega) hS hG (fun μ1 a1 a2 a3 => ⟨rfl, ?_⟩)))
  refine c_Gr_testL hF 0 (Nat.zero_le _) d rc rs Q μ1 _ (by omega) (by omega) a2 a3 (fun μ' b1 b2 b3 => hQ _ (a1.trans b1) b2 ?_)
  rw [sq_assoc] at b3; exact b3
end GRC
