/-! the component's reading: values, tests -/
theorem sw_val1 : ∀ k, k < 49 → ((swv k = 17 ∨ swv k = 18) → k = 45 ∨ k = 17) ∧ ((swv k = 19 ∨ swv k = 20 ∨ swv k = 21 ∨ swv k = 22) → 18 ≤ k ∧ k ≤ 21) ∧ (swv k = 23 → k = 36) ∧ (swv k = 24 → k = 29) := by decide +kernel
theorem sw_val2 : ∀ k, k < 49 → ((swv k = 25 ∨ swv k = 26) → k = 27 ∨ k = 28) ∧ (((swv k).toInt < 17 ∨ 26 < (swv k).toInt) → ¬ (k = 45 ∨ k = 17) ∧ ¬ (18 ≤ k ∧ k ≤ 21)) := by decide +kernel
theorem sw_val3 : ∀ k, k < 49 → (((swv k).toInt < 17 ∨ 26 < (swv k).toInt) → k ≠ 36 ∧ k ≠ 29 ∧ ¬ (k = 27 ∨ k = 28)) := by decide +kernel
theorem sw_sng : ∀ k, k < 49 → (swv k = 8 → k = 24) ∧ (swv k = 9 → k = 31) ∧ ((swv k = 10 ∨ swv k = 11) → k = 22 ∨ k = 23) ∧ (((swv k).toInt < 8 ∨ 11 < (swv k).toInt) → k ≠ 24 ∧ k ≠ 31 ∧ ¬ (k = 22 ∨ k = 23)) := by decide +kernel
theorem sw_cmp : ∀ k, k < 49 → ((swv k = 12 ∨ swv k = 13 ∨ swv k = 14 ∨ swv k = 15 ∨ swv k = 16) → 39 ≤ k ∧ k ≤ 43) ∧ (((swv k).toInt < 12 ∨ 16 < (swv k).toInt) → ¬ (39 ≤ k ∧ k ≤ 43)) := by decide +kernel
section GRV
variable {t : Nat → Nat} {L q : Nat}
/-- r stands at a fitting token, so what comes is f of it -/
theorem sq_at {r : Rs} {f g : Nat → Rs} {k : Nat} (h : nx (tK t L) r = k) (h47 : k ≠ 47) (e : ∀ p, tK t L p = k → f p = g p) : sq r f = sq r g := by
  obtain ⟨p, _ | l⟩ := r
  · rfl
  · exact sq_congr (fun l _ => e p h)
theorem sq_wr {μ : Mu} {r : Rs} {f : Nat → Rs} (h : GS μ t L q (r.1, none)) (hf : ∀ l, r.2 = some l → f r.1 = (r.1, none)) : GS μ t L q (sq r f) := by
  obtain ⟨p, _ | l⟩ := r
  · exact h
  · have e : sq (p, some l) f = (p, none) := by
      unfold sq; dsimp only; rw [show f p = _ from hf l rfl]
    rw [e]; exact h
theorem GrM.pair {δ m : Nat} {ds : Nat → Rs} (hδ : δ ≤ 8) (hm : 2 ≤ m) (hds : δ < 8 → GrM K_Gr_sum t L q (δ + 1) m ds) (hf : ∀ p, tK t L p = 47 → ds p = (p, none)) : GrM K_Gr_pair t L q δ (m + 1) (prF (tK t L) (decide (δ < 8)) ds) := by
  intro d rc rs Q μ r hmd hS hG hQ
  have e : sq r (prF (tK t L) (decide (δ < 8)) ds) = sq (sq r (gDp (tK t L) (decide (δ < 8)) 29)) (fun p => sq (sq (sq (ds p) (gTk (tK t L) 34)) ds) (gTk (tK t L) 30)) := by
    rw [sq_assoc]
    refine sq_congr (fun l _ => ?_)
    unfold prF
    rw [sq_assoc, sq_assoc, sq_assoc]
    refine sq_congr (fun l _ => ?_)
    rw [sq_assoc, sq_assoc]
  refine e_Gr_pair (g_Gr_pair_0 (by omega) hS (c_Gr_goesDeeper (by omega) hS hG (by decide) hδ (fun μ1 a1 a2 a3 => ⟨_, rfl, fun z => ?_, fun z => ?_⟩)))
  · rw [bI_z, Classical.not_not] at z
    refine ⟨a2, hQ _ a1 a2 ?_⟩
    rw [e]
    exact a3.wr z (fun p hp => sq_f (sq_f (sq_f (hf p hp))))
  · rw [bI_z, Classical.not_not] at z
    have hlt : δ < 8 := of_decide_eq_true (dp_lt z)
    rw [nI_1]
    refine hds hlt _ _ _ _ _ _ (by omega) a2 a3 (fun μ2 b1 b2 b3 => ⟨rfl, c_Gr_take (by omega) b2 b3 (by decide) (fun μ3 c1 c2 c3 => ⟨rfl, hds hlt _ _ _ _ _ _ (by omega) c2 c3 (fun μ4 d1 d2 d3 => ⟨rfl, c_Gr_take (by omega) d2 d3 (by decide) (fun μ5 e1 e2 e3 => ⟨rfl, e2, hQ _ ((((a1.trans b1).trans c1).trans d1).trans e1) e2 ?_⟩)⟩)⟩)⟩)
    rw [e]
    rw [sq_assoc, sq_assoc, sq_assoc] at e3
    have e4 : ∀ p, sq (ds p) (fun p => sq (gTk (tK t L) 34 p) (fun p => sq (ds p) (gTk (tK t L) 30))) = sq (sq (sq (ds p) (gTk (tK t L) 34)) ds) (gTk (tK t L) 30) := fun p => by rw [sq_assoc, sq_assoc]
    rw [funext e4] at e3
    exact e3
theorem GrM.value {δ m : Nat} {dv ds : Nat → Rs} (hδ : δ ≤ 8) (hm : 2 ≤ m) (hdv : δ < 8 → GrM K_Gr_value t L q (δ + 1) m dv) (hds : δ < 8 → GrM K_Gr_sum t L q (δ + 1) m ds) (hfv : ∀ p, tK t L p = 47 → dv p = (p, none)) (hfs : ∀ p, tK t L p = 47 → ds p = (p, none)) : GrM K_Gr_value t L q δ (m + 2) (valF (tK t L) (decide (δ < 8)) dv ds) := by
  intro d rc rs Q μ r hmd hS hG hQ
  refine e_Gr_value (g_Gr_value_0 (by omega) hS ?_)
  have hpx := hG.px3
  have hlt := hG.nxlt
  have hsw1 := sw_val1 (nx (tK t L) r) (by omega)
  have hsw2 := sw_val2 (nx (tK t L) r) (by omega)
  have hsw3 := sw_val3 (nx (tK t L) r) (by omega)
  rw [hpx]
  refine ⟨fun z => ?_, fun z => ?_, fun z => ?_, fun z => ?_, fun z => ?_, fun z => ?_⟩
  · have hk := hsw1.1 z
    refine c_Cd_addP (by omega) hS hG (by omega) (fun μ1 a1 a2 a3 => ⟨rfl, c_Gr_take (by omega) a2 a3 (by omega) (fun μ2 b1 b2 b3 => ⟨rfl, b2, hQ _ (a1.trans b1) b2 ?_⟩)⟩)
    rw [sq_assoc] at b3
    rw [sq_at (t := t) (L := L) (k := nx (tK t L) r) rfl (by omega) (g := fun p => sq (gAd (nx (tK t L) r) (p + 1) p) (gTk (tK t L) (nx (tK t L) r))) (fun p hp => ?_)]
    · exact b3
    · unfold valF; rw [hp, if_pos hk]
  · have hk := hsw1.2.1 z
    refine c_Gr_board (by omega) hS hG (by omega) (fun μ1 a1 a2 a3 => ⟨rfl, a2, hQ _ a1 a2 ?_⟩)
    rw [sq_at (t := t) (L := L) (k := nx (tK t L) r) rfl (by omega) (g := bdF (tK t L) (nx (tK t L) r)) (fun p hp => ?_)]
    · exact a3
    · unfold valF; rw [hp, if_neg (by omega), if_pos hk]
  · have hk := hsw1.2.2.1 z
    have e : sq r (valF (tK t L) (decide (δ < 8)) dv ds) = sq (sq r (gDp (tK t L) (decide (δ < 8)) 36)) (fun p => sq (dv p) (gAd 48 0)) := by
      rw [sq_assoc]
      refine sq_at hk (by decide) (fun p hp => ?_)
      unfold valF; rw [hp, if_neg (by decide), if_neg (by decide), if_pos rfl, sq_assoc]
    refine c_Gr_goesDeeper (by omega) hS hG (by decide) hδ (fun μ1 a1 a2 a3 => ⟨_, rfl, fun z => ?_, fun z => ?_⟩)
    · rw [bI_z, Classical.not_not] at z
      refine ⟨a2, hQ _ a1 a2 ?_⟩
      rw [e]; exact a3.wr z (fun p hp => sq_f (hfv p hp))
    · rw [bI_z, Classical.not_not] at z
      have hl8 : δ < 8 := of_decide_eq_true (dp_lt z)
      rw [nI_1]
      refine hdv hl8 _ _ _ _ _ _ (by omega) a2 a3 (fun μ2 b1 b2 b3 => ⟨rfl, c_Cd_addN (by omega) b2 b3 (by decide) (fun μ3 c1 c2 c3 => ⟨rfl, c2, hQ _ ((a1.trans b1).trans c1) c2 ?_⟩)⟩)
      rw [e]; rw [sq_assoc] at c3; exact c3
  · have hk := hsw1.2.2.2 z
    have e : sq r (valF (tK t L) (decide (δ < 8)) dv ds) = sq (sq r (gDp (tK t L) (decide (δ < 8)) 29)) (fun p => sq (ds p) (gTk (tK t L) 30)) := by
      rw [sq_assoc]
      refine sq_at hk (by decide) (fun p hp => ?_)
      unfold valF; rw [hp, if_neg (by decide), if_neg (by decide), if_neg (by decide), if_pos rfl, sq_assoc]
    refine c_Gr_goesDeeper (by omega) hS hG (by decide) hδ (fun μ1 a1 a2 a3 => ⟨_, rfl, fun z => ?_, fun z => ?_⟩)
    · rw [bI_z, Classical.not_not] at z
      refine ⟨a2, hQ _ a1 a2 ?_⟩
      rw [e]; exact a3.wr z (fun p hp => sq_f (hfs p hp))
    · rw [bI_z, Classical.not_not] at z
      have hl8 : δ < 8 := of_decide_eq_true (dp_lt z)
      rw [nI_1]
      refine hds hl8 _ _ _ _ _ _ (by omega) a2 a3 (fun μ2 b1 b2 b3 => ⟨rfl, c_Gr_take (by omega) b2 b3 (by decide) (fun μ3 c1 c2 c3 => ⟨rfl, c2, hQ _ ((a1.trans b1).trans c1) c2 ?_⟩)⟩)
      rw [e]; rw [sq_assoc] at c3; exact c3
  · have hk := hsw2.1 z
    refine c_Gr_take (by omega) hS hG (by omega) (fun μ1 a1 a2 a3 => ⟨rfl, GrM.pair hδ hm hds hfs _ _ _ _ _ _ (by omega) a2 a3 (fun μ2 b1 b2 b3 => ⟨rfl, c_Cd_addN (by omega) b2 b3 (by omega) (fun μ3 c1 c2 c3 => ⟨rfl, c2, hQ _ ((a1.trans b1).trans c1) c2 ?_⟩)⟩)⟩)
    rw [sq_assoc, sq_assoc] at c3
    rw [sq_at (t := t) (L := L) (k := nx (tK t L) r) rfl (by omega) (g := fun p => sq (gTk (tK t L) (nx (tK t L) r) p) (fun p => sq (prF (tK t L) (decide (δ < 8)) ds p) (gAd (nx (tK t L) r) 0))) (fun p hp => ?_)]
    · exact c3
    · unfold valF; rw [hp, if_neg (by omega), if_neg (by omega), if_neg (by omega), if_neg (by omega), if_pos hk, sq_assoc]
  · obtain ⟨k1, k2, k3, k4, k5⟩ : _ ∧ _ ∧ _ ∧ _ ∧ _ := ⟨(hsw2.2 z).1, (hsw2.2 z).2, hsw3 z⟩
    have hS1 := sd_15_3 hS (i := 0) (by decide) (by decide : 47 < 49)
    refine ⟨hS1, hQ _ (Fr.rf.setR (by decide) (Or.inl rfl)) hS1 (sq_wr hG.wrong (fun l hl => ?_))⟩
    have hp : tK t L r.1 = nx (tK t L) r := by unfold nx; rw [hl]
    unfold valF; rw [hp, if_neg k1, if_neg k2, if_neg k3, if_neg k4, if_neg k5]
theorem c_Gr_takeComparison {d rc rs : Nat} {Q : Option Value → Mu → Prop} {μ : Mu} {r : Rs} (hD : 2 ≤ d) (hS : St μ) (hG : GS μ t L q r) (hQ : ∀ μ', Fr (OwG q) μ μ' → St μ' → GS μ' t L q (sq r (cmF (tK t L))) → Q none μ') : Cal K_Gr_takeComparison d rc rs [.ref (hd 15 0)] μ Q := by
  refine e_Gr_takeComparison (g_Gr_takeComparison_0 (by omega) hS ?_)
  have hlt := hG.nxlt
  have hsw := sw_cmp (nx (tK t L) r) (by omega)
  rw [hG.px3]
  refine ⟨fun z => ?_, fun z => ?_⟩
  · have hk := hsw.1 z
    refine c_Gr_take (by omega) hS hG (by omega) (fun μ1 a1 a2 a3 => ⟨rfl, a2, hQ _ a1 a2 ?_⟩)
    rw [sq_at (t := t) (L := L) (k := nx (tK t L) r) rfl (by omega) (g := gTk (tK t L) (nx (tK t L) r)) (fun p hp => ?_)]
    · exact a3
    · unfold cmF; rw [hp, if_pos hk]
  · have hk := hsw.2 z
    have hS1 := sd_15_3 hS (i := 0) (by decide) (by decide : 47 < 49)
    refine ⟨hS1, hQ _ (Fr.rf.setR (by decide) (Or.inl rfl)) hS1 (sq_wr hG.wrong (fun l hl => ?_))⟩
    have hp : tK t L r.1 = nx (tK t L) r := by unfold nx; rw [hl]
    unfold cmF; rw [hp, if_neg hk]
theorem GrM.single {δ m : Nat} {dn dt s : Nat → Rs} (hδ : δ ≤ 8) (hm : 2 ≤ m) (hdn : δ < 8 → GrM K_Gr_single t L q (δ + 1) m dn) (hdt : δ < 8 → GrM K_Gr_test t L q (δ + 1) m dt) (hs : GrM K_Gr_sum t L q δ m s) (hfn : ∀ p, tK t L p = 47 → dn p = (p, none)) (hft : ∀ p, tK t L p = 47 → dt p = (p, none)) : GrM K_Gr_single t L q δ (m + 1) (sngF (tK t L) (decide (δ < 8)) dn dt s) := by
  intro d rc rs Q μ r hmd hS hG hQ
  refine e_Gr_single (g_Gr_single_0 (by omega) hS ?_)
  have hpx := hG.px3
  have hlt := hG.nxlt
  have hsw := sw_sng (nx (tK t L) r) (by omega)
  rw [hpx]
  refine ⟨fun z => ?_, fun z => ?_, fun z => ?_, fun z => ?_⟩
  · have hk := hsw.1 z
    have e : sq r (sngF (tK t L) (decide (δ < 8)) dn dt s) = sq (sq r (gDp (tK t L) (decide (δ < 8)) 24)) (fun p => sq (dn p) (gAd 24 0)) := by
      rw [sq_assoc]
      refine sq_at hk (by decide) (fun p hp => ?_)
      unfold sngF; rw [hp, if_pos rfl, sq_assoc]
    refine c_Gr_goesDeeper (by omega) hS hG (by decide) hδ (fun μ1 a1 a2 a3 => ⟨_, rfl, fun z => ?_, fun z => ?_⟩)
    · rw [bI_z, Classical.not_not] at z
      refine ⟨a2, hQ _ a1 a2 ?_⟩
      rw [e]; exact a3.wr z (fun p hp => sq_f (hfn p hp))
    · rw [bI_z, Classical.not_not] at z
      have hl8 : δ < 8 := of_decide_eq_true (dp_lt z)
      rw [nI_1]
      refine hdn hl8 _ _ _ _ _ _ (by omega) a2 a3 (fun μ2 b1 b2 b3 => ⟨rfl, c_Cd_addN (by omega) b2 b3 (by decide) (fun μ3 c1 c2 c3 => ⟨rfl, c2, hQ _ ((a1.trans b1).trans c1) c2 ?_⟩)⟩)
      rw [e]; rw [sq_assoc] at c3; exact c3
  · have hk := hsw.2.1 z
    have e : sq r (sngF (tK t L) (decide (δ < 8)) dn dt s) = sq (sq r (gDp (tK t L) (decide (δ < 8)) 31)) (fun p => sq (dt p) (gTk (tK t L) 32)) := by
      rw [sq_assoc]
      refine sq_at hk (by decide) (fun p hp => ?_)
      unfold sngF; rw [hp, if_neg (by decide), if_pos rfl, sq_assoc]
    refine c_Gr_goesDeeper (by omega) hS hG (by decide) hδ (fun μ1 a1 a2 a3 => ⟨_, rfl, fun z => ?_, fun z => ?_⟩)
    · rw [bI_z, Classical.not_not] at z
      refine ⟨a2, hQ _ a1 a2 ?_⟩
      rw [e]; exact a3.wr z (fun p hp => sq_f (hft p hp))
    · rw [bI_z, Classical.not_not] at z
      have hl8 : δ < 8 := of_decide_eq_true (dp_lt z)
      rw [nI_1]
      refine hdt hl8 _ _ _ _ _ _ (by omega) a2 a3 (fun μ2 b1 b2 b3 => ⟨rfl, c_Gr_take (by omega) b2 b3 (by decide) (fun μ3 c1 c2 c3 => ⟨rfl, c2, hQ _ ((a1.trans b1).trans c1) c2 ?_⟩)⟩)
      rw [e]; rw [sq_assoc] at c3; exact c3
  · have hk := hsw.2.2.1 z
    refine c_Gr_board (by omega) hS hG (by omega) (fun μ1 a1 a2 a3 => ⟨rfl, a2, hQ _ a1 a2 ?_⟩)
    rw [sq_at (t := t) (L := L) (k := nx (tK t L) r) rfl (by omega) (g := bdF (tK t L) (nx (tK t L) r)) (fun p hp => ?_)]
    · exact a3
    · unfold sngF; rw [hp, if_neg (by omega), if_neg (by omega), if_pos hk]
  · obtain ⟨k1, k2, k3⟩ := hsw.2.2.2 z
    have e : sq r (sngF (tK t L) (decide (δ < 8)) dn dt s) = sq (sq r s) (cpF (tK t L) s) := by
      rw [sq_assoc]
      obtain ⟨p, _ | l⟩ := r
      · rfl
      · refine sq_congr (fun l2 _ => ?_)
        have hp : tK t L p = nx (tK t L) (p, some l) := rfl
        show sngF _ _ _ _ _ p = _
        unfold sngF; rw [hp, if_neg k1, if_neg k2, if_neg k3]
    refine hs _ _ _ _ _ _ (by omega) hS hG (fun μ1 a1 a2 a3 => ⟨rfl, c_Gr_takeComparison (by omega) a2 a3 (fun μ2 b1 b2 b3 => ⟨rfl, hs _ _ _ _ _ _ (by omega) b2 b3 (fun μ3 c1 c2 c3 => ⟨rfl, ?_⟩)⟩)⟩)
    have hl2 := a3.nxlt
    rw [a3.px3]
    refine c_Cd_addN (by omega) c2 c3 (by omega) (fun μ4 d1 d2 d3 => ⟨rfl, d2, hQ _ (((a1.trans b1).trans c1).trans d1) d2 ?_⟩)
    rw [e]
    rw [sq_assoc, sq_assoc] at d3
    rw [show sq (sq r s) (cpF (tK t L) s) = sq (sq r s) (fun p => sq (cmF (tK t L) p) (fun p => sq (s p) (gAd (nx (tK t L) (sq r s)) 0))) from sq_congr (fun l hl => ?_)]
    · exact d3
    · unfold cpF
      rw [sq_assoc]
      have hp : tK t L (sq r s).1 = nx (tK t L) (sq r s) := by unfold nx; rw [hl]
      rw [hp]
theorem GrM.mono {A : KM} {δ m m' : Nat} {F : Nat → Rs} (h : GrM A t L q δ m F) (hm : m ≤ m') : GrM A t L q δ m' F := fun d rc rs Q μ r a b c e => h d rc rs Q μ r (by omega) b c e
theorem gNo_f (p : Nat) (_ : tK t L p = 47) : gNo p = (p, none) := rfl
theorem GrM.eV : ∀ e, e ≤ 8 → GrM K_Gr_value t L q (8 - e) (10 * e + 4) (gVal (tK t L) e)
  | 0, _ => by
    have h := GrM.value (t := t) (L := L) (q := q) (δ := 8) (m := 2) (dv := gNo) (ds := gNo) (Nat.le_refl _) (Nat.le_refl _) (fun z => absurd z (by decide)) (fun z => absurd z (by decide)) gNo_f gNo_f
    exact h
  | e + 1, he => by
    have ih := GrM.eV e (by omega)
    have h := GrM.value (t := t) (L := L) (q := q) (δ := 8 - (e + 1)) (m := 10 * e + 10) (dv := gVal (tK t L) e) (ds := gSum (tK t L) e) (by omega) (by omega) (fun _ => by rw [show 8 - (e + 1) + 1 = 8 - e by omega]; exact ih.mono (by omega)) (fun _ => by rw [show 8 - (e + 1) + 1 = 8 - e by omega]; exact (GrM.sum (GrM.product ih)).mono (by omega)) (fun p hp => val_f hp e) (fun p hp => sum_f hp e)
    rw [show decide (8 - (e + 1) < 8) = true from decide_eq_true (by omega)] at h
    exact h.mono (by omega)
theorem GrM.eS (e : Nat) (he : e ≤ 8) : GrM K_Gr_sum t L q (8 - e) (10 * e + 10) (gSum (tK t L) e) := GrM.sum (GrM.product (GrM.eV e he))
theorem GrM.eN : ∀ e, e ≤ 8 → GrM K_Gr_single t L q (8 - e) (10 * e + 11) (gSng (tK t L) e)
  | 0, _ => by
    have h := GrM.single (t := t) (L := L) (q := q) (δ := 8) (m := 10) (dn := gNo) (dt := gNo) (s := gSum (tK t L) 0) (Nat.le_refl _) (by decide) (fun z => absurd z (by decide)) (fun z => absurd z (by decide)) (GrM.eS 0 (by decide)) gNo_f gNo_f
    exact h
  | e + 1, he => by
    have ih := GrM.eN e (by omega)
    have h := GrM.single (t := t) (L := L) (q := q) (δ := 8 - (e + 1)) (m := 10 * e + 20) (dn := gSng (tK t L) e) (dt := gTes (tK t L) e) (s := gSum (tK t L) (e + 1)) (by omega) (by omega) (fun _ => by rw [show 8 - (e + 1) + 1 = 8 - e by omega]; exact ih.mono (by omega)) (fun _ => by rw [show 8 - (e + 1) + 1 = 8 - e by omega]; exact (GrM.test (GrM.both ih)).mono (by omega)) ((GrM.eS (e + 1) he).mono (by omega)) (fun p hp => sng_f hp e) (fun p hp => tes_f hp e)
    rw [show decide (8 - (e + 1) < 8) = true from decide_eq_true (by omega)] at h
    exact h.mono (by omega)
theorem c_Gr_sum8 : GrM K_Gr_sum t L q 0 90 (gSum (tK t L) 8) := GrM.eS 8 (Nat.le_refl _)
theorem c_Gr_test8 : GrM K_Gr_test t L q 0 97 (gTes (tK t L) 8) := GrM.test (GrM.both (GrM.eN 8 (Nat.le_refl _)))
end GRV
