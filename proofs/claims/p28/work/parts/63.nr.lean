/-! the component's names: roads, and the whole list -/
theorem lg_lt0 {a b : Nat} (ha : a < 2 ^ 63) (hb : b < 2 ^ 63) : lg_cmp (Int64.ofNat a) (Int64.ofNat b) < 0 ↔ a < b := by
  unfold lg_cmp
  by_cases h : Int64.ofNat a > Int64.ofNat b
  · rw [if_pos h]
    have h' : Int64.ofNat b < Int64.ofNat a := h
    rw [Int64.lt_iff_toInt_lt, i64_toInt ha, i64_toInt hb] at h'
    exact ⟨fun z => absurd z (by decide), fun z => by omega⟩
  · rw [if_neg h]
    have h' : ¬ Int64.ofNat b < Int64.ofNat a := h
    rw [Int64.lt_iff_toInt_lt, i64_toInt ha, i64_toInt hb] at h'
    by_cases e : Int64.ofNat a = Int64.ofNat b
    · rw [if_pos e]
      have := i64_inj ha hb e
      exact ⟨fun z => absurd z (by decide), fun z => by omega⟩
    · rw [if_neg e]
      refine ⟨fun _ => ?_, fun _ => by decide⟩
      rcases Nat.lt_or_ge a b with z | z
      · exact z
      · exact absurd (by rw [show a = b by omega]) e
theorem lg_le0 {a b : Nat} (ha : a < 2 ^ 63) (hb : b < 2 ^ 63) : lg_cmp (Int64.ofNat a) (Int64.ofNat b) ≤ 0 ↔ a ≤ b := by
  unfold lg_cmp
  by_cases h : Int64.ofNat a > Int64.ofNat b
  · rw [if_pos h]
    have h' : Int64.ofNat b < Int64.ofNat a := h
    rw [Int64.lt_iff_toInt_lt, i64_toInt ha, i64_toInt hb] at h'
    exact ⟨fun z => absurd z (by decide), fun z => by omega⟩
  · rw [if_neg h]
    have h' : ¬ Int64.ofNat b < Int64.ofNat a := h
    rw [Int64.lt_iff_toInt_lt, i64_toInt ha, i64_toInt hb] at h'
    refine ⟨fun _ => by omega, fun _ => ?_⟩
    split <;> decide
theorem t32_9 : ∀ n, n < 10 → (Int64.ofNat n).toInt32 = nI n := by decide +kernel
section NRC
variable {d rc rs : Nat} {Q : Option Value → Mu → Prop} {μ : Mu} {t : Nat → Nat} {L q J : Nat}
def OwRd (i κ j : Nat) : Prop := (κ = 27 ∨ κ = 28) ∧ j = i
theorem c_Rd_lay {i : Nat} {x y z : Int32} (hD : 1 ≤ d) (hi : i < 32) (hS : St μ) (hQ : ∀ μ', Fr (OwRd i) μ μ' → mR μ' = mR μ → St μ' → mI μ' (hd 27 i) 1 = x → mI μ' (hd 27 i) 2 = y → mI μ' (hd 27 i) 3 = z → mI μ' (hd 27 i) 4 = 0 → (∀ k, k < 60 → mI μ' (hd 28 i) k = -1) → Q none μ') : Cal K_Rd_lay d rc rs [.ref (hd 27 i), .int x, .int y, .int z] μ Q := by
  have hS1 : St (setI (setI (setI (setI μ (hd 27 i) 1 x) (hd 27 i) 2 y) (hd 27 i) 3 z) (hd 27 i) 4 0) := hS
  have f1 : Fr (OwRd i) μ (setI (setI (setI (setI μ (hd 27 i) 1 x) (hd 27 i) 2 y) (hd 27 i) 3 z) (hd 27 i) 4 0) := (((Fr.rf.setI (by decide) ⟨Or.inl rfl, rfl⟩).setI (by decide) ⟨Or.inl rfl, rfl⟩).setI (by decide) ⟨Or.inl rfl, rfl⟩).setI (by decide) ⟨Or.inl rfl, rfl⟩
  have c1 : mI (setI (setI (setI (setI μ (hd 27 i) 1 x) (hd 27 i) 2 y) (hd 27 i) 3 z) (hd 27 i) 4 0) (hd 27 i) 1 = x := by rw [rd_k (by decide), rd_k (by decide), rd_k (by decide), rd_eq]
  have c2 : mI (setI (setI (setI (setI μ (hd 27 i) 1 x) (hd 27 i) 2 y) (hd 27 i) 3 z) (hd 27 i) 4 0) (hd 27 i) 2 = y := by rw [rd_k (by decide), rd_k (by decide), rd_eq]
  have c3 : mI (setI (setI (setI (setI μ (hd 27 i) 1 x) (hd 27 i) 2 y) (hd 27 i) 3 z) (hd 27 i) 4 0) (hd 27 i) 3 = z := by rw [rd_k (by decide), rd_eq]
  have c4 : mI (setI (setI (setI (setI μ (hd 27 i) 1 x) (hd 27 i) 2 y) (hd 27 i) 3 z) (hd 27 i) 4 0) (hd 27 i) 4 = 0 := rd_eq
  have r1 : mR (setI (setI (setI (setI μ (hd 27 i) 1 x) (hd 27 i) 2 y) (hd 27 i) 3 z) (hd 27 i) 4 0) = mR μ := rfl
  refine e_Rd_lay (g_Rd_lay_0 hD hi hS ?_)
  generalize setI (setI (setI (setI μ (hd 27 i) 1 x) (hd 27 i) 2 y) (hd 27 i) 3 z) (hd 27 i) 4 0 = μ1 at hS1 f1 c1 c2 c3 c4 r1 ⊢
  have key : ∀ k, k ≤ 60 → ∀ μ', Fr (OwRd i) μ μ' → mR μ' = mR μ → St μ' → (∀ j, mI μ' (hd 27 i) j = mI μ1 (hd 27 i) j) → (∀ j, j < k → mI μ' (hd 28 i) j = -1) → Wx K_Rd_lay d rc rs (fun r μ' => St μ' ∧ Q r μ') 23 [(0, .ref (hd 27 i)), (4, .int (nI k))] [] μ' := by
    refine up_loop 60 ?_ ?_
    · intro μ' g1 g2 g3 g4 g5
      refine g_Rd_lay_23 hD hi g3 ⟨fun _ => ⟨g3, hQ μ' g1 g2 g3 ((g4 1).trans c1) ((g4 2).trans c2) ((g4 3).trans c3) ((g4 4).trans c4) g5⟩, fun h => absurd (Int32.le_refl _) h⟩
    · intro k hk ih μ' g1 g2 g3 g4 g5
      refine g_Rd_lay_23 hD hi g3 ⟨fun h => absurd h (nI_ge hk (by decide)), fun _ => ⟨vp_in_nI hk (by decide), ?_⟩⟩
      rw [nI_clamp (by omega), nI_1]
      have hS2 : St (setI μ' (hd 28 i) k (-1)) := g3
      refine ih _ (g1.setI (by decide) ⟨Or.inr rfl, rfl⟩) g2 hS2 (fun j => by rw [rd_ne (by decide) (by decide) (by decide)]; exact g4 j) (fun j hj => ?_)
      by_cases e : j = k
      · rw [e, rd_eq]
      · rw [rd_k e]; exact g5 j (by omega)
  exact key 0 (Nat.zero_le _) μ1 f1 r1 hS1 (fun _ => rfl) (fun j hj => absurd hj (Nat.not_lt_zero _))
/-- what stands around a road's days -/
theorem road_at {K : Nat → Nat} {J n : Nat} (hLS : ∀ j, j < n → LSj K j) (hJ : J < n) (hK : K J = 4) : 6 ≤ J ∧ K (J - 6) = 1 ∧ K (J - 5) = 44 ∧ K (J - 4) = 2 ∧ K (J - 3) = 44 ∧ K (J - 2) = 3 ∧ K (J - 1) = 44 ∧ K (J + 1) = 45 ∧ rl K (J - 5) = 3 ∧ rl K (J - 3) = 4 ∧ rl K (J - 1) = 5 ∧ rl K (J + 1) = 6 := by
  obtain ⟨h6, h1⟩ := (hLS J hJ).2.2.2.2.1 hK
  obtain ⟨e1, e2, e3, e4, e5, e6, e7⟩ := (hLS (J - 6) (by omega)).2.1 h1
  rw [show J - 6 + 1 = J - 5 by omega] at e1
  rw [show J - 6 + 2 = J - 4 by omega] at e2
  rw [show J - 6 + 3 = J - 3 by omega] at e3
  rw [show J - 6 + 4 = J - 2 by omega] at e4
  rw [show J - 6 + 5 = J - 1 by omega] at e5
  rw [show J - 6 + 7 = J + 1 by omega] at e7
  refine ⟨h6, h1, e1, e2, e3, e4, e5, e7, ?_, ?_, ?_, ?_⟩
  · rw [rl_44 e1 (show K (J - 5 - 1) = 1 by rw [show J - 5 - 1 = J - 6 by omega]; exact h1) rfl]; rfl
  · rw [rl_44 e3 (show K (J - 3 - 1) = 2 by rw [show J - 3 - 1 = J - 4 by omega]; exact e2) rfl]; rfl
  · rw [rl_44 e5 (show K (J - 1 - 1) = 3 by rw [show J - 1 - 1 = J - 2 by omega]; exact e4) rfl]; rfl
  · unfold rl; rw [if_neg (by omega), if_neg (by omega), if_pos e7, if_pos (show K (J + 1 - 1) = 4 from hK)]
theorem num_J {x : Nat} (h : x < nT t L) (hk : tK t L x = 45) (hT : TKN μ t L) : mL μ (hd 13 0) x = Int64.ofNat (nvT t L x) ∧ nvT t L x < 1000000 := by
  have hs := tS_lt h
  have hw := (hT.2.2 x (by omega)).2.2 hs (by have := nT_le (t := t) (L := L); omega)
  obtain ⟨d1, d2, d3⟩ := dig h hk
  have hlt := nv_lt (p := tS t L x) (lnT t L x) d3
  have hp : 10 ^ lnT t L x ≤ 10 ^ 6 := Nat.pow_le_pow_right (by decide) d1
  rw [tK_in h] at hk
  refine ⟨(hw.1 hk).trans (nmW_eq _ d3), ?_⟩
  unfold nvT
  have : (10 : Nat) ^ 6 = 1000000 := by decide
  omega
/-- a road is laid -/
theorem c_layX (hD : 3 ≤ d) (hS : St μ) (hLS : ∀ j, j < nT t L → LSj (tK t L) j) (hx : J + 1 < nT t L) (hK : tK t L J = 4) (hN : NS μ t L q (J + 1)) (hQ : ∀ μ', Fr (OwNm q) μ μ' → St μ' → SX μ' t L q (J + 2) → Q none μ') : Cal K_Nm_layRoad d rc rs [.ref (hd 16 0), .int (nI J)] μ Q := by
  have hn4 := nT_le (t := t) (L := L)
  obtain ⟨h6, k6, k5, k4, k3, k2, k1, kp, r5, r3, r1, rp⟩ := road_at hLS (show J < nT t L by omega) hK
  obtain ⟨en, hn⟩ := num_J hx kp hN.1
  have he := ern_6 (t := t) (L := L) rp
  have hq2 : q < 2 := by
    have := hN.2.1
    rw [← this]; exact (d_16_4 hS (by decide)).2
  have c3 : 1 ≤ cn (tK t L) 3 (J + 1) := by
    have := cn_lt (K := tK t L) (r := 3) (show J - 5 < J + 1 by omega) r5
    omega
  have c8 := (hN.2.2.1 3 (by decide) (by decide)).2.2
  have hcap : capN 3 = 8 := rfl
  have e18 : mI μ (hd 18 q) 5 = nI (cn (tK t L) 3 (J + 1)) := (hN.2.2.1 3 (by decide) (by decide)).2.1
  -- the number is wrong
  have bad : ern t L (J + 1) = 5 → Cal K_Nm_fail (d - 1) 0 0 [.ref (hd 16 0), .int 5, .int (nI (J + 1))] μ (fun r μ3 => r = none ∧ (St μ3 ∧ Q none μ3)) := by
    intro e
    refine c_Nm_fail (by omega) hS hN.2.2.2.2.1 (fun h => ⟨rfl, h, ?_⟩)
    have f : Fr (OwNm q) μ (setI (setI μ (hd 16 0) 6 5) (hd 16 0) 7 (nI (J + 1))) := (Fr.rf.setI (by decide) (Or.inr (Or.inl rfl))).setI (by decide) (Or.inr (Or.inl rfl))
    exact hQ _ f h (SX.err ⟨hN.1, hN.2.1⟩ f rfl (hN.err hx e (by decide)) _)
  refine e_Nm_layRoad (g_Nm_layRoad_0 (by omega) hS ?_)
  rw [nI_1]
  refine c_Tk_worthAt (by omega) hS hN.1 (by omega) ⟨_, rfl, ?_⟩
  rw [en, show (1 : Int64) = Int64.ofNat 1 from rfl, show (9 : Int64) = Int64.ofNat 9 from rfl, lg_lt0 (by omega) (by decide), lg_le0 (by omega) (by decide)]
  refine ⟨fun z => bad (by rw [he, if_neg (by omega)]), fun z => ⟨fun y => ?_, fun y => bad (by rw [he, if_neg (by omega)])⟩⟩
  rw [if_pos (by omega)] at he
  rw [hN.2.1, e18, show nI (cn (tK t L) 3 (J + 1)) - 1 = nI (cn (tK t L) 3 (J + 1) - 1) by
    have := nI_m (cn (tK t L) 3 (J + 1) - 1)
    rw [show cn (tK t L) 3 (J + 1) - 1 + 1 = cn (tK t L) 3 (J + 1) by omega] at this
    exact this]
  refine ⟨fun h => absurd h (nI_pos (by omega)), fun _ => ⟨vp_in_nI (by omega) (by decide), ?_⟩⟩
  rw [show (3 : Int32) = nI 3 from rfl, nI_sub (show 3 ≤ J by omega), show nI J - 1 = nI (J - 1) by
    have := nI_m (J - 1)
    rw [show J - 1 + 1 = J by omega] at this
    exact this, nI_clamp (by omega), t32_9 _ (by omega)]
  refine c_Tk_meaningAt (by omega) hS hN.1 (by omega) ⟨_, rfl, c_Tk_meaningAt (by omega) hS hN.1 (by omega) ⟨_, rfl, ?_⟩⟩
  have m3 := hN.2.2.2.2.2.1 (J - 3) (by omega)
  have m1 := hN.2.2.2.2.2.1 (J - 1) (by omega)
  have e3 : mng t L (J + 1) (J - 3) = plc t L 1 (J - 3) (J - 3) - 1 := by unfold mng; rw [r3, if_pos ⟨by omega, by decide⟩]; rfl
  have e1 : mng t L (J + 1) (J - 1) = plc t L 1 (J - 1) (J - 1) - 1 := by unfold mng; rw [r1, if_pos ⟨by omega, by decide⟩]; rfl
  rw [if_pos (by omega), if_pos (by omega), m3, m1, e3, e1]
  refine c_Rd_lay (by omega) (by omega) hS (fun μ' f hr hs l1 l2 l3 l4 l5 => ⟨rfl, hs, ?_⟩)
  have f' : Fr (OwNm q) μ μ' := f.mono (fun κ j z => Or.inr (Or.inr (Or.inr (Or.inr ⟨z.1, by rw [z.2]; omega, by rw [z.2]; omega⟩))))
  have fI : ∀ κ j k, κ < 256 → κ ≠ 27 → κ ≠ 28 → mI μ' (hd κ j) k = mI μ (hd κ j) k := fun κ j k h1 h2 h3 => f.I h1 (by unfold OwRd; omega)
  refine hQ μ' f' hs (Or.inl (hN.next hx he (hN.1.fr f' OwNm.t) (by unfold px; rw [hr]; exact hN.2.1) (fun r h1 h3 => ⟨fun c _ => f.L (by decide) (by unfold OwRd; omega), fun z => by omega, ?_, ?_⟩) ⟨?_, ?_⟩ ?_ (fun i _ => fI _ _ _ (by decide) (by decide) (by decide)) ?_ (fun i hi hri z => ?_) (fun _ => ⟨c3, ?_⟩) (fI _ _ _ (by decide) (by decide) (by decide))))
  · rw [cn_no (by omega), fI _ _ _ (by decide) (by decide) (by decide)]; exact (hN.2.2.1 r h1 h3).2.1
  · rw [cn_no (by omega)]; exact (hN.2.2.1 r h1 h3).2.2
  · rw [fI _ _ _ (by decide) (by decide) (by decide), cn_no (by omega)]; exact hN.2.2.2.1.1
  · rw [cn_no (by omega)]; exact hN.2.2.2.1.2
  · rw [fI _ _ _ (by decide) (by decide) (by decide)]; exact hN.2.2.2.2.1
  · rw [fI _ _ _ (by decide) (by decide) (by decide), hN.2.2.2.2.2.1 (J + 1) (by omega), mng_0, mng_at, rp]; rfl
  · have ki : tK t L i = 45 := by
      by_cases a : 6 ≤ tK t L i ∧ tK t L i ≤ 9
      · rw [rl_7.mpr a] at hri; omega
      · by_cases b : tK t L i = 45
        · exact b
        · exfalso
          unfold rl at hri
          rw [if_neg a, if_neg b] at hri
          exact ite_ne (by decide) (ite_ne (ite_ne (by decide) (ite_ne (by decide) (ite_ne (by decide) (ite_ne (by decide) (ite_ne (by decide) (ite_ne (by decide) (ite_ne (by decide) (ite_ne (by decide) (ite_ne (by decide) (by decide)))))))))) (by decide)) hri
    have hiJ : i < J - 5 := by
      rcases Nat.lt_or_ge i (J - 5) with y | y
      · exact y
      · exfalso
        rcases (by omega : i = J - 5 ∨ i = J - 4 ∨ i = J - 3 ∨ i = J - 2 ∨ i = J - 1 ∨ i = J) with y | y | y | y | y | y <;> rw [y] at ki <;> omega
    have hc1 := cn_mono (K := tK t L) (r := 3) (show i ≤ J - 5 by omega)
    have hc2 := cn_lt (K := tK t L) (r := 3) (show J - 5 < J + 1 by omega) r5
    have hci := (hN.2.2.2.2.2.2.1 i hi hri).1
    have g : ∀ κ k, (κ = 27 ∨ κ = 28) → mI μ' (hd κ (16 + 8 * q + (cn (tK t L) 3 i - 1))) k = mI μ (hd κ (16 + 8 * q + (cn (tK t L) 3 i - 1))) k := fun κ k hκ => f.I (by omega) (by unfold OwRd; omega)
    unfold RdL at z ⊢
    rw [g _ _ (Or.inl rfl), g _ _ (Or.inl rfl), g _ _ (Or.inl rfl), g _ _ (Or.inl rfl)]
    exact ⟨z.1, z.2.1, z.2.2.1, z.2.2.2.1, fun k hk => by rw [g _ _ (Or.inr rfl)]; exact z.2.2.2.2 k hk⟩
  · refine ⟨?_, ?_, l3, l4, l5⟩
    · rw [show J + 1 - 4 = J - 3 by omega]; exact l1
    · rw [show J + 1 - 2 = J - 1 by omega]; exact l2
end NRC
