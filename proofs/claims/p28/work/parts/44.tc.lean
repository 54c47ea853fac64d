/-! the component's tokens, all -/
/-- the kind of the token i that begins at p -/
noncomputable def kT1 (t : Nat → Nat) (L p i : Nat) : Nat := if L ≤ p then 46 else if i = 400 then 47 else tkK t L p
noncomputable def eT1 (t : Nat → Nat) (L p i : Nat) : Nat := if L ≤ p then p else if i = 400 then p else if tkK t L p = 47 then p else tkE t L p
def okW (t : Nat → Nat) (L p i : Nat) (W : Int64) : Prop := p < L → i < 400 → (tkK t L p = 45 → W = nmW t p (tkE t L p - p)) ∧ (tkK t L p ≠ 45 → W = nwW t p (tkE t L p - p))
def OwT (κ _i : Nat) : Prop := 10 ≤ κ ∧ κ ≤ 14
/-- the first k tokens -/
def TKP (μ : Mu) (t : Nat → Nat) (L k : Nat) : Prop := TP μ t L ∧ mI μ (hd 10 0) 4 = nI k ∧ ∀ i, i < k → mR μ (hd 11 0) i = some (hd 0 (tK t L i)) ∧ mI μ (hd 12 0) i = nI (tS t L i) ∧ okW t L (tS t L i) i (mL μ (hd 13 0) i) ∧ mI μ (hd 14 0) i = 0
section TKS
variable {d rc rs : Nat} {Q : Option Value → Mu → Prop} {μ : Mu} {t : Nat → Nat} {L : Nat}
theorem c_Tk_behindToken {p i : Nat} (hT : TP μ t L) (hD : 7 ≤ d) (hS : St μ) (hp : p ≤ L) (hi : i ≤ 400)
    (hQ : ∀ W, okW t L p i W → St (setI (setL (setI (setR μ (hd 11 0) i (hd 0 (kT1 t L p i))) (hd 12 0) i (nI p)) (hd 13 0) i W) (hd 14 0) i 0) → Q (some (.int (nI (eT1 t L p i)))) (setI (setL (setI (setR μ (hd 11 0) i (hd 0 (kT1 t L p i))) (hd 12 0) i (nI p)) (hd 13 0) i W) (hd 14 0) i 0)) : Cal K_Tk_behindToken d rc rs [.ref (hd 10 0), .int (nI p), .int (nI i)] μ Q := by
  have hL := hT.1
  have hk49 : kT1 t L p i < 49 := by
    unfold kT1
    split
    · omega
    · split
      · omega
      · have := tkK_rng (t := t) (L := L) (p := p); omega
  have hSt : ∀ W, St (setI (setL (setI (setR μ (hd 11 0) i (hd 0 (kT1 t L p i))) (hd 12 0) i (nI p)) (hd 13 0) i W) (hd 14 0) i 0) := fun W => se_11 hS (by decide) hk49
  have v4 : vp_in (nI i) 401 := vp_in_nI (by omega) (by decide)
  refine e_Tk_behindToken (g_Tk_behindToken_0 (by omega) hS ?_)
  rw [hT.2.2.1, nI_ltI (by omega) (by omega), nI_clamp (by omega), I400, nI_leI (by omega) (by omega)]
  refine ⟨fun h => ⟨fun h4 => ?_, fun h4 => ?_⟩, fun h => ?_⟩
  · have ek : kT1 t L p i = 47 := by unfold kT1; rw [if_neg (by omega), if_pos (by omega)]
    have ee : eT1 t L p i = p := by unfold eT1; rw [if_neg (by omega), if_pos (by omega)]
    have hq := hQ 0 (fun _ h5 => by omega) (hSt 0)
    have hs := hSt 0
    rw [ek] at hq hs
    rw [ee] at hq
    exact ⟨v4, v4, v4, v4, fun _ => ⟨hs, hq⟩, fun z => absurd rfl z⟩
  · have ek : kT1 t L p i = tkK t L p := by unfold kT1; rw [if_neg (by omega), if_neg (by omega)]
    obtain ⟨g1, g2⟩ := tkE_le (t := t) h
    have hr := tkK_rng (t := t) (L := L) (p := p)
    refine c_Tk_behindRun hT (by omega) hS h ⟨_, rfl, c_Tk_kindOf hT (by omega) hS h ⟨_, rfl, by omega, fun z => ?_, fun z => ?_⟩⟩
    · refine c_Tk_numberWorth hT (by omega) hS g1 g2 ⟨_, rfl, v4, v4, v4, v4, ?_⟩
      have hw : okW t L p i (nmW t p (tkE t L p - p)) := fun _ _ => ⟨fun _ => rfl, fun y => absurd z y⟩
      have hq := hQ _ hw (hSt _)
      have hs := hSt (nmW t p (tkE t L p - p))
      rw [ek] at hq hs
      refine ⟨fun y => absurd (z.symm.trans y) (by decide), fun y => ⟨hs, ?_⟩⟩
      have ee : eT1 t L p i = tkE t L p := by unfold eT1; rw [if_neg (by omega), if_neg (by omega), if_neg y]
      rw [ee] at hq; exact hq
    · refine c_Tk_nameWorth hT (by omega) hS g1 g2 ⟨_, rfl, v4, v4, v4, v4, ?_⟩
      have hw : okW t L p i (nwW t p (tkE t L p - p)) := fun _ _ => ⟨fun y => absurd y z, fun _ => rfl⟩
      have hq := hQ _ hw (hSt _)
      have hs := hSt (nwW t p (tkE t L p - p))
      rw [ek] at hq hs
      refine ⟨fun y => ⟨hs, ?_⟩, fun y => ⟨hs, ?_⟩⟩
      · have ee : eT1 t L p i = p := by unfold eT1; rw [if_neg (by omega), if_neg (by omega), if_pos y]
        rw [ee] at hq; exact hq
      · have ee : eT1 t L p i = tkE t L p := by unfold eT1; rw [if_neg (by omega), if_neg (by omega), if_neg y]
        rw [ee] at hq; exact hq
  · have ek : kT1 t L p i = 46 := by unfold kT1; rw [if_pos (by omega)]
    have ee : eT1 t L p i = p := by unfold eT1; rw [if_pos (by omega)]
    have hq := hQ 0 (fun h5 _ => absurd h5 h) (hSt 0)
    have hs := hSt 0
    rw [ek] at hq hs
    rw [ee] at hq
    exact ⟨v4, v4, v4, v4, fun z => absurd z (by decide), fun _ => ⟨hs, hq⟩⟩
noncomputable def aT (t : Nat → Nat) (L : Nat) : Nat → Nat
  | 0 => 0
  | k + 1 => tkE t L (tS t L k)
theorem aT_S {t : Nat → Nat} {L : Nat} : ∀ k, skB t L (aT t L k) = tS t L k
  | 0 => rfl
  | _ + 1 => rfl
theorem kT1_tK {t : Nat → Nat} {L k : Nat} : kT1 t L (tS t L k) k = tK t L k := rfl
theorem TKP.next {μ : Mu} {t : Nat → Nat} {L k : Nat} {W : Int64} (h : TKP μ t L k) (hk : k ≤ 400) (hW : okW t L (tS t L k) k W) : TKP (setI (setI (setL (setI (setR μ (hd 11 0) k (hd 0 (tK t L k))) (hd 12 0) k (nI (tS t L k))) (hd 13 0) k W) (hd 14 0) k 0) (hd 10 0) 4 (nI (k + 1))) t L (k + 1) := by
  obtain ⟨⟨a1, a2, a3, a4, a5⟩, h2, h3⟩ := h
  refine ⟨⟨a1, a2, ?_, ?_, fun j hj => ?_⟩, rd_eq, fun i hi => ⟨?_, ?_, ?_, ?_⟩⟩
  · rw [rd_k (by decide), rd_ne (by decide) (by decide) (by decide), mI_setL, rd_ne (by decide) (by decide) (by decide), mI_setR]; exact a3
  · have e : px (setI (setI (setL (setI (setR μ (hd 11 0) k (hd 0 (tK t L k))) (hd 12 0) k (nI (tS t L k))) (hd 13 0) k W) (hd 14 0) k 0) (hd 10 0) 4 (nI (k + 1))) (hd 10 0) 5 = px μ (hd 10 0) 5 := by
      unfold px
      rw [mR_setI, mR_setI, mR_setL, mR_setI, mR_set, if_neg (fun z => hd_ne (by decide) (by decide) (by decide) z.1)]
    rw [e]; exact a4
  · rw [rd_ne (by decide) (by decide) (by decide), rd_ne (by decide) (by decide) (by decide), mI_setL, rd_ne (by decide) (by decide) (by decide), mI_setR]; exact a5 j hj
  · rw [mR_setI, mR_setI, mR_setL, mR_setI, mR_set]
    by_cases hq : i = k
    · rw [if_pos ⟨rfl, hq⟩, hq]
    · rw [if_neg (fun z => hq z.2)]; exact (h3 i (by omega)).1
  · rw [rd_ne (by decide) (by decide) (by decide), rd_ne (by decide) (by decide) (by decide), mI_setL]
    by_cases hq : i = k
    · rw [hq, rd_eq]
    · rw [rd_k hq, mI_setR]; exact (h3 i (by omega)).2.1
  · rw [mL_setI, mL_setI, mL_set]
    by_cases hq : i = k
    · rw [if_pos ⟨rfl, hq⟩, hq]; exact hW
    · rw [if_neg (fun z => hq z.2), mL_setI, mL_setR]; exact (h3 i (by omega)).2.2.1
  · rw [rd_ne (by decide) (by decide) (by decide)]
    by_cases hq : i = k
    · rw [hq, rd_eq]
    · rw [rd_k hq, mI_setL, rd_ne (by decide) (by decide) (by decide), mI_setR]; exact (h3 i (by omega)).2.2.2
theorem c_Tk_scan (hD : 8 ≤ d) (hS : St μ) (hL : L ≤ 2000) (ht : ∀ k, k < L → t k < 256) (htp : ∀ k, k < L → mI μ (hd 9 0) k = sb (t k))
    (hQ : ∀ μ', Fr OwT μ μ' → St μ' → TKP μ' t L (nT t L + 1) → Q none μ') : Cal K_Tk_scan d rc rs [.ref (hd 10 0), .ref (hd 9 0), .int (nI L)] μ Q := by
  refine e_Tk_scan (g_Tk_scan_0 (by omega) (by decide) hS ?_)
  have hS0 : St (setI (setI (setR μ (hd 10 0) 5 (hd 9 0)) (hd 10 0) 6 (nI L)) (hd 10 0) 4 0) := sd_10_5 hS (by decide) (by decide)
  have fr0 : Fr OwT μ (setI (setI (setR μ (hd 10 0) 5 (hd 9 0)) (hd 10 0) 6 (nI L)) (hd 10 0) 4 0) := ((Fr.rf.setR (by decide) (by unfold OwT; decide)).setI (by decide) (by unfold OwT; decide)).setI (by decide) (by unfold OwT; decide)
  have h0 : TKP (setI (setI (setR μ (hd 10 0) 5 (hd 9 0)) (hd 10 0) 6 (nI L)) (hd 10 0) 4 0) t L 0 := by
    refine ⟨⟨hL, ht, by rw [rd_k (by decide), rd_eq], ?_, fun k hk => ?_⟩, rd_eq, fun i hi => absurd hi (Nat.not_lt_zero _)⟩
    · exact px_eq (κ := 9) (by decide) (if_pos ⟨rfl, rfl⟩ : up2 (mR μ) (hd 10 0) 5 (some (hd 9 0)) (hd 10 0) 5 = some (hd 9 0))
    · rw [rd_ne (by decide) (by decide) (by decide), rd_ne (by decide) (by decide) (by decide), mI_setR]; exact htp k hk
  have hn4 := nT_le (t := t) (L := L)
  have key : ∀ k, k ≤ nT t L → ∀ μ', Fr OwT μ μ' → St μ' → TKP μ' t L k → Wx K_Tk_scan d rc rs (fun r μ' => St μ' ∧ Q r μ') 20 [(0, .ref (hd 10 0)), (3, .int (nI (aT t L k))), (4, .int 1)] [] μ' := by
    have step : ∀ k, k ≤ nT t L → (k < nT t L → ∀ μ', Fr OwT μ μ' → St μ' → TKP μ' t L (k + 1) → Wx K_Tk_scan d rc rs (fun r μ' => St μ' ∧ Q r μ') 20 [(0, .ref (hd 10 0)), (3, .int (nI (aT t L (k + 1)))), (4, .int 1)] [] μ') → ∀ μ', Fr OwT μ μ' → St μ' → TKP μ' t L k → Wx K_Tk_scan d rc rs (fun r μ' => St μ' ∧ Q r μ') 20 [(0, .ref (hd 10 0)), (3, .int (nI (aT t L k))), (4, .int 1)] [] μ' := by
      intro k hk ih μ' f1 f2 f3
      have haL : aT t L k ≤ L := by
        cases k with
        | zero => exact Nat.zero_le _
        | succ j => exact (tkE_le (tS_lt (by omega))).2
      have hsL := tS_le k hk
      refine g_Tk_scan_20 (by omega) f2 ⟨fun h => absurd h (by decide), fun _ => ⟨fun h => absurd h ?_, fun _ => ?_⟩⟩
      · rw [f3.2.1, I400, nI_ltI (by omega) (by omega)]; omega
      refine c_Tk_behindBlanks f3.1 (by omega) f2 haL ⟨_, rfl, ?_⟩
      rw [f3.2.1, aT_S]
      refine c_Tk_behindToken f3.1 (by omega) f2 hsL (by omega) (fun W hW hS1 => ⟨_, rfl, ?_⟩)
      rw [kT1_tK] at hS1 ⊢
      have e4 : mI (setI (setL (setI (setR μ' (hd 11 0) k (hd 0 (tK t L k))) (hd 12 0) k (nI (tS t L k))) (hd 13 0) k W) (hd 14 0) k 0) (hd 10 0) 4 + 1 = nI (k + 1) := by
        rw [rd_ne (by decide) (by decide) (by decide), mI_setL, rd_ne (by decide) (by decide) (by decide), mI_setR, f3.2.1, nI_1]
      rw [e4]
      have nx := f3.next (by omega) hW
      have fr1 : Fr OwT μ (setI (setI (setL (setI (setR μ' (hd 11 0) k (hd 0 (tK t L k))) (hd 12 0) k (nI (tS t L k))) (hd 13 0) k W) (hd 14 0) k 0) (hd 10 0) 4 (nI (k + 1))) :=
        ((((f1.setR (by decide) (by unfold OwT; decide)).setI (by decide) (by unfold OwT; decide)).setL (by decide) (by unfold OwT; decide)).setI (by decide) (by unfold OwT; decide)).setI (by decide) (by unfold OwT; decide)
      have hS2 : St (setI (setI (setL (setI (setR μ' (hd 11 0) k (hd 0 (tK t L k))) (hd 12 0) k (nI (tS t L k))) (hd 13 0) k W) (hd 14 0) k 0) (hd 10 0) 4 (nI (k + 1))) := hS1
      rcases Nat.eq_or_lt_of_le hk with hke | hkl
      · have hend := nT_end (t := t) (L := L)
        rw [← hke] at hend
        have ee : eT1 t L (tS t L k) k = tS t L k := by
          unfold tK at hend
          unfold eT1
          split
          · rfl
          · split
            · rfl
            · rename_i a b
              rw [if_neg a, if_neg b] at hend
              have := tkK_rng (t := t) (L := L) (p := tS t L k)
              rw [if_pos (by omega)]
        rw [ee]
        refine ⟨fun _ => ?_, fun h => absurd (Int32.le_refl _) h⟩
        refine g_Tk_scan_20 (by omega) hS2 ⟨fun _ => ⟨hS2, hQ _ fr1 hS2 (by rw [← hke]; exact nx)⟩, fun h => absurd rfl h⟩
      · have hkk := tK_in hkl
        have hin := nT_in hkl
        have hl := tS_lt hkl
        have ee : eT1 t L (tS t L k) k = tkE t L (tS t L k) := by unfold eT1; rw [if_neg (by omega), if_neg (by omega), if_neg (by omega)]
        have hgt := tkE_gt (t := t) hl (by omega)
        have hle := (tkE_le (t := t) hl).2
        rw [ee]
        exact ⟨fun h => absurd h (nI_ge hgt (by omega)), fun _ => ih hkl _ fr1 hS2 nx⟩
    intro k hk
    obtain ⟨j, hj⟩ : ∃ j, nT t L = k + j := ⟨nT t L - k, by omega⟩
    clear hk
    induction j generalizing k with
    | zero => exact step k (by omega) (fun h => absurd h (by omega))
    | succ j ih => exact step k (by omega) (fun _ => ih (k + 1) (by omega))
  exact key 0 (Nat.zero_le _) _ fr0 hS0 h0
end TKS
