/-! the component's names -/
def lr (r : Nat) : Nat := if r = 4 ∨ r = 5 ∨ r = 8 ∨ r = 12 then 1 else if r = 9 ∨ r = 13 then 2 else if r = 10 then 3 else 0
/-- what the name i means, once the tokens below J are looked at -/
noncomputable def mng (t : Nat → Nat) (L J i : Nat) : Nat := if i < J ∧ lr (rl (tK t L) i) ≠ 0 then plc t L (lr (rl (tK t L) i)) i i - 1 else 0
def TKN (μ : Mu) (t : Nat → Nat) (L : Nat) : Prop := TP μ t L ∧ mI μ (hd 10 0) 4 = nI (nT t L + 1) ∧ ∀ i, i < nT t L + 1 → mR μ (hd 11 0) i = some (hd 0 (tK t L i)) ∧ mI μ (hd 12 0) i = nI (tS t L i) ∧ okW t L (tS t L i) i (mL μ (hd 13 0) i)
def OwNm (q κ i : Nat) : Prop := κ = 14 ∨ κ = 16 ∨ κ = 17 ∨ (κ = 18 ∧ i = q) ∨ ((κ = 27 ∨ κ = 28) ∧ 16 + 8 * q ≤ i ∧ i < 16 + 8 * q + 8)
theorem TKN.fr {μ μ' : Mu} {t : Nat → Nat} {L : Nat} {own : Nat → Nat → Prop} (h : TKN μ t L) (f : Fr own μ μ') (ho : ∀ κ i, 9 ≤ κ → κ ≤ 13 → ¬ own κ i) : TKN μ' t L := by
  obtain ⟨⟨a1, a2, a3, a4, a5⟩, h2, h3⟩ := h
  refine ⟨⟨a1, a2, ?_, ?_, fun j hj => ?_⟩, ?_, fun i hi => ?_⟩
  · rw [f.I (by decide) (ho _ _ (by decide) (by decide))]; exact a3
  · unfold px at a4 ⊢; rw [f.R (by decide) (ho _ _ (by decide) (by decide))]; exact a4
  · rw [f.I (by decide) (ho _ _ (by decide) (by decide))]; exact a5 j hj
  · rw [f.I (by decide) (ho _ _ (by decide) (by decide))]; exact h2
  · rw [f.R (by decide) (ho _ _ (by decide) (by decide)), f.I (by decide) (ho _ _ (by decide) (by decide)), f.L (by decide) (ho _ _ (by decide) (by decide))]; exact h3 i hi
theorem OwNm.t {q : Nat} : ∀ κ i, 9 ≤ κ → κ ≤ 13 → ¬ OwNm q κ i := fun κ i a b => by unfold OwNm; omega
def capN (r : Nat) : Nat := if r = 1 then 5 else if r = 2 then 6 else 8
/-- a road as it is laid -/
def RdL (μ : Mu) (t : Nat → Nat) (L q i : Nat) : Prop := mI μ (hd 27 (16 + 8 * q + (cn (tK t L) 3 i - 1))) 1 = nI (plc t L 1 (i - 4) (i - 4) - 1) ∧ mI μ (hd 27 (16 + 8 * q + (cn (tK t L) 3 i - 1))) 2 = nI (plc t L 1 (i - 2) (i - 2) - 1) ∧ mI μ (hd 27 (16 + 8 * q + (cn (tK t L) 3 i - 1))) 3 = nI (nvT t L i) ∧ mI μ (hd 27 (16 + 8 * q + (cn (tK t L) 3 i - 1))) 4 = 0 ∧ ∀ k, k < 60 → mI μ (hd 28 (16 + 8 * q + (cn (tK t L) 3 i - 1))) k = -1
/-- the tokens below J are looked at, and nothing is wrong -/
def NS (μ : Mu) (t : Nat → Nat) (L q J : Nat) : Prop := TKN μ t L ∧ px μ (hd 16 0) 4 = q ∧
  (∀ r, 1 ≤ r → r ≤ 3 → (∀ i, i < J → rl (tK t L) i = r → mL μ (hd 17 (r - 1)) (cn (tK t L) r i) = wT t L i) ∧ mI μ (hd 18 q) (2 + r) = nI (cn (tK t L) r J) ∧ cn (tK t L) r J ≤ capN r) ∧
  (mI μ (hd 16 0) 5 = nI (cn (tK t L) 7 J) ∧ cn (tK t L) 7 J ≤ 20) ∧ mI μ (hd 16 0) 6 = 0 ∧
  (∀ i, i < nT t L + 1 → mI μ (hd 14 0) i = nI (mng t L J i)) ∧
  (∀ i, i < J → rl (tK t L) i = 6 → 1 ≤ cn (tK t L) 3 i ∧ RdL μ t L q i) ∧ (J ≤ nT t L ∧ (∀ i, i < J → ern t L i = 0) ∧ mI μ (hd 18 q) 6 = nI (min (cn (tK t L) 7 (nT t L)) 20))
/-- something is wrong with the token e, and with none ahead of it -/
def ES (μ : Mu) (t : Nat → Nat) (L e : Nat) : Prop := mI μ (hd 16 0) 6 = nI (ern t L e) ∧ mI μ (hd 16 0) 7 = nI e ∧ e < nT t L ∧ ern t L e ≠ 0 ∧ ∀ i, i < e → ern t L i = 0
section NMC
variable {d rc rs : Nat} {Q : Option Value → Mu → Prop} {μ : Mu} {t : Nat → Nat} {L q J : Nat}
theorem c_Tk_worthAt {i : Nat} (hD : 1 ≤ d) (hS : St μ) (hT : TKN μ t L) (hi : i ≤ nT t L) (hQ : Q (some (.long (mL μ (hd 13 0) i))) μ) : Cal K_Tk_worthAt d rc rs [.ref (hd 10 0), .int (nI i)] μ Q := by
  have hn4 := nT_le (t := t) (L := L)
  refine e_Tk_worthAt (g_Tk_worthAt_0 hD hS ⟨fun h => absurd h (nI_pos (by omega)), fun _ => ?_⟩)
  rw [hT.2.1, nI_leI (by omega) (by omega), nI_clamp (by omega)]
  exact ⟨fun h => absurd h (by omega), fun _ => ⟨vp_in_nI (by omega) (by decide), hS, hQ⟩⟩
theorem c_Tk_meaningAt {i : Nat} (hD : 1 ≤ d) (hS : St μ) (hT : TKN μ t L) (hi : i < 1000) (hQ : Q (some (.int (if i ≤ nT t L then mI μ (hd 14 0) i else 0))) μ) : Cal K_Tk_meaningAt d rc rs [.ref (hd 10 0), .int (nI i)] μ Q := by
  have hn4 := nT_le (t := t) (L := L)
  refine e_Tk_meaningAt (g_Tk_meaningAt_0 hD hS ⟨fun h => absurd h (nI_pos (by omega)), fun _ => ?_⟩)
  rw [hT.2.1, nI_leI (by omega) (by omega), nI_clamp (by omega)]
  refine ⟨fun h => ⟨hS, ?_⟩, fun h => ⟨vp_in_nI (by omega) (by decide), hS, ?_⟩⟩
  · rw [if_neg (by omega)] at hQ; exact hQ
  · rw [if_pos (by omega)] at hQ; exact hQ
theorem c_Tk_setMeaning {i : Nat} {x : Int32} (hD : 1 ≤ d) (hS : St μ) (hT : TKN μ t L) (hi : i ≤ nT t L) (hQ : St (setI μ (hd 14 0) i x) → Q none (setI μ (hd 14 0) i x)) : Cal K_Tk_setMeaning d rc rs [.ref (hd 10 0), .int (nI i), .int x] μ Q := by
  have hn4 := nT_le (t := t) (L := L)
  refine e_Tk_setMeaning (g_Tk_setMeaning_0 hD hS ⟨fun h => absurd h (nI_pos (by omega)), fun _ => ?_⟩)
  rw [hT.2.1, nI_leI (by omega) (by omega), nI_clamp (by omega)]
  have hS1 : St (setI μ (hd 14 0) i x) := hS
  exact ⟨fun h => absurd h (by omega), fun _ => ⟨vp_in_nI (by omega) (by decide), hS1, hQ hS1⟩⟩
theorem cap_eq : ∀ r, 1 ≤ r → r ≤ 3 → [5, 6, 8].getD (r - 1) 0 = capN r := by
  intro r h1 h2
  rcases (by omega : r = 1 ∨ r = 2 ∨ r = 3) with rfl | rfl | rfl <;> rfl
theorem rl_44' {K : Nat → Nat} {j r : Nat} (h : rl K j = r) (hr : r ≠ 0 ∧ r ≠ 6 ∧ r ≠ 7 ∧ r ≠ 11) : K j = 44 := by
  by_cases h1 : 6 ≤ K j ∧ K j ≤ 9
  · unfold rl at h; rw [if_pos h1] at h; omega
  · by_cases h2 : 13 ≤ K j ∧ K j ≤ 15
    · unfold rl at h; rw [if_neg h1, if_pos h2] at h; omega
    · by_cases h3 : K j = 45
      · unfold rl at h; rw [if_neg h1, if_neg h2, if_pos h3] at h
        split at h <;> omega
      · by_cases h4 : K j = 44
        · exact h4
        · rw [rl_0 ⟨h4, h3, h1, h2⟩] at h; omega
theorem nam_J {x : Nat} (h : x < nT t L) (hk : tK t L x = 44) (hT : TKN μ t L) : mL μ (hd 13 0) x = wT t L x := by
  have hs := tS_lt h
  have hw := (hT.2.2 x (by omega)).2.2 hs (by have := nT_le (t := t) (L := L); omega)
  rw [tK_in h] at hk
  exact hw.2 (by rw [hk]; decide)
/-- where a name stands among those told -/
theorem c_Nm_placeOf {r x : Nat} (hD : 1 ≤ d) (hS : St μ) (hN : NS μ t L q J) (h1 : 1 ≤ r) (h3 : r ≤ 3) (hx : x < nT t L) (hk : tK t L x = 44) (hQ : Q (some (.int (oI (plc t L r x J)))) μ) : Cal K_Nm_placeOf d rc rs [.long (wT t L x), .ref (hd 17 (r - 1)), .int (nI (cn (tK t L) r J))] μ Q := by
  have hc := (hN.2.2.1 r h1 h3).2.2
  have hcap : capN r ≤ 8 := by unfold capN; split; decide; split <;> decide
  have ha := (hN.2.2.1 r h1 h3).1
  refine e_Nm_placeOf (g_Nm_placeOf_0 hD (by omega) hS ?_)
  have key : ∀ c, c ≤ cn (tK t L) r J → (∀ i, i < J → rl (tK t L) i = r → cn (tK t L) r i < c → ¬ sm t L i x) → Wx K_Nm_placeOf d rc rs (fun r μ' => St μ' ∧ Q r μ') 3 [(0, .long (wT t L x)), (2, .ref (hd 17 (r - 1))), (3, .int (nI (cn (tK t L) r J))), (4, .int (nI c))] [] μ := by
    refine up_loop (cn (tK t L) r J) ?_ ?_
    · intro hf
      refine g_Nm_placeOf_3 hD (by omega) hS ⟨fun _ => ⟨hS, ?_⟩, fun h => absurd (Int32.le_refl _) h⟩
      rw [(plc_0 J).mpr (fun i hi hr => hf i hi hr (cn_lt hi hr)), oI_0] at hQ; exact hQ
    · intro c hc' ih hf
      obtain ⟨i, i1, i2, i3⟩ := cn_at J c hc'
      have hiN : i < nT t L := by have := hN.2.2.2.2.2.2.2.1; omega
      have ki : tK t L i = 44 := rl_44' i2 (by omega)
      have ea := ha i i1 i2
      rw [i3] at ea
      refine g_Nm_placeOf_3 hD (by omega) hS ⟨fun h => absurd h (nI_ge (by omega) (by omega)), fun _ => ?_⟩
      rw [cap_eq r h1 h3, nI_leI (by omega) (by omega), nI_clamp (by omega), ea, lg_cmp_eq, wT_eq hiN hx ki hk]
      refine ⟨fun h => absurd h (by omega), fun _ => ⟨vp_in_nI (by omega) (by omega), fun h => ⟨hS, ?_⟩, fun h => ?_⟩⟩
      · have e := plc_s (x := x) J i i1 i2 h (fun k' hk' hr' => hf k' (by omega) hr' (by have := cn_lt hk' hr'; omega))
        rw [e, i3, oI_s] at hQ; exact hQ
      · rw [nI_1]
        refine ih (fun k hk1 hk2 hk3 => ?_)
        rcases Nat.lt_or_ge (cn (tK t L) r k) c with z | z
        · exact hf k hk1 hk2 z
        · have e : k = i := by
            rcases Nat.lt_trichotomy k i with y | y | y
            · have := cn_lt y hk2; omega
            · exact y
            · have := cn_lt y i2; omega
          rw [e]; exact h
  exact key 0 (Nat.zero_le _) (fun i hi hr hl => absurd hl (Nat.not_lt_zero _))
/-- where a name stands, whatever is told -/
theorem c_Nm_placeOfW {r : Nat} {w : Int64} {x : Int32} (hD : 1 ≤ d) (hS : St μ) (h1 : 1 ≤ r) (h3 : r ≤ 3) (hQ : ∀ y, Q (some (.int y)) μ) : Cal K_Nm_placeOf d rc rs [.long w, .ref (hd 17 (r - 1)), .int x] μ Q := by
  have hcap : capN r ≤ 8 := by unfold capN; split; decide; split <;> decide
  refine e_Nm_placeOf (g_Nm_placeOf_0 hD (by omega) hS ?_)
  have key : ∀ c, c ≤ capN r → Wx K_Nm_placeOf d rc rs (fun r μ' => St μ' ∧ Q r μ') 3 [(0, .long w), (2, .ref (hd 17 (r - 1))), (3, .int x), (4, .int (nI c))] [] μ := by
    refine up_loop (capN r) ?_ ?_
    · refine g_Nm_placeOf_3 hD (by omega) hS ⟨fun _ => ⟨hS, hQ _⟩, fun _ => ⟨fun _ => ⟨hS, hQ _⟩, fun h => absurd ?_ h⟩⟩
      rw [cap_eq r h1 h3]; exact Int32.le_refl _
    · intro c hc ih
      refine g_Nm_placeOf_3 hD (by omega) hS ⟨fun _ => ⟨hS, hQ _⟩, fun _ => ⟨fun _ => ⟨hS, hQ _⟩, fun _ => ⟨?_, fun _ => ⟨hS, hQ _⟩, fun _ => by rw [nI_1]; exact ih⟩⟩⟩
      rw [cap_eq r h1 h3]; exact vp_in_nI (by omega) (by omega)
  exact key 0 (Nat.zero_le _)
theorem c_Nm_fail {x y : Int32} (hD : 1 ≤ d) (hS : St μ) (h6 : mI μ (hd 16 0) 6 = 0) (hQ : St (setI (setI μ (hd 16 0) 6 x) (hd 16 0) 7 y) → Q none (setI (setI μ (hd 16 0) 6 x) (hd 16 0) 7 y)) : Cal K_Nm_fail d rc rs [.ref (hd 16 0), .int x, .int y] μ Q := by
  have hS1 : St (setI (setI μ (hd 16 0) 6 x) (hd 16 0) 7 y) := hS
  exact e_Nm_fail (g_Nm_fail_0 hD hS ⟨fun _ => ⟨hS1, hQ hS1⟩, fun z => absurd h6 z⟩)
theorem c_Nm_failW {x y : Int32} (hD : 1 ≤ d) (hS : St μ) (h6 : mI μ (hd 16 0) 6 ≠ 0) (hQ : Q none μ) : Cal K_Nm_fail d rc rs [.ref (hd 16 0), .int x, .int y] μ Q :=
  e_Nm_fail (g_Nm_fail_0 hD hS ⟨fun z => absurd z h6, fun _ => ⟨hS, hQ⟩⟩)
/-- a name is looked for -/
theorem c_Nm_find {r : Nat} (hD : 2 ≤ d) (hS : St μ) (hN : NS μ t L q J) (h1 : 1 ≤ r) (h3 : r ≤ 3) (hx : J < nT t L) (hk : tK t L J = 44) (hn : plc t L r J J = 0 → St (setI (setI μ (hd 16 0) 6 3) (hd 16 0) 7 (nI J)) → Q none (setI (setI μ (hd 16 0) 6 3) (hd 16 0) 7 (nI J))) (hy : plc t L r J J ≠ 0 → St (setI μ (hd 14 0) J (nI (plc t L r J J - 1))) → Q none (setI μ (hd 14 0) J (nI (plc t L r J J - 1)))) : Cal K_Nm_find d rc rs [.ref (hd 16 0), .int (nI J), .ref (hd 17 (r - 1)), .int (nI (cn (tK t L) r J))] μ Q := by
  have hpl := plc_le (t := t) (L := L) (r := r) (x := J) J
  have hc := (hN.2.2.1 r h1 h3).2.2
  have hcap : capN r ≤ 8 := by unfold capN; split; decide; split <;> decide
  refine e_Nm_find (g_Nm_find_0 (by omega) (by omega) hS (c_Tk_worthAt (by omega) hS hN.1 (by omega) ⟨_, rfl, ?_⟩))
  rw [nam_J hx hk hN.1]
  refine c_Nm_placeOf (by omega) hS hN h1 h3 hx hk ⟨_, rfl, fun z => ?_, fun z => ?_⟩
  · rw [oI_m1 (by omega)] at z
    exact c_Nm_fail (by omega) hS hN.2.2.2.2.1 (fun h => ⟨rfl, h, hn z h⟩)
  · rw [oI_m1 (by omega)] at z
    rw [oI_p (by omega)]
    exact c_Tk_setMeaning (by omega) hS hN.1 (by omega) (fun h => ⟨rfl, h, hy z h⟩)
/-- a name is looked for, when all is wrong -/
theorem c_Nm_findW {r x : Nat} {y : Int32} (hD : 2 ≤ d) (hS : St μ) (hT : TKN μ t L) (h6 : mI μ (hd 16 0) 6 ≠ 0) (h1 : 1 ≤ r) (h3 : r ≤ 3) (hx : x ≤ nT t L) (hQ : ∀ μ', (μ' = μ ∨ ∃ v, μ' = setI μ (hd 14 0) x v) → St μ' → Q none μ') : Cal K_Nm_find d rc rs [.ref (hd 16 0), .int (nI x), .ref (hd 17 (r - 1)), .int y] μ Q := by
  refine e_Nm_find (g_Nm_find_0 (by omega) (by omega) hS (c_Tk_worthAt (by omega) hS hT hx ⟨_, rfl, c_Nm_placeOfW (by omega) hS h1 h3 (fun v => ⟨_, rfl, fun z => ?_, fun z => ?_⟩)⟩))
  · exact c_Nm_failW (by omega) hS h6 ⟨rfl, hS, hQ μ (Or.inl rfl) hS⟩
  · exact c_Tk_setMeaning (by omega) hS hT hx (fun h => ⟨rfl, h, hQ _ (Or.inr ⟨_, rfl⟩) h⟩)
end NMC
