/-! the component's names, all -/
def SX (μ : Mu) (t : Nat → Nat) (L q x : Nat) : Prop := NS μ t L q x ∨ (TKN μ t L ∧ px μ (hd 16 0) 4 = q ∧ ∃ e, ES μ t L e)
section NLC
variable {d rc rs : Nat} {Q : Option Value → Mu → Prop} {μ : Mu} {t : Nat → Nat} {L q J : Nat}
theorem SX.tkn (h : SX μ t L q J) : TKN μ t L ∧ px μ (hd 16 0) 4 = q := h.elim (fun h => ⟨h.1, h.2.1⟩) (fun h => ⟨h.1, h.2.1⟩)
theorem SX.err {e : Nat} {μ' : Mu} (h : TKN μ t L ∧ px μ (hd 16 0) 4 = q) (f : Fr (OwNm q) μ μ') (hp : mR μ' (hd 16 0) 4 = mR μ (hd 16 0) 4) (he : ES μ' t L e) (x : Nat) : SX μ' t L q x :=
  Or.inr ⟨h.1.fr f OwNm.t, by unfold px; rw [hp]; exact h.2, e, he⟩
theorem ern_lk {x r : Nat} (hr : lr (rl (tK t L) x) = r) (hr0 : r ≠ 0) (h5 : rl (tK t L) x ≠ 5) : ern t L x = if plc t L r x x = 0 then 3 else 0 := by
  unfold lr at hr
  split at hr
  · rename_i h; rw [← hr]; exact ern_p rfl (by omega)
  · split at hr
    · rename_i h; rw [← hr]; exact ern_n rfl h
    · split at hr
      · rename_i h; rw [← hr]; exact ern_10 h
      · omega
theorem c_findX {x r : Nat} {cnt : Int32} (hD : 2 ≤ d) (hS : St μ) (hx : x < nT t L) (hk : tK t L x = 44) (hr : lr (rl (tK t L) x) = r) (h1 : 1 ≤ r) (h3 : r ≤ 3) (h5 : rl (tK t L) x ≠ 5) (hX : SX μ t L q x) (hc : NS μ t L q x → cnt = nI (cn (tK t L) r x)) (hQ : ∀ μ', Fr (OwNm q) μ μ' → St μ' → SX μ' t L q (x + 1) → Q none μ') : Cal K_Nm_find d rc rs [.ref (hd 16 0), .int (nI x), .ref (hd 17 (r - 1)), .int cnt] μ Q := by
  have he := ern_lk (t := t) (L := L) hr (by omega) h5
  rcases hX with hN | ⟨hT, hp, e, hE⟩
  · rw [hc hN]
    refine c_Nm_find hD hS hN h1 h3 hx hk (fun z hs => ?_) (fun z hs => ?_)
    · rw [if_pos z] at he
      have f : Fr (OwNm q) μ (setI (setI μ (hd 16 0) 6 3) (hd 16 0) 7 (nI x)) := (Fr.rf.setI (by decide) (Or.inr (Or.inl rfl))).setI (by decide) (Or.inr (Or.inl rfl))
      exact hQ _ f hs (SX.err ⟨hN.1, hN.2.1⟩ f rfl (hN.err hx he (by decide)) _)
    · rw [if_neg z] at he
      have f : Fr (OwNm q) μ (setI μ (hd 14 0) x (nI (plc t L r x x - 1))) := Fr.rf.setI (by decide) (Or.inl rfl)
      have := hN.look hx (by omega) he
      rw [hr] at this
      exact hQ _ f hs (Or.inl this)
  · refine c_Nm_findW hD hS hT hE.ne h1 h3 (by omega) (fun μ' hm hs => ?_)
    rcases hm with rfl | ⟨v, rfl⟩
    · exact hQ _ Fr.rf hs (Or.inr ⟨hT, hp, e, hE⟩)
    · have f : Fr (OwNm q) μ (setI μ (hd 14 0) x v) := Fr.rf.setI (by decide) (Or.inl rfl)
      exact hQ _ f hs (SX.err ⟨hT, hp⟩ f rfl (hE.fr (own := fun κ _ => κ = 14) (Fr.rf.setI (by decide) rfl) (by decide)) _)
/-- a name is told -/
theorem c_tellX {x r : Nat} (hD : 2 ≤ d) (hS : St μ) (hx : x < nT t L) (hr : rl (tK t L) x = r) (h1 : 1 ≤ r) (h3 : r ≤ 3) (hN : NS μ t L q x) (hQ : ∀ μ' v, (∀ μ'', μ'' = setI μ' (hd 18 q) (2 + r) v → St μ'' → Fr (OwNm q) μ μ'' ∧ SX μ'' t L q (x + 1)) → St μ' → mR μ' (hd 16 0) 4 = mR μ (hd 16 0) 4 → Q (some (.int v)) μ') : Cal K_Nm_tell d rc rs [.ref (hd 16 0), .int (nI x), .ref (hd 17 (r - 1)), .int (nI (cn (tK t L) r x))] μ Q := by
  have hk : tK t L x = 44 := rl_44' hr (by omega)
  have hcap : capN r ≤ 8 := by unfold capN; split; decide; split <;> decide
  have hc := (hN.2.2.1 r h1 h3).2
  have hpl := plc_le (t := t) (L := L) (r := r) (x := x) x
  have he := ern_new (t := t) (L := L) hr (by omega)
  refine e_Nm_tell (g_Nm_tell_0 (by omega) (by omega) hS (c_Tk_worthAt (by omega) hS hN.1 (by omega) ⟨_, rfl, ?_⟩))
  rw [nam_J hx hk hN.1]
  -- what is wrong
  have bad : ∀ y z : Int32, ∀ n : Nat, y = nI n → ern t L x = n → n ≠ 0 → z = nI x → Cal K_Nm_fail (d - 1) 0 0 [.ref (hd 16 0), .int y, .int z] μ (fun r' μ6 => r' = none ∧ (St μ6 ∧ Q (some (.int (nI (cn (tK t L) r x)))) μ6)) := by
    intro y z n hy hn hn0 hz
    refine c_Nm_fail (by omega) hS hN.2.2.2.2.1 (fun h => ⟨rfl, h, ?_⟩)
    rw [hy, hz] at h ⊢
    refine hQ _ _ (fun μ'' e hs => ?_) h rfl
    have f : Fr (OwNm q) μ μ'' := by rw [e]; exact ((Fr.rf.setI (by decide) (Or.inr (Or.inl rfl))).setI (by decide) (Or.inr (Or.inl rfl))).setI (by decide) (Or.inr (Or.inr (Or.inr (Or.inl ⟨rfl, rfl⟩))))
    have hE : ES μ'' t L x := by
      rw [e]
      exact (hN.err hx hn hn0).fr (own := fun κ _ => κ = 18) (Fr.rf.setI (by decide) rfl) (by decide)
    exact ⟨f, SX.err ⟨hN.1, hN.2.1⟩ f (by rw [e]; rfl) hE _⟩
  refine c_Nm_placeOf (by omega) hS hN h1 h3 hx hk ⟨_, rfl, fun z => ?_, fun z => ?_⟩
  · rw [oI_m1 (by omega)] at z
    rw [if_neg (fun y => y z)] at he
    rw [cap_eq r h1 h3, nI_ltI (by omega) (by omega), nI_clamp (by omega), nI_1]
    refine ⟨fun y => ⟨vp_in_nI (by omega) (by omega), ?_⟩, fun y => ?_⟩
    · rw [if_neg (by omega)] at he
      have hS1 : St (setL μ (hd 17 (r - 1)) (cn (tK t L) r x) (wT t L x)) := hS
      refine ⟨hS1, hQ _ _ (fun μ'' e hs => ?_) hS1 rfl⟩
      rw [e]
      exact ⟨(Fr.rf.setL (by decide) (Or.inr (Or.inr (Or.inl rfl)))).setI (by decide) (Or.inr (Or.inr (Or.inr (Or.inl ⟨rfl, rfl⟩)))), Or.inl (hN.new hx h1 h3 hr he)⟩
    · rw [if_pos (by omega)] at he
      exact bad _ _ 4 rfl he (by decide) rfl
  · rw [oI_m1 (by omega)] at z
    rw [if_pos z] at he
    exact bad _ _ 2 rfl he (by decide) rfl
/-- an order is counted -/
theorem c_ordX (hD : 2 ≤ d) (hS : St μ) (hx : J < nT t L) (hr : rl (tK t L) J = 7) (hN : NS μ t L q J) (hQ : ∀ μ', Fr (OwNm q) μ μ' → St μ' → SX μ' t L q (J + 1) → Q none μ') : Cal K_Nm_countOrder d rc rs [.ref (hd 16 0), .int (nI J)] μ Q := by
  have he := ern_7 (t := t) (L := L) hr
  have h20 := hN.2.2.2.1.2
  refine e_Nm_countOrder (g_Nm_countOrder_0 (by omega) hS ?_)
  rw [hN.2.2.2.1.1, nI_1, rd_eq, show (20 : Int32) = nI 20 from rfl, nI_leI (by omega) (by decide)]
  have hS1 : St (setI μ (hd 16 0) 5 (nI (cn (tK t L) 7 J + 1))) := hS
  have f : Fr (OwNm q) μ (setI μ (hd 16 0) 5 (nI (cn (tK t L) 7 J + 1))) := Fr.rf.setI (by decide) (Or.inr (Or.inl rfl))
  refine ⟨fun z => ⟨hS1, hQ _ f hS1 (Or.inl (hN.ord hx hr ?_))⟩, fun z => ?_⟩
  · rw [he, if_neg (by omega)]
  · rw [if_pos (by omega)] at he
    refine c_Nm_fail (by omega) hS1 (by rw [rd_k (by decide)]; exact hN.2.2.2.2.1) (fun h => ⟨rfl, h, ?_⟩)
    have f2 : Fr (OwNm q) μ (setI (setI (setI μ (hd 16 0) 5 (nI (cn (tK t L) 7 J + 1))) (hd 16 0) 6 4) (hd 16 0) 7 (nI J)) := (f.setI (by decide) (Or.inr (Or.inl rfl))).setI (by decide) (Or.inr (Or.inl rfl))
    refine hQ _ f2 h (SX.err ⟨hN.1, hN.2.1⟩ f2 rfl (e := J) ⟨?_, ?_, hx, by rw [he]; decide, hN.2.2.2.2.2.2.2.2.1⟩ _)
    · rw [rd_k (by decide), rd_eq, he]; rfl
    · rw [rd_eq]
theorem c_boardX {x : Nat} (hD : 3 ≤ d) (hS : St μ) (hx : x + 2 < nT t L) (hk1 : tK t L (x + 1) = 44) (hk2 : tK t L (x + 2) = 44) (hr1 : lr (rl (tK t L) (x + 1)) = 1) (hr2 : lr (rl (tK t L) (x + 2)) = 2) (h5 : rl (tK t L) (x + 1) ≠ 5) (hX : SX μ t L q (x + 1)) (hQ : ∀ μ', Fr (OwNm q) μ μ' → St μ' → SX μ' t L q (x + 3) → Q none μ') : Cal K_Nm_findBoard d rc rs [.ref (hd 16 0), .int (nI x)] μ Q := by
  have h5' : rl (tK t L) (x + 2) ≠ 5 := fun z => by rw [z] at hr2; exact absurd hr2 (by decide)
  refine e_Nm_findBoard (g_Nm_findBoard_0 (by omega) hS ?_)
  rw [nI_1, show (2 : Int32) = nI 2 from rfl, nI_add]
  refine c_findX (r := 1) (by omega) hS (by omega) hk1 hr1 (by decide) (by decide) h5 hX (fun hN => ?_) (fun μ1 a1 a2 a3 => ⟨rfl, c_findX (r := 2) (by omega) a2 hx hk2 hr2 (by decide) (by decide) h5' a3 (fun hN => ?_) (fun μ2 b1 b2 b3 => ⟨rfl, b2, hQ _ (a1.trans b1) b2 b3⟩)⟩)
  · rw [hN.2.1]; exact (hN.2.2.1 1 (by decide) (by decide)).2.1
  · rw [hN.2.1]; exact (hN.2.2.1 2 (by decide) (by decide)).2.1
/-- a road's other end -/
theorem c_otherX (hD : 3 ≤ d) (hS : St μ) (hx : J + 1 < nT t L) (hJ : 1 ≤ J) (hk : tK t L (J + 1) = 44) (hr : rl (tK t L) (J + 1) = 5) (hw : rl (tK t L) (J - 1) = 4) (hN : NS μ t L q (J + 1)) (hQ : ∀ μ', Fr (OwNm q) μ μ' → St μ' → SX μ' t L q (J + 2) → Q none μ') : Cal K_Nm_findOtherParish d rc rs [.ref (hd 16 0), .int (nI (J - 1)), .int (nI (J + 1))] μ Q := by
  have hn4 := nT_le (t := t) (L := L)
  have he := ern_5 (t := t) (L := L) hr
  rw [show J + 1 - 2 = J - 1 by omega] at he
  have hew := hN.2.2.2.2.2.2.2.2.1 (J - 1) (by omega)
  rw [ern_p hw (Or.inl rfl)] at hew
  have hpw : plc t L 1 (J - 1) (J - 1) ≠ 0 := fun z => by rw [if_pos z] at hew; cases hew
  have hmw := hN.2.2.2.2.2.1 (J - 1) (by omega)
  have emw : mng t L (J + 1) (J - 1) = plc t L 1 (J - 1) (J - 1) - 1 := by
    unfold mng; rw [hw, if_pos ⟨by omega, by decide⟩]; rfl
  rw [emw] at hmw
  have pl1 := plc_le (t := t) (L := L) (r := 1) (x := J - 1) (J - 1)
  have pl2 := plc_le (t := t) (L := L) (r := 1) (x := J + 1) (J + 1)
  have hc := (hN.2.2.1 1 (by decide) (by decide)).2.2
  have hcm := cn_mono (K := tK t L) (r := 1) (show J - 1 ≤ J + 1 by omega)
  have hcap : capN 1 = 5 := rfl
  refine e_Nm_findOtherParish (g_Nm_findOtherParish_0 (by omega) hS ?_)
  rw [hN.2.1, show (hd 18 q) = hd 18 q from rfl, show (3 : Nat) = 2 + 1 from rfl, (hN.2.2.1 1 (by decide) (by decide)).2.1]
  refine c_Nm_find (r := 1) (by omega) hS hN (by decide) (by decide) hx hk (fun z hs => ⟨rfl, ?_⟩) (fun z hs => ⟨rfl, ?_⟩)
  · rw [if_pos z] at he
    have f : Fr (OwNm q) μ (setI (setI μ (hd 16 0) 6 3) (hd 16 0) 7 (nI (J + 1))) := (Fr.rf.setI (by decide) (Or.inr (Or.inl rfl))).setI (by decide) (Or.inr (Or.inl rfl))
    have hE := hN.err hx he (by decide)
    have hT := hN.1.fr f OwNm.t
    have fin := hQ _ f hs (SX.err ⟨hN.1, hN.2.1⟩ f rfl hE _)
    exact c_Tk_meaningAt (by omega) hs hT (by omega) ⟨_, rfl, c_Tk_meaningAt (by omega) hs hT (by omega) ⟨_, rfl, fun _ => c_Nm_failW (by omega) hs hE.ne ⟨rfl, hs, fin⟩, fun _ => ⟨hs, fin⟩⟩⟩
  · rw [if_neg z] at he
    have f : Fr (OwNm q) μ (setI μ (hd 14 0) (J + 1) (nI (plc t L 1 (J + 1) (J + 1) - 1))) := Fr.rf.setI (by decide) (Or.inl rfl)
    have hT := hN.1.fr f OwNm.t
    refine c_Tk_meaningAt (by omega) hs hT (by omega) ⟨_, rfl, c_Tk_meaningAt (by omega) hs hT (by omega) ⟨_, rfl, ?_⟩⟩
    rw [if_pos (by omega), if_pos (by omega), rd_k (by omega), hmw, rd_eq, nI_eq (by omega) (by omega)]
    refine ⟨fun y => ?_, fun y => ?_⟩
    · rw [if_pos (by omega)] at he
      refine c_Nm_fail (by omega) hs (by rw [rd_ne (by decide) (by decide) (by decide)]; exact hN.2.2.2.2.1) (fun h => ⟨rfl, h, ?_⟩)
      have f2 : Fr (OwNm q) μ (setI (setI (setI μ (hd 14 0) (J + 1) (nI (plc t L 1 (J + 1) (J + 1) - 1))) (hd 16 0) 6 5) (hd 16 0) 7 (nI (J + 1))) := (f.setI (by decide) (Or.inr (Or.inl rfl))).setI (by decide) (Or.inr (Or.inl rfl))
      refine hQ _ f2 h (SX.err ⟨hN.1, hN.2.1⟩ f2 rfl (e := J + 1) ⟨?_, ?_, hx, by rw [he]; decide, hN.2.2.2.2.2.2.2.2.1⟩ _)
      · rw [rd_k (by decide), rd_eq, he]; rfl
      · rw [rd_eq]
    · rw [if_neg (by omega)] at he
      have := hN.look hx (by rw [hr]; decide) he
      rw [hr] at this
      exact ⟨hs, hQ _ f hs (Or.inl this)⟩
end NLC
