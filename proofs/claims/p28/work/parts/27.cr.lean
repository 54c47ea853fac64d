/-! marks that are new; what is sent -/
theorem c_PB_isMark {d rc rs : Nat} {x : Int32} {Q : Option Value → Mu → Prop} {μ : Mu} (hD : 1 ≤ d) (hS : St μ) (hQ : Q (some (.int (bI (0 ≤ x.toInt ∧ x.toInt ≤ 15)))) μ) : Cal K_PB_isMark d rc rs [.int x] μ Q := by
  refine e_PB_isMark (g_PB_isMark_0 hD hS ?_)
  have e0 : x < 0 ↔ x.toInt < 0 := by rw [Int32.lt_iff_toInt_lt]; exact Iff.rfl
  have e1 : (15 : Int32) < x ↔ 15 < x.toInt := by rw [Int32.lt_iff_toInt_lt]; exact Iff.rfl
  rw [e0, e1]
  refine ⟨fun h => ⟨hS, ?_⟩, fun h => ⟨fun h2 => ⟨hS, ?_⟩, fun h2 => ⟨hS, ?_⟩⟩⟩
  · rw [bI_f (by omega)] at hQ; exact hQ
  · rw [bI_f (by omega)] at hQ; exact hQ
  · rw [bI_t (by omega)] at hQ; exact hQ
/-- a mark that can be noted by an order -/
def newMk (D : DT) (b n : Nat) (x : Int32) : Prop := (0 ≤ x.toInt ∧ x.toInt ≤ 15) ∧ (shL D b n).length = 1 ∧ (nI (marksB D b n) >>> (x &&& 31)) &&& 1 = 0
theorem c_Wd_isNewMark {d rc rs w b n : Nat} {x : Int32} {Q : Option Value → Mu → Prop} {μ : Mu} {T : PT} {D : DT} (hC : XC μ w T D) (hD : 4 ≤ d) (hS : St μ) (hb : b < T 0 0) (hn : n < T 1 0) (hQ : Q (some (.int (bI (newMk D b n x)))) μ) : Cal K_Wd_isNewMark d rc rs [.ref (hd 29 w), .int (nI b), .int (nI n), .int x] μ Q := by
  have hw := hC.w2; have hP := hC.P5; have hN := hC.N6
  refine e_Wd_isNewMark (g_Wd_isNewMark_0 (by omega) hw hS ?_)
  refine c_PB_isMark (by omega) hS ⟨_, rfl, fun e => ⟨hS, ?_⟩, fun e => ?_⟩
  · rw [bI_z] at e
    rw [bI_f (fun z => e z.1)] at hQ; exact hQ
  · rw [bI_z, Classical.not_not] at e
    refine c_Wd_canNote hC (by omega) hS hb (by omega) ⟨_, rfl, fun e2 => ⟨hS, ?_⟩, fun e2 => ⟨vp_in_nI (by omega) (by decide), ?_⟩⟩
    · rw [bI_z] at e2
      rw [bI_f (fun z => e2 z.2.1)] at hQ; exact hQ
    · rw [bI_z, Classical.not_not] at e2
      rw [nI_clamp (by omega)]
      refine c_Wd_marksShown hC (by omega) hS hb (by omega) ⟨_, rfl, fun e3 => ⟨hS, ?_⟩, fun e3 => ⟨hS, ?_⟩⟩
      · rw [bI_t ⟨e, e2, e3⟩] at hQ; exact hQ
      · rw [bI_f (fun z => e3 z.2.2)] at hQ; exact hQ
/-- what is carried -/
def crC (D : DT) (r s : Nat) : Prop := D 10 r s = 0 ∧ kn D (D 12 r 0) s
noncomputable def carF (D : DT) (r : Nat) : Nat → DT
  | 0 => D
  | k + 1 => @ite _ (crC D r k) (Classical.propDecidable _) (ud (carF D r k) 10 r k (D 0 0 0 + D 9 r 0 + 1)) (carF D r k)
noncomputable def carN (D : DT) (r : Nat) (k : Nat) : Nat := sumN (fun s => bN (crC D r s)) k
noncomputable def sendD (D : DT) (r : Nat) : DT := if 0 < carN D r (D 1 0 0) then ud (carF D r (D 1 0 0)) 9 r 1 (D 9 r 1 + 1) else carF D r (D 1 0 0)
theorem carF_f {D : DT} {r f i j : Nat} : ∀ k, (f ≠ 10 ∨ i ≠ r ∨ k ≤ j) → carF D r k f i j = D f i j
  | 0, _ => rfl
  | k + 1, h => by
    rw [carF]
    split
    · rw [ud_ne (fun z => by have := z.1; have := z.2.1; have := z.2.2; omega), carF_f k (by omega)]
    · exact carF_f k (by omega)
theorem c_Wd_carry {d rc rs w r : Nat} {Q : Option Value → Mu → Prop} {μ : Mu} {T : PT} {D : DT} (hC : XC μ w T D) (hD : 2 ≤ d) (hS : St μ) (hr : r < T 2 0)
    (hQ : ∀ μ', Fr (OwW w) μ μ' → mR μ' = mR μ → St μ' → XC μ' w T (sendD D r) → Q (some (.int (nI (carN D r (D 1 0 0))))) μ') : Cal K_Wd_carry d rc rs [.ref (hd 29 w), .int (nI r)] μ Q := by
  have hw := hC.w2; have hP := hC.P5; have h60 := hC.S60; have hR := hC.R8; have hdy := hC.dayB
  obtain ⟨r1, r2, r3, r4, r5⟩ := hC.rdB hr
  refine e_Wd_carry (g_Wd_carry_0 (by omega) hw hS ?_)
  rw [nI_clamp (by omega), hC.r1 hr, nI_clamp (by omega)]
  refine ⟨vp_in_nI (by omega) (by decide), vp_in_nI (by omega) (by decide), ?_⟩
  generalize hb : D 12 r 0 = b at r1
  have hcn : ∀ k, k ≤ 60 → carN D r k ≤ 60 := fun k hk => by
    have : carN D r k ≤ k * 1 := sumN_le k (fun _ _ => bN_le); omega
  have key : ∀ k, k ≤ D 1 0 0 → ∀ μ', Fr (OwW w) μ μ' → mR μ' = mR μ → St μ' → XC μ' w T (carF D r k) → Wx K_Wd_carry d rc rs (fun r μ' => St μ' ∧ Q r μ') 23 [(0, .ref (hd 29 w)), (2, .ref (hd 27 (8 * w + r))), (3, .ref (hd 35 (5 * w + b))), (4, .int (nI (carN D r k))), (5, .int (nI k))] [] μ' := by
    refine up_loop _ (fun μ' f1 f2 f3 f4 => ?_) (fun k hk ih μ' f1 f2 f3 f4 => ?_)
    · refine g_Wd_carry_23 (by omega) hw (by omega) (by omega) f3 ⟨fun _ => ?_, fun h => absurd ?_ h⟩
      · have hc := hcn (D 1 0 0) h60
        have hsd : sendD D r = if 0 < carN D r (D 1 0 0) then ud (carF D r (D 1 0 0)) 9 r 1 (D 9 r 1 + 1) else carF D r (D 1 0 0) := rfl
        rw [I0, nI_leI (by omega) (by decide)]
        refine ⟨fun z => ⟨f3, hQ μ' f1 f2 f3 ?_⟩, fun z => ?_⟩
        · rw [hsd, if_neg (by omega)]; exact f4
        · have g1 := f4.set (f := 9) (i := r) (j := 1) (v := D 9 r 1 + 1) (by decide) ⟨by omega, by decide⟩ f4.2.1.ud91
          have e : mI μ' (hd 27 (8 * w + r)) 4 + 1 = nI (D 9 r 1 + 1) := by rw [f4.r4 hr, carF_f _ (Or.inl (by decide)), I1, nI_add]
          rw [e]
          have hSt : St (setI μ' (hd 27 (8 * w + r)) 4 (nI (D 9 r 1 + 1))) := f3
          exact ⟨hSt, hQ _ (f1.setI (by decide) (by unfold OwW; omega)) f2 hSt (by rw [hsd, if_pos (by omega)]; exact g1)⟩
      · rw [f4.cnt, carF_f _ (Or.inl (by decide))]; exact Int32.le_refl _
    · have c : ∀ f i j, f ≠ 10 → carF D r k f i j = D f i j := fun f i j h => carF_f k (Or.inl h)
      have c1 := c 1 0 0 (by decide)
      have hk' : k < carF D r k 1 0 0 := by rw [c1]; exact hk
      obtain ⟨b1, b2, b3, b4, b5⟩ := f4.bdB r1
      obtain ⟨a1, a2, a3, a4, a5, a6, a7⟩ := f4.shB hk'
      refine g_Wd_carry_23 (by omega) hw (by omega) (by omega) f3 ⟨fun h => absurd h ?_, fun _ => ?_⟩
      · rw [f4.cnt, c1]; exact nI_ge hk (by omega)
      have hin : vp_in (nI k) 60 := vp_in_nI (by omega) (by decide)
      have r5k := r5 k (by omega)
      have hco : mI μ' (hd 28 (8 * w + r)) k = -1 ↔ D 10 r k = 0 := by rw [f4.com hr (by omega), carF_f _ (by omega), oI_m1 (by omega)]
      have skip : ¬ crC D r k → Wx K_Wd_carry d rc rs (fun r μ' => St μ' ∧ Q r μ') 23 [(0, .ref (hd 29 w)), (2, .ref (hd 27 (8 * w + r))), (3, .ref (hd 35 (5 * w + b))), (4, .int (nI (carN D r k))), (5, .int (nI k + 1))] [] μ' := fun hn => by
        have e : carF D r (k + 1) = carF D r k := by rw [carF, if_neg hn]
        have e2 : carN D r (k + 1) = carN D r k := by unfold carN; rw [sumN, bN_f hn]; rfl
        have := ih μ' f1 f2 f3 (by rw [e]; exact f4)
        rw [e2, ← nI_1] at this
        exact this
      rw [nI_clamp (by omega), hco]
      refine ⟨hin, fun z => ⟨hin, ?_⟩, fun z => skip (fun y => z y.1)⟩
      have hx := a7 (carF D r k 4 k 0) (by omega)
      have hy := b1 (carF D r k 4 k 0) (by omega)
      refine c_Bd_has (by omega) f3 (by omega) (by omega) (f4.s1 hk') (by omega) (f4.stamp hk' (by omega)) (f4.num r1 (by omega)) (by omega) (by omega) ?_
      have hkn : (carF D r k 5 k (carF D r k 4 k 0) ≤ carF D r k 6 b (carF D r k 4 k 0)) = kn D b k := by
        simp only [kn, c 5 _ _ (by decide), c 4 _ _ (by decide), c 6 _ _ (by decide)]
      rw [hkn]
      refine ⟨_, rfl, fun y => ?_, fun y => ⟨hin, ?_⟩⟩
      · rw [bI_z] at y
        exact skip (fun x => y (by have := x.2; rw [hb] at this; exact this))
      · rw [bI_z, Classical.not_not] at y
        have hcr : crC D r k := ⟨z, by rw [hb]; exact y⟩
        have e : carF D r (k + 1) = ud (carF D r k) 10 r k (D 0 0 0 + D 9 r 0 + 1) := by rw [carF, if_pos hcr]
        have e2 : carN D r (k + 1) = carN D r k + 1 := by unfold carN; rw [sumN, bN_t hcr]
        have g1 := f4.set (f := 10) (i := r) (j := k) (v := D 0 0 0 + D 9 r 0 + 1) (by decide) ⟨by omega, by omega⟩ (f4.2.1.ud10 (by omega))
        have e3 : mI μ' (hd 29 w) 4 + mI μ' (hd 27 (8 * w + r)) 3 = nI (D 0 0 0 + D 9 r 0) := by
          rw [f4.day, f4.r3 hr, c 0 _ _ (by decide), c 9 _ _ (by decide), nI_add]
        rw [e3]
        have hSt : St (setI μ' (hd 28 (8 * w + r)) k (nI (D 0 0 0 + D 9 r 0))) := f3
        have := ih _ (f1.setI (by decide) (by unfold OwW; omega)) f2 hSt (by rw [e, ← oI_s]; exact g1)
        rw [e2, ← nI_1, ← nI_1] at this
        exact this
  exact key 0 (Nat.zero_le _) μ Fr.rf rfl hS hC
theorem c_Od_hasTest {d rc rs o m e : Nat} {Q : Option Value → Mu → Prop} {μ : Mu} (hD : 1 ≤ d) (hS : St μ) (ho : o < 42) (h7 : mI μ (hd 26 o) 7 = nI m) (h8 : mI μ (hd 26 o) 8 = nI e) (hm : m < 2 ^ 31) (he : e < 2 ^ 31) (hQ : Q (some (.int (bI (m < e)))) μ) : Cal K_Od_hasTest d rc rs [.ref (hd 26 o)] μ Q := by
  refine e_Od_hasTest (g_Od_hasTest_0 hD ho hS ?_)
  rw [h7, h8, nI_leI he hm]
  refine ⟨fun h => ⟨hS, ?_⟩, fun h => ⟨hS, ?_⟩⟩
  · rw [bI_f (by omega)] at hQ; exact hQ
  · rw [bI_t (by omega)] at hQ; exact hQ
