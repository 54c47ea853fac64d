/-! whether an order holds -/
def bq (x : Int32) (s : Nat) : Bool := x.toBitVec.getLsbD s
theorem bq_ext {x y : Int32} (h : ∀ s, s < 32 → bq x s = bq y s) : x = y := Int32.toBitVec_inj.mp (BitVec.eq_of_getLsbD_eq (fun s hs => h s hs))
theorem bq_and (x y : Int32) (s : Nat) : bq (x &&& y) s = (bq x s && bq y s) := by unfold bq; rw [Int32.toBitVec_and, BitVec.getLsbD_and]
theorem bq_0 (s : Nat) : bq 0 s = false := by
  show (0#32).getLsbD s = false
  exact BitVec.getLsbD_zero
theorem bq_1 (s : Nat) : bq 1 s = decide (s = 0) := by
  show (1#32).getLsbD s = _
  rw [BitVec.getLsbD_one]
  simp [eq_comm]
theorem cw_c : ∀ k, k < 32 → (nI k &&& 31).toBitVec = BitVec.ofNat 32 k := by decide +kernel
theorem cw_sm : ∀ k, k < 32 → (BitVec.ofNat 32 k).smod 32 = BitVec.ofNat 32 k := by decide +kernel
theorem bq_one {k s : Nat} (hk : k < 32) (hs : s < 32) : bq ((1 : Int32) <<< (nI k &&& 31)) s = decide (s = k) := by
  unfold bq
  rw [Int32.toBitVec_shiftLeft, cw_c k hk, cw_sm k hk, BitVec.shiftLeft_eq', BitVec.getLsbD_shiftLeft, BitVec.toNat_ofNat, Nat.mod_eq_of_lt (by omega)]
  show (decide (s < 32) && !decide (s < k) && (1#32).getLsbD (s - k)) = _
  rw [BitVec.getLsbD_one, Bool.eq_iff_iff]
  simp only [Bool.and_eq_true, decide_eq_true_eq, Bool.not_eq_true', decide_eq_false_iff_not]
  omega
theorem bq_sh {x : Int32} {k : Nat} (hk : k < 32) : bq (x >>> (nI k &&& 31)) 0 = bq x k := by
  unfold bq
  rw [Int32.toBitVec_shiftRight, cw_c k hk, cw_sm k hk]
  show (x.toBitVec.sshiftRight (BitVec.ofNat 32 k).toNat).getLsbD 0 = _
  rw [BitVec.getLsbD_sshiftRight, BitVec.toNat_ofNat, Nat.mod_eq_of_lt (by omega)]
  simp [hk]
theorem bq_t {x : Int32} {k : Nat} (hk : k < 32) : (x >>> (nI k &&& 31)) &&& 1 = 0 ↔ x &&& ((1 : Int32) <<< (nI k &&& 31)) = 0 := by
  constructor
  · intro h
    have h0 : bq ((x >>> (nI k &&& 31)) &&& 1) 0 = false := by rw [h]; exact bq_0 0
    rw [bq_and, bq_sh hk, bq_1, decide_eq_true rfl, Bool.and_true] at h0
    apply bq_ext
    intro s hs
    rw [bq_and, bq_one hk hs, bq_0]
    by_cases e : s = k
    · rw [e, h0]; rfl
    · rw [decide_eq_false e, Bool.and_false]
  · intro h
    have h0 : bq (x &&& ((1 : Int32) <<< (nI k &&& 31))) k = false := by rw [h]; exact bq_0 k
    rw [bq_and, bq_one hk hk, decide_eq_true rfl, Bool.and_true] at h0
    apply bq_ext
    intro s hs
    rw [bq_and, bq_1, bq_0]
    by_cases e : s = 0
    · rw [e, bq_sh hk, h0]; rfl
    · rw [decide_eq_false e, Bool.and_false]
noncomputable def holdsS (D : DT) (w : Nat → Nat) : Prop :=
  if w 5 = 0 then True else if w 5 = 1 then 2 ≤ (shL D (w 6) (w 7)).length else if w 5 = 2 then (shL D (w 6) (w 7)).length = 0 ∨ nI (D 0 0 0) - nI (D 0 0 0) / 5 * 5 = 0
  else if w 5 = 3 then nI (D 0 0 0) - nI (D 0 0 0) / nI (w 6) * nI (w 6) = nI (w 7) else if w 5 = 4 then w 7 < D 11 (w 6) 0 ∨ 2 ≤ (shL D (w 6) 0).length
  else bcE (nI (marksB D (w 6) (w 7))) < 3 ∧ (shL D (w 6) (w 7)).length ≤ 1
noncomputable def sumS (D : DT) (w : Nat → Nat) : Int32 := if w 3 = 0 then nI (w 4) else if w 3 = 1 then nI (D 0 0 0) * 7 - nI (w 4) else nI (w 4) * 3 * nI (shL D (w 1) (w 2)).length - nI (D 0 0 0)
/-- the numbers of an order are within their bounds -/
def ownOK (T : PT) (w : Nat → Nat) : Prop := w 0 ≤ 3 ∧ (w 0 = 3 → w 1 < T 2 0) ∧ (w 0 ≠ 3 → w 1 < T 0 0) ∧ w 2 < T 1 0 ∧ w 3 ≤ 2 ∧ w 4 ≤ 15 ∧ (w 0 = 2 → w 4 < 3) ∧ w 5 ≤ 5 ∧ w 6 < 2 ^ 20 ∧ w 7 < 2 ^ 20 ∧ (w 5 = 1 ∨ w 5 = 2 ∨ w 5 = 5 → w 6 < T 0 0 ∧ w 7 < T 1 0) ∧ (w 5 = 4 → w 6 < T 0 0 ∧ w 7 < 3) ∧ (w 5 = 3 → 2 ≤ w 6)
section SM
variable {d rc rs : Nat} {Q : Option Value → Mu → Prop} {μ μ' : Mu} {T : PT} {D D' : DT} {OO : Nat → Nat → Nat} {c c' c'' : Nat} {own : Nat → Nat → Prop} {Λ : List Ld}
theorem c_SI_many {κ i : Nat} {P : Nat → Prop} (hκ : κ < 256) (hs0 : mS μ (hd κ i) = (5, 60)) (hw : ∀ k, k < 60 → gI μ (hd κ i) k = bI (P k)) (hD : 1 ≤ d) (hS : St μ)
    (hQ : Q (some (.int (nI (sumN (fun k => bN (P k)) 60)))) μ) : Cal K_SI_many d rc rs [.ref (hd κ i)] μ Q := by
  refine e_SI_many (r_SI_many_0 hD ⟨60, hs0, ?_⟩)
  have loop : ∀ k, k ≤ 60 → Wx K_SI_many d rc rs (fun r μ' => St μ' ∧ Q r μ') 10 [(1, .int (nI (sumN (fun k => bN (P k)) k))), (2, .ref (hd κ i)), (3, .int (nI 60)), (4, .int (nI k))] [] μ := by
    refine up_loop 60 ?_ (fun k hk ih => ?_)
    · exact r_SI_many_10 hD ⟨fun _ => ⟨hS, hQ⟩, fun h => absurd (Int32.le_refl _) h⟩
    · refine r_SI_many_10 hD ⟨fun h => absurd ((nI_leI (by decide) (by omega)).mp h) (by omega), fun _ => ⟨60, ⟨hs0, vI hk (by decide)⟩, ?_⟩⟩
      rw [nI_clamp (show k < 2 ^ 31 by omega), hw k hk, nI_s, nI_s, I0, nI_add, Nat.add_zero]
      rw [sumN] at ih
      refine bIs (fun h => ?_) (fun h => ?_)
      · rw [bN_f h, Nat.add_zero] at ih; exact ih
      · rw [bN_t h] at ih; exact ih
  exact loop 0 (Nat.zero_le _)
theorem wait_N (hI : Inv T D) {b : Nat} (hb : b < T 0 0) : sumN (fun k => bN (pWt D b k)) 60 = D 11 b 0 := by
  rw [hI.2.1 b hb]
  refine sumN_congr _ (fun k hk => ?_)
  have h1 := (hI.1.2.2.1 b hb).2.2.1 k hk
  unfold pWt
  rcases (by omega : D 8 b k = 0 ∨ D 8 b k = 1) with z | z
  · rw [z, bN_f (by omega)]
  · rw [z, bN_t (by omega)]
theorem le1 {n : Nat} (h : n < 2 ^ 31) : nI n ≤ 1 ↔ n ≤ 1 := by rw [I1, nI_leI h (by decide)]
theorem c_SI_holds {k : Nat} (hR : SR μ T D OO c) (hI : Inv T D) (hk : k < T 6 0) (hw : ownOK T (OO k)) (hD : 3 ≤ d) (hc : 4 ≤ rc) (hs : 130 ≤ rs) (hS : St μ)
    (hQ : ∀ μ' c', c ≤ c' → FrS (Dy c c') μ μ' → St μ' → Q (some (.int (bI (holdsS D (OO k))))) μ') : Cal K_SI_holds d rc rs [.ref (hd 100 0), .ref (hd 118 k)] μ Q := by
  have hB := hI.1
  have hP5 := hB.1.1
  have hN6 := hB.1.2.1
  obtain ⟨w0, w1, w1', w2, w3, w4, w4', w5, w6, w7, wa, wb, wc⟩ := hw
  obtain ⟨x1, x2, x3⟩ := hR.2.2.2.2.2.2.2.2.1
  obtain ⟨y1, y2, y3⟩ := x3 k hk
  have v8 : ∀ {j}, j < 8 → vp_in (nI j) 8 := fun h => vI h (by decide)
  have g5 : gI μ (hd 118 k) (5 : Int32).toNatClampNeg = nI (OO k 5) := y3 5 (by decide)
  have g6 : gI μ (hd 118 k) (6 : Int32).toNatClampNeg = nI (OO k 6) := y3 6 (by decide)
  have g7 : gI μ (hd 118 k) (7 : Int32).toNatClampNeg = nI (OO k 7) := y3 7 (by decide)
  have q0 : ∀ {p : Prop}, p → bI p = 1 := fun h => bI_t h
  have fin : ∀ μ' c', c ≤ c' → FrS (Dy c c') μ μ' → (holdsS D (OO k) → (fun r μ' => St μ' ∧ Q r μ') (some (.int 1)) μ') ∧ (¬ holdsS D (OO k) → (fun r μ' => St μ' ∧ Q r μ') (some (.int 0)) μ') := fun μ' c' h1 g => by
    have S := g.st (fun κ i z => z.lo) hS
    have q := hQ μ' c' h1 g S
    exact ⟨fun z => ⟨S, by rw [bI_t z] at q; exact q⟩, fun z => ⟨S, by rw [bI_f z] at q; exact q⟩⟩
  have fin0 := fin μ c (Nat.le_refl _) FrS.rf
  unfold holdsS at fin fin0
  refine e_SI_holds (r_SI_holds_0 (by omega) ⟨8, ⟨y2, v8 (j := 6) (by decide)⟩, 8, ⟨y2, v8 (j := 7) (by decide)⟩, 8, ⟨y2, v8 (j := 5) (by decide)⟩, ?_⟩)
  rw [g5, g6, g7]
  have c6 : (nI (OO k 6)).toNatClampNeg = OO k 6 := nI_clamp (by omega)
  refine ⟨fun e => ?_, fun e => ?_, fun e => ?_, fun e => ?_, fun e => ?_, fun e => ?_⟩
  · have e' : OO k 5 = 0 := (nI_eq (by omega) (by decide)).mp e
    rw [if_pos e'] at fin0
    exact fin0.1 trivial
  · have e' : OO k 5 = 1 := (nI_eq (by omega) (by decide)).mp e
    have ha := wa (Or.inl e')
    rw [if_neg (by omega), if_pos e'] at fin
    refine ⟨2, 65, ⟨by omega, by omega⟩, hR.1.1, c_SI_shows hR hB (by omega) (Nat.le_refl _) (Nat.le_refl _) hS ha.1 ha.2 (fun μ1 g1 s1 r1 => ⟨_, rfl, _, s1, fun h => ?_, fun h => ?_⟩)⟩
    · have hl := shL_len D (OO k 6) (OO k 7)
      exact (fin μ1 (c + 2) (by omega) g1).2 (by have := (le1 (by omega)).mp h; omega)
    · have hl := shL_len D (OO k 6) (OO k 7)
      exact (fin μ1 (c + 2) (by omega) g1).1 (by
        rcases Nat.lt_or_ge (shL D (OO k 6) (OO k 7)).length 2 with z | z
        · exact absurd ((le1 (by omega)).mpr (by omega)) h
        · exact z)
  · have e' : OO k 5 = 2 := (nI_eq (by omega) (by decide)).mp e
    have ha := wa (Or.inr (Or.inl e'))
    rw [if_neg (by omega), if_neg (by omega), if_pos e'] at fin
    have hl := shL_len D (OO k 6) (OO k 7)
    refine ⟨2, 65, ⟨by omega, by omega⟩, hR.1.1, c_SI_shows hR hB (by omega) (Nat.le_refl _) (Nat.le_refl _) hS ha.1 ha.2 (fun μ1 g1 s1 r1 => ⟨_, rfl, _, s1, fun h => ?_, fun h => ?_⟩)⟩
    · exact (fin μ1 (c + 2) (by omega) g1).1 (Or.inl ((nI_eq (by omega) (by decide)).mp h))
    · have R1 := hR.dy g1 (by omega)
      refine ⟨R1.1.1, by decide, ?_⟩
      rw [R1.1.2.1]
      have hn : ¬ (shL D (OO k 6) (OO k 7)).length = 0 := fun z => h (by rw [z]; rfl)
      exact ⟨fun h2 => (fin μ1 (c + 2) (by omega) g1).1 (Or.inr h2), fun h2 => (fin μ1 (c + 2) (by omega) g1).2 (fun z => z.elim hn h2)⟩
  · have e' : OO k 5 = 3 := (nI_eq (by omega) (by decide)).mp e
    have ha := wc e'
    rw [if_neg (by omega), if_neg (by omega), if_neg (by omega), if_pos e'] at fin0
    refine ⟨hR.1.1, fun z => absurd ((nI_eq (by omega) (by decide)).mp (show nI (OO k 6) = nI 0 from z)) (by omega), ?_⟩
    rw [hR.1.2.1]
    exact ⟨fin0.1, fin0.2⟩
  · have e' : OO k 5 = 4 := (nI_eq (by omega) (by decide)).mp e
    have ha := wb e'
    have x10 := hR.2.2.2.2.2.1
    rw [if_neg (by omega), if_neg (by omega), if_neg (by omega), if_neg (by omega), if_pos e'] at fin fin0
    have hw60 := (hB.2.2.1 _ ha.1).2.2.2.1
    refine ⟨hR.1.1, _, x10.1, _, ⟨x10.2.1, vI ha.1 (by omega)⟩, hd 112 (OO k 6), by rw [c6]; exact (x10.2.2 _ ha.1).1, c_SI_many (P := pWt D (OO k 6)) (by decide) (x10.2.2 _ ha.1).2.1 (x10.2.2 _ ha.1).2.2 (by omega) hS ⟨_, rfl, ?_⟩⟩
    rw [wait_N hI ha.1, nI_ltI (by omega) (by omega)]
    refine ⟨fun h => fin0.1 (Or.inl h), fun h => ⟨2, 65, ⟨by omega, by omega⟩, hR.1.1, ?_⟩⟩
    have hl := shL_len D (OO k 6) 0
    exact c_SI_shows (n := 0) hR hB (by omega) (Nat.le_refl _) (Nat.le_refl _) hS ha.1 (by omega) (fun μ1 g1 s1 r1 => ⟨_, rfl, _, s1, fun h2 => (fin μ1 (c + 2) (by omega) g1).2 (fun z => by
        have := (le1 (by omega)).mp h2
        omega), fun h2 => (fin μ1 (c + 2) (by omega) g1).1 (Or.inr (by
        rcases Nat.lt_or_ge (shL D (OO k 6) 0).length 2 with z | z
        · exact absurd ((le1 (by omega)).mpr (by omega)) h2
        · exact z))⟩)
  · have e' : OO k 5 = 5 := by
      rw [nI_toInt (by omega)] at e
      omega
    have ha := wa (Or.inr (Or.inr e'))
    rw [if_neg (by omega), if_neg (by omega), if_neg (by omega), if_neg (by omega), if_neg (by omega)] at fin
    have hl := shL_len D (OO k 6) (OO k 7)
    refine ⟨2, 65, ⟨by omega, by omega⟩, hR.1.1, c_SI_marks hR hB (by omega) (Nat.le_refl _) (Nat.le_refl _) hS ha.1 ha.2 (fun μ1 g1 S1 => ⟨_, rfl, c_bitCount (by omega) S1 ⟨_, rfl, fun h => ?_, fun h => ?_⟩⟩)⟩
    · exact (fin μ1 (c + 2) (by omega) g1).2 (fun z => absurd h (Int32.not_le.mpr z.1))
    · have R1 := hR.dy g1 (by omega)
      refine ⟨2, 65, ⟨by omega, by omega⟩, R1.1.1, c_SI_shows R1 hB (by omega) (Nat.le_refl _) (Nat.le_refl _) S1 ha.1 ha.2 (fun μ2 g2 s2 r2 => ⟨_, rfl, _, s2, ?_⟩)⟩
      have g12 : FrS (Dy c (c + 2 + 2)) μ μ2 := (g1.mono (fun κ i z => by unfold Dy at z ⊢; omega)).trans (g2.mono (fun κ i z => by unfold Dy at z ⊢; omega))
      rw [I1, nI_ltI (by decide) (by omega)]
      exact ⟨fun h2 => (fin μ2 (c + 2 + 2) (by omega) g12).2 (fun z => by omega), fun h2 => (fin μ2 (c + 2 + 2) (by omega) g12).1 ⟨Int32.not_le.mp h, by omega⟩⟩
end SM
