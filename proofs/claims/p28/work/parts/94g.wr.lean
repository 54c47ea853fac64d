/-! marks, writing, noting, merging of the law's boards -/
def OwH (c c' κ i : Nat) : Prop := (100 ≤ κ ∧ κ < 130) ∨ Dy c c' κ i
/-- what the law's boards do, but for loads -/
def SimP (μ : Mu) (T : PT) (D' : DT) (OO : Nat → Nat → Nat) (c c' : Nat) (μ' : Mu) : Prop := c ≤ c' ∧ FrS (OwH c c') μ μ' ∧ St μ' ∧ SR μ' T D' OO c' ∧ gR μ' (hd 100 0) 13 = gR μ (hd 100 0) 13
theorem OwM.h {b S c κ i : Nat} (h : OwM b S c κ i) : OwH c (c + 2) κ i := by unfold OwM Dy at h; unfold OwH Dy; omega
theorem Dy.h {c c' κ i : Nat} (h : Dy c c' κ i) : OwH c c' κ i := Or.inr h
theorem OwH.lo {c c' κ i : Nat} (h : OwH c c' κ i) : 100 ≤ κ := by unfold OwH Dy at h; omega
theorem OwH.w {c0 c c' c1 κ i : Nat} (h : OwH c c' κ i) (h0 : c0 ≤ c) (h1 : c' ≤ c1) : OwH c0 c1 κ i := by unfold OwH Dy at h ⊢; omega
section SIG
variable {d rc rs : Nat} {Q : Option Value → Mu → Prop} {μ μ' : Mu} {T : PT} {D D' : DT} {OO : Nat → Nat → Nat} {c c' c'' : Nat}
/-- first something is looked at, and then done -/
theorem SimP.after {μ1 : Mu} (g : FrS (Dy c c') μ μ1) (hc : c ≤ c') (h : SimP μ1 T D' OO c' c'' μ') : SimP μ T D' OO c c'' μ' := by
  obtain ⟨h1, h2, h3, h4, h5⟩ := h
  exact ⟨by omega, (g.mono (fun κ i z => z.h.w (Nat.le_refl _) h1)).trans (h2.mono (fun κ i z => z.w hc (Nat.le_refl _))), h3, h4, h5.trans (g.gr (by decide) (by unfold Dy; omega))⟩
theorem SimP.look (g : FrS (Dy c c') μ μ') (hc : c ≤ c') (hS : St μ) (hR : SR μ T D OO c) : SimP μ T D OO c c' μ' := ⟨hc, g.mono (fun κ i z => z.h), g.st (fun κ i z => z.lo) hS, hR.dy g hc, g.gr (by decide) (by unfold Dy; omega)⟩
theorem take_s {l : List Nat} {x : Nat} (h : x < l.length) : l.take (x + 1) = l.take x ++ [l.getD x 0] := by
  rw [List.take_succ, List.getD_eq_getElem?_getD, List.getElem?_eq_getElem h]; rfl
theorem c_SI_marks {b n : Nat} (hR : SR μ T D OO c) (hB : DB T D) (hD : 2 ≤ d) (hc : 2 ≤ rc) (hs : 65 ≤ rs) (hS : St μ) (hb : b < T 0 0) (hn : n < T 1 0)
    (hQ : ∀ μ', FrS (Dy c (c + 2)) μ μ' → St μ' → Q (some (.int (nI (marksB D b n)))) μ') : Cal K_SI_marks d rc rs [.ref (hd 100 0), .int (nI b), .int (nI n)] μ Q := by
  have hN6 := hB.1.2.1
  have hS60 := hB.1.2.2.2.2.1
  refine e_SI_marks (r_SI_marks_0 (by omega) ⟨2, 65, ⟨hc, hs⟩, hR.1.1, c_SI_shows hR hB (by omega) (Nat.le_refl _) (Nat.le_refl _) hS hb hn (fun μ1 g1 s1 w1 => ⟨_, rfl, _, s1, ?_⟩)⟩)
  have R := hR.dy g1 (by omega)
  have hlen := shL_len D b n
  have loop : ∀ x, x ≤ (shL D b n).length → Wx K_SI_marks d (rc - 2) (rs - 65) (fun r μ' => St μ' ∧ Q r μ') 18 [(0, .ref (hd 100 0)), (3, .int (nI (((shL D b n).take x).foldl (fun m v => m ||| D 4 (v - 1) 3) 0))), (4, .ref (hd 130 (c + 1))), (5, .int (nI (shL D b n).length)), (6, .int (nI x))] [] μ1 := by
    refine up_loop _ ?_ (fun x hx ih => ?_)
    · refine r_SI_marks_18 (by omega) ⟨fun _ => ?_, fun h => absurd (Int32.le_refl _) h⟩
      rw [List.take_length]
      have s := g1.st (fun κ i z => z.lo) hS
      exact ⟨s, hQ μ1 g1 s⟩
    · have hm := shL_mem hB hb (show n < 6 by omega) (getD_mem.mpr ⟨x, hx, rfl⟩)
      refine r_SI_marks_18 (by omega) ⟨fun h => absurd ((nI_leI (by omega) (by omega)).mp h) (by omega), fun _ => ⟨_, ⟨s1, vI hx (by omega)⟩, R.1.1, _, R.2.1.1, ?_⟩⟩
      rw [nI_clamp (show x < 2 ^ 31 by omega), w1 x hx, nI_clamp (show (shL D b n).getD x 0 - 1 < 2 ^ 31 by omega)]
      refine ⟨_, ⟨R.2.1.2.1, vI hm.2 (by omega)⟩, _, (R.2.1.2.2 _ hm.2).1, 6, ⟨(R.2.1.2.2 _ hm.2).2.1, vI (k := 3) (by decide) (by decide)⟩, ?_⟩
      rw [show ((3 : Int32).toNatClampNeg) = 3 from rfl, (R.2.1.2.2 _ hm.2).2.2 3 (by decide), nI_or, nI_s]
      rw [take_s hx, List.foldl_append] at ih
      exact ih
  have z := loop 0 (Nat.zero_le _)
  exact z
theorem c_SI_write {b n v : Nat} (hR : SR μ T D OO c) (hI : Inv T D) (hD : 4 ≤ d) (hc : 7 ≤ rc) (hs : 265 ≤ rs) (hS : St μ) (hb : b < T 0 0) (hn : n < T 1 0) (hv : v ≤ 9999)
    (h1 : D 1 0 0 = 60 → Q (some (.int (-1))) μ) (h2 : D 1 0 0 < 60 → ∀ μ' c', SimP μ T (wrD T D b n v) OO c c' μ' → Q (some (.int (nI (D 1 0 0)))) μ') : Cal K_SI_write d rc rs [.ref (hd 100 0), .int (nI b), .int (nI n), .int (nI v)] μ Q := by
  have hB := hI.1
  have hN6 := hB.1.2.1
  have hS60 := hB.1.2.2.2.2.1
  refine e_SI_write (r_SI_write_0 (by omega) ⟨hR.1.1, _, hR.2.1.1, _, hR.2.1.2.1, fun e => ⟨hS, h1 ((nI_eq (by omega) (by omega)).mp e)⟩, fun e => ?_⟩)
  have h60 : D 1 0 0 < 60 := by
    have : D 1 0 0 ≠ 60 := fun z => e (by rw [z]; rfl)
    omega
  refine ⟨2, 65, ⟨by omega, by omega⟩, hR.1.1, c_SI_marks hR hB (by omega) (Nat.le_refl _) (Nat.le_refl _) hS hb hn (fun μ1 g1 S1 => ⟨_, rfl, 5, 200, ⟨by omega, by omega⟩, ?_⟩)⟩
  have R1 := hR.dy g1 (by omega)
  exact ⟨R1.1.1, c_SI_make (h := 0) R1 hI h60 (by omega) (Nat.le_refl _) (Nat.le_refl _) S1 hb hn hv (marksB_lt hB hb (by omega)) (by decide) (fun μ2 g2 S2 R2 l2 => ⟨_, rfl, S2, h2 h60 μ2 (c + 2 + 2) (SimP.after g1 (by omega) ⟨by omega, g2.mono (fun κ i z => z.h), S2, R2, l2⟩)⟩)⟩
theorem sh_first {b n : Nat} (hB : DB T D) (hb : b < T 0 0) (hn : n < 6) (h : (shL D b n).length ≠ 0) : (shL D b n).getD 0 0 ≠ 0 ∧ (shL D b n).getD 0 0 - 1 < D 1 0 0 := shL_mem hB hb hn (getD_mem.mpr ⟨0, by omega, rfl⟩)
theorem c_SI_note {b n k : Nat} (hR : SR μ T D OO c) (hI : Inv T D) (hD : 4 ≤ d) (hc : 7 ≤ rc) (hs : 265 ≤ rs) (hS : St μ) (hb : b < T 0 0) (hn : n < T 1 0) (hk : k < 16)
    (h1 : ¬ ((shL D b n).length = 1 ∧ D 1 0 0 < 60) → ∀ μ' c', SimP μ T D OO c c' μ' → Q (some (.int (-1))) μ') (h2 : (shL D b n).length = 1 → D 1 0 0 < 60 → ∀ μ' c', SimP μ T (noD T D b n k) OO c c' μ' → Q (some (.int (nI (D 1 0 0)))) μ') : Cal K_SI_note d rc rs [.ref (hd 100 0), .int (nI b), .int (nI n), .int (nI k)] μ Q := by
  have hB := hI.1
  have hN6 := hB.1.2.1
  have hS60 := hB.1.2.2.2.2.1
  have hlen := shL_len D b n
  refine e_SI_note (r_SI_note_0 (by omega) ⟨2, 65, ⟨by omega, by omega⟩, hR.1.1, c_SI_shows hR hB (by omega) (Nat.le_refl _) (Nat.le_refl _) hS hb hn (fun μ1 g1 s1 w1 => ⟨_, rfl, _, s1, ?_, fun e => ?_⟩)⟩)
  · intro e
    have e1 : (shL D b n).length = 1 := (nI_eq (by omega) (by omega)).mp e
    have R := hR.dy g1 (by omega)
    have S1 := g1.st (fun κ i z => z.lo) hS
    refine ⟨R.1.1, _, R.2.1.1, _, R.2.1.2.1, fun e => ?_, fun e => ?_⟩
    · have e60 : D 1 0 0 = 60 := (nI_eq (by omega) (by decide)).mp e
      exact ⟨S1, h1 (fun z => by omega) μ1 (c + 2) (SimP.look g1 (by omega) hS hR)⟩
    · have h60 : D 1 0 0 < 60 := by
        have : D 1 0 0 ≠ 60 := fun z => e (by rw [z]; rfl)
        omega
      have hm := sh_first hB hb (show n < 6 by omega) (by omega)
      have w0 : gI μ1 (hd 130 (c + 1)) (0 : Int32).toNatClampNeg = nI ((shL D b n).getD 0 0 - 1) := w1 0 (by omega)
      have hv : D 4 ((shL D b n).getD 0 0 - 1) 2 = valB D b n := by unfold valB; rw [if_neg hm.1]
      have hmk : D 4 ((shL D b n).getD 0 0 - 1) 3 = marksB D b n := by
        unfold marksB
        obtain ⟨v, ev⟩ : ∃ v, shL D b n = [v] := List.length_eq_one_iff.mp e1
        rw [ev]
        show D 4 (v - 1) 3 = 0 ||| D 4 (v - 1) 3
        rw [Nat.zero_or]
      refine ⟨R.1.1, _, R.2.1.1, _, ⟨s1, vI (k := 0) (by omega) (by omega)⟩, ?_⟩
      rw [w0, nI_clamp (show (shL D b n).getD 0 0 - 1 < 2 ^ 31 by omega)]
      refine ⟨_, ⟨R.2.1.2.1, vI hm.2 (by omega)⟩, _, (R.2.1.2.2 _ hm.2).1, 6, ⟨(R.2.1.2.2 _ hm.2).2.1, vI (k := 2) (by decide) (by decide)⟩, R.1.1, _, R.2.1.1, _, ⟨s1, vI (k := 0) (by omega) (by omega)⟩, _, ⟨R.2.1.2.1, vI hm.2 (by omega)⟩, _, (R.2.1.2.2 _ hm.2).1, 6, ⟨(R.2.1.2.2 _ hm.2).2.1, vI (k := 3) (by decide) (by decide)⟩, 5, 200, ⟨by omega, by omega⟩, R.1.1, ?_⟩
      rw [show ((2 : Int32).toNatClampNeg) = 2 from rfl, show ((3 : Int32).toNatClampNeg) = 3 from rfl, (R.2.1.2.2 _ hm.2).2.2 2 (by decide), (R.2.1.2.2 _ hm.2).2.2 3 (by decide), shl_1 k hk, nI_or, hv, hmk]
      have hp : 2 ^ k < 2 ^ 16 := Nat.pow_lt_pow_right (by decide) hk
      exact c_SI_make (h := 1) R hI h60 (by omega) (Nat.le_refl _) (Nat.le_refl _) S1 hb hn (valB_le hB hb (by omega)) (Nat.or_lt_two_pow (n := 16) (marksB_lt hB hb (by omega)) hp) (by decide) (fun μ2 g2 S2 R2 l2 => ⟨_, rfl, S2, h2 e1 h60 μ2 (c + 2 + 2) (SimP.after g1 (by omega) ⟨by omega, g2.mono (fun κ i z => z.h), S2, R2, l2⟩)⟩)
  · exact ⟨g1.st (fun κ i z => z.lo) hS, h1 (fun z => e (by rw [z.1]; rfl)) μ1 (c + 2) (SimP.look g1 (by omega) hS hR)⟩
def mgF (y a b : Nat) : Nat := if y = 0 then min a b else if y = 1 then max a b else a + b
def mg0 (y : Nat) : Nat := if y = 0 then 9999 else 0
def mgA (D : DT) (y : Nat) (l : List Nat) : Nat := l.foldl (fun m v => mgF y m (D 4 (v - 1) 2)) (mg0 y)
theorem mgA_le {y : Nat} : ∀ (l : List Nat), (∀ v ∈ l, D 4 (v - 1) 2 ≤ 9999) → ∀ a x, a ≤ 9999 * x → 1 ≤ x → l.foldl (fun m v => mgF y m (D 4 (v - 1) 2)) a ≤ 9999 * (x + l.length)
  | [], _, a, x, h, _ => h
  | v :: l, hl, a, x, h, hx => by
    have h1 := hl v List.mem_cons_self
    have := mgA_le (y := y) l (fun v hv => hl v (List.mem_cons_of_mem _ hv)) (mgF y a (D 4 (v - 1) 2)) (x + 1) (by
      unfold mgF
      split
      · omega
      · split <;> omega) (by omega)
    rw [List.foldl_cons, List.length_cons, show x + (l.length + 1) = x + 1 + l.length by omega]
    exact this
theorem mgA_V {b n y : Nat} (hB : DB T D) (hb : b < T 0 0) (hn : n < 6) (hy : y < 3) : min 9999 (mgA D y (shL D b n)) = mergeV D b n y := by
  unfold mergeV mgA
  rcases (by omega : y = 0 ∨ y = 1 ∨ y = 2) with rfl | rfl | rfl
  · rw [if_pos rfl]
    show min 9999 (leastB D b n) = leastB D b n
    exact Nat.min_eq_right (fold_min_le _ _)
  · rw [if_neg (by decide), if_pos rfl]
    show min 9999 (mostB D b n) = mostB D b n
    exact Nat.min_eq_right (fold_max_le _ _ (by decide) (fun v hv => (hB.2.1 _ (shL_mem hB hb hn hv).2).2.2.1))
  · rw [if_neg (by decide), if_neg (by decide)]
    show min 9999 (sumB D b n) = min (sumB D b n) 9999
    exact Nat.min_comm _ _
theorem c_SI_merge {b n y : Nat} (hR : SR μ T D OO c) (hI : Inv T D) (hD : 4 ≤ d) (hc : 9 ≤ rc) (hs : 330 ≤ rs) (hS : St μ) (hb : b < T 0 0) (hn : n < T 1 0) (hy : y < 3)
    (h1 : ¬ (2 ≤ (shL D b n).length ∧ D 1 0 0 < 60) → ∀ μ' c', SimP μ T D OO c c' μ' → Q (some (.int (-1))) μ') (h2 : 2 ≤ (shL D b n).length → D 1 0 0 < 60 → ∀ μ' c', SimP μ T (meD T D b n y) OO c c' μ' → Q (some (.int (nI (D 1 0 0)))) μ') : Cal K_SI_merge d rc rs [.ref (hd 100 0), .int (nI b), .int (nI n), .int (nI y)] μ Q := by
  have hB := hI.1
  have hN6 := hB.1.2.1
  have hS60 := hB.1.2.2.2.2.1
  have hlen := shL_len D b n
  refine e_SI_merge (r_SI_merge_0 (by omega) ⟨2, 65, ⟨by omega, by omega⟩, hR.1.1, c_SI_shows hR hB (by omega) (Nat.le_refl _) (Nat.le_refl _) hS hb hn (fun μ1 g1 s1 w1 => ⟨_, rfl, _, s1, fun e => ?_, fun e => ?_⟩)⟩)
  · exact ⟨g1.st (fun κ i z => z.lo) hS, h1 (fun z => by
      have := (nI_ltI (show (shL D b n).length < 2 ^ 31 by omega) (show 2 < 2 ^ 31 by decide)).mp e
      omega) μ1 (c + 2) (SimP.look g1 (by omega) hS hR)⟩
  · have e2 : 2 ≤ (shL D b n).length := by
      rcases Nat.lt_or_ge (shL D b n).length 2 with z | z
      · exact absurd ((nI_ltI (show (shL D b n).length < 2 ^ 31 by omega) (show 2 < 2 ^ 31 by decide)).mpr z) e
      · exact z
    have R := hR.dy g1 (by omega)
    have S1 := g1.st (fun κ i z => z.lo) hS
    refine ⟨R.1.1, _, R.2.1.1, _, R.2.1.2.1, fun e => ?_, fun e => ?_⟩
    · have e60 : D 1 0 0 = 60 := (nI_eq (by omega) (by decide)).mp e
      exact ⟨S1, h1 (fun z => by omega) μ1 (c + 2) (SimP.look g1 (by omega) hS hR)⟩
    · have h60 : D 1 0 0 < 60 := by
        have : D 1 0 0 ≠ 60 := fun z => e (by rw [z]; rfl)
        omega
      have hmm : ∀ x, x < (shL D b n).length → (shL D b n).getD x 0 ≠ 0 ∧ (shL D b n).getD x 0 - 1 < D 1 0 0 := fun x hx => shL_mem hB hb (show n < 6 by omega) (getD_mem.mpr ⟨x, hx, rfl⟩)
      have hv9 : ∀ v ∈ shL D b n, D 4 (v - 1) 2 ≤ 9999 := fun v hv => (hB.2.1 _ (shL_mem hB hb (show n < 6 by omega) hv).2).2.2.1
      have m0 := hmm 0 (by omega)
      have hbd : ∀ x, mgA D y ((shL D b n).take x) < 2 ^ 31 := fun x => by
        have h := mgA_le (y := y) ((shL D b n).take x) (fun v hv => hv9 v (List.mem_of_mem_take hv)) (mg0 y) 1 (by unfold mg0; split <;> omega) (by decide)
        have h2 := List.length_take_le' x (shL D b n)
        unfold mgA
        omega
      refine ⟨R.1.1, _, R.2.1.1, _, ⟨s1, vI (k := 0) (by omega) (by omega)⟩, ?_⟩
      have w0 : gI μ1 (hd 130 (c + 1)) (0 : Int32).toNatClampNeg = nI ((shL D b n).getD 0 0 - 1) := w1 0 (by omega)
      rw [w0, nI_clamp (show (shL D b n).getD 0 0 - 1 < 2 ^ 31 by omega)]
      refine ⟨_, ⟨R.2.1.2.1, vI m0.2 (by omega)⟩, _, (R.2.1.2.2 _ m0.2).1, 6, ⟨(R.2.1.2.2 _ m0.2).2.1, vI (k := 2) (by decide) (by decide)⟩, ?_⟩
      rw [show ((2 : Int32).toNatClampNeg) = 2 from rfl, (R.2.1.2.2 _ m0.2).2.2 2 (by decide)]
      have loop : ∀ x, x ≤ (shL D b n).length → Wx K_SI_merge d (rc - 2) (rs - 65) (fun r μ' => St μ' ∧ Q r μ') 43 [(0, .ref (hd 100 0)), (1, .int (nI b)), (2, .int (nI n)), (3, .int (nI y)), (4, .ref (hd 130 (c + 1))), (5, .int (nI (mgA D y ((shL D b n).take x)))), (6, .int (nI x))] [] μ1 := by
        refine up_loop _ ?_ (fun x hx ih => ?_)
        · refine r_SI_merge_43 (by omega) ⟨_, s1, fun _ => ?_, fun h => absurd (Int32.le_refl _) h⟩
          rw [List.take_length]
          refine ⟨2, 65, ⟨by omega, by omega⟩, R.1.1, c_SI_marks R hB (by omega) (Nat.le_refl _) (Nat.le_refl _) S1 hb hn (fun μ2 g2 S2 => ⟨_, rfl, 5, 200, ⟨by omega, by omega⟩, ?_⟩)⟩
          have R2 := R.dy g2 (by omega)
          have hb2 := hbd (shL D b n).length
          rw [List.take_length] at hb2
          rw [I9999, imin_nI (by decide) hb2, mgA_V hB hb (by omega) hy]
          exact ⟨R2.1.1, c_SI_make (h := 2) R2 hI h60 (by omega) (Nat.le_refl _) (Nat.le_refl _) S2 hb hn (mergeV_le hB hb (by omega)) (marksB_lt hB hb (by omega)) (by decide) (fun μ3 g3 S3 R3 l3 => ⟨_, rfl, S3, h2 e2 h60 μ3 (c + 2 + 2 + 2) (SimP.after g1 (by omega) (SimP.after g2 (by omega) ⟨by omega, g3.mono (fun κ i z => z.h), S3, R3, l3⟩))⟩)⟩
        · have hm := hmm x hx
          refine r_SI_merge_43 (by omega) ⟨_, s1, fun h => absurd ((nI_leI (by omega) (by omega)).mp h) (by omega), fun _ => ⟨R.1.1, _, R.2.1.1, _, ⟨s1, vI hx (by omega)⟩, ?_⟩⟩
          rw [nI_clamp (show x < 2 ^ 31 by omega), w1 x hx, nI_clamp (show (shL D b n).getD x 0 - 1 < 2 ^ 31 by omega)]
          refine ⟨_, ⟨R.2.1.2.1, vI hm.2 (by omega)⟩, _, (R.2.1.2.2 _ hm.2).1, 6, ⟨(R.2.1.2.2 _ hm.2).2.1, vI (k := 2) (by decide) (by decide)⟩, ?_⟩
          have hv := hv9 _ (getD_mem.mpr ⟨x, hx, rfl⟩)
          rw [show ((2 : Int32).toNatClampNeg) = 2 from rfl, (R.2.1.2.2 _ hm.2).2.2 2 (by decide), nI_s, imin_nI (hbd x) (by omega), imax_nI (hbd x) (by omega), nI_add]
          have en : mgA D y ((shL D b n).take (x + 1)) = mgF y (mgA D y ((shL D b n).take x)) (D 4 ((shL D b n).getD x 0 - 1) 2) := by
            rw [take_s hx]; unfold mgA; rw [List.foldl_append]; rfl
          rw [en] at ih
          unfold mgF at ih
          refine ⟨fun e => ?_, fun e => ⟨fun e' => ?_, fun e' => ?_⟩⟩
          · rw [if_pos (show y = 0 from (nI_eq (by omega) (by decide)).mp e)] at ih; exact ih
          · have e1 : y = 1 := (nI_eq (by omega) (by decide)).mp e'
            rw [if_neg (by omega), if_pos e1] at ih; exact ih
          · rw [if_neg (fun z => e (by rw [z]; rfl)), if_neg (fun z => e' (by rw [z]; rfl))] at ih; exact ih
      have z := loop 1 (by omega)
      rw [show mgA D y ((shL D b n).take 1) = D 4 ((shL D b n).getD 0 0 - 1) 2 by
        rw [take_s (show 0 < (shL D b n).length by omega)]
        show mgF y (mg0 y) (D 4 ((shL D b n).getD 0 0 - 1) 2) = _
        have := hv9 _ (getD_mem.mpr ⟨0, by omega, rfl⟩)
        unfold mgF mg0
        split
        · omega
        · split <;> omega] at z
      exact z
end SIG
