/-! the model's reading, whole -/
def OwB (q κ i : Nat) : Prop := (κ = 40 ∧ i = 0) ∨ (42 ≤ κ ∧ κ ≤ 46) ∨ (50 ≤ κ ∧ κ ≤ 62 ∧ i = q)
def FrB (q : Nat) (μ μ' : Mu) : Prop := Fr (OwB q) μ μ' ∧ mR μ' = mR μ ∧ ∀ k, k ≠ 3 → k ≠ 9 → k ≠ 10 → mI μ' (hd 40 0) k = mI μ (hd 40 0) k
theorem FrB.trans {q : Nat} {μ1 μ2 μ3 : Mu} (h : FrB q μ1 μ2) (h' : FrB q μ2 μ3) : FrB q μ1 μ3 := ⟨h.1.trans h'.1, h'.2.1.trans h.2.1, fun k a b c => (h'.2.2 k a b c).trans (h.2.2 k a b c)⟩
theorem FrB.ofK {q : Nat} {μ μ' : Mu} (f : Fr OwK μ μ') (hr : mR μ' = mR μ) : FrB q μ μ' := ⟨f.mono (fun κ i z => Or.inr (Or.inl z)), hr, fun k _ _ _ => f.I (by decide) (by unfold OwK; omega)⟩
theorem FrL.b {q : Nat} {μ μ' : Mu} (h : FrL q μ μ') : FrB q μ μ' := ⟨h.1.mono (fun κ i z => by unfold OwP2 OwR at z; unfold OwB; omega), h.2.1, fun k _ a b => h.2.2.1 k a b⟩
theorem FrZ.b {q : Nat} {μ μ' : Mu} (h : FrZ q μ μ') : FrB q μ μ' := ⟨h.1.mono (fun κ i z => by unfold OwZ OwE at z; unfold OwB; omega), h.2.1, fun k _ a _ => h.2.2.1 k a⟩
theorem FrW.b {q a : Nat} {μ μ' : Mu} (h : FrW q a μ μ') : FrB q μ μ' := ⟨h.1.mono (fun κ i z => by unfold OwB; omega), h.2.1, fun k _ _ _ => h.1.I (by decide) (by omega)⟩
theorem FrB.s {q k : Nat} {x : Int32} {μ μ' : Mu} (h : FrB q μ μ') (hk : k = 3 ∨ k = 9 ∨ k = 10) : FrB q μ (setI μ' (hd 40 0) k x) := ⟨h.1.setI (by decide) (Or.inl ⟨rfl, rfl⟩), h.2.1, fun j a b c => by rw [rd_k (by omega)]; exact h.2.2 j a b c⟩
/-- reading changes the plan q, which is new, and the tokens -/
def FrN (q : Nat) (μ μ' : Mu) : Prop := (∀ κ i k, 6 ≤ κ → κ < 256 → κ ≠ 40 → ¬ (42 ≤ κ ∧ κ ≤ 46) → ¬ (50 ≤ κ ∧ κ ≤ 62) → mI μ' (hd κ i) k = mI μ (hd κ i) k ∧ mL μ' (hd κ i) k = mL μ (hd κ i) k ∧ mR μ' (hd κ i) k = mR μ (hd κ i) k) ∧
  (∀ κ i k, 50 ≤ κ → κ ≤ 62 → i ≠ q → mI μ' (hd κ i) k = mI μ (hd κ i) k) ∧ (∀ k, k ≠ 3 → k ≠ 9 → k ≠ 10 → mI μ' (hd 40 0) k = mI μ (hd 40 0) k) ∧ mR μ' (hd 40 0) 11 = mR μ (hd 40 0) 11 ∧ mS μ' (hd 6 0) = mS μ (hd 6 0)
theorem nmp_S6 {μ : Mu} {q : Nat} : mS (newMP μ q) (hd 6 0) = mS μ (hd 6 0) := by
  have h : ∀ (l : List (Nat × Nat × Nat)) (μ : Mu), (∀ e ∈ l, 51 ≤ e.1 ∧ e.1 ≤ 62) → mS (l.foldl (mpS q) μ) (hd 6 0) = mS μ (hd 6 0) := by
    intro l
    induction l with
    | nil => intro μ _; rfl
    | cons e l ih =>
      intro μ he
      have := he e List.mem_cons_self
      refine (ih _ (fun z hz => he z (List.mem_cons_of_mem _ hz))).trans ?_
      exact if_neg (hd_ne (by decide) (by omega) (by omega))
  exact (h mpL _ (by decide)).trans (if_neg (hd_ne (by decide) (by decide) (by decide)))
theorem FrN.of {q : Nat} {μ μ' : Mu} (f : FrB q (setR (newMP μ q) (hd 40 0) 12 (hd 50 q)) μ') : FrN q μ μ' := by
  have e40 : EqR 40 40 μ (newMP μ q) := EqR.rf.nmp (by decide) (by decide)
  refine ⟨fun κ i k a b c d e => ?_, fun κ i k a b c => ?_, fun k a b c => ?_, ?_, ?_⟩
  · have h1 := f.1.2 κ i b (by unfold OwB; omega) k
    have h2 := (((EqR.rf (lo := κ) (hi := κ) (μ := μ)).nmp (q := q) b (by omega)).sR (κ := 40) (i := 0) (k := 12) (x := hd 50 q) (by decide) b (by omega)) κ i k (Nat.le_refl _) (Nat.le_refl _)
    exact ⟨h1.1.trans h2.1, h1.2.1.trans h2.2.1, h1.2.2.trans h2.2.2⟩
  · refine (f.1.I (by omega) (by unfold OwB; omega)).trans ?_
    show mI (newMP μ q) (hd κ i) k = _
    rw [nmp_I (by omega), if_neg (by omega)]
  · refine (f.2.2 k a b c).trans ?_
    exact e40.I (by decide) (by decide)
  · rw [f.2.1, mR_set, if_neg (fun z => absurd z.2 (by decide))]
    exact e40.R (κ := 40) (by decide) (by decide)
  · rw [f.1.1]; exact nmp_S6
/-- a plan as it is read -/
def MFin (μ : Mu) (t : Nat → Nat) (L q : Nat) (os : List Ord3) : Prop := px μ (hd 40 0) 12 = q ∧
  (mI μ (hd 50 q) 0 = nI (cn (tK t L) 1 (nT t L)) ∧ mI μ (hd 50 q) 1 = nI (cn (tK t L) 2 (nT t L)) ∧ mI μ (hd 50 q) 2 = nI (cn (tK t L) 3 (nT t L)) ∧ mI μ (hd 50 q) 6 = nI (cn (tK t L) 7 (nT t L))) ∧
  (cn (tK t L) 1 (nT t L) ≤ 5 ∧ cn (tK t L) 2 (nT t L) ≤ 6 ∧ cn (tK t L) 3 (nT t L) ≤ 8 ∧ cn (tK t L) 7 (nT t L) ≤ 20) ∧
  (∀ i, i < nT t L → arN (rl (tK t L) i) ≠ 0 → mI μ (hd (arN (rl (tK t L) i)) q) (slN (tK t L) i) = vlN t L i) ∧
  (∀ k o, k < 20 → os[k]? = some o → mI μ (hd 58 q) k = nI (wdL (flatO (os.take k))) ∧ mI μ (hd 59 q) k = nI (wdL (flatO (os.take k)) + wdL o.2.1) ∧ mI μ (hd 60 q) k = nI (wdL (flatO (os.take k)) + wdL o.2.1 + wdL o.2.2)) ∧
  cdM μ q 0 ((flatO os).map (stO t L)) ∧ ∀ i, i < nT t L → ern t L i = 0
theorem flatO_mem {a : Nat × Nat} : ∀ os : List Ord3, a ∈ flatO os → ∃ o ∈ os, a ∈ o.2.1 ++ o.2.2
  | [], h => by cases h
  | o :: os, h => by
    rcases List.mem_append.mp (show a ∈ (o.2.1 ++ o.2.2) ++ flatO os from h) with h | h
    · exact ⟨o, List.mem_cons_self, h⟩
    · obtain ⟨o', h1, h2⟩ := flatO_mem os h
      exact ⟨o', List.mem_cons_of_mem _ h1, h2⟩
theorem tK_46 {t : Nat → Nat} {L p : Nat} (hp : p ≤ nT t L) (h : 46 ≤ tK t L p) : p = nT t L := by
  rcases Nat.lt_or_ge p (nT t L) with z | z
  · have := nT_in z; omega
  · omega
theorem plF_facts {t : Nat → Nat} {L p' : Nat} {os : List Ord3} (e : plF (tK t L) 400 0 = (p', some os)) : p' = nT t L ∧ tK t L (nT t L) = 46 ∧ LnOK (tK t L) (nT t L) 0 (nT t L) os := by
  have h := pl_ok (K := tK t L) (n := nT t L) nT_end 400 0 (Nat.zero_le _)
  rw [e] at h
  obtain ⟨-, h2, h3⟩ := h
  obtain ⟨h4, h5⟩ := h3 os rfl
  have hp : p' = nT t L := tK_46 h2 (by have h5' : tK t L p' = 46 := h5; omega)
  have h5' : tK t L p' = 46 := h5
  have h4' : LnOK (tK t L) (nT t L) 0 p' os := h4
  rw [hp] at h5' h4'
  exact ⟨hp, h5', h4'⟩
theorem LnOK.ref {K : Nat → Nat} {n p p' : Nat} {os : List Ord3} (h : LnOK K n p p' os) : ∀ o ∈ flatO os, refF K n o := fun a ha => by
  obtain ⟨o, h1, h2⟩ := flatO_mem os ha
  exact (h.2.2.2.2.2.2.2 o h1).2.2.2.2 a h2
section MRD
variable {d rc rs : Nat} {Q : Option Value → Mu → Prop} {μ : Mu} {t : Nat → Nat} {L : Nat}
theorem c_MM_read (hD : 111 ≤ d) (hrc : 13 ≤ rc) (hrs : 1386 ≤ rs) (hS : St μ) (hT : TM μ t L)
    (h1 : ∀ μ' q p', FrP μ q → FrN q μ μ' → St μ' → plF (tK t L) 400 0 = (p', none) → mI μ' (hd 40 0) 3 = nI (tS t L p') → Q (some (.int 1)) μ')
    (h2 : ∀ μ' q p' os e, FrP μ q → FrN q μ μ' → St μ' → plF (tK t L) 400 0 = (p', some os) → e < nT t L → ern t L e ≠ 0 → (∀ i, i < e → ern t L i = 0) → mI μ' (hd 40 0) 3 = nI (tS t L e) → Q (some (.int (nI (ern t L e)))) μ')
    (h0 : ∀ μ' q p' os, FrP μ q → FrN q μ μ' → St μ' → plF (tK t L) 400 0 = (p', some os) → MFin μ' t L q os → mI μ' (hd 40 0) 3 = mI μ (hd 40 0) 3 → Q (some (.int 0)) μ') : Cal K_MM_read d rc rs [.ref (hd 40 0)] μ Q := by
  have hn4 := nT_le (t := t) (L := L)
  refine e_MM_read (g_MM_read_0 (by omega) hS ⟨by omega, hrc, hrs, fun q hq => ?_⟩)
  have hS1 : St (setR (newMP μ q) (hd 40 0) 12 (hd 50 q)) := (newMP_St hS hq).setPlan12 newMP_P
  have e1 : ∀ κ i k, κ < 256 → mI (setR (newMP μ q) (hd 40 0) 12 (hd 50 q)) (hd κ i) k = if 50 ≤ κ ∧ κ ≤ 62 ∧ i = q then 0 else mI μ (hd κ i) k := fun κ i k h => nmp_I h
  have r12 : mR (setR (newMP μ q) (hd 40 0) 12 (hd 50 q)) (hd 40 0) 12 = some (hd 50 q) := by rw [mR_set, if_pos ⟨rfl, rfl⟩]
  have fn := fun (μ' : Mu) (f : FrB q (setR (newMP μ q) (hd 40 0) 12 (hd 50 q)) μ') => FrN.of f
  generalize setR (newMP μ q) (hd 40 0) 12 (hd 50 q) = μ1 at *
  have hT1 : TM μ1 t L := ⟨hT.1, hT.2.1, by rw [e1 _ _ _ (by decide), if_neg (by omega)]; exact hT.2.2.1, fun k hk => by rw [e1 _ _ _ (by decide), if_neg (by omega)]; exact hT.2.2.2 k hk⟩
  have hq1 : px μ1 (hd 40 0) 12 = q := px_eq (κ := 50) (by decide) r12
  refine c_MM_cut hT1 (by omega) hS1 (fun μ2 f1 f2 f3 f4 => ⟨rfl, ?_⟩)
  have hS3 : St (setI (setI μ2 (hd 40 0) 9 0) (hd 40 0) 10 0) := f3
  have b3 : FrB q μ1 (setI (setI μ2 (hd 40 0) 9 0) (hd 40 0) 10 0) := ((FrB.ofK f1 f2).s (Or.inr (Or.inl rfl))).s (Or.inr (Or.inr rfl))
  have z50 : ∀ k, mI (setI (setI μ2 (hd 40 0) 9 0) (hd 40 0) 10 0) (hd 50 q) k = 0 := fun k => by
    rw [rd_ne (by decide) (by decide) (by decide), rd_ne (by decide) (by decide) (by decide), f1.I (by decide) (by unfold OwK; omega), e1 _ _ _ (by decide), if_pos ⟨by decide, by decide, rfl⟩]
  have n3 : ∀ κ i k, κ < 256 → κ ≠ 40 → mI (setI (setI μ2 (hd 40 0) 9 0) (hd 40 0) 10 0) (hd κ i) k = mI μ2 (hd κ i) k := fun κ i k a b => by
    rw [rd_ne (by decide) a b, rd_ne (by decide) a b]
  have hMT : MT (setI (setI μ2 (hd 40 0) 9 0) (hd 40 0) 10 0) t L := by
    obtain ⟨⟨a1, a2, a3, a4⟩, a5⟩ := f4
    refine ⟨⟨a1, a2, ?_, fun k hk => ?_⟩, fun i hi => ?_⟩
    · rw [rd_k (by decide), rd_k (by decide)]; exact a3
    · rw [n3 _ _ _ (by decide) (by decide)]; exact a4 k hk
    · obtain ⟨y1, y2, y3, -⟩ := a5 i (by omega)
      rw [n3 _ _ _ (by decide) (by decide), n3 _ _ _ (by decide) (by decide), n3 _ _ _ (by decide) (by decide)]
      exact ⟨y1, y2, y3⟩
  have hq3 : px (setI (setI μ2 (hd 40 0) 9 0) (hd 40 0) 10 0) (hd 40 0) 12 = q := by
    have : mR (setI (setI μ2 (hd 40 0) 9 0) (hd 40 0) 10 0) = mR μ1 := f2
    unfold px; rw [this]; exact hq1
  have hMP : MPs (setI (setI μ2 (hd 40 0) 9 0) (hd 40 0) 10 0) t L q 0 [] := by
    refine ⟨⟨hMT, hq3, (rd_k (by decide)).trans rd_eq, rd_eq, ⟨z50 16, fun i hi => absurd hi (Nat.not_lt_zero _)⟩, ⟨z50 18, fun i hi => absurd hi (Nat.not_lt_zero _)⟩, Nat.zero_le _, fun j hj => ?_⟩, ⟨Nat.le_refl _, Nat.le_refl _⟩, ⟨z50 7, Nat.le_refl _⟩, fun k o _ ek => ?_⟩
    · rw [n3 _ _ _ (by decide) (by decide), if_neg (Nat.not_lt_zero _)]
      exact (f4.2 j (by omega)).2.2.2.1
    · rw [List.getElem?_nil] at ek; cases ek
  have h33 : mI (setI (setI μ2 (hd 40 0) 9 0) (hd 40 0) 10 0) (hd 40 0) 3 = mI μ (hd 40 0) 3 := by
    rw [rd_k (by decide), rd_k (by decide), f1.I (by decide) (by unfold OwK; omega), e1 _ _ _ (by decide), if_neg (by omega)]
  generalize setI (setI μ2 (hd 40 0) 9 0) (hd 40 0) 10 0 = μ3 at *
  have hpl := pl_ok (K := tK t L) (n := nT t L) nT_end 400 0 (Nat.zero_le _)
  refine c_MM_isPlan (by omega) hS3 hMP (fun μ4 p' e g1 g2 g3 => ⟨0, rfl, fun _ => ?_, fun h => absurd rfl h⟩) (fun μ4 p' os e g1 g2 g3 => ⟨1, rfl, fun h => absurd h (by decide), fun _ => ?_⟩)
  · rw [e] at hpl
    have hp : p' ≤ nT t L := hpl.2.1
    have hM4 := hMT.frL g1
    rw [g3, nI_clamp (by omega), (hM4.2 p' hp).2.1]
    have hS4 : St (setI μ4 (hd 40 0) 3 (nI (tS t L p'))) := g2
    exact ⟨vp_in_nI (by omega) (by decide), hS4, h1 _ q p' hq (fn _ ((b3.trans g1.b).s (Or.inl rfl))) hS4 e rd_eq⟩
  · obtain ⟨hp, h46, hLn⟩ := plF_facts e
    subst hp
    have hM4 := hMT.frL g1
    obtain ⟨m1, m2, m3, m4⟩ := g3
    rw [m1.2.2.1]
    have hS4 : St (setI μ4 (hd 40 0) 9 0) := g2
    have n4 : ∀ κ i k, κ < 256 → κ ≠ 40 → mI (setI μ4 (hd 40 0) 9 0) (hd κ i) k = mI μ4 (hd κ i) k := fun κ i k a b => rd_ne (by decide) a b
    have b4 : FrB q μ1 (setI μ4 (hd 40 0) 9 0) := (b3.trans g1.b).s (Or.inr (Or.inl rfl))
    have c50 : ∀ k, k ≠ 7 → k ≠ 16 → k ≠ 18 → mI (setI μ4 (hd 40 0) 9 0) (hd 50 q) k = 0 := fun k a b c => by
      rw [n4 _ _ _ (by decide) (by decide), g1.2.2.2 k a b c]; exact z50 k
    have hN : MNS (setI μ4 (hd 40 0) 9 0) t L q 0 := by
      obtain ⟨⟨a1, a2, a3, a4⟩, a5⟩ := hM4
      refine ⟨⟨⟨a1, a2, (rd_k (by decide)).trans a3, fun k hk => (n4 _ _ _ (by decide) (by decide)).trans (a4 k hk)⟩, fun i hi => ?_⟩, ?_, fun i hi => ?_, ⟨?_, ?_, ?_, ?_⟩, ⟨Nat.zero_le _, Nat.zero_le _, Nat.zero_le _, Nat.zero_le _⟩, fun i hi => absurd hi (Nat.not_lt_zero _), fun i hi => absurd hi (Nat.not_lt_zero _), Nat.zero_le _, fun i hi => absurd hi (Nat.not_lt_zero _)⟩
      · rw [n4 _ _ _ (by decide) (by decide), n4 _ _ _ (by decide) (by decide), n4 _ _ _ (by decide) (by decide)]; exact a5 i hi
      · exact m1.2.1
      · rw [n4 _ _ _ (by decide) (by decide), m1.2.2.2.2.2.2.2 i (by omega), if_pos hi]
      · exact c50 0 (by decide) (by decide) (by decide)
      · exact c50 1 (by decide) (by decide) (by decide)
      · exact c50 2 (by decide) (by decide) (by decide)
      · exact c50 6 (by decide) (by decide) (by decide)
    refine c_MM_read57 (by omega) (fun j hj => hLn.2.2.2.2.1 j (Nat.zero_le _) hj) hS4 hN rd_eq (fun μ5 z1 z2 z3 => ?_) (fun μ5 x z1 z2 z3 z4 z5 => h2 _ q _ os x hq (fn _ ((b4.trans z1.b).s (Or.inl rfl))) z2 e z3 z4 z5 rd_eq)
    have oz : ∀ κ k, 58 ≤ κ → κ ≤ 62 → mI μ5 (hd κ q) k = mI μ4 (hd κ q) k := fun κ k a b => (z1.1.I (by omega) (by unfold OwZ OwE; omega)).trans (n4 _ _ _ (by omega) (by omega))
    have ol := opO_len (flatO os) 0
    refine c_MM_read111 (q := q) (by omega) h46 (flatO os) 0 0 μ5 Q z2 z3.2.1 (fun i hi hr => z3.2.2.2.2.2.1 i hi hr) (cdR_of _ 0 [] (fun i hi => ?_)) (opAt_of _ 0 (fun i hi => ?_)) ?_ (by omega) (by omega) hLn.ref (fun μ6 w1 w2 w3 => h0 μ6 q _ os hq (fn _ ((b4.trans z1.b).trans w1.b)) w2 e ?_ ?_)
    · rw [Nat.zero_add, oz 61 _ (by decide) (by decide)]; exact m1.2.2.2.2.1.2 i hi
    · rw [Nat.zero_add, oz 62 _ (by decide) (by decide)]; exact m1.2.2.2.2.2.1.2 i hi
    · rw [Nat.zero_add, z1.2.2.2 18 (by decide) (by decide) (by decide) (by decide), n4 _ _ _ (by decide) (by decide)]; exact m1.2.2.2.2.2.1.1
    · have ow : ∀ κ k, κ < 256 → κ ≠ 61 → mI μ6 (hd κ q) k = mI μ5 (hd κ q) k := fun κ k a b => w1.1.I a (by omega)
      refine ⟨?_, ?_, z3.2.2.2.2.1, fun i hi hr => ?_, fun k o hk ek => ?_, w3, z3.2.2.2.2.2.2.2.2⟩
      · unfold px; rw [w1.2.1]; exact z3.2.1
      · rw [ow _ _ (by decide) (by decide), ow _ _ (by decide) (by decide), ow _ _ (by decide) (by decide), ow _ _ (by decide) (by decide)]; exact z3.2.2.2.1
      · have hin := arN_in _ rl_lt hr
        rw [ow _ _ (by omega) (by omega)]; exact z3.2.2.2.2.2.2.1 i hi hr
      · rw [ow _ _ (by decide) (by decide), ow _ _ (by decide) (by decide), ow _ _ (by decide) (by decide), oz 58 _ (by decide) (by decide), oz 59 _ (by decide) (by decide), oz 60 _ (by decide) (by decide)]
        exact m4 k o hk ek
    · have a1 : mI μ6 (hd 40 0) 3 = mI μ5 (hd 40 0) 3 := w1.1.I (by decide) (by omega)
      have a2 : mI μ5 (hd 40 0) 3 = mI μ4 (hd 40 0) 3 := (z1.2.2.1 3 (by decide)).trans (rd_k (by decide))
      have a3 : mI μ4 (hd 40 0) 3 = mI μ3 (hd 40 0) 3 := g1.2.2.1 3 (by decide) (by decide)
      rw [a1, a2, a3]; exact h33
end MRD
