/-! one side's cells stay as they are -/
def EqR (lo hi : Nat) (μ μ' : Mu) : Prop := ∀ κ i k, lo ≤ κ → κ ≤ hi → mI μ' (hd κ i) k = mI μ (hd κ i) k ∧ mL μ' (hd κ i) k = mL μ (hd κ i) k ∧ mR μ' (hd κ i) k = mR μ (hd κ i) k
section EQA
variable {lo hi : Nat} {μ μ' : Mu}
theorem EqR.rf : EqR lo hi μ μ := fun _ _ _ _ _ => ⟨rfl, rfl, rfl⟩
theorem EqR.trans {μ1 μ2 μ3 : Mu} (h : EqR lo hi μ1 μ2) (h' : EqR lo hi μ2 μ3) : EqR lo hi μ1 μ3 := fun κ i k a b => ⟨(h' κ i k a b).1.trans (h κ i k a b).1, (h' κ i k a b).2.1.trans (h κ i k a b).2.1, (h' κ i k a b).2.2.trans (h κ i k a b).2.2⟩
theorem EqR.I {κ i k : Nat} (h : EqR lo hi μ μ') (a : lo ≤ κ) (b : κ ≤ hi) : mI μ' (hd κ i) k = mI μ (hd κ i) k := (h κ i k a b).1
theorem EqR.L {κ i k : Nat} (h : EqR lo hi μ μ') (a : lo ≤ κ) (b : κ ≤ hi) : mL μ' (hd κ i) k = mL μ (hd κ i) k := (h κ i k a b).2.1
theorem EqR.R {κ i k : Nat} (h : EqR lo hi μ μ') (a : lo ≤ κ) (b : κ ≤ hi) : mR μ' (hd κ i) k = mR μ (hd κ i) k := (h κ i k a b).2.2
theorem EqR.px {κ i k : Nat} (h : EqR lo hi μ μ') (a : lo ≤ κ) (b : κ ≤ hi) : px μ' (hd κ i) k = px μ (hd κ i) k := by unfold _root_.Jvm.Pilot.@@N@@.px; rw [h.R a b]
theorem EqR.of {own : Nat → Nat → Prop} (f : Fr own μ μ') (hh : hi < 256) (ho : ∀ κ i, lo ≤ κ → κ ≤ hi → ¬ own κ i) : EqR lo hi μ μ' := fun κ i k a b => f.2 κ i (by omega) (ho κ i a b) k
theorem EqR.sub {lo' hi' : Nat} (h : EqR lo hi μ μ') (a : lo ≤ lo') (b : hi' ≤ hi) : EqR lo' hi' μ μ' := fun κ i k c d => h κ i k (by omega) (by omega)
theorem EqR.sI {κ i k : Nat} {x : Int32} (h : EqR lo hi μ μ') (hκ : κ < 256) (hh : hi < 256) (ho : κ < lo ∨ hi < κ) : EqR lo hi μ (setI μ' (hd κ i) k x) := fun κ' i' k' a b => ⟨(rd_ne hκ (by omega) (by omega)).trans (h κ' i' k' a b).1, (h κ' i' k' a b).2⟩
theorem EqR.sL {κ i k : Nat} {x : Int64} (h : EqR lo hi μ μ') (hκ : κ < 256) (hh : hi < 256) (ho : κ < lo ∨ hi < κ) : EqR lo hi μ (setL μ' (hd κ i) k x) := fun κ' i' k' a b => ⟨(h κ' i' k' a b).1, (if_neg (fun z => hd_ne (by omega) hκ (by omega) z.1)).trans (h κ' i' k' a b).2.1, (h κ' i' k' a b).2.2⟩
theorem EqR.sR {κ i k x : Nat} (h : EqR lo hi μ μ') (hκ : κ < 256) (hh : hi < 256) (ho : κ < lo ∨ hi < κ) : EqR lo hi μ (setR μ' (hd κ i) k x) := fun κ' i' k' a b => ⟨(h κ' i' k' a b).1, (h κ' i' k' a b).2.1, (if_neg (fun z => hd_ne (by omega) hκ (by omega) z.1)).trans (h κ' i' k' a b).2.2⟩
theorem EqR.mk {κ i : Nat} {sh : Nat × Nat} (h : EqR lo hi μ μ') (hκ : κ < 256) (hh : hi < 256) (ho : κ < lo ∨ hi < κ) : EqR lo hi μ (mkA μ' (hd κ i) sh) := fun κ' i' k' a b => by
  have ne : hd κ' i' ≠ hd κ i := hd_ne (by omega) hκ (by omega)
  exact ⟨(if_neg ne).trans (h κ' i' k' a b).1, (if_neg ne).trans (h κ' i' k' a b).2.1, (if_neg ne).trans (h κ' i' k' a b).2.2⟩
theorem EqR.fold {q : Nat} (hh : hi < 256) (h5 : hi < 50 ∨ 62 < lo) : ∀ (l : List (Nat × Nat × Nat)) (μ μ' : Mu), (∀ e ∈ l, 51 ≤ e.1 ∧ e.1 ≤ 62) → EqR lo hi μ μ' → EqR lo hi μ (l.foldl (mpS q) μ')
  | [], _, _, _, h => h
  | e :: l, μ, μ', he, h => by
    have := he e List.mem_cons_self
    exact EqR.fold hh h5 l μ (mpS q μ' e) (fun z hz => he z (List.mem_cons_of_mem _ hz)) ((h.mk (by omega) hh (by omega)).sR (by decide) hh (by omega))
theorem EqR.nmp {q : Nat} (h : EqR lo hi μ μ') (hh : hi < 256) (h5 : hi < 50 ∨ 62 < lo) : EqR lo hi μ (newMP μ' q) :=
  EqR.fold hh h5 mpL μ _ (by decide) (h.mk (by decide) hh (by omega))
end EQA
/-! what each side holds, carried on -/
theorem XC.tr {μ μ' : Mu} {w : Nat} {T : PT} {D : DT} (h : XC μ w T D) (e : ∀ κ i k, (κ = 18 ∨ OwW w κ i) → mI μ' (hd κ i) k = mI μ (hd κ i) k) (hr : mR μ' (hd 29 w) 3 = mR μ (hd 29 w) 3) : XC μ' w T D := by
  have hpx : px μ' (hd 29 w) 3 = px μ (hd 29 w) 3 := by unfold px; rw [hr]
  have h60 := h.S60; have h5 := h.P5; have h8 := h.R8
  refine ⟨h.1, h.2.1, h.2.2.1.fr (fun f' i j hr' => ?_), ?_⟩
  · rcases f' with _|_|_|_|_|_|_|_|_|_|_|_|_|f' <;> first | (simp only [rng] at hr'; done) | (simp only [rng] at hr'; exact e _ _ _ (by unfold OwW; omega))
  · rw [hpx, e _ _ _ (Or.inl rfl), e _ _ _ (Or.inl rfl), e _ _ _ (Or.inl rfl), e _ _ _ (Or.inl rfl)]; exact h.2.2.2
theorem codeAt.tr {μ μ' : Mu} {q : Nat} (e2 : ∀ k, mR μ' (hd 22 q) k = mR μ (hd 22 q) k) (e3 : ∀ k, mI μ' (hd 23 q) k = mI μ (hd 23 q) k) (e4 : ∀ k, mI μ' (hd 24 q) k = mI μ (hd 24 q) k) : ∀ (l : List Op) (a : Nat), codeAt μ q a l → codeAt μ' q a l
  | [], _, _ => trivial
  | o :: l, a, h => by
    refine ⟨?_, codeAt.tr e2 e3 e4 l (a + 1) h.2⟩
    have := h.1
    unfold cellOp at this ⊢
    rw [e2, e3, e4]; exact this
theorem XO.tr {μ μ' : Mu} {q : Nat} {T : PT} {C Ct : Nat → List Op} (h : XO μ q T C Ct) (hO : T 6 0 ≤ 20) (e4 : mI μ' (hd 21 q) 4 = mI μ (hd 21 q) 4) (e2 : ∀ k, mR μ' (hd 22 q) k = mR μ (hd 22 q) k) (e3 : ∀ κ k, κ = 23 ∨ κ = 24 → mI μ' (hd κ q) k = mI μ (hd κ q) k)
    (e6 : ∀ j k, j < 20 → mI μ' (hd 26 (21 * q + j)) k = mI μ (hd 26 (21 * q + j)) k ∧ mR μ' (hd 26 (21 * q + j)) k = mR μ (hd 26 (21 * q + j)) k) : XO μ' q T C Ct := by
  obtain ⟨sz, h1, h2, h3⟩ := h
  refine ⟨sz, h1, e4.trans h2, fun k hk => ?_⟩
  obtain ⟨s, g1, g2, g3, g4, g5, g6, g7, g8, g9, g10⟩ := h3 k hk
  have hk' : k < 20 := by omega
  have eI : ∀ j, mI μ' (hd 26 (21 * q + k)) j = mI μ (hd 26 (21 * q + k)) j := fun j => (e6 k j hk').1
  refine ⟨s, (e6 k 0 hk').2.trans g1, ?_, ?_, ?_, ?_, ?_, ?_, g8, codeAt.tr e2 (fun k => e3 23 k (Or.inl rfl)) (fun k => e3 24 k (Or.inr rfl)) _ _ g9, codeAt.tr e2 (fun k => e3 23 k (Or.inl rfl)) (fun k => e3 24 k (Or.inr rfl)) _ _ g10⟩
  all_goals (simp only [eI]; assumption)
theorem mordOK.tr {μ μ' : Mu} {q k : Nat} {T : PT} {C Ct : Nat → List Op} (h : mordOK μ q T C Ct k) (e : ∀ κ j, 54 ≤ κ → κ ≤ 61 → mI μ' (hd κ q) j = mI μ (hd κ q) j) : mordOK μ' q T C Ct k := by
  obtain ⟨s, h1, h2, h3, h4, h5, h6, h7, h8, h9, h10, h11⟩ := h
  refine ⟨s, ?_, ?_, ?_, ?_, ?_, ?_, ?_, h8, h9.fr (fun j => e 61 j (by decide) (by decide)), h10.fr (fun j => e 61 j (by decide) (by decide)), h11⟩
  · rw [e 54 _ (by decide) (by decide)]; exact h1
  · rw [e 55 _ (by decide) (by decide)]; exact h2
  · rw [e 56 _ (by decide) (by decide)]; exact h3
  · rw [e 57 _ (by decide) (by decide)]; exact h4
  · rw [e 58 _ (by decide) (by decide)]; exact h5
  · rw [e 59 _ (by decide) (by decide)]; exact h6
  · rw [e 60 _ (by decide) (by decide)]; exact h7
theorem XN.tr {μ μ' : Mu} {w mg : Nat} {T : PT} {D : DT} (h : XN μ w T D mg) (hp : px μ' (hd 40 0) 11 = px μ (hd 40 0) 11) (e5 : ∀ κ k, 50 ≤ κ → κ ≤ 52 → mI μ' (hd κ (px μ (hd 40 0) 11)) k = mI μ (hd κ (px μ (hd 40 0) 11)) k) (e : ∀ κ k, 65 ≤ κ → κ ≤ 78 → mI μ' (hd κ w) k = mI μ (hd κ w) k ∧ mL μ' (hd κ w) k = mL μ (hd κ w) k) : XN μ' w T D mg := by
  obtain ⟨h1, h2, h3, h4, h5, h6, h7⟩ := h
  refine ⟨h1, h2, h3.fr (fun f' i j hr' => ?_), ?_, fun b hb => ?_, fun r hr => ?_, ?_⟩
  · obtain ⟨κ, e1, hk⟩ := mlc_k (w := w) hr'
    rw [e1]
    exact (e κ _ (by omega) (by omega)).1
  · rw [(e 65 _ (by decide) (by decide)).1]; exact h4
  · rw [(e 75 _ (by decide) (by decide)).2]; exact h5 b hb
  · rw [(e 78 _ (by decide) (by decide)).2]; exact h6 r hr
  · obtain ⟨p1, p2, p3, p4, p5⟩ := h7
    unfold PM
    rw [hp, e5 50 _ (by decide) (by decide), e5 50 _ (by decide) (by decide), e5 50 _ (by decide) (by decide), e5 50 _ (by decide) (by decide)]
    refine ⟨p1, p2, p3, p4, fun r hr => ?_⟩
    rw [e5 51 _ (by decide) (by decide), e5 52 _ (by decide) (by decide)]
    exact p5 r hr
theorem YE.tr {μ μ' : Mu} {w : Nat} {Es : List Ent} (h : YE μ w Es) (e : ∀ κ k, 65 ≤ κ → κ ≤ 81 → mI μ' (hd κ w) k = mI μ (hd κ w) k ∧ mL μ' (hd κ w) k = mL μ (hd κ w) k) : YE μ' w Es := by
  refine ⟨(e 65 _ (by decide) (by decide)).1.trans h.1, fun k x hx => ?_⟩
  rw [(e 79 _ (by decide) (by decide)).1, (e 80 _ (by decide) (by decide)).1, (e 81 _ (by decide) (by decide)).2]
  exact h.2 k x hx
/-! both sides, between calls -/
def TpC (μ : Mu) (t : Nat → Nat) (L : Nat) : Prop := L ≤ 2000 ∧ (∀ k, k < L → t k < 256) ∧ mI μ (hd 8 0) 1 = nI L ∧ ∀ k, k < L → mI μ (hd 9 0) k = sb (t k)
def TpM (μ : Mu) (t : Nat → Nat) (L : Nat) : Prop := mI μ (hd 40 0) 2 = nI L ∧ ∀ k, k < L → mI μ (hd 41 0) k = nI (t k)
/-- the component holds T, D, the orders, the tape and where the error was -/
def CI (μ : Mu) (T : PT) (C Ct : Nat → List Op) (D : DT) (t : Nat → Nat) (L : Nat) (x : Int32) : Prop :=
  XC μ 0 T D ∧ (px μ (hd 8 0) 4 = 1 - px μ (hd 8 0) 3 ∧ px μ (hd 29 0) 3 = px μ (hd 8 0) 3 ∧ XO μ (px μ (hd 8 0) 3) T C Ct) ∧ TpC μ t L ∧ mI μ (hd 8 0) 2 = x
def MI (μ : Mu) (T : PT) (C Ct : Nat → List Op) (D : DT) (t : Nat → Nat) (L : Nat) (x : Int32) : Prop :=
  (∃ Es, MW μ 0 T D Es) ∧ XOM μ (px μ (hd 40 0) 11) T C Ct ∧ TpM μ t L ∧ mI μ (hd 40 0) 3 = x
/-- the numbers themselves -/
def NI (T : PT) (C Ct : Nat → List Op) (D : DT) (n : Nat) : Prop := Inv T D ∧ OW T C Ct ∧ OB T Ct ∧ D 0 0 0 ≤ 60 * n ∧ n ≤ 512
section CIS
variable {μ μ' : Mu} {T : PT} {C Ct : Nat → List Op} {D : DT} {t : Nat → Nat} {L : Nat} {x : Int32}
theorem CI.tr (h : CI μ T C Ct D t L x) (e : EqR 8 38 μ μ') : CI μ' T C Ct D t L x := by
  obtain ⟨h1, ⟨h2, h3, h4⟩, ⟨h5, h6, h7, h8⟩, h9⟩ := h
  refine ⟨h1.tr (fun κ i k z => e.I (by unfold OwW at z; omega) (by unfold OwW at z; omega)) (e.R (by decide) (by decide)), ⟨?_, ?_, ?_⟩, ⟨h5, h6, ?_, fun k hk => ?_⟩, ?_⟩
  · rw [e.px (by decide) (by decide), e.px (by decide) (by decide)]; exact h2
  · rw [e.px (by decide) (by decide), e.px (by decide) (by decide)]; exact h3
  · rw [e.px (by decide) (by decide)]
    exact h4.tr h1.O20 (e.I (by decide) (by decide)) (fun k => e.R (by decide) (by decide)) (fun κ k z => e.I (by omega) (by omega)) (fun j k _ => ⟨e.I (by decide) (by decide), e.R (by decide) (by decide)⟩)
  · rw [e.I (by decide) (by decide)]; exact h7
  · rw [e.I (by decide) (by decide)]; exact h8 k hk
  · rw [e.I (by decide) (by decide)]; exact h9
theorem MI.tr (h : MI μ T C Ct D t L x) (e : EqR 40 82 μ μ') : MI μ' T C Ct D t L x := by
  obtain ⟨⟨Es, h1, h2, h3⟩, h4, ⟨h5, h6⟩, h7⟩ := h
  refine ⟨⟨Es, h1.tr (e.px (by decide) (by decide)) (fun κ k a b => e.I (by omega) (by omega)) (fun κ k a b => ⟨e.I (by omega) (by omega), e.L (by omega) (by omega)⟩), h2.tr (fun κ k a b => ⟨e.I (by omega) (by omega), e.L (by omega) (by omega)⟩), h3⟩, ?_, ⟨?_, fun k hk => ?_⟩, ?_⟩
  · rw [e.px (by decide) (by decide)]
    exact fun k hk => (h4 k hk).tr (fun κ j a b => e.I (by omega) (by omega))
  · rw [e.I (by decide) (by decide)]; exact h5
  · rw [e.I (by decide) (by decide)]; exact h6 k hk
  · rw [e.I (by decide) (by decide)]; exact h7
end CIS
