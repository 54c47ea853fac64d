/-! the model's reading: lines -/
theorem mk_way : ∀ k, k < 48 → ((13 ≤ mk k ∧ mk k ≤ 15) ↔ (13 ≤ k ∧ k ≤ 15)) ∧ ((6 ≤ mk k ∧ mk k ≤ 9) ↔ (6 ≤ k ∧ k ≤ 9)) ∧ (k ≤ 9 → mk k = k) := by decide +kernel
def OwP2 (q κ i : Nat) : Prop := OwR q κ i ∨ (58 ≤ κ ∧ κ ≤ 60 ∧ i = q)
/-- lines are read, nothing else is done -/
def FrL (q : Nat) (μ μ' : Mu) : Prop := Fr (OwP2 q) μ μ' ∧ mR μ' = mR μ ∧ (∀ k, k ≠ 9 → k ≠ 10 → mI μ' (hd 40 0) k = mI μ (hd 40 0) k) ∧ ∀ k, k ≠ 7 → k ≠ 16 → k ≠ 18 → mI μ' (hd 50 q) k = mI μ (hd 50 q) k
theorem FrL.rf {q : Nat} {μ : Mu} : FrL q μ μ := ⟨Fr.rf, rfl, fun _ _ _ => rfl, fun _ _ _ _ => rfl⟩
theorem FrL.trans {q : Nat} {μ1 μ2 μ3 : Mu} (h : FrL q μ1 μ2) (h' : FrL q μ2 μ3) : FrL q μ1 μ3 :=
  ⟨h.1.trans h'.1, h'.2.1.trans h.2.1, fun k a b => (h'.2.2.1 k a b).trans (h.2.2.1 k a b), fun k a b c => (h'.2.2.2 k a b c).trans (h.2.2.2 k a b c)⟩
theorem FrR.l {q : Nat} {μ μ' : Mu} (h : FrR q μ μ') : FrL q μ μ' := ⟨h.1.mono (fun _ _ z => Or.inl z), h.2.1, h.2.2.1, fun k _ b c => h.2.2.2 k b c⟩
theorem FrL.s58 {q κ k : Nat} {x : Int32} {μ μ' : Mu} (h : FrL q μ μ') (hκ : 58 ≤ κ ∧ κ ≤ 60) : FrL q μ (setI μ' (hd κ q) k x) :=
  ⟨h.1.setI (by omega) (Or.inr ⟨hκ.1, hκ.2, rfl⟩), h.2.1, fun j a b => by rw [rd_ne (by omega) (by decide) (by omega)]; exact h.2.2.1 j a b, fun j a b c => by rw [rd_ne (by omega) (by decide) (by omega)]; exact h.2.2.2 j a b c⟩
theorem FrL.s7 {q : Nat} {x : Int32} {μ μ' : Mu} (h : FrL q μ μ') : FrL q μ (setI μ' (hd 50 q) 7 x) :=
  ⟨h.1.setI (by decide) (Or.inl (Or.inr (Or.inr (Or.inl ⟨rfl, rfl⟩)))), h.2.1, fun j a b => by rw [rd_ne (by decide) (by decide) (by decide)]; exact h.2.2.1 j a b, fun j a b c => by rw [rd_k a]; exact h.2.2.2 j a b c⟩
section MPC
variable {d rc rs : Nat} {Q : Option Value → Mu → Prop} {μ : Mu} {t : Nat → Nat} {L q δ p : Nat} {W : List Int32} {O : List Nat}
theorem MT.frL {μ' : Mu} (h : MT μ t L) (f : FrL q μ μ') : MT μ' t L := by
  obtain ⟨⟨a1, a2, a3, a4⟩, h2⟩ := h
  refine ⟨⟨a1, a2, (f.2.2.1 2 (by decide) (by decide)).trans a3, fun k hk => ?_⟩, fun i hi => ?_⟩
  · rw [f.1.I (by decide) (by unfold OwP2 OwR; omega)]; exact a4 k hk
  · rw [f.1.I (by decide) (by unfold OwP2 OwR; omega), f.1.I (by decide) (by unfold OwP2 OwR; omega), f.1.I (by decide) (by unfold OwP2 OwR; omega)]; exact h2 i hi
theorem MG.s58 {κ k : Nat} {x : Int32} (h : MG μ t L q δ p W O) (hκ : 58 ≤ κ ∧ κ ≤ 60) : MG (setI μ (hd κ q) k x) t L q δ p W O := by
  obtain ⟨a1, a2, a3, a4, a5, a6, a7⟩ := h
  have ne : ∀ κ' i' j, κ' < 256 → κ' ≠ κ → mI (setI μ (hd κ q) k x) (hd κ' i') j = mI μ (hd κ' i') j := fun κ' i' j h1 h2 => rd_ne (by omega) h1 h2
  exact ⟨a1.frL (FrL.rf.s58 (q := q) hκ), a2, (ne _ _ _ (by decide) (by omega)).trans a3, (ne _ _ _ (by decide) (by omega)).trans a4, ⟨(ne _ _ _ (by decide) (by omega)).trans a5.1, fun i hi => (ne _ _ _ (by decide) (by omega)).trans (a5.2 i hi)⟩, ⟨(ne _ _ _ (by decide) (by omega)).trans a6.1, fun i hi => (ne _ _ _ (by decide) (by omega)).trans (a6.2 i hi)⟩, a7.1, fun j hj => (ne _ _ _ (by decide) (by omega)).trans (a7.2 j hj)⟩
theorem MG.s7 {x : Int32} (h : MG μ t L q δ p W O) : MG (setI μ (hd 50 q) 7 x) t L q δ p W O := by
  obtain ⟨a1, a2, a3, a4, a5, a6, a7⟩ := h
  have ne : ∀ κ' i' j, κ' < 256 → κ' ≠ 50 → mI (setI μ (hd 50 q) 7 x) (hd κ' i') j = mI μ (hd κ' i') j := fun κ' i' j h1 h2 => rd_ne (by decide) h1 h2
  exact ⟨a1.frL (FrL.rf.s7 (q := q)), a2, (ne _ _ _ (by decide) (by decide)).trans a3, (ne _ _ _ (by decide) (by decide)).trans a4, ⟨(rd_k (by decide)).trans a5.1, fun i hi => (ne _ _ _ (by decide) (by decide)).trans (a5.2 i hi)⟩, ⟨(rd_k (by decide)).trans a6.1, fun i hi => (ne _ _ _ (by decide) (by decide)).trans (a6.2 i hi)⟩, a7.1, fun j hj => (ne _ _ _ (by decide) (by decide)).trans (a7.2 j hj)⟩
theorem c_MM_isWay (hD : 2 ≤ d) (hS : St μ) (hG : MG μ t L q δ p W O) (hn : ¬ (13 ≤ tK t L p ∧ tK t L p ≤ 15) → ∀ μ', FrR q μ μ' → St μ' → mI μ' (hd 40 0) 9 = nI p → Q (some (.int 0)) μ') (hs : 13 ≤ tK t L p → tK t L p ≤ 15 → ∀ μ', FrR q μ μ' → St μ' → MG μ' t L q δ (p + 1) W O → Q (some (.int 1)) μ') : Cal K_MM_isWay d rc rs [.ref (hd 40 0)] μ Q := by
  have hp := hG.p4
  have hr := tK_rng (t := t) (L := L) (i := p)
  have b1 := mk_big (tK t L p) (by omega)
  have v4 : vp_in (nI p) 401 := vp_in_nI (by omega) (by decide)
  have hS1 : St (setI μ (hd 45 0) p 11) := hS
  refine e_MM_isWay (g_MM_isWay_0 (by omega) hS ?_)
  rw [hG.2.2.1, nI_clamp (by omega), rd_ne (by decide) (by decide) (by decide), hG.2.2.1, nI_clamp (by omega), rd_ne (by decide) (by decide) (by decide), hG.kd]
  have e9 : mI (setI μ (hd 45 0) p 11) (hd 40 0) 9 = nI p := by rw [rd_ne (by decide) (by decide) (by decide)]; exact hG.2.2.1
  refine ⟨v4, v4, c_MM_isInN (a := 13) (b := 15) (by omega) hS1 (by omega) (by decide) (by decide) ⟨_, rfl, fun z => ⟨hS1, hn ?_ _ FrR.rf.s45 hS1 e9⟩, fun z => ?_⟩⟩
  · rw [bI_z] at z; rw [← (mk_way _ (by omega)).1]; exact z
  · rw [bI_z, Classical.not_not] at z
    have z' := (mk_way _ (by omega)).1.mp z
    rw [e9]
    have hS2 : St (setI (setI μ (hd 45 0) p 11) (hd 40 0) 9 (nI p + 1)) := hS
    refine ⟨hS2, hs z'.1 z'.2 _ (FrR.rf.s45.s40 (Or.inl rfl)) hS2 (hG.tokAs (nI_1 _) (in_n hp.1 (by omega)) ?_)⟩
    unfold rl; rw [if_neg (by omega), if_pos z']; rfl
theorem c_MM_isNew {r : Nat} {x : Int32} (hD : 4 ≤ d) (hS : St μ) (hG : MG μ t L q δ p W O) (hk : tK t L p = 0 ∨ tK t L p = 5 ∨ tK t L p = 1) (hx : x = nI r) (hr : r = if tK t L p = 0 then 1 else if tK t L p = 5 then 2 else 3) (hn : tK t L (p + 1) ≠ 44 → ∀ μ', FrR q μ μ' → St μ' → mI μ' (hd 40 0) 9 = nI (p + 1) → Q (some (.int 0)) μ') (hs : tK t L (p + 1) = 44 → ∀ μ', FrR q μ μ' → St μ' → MG μ' t L q δ (p + 2) W O → Q (some (.int 1)) μ') : Cal K_MM_isNew d rc rs [.ref (hd 40 0), .int x] μ Q := by
  have hp := hG.p4
  have hpn := in_n hp.1 (by omega)
  have hS1 : St (setI μ (hd 40 0) 9 (mI μ (hd 40 0) 9 + 1)) := hS
  have hG1 := hG.tok (x := mI μ (hd 40 0) 9 + 1) (by rw [hG.2.2.1, nI_1]) hpn (rl_0 (by omega))
  have f1 : FrR q μ (setI μ (hd 40 0) 9 (mI μ (hd 40 0) 9 + 1)) := FrR.rf.s40 (Or.inl rfl)
  refine e_MM_isNew (g_MM_isNew_0 (by omega) hS (c_MM_eatAs (k := 44) (by omega) hS1 hG1 (by decide) (by decide) (fun z => ?_) (fun z μ' a b c => ⟨_, rfl, Or.inl rfl, b, hn z μ' (f1.trans a) b c⟩) (fun z μ' a b c => ⟨_, rfl, Or.inr rfl, b, hs z μ' (f1.trans a) b c⟩)))
  rw [rl_44 z (show tK t L (p + 1 - 1) = tK t L p from rfl) rfl, hx, hr]
  rcases hk with h | h | h <;> rw [h] <;> rfl
theorem c_MM_isRoadLine (hD : 6 ≤ d) (hS : St μ) (hG : MG μ t L q δ p W O) (hk : tK t L p = 1) (hn : ∀ μ' p', rdF (tK t L) p = (p', none) → FrR q μ μ' → St μ' → mI μ' (hd 40 0) 9 = nI p' → Q (some (.int 0)) μ') (hs : ∀ μ' p', rdF (tK t L) p = (p', some []) → FrR q μ μ' → St μ' → MG μ' t L q δ p' W O → Q (some (.int 1)) μ') : Cal K_MM_isRoadLine d rc rs [.ref (hd 40 0)] μ Q := by
  have nx0 : ∀ {P : Prop}, ¬ ((0 : Int32) = 0) → P := fun h => absurd rfl h
  have nx1 : ∀ {P : Prop}, (1 : Int32) = 0 → P := fun h => absurd h (by decide)
  have r1 := tk_y (K := tK t L) hk
  refine e_MM_isRoadLine (g_MM_isRoadLine_0 (by omega) hS ?_)
  refine c_MM_isNew (r := 3) (by omega) hS hG (by omega) (by decide) (by rw [hk]; rfl) (fun z μ' a b c => ⟨0, rfl, fun _ => ⟨b, hn μ' (p + 1) ?_ a b c⟩, nx0⟩) (fun z1 μ1 a1 a2 a3 => ⟨1, rfl, nx1, fun _ => ?_⟩)
  · exact sqn (sqn (sqn (sqn (sqn (sqn (sqsn r1 (tk_n z)))))))
  have r2 := sqss (f := gTk (tK t L) 44) r1 (tk_y z1)
  refine c_MM_eat (k := 2) (by omega) a2 a3 (by decide) (by decide) (fun y => rl_0 (by omega)) (fun z => ⟨0, rfl, fun _ => ⟨a2, hn μ1 (p + 2) ?_ a1 a2 a3.2.2.1⟩, nx0⟩) (fun z2 μ2 b1 b2 b3 => ⟨1, rfl, nx1, fun _ => ?_⟩)
  · exact sqn (sqn (sqn (sqn (sqn (sqsn r2 (tk_n z))))))
  have r3 := sqss r2 (tk_y z2)
  refine c_MM_eatAs (k := 44) (by omega) b2 b3 (by decide) (by decide) (fun y => ?_) (fun z μ' a b c => ⟨0, rfl, fun _ => ⟨b, hn μ' (p + 3) ?_ ((a1.trans b1).trans a) b c⟩, nx0⟩) (fun z3 μ3 c1 c2 c3 => ⟨1, rfl, nx1, fun _ => ?_⟩)
  · rw [rl_44 y (show tK t L (p + 2 + 1 - 1) = 2 from z2) rfl]; rfl
  · exact sqn (sqn (sqn (sqn (sqsn r3 (tk_n z)))))
  have r4 := sqss r3 (tk_y z3)
  refine c_MM_eat (k := 3) (by omega) c2 c3 (by decide) (by decide) (fun y => rl_0 (by omega)) (fun z => ⟨0, rfl, fun _ => ⟨c2, hn μ3 (p + 4) ?_ ((a1.trans b1).trans c1) c2 c3.2.2.1⟩, nx0⟩) (fun z4 μ4 d1 d2 d3 => ⟨1, rfl, nx1, fun _ => ?_⟩)
  · exact sqn (sqn (sqn (sqsn r4 (tk_n z))))
  have r5 := sqss r4 (tk_y z4)
  refine c_MM_eatAs (k := 44) (by omega) d2 d3 (by decide) (by decide) (fun y => ?_) (fun z μ' a b c => ⟨0, rfl, fun _ => ⟨b, hn μ' (p + 5) ?_ (((a1.trans b1).trans (c1.trans d1)).trans a) b c⟩, nx0⟩) (fun z5 μ5 e1 e2 e3 => ⟨1, rfl, nx1, fun _ => ?_⟩)
  · rw [rl_44 y (show tK t L (p + 2 + 1 + 1 + 1 - 1) = 3 from z4) rfl]; rfl
  · exact sqn (sqn (sqsn r5 (tk_n z)))
  have r6 := sqss r5 (tk_y z5)
  refine c_MM_eat (k := 4) (by omega) e2 e3 (by decide) (by decide) (fun y => rl_0 (by omega)) (fun z => ⟨0, rfl, fun _ => ⟨e2, hn μ5 (p + 6) ?_ ((a1.trans b1).trans ((c1.trans d1).trans e1)) e2 e3.2.2.1⟩, nx0⟩) (fun z6 μ6 f1 f2 f3 => ⟨1, rfl, nx1, fun _ => ?_⟩)
  · exact sqn (sqsn r6 (tk_n z))
  have r7 := sqss r6 (tk_y z6)
  refine c_MM_eatAs (k := 45) (by omega) f2 f3 (by decide) (by decide) (fun y => ?_) (fun z μ' a b c => ⟨0, rfl, fun _ => ⟨b, hn μ' (p + 7) ?_ (((a1.trans b1).trans ((c1.trans d1).trans e1)).trans (f1.trans a)) b c⟩, nx0⟩) (fun z7 μ7 g1 g2 g3 => ⟨1, rfl, nx1, fun _ => ⟨g2, hs μ7 (p + 8) (sqss r7 (tk_y z7)) (((a1.trans b1).trans ((c1.trans d1).trans e1)).trans (f1.trans g1)) g2 g3⟩⟩)
  · unfold rl
    rw [if_neg (by omega), if_neg (by omega), if_pos y, if_pos (show tK t L (p + 2 + 1 + 1 + 1 + 1 + 1 - 1) = 4 from z6)]; rfl
  · exact sqsn r7 (tk_n z)
end MPC
