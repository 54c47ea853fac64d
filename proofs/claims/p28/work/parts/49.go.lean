/-! the component's reading: lines -/
def wyF (K : Nat → Nat) (p : Nat) : Rs := if 13 ≤ K p ∧ K p ≤ 15 then gTk K (K p) p else (p, none)
def ohF (K : Nat → Nat) (k p : Nat) : Rs := sq (sq (gTk K k p) (gTk K 44)) (fun q => if k = 9 then (q, some []) else sq (gTk K 44 q) (fun q => if k = 6 then sq (gTk K 10 q) (gSum K 8) else if k = 7 then sq (gTk K 11 q) (gSum K 8) else sq (gTk K 12 q) (wyF K)))
def otF (K : Nat → Nat) (k p : Nat) : Rs := if k = 6 ∨ k = 7 ∨ K p = 16 then sq (gTk K 16 p) (gTes K 8) else (p, some [])
def rdF (K : Nat → Nat) (p : Nat) : Rs := sq (sq (sq (sq (sq (sq (sq (gTk K 1 p) (gTk K 44)) (gTk K 2)) (gTk K 44)) (gTk K 3)) (gTk K 44)) (gTk K 4)) (gTk K 45)
def ngF (K : Nat → Nat) (p : Nat) : Rs := sq (gTk K (K p) p) (gTk K 44)
def m4 (l : RO) : Nat := min l.length 400
def OrdP (μ : Mu) (i k tok b s m e : Nat) : Prop := mR μ (hd 26 i) 0 = some (hd 0 k) ∧ mI μ (hd 26 i) 1 = nI tok ∧ (k = 8 → mI μ (hd 26 i) 5 = nI b) ∧ mI μ (hd 26 i) 6 = nI s ∧ mI μ (hd 26 i) 7 = nI m ∧ mI μ (hd 26 i) 8 = nI e
def OwO (q i κ j : Nat) : Prop := OwG q κ j ∨ (κ = 26 ∧ j = i)
section GRO
variable {d rc rs : Nat} {Q : Option Value → Mu → Prop} {μ : Mu} {t : Nat → Nat} {L q : Nat} {r : Rs}
theorem GS.fr {μ' : Mu} {own : Nat → Nat → Prop} (h : GS μ t L q r) (f : Fr own μ μ') (h1 : ∀ κ i, 9 ≤ κ → κ ≤ 15 → ¬ own κ i) (h2 : ¬ own 21 q) (h3 : ¬ own 22 q) (h4 : ¬ own 23 q) : GS μ' t L q r := by
  obtain ⟨a1, a2, a3, a4, a5, a6⟩ := h
  have n15 := h1 15 0 (by decide) (by decide)
  refine ⟨a1.fr f (fun κ i a b => h1 κ i a (by omega)), ?_, a3, (f.I (by decide) n15).trans a4, (f.R (by decide) n15).trans a5, a6.fr (f.I (by decide) h2) (fun k => f.R (by decide) h3) (fun k => f.I (by decide) h4)⟩
  unfold px at a2 ⊢; rw [f.R (by decide) n15]; exact a2
theorem GS.s26 {i j : Nat} {x : Int32} (h : GS μ t L q r) : GS (setI μ (hd 26 i) j x) t L q r :=
  h.fr (own := fun κ j => κ = 26 ∧ j = i) (Fr.rf.setI (by decide) ⟨rfl, rfl⟩) (fun κ i a b => by omega) (by omega) (by omega) (by omega)
theorem GS.k26 {i k : Nat} (h : GS μ t L q r) : GS (setR μ (hd 26 i) 0 (hd 0 k)) t L q r :=
  h.fr (own := fun κ j => κ = 26 ∧ j = i) (Fr.rf.setR (by decide) ⟨rfl, rfl⟩) (fun κ i a b => by omega) (by omega) (by omega) (by omega)
theorem GS.len {l : RO} (h : GS μ t L q r) (e : r.2 = some l) : mI μ (hd 21 q) 4 = nI (m4 l) := by
  have := h.2.2.2.2.2
  rw [e] at this
  exact this.1
theorem c_Gr_wayOfMerging (hD : 2 ≤ d) (hS : St μ) (hG : GS μ t L q r) (hQ : ∀ μ' y, Fr (OwG q) μ μ' → St μ' → GS μ' t L q (sq r (wyF (tK t L))) → (13 ≤ nx (tK t L) r → nx (tK t L) r ≤ 15 → y = nI (nx (tK t L) r - 13)) → Q (some (.int y)) μ') : Cal K_Gr_wayOfMerging d rc rs [.ref (hd 15 0)] μ Q := by
  refine e_Gr_wayOfMerging (g_Gr_wayOfMerging_0 (by omega) hS ?_)
  have hlt := hG.nxlt
  rw [hG.px3]
  have fin : ∀ k, 13 ≤ k → k ≤ 15 → nx (tK t L) r = k → sq r (wyF (tK t L)) = sq r (gTk (tK t L) k) := by
    intro k h1 h2 e
    refine sq_at (t := t) (L := L) e (by omega) (fun p hp => ?_)
    unfold wyF; rw [hp, if_pos ⟨h1, h2⟩]
  refine ⟨fun z => ?_, fun z => ⟨fun y => ?_, fun y => ?_⟩⟩
  · refine c_Gr_take (by omega) hS hG (by decide) (fun μ1 a1 a2 a3 => ⟨rfl, a2, hQ _ _ a1 a2 (by rw [fin 13 (by decide) (by decide) z]; exact a3) (fun _ _ => by rw [z]; rfl)⟩)
  · refine c_Gr_take (by omega) hS hG (by decide) (fun μ1 a1 a2 a3 => ⟨rfl, a2, hQ _ _ a1 a2 (by rw [fin 14 (by decide) (by decide) y]; exact a3) (fun _ _ => by rw [y]; rfl)⟩)
  · refine c_Gr_take (by omega) hS hG (by decide) (fun μ1 a1 a2 a3 => ⟨rfl, a2, hQ _ _ a1 a2 ?_ (fun _ _ => ?_)⟩)
    · by_cases h : nx (tK t L) r = 15
      · rw [fin 15 (by decide) (by decide) h]; exact a3
      · have e : sq r (gTk (tK t L) 15) = sq r (wyF (tK t L)) := by
          obtain ⟨p, _ | l⟩ := r
          · rfl
          · refine sq_congr (fun l' _ => ?_)
            have hp : tK t L p = nx (tK t L) (p, some l) := rfl
            show gTk _ _ p = wyF _ p
            unfold gTk wyF; rw [hp, if_neg h, if_neg (by omega)]
        rw [← e]; exact a3
    · rw [show nx (tK t L) r = 15 by omega]; rfl
theorem c_Gr_ord2 {i k : Nat} (hD : 99 ≤ d) (hi : i < 42) (hk : 6 ≤ k ∧ k ≤ 9) (hS : St μ) (hG : GS μ t L q r) (hQ : ∀ μ', Fr (OwO q i) μ μ' → St μ' → (∀ j, j ≠ 7 → j ≠ 8 → mI μ' (hd 26 i) j = mI μ (hd 26 i) j) → mR μ' (hd 26 i) 0 = mR μ (hd 26 i) 0 → GS μ' t L q (sq r (otF (tK t L) k)) → (∀ p1 l1 p2 l2, r = (p1, some l1) → sq r (otF (tK t L) k) = (p2, some l2) → mI μ' (hd 26 i) 7 = nI (m4 l1) ∧ mI μ' (hd 26 i) 8 = nI (m4 l2)) → Q none μ') : Wx K_Gr_orderLine d rc rs (fun r μ' => St μ' ∧ Q r μ') 124 [(0, .ref (hd 15 0)), (1, .ref (hd 26 i)), (2, .ref (hd 0 k))] [] μ := by
  have hS1 : ∀ x, St (setI μ (hd 26 i) 7 x) := fun x => hS
  have hG1 : ∀ x, GS (setI μ (hd 26 i) 7 x) t L q r := fun x => hG.s26
  have yes : (sq r (otF (tK t L) k) = sq (sq r (gTk (tK t L) 16)) (gTes (tK t L) 8)) → ∀ x, x = mI μ (hd 21 (px μ (hd 15 0) 1)) 4 → Cal K_Gr_take (d - 1) 0 0 [.ref (hd 15 0), .ref (hd 0 16)] (setI μ (hd 26 i) 7 x) (fun r μ2 => r = none ∧ (Cal K_Gr_test (d - 1) 0 0 [.ref (hd 15 0), .int 0] μ2 (fun r μ3 => r = none ∧ (St (setI μ3 (hd 26 i) 8 (mI μ3 (hd 21 (px μ3 (hd 15 0) 1)) 4)) ∧ Q none (setI μ3 (hd 26 i) 8 (mI μ3 (hd 21 (px μ3 (hd 15 0) 1)) 4)))))) := by
    intro e x hx
    refine c_Gr_take (by omega) (hS1 x) (hG1 x) (by decide) (fun μ1 a1 a2 a3 => ⟨rfl, ?_⟩)
    refine c_Gr_test8 _ _ _ _ _ _ (by omega) a2 a3 (fun μ2 b1 b2 b3 => ⟨rfl, b2, hQ _ ?_ b2 (fun j h7 h8 => ?_) ?_ ?_ ?_⟩)
    · exact ((((Fr.rf.setI (κ := 26) (i := i) (k := 7) (x := x) (own := OwO q i) (by decide) (Or.inr ⟨rfl, rfl⟩)).trans (a1.mono (fun _ _ z => Or.inl z))).trans (b1.mono (fun _ _ z => Or.inl z))).setI (by decide) (Or.inr ⟨rfl, rfl⟩))
    · rw [rd_k h8, b1.I (by decide) (by unfold OwG; omega), a1.I (by decide) (by unfold OwG; omega), rd_k h7]
    · rw [mR_setI, b1.R (by decide) (by unfold OwG; omega), a1.R (by decide) (by unfold OwG; omega), mR_setI]
    · rw [e]; exact b3.s26
    · intro p1 l1 p2 l2 e1 e2
      refine ⟨?_, ?_⟩
      · rw [rd_k (by decide), b1.I (by decide) (by unfold OwG; omega), a1.I (by decide) (by unfold OwG; omega), rd_eq, hx, hG.2.1]
        exact hG.len (by rw [e1])
      · rw [rd_eq, b3.2.1]
        exact b3.len (by rw [← e, e2])
  have e67 : k = 6 ∨ k = 7 → sq r (otF (tK t L) k) = sq (sq r (gTk (tK t L) 16)) (gTes (tK t L) 8) := by
    intro h
    rw [sq_assoc]
    refine sq_congr (fun l _ => ?_)
    unfold otF; rw [if_pos (by omega)]
  refine g_Gr_orderLine_124 (by omega) hi (by omega) hS ⟨fun z => yes (e67 (Or.inl z)) _ rfl, fun z => ⟨fun y => yes (e67 (Or.inr y)) _ rfl, fun y => ?_⟩⟩
  rw [hG.px3]
  refine ⟨fun x => yes ?_ _ rfl, fun x => ?_⟩
  · rw [sq_assoc]
    refine sq_at (t := t) (L := L) x (by decide) (fun p hp => ?_)
    unfold otF; rw [if_pos (by omega)]
  · have e : sq r (otF (tK t L) k) = r := by
      obtain ⟨p, _ | l⟩ := r
      · rfl
      · have : otF (tK t L) k p = (p, some []) := by
          have hp : tK t L p = nx (tK t L) (p, some l) := rfl
          unfold otF; rw [if_neg (by rw [hp]; omega)]
        unfold sq; dsimp only; rw [this]; dsimp only; rw [List.append_nil]
    have hS2 : St (setI (setI μ (hd 26 i) 7 (mI μ (hd 21 (px μ (hd 15 0) 1)) 4)) (hd 26 i) 8 (mI (setI μ (hd 26 i) 7 (mI μ (hd 21 (px μ (hd 15 0) 1)) 4)) (hd 21 (px μ (hd 15 0) 1)) 4)) := hS
    refine ⟨hS2, hQ _ ((Fr.rf.setI (by decide) (Or.inr ⟨rfl, rfl⟩)).setI (by decide) (Or.inr ⟨rfl, rfl⟩)) hS2 (fun j h7 h8 => ?_) rfl (by rw [e]; exact (hG1 _).s26) ?_⟩
    · rw [rd_k h8, rd_k h7]
    · intro p1 l1 p2 l2 e1 e2
      rw [e] at e2
      refine ⟨?_, ?_⟩
      · rw [rd_k (by decide), rd_eq, hG.2.1]; exact hG.len (by rw [e1])
      · rw [rd_eq, hG.2.1, rd_ne (by decide) (by decide) (by decide)]; exact hG.len (by rw [e2])
theorem tk_pos {K : Nat → Nat} {r : Rs} {k : Nat} {l : RO} (h : (sq r (gTk K k)).2 = some l) : r.2 = some l ∧ (sq r (gTk K k)).1 = r.1 + 1 := by
  obtain ⟨p, _ | l'⟩ := r
  · cases h
  · unfold sq gTk at h ⊢
    dsimp only at h ⊢
    by_cases hk : K p = k
    · rw [if_pos hk] at h ⊢
      dsimp only at h ⊢
      rw [List.append_nil] at h
      exact ⟨h, rfl⟩
    · rw [if_neg hk] at h; cases h
theorem sq_some {r : Rs} {f : Nat → Rs} {p : Nat} {l : RO} (h : sq r f = (p, some l)) : ∃ p1 l1 l2, r = (p1, some l1) ∧ f p1 = (p, some l2) ∧ l = l1 ++ l2 := by
  obtain ⟨p1, _ | l1⟩ := r
  · cases h
  · unfold sq at h
    dsimp only at h
    rcases hh : f p1 with ⟨p2, _ | l2⟩
    · rw [hh] at h; cases h
    · rw [hh] at h; cases h; exact ⟨p1, l1, l2, rfl, hh, rfl⟩
theorem c_Gr_orderLine {i p : Nat} {l : RO} (hD : 100 ≤ d) (hi : i < 42) (hk : 6 ≤ tK t L p ∧ tK t L p ≤ 9) (hS : St μ) (hG : GS μ t L q (p, some l)) (hQ : ∀ μ', Fr (OwO q i) μ μ' → St μ' → GS μ' t L q (sq (sq (p, some l) (ohF (tK t L) (tK t L p))) (otF (tK t L) (tK t L p))) → (∀ p1 l1 p2 l2, sq (p, some l) (ohF (tK t L) (tK t L p)) = (p1, some l1) → sq (p1, some l1) (otF (tK t L) (tK t L p)) = (p2, some l2) → OrdP μ' i (tK t L p) p (tK t L (p + 4) - 13) (m4 l) (m4 l1) (m4 l2)) → Q none μ') : Cal K_Gr_orderLine d rc rs [.ref (hd 15 0), .ref (hd 26 i)] μ Q := by
  refine e_Gr_orderLine (g_Gr_orderLine_0 (by omega) hi hS (fun μ3 e3 => ?_))
  have hpx : px μ (hd 15 0) 3 = tK t L p := hG.px3
  have hS3 : St μ3 := by
    rw [e3]
    have : St (setR μ (hd 26 i) 0 (hd 0 (px μ (hd 15 0) 3))) := sd_26_0 hS hi (by omega)
    exact this
  have hG3 : GS μ3 t L q (p, some l) := by rw [e3]; exact (hG.k26.s26).s26
  have f3 : Fr (OwO q i) μ μ3 := by rw [e3]; exact ((Fr.rf.setR (by decide) (Or.inr ⟨rfl, rfl⟩)).setI (by decide) (Or.inr ⟨rfl, rfl⟩)).setI (by decide) (Or.inr ⟨rfl, rfl⟩)
  have r3 : mR μ3 (hd 26 i) 0 = some (hd 0 (tK t L p)) := by rw [e3, mR_setI, mR_setI, mR_set, if_pos ⟨rfl, rfl⟩, hpx]
  have t3 : mI μ3 (hd 26 i) 1 = nI p := by rw [e3, rd_k (by decide), rd_eq, mI_setR]; exact hG.2.2.2.1
  have s3 : mI μ3 (hd 26 i) 6 = nI (m4 l) := by
    rw [e3, rd_eq, rd_ne (by decide) (by decide) (by decide), mI_setR]
    have : px (setR μ (hd 26 i) 0 (hd 0 (px μ (hd 15 0) 3))) (hd 15 0) 1 = q := (hG.k26 (k := px μ (hd 15 0) 3)).2.1
    rw [this]; exact hG.len rfl
  clear e3
  generalize tK t L p = k at *
  rw [hpx]
  -- behind the head
  have fin : ∀ μ4, Fr (OwG q) μ3 μ4 → ∀ x, ∀ μ5, (μ5 = μ4 ∨ μ5 = setI μ4 (hd 26 i) 5 x) → (k = 8 → ∀ p1 l1, sq (p, some l) (ohF (tK t L) k) = (p1, some l1) → μ5 = setI μ4 (hd 26 i) 5 x ∧ x = nI (tK t L (p + 4) - 13)) → St μ4 → GS μ4 t L q (sq (p, some l) (ohF (tK t L) k)) → Wx K_Gr_orderLine d rc rs (fun r μ' => St μ' ∧ Q r μ') 124 [(0, .ref (hd 15 0)), (1, .ref (hd 26 i)), (2, .ref (hd 0 k))] [] μ5 := by
    intro μ4 f4 x μ5 h5 h58 hS4 hG4
    have hS5 : St μ5 := by rcases h5 with rfl | rfl; exact hS4; exact hS4
    have hG5 : GS μ5 t L q (sq (p, some l) (ohF (tK t L) k)) := by rcases h5 with rfl | rfl; exact hG4; exact hG4.s26
    have f5 : Fr (OwO q i) μ μ5 := by
      have := f3.trans (f4.mono (fun _ _ z => Or.inl z) : Fr (OwO q i) μ3 μ4)
      rcases h5 with rfl | rfl
      · exact this
      · exact this.setI (by decide) (Or.inr ⟨rfl, rfl⟩)
    have k5 : ∀ j, j ≠ 5 → mI μ5 (hd 26 i) j = mI μ3 (hd 26 i) j := by
      intro j hj
      rcases h5 with rfl | rfl
      · exact f4.I (by decide) (by unfold OwG; omega)
      · rw [rd_k hj]; exact f4.I (by decide) (by unfold OwG; omega)
    have r5 : mR μ5 (hd 26 i) 0 = mR μ3 (hd 26 i) 0 := by
      rcases h5 with rfl | rfl
      · exact f4.R (by decide) (by unfold OwG; omega)
      · rw [mR_setI]; exact f4.R (by decide) (by unfold OwG; omega)
    refine c_Gr_ord2 (by omega) hi hk hS5 hG5 (fun μ' m1 m2 m3 m4 m5 m6 => hQ _ (f5.trans m1) m2 m5 (fun p1 l1 p2 l2 e1 e2 => ?_))
    obtain ⟨n7, n8⟩ := m6 p1 l1 p2 l2 e1 (by rw [e1]; exact e2)
    refine ⟨m4.trans (r5.trans r3), ?_, fun z => ?_, ?_, n7, n8⟩
    · rw [m3 1 (by decide) (by decide), k5 1 (by decide)]; exact t3
    · obtain ⟨z1, z2⟩ := h58 z p1 l1 e1
      rw [m3 5 (by decide) (by decide), z1, rd_eq]; exact z2
    · rw [m3 6 (by decide) (by decide), k5 6 (by decide)]; exact s3
  have hk46 : k < 46 := by omega
  -- the head
  refine c_Gr_take (by omega) hS3 hG3 hk46 (fun μ4 a1 a2 a3 => ⟨rfl, c_Gr_take (by omega) a2 a3 (by decide) (fun μ5 b1 b2 b3 => ⟨rfl, ?_, fun z9 => ?_⟩)⟩)
  · intro z9
    subst z9
    refine ⟨fun z => absurd z (by decide), fun _ => ⟨fun z => absurd z (by decide), fun _ => ⟨fun z => absurd z (by decide), fun _ => ?_⟩⟩⟩
    refine fin μ5 (a1.trans b1) 0 μ5 (Or.inl rfl) (fun z => absurd z (by decide)) b2 ?_
    have e : ∀ p, ohF (tK t L) 9 p = sq (gTk (tK t L) 9 p) (gTk (tK t L) 44) := fun p => by
      unfold ohF
      have : (fun q => if 9 = 9 then ((q, some []) : Rs) else sq (gTk (tK t L) 44 q) (fun q => if 9 = 6 then sq (gTk (tK t L) 10 q) (gSum (tK t L) 8) else if 9 = 7 then sq (gTk (tK t L) 11 q) (gSum (tK t L) 8) else sq (gTk (tK t L) 12 q) (wyF (tK t L)))) = fun q => ((q, some []) : Rs) := by funext q; rw [if_pos rfl]
      rw [this, sq_id]
    rw [funext e, ← sq_assoc]; exact b3
  · refine c_Gr_take (by omega) b2 b3 (by decide) (fun μ6 c1 c2 c3 => ⟨rfl, fun z => ?_, fun z => ⟨fun y => ?_, fun y => ⟨fun x => ?_, fun x => absurd z9 (by omega)⟩⟩⟩)
    · subst z
      refine c_Gr_take (by omega) c2 c3 (by decide) (fun μ7 d1 d2 d3 => ⟨rfl, c_Gr_sum8 _ _ _ _ _ _ (by omega) d2 d3 (fun μ8 e1 e2 e3 => ⟨rfl, ?_⟩)⟩)
      refine fin μ8 ((((a1.trans b1).trans c1).trans d1).trans e1) 0 μ8 (Or.inl rfl) (fun z => absurd z (by decide)) e2 ?_
      have e : ∀ p, ohF (tK t L) 6 p = sq (sq (sq (sq (gTk (tK t L) 6 p) (gTk (tK t L) 44)) (gTk (tK t L) 44)) (gTk (tK t L) 10)) (gSum (tK t L) 8) := fun p => by
        unfold ohF
        rw [sq_assoc, sq_assoc, sq_assoc, sq_assoc]
        rfl
      rw [funext e, ← sq_assoc, ← sq_assoc, ← sq_assoc, ← sq_assoc]; exact e3
    · subst y
      refine c_Gr_take (by omega) c2 c3 (by decide) (fun μ7 d1 d2 d3 => ⟨rfl, c_Gr_sum8 _ _ _ _ _ _ (by omega) d2 d3 (fun μ8 e1 e2 e3 => ⟨rfl, ?_⟩)⟩)
      refine fin μ8 ((((a1.trans b1).trans c1).trans d1).trans e1) 0 μ8 (Or.inl rfl) (fun z => absurd z (by decide)) e2 ?_
      have e : ∀ p, ohF (tK t L) 7 p = sq (sq (sq (sq (gTk (tK t L) 7 p) (gTk (tK t L) 44)) (gTk (tK t L) 44)) (gTk (tK t L) 11)) (gSum (tK t L) 8) := fun p => by
        unfold ohF
        rw [sq_assoc, sq_assoc, sq_assoc, sq_assoc]
        rfl
      rw [funext e, ← sq_assoc, ← sq_assoc, ← sq_assoc, ← sq_assoc]; exact e3
    · subst x
      have e : ∀ p, ohF (tK t L) 8 p = sq (sq (sq (sq (gTk (tK t L) 8 p) (gTk (tK t L) 44)) (gTk (tK t L) 44)) (gTk (tK t L) 12)) (wyF (tK t L)) := fun p => by
        unfold ohF
        rw [sq_assoc, sq_assoc, sq_assoc, sq_assoc]
        rfl
      refine c_Gr_take (by omega) c2 c3 (by decide) (fun μ7 d1 d2 d3 => ⟨rfl, c_Gr_wayOfMerging (by omega) d2 d3 (fun μ8 y e1 e2 e3 e4 => ⟨_, rfl, ?_⟩)⟩)
      have e5 : sq (p, some l) (ohF (tK t L) 8) = sq (sq (sq (sq (sq (p, some l) (gTk (tK t L) 8)) (gTk (tK t L) 44)) (gTk (tK t L) 44)) (gTk (tK t L) 12)) (wyF (tK t L)) := by
        rw [funext e, ← sq_assoc, ← sq_assoc, ← sq_assoc, ← sq_assoc]
      refine fin μ8 ((((a1.trans b1).trans c1).trans d1).trans e1) y _ (Or.inr rfl) (fun _ p1 l1 e6 => ⟨rfl, ?_⟩) e2 (by rw [e5]; exact e3)
      rw [e5] at e6
      obtain ⟨p4, l4, l5, e7, e8, -⟩ := sq_some e6
      have g4 := tk_pos (l := l4) (by rw [e7])
      have g3 := tk_pos g4.1
      have g2 := tk_pos g3.1
      have g1 := tk_pos g2.1
      have hp4 : p4 = p + 4 := by
        have h4 := g4.2
        rw [e7, g3.2, g2.2, g1.2] at h4
        exact h4
      have h13 : 13 ≤ tK t L p4 ∧ tK t L p4 ≤ 15 := by
        unfold wyF at e8
        by_cases h : 13 ≤ tK t L p4 ∧ tK t L p4 ≤ 15
        · exact h
        · rw [if_neg h] at e8; cases e8
      rw [e7] at e4
      rw [← hp4]
      exact e4 h13.1 h13.2
theorem c_Gr_roadLine (hD : 2 ≤ d) (hS : St μ) (hG : GS μ t L q r) (hQ : ∀ μ', Fr (OwG q) μ μ' → St μ' → GS μ' t L q (sq r (rdF (tK t L))) → Q none μ') : Cal K_Gr_roadLine d rc rs [.ref (hd 15 0)] μ Q := by
  refine e_Gr_roadLine (g_Gr_roadLine_0 (by omega) hS ?_)
  refine c_Gr_take (by omega) hS hG (by decide) (fun μ1 a1 a2 a3 => ⟨rfl, c_Gr_take (by omega) a2 a3 (by decide) (fun μ2 b1 b2 b3 => ⟨rfl, c_Gr_take (by omega) b2 b3 (by decide) (fun μ3 c1 c2 c3 => ⟨rfl, c_Gr_take (by omega) c2 c3 (by decide) (fun μ4 d1 d2 d3 => ⟨rfl, ?_⟩)⟩)⟩)⟩)
  refine c_Gr_take (by omega) d2 d3 (by decide) (fun μ5 e1 e2 e3 => ⟨rfl, c_Gr_take (by omega) e2 e3 (by decide) (fun μ6 f1 f2 f3 => ⟨rfl, c_Gr_take (by omega) f2 f3 (by decide) (fun μ7 g1 g2 g3 => ⟨rfl, c_Gr_take (by omega) g2 g3 (by decide) (fun μ8 h1 h2 h3 => ⟨rfl, h2, hQ _ (((((((a1.trans b1).trans c1).trans d1).trans e1).trans f1).trans g1).trans h1) h2 ?_⟩)⟩)⟩)⟩)
  have e : sq r (rdF (tK t L)) = sq (sq (sq (sq (sq (sq (sq (sq r (gTk (tK t L) 1)) (gTk (tK t L) 44)) (gTk (tK t L) 2)) (gTk (tK t L) 44)) (gTk (tK t L) 3)) (gTk (tK t L) 44)) (gTk (tK t L) 4)) (gTk (tK t L) 45) := by
    obtain ⟨p, _ | l⟩ := r
    · rfl
    · have : rdF (tK t L) = fun p => sq (sq (sq (sq (sq (sq (sq (gTk (tK t L) 1 p) (gTk (tK t L) 44)) (gTk (tK t L) 2)) (gTk (tK t L) 44)) (gTk (tK t L) 3)) (gTk (tK t L) 44)) (gTk (tK t L) 4)) (gTk (tK t L) 45) := rfl
      rw [this, ← sq_assoc, ← sq_assoc, ← sq_assoc, ← sq_assoc, ← sq_assoc, ← sq_assoc, ← sq_assoc]
  rw [e]; exact h3
end GRO
