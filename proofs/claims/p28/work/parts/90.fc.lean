/-! the faces that change what is -/
theorem ord_1 {T : PT} {C Ct : Nat → List Op} {D : DT} {k : Nat} : D 1 0 0 ≤ (ordD T C Ct D k).1 1 0 0 := by
  have mk : ∀ b n v m h, D 1 0 0 ≤ mkD T D b n v m h 1 0 0 := fun b n v m h => by rw [mk_1]; omega
  unfold ordD wrD noD meD
  split
  · exact Nat.le_refl _
  · split
    · exact Nat.le_of_eq (send_f (f := 1) (i := 0) (j := 0) (by decide) (by decide)).symm
    · split
      · exact Nat.le_refl _
      · split
        · split
          · exact mk _ _ _ _ _
          · exact Nat.le_refl _
        · split
          · split
            · exact mk _ _ _ _ _
            · exact Nat.le_refl _
          · exact mk _ _ _ _ _
theorem day_1 {T : PT} {C Ct : Nat → List Op} {D : DT} : D 1 0 0 ≤ dayD T C Ct D 1 0 0 := by
  unfold dayD
  rw [ud_f (by decide), hoA_f (by decide) (by decide) (by decide) (by decide) (by decide), brA_f (by decide) (by decide)]
  have : ∀ k, D 1 0 0 ≤ ordF T C Ct D k 1 0 0 := by
    intro k
    induction k with
    | zero => exact Nat.le_refl _
    | succ k ih => rw [ordF, ud_f (by decide)]; exact Nat.le_trans ih ord_1
  exact this _
theorem days_1 {T : PT} {C Ct : Nat → List Op} {D : DT} : ∀ n, D 1 0 0 ≤ daysD T C Ct D n 1 0 0
  | 0 => Nat.le_refl _
  | n + 1 => Nat.le_trans (days_1 n) day_1
def inN (x : Int32) (n : Nat) : Prop := 1 ≤ x.toInt ∧ x.toInt ≤ n
noncomputable def dvWrite (T : PT) (D : DT) (x1 x2 x3 : Int32) : RV × DT := ifP (inR x1 (T 0 0) ∧ inR x2 (T 1 0)) (ifP (inR x3 10000) (ifP (D 1 0 0 = 60) (.ex 0 3, D) (.ok (nI (D 1 0 0)), wrD T D x1.toNatClampNeg x2.toNatClampNeg x3.toNatClampNeg)) (.ex 1 2, D)) (.ex 2 1, D)
noncomputable def dvNote (T : PT) (D : DT) (x1 x2 x3 : Int32) : RV × DT := ifP (inR x1 (T 0 0) ∧ inR x2 (T 1 0)) (ifP (inR x3 16) (ifP (D 1 0 0 = 60) (.ex 0 3, D) (ifP ((shL D x1.toNatClampNeg x2.toNatClampNeg).length = 1) (.ok (nI (D 1 0 0)), noD T D x1.toNatClampNeg x2.toNatClampNeg x3.toNatClampNeg) (.ex 0 3, D))) (.ex 1 2, D)) (.ex 2 1, D)
noncomputable def dvMerge (T : PT) (D : DT) (x1 x2 x3 : Int32) : RV × DT := ifP (inR x1 (T 0 0) ∧ inR x2 (T 1 0)) (ifP (inR x3 3) (ifP (D 1 0 0 = 60) (.ex 0 2, D) (ifP (2 ≤ (shL D x1.toNatClampNeg x2.toNatClampNeg).length) (.ok (nI (D 1 0 0)), meD T D x1.toNatClampNeg x2.toNatClampNeg x3.toNatClampNeg) (.ex 0 2, D))) (.ex 2 1, D)) (.ex 2 1, D)
noncomputable def dvSend (T : PT) (D : DT) (x1 : Int32) : RV × DT := ifP (inR x1 (T 2 0)) (.ok (nI (carN D x1.toNatClampNeg (D 1 0 0))), sendD D x1.toNatClampNeg) (.ex 2 1, D)
noncomputable def dvSetDays (T : PT) (D : DT) (x1 x2 : Int32) : RV × DT := ifP (inR x1 (T 2 0)) (ifP (inN x2 9) (.ok (nI (D 9 x1.toNatClampNeg 0)), ud D 9 x1.toNatClampNeg 0 x2.toNatClampNeg) (.ex 1 2, D)) (.ex 2 1, D)
noncomputable def dvPass (T : PT) (C Ct : Nat → List Op) (D : DT) (x1 : Int32) : RV × DT := ifP (inN x1 60) (.ok (nI (daysD T C Ct D x1.toNatClampNeg 2 0 0) - nI (D 2 0 0)), daysD T C Ct D x1.toNatClampNeg) (.ex 1 1, D)
noncomputable def rvForesee (T : PT) (C Ct : Nat → List Op) (D : DT) (x1 x2 : Int32) : RV := ifP (inN x1 60) (ifP (5 ≤ x2.toInt ∧ x2.toInt ≤ 11) (.ok (nI (tallyN T (daysD T C Ct D x1.toNatClampNeg) x2.toNatClampNeg))) (.ex 2 2)) (.ex 1 1)
noncomputable def unR (T : PT) (C Ct : Nat → List Op) (D : DT) (b s : Nat) : Nat → Nat → Int32
  | 0, _ => -1
  | j + 1, n => ifP (kn (daysD T C Ct D n) b s) (nI n) (unR T C Ct D b s j (n + 1))
noncomputable def rvUntil (T : PT) (C Ct : Nat → List Op) (D : DT) (x1 x2 : Int32) : RV := ifP (inR x1 (T 0 0)) (ifP (inR x2 (D 1 0 0)) (.ok (unR T C Ct D x1.toNatClampNeg x2.toNatClampNeg 61 0)) (.ex 2 1)) (.ex 2 1)
noncomputable def adR (T : PT) (C Ct : Nat → List Op) (D : DT) (n : Nat) : Nat → Nat → Int32 → Nat → Int32
  | 0, _, best, _ => best
  | j + 1, r, best, most => ifP (most < knownAll T (daysD T C Ct (sendD D r) n)) (adR T C Ct D n j (r + 1) (nI r) (knownAll T (daysD T C Ct (sendD D r) n))) (adR T C Ct D n j (r + 1) best most)
noncomputable def rvAdvise (T : PT) (C Ct : Nat → List Op) (D : DT) (x1 : Int32) : RV := ifP (inN x1 30) (.ok (adR T C Ct D x1.toNatClampNeg (T 2 0) 0 (-1) (knownAll T (daysD T C Ct D x1.toNatClampNeg)))) (.ex 1 1)
noncomputable def miR (T : PT) (D : DT) : Nat → Nat → Int32
  | 0, _ => -1
  | j + 1, s => ifP (knowersN T D s < T 0 0) (nI s) (miR T D j (s + 1))
theorem one_lit : ((1 : Int32).toInt) = 1 := by decide
/-- 1 to n, as Java asks -/
theorem twoN {x y : Int32} {n : Nat} (e : y = nI n) (hn : n < 2 ^ 31) {A B : Prop} (hb : ¬ inN x n → B) (ha : inN x n → A) : (x < 1 → B) ∧ (¬ x < 1 → ((x ≤ y → A) ∧ (¬ x ≤ y → B))) := by
  subst e
  unfold inN at hb ha
  rw [Int32.lt_iff_toInt_lt, Int32.le_iff_toInt_le, nI_toInt hn, one_lit]
  exact ⟨fun h => hb (by omega), fun h => ⟨fun h2 => ha (by omega), fun h2 => hb (by omega)⟩⟩
/-- 0 to n, as Java asks -/
theorem two0 {x y : Int32} {n : Nat} (e : y = nI n) (hn : n + 1 < 2 ^ 31) {A B : Prop} (hb : ¬ inR x (n + 1) → B) (ha : inR x (n + 1) → A) : (x < 0 → B) ∧ (¬ x < 0 → ((x ≤ y → A) ∧ (¬ x ≤ y → B))) := by
  subst e
  unfold inR at hb ha
  rw [Int32.lt_iff_toInt_lt, Int32.le_iff_toInt_le, nI_toInt (by omega)]
  have e0 : (0 : Int32).toInt = 0 := by decide
  rw [e0]
  exact ⟨fun h => hb (by omega), fun h => ⟨fun h2 => ha (by omega), fun h2 => hb (by omega)⟩⟩
theorem nat_of {x : Int32} (h : 0 ≤ x.toInt) : ∃ k, k < 2 ^ 31 ∧ x = nI k ∧ (k : Int) = x.toInt := by
  obtain ⟨k, -, h2, rfl⟩ := inR.ex (x := x) (n := 2 ^ 31) ⟨h, by have := x.toInt_lt; omega⟩
  exact ⟨k, h2, rfl, (nI_toInt h2).symm⟩
section FC
variable {d rc rs : Nat} {Q : Option Value → Mu → Prop} {μ μ' : Mu} {T : PT} {C Ct : Nat → List Op} {D D' : DT} {t : Nat → Nat} {L n : Nat} {x x1 x2 x3 : Int32}
/-- the world of now changes -/
theorem CI.wd {q : Nat} (h : CI μ T C Ct D t L x) (hq : px μ (hd 8 0) 3 = q) (f : FrQ 0 q μ μ') (hX : XC μ' 0 T D') : CI μ' T C Ct D' t L x := by
  obtain ⟨h1, ⟨h2, h3, h4⟩, ⟨h5, h6, h7, h8⟩, h9⟩ := h
  obtain ⟨f1, f2, f3⟩ := f
  have p : ∀ a k, px μ' a k = px μ a k := fun a k => by unfold px; rw [f2]
  subst hq
  refine ⟨hX, ⟨by rw [p, p]; exact h2, by rw [p, p]; exact h3, ?_⟩, ⟨h5, h6, ?_, fun k hk => ?_⟩, ?_⟩
  · rw [p]
    exact h4.tr h1.O20 f3 (fun k => by rw [f2]) (fun κ k z => f1.I (by omega) (by unfold OwP OwW OwC; omega)) (fun j k _ => ⟨f1.I (by decide) (by unfold OwP OwW OwC; omega), by rw [f2]⟩)
  · rw [f1.I (by decide) (by unfold OwP OwW OwC; omega)]; exact h7
  · rw [f1.I (by decide) (by unfold OwP OwW OwC; omega)]; exact h8 k hk
  · rw [f1.I (by decide) (by unfold OwP OwW OwC; omega)]; exact h9
theorem FrQ.w {w q : Nat} (f : Fr (OwW w) μ μ') (hr : mR μ' = mR μ) : FrQ w q μ μ' := ⟨f.mono (fun κ i z => Or.inl z), hr, f.I (by decide) (by unfold OwW; omega)⟩
theorem FrQ.c8 {w q : Nat} (f : FrQ w q μ μ') : Fr OwC8 μ μ' := f.1.mono (fun κ i z => by unfold OwP OwW OwC at z; unfold OwC8; omega)
/-- the world of then changes -/
theorem CI.w1 {q : Nat} (h : CI μ T C Ct D t L x) (hq : px μ (hd 8 0) 3 = q) (f : Fr (OwP 1 q) μ μ') (f3 : mI μ' (hd 21 q) 4 = mI μ (hd 21 q) 4) : CI μ' T C Ct D t L x := by
  obtain ⟨h1, ⟨h2, h3, h4⟩, ⟨h5, h6, h7, h8⟩, h9⟩ := h
  have r8 : ∀ k, mR μ' (hd 8 0) k = mR μ (hd 8 0) k := fun k => f.R (by decide) (by unfold OwP OwW OwC; omega)
  have r29 : mR μ' (hd 29 0) 3 = mR μ (hd 29 0) 3 := f.R (by decide) (by unfold OwP OwW OwC; omega)
  have p8 : ∀ k, px μ' (hd 8 0) k = px μ (hd 8 0) k := fun k => by unfold px; rw [r8]
  have p29 : px μ' (hd 29 0) 3 = px μ (hd 29 0) 3 := by unfold px; rw [r29]
  subst hq
  refine ⟨h1.tr2 (fun k => f.I (by decide) (by unfold OwP OwW OwC; omega)) (fun κ i k z => f.I (by unfold OwW at z; omega) (by unfold OwW at z; unfold OwP OwW OwC; omega)) r29, ⟨by rw [p8, p8]; exact h2, by rw [p29, p8]; exact h3, ?_⟩, ⟨h5, h6, ?_, fun k hk => ?_⟩, ?_⟩
  · rw [p8]
    exact h4.tr h1.O20 f3 (fun k => f.R (by decide) (by unfold OwP OwW OwC; omega)) (fun κ k z => f.I (by omega) (by unfold OwP OwW OwC; omega)) (fun j k _ => ⟨f.I (by decide) (by unfold OwP OwW OwC; omega), f.R (by decide) (by unfold OwP OwW OwC; omega)⟩)
  · rw [f.I (by decide) (by unfold OwP OwW OwC; omega)]; exact h7
  · rw [f.I (by decide) (by unfold OwP OwW OwC; omega)]; exact h8 k hk
  · rw [f.I (by decide) (by unfold OwP OwW OwC; omega)]; exact h9
theorem c_PB_isMarkR (hD : 1 ≤ d) (hS : St μ) (hQ : Q (some (.int (bI (inR x1 16)))) μ) : Cal K_PB_isMark d rc rs [.int x1] μ Q :=
  c_PB_isMark hD hS (by rw [bI_congr (show (0 ≤ x1.toInt ∧ x1.toInt ≤ 15) ↔ inR x1 16 by unfold inR; omega)]; exact hQ)
theorem c_PB_write (hC : CI μ T C Ct D t L x) (hD : 6 ≤ d) (hxx : ∀ k c, (dvWrite T D x1 x2 x3).1 = RV.ex k c → 1 ≤ rc ∧ 6 ≤ rs) (hS : St μ) (hQ : ∀ μ', Fr OwC8 μ μ' → St μ' → CI μ' T C Ct (dvWrite T D x1 x2 x3).2 t L x → Q (dvWrite T D x1 x2 x3).1.c μ') : CalT K_PB_write d rc rs [.ref (hd 8 0), .int x1, .int x2, .int x3] μ Q := by
  have h60 := hC.1.S60
  unfold dvWrite at hQ hxx
  refine t_PB_write hD (g_PB_write_0 (by omega) hS (c_PB_isBoardOf hC (by omega) hS ⟨_, rfl, bIs (fun h => ?_) (fun h => two0 (n := 9999) rfl (by decide) (fun h2 => ?_) (fun h2 => c_Wd_isFull hC.1 (by omega) hS ⟨_, rfl, bIs (fun h3 => ?_) (fun h3 => ?_)⟩))⟩))
  · rw [ifP_f h] at hQ; (try rw [ifP_f h] at hxx); exact ⟨(hxx _ _ rfl).1, (hxx _ _ rfl).2, hS, hQ μ Fr.rf hS hC⟩
  · rw [ifP_t h, ifP_f h2] at hQ; (try rw [ifP_t h, ifP_f h2] at hxx); exact ⟨(hxx _ _ rfl).1, (hxx _ _ rfl).2, hS, hQ μ Fr.rf hS hC⟩
  · rw [ifP_t h, ifP_t h2, ifP_f h3] at hQ; (try rw [ifP_t h, ifP_t h2, ifP_f h3] at hxx)
    obtain ⟨a, ha, ha2, rfl⟩ := h.1.ex
    obtain ⟨b, hb, hb2, rfl⟩ := h.2.ex
    obtain ⟨c, hc', hc2, rfl⟩ := h2.ex
    rw [nI_clamp ha2, nI_clamp hb2, nI_clamp hc2] at hQ; (try rw [nI_clamp ha2, nI_clamp hb2, nI_clamp hc2] at hxx)
    exact c_Wd_makeWritten hC.1 (by omega) hS (by omega) ha hb (by omega) (fun μ' f r s X => ⟨_, rfl, s, hQ μ' (FrQ.w (q := 0) f r).c8 s (hC.wd rfl (FrQ.w f r) X)⟩)
  · rw [ifP_t h, ifP_t h2, ifP_t h3] at hQ; (try rw [ifP_t h, ifP_t h2, ifP_t h3] at hxx); exact ⟨(hxx _ _ rfl).1, (hxx _ _ rfl).2, hS, hQ μ Fr.rf hS hC⟩
theorem c_PB_note (hC : CI μ T C Ct D t L x) (hD : 6 ≤ d) (hxx : ∀ k c, (dvNote T D x1 x2 x3).1 = RV.ex k c → 1 ≤ rc ∧ 6 ≤ rs) (hS : St μ) (hQ : ∀ μ', Fr OwC8 μ μ' → St μ' → CI μ' T C Ct (dvNote T D x1 x2 x3).2 t L x → Q (dvNote T D x1 x2 x3).1.c μ') : CalT K_PB_note d rc rs [.ref (hd 8 0), .int x1, .int x2, .int x3] μ Q := by
  have h60 := hC.1.S60
  have hN6 := hC.1.N6
  unfold dvNote at hQ hxx
  refine t_PB_note hD (g_PB_note_0 (by omega) hS (c_PB_isBoardOf hC (by omega) hS ⟨_, rfl, bIs (fun h => ?_) (fun h => c_PB_isMarkR (by omega) hS ⟨_, rfl, bIs (fun h2 => ?_) (fun h2 => c_Wd_isFull hC.1 (by omega) hS ⟨_, rfl, bIs (fun h3 => ?_) (fun h3 => ?_)⟩)⟩)⟩))
  · rw [ifP_f h] at hQ; (try rw [ifP_f h] at hxx); exact ⟨(hxx _ _ rfl).1, (hxx _ _ rfl).2, hS, hQ μ Fr.rf hS hC⟩
  · rw [ifP_t h, ifP_f h2] at hQ; (try rw [ifP_t h, ifP_f h2] at hxx); exact ⟨(hxx _ _ rfl).1, (hxx _ _ rfl).2, hS, hQ μ Fr.rf hS hC⟩
  · rw [ifP_t h, ifP_t h2, ifP_f h3] at hQ; (try rw [ifP_t h, ifP_t h2, ifP_f h3] at hxx)
    obtain ⟨a, ha, ha2, rfl⟩ := h.1.ex
    obtain ⟨b, hb, hb2, rfl⟩ := h.2.ex
    obtain ⟨c, hc', hc2, rfl⟩ := h2.ex
    rw [nI_clamp ha2, nI_clamp hb2, nI_clamp hc2] at hQ; (try rw [nI_clamp ha2, nI_clamp hb2, nI_clamp hc2] at hxx)
    refine c_Wd_canNote hC.1 (by omega) hS ha (by omega) ⟨_, rfl, bIs (fun h4 => ?_) (fun h4 => ?_)⟩
    · rw [ifP_f h4] at hQ; (try rw [ifP_f h4] at hxx); exact ⟨(hxx _ _ rfl).1, (hxx _ _ rfl).2, hS, hQ μ Fr.rf hS hC⟩
    · rw [ifP_t h4] at hQ; (try rw [ifP_t h4] at hxx)
      exact c_Wd_makeNoted hC.1 (by omega) hS (by omega) ha hb hc' (fun μ' f r s X => ⟨_, rfl, s, hQ μ' (FrQ.w (q := 0) f r).c8 s (hC.wd rfl (FrQ.w f r) X)⟩)
  · rw [ifP_t h, ifP_t h2, ifP_t h3] at hQ; (try rw [ifP_t h, ifP_t h2, ifP_t h3] at hxx); exact ⟨(hxx _ _ rfl).1, (hxx _ _ rfl).2, hS, hQ μ Fr.rf hS hC⟩
theorem c_PB_merge (hC : CI μ T C Ct D t L x) (hD : 6 ≤ d) (hxx : ∀ k c, (dvMerge T D x1 x2 x3).1 = RV.ex k c → 1 ≤ rc ∧ 6 ≤ rs) (hS : St μ) (hQ : ∀ μ', Fr OwC8 μ μ' → St μ' → CI μ' T C Ct (dvMerge T D x1 x2 x3).2 t L x → Q (dvMerge T D x1 x2 x3).1.c μ') : CalT K_PB_merge d rc rs [.ref (hd 8 0), .int x1, .int x2, .int x3] μ Q := by
  have h60 := hC.1.S60
  have hN6 := hC.1.N6
  unfold dvMerge at hQ hxx
  refine t_PB_merge hD (g_PB_merge_0 (by omega) hS (c_PB_isBoardOf hC (by omega) hS ⟨_, rfl, bIs (fun h => ?_) (fun h => two0 (n := 2) rfl (by decide) (fun h2 => ?_) (fun h2 => c_Wd_isFull hC.1 (by omega) hS ⟨_, rfl, bIs (fun h3 => ?_) (fun h3 => ?_)⟩))⟩))
  · rw [ifP_f h] at hQ; (try rw [ifP_f h] at hxx); exact ⟨(hxx _ _ rfl).1, (hxx _ _ rfl).2, hS, hQ μ Fr.rf hS hC⟩
  · rw [ifP_t h, ifP_f h2] at hQ; (try rw [ifP_t h, ifP_f h2] at hxx); exact ⟨(hxx _ _ rfl).1, (hxx _ _ rfl).2, hS, hQ μ Fr.rf hS hC⟩
  · rw [ifP_t h, ifP_t h2, ifP_f h3] at hQ; (try rw [ifP_t h, ifP_t h2, ifP_f h3] at hxx)
    obtain ⟨a, ha, ha2, rfl⟩ := h.1.ex
    obtain ⟨b, hb, hb2, rfl⟩ := h.2.ex
    obtain ⟨c, hc', hc2, rfl⟩ := h2.ex
    rw [nI_clamp ha2, nI_clamp hb2, nI_clamp hc2] at hQ; (try rw [nI_clamp ha2, nI_clamp hb2, nI_clamp hc2] at hxx)
    refine c_Wd_canMerge hC.1 (by omega) hS ha (by omega) ⟨_, rfl, bIs (fun h4 => ?_) (fun h4 => ?_)⟩
    · rw [ifP_f h4] at hQ; (try rw [ifP_f h4] at hxx); exact ⟨(hxx _ _ rfl).1, (hxx _ _ rfl).2, hS, hQ μ Fr.rf hS hC⟩
    · rw [ifP_t h4] at hQ; (try rw [ifP_t h4] at hxx)
      exact c_Wd_makeMerged hC.1 (by omega) hS (by omega) ha hb hc' (fun μ' f r s X => ⟨_, rfl, s, hQ μ' (FrQ.w (q := 0) f r).c8 s (hC.wd rfl (FrQ.w f r) X)⟩)
  · rw [ifP_t h, ifP_t h2, ifP_t h3] at hQ; (try rw [ifP_t h, ifP_t h2, ifP_t h3] at hxx); exact ⟨(hxx _ _ rfl).1, (hxx _ _ rfl).2, hS, hQ μ Fr.rf hS hC⟩
theorem c_PB_send (hC : CI μ T C Ct D t L x) (hD : 6 ≤ d) (hxx : ∀ k c, (dvSend T D x1).1 = RV.ex k c → 1 ≤ rc ∧ 6 ≤ rs) (hS : St μ) (hQ : ∀ μ', Fr OwC8 μ μ' → St μ' → CI μ' T C Ct (dvSend T D x1).2 t L x → Q (dvSend T D x1).1.c μ') : CalT K_PB_send d rc rs [.ref (hd 8 0), .int x1] μ Q := by
  unfold dvSend at hQ hxx
  refine t_PB_send hD (g_PB_send_0 (by omega) hS (c_PB_isRoad hC (by omega) hS ⟨_, rfl, bIs (fun h => ?_) (fun h => ?_)⟩))
  · rw [ifP_f h] at hQ; (try rw [ifP_f h] at hxx); exact ⟨(hxx _ _ rfl).1, (hxx _ _ rfl).2, hS, hQ μ Fr.rf hS hC⟩
  · rw [ifP_t h] at hQ; (try rw [ifP_t h] at hxx)
    obtain ⟨a, ha, ha2, rfl⟩ := h.ex
    rw [nI_clamp ha2] at hQ; (try rw [nI_clamp ha2] at hxx)
    exact c_Wd_carry hC.1 (by omega) hS ha (fun μ' f r s X => ⟨_, rfl, s, hQ μ' (FrQ.w (q := 0) f r).c8 s (hC.wd rfl (FrQ.w f r) X)⟩)
theorem c_PB_setDays (hC : CI μ T C Ct D t L x) (hD : 6 ≤ d) (hxx : ∀ k c, (dvSetDays T D x1 x2).1 = RV.ex k c → 1 ≤ rc ∧ 6 ≤ rs) (hS : St μ) (hQ : ∀ μ', Fr OwC8 μ μ' → St μ' → CI μ' T C Ct (dvSetDays T D x1 x2).2 t L x → Q (dvSetDays T D x1 x2).1.c μ') : CalT K_PB_setDays d rc rs [.ref (hd 8 0), .int x1, .int x2] μ Q := by
  have h8 := hC.1.R8
  unfold dvSetDays at hQ hxx
  refine t_PB_setDays hD (g_PB_setDays_0 (by omega) hS (c_PB_isRoad hC (by omega) hS ⟨_, rfl, bIs (fun h => ?_) (fun h => twoN (n := 9) rfl (by decide) (fun h2 => ?_) (fun h2 => ?_))⟩))
  · rw [ifP_f h] at hQ; (try rw [ifP_f h] at hxx); exact ⟨(hxx _ _ rfl).1, (hxx _ _ rfl).2, hS, hQ μ Fr.rf hS hC⟩
  · rw [ifP_t h, ifP_f h2] at hQ; (try rw [ifP_t h, ifP_f h2] at hxx); exact ⟨(hxx _ _ rfl).1, (hxx _ _ rfl).2, hS, hQ μ Fr.rf hS hC⟩
  · rw [ifP_t h, ifP_t h2] at hQ; (try rw [ifP_t h, ifP_t h2] at hxx)
    obtain ⟨a, ha, ha2, rfl⟩ := h.ex
    obtain ⟨b, hb2, rfl, hb3⟩ := nat_of (x := x2) (by have := h2.1; omega)
    have h2' : 1 ≤ b ∧ b ≤ 9 := by
      have a1 := h2.1
      have a2 := h2.2
      rw [← hb3] at a1 a2
      omega
    rw [nI_clamp ha2, nI_clamp hb2] at hQ; (try rw [nI_clamp ha2, nI_clamp hb2] at hxx)
    rw [nI_clamp ha2]
    have s : St (setI μ (hd 27 (8 * 0 + a)) 3 (nI b)) := hS
    have f : Fr (OwW 0) μ (setI μ (hd 27 (8 * 0 + a)) 3 (nI b)) := Fr.rf.setI (by decide) (by unfold OwW; omega)
    refine ⟨vp_in_nI (by omega) (by decide), vp_in_nI (by omega) (by decide), s, ?_⟩
    rw [show mI μ (hd 27 (8 * 0 + a)) 3 = nI (D 9 a 0) from hC.1.2.2.1 9 a 0 ⟨ha, by decide⟩]
    refine hQ _ (FrQ.w (q := 0) f rfl).c8 s (hC.wd rfl (FrQ.w f rfl) ?_)
    have e : ∀ k, mI (setI μ (hd 27 (8 * 0 + a)) 3 (nI b)) (hd 18 (px μ (hd 29 0) 3)) k = mI μ (hd 18 (px μ (hd 29 0) 3)) k := fun k => rd_ne (by decide) (by decide) (by decide)
    obtain ⟨y1, y2, y3, y4⟩ := hC.1.2.2.2
    exact ⟨hC.1.1, hC.1.2.1.ud90 h2'.1 h2'.2, hC.1.2.2.1.set hC.1.S60 hC.1.P5 hC.1.R8 (f := 9) (i := a) (j := 0) (v := b) ⟨by omega, by decide⟩, (e _).trans y1, (e _).trans y2, (e _).trans y3, (e _).trans y4⟩
theorem c_PB_pass (hC : CI μ T C Ct D t L x) (hN : NI T C Ct D n) (hD : 8 ≤ d) (hxx : ∀ k c, (dvPass T C Ct D x1).1 = RV.ex k c → 1 ≤ rc ∧ 6 ≤ rs) (hS : St μ) (hQ : ∀ μ', Fr OwC8 μ μ' → St μ' → CI μ' T C Ct (dvPass T C Ct D x1).2 t L x → Q (dvPass T C Ct D x1).1.c μ') : CalT K_PB_pass d rc rs [.ref (hd 8 0), .int x1] μ Q := by
  unfold dvPass at hQ hxx
  refine t_PB_pass (by omega) (g_PB_pass_0 (by omega) hS (twoN (n := 60) rfl (by decide) (fun h => ?_) (fun h => ?_)))
  · rw [ifP_f h] at hQ; (try rw [ifP_f h] at hxx); exact ⟨(hxx _ _ rfl).1, (hxx _ _ rfl).2, hS, hQ μ Fr.rf hS hC⟩
  · rw [ifP_t h] at hQ; (try rw [ifP_t h] at hxx)
    obtain ⟨b, hb2, rfl, hb3⟩ := nat_of (x := x1) (by have := h.1; omega)
    have hb9 : b ≤ 60 := by have := h.2; rw [← hb3] at this; omega
    have hdy := hN.2.2.2
    rw [nI_clamp hb2] at hQ; (try rw [nI_clamp hb2] at hxx)
    refine c_Wd_passDays hC.1 (by omega) hS hC.2.1.2.1 hC.2.1.2.2 hN.2.1 hN.1.2.1 (by omega) (fun μ' f s X _ => ⟨rfl, s, ?_⟩)
    rw [show mI μ' (hd 29 0) 6 = nI (daysD T C Ct D b 2 0 0) from X.2.2.1 2 0 0 ⟨rfl, rfl⟩, show mI μ (hd 29 0) 6 = nI (D 2 0 0) from hC.1.2.2.1 2 0 0 ⟨rfl, rfl⟩]
    exact hQ μ' f.c8 s (hC.wd rfl f X)
theorem known_lt (hB : DB T D) : knownAll T D < 2 ^ 31 := by
  have h5 := hB.1.1
  have h60 := hB.1.2.2.2.2.1
  have h1 : ∀ b, b < T 0 0 → knownB D b ≤ 5 * 60 := fun b hb => sumN_le 5 (fun p hp => Nat.le_trans ((hB.2.2.1 b hb).1 p hp) h60)
  have h2 := sumN_le (f := fun b => knownB D b) (T 0 0) h1
  have h3 : T 0 0 * (5 * 60) ≤ 5 * (5 * 60) := Nat.mul_le_mul_right _ h5
  show sumN (fun b => knownB D b) (T 0 0) < 2 ^ 31
  omega
end FC
