/-! the tape, by the component's face -/
def byN (v : Int32) : Nat := v.toBitVec.toNat % 256
theorem byN_lt (v : Int32) : byN v < 256 := Nat.mod_lt _ (by decide)
theorem byte_m (v : Int32) : v &&& (255 : Int32) = nI (byN v) := by
  apply Int32.toBitVec_inj.mp
  apply BitVec.eq_of_toNat_eq
  have e1 : (v &&& (255 : Int32)).toBitVec = v.toBitVec &&& 255#32 := rfl
  have e2 : (nI (byN v)).toBitVec = BitVec.ofNat 32 (byN v) := rfl
  rw [e1, e2, BitVec.toNat_and, BitVec.toNat_ofNat, BitVec.toNat_ofNat]
  have e3 : 255 % 2 ^ 32 = 2 ^ 8 - 1 := by decide
  rw [e3, Nat.and_two_pow_sub_one_eq_mod, Nat.mod_eq_of_lt (Nat.lt_trans (byN_lt v) (by decide))]
  rfl
theorem byte_c (v : Int32) : vp_nar .byte (v.toInt8.toInt32) = sb (byN v) := by
  rw [vp_nar_byte, Int8.toInt8_toInt32]
  apply Int32.toInt_inj.mp
  rw [Int8.toInt_toInt32, Int32.toInt_toInt8, sb_toInt (byN_lt v)]
  have e : v.toInt = if 2 * v.toBitVec.toNat < 2 ^ 32 then (v.toBitVec.toNat : Int) else (v.toBitVec.toNat : Int) - 2 ^ 32 := BitVec.toInt_eq_toNat_cond _
  have hlt := v.toBitVec.isLt
  have e2 : v.toInt % ((2 ^ 8 : Nat) : Int) = (byN v : Int) := by
    rw [e]
    unfold byN
    show _ % (256 : Int) = _
    split <;> omega
  unfold Int.bmod
  rw [e2]
  have hb := byN_lt v
  show (if (byN v : Int) < ((256 : Int) + 1) / 2 then (byN v : Int) else (byN v : Int) - 256) = _
  split <;> split <;> omega
def fB (x1 x2 x3 x4 x5 : Int32) (j : Nat) : Int32 := (if j < 4 then x1 else if j < 8 then x2 else if j < 12 then x3 else if j < 16 then x4 else x5) >>> (nI (24 - 8 * (j % 4)) &&& 31)
def fdT (t : Nat → Nat) (L : Nat) (f : Nat → Int32) (k : Nat) : Nat := if k < L then t k else byN (f (k - L))
noncomputable def dvFeed (t : Nat → Nat) (L : Nat) (x1 x2 x3 x4 x5 : Int32) : RV × ((Nat → Nat) × Nat) := ifP (L + 20 ≤ 2000) (.ok (nI (L + 20)), fdT t L (fB x1 x2 x3 x4 x5), L + 20) (.ex 0 1, t, L)
noncomputable def dvTrim (L : Nat) (x1 : Int32) : RV × Nat := ifP (inR x1 (L + 1)) (.ok x1, x1.toNatClampNeg) (.ex 1 1, L)
def OwA (κ i : Nat) : Prop := (κ = 8 ∨ κ = 9) ∧ i = 0
def FrA (μ μ' : Mu) : Prop := Fr OwA μ μ' ∧ mR μ' = mR μ ∧ ∀ k, k ≠ 1 → mI μ' (hd 8 0) k = mI μ (hd 8 0) k
theorem FrA.rf {μ : Mu} : FrA μ μ := ⟨Fr.rf, rfl, fun _ _ => rfl⟩
theorem FrA.trans {μ1 μ2 μ3 : Mu} (h : FrA μ1 μ2) (h' : FrA μ2 μ3) : FrA μ1 μ3 := ⟨h.1.trans h'.1, h'.2.1.trans h.2.1, fun k hk => (h'.2.2 k hk).trans (h.2.2 k hk)⟩
theorem FrA.c8 {μ μ' : Mu} (h : FrA μ μ') : Fr OwC8 μ μ' := h.1.mono (fun κ i z => by unfold OwA at z; unfold OwC8; omega)
section FDA
variable {d rc rs : Nat} {Q : Option Value → Mu → Prop} {μ μ' : Mu} {T : PT} {C Ct : Nat → List Op} {D : DT} {t t' : Nat → Nat} {L L' : Nat} {x x1 x2 x3 x4 x5 : Int32}
theorem CI.tape (h : CI μ T C Ct D t L x) (f : FrA μ μ') (hT : TpC μ' t' L') : CI μ' T C Ct D t' L' x := by
  obtain ⟨h1, ⟨h2, h3, h4⟩, -, h9⟩ := h
  obtain ⟨f1, f2, f3⟩ := f
  have p : ∀ a k, px μ' a k = px μ a k := fun a k => by unfold px; rw [f2]
  refine ⟨h1.tr (fun κ i k z => f1.I (by unfold OwW at z; omega) (by unfold OwW at z; unfold OwA; omega)) (by rw [f2]), ⟨by rw [p, p]; exact h2, by rw [p, p]; exact h3, ?_⟩, hT, (f3 2 (by decide)).trans h9⟩
  rw [p]
  exact h4.tr h1.O20 (f1.I (by decide) (by unfold OwA; omega)) (fun k => by rw [f2]) (fun κ k z => f1.I (by omega) (by unfold OwA; omega)) (fun j k _ => ⟨f1.I (by decide) (by unfold OwA; omega), by rw [f2]⟩)
theorem app1 {M : Nat} {v : Int32} (hT : TpC μ t' M) (hM : M < 2000) (ht : t' M = byN v) (hS : St μ) : ∀ μ2, μ2 = setI (setI μ (hd 9 0) (mI μ (hd 8 0) 1).toNatClampNeg (vp_nar .byte (v.toInt8.toInt32))) (hd 8 0) 1 ((mI (setI μ (hd 9 0) (mI μ (hd 8 0) 1).toNatClampNeg (vp_nar .byte (v.toInt8.toInt32))) (hd 8 0) 1) + (1 : Int32)) → TpC μ2 t' (M + 1) ∧ FrA μ μ2 ∧ St μ2 := by
  intro μ2 e
  obtain ⟨a1, a2, a3, a4⟩ := hT
  rw [rd_ne (by decide) (by decide) (by decide), a3, nI_clamp (by omega), byte_c] at e
  refine ⟨⟨by omega, fun k hk => ?_, ?_, fun k hk => ?_⟩, ⟨?_, ?_, fun k hk => ?_⟩, ?_⟩
  · by_cases z : k = M
    · rw [z, ht]; exact byN_lt v
    · exact a2 k (by omega)
  · rw [e, rd_eq, I1, nI_add]
  · rw [e, rd_ne (by decide) (by decide) (by decide)]
    by_cases z : k = M
    · rw [z, rd_eq, ht]
    · rw [rd_k z]; exact a4 k (by omega)
  · rw [e]; exact (Fr.rf.setI (by decide) ⟨Or.inr rfl, rfl⟩).setI (by decide) ⟨Or.inl rfl, rfl⟩
  · rw [e]; rfl
  · rw [e, rd_k hk, rd_ne (by decide) (by decide) (by decide)]
  · rw [e]; exact hS
theorem c_PB_append {M : Nat} (hT : TpC μ t' M) (hM : M + 4 ≤ 2000) (ht : ∀ j, j < 4 → t' (M + j) = byN (x1 >>> (nI (24 - 8 * j) &&& 31))) (hD : 1 ≤ d) (hS : St μ) (hQ : ∀ μ', FrA μ μ' → St μ' → TpC μ' t' (M + 4) → Q none μ') : Cal K_PB_append d rc rs [.ref (hd 8 0), .int x1] μ Q := by
  refine e_PB_append (g_PB_append_0 hD hS ?_)
  have step : ∀ j, j < 4 → ∀ μ1, FrA μ μ1 → St μ1 → TpC μ1 t' (M + j) → (∀ μ2, FrA μ μ2 → St μ2 → TpC μ2 t' (M + (j + 1)) → Wx K_PB_append d rc rs (fun r μ' => St μ' ∧ Q r μ') 3 [(0, .ref (hd 8 0)), (1, .int x1), (2, .int (nI (24 - 8 * j) + (-8)))] [] μ2) → Wx K_PB_append d rc rs (fun r μ' => St μ' ∧ Q r μ') 3 [(0, .ref (hd 8 0)), (1, .int x1), (2, .int (nI (24 - 8 * j)))] [] μ1 := by
    intro j hj μ1 f1 s1 t1 k
    refine g_PB_append_3 hD s1 ⟨fun h => absurd h (nI_pos (by omega)), fun _ => ⟨fun h => absurd h ?_, fun _ => ⟨?_, fun μ2 e2 => ?_⟩⟩⟩
    · rw [t1.2.2.1, show (2000 : Int32) = nI 2000 from rfl, nI_leI (by decide) (by omega)]; omega
    · rw [t1.2.2.1, if_pos rfl]; exact vp_in_nI (by omega) (by decide)
    · obtain ⟨g1, g2, g3⟩ := app1 t1 (by omega) (ht j hj) s1 μ2 e2
      exact k μ2 (f1.trans g2) g3 g1
  refine step 0 (by decide) μ FrA.rf hS hT (fun μ2 f2 s2 t2 => ?_)
  rw [show nI (24 - 8 * 0) + (-8) = nI (24 - 8 * 1) from by decide]
  refine step 1 (by decide) μ2 f2 s2 t2 (fun μ3 f3 s3 t3 => ?_)
  rw [show nI (24 - 8 * 1) + (-8) = nI (24 - 8 * 2) from by decide]
  refine step 2 (by decide) μ3 f3 s3 t3 (fun μ4 f4 s4 t4 => ?_)
  rw [show nI (24 - 8 * 2) + (-8) = nI (24 - 8 * 3) from by decide]
  refine step 3 (by decide) μ4 f4 s4 t4 (fun μ5 f5 s5 t5 => ?_)
  exact g_PB_append_3 hD s5 ⟨fun _ => ⟨s5, hQ μ5 f5 s5 t5⟩, fun h => absurd (by decide) h⟩
theorem fd_at {i j : Nat} (hi : i < 5) (hj : j < 4) : fdT t L (fB x1 x2 x3 x4 x5) (L + 4 * i + j) = byN ((if i = 0 then x1 else if i = 1 then x2 else if i = 2 then x3 else if i = 3 then x4 else x5) >>> (nI (24 - 8 * j) &&& 31)) := by
  unfold fdT fB
  rw [if_neg (by omega), show L + 4 * i + j - L = 4 * i + j by omega, show (4 * i + j) % 4 = j by omega]
  rcases (by omega : i = 0 ∨ i = 1 ∨ i = 2 ∨ i = 3 ∨ i = 4) with rfl | rfl | rfl | rfl | rfl
  · rw [if_pos (show 4 * 0 + j < 4 by omega)]; rfl
  · rw [if_neg (show ¬ 4 * 1 + j < 4 by omega), if_pos (show 4 * 1 + j < 8 by omega)]; rfl
  · rw [if_neg (show ¬ 4 * 2 + j < 4 by omega), if_neg (show ¬ 4 * 2 + j < 8 by omega), if_pos (show 4 * 2 + j < 12 by omega)]; rfl
  · rw [if_neg (show ¬ 4 * 3 + j < 4 by omega), if_neg (show ¬ 4 * 3 + j < 8 by omega), if_neg (show ¬ 4 * 3 + j < 12 by omega), if_pos (show 4 * 3 + j < 16 by omega)]; rfl
  · rw [if_neg (show ¬ 4 * 4 + j < 4 by omega), if_neg (show ¬ 4 * 4 + j < 8 by omega), if_neg (show ¬ 4 * 4 + j < 12 by omega), if_neg (show ¬ 4 * 4 + j < 16 by omega)]; rfl
theorem c_PB_feed (hC : CI μ T C Ct D t L x) (hD : 6 ≤ d) (hxx : ∀ k c, (dvFeed t L x1 x2 x3 x4 x5).1 = RV.ex k c → 1 ≤ rc ∧ 6 ≤ rs) (hS : St μ) (hQ : ∀ μ', Fr OwC8 μ μ' → St μ' → CI μ' T C Ct D (dvFeed t L x1 x2 x3 x4 x5).2.1 (dvFeed t L x1 x2 x3 x4 x5).2.2 x → Q (dvFeed t L x1 x2 x3 x4 x5).1.c μ') : CalT K_PB_feed d rc rs [.ref (hd 8 0), .int x1, .int x2, .int x3, .int x4, .int x5] μ Q := by
  obtain ⟨tL, tb', tn, tt⟩ := hC.2.2.1
  unfold dvFeed at hQ hxx
  refine t_PB_feed hD (g_PB_feed_0 (by omega) hS ?_)
  rw [tn, show (20 : Int32) = nI 20 from rfl, nI_add, show (2000 : Int32) = nI 2000 from rfl, nI_leI (by omega) (by decide)]
  refine ⟨fun h => ?_, fun h => ?_⟩
  · rw [ifP_t h] at hQ; (try rw [ifP_t h] at hxx)
    have hT : TpC μ (fdT t L (fB x1 x2 x3 x4 x5)) L := ⟨tL, fun k hk => by unfold fdT; rw [if_pos hk]; exact tb' k hk, tn, fun k hk => by unfold fdT; rw [if_pos hk]; exact tt k hk⟩
    have a : ∀ i, i < 5 → ∀ j, j < 4 → fdT t L (fB x1 x2 x3 x4 x5) (L + 4 * i + j) = _ := fun i hi j hj => fd_at hi hj
    refine c_PB_append (M := L) hT (by omega) (fun j hj => a 0 (by decide) j hj) (by omega) hS (fun μ1 f1 s1 t1 => ⟨rfl, ?_⟩)
    refine c_PB_append (M := L + 4) t1 (by omega) (fun j hj => a 1 (by decide) j hj) (by omega) s1 (fun μ2 f2 s2 t2 => ⟨rfl, ?_⟩)
    refine c_PB_append (M := L + 4 + 4) t2 (by omega) (fun j hj => by rw [show L + 4 + 4 + j = L + 4 * 2 + j by omega]; exact a 2 (by decide) j hj) (by omega) s2 (fun μ3 f3 s3 t3 => ⟨rfl, ?_⟩)
    refine c_PB_append (M := L + 4 + 4 + 4) t3 (by omega) (fun j hj => by rw [show L + 4 + 4 + 4 + j = L + 4 * 3 + j by omega]; exact a 3 (by decide) j hj) (by omega) s3 (fun μ4 f4 s4 t4 => ⟨rfl, ?_⟩)
    refine c_PB_append (M := L + 4 + 4 + 4 + 4) t4 (by omega) (fun j hj => by rw [show L + 4 + 4 + 4 + 4 + j = L + 4 * 4 + j by omega]; exact a 4 (by decide) j hj) (by omega) s4 (fun μ5 f5 s5 t5 => ⟨rfl, s5, ?_⟩)
    rw [show L + 4 + 4 + 4 + 4 + 4 = L + 20 by omega] at t5
    rw [t5.2.2.1]
    have f := (((f1.trans f2).trans f3).trans f4).trans f5
    exact hQ μ5 f.c8 s5 (hC.tape f t5)
  · rw [ifP_f h] at hQ; (try rw [ifP_f h] at hxx); exact ⟨(hxx _ _ rfl).1, (hxx _ _ rfl).2, hS, hQ μ Fr.rf hS hC⟩
theorem c_PB_trim (hC : CI μ T C Ct D t L x) (hD : 6 ≤ d) (hxx : ∀ k c, (dvTrim L x1).1 = RV.ex k c → 1 ≤ rc ∧ 6 ≤ rs) (hS : St μ) (hQ : ∀ μ', Fr OwC8 μ μ' → St μ' → CI μ' T C Ct D t (dvTrim L x1).2 x → Q (dvTrim L x1).1.c μ') : CalT K_PB_trim d rc rs [.ref (hd 8 0), .int x1] μ Q := by
  obtain ⟨tL, tb', tn, tt⟩ := hC.2.2.1
  unfold dvTrim at hQ hxx
  refine t_PB_trim hD (g_PB_trim_0 (by omega) hS (two0 tn (by omega) (fun h => ?_) (fun h => ?_)))
  · rw [ifP_f h] at hQ; (try rw [ifP_f h] at hxx); exact ⟨(hxx _ _ rfl).1, (hxx _ _ rfl).2, hS, hQ μ Fr.rf hS hC⟩
  · rw [ifP_t h] at hQ; (try rw [ifP_t h] at hxx)
    obtain ⟨k, hk, hk2, rfl⟩ := h.ex
    rw [nI_clamp hk2] at hQ; (try rw [nI_clamp hk2] at hxx)
    have s : St (setI μ (hd 8 0) 1 (nI k)) := hS
    have f : FrA μ (setI μ (hd 8 0) 1 (nI k)) := ⟨Fr.rf.setI (by decide) ⟨Or.inl rfl, rfl⟩, rfl, fun j hj => rd_k hj⟩
    refine ⟨s, hQ _ f.c8 s (hC.tape f ⟨by omega, fun j hj => tb' j (by omega), rd_eq, fun j hj => ?_⟩)⟩
    rw [rd_ne (by decide) (by decide) (by decide)]; exact tt j (by omega)
end FDA
