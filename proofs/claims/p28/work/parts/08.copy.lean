/-! System.arraycopy over rows of numbers -/
def cpI (μ : Mu) (a0 a : Nat) (sp dp n : Nat) : Mu := (mS μ, fun b k => if b = a then va_cpy (mI μ a0) (mI μ a) sp dp n k else mI μ b k, mL μ, mR μ)
def cpL (μ : Mu) (a0 a : Nat) (sp dp n : Nat) : Mu := (mS μ, mI μ, fun b k => if b = a then va_cpy (mL μ a0) (mL μ a) sp dp n k else mL μ b k, mR μ)
theorem toInt_clamp {z : Int32} (hz : ¬ z < 0) : z.toInt = (z.toNatClampNeg : Int) := by
  have hz0 : (0 : Int) ≤ z.toInt := by
    have := Int32.not_lt.mp hz
    simpa using Int32.le_iff_toInt_le.mp this
  show z.toInt = ((z.toInt.toNat : Nat) : Int)
  omega
theorem Wa.copy {ct : List CE} {stt : List SE} {K : KM} {d rc rs : Nat} {Q : Option Value → Mu → Prop} {pc : Nat} {L : List (Nat × Value)} {st : List Value} {μ μ' : Mu} {index a0 a n0 n1 t : Nat} {sp dp n : Int32} {α : Type} (mk : α → Value) (f g : Nat → α)
    (hd : decode (kB K) pc = .ok (.invokestatic index, 3)) (w1 : Cond.methodLink (kO K) index arraycopyName ∈ tb) (w2 : Cond.native arraycopyName ∈ tb) (w3 : Cond.static arraycopyName ∈ tb) (w4 : Cond.initialized "java/lang/System" ∈ tb)
    (hcat : (st.map fun v => v.category).sum ≤ 8) (hdd : 1 ≤ d) (ht : 2 ≤ t ∧ t ≤ 5) (hw0 : rwN a0) (hw : rwN a) (hs0 : mS μ a0 = (t, n0)) (hs1 : mS μ a = (t, n1)) (h1 : ¬ sp < 0) (h2 : ¬ dp < 0) (h3 : ¬ n < 0) (h4 : sp.toNatClampNeg + n.toNatClampNeg ≤ n0) (h5 : dp.toNatClampNeg + n.toNatClampNeg ≤ n1)
    (hf : ∀ adr j, tyv adr μ a0 j (tagTy ct t) = mk (f j)) (hg : ∀ adr j, tyv adr μ a j (tagTy ct t) = mk (g j)) (hnn : ∀ z, mk z ≠ .null ∧ ∀ q, mk z ≠ .ref q) (hfit : ∀ i, i < n.toNatClampNeg → fits (tagTy ct t) (mk (f (sp.toNatClampNeg + i))) = true)
    (hS : mS μ' = mS μ) (hI : ∀ b, b ≠ a → ∀ k, mI μ' b k = mI μ b k) (hLm : ∀ b, b ≠ a → ∀ k, mL μ' b k = mL μ b k) (hRm : ∀ b k, mR μ' b k = mR μ b k) (hv : ∀ adr j, tyv adr μ' a j (tagTy ct t) = mk (va_cpy f g sp.toNatClampNeg dp.toNatClampNeg n.toNatClampNeg j))
    (kk : Wa ct stt K d rc rs Q (pc + 3) L st μ') : Wa ct stt K d rc rs Q pc L (.int n :: .int dp :: .ref a :: .int sp :: .ref a0 :: st) μ := by
  intro p l e s m args below meth c R B0 mc ms Z adr0 μ0 hC hd1 hdl hmc hms hE H locs cells slots ls adr hR hX hlo hc hs2 hls hL1 hSt
  have hla : live μ a := hSt (.ref a) (by simp) _ rfl
  have hla0 : live μ a0 := hSt (.ref a0) (by simp) _ rfl
  have hS2 : ∀ v ∈ st, lvv μ v := fun v hv => hSt v (by simp [hv])
  obtain ⟨cs, g1, g2, g3, -, g4⟩ := hR.arr hla0 hs0 (by omega)
  obtain ⟨c0, q1, q2, -⟩ := g4 hw0
  obtain ⟨cd, g5, g6, g7, -, g8⟩ := hR.arr hla hs1 (by omega)
  obtain ⟨c1, q3, q4, q5⟩ := g8 hw
  obtain ⟨-, k0, hk0, cm0, hkk0⟩ := q2 n0 (fun j => mk (f j))
  obtain ⟨-, k1, hk1, cm1, hkk1⟩ := q4 n1 (fun j => mk (g j))
  have e0 : cs = arrV c0 n0 (fun j => mk (f j)) := by rw [q1]; congr 1; funext j; exact hf adr j
  have e1 : cd = arrV c1 n1 (fun j => mk (g j)) := by rw [q3]; congr 1; funext j; exact hg adr j
  have hprim : refKind (tagTy ct t) = false := by
    unfold tagTy
    rcases (show t = 2 ∨ t = 3 ∨ t = 4 ∨ t = 5 by omega) with rfl | rfl | rfl | rfl <;> rfl
  have hW := hC.2.2.2.2.2.1
  intro T hT X
  subst e0; subst e1
  obtain ⟨vm', X', step⟩ := X.arraycopy hC.1 hC.2.2.2.2.1 (hW _ w1) (hW _ w2) (hW _ w3) (hW _ w4) (src := adr a0) (dst := adr a) (srcPos := sp) (destPos := dp) (n := n) (by rw [hT]; exact g1) (by rw [hT]; exact g5)
    (fun _ h => by cases h) (fun _ h => by cases h) (fun h => by cases h) (fun h => by cases h) hk0 hk1 hkk0 hkk1 (by simp [hprim]) h1 h2 h3
    (by rw [toInt_clamp h1, toInt_clamp h3, arrV_size]; omega)
    (by rw [toInt_clamp h2, toInt_clamp h3, arrV_size]; omega)
    (fun vm₁ _ i hi => by
      have e : (arrV c0 n0 (fun j => mk (f j))).slots.getD (sp.toNatClampNeg + i) .null = mk (f (sp.toNatClampNeg + i)) := by
        rw [Array.getD_eq_getD_getElem?, arrV_read _ _ (by omega)]
        rfl
      refine ⟨?_, ?_⟩
      · rw [e]
        exact hfit i hi
      · rw [e]
        have hz := hnn (f (sp.toNatClampNeg + i))
        cases hm : mk (f (sp.toNatClampNeg + i)) <;> first | exact True.intro | exact absurd hm hz.1 | exact absurd hm (hz.2 _))
    (g := F0 m pc ls (cvs adr (.int n :: .int dp :: .ref a :: .int sp :: .ref a0 :: st))) rfl (by rw [hC.2.2.1]; exact hls.1) (rest := cvs adr st) rfl (by rw [hC.2.1]; exact hd) (by omega) (by
      have e : nativeFrameWords "java/lang/System" "arraycopy" 5 = 7 := by decide +kernel
      rw [e, cvs_cat]
      show 2 * 0 + _ + _ ≤ _
      omega)
  have ec : copied (arrV c0 n0 (fun j => mk (f j))) (arrV c1 n1 (fun j => mk (g j))) sp dp n = arrV c1 n1 (fun j => mk (va_cpy f g sp.toNatClampNeg dp.toNatClampNeg n.toNatClampNeg j)) := va_copied mk c0 c1 f g h4
  rw [ec] at X' step
  have hal : adr a < H.size := (Array.getElem?_eq_some_iff.mp g5).1
  generalize hcell : arrV c1 n1 (fun j => mk (va_cpy f g sp.toNatClampNeg dp.toNatClampNeg n.toNatClampNeg j)) = cell' at X' step
  have hheap : ((T.setVm vm').setCell (adr a) cell').heap = H.setIfInBounds (adr a) cell' := by rw [← hT]; rfl
  have hX1 : arrX s (tagTy ct t) n1 (fun j => tyv adr μ' a j (tagTy ct t)) cell' := ⟨c1, by rw [← hcell]; congr 1; funext j; exact (hv adr j).symm, q4, q5⟩
  have hci : cellIs ct adr μ' s a cell' := by
    refine ⟨?_, ?_, fun _ => ?_, fun z => ?_, fun _ => ?_⟩
    · rw [← hcell]; exact fun h => by cases h
    · rw [← hcell]; rfl
    · rw [← hcell]; rfl
    · rw [hS, hs1] at z
      exact absurd z (by show ¬ t = 1; omega)
    · rw [hS, hs1]
      exact ⟨hX1.arrAt, fun _ => hX1⟩
  have hR' : Rel ct stt B0 adr μ' s (H.setIfInBounds (adr a) cell') := hR.set hla hw hS hI hLm (fun b _ k => hRm b k) (fun k b hb => hR.2.2.2.2.1 a k b hla (by rw [← gR_congr (hRm a k)]; exact hb)) (set_self hal) (by simp) (fun q hq => set_other hq) hci
  have hlv : ∀ b, live μ' b ↔ live μ b := fun b => by unfold live; rw [hS]
  obtain ⟨t2, a1, b1⟩ := kk p l e s m args below meth c R B0 mc ms Z adr0 μ0 hC hd1 hdl hmc hms hE _ _ cells slots ls adr hR' (hX.trans (fun b hb => ⟨(hlv b).mpr hb, rfl⟩)) (fun z hz => (List.mem_append.mp hz).elim (hlo z) (fun h => by
      obtain ⟨y, -, hy⟩ := List.mem_map.mp h
      rw [← hy]
      exact (hR.2.2.2.1 a hla).1 hw)) hc hs2 hls (fun z hz b hb => (hlv b).mpr (hL1 z hz b hb)) (fun z hz b hb => (hlv b).mpr (hS2 z hz b hb)) _ hheap X'
  exact ⟨t2, step t2 a1, b1⟩
theorem Wa.copyI {ct : List CE} {stt : List SE} {K : KM} {d rc rs : Nat} {Q : Option Value → Mu → Prop} {pc : Nat} {L : List (Nat × Value)} {st : List Value} {μ : Mu} {index a0 a n0 n1 : Nat} {sp dp n : Int32}
    (hd : decode (kB K) pc = .ok (.invokestatic index, 3)) (w1 : Cond.methodLink (kO K) index arraycopyName ∈ tb) (w2 : Cond.native arraycopyName ∈ tb) (w3 : Cond.static arraycopyName ∈ tb) (w4 : Cond.initialized "java/lang/System" ∈ tb)
    (hcat : (st.map fun v => v.category).sum ≤ 8) (hdd : 1 ≤ d) (hw0 : rwN a0) (hw : rwN a) (hs0 : mS μ a0 = (2, n0)) (hs1 : mS μ a = (2, n1)) (h1 : ¬ sp < 0) (h2 : ¬ dp < 0) (h3 : ¬ n < 0) (h4 : sp.toNatClampNeg + n.toNatClampNeg ≤ n0) (h5 : dp.toNatClampNeg + n.toNatClampNeg ≤ n1)
    (kk : Wa ct stt K d rc rs Q (pc + 3) L st (cpI μ a0 a sp.toNatClampNeg dp.toNatClampNeg n.toNatClampNeg)) : Wa ct stt K d rc rs Q pc L (.int n :: .int dp :: .ref a :: .int sp :: .ref a0 :: st) μ :=
  Wa.copy (μ' := cpI μ a0 a sp.toNatClampNeg dp.toNatClampNeg n.toNatClampNeg) (fun z => .int z) (mI μ a0) (mI μ a) hd w1 w2 w3 w4 hcat hdd ⟨by omega, by omega⟩ hw0 hw hs0 hs1 h1 h2 h3 h4 h5 (fun _ j => congrArg Value.int (gI_rw hw0 j)) (fun _ j => congrArg Value.int (gI_rw hw j)) (fun z => ⟨fun h => (by cases h), fun q h => (by cases h)⟩) (fun i hi => rfl) rfl (fun b hb k => if_neg hb) (fun _ _ _ => rfl) (fun _ _ => rfl) (fun adr j => congrArg Value.int ((gI_rw hw j).trans (if_pos rfl))) kk
theorem Wa.copyZ {ct : List CE} {stt : List SE} {K : KM} {d rc rs : Nat} {Q : Option Value → Mu → Prop} {pc : Nat} {L : List (Nat × Value)} {st : List Value} {μ : Mu} {index a0 a n0 n1 : Nat} {sp dp n : Int32}
    (hd : decode (kB K) pc = .ok (.invokestatic index, 3)) (w1 : Cond.methodLink (kO K) index arraycopyName ∈ tb) (w2 : Cond.native arraycopyName ∈ tb) (w3 : Cond.static arraycopyName ∈ tb) (w4 : Cond.initialized "java/lang/System" ∈ tb)
    (hcat : (st.map fun v => v.category).sum ≤ 8) (hdd : 1 ≤ d) (hw0 : rwN a0) (hw : rwN a) (hs0 : mS μ a0 = (5, n0)) (hs1 : mS μ a = (5, n1)) (h1 : ¬ sp < 0) (h2 : ¬ dp < 0) (h3 : ¬ n < 0) (h4 : sp.toNatClampNeg + n.toNatClampNeg ≤ n0) (h5 : dp.toNatClampNeg + n.toNatClampNeg ≤ n1)
    (hfit : ∀ i, i < n.toNatClampNeg → fits .boolean (.int (mI μ a0 (sp.toNatClampNeg + i))) = true)
    (kk : Wa ct stt K d rc rs Q (pc + 3) L st (cpI μ a0 a sp.toNatClampNeg dp.toNatClampNeg n.toNatClampNeg)) : Wa ct stt K d rc rs Q pc L (.int n :: .int dp :: .ref a :: .int sp :: .ref a0 :: st) μ :=
  Wa.copy (μ' := cpI μ a0 a sp.toNatClampNeg dp.toNatClampNeg n.toNatClampNeg) (fun z => .int z) (mI μ a0) (mI μ a) hd w1 w2 w3 w4 hcat hdd ⟨by omega, by omega⟩ hw0 hw hs0 hs1 h1 h2 h3 h4 h5 (fun _ j => congrArg Value.int (gI_rw hw0 j)) (fun _ j => congrArg Value.int (gI_rw hw j)) (fun z => ⟨fun h => (by cases h), fun q h => (by cases h)⟩) hfit rfl (fun b hb k => if_neg hb) (fun _ _ _ => rfl) (fun _ _ => rfl) (fun adr j => congrArg Value.int ((gI_rw hw j).trans (if_pos rfl))) kk
theorem Wa.copyL {ct : List CE} {stt : List SE} {K : KM} {d rc rs : Nat} {Q : Option Value → Mu → Prop} {pc : Nat} {L : List (Nat × Value)} {st : List Value} {μ : Mu} {index a0 a n0 n1 : Nat} {sp dp n : Int32}
    (hd : decode (kB K) pc = .ok (.invokestatic index, 3)) (w1 : Cond.methodLink (kO K) index arraycopyName ∈ tb) (w2 : Cond.native arraycopyName ∈ tb) (w3 : Cond.static arraycopyName ∈ tb) (w4 : Cond.initialized "java/lang/System" ∈ tb)
    (hcat : (st.map fun v => v.category).sum ≤ 8) (hdd : 1 ≤ d) (hw0 : rwN a0) (hw : rwN a) (hs0 : mS μ a0 = (3, n0)) (hs1 : mS μ a = (3, n1)) (h1 : ¬ sp < 0) (h2 : ¬ dp < 0) (h3 : ¬ n < 0) (h4 : sp.toNatClampNeg + n.toNatClampNeg ≤ n0) (h5 : dp.toNatClampNeg + n.toNatClampNeg ≤ n1)
    (kk : Wa ct stt K d rc rs Q (pc + 3) L st (cpL μ a0 a sp.toNatClampNeg dp.toNatClampNeg n.toNatClampNeg)) : Wa ct stt K d rc rs Q pc L (.int n :: .int dp :: .ref a :: .int sp :: .ref a0 :: st) μ :=
  Wa.copy (μ' := cpL μ a0 a sp.toNatClampNeg dp.toNatClampNeg n.toNatClampNeg) (fun z => .long z) (mL μ a0) (mL μ a) hd w1 w2 w3 w4 hcat hdd ⟨by omega, by omega⟩ hw0 hw hs0 hs1 h1 h2 h3 h4 h5 (fun _ _ => rfl) (fun _ _ => rfl) (fun z => ⟨fun h => (by cases h), fun q h => (by cases h)⟩) (fun i hi => rfl) rfl (fun _ _ _ => rfl) (fun b hb k => if_neg hb) (fun _ _ => rfl) (fun adr j => congrArg Value.long (if_pos rfl)) kk
