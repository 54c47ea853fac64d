/-! System.arraycopy over rows of bytes, out of a constant's too -/
def cpG (μ : Mu) (a0 a : Nat) (sp dp n : Nat) : Mu := (mS μ, fun b k => if b = a then va_cpy (gI μ a0) (mI μ a) sp dp n k else mI μ b k, mL μ, mR μ)
theorem Wa.copyB {ct : List CE} {stt : List SE} {K : KM} {d rc rs : Nat} {Q : Option Value → Mu → Prop} {pc : Nat} {L : List (Nat × Value)} {st : List Value} {μ : Mu} {index a0 a n0 n1 : Nat} {sp dp n : Int32}
    (hd : decode (kB K) pc = .ok (.invokestatic index, 3)) (w1 : Cond.methodLink (kO K) index arraycopyName ∈ tb) (w2 : Cond.native arraycopyName ∈ tb) (w3 : Cond.static arraycopyName ∈ tb) (w4 : Cond.initialized "java/lang/System" ∈ tb)
    (hcat : (st.map fun v => v.category).sum ≤ 8) (hdd : 1 ≤ d) (hw : rwN a) (hs0 : mS μ a0 = (4, n0)) (hs1 : mS μ a = (4, n1)) (h1 : ¬ sp < 0) (h2 : ¬ dp < 0) (h3 : ¬ n < 0) (h4 : sp.toNatClampNeg + n.toNatClampNeg ≤ n0) (h5 : dp.toNatClampNeg + n.toNatClampNeg ≤ n1)
    (hfit : ∀ i, i < n.toNatClampNeg → fits .byte (.int (gI μ a0 (sp.toNatClampNeg + i))) = true)
    (kk : Wa ct stt K d rc rs Q (pc + 3) L st (cpG μ a0 a sp.toNatClampNeg dp.toNatClampNeg n.toNatClampNeg)) : Wa ct stt K d rc rs Q pc L (.int n :: .int dp :: .ref a :: .int sp :: .ref a0 :: st) μ := by
  intro p l e s m args below meth c R B0 mc ms Z adr0 μ0 hC hd1 hdl hmc hms hE H locs cells slots ls adr hR hX hlo hc hs2 hls hL1 hSt
  have hla : live μ a := hSt (.ref a) (by simp) _ rfl
  have hla0 : live μ a0 := hSt (.ref a0) (by simp) _ rfl
  have hS2 : ∀ v ∈ st, lvv μ v := fun v hv => hSt v (by simp [hv])
  have ety : tagTy ct 4 = .byte := rfl
  obtain ⟨cs, g1, g2, g3, ⟨a1, a2, a3, a4⟩, -⟩ := hR.arr hla0 hs0 (by omega)
  rw [ety] at a1 a4
  obtain ⟨hs6, k0, hk0, cm0, hkk0⟩ := a1
  obtain ⟨cd, g5, g6, g7, -, g8⟩ := hR.arr hla hs1 (by omega)
  obtain ⟨c1, q3, q4, q5⟩ := g8 hw
  rw [ety] at q3 q4 q5
  have a4' : ∀ j, j < n0 → cs.slots[j]? = some (.int (gI μ a0 j)) := a4
  obtain ⟨-, k1, hk1, cm1, hkk1⟩ := q4 n1 (fun j => .int (mI μ a j))
  have e1 : cd = arrV c1 n1 (fun j => .int (mI μ a j)) := by rw [q3]; congr 1; funext j; exact congrArg Value.int (gI_rw hw j)
  have hW := hC.2.2.2.2.2.1
  generalize hμ' : cpG μ a0 a sp.toNatClampNeg dp.toNatClampNeg n.toNatClampNeg = μ' at kk
  have hS : mS μ' = mS μ := by rw [← hμ']; rfl
  have hI : ∀ b, b ≠ a → ∀ k, mI μ' b k = mI μ b k := fun b hb k => by rw [← hμ']; exact if_neg hb
  have hIa : ∀ k, mI μ' a k = va_cpy (gI μ a0) (mI μ a) sp.toNatClampNeg dp.toNatClampNeg n.toNatClampNeg k := fun k => by rw [← hμ']; exact if_pos rfl
  have hLm : ∀ b, b ≠ a → ∀ k, mL μ' b k = mL μ b k := fun b _ k => by rw [← hμ']; rfl
  have hRm : ∀ b k, mR μ' b k = mR μ b k := fun b k => by rw [← hμ']; rfl
  intro T hT X
  subst e1
  obtain ⟨vm', X', step⟩ := X.arraycopy hC.1 hC.2.2.2.2.1 (hW _ w1) (hW _ w2) (hW _ w3) (hW _ w4) (src := adr a0) (dst := adr a) (cs := cs) (srcPos := sp) (destPos := dp) (n := n) (by rw [hT]; exact g1) (by rw [hT]; exact g5)
    hs6 (fun _ h => by cases h) g2 (fun h => by cases h) hk0 hk1 hkk0 hkk1 (by simp [refKind]) h1 h2 h3
    (by rw [toInt_clamp h1, toInt_clamp h3]; omega)
    (by rw [toInt_clamp h2, toInt_clamp h3, arrV_size]; omega)
    (fun vm₁ _ i hi => by
      have e : cs.slots.getD (sp.toNatClampNeg + i) .null = .int (gI μ a0 (sp.toNatClampNeg + i)) := by
        rw [Array.getD_eq_getD_getElem?, a4' _ (by omega)]
        rfl
      refine ⟨?_, ?_⟩
      · rw [e]
        exact hfit i hi
      · rw [e]
        exact True.intro)
    (g := F0 m pc ls (cvs adr (.int n :: .int dp :: .ref a :: .int sp :: .ref a0 :: st))) rfl (by rw [hC.2.2.1]; exact hls.1) (rest := cvs adr st) rfl (by rw [hC.2.1]; exact hd) (by omega) (by
      have e : nativeFrameWords "java/lang/System" "arraycopy" 5 = 7 := by decide +kernel
      rw [e, cvs_cat]
      show 2 * 0 + _ + _ ≤ _
      omega)
  have ec : copied cs (arrV c1 n1 (fun j => .int (mI μ a j))) sp dp n = arrV c1 n1 (fun j => .int (va_cpy (gI μ a0) (mI μ a) sp.toNatClampNeg dp.toNatClampNeg n.toNatClampNeg j)) := va_copiedX (fun z => .int z) cs c1 (gI μ a0) (mI μ a) a4' h4
  rw [ec] at X' step
  have hal : adr a < H.size := (Array.getElem?_eq_some_iff.mp g5).1
  generalize hcell : arrV c1 n1 (fun j => Value.int (va_cpy (gI μ a0) (mI μ a) sp.toNatClampNeg dp.toNatClampNeg n.toNatClampNeg j)) = cell' at X' step
  have hheap : ((T.setVm vm').setCell (adr a) cell').heap = H.setIfInBounds (adr a) cell' := by rw [← hT]; rfl
  have hX1 : arrX s (tagTy ct 4) n1 (fun j => tyv adr μ' a j (tagTy ct 4)) cell' := by
    refine ⟨c1, ?_, q4, q5⟩
    rw [← hcell]
    congr 1
    funext j
    exact congrArg Value.int ((hIa j).symm.trans (gI_rw hw j).symm)
  have hci : cellIs ct adr μ' s a cell' := by
    refine ⟨?_, ?_, fun _ => ?_, fun z => ?_, fun _ => ?_⟩
    · rw [← hcell]; exact fun h => by cases h
    · rw [← hcell]; rfl
    · rw [← hcell]; rfl
    · rw [hS, hs1] at z
      exact absurd z (by show ¬ 4 = 1; omega)
    · rw [hS, hs1]
      exact ⟨hX1.arrAt, fun _ => hX1⟩
  have hR' : Rel ct stt B0 adr μ' s (H.setIfInBounds (adr a) cell') := hR.set hla hw hS hI hLm (fun b _ k => hRm b k) (fun k b hb => hR.2.2.2.2.1 a k b hla (by rw [← gR_congr (hRm a k)]; exact hb)) (set_self hal) (by simp) (fun q hq => set_other hq) hci
  have hlv : ∀ b, live μ' b ↔ live μ b := fun b => by unfold live; rw [hS]
  obtain ⟨t2, a1', b1⟩ := kk p l e s m args below meth c R B0 mc ms Z adr0 μ0 hC hd1 hdl hmc hms hE _ _ cells slots ls adr hR' (hX.trans (fun b hb => ⟨(hlv b).mpr hb, rfl⟩)) (fun z hz => (List.mem_append.mp hz).elim (hlo z) (fun h => by
      obtain ⟨y, -, hy⟩ := List.mem_map.mp h
      rw [← hy]
      exact (hR.2.2.2.1 a hla).1 hw)) hc hs2 hls (fun z hz b hb => (hlv b).mpr (hL1 z hz b hb)) (fun z hz b hb => (hlv b).mpr (hS2 z hz b hb)) _ hheap X'
  exact ⟨t2, step t2 a1', b1⟩
theorem Lo.cpG {μ : Mu} {a a0 sp dp n : Nat} (h : hiN a) : Lo μ (cpG μ a0 a sp dp n) := fun κ i hκ => ⟨rfl, fun j => ⟨if_neg (hi_ne hκ h), rfl, rfl⟩⟩
