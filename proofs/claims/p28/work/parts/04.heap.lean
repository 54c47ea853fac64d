/-! rows of the judgement that touch the heap -/
theorem tyv_congr {adr adr' : Nat → Nat} {μ μ' : Mu} {a k : Nat} {ty : FieldType} (h1 : mI μ' a k = mI μ a k) (h2 : mL μ' a k = mL μ a k) (h3 : mR μ' a k = mR μ a k) (h4 : ∀ c, gR μ a k = some c → adr' c = adr c) : tyv adr' μ' a k ty = tyv adr μ a k ty := by
  have e : rv adr' (gR μ' a k) = rv adr (gR μ a k) := by
    rw [gR_congr h3]
    cases h : gR μ a k with
    | none => rfl
    | some c => exact congrArg Value.ref (h4 c h)
  cases ty <;> simp only [tyv, gI_congr h1, h2, e]
theorem cellIs.congr {ct : List CE} {adr adr' : Nat → Nat} {μ μ' : Mu} {U : State} {a : Nat} {cell : Cell} (h0 : mS μ' a = mS μ a) (h1 : ∀ k, mI μ' a k = mI μ a k) (h2 : ∀ k, mL μ' a k = mL μ a k) (h3 : ∀ k, mR μ' a k = mR μ a k) (h4 : ∀ k c, gR μ a k = some c → adr' c = adr c) (h : cellIs ct adr μ U a cell) : cellIs ct adr' μ' U a cell := by
  have e : ∀ k ty, tyv adr' μ' a k ty = tyv adr μ a k ty := fun k ty => tyv_congr (h1 k) (h2 k) (h3 k) (h4 k)
  unfold cellIs at h ⊢
  simp only [h0, e]
  exact h
theorem Rel.set {ct : List CE} {stt : List SE} {B0 : Nat} {adr : Nat → Nat} {μ μ' : Mu} {U : State} {H H' : Heap} {a : Nat} {cell' : Cell} (h : Rel ct stt B0 adr μ U H) (ha : live μ a) (hw : rwN a) (hS : mS μ' = mS μ) (hI : ∀ b, b ≠ a → ∀ k, mI μ' b k = mI μ b k) (hL : ∀ b, b ≠ a → ∀ k, mL μ' b k = mL μ b k) (hR : ∀ b, b ≠ a → ∀ k, mR μ' b k = mR μ b k) (hc : ∀ k b, gR μ' a k = some b → live μ b)
    (e1 : H'[adr a]? = some cell') (e2 : H'.size = H.size) (e3 : ∀ q, q ≠ adr a → H'[q]? = H[q]?) (hx : cellIs ct adr μ' U a cell') : Rel ct stt B0 adr μ' U H' := by
  obtain ⟨r1, r2, r3, r4, r5, r6, r7⟩ := h
  have hlv : ∀ b, live μ' b ↔ live μ b := fun b => by unfold live; rw [hS]
  have hne : ∀ b, live μ b → b ≠ a → adr b ≠ adr a := fun b hb hba e => by
    by_cases hwb : rwN b
    · exact hba (r3 b a hb ha (Or.inl hwb) (Or.inl hw) e)
    · have g1 := (r4 b hb).2 hwb
      have g2 := (r4 a ha).1 hw
      omega
  refine ⟨by rw [e2]; exact r1, fun b hb => ?_, fun b c hb hc => r3 b c ((hlv b).mp hb) ((hlv c).mp hc), fun b hb => r4 b ((hlv b).mp hb), fun b k c hb hk => ?_, fun q hq => ?_, ?_⟩
  · by_cases hba : b = a
    · subst hba
      exact ⟨cell', e1, hx⟩
    · obtain ⟨cell, g1, g2⟩ := r2 b ((hlv b).mp hb)
      refine ⟨cell, ?_, g2.congr (by rw [hS]) (hI b hba) (hL b hba) (hR b hba) (fun _ _ _ => rfl)⟩
      rw [e3 _ (hne b ((hlv b).mp hb) hba)]
      exact g1
  · by_cases hba : b = a
    · subst hba
      exact (hlv c).mpr (hc k c hk)
    · rw [gR_congr (hR b hba k)] at hk
      exact (hlv c).mpr (r5 b k c ((hlv b).mp hb) hk)
  · obtain ⟨g1, cf, kf, fi, f, x, cell, q1, q2, q3, q4, q5, q6, q7, q8⟩ := r6 q hq
    refine ⟨fun b hb => (hlv b).mpr (g1 b hb), cf, kf, fi, f, x, cell, q1, q2, q3, q4, ?_, q6, q7, q8⟩
    rw [e3 x (fun e => by have := (r4 a ha).1 hw; omega)]
    exact q5
  · exact SQ.kept r7 (fun x _ hA => e3 x (fun e => by have h1 := (r4 a ha).1 hw; have h2 : ¬ B0 ≤ x := hA; omega))
/-- what the tables say of a class whose objects are made and written -/
def CEok (q : CE) : Prop := (∀ w ∈ u_ws q.1 q.2.1 q.2.2.1, w ∈ tb) ∧ Cond.instantiable q.1 q.2.2.1 ∈ tb ∧ (∀ k, k < q.2.2.1 → parseFieldDescriptor (q.2.1 k).2.2.1 = some (q.2.2.2 k)) ∧ (∀ a, a < q.2.2.1 → ∀ b, b < q.2.2.1 → a ≠ b → (q.2.1 a).2.1 ≠ (q.2.1 b).2.1) ∧ Cond.initialized q.1 ∈ tb
theorem cvs_cons {adr : Nat → Nat} {v : Value} {st : List Value} : cvs adr (v :: st) = cv adr v :: cvs adr st := rfl
/-- an instruction that reads a field: by the class itself, or by a nest mate -/
def FLinkO (own : String) (index : Nat) (f : String × String × String × Bool) : Prop := Cond.fieldLink own index f.1 f.2.1 f.2.2.1 ∈ tb ∨ ∃ host, Cond.fieldLinkNest own index f.1 f.2.1 f.2.2.1 host ∈ tb
abbrev FLink (K : KM) (index : Nat) (f : String × String × String × Bool) : Prop := FLinkO (kO K) index f
theorem Wa.getf {ct : List CE} {stt : List SE} {K : KM} {d rc rs : Nat} {Q : Option Value → Mu → Prop} {pc : Nat} {L : List (Nat × Value)} {st : List Value} {μ : Mu} {a ci k index : Nat} {q : CE} {v : Value}
    (hd : decode (kB K) pc = .ok (.getfield index, 3)) (hs : mS μ a = (1, ci)) (hq : ct[ci]? = some q) (hk : k < q.2.2.1) (hw : FLink K index (q.2.1 k)) (hv : ∀ adr, tyv adr μ a k (q.2.2.2 k) = cv adr v) (hl : (∀ j b, gR μ a j = some b → live μ b) → lvv μ v)
    (kk : Wa ct stt K d rc rs Q (pc + 3) L (v :: st) μ) : Wa ct stt K d rc rs Q pc L (.ref a :: st) μ := by
  intro p l e s m args below meth c R B0 mc ms Z adr0 μ0 hC hd1 hdl hmc hms hE H locs cells slots ls adr hR hX hlo hc hs1 hls hL1 hS
  have hla : live μ a := lvv_hd hS _ rfl
  obtain ⟨cell, g1, g2, g3, g4, g5, -⟩ := hR.2.1 a hla
  obtain ⟨q', f1, f2⟩ := g5 (by rw [hs])
  rw [hs] at f1
  obtain rfl : q' = q := Option.some.inj (f1.symm.trans hq)
  obtain ⟨i, ⟨cf, kf, fi, fd, i1, i2, i3⟩, i4⟩ := f2.2 k hk
  have hkk := kk p l e s m args below meth c R B0 mc ms Z adr0 μ0 hC hd1 hdl hmc hms hE H locs cells slots ls adr hR hX hlo hc hs1 hls hL1 (lvv_cons (hl (fun j b => hR.2.2.2.2.1 a j b hla)) (lvv_tl hS))
  rw [cvs_cons, ← hv adr] at hkk
  rcases hw with hw | ⟨host, hw⟩
  · exact W.getf hC.1 hC.2.1 hC.2.2.2.2.1 (hC.2.2.2.2.2.1 _ hw) i1 i3 g1 g2 (by rw [i2]; exact i4) rfl rfl hd hkk
  · exact va_Wgetf hC.1 hC.2.1 hC.2.2.2.2.1 (hC.2.2.2.2.2.1 _ hw) i1 i3 g1 g2 (by rw [i2]; exact i4) rfl rfl hd hkk
theorem Wa.getI {ct : List CE} {stt : List SE} {K : KM} {d rc rs : Nat} {Q : Option Value → Mu → Prop} {pc : Nat} {L : List (Nat × Value)} {st : List Value} {μ : Mu} {a : Nat} (ci k : Nat) {index : Nat} {q : CE} 
    (hd : decode (kB K) pc = .ok (.getfield index, 3)) (hq : ct[ci]? = some q) (hk : k < q.2.2.1) (hw : FLink K index (q.2.1 k)) (ht : q.2.2.2 k = .int) (hs : mS μ a = (1, ci))
    (kk : Wa ct stt K d rc rs Q (pc + 3) L (.int (gI μ a k) :: st) μ) : Wa ct stt K d rc rs Q pc L (.ref a :: st) μ :=
  Wa.getf hd hs hq hk hw (fun adr => by rw [ht]; rfl) (fun _ => lvv_int) kk
theorem Wa.getL {ct : List CE} {stt : List SE} {K : KM} {d rc rs : Nat} {Q : Option Value → Mu → Prop} {pc : Nat} {L : List (Nat × Value)} {st : List Value} {μ : Mu} {a : Nat} (ci k : Nat) {index : Nat} {q : CE} 
    (hd : decode (kB K) pc = .ok (.getfield index, 3)) (hq : ct[ci]? = some q) (hk : k < q.2.2.1) (hw : FLink K index (q.2.1 k)) (ht : q.2.2.2 k = .long) (hs : mS μ a = (1, ci))
    (kk : Wa ct stt K d rc rs Q (pc + 3) L (.long (mL μ a k) :: st) μ) : Wa ct stt K d rc rs Q pc L (.ref a :: st) μ :=
  Wa.getf hd hs hq hk hw (fun adr => by rw [ht]; rfl) (fun _ => lvv_long) kk
def isRefTy : FieldType → Bool
  | .object _ => true
  | .array _ => true
  | _ => false
theorem tyv_ref {adr : Nat → Nat} {μ : Mu} {a k b : Nat} {ty : FieldType} (ht : isRefTy ty = true) (h : gR μ a k = some b) : tyv adr μ a k ty = .ref (adr b) := by
  cases ty <;> first | (cases ht; done) | simp [tyv, rv, h]
theorem Wa.getR {ct : List CE} {stt : List SE} {K : KM} {d rc rs : Nat} {Q : Option Value → Mu → Prop} {pc : Nat} {L : List (Nat × Value)} {st : List Value} {μ : Mu} {a : Nat} (ci k : Nat) {index : Nat} {q : CE} 
    (hd : decode (kB K) pc = .ok (.getfield index, 3)) (hq : ct[ci]? = some q) (hk : k < q.2.2.1) (hw : FLink K index (q.2.1 k)) (ht : isRefTy (q.2.2.2 k) = true) (hs : mS μ a = (1, ci)) {b : Nat} (hb : gR μ a k = some b)
    (kk : Wa ct stt K d rc rs Q (pc + 3) L (.ref b :: st) μ) : Wa ct stt K d rc rs Q pc L (.ref a :: st) μ :=
  Wa.getf hd hs hq hk hw (fun adr => tyv_ref ht hb) (fun h => lvv_ref (h k b hb)) kk
/-! array loads -/
theorem vp_in_sz {n : Nat} {cell : Cell} {i : Int32} (h : vp_in i n) (hn : n ≤ cell.slots.size) : ¬ (i < 0 ∨ cell.slots.size ≤ i.toNatClampNeg) := fun q => q.elim (fun z => h (Or.inl z)) (fun z => h (Or.inr (Nat.le_trans hn z)))
theorem vp_in_lt {n : Nat} {i : Int32} (h : vp_in i n) : i.toNatClampNeg < n := Nat.not_le.mp fun q => h (Or.inr q)
theorem Rel.arr {ct : List CE} {stt : List SE} {B0 : Nat} {adr : Nat → Nat} {μ : Mu} {U : State} {H : Heap} {a t n : Nat} (h : Rel ct stt B0 adr μ U H) (ha : live μ a) (hs : mS μ a = (t, n)) (ht : 2 ≤ t) :
    ∃ cell, H[adr a]? = some cell ∧ cell.vm ≠ .unknown ∧ (rwN a → cell.vm = .none) ∧ arrAt U (tagTy ct t) n (fun j => tyv adr μ a j (tagTy ct t)) cell ∧ (rwN a → arrX U (tagTy ct t) n (fun j => tyv adr μ a j (tagTy ct t)) cell) := by
  obtain ⟨cell, g1, g2, g3, g4, -, g6⟩ := h.2.1 a ha
  rw [hs] at g6
  exact ⟨cell, g1, g2, g4, (g6 ht).1, (g6 ht).2⟩
theorem Wa.iald {ct : List CE} {stt : List SE} {K : KM} {d rc rs : Nat} {Q : Option Value → Mu → Prop} {pc : Nat} {L : List (Nat × Value)} {st : List Value} {μ : Mu} {a n : Nat} {i : Int32}
    (hd : decode (kB K) pc = .ok (.iaload, 1)) (hs : mS μ a = (2, n)) (hi : vp_in i n)
    (kk : Wa ct stt K d rc rs Q (pc + 1) L (.int (gI μ a i.toNatClampNeg) :: st) μ) : Wa ct stt K d rc rs Q pc L (.int i :: .ref a :: st) μ := by
  intro p l e s m args below meth c R B0 mc ms Z adr0 μ0 hC hd1 hdl hmc hms hE H locs cells slots ls adr hR hX hlo hc hs1 hls hL1 hS
  obtain ⟨cell, g1, g2, g3, ⟨a1, a2, a3, a4⟩, -⟩ := hR.arr (lvv_hd (lvv_tl hS) _ rfl) hs (by omega)
  exact W.iald hC.1 hC.2.1 g1 a1 g2 (vp_in_sz hi a2) (a4 _ (vp_in_lt hi)) rfl rfl hd (kk p l e s m args below meth c R B0 mc ms Z adr0 μ0 hC hd1 hdl hmc hms hE H locs cells slots ls adr hR hX hlo hc hs1 hls hL1 (lvv_cons lvv_int (lvv_tl (lvv_tl hS))))
theorem Wa.lald {ct : List CE} {stt : List SE} {K : KM} {d rc rs : Nat} {Q : Option Value → Mu → Prop} {pc : Nat} {L : List (Nat × Value)} {st : List Value} {μ : Mu} {a n : Nat} {i : Int32}
    (hd : decode (kB K) pc = .ok (.laload, 1)) (hs : mS μ a = (3, n)) (hi : vp_in i n)
    (kk : Wa ct stt K d rc rs Q (pc + 1) L (.long (mL μ a i.toNatClampNeg) :: st) μ) : Wa ct stt K d rc rs Q pc L (.int i :: .ref a :: st) μ := by
  intro p l e s m args below meth c R B0 mc ms Z adr0 μ0 hC hd1 hdl hmc hms hE H locs cells slots ls adr hR hX hlo hc hs1 hls hL1 hS
  obtain ⟨cell, g1, g2, g3, ⟨a1, a2, a3, a4⟩, -⟩ := hR.arr (lvv_hd (lvv_tl hS) _ rfl) hs (by omega)
  exact W.lald hC.1 hC.2.1 g1 a1 g2 (vp_in_sz hi a2) (a4 _ (vp_in_lt hi)) rfl rfl hd (kk p l e s m args below meth c R B0 mc ms Z adr0 μ0 hC hd1 hdl hmc hms hE H locs cells slots ls adr hR hX hlo hc hs1 hls hL1 (lvv_cons lvv_long (lvv_tl (lvv_tl hS))))
theorem Wa.bald {ct : List CE} {stt : List SE} {K : KM} {d rc rs : Nat} {Q : Option Value → Mu → Prop} {pc : Nat} {L : List (Nat × Value)} {st : List Value} {μ : Mu} {a n : Nat} {i : Int32}
    (hd : decode (kB K) pc = .ok (.baload, 1)) (hs : mS μ a = (4, n)) (hi : vp_in i n)
    (kk : Wa ct stt K d rc rs Q (pc + 1) L (.int (gI μ a i.toNatClampNeg) :: st) μ) : Wa ct stt K d rc rs Q pc L (.int i :: .ref a :: st) μ := by
  intro p l e s m args below meth c R B0 mc ms Z adr0 μ0 hC hd1 hdl hmc hms hE H locs cells slots ls adr hR hX hlo hc hs1 hls hL1 hS
  obtain ⟨cell, g1, g2, g3, ⟨a1, a2, a3, a4⟩, -⟩ := hR.arr (lvv_hd (lvv_tl hS) _ rfl) hs (by omega)
  exact W.bald hC.1 hC.2.1 g1 a1 g2 (vp_in_sz hi a2) (a4 _ (vp_in_lt hi)) rfl rfl hd (kk p l e s m args below meth c R B0 mc ms Z adr0 μ0 hC hd1 hdl hmc hms hE H locs cells slots ls adr hR hX hlo hc hs1 hls hL1 (lvv_cons lvv_int (lvv_tl (lvv_tl hS))))
theorem Wa.zald {ct : List CE} {stt : List SE} {K : KM} {d rc rs : Nat} {Q : Option Value → Mu → Prop} {pc : Nat} {L : List (Nat × Value)} {st : List Value} {μ : Mu} {a n : Nat} {i : Int32}
    (hd : decode (kB K) pc = .ok (.baload, 1)) (hs : mS μ a = (5, n)) (hi : vp_in i n)
    (kk : Wa ct stt K d rc rs Q (pc + 1) L (.int (gI μ a i.toNatClampNeg) :: st) μ) : Wa ct stt K d rc rs Q pc L (.int i :: .ref a :: st) μ := by
  intro p l e s m args below meth c R B0 mc ms Z adr0 μ0 hC hd1 hdl hmc hms hE H locs cells slots ls adr hR hX hlo hc hs1 hls hL1 hS
  obtain ⟨cell, g1, g2, g3, ⟨a1, a2, a3, a4⟩, -⟩ := hR.arr (lvv_hd (lvv_tl hS) _ rfl) hs (by omega)
  exact W.zald hC.1 hC.2.1 g1 a1 g2 (vp_in_sz hi a2) (a4 _ (vp_in_lt hi)) rfl rfl hd (kk p l e s m args below meth c R B0 mc ms Z adr0 μ0 hC hd1 hdl hmc hms hE H locs cells slots ls adr hR hX hlo hc hs1 hls hL1 (lvv_cons lvv_int (lvv_tl (lvv_tl hS))))
theorem Wa.aald {ct : List CE} {stt : List SE} {K : KM} {d rc rs : Nat} {Q : Option Value → Mu → Prop} {pc : Nat} {L : List (Nat × Value)} {st : List Value} {μ : Mu} {a n t b : Nat} {i : Int32} {q : CE}
    (hd : decode (kB K) pc = .ok (.aaload, 1)) (hq : ct[t]? = some q) (hs : mS μ a = (6 + t, n)) (hi : vp_in i n) (hb : gR μ a i.toNatClampNeg = some b)
    (kk : Wa ct stt K d rc rs Q (pc + 1) L (.ref b :: st) μ) : Wa ct stt K d rc rs Q pc L (.int i :: .ref a :: st) μ := by
  intro p l e s m args below meth c R B0 mc ms Z adr0 μ0 hC hd1 hdl hmc hms hE H locs cells slots ls adr hR hX hlo hc hs1 hls hL1 hS
  obtain ⟨cell, g1, g2, g3, ⟨a1, a2, a3, a4⟩, -⟩ := hR.arr (lvv_hd (lvv_tl hS) _ rfl) hs (by omega)
  have ety : tagTy ct (6 + t) = .object q.1 := by
    unfold tagTy
    rw [if_neg (by omega), if_neg (by omega), if_neg (by omega), if_neg (by omega), Nat.add_sub_cancel_left, hq]
  have e2 := a4 _ (vp_in_lt hi)
  rw [ety] at a1
  have e3 : cell.slots[i.toNatClampNeg]? = some (.ref (adr b)) := e2.trans (congrArg some (tyv_ref (by rw [ety]; rfl) hb))
  exact W.aald hC.1 hC.2.1 g1 a1 rfl g2 (vp_in_sz hi a2) e3 rfl rfl hd (kk p l e s m args below meth c R B0 mc ms Z adr0 μ0 hC hd1 hdl hmc hms hE H locs cells slots ls adr hR hX hlo hc hs1 hls hL1 (lvv_cons (lvv_ref (hR.2.2.2.2.1 _ _ _ (lvv_hd (lvv_tl hS) _ rfl) hb)) (lvv_tl (lvv_tl hS))))
theorem Wa.alen {ct : List CE} {stt : List SE} {K : KM} {d rc rs : Nat} {Q : Option Value → Mu → Prop} {pc : Nat} {L : List (Nat × Value)} {st : List Value} {μ : Mu} {a n t : Nat} 
    (hd : decode (kB K) pc = .ok (.arraylength, 1)) (hs : mS μ a = (t, n)) (ht : 2 ≤ t)
    (kk : Wa ct stt K d rc rs Q (pc + 1) L (.int (nI n) :: st) μ) : Wa ct stt K d rc rs Q pc L (.ref a :: st) μ := by
  intro p l e s m args below meth c R B0 mc ms Z adr0 μ0 hC hd1 hdl hmc hms hE H locs cells slots ls adr hR hX hlo hc hs1 hls hL1 hS
  obtain ⟨cell, g1, g2, g3, ⟨a1, a2, a3, a4⟩, -⟩ := hR.arr (lvv_hd hS _ rfl) hs ht
  exact W.alen hC.1 hC.2.1 g1 a1 a3 rfl rfl hd (kk p l e s m args below meth c R B0 mc ms Z adr0 μ0 hC hd1 hdl hmc hms hE H locs cells slots ls adr hR hX hlo hc hs1 hls hL1 (lvv_cons lvv_int (lvv_tl hS)))
