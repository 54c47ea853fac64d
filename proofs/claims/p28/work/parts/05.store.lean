/-! rows that write -/
theorem arrX.arrAt {U : State} {ty : FieldType} {n : Nat} {val : Nat → Value} {cell : Cell} (h : arrX U ty n val cell) : arrAt U ty n val cell := by
  obtain ⟨cA, rfl, h2, -⟩ := h
  exact ⟨h2 _ _, by rw [arrV_size]; exact Nat.le_refl _, by rw [arrV_size], fun j hj => arrV_read _ _ hj⟩
theorem set_self {H : Heap} {a : Nat} {x : Cell} (h : a < H.size) : (H.setIfInBounds a x)[a]? = some x := by simp [Array.getElem?_setIfInBounds, h]
theorem set_other {H : Heap} {a q : Nat} {x : Cell} (h : q ≠ a) : (H.setIfInBounds a x)[q]? = H[q]? := by simp [Array.getElem?_setIfInBounds, Ne.symm h]
/-- the memory changes at one place of one cell -/
def Mu1 (μ μ' : Mu) (a k : Nat) : Prop := mS μ' = mS μ ∧ (∀ b j, ¬ (b = a ∧ j = k) → mI μ' b j = mI μ b j ∧ mL μ' b j = mL μ b j ∧ mR μ' b j = mR μ b j) ∧ ∀ b, gR μ' a k = some b → live μ b
def setI (μ : Mu) (a k : Nat) (x : Int32) : Mu := (mS μ, up2 (mI μ) a k x, mL μ, mR μ)
def setL (μ : Mu) (a k : Nat) (x : Int64) : Mu := (mS μ, mI μ, up2 (mL μ) a k x, mR μ)
def setR (μ : Mu) (a k : Nat) (x : Nat) : Mu := (mS μ, mI μ, mL μ, up2 (mR μ) a k (some x))
theorem up2_self {α : Type} {f : Nat → Nat → α} {a k : Nat} {x : α} : up2 f a k x a k = x := if_pos ⟨rfl, rfl⟩
theorem up2_ne {α : Type} {f : Nat → Nat → α} {a k b j : Nat} {x : α} (h : ¬ (b = a ∧ j = k)) : up2 f a k x b j = f b j := if_neg h
theorem Mu1.i {μ : Mu} {a k : Nat} {x : Int32} (hc : ∀ b, gR μ a k = some b → live μ b) : Mu1 μ (setI μ a k x) a k := ⟨rfl, fun _ _ h => ⟨up2_ne h, rfl, rfl⟩, hc⟩
theorem Mu1.l {μ : Mu} {a k : Nat} {x : Int64} (hc : ∀ b, gR μ a k = some b → live μ b) : Mu1 μ (setL μ a k x) a k := ⟨rfl, fun _ _ h => ⟨rfl, up2_ne h, rfl⟩, hc⟩
theorem Mu1.r {μ : Mu} {a k x : Nat} (hw : rwN a) (hx : live μ x) : Mu1 μ (setR μ a k x) a k := ⟨rfl, fun _ _ h => ⟨rfl, rfl, up2_ne h⟩, fun b h => by
  rw [gR_rw hw, show mR (setR μ a k x) a k = some x from up2_self] at h
  cases h
  exact hx⟩
theorem Mu1.tyv {μ μ' : Mu} {a k : Nat} (h : Mu1 μ μ' a k) {adr : Nat → Nat} {b j : Nat} (hn : ¬ (b = a ∧ j = k)) (ty : FieldType) : tyv adr μ' b j ty = tyv adr μ b j ty := tyv_congr (h.2.1 b j hn).1 (h.2.1 b j hn).2.1 (h.2.1 b j hn).2.2 (fun _ _ => rfl)
theorem Rel.mu1 {ct : List CE} {stt : List SE} {B0 : Nat} {adr : Nat → Nat} {μ μ' : Mu} {U : State} {H H' : Heap} {a k : Nat} {cell' : Cell} (h : Rel ct stt B0 adr μ U H) (hM : Mu1 μ μ' a k) (ha : live μ a) (hw : rwN a)
    (e1 : H'[adr a]? = some cell') (e2 : H'.size = H.size) (e3 : ∀ q, q ≠ adr a → H'[q]? = H[q]?) (hx : cellIs ct adr μ' U a cell') : Rel ct stt B0 adr μ' U H' :=
  h.set ha hw hM.1 (fun b hb k => (hM.2.1 b k (fun q => hb q.1)).1) (fun b hb k => (hM.2.1 b k (fun q => hb q.1)).2.1) (fun b hb k => (hM.2.1 b k (fun q => hb q.1)).2.2)
    (fun j b hj => by
      by_cases hjk : j = k
      · subst hjk; exact hM.2.2 b hj
      · rw [gR_congr (hM.2.1 a j (fun q => hjk q.2)).2.2] at hj
        exact h.2.2.2.2.1 a j b ha hj) e1 e2 e3 hx
theorem Wa.putf {ct : List CE} {stt : List SE} {K : KM} {d rc rs : Nat} {Q : Option Value → Mu → Prop} {pc : Nat} {L : List (Nat × Value)} {st : List Value} {μ μ' : Mu} {a ci k index : Nat} {q : CE} {v : Value}
    (hd : decode (kB K) pc = .ok (.putfield index, 3)) (hs : mS μ a = (1, ci)) (hq : ct[ci]? = some q) (hk : k < q.2.2.1) (hok : CEok q) (hw : FLink K index (q.2.1 k)) (hfin : (q.2.1 k).2.2.2 = false ∨ ((q.2.1 k).2.2.2 = true ∧ (kY K).name = "<init>" ∧ (q.2.1 k).1 = (kO K))) (hrw : rwN a)
    (hn : ∀ adr, narrow (q.2.2.2 k) (cv adr v) = cv adr v) (hf : ∀ adr, fits (q.2.2.2 k) (cv adr v) = true) (hM : lvv μ v → (∀ j b, gR μ a j = some b → live μ b) → Mu1 μ μ' a k) (hv : ∀ adr, tyv adr μ' a k (q.2.2.2 k) = cv adr v)
    (kk : Wa ct stt K d rc rs Q (pc + 3) L st μ') : Wa ct stt K d rc rs Q pc L (v :: .ref a :: st) μ := by
  intro p l e s m args below meth c R B0 mc ms Z adr0 μ0 hC hd1 hdl hmc hms hE H locs cells slots ls adr hR hX hlo hc hs1 hls hL1 hS
  have hla : live μ a := lvv_hd (lvv_tl hS) _ rfl
  have hM := hM (lvv_hd hS) (fun j b => hR.2.2.2.2.1 a j b hla)
  have hlv : ∀ b, live μ' b ↔ live μ b := fun b => by unfold live; rw [hM.1]
  obtain ⟨cell, g1, g2, g3, g4, g5, -⟩ := hR.2.1 a hla
  obtain ⟨q', f1, f2⟩ := g5 (by rw [hs])
  rw [hs] at f1
  obtain rfl : q' = q := Option.some.inj (f1.symm.trans hq)
  obtain ⟨hin, hinst, hty, hnm, -⟩ := hok
  obtain ⟨cC, kC, hfc, hkC, hkind, -⟩ := Cond.instantiable_spec (hC.2.2.2.2.2.1 _ hinst)
  obtain rfl : cC = cell.cls := Option.some.inj (hfc.symm.trans f2.1)
  have hts : ∀ w ∈ u_ws q'.1 q'.2.1 q'.2.2.1, w.before args s = true := fun w h => hC.2.2.2.2.2.1 w (hin w h)
  obtain ⟨i, ⟨cf, kf, fi, fd, i1, i2, i3⟩, i4⟩ := f2.2 k hk
  have hty3 := (u_facts hfc hkC (u_lays hts (fun w h => h) hk) i1).2.2
  have hft : fd.type = q'.2.2.2 k := (State.fieldFound?_type i1 (hty k hk)).2
  have hlt : fd.slot < cell.slots.size := by rw [i2]; exact (Array.getElem?_eq_some_iff.mp i4).1
  have hvm := g4 hrw
  have hal : adr a < H.size := (Array.getElem?_eq_some_iff.mp g1).1
  have hfit : s.fitsSlot cell.cls cell.vm fd.slot (cv adr v) = true ∧ narrow fd.type (cv adr v) = cv adr v := by
    have := u_fits hfc hkC hkind (u_lays hts (fun w h => h) hk) i1 (hty k hk) (hn adr) (hf adr)
    rw [hvm]
    exact ⟨this.2, this.1⟩
  have hfin' : hasFlag fd.accessFlags Acc.final = false ∨ (m.cls = cf ∧ meth.name = "<init>") := by
    have hlay := hts _ (u_in_lay hk)
    unfold u_lay at hlay
    rcases hfin with h | ⟨h, h1, h2⟩
    · rw [if_neg (by rw [h]; decide)] at hlay
      exact Or.inl (u_store hfc hkC hkind hlay i1 (hty k hk) (hn adr) (hf adr)).1
    · rw [if_pos h] at hlay
      obtain ⟨_, _, c', _, _, _, -, -, hf', -, -, -, hown2, -⟩ := Cond.laysFinal_spec hlay
      have e1 : c' = cf := by have := i1.symm.trans hf'; simp at this; exact this.1.symm
      rw [h2] at hown2
      exact Or.inr ⟨by rw [← e1]; exact Option.some.inj (hC.2.2.2.2.1.symm.trans hown2), hC.2.2.2.2.2.2.2.1 h1⟩
  have hcell : cellIs ct adr μ' s a (cell.setSlot fd.slot (cv adr v)) := by
    refine ⟨g2, g3, g4, fun _ => ⟨q', by rw [hM.1, hs]; exact hq, f2.1, fun j hj => ?_⟩, fun h => absurd h (by rw [hM.1, hs]; show ¬ 2 ≤ 1; omega)⟩
    obtain ⟨i', hi', h4'⟩ := f2.2 j hj
    refine ⟨i', hi', ?_⟩
    show (cell.setSlot fd.slot (cv adr v)).slots[i']? = some (tyv adr μ' a j (q'.2.2.2 j))
    have h4' : cell.slots[i']? = some (tyv adr μ a j (q'.2.2.2 j)) := h4'
    by_cases hjk : j = k
    · subst hjk
      obtain ⟨cf', kf', fi', fd', j1, j2, j3⟩ := hi'
      have : fd' = fd := by have := j1.symm.trans i1; simp at this; exact this.2.2.2
      subst this
      rw [hv adr, ← j2]
      simpa using Cell.slots_setSlot_self (cv adr v) hlt
    · rw [hM.tyv (fun q => hjk q.2)]
      obtain ⟨cf', kf', fi', fd', j1, j2, j3⟩ := hi'
      have hne : fd.slot ≠ fd'.slot := by
        refine u_apart (u_lays hts (fun w h => h) hk) (u_lays hts (fun w h => h) hj) i1 j1 ?_
        rw [(State.fieldFound?_type i1 (hty k hk)).1, (State.fieldFound?_type j1 (hty j hj)).1]
        exact hnm k hk j hj (Ne.symm hjk)
      rw [slot_ne _ _ (by rw [← j2]; exact hne)]
      exact h4'
  have hR' : Rel ct stt B0 adr μ' s (H.setIfInBounds (adr a) (cell.setSlot fd.slot (cv adr v))) := hR.mu1 hM hla hrw (set_self hal) (by simp) (fun q hq => set_other hq) hcell
  have hkk := kk p l e s m args below meth c R B0 mc ms Z adr0 μ0 hC hd1 hdl hmc hms hE _ (locs ++ [⟨adr a, fd.slot⟩]) cells slots ls adr hR' (hX.trans (fun b hb => ⟨(hlv b).mpr hb, rfl⟩)) (fun z hz => (List.mem_append.mp hz).elim (hlo z) (fun h => by
      rw [List.mem_singleton.mp h]
      exact (hR.2.2.2.1 a hla).1 hrw)) hc hs1 hls (fun z hz b hb => (hlv b).mpr (hL1 z hz b hb)) (fun z hz b hb => (hlv b).mpr (lvv_tl (lvv_tl hS) z hz b hb))
  rcases hw with hw | ⟨host, hw⟩
  · exact W.putf hC.1 hC.2.1 hC.2.2.2.2.1 (hC.2.2.2.2.2.1 _ hw) i1 i3 hfin' g1 g2 hlt hfit.2 hfit.1 rfl rfl hd hkk
  · exact va_Wputf hC.1 hC.2.1 hC.2.2.2.2.1 (hC.2.2.2.2.2.1 _ hw) i1 i3 hfin' g1 g2 hlt hfit.2 hfit.1 rfl rfl hd hkk
/-- who may write the field -/
def FFin (K : KM) (f : String × String × String × Bool) : Prop := f.2.2.2 = false ∨ (f.2.2.2 = true ∧ (kY K).name = "<init>" ∧ f.1 = (kO K))
theorem Wa.putI {ct : List CE} {stt : List SE} {K : KM} {d rc rs : Nat} {Q : Option Value → Mu → Prop} {pc : Nat} {L : List (Nat × Value)} {st : List Value} {μ : Mu} {a : Nat} (ci k : Nat) {index : Nat} {q : CE} {x : Int32}
    (hd : decode (kB K) pc = .ok (.putfield index, 3)) (hq : ct[ci]? = some q) (hk : k < q.2.2.1) (hok : CEok q) (hw : FLink K index (q.2.1 k)) (hfin : FFin K (q.2.1 k)) (ht : q.2.2.2 k = .int) (hrw : rwN a) (hs : mS μ a = (1, ci))
    (kk : Wa ct stt K d rc rs Q (pc + 3) L st (setI μ a k x)) : Wa ct stt K d rc rs Q pc L (.int x :: .ref a :: st) μ :=
  Wa.putf hd hs hq hk hok hw hfin hrw (fun adr => by rw [ht]; rfl) (fun adr => by rw [ht]; rfl) (fun _ h => Mu1.i (h k)) (fun adr => by rw [ht]; exact congrArg Value.int ((gI_rw hrw k).trans up2_self)) kk
theorem Wa.putL {ct : List CE} {stt : List SE} {K : KM} {d rc rs : Nat} {Q : Option Value → Mu → Prop} {pc : Nat} {L : List (Nat × Value)} {st : List Value} {μ : Mu} {a : Nat} (ci k : Nat) {index : Nat} {q : CE} {x : Int64}
    (hd : decode (kB K) pc = .ok (.putfield index, 3)) (hq : ct[ci]? = some q) (hk : k < q.2.2.1) (hok : CEok q) (hw : FLink K index (q.2.1 k)) (hfin : FFin K (q.2.1 k)) (ht : q.2.2.2 k = .long) (hrw : rwN a) (hs : mS μ a = (1, ci))
    (kk : Wa ct stt K d rc rs Q (pc + 3) L st (setL μ a k x)) : Wa ct stt K d rc rs Q pc L (.long x :: .ref a :: st) μ :=
  Wa.putf hd hs hq hk hok hw hfin hrw (fun adr => by rw [ht]; rfl) (fun adr => by rw [ht]; rfl) (fun _ h => Mu1.l (h k)) (fun adr => by rw [ht]; exact congrArg Value.long up2_self) kk
theorem Wa.putR {ct : List CE} {stt : List SE} {K : KM} {d rc rs : Nat} {Q : Option Value → Mu → Prop} {pc : Nat} {L : List (Nat × Value)} {st : List Value} {μ : Mu} {a : Nat} (ci k : Nat) {index : Nat} {q : CE} {x : Nat}
    (hd : decode (kB K) pc = .ok (.putfield index, 3)) (hq : ct[ci]? = some q) (hk : k < q.2.2.1) (hok : CEok q) (hw : FLink K index (q.2.1 k)) (hfin : FFin K (q.2.1 k)) (ht : isRefTy (q.2.2.2 k) = true) (hrw : rwN a) (hs : mS μ a = (1, ci))
    (kk : Wa ct stt K d rc rs Q (pc + 3) L st (setR μ a k x)) : Wa ct stt K d rc rs Q pc L (.ref x :: .ref a :: st) μ := by
  refine Wa.putf hd hs hq hk hok hw hfin hrw (fun adr => ?_) (fun adr => ?_) (fun h _ => Mu1.r hrw (h _ rfl)) (fun adr => tyv_ref ht ((gR_rw hrw k).trans up2_self)) kk
  · revert ht; cases q.2.2.2 k <;> intro ht <;> first | (cases ht; done) | rfl
  · revert ht; cases q.2.2.2 k <;> intro ht <;> first | (cases ht; done) | rfl
/-! array stores -/
theorem Rel.aset {ct : List CE} {stt : List SE} {B0 : Nat} {adr : Nat → Nat} {μ μ' : Mu} {U : State} {H H' : Heap} {a t n j : Nat} {cell : Cell} {w : Value} (h : Rel ct stt B0 adr μ U H) (hs : mS μ a = (t, n)) (ht : 2 ≤ t) (hM : Mu1 μ μ' a j) (ha : live μ a) (hw : rwN a) (g1 : H[adr a]? = some cell) (hv : tyv adr μ' a j (tagTy ct t) = w)
    (e1 : H'[adr a]? = some (cell.setSlot j w)) (e2 : H'.size = H.size) (e3 : ∀ q, q ≠ adr a → H'[q]? = H[q]?) : Rel ct stt B0 adr μ' U H' := by
  obtain ⟨cell', h1, h2, h3, h4, h5⟩ := h.arr ha hs ht
  obtain rfl : cell' = cell := Option.some.inj (h1.symm.trans g1)
  obtain ⟨cA, q1, q2, q3⟩ := h5 hw
  have hX : arrX U (tagTy ct t) n (fun i => tyv adr μ' a i (tagTy ct t)) (cell'.setSlot j w) := by
    refine ⟨cA, ?_, q2, q3⟩
    rw [q1, arrV_store]
    congr 1
    funext i
    by_cases hij : i = j
    · subst hij; rw [hv]; simp [updV]
    · rw [hM.tyv (fun q => hij q.2)]; simp [updV, hij]
  refine h.mu1 hM ha hw e1 e2 e3 ⟨h2, ?_, h3, fun z => absurd z (by rw [hM.1, hs]; show ¬ t = 1; omega), fun _ => ?_⟩
  · show cell'.vm.isStatics = false
    rw [h3 hw]; rfl
  · rw [hM.1, hs]
    exact ⟨hX.arrAt, fun _ => hX⟩
