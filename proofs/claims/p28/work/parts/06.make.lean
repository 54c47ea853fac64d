/-! rows that write into arrays, and that make cells -/
theorem Wa.iast {ct : List CE} {stt : List SE} {K : KM} {d rc rs : Nat} {Q : Option Value → Mu → Prop} {pc : Nat} {L : List (Nat × Value)} {st : List Value} {μ : Mu} {a n : Nat} {i : Int32} {x : Int32}
    (hd : decode (kB K) pc = .ok (.iastore, 1)) (hrw : rwN a) (hs : mS μ a = (2, n)) (hi : vp_in i n)
    (kk : Wa ct stt K d rc rs Q (pc + 1) L st (setI μ a i.toNatClampNeg x)) : Wa ct stt K d rc rs Q pc L (.int x :: .int i :: .ref a :: st) μ := by
  intro p l e s m args below meth c R B0 mc ms Z adr0 μ0 hC hd1 hdl hmc hms hE H locs cells slots ls adr hR hX hlo hc hs1 hls hL1 hS
  have hla : live μ a := lvv_hd (lvv_tl (lvv_tl hS)) _ rfl
  obtain ⟨cell, g1, g2, g3, ⟨a1, a2, a3, a4⟩, -⟩ := hR.arr hla hs (by omega)
  refine W.iast hC.1 hC.2.1 g1 a1 g2 (vp_in_sz hi a2) rfl rfl hd fun H1 ee zz oq => ?_
  have hM : Mu1 μ (setI μ a i.toNatClampNeg x) a i.toNatClampNeg := Mu1.i (fun b => hR.2.2.2.2.1 a _ b hla)
  have hR' := hR.aset (H' := H1) (w := .int x) hs (by omega) hM hla hrw g1 (congrArg Value.int ((gI_rw hrw _).trans up2_self)) ee zz oq
  exact kk p l e s m args below meth c R B0 mc ms Z adr0 μ0 hC hd1 hdl hmc hms hE _ (locs ++ [⟨adr a, i.toNatClampNeg⟩]) cells slots ls adr hR' hX (fun z hz => (List.mem_append.mp hz).elim (hlo z) (fun h => by
      rw [List.mem_singleton.mp h]
      exact (hR.2.2.2.1 a hla).1 hrw)) hc hs1 hls hL1 (lvv_tl (lvv_tl (lvv_tl hS)))
theorem Wa.last {ct : List CE} {stt : List SE} {K : KM} {d rc rs : Nat} {Q : Option Value → Mu → Prop} {pc : Nat} {L : List (Nat × Value)} {st : List Value} {μ : Mu} {a n : Nat} {i : Int32} {x : Int64}
    (hd : decode (kB K) pc = .ok (.lastore, 1)) (hrw : rwN a) (hs : mS μ a = (3, n)) (hi : vp_in i n)
    (kk : Wa ct stt K d rc rs Q (pc + 1) L st (setL μ a i.toNatClampNeg x)) : Wa ct stt K d rc rs Q pc L (.long x :: .int i :: .ref a :: st) μ := by
  intro p l e s m args below meth c R B0 mc ms Z adr0 μ0 hC hd1 hdl hmc hms hE H locs cells slots ls adr hR hX hlo hc hs1 hls hL1 hS
  have hla : live μ a := lvv_hd (lvv_tl (lvv_tl hS)) _ rfl
  obtain ⟨cell, g1, g2, g3, ⟨a1, a2, a3, a4⟩, -⟩ := hR.arr hla hs (by omega)
  refine W.last hC.1 hC.2.1 g1 a1 g2 (vp_in_sz hi a2) rfl rfl hd fun H1 ee zz oq => ?_
  have hM : Mu1 μ (setL μ a i.toNatClampNeg x) a i.toNatClampNeg := Mu1.l (fun b => hR.2.2.2.2.1 a _ b hla)
  have hR' := hR.aset (H' := H1) (w := .long x) hs (by omega) hM hla hrw g1 (congrArg Value.long up2_self) ee zz oq
  exact kk p l e s m args below meth c R B0 mc ms Z adr0 μ0 hC hd1 hdl hmc hms hE _ (locs ++ [⟨adr a, i.toNatClampNeg⟩]) cells slots ls adr hR' hX (fun z hz => (List.mem_append.mp hz).elim (hlo z) (fun h => by
      rw [List.mem_singleton.mp h]
      exact (hR.2.2.2.1 a hla).1 hrw)) hc hs1 hls hL1 (lvv_tl (lvv_tl (lvv_tl hS)))
theorem Wa.bast {ct : List CE} {stt : List SE} {K : KM} {d rc rs : Nat} {Q : Option Value → Mu → Prop} {pc : Nat} {L : List (Nat × Value)} {st : List Value} {μ : Mu} {a n : Nat} {i : Int32} {x : Int32}
    (hd : decode (kB K) pc = .ok (.bastore, 1)) (hrw : rwN a) (hs : mS μ a = (4, n)) (hi : vp_in i n)
    (kk : Wa ct stt K d rc rs Q (pc + 1) L st (setI μ a i.toNatClampNeg (vp_nar .byte x))) : Wa ct stt K d rc rs Q pc L (.int x :: .int i :: .ref a :: st) μ := by
  intro p l e s m args below meth c R B0 mc ms Z adr0 μ0 hC hd1 hdl hmc hms hE H locs cells slots ls adr hR hX hlo hc hs1 hls hL1 hS
  have hla : live μ a := lvv_hd (lvv_tl (lvv_tl hS)) _ rfl
  obtain ⟨cell, g1, g2, g3, ⟨a1, a2, a3, a4⟩, -⟩ := hR.arr hla hs (by omega)
  refine W.bast hC.1 hC.2.1 g1 a1 g2 (vp_in_sz hi a2) rfl rfl hd fun H1 ee zz oq => ?_
  have hM : Mu1 μ (setI μ a i.toNatClampNeg (vp_nar .byte x)) a i.toNatClampNeg := Mu1.i (fun b => hR.2.2.2.2.1 a _ b hla)
  have hR' := hR.aset (H' := H1) (w := .int (vp_nar .byte x)) hs (by omega) hM hla hrw g1 (congrArg Value.int ((gI_rw hrw _).trans up2_self)) (by rw [ee]; rfl) zz oq
  exact kk p l e s m args below meth c R B0 mc ms Z adr0 μ0 hC hd1 hdl hmc hms hE _ (locs ++ [⟨adr a, i.toNatClampNeg⟩]) cells slots ls adr hR' hX (fun z hz => (List.mem_append.mp hz).elim (hlo z) (fun h => by
      rw [List.mem_singleton.mp h]
      exact (hR.2.2.2.1 a hla).1 hrw)) hc hs1 hls hL1 (lvv_tl (lvv_tl (lvv_tl hS)))
theorem Wa.zast {ct : List CE} {stt : List SE} {K : KM} {d rc rs : Nat} {Q : Option Value → Mu → Prop} {pc : Nat} {L : List (Nat × Value)} {st : List Value} {μ : Mu} {a n : Nat} {i : Int32} {x : Int32}
    (hd : decode (kB K) pc = .ok (.bastore, 1)) (hrw : rwN a) (hs : mS μ a = (5, n)) (hi : vp_in i n)
    (kk : Wa ct stt K d rc rs Q (pc + 1) L st (setI μ a i.toNatClampNeg (vp_nar .boolean x))) : Wa ct stt K d rc rs Q pc L (.int x :: .int i :: .ref a :: st) μ := by
  intro p l e s m args below meth c R B0 mc ms Z adr0 μ0 hC hd1 hdl hmc hms hE H locs cells slots ls adr hR hX hlo hc hs1 hls hL1 hS
  have hla : live μ a := lvv_hd (lvv_tl (lvv_tl hS)) _ rfl
  obtain ⟨cell, g1, g2, g3, ⟨a1, a2, a3, a4⟩, -⟩ := hR.arr hla hs (by omega)
  refine W.zast hC.1 hC.2.1 g1 a1 g2 (vp_in_sz hi a2) rfl rfl hd fun H1 ee zz oq => ?_
  have hM : Mu1 μ (setI μ a i.toNatClampNeg (vp_nar .boolean x)) a i.toNatClampNeg := Mu1.i (fun b => hR.2.2.2.2.1 a _ b hla)
  have hR' := hR.aset (H' := H1) (w := .int (vp_nar .boolean x)) hs (by omega) hM hla hrw g1 (congrArg Value.int ((gI_rw hrw _).trans up2_self)) (by rw [ee]; rfl) zz oq
  exact kk p l e s m args below meth c R B0 mc ms Z adr0 μ0 hC hd1 hdl hmc hms hE _ (locs ++ [⟨adr a, i.toNatClampNeg⟩]) cells slots ls adr hR' hX (fun z hz => (List.mem_append.mp hz).elim (hlo z) (fun h => by
      rw [List.mem_singleton.mp h]
      exact (hR.2.2.2.1 a hla).1 hrw)) hc hs1 hls hL1 (lvv_tl (lvv_tl (lvv_tl hS)))
theorem assign_self (vm : Vm) (c : ClassId) : vm.assignable c c = true := by
  show vm.assignableAux (255 + 1) c c = true
  rw [Vm.assignableAux]
  simp
theorem tagTy_obj {ct : List CE} {t : Nat} {q : CE} (hq : ct[t]? = some q) : tagTy ct (6 + t) = .object q.1 := by
  unfold tagTy
  rw [if_neg (by omega), if_neg (by omega), if_neg (by omega), if_neg (by omega), Nat.add_sub_cancel_left, hq]
theorem Wa.aast {ct : List CE} {stt : List SE} {K : KM} {d rc rs : Nat} {Q : Option Value → Mu → Prop} {pc : Nat} {L : List (Nat × Value)} {st : List Value} {μ : Mu} {a n t b : Nat} {i : Int32} {q : CE}
    (hd : decode (kB K) pc = .ok (.aastore, 1)) (hq : ct[t]? = some q) (hrw : rwN a) (hs : mS μ a = (6 + t, n)) (hi : vp_in i n) (hb : mS μ b = (1, t))
    (kk : Wa ct stt K d rc rs Q (pc + 1) L st (setR μ a i.toNatClampNeg b)) : Wa ct stt K d rc rs Q pc L (.ref b :: .int i :: .ref a :: st) μ := by
  intro p l e s m args below meth c R B0 mc ms Z adr0 μ0 hC hd1 hdl hmc hms hE H locs cells slots ls adr hR hX hlo hc hs1 hls hL1 hS
  have hla : live μ a := lvv_hd (lvv_tl (lvv_tl hS)) _ rfl
  have hlb : live μ b := lvv_hd hS _ rfl
  obtain ⟨cell, g1, g2, g3, ⟨a1, a2, a3, a4⟩, g5⟩ := hR.arr hla hs (by omega)
  obtain ⟨cA, q1, q2, q3⟩ := g5 hrw
  rw [tagTy_obj hq] at q2 q3
  obtain ⟨⟨kA, comp, k1, k2, k3, -⟩, -⟩ := q3
  obtain ⟨cb, b1, b2, b3, b4, b5, -⟩ := hR.2.1 b hlb
  obtain ⟨q', f1, f2⟩ := b5 (by rw [hb])
  rw [hb] at f1
  obtain rfl : q' = q := Option.some.inj (f1.symm.trans hq)
  obtain rfl : comp = cb.cls := Option.some.inj (k3.symm.trans f2.1)
  obtain ⟨kC, hkC, -⟩ := Vm.findClass_spec f2.1
  have hcl : cell.cls = cA := by rw [q1]; rfl
  refine W.aast hC.1 hC.2.1 g1 (fun q h => by rw [g3 hrw] at h; cases h) g2 (by rw [hcl]; exact k1) k2 rfl hkC ⟨fun z => hi (Or.inl z), Nat.lt_of_lt_of_le (vp_in_lt hi) a2⟩ b1 (fun q h => by rw [h] at b3; cases b3) hkC (assign_self _ _) rfl rfl hd fun H1 ee zz oq => ?_
  have hM : Mu1 μ (setR μ a i.toNatClampNeg b) a i.toNatClampNeg := Mu1.r hrw hlb
  have hR' := hR.aset (H' := H1) (w := .ref (adr b)) hs (by omega) hM hla hrw g1 (tyv_ref (by rw [tagTy_obj hq]; rfl) ((gR_rw hrw _).trans up2_self)) ee zz oq
  exact kk p l e s m args below meth c R B0 mc ms Z adr0 μ0 hC hd1 hdl hmc hms hE _ (locs ++ [⟨adr a, i.toNatClampNeg⟩]) cells slots ls adr hR' hX (fun z hz => (List.mem_append.mp hz).elim (hlo z) (fun h => by
      rw [List.mem_singleton.mp h]
      exact (hR.2.2.2.1 a hla).1 hrw)) hc hs1 hls hL1 (lvv_tl (lvv_tl (lvv_tl hS)))
/-! making cells -/
def mkA (μ : Mu) (a : Nat) (sh : Nat × Nat) : Mu := (up1 (mS μ) a sh, fun b k => if b = a then 0 else mI μ b k, fun b k => if b = a then 0 else mL μ b k, fun b k => if b = a then none else mR μ b k)
theorem alloc_S {μ : Mu} {a : Nat} {sh : Nat × Nat} : mS (mkA μ a sh) a = sh := if_pos rfl
theorem alloc_Sne {μ : Mu} {a b : Nat} {sh : Nat × Nat} (h : b ≠ a) : mS (mkA μ a sh) b = mS μ b := if_neg h
theorem Rel.alloc {ct : List CE} {stt : List SE} {B0 : Nat} {adr : Nat → Nat} {μ : Mu} {U : State} {H H' : Heap} {a : Nat} {sh : Nat × Nat} {cell : Cell} (h : Rel ct stt B0 adr μ U H) (ha : mS μ a = (0, 0)) (hrw : rwN a) (hsh : sh.1 ≠ 0)
    (e1 : H'[H.size]? = some cell) (e2 : H'.size = H.size + 1) (e3 : ∀ q, q < H.size → H'[q]? = H[q]?) (hx : cellIs ct (up1 adr a H.size) (mkA μ a sh) U a cell) :
    Rel ct stt B0 (up1 adr a H.size) (mkA μ a sh) U H' ∧ Ext adr μ (up1 adr a H.size) (mkA μ a sh) := by
  obtain ⟨r1, r2, r3, r4, r5, r6, r7⟩ := h
  have hna : ∀ b, live μ b → b ≠ a := fun b hb e => by
    subst e
    exact hb (by rw [ha])
  have hlt : ∀ b, live μ b → adr b < H.size := fun b hb => by
    obtain ⟨c0, g, -⟩ := r2 b hb
    exact (Array.getElem?_eq_some_iff.mp g).1
  have hlv : ∀ b, live μ b → live (mkA μ a sh) b := fun b hb => by
    unfold live
    rw [alloc_Sne (hna b hb)]
    exact hb
  have hlv' : ∀ b, live (mkA μ a sh) b → b = a ∨ live μ b := fun b hb => by
    by_cases h : b = a
    · exact Or.inl h
    · right
      unfold live at hb
      rw [alloc_Sne h] at hb
      exact hb
  have had : ∀ b, live μ b → up1 adr a H.size b = adr b := fun b hb => if_neg (hna b hb)
  have haa : up1 adr a H.size a = H.size := if_pos rfl
  refine ⟨⟨by omega, fun b hb => ?_, fun b c hb hc wb wc he => ?_, fun b hb => ⟨fun hw => ?_, fun hw => ?_⟩, fun b k c hb hk => ?_, fun q hq => ?_, ?_⟩, fun b hb => ⟨hlv b hb, had b hb⟩⟩
  · rcases hlv' b hb with rfl | hb'
    · exact ⟨cell, by rw [haa]; exact e1, hx⟩
    · obtain ⟨c0, g1, g2⟩ := r2 b hb'
      refine ⟨c0, by rw [had b hb', e3 _ (hlt b hb')]; exact g1, g2.congr (alloc_Sne (hna b hb')) (fun k => if_neg (hna b hb')) (fun k => if_neg (hna b hb')) (fun k => if_neg (hna b hb')) (fun k c hc => had c (r5 b k c hb' hc))⟩
  · rcases hlv' b hb with rfl | hb' <;> rcases hlv' c hc with rfl | hc'
    · rfl
    · rw [haa, had c hc'] at he
      have := hlt c hc'
      omega
    · rw [haa, had b hb'] at he
      have := hlt b hb'
      omega
    · rw [had b hb', had c hc'] at he
      exact r3 b c hb' hc' wb wc he
  · rcases hlv' b hb with rfl | hb'
    · rw [haa]; exact r1
    · rw [had b hb']; exact (r4 b hb').1 hw
  · rcases hlv' b hb with rfl | hb'
    · exact absurd hrw hw
    · rw [had b hb']; exact (r4 b hb').2 hw
  · by_cases hba : b = a
    · subst hba
      rw [gR_rw hrw, show mR (mkA μ b sh) b k = none from if_pos rfl] at hk
      cases hk
    · rw [gR_congr (show mR (mkA μ a sh) b k = mR μ b k from if_neg hba)] at hk
      exact hlv c (r5 b k c ((hlv' b hb).resolve_left hba) hk)
  · obtain ⟨g1, cf, kf, fi, f, x, cl, q1, q2, q3, q4, q5, q6, q7, q8⟩ := r6 q hq
    refine ⟨fun b hb => hlv b (g1 b hb), cf, kf, fi, f, x, cl, q1, q2, q3, q4, ?_, q6, ?_, q8⟩
    · rw [e3 x (by omega)]; exact q5
    · rw [cv_ext (μ := μ) (μ' := mkA μ a sh) (fun b hb => ⟨hlv b hb, had b hb⟩) g1]; exact q7
  · exact SQ.kept r7 (fun x hx _ => e3 x hx)
theorem tyv_new {adr : Nat → Nat} {μ : Mu} {a k : Nat} {sh : Nat × Nat} {ty : FieldType} (hrw : rwN a) (h : ty ≠ .float ∧ ty ≠ .double) : tyv adr (mkA μ a sh) a k ty = defaultValue ty := by
  have h1 : gI (mkA μ a sh) a k = 0 := (gI_rw hrw k).trans (if_pos rfl)
  have h2 : mL (mkA μ a sh) a k = 0 := if_pos rfl
  have h3 : gR (mkA μ a sh) a k = none := (gR_rw hrw k).trans (if_pos rfl)
  cases ty <;> simp_all [tyv, rv, defaultValue]
theorem lvv_alloc {adr adr' : Nat → Nat} {μ μ' : Mu} (hX : Ext adr μ adr' μ') {v : Value} (h : lvv μ v) : lvv μ' v := fun b hb => (hX b (h b hb)).1
theorem cvs_ext {adr adr' : Nat → Nat} {μ μ' : Mu} (hX : Ext adr μ adr' μ') {st : List Value} (h : ∀ v ∈ st, lvv μ v) : cvs adr' st = cvs adr st := List.map_congr_left fun v hv => cv_ext hX (h v hv)
theorem cvL_ext {adr adr' : Nat → Nat} {μ μ' : Mu} (hX : Ext adr μ adr' μ') {L : List (Nat × Value)} (h : ∀ q ∈ L, lvv μ q.2) : cvL adr' L = cvL adr L := List.map_congr_left fun q hq => by rw [cv_ext hX (h q hq)]
theorem Wa.newarr {ct : List CE} {stt : List SE} {K : KM} {d rc rs : Nat} {Q : Option Value → Mu → Prop} {pc : Nat} {L : List (Nat × Value)} {st : List Value} {μ : Mu} {atype : ArrayType} {n : Int32} (a t N : Nat)
    (hd : decode (kB K) pc = .ok (.newarray atype, 2)) (hw : Cond.arrayClass (newarray.typeOf atype) ∈ tb) (hty : newarray.typeOf atype = tagTy ct t) (ht : 2 ≤ t ∧ t ≤ 5) (hn : ¬ n < 0) (hN : n.toNatClampNeg = N) (hbytes : N * componentBytes (newarray.typeOf atype) ≤ 536870912) (hrc : 1 ≤ rc) (hrs : N ≤ rs) (ha : mS μ a = (0, 0)) (hrw : rwN a)
    (kk : Wa ct stt K d (rc - 1) (rs - N) Q (pc + 2) L (.ref a :: st) (mkA μ a (t, N))) : Wa ct stt K d rc rs Q pc L (.int n :: st) μ := by
  intro p l e s m args below meth c R B0 mc ms Z adr0 μ0 hC hd1 hdl hmc hms hE H locs cells slots ls adr hR hX hlo hc hs1 hls hL1 hS
  refine va_newaK hC.1 hC.2.1 (hC.2.2.2.2.2.1 _ hw) rfl hd rfl hn hN hbytes (by omega) (by omega) rfl fun H1 cA e1 z1 o1 hAr hNm => ?_
  have hp : tagTy ct t ≠ .float ∧ tagTy ct t ≠ .double ∧ (∀ C, tagTy ct t ≠ .object C) := by
    unfold tagTy
    rcases (show t = 2 ∨ t = 3 ∨ t = 4 ∨ t = 5 by omega) with rfl | rfl | rfl | rfl <;> simp
  have hRA : va_RA s cA (tagTy ct t) := by
    rw [← hty]
    cases atype <;> exact hNm
  have hRB : va_RB s cA (tagTy ct t) := by
    unfold tagTy
    rcases (show t = 2 ∨ t = 3 ∨ t = 4 ∨ t = 5 by omega) with rfl | rfl | rfl | rfl <;> trivial
  have hX1 : arrX s (tagTy ct t) N (fun j => tyv (up1 adr a H.size) (mkA μ a (t, N)) a j (tagTy ct t)) (arrV cA N (fun _ => defaultValue (newarray.typeOf atype))) := by
    refine ⟨cA, ?_, by rw [← hty]; exact hAr, hRA, hRB⟩
    congr 1
    funext j
    rw [tyv_new hrw ⟨hp.1, hp.2.1⟩, hty]
  have hcell : cellIs ct (up1 adr a H.size) (mkA μ a (t, N)) s a (arrV cA N (fun _ => defaultValue (newarray.typeOf atype))) := by
    refine ⟨fun h => (by cases h), rfl, fun _ => rfl, fun h => ?_, fun _ => ?_⟩
    · rw [alloc_S] at h
      exact absurd h (by show ¬ t = 1; omega)
    · rw [alloc_S]
      exact ⟨hX1.arrAt, fun _ => hX1⟩
  obtain ⟨hR', hX'⟩ := hR.alloc (sh := (t, N)) ha hrw (by show t ≠ 0; omega) e1 z1 o1 hcell
  have hkk := kk p l e s m args below meth c R B0 mc ms Z adr0 μ0 hC hd1 hdl hmc hms hE H1 locs (cells + 1) (slots + N) ls _ hR' (hX.trans hX') hlo (by omega) (by omega) (by rw [cvL_ext hX' hL1]; exact hls) (fun z hz => lvv_alloc hX' (hL1 z hz)) (lvv_cons (lvv_ref (by unfold live; rw [alloc_S]; show t ≠ 0; omega)) (fun z hz => lvv_alloc hX' (lvv_tl hS z hz)))
  rw [cvs_cons, cvs_ext hX' (lvv_tl hS), show cv (up1 adr a H.size) (.ref a) = .ref H.size from congrArg Value.ref (if_pos rfl)] at hkk
  exact hkk
theorem Wa.anew {ct : List CE} {stt : List SE} {K : KM} {d rc rs : Nat} {Q : Option Value → Mu → Prop} {pc : Nat} {L : List (Nat × Value)} {st : List Value} {μ : Mu} {n : Int32} {index : Nat} {q : CE} (a t N : Nat)
    (hd : decode (kB K) pc = .ok (.anewarray index, 3)) (hq : ct[t]? = some q) (hw : Cond.classLink (kO K) index q.1 ∈ tb) (hw2 : Cond.arrayOver (.object q.1) ∈ tb) (hn : ¬ n < 0) (hN : n.toNatClampNeg = N) (hbytes : N * 4 ≤ 536870912) (hrc : 1 ≤ rc) (hrs : N ≤ rs) (ha : mS μ a = (0, 0)) (hrw : rwN a)
    (kk : Wa ct stt K d (rc - 1) (rs - N) Q (pc + 3) L (.ref a :: st) (mkA μ a (6 + t, N))) : Wa ct stt K d rc rs Q pc L (.int n :: st) μ := by
  intro p l e s m args below meth c R B0 mc ms Z adr0 μ0 hC hd1 hdl hmc hms hE H locs cells slots ls adr hR hX hlo hc hs1 hls hL1 hS
  subst hN
  refine W.anew hC.1 hC.2.1 hC.2.2.2.2.1 (hC.2.2.2.2.2.1 _ hw) (hC.2.2.2.2.2.1 _ hw2) rfl hd rfl hn hbytes (by omega) (by omega) fun cA kA comp f1 f2 f3 f4 => ?_
  generalize hH1 : H.push ({ cls := cA, slots := Array.replicate n.toNatClampNeg .null, vm := .none } : Cell) = H1
  have z1 : H1.size = H.size + 1 := by rw [← hH1, Array.size_push]
  have e1 : H1[H.size]? = some (arrV cA n.toNatClampNeg (fun _ => .null)) := by rw [← hH1, Array.getElem?_push_size, ← arrV_new]
  have o1 : ∀ q : Nat, q < H.size → H1[q]? = H[q]? := fun q hq => by rw [← hH1, Array.getElem?_push, if_neg (Nat.ne_of_lt hq)]
  have hAr : ArrOfT s cA (.object q.1) := fun N z => ⟨(fun k h => by cases h), kA, f2, comp, f3⟩
  have ety := tagTy_obj hq
  have hX1 : arrX s (tagTy ct (6 + t)) n.toNatClampNeg (fun j => tyv (up1 adr a H.size) (mkA μ a (6 + t, n.toNatClampNeg)) a j (tagTy ct (6 + t))) (arrV cA n.toNatClampNeg (fun _ => .null)) := by
    rw [ety]
    refine ⟨cA, ?_, hAr, ⟨kA, comp, f2, f3, f4, f1⟩, trivial⟩
    congr 1
    funext j
    rw [tyv_new hrw ⟨fun h => (by cases h), fun h => (by cases h)⟩]
    rfl
  have hcell : cellIs ct (up1 adr a H.size) (mkA μ a (6 + t, n.toNatClampNeg)) s a (arrV cA n.toNatClampNeg (fun _ => .null)) := by
    refine ⟨fun h => (by cases h), rfl, fun _ => rfl, fun h => ?_, fun _ => ?_⟩
    · rw [alloc_S] at h
      exact absurd h (by show ¬ 6 + t = 1; omega)
    · rw [alloc_S]
      exact ⟨hX1.arrAt, fun _ => hX1⟩
  obtain ⟨hR', hX'⟩ := hR.alloc (sh := (6 + t, n.toNatClampNeg)) ha hrw (by show 6 + t ≠ 0; omega) e1 z1 o1 hcell
  have hkk := kk p l e s m args below meth c R B0 mc ms Z adr0 μ0 hC hd1 hdl hmc hms hE H1 locs (cells + 1) (slots + n.toNatClampNeg) ls _ hR' (hX.trans hX') hlo (by omega) (by omega) (by rw [cvL_ext hX' hL1]; exact hls) (fun z hz => lvv_alloc hX' (hL1 z hz)) (lvv_cons (lvv_ref (by unfold live; rw [alloc_S]; show 6 + t ≠ 0; omega)) (fun z hz => lvv_alloc hX' (lvv_tl hS z hz)))
  rw [cvs_cons, cvs_ext hX' (lvv_tl hS), show cv (up1 adr a H.size) (.ref a) = .ref H.size from congrArg Value.ref (if_pos rfl)] at hkk
  exact hkk
theorem Wa.new {ct : List CE} {stt : List SE} {K : KM} {d rc rs : Nat} {Q : Option Value → Mu → Prop} {pc : Nat} {L : List (Nat × Value)} {st : List Value} {μ : Mu} {index : Nat} {q : CE} (a ci : Nat)
    (hd : decode (kB K) pc = .ok (.new index, 3)) (hq : ct[ci]? = some q) (hok : CEok q) (hfd : ∀ k, k < q.2.2.1 → q.2.2.2 k ≠ .float ∧ q.2.2.2 k ≠ .double) (hw : Cond.classLink (kO K) index q.1 ∈ tb) (hrc : 1 ≤ rc) (hrs : q.2.2.1 ≤ rs) (ha : mS μ a = (0, 0)) (hrw : rwN a)
    (kk : Wa ct stt K d (rc - 1) (rs - q.2.2.1) Q (pc + 3) L (.ref a :: st) (mkA μ a (1, ci))) : Wa ct stt K d rc rs Q pc L st μ := by
  intro p l e s m args below meth c R B0 mc ms Z adr0 μ0 hC hd1 hdl hmc hms hE H locs cells slots ls adr hR hX hlo hc hs1 hls hL1 hS
  obtain ⟨hin, hinst, hty, hnm, hini⟩ := hok
  have hts : ∀ w ∈ u_ws q.1 q.2.1 q.2.2.1, w.before args s = true := fun w h => hC.2.2.2.2.2.1 w (hin w h)
  obtain ⟨cC, kC0, hfc, -⟩ := Cond.instantiable_spec (hC.2.2.2.2.2.1 _ hinst)
  refine W.newcK hC.1 hC.2.1 hC.2.2.2.2.1 (hC.2.2.2.2.2.1 _ hw) (hC.2.2.2.2.2.1 _ hinst) (hC.2.2.2.2.2.1 _ hini) rfl hd (by omega) (by omega) hfc rfl fun H1 kC hkC e1 z1 o1 => ?_
  have hcell : cellIs ct (up1 adr a H.size) (mkA μ a (1, ci)) s a (blank cC kC) := by
    refine ⟨fun h => (by cases h), rfl, fun _ => rfl, fun _ => ⟨q, by rw [alloc_S]; exact hq, hfc, fun k hk => ?_⟩, fun h => ?_⟩
    rotate_left
    · rw [alloc_S] at h
      exact absurd h (by show ¬ 2 ≤ 1; omega)
    obtain ⟨i, cf, kf, fi, fd, i1, i2⟩ := u_found (u_lays hts (fun w h => h) hk)
    have hf := u_facts hfc hkC (u_lays hts (fun w h => h) hk) i1
    refine ⟨i, ⟨cf, kf, fi, fd, i1, i2, hf.1⟩, ?_⟩
    show (blank cC kC).slots[i]? = some (tyv _ _ a k (q.2.2.2 k))
    rw [tyv_new hrw (hfd k hk), ← i2]
    have h3 := hf.2.2
    rw [(State.fieldFound?_type i1 (hty k hk)).2] at h3
    exact k2_blank h3
  obtain ⟨hR', hX'⟩ := hR.alloc (sh := (1, ci)) ha hrw (by show 1 ≠ 0; omega) e1 z1 o1 hcell
  have hkk := kk p l e s m args below meth c R B0 mc ms Z adr0 μ0 hC hd1 hdl hmc hms hE H1 locs (cells + 1) (slots + q.2.2.1) ls _ hR' (hX.trans hX') hlo (by omega) (by omega) (by rw [cvL_ext hX' hL1]; exact hls) (fun z hz => lvv_alloc hX' (hL1 z hz)) (lvv_cons (lvv_ref (by unfold live; rw [alloc_S]; show 1 ≠ 0; omega)) (fun z hz => lvv_alloc hX' (hS z hz)))
  rw [cvs_cons, cvs_ext hX' hS, show cv (up1 adr a H.size) (.ref a) = .ref H.size from congrArg Value.ref (if_pos rfl)] at hkk
  exact hkk
