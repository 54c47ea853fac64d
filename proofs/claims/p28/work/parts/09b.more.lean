/-! more rows: null, inherited and private members of a builder, super, arrays of arrays, clones -/
theorem Wa.null {ct : List CE} {stt : List SE} {K : KM} {d rc rs : Nat} {Q : Option Value → Mu → Prop} {pc : Nat} {L : List (Nat × Value)} {st : List Value} {μ : Mu} (hd : decode (kB K) pc = .ok (.aconst_null, 1)) (k : Wa ct stt K d rc rs Q (pc + 1) L (.null :: st) μ) : Wa ct stt K d rc rs Q pc L st μ :=
  Wa.mv (fun p l e R s m args below meth c H locs cells slots Z ls adr C hls k => lv_null C.1 C.2.1 hd k) (fun hS _ => lvv_cons lvv_null hS) k
theorem Wa.ifnonnull {ct : List CE} {stt : List SE} {K : KM} {d rc rs : Nat} {Q : Option Value → Mu → Prop} {pc : Nat} {L : List (Nat × Value)} {st : List Value} {μ : Mu} {a : Nat} {off : Int} (tgt : Nat) (hd : decode (kB K) pc = .ok (.ifnonnull off, 3)) (ht : (pc : Int) + off = (tgt : Int)) (k : Wa ct stt K d rc rs Q tgt L st μ) : Wa ct stt K d rc rs Q pc L (.ref a :: st) μ :=
  Wa.mv (fun p l e R s m args below meth c H locs cells slots Z ls adr C hls k => lv_ifnonnull C.1 C.2.1 hd ht k) (fun hS _ => lvv_tl hS) k
/-! a method that the receiver's class has from above it, by a word or because it is private -/
def NLinkO (own : String) (index : Nat) (C : String) (x y : MethodName) (n : Nat) : Prop := Cond.methodLink own index x ∈ tb ∧ Cond.sameMethod x.cls x.cls x.name x.desc ∈ tb ∧ Cond.selects C x y ∈ tb ∧ Cond.instanceMethod x ∈ tb ∧ Cond.instanceMethod y ∈ tb ∧ ((x.cls ≠ "java/lang/invoke/MethodHandle" ∧ x.cls ≠ "java/lang/invoke/VarHandle") ∧ (parseMethodDescriptor x.desc).map (fun d => d.parameters.length) = some n) ∧ ∃ b m r, Cond.code x b m r ∈ tb
abbrev NLink (K : KM) (index : Nat) (C : String) (x y : MethodName) (n : Nat) : Prop := NLinkO (kO K) index C x y n
theorem sel_priv {C : String} {y : MethodName} {s : State} {args : Array Value} {n : Nat} (hy : y.cls ≠ "java/lang/invoke/MethodHandle" ∧ y.cls ≠ "java/lang/invoke/VarHandle")
    (hins : (Cond.instantiable C n).before args s = true) (hpriv : (Cond.privateMethod y).before args s = true) (hinst : (Cond.instanceMethod y).before args s = true) (hsame : (Cond.sameMethod y.cls y.cls y.name y.desc).before args s = true) :
    (Cond.selects C y y).before args s = true := by
  obtain ⟨c, k, hc, hk, hord, hniab, -, -⟩ := Cond.instantiable_spec hins
  obtain ⟨mk, methM, hnamed, hmethM, -, -⟩ := Cond.instanceMethod_spec hinst
  have hfound : s.methodFound? y.cls y.name y.desc = some mk := State.methodFound?_of_named hnamed hy
  have hsel : selectMethod {} s.vm c mk = .method mk := selectMethod_private hmethM (Cond.privateMethod_at hpriv mk methM hnamed hmethM)
  obtain ⟨cn, ck, r1, hcn, hck, hni, hf, hn1⟩ := Cond.sameMethod_found hsame
  have hcls : mk.cls = cn := Option.some.inj ((findClass_of_methodNamed hnamed).symm.trans hcn)
  simp only [Cond.before, Cond.holds, Cond.value, hc, hfound, hnamed, hsel, hcls, hck]
  simp
  exact hni
theorem Wa.callN {ct : List CE} {stt : List SE} {K : KM} {d rc rs : Nat} {Q : Option Value → Mu → Prop} {pc : Nat} {L : List (Nat × Value)} {st : List Value} {μ : Mu} {K' : KM} {n index b : Nat} {q : CE} {x : MethodName} {As st0 : List Value} (ci d' rc' rs' : Nat) {Q' : Option Value → Mu → Prop}
    (hd : decode (kB K) pc = .ok (.invokevirtual index, 3)) (hM : MOK K' n) (hlk : NLink K index q.1 x (kY K') n) (hq : ct[ci]? = some q) (hst : st0 = As.reverse ++ .ref b :: st) (hn : As.length = n) (hcat : (st.map fun v => v.category).sum ≤ 8) (hdd : d' + 1 ≤ d) (hrc : rc' ≤ rc) (hrs : rs' ≤ rs) (hs : mS μ b = (1, ci))
    (hcall : Call ct stt K' d' rc' rs' (.ref b :: As) μ Q')
    (kk : ∀ (r : Option Value) (μ' : Mu), Q' r μ' → Wa ct stt K d (rc - rc') (rs - rs') Q (pc + 3) L (r.toList ++ st) μ') : Wa ct stt K d rc rs Q pc L st0 μ := by
  subst hst
  intro p l e s m args below meth c R B0 mc ms Z adr0 μ0 hC hd1 hdl hmc hms hE H locs cells slots ls adr hR hX hlo hc hs1 hls hL1 hS
  have hSA : ∀ v ∈ Value.ref b :: As, lvv μ v := fun v hv => (List.mem_cons.mp hv).elim (fun e => hS v (by rw [e]; simp)) (fun h => hS v (by simp [h]))
  have hS2 : ∀ v ∈ st, lvv μ v := fun v hv => hS v (by simp [hv])
  obtain ⟨cell, g1, g2, g3, g4, g5, -⟩ := hR.2.1 b (hSA _ List.mem_cons_self _ rfl)
  obtain ⟨q', f1, f2⟩ := g5 (by rw [hs])
  rw [hs] at f1
  obtain rfl : q' = q := Option.some.inj (f1.symm.trans hq)
  have hb := (⟨rfl, rfl, by show d' + 1 ≤ R.frames; omega, by show 8 + ((kL K') + 11) + 48 * d' ≤ R.locals; have := hM.2.2.2.2; omega, wsK_moves hM hC.2.2.2.2.2.1, List.mem_cons_self⟩ : (rmK d' rc' rs').cells = rc' ∧ (rmK d' rc' rs').slots = rs' ∧ (rmK d' rc' rs').frames + 1 ≤ R.frames ∧ 8 + ((kL K') + 11) + (rmK d' rc' rs').locals ≤ R.locals ∧ (∀ w ∈ wsK K', ∀ (a' : Array Value) (U : State), s.WarmedH U.vm → w.before a' U = true) ∧ Cond.code (kY K') (kB K') (kL K') (kR K') ∈ wsK K')
  have hW := hC.2.2.2.2.2.1
  have hpre : PreV s H q'.1 (adr b) (CPre ct stt B0 adr (.ref b :: As) μ) (cvs adr As) := ⟨CPre.blind, ⟨cell, g1, g3, f2.1⟩, fun U hU hWU => ⟨rfl, by rw [hU]; exact hR.moved hWU.alike, hE.1.pass hX hWU⟩⟩
  have hst2 : cvs adr (As.reverse ++ .ref b :: st) = (cvs adr As).reverse ++ .ref (adr b) :: cvs adr st := by simp [cvs, cv]
  have hlen : (cvs adr As).length = n := by rw [← hn]; exact List.length_map _
  have hcat2 : 2 * (F0 m pc ls (cvs adr (As.reverse ++ .ref b :: st))).monitorRoom + ((cvs adr st).map fun v => v.category).sum ≤ 8 := by rw [cvs_cat]; exact lv_room hcat
  have hroom : cells + rc' ≤ R.cells ∧ slots + rs' ≤ R.slots := ⟨by omega, by omega⟩
  have hfix : CallFix p m c (kB K) (kL K) s args tb (kO K) := ⟨hC.1, hC.2.1, hC.2.2.1, hC.2.2.2.2.1, hW⟩
  obtain ⟨h1, h2, h3, h4, h5, ⟨h6, h7⟩, bb, bm, br, h8⟩ := hlk
  refine Wa.after hC hd1 hdl hmc hms hE hX hlo hc hs1 hls hL1 hS2 hrc hrs (va_runU (n := n) hfix (hcall l B0 adr hE.2.2.2 hSA) ⟨hb, hW _ hM.1, hW _ hM.2.1, h6, fun sig h => ?_, hW _ h1, hW _ h2, va_Decl.of (hW _ h4) (hW _ h8), hW _ h3, hW _ h5⟩ hpre rfl hlen hls.1 hst2 hcat2 hd hroom) kk
  rw [h] at h7
  exact (Option.some.inj h7).symm
/-! super.m(..) -/
def XLinkO (own : String) (index : Nat) (y : MethodName) : Prop := Cond.methodLink own index y ∈ tb ∧ Cond.sameMethod y.cls y.cls y.name y.desc ∈ tb ∧ Cond.superclass own y.cls ∈ tb ∧ Cond.instanceMethod y ∈ tb ∧ y.name ≠ "<init>"
abbrev XLink (K : KM) (index : Nat) (y : MethodName) : Prop := XLinkO (kO K) index y
theorem Wa.callX {ct : List CE} {stt : List SE} {K : KM} {d rc rs : Nat} {Q : Option Value → Mu → Prop} {pc : Nat} {L : List (Nat × Value)} {st : List Value} {μ : Mu} {K' : KM} {n index b : Nat} {q : CE} {As st0 : List Value} (ci d' rc' rs' : Nat) {Q' : Option Value → Mu → Prop}
    (hd : decode (kB K) pc = .ok (.invokespecial index, 3)) (hM : MOK K' n) (hlk : XLink K index (kY K')) (hq : ct[ci]? = some q) (hok : CEok q) (hst : st0 = As.reverse ++ .ref b :: st) (hn : As.length = n) (hcat : (st.map fun v => v.category).sum ≤ 8) (hdd : d' + 1 ≤ d) (hrc : rc' ≤ rc) (hrs : rs' ≤ rs) (hs : mS μ b = (1, ci))
    (hcall : Call ct stt K' d' rc' rs' (.ref b :: As) μ Q')
    (kk : ∀ (r : Option Value) (μ' : Mu), Q' r μ' → Wa ct stt K d (rc - rc') (rs - rs') Q (pc + 3) L (r.toList ++ st) μ') : Wa ct stt K d rc rs Q pc L st0 μ := by
  subst hst
  intro p l e s m args below meth c R B0 mc ms Z adr0 μ0 hC hd1 hdl hmc hms hE H locs cells slots ls adr hR hX hlo hc hs1 hls hL1 hS
  have hSA : ∀ v ∈ Value.ref b :: As, lvv μ v := fun v hv => (List.mem_cons.mp hv).elim (fun e => hS v (by rw [e]; simp)) (fun h => hS v (by simp [h]))
  have hS2 : ∀ v ∈ st, lvv μ v := fun v hv => hS v (by simp [hv])
  obtain ⟨cell, g1, g2, g3, g4, g5, -⟩ := hR.2.1 b (hSA _ List.mem_cons_self _ rfl)
  obtain ⟨q', f1, f2⟩ := g5 (by rw [hs])
  rw [hs] at f1
  obtain rfl : q' = q := Option.some.inj (f1.symm.trans hq)
  have hb := (⟨rfl, rfl, by show d' + 1 ≤ R.frames; omega, by show 8 + ((kL K') + 11) + 48 * d' ≤ R.locals; have := hM.2.2.2.2; omega, wsK_moves hM hC.2.2.2.2.2.1, List.mem_cons_self⟩ : (rmK d' rc' rs').cells = rc' ∧ (rmK d' rc' rs').slots = rs' ∧ (rmK d' rc' rs').frames + 1 ≤ R.frames ∧ 8 + ((kL K') + 11) + (rmK d' rc' rs').locals ≤ R.locals ∧ (∀ w ∈ wsK K', ∀ (a' : Array Value) (U : State), s.WarmedH U.vm → w.before a' U = true) ∧ Cond.code (kY K') (kB K') (kL K') (kR K') ∈ wsK K')
  have hW := hC.2.2.2.2.2.1
  have hpre : PreV s H q'.1 (adr b) (CPre ct stt B0 adr (.ref b :: As) μ) (cvs adr As) := ⟨CPre.blind, ⟨cell, g1, g3, f2.1⟩, fun U hU hWU => ⟨rfl, by rw [hU]; exact hR.moved hWU.alike, hE.1.pass hX hWU⟩⟩
  have hst2 : cvs adr (As.reverse ++ .ref b :: st) = (cvs adr As).reverse ++ .ref (adr b) :: cvs adr st := by simp [cvs, cv]
  have hlen : (cvs adr As).length = n := by rw [← hn]; exact List.length_map _
  have hcat2 : 2 * (F0 m pc ls (cvs adr (As.reverse ++ .ref b :: st))).monitorRoom + ((cvs adr st).map fun v => v.category).sum ≤ 8 := by rw [cvs_cat]; exact lv_room hcat
  have hroom : cells + rc' ≤ R.cells ∧ slots + rs' ≤ R.slots := ⟨by omega, by omega⟩
  have hfix : CallFix p m c (kB K) (kL K) s args tb (kO K) := ⟨hC.1, hC.2.1, hC.2.2.1, hC.2.2.2.2.1, hW⟩
  obtain ⟨h1, h2, h3, h4, h5⟩ := hlk
  obtain ⟨cC, hat⟩ := classAt_of (hW _ hok.2.1)
  exact Wa.after hC hd1 hdl hmc hms hE hX hlo hc hs1 hls hL1 hS2 hrc hrs (va_runSU (n := n) hat hfix (hcall l B0 adr hE.2.2.2 hSA) ⟨hb, hW _ h1, hW _ h2, hW _ h3, hW _ h4, hW _ hM.2.1, hW _ hM.1, h5, hM.len⟩ hpre rfl hlen hls.1 hst2 hcat2 hd hroom) kk
/-! arrays of arrays: the tags 40 (of ints) and 41 (of booleans) -/
def elT (t : Nat) : FieldType := if t = 40 then .int else .boolean
def elS (t : Nat) : Nat := if t = 40 then 2 else 5
theorem tagTy_arr {ct : List CE} {t : Nat} (hl : ct.length ≤ 30) (ht : t = 40 ∨ t = 41) : tagTy ct t = .array (elT t) := by
  unfold tagTy
  have hn : ct[t - 6]? = none := List.getElem?_eq_none (by omega)
  rw [if_neg (by omega), if_neg (by omega), if_neg (by omega), if_neg (by omega), hn]
  rcases ht with rfl | rfl <;> rfl
theorem tagTy_el {ct : List CE} {t : Nat} (ht : t = 40 ∨ t = 41) : tagTy ct (elS t) = elT t := by
  rcases ht with rfl | rfl <;> rfl
theorem Wa.aaldA {ct : List CE} {stt : List SE} {K : KM} {d rc rs : Nat} {Q : Option Value → Mu → Prop} {pc : Nat} {L : List (Nat × Value)} {st : List Value} {μ : Mu} {a n t b : Nat} {i : Int32}
    (hl : ct.length ≤ 30) (hd : decode (kB K) pc = .ok (.aaload, 1)) (ht : t = 40 ∨ t = 41) (hs : mS μ a = (t, n)) (hi : vp_in i n) (hb : gR μ a i.toNatClampNeg = some b)
    (kk : Wa ct stt K d rc rs Q (pc + 1) L (.ref b :: st) μ) : Wa ct stt K d rc rs Q pc L (.int i :: .ref a :: st) μ := by
  intro p l e s m args below meth c R B0 mc ms Z adr0 μ0 hC hd1 hdl hmc hms hE H locs cells slots ls adr hR hX hlo hc hs1 hls hL1 hS
  obtain ⟨cell, g1, g2, g3, ⟨a1, a2, a3, a4⟩, -⟩ := hR.arr (lvv_hd (lvv_tl hS) _ rfl) hs (by omega)
  have ety : tagTy ct t = .array (elT t) := tagTy_arr hl ht
  have e2 := a4 _ (vp_in_lt hi)
  rw [ety] at a1
  have e3 : cell.slots[i.toNatClampNeg]? = some (.ref (adr b)) := e2.trans (congrArg some (tyv_ref (by rw [ety]; rfl) hb))
  exact W.aald hC.1 hC.2.1 g1 a1 rfl g2 (vp_in_sz hi a2) e3 rfl rfl hd (kk p l e s m args below meth c R B0 mc ms Z adr0 μ0 hC hd1 hdl hmc hms hE H locs cells slots ls adr hR hX hlo hc hs1 hls hL1 (lvv_cons (lvv_ref (hR.2.2.2.2.1 _ _ _ (lvv_hd (lvv_tl hS) _ rfl) hb)) (lvv_tl (lvv_tl hS))))
theorem Wa.aastA {ct : List CE} {stt : List SE} {K : KM} {d rc rs : Nat} {Q : Option Value → Mu → Prop} {pc : Nat} {L : List (Nat × Value)} {st : List Value} {μ : Mu} {a n t b n' : Nat} {i : Int32}
    (hl : ct.length ≤ 30) (hd : decode (kB K) pc = .ok (.aastore, 1)) (ht : t = 40 ∨ t = 41) (hrw : rwN a) (hs : mS μ a = (t, n)) (hi : vp_in i n) (hrb : rwN b) (hb : mS μ b = (elS t, n'))
    (kk : Wa ct stt K d rc rs Q (pc + 1) L st (setR μ a i.toNatClampNeg b)) : Wa ct stt K d rc rs Q pc L (.ref b :: .int i :: .ref a :: st) μ := by
  intro p l e s m args below meth c R B0 mc ms Z adr0 μ0 hC hd1 hdl hmc hms hE H locs cells slots ls adr hR hX hlo hc hs1 hls hL1 hS
  have hla : live μ a := lvv_hd (lvv_tl (lvv_tl hS)) _ rfl
  have hlb : live μ b := lvv_hd hS _ rfl
  have hel : 2 ≤ elS t := by rcases ht with rfl | rfl <;> decide
  obtain ⟨cell, g1, g2, g3, ⟨a1, a2, a3, a4⟩, g5⟩ := hR.arr hla hs (by omega)
  obtain ⟨cA, q1, q2, -, q3⟩ := g5 hrw
  rw [tagTy_arr hl ht] at q2 q3
  obtain ⟨kA, comp, k1, k2, k3⟩ := q3
  obtain ⟨cb, b1, b2, b3, -, b5⟩ := hR.arr hlb hb hel
  obtain ⟨cB, r1, r2, r3, -⟩ := b5 hrb
  rw [tagTy_el ht] at r2 r3
  have r4 : s.vm.findClass (FieldType.array (elT t)).toString = some cB := by rcases ht with rfl | rfl <;> exact r3
  obtain rfl : comp = cB := Option.some.inj (k3.symm.trans r4)
  obtain ⟨-, kB', hkB', -⟩ := r2 0 (fun _ => .null)
  have hcl : cell.cls = cA := by rw [q1]; rfl
  have hcb : cb.cls = comp := by rw [r1]; rfl
  have hkC : s.vm.classes[comp]? = some kB' := hkB'
  refine W.aast hC.1 hC.2.1 g1 (fun q h => by rw [g3 hrw] at h; cases h) g2 (by rw [hcl]; exact k1) k2 rfl hkC ⟨fun z => hi (Or.inl z), Nat.lt_of_lt_of_le (vp_in_lt hi) a2⟩ b1 (fun q h => by rw [b3 hrb] at h; cases h) (by rw [hcb]; exact hkC) (by rw [hcb]; exact assign_self _ _) rfl rfl hd fun H1 ee zz oq => ?_
  have hM : Mu1 μ (setR μ a i.toNatClampNeg b) a i.toNatClampNeg := Mu1.r hrw hlb
  have hR' := hR.aset (H' := H1) (w := .ref (adr b)) hs (by omega) hM hla hrw g1 (tyv_ref (by rw [tagTy_arr hl ht]; rfl) ((gR_rw hrw _).trans up2_self)) ee zz oq
  exact kk p l e s m args below meth c R B0 mc ms Z adr0 μ0 hC hd1 hdl hmc hms hE _ (locs ++ [⟨adr a, i.toNatClampNeg⟩]) cells slots ls adr hR' hX (fun z hz => (List.mem_append.mp hz).elim (hlo z) (fun h => by
      rw [List.mem_singleton.mp h]
      exact (hR.2.2.2.1 a hla).1 hrw)) hc hs1 hls hL1 (lvv_tl (lvv_tl (lvv_tl hS)))
theorem Wa.anewA {ct : List CE} {stt : List SE} {K : KM} {d rc rs : Nat} {Q : Option Value → Mu → Prop} {pc : Nat} {L : List (Nat × Value)} {st : List Value} {μ : Mu} {n : Int32} {index : Nat} (a t N : Nat) (hl : ct.length ≤ 30)
    (hd : decode (kB K) pc = .ok (.anewarray index, 3)) (ht : t = 40 ∨ t = 41) (hw : Cond.classLink (kO K) index (FieldType.array (elT t)).toString ∈ tb) (hw2 : Cond.arrayOver (.array (elT t)) ∈ tb) (hn : ¬ n < 0) (hN : n.toNatClampNeg = N) (hbytes : N * 4 ≤ 536870912) (hrc : 1 ≤ rc) (hrs : N ≤ rs) (ha : mS μ a = (0, 0)) (hrw : rwN a)
    (kk : Wa ct stt K d (rc - 1) (rs - N) Q (pc + 3) L (.ref a :: st) (mkA μ a (t, N))) : Wa ct stt K d rc rs Q pc L (.int n :: st) μ := by
  intro p l e s m args below meth c R B0 mc ms Z adr0 μ0 hC hd1 hdl hmc hms hE H locs cells slots ls adr hR hX hlo hc hs1 hls hL1 hS
  subst hN
  refine W.anewA hC.1 hC.2.1 hC.2.2.2.2.1 (hC.2.2.2.2.2.1 _ hw) (hC.2.2.2.2.2.1 _ hw2) rfl hd rfl hn hbytes (by omega) (by omega) fun cA kA comp f1 f2 f3 f4 => ?_
  generalize hH1 : H.push ({ cls := cA, slots := Array.replicate n.toNatClampNeg .null, vm := .none } : Cell) = H1
  have z1 : H1.size = H.size + 1 := by rw [← hH1, Array.size_push]
  have e1 : H1[H.size]? = some (arrV cA n.toNatClampNeg (fun _ => .null)) := by rw [← hH1, Array.getElem?_push_size, ← arrV_new]
  have o1 : ∀ q : Nat, q < H.size → H1[q]? = H[q]? := fun q hq => by rw [← hH1, Array.getElem?_push, if_neg (Nat.ne_of_lt hq)]
  have hAr : ArrOfT s cA (.array (elT t)) := fun N z => ⟨(fun k h => by cases h), kA, f2, comp, f3⟩
  have ety := tagTy_arr (ct := ct) hl ht
  have hX1 : arrX s (tagTy ct t) n.toNatClampNeg (fun j => tyv (up1 adr a H.size) (mkA μ a (t, n.toNatClampNeg)) a j (tagTy ct t)) (arrV cA n.toNatClampNeg (fun _ => .null)) := by
    rw [ety]
    refine ⟨cA, ?_, hAr, f1, kA, comp, f2, f3, f4⟩
    congr 1
    funext j
    rw [tyv_new hrw ⟨fun h => (by cases h), fun h => (by cases h)⟩]
    rfl
  have hcell : cellIs ct (up1 adr a H.size) (mkA μ a (t, n.toNatClampNeg)) s a (arrV cA n.toNatClampNeg (fun _ => .null)) := by
    refine ⟨fun h => (by cases h), rfl, fun _ => rfl, fun h => ?_, fun _ => ?_⟩
    · rw [alloc_S] at h
      exact absurd h (by show ¬ t = 1; omega)
    · rw [alloc_S]
      exact ⟨hX1.arrAt, fun _ => hX1⟩
  obtain ⟨hR', hX'⟩ := hR.alloc (sh := (t, n.toNatClampNeg)) ha hrw (by show t ≠ 0; omega) e1 z1 o1 hcell
  have hkk := kk p l e s m args below meth c R B0 mc ms Z adr0 μ0 hC hd1 hdl hmc hms hE H1 locs (cells + 1) (slots + n.toNatClampNeg) ls _ hR' (hX.trans hX') hlo (by omega) (by omega) (by rw [cvL_ext hX' hL1]; exact hls) (fun z hz => lvv_alloc hX' (hL1 z hz)) (lvv_cons (lvv_ref (by unfold live; rw [alloc_S]; show t ≠ 0; omega)) (fun z hz => lvv_alloc hX' (lvv_tl hS z hz)))
  rw [cvs_cons, cvs_ext hX' (lvv_tl hS), show cv (up1 adr a H.size) (.ref a) = .ref H.size from congrArg Value.ref (if_pos rfl)] at hkk
  exact hkk
/-! a cell with contents, at a free name -/
theorem Rel.allocG {ct : List CE} {stt : List SE} {B0 : Nat} {adr : Nat → Nat} {μ μ' : Mu} {U : State} {H H' : Heap} {a : Nat} {sh : Nat × Nat} {cell : Cell} (h : Rel ct stt B0 adr μ U H) (ha : mS μ a = (0, 0)) (hrw : rwN a) (hsh : sh.1 ≠ 0)
    (hSa : mS μ' a = sh) (hSn : ∀ b, b ≠ a → mS μ' b = mS μ b) (hIn : ∀ b, b ≠ a → ∀ k, mI μ' b k = mI μ b k) (hLn : ∀ b, b ≠ a → ∀ k, mL μ' b k = mL μ b k) (hRn : ∀ b, b ≠ a → ∀ k, mR μ' b k = mR μ b k) (hRa : ∀ k, mR μ' a k = none)
    (e1 : H'[H.size]? = some cell) (e2 : H'.size = H.size + 1) (e3 : ∀ q, q < H.size → H'[q]? = H[q]?) (hx : cellIs ct (up1 adr a H.size) μ' U a cell) :
    Rel ct stt B0 (up1 adr a H.size) μ' U H' ∧ Ext adr μ (up1 adr a H.size) μ' := by
  obtain ⟨r1, r2, r3, r4, r5, r6, r7⟩ := h
  have hna : ∀ b, live μ b → b ≠ a := fun b hb e => by
    subst e
    exact hb (by rw [ha])
  have hlt : ∀ b, live μ b → adr b < H.size := fun b hb => by
    obtain ⟨c0, g, -⟩ := r2 b hb
    exact (Array.getElem?_eq_some_iff.mp g).1
  have hlv : ∀ b, live μ b → live μ' b := fun b hb => by
    unfold live
    rw [hSn b (hna b hb)]
    exact hb
  have hlv' : ∀ b, live μ' b → b = a ∨ live μ b := fun b hb => by
    by_cases h : b = a
    · exact Or.inl h
    · right
      unfold live at hb
      rw [hSn b h] at hb
      exact hb
  have had : ∀ b, live μ b → up1 adr a H.size b = adr b := fun b hb => if_neg (hna b hb)
  have haa : up1 adr a H.size a = H.size := if_pos rfl
  refine ⟨⟨by omega, fun b hb => ?_, fun b c hb hc wb wc he => ?_, fun b hb => ⟨fun hw => ?_, fun hw => ?_⟩, fun b k c hb hk => ?_, fun q hq => ?_, ?_⟩, fun b hb => ⟨hlv b hb, had b hb⟩⟩
  · rcases hlv' b hb with rfl | hb'
    · exact ⟨cell, by rw [haa]; exact e1, hx⟩
    · obtain ⟨c0, g1, g2⟩ := r2 b hb'
      refine ⟨c0, by rw [had b hb', e3 _ (hlt b hb')]; exact g1, g2.congr (hSn b (hna b hb')) (hIn b (hna b hb')) (hLn b (hna b hb')) (hRn b (hna b hb')) (fun k c hc => had c (r5 b k c hb' hc))⟩
  · rcases hlv' b hb with rfl | hb' <;> rcases hlv' c hc with rfl | hc'
    · rfl
    · rw [haa, had c hc'] at he
      have := hlt c hc'
      omega
    · rw [haa, had b hb'] at he
      have := hlt b hb'
      omega
    · rw [had b hb', had c hc'] at he
      exact r3 b c hb' hc' wb wc he
  · rcases hlv' b hb with rfl | hb'
    · rw [haa]; exact r1
    · rw [had b hb']; exact (r4 b hb').1 hw
  · rcases hlv' b hb with rfl | hb'
    · exact absurd hrw hw
    · rw [had b hb']; exact (r4 b hb').2 hw
  · by_cases hba : b = a
    · subst hba
      rw [gR_rw hrw, hRa] at hk
      cases hk
    · rw [gR_congr (hRn b hba k)] at hk
      exact hlv c (r5 b k c ((hlv' b hb).resolve_left hba) hk)
  · obtain ⟨g1, cf, kf, fi, f, x, cl, q1, q2, q3, q4, q5, q6, q7, q8⟩ := r6 q hq
    refine ⟨fun b hb => hlv b (g1 b hb), cf, kf, fi, f, x, cl, q1, q2, q3, q4, ?_, q6, ?_, q8⟩
    · rw [e3 x (by omega)]; exact q5
    · rw [cv_ext (μ := μ) (μ' := μ') (fun b hb => ⟨hlv b hb, had b hb⟩) g1]; exact q7
  · exact SQ.kept r7 (fun x hx _ => e3 x hx)
/-! a clone of a row of numbers -/
def clA (μ : Mu) (a0 a : Nat) : Mu := (up1 (mS μ) a (mS μ a0), fun b k => if b = a then mI μ a0 k else mI μ b k, fun b k => if b = a then mL μ a0 k else mL μ b k, fun b k => if b = a then none else mR μ b k)
theorem Wa.clone {ct : List CE} {stt : List SE} {K : KM} {d rc rs : Nat} {Q : Option Value → Mu → Prop} {pc : Nat} {L : List (Nat × Value)} {st : List Value} {μ : Mu} {index a0 n t : Nat} {ad : String} (a : Nat)
    (hd : decode (kB K) pc = .ok (.invokevirtual index, 3)) (h1 : Cond.methodLink (kO K) index ⟨ad, "clone", "()Ljava/lang/Object;"⟩ ∈ tb) (h2 : Cond.sameMethod ad "java/lang/Object" "clone" "()Ljava/lang/Object;" ∈ tb)
    (h3 : Cond.native ⟨"java/lang/Object", "clone", "()Ljava/lang/Object;"⟩ ∈ tb) (h4 : Cond.instanceMethod ⟨"java/lang/Object", "clone", "()Ljava/lang/Object;"⟩ ∈ tb) (h5 : Cond.selects ad ⟨ad, "clone", "()Ljava/lang/Object;"⟩ ⟨"java/lang/Object", "clone", "()Ljava/lang/Object;"⟩ ∈ tb) (h6 : Cond.castable ad "java/lang/Cloneable" ∈ xws)
    (had : (t = 4 ∧ ad = "[B") ∨ (t = 5 ∧ ad = "[Z")) (hw0 : rwN a0) (hs0 : mS μ a0 = (t, n)) (hfit : ∀ k, k < n → fits (if t = 4 then .byte else .boolean) (.int (mI μ a0 k)) = true)
    (hcat : (st.map fun v => v.category).sum ≤ 8) (hdd : 1 ≤ d) (hrc : 1 ≤ rc) (hrs : n ≤ rs) (ha : mS μ a = (0, 0)) (hrw : rwN a)
    (kk : Wa ct stt K d (rc - 1) (rs - n) Q (pc + 3) L (.ref a :: st) (clA μ a0 a)) : Wa ct stt K d rc rs Q pc L (.ref a0 :: st) μ := by
  intro p l e s m args below meth c R B0 mc ms Z adr0 μ0 hC hd1 hdl hmc hms hE H locs cells slots ls adr hR hX hlo hc hs1 hls hL1 hS
  have hla0 : live μ a0 := lvv_hd hS _ rfl
  have hW := hC.2.2.2.2.2.1
  have ety : tagTy ct t = (if t = 4 then .byte else .boolean) := by rcases had with ⟨rfl, -⟩ | ⟨rfl, -⟩ <;> rfl
  obtain ⟨cell, g1, g2, g3, -, g5⟩ := hR.arr hla0 hs0 (by omega)
  obtain ⟨cA, q1, q2, q3, q4⟩ := g5 hw0
  have hcl0 : cell.cls = cA := by rw [q1]; rfl
  have hsz : cell.slots.size = n := by rw [q1, arrV_size]
  have hvm0 := g3 hw0
  have hnm : s.vm.findClass ad = some cA := by rcases had with ⟨rfl, rfl⟩ | ⟨rfl, rfl⟩ <;> exact q3
  have hcast : (Cond.castable ad "java/lang/Cloneable").before args s = true := by
    have h7 := hE.1.2.2.1 _ h6
    exact xw_moves (Vm.Alike.refl _) rfl h7
  obtain ⟨c0, t0', f1, f2, f3⟩ := Cond.castable_spec hcast
  cases hnm.symm.trans f1
  intro T hT X
  have hcellT : T.heap[adr a0]? = some cell := by rw [hT]; exact g1
  obtain ⟨-, kA, hkA, comp, hkind⟩ := State.isArrayOf_alike X.warmed.alike (q2 0 (fun _ => .null))
  obtain ⟨-, kS, hkS, compS, hkindS⟩ := q2 0 (fun _ => .null)
  have hkA' : T.vm.classes[cA]? = some kA := hkA
  have hkS' : s.vm.classes[cA]? = some kS := hkS
  obtain ⟨vm', X', st2⟩ := X.cloneArray hC.1 hC.2.2.2.2.1 (hW _ h1) (hW _ h2) (hW _ h3) (hW _ h4) (hW _ h5) (a := adr a0) (cell := cell) hcellT (fun k h => by rw [hvm0] at h; cases h) g2 (by rw [hcl0]; exact hnm) f2 (by rw [hcl0]; exact f3)
    (fun i v hv => by
      have hlt : i < n := by rw [← hsz]; exact (Array.getElem?_eq_some_iff.mp hv).1
      have ev : v = .int (mI μ a0 i) := by
        rw [q1, arrV_read _ _ hlt] at hv
        rw [← Option.some.inj hv, ety]
        rcases had with ⟨rfl, -⟩ | ⟨rfl, -⟩ <;> exact congrArg Value.int (gI_rw hw0 i)
      rw [hcl0, ev]
      have := hfit i hlt
      rw [← ety] at this
      simpa [State.fitsSlot, State.slotType?, hkA', hkind] using this)
    (g := F0 m pc ls (cvs adr (.ref a0 :: st))) rfl (by rw [hC.2.2.1]; exact hls.1) rfl (by rw [hC.2.1]; exact hd) (by omega) (by
      show 2 * 0 + ((cvs adr st).map fun v => v.category).sum + 14 ≤ _
      rw [cvs_cat]
      omega) (by omega) (by rw [hsz]; omega) (hloader := by rw [hcl0]; exact Vm.clonesLoader_of_array hkS' hkindS)
  have hcellE : ({ cls := cell.cls, slots := cell.slots } : Cell) = cell := by
    rw [q1]; rfl
  rw [hcellE, hsz] at X'
  rw [hcellE] at st2
  generalize hH1 : H.push cell = H1
  have z1 : H1.size = H.size + 1 := by rw [← hH1, Array.size_push]
  have e1 : H1[H.size]? = some cell := by rw [← hH1, Array.getElem?_push_size]
  have o1 : ∀ q : Nat, q < H.size → H1[q]? = H[q]? := fun q hq => by rw [← hH1, Array.getElem?_push, if_neg (Nat.ne_of_lt hq)]
  have hSa : mS (clA μ a0 a) a = (t, n) := (if_pos rfl : up1 (mS μ) a (mS μ a0) a = mS μ a0).trans hs0
  have hX1 : arrX s (tagTy ct t) n (fun j => tyv (up1 adr a H.size) (clA μ a0 a) a j (tagTy ct t)) cell := by
    refine ⟨cA, ?_, q2, q3, q4⟩
    rw [q1]
    congr 1
    funext j
    rw [ety]
    have h8 : gI (clA μ a0 a) a j = gI μ a0 j := by
      rw [gI_rw hrw, gI_rw hw0]
      exact if_pos rfl
    rcases had with ⟨rfl, -⟩ | ⟨rfl, -⟩ <;> exact congrArg Value.int h8.symm
  have hcell : cellIs ct (up1 adr a H.size) (clA μ a0 a) s a cell := by
    refine ⟨g2, by rw [hvm0]; rfl, fun _ => hvm0, fun h => ?_, fun _ => ?_⟩
    · rw [hSa] at h
      exact absurd h (by show ¬ t = 1; omega)
    · rw [hSa]
      exact ⟨hX1.arrAt, fun _ => hX1⟩
  obtain ⟨hR', hX'⟩ := hR.allocG (μ' := clA μ a0 a) (sh := (t, n)) ha hrw (by show t ≠ 0; omega) hSa (fun b hb => if_neg hb) (fun b hb k => if_neg hb) (fun b hb k => if_neg hb) (fun b hb k => if_neg hb) (fun k => if_pos rfl) e1 z1 o1 hcell
  have hkk := kk p l e s m args below meth c R B0 mc ms Z adr0 μ0 hC hd1 hdl hmc hms hE H1 locs (cells + 1) (slots + n) ls _ hR' (hX.trans hX') hlo (by omega) (by omega) (by rw [cvL_ext hX' hL1]; exact hls) (fun z hz => lvv_alloc hX' (hL1 z hz)) (lvv_cons (lvv_ref (by unfold live; rw [hSa]; show t ≠ 0; omega)) (fun z hz => lvv_alloc hX' (lvv_tl hS z hz)))
  rw [cvs_cons, cvs_ext hX' (lvv_tl hS), show cv (up1 adr a H.size) (.ref a) = .ref H.size from congrArg Value.ref (if_pos rfl)] at hkk
  have hheap : ((T.setVm vm').pushCell cell).heap = H1 := by rw [← hH1, ← hT]; rfl
  obtain ⟨t2, a1, b1⟩ := hkk _ hheap X'
  refine ⟨t2, st2 t2 ?_, b1⟩
  have eT : T.heap.size = H.size := by rw [hT]
  rw [eT]
  exact a1
/-- a cast of a row of numbers to its own class -/
theorem Wa.castA {ct : List CE} {stt : List SE} {K : KM} {d rc rs : Nat} {Q : Option Value → Mu → Prop} {pc : Nat} {L : List (Nat × Value)} {st : List Value} {μ : Mu} {index a n t : Nat} {ad : String}
    (hd : decode (kB K) pc = .ok (.checkcast index, 3)) (h1 : Cond.classLink (kO K) index ad ∈ tb) (had : (t = 4 ∧ ad = "[B") ∨ (t = 5 ∧ ad = "[Z")) (hw : rwN a) (hs : mS μ a = (t, n))
    (kk : Wa ct stt K d rc rs Q (pc + 3) L (.ref a :: st) μ) : Wa ct stt K d rc rs Q pc L (.ref a :: st) μ := by
  intro p l e s m args below meth c R B0 mc ms Z adr0 μ0 hC hd1 hdl hmc hms hE H locs cells slots ls adr hR hX hlo hc hs1 hls hL1 hS
  have hW := hC.2.2.2.2.2.1
  obtain ⟨cell, g1, g2, g3, -, g5⟩ := hR.arr (lvv_hd hS _ rfl) hs (by omega)
  obtain ⟨cA, q1, q2, q3, q4⟩ := g5 hw
  have hcl0 : cell.cls = cA := by rw [q1]; rfl
  have hvm0 := g3 hw
  have hnm : s.vm.findClass ad = some cA := by rcases had with ⟨rfl, rfl⟩ | ⟨rfl, rfl⟩ <;> exact q3
  have hkk := kk p l e s m args below meth c R B0 mc ms Z adr0 μ0 hC hd1 hdl hmc hms hE H locs cells slots ls adr hR hX hlo hc hs1 hls hL1 hS
  intro T hT X
  obtain ⟨vm', X', st2⟩ := X.checkcastYes hC.1 hC.2.2.2.2.1 (hW _ h1) (by rw [hT]; exact g1) (by rw [hvm0]; rfl) hnm (by rw [hcl0]; exact va_asg _ _) (g := F0 m pc ls (cvs adr (.ref a :: st))) rfl rfl (by rw [hC.2.1]; exact hd)
  obtain ⟨t2, a1, b1⟩ := hkk (T.setVm vm') hT X'
  exact ⟨t2, st2 t2 a1, b1⟩
/-! a cell is looked at as one of a shorter class -/
def reS (μ : Mu) (a : Nat) (sh : Nat × Nat) : Mu := (up1 (mS μ) a sh, mI μ, mL μ, mR μ)
theorem Rel.reshape {ct : List CE} {stt : List SE} {B0 : Nat} {adr : Nat → Nat} {μ : Mu} {U : State} {H : Heap} {a ci cj : Nat} {q q' : CE} (h : Rel ct stt B0 adr μ U H) (hs : mS μ a = (1, ci)) (hq : ct[ci]? = some q) (hq' : ct[cj]? = some q') (h1 : q'.1 = q.1) (h2 : q'.2.2.1 ≤ q.2.2.1) (h3 : ∀ k, k < q'.2.2.1 → q'.2.1 k = q.2.1 k ∧ q'.2.2.2 k = q.2.2.2 k) : Rel ct stt B0 adr (reS μ a (1, cj)) U H ∧ Ext adr μ adr (reS μ a (1, cj)) := by
  obtain ⟨r1, r2, r3, r4, r5, r6, r7⟩ := h
  have hSa : mS (reS μ a (1, cj)) a = (1, cj) := if_pos rfl
  have hSn : ∀ b, b ≠ a → mS (reS μ a (1, cj)) b = mS μ b := fun b hb => if_neg hb
  have hlv : ∀ b, live (reS μ a (1, cj)) b ↔ live μ b := fun b => by
    by_cases hb : b = a
    · subst hb
      unfold live; rw [hSa, hs]
    · unfold live; rw [hSn b hb]
  refine ⟨⟨r1, fun b hb => ?_, fun b c hb hc => r3 b c ((hlv b).mp hb) ((hlv c).mp hc), fun b hb => r4 b ((hlv b).mp hb), fun b k c hb hk => (hlv c).mpr (r5 b k c ((hlv b).mp hb) hk), fun z hz => ?_, r7⟩, fun b hb => ⟨(hlv b).mpr hb, rfl⟩⟩
  · obtain ⟨cell, g1, g2⟩ := r2 b ((hlv b).mp hb)
    refine ⟨cell, g1, ?_⟩
    by_cases hba : b = a
    · subst hba
      obtain ⟨c1, c2, c3, c4, -⟩ := g2
      refine ⟨c1, c2, c3, fun _ => ?_, fun z => ?_⟩
      · obtain ⟨q0, f1, f2⟩ := c4 (by rw [hs])
        rw [hs] at f1
        obtain rfl : q0 = q := Option.some.inj (f1.symm.trans hq)
        refine ⟨q', by rw [hSa]; exact hq', by rw [h1]; exact f2.1, fun k hk => ?_⟩
        obtain ⟨i, i1, i2⟩ := f2.2 k (by omega)
        rw [(h3 k hk).1, (h3 k hk).2]
        exact ⟨i, i1, i2⟩
      · rw [hSa] at z
        exact absurd z (by show ¬ 2 ≤ 1; omega)
    · exact g2.congr (hSn b hba) (fun _ => rfl) (fun _ => rfl) (fun _ => rfl) (fun _ _ _ => rfl)
  · obtain ⟨g1, g2⟩ := r6 z hz
    exact ⟨fun b hb => (hlv b).mpr (g1 b hb), g2⟩
theorem Wa.reshape {ct : List CE} {stt : List SE} {K : KM} {d rc rs : Nat} {Q : Option Value → Mu → Prop} {pc : Nat} {L : List (Nat × Value)} {st : List Value} {μ : Mu} (a ci cj : Nat) {q q' : CE} (hs : mS μ a = (1, ci)) (hq : ct[ci]? = some q) (hq' : ct[cj]? = some q') (h1 : q'.1 = q.1) (h2 : q'.2.2.1 ≤ q.2.2.1) (h3 : ∀ k, k < q'.2.2.1 → q'.2.1 k = q.2.1 k ∧ q'.2.2.2 k = q.2.2.2 k)
    (kk : Wa ct stt K d rc rs Q pc L st (reS μ a (1, cj))) : Wa ct stt K d rc rs Q pc L st μ := by
  intro p l e s m args below meth c R B0 mc ms Z adr0 μ0 hC hd1 hdl hmc hms hE H locs cells slots ls adr hR hX hlo hc hs1 hls hL1 hS
  obtain ⟨hR', hX'⟩ := hR.reshape hs hq hq' h1 h2 h3
  exact kk p l e s m args below meth c R B0 mc ms Z adr0 μ0 hC hd1 hdl hmc hms hE H locs cells slots ls adr hR' (hX.trans hX') hlo hc hs1 hls (fun z hz => lvv_alloc hX' (hL1 z hz)) (fun z hz => lvv_alloc hX' (hS z hz))
