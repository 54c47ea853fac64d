/-! contracts and calls -/
theorem tyv_same (adr : Nat → Nat) (μ : Mu) (a k : Nat) (ty : FieldType) : tyv adr μ a k ty = tyv adr μ a k ty := rfl
theorem cellIs.moved {ct : List CE} {adr : Nat → Nat} {μ : Mu} {u U : State} {a : Nat} {cell : Cell} (hvm : u.vm.Alike U.vm) (h : cellIs ct adr μ u a cell) : cellIs ct adr μ U a cell := by
  obtain ⟨h1, h2, h3, h4, h5⟩ := h
  refine ⟨h1, h2, h3, fun z => ?_, fun z => ?_⟩
  · obtain ⟨q, f1, f2, f3⟩ := h4 z
    exact ⟨q, f1, by rw [hvm.findClass]; exact f2, fun k hk => by
      obtain ⟨i, i1, i2⟩ := f3 k hk
      exact ⟨i, slotIn_moved hvm i1, i2⟩⟩
  · obtain ⟨⟨a1, a2⟩, a3⟩ := h5 z
    refine ⟨⟨State.isArrayOf_alike hvm a1, a2⟩, fun w => ?_⟩
    obtain ⟨cA, q1, q2, q3⟩ := a3 w
    exact ⟨cA, q1, arrOfT_moved hvm q2, q3.1.moved hvm, q3.2.moved hvm⟩
theorem Rel.moved {ct : List CE} {stt : List SE} {B0 : Nat} {adr : Nat → Nat} {μ : Mu} {u U : State} {H : Heap} (hvm : u.vm.Alike U.vm) (h : Rel ct stt B0 adr μ u H) : Rel ct stt B0 adr μ U H := by
  obtain ⟨r1, r2, r3, r4, r5, r6, r7⟩ := h
  refine ⟨r1, fun a ha => ?_, r3, r4, r5, fun q hq => ?_, SQ.moved hvm r7⟩
  · obtain ⟨cell, g1, g2⟩ := r2 a ha
    exact ⟨cell, g1, g2.moved hvm⟩
  · obtain ⟨g1, cf, kf, fi, f, x, cell, q1, q2, q3, q4, q5⟩ := r6 q hq
    obtain ⟨k', hi', he⟩ := State.fieldFound?_setVm hvm q1
    exact ⟨g1, cf, k', fi, f, x, cell, hi', q2, by rw [he]; exact q3, by rw [he]; exact q4, q5⟩
def CPre (ct : List CE) (stt : List SE) (B0 : Nat) (adr : Nat → Nat) (args : List Value) (μ : Mu) : Array Value → State → Prop := fun a U => a = (cvs adr args).toArray ∧ Rel ct stt B0 adr μ U U.heap ∧ LitOK U adr μ
def CPost (ct : List CE) (stt : List SE) (B0 : Nat) (adr : Nat → Nat) (μ : Mu) (Q : Option Value → Mu → Prop) : Array Value → State → Outcome → State → Prop := fun _ _ o t =>
  ∃ (r : Option Value) (μ' : Mu) (adr' : Nat → Nat), o = .returned (r.map (cv adr')) ∧ Q r μ' ∧ (∀ v ∈ r.toList, lvv μ' v) ∧ Rel ct stt B0 adr' μ' t t.heap ∧ Ext adr μ adr' μ'
/-- the method, called with these values over this memory, returns with Q; d: how deep, rc and rs: what it may make -/
def Call (ct : List CE) (stt : List SE) (K : KM) (d rc rs : Nat) (args : List Value) (μ : Mu) (Q : Option Value → Mu → Prop) : Prop :=
  ∀ (l : Launch) (B0 : Nat) (adr : Nat → Nat), l.stackTraces = false → (∀ v ∈ args, lvv μ v) → Met l (kY K) (wsK K) (rmK d rc rs) (CPre ct stt B0 adr args μ) (CPost ct stt B0 adr μ Q) rc rs (fun q => B0 ≤ q)
theorem lv_args_cv (adr : Nat → Nat) : ∀ (vs : List Value) (i : Nat), lv_args i (cvs adr vs) = cvL adr (lv_args i vs)
  | [], _ => rfl
  | v :: vs, i => by
    show (i, cv adr v) :: lv_args _ (cvs adr vs) = (i, cv adr v) :: cvL adr (lv_args _ vs)
    rw [cv_cat, lv_args_cv adr vs]
theorem lg_sl_cv (adr : Nat → Nat) : ∀ (vs : List Value), (lg_sl (cvs adr vs)).length = (lg_sl vs).length
  | [] => rfl
  | v :: vs => by
    have := lg_sl_cv adr vs
    simp only [lg_sl, cvs, List.map_cons, List.flatMap_cons, List.length_append, cv_cat] at this ⊢
    rw [this]
    split <;> rfl
theorem lv_args_mem : ∀ (vs : List Value) (i : Nat) (q : Nat × Value), q ∈ lv_args i vs → q.2 ∈ vs
  | [], _, _, h => by cases h
  | v :: vs, i, q, h => by
    rcases List.mem_cons.mp h with rfl | h
    · exact List.mem_cons_self
    · exact List.mem_cons_of_mem _ (lv_args_mem vs _ q h)
theorem Call.of {ct : List CE} {stt : List SE} {K : KM} {d rc rs : Nat} {args : List Value} {μ : Mu} {Q : Option Value → Mu → Prop} {L : List (Nat × Value)} (hp : plainName (kY K).cls = true) (ho : (kO K) = (kY K).cls) (hL : lv_args 0 args = L) (hn : (lg_sl args).length ≤ (kL K)) (hT : K.2.2.2.2.2 = ([], []))
    (k : (∀ v ∈ args, lvv μ v) → Wa ct stt K d rc rs Q 0 L [] μ) : Call ct stt K d rc rs args μ Q := by
  intro l B0 adr hfl hargs
  subst hL
  refine Met.ofW (cc := (kB K)) (maxL := (kL K)) (ret := (kR K)) hp rfl ?_
  intro p e s m a below meth c s₁ B hml hv
  obtain ⟨rfl, hR, hLit⟩ := hv
  have hts := atoms_spec (ws := wsK K) B.pre
  have hC : Cx K p s m (cvs adr args).toArray meth c := ⟨B.exec, B.bytes, hml, B.returns, by rw [ho]; exact findClass_of_methodNamed B.named, fun w hw => hts w (List.mem_cons_of_mem _ hw), B.notSynchronized, fun h => (name_of_methodNamed B.named B.method).1.trans h, Or.inl (by unfold kH; rw [hT])⟩
  rw [lg_entry_eq]
  have hl := lv_entry (cvs adr args) (n := (kL K)) (by rw [lg_sl_cv]; exact hn)
  rw [lv_args_cv] at hl
  refine k hargs p l e s m _ below meth c (headSpec (wsK K) (rmK d rc rs)).room B0 rc rs _ adr μ hC (Nat.le_refl d) (Nat.le_refl _) (Nat.le_refl _) (Nat.le_refl _) ?_ s.heap [] 0 0 _ adr hR Ext.rf (fun _ h => by cases h) (by omega) (by omega) hl (fun q hq => hargs _ (lv_args_mem _ _ _ hq)) (fun _ h => by cases h)
  refine ⟨hLit, ?_, ⟨fun pc k μ' adr' H locs ls cells slots hk => (by unfold kT at hk; rw [hT] at hk; cases hk), hfl⟩⟩
  intro r μ' adr' H locs ls pc hQ hv hR' hX hlo hret
  have post : ∀ (o : Option Value), o = r.map (cv adr') → ∀ t : State, t.heap = H → s.WarmedH t.vm → CPost ct stt B0 adr μ Q (cvs adr args).toArray s (.returned o) t := fun o ho t ht hW => ⟨r, μ', adr', by rw [ho], hQ, hv, by rw [ht]; exact hR'.moved hW.alike, hX⟩
  have hlk := B.notSynchronized
  rcases hret with ⟨v, rfl, hd, ty, hty, hnar⟩ | ⟨v, rfl, hd, hty⟩ | ⟨v, rfl, hd, hty⟩ | ⟨v, rfl, hd, hCR⟩ | ⟨rfl, hd, hty⟩
  · exact W.zret B.exec B.bytes (B.returns.trans hty) hnar (post _ rfl) hlo hd hlk
  · exact W.lret B.exec B.bytes (B.returns.trans hty) (post _ rfl) hlo hd hlk
  · exact W.dret B.exec B.bytes (B.returns.trans hty) (post _ rfl) hlo hd hlk
  · rcases hCR with ⟨C, hty⟩ | ⟨C, hty⟩
    · exact W.aret B.exec B.bytes (B.returns.trans hty) (Or.inl ⟨_, rfl⟩) (Or.inr ⟨_, rfl⟩) (post _ rfl) hlo hd hlk
    · exact W.aret B.exec B.bytes (B.returns.trans hty) (Or.inr ⟨_, rfl⟩) (Or.inr ⟨_, rfl⟩) (post _ rfl) hlo hd hlk
  · exact W.vret B.exec B.bytes (B.returns.trans hty) (post _ rfl) hlo hd hlk
theorem Call.mono {ct : List CE} {stt : List SE} {K : KM} {d rc rs : Nat} {args : List Value} {μ : Mu} {Q Q' : Option Value → Mu → Prop} (h : Call ct stt K d rc rs args μ Q) (hq : ∀ r μ', Q r μ' → Q' r μ') : Call ct stt K d rc rs args μ Q' := by
  intro l B0 adr hfl ha p e h1 h2 h3 s m a below h4 h5 h6 h7
  obtain ⟨k, o, g1, g2, g3, ⟨r, μ', adr', e1, e2, e3⟩, g5⟩ := h l B0 adr hfl ha p e h1 h2 h3 s m a below h4 h5 h6 h7
  exact ⟨k, o, g1, g2, g3, ⟨r, μ', adr', e1, hq _ _ e2, e3⟩, g5⟩
/-- what the tables say of a method that is called with n parameters -/
def MOK (K : KM) (n : Nat) : Prop := Cond.code (kY K) (kB K) (kL K) (kR K) ∈ tb ∧ Cond.initialized (kY K).cls ∈ tb ∧ ((kY K).cls ≠ "java/lang/invoke/MethodHandle" ∧ (kY K).cls ≠ "java/lang/invoke/VarHandle") ∧ (parseMethodDescriptor (kY K).desc).map (fun d => d.parameters.length) = some n ∧ (kL K) ≤ 29
theorem wsK_moves {K' : KM} {n : Nat} (hM : MOK K' n) {s : State} {args : Array Value} (hts : ∀ w ∈ tb, w.before args s = true) : ∀ w ∈ wsK K', ∀ (a' : Array Value) (U : State), s.WarmedH U.vm → w.before a' U = true := by
  intro w hw a' U hW
  have hin : w ∈ tb := (List.mem_cons.mp hw).elim (fun e => e ▸ hM.1) id
  exact cGood_moves hW (tb_good hin).2 (hts w hin)
theorem MOK.len {K' : KM} {n : Nat} (hM : MOK K' n) : ∀ sig, parseMethodDescriptor (kY K').desc = some sig → n = sig.parameters.length := by
  intro sig h
  have h2 := hM.2.2.2.1
  rw [h] at h2
  exact (Option.some.inj h2).symm
theorem CPre.blind {ct : List CE} {stt : List SE} {B0 : Nat} {adr : Nat → Nat} {args : List Value} {μ : Mu} : FrameBlind (CPre ct stt B0 adr args μ) := fun a U g mk h => ⟨h.1, Rel.moved (u := U) (U := U.calling g mk a) (Vm.Alike.refl U.vm) h.2.1, LitOK.same (u := U) rfl h.2.2⟩
theorem cvs_cat (adr : Nat → Nat) (st : List Value) : ((cvs adr st).map fun v => v.category) = st.map fun v => v.category := by
  simp [cvs, Function.comp_def, cv_cat]
/-- behind a call -/
theorem Wa.after {ct : List CE} {stt : List SE} {K : KM} {d rc rs : Nat} {Q : Option Value → Mu → Prop} {pc : Nat} {L : List (Nat × Value)} {st : List Value} {μ : Mu} {rc' rs' : Nat} {Q' : Option Value → Mu → Prop} {a : Array Value} {st0 : List Value}
    {p : Program} {l : Launch} {e : Env} {s : State} {m : MethodId} {args : Array Value} {below : List Frame} {meth : Method} {c : Code} {R : Room} {B0 mc ms : Nat} {Z : State → Prop} {adr0 : Nat → Nat} {μ0 : Mu} {H : Heap} {locs : List Loc} {cells slots : Nat} {ls : Array Slot} {adr : Nat → Nat}
    (hC : Cx K p s m args meth c) (hd : d ≤ R.frames) (hdl : 48 * d ≤ R.locals) (hmc : mc ≤ R.cells) (hms : ms ≤ R.slots) (hE : EndOK ct stt K p l e R s m args below meth c B0 mc ms Z adr0 μ0 Q)
    (hX : Ext adr0 μ0 adr μ) (hlo : ∀ q ∈ locs, B0 ≤ q.base) (hc : cells + rc = mc) (hs1 : slots + rs = ms) (hls : lv_has ls (kL K) (cvL adr L)) (hL1 : ∀ q ∈ L, lvv μ q.2) (hS : ∀ v ∈ st, lvv μ v) (hrc : rc' ≤ rc) (hrs : rs' ≤ rs)
    (hr : va_Run p l e R s m args below meth c H locs cells slots rc' rs' (F0 m pc ls st0) (cvs adr st) (CPost ct stt B0 adr μ Q' a) (fun q => B0 ≤ q))
    (kk : ∀ (r : Option Value) (μ' : Mu), Q' r μ' → Wa ct stt K d (rc - rc') (rs - rs') Q (pc + 3) L (r.toList ++ st) μ') : W p l e R s m args below meth c H locs cells slots Z (F0 m pc ls st0) := by
  intro T hT X
  obtain ⟨v, st₀, t, T', Lo, h0, X', hLo, e1, e2, ⟨r, μ', adr', hv, hq, hvr, hR', hX'⟩, stp⟩ := hr T hT X
  have hv' : v = r.map (cv adr') := by injection hv
  subst hv'
  have hal : s.vm.Alike T'.vm := X'.warmed.alike
  have hR2 : Rel ct stt B0 adr' μ' s T'.heap := by
    rw [e1]
    refine Rel.moved ?_ hR'
    rw [← e2]
    exact hal.symm
  have hkk := kk r μ' hq p l e s m args below meth c R B0 mc ms Z adr0 μ0 hC hd hdl hmc hms hE T'.heap (locs ++ Lo) (cells + rc') (slots + rs') ls adr' hR2 (hX.trans hX') (fun z hz => (List.mem_append.mp hz).elim (hlo z) (hLo z)) (by omega) (by omega) (by rw [cvL_ext hX' hL1]; exact hls) (fun z hz => lvv_alloc hX' (hL1 z hz)) (fun z hz => (List.mem_append.mp hz).elim (hvr z) (fun h => lvv_alloc hX' (hS z h)))
  have hst : cvs adr' (r.toList ++ st) = (r.map (cv adr')).toList ++ cvs adr st := by
    rw [← cvs_ext hX' hS]
    cases r <;> simp [cvs]
  rw [hst] at hkk
  obtain ⟨t2, a1, b1⟩ := hkk T' rfl X'
  exact ⟨t2, stp t2 a1, b1⟩
/-- a virtual call's words: by the class itself or by a nest mate -/
def VLinkO (own : String) (index : Nat) (C : String) (y : MethodName) : Prop := (Cond.methodLink own index y ∈ tb ∨ ∃ host, Cond.methodLinkNest own index y host ∈ tb) ∧ Cond.instanceMethod y ∈ tb ∧ Cond.selects C y y ∈ tb
abbrev VLink (K : KM) (index : Nat) (C : String) (y : MethodName) : Prop := VLinkO (kO K) index C y
theorem Wa.callV {ct : List CE} {stt : List SE} {K : KM} {d rc rs : Nat} {Q : Option Value → Mu → Prop} {pc : Nat} {L : List (Nat × Value)} {st : List Value} {μ : Mu} {K' : KM} {n index b : Nat} {q : CE} {As st0 : List Value} (ci d' rc' rs' : Nat) {Q' : Option Value → Mu → Prop}
    (hd : decode (kB K) pc = .ok (.invokevirtual index, 3)) (hM : MOK K' n) (hlk : VLink K index q.1 (kY K')) (hq : ct[ci]? = some q) (hst : st0 = As.reverse ++ .ref b :: st) (hn : As.length = n) (hcat : (st.map fun v => v.category).sum ≤ 8) (hdd : d' + 1 ≤ d) (hrc : rc' ≤ rc) (hrs : rs' ≤ rs) (hs : mS μ b = (1, ci))
    (hcall : Call ct stt K' d' rc' rs' (.ref b :: As) μ Q')
    (kk : ∀ (r : Option Value) (μ' : Mu), Q' r μ' → Wa ct stt K d (rc - rc') (rs - rs') Q (pc + 3) L (r.toList ++ st) μ') : Wa ct stt K d rc rs Q pc L st0 μ := by
  subst hst
  intro p l e s m args below meth c R B0 mc ms Z adr0 μ0 hC hd1 hdl hmc hms hE H locs cells slots ls adr hR hX hlo hc hs1 hls hL1 hS
  have hSA : ∀ v ∈ Value.ref b :: As, lvv μ v := fun v hv => (List.mem_cons.mp hv).elim (fun e => hS v (by rw [e]; simp)) (fun h => hS v (by simp [h]))
  have hS2 : ∀ v ∈ st, lvv μ v := fun v hv => hS v (by simp [hv])
  obtain ⟨cell, g1, g2, g3, g4, g5, -⟩ := hR.2.1 b (hSA _ List.mem_cons_self _ rfl)
  obtain ⟨q', f1, f2⟩ := g5 (by rw [hs])
  rw [hs] at f1
  obtain rfl : q' = q := Option.some.inj (f1.symm.trans hq)
  have hb := (⟨rfl, rfl, by show d' + 1 ≤ R.frames; omega, by show 8 + ((kL K') + 11) + 48 * d' ≤ R.locals; have := hM.2.2.2.2; omega, wsK_moves hM hC.2.2.2.2.2.1, List.mem_cons_self⟩ : (rmK d' rc' rs').cells = rc' ∧ (rmK d' rc' rs').slots = rs' ∧ (rmK d' rc' rs').frames + 1 ≤ R.frames ∧ 8 + ((kL K') + 11) + (rmK d' rc' rs').locals ≤ R.locals ∧ (∀ w ∈ wsK K', ∀ (a' : Array Value) (U : State), s.WarmedH U.vm → w.before a' U = true) ∧ Cond.code (kY K') (kB K') (kL K') (kR K') ∈ wsK K')
  have hW := hC.2.2.2.2.2.1
  have hpre : PreV s H q'.1 (adr b) (CPre ct stt B0 adr (.ref b :: As) μ) (cvs adr As) := ⟨CPre.blind, ⟨cell, g1, g3, f2.1⟩, fun U hU hWU => ⟨rfl, by rw [hU]; exact hR.moved hWU.alike, hE.1.pass hX hWU⟩⟩
  have hst2 : cvs adr (As.reverse ++ .ref b :: st) = (cvs adr As).reverse ++ .ref (adr b) :: cvs adr st := by simp [cvs, cv]
  have hlen : (cvs adr As).length = n := by rw [← hn]; exact List.length_map _
  have hcat2 : 2 * (F0 m pc ls (cvs adr (As.reverse ++ .ref b :: st))).monitorRoom + ((cvs adr st).map fun v => v.category).sum ≤ 8 := by rw [cvs_cat]; exact lv_room hcat
  have hroom : cells + rc' ≤ R.cells ∧ slots + rs' ≤ R.slots := ⟨by omega, by omega⟩
  have hfix : CallFix p m c (kB K) (kL K) s args tb (kO K) := ⟨hC.1, hC.2.1, hC.2.2.1, hC.2.2.2.2.1, hW⟩
  rcases hlk with ⟨h1 | ⟨host, h1⟩, h2, h3⟩
  · exact Wa.after hC hd1 hdl hmc hms hE hX hlo hc hs1 hls hL1 hS2 hrc hrs (va_runV hfix (hcall l B0 adr hE.2.2.2 hSA) ⟨⟨hb.1, hb.2.1, hb.2.2.1, hb.2.2.2.1, hb.2.2.2.2.1, hb.2.2.2.2.2, hW _ hM.1, hW _ hM.2.1, hM.2.2.1, hM.len, hW _ h1⟩, hW _ h2, hW _ h3⟩ hpre rfl hlen hls.1 hst2 hcat2 hd hroom) kk
  · exact Wa.after hC hd1 hdl hmc hms hE hX hlo hc hs1 hls hL1 hS2 hrc hrs (va_runVN hfix (hcall l B0 adr hE.2.2.2 hSA) ⟨⟨hb, hW _ hM.1, hW _ hM.2.1, hM.2.2.1, hM.len, hW _ h1⟩, hW _ h2, hW _ h3⟩ hpre rfl hlen hls.1 hst2 hcat2 hd hroom) kk
/-- a static call's words -/
def SLinkO (own : String) (index : Nat) (y : MethodName) : Prop := (Cond.methodLink own index y ∈ tb ∨ ∃ host, Cond.methodLinkNest own index y host ∈ tb) ∧ Cond.static y ∈ tb
abbrev SLink (K : KM) (index : Nat) (y : MethodName) : Prop := SLinkO (kO K) index y
theorem Wa.callS {ct : List CE} {stt : List SE} {K : KM} {d rc rs : Nat} {Q : Option Value → Mu → Prop} {pc : Nat} {L : List (Nat × Value)} {st : List Value} {μ : Mu} {K' : KM} {n index : Nat} {As st0 : List Value} (d' rc' rs' : Nat) {Q' : Option Value → Mu → Prop}
    (hd : decode (kB K) pc = .ok (.invokestatic index, 3)) (hM : MOK K' n) (hlk : SLink K index (kY K')) (hst : st0 = As.reverse ++ st) (hn : As.length = n) (hcat : (st.map fun v => v.category).sum ≤ 8) (hdd : d' + 1 ≤ d) (hrc : rc' ≤ rc) (hrs : rs' ≤ rs)
    (hcall : Call ct stt K' d' rc' rs' As μ Q')
    (kk : ∀ (r : Option Value) (μ' : Mu), Q' r μ' → Wa ct stt K d (rc - rc') (rs - rs') Q (pc + 3) L (r.toList ++ st) μ') : Wa ct stt K d rc rs Q pc L st0 μ := by
  subst hst
  intro p l e s m args below meth c R B0 mc ms Z adr0 μ0 hC hd1 hdl hmc hms hE H locs cells slots ls adr hR hX hlo hc hs1 hls hL1 hS
  have hSA : ∀ v ∈ As, lvv μ v := fun v hv => hS v (by simp [hv])
  have hS2 : ∀ v ∈ st, lvv μ v := fun v hv => hS v (by simp [hv])
  have hb := (⟨rfl, rfl, by show d' + 1 ≤ R.frames; omega, by show 8 + ((kL K') + 11) + 48 * d' ≤ R.locals; have := hM.2.2.2.2; omega, wsK_moves hM hC.2.2.2.2.2.1, List.mem_cons_self⟩ : (rmK d' rc' rs').cells = rc' ∧ (rmK d' rc' rs').slots = rs' ∧ (rmK d' rc' rs').frames + 1 ≤ R.frames ∧ 8 + ((kL K') + 11) + (rmK d' rc' rs').locals ≤ R.locals ∧ (∀ w ∈ wsK K', ∀ (a' : Array Value) (U : State), s.WarmedH U.vm → w.before a' U = true) ∧ Cond.code (kY K') (kB K') (kL K') (kR K') ∈ wsK K')
  have hW := hC.2.2.2.2.2.1
  have hpre : PreS s H (CPre ct stt B0 adr As μ) (cvs adr As) := ⟨CPre.blind, fun U hU hWU => ⟨rfl, by rw [hU]; exact hR.moved hWU.alike, hE.1.pass hX hWU⟩⟩
  have hst2 : cvs adr (As.reverse ++ st) = (cvs adr As).reverse ++ cvs adr st := by simp [cvs]
  have hlen : (cvs adr As).length = n := by rw [← hn]; exact List.length_map _
  have hcat2 : 2 * (F0 m pc ls (cvs adr (As.reverse ++ st))).monitorRoom + ((cvs adr st).map fun v => v.category).sum ≤ 8 := by rw [cvs_cat]; exact lv_room hcat
  have hroom : cells + rc' ≤ R.cells ∧ slots + rs' ≤ R.slots := ⟨by omega, by omega⟩
  have hfix : CallFix p m c (kB K) (kL K) s args tb (kO K) := ⟨hC.1, hC.2.1, hC.2.2.1, hC.2.2.2.2.1, hW⟩
  rcases hlk with ⟨h1 | ⟨host, h1⟩, h2⟩
  · exact Wa.after hC hd1 hdl hmc hms hE hX hlo hc hs1 hls hL1 hS2 hrc hrs (va_runS hfix (hcall l B0 adr hE.2.2.2 hSA) ⟨⟨hb.1, hb.2.1, hb.2.2.1, hb.2.2.2.1, hb.2.2.2.2.1, hb.2.2.2.2.2, hW _ hM.1, hW _ hM.2.1, hM.2.2.1, hM.len, hW _ h1⟩, hW _ h2⟩ hpre rfl hlen hls.1 hst2 hcat2 hd hroom) kk
  · exact Wa.after hC hd1 hdl hmc hms hE hX hlo hc hs1 hls hL1 hS2 hrc hrs (va_runSN hfix (hcall l B0 adr hE.2.2.2 hSA) ⟨⟨hb, hW _ hM.1, hW _ hM.2.1, hM.2.2.1, hM.len, hW _ h1⟩, hW _ h2, trivial⟩ hpre rfl hlen hls.1 hst2 hcat2 hd hroom) kk
/-- a constructor's call -/
def ILinkO (own : String) (index : Nat) (y : MethodName) : Prop := (Cond.methodLink own index y ∈ tb ∨ ∃ host, Cond.methodLinkNest own index y host ∈ tb) ∧ Cond.instanceMethod y ∈ tb ∧ y.name = "<init>"
abbrev ILink (K : KM) (index : Nat) (y : MethodName) : Prop := ILinkO (kO K) index y
theorem Wa.callI {ct : List CE} {stt : List SE} {K : KM} {d rc rs : Nat} {Q : Option Value → Mu → Prop} {pc : Nat} {L : List (Nat × Value)} {st : List Value} {μ : Mu} {K' : KM} {n index b : Nat} {As st0 : List Value} (d' rc' rs' : Nat) {Q' : Option Value → Mu → Prop}
    (hd : decode (kB K) pc = .ok (.invokespecial index, 3)) (hM : MOK K' n) (hret : (kR K') = none) (hlk : ILink K index (kY K')) (hst : st0 = As.reverse ++ .ref b :: st) (hn : As.length = n) (hcat : (st.map fun v => v.category).sum ≤ 8) (hdd : d' + 1 ≤ d) (hrc : rc' ≤ rc) (hrs : rs' ≤ rs)
    (hcall : Call ct stt K' d' rc' rs' (.ref b :: As) μ Q')
    (kk : ∀ (r : Option Value) (μ' : Mu), Q' r μ' → Wa ct stt K d (rc - rc') (rs - rs') Q (pc + 3) L (r.toList ++ st) μ') : Wa ct stt K d rc rs Q pc L st0 μ := by
  subst hst
  intro p l e s m args below meth c R B0 mc ms Z adr0 μ0 hC hd1 hdl hmc hms hE H locs cells slots ls adr hR hX hlo hc hs1 hls hL1 hS
  have hSA : ∀ v ∈ Value.ref b :: As, lvv μ v := fun v hv => (List.mem_cons.mp hv).elim (fun e => hS v (by rw [e]; simp)) (fun h => hS v (by simp [h]))
  have hS2 : ∀ v ∈ st, lvv μ v := fun v hv => hS v (by simp [hv])
  have hb := (⟨rfl, rfl, by show d' + 1 ≤ R.frames; omega, by show 8 + ((kL K') + 11) + 48 * d' ≤ R.locals; have := hM.2.2.2.2; omega, wsK_moves hM hC.2.2.2.2.2.1, by rw [← hret]; exact List.mem_cons_self⟩ : (rmK d' rc' rs').cells = rc' ∧ (rmK d' rc' rs').slots = rs' ∧ (rmK d' rc' rs').frames + 1 ≤ R.frames ∧ 8 + ((kL K') + 11) + (rmK d' rc' rs').locals ≤ R.locals ∧ (∀ w ∈ wsK K', ∀ (a' : Array Value) (U : State), s.WarmedH U.vm → w.before a' U = true) ∧ Cond.code (kY K') (kB K') (kL K') none ∈ wsK K')
  have hW := hC.2.2.2.2.2.1
  have hcode : (Cond.code (kY K') (kB K') (kL K') none).before args s = true := by rw [← hret]; exact hW _ hM.1
  have hpre : PreS s H (CPre ct stt B0 adr (.ref b :: As) μ) (.ref (adr b) :: cvs adr As) := ⟨CPre.blind, fun U hU hWU => ⟨rfl, by rw [hU]; exact hR.moved hWU.alike, hE.1.pass hX hWU⟩⟩
  have hst2 : cvs adr (As.reverse ++ .ref b :: st) = (cvs adr As).reverse ++ .ref (adr b) :: cvs adr st := by simp [cvs, cv]
  have hlen : (cvs adr As).length = n := by rw [← hn]; exact List.length_map _
  have hcat2 : 2 * (F0 m pc ls (cvs adr (As.reverse ++ .ref b :: st))).monitorRoom + ((cvs adr st).map fun v => v.category).sum ≤ 8 := by rw [cvs_cat]; exact lv_room hcat
  have hroom : cells + rc' ≤ R.cells ∧ slots + rs' ≤ R.slots := ⟨by omega, by omega⟩
  have hfix : CallFix p m c (kB K) (kL K) s args tb (kO K) := ⟨hC.1, hC.2.1, hC.2.2.1, hC.2.2.2.2.1, hW⟩
  rcases hlk with ⟨h1 | ⟨host, h1⟩, h2, h3⟩
  · exact Wa.after hC hd1 hdl hmc hms hE hX hlo hc hs1 hls hL1 hS2 hrc hrs (va_runI hfix (hcall l B0 adr hE.2.2.2 hSA) ⟨⟨hb.1, hb.2.1, hb.2.2.1, hb.2.2.2.1, hb.2.2.2.2.1, hb.2.2.2.2.2, hcode, hW _ hM.2.1, hM.2.2.1, hM.len, hW _ h1⟩, h3, hW _ h2⟩ hpre rfl hlen hls.1 hst2 hcat2 hd hroom) kk
  · exact Wa.after hC hd1 hdl hmc hms hE hX hlo hc hs1 hls hL1 hS2 hrc hrs (va_runIN hfix (hcall l B0 adr hE.2.2.2 hSA) ⟨⟨hb, hcode, hW _ hM.2.1, hM.2.2.1, hM.len, hW _ h1⟩, h3, hW _ h2⟩ hpre rfl hlen hls.1 hst2 hcat2 hd hroom) kk
/-- Object's own constructor -/
theorem Wa.objInit {ct : List CE} {stt : List SE} {K : KM} {d rc rs : Nat} {Q : Option Value → Mu → Prop} {pc : Nat} {L : List (Nat × Value)} {st : List Value} {μ : Mu} {index b : Nat}
    (hd : decode (kB K) pc = .ok (.invokespecial index, 3)) (h1 : Cond.methodLink (kO K) index Lib.objectInit ∈ tb) (h2 : Cond.instanceMethod Lib.objectInit ∈ tb) (h3 : Cond.code Lib.objectInit ⟨#[0xb1]⟩ 1 none ∈ tb) (hcat : (st.map fun v => v.category).sum ≤ 8) (hdd : 1 ≤ d)
    (kk : Wa ct stt K d rc rs Q (pc + 3) L st μ) : Wa ct stt K d rc rs Q pc L (.ref b :: st) μ := by
  intro p l e s m args below meth c R B0 mc ms Z adr0 μ0 hC hd1 hdl hmc hms hE H locs cells slots ls adr hR hX hlo hc hs1 hls hL1 hS
  have hW := hC.2.2.2.2.2.1
  have hroom : 2 * (F0 m pc ls (cvs adr (.ref b :: st))).monitorRoom + ((cvs adr st).map fun v => v.category).sum + 12 ≤ R.locals := by
    have := lv_room (m := m) (pc := pc) (ls := ls) (rest := cvs adr (.ref b :: st)) (st := cvs adr st) (by rw [cvs_cat]; exact hcat)
    omega
  exact W.objInit hC.1 hC.2.1 hC.2.2.2.2.1 (hW _ h1) (hW _ h2) (hW _ h3) rfl (by rw [hC.2.2.1]; exact hls.1) rfl hd (by omega) hroom (kk p l e s m args below meth c R B0 mc ms Z adr0 μ0 hC hd1 hdl hmc hms hE H locs cells slots ls adr hR hX hlo hc hs1 hls hL1 (lvv_tl hS))
