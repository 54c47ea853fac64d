/-- a virtual call of a method that the class has from above it -/
def ULinkO (own : String) (index : Nat) (C : String) (x : MethodName) (owner : String) (y : MethodName) : Prop := Cond.methodLink own index x ∈ tb ∧ Cond.sameMethod x.cls owner x.name x.desc ∈ tb ∧ Cond.selects C x y ∈ tb ∧ Cond.instanceMethod y ∈ tb ∧ y = ⟨owner, x.name, x.desc⟩ ∧ (owner ≠ "java/lang/invoke/MethodHandle" ∧ owner ≠ "java/lang/invoke/VarHandle") ∧ (parseMethodDescriptor x.desc).map (fun d => d.parameters.length) = some 0
abbrev ULink (K : KM) (index : Nat) (C : String) (x : MethodName) (owner : String) (y : MethodName) : Prop := ULinkO (kO K) index C x owner y
theorem Wa.callU {ct : List CE} {stt : List SE} {K : KM} {d rc rs : Nat} {Q : Option Value → Mu → Prop} {pc : Nat} {L : List (Nat × Value)} {st : List Value} {μ : Mu} {K' : KM} {n index b : Nat} {q : CE} {x : MethodName} {owner : String} (ci d' rc' rs' : Nat) {Q' : Option Value → Mu → Prop}
    (hd : decode (kB K) pc = .ok (.invokevirtual index, 3)) (hM : MOK K' n) (hlk : ULink K index q.1 x owner (kY K')) (hq : ct[ci]? = some q) (hcat : (st.map fun v => v.category).sum ≤ 8) (hdd : d' + 1 ≤ d) (hrc : rc' ≤ rc) (hrs : rs' ≤ rs) (hs : mS μ b = (1, ci))
    (hcall : Call ct stt K' d' rc' rs' [.ref b] μ Q')
    (kk : ∀ (r : Option Value) (μ' : Mu), Q' r μ' → Wa ct stt K d (rc - rc') (rs - rs') Q (pc + 3) L (r.toList ++ st) μ') : Wa ct stt K d rc rs Q pc L (.ref b :: st) μ := by
  intro p l e s m args below meth c R B0 mc ms Z adr0 μ0 hC hd1 hdl hmc hms hE H locs cells slots ls adr hR hX hlo hc hs1 hls hL1 hS
  have hSA : ∀ v ∈ [Value.ref b], lvv μ v := fun v hv => by rw [List.mem_singleton.mp hv]; exact lvv_hd hS
  obtain ⟨cell, g1, g2, g3, g4, g5, -⟩ := hR.2.1 b (lvv_hd hS _ rfl)
  obtain ⟨q', f1, f2⟩ := g5 (by rw [hs])
  rw [hs] at f1
  obtain rfl : q' = q := Option.some.inj (f1.symm.trans hq)
  have hb := (⟨rfl, rfl, by show d' + 1 ≤ R.frames; omega, by show 8 + ((kL K') + 11) + 48 * d' ≤ R.locals; have := hM.2.2.2.2; omega, wsK_moves hM hC.2.2.2.2.2.1, List.mem_cons_self⟩ : (rmK d' rc' rs').cells = rc' ∧ (rmK d' rc' rs').slots = rs' ∧ (rmK d' rc' rs').frames + 1 ≤ R.frames ∧ 8 + ((kL K') + 11) + (rmK d' rc' rs').locals ≤ R.locals ∧ (∀ w ∈ wsK K', ∀ (a' : Array Value) (U : State), s.WarmedH U.vm → w.before a' U = true) ∧ Cond.code (kY K') (kB K') (kL K') (kR K') ∈ wsK K')
  have hW := hC.2.2.2.2.2.1
  have hpre : PreV s H q'.1 (adr b) (CPre ct stt B0 adr [.ref b] μ) [] := ⟨CPre.blind, ⟨cell, g1, g3, f2.1⟩, fun U hU hWU => ⟨rfl, by rw [hU]; exact hR.moved hWU.alike, hE.1.pass hX hWU⟩⟩
  have hcat2 : 2 * (F0 m pc ls (cvs adr (.ref b :: st))).monitorRoom + ((cvs adr st).map fun v => v.category).sum ≤ 8 := by rw [cvs_cat]; exact lv_room hcat
  have hfix : CallFix p m c (kB K) (kL K) s args tb (kO K) := ⟨hC.1, hC.2.1, hC.2.2.1, hC.2.2.2.2.1, hW⟩
  obtain ⟨h1, h2, h3, h4, h5, h6, h7⟩ := hlk
  refine Wa.after hC hd1 hdl hmc hms hE hX hlo hc hs1 hls hL1 (lvv_tl hS) hrc hrs (va_runU (n := 0) hfix (hcall l B0 adr hE.2.2.2 hSA) ⟨hb, hW _ hM.1, hW _ hM.2.1, h6, fun sig h => ?_, hW _ h1, hW _ h2, by rw [← h5]; exact va_Decl.of (hW _ h4) (hW _ hM.1), hW _ h3, hW _ h4⟩ hpre rfl rfl hls.1 rfl hcat2 hd ⟨by omega, by omega⟩) kk
  rw [h] at h7
  exact (Option.some.inj h7).symm
theorem tb_at {w : Cond} (i : Nat) (h : lw_tbl[i]? = some w) (g : cGood w = true) : w ∈ tb := tb_in (List.mem_of_getElem? h) g
