/-! a call inside the law's one handler -/
theorem hok_LW_act {pc : Nat} (h : 36 ≤ pc ∧ pc < 318) : HOK K_LW_act pc 0 8 321 := by
  refine ⟨[], ⟨36, 318, 321, 190⟩, [], by decide, rfl, fun z hz => (by cases hz), ?_, by decide, cl_LW_190, rfl, d_LW_act_321, by decide⟩
  unfold covers
  simp
  omega
theorem Wr.callT {K K' : KM} {d rc rs : Nat} {Q : Option Value → Mu → Prop} {pc : Nat} {L : List (Nat × Value)} {st st0 : List Value} {μ : Mu} {n index b : Nat} {As : List Value} (hpc j : Nat) (d' rc' rs' : Nat) (F1 : Int32 → Mu → Prop) (F2 : Mu → Prop)
    (hd1 : decode (kB K) pc = .ok (.invokevirtual index, 3)) (hM : MOK K' n) (hl : Cond.methodLink (kO K) index (kY K') ∈ tb) (hlk : VLink K index "ParishBoards" (kY K')) (hst : st0 = As.reverse ++ .ref b :: st) (hn : As.length = n) (hcat : (st.map fun v => v.category).sum ≤ 8) (hdd : d' + 1 ≤ d) (hrc : rc' ≤ rc) (hrs : rs' ≤ rs) (hs : mS μ b = (1, 0)) (hok : HOK K pc 0 j hpc)
    (hcall : CalT K' d' rc' rs' (.ref b :: As) μ (fun r μ' => (∀ y, r = some (.int y) → F1 y μ') ∧ (∀ k, r = some (.float (UInt32.ofNat k)) → k < 3 → k = 0 ∧ F2 μ')))
    (k1 : ∀ y μ', F1 y μ' → Wx K d (rc - rc') (rs - rs') Q (pc + 3) L (.int y :: st) μ')
    (k2 : ∀ μ', F2 μ' → Wx K d (rc - rc') (rs - rs') Q (hpc + 2) (L.filter (fun q => !(q.1 == j) && !(q.1 + 1 == j && q.2.category == 2))) [] μ') : Wx K d rc rs Q pc L st0 μ :=
  Wx.callT d' rc' rs' hd1 hM hl hlk.2.1 hlk.2.2 hst hn hcat hdd hrc hrs hs hcall (fun y μ' _ h => k1 y μ' (h.1 y rfl)) (fun k μ' hk _ h => by
    obtain ⟨rfl, h2⟩ := h.2 k rfl hk
    exact ⟨j, hpc, hok, k2 μ' h2⟩)

/-! methods that catch -/
def wsH (K : KM) : List Cond := .codeWith (kY K) (kB K) (kL K) (kR K) (kH K) :: tb
def CalH (K : KM) (d rc rs : Nat) (args : List Value) (μ : Mu) (Q : Option Value → Mu → Prop) : Prop :=
  ∀ (l : Launch) (B0 : Nat) (adr : Nat → Nat), l.stackTraces = false → (∀ v ∈ args, lvv μ v) → Met l (kY K) (wsH K) (rmK d rc rs) (CPre CT ST B0 adr args μ) (CPost CT ST B0 adr μ (fun r μ' => (∃ v, r = some (.int v)) ∧ St μ' ∧ Q r μ')) rc rs (fun q => B0 ≤ q)
theorem CalH.of {K : KM} {d rc rs : Nat} {args : List Value} {μ : Mu} {Q : Option Value → Mu → Prop} {L : List (Nat × Value)} (hp : plainName (kY K).cls = true) (ho : kO K = (kY K).cls) (hL : lv_args 0 args = L) (hn : (lg_sl args).length ≤ kL K) (hI : kR K = some .boolean) (hT : kT K = [])
    (k : Wx K d rc rs (fun r μ' => St μ' ∧ Q r μ') 0 L [] μ) : CalH K d rc rs args μ Q := by
  intro l B0 adr hfl hargs
  subst hL
  refine Met.ofX (vx_ofWH (cc := kB K) (maxL := kL K) (ret := kR K) (hh := kH K) (ws' := tb) hp rfl ?_)
  intro p e s m a below meth c s₁ B hml hv
  obtain ⟨rfl, hR, hLit⟩ := hv
  have hts := atoms_spec (ws := wsH K) B.pre
  have htab := vx_table (x := kY K) B (hts _ List.mem_cons_self)
  have hC : Cx K p s m (cvs adr args).toArray meth c := ⟨B.exec, B.bytes, hml, B.returns, by rw [ho]; exact findClass_of_methodNamed B.named, fun w hw => hts w (List.mem_cons_of_mem _ hw), B.notSynchronized, fun h => (name_of_methodNamed B.named B.method).1.trans h, Or.inr htab⟩
  rw [lg_entry_eq]
  have hl := lv_entry (cvs adr args) (n := (kL K)) (by rw [lg_sl_cv]; exact hn)
  rw [lv_args_cv] at hl
  refine k p l e s m _ below meth c (headSpec (wsH K) (rmK d rc rs)).room B0 rc rs _ adr μ hC (Nat.le_refl d) (Nat.le_refl _) (Nat.le_refl _) (Nat.le_refl _) ?_ s.heap [] 0 0 _ adr hR Ext.rf (fun _ h => by cases h) (by omega) (by omega) hl (fun q hq => hargs _ (lv_args_mem _ _ _ hq)) (fun _ h => by cases h)
  refine ⟨hLit, ?_, ⟨fun pc k μ' adr' H locs ls cells slots hk => (by rw [hT] at hk; cases hk), hfl⟩⟩
  intro r μ' adr' H locs ls pc hQ hv hR' hX hlo hret
  rcases hret with ⟨v, rfl, hd', ty, hty, hnar⟩ | ⟨v, rfl, hd', hty⟩ | ⟨v, rfl, hd', hty⟩ | ⟨v, rfl, hd', hCR⟩ | ⟨rfl, hd', hty⟩
  · have hlk := B.notSynchronized
    exact vx_ret (W.zret B.exec B.bytes (B.returns.trans hty) hnar (fun t ht hW => ⟨some (.int v), μ', adr', rfl, ⟨⟨v, rfl⟩, hQ⟩, hv, by rw [ht]; exact hR'.moved hW.alike, hX⟩) hlo hd' hlk)
  · rw [hI] at hty; cases hty
  · rw [hI] at hty; cases hty
  · rcases hCR with ⟨C, hty⟩ | ⟨C, hty⟩ <;> (rw [hI] at hty; cases hty)
  · rw [hI] at hty; cases hty
def MOH (K : KM) (n : Nat) : Prop := Cond.codeWith (kY K) (kB K) (kL K) (kR K) (kH K) ∈ tb ∧ Cond.initialized (kY K).cls ∈ tb ∧ ((kY K).cls ≠ "java/lang/invoke/MethodHandle" ∧ (kY K).cls ≠ "java/lang/invoke/VarHandle") ∧ (parseMethodDescriptor (kY K).desc).map (fun d => d.parameters.length) = some n ∧ (kL K) ≤ 29
theorem Wx.callH {K K' : KM} {d rc rs : Nat} {Q : Option Value → Mu → Prop} {pc : Nat} {L : List (Nat × Value)} {st st0 : List Value} {μ : Mu} {n index : Nat} {As : List Value} (d' rc' rs' : Nat) {Q' : Option Value → Mu → Prop}
    (hd : decode (kB K) pc = .ok (.invokestatic index, 3)) (hM : MOH K' n) (h1 : Cond.methodLink (kO K) index (kY K') ∈ tb) (h2 : Cond.static (kY K') ∈ tb) (hst : st0 = As.reverse ++ st) (hn : As.length = n) (hcat : (st.map fun v => v.category).sum ≤ 8) (hdd : d' + 1 ≤ d) (hrc : rc' ≤ rc) (hrs : rs' ≤ rs)
    (hcall : CalH K' d' rc' rs' As μ Q')
    (kk : ∀ (v : Int32) (μ' : Mu), St μ' → Q' (some (.int v)) μ' → Wx K d (rc - rc') (rs - rs') Q (pc + 3) L (.int v :: st) μ') : Wx K d rc rs Q pc L st0 μ := by
  subst hst
  intro p l e s m args below meth c R B0 mc ms Z adr0 μ0 hC hd1 hdl hmc hms hE H locs cells slots ls adr hR hX hlo hc hs1 hls hL1 hS
  have hSA : ∀ v ∈ As, lvv μ v := fun v hv => hS v (by simp [hv])
  have hS2 : ∀ v ∈ st, lvv μ v := fun v hv => hS v (by simp [hv])
  have hW := hC.2.2.2.2.2.1
  have hwm : ∀ w ∈ wsH K', ∀ (a' : Array Value) (U : State), s.WarmedH U.vm → w.before a' U = true := fun w hw a' U hWU => by
    have hin : w ∈ tb := (List.mem_cons.mp hw).elim (fun e => e ▸ hM.1) id
    exact cGood_moves hWU (tb_good hin).2 (hW w hin)
  have hpre : PreS s H (CPre CT ST B0 adr As μ) (cvs adr As) := ⟨CPre.blind, fun U hU hWU => ⟨rfl, by rw [hU]; exact hR.moved hWU.alike, hE.1.pass hX hWU⟩⟩
  have hst2 : cvs adr (As.reverse ++ st) = (cvs adr As).reverse ++ cvs adr st := by simp [cvs]
  have hlen : (cvs adr As).length = n := by rw [← hn]; exact List.length_map _
  have hcat2 : 2 * (F0 m pc ls (cvs adr (As.reverse ++ st))).monitorRoom + ((cvs adr st).map fun v => v.category).sum ≤ 8 := by rw [cvs_cat]; exact lv_room hcat
  have hroom : cells + rc' ≤ R.cells ∧ slots + rs' ≤ R.slots := ⟨by omega, by omega⟩
  have hfix : CallFix p m c (kB K) (kL K) s args tb (kO K) := ⟨hC.1, hC.2.1, hC.2.2.1, hC.2.2.2.2.1, hW⟩
  have hlenp : ∀ sig, parseMethodDescriptor (kY K').desc = some sig → n = sig.parameters.length := by
    intro sig h
    have h2 := hM.2.2.2.1
    rw [h] at h2
    exact (Option.some.inj h2).symm
  refine Wa.after (Q' := fun r μ' => (∃ v, r = some (.int v)) ∧ St μ' ∧ Q' r μ') hC hd1 hdl hmc hms hE hX hlo hc hs1 hls hL1 hS2 hrc hrs (vx_runSW hfix (hcall l B0 adr hE.2.2.2 hSA) ⟨⟨rfl, rfl, by show d' + 1 ≤ R.frames; omega, by show 8 + ((kL K') + 11) + 48 * d' ≤ R.locals; have := hM.2.2.2.2; omega, hwm, List.mem_cons_self⟩, hW _ hM.1, hW _ hM.2.1, hM.2.2.1, hlenp, hW _ h1, hW _ h2⟩ hpre rfl hlen hls.1 hst2 hcat2 hd hroom) (fun r μ' h => ?_)
  obtain ⟨⟨v, rfl⟩, h1, h2⟩ := h
  exact kk v μ' h1 h2
theorem moh_LW_act : MOH K_LW_act 3 := ⟨tb_at 1503 (by decide +kernel) (by decide +kernel), tb_at 62 (by decide +kernel) (by decide +kernel), by decide +kernel, by decide +kernel, by decide +kernel⟩
theorem ml_LW_act : Cond.methodLink "ParishBoardsLaw" 207 (kY K_LW_act) ∈ tb := tb_at 1501 (by decide +kernel) (by decide +kernel)
theorem e_LW_act {d rc rs : Nat} {Q : Option Value → Mu → Prop} {μ : Mu} {a0 a1 : Nat} {x2 : Int32} (hk : Wx K_LW_act d rc rs (fun r μ' => St μ' ∧ Q r μ') 0 [(0, .ref a0), (1, .ref a1), (2, .int x2)] [] μ) : CalH K_LW_act d rc rs [.ref a0, .ref a1, .int x2] μ Q := CalH.of (by decide +kernel) rfl rfl (Nat.le_of_ble_eq_true rfl) rfl rfl hk
theorem Wx.cHi {K : KM} {d rc rs : Nat} {Q : Option Value → Mu → Prop} {L : List (Nat × Value)} {st st0 : List Value} {μ : Mu} {n : Nat} {As : List Value} {pc index : Nat} (d' rc' rs' : Nat) (F : Int32 → Mu → Prop) (hd : decode (kB K) pc = .ok (.invokestatic index, 3)) (hM : MOH K_LW_act n) (hl : Cond.methodLink (kO K) index (kY K_LW_act) ∈ tb) (hst : st0 = As.reverse ++ st) (hn : As.length = n) (hcat : (st.map fun v => v.category).sum ≤ 8) (hdd : d' + 1 ≤ d) (hrc : rc' ≤ rc) (hrs : rs' ≤ rs)
    (hcall : CalH K_LW_act d' rc' rs' As μ (fun r μ' => ∃ x, r = some (.int x) ∧ F x μ')) (kk : ∀ (x : Int32) μ', St μ' → F x μ' → Wx K d (rc - rc') (rs - rs') Q (pc + 3) L (.int x :: st) μ') : Wx K d rc rs Q pc L st0 μ :=
  Wx.callH d' rc' rs' hd hM hl sl_LW_207.2 hst hn hcat hdd hrc hrs hcall (fun v μ' h1 h2 => by
    obtain ⟨x, e, h3⟩ := h2
    cases e
    exact kk v μ' h1 h3)
