/-! methods that throw: contracts -/
def eN (k : Nat) : String := if k = 0 then "java/lang/IllegalStateException" else if k = 1 then "java/lang/IllegalArgumentException" else "java/lang/IndexOutOfBoundsException"
def eC : List String := ["java/lang/RuntimeException", "java/lang/Exception"]
def eI (k : Nat) : Nat := if k = 0 then 65 else if k = 1 then 76 else 105
def eK (k : Nat) : Nat := if k = 0 then 69 else if k = 1 then 80 else 109
theorem ats_in {ic : Nat} {X : String} (ps : List Nat) (h : vx_atS "ParishBoards" ic X eC = ps.filterMap (fun i => (xws ++ lw_tbl)[i]?)) (hg : (vx_atS "ParishBoards" ic X eC).all (fun w => cGood w || decide (w ∈ xws)) = true) : ∀ w ∈ vx_atS "ParishBoards" ic X eC, w ∈ tb ∨ w ∈ xws := by
  intro w hw
  have h1 := List.all_eq_true.mp hg w hw
  rw [Bool.or_eq_true, decide_eq_true_eq] at h1
  rw [h] at hw
  obtain ⟨i, -, hi⟩ := List.mem_filterMap.mp hw
  have hm := List.mem_of_getElem? hi
  rcases h1 with h1 | h1
  · rcases List.mem_append.mp hm with h2 | h2
    · exact Or.inr h2
    · exact Or.inl (tb_in h2 h1)
  · exact Or.inr h1
def EOK (k : Nat) : Prop := Bundle.fit (eN k) = true ∧ Cond.classLink "ParishBoards" (eI k) (eN k) ∈ tb ∧ Cond.initialized (eN k) ∈ tb ∧ (∀ w ∈ vx_atS "ParishBoards" (eK k) (eN k) eC, w ∈ tb ∨ w ∈ xws) ∧ ∀ w ∈ Cond.classLink "ParishBoards" (eI k) (eN k) :: Cond.initialized (eN k) :: vx_atS "ParishBoards" (eK k) (eN k) eC, vx_ot w = true
theorem eok_0 : EOK 0 := ⟨by decide +kernel, tb_at 843 (by decide +kernel) (by decide +kernel), tb_at 92 (by decide +kernel) (by decide +kernel), ats_in [96, 514, 523, 527, 530, 532, 515, 516, 109, 110, 517, 522, 528, 548, 504, 549, 506, 550, 508, 518, 520, 510, 544, 545, 547, 510, 862, 863, 864, 538, 3, 538, 539, 540, 541, 4, 541, 542, 543, 544, 5, 861, 852, 0, 854, 526, 855, 856, 857, 858, 513, 512, 859] (by decide +kernel) (by decide +kernel), List.all_eq_true.mp (by decide +kernel)⟩
theorem eok_1 : EOK 1 := ⟨by decide +kernel, tb_at 775 (by decide +kernel) (by decide +kernel), tb_at 91 (by decide +kernel) (by decide +kernel), ats_in [96, 514, 523, 527, 530, 532, 515, 516, 109, 110, 517, 522, 528, 548, 504, 549, 506, 550, 508, 518, 520, 510, 544, 545, 547, 510, 794, 795, 796, 538, 3, 538, 539, 540, 541, 4, 541, 542, 543, 544, 5, 793, 784, 1, 786, 525, 787, 788, 789, 790, 513, 512, 791] (by decide +kernel) (by decide +kernel), List.all_eq_true.mp (by decide +kernel)⟩
theorem eok_2 : EOK 2 := ⟨by decide +kernel, tb_at 484 (by decide +kernel) (by decide +kernel), tb_at 94 (by decide +kernel) (by decide +kernel), ats_in [96, 514, 523, 527, 530, 532, 515, 516, 109, 110, 517, 522, 528, 548, 504, 549, 506, 550, 508, 518, 520, 510, 544, 545, 547, 510, 535, 536, 537, 538, 3, 538, 539, 540, 541, 4, 541, 542, 543, 544, 5, 534, 493, 2, 501, 502, 503, 505, 507, 509, 513, 512, 511] (by decide +kernel) (by decide +kernel), List.all_eq_true.mp (by decide +kernel)⟩
theorem eok {k : Nat} (h : k < 3) : EOK k := by
  rcases (by omega : k = 0 ∨ k = 1 ∨ k = 2) with rfl | rfl | rfl
  · exact eok_0
  · exact eok_1
  · exact eok_2
theorem eC_fit : ∀ n ∈ eC, Bundle.fit n = true := by decide +kernel
/-- where a method throws, it makes the thing and throws it -/
def TOK (K : KM) : Prop := (kO K = "ParishBoards" ∧ kH K = []) ∧ ∀ q ∈ kT K, q.2 < 3 ∧ decode (kB K) q.1 = .ok (.new (eI q.2), 3) ∧ decode (kB K) (q.1 + 3) = .ok (.dup, 1) ∧ (∃ e ∈ msgs, decode (kB K) (q.1 + 4) = .ok (.ldc e.1, 2)) ∧ decode (kB K) (q.1 + 6) = .ok (.invokespecial (eK q.2), 3) ∧ decode (kB K) (q.1 + 9) = .ok (.athrow, 1)
theorem Rel.grow {ct : List CE} {stt : List SE} {B0 : Nat} {adr : Nat → Nat} {μ : Mu} {U : State} {H H' : Heap} (h : Rel ct stt B0 adr μ U H) (hs : H.size ≤ H'.size) (hq : ∀ q : Nat, q < H.size → H'[q]? = H[q]?) : Rel ct stt B0 adr μ U H' := by
  obtain ⟨r1, r2, r3, r4, r5, r6, r7⟩ := h
  refine ⟨Nat.le_trans r1 hs, fun a ha => ?_, r3, r4, r5, fun q hq' => ?_, r7.kept (fun x hx _ => hq x hx)⟩
  · obtain ⟨cell, g1, g2⟩ := r2 a ha
    exact ⟨cell, (hq _ (Array.getElem?_eq_some_iff.mp g1).1).trans g1, g2⟩
  · obtain ⟨g1, cf, kf, fi, f, x, cell, q1, q2, q3, q4, q5, q6⟩ := r6 q hq'
    exact ⟨g1, cf, kf, fi, f, x, cell, q1, q2, q3, q4, (hq _ (Array.getElem?_eq_some_iff.mp q5).1).trans q5, q6⟩
def TX (B0 : Nat) (adr : Nat → Nat) (μ : Mu) (Q : Option Value → Mu → Prop) : String → State → State → Prop := fun E _ t => ∃ (k : Nat) (μ' : Mu) (adr' : Nat → Nat), k < 3 ∧ E = eN k ∧ Q (some (.float (UInt32.ofNat k))) μ' ∧ Rel CT ST B0 adr' μ' t t.heap ∧ Ext adr μ adr' μ'
/-- a method that returns a number, or throws the k-th: told as the float k -/
def CalT (K : KM) (d rc rs : Nat) (args : List Value) (μ : Mu) (Q : Option Value → Mu → Prop) : Prop :=
  ∀ (l : Launch) (B0 : Nat) (adr : Nat → Nat), l.stackTraces = false → (∀ v ∈ args, lvv μ v) → vx_Met l (kY K) (wsK K) (rmK d rc rs) (CPre CT ST B0 adr args μ) (CPost CT ST B0 adr μ (fun r μ' => (∃ v, r = some (.int v)) ∧ St μ' ∧ Q r μ')) (TX B0 adr μ (fun r μ' => St μ' ∧ Q r μ')) rc rs (fun q => B0 ≤ q)
theorem CalT.of {K : KM} {d rc rs : Nat} {args : List Value} {μ : Mu} {Q : Option Value → Mu → Prop} {L : List (Nat × Value)} (hp : plainName (kY K).cls = true) (ho : kO K = (kY K).cls) (hL : lv_args 0 args = L) (hn : (lg_sl args).length ≤ kL K) (hI : kR K = some .int) (hT : TOK K) (hd : 6 ≤ d)
    (k : Wx K d rc rs (fun r μ' => St μ' ∧ Q r μ') 0 L [] μ) : CalT K d rc rs args μ Q := by
  intro l B0 adr hfl hargs
  subst hL
  refine vx_ofW (cc := kB K) (maxL := kL K) (ret := kR K) (ws' := tb) hp rfl ?_
  intro p e s m a below meth c s₁ B hml htab hv
  obtain ⟨rfl, hR, hLit⟩ := hv
  have hts := atoms_spec (ws := wsK K) B.pre
  have hC : Cx K p s m (cvs adr args).toArray meth c := ⟨B.exec, B.bytes, hml, B.returns, by rw [ho]; exact findClass_of_methodNamed B.named, fun w hw => hts w (List.mem_cons_of_mem _ hw), B.notSynchronized, fun h => (name_of_methodNamed B.named B.method).1.trans h, Or.inl hT.1.2⟩
  rw [lg_entry_eq]
  have hl := lv_entry (cvs adr args) (n := (kL K)) (by rw [lg_sl_cv]; exact hn)
  rw [lv_args_cv] at hl
  refine k p l e s m _ below meth c (headSpec (wsK K) (rmK d rc rs)).room B0 rc rs _ adr μ hC (Nat.le_refl d) (Nat.le_refl _) (Nat.le_refl _) (Nat.le_refl _) ?_ s.heap [] 0 0 _ adr hR Ext.rf (fun _ h => by cases h) (by omega) (by omega) hl (fun q hq => hargs _ (lv_args_mem _ _ _ hq)) (fun _ h => by cases h)
  refine ⟨hLit, ?_, ?_, hfl⟩
  · intro r μ' adr' H locs ls pc hQ hv hR' hX hlo hret
    rcases hret with ⟨v, rfl, hd', ty, hty, hnar⟩ | ⟨v, rfl, hd', hty⟩ | ⟨v, rfl, hd', hty⟩ | ⟨v, rfl, hd', hCR⟩ | ⟨rfl, hd', hty⟩
    · have hlk := B.notSynchronized
      exact vx_ret (W.zret B.exec B.bytes (B.returns.trans hty) hnar (fun t ht hW => ⟨some (.int v), μ', adr', rfl, ⟨⟨v, rfl⟩, hQ⟩, hv, by rw [ht]; exact hR'.moved hW.alike, hX⟩) hlo hd' hlk)
    · rw [hI] at hty; cases hty
    · rw [hI] at hty; cases hty
    · rcases hCR with ⟨C, hty⟩ | ⟨C, hty⟩ <;> (rw [hI] at hty; cases hty)
    · rw [hI] at hty; cases hty
  · intro pc kk μ' adr' H locs ls cells slots hk hQ hR' hX hlo hls hc hs T hT' X
    obtain ⟨t1, t2⟩ := hT
    obtain ⟨q3, d0, d3, ⟨ex, hex, d4⟩, d6, d9⟩ := t2 _ hk
    obtain ⟨f1, f2⟩ := vx_frame X.same
    obtain ⟨e1, e2, e3, e4, e5⟩ := eok q3
    obtain ⟨sa, hsa⟩ := hLit.2.1 ex hex
    have hS : va_S (fun q => B0 ≤ q) s.heap H locs := ⟨by rw [← hT']; exact f1, fun q h1 h2 => by rw [← hT']; exact f2 q h1 (fun z hz e => h2 (by have := hlo z hz; rw [e] at this; exact this)), hlo⟩
    refine vx_throwS (names := eC) (own := "ParishBoards") (cls := eN kk) (text := ex.2) (ik := eI kk) (is := ex.1) (ic := eK kk) (sa := sa) (A := fun q => B0 ≤ q) B.exec B.bytes hfl (by rw [← t1.1]; exact hC.2.2.2.2.1) e1 eC_fit (hC.2.2.2.2.2.1 _ e2) (hC.2.2.2.2.2.1 _ e3) hsa (fun w hw => ?_) e5 hR.2.2.2.2.2.2.2.1 hR.2.2.2.2.2.2.2.2 hS (by rw [hls, hml]) d0 d3 d4 d6 d9 (fun x hx => (htab x hx).elim) (by show 2 + 3 < d; omega) (by show 0 + (13 * (2 + 1) + 43) ≤ 48 * d; omega) hc hs B.notSynchronized (fun t h1 h2 h3 => ⟨kk, μ', adr', q3, rfl, hQ, (hR'.grow h2 h3).moved h1, hX⟩) hlo hc hs T hT' X
    rcases e4 w hw with h | h
    · exact hC.2.2.2.2.2.1 _ h
    · exact xw_moves (Vm.Alike.refl _) (xws_xw w h) (hLit.2.2.1 w h)
/-! a method that catches, and calls of methods that throw -/
theorem Met.ofX {l : Launch} {y : MethodName} {ws : List Cond} {rm : Room} {Pc : Array Value → State → Prop} {Qc : Array Value → State → Outcome → State → Prop} {mc ms : Nat} {free : Addr → Prop} (h : vx_Met l y ws rm Pc Qc (fun _ _ _ => False) mc ms free) : Met l y ws rm Pc Qc mc ms free := by
  intro p e h1 h2 h3 s m a below h4 h5 h6 h7
  obtain ⟨k, o, g1, g2, g3, hq⟩ := h p e h1 h2 h3 s m a below h4 h5 h6 h7
  rcases hq with ⟨a1, a2⟩ | ⟨q, -, E, ce, L, hf, -⟩
  · exact ⟨k, o, g1, g2, g3, a1, a2⟩
  · exact hf.elim
/-- a method that throws, where it doesn't -/
theorem CalT.call {K : KM} {d rc rs : Nat} {args : List Value} {μ : Mu} {Q : Option Value → Mu → Prop} (h : CalT K d rc rs args μ Q) (hq : ∀ k μ', ¬ Q (some (.float k)) μ') : Cal K d rc rs args μ Q := by
  intro l B0 adr hfl hargs p e h1 h2 h3 s m a below h4 h5 h6 h7
  obtain ⟨k, o, g1, g2, g3, hq'⟩ := h l B0 adr hfl hargs p e h1 h2 h3 s m a below h4 h5 h6 h7
  rcases hq' with ⟨⟨r, μ', adr', w1, ⟨-, w2, w3⟩, w4⟩, a2⟩ | ⟨q, -, E, ce, L, ⟨k', μ', adr', -, -, ⟨-, hf⟩, -⟩, -⟩
  · exact ⟨k, o, g1, g2, g3, ⟨r, μ', adr', w1, ⟨w2, w3⟩, w4⟩, a2⟩
  · exact absurd hf (hq _ _)
/-- what is thrown at pc, the k-th, is caught, and put into the place j -/
def HOK (K : KM) (pc k j hp : Nat) : Prop := ∃ (pre : List ExceptionTableEntry) (x : ExceptionTableEntry) (suf : List ExceptionTableEntry), kH K ≠ [] ∧ tableOf (kH K) = pre ++ x :: suf ∧ (∀ z ∈ pre, z.catchType ≠ 0 ∧ ∃ nm : String, Cond.classLink (kO K) z.catchType nm ∈ tb ∧ (eN k, nm) ∈ ncs) ∧ covers x pc = true ∧ x.catchType ≠ 0 ∧ Cond.classLink (kO K) x.catchType (eN k) ∈ tb ∧
  x.handlerPc = hp ∧ decode (kB K) hp = .ok (.astore j, 2) ∧ j < kL K
theorem xw_cast {k : Nat} (h : k < 3) : Cond.castable (eN k) (eN k) ∈ xws := by
  rcases (by omega : k = 0 ∨ k = 1 ∨ k = 2) with rfl | rfl | rfl
  · exact List.mem_of_getElem? (i := 0) rfl
  · exact List.mem_of_getElem? (i := 1) rfl
  · exact List.mem_of_getElem? (i := 2) rfl
theorem Wx.callT {K K' : KM} {d rc rs : Nat} {Q : Option Value → Mu → Prop} {pc : Nat} {L : List (Nat × Value)} {st st0 : List Value} {μ : Mu} {n index b : Nat} {As : List Value} (d' rc' rs' : Nat) {Q' : Option Value → Mu → Prop}
    (hd : decode (kB K) pc = .ok (.invokevirtual index, 3)) (hM : MOK K' n) (h1 : Cond.methodLink (kO K) index (kY K') ∈ tb) (h2 : Cond.instanceMethod (kY K') ∈ tb) (h3 : Cond.selects E_PB.1 (kY K') (kY K') ∈ tb) (hst : st0 = As.reverse ++ .ref b :: st) (hn : As.length = n) (hcat : (st.map fun v => v.category).sum ≤ 8) (hdd : d' + 1 ≤ d) (hrc : rc' ≤ rc) (hrs : rs' ≤ rs) (hs : mS μ b = (1, 0))
    (hcall : CalT K' d' rc' rs' (.ref b :: As) μ Q')
    (kk : ∀ (v : Int32) (μ' : Mu), St μ' → Q' (some (.int v)) μ' → Wx K d (rc - rc') (rs - rs') Q (pc + 3) L (.int v :: st) μ')
    (kx : ∀ (k : Nat) (μ' : Mu), k < 3 → St μ' → Q' (some (.float (UInt32.ofNat k))) μ' → ∃ j hp : Nat, HOK K pc k j hp ∧ Wx K d (rc - rc') (rs - rs') Q (hp + 2) (L.filter (fun q => !(q.1 == j) && !(q.1 + 1 == j && q.2.category == 2))) [] μ') : Wx K d rc rs Q pc L st0 μ := by
  subst hst
  intro p l e s m args below meth c R B0 mc ms Z adr0 μ0 hC hd1 hdl hmc hms hE H locs cells slots ls adr hR hX hlo hc hs1 hls hL1 hS
  have hSA : ∀ v ∈ Value.ref b :: As, lvv μ v := fun v hv => (List.mem_cons.mp hv).elim (fun e => hS v (by rw [e]; simp)) (fun h => hS v (by simp [h]))
  have hS2 : ∀ v ∈ st, lvv μ v := fun v hv => hS v (by simp [hv])
  obtain ⟨cell, g1, g2, g3, g4, g5, -⟩ := hR.2.1 b (hSA _ List.mem_cons_self _ rfl)
  obtain ⟨q', f1, f2⟩ := g5 (by rw [hs])
  rw [hs] at f1
  obtain rfl : q' = E_PB := Option.some.inj (f1.symm.trans rfl)
  have hb := (⟨rfl, rfl, by show d' + 1 ≤ R.frames; omega, by show 8 + ((kL K') + 11) + 48 * d' ≤ R.locals; have := hM.2.2.2.2; omega, wsK_moves hM hC.2.2.2.2.2.1, List.mem_cons_self⟩ : (rmK d' rc' rs').cells = rc' ∧ (rmK d' rc' rs').slots = rs' ∧ (rmK d' rc' rs').frames + 1 ≤ R.frames ∧ 8 + ((kL K') + 11) + (rmK d' rc' rs').locals ≤ R.locals ∧ (∀ w ∈ wsK K', ∀ (a' : Array Value) (U : State), s.WarmedH U.vm → w.before a' U = true) ∧ Cond.code (kY K') (kB K') (kL K') (kR K') ∈ wsK K')
  have hW := hC.2.2.2.2.2.1
  have hpre : PreV s H E_PB.1 (adr b) (CPre CT ST B0 adr (.ref b :: As) μ) (cvs adr As) := ⟨CPre.blind, ⟨cell, g1, g3, f2.1⟩, fun U hU hWU => ⟨rfl, by rw [hU]; exact hR.moved hWU.alike, hE.1.pass hX hWU⟩⟩
  have hst2 : cvs adr (As.reverse ++ .ref b :: st) = (cvs adr As).reverse ++ .ref (adr b) :: cvs adr st := by simp [cvs, cv]
  have hlen : (cvs adr As).length = n := by rw [← hn]; exact List.length_map _
  have hcat2 : 2 * (F0 m pc ls (cvs adr (As.reverse ++ .ref b :: st))).monitorRoom + ((cvs adr st).map fun v => v.category).sum ≤ 8 := by rw [cvs_cat]; exact lv_room hcat
  have hroom : cells + rc' ≤ R.cells ∧ slots + rs' ≤ R.slots := ⟨by omega, by omega⟩
  have hfix : CallFix p m c (kB K) (kL K) s args tb (kO K) := ⟨hC.1, hC.2.1, hC.2.2.1, hC.2.2.2.2.1, hW⟩
  have hr := vx_runV (e := e) (below := below) (meth := meth) (locs := locs) hfix (hcall l B0 adr hE.2.2.2 hSA) ⟨⟨hb.1, hb.2.1, hb.2.2.1, hb.2.2.2.1, hb.2.2.2.2.1, hb.2.2.2.2.2, hW _ hM.1, hW _ hM.2.1, hM.2.2.1, hM.len, hW _ h1⟩, hW _ h2, hW _ h3⟩ hpre rfl hlen hls.1 hst2 hcat2 hd hroom
  intro T hT X
  rcases hr T hT X with ⟨v, st₀, t, T', Lo, h0, X', hLo, e1, e2, ⟨r, μ', adr', hv, ⟨⟨v1, rfl⟩, hSt, hq⟩, hvr, hR', hX'⟩, stp⟩ | ⟨q, st₀, t, T', Lo, E, ce, h0, X', hLo, e1, e2, ⟨k, μ', adr', k3, rfl, ⟨hSt, hq⟩, hR', hX'⟩, hce, hcv, hcl, stp⟩
  · have hv' : v = (some (Value.int v1)).map (cv adr') := by injection hv
    subst hv'
    have hal : s.vm.Alike T'.vm := X'.warmed.alike
    have hR2 : Rel CT ST B0 adr' μ' s T'.heap := by
      rw [e1]
      refine Rel.moved ?_ hR'
      rw [← e2]
      exact hal.symm
    have hkk := kk v1 μ' hSt hq p l e s m args below meth c R B0 mc ms Z adr0 μ0 hC hd1 hdl hmc hms hE T'.heap (locs ++ Lo) (cells + rc') (slots + rs') ls adr' hR2 (hX.trans hX') (fun z hz => (List.mem_append.mp hz).elim (hlo z) (hLo z)) (by omega) (by omega) (by rw [cvL_ext hX' hL1]; exact hls) (fun z hz => lvv_alloc hX' (hL1 z hz)) (fun z hz => (List.mem_cons.mp hz).elim (fun e => by rw [e]; exact lvv_int) (fun h => lvv_alloc hX' (hS2 z h)))
    have hst : cvs adr' (.int v1 :: st) = ((some (Value.int v1)).map (cv adr')).toList ++ cvs adr st := by
      rw [← cvs_ext hX' hS2]
      rfl
    rw [hst] at hkk
    obtain ⟨t2, a1, b1⟩ := hkk T' rfl X'
    exact ⟨t2, stp t2 a1, b1⟩
  · have hal : s.vm.Alike T'.vm := X'.warmed.alike
    have hR2 : Rel CT ST B0 adr' μ' s T'.heap := by
      rw [e1]
      refine Rel.moved ?_ hR'
      rw [← e2]
      exact hal.symm
    obtain ⟨j, hp, ⟨pre, x, suf, t0, t1, t2, t3, t4, t5, rfl, t7, t8⟩, hQc⟩ := kx k μ' k3 hSt hq
    have htab : c.exceptionTable.toList = tableOf (kH K) := hC.2.2.2.2.2.2.2.2.resolve_left t0
    have hlo2 : ∀ z ∈ locs ++ Lo, B0 ≤ z.base := fun z hz => (List.mem_append.mp hz).elim (hlo z) (hLo z)
    have W1 : W p l e R s m args below meth c T'.heap (locs ++ Lo) (cells + rc') (slots + rs') Z (F0 m x.handlerPc ls [.ref q]) := by
      refine lv_astore hC.1 hC.2.1 t7 hls t8 rfl (fun ls' hls' => ?_)
      have e9 : (cvL adr L).filter (fun q => !(q.1 == j) && !(q.1 + 1 == j && q.2.category == 2)) = cvL adr (L.filter (fun q => !(q.1 == j) && !(q.1 + 1 == j && q.2.category == 2))) := by simp [cvL, List.filter_map, Function.comp_def, cv_cat]
      refine hQc p l e s m args below meth c R B0 mc ms Z adr0 μ0 hC hd1 hdl hmc hms hE T'.heap (locs ++ Lo) (cells + rc') (slots + rs') ls' adr' hR2 (hX.trans hX') hlo2 (by omega) (by omega) ?_ (fun z hz => lvv_alloc hX' (hL1 z (List.mem_filter.mp hz).1)) (fun _ h => by cases h)
      rw [cvL_ext hX' (fun z hz => hL1 z (List.mem_filter.mp hz).1), ← e9]
      exact ⟨hls'.1, hls'.2.1, fun q' hq' => hls'.2.2 q' (List.mem_cons_of_mem _ hq')⟩
    have W2 := vx_catch (own := kO K) (name := eN k) (E := eN k) (pc := pc) (ls := ls) (rest := cvs adr st) hC.2.2.2.2.1 pre x suf (htab.trans t1) (fun z hz => Or.inr ⟨(t2 z hz).1, by
      obtain ⟨nm, n1, n2⟩ := (t2 z hz).2
      exact ⟨nm, hW _ n1, hE.1.2.2.2 _ n2⟩⟩) t3 t4 (hW _ t5) (xw_moves (Vm.Alike.refl _) rfl (hE.1.2.2.1 _ (xw_cast k3))) (by rw [e1]; exact hce) hcv hcl W1
    obtain ⟨t3', a1, b1⟩ := W2 T' rfl X'
    exact ⟨t3', stp.trans a1, b1⟩
