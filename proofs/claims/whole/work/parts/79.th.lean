/-! methods that throw: contracts -/
def eN (k : Nat) : String := if k = 0 then "java/lang/IllegalStateException" else if k = 1 then "java/lang/IllegalArgumentException" else "java/lang/IndexOutOfBoundsException"
def eC : List String := ["java/lang/RuntimeException", "java/lang/Exception"]
def eI (k : Nat) : Nat := if k = 0 then 65 else if k = 1 then 76 else 105
def eK (k : Nat) : Nat := if k = 0 then 69 else if k = 1 then 80 else 109
theorem ats_in {ic : Nat} {X : String} (ps : List Nat) (h : vx_atS "ParishBoards" ic X eC = ps.filterMap (fun i => (xws ++ lw_tbl)[i]?)) (hg : (vx_atS "ParishBoards" ic X eC).all (fun w => cGood w || decide (w ∈ xws)) = true) : ∀ w ∈ vx_atS "ParishBoards" ic X eC, w ∈ tb ∨ w ∈ xws := by
  intro w hw
  have h1 := List.all_eq_true.mp hg w hw
  rw [Bool.or_eq_true, decide_eq_true_eq] at h1
  rw [h] at hw
  obtain ⟨i, -, hi⟩ := List.mem_filterMap.mp hw
  have hm := List.mem_of_getElem? hi
  rcases h1 with h1 | h1
  · rcases List.mem_append.mp hm with h2 | h2
    · exact Or.inr h2
    · exact Or.inl (tb_in h2 h1)
  · exact Or.inr h1
def EOK (k : Nat) : Prop := Bundle.fit (eN k) = true ∧ Cond.classLink "ParishBoards" (eI k) (eN k) ∈ tb ∧ Cond.initialized (eN k) ∈ tb ∧ (∀ w ∈ vx_atS "ParishBoards" (eK k) (eN k) eC, w ∈ tb ∨ w ∈ xws) ∧ ∀ w ∈ Cond.classLink "ParishBoards" (eI k) (eN k) :: Cond.initialized (eN k) :: vx_atS "ParishBoards" (eK k) (eN k) eC, vx_ot w = true
theorem eok_0 : EOK 0 := ⟨by decide +kernel, tb_at 1026 (by decide +kernel) (by decide +kernel), tb_at 144 (by decide +kernel) (by decide +kernel), ats_in [147, 1054, 1063, 1067, 1070, 1072, 1055, 1056, 167, 168, 1057, 1062, 1068, 1088, 1044, 1089, 1046, 1090, 1048, 1058, 1060, 1050, 1084, 1085, 1087, 1050, 1075, 1076, 1077, 1078, 3, 1078, 1079, 1080, 1081, 4, 1081, 1082, 1083, 1084, 5, 1074, 1033, 0, 1041, 1042, 1043, 1045, 1047, 1049, 1053, 1052, 1051] (by decide +kernel) (by decide +kernel), List.all_eq_true.mp (by decide +kernel)⟩
theorem eok_1 : EOK 1 := ⟨by decide +kernel, tb_at 1105 (by decide +kernel) (by decide +kernel), tb_at 145 (by decide +kernel) (by decide +kernel), ats_in [147, 1054, 1063, 1067, 1070, 1072, 1055, 1056, 167, 168, 1057, 1062, 1068, 1088, 1044, 1089, 1046, 1090, 1048, 1058, 1060, 1050, 1084, 1085, 1087, 1050, 1122, 1123, 1124, 1078, 3, 1078, 1079, 1080, 1081, 4, 1081, 1082, 1083, 1084, 5, 1121, 1112, 1, 1114, 1065, 1115, 1116, 1117, 1118, 1053, 1052, 1119] (by decide +kernel) (by decide +kernel), List.all_eq_true.mp (by decide +kernel)⟩
theorem eok_2 : EOK 2 := ⟨by decide +kernel, tb_at 1129 (by decide +kernel) (by decide +kernel), tb_at 153 (by decide +kernel) (by decide +kernel), ats_in [147, 1054, 1063, 1067, 1070, 1072, 1055, 1056, 167, 168, 1057, 1062, 1068, 1088, 1044, 1089, 1046, 1090, 1048, 1058, 1060, 1050, 1084, 1085, 1087, 1050, 1146, 1147, 1148, 1078, 3, 1078, 1079, 1080, 1081, 4, 1081, 1082, 1083, 1084, 5, 1145, 1136, 2, 1138, 1066, 1139, 1140, 1141, 1142, 1053, 1052, 1143] (by decide +kernel) (by decide +kernel), List.all_eq_true.mp (by decide +kernel)⟩
theorem eok {k : Nat} (h : k < 3) : EOK k := by
  rcases (by omega : k = 0 ∨ k = 1 ∨ k = 2) with rfl | rfl | rfl
  · exact eok_0
  · exact eok_1
  · exact eok_2
theorem eC_fit : ∀ n ∈ eC, Bundle.fit n = true := by decide +kernel
/-- where a method throws, it makes the thing and throws it -/
def TOK (K : KM) : Prop := kO K = "ParishBoards" ∧ ∀ q ∈ kT K, q.2 < 3 ∧ decode (kB K) q.1 = .ok (.new (eI q.2), 3) ∧ decode (kB K) (q.1 + 3) = .ok (.dup, 1) ∧ (∃ e ∈ msgs, decode (kB K) (q.1 + 4) = .ok (.ldc e.1, 2)) ∧ decode (kB K) (q.1 + 6) = .ok (.invokespecial (eK q.2), 3) ∧ decode (kB K) (q.1 + 9) = .ok (.athrow, 1)
theorem Rel.grow {ct : List CE} {stt : List SE} {B0 : Nat} {adr : Nat → Nat} {μ : Mu} {U : State} {H H' : Heap} (h : Rel ct stt B0 adr μ U H) (hs : H.size ≤ H'.size) (hq : ∀ q : Nat, q < H.size → H'[q]? = H[q]?) : Rel ct stt B0 adr μ U H' := by
  obtain ⟨r1, r2, r3, r4, r5, r6, r7⟩ := h
  refine ⟨Nat.le_trans r1 hs, fun a ha => ?_, r3, r4, r5, fun q hq' => ?_, r7.kept (fun x hx _ => hq x hx)⟩
  · obtain ⟨cell, g1, g2⟩ := r2 a ha
    exact ⟨cell, (hq _ (Array.getElem?_eq_some_iff.mp g1).1).trans g1, g2⟩
  · obtain ⟨g1, cf, kf, fi, f, x, cell, q1, q2, q3, q4, q5, q6⟩ := r6 q hq'
    exact ⟨g1, cf, kf, fi, f, x, cell, q1, q2, q3, q4, (hq _ (Array.getElem?_eq_some_iff.mp q5).1).trans q5, q6⟩
def TX (B0 : Nat) (adr : Nat → Nat) (μ : Mu) (Q : Option Value → Mu → Prop) : String → State → State → Prop := fun E _ t => ∃ (k : Nat) (μ' : Mu) (adr' : Nat → Nat), k < 3 ∧ E = eN k ∧ Q (some (.float (UInt32.ofNat k))) μ' ∧ Rel CT ST B0 adr' μ' t t.heap ∧ Ext adr μ adr' μ'
/-- a method that returns a number, or throws the k-th: told as the float k -/
def CalT (K : KM) (d rc rs : Nat) (args : List Value) (μ : Mu) (Q : Option Value → Mu → Prop) : Prop :=
  ∀ (l : Launch) (B0 : Nat) (adr : Nat → Nat), l.stackTraces = false → (∀ v ∈ args, lvv μ v) → vx_Met l (kY K) (wsK K) (rmK d rc rs) (CPre CT ST B0 adr args μ) (CPost CT ST B0 adr μ (fun r μ' => (∃ v, r = some (.int v)) ∧ St μ' ∧ Q r μ')) (TX B0 adr μ (fun r μ' => St μ' ∧ Q r μ')) rc rs (fun q => B0 ≤ q)
theorem CalT.of {K : KM} {d rc rs : Nat} {args : List Value} {μ : Mu} {Q : Option Value → Mu → Prop} {L : List (Nat × Value)} (hp : plainName (kY K).cls = true) (ho : kO K = (kY K).cls) (hL : lv_args 0 args = L) (hn : (lg_sl args).length ≤ kL K) (hI : kR K = some .int) (hT : TOK K) (hd : 6 ≤ d)
    (k : Wx K d rc rs (fun r μ' => St μ' ∧ Q r μ') 0 L [] μ) : CalT K d rc rs args μ Q := by
  intro l B0 adr hfl hargs
  subst hL
  refine vx_ofW (cc := kB K) (maxL := kL K) (ret := kR K) (ws' := tb) hp rfl ?_
  intro p e s m a below meth c s₁ B hml htab hv
  obtain ⟨rfl, hR, hLit⟩ := hv
  have hts := atoms_spec (ws := wsK K) B.pre
  have hC : Cx K p s m (cvs adr args).toArray meth c := ⟨B.exec, B.bytes, hml, B.returns, by rw [ho]; exact findClass_of_methodNamed B.named, fun w hw => hts w (List.mem_cons_of_mem _ hw), B.notSynchronized, fun h => (name_of_methodNamed B.named B.method).1.trans h⟩
  rw [lg_entry_eq]
  have hl := lv_entry (cvs adr args) (n := (kL K)) (by rw [lg_sl_cv]; exact hn)
  rw [lv_args_cv] at hl
  refine k p l e s m _ below meth c (headSpec (wsK K) (rmK d rc rs)).room B0 rc rs _ adr μ hC (Nat.le_refl d) (Nat.le_refl _) (Nat.le_refl _) (Nat.le_refl _) ?_ s.heap [] 0 0 _ adr hR Ext.rf (fun _ h => by cases h) (by omega) (by omega) hl (fun q hq => hargs _ (lv_args_mem _ _ _ hq)) (fun _ h => by cases h)
  refine ⟨hLit, ?_, ?_, hfl⟩
  · intro r μ' adr' H locs ls pc hQ hv hR' hX hlo hret
    rcases hret with ⟨v, rfl, hd', ty, hty, hnar⟩ | ⟨v, rfl, hd', hty⟩ | ⟨v, rfl, hd', hty⟩ | ⟨v, rfl, hd', C, hty⟩ | ⟨rfl, hd', hty⟩
    · have hlk := B.notSynchronized
      exact vx_ret (W.zret B.exec B.bytes (B.returns.trans hty) hnar (fun t ht hW => ⟨some (.int v), μ', adr', rfl, ⟨⟨v, rfl⟩, hQ⟩, hv, by rw [ht]; exact hR'.moved hW.alike, hX⟩) hlo hd' hlk)
    · rw [hI] at hty; cases hty
    · rw [hI] at hty; cases hty
    · rw [hI] at hty; cases hty
    · rw [hI] at hty; cases hty
  · intro pc kk μ' adr' H locs ls cells slots hk hQ hR' hX hlo hls hc hs T hT' X
    obtain ⟨t1, t2⟩ := hT
    obtain ⟨q3, d0, d3, ⟨ex, hex, d4⟩, d6, d9⟩ := t2 _ hk
    obtain ⟨f1, f2⟩ := vx_frame X.same
    obtain ⟨e1, e2, e3, e4, e5⟩ := eok q3
    obtain ⟨sa, hsa⟩ := hLit.2.2.1 ex hex
    have hS : va_S (fun q => B0 ≤ q) s.heap H locs := ⟨by rw [← hT']; exact f1, fun q h1 h2 => by rw [← hT']; exact f2 q h1 (fun z hz e => h2 (by have := hlo z hz; rw [e] at this; exact this)), hlo⟩
    refine vx_throwS (names := eC) (own := "ParishBoards") (cls := eN kk) (text := ex.2) (ik := eI kk) (is := ex.1) (ic := eK kk) (sa := sa) (A := fun q => B0 ≤ q) B.exec B.bytes hfl (by rw [← t1]; exact hC.2.2.2.2.1) e1 eC_fit (hC.2.2.2.2.2.1 _ e2) (hC.2.2.2.2.2.1 _ e3) hsa (fun w hw => ?_) e5 hR.2.2.2.2.2.2.2.1 hR.2.2.2.2.2.2.2.2 hS (by rw [hls, hml]) d0 d3 d4 d6 d9 (fun x hx => (htab x hx).elim) (by show 2 + 3 < d; omega) (by show 0 + (13 * (2 + 1) + 43) ≤ 48 * d; omega) hc hs B.notSynchronized (fun t h1 h2 h3 => ⟨kk, μ', adr', q3, rfl, hQ, (hR'.grow h2 h3).moved h1, hX⟩) hlo hc hs T hT' X
    rcases e4 w hw with h | h
    · exact hC.2.2.2.2.2.1 _ h
    · exact xw_moves (Vm.Alike.refl _) (xws_xw w h) (hLit.2.2.2.1 w h)
/-! the law's own methods, which catch -/
def wsH (K : KM) (hh : List (Nat × Nat × Nat × Nat)) : List Cond := .codeWith (kY K) (kB K) (kL K) (kR K) hh :: tb
def CalH (K : KM) (hh : List (Nat × Nat × Nat × Nat)) (d rc rs : Nat) (args : List Value) (μ : Mu) (Q : Option Value → Mu → Prop) : Prop :=
  ∀ (l : Launch) (B0 : Nat) (adr : Nat → Nat), l.stackTraces = false → (∀ v ∈ args, lvv μ v) → Met l (kY K) (wsH K hh) (rmK d rc rs) (CPre CT ST B0 adr args μ) (CPost CT ST B0 adr μ (fun r μ' => (∃ v, r = some (.int v)) ∧ St μ' ∧ Q r μ')) rc rs (fun q => B0 ≤ q)
theorem Met.ofX {l : Launch} {y : MethodName} {ws : List Cond} {rm : Room} {Pc : Array Value → State → Prop} {Qc : Array Value → State → Outcome → State → Prop} {mc ms : Nat} {free : Addr → Prop} (h : vx_Met l y ws rm Pc Qc (fun _ _ _ => False) mc ms free) : Met l y ws rm Pc Qc mc ms free := by
  intro p e h1 h2 h3 s m a below h4 h5 h6 h7
  obtain ⟨k, o, g1, g2, g3, hq⟩ := h p e h1 h2 h3 s m a below h4 h5 h6 h7
  rcases hq with ⟨a1, a2⟩ | ⟨q, -, E, ce, L, hf, -⟩
  · exact ⟨k, o, g1, g2, g3, a1, a2⟩
  · exact hf.elim
/-- as Wa, with the table of handlers known -/
def Wh (K : KM) (hh : List (Nat × Nat × Nat × Nat)) (d rc rs : Nat) (Q : Option Value → Mu → Prop) (pc : Nat) (L : List (Nat × Value)) (st : List Value) (μ : Mu) : Prop :=
  ∀ (p : Program) (l : Launch) (e : Env) (s : State) (m : MethodId) (args : Array Value) (below : List Frame) (meth : Method) (c : Code) (R : Room) (B0 mc ms : Nat) (Z : State → Prop) (adr0 : Nat → Nat) (μ0 : Mu),
    c.exceptionTable.toList = tableOf hh → Cx K p s m args meth c → d ≤ R.frames → 48 * d ≤ R.locals → mc ≤ R.cells → ms ≤ R.slots → EndOK CT ST K p l e R s m args below meth c B0 mc ms Z adr0 μ0 Q →
    ∀ (H : Heap) (locs : List Loc) (cells slots : Nat) (ls : Array Slot) (adr : Nat → Nat),
      Rel CT ST B0 adr μ s H → Ext adr0 μ0 adr μ → (∀ q ∈ locs, B0 ≤ q.base) → cells + rc = mc → slots + rs = ms → lv_has ls (kL K) (cvL adr L) → (∀ q ∈ L, lvv μ q.2) → (∀ v ∈ st, lvv μ v) →
      W p l e R s m args below meth c H locs cells slots Z (F0 m pc ls (cvs adr st))
section WhA
variable {K : KM} {hh : List (Nat × Nat × Nat × Nat)} {d rc rs : Nat} {Q : Option Value → Mu → Prop} {pc : Nat} {L : List (Nat × Value)} {st : List Value} {μ : Mu}
theorem Wh.of (h : Wx K d rc rs Q pc L st μ) : Wh K hh d rc rs Q pc L st μ := fun p l e s m args below meth c R B0 mc ms Z adr0 μ0 _ => h p l e s m args below meth c R B0 mc ms Z adr0 μ0
theorem Wh.mv {pc' : Nat} {st' : List Value}
    (h : ∀ (p : Program) (l : Launch) (e : Env) (R : Room) (s : State) (m : MethodId) (args : Array Value) (below : List Frame) (meth : Method) (c : Code) (H : Heap) (locs : List Loc) (cells slots : Nat) (Z : State → Prop) (ls : Array Slot) (adr : Nat → Nat), Cx K p s m args meth c → lv_has ls (kL K) (cvL adr L) →
      W p l e R s m args below meth c H locs cells slots Z (F0 m pc' ls (cvs adr st')) → W p l e R s m args below meth c H locs cells slots Z (F0 m pc ls (cvs adr st)))
    (hv : (∀ v ∈ st, lvv μ v) → (∀ q ∈ L, lvv μ q.2) → ∀ v ∈ st', lvv μ v) (k : Wh K hh d rc rs Q pc' L st' μ) : Wh K hh d rc rs Q pc L st μ := by
  intro p l e s m args below meth c R B0 mc ms Z adr0 μ0 ht hC hd hdl hmc hms hE H locs cells slots ls adr hR hX hlo hc hs hls hL1 hS
  exact h p l e R s m args below meth c H locs cells slots Z ls adr hC hls (k p l e s m args below meth c R B0 mc ms Z adr0 μ0 ht hC hd hdl hmc hms hE H locs cells slots ls adr hR hX hlo hc hs hls hL1 (hv hS hL1))
theorem Wh.iconst {n : Int} {v : Int32} (hd : decode (kB K) pc = .ok (.iconst n, 1)) (hv : Int32.ofInt n = v) (k : Wh K hh d rc rs Q (pc + 1) L (.int v :: st) μ) : Wh K hh d rc rs Q pc L st μ :=
  Wh.mv (fun p l e R s m args below meth c H locs cells slots Z ls adr C hls k => lv_iconst C.1 C.2.1 hd hv k) (fun hS _ => lvv_cons lvv_int hS) k
theorem Wh.iload_n {n : Fin 4} {j : Nat} {x : Int32} (hd : decode (kB K) pc = .ok (.iload_n n, 1)) (hl : L[j]? = some ((n : Nat), .int x)) (k : Wh K hh d rc rs Q (pc + 1) L (.int x :: st) μ) : Wh K hh d rc rs Q pc L st μ :=
  Wh.mv (fun p l e R s m args below meth c H locs cells slots Z ls adr C hls k => lv_iload_n C.1 C.2.1 hd rfl (lvL hls hl) k) (fun hS _ => lvv_cons lvv_int hS) k
theorem Wh.iload {i j : Nat} {x : Int32} (hd : decode (kB K) pc = .ok (.iload i, 2)) (hl : L[j]? = some (i, .int x)) (k : Wh K hh d rc rs Q (pc + 2) L (.int x :: st) μ) : Wh K hh d rc rs Q pc L st μ :=
  Wh.mv (fun p l e R s m args below meth c H locs cells slots Z ls adr C hls k => lv_iload C.1 C.2.1 hd (lvL hls hl) k) (fun hS _ => lvv_cons lvv_int hS) k
theorem Wh.aload_n {n : Fin 4} {j a : Nat} (hd : decode (kB K) pc = .ok (.aload_n n, 1)) (hl : L[j]? = some ((n : Nat), .ref a)) (k : Wh K hh d rc rs Q (pc + 1) L (.ref a :: st) μ) : Wh K hh d rc rs Q pc L st μ :=
  Wh.mv (fun p l e R s m args below meth c H locs cells slots Z ls adr C hls k => lv_aload_n C.1 C.2.1 hd rfl (lvL hls hl) k) (fun hS hL => lvv_cons (lvvL hL hl) hS) k
theorem Wh.aload {i j a : Nat} (hd : decode (kB K) pc = .ok (.aload i, 2)) (hl : L[j]? = some (i, .ref a)) (k : Wh K hh d rc rs Q (pc + 2) L (.ref a :: st) μ) : Wh K hh d rc rs Q pc L st μ :=
  Wh.mv (fun p l e R s m args below meth c H locs cells slots Z ls adr C hls k => lv_aload C.1 C.2.1 hd (lvL hls hl) k) (fun hS hL => lvv_cons (lvvL hL hl) hS) k
end WhA
/-- the k-th thing, thrown at pc, is caught, and the method returns 'code' -/
def HOK (K : KM) (hh : List (Nat × Nat × Nat × Nat)) (pc k : Nat) (code : Int) : Prop := ∃ (pre : List ExceptionTableEntry) (x : ExceptionTableEntry) (suf : List ExceptionTableEntry), tableOf hh = pre ++ x :: suf ∧ (∀ z ∈ pre, z.catchType ≠ 0 ∧ ∃ nm : String, Cond.classLink (kO K) z.catchType nm ∈ tb ∧ (eN k, nm) ∈ ncs) ∧ covers x pc = true ∧ x.catchType ≠ 0 ∧ Cond.classLink (kO K) x.catchType (eN k) ∈ tb ∧
  ((∃ j, decode (kB K) x.handlerPc = .ok (.astore j, 2) ∧ j < kL K ∧ decode (kB K) (x.handlerPc + 2) = .ok (.iconst code, 1) ∧ decode (kB K) (x.handlerPc + 3) = .ok (.ireturn, 1)) ∨
   (∃ j : Fin 4, decode (kB K) x.handlerPc = .ok (.astore_n j, 1) ∧ (j : Nat) < kL K ∧ decode (kB K) (x.handlerPc + 1) = .ok (.iconst code, 1) ∧ decode (kB K) (x.handlerPc + 2) = .ok (.ireturn, 1)))
theorem xw_cast {k : Nat} (h : k < 3) : Cond.castable (eN k) (eN k) ∈ xws := by
  rcases (by omega : k = 0 ∨ k = 1 ∨ k = 2) with rfl | rfl | rfl
  · exact List.mem_of_getElem? (i := 0) rfl
  · exact List.mem_of_getElem? (i := 1) rfl
  · exact List.mem_of_getElem? (i := 2) rfl
theorem Wh.callT {K K' : KM} {hh : List (Nat × Nat × Nat × Nat)} {d rc rs : Nat} {Q : Option Value → Mu → Prop} {pc : Nat} {L : List (Nat × Value)} {st st0 : List Value} {μ : Mu} {n index b : Nat} {As : List Value} (d' rc' rs' : Nat) {Q' : Option Value → Mu → Prop}
    (hd : decode (kB K) pc = .ok (.invokevirtual index, 3)) (hM : MOK K' n) (h1 : Cond.methodLink (kO K) index (kY K') ∈ tb) (h2 : Cond.instanceMethod (kY K') ∈ tb) (h3 : Cond.selects E_PB.1 (kY K') (kY K') ∈ tb) (hst : st0 = As.reverse ++ .ref b :: st) (hn : As.length = n) (hcat : (st.map fun v => v.category).sum ≤ 8) (hdd : d' + 1 ≤ d) (hrc : rc' ≤ rc) (hrs : rs' ≤ rs) (hs : mS μ b = (1, 0)) (hI : kR K = some .int)
    (hcall : CalT K' d' rc' rs' (.ref b :: As) μ Q')
    (kk : ∀ (v : Int32) (μ' : Mu), St μ' → Q' (some (.int v)) μ' → Wx K d (rc - rc') (rs - rs') Q (pc + 3) L (.int v :: st) μ')
    (kx : ∀ (k : Nat) (μ' : Mu), k < 3 → St μ' → Q' (some (.float (UInt32.ofNat k))) μ' → ∃ code : Int, HOK K hh pc k code ∧ Q (some (.int (Int32.ofInt code))) μ') : Wh K hh d rc rs Q pc L st0 μ := by
  subst hst
  intro p l e s m args below meth c R B0 mc ms Z adr0 μ0 htab hC hd1 hdl hmc hms hE H locs cells slots ls adr hR hX hlo hc hs1 hls hL1 hS
  have hSA : ∀ v ∈ Value.ref b :: As, lvv μ v := fun v hv => (List.mem_cons.mp hv).elim (fun e => hS v (by rw [e]; simp)) (fun h => hS v (by simp [h]))
  have hS2 : ∀ v ∈ st, lvv μ v := fun v hv => hS v (by simp [hv])
  obtain ⟨cell, g1, g2, g3, g4, g5, -⟩ := hR.2.1 b (hSA _ List.mem_cons_self _ rfl)
  obtain ⟨q', f1, f2⟩ := g5 (by rw [hs])
  rw [hs] at f1
  obtain rfl : q' = E_PB := Option.some.inj (f1.symm.trans rfl)
  have hb := (⟨rfl, rfl, by show d' + 1 ≤ R.frames; omega, by show 8 + ((kL K') + 11) + 48 * d' ≤ R.locals; have := hM.2.2.2.2; omega, wsK_moves hM hC.2.2.2.2.2.1, List.mem_cons_self⟩ : (rmK d' rc' rs').cells = rc' ∧ (rmK d' rc' rs').slots = rs' ∧ (rmK d' rc' rs').frames + 1 ≤ R.frames ∧ 8 + ((kL K') + 11) + (rmK d' rc' rs').locals ≤ R.locals ∧ (∀ w ∈ wsK K', ∀ (a' : Array Value) (U : State), s.WarmedH U.vm → w.before a' U = true) ∧ Cond.code (kY K') (kB K') (kL K') (kR K') ∈ wsK K')
  have hW := hC.2.2.2.2.2.1
  have hpre : PreV s H E_PB.1 (adr b) (CPre CT ST B0 adr (.ref b :: As) μ) (cvs adr As) := ⟨CPre.blind, ⟨cell, g1, g3, f2.1⟩, fun U hU hWU => ⟨rfl, by rw [hU]; exact hR.moved hWU.alike, hE.1.pass hX hWU⟩⟩
  have hst2 : cvs adr (As.reverse ++ .ref b :: st) = (cvs adr As).reverse ++ .ref (adr b) :: cvs adr st := by simp [cvs, cv]
  have hlen : (cvs adr As).length = n := by rw [← hn]; exact List.length_map _
  have hcat2 : 2 * (F0 m pc ls (cvs adr (As.reverse ++ .ref b :: st))).monitorRoom + ((cvs adr st).map fun v => v.category).sum ≤ 8 := by rw [cvs_cat]; exact lv_room hcat
  have hroom : cells + rc' ≤ R.cells ∧ slots + rs' ≤ R.slots := ⟨by omega, by omega⟩
  have hfix : CallFix p m c (kB K) (kL K) s args tb (kO K) := ⟨hC.1, hC.2.1, hC.2.2.1, hC.2.2.2.2.1, hW⟩
  have hr := vx_runV (e := e) (below := below) (meth := meth) (locs := locs) hfix (hcall l B0 adr hE.2.2.2 hSA) ⟨⟨hb.1, hb.2.1, hb.2.2.1, hb.2.2.2.1, hb.2.2.2.2.1, hb.2.2.2.2.2, hW _ hM.1, hW _ hM.2.1, hM.2.2.1, hM.len, hW _ h1⟩, hW _ h2, hW _ h3⟩ hpre rfl hlen hls.1 hst2 hcat2 hd hroom
  intro T hT X
  rcases hr T hT X with ⟨v, st₀, t, T', Lo, h0, X', hLo, e1, e2, ⟨r, μ', adr', hv, ⟨⟨v1, rfl⟩, hSt, hq⟩, hvr, hR', hX'⟩, stp⟩ | ⟨q, st₀, t, T', Lo, E, ce, h0, X', hLo, e1, e2, ⟨k, μ', adr', k3, rfl, ⟨hSt, hq⟩, hR', hX'⟩, hce, hcv, hcl, stp⟩
  · have hv' : v = (some (Value.int v1)).map (cv adr') := by injection hv
    subst hv'
    have hal : s.vm.Alike T'.vm := X'.warmed.alike
    have hR2 : Rel CT ST B0 adr' μ' s T'.heap := by
      rw [e1]
      refine Rel.moved ?_ hR'
      rw [← e2]
      exact hal.symm
    have hkk := kk v1 μ' hSt hq p l e s m args below meth c R B0 mc ms Z adr0 μ0 hC hd1 hdl hmc hms hE T'.heap (locs ++ Lo) (cells + rc') (slots + rs') ls adr' hR2 (hX.trans hX') (fun z hz => (List.mem_append.mp hz).elim (hlo z) (hLo z)) (by omega) (by omega) (by rw [cvL_ext hX' hL1]; exact hls) (fun z hz => lvv_alloc hX' (hL1 z hz)) (fun z hz => (List.mem_cons.mp hz).elim (fun e => by rw [e]; exact lvv_int) (fun h => lvv_alloc hX' (hS2 z h)))
    have hst : cvs adr' (.int v1 :: st) = ((some (Value.int v1)).map (cv adr')).toList ++ cvs adr st := by
      rw [← cvs_ext hX' hS2]
      rfl
    rw [hst] at hkk
    obtain ⟨t2, a1, b1⟩ := hkk T' rfl X'
    exact ⟨t2, stp t2 a1, b1⟩
  · have hal : s.vm.Alike T'.vm := X'.warmed.alike
    have hR2 : Rel CT ST B0 adr' μ' s T'.heap := by
      rw [e1]
      refine Rel.moved ?_ hR'
      rw [← e2]
      exact hal.symm
    obtain ⟨code, ⟨pre, x, suf, t1, t2, t3, t4, t5, t6⟩, hQc⟩ := kx k μ' k3 hSt hq
    have hlo2 : ∀ z ∈ locs ++ Lo, B0 ≤ z.base := fun z hz => (List.mem_append.mp hz).elim (hlo z) (hLo z)
    have fin : ∀ (ls' : Array Slot) (pc' : Nat), decode (kB K) pc' = .ok (.ireturn, 1) → W p l e R s m args below meth c T'.heap (locs ++ Lo) (cells + rc') (slots + rs') Z (F0 m pc' ls' [.int (Int32.ofInt code)]) := fun ls' pc' d3 =>
      W.widen (by omega) (by omega) (hE.2.1 (some (.int (Int32.ofInt code))) μ' adr' T'.heap (locs ++ Lo) ls' pc' hQc (fun v hv => by rw [List.mem_singleton.mp hv]; exact lvv_int) hR2 (hX.trans hX') hlo2 (Or.inl ⟨_, rfl, d3, .int, hI, rfl⟩))
    have W1 : W p l e R s m args below meth c T'.heap (locs ++ Lo) (cells + rc') (slots + rs') Z (F0 m x.handlerPc ls [.ref q]) := by
      rcases t6 with ⟨j, d0, hj, d2, d3⟩ | ⟨j, d0, hj, d2, d3⟩
      · exact lv_astore hC.1 hC.2.1 d0 hls hj rfl (fun ls' _ => lv_iconst hC.1 hC.2.1 d2 rfl (fin ls' _ d3))
      · exact lv_astore_n hC.1 hC.2.1 d0 rfl hls hj rfl (fun ls' _ => lv_iconst hC.1 hC.2.1 d2 rfl (fin ls' _ d3))
    have W2 := vx_catch (own := kO K) (name := eN k) (E := eN k) (pc := pc) (ls := ls) (rest := cvs adr st) hC.2.2.2.2.1 pre x suf (htab.trans t1) (fun z hz => Or.inr ⟨(t2 z hz).1, by
      obtain ⟨nm, n1, n2⟩ := (t2 z hz).2
      exact ⟨nm, hW _ n1, hE.1.2.2.2.2 _ n2⟩⟩) t3 t4 (hW _ t5) (xw_moves (Vm.Alike.refl _) rfl (hE.1.2.2.2.1 _ (xw_cast k3))) (by rw [e1]; exact hce) hcv hcl W1
    obtain ⟨t3', a1, b1⟩ := W2 T' rfl X'
    exact ⟨t3', stp.trans a1, b1⟩
theorem CalH.of {K : KM} {hh : List (Nat × Nat × Nat × Nat)} {d rc rs : Nat} {args : List Value} {μ : Mu} {Q : Option Value → Mu → Prop} {L : List (Nat × Value)} (hp : plainName (kY K).cls = true) (ho : kO K = (kY K).cls) (hL : lv_args 0 args = L) (hn : (lg_sl args).length ≤ kL K) (hI : kR K = some .int) (hT : kT K = [])
    (k : Wh K hh d rc rs (fun r μ' => St μ' ∧ Q r μ') 0 L [] μ) : CalH K hh d rc rs args μ Q := by
  intro l B0 adr hfl hargs
  subst hL
  refine Met.ofX (vx_ofWH (cc := kB K) (maxL := kL K) (ret := kR K) (hh := hh) (ws' := tb) hp rfl ?_)
  intro p e s m a below meth c s₁ B hml hv
  obtain ⟨rfl, hR, hLit⟩ := hv
  have hts := atoms_spec (ws := wsH K hh) B.pre
  have htab := vx_table (x := kY K) B (hts _ List.mem_cons_self)
  have hC : Cx K p s m (cvs adr args).toArray meth c := ⟨B.exec, B.bytes, hml, B.returns, by rw [ho]; exact findClass_of_methodNamed B.named, fun w hw => hts w (List.mem_cons_of_mem _ hw), B.notSynchronized, fun h => (name_of_methodNamed B.named B.method).1.trans h⟩
  rw [lg_entry_eq]
  have hl := lv_entry (cvs adr args) (n := (kL K)) (by rw [lg_sl_cv]; exact hn)
  rw [lv_args_cv] at hl
  refine k p l e s m _ below meth c (headSpec (wsH K hh) (rmK d rc rs)).room B0 rc rs _ adr μ htab hC (Nat.le_refl d) (Nat.le_refl _) (Nat.le_refl _) (Nat.le_refl _) ?_ s.heap [] 0 0 _ adr hR Ext.rf (fun _ h => by cases h) (by omega) (by omega) hl (fun q hq => hargs _ (lv_args_mem _ _ _ hq)) (fun _ h => by cases h)
  refine ⟨hLit, ?_, ⟨fun pc k μ' adr' H locs ls cells slots hk => (by rw [hT] at hk; cases hk), hfl⟩⟩
  intro r μ' adr' H locs ls pc hQ hv hR' hX hlo hret
  rcases hret with ⟨v, rfl, hd', ty, hty, hnar⟩ | ⟨v, rfl, hd', hty⟩ | ⟨v, rfl, hd', hty⟩ | ⟨v, rfl, hd', C, hty⟩ | ⟨rfl, hd', hty⟩
  · have hlk := B.notSynchronized
    exact vx_ret (W.zret B.exec B.bytes (B.returns.trans hty) hnar (fun t ht hW => ⟨some (.int v), μ', adr', rfl, ⟨⟨v, rfl⟩, hQ⟩, hv, by rw [ht]; exact hR'.moved hW.alike, hX⟩) hlo hd' hlk)
  · rw [hI] at hty; cases hty
  · rw [hI] at hty; cases hty
  · rw [hI] at hty; cases hty
  · rw [hI] at hty; cases hty
/-- what the tables say of a method that catches -/
def MOH (K : KM) (hh : List (Nat × Nat × Nat × Nat)) (n : Nat) : Prop := Cond.codeWith (kY K) (kB K) (kL K) (kR K) hh ∈ tb ∧ Cond.initialized (kY K).cls ∈ tb ∧ ((kY K).cls ≠ "java/lang/invoke/MethodHandle" ∧ (kY K).cls ≠ "java/lang/invoke/VarHandle") ∧ (parseMethodDescriptor (kY K).desc).map (fun d => d.parameters.length) = some n ∧ (kL K) ≤ 29
theorem Wx.callH {K K' : KM} {hh : List (Nat × Nat × Nat × Nat)} {d rc rs : Nat} {Q : Option Value → Mu → Prop} {pc : Nat} {L : List (Nat × Value)} {st st0 : List Value} {μ : Mu} {n index : Nat} {As : List Value} (d' rc' rs' : Nat) {Q' : Option Value → Mu → Prop}
    (hd : decode (kB K) pc = .ok (.invokestatic index, 3)) (hM : MOH K' hh n) (h1 : Cond.methodLink (kO K) index (kY K') ∈ tb) (h2 : Cond.static (kY K') ∈ tb) (hst : st0 = As.reverse ++ st) (hn : As.length = n) (hcat : (st.map fun v => v.category).sum ≤ 8) (hdd : d' + 1 ≤ d) (hrc : rc' ≤ rc) (hrs : rs' ≤ rs)
    (hcall : CalH K' hh d' rc' rs' As μ Q')
    (kk : ∀ (v : Int32) (μ' : Mu), St μ' → Q' (some (.int v)) μ' → Wx K d (rc - rc') (rs - rs') Q (pc + 3) L (.int v :: st) μ') : Wx K d rc rs Q pc L st0 μ := by
  subst hst
  intro p l e s m args below meth c R B0 mc ms Z adr0 μ0 hC hd1 hdl hmc hms hE H locs cells slots ls adr hR hX hlo hc hs1 hls hL1 hS
  have hSA : ∀ v ∈ As, lvv μ v := fun v hv => hS v (by simp [hv])
  have hS2 : ∀ v ∈ st, lvv μ v := fun v hv => hS v (by simp [hv])
  have hW := hC.2.2.2.2.2.1
  have hwm : ∀ w ∈ wsH K' hh, ∀ (a' : Array Value) (U : State), s.WarmedH U.vm → w.before a' U = true := fun w hw a' U hWU => by
    have hin : w ∈ tb := (List.mem_cons.mp hw).elim (fun e => e ▸ hM.1) id
    exact cGood_moves hWU (tb_good hin).2 (hW w hin)
  have hpre : PreS s H (CPre CT ST B0 adr As μ) (cvs adr As) := ⟨CPre.blind, fun U hU hWU => ⟨rfl, by rw [hU]; exact hR.moved hWU.alike, hE.1.pass hX hWU⟩⟩
  have hst2 : cvs adr (As.reverse ++ st) = (cvs adr As).reverse ++ cvs adr st := by simp [cvs]
  have hlen : (cvs adr As).length = n := by rw [← hn]; exact List.length_map _
  have hcat2 : 2 * (F0 m pc ls (cvs adr (As.reverse ++ st))).monitorRoom + ((cvs adr st).map fun v => v.category).sum ≤ 8 := by rw [cvs_cat]; exact lv_room hcat
  have hroom : cells + rc' ≤ R.cells ∧ slots + rs' ≤ R.slots := ⟨by omega, by omega⟩
  have hfix : CallFix p m c (kB K) (kL K) s args tb (kO K) := ⟨hC.1, hC.2.1, hC.2.2.1, hC.2.2.2.2.1, hW⟩
  have hlenp : ∀ sig, parseMethodDescriptor (kY K').desc = some sig → n = sig.parameters.length := by
    intro sig h
    have h2 := hM.2.2.2.1
    rw [h] at h2
    exact (Option.some.inj h2).symm
  refine Wa.after (Q' := fun r μ' => (∃ v, r = some (.int v)) ∧ St μ' ∧ Q' r μ') hC hd1 hdl hmc hms hE hX hlo hc hs1 hls hL1 hS2 hrc hrs (vx_runSW hfix (hcall l B0 adr hE.2.2.2 hSA) ⟨⟨rfl, rfl, by show d' + 1 ≤ R.frames; omega, by show 8 + ((kL K') + 11) + 48 * d' ≤ R.locals; have := hM.2.2.2.2; omega, hwm, List.mem_cons_self⟩, hW _ hM.1, hW _ hM.2.1, hM.2.2.1, hlenp, hW _ h1, hW _ h2⟩ hpre rfl hlen hls.1 hst2 hcat2 hd hroom) (fun r μ' h => ?_)
  obtain ⟨⟨v, rfl⟩, h1, h2⟩ := h
  exact kk v μ' h1 h2
