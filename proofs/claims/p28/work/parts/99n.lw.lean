/-! the claim, out of one walk -/
def R_law : String := "ParishBoardsLaw"
def lw_P (b : Addr) (xs : List Int32) (args : Array Value) (s : State) : Prop := args = #[.ref b] ∧ s.IntsAt b xs ∧ xs.length ≤ 260 ∧ (Jvm.Cond.and given_1 narrow_1).before args s = true
/-- what a walk over the start with the record d0 says of its end, said of the start itself -/
theorem lw_closed {s t : State} {o : Outcome} {d0 : Drawn} {L : List Loc} {k n : Nat} (hd0 : s.drawn.sameBut d0 lw_cs) (hv : ∃ v, o = .returned v) (hW : (s.setDrawn d0).WarmedH t.vm) (hs : (s.setDrawn d0).sameButNew ({ t with vm := s.vm } : State) L k n) : State.butDraws s t lw_cs (fun t1 => Framed s o t1 L k n) := by
  have h2 : t.drawn = d0 := congrArg State.drawn hs.1
  refine ⟨⟨hv, hW, State.sameButNew.setDrawn hs s.drawn⟩, ?_, by decide⟩
  rw [h2]
  exact hd0
def lw_Q (_ : Array Value) (s : State) (o : Outcome) (t : State) : Prop := o = .returned (some (.int 1)) ∧ State.butDraws s t lw_cs (fun t1 => Framed s o t1 [] room_1.cells room_1.slots)
def lw_Z (below : List Frame) (a : Array Value) (s : State) : State → Prop := fun t => ∃ o, t.status = .running ∧ Ended t below o ∧ lw_Q a s o t
/-- the law's own end, with 1 on the stack, nothing written that was there before, its room as the claim has it; d0: the record of draws at this point (at the entry s.drawn: begin with 'refine W.base ?_' and 'have hd0 := Drawn.sameBut.refl s.drawn lw_cs') -/
theorem lw_ret {p : Program} {l : Launch} {e : Env} {s : State} {m : MethodId} {below : List Frame} {meth : Method} {c : Code} {b : Nat} {d0 : Drawn} (hd0 : s.drawn.sameBut d0 lw_cs) (hx : p.tables.exec = Jvm.exec) (hb : c.code = code) (hr : meth.sig.returnType = ret) (hlocks : meth.locks = false) {pc : Nat} {H : Heap} {ls : Array Slot} (hdg : decode code pc = .ok (.ireturn, 1)) : W p l e room_1 (s.setDrawn d0) m #[Value.ref b] below meth c H [] room_1.cells room_1.slots (lw_Z below #[Value.ref b] s) (F0 m pc ls [.int 1]) := by
  intro T hT X
  obtain ⟨fs, hret, hrun, hended, hW, hframe⟩ := X.leave (v := some (.int 1)) (hlocks := hlocks) (fun h => by rw [hr] at h; cases h)
  have hmeth' : T.vm.method? m = some meth := X.method'
  refine ⟨T.setFrames fs, ?_, .returned (some (.int 1)), hrun, hended, rfl, lw_closed hd0 ⟨_, rfl⟩ hW hframe⟩
  jvm_step X.here [X.here.top, hx, hb, hdg, hmeth', hr, ret, narrow_b1]
  (try refine ⟨rfl, ?_⟩); (try refine ⟨rfl, ?_⟩)
  first | (intro acts; rw [hret _ acts rfl rfl rfl]) | rw [hret _ _ rfl rfl rfl]
  exact Steps.refl _
/-- what holds at the law's entry: the machine, the code, the tables' words (any of lw_tbl by 'hts w (by decide +kernel)'), the script of L ints xs at the cell b, what the Statement gives of the start (any of its parts by flat_of_before) -/
def lw_At (p : Program) (s : State) (m : MethodId) (meth : Method) (c : Code) (b L : Nat) (xs : Nat → Int32) : Prop :=
  p.tables.exec = Jvm.exec ∧ c.code = code ∧ meth.sig.returnType = ret ∧ c.maxLocals = 25 ∧ s.vm.findClass R_law = some m.cls ∧ (∀ w ∈ lw_tbl, w.before #[Value.ref b] s = true) ∧ va_X b L xs s s.heap ∧ b < s.heap.size ∧ meth.locks = false ∧ (Jvm.Cond.and given_1 narrow_1).before #[Value.ref b] s = true
/-- a private method of the class above is selected for an object of the class below -/
theorem sel_up {C : String} {x y z : MethodName} {s : State} {args : Array Value} (hz : z.cls = y.cls) (hy : y.cls ≠ "java/lang/invoke/MethodHandle" ∧ y.cls ≠ "java/lang/invoke/VarHandle") (hs : (Cond.selects C x z).before args s = true) (hpriv : (Cond.privateMethod y).before args s = true) (hinst : (Cond.instanceMethod y).before args s = true) : (Cond.selects C y y).before args s = true := by
  obtain ⟨c, r, m, hc, -, hm, -, mk', hk, hni⟩ := Cond.selects_spec hs
  obtain ⟨mk, methM, hnamed, hmethM, -, -⟩ := Cond.instanceMethod_spec hinst
  have hfound : s.methodFound? y.cls y.name y.desc = some mk := State.methodFound?_of_named hnamed hy
  have hcls : mk.cls = m.cls := Option.some.inj ((findClass_of_methodNamed hnamed).symm.trans (by rw [← hz]; exact findClass_of_methodNamed hm))
  have hsel : selectMethod {} s.vm c mk = .method mk := selectMethod_private hmethM (Cond.privateMethod_at hpriv mk methM hnamed hmethM)
  simp only [Cond.before, Cond.holds, Cond.value, hc, hfound, hnamed, hsel, hcls, hk]
  simp; exact hni
def yLa1 : MethodName := ⟨"java/lang/AbstractStringBuilder", "isLatin1", "()Z"⟩
theorem sb_sl : tables_1[1229]? = some (.selects "java/lang/StringBuilder" yLa1 yLa1) := by decide +kernel
theorem sb_pv : ∀ i, i < 4 → tables_1[[1194, 1198, 1249, 1253].getD i 0]? = some (.privateMethod (sbY.getD i yLa1)) := by decide +kernel
theorem sb_in : ∀ i, i < 4 → tables_1[[1195, 1199, 1250, 1254].getD i 0]? = some (.instanceMethod (sbY.getD i yLa1)) := by decide +kernel
theorem sb_ok {args : Array Value} {s : State} (hts : ∀ w ∈ lw_tbl, w.before args s = true) : ∀ w ∈ sbS ++ lw_tbl, w.before args s = true := by
  intro w hw
  rcases List.mem_append.mp hw with hw | hw
  · obtain ⟨y, hy, rfl⟩ := List.mem_map.mp hw
    have at1 : ∀ {i : Nat} {w : Cond}, tables_1[i]? = some w → w.before args s = true := fun h => hts _ (List.mem_append_right _ (List.mem_of_getElem? h))
    obtain ⟨i, hi, he⟩ := List.getElem_of_mem hy
    have hi4 : i < 4 := hi
    have e : sbY.getD i yLa1 = y := by rw [List.getD_eq_getElem?_getD, List.getElem?_eq_getElem hi, Option.getD_some]; exact he
    have h1 := at1 (sb_pv i hi4)
    have h2 := at1 (sb_in i hi4)
    rw [e] at h1 h2
    have hc : ∀ y ∈ sbY, yLa1.cls = y.cls ∧ y.cls ≠ "java/lang/invoke/MethodHandle" ∧ y.cls ≠ "java/lang/invoke/VarHandle" := by decide
    exact sel_up (hc y hy).1 (hc y hy).2 (at1 sb_sl) h1 h2
  · exact hts w hw
/-- the law's end, over places that are new -/
theorem lw_end9 {p : Program} {l : Launch} {e : Env} {s : State} {m : MethodId} {below : List Frame} {meth : Method} {c : Code} {b : Nat} (hx : p.tables.exec = Jvm.exec) (hb : c.code = code) (hr : meth.sig.returnType = ret) (hlocks : meth.locks = false) {pc : Nat} {H : Heap} {ls : Array Slot} {locs : List Loc} (hlo : ∀ q ∈ locs, s.heap.size ≤ q.base) (hdg : decode code pc = .ok (.ireturn, 1)) : W p l e room_1 s m #[Value.ref b] below meth c H locs room_1.cells room_1.slots (lw_Z below #[Value.ref b] s) (F0 m pc ls [.int 1]) := by
  intro T hT X
  obtain ⟨fs, hret, hrun, hended, hW, hframe⟩ := X.leave (v := some (.int 1)) (hlocks := hlocks) (fun h => by rw [hr] at h; cases h)
  have hmeth' : T.vm.method? m = some meth := X.method'
  refine ⟨T.setFrames fs, ?_, .returned (some (.int 1)), hrun, hended, rfl, lw_closed (d0 := s.drawn) (Drawn.sameBut.refl s.drawn lw_cs) ⟨_, rfl⟩ hW (State.sameButNew.drop_fresh (L := []) hframe hlo)⟩
  jvm_step X.here [X.here.top, hx, hb, hdg, hmeth', hr, ret, narrow_b1]
  (try refine ⟨rfl, ?_⟩); (try refine ⟨rfl, ?_⟩)
  first | (intro acts; rw [hret _ acts rfl rfl rfl]) | rw [hret _ _ rfl rfl rfl]
  exact Steps.refl _
/-- from a first memory that the heap holds, the law comes to its end -/
theorem law_top {p : Program} {e : Env} {s : State} {m : MethodId} {below : List Frame} {meth : Method} {c : Code} (l : Launch) (hfl : l.stackTraces = false) {b L : Nat} {xs : Nat → Int32} (hL : L ≤ 260) (C0 : lw_At p s m meth c b L xs) {adr : Nat → Nat} {μ : Mu} (hR : Rel CT ST s.heap.size adr μ s s.heap) (hLit : LitOK s adr μ) (hb : adr (hd 6 0) = b) (hC : CnF μ) (hS : mS μ (hd 6 0) = (2, L)) (hz : ∀ κ i, 8 ≤ κ → κ < 256 → mS μ (hd κ i) = (0, 0)) : W p l e room_1 s m #[Value.ref b] below meth c s.heap [] 0 0 (lw_Z below #[Value.ref b] s) (entryFrame m ([Value.ref b] : List Value).toArray 25) := by
  obtain ⟨hx, hcode, hret, hml, hcl, hts, hX, hbl, hlocks, hgv⟩ := C0
  have hlv : live μ (hd 6 0) := by unfold live; rw [hS]; exact (by decide : (2 : Nat) ≠ 0)
  have hCx : Cx K_LW_law p s m #[Value.ref b] meth c := ⟨hx, hcode, hml, hret, hcl, fun w hw => sb_ok hts w (tb_good hw).1, hlocks, fun h => absurd h (by decide), Or.inl rfl⟩
  rw [lg_entry_eq]
  have hl := lv_entry (cvs adr [Value.ref (hd 6 0)]) (n := kL K_LW_law) (by rw [lg_sl_cv]; decide)
  rw [lv_args_cv] at hl
  have hcv : cvs adr [Value.ref (hd 6 0)] = [Value.ref b] := by rw [← hb]; rfl
  rw [hcv] at hl
  refine law_main (d := 1750) (rc := 78400) (rs := 6191960) (Q := fun r _ => r = some (.int 1)) (by decide) hL (fun _ _ => rfl) hC hS hz (Nat.le_refl _) (Nat.le_refl _) p l e s m _ below meth c room_1 s.heap.size 78400 6191960 _ adr μ hCx (by decide) (by decide) (by decide) (by decide) ?_ s.heap [] 0 0 _ adr hR Ext.rf (fun _ h => by cases h) rfl rfl hl (fun q hq => ?_) (fun _ h => by cases h)
  · refine ⟨hLit, ?_, fun pc k μ' adr' H locs ls cells slots hk => (by cases hk), hfl⟩
    intro r μ' adr' H locs ls pc hQ hv hR' hX' hlo hret'
    rw [hQ] at hret' ⊢
    have hdg : decode code pc = .ok (.ireturn, 1) := by
      rcases hret' with ⟨v, h1, h2, -⟩ | ⟨v, h1, -⟩ | ⟨v, h1, -⟩ | ⟨v, h1, -⟩ | ⟨h1, -⟩
      · exact h2
      all_goals exact absurd h1 (by simp)
    exact W.widen (by decide) (by decide) (lw_end9 hx hcode hret hlocks hlo hdg)
  · have : q ∈ [(0, Value.ref (hd 6 0))] := hq
    rw [List.mem_singleton.mp this]
    intro z hz'
    cases hz'
    exact hlv
