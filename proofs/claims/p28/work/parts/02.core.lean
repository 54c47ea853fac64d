/-! the core: an abstract memory by names, and one judgement 'Wa' that hides the machine -/
theorem aoa_moved {t : FieldType} {A A' : Array Value} {u U : State} (hvm : u.vm.Alike U.vm) (h : (Cond.arrayOver (.array t)).before A u = true) : (Cond.arrayOver (.array t)).before A' U = true := by
  obtain ⟨comp, c, k, h1, h2, h3, h4, h5⟩ := arrayOverA_spec h
  obtain ⟨k', hk', he⟩ := hvm.2.2 _ _ h3
  have hi : (U.vm.classes.findIdx? fun (x : Class) => match x.kind with | .array component _ => component == comp | _ => false) = some c := by
    refine (va_idx_bare U.vm comp).symm.trans ?_
    first | rw [hvm.bare_eq] | rw [← hvm.bare_eq]
    exact (va_idx_bare _ comp).trans h2
  have hkind : k'.kind = .array comp (.array t) := by rw [he]; exact h4
  have f1 : U.vm.findClass (FieldType.array t).toString = some comp := by rw [hvm.findClass]; exact h1
  have f2 : U.vm.findClass ("[" ++ (FieldType.array t).toString) = some c := by rw [hvm.findClass]; exact h5
  unfold Cond.before Cond.holds
  simp only [Cond.value]
  rw [f1, Option.bind_some]
  refine (congrArg (fun o : Option Nat => (o.bind (fun c => (U.vm.classes[c]?).map fun (k : Class) => match k.kind with | .array _ ty => decide (ty = FieldType.array t) && decide (U.vm.findClass ("[" ++ (FieldType.array t).toString) = some c) | _ => false) == some true)) hi).trans ?_
  simp [hk', hkind, f2]
def cNest : Cond → Bool
  | .fieldLinkNest .. => true
  | .methodLinkNest .. => true
  | .arrayOver (.object _) => true
  | .arrayOver (.array _) => true
  | _ => false
def cGood (w : Cond) : Bool := goodWord w || cNest w
/-- private methods that a builder has from above it -/
def sbY : List MethodName := [⟨"java/lang/AbstractStringBuilder", "ensureCapacityInternal", "(I)V"⟩, ⟨"java/lang/AbstractStringBuilder", "newCapacity", "(I)I"⟩, ⟨"java/lang/AbstractStringBuilder", "putStringAt", "(ILjava/lang/String;)V"⟩, ⟨"java/lang/AbstractStringBuilder", "inflateIfNeededFor", "(Ljava/lang/String;)V"⟩]
def sbS : List Cond := sbY.map (fun y => Cond.selects "java/lang/StringBuilder" y y)
def tb : List Cond := (sbS ++ lw_tbl).filter cGood
theorem tb_good {w : Cond} (h : w ∈ tb) : w ∈ sbS ++ lw_tbl ∧ cGood w = true := List.mem_filter.mp h
theorem tb_in {w : Cond} (h : w ∈ lw_tbl) (hg : cGood w = true) : w ∈ tb := List.mem_filter.mpr ⟨List.mem_append_right _ h, hg⟩
theorem tb_sb {w : Cond} (i : Nat) (h : sbS[i]? = some w) (hg : cGood w = true) : w ∈ tb := List.mem_filter.mpr ⟨List.mem_append_left _ (List.mem_of_getElem? h), hg⟩
theorem cGood_moves {args a' : Array Value} {s U : State} (hW : s.WarmedH U.vm) {w : Cond} (hg : cGood w = true) (h : w.before args s = true) : w.before a' U = true := by
  unfold cGood at hg
  rw [Bool.or_eq_true] at hg
  rcases hg with hg | hg
  · exact word_at hW (good_of_word hg) h
  · cases w <;> first | (cases hg; done) | skip
    all_goals first
      | exact va_Nw.use (by rfl) (va_Nw.warmM hW (va_Nw.of (by rfl) h))
      | exact va_Nw.use (by rfl) (va_Nw.warmF hW (va_Nw.of (by rfl) h))
      | (rename_i t; cases t <;> first | (cases hg; done) | exact va_AO.use (va_AO.moved hW.alike (va_AO.of h)) | exact aoa_moved hW.alike h)
/-! memory: shapes, ints, longs, references -/
abbrev Mu : Type := (Nat → Nat × Nat) × (Nat → Nat → Int32) × (Nat → Nat → Int64) × (Nat → Nat → Option Nat)
abbrev mS (μ : Mu) : Nat → Nat × Nat := μ.1
abbrev mI (μ : Mu) : Nat → Nat → Int32 := μ.2.1
abbrev mL (μ : Mu) : Nat → Nat → Int64 := μ.2.2.1
abbrev mR (μ : Mu) : Nat → Nat → Option Nat := μ.2.2.2
def up2 {α : Type} (f : Nat → Nat → α) (a k : Nat) (x : α) : Nat → Nat → α := fun b j => if b = a ∧ j = k then x else f b j
def up1 {α : Type} (f : Nat → α) (a : Nat) (x : α) : Nat → α := fun b => if b = a then x else f b
def live (μ : Mu) (a : Nat) : Prop := (mS μ a).1 ≠ 0
/-- names of cells that may be written -/
def rwN (a : Nat) : Prop := 8 ≤ a % 256
/-- what a place holds: constants' places are known once for all -/
def gI (μ : Mu) (a k : Nat) : Int32 := if a % 256 < 6 then cI a k else mI μ a k
def gR (μ : Mu) (a k : Nat) : Option Nat := if a % 256 < 6 then cR a k else mR μ a k
theorem gI_rw {μ : Mu} {a : Nat} (h : rwN a) (k : Nat) : gI μ a k = mI μ a k := if_neg (by unfold rwN at h; omega)
theorem gR_rw {μ : Mu} {a : Nat} (h : rwN a) (k : Nat) : gR μ a k = mR μ a k := if_neg (by unfold rwN at h; omega)
theorem gI_congr {μ μ' : Mu} {a k : Nat} (h : mI μ' a k = mI μ a k) : gI μ' a k = gI μ a k := by unfold gI; rw [h]
theorem gR_congr {μ μ' : Mu} {a k : Nat} (h : mR μ' a k = mR μ a k) : gR μ' a k = gR μ a k := by unfold gR; rw [h]
def cv (adr : Nat → Nat) : Value → Value
  | .ref a => .ref (adr a)
  | v => v
def rv (adr : Nat → Nat) : Option Nat → Value
  | none => .null
  | some a => .ref (adr a)
def lvv (μ : Mu) (v : Value) : Prop := ∀ b, v = .ref b → live μ b
/-- a class: name, fields, how many, their types -/
abbrev CE : Type := String × u_T × Nat × (Nat → FieldType)
def tyv (adr : Nat → Nat) (μ : Mu) (a k : Nat) : FieldType → Value
  | .long => .long (mL μ a k)
  | .object _ => rv adr (gR μ a k)
  | .array _ => rv adr (gR μ a k)
  | _ => .int (gI μ a k)
def SlotIn (U : State) (C f d : String) (i : Nat) : Prop := ∃ cf kf fi fd, U.fieldFound? C f d = some (cf, kf, fi, fd) ∧ fd.slot = i ∧ fd.isStatic = false
theorem slotIn_moved {u E : State} {C f d : String} {i : Nat} (hvm : u.vm.Alike E.vm) (h : SlotIn u C f d i) : SlotIn E C f d i := by
  obtain ⟨cf, kf, fi, fd, hi, hs, ht⟩ := h
  obtain ⟨kf', hi', -⟩ := State.fieldFound?_setVm (s := u) hvm hi
  exact ⟨cf, kf', fi, fd, by simpa only [State.fieldFound?, State.vm_setVm] using hi', hs, ht⟩
def objAt (U : State) (q : CE) (val : Nat → FieldType → Value) (cell : Cell) : Prop :=
  U.vm.findClass q.1 = some cell.cls ∧ ∀ k, k < q.2.2.1 → ∃ i, SlotIn U (q.2.1 k).1 (q.2.1 k).2.1 (q.2.1 k).2.2.1 i ∧ cell.slots[i]? = some (val k (q.2.2.2 k))
def arrAt (U : State) (ty : FieldType) (n : Nat) (val : Nat → Value) (cell : Cell) : Prop :=
  U.isArrayOf cell ty ∧ n ≤ cell.slots.size ∧ cell.slots.size.toInt32 = Int32.ofNat n ∧ ∀ j, j < n → cell.slots[j]? = some (val j)
/-- an array of arrays: its class' component -/
def va_RB (U : State) (cA : ClassId) (ty : FieldType) : Prop := match ty with
  | .array t => ∃ (kA : Class) (comp : ClassId), U.vm.classes[cA]? = some kA ∧ kA.kind = .array comp (.array t) ∧ U.vm.findClass (FieldType.array t).toString = some comp
  | _ => True
theorem va_RB.moved {u U : State} (hvm : u.vm.Alike U.vm) {cA : ClassId} {ty : FieldType} (h : va_RB u cA ty) : va_RB U cA ty := by
  cases ty with
  | array t =>
    obtain ⟨kA, comp, h1, h2, h3⟩ := h
    obtain ⟨k', hk', he⟩ := hvm.2.2 _ _ h1
    exact ⟨k', comp, hk', by rw [he]; exact h2, by rw [hvm.findClass]; exact h3⟩
  | _ => trivial
def arrX (U : State) (ty : FieldType) (n : Nat) (val : Nat → Value) (cell : Cell) : Prop :=
  ∃ cA : ClassId, cell = arrV cA n val ∧ ArrOfT U cA ty ∧ va_RA U cA ty ∧ va_RB U cA ty
/-- the type of an array's places, by its tag -/
def tagTy (ct : List CE) (t : Nat) : FieldType :=
  if t = 2 then .int else if t = 3 then .long else if t = 4 then .byte else if t = 5 then .boolean else
    match ct[t - 6]? with
    | some q => .object q.1
    | none => if t = 40 then .array .int else if t = 41 then .array .boolean else .int
def cellIs (ct : List CE) (adr : Nat → Nat) (μ : Mu) (U : State) (a : Nat) (cell : Cell) : Prop :=
  cell.vm ≠ .unknown ∧ cell.vm.isStatics = false ∧ (rwN a → cell.vm = .none) ∧
  (((mS μ a).1 = 1 → ∃ q, ct[(mS μ a).2]? = some q ∧ objAt U q (fun k ty => tyv adr μ a k ty) cell) ∧
   (2 ≤ (mS μ a).1 → arrAt U (tagTy ct (mS μ a).1) (mS μ a).2 (fun j => tyv adr μ a j (tagTy ct (mS μ a).1)) cell ∧
      (rwN a → arrX U (tagTy ct (mS μ a).1) (mS μ a).2 (fun j => tyv adr μ a j (tagTy ct (mS μ a).1)) cell)))
/-- a static of a class: its value stands in an old cell -/
def statAt (U : State) (H : Heap) (B0 : Nat) (C n d : String) (v : Value) : Prop :=
  ∃ (cf : ClassId) (kf : Class) (fi : Nat) (f : Field) (a : Nat) (cell : Cell), U.fieldFound? C n d = some (cf, kf, fi, f) ∧ f.isStatic = true ∧ kf.init = .initialized ∧ kf.statics = some a ∧ H[a]? = some cell ∧ cell.vm.isStatics = true ∧ cell.slots[f.slot]? = some v ∧ a < B0
abbrev SE : Type := String × String × String × Value
/-- a static of the JDK's that is handed on and never looked at: a reference, or null -/
def SQ (U : State) (H : Heap) (B0 : Nat) : Prop := va_Zq "jdk/internal/util/Preconditions" "SIOOBE_FORMATTER" "Ljava/util/function/BiFunction;" (fun a => B0 ≤ a) U H ∧ vx_Zq Bundle.tN "UNASSIGNED_STACK" Bundle.steD (fun a => B0 ≤ a) U H ∧ vx_Zq Bundle.tN "SUPPRESSED_SENTINEL" Bundle.listD (fun a => B0 ≤ a) U H
theorem SQ.moved {u U : State} {H : Heap} {B0 : Nat} (hvm : u.vm.Alike U.vm) (h : SQ u H B0) : SQ U H B0 := ⟨va_Zq.moved hvm h.1, vx_Zq.moved hvm h.2.1, vx_Zq.moved hvm h.2.2⟩
theorem SQ.kept {U : State} {H H1 : Heap} {B0 : Nat} (h : SQ U H B0) (hq : ∀ a : Nat, a < H.size → ¬ B0 ≤ a → H1[a]? = H[a]?) : SQ U H1 B0 := ⟨va_Zq.kept h.1 hq, vx_Zq.kept h.2.1 hq, vx_Zq.kept h.2.2 hq⟩
/-- the messages of what the class throws: where the constant stands, its text -/
def msgs : List (Nat × String) := [(67, "the tape would be too long"), (78, "the tape has not so many bytes"), (107, "no such count"), (117, "no such parish or fact"), (123, "no such parish"), (138, "no such sheet or fact"), (143, "no such sheet or parish"), (158, "no such parish or notice"), (163, "no sheet is shown there"), (165, "no such sheet"), (174, "no such road or fact"), (179, "no such value"), (185, "there are no more sheets"), (194, "no such mark"), (199, "no sheet can be noted"), (204, "no such parish, notice or way of merging"), (209, "no sheets can be merged"), (214, "no such road"), (219, "no such days")]
/-- the heap holds the memory under the addresses adr -/
def Rel (ct : List CE) (stt : List SE) (B0 : Nat) (adr : Nat → Nat) (μ : Mu) (U : State) (H : Heap) : Prop :=
  B0 ≤ H.size ∧
  (∀ a, live μ a → ∃ cell, H[adr a]? = some cell ∧ cellIs ct adr μ U a cell) ∧
  (∀ a b, live μ a → live μ b → (rwN a ∨ a % 256 = 0) → (rwN b ∨ b % 256 = 0) → adr a = adr b → a = b) ∧
  (∀ a, live μ a → (rwN a → B0 ≤ adr a) ∧ (¬ rwN a → adr a < B0)) ∧
  (∀ a k b, live μ a → gR μ a k = some b → live μ b) ∧
  (∀ q ∈ stt, lvv μ q.2.2.2 ∧ statAt U H B0 q.1 q.2.1 q.2.2.1 (cv adr q.2.2.2)) ∧ SQ U H B0
def Ext (adr : Nat → Nat) (μ : Mu) (adr' : Nat → Nat) (μ' : Mu) : Prop := ∀ a, live μ a → live μ' a ∧ adr' a = adr a
/-- words of what is thrown that are no words of 'tb' -/
def xws : List Cond := [.castable "java/lang/IllegalStateException" "java/lang/IllegalStateException", .castable "java/lang/IllegalArgumentException" "java/lang/IllegalArgumentException", .castable "java/lang/IndexOutOfBoundsException" "java/lang/IndexOutOfBoundsException", .declares ⟨"java/lang/RuntimeException", "<init>", "(Ljava/lang/String;)V"⟩, .declares ⟨"java/lang/Exception", "<init>", "(Ljava/lang/String;)V"⟩, .declares ⟨"java/lang/Throwable", "<init>", "(Ljava/lang/String;)V"⟩, .castable "[B" "java/lang/Cloneable", .castable "[Z" "java/lang/Cloneable"]
def xw (w : Cond) : Bool := match w with
  | .castable .. => true
  | .declares _ => true
  | _ => false
theorem xw_moves {args a' : Array Value} {s U : State} (hvm : s.vm.Alike U.vm) {w : Cond} (hg : xw w = true) (h : w.before args s = true) : w.before a' U = true := by
  cases w <;> first | (cases hg; done) | skip
  all_goals first
    | exact va_tabs (u := s.setVm U.vm) rfl rfl ((Cond.castable_setVm hvm _ _).trans h)
    | exact va_tabs (u := s.setVm U.vm) rfl rfl ((Cond.declares_setVm hvm _).trans h)
theorem xws_xw : ∀ w ∈ xws, xw w = true := by decide
/-- pairs of what is thrown, the one no kind of the other -/
def ncs : List (String × String) := [("java/lang/IllegalArgumentException", "java/lang/IllegalStateException"), ("java/lang/IndexOutOfBoundsException", "java/lang/IllegalStateException")]
def XL (U : State) : Prop := (∀ e ∈ msgs, ∃ a, vk_R "ParishBoards" e.1 e.2 a U) ∧ (∀ w ∈ xws, w.before #[] U = true) ∧ ∀ q ∈ ncs, va_Nc q.1 q.2 U
theorem XL.same {u U : State} (hv : U.vm = u.vm) (h : XL u) : XL U := ⟨fun e he => (h.1 e he).imp fun _ z => vk_R.same hv z, fun w hw => xw_moves (by rw [hv]; exact Vm.Alike.refl _) (xws_xw w hw) (h.2.1 w hw), fun q hq => (h.2.2 q hq).moved (by rw [hv]; exact Vm.Alike.refl _)⟩
theorem XL.warm {s U : State} (hW : s.WarmedH U.vm) (h : XL s) : XL U := ⟨fun e he => (h.1 e he).imp fun _ z => vk_R.warm hW z, fun w hw => xw_moves hW.alike (xws_xw w hw) (h.2.1 w hw), fun q hq => (h.2.2 q hq).moved hW.alike⟩
def LitOK (U : State) (adr : Nat → Nat) (μ : Mu) : Prop := (∀ i, i < lits.length → live μ (hd 1 (45 + i)) ∧ vk_R "ParishBoardsLaw" (lits.getD i (0, "")).1 (lits.getD i (0, "")).2 (adr (hd 1 (45 + i))) U) ∧ XL U
theorem LitOK.same {u U : State} {adr : Nat → Nat} {μ : Mu} (hv : U.vm = u.vm) (h : LitOK u adr μ) : LitOK U adr μ := ⟨fun i hi => ⟨(h.1 i hi).1, vk_R.same hv (h.1 i hi).2⟩, h.2.same hv⟩
theorem LitOK.pass {s U : State} {adr0 adr : Nat → Nat} {μ0 μ : Mu} (h : LitOK s adr0 μ0) (hX : Ext adr0 μ0 adr μ) (hW : s.WarmedH U.vm) : LitOK U adr μ := ⟨fun i hi => ⟨(hX _ (h.1 i hi).1).1, by rw [(hX _ (h.1 i hi).1).2]; exact vk_R.warm hW (h.1 i hi).2⟩, h.2.warm hW⟩
theorem LitOK.use {U : State} {adr : Nat → Nat} {μ : Mu} (h : LitOK U adr μ) {j : Nat} (hj : j < lits.length) : vk_R "ParishBoardsLaw" (lits.getD j (0, "")).1 (lits.getD j (0, "")).2 (adr (hd 1 (45 + j))) U := (h.1 j hj).2
theorem Ext.rf {adr : Nat → Nat} {μ : Mu} : Ext adr μ adr μ := fun _ h => ⟨h, rfl⟩
theorem Ext.trans {a1 a2 a3 : Nat → Nat} {m1 m2 m3 : Mu} (h : Ext a1 m1 a2 m2) (h' : Ext a2 m2 a3 m3) : Ext a1 m1 a3 m3 := fun a ha => by
  obtain ⟨l1, e1⟩ := h a ha
  obtain ⟨l2, e2⟩ := h' a l1
  exact ⟨l2, e2.trans e1⟩
theorem cv_ext {adr adr' : Nat → Nat} {μ μ' : Mu} (h : Ext adr μ adr' μ') {v : Value} (hv : lvv μ v) : cv adr' v = cv adr v := by
  cases v <;> first | rfl | skip
  exact congrArg Value.ref (h _ (hv _ rfl)).2
/-- a method: its name, its bytes, how many locals, what it returns, its class, its throws -/
abbrev KM : Type := MethodName × ByteArray × Nat × Option FieldType × String × (List (Nat × Nat) × List (Nat × Nat × Nat × Nat))
abbrev kY (K : KM) : MethodName := K.1
abbrev kB (K : KM) : ByteArray := K.2.1
abbrev kL (K : KM) : Nat := K.2.2.1
abbrev kR (K : KM) : Option FieldType := K.2.2.2.1
abbrev kO (K : KM) : String := K.2.2.2.2.1
/-- where it throws, and which -/
abbrev kT (K : KM) : List (Nat × Nat) := K.2.2.2.2.2.1
/-- its handlers -/
abbrev kH (K : KM) : List (Nat × Nat × Nat × Nat) := K.2.2.2.2.2.2
def wsK (K : KM) : List Cond := .code (kY K) (kB K) (kL K) (kR K) :: tb
def rmK (d mc ms : Nat) : Room := { frames := d, cells := mc, slots := ms, locals := 48 * d }
/-- what holds of the method that runs, all through -/
def Cx (K : KM) (p : Program) (s : State) (m : MethodId) (args : Array Value) (meth : Method) (c : Code) : Prop :=
  p.tables.exec = Jvm.exec ∧ c.code = (kB K) ∧ c.maxLocals = (kL K) ∧ meth.sig.returnType = (kR K) ∧ s.vm.findClass (kO K) = some m.cls ∧ (∀ w ∈ tb, w.before args s = true) ∧ meth.locks = false ∧ (((kY K).name = "<init>" → meth.name = "<init>") ∧ (kH K = [] ∨ c.exceptionTable.toList = tableOf (kH K)))
/-- an instruction that returns r -/
def RetAt (K : KM) (pc : Nat) (r : Option Value) : Prop :=
  (∃ v : Int32, r = some (.int v) ∧ decode (kB K) pc = .ok (.ireturn, 1) ∧ ∃ ty, (kR K) = some ty ∧ narrow ty (.int v) = .int v) ∨
  (∃ v : Int64, r = some (.long v) ∧ decode (kB K) pc = .ok (.lreturn, 1) ∧ (kR K) = some .long) ∨
  (∃ v : UInt64, r = some (.double v) ∧ decode (kB K) pc = .ok (.dreturn, 1) ∧ (kR K) = some .double) ∨
  (∃ v : Nat, r = some (.ref v) ∧ decode (kB K) pc = .ok (.areturn, 1) ∧ ((∃ C, (kR K) = some (.object C)) ∨ ∃ C, (kR K) = some (.array C))) ∨
  (r = none ∧ decode (kB K) pc = .ok (.return_, 1) ∧ (kR K) = none)
def cvs (adr : Nat → Nat) (st : List Value) : List Value := st.map (cv adr)
def cvL (adr : Nat → Nat) (L : List (Nat × Value)) : List (Nat × Value) := L.map (fun q => (q.1, cv adr q.2))
def EndOK (ct : List CE) (stt : List SE) (K : KM) (p : Program) (l : Launch) (e : Env) (R : Room) (s : State) (m : MethodId) (args : Array Value) (below : List Frame) (meth : Method) (c : Code) (B0 mc ms : Nat) (Z : State → Prop) (adr0 : Nat → Nat) (μ0 : Mu) (Q : Option Value → Mu → Prop) : Prop :=
  LitOK s adr0 μ0 ∧ (∀ (r : Option Value) (μ : Mu) (adr : Nat → Nat) (H : Heap) (locs : List Loc) (ls : Array Slot) (pc : Nat), Q r μ → (∀ v ∈ r.toList, lvv μ v) → Rel ct stt B0 adr μ s H → Ext adr0 μ0 adr μ → (∀ q ∈ locs, B0 ≤ q.base) → RetAt K pc r →
    W p l e R s m args below meth c H locs mc ms Z (F0 m pc ls (cvs adr r.toList))) ∧
  (∀ (pc k : Nat) (μ : Mu) (adr : Nat → Nat) (H : Heap) (locs : List Loc) (ls : Array Slot) (cells slots : Nat), (pc, k) ∈ kT K → Q (some (.float (UInt32.ofNat k))) μ → Rel ct stt B0 adr μ s H → Ext adr0 μ0 adr μ → (∀ q ∈ locs, B0 ≤ q.base) → ls.size = kL K → cells + 1 ≤ mc → slots + 6 ≤ ms →
    W p l e R s m args below meth c H locs cells slots Z (F0 m pc ls [])) ∧ l.stackTraces = false
/-- from this frame over this memory the method comes to an end with Q -/
def Wa (ct : List CE) (stt : List SE) (K : KM) (d rc rs : Nat) (Q : Option Value → Mu → Prop) (pc : Nat) (L : List (Nat × Value)) (st : List Value) (μ : Mu) : Prop :=
  ∀ (p : Program) (l : Launch) (e : Env) (s : State) (m : MethodId) (args : Array Value) (below : List Frame) (meth : Method) (c : Code) (R : Room) (B0 mc ms : Nat) (Z : State → Prop) (adr0 : Nat → Nat) (μ0 : Mu),
    Cx K p s m args meth c → d ≤ R.frames → 48 * d ≤ R.locals → mc ≤ R.cells → ms ≤ R.slots → EndOK ct stt K p l e R s m args below meth c B0 mc ms Z adr0 μ0 Q →
    ∀ (H : Heap) (locs : List Loc) (cells slots : Nat) (ls : Array Slot) (adr : Nat → Nat),
      Rel ct stt B0 adr μ s H → Ext adr0 μ0 adr μ → (∀ q ∈ locs, B0 ≤ q.base) → cells + rc = mc → slots + rs = ms → lv_has ls (kL K) (cvL adr L) → (∀ q ∈ L, lvv μ q.2) → (∀ v ∈ st, lvv μ v) →
      W p l e R s m args below meth c H locs cells slots Z (F0 m pc ls (cvs adr st))
theorem Wa.ret {ct : List CE} {stt : List SE} {K : KM} {d rc rs : Nat} {Q : Option Value → Mu → Prop} {pc : Nat} {L : List (Nat × Value)} {r : Option Value} {μ : Mu} (hr : RetAt K pc r) (hq : Q r μ) : Wa ct stt K d rc rs Q pc L r.toList μ := by
  intro p l e s m args below meth c R B0 mc ms Z adr0 μ0 hC hd hdl hmc hms hE H locs cells slots ls adr hR hX hl hc hs hls hL hS
  exact W.widen (by omega) (by omega) (hE.2.1 r μ adr H locs ls pc hq hS hR hX hl hr)
/-- 'throw new E(..)' begins here, E the class number k of the table of throws -/
theorem Wa.throw {ct : List CE} {stt : List SE} {K : KM} {d rc rs : Nat} {Q : Option Value → Mu → Prop} {pc : Nat} {L : List (Nat × Value)} {μ : Mu} (k : Nat) (hk : (pc, k) ∈ kT K) (hrc : 1 ≤ rc) (hrs : 6 ≤ rs) (hq : Q (some (.float (UInt32.ofNat k))) μ) : Wa ct stt K d rc rs Q pc L [] μ := by
  intro p l e s m args below meth c R B0 mc ms Z adr0 μ0 hC hd hdl hmc hms hE H locs cells slots ls adr hR hX hl hc hs hls hL hS
  exact hE.2.2.1 pc k μ adr H locs ls cells slots hk hq hR hX hl hls.1 (by omega) (by omega)
