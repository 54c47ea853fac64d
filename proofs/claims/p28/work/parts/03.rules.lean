/-! rows of the judgement, one for each instruction -/
theorem lvL {adr : Nat → Nat} {ls : Array Slot} {nL : Nat} {L : List (Nat × Value)} {j i : Nat} {v : Value} (h : lv_has ls nL (cvL adr L)) (hj : L[j]? = some (i, v)) : ls[i]? = some (.val (cv adr v)) :=
  lv_at h j (by rw [cvL, List.getElem?_map, hj]; rfl)
theorem lvvL {μ : Mu} {L : List (Nat × Value)} {j i : Nat} {v : Value} (h : ∀ q ∈ L, lvv μ q.2) (hj : L[j]? = some (i, v)) : lvv μ v := h (i, v) (List.mem_of_getElem? hj)
theorem lvv_int {μ : Mu} {x : Int32} : lvv μ (.int x) := fun _ h => by cases h
theorem lvv_long {μ : Mu} {x : Int64} : lvv μ (.long x) := fun _ h => by cases h
theorem lvv_double {μ : Mu} {x : UInt64} : lvv μ (.double x) := fun _ h => by cases h
theorem lvv_null {μ : Mu} : lvv μ .null := fun _ h => by cases h
theorem lvv_ref {μ : Mu} {a : Nat} (h : live μ a) : lvv μ (.ref a) := fun _ e => by cases e; exact h
theorem lvv_cons {μ : Mu} {v : Value} {st : List Value} (h : lvv μ v) (k : ∀ w ∈ st, lvv μ w) : ∀ w ∈ v :: st, lvv μ w := fun w hw => (List.mem_cons.mp hw).elim (fun e => e ▸ h) (k w)
theorem lvv_tl {μ : Mu} {v : Value} {st : List Value} (k : ∀ w ∈ v :: st, lvv μ w) : ∀ w ∈ st, lvv μ w := fun w hw => k w (List.mem_cons_of_mem _ hw)
theorem lvv_hd {μ : Mu} {v : Value} {st : List Value} (k : ∀ w ∈ v :: st, lvv μ w) : lvv μ v := k v List.mem_cons_self
theorem cv_cat (adr : Nat → Nat) (v : Value) : (cv adr v).category = v.category := by cases v <;> rfl
def stL (i : Nat) (v : Value) (L : List (Nat × Value)) : List (Nat × Value) := (i, v) :: L.filter (fun q => !(q.1 == i) && !(q.1 + 1 == i && q.2.category == 2))
def stL2 (i : Nat) (v : Value) (L : List (Nat × Value)) : List (Nat × Value) := (i, v) :: L.filter (fun q => !(q.1 == i) && (!(q.1 == i + 1) && !(q.1 + 1 == i && q.2.category == 2)))
theorem cvL_st (adr : Nat → Nat) (i : Nat) (v : Value) (L : List (Nat × Value)) : (i, cv adr v) :: (cvL adr L).filter (fun q => !(q.1 == i) && !(q.1 + 1 == i && q.2.category == 2)) = cvL adr (stL i v L) := by
  simp [cvL, stL, List.filter_map, Function.comp_def, cv_cat]
theorem cvL_st2 (adr : Nat → Nat) (i : Nat) (v : Value) (L : List (Nat × Value)) : (i, cv adr v) :: (cvL adr L).filter (fun q => !(q.1 == i) && (!(q.1 == i + 1) && !(q.1 + 1 == i && q.2.category == 2))) = cvL adr (stL2 i v L) := by
  simp [cvL, stL2, List.filter_map, Function.comp_def, cv_cat]
theorem lvv_st {μ : Mu} {i : Nat} {v : Value} {L : List (Nat × Value)} (h : lvv μ v) (hL : ∀ q ∈ L, lvv μ q.2) : ∀ q ∈ stL i v L, lvv μ q.2 := fun q hq => (List.mem_cons.mp hq).elim (fun e => by rw [e]; exact h) (fun h => hL q (List.mem_filter.mp h).1)
theorem lvv_st2 {μ : Mu} {i : Nat} {v : Value} {L : List (Nat × Value)} (h : lvv μ v) (hL : ∀ q ∈ L, lvv μ q.2) : ∀ q ∈ stL2 i v L, lvv μ q.2 := fun q hq => (List.mem_cons.mp hq).elim (fun e => by rw [e]; exact h) (fun h => hL q (List.mem_filter.mp h).1)
/-- fewer locals, in any order -/
theorem Wa.loc {ct : List CE} {stt : List SE} {K : KM} {d rc rs : Nat} {Q : Option Value → Mu → Prop} {pc : Nat} {L : List (Nat × Value)} {st : List Value} {μ : Mu} (ks : List Nat) {L' : List (Nat × Value)} (hL : lv_pick L ks = L') (k : Wa ct stt K d rc rs Q pc L' st μ) : Wa ct stt K d rc rs Q pc L st μ := by
  intro p l e s m args below meth c R B0 mc ms Z adr0 μ0 hC hd hdl hmc hms hE H locs cells slots ls adr hR hX hlo hc hs hls hL1 hS
  refine k p l e s m args below meth c R B0 mc ms Z adr0 μ0 hC hd hdl hmc hms hE H locs cells slots ls adr hR hX hlo hc hs ⟨hls.1, hls.2.1, fun q hq => ?_⟩ (fun q hq => ?_) hS
  · obtain ⟨q0, h0, rfl⟩ := List.mem_map.mp hq
    rw [← hL] at h0
    obtain ⟨j, -, hj⟩ := List.mem_filterMap.mp h0
    exact lvL hls hj
  · rw [← hL] at hq
    obtain ⟨j, -, hj⟩ := List.mem_filterMap.mp hq
    exact hL1 q (List.mem_of_getElem? hj)
/-- a row that leaves locals and memory -/
theorem Wa.mv {ct : List CE} {stt : List SE} {K : KM} {d rc rs : Nat} {Q : Option Value → Mu → Prop} {pc : Nat} {L : List (Nat × Value)} {st : List Value} {μ : Mu} {pc' : Nat} {st' : List Value}
    (h : ∀ (p : Program) (l : Launch) (e : Env) (R : Room) (s : State) (m : MethodId) (args : Array Value) (below : List Frame) (meth : Method) (c : Code) (H : Heap) (locs : List Loc) (cells slots : Nat) (Z : State → Prop) (ls : Array Slot) (adr : Nat → Nat), Cx K p s m args meth c → lv_has ls (kL K) (cvL adr L) →
      W p l e R s m args below meth c H locs cells slots Z (F0 m pc' ls (cvs adr st')) → W p l e R s m args below meth c H locs cells slots Z (F0 m pc ls (cvs adr st)))
    (hv : (∀ v ∈ st, lvv μ v) → (∀ q ∈ L, lvv μ q.2) → ∀ v ∈ st', lvv μ v) (k : Wa ct stt K d rc rs Q pc' L st' μ) : Wa ct stt K d rc rs Q pc L st μ := by
  intro p l e s m args below meth c R B0 mc ms Z adr0 μ0 hC hd hdl hmc hms hE H locs cells slots ls adr hR hX hlo hc hs hls hL1 hS
  exact h p l e R s m args below meth c H locs cells slots Z ls adr hC hls (k p l e s m args below meth c R B0 mc ms Z adr0 μ0 hC hd hdl hmc hms hE H locs cells slots ls adr hR hX hlo hc hs hls hL1 (hv hS hL1))
theorem Wa.iconst {ct : List CE} {stt : List SE} {K : KM} {d rc rs : Nat} {Q : Option Value → Mu → Prop} {pc : Nat} {L : List (Nat × Value)} {st : List Value} {μ : Mu} {n : Int} {v : Int32} (hd : decode (kB K) pc = .ok (.iconst n, 1)) (hv : Int32.ofInt n = v)
    (k : Wa ct stt K d rc rs Q (pc + 1) L (.int v :: st) μ) : Wa ct stt K d rc rs Q pc L (st) μ :=
  Wa.mv (fun p l e R s m args below meth c H locs cells slots Z ls adr C hls k => lv_iconst C.1 C.2.1 hd hv k) (fun hS _ => lvv_cons lvv_int hS) k
theorem Wa.bipush {ct : List CE} {stt : List SE} {K : KM} {d rc rs : Nat} {Q : Option Value → Mu → Prop} {pc : Nat} {L : List (Nat × Value)} {st : List Value} {μ : Mu} {n : Int} {v : Int32} (hd : decode (kB K) pc = .ok (.bipush n, 2)) (hv : (Int8.ofInt n).toInt32 = v)
    (k : Wa ct stt K d rc rs Q (pc + 2) L (.int v :: st) μ) : Wa ct stt K d rc rs Q pc L (st) μ :=
  Wa.mv (fun p l e R s m args below meth c H locs cells slots Z ls adr C hls k => lv_bipush C.1 C.2.1 hd hv k) (fun hS _ => lvv_cons lvv_int hS) k
theorem Wa.sipush {ct : List CE} {stt : List SE} {K : KM} {d rc rs : Nat} {Q : Option Value → Mu → Prop} {pc : Nat} {L : List (Nat × Value)} {st : List Value} {μ : Mu} {n : Int} {v : Int32} (hd : decode (kB K) pc = .ok (.sipush n, 3)) (hv : (Int16.ofInt n).toInt32 = v)
    (k : Wa ct stt K d rc rs Q (pc + 3) L (.int v :: st) μ) : Wa ct stt K d rc rs Q pc L (st) μ :=
  Wa.mv (fun p l e R s m args below meth c H locs cells slots Z ls adr C hls k => lv_sipush C.1 C.2.1 hd hv k) (fun hS _ => lvv_cons lvv_int hS) k
theorem Wa.lconst {ct : List CE} {stt : List SE} {K : KM} {d rc rs : Nat} {Q : Option Value → Mu → Prop} {pc : Nat} {L : List (Nat × Value)} {st : List Value} {μ : Mu} {n : Fin 2} {v : Int64} (hd : decode (kB K) pc = .ok (.lconst n, 1)) (hv : Int64.ofNat (n : Nat) = v)
    (k : Wa ct stt K d rc rs Q (pc + 1) L (.long v :: st) μ) : Wa ct stt K d rc rs Q pc L (st) μ :=
  Wa.mv (fun p l e R s m args below meth c H locs cells slots Z ls adr C hls k => lv_lconst C.1 C.2.1 hd hv k) (fun hS _ => lvv_cons lvv_long hS) k
theorem Wa.dconst0 {ct : List CE} {stt : List SE} {K : KM} {d rc rs : Nat} {Q : Option Value → Mu → Prop} {pc : Nat} {L : List (Nat × Value)} {st : List Value} {μ : Mu}  (hd : decode (kB K) pc = .ok (.dconst 0, 1)) 
    (k : Wa ct stt K d rc rs Q (pc + 1) L (.double 0 :: st) μ) : Wa ct stt K d rc rs Q pc L (st) μ :=
  Wa.mv (fun p l e R s m args below meth c H locs cells slots Z ls adr C hls k => lv_dconst0 C.1 C.2.1 hd k) (fun hS _ => lvv_cons lvv_double hS) k
theorem Wa.iload_n {ct : List CE} {stt : List SE} {K : KM} {d rc rs : Nat} {Q : Option Value → Mu → Prop} {pc : Nat} {L : List (Nat × Value)} {st : List Value} {μ : Mu} {n : Fin 4} {j : Nat} {x : Int32} (hd : decode (kB K) pc = .ok (.iload_n n, 1)) (hl : L[j]? = some ((n : Nat), .int x))
    (k : Wa ct stt K d rc rs Q (pc + 1) L (.int x :: st) μ) : Wa ct stt K d rc rs Q pc L (st) μ :=
  Wa.mv (fun p l e R s m args below meth c H locs cells slots Z ls adr C hls k => lv_iload_n C.1 C.2.1 hd rfl (lvL hls hl) k) (fun hS _ => lvv_cons lvv_int hS) k
theorem Wa.iload {ct : List CE} {stt : List SE} {K : KM} {d rc rs : Nat} {Q : Option Value → Mu → Prop} {pc : Nat} {L : List (Nat × Value)} {st : List Value} {μ : Mu} {i j : Nat} {x : Int32} (hd : decode (kB K) pc = .ok (.iload i, 2)) (hl : L[j]? = some (i, .int x))
    (k : Wa ct stt K d rc rs Q (pc + 2) L (.int x :: st) μ) : Wa ct stt K d rc rs Q pc L (st) μ :=
  Wa.mv (fun p l e R s m args below meth c H locs cells slots Z ls adr C hls k => lv_iload C.1 C.2.1 hd (lvL hls hl) k) (fun hS _ => lvv_cons lvv_int hS) k
theorem Wa.lload_n {ct : List CE} {stt : List SE} {K : KM} {d rc rs : Nat} {Q : Option Value → Mu → Prop} {pc : Nat} {L : List (Nat × Value)} {st : List Value} {μ : Mu} {n : Fin 4} {j : Nat} {x : Int64} (hd : decode (kB K) pc = .ok (.lload_n n, 1)) (hl : L[j]? = some ((n : Nat), .long x))
    (k : Wa ct stt K d rc rs Q (pc + 1) L (.long x :: st) μ) : Wa ct stt K d rc rs Q pc L (st) μ :=
  Wa.mv (fun p l e R s m args below meth c H locs cells slots Z ls adr C hls k => lv_lload_n C.1 C.2.1 hd rfl (lvL hls hl) k) (fun hS _ => lvv_cons lvv_long hS) k
theorem Wa.lload {ct : List CE} {stt : List SE} {K : KM} {d rc rs : Nat} {Q : Option Value → Mu → Prop} {pc : Nat} {L : List (Nat × Value)} {st : List Value} {μ : Mu} {i j : Nat} {x : Int64} (hd : decode (kB K) pc = .ok (.lload i, 2)) (hl : L[j]? = some (i, .long x))
    (k : Wa ct stt K d rc rs Q (pc + 2) L (.long x :: st) μ) : Wa ct stt K d rc rs Q pc L (st) μ :=
  Wa.mv (fun p l e R s m args below meth c H locs cells slots Z ls adr C hls k => lv_lload C.1 C.2.1 hd (lvL hls hl) k) (fun hS _ => lvv_cons lvv_long hS) k
theorem Wa.dload_n {ct : List CE} {stt : List SE} {K : KM} {d rc rs : Nat} {Q : Option Value → Mu → Prop} {pc : Nat} {L : List (Nat × Value)} {st : List Value} {μ : Mu} {n : Fin 4} {j : Nat} {x : UInt64} (hd : decode (kB K) pc = .ok (.dload_n n, 1)) (hl : L[j]? = some ((n : Nat), .double x))
    (k : Wa ct stt K d rc rs Q (pc + 1) L (.double x :: st) μ) : Wa ct stt K d rc rs Q pc L (st) μ :=
  Wa.mv (fun p l e R s m args below meth c H locs cells slots Z ls adr C hls k => lv_dload_n C.1 C.2.1 hd rfl (lvL hls hl) k) (fun hS _ => lvv_cons lvv_double hS) k
theorem Wa.dload {ct : List CE} {stt : List SE} {K : KM} {d rc rs : Nat} {Q : Option Value → Mu → Prop} {pc : Nat} {L : List (Nat × Value)} {st : List Value} {μ : Mu} {i j : Nat} {x : UInt64} (hd : decode (kB K) pc = .ok (.dload i, 2)) (hl : L[j]? = some (i, .double x))
    (k : Wa ct stt K d rc rs Q (pc + 2) L (.double x :: st) μ) : Wa ct stt K d rc rs Q pc L (st) μ :=
  Wa.mv (fun p l e R s m args below meth c H locs cells slots Z ls adr C hls k => lv_dload C.1 C.2.1 hd (lvL hls hl) k) (fun hS _ => lvv_cons lvv_double hS) k
theorem Wa.aload_n {ct : List CE} {stt : List SE} {K : KM} {d rc rs : Nat} {Q : Option Value → Mu → Prop} {pc : Nat} {L : List (Nat × Value)} {st : List Value} {μ : Mu} {n : Fin 4} {j : Nat} {a : Nat} (hd : decode (kB K) pc = .ok (.aload_n n, 1)) (hl : L[j]? = some ((n : Nat), .ref a))
    (k : Wa ct stt K d rc rs Q (pc + 1) L (.ref a :: st) μ) : Wa ct stt K d rc rs Q pc L (st) μ :=
  Wa.mv (fun p l e R s m args below meth c H locs cells slots Z ls adr C hls k => lv_aload_n C.1 C.2.1 hd rfl (lvL hls hl) k) (fun hS hL => lvv_cons (lvvL hL hl) hS) k
theorem Wa.aload {ct : List CE} {stt : List SE} {K : KM} {d rc rs : Nat} {Q : Option Value → Mu → Prop} {pc : Nat} {L : List (Nat × Value)} {st : List Value} {μ : Mu} {i j : Nat} {a : Nat} (hd : decode (kB K) pc = .ok (.aload i, 2)) (hl : L[j]? = some (i, .ref a))
    (k : Wa ct stt K d rc rs Q (pc + 2) L (.ref a :: st) μ) : Wa ct stt K d rc rs Q pc L (st) μ :=
  Wa.mv (fun p l e R s m args below meth c H locs cells slots Z ls adr C hls k => lv_aload C.1 C.2.1 hd (lvL hls hl) k) (fun hS hL => lvv_cons (lvvL hL hl) hS) k
theorem Wa.iadd {ct : List CE} {stt : List SE} {K : KM} {d rc rs : Nat} {Q : Option Value → Mu → Prop} {pc : Nat} {L : List (Nat × Value)} {st : List Value} {μ : Mu} {x y : Int32} (hd : decode (kB K) pc = .ok (.iadd, 1)) 
    (k : Wa ct stt K d rc rs Q (pc + 1) L (.int (x + y) :: st) μ) : Wa ct stt K d rc rs Q pc L (.int y :: .int x :: st) μ :=
  Wa.mv (fun p l e R s m args below meth c H locs cells slots Z ls adr C hls k => lv_iadd C.1 C.2.1 hd k) (fun hS _ => lvv_cons lvv_int (lvv_tl (lvv_tl hS))) k
theorem Wa.isub {ct : List CE} {stt : List SE} {K : KM} {d rc rs : Nat} {Q : Option Value → Mu → Prop} {pc : Nat} {L : List (Nat × Value)} {st : List Value} {μ : Mu} {x y : Int32} (hd : decode (kB K) pc = .ok (.isub, 1)) 
    (k : Wa ct stt K d rc rs Q (pc + 1) L (.int (x - y) :: st) μ) : Wa ct stt K d rc rs Q pc L (.int y :: .int x :: st) μ :=
  Wa.mv (fun p l e R s m args below meth c H locs cells slots Z ls adr C hls k => lv_isub C.1 C.2.1 hd k) (fun hS _ => lvv_cons lvv_int (lvv_tl (lvv_tl hS))) k
theorem Wa.imul {ct : List CE} {stt : List SE} {K : KM} {d rc rs : Nat} {Q : Option Value → Mu → Prop} {pc : Nat} {L : List (Nat × Value)} {st : List Value} {μ : Mu} {x y : Int32} (hd : decode (kB K) pc = .ok (.imul, 1)) 
    (k : Wa ct stt K d rc rs Q (pc + 1) L (.int (x * y) :: st) μ) : Wa ct stt K d rc rs Q pc L (.int y :: .int x :: st) μ :=
  Wa.mv (fun p l e R s m args below meth c H locs cells slots Z ls adr C hls k => lv_imul C.1 C.2.1 hd k) (fun hS _ => lvv_cons lvv_int (lvv_tl (lvv_tl hS))) k
theorem Wa.iand {ct : List CE} {stt : List SE} {K : KM} {d rc rs : Nat} {Q : Option Value → Mu → Prop} {pc : Nat} {L : List (Nat × Value)} {st : List Value} {μ : Mu} {x y : Int32} (hd : decode (kB K) pc = .ok (.iand, 1)) 
    (k : Wa ct stt K d rc rs Q (pc + 1) L (.int (x &&& y) :: st) μ) : Wa ct stt K d rc rs Q pc L (.int y :: .int x :: st) μ :=
  Wa.mv (fun p l e R s m args below meth c H locs cells slots Z ls adr C hls k => lv_iand C.1 C.2.1 hd k) (fun hS _ => lvv_cons lvv_int (lvv_tl (lvv_tl hS))) k
theorem Wa.ior {ct : List CE} {stt : List SE} {K : KM} {d rc rs : Nat} {Q : Option Value → Mu → Prop} {pc : Nat} {L : List (Nat × Value)} {st : List Value} {μ : Mu} {x y : Int32} (hd : decode (kB K) pc = .ok (.ior, 1)) 
    (k : Wa ct stt K d rc rs Q (pc + 1) L (.int (x ||| y) :: st) μ) : Wa ct stt K d rc rs Q pc L (.int y :: .int x :: st) μ :=
  Wa.mv (fun p l e R s m args below meth c H locs cells slots Z ls adr C hls k => lv_ior C.1 C.2.1 hd k) (fun hS _ => lvv_cons lvv_int (lvv_tl (lvv_tl hS))) k
theorem Wa.ixor {ct : List CE} {stt : List SE} {K : KM} {d rc rs : Nat} {Q : Option Value → Mu → Prop} {pc : Nat} {L : List (Nat × Value)} {st : List Value} {μ : Mu} {x y : Int32} (hd : decode (kB K) pc = .ok (.ixor, 1)) 
    (k : Wa ct stt K d rc rs Q (pc + 1) L (.int (x ^^^ y) :: st) μ) : Wa ct stt K d rc rs Q pc L (.int y :: .int x :: st) μ :=
  Wa.mv (fun p l e R s m args below meth c H locs cells slots Z ls adr C hls k => lv_ixor C.1 C.2.1 hd k) (fun hS _ => lvv_cons lvv_int (lvv_tl (lvv_tl hS))) k
theorem Wa.ishl {ct : List CE} {stt : List SE} {K : KM} {d rc rs : Nat} {Q : Option Value → Mu → Prop} {pc : Nat} {L : List (Nat × Value)} {st : List Value} {μ : Mu} {x y : Int32} (hd : decode (kB K) pc = .ok (.ishl, 1)) 
    (k : Wa ct stt K d rc rs Q (pc + 1) L (.int (x <<< (y &&& 31)) :: st) μ) : Wa ct stt K d rc rs Q pc L (.int y :: .int x :: st) μ :=
  Wa.mv (fun p l e R s m args below meth c H locs cells slots Z ls adr C hls k => lv_ishl C.1 C.2.1 hd k) (fun hS _ => lvv_cons lvv_int (lvv_tl (lvv_tl hS))) k
theorem Wa.ishr {ct : List CE} {stt : List SE} {K : KM} {d rc rs : Nat} {Q : Option Value → Mu → Prop} {pc : Nat} {L : List (Nat × Value)} {st : List Value} {μ : Mu} {x y : Int32} (hd : decode (kB K) pc = .ok (.ishr, 1)) 
    (k : Wa ct stt K d rc rs Q (pc + 1) L (.int (x >>> (y &&& 31)) :: st) μ) : Wa ct stt K d rc rs Q pc L (.int y :: .int x :: st) μ :=
  Wa.mv (fun p l e R s m args below meth c H locs cells slots Z ls adr C hls k => lv_ishr C.1 C.2.1 hd k) (fun hS _ => lvv_cons lvv_int (lvv_tl (lvv_tl hS))) k
theorem Wa.idiv {ct : List CE} {stt : List SE} {K : KM} {d rc rs : Nat} {Q : Option Value → Mu → Prop} {pc : Nat} {L : List (Nat × Value)} {st : List Value} {μ : Mu} {x y : Int32} (hd : decode (kB K) pc = .ok (.idiv, 1)) (hne : ¬ y = 0)
    (k : Wa ct stt K d rc rs Q (pc + 1) L (.int (x / y) :: st) μ) : Wa ct stt K d rc rs Q pc L (.int y :: .int x :: st) μ :=
  Wa.mv (fun p l e R s m args below meth c H locs cells slots Z ls adr C hls k => lv_idiv C.1 C.2.1 hd hne k) (fun hS _ => lvv_cons lvv_int (lvv_tl (lvv_tl hS))) k
theorem Wa.irem {ct : List CE} {stt : List SE} {K : KM} {d rc rs : Nat} {Q : Option Value → Mu → Prop} {pc : Nat} {L : List (Nat × Value)} {st : List Value} {μ : Mu} {x y : Int32} (hd : decode (kB K) pc = .ok (.irem, 1)) (hne : ¬ y = 0)
    (k : Wa ct stt K d rc rs Q (pc + 1) L (.int (x - x / y * y) :: st) μ) : Wa ct stt K d rc rs Q pc L (.int y :: .int x :: st) μ :=
  Wa.mv (fun p l e R s m args below meth c H locs cells slots Z ls adr C hls k => lv_irem C.1 C.2.1 hd hne k) (fun hS _ => lvv_cons lvv_int (lvv_tl (lvv_tl hS))) k
theorem Wa.ineg {ct : List CE} {stt : List SE} {K : KM} {d rc rs : Nat} {Q : Option Value → Mu → Prop} {pc : Nat} {L : List (Nat × Value)} {st : List Value} {μ : Mu} {x : Int32} (hd : decode (kB K) pc = .ok (.ineg, 1)) 
    (k : Wa ct stt K d rc rs Q (pc + 1) L (.int (-x) :: st) μ) : Wa ct stt K d rc rs Q pc L (.int x :: st) μ :=
  Wa.mv (fun p l e R s m args below meth c H locs cells slots Z ls adr C hls k => lv_ineg C.1 C.2.1 hd k) (fun hS _ => lvv_cons lvv_int (lvv_tl hS)) k
theorem Wa.ladd {ct : List CE} {stt : List SE} {K : KM} {d rc rs : Nat} {Q : Option Value → Mu → Prop} {pc : Nat} {L : List (Nat × Value)} {st : List Value} {μ : Mu} {x y : Int64} (hd : decode (kB K) pc = .ok (.ladd, 1)) 
    (k : Wa ct stt K d rc rs Q (pc + 1) L (.long (x + y) :: st) μ) : Wa ct stt K d rc rs Q pc L (.long y :: .long x :: st) μ :=
  Wa.mv (fun p l e R s m args below meth c H locs cells slots Z ls adr C hls k => lv_ladd C.1 C.2.1 hd k) (fun hS _ => lvv_cons lvv_long (lvv_tl (lvv_tl hS))) k
theorem Wa.lsub {ct : List CE} {stt : List SE} {K : KM} {d rc rs : Nat} {Q : Option Value → Mu → Prop} {pc : Nat} {L : List (Nat × Value)} {st : List Value} {μ : Mu} {x y : Int64} (hd : decode (kB K) pc = .ok (.lsub, 1)) 
    (k : Wa ct stt K d rc rs Q (pc + 1) L (.long (x - y) :: st) μ) : Wa ct stt K d rc rs Q pc L (.long y :: .long x :: st) μ :=
  Wa.mv (fun p l e R s m args below meth c H locs cells slots Z ls adr C hls k => lv_lsub C.1 C.2.1 hd k) (fun hS _ => lvv_cons lvv_long (lvv_tl (lvv_tl hS))) k
theorem Wa.lmul {ct : List CE} {stt : List SE} {K : KM} {d rc rs : Nat} {Q : Option Value → Mu → Prop} {pc : Nat} {L : List (Nat × Value)} {st : List Value} {μ : Mu} {x y : Int64} (hd : decode (kB K) pc = .ok (.lmul, 1)) 
    (k : Wa ct stt K d rc rs Q (pc + 1) L (.long (x * y) :: st) μ) : Wa ct stt K d rc rs Q pc L (.long y :: .long x :: st) μ :=
  Wa.mv (fun p l e R s m args below meth c H locs cells slots Z ls adr C hls k => lv_lmul C.1 C.2.1 hd k) (fun hS _ => lvv_cons lvv_long (lvv_tl (lvv_tl hS))) k
theorem Wa.land {ct : List CE} {stt : List SE} {K : KM} {d rc rs : Nat} {Q : Option Value → Mu → Prop} {pc : Nat} {L : List (Nat × Value)} {st : List Value} {μ : Mu} {x y : Int64} (hd : decode (kB K) pc = .ok (.land, 1)) 
    (k : Wa ct stt K d rc rs Q (pc + 1) L (.long (x &&& y) :: st) μ) : Wa ct stt K d rc rs Q pc L (.long y :: .long x :: st) μ :=
  Wa.mv (fun p l e R s m args below meth c H locs cells slots Z ls adr C hls k => lv_land C.1 C.2.1 hd k) (fun hS _ => lvv_cons lvv_long (lvv_tl (lvv_tl hS))) k
theorem Wa.lor {ct : List CE} {stt : List SE} {K : KM} {d rc rs : Nat} {Q : Option Value → Mu → Prop} {pc : Nat} {L : List (Nat × Value)} {st : List Value} {μ : Mu} {x y : Int64} (hd : decode (kB K) pc = .ok (.lor, 1)) 
    (k : Wa ct stt K d rc rs Q (pc + 1) L (.long (x ||| y) :: st) μ) : Wa ct stt K d rc rs Q pc L (.long y :: .long x :: st) μ :=
  Wa.mv (fun p l e R s m args below meth c H locs cells slots Z ls adr C hls k => lv_lor C.1 C.2.1 hd k) (fun hS _ => lvv_cons lvv_long (lvv_tl (lvv_tl hS))) k
theorem Wa.lxor {ct : List CE} {stt : List SE} {K : KM} {d rc rs : Nat} {Q : Option Value → Mu → Prop} {pc : Nat} {L : List (Nat × Value)} {st : List Value} {μ : Mu} {x y : Int64} (hd : decode (kB K) pc = .ok (.lxor, 1)) 
    (k : Wa ct stt K d rc rs Q (pc + 1) L (.long (x ^^^ y) :: st) μ) : Wa ct stt K d rc rs Q pc L (.long y :: .long x :: st) μ :=
  Wa.mv (fun p l e R s m args below meth c H locs cells slots Z ls adr C hls k => lv_lxor C.1 C.2.1 hd k) (fun hS _ => lvv_cons lvv_long (lvv_tl (lvv_tl hS))) k
theorem Wa.lshl {ct : List CE} {stt : List SE} {K : KM} {d rc rs : Nat} {Q : Option Value → Mu → Prop} {pc : Nat} {L : List (Nat × Value)} {st : List Value} {μ : Mu} {x : Int64} {y : Int32} (hd : decode (kB K) pc = .ok (.lshl, 1)) 
    (k : Wa ct stt K d rc rs Q (pc + 1) L (.long (x <<< (y.toInt64 &&& 63)) :: st) μ) : Wa ct stt K d rc rs Q pc L (.int y :: .long x :: st) μ :=
  Wa.mv (fun p l e R s m args below meth c H locs cells slots Z ls adr C hls k => lv_lshl C.1 C.2.1 hd rfl k) (fun hS _ => lvv_cons lvv_long (lvv_tl (lvv_tl hS))) k
theorem Wa.lshr {ct : List CE} {stt : List SE} {K : KM} {d rc rs : Nat} {Q : Option Value → Mu → Prop} {pc : Nat} {L : List (Nat × Value)} {st : List Value} {μ : Mu} {x : Int64} {y : Int32} (hd : decode (kB K) pc = .ok (.lshr, 1)) 
    (k : Wa ct stt K d rc rs Q (pc + 1) L (.long (x >>> (y.toInt64 &&& 63)) :: st) μ) : Wa ct stt K d rc rs Q pc L (.int y :: .long x :: st) μ :=
  Wa.mv (fun p l e R s m args below meth c H locs cells slots Z ls adr C hls k => lv_lshr C.1 C.2.1 hd rfl k) (fun hS _ => lvv_cons lvv_long (lvv_tl (lvv_tl hS))) k
theorem Wa.i2l {ct : List CE} {stt : List SE} {K : KM} {d rc rs : Nat} {Q : Option Value → Mu → Prop} {pc : Nat} {L : List (Nat × Value)} {st : List Value} {μ : Mu} {x : Int32} (hd : decode (kB K) pc = .ok (.i2l, 1)) 
    (k : Wa ct stt K d rc rs Q (pc + 1) L (.long x.toInt64 :: st) μ) : Wa ct stt K d rc rs Q pc L (.int x :: st) μ :=
  Wa.mv (fun p l e R s m args below meth c H locs cells slots Z ls adr C hls k => lv_i2l C.1 C.2.1 hd rfl k) (fun hS _ => lvv_cons lvv_long (lvv_tl hS)) k
theorem Wa.l2i {ct : List CE} {stt : List SE} {K : KM} {d rc rs : Nat} {Q : Option Value → Mu → Prop} {pc : Nat} {L : List (Nat × Value)} {st : List Value} {μ : Mu} {x : Int64} (hd : decode (kB K) pc = .ok (.l2i, 1)) 
    (k : Wa ct stt K d rc rs Q (pc + 1) L (.int x.toInt32 :: st) μ) : Wa ct stt K d rc rs Q pc L (.long x :: st) μ :=
  Wa.mv (fun p l e R s m args below meth c H locs cells slots Z ls adr C hls k => lv_l2i C.1 C.2.1 hd rfl k) (fun hS _ => lvv_cons lvv_int (lvv_tl hS)) k
theorem Wa.i2b {ct : List CE} {stt : List SE} {K : KM} {d rc rs : Nat} {Q : Option Value → Mu → Prop} {pc : Nat} {L : List (Nat × Value)} {st : List Value} {μ : Mu} {x : Int32} (hd : decode (kB K) pc = .ok (.i2b, 1)) 
    (k : Wa ct stt K d rc rs Q (pc + 1) L (.int x.toInt8.toInt32 :: st) μ) : Wa ct stt K d rc rs Q pc L (.int x :: st) μ :=
  Wa.mv (fun p l e R s m args below meth c H locs cells slots Z ls adr C hls k => lv_i2b C.1 C.2.1 hd rfl k) (fun hS _ => lvv_cons lvv_int (lvv_tl hS)) k
theorem Wa.i2c {ct : List CE} {stt : List SE} {K : KM} {d rc rs : Nat} {Q : Option Value → Mu → Prop} {pc : Nat} {L : List (Nat × Value)} {st : List Value} {μ : Mu} {x : Int32} (hd : decode (kB K) pc = .ok (.i2c, 1)) 
    (k : Wa ct stt K d rc rs Q (pc + 1) L (.int (x.toUInt32 % 65536).toInt32 :: st) μ) : Wa ct stt K d rc rs Q pc L (.int x :: st) μ :=
  Wa.mv (fun p l e R s m args below meth c H locs cells slots Z ls adr C hls k => lv_i2c C.1 C.2.1 hd rfl k) (fun hS _ => lvv_cons lvv_int (lvv_tl hS)) k
theorem Wa.lcmp {ct : List CE} {stt : List SE} {K : KM} {d rc rs : Nat} {Q : Option Value → Mu → Prop} {pc : Nat} {L : List (Nat × Value)} {st : List Value} {μ : Mu} {x y : Int64} (hd : decode (kB K) pc = .ok (.lcmp, 1)) 
    (k : Wa ct stt K d rc rs Q (pc + 1) L (.int (lg_cmp x y) :: st) μ) : Wa ct stt K d rc rs Q pc L (.long y :: .long x :: st) μ :=
  Wa.mv (fun p l e R s m args below meth c H locs cells slots Z ls adr C hls k => W.lcmp C.1 C.2.1 hd k) (fun hS _ => lvv_cons lvv_int (lvv_tl (lvv_tl hS))) k
theorem Wa.i2d {ct : List CE} {stt : List SE} {K : KM} {d rc rs : Nat} {Q : Option Value → Mu → Prop} {pc : Nat} {L : List (Nat × Value)} {st : List Value} {μ : Mu} {x : Int32} (hd : decode (kB K) pc = .ok (.i2d, 1)) 
    (k : Wa ct stt K d rc rs Q (pc + 1) L (.double (FP.i2d x) :: st) μ) : Wa ct stt K d rc rs Q pc L (.int x :: st) μ :=
  Wa.mv (fun p l e R s m args below meth c H locs cells slots Z ls adr C hls k => lv_i2d C.1 C.2.1 hd k) (fun hS _ => lvv_cons lvv_double (lvv_tl hS)) k
theorem Wa.ddiv {ct : List CE} {stt : List SE} {K : KM} {d rc rs : Nat} {Q : Option Value → Mu → Prop} {pc : Nat} {L : List (Nat × Value)} {st : List Value} {μ : Mu} {x y : UInt64} (hd : decode (kB K) pc = .ok (.ddiv, 1)) (hne : vf_n64 (FP.ddiv x y))
    (k : Wa ct stt K d rc rs Q (pc + 1) L (.double (FP.ddiv x y) :: st) μ) : Wa ct stt K d rc rs Q pc L (.double y :: .double x :: st) μ :=
  Wa.mv (fun p l e R s m args below meth c H locs cells slots Z ls adr C hls k => lv_ddiv C.1 C.2.1 hd hne k) (fun hS _ => lvv_cons lvv_double (lvv_tl (lvv_tl hS))) k
theorem Wa.dcmp {ct : List CE} {stt : List SE} {K : KM} {d rc rs : Nat} {Q : Option Value → Mu → Prop} {pc : Nat} {L : List (Nat × Value)} {st : List Value} {μ : Mu} {x y : UInt64} {op : CmpOp} (hd : decode (kB K) pc = .ok (.dcmp op, 1)) 
    (k : Wa ct stt K d rc rs Q (pc + 1) L (.int (Op.cmpValue (FP.dcmp x y) op) :: st) μ) : Wa ct stt K d rc rs Q pc L (.double y :: .double x :: st) μ :=
  Wa.mv (fun p l e R s m args below meth c H locs cells slots Z ls adr C hls k => lv_dcmp C.1 C.2.1 hd k) (fun hS _ => lvv_cons lvv_int (lvv_tl (lvv_tl hS))) k
theorem Wa.dup {ct : List CE} {stt : List SE} {K : KM} {d rc rs : Nat} {Q : Option Value → Mu → Prop} {pc : Nat} {L : List (Nat × Value)} {st : List Value} {μ : Mu} {v : Value} (hd : decode (kB K) pc = .ok (.dup, 1)) (hc : v.category = 1)
    (k : Wa ct stt K d rc rs Q (pc + 1) L (v :: v :: st) μ) : Wa ct stt K d rc rs Q pc L (v :: st) μ :=
  Wa.mv (fun p l e R s m args below meth c H locs cells slots Z ls adr C hls k => lv_dup C.1 C.2.1 hd ((cv_cat _ _).trans hc) k) (fun hS _ => lvv_cons (lvv_hd hS) hS) k
theorem Wa.pop {ct : List CE} {stt : List SE} {K : KM} {d rc rs : Nat} {Q : Option Value → Mu → Prop} {pc : Nat} {L : List (Nat × Value)} {st : List Value} {μ : Mu} {v : Value} (hd : decode (kB K) pc = .ok (.pop, 1)) (hc : v.category = 1)
    (k : Wa ct stt K d rc rs Q (pc + 1) L (st) μ) : Wa ct stt K d rc rs Q pc L (v :: st) μ :=
  Wa.mv (fun p l e R s m args below meth c H locs cells slots Z ls adr C hls k => lv_pop C.1 C.2.1 hd ((cv_cat _ _).trans hc) k) (fun hS _ => lvv_tl hS) k
theorem Wa.dup2 {ct : List CE} {stt : List SE} {K : KM} {d rc rs : Nat} {Q : Option Value → Mu → Prop} {pc : Nat} {L : List (Nat × Value)} {st : List Value} {μ : Mu} {v w : Value} (hd : decode (kB K) pc = .ok (.dup2, 1)) (hc : v.category = 1) (hc2 : w.category = 1)
    (k : Wa ct stt K d rc rs Q (pc + 1) L (v :: w :: v :: w :: st) μ) : Wa ct stt K d rc rs Q pc L (v :: w :: st) μ :=
  Wa.mv (fun p l e R s m args below meth c H locs cells slots Z ls adr C hls k => lv_dup2_11 C.1 C.2.1 hd ((cv_cat _ _).trans hc) ((cv_cat _ _).trans hc2) k) (fun hS _ => lvv_cons (lvv_hd hS) (lvv_cons (lvv_hd (lvv_tl hS)) hS)) k
theorem Wa.dup_x1 {ct : List CE} {stt : List SE} {K : KM} {d rc rs : Nat} {Q : Option Value → Mu → Prop} {pc : Nat} {L : List (Nat × Value)} {st : List Value} {μ : Mu} {v w : Value} (hd : decode (kB K) pc = .ok (.dup_x1, 1)) (hc : v.category = 1) (hc2 : w.category = 1)
    (k : Wa ct stt K d rc rs Q (pc + 1) L (v :: w :: v :: st) μ) : Wa ct stt K d rc rs Q pc L (v :: w :: st) μ :=
  Wa.mv (fun p l e R s m args below meth c H locs cells slots Z ls adr C hls k => lv_dup_x1 C.1 C.2.1 hd ((cv_cat _ _).trans hc) ((cv_cat _ _).trans hc2) k) (fun hS _ => lvv_cons (lvv_hd hS) (lvv_cons (lvv_hd (lvv_tl hS)) (lvv_cons (lvv_hd hS) (lvv_tl (lvv_tl hS))))) k
theorem Wa.ldc {ct : List CE} {stt : List SE} {K : KM} {d rc rs : Nat} {Q : Option Value → Mu → Prop} {pc : Nat} {L : List (Nat × Value)} {st : List Value} {μ : Mu} {index : Nat} {v : Int32} (hd : decode (kB K) pc = .ok (.ldc index, 2)) (hw : Cond.constant (kO K) index v ∈ tb)
    (k : Wa ct stt K d rc rs Q (pc + 2) L (.int v :: st) μ) : Wa ct stt K d rc rs Q pc L (st) μ :=
  Wa.mv (fun p l e R s m args below meth c H locs cells slots Z ls adr C hls k => lv_ldc C.1 C.2.1 C.2.2.2.2.1 (C.2.2.2.2.2.1 _ hw) hd k) (fun hS _ => lvv_cons lvv_int hS) k
theorem Wa.ldc2 {ct : List CE} {stt : List SE} {K : KM} {d rc rs : Nat} {Q : Option Value → Mu → Prop} {pc : Nat} {L : List (Nat × Value)} {st : List Value} {μ : Mu} {index : Nat} {v : Int64} (hd : decode (kB K) pc = .ok (.ldc2_w index, 3)) (hw : Cond.constantLong (kO K) index v ∈ tb)
    (k : Wa ct stt K d rc rs Q (pc + 3) L (.long v :: st) μ) : Wa ct stt K d rc rs Q pc L (st) μ :=
  Wa.mv (fun p l e R s m args below meth c H locs cells slots Z ls adr C hls k => lv_ldc2 C.1 C.2.1 C.2.2.2.2.1 (C.2.2.2.2.2.1 _ hw) hd k) (fun hS _ => lvv_cons lvv_long hS) k
theorem Wa.goto {ct : List CE} {stt : List SE} {K : KM} {d rc rs : Nat} {Q : Option Value → Mu → Prop} {pc : Nat} {L : List (Nat × Value)} {st : List Value} {μ : Mu} {off : Int} (tgt : Nat) (hd : decode (kB K) pc = .ok (.goto off, 3)) (ht : (pc : Int) + off = (tgt : Int)) (k : Wa ct stt K d rc rs Q tgt L st μ) : Wa ct stt K d rc rs Q pc L st μ :=
  Wa.mv (fun p l e R s m args below meth c H locs cells slots Z ls adr C hls k => lv_goto C.1 C.2.1 hd ht k) (fun hS _ => hS) k
theorem Wa.istore_n {ct : List CE} {stt : List SE} {K : KM} {d rc rs : Nat} {Q : Option Value → Mu → Prop} {pc : Nat} {L : List (Nat × Value)} {st : List Value} {μ : Mu} {n : Fin 4} {i : Nat} {x : Int32} {L' : List (Nat × Value)} (hd : decode (kB K) pc = .ok (.istore_n n, 1)) (hi : (n : Nat) = i) (hn : i < (kL K)) (hL : stL i (.int x) L = L')
    (k : Wa ct stt K d rc rs Q (pc + 1) L' st μ) : Wa ct stt K d rc rs Q pc L (.int x :: st) μ := by
  subst hL
  intro p l e s m args below meth c R B0 mc ms Z adr0 μ0 hC hd1 hdl hmc hms hE H locs cells slots ls adr hR hX hlo hc hs hls hL1 hS
  exact lv_istore_n hC.1 hC.2.1 hd hi hls hn (cvL_st adr i (.int x) L) (fun ls' hls' => k p l e s m args below meth c R B0 mc ms Z adr0 μ0 hC hd1 hdl hmc hms hE H locs cells slots ls' adr hR hX hlo hc hs hls' (lvv_st lvv_int hL1) (lvv_tl hS))
theorem Wa.istore {ct : List CE} {stt : List SE} {K : KM} {d rc rs : Nat} {Q : Option Value → Mu → Prop} {pc : Nat} {L : List (Nat × Value)} {st : List Value} {μ : Mu} {i : Nat} {x : Int32} {L' : List (Nat × Value)} (hd : decode (kB K) pc = .ok (.istore i, 2)) (hn : i < (kL K)) (hL : stL i (.int x) L = L')
    (k : Wa ct stt K d rc rs Q (pc + 2) L' st μ) : Wa ct stt K d rc rs Q pc L (.int x :: st) μ := by
  subst hL
  intro p l e s m args below meth c R B0 mc ms Z adr0 μ0 hC hd1 hdl hmc hms hE H locs cells slots ls adr hR hX hlo hc hs hls hL1 hS
  exact lv_istore hC.1 hC.2.1 hd hls hn (cvL_st adr i (.int x) L) (fun ls' hls' => k p l e s m args below meth c R B0 mc ms Z adr0 μ0 hC hd1 hdl hmc hms hE H locs cells slots ls' adr hR hX hlo hc hs hls' (lvv_st lvv_int hL1) (lvv_tl hS))
theorem Wa.lstore_n {ct : List CE} {stt : List SE} {K : KM} {d rc rs : Nat} {Q : Option Value → Mu → Prop} {pc : Nat} {L : List (Nat × Value)} {st : List Value} {μ : Mu} {n : Fin 4} {i : Nat} {x : Int64} {L' : List (Nat × Value)} (hd : decode (kB K) pc = .ok (.lstore_n n, 1)) (hi : (n : Nat) = i) (hn : i + 1 < (kL K)) (hL : stL2 i (.long x) L = L')
    (k : Wa ct stt K d rc rs Q (pc + 1) L' st μ) : Wa ct stt K d rc rs Q pc L (.long x :: st) μ := by
  subst hL
  intro p l e s m args below meth c R B0 mc ms Z adr0 μ0 hC hd1 hdl hmc hms hE H locs cells slots ls adr hR hX hlo hc hs hls hL1 hS
  exact lv_lstore_n hC.1 hC.2.1 hd hi hls hn (cvL_st2 adr i (.long x) L) (fun ls' hls' => k p l e s m args below meth c R B0 mc ms Z adr0 μ0 hC hd1 hdl hmc hms hE H locs cells slots ls' adr hR hX hlo hc hs hls' (lvv_st2 lvv_long hL1) (lvv_tl hS))
theorem Wa.lstore {ct : List CE} {stt : List SE} {K : KM} {d rc rs : Nat} {Q : Option Value → Mu → Prop} {pc : Nat} {L : List (Nat × Value)} {st : List Value} {μ : Mu} {i : Nat} {x : Int64} {L' : List (Nat × Value)} (hd : decode (kB K) pc = .ok (.lstore i, 2)) (hn : i + 1 < (kL K)) (hL : stL2 i (.long x) L = L')
    (k : Wa ct stt K d rc rs Q (pc + 2) L' st μ) : Wa ct stt K d rc rs Q pc L (.long x :: st) μ := by
  subst hL
  intro p l e s m args below meth c R B0 mc ms Z adr0 μ0 hC hd1 hdl hmc hms hE H locs cells slots ls adr hR hX hlo hc hs hls hL1 hS
  exact lv_lstore hC.1 hC.2.1 hd hls hn (cvL_st2 adr i (.long x) L) (fun ls' hls' => k p l e s m args below meth c R B0 mc ms Z adr0 μ0 hC hd1 hdl hmc hms hE H locs cells slots ls' adr hR hX hlo hc hs hls' (lvv_st2 lvv_long hL1) (lvv_tl hS))
theorem Wa.dstore_n {ct : List CE} {stt : List SE} {K : KM} {d rc rs : Nat} {Q : Option Value → Mu → Prop} {pc : Nat} {L : List (Nat × Value)} {st : List Value} {μ : Mu} {n : Fin 4} {i : Nat} {x : UInt64} {L' : List (Nat × Value)} (hd : decode (kB K) pc = .ok (.dstore_n n, 1)) (hi : (n : Nat) = i) (hn : i + 1 < (kL K)) (hL : stL2 i (.double x) L = L')
    (k : Wa ct stt K d rc rs Q (pc + 1) L' st μ) : Wa ct stt K d rc rs Q pc L (.double x :: st) μ := by
  subst hL
  intro p l e s m args below meth c R B0 mc ms Z adr0 μ0 hC hd1 hdl hmc hms hE H locs cells slots ls adr hR hX hlo hc hs hls hL1 hS
  exact lv_dstore_n hC.1 hC.2.1 hd hi hls hn (cvL_st2 adr i (.double x) L) (fun ls' hls' => k p l e s m args below meth c R B0 mc ms Z adr0 μ0 hC hd1 hdl hmc hms hE H locs cells slots ls' adr hR hX hlo hc hs hls' (lvv_st2 lvv_double hL1) (lvv_tl hS))
theorem Wa.dstore {ct : List CE} {stt : List SE} {K : KM} {d rc rs : Nat} {Q : Option Value → Mu → Prop} {pc : Nat} {L : List (Nat × Value)} {st : List Value} {μ : Mu} {i : Nat} {x : UInt64} {L' : List (Nat × Value)} (hd : decode (kB K) pc = .ok (.dstore i, 2)) (hn : i + 1 < (kL K)) (hL : stL2 i (.double x) L = L')
    (k : Wa ct stt K d rc rs Q (pc + 2) L' st μ) : Wa ct stt K d rc rs Q pc L (.double x :: st) μ := by
  subst hL
  intro p l e s m args below meth c R B0 mc ms Z adr0 μ0 hC hd1 hdl hmc hms hE H locs cells slots ls adr hR hX hlo hc hs hls hL1 hS
  exact lv_dstore hC.1 hC.2.1 hd hls hn (cvL_st2 adr i (.double x) L) (fun ls' hls' => k p l e s m args below meth c R B0 mc ms Z adr0 μ0 hC hd1 hdl hmc hms hE H locs cells slots ls' adr hR hX hlo hc hs hls' (lvv_st2 lvv_double hL1) (lvv_tl hS))
theorem Wa.astore_n {ct : List CE} {stt : List SE} {K : KM} {d rc rs : Nat} {Q : Option Value → Mu → Prop} {pc : Nat} {L : List (Nat × Value)} {st : List Value} {μ : Mu} {n : Fin 4} {i : Nat} {x : Nat} {L' : List (Nat × Value)} (hd : decode (kB K) pc = .ok (.astore_n n, 1)) (hi : (n : Nat) = i) (hn : i < (kL K)) (hL : stL i (.ref x) L = L')
    (k : Wa ct stt K d rc rs Q (pc + 1) L' st μ) : Wa ct stt K d rc rs Q pc L (.ref x :: st) μ := by
  subst hL
  intro p l e s m args below meth c R B0 mc ms Z adr0 μ0 hC hd1 hdl hmc hms hE H locs cells slots ls adr hR hX hlo hc hs hls hL1 hS
  exact lv_astore_n hC.1 hC.2.1 hd hi hls hn (cvL_st adr i (.ref x) L) (fun ls' hls' => k p l e s m args below meth c R B0 mc ms Z adr0 μ0 hC hd1 hdl hmc hms hE H locs cells slots ls' adr hR hX hlo hc hs hls' (lvv_st (lvv_hd hS) hL1) (lvv_tl hS))
theorem Wa.astore {ct : List CE} {stt : List SE} {K : KM} {d rc rs : Nat} {Q : Option Value → Mu → Prop} {pc : Nat} {L : List (Nat × Value)} {st : List Value} {μ : Mu} {i : Nat} {x : Nat} {L' : List (Nat × Value)} (hd : decode (kB K) pc = .ok (.astore i, 2)) (hn : i < (kL K)) (hL : stL i (.ref x) L = L')
    (k : Wa ct stt K d rc rs Q (pc + 2) L' st μ) : Wa ct stt K d rc rs Q pc L (.ref x :: st) μ := by
  subst hL
  intro p l e s m args below meth c R B0 mc ms Z adr0 μ0 hC hd1 hdl hmc hms hE H locs cells slots ls adr hR hX hlo hc hs hls hL1 hS
  exact lv_astore hC.1 hC.2.1 hd hls hn (cvL_st adr i (.ref x) L) (fun ls' hls' => k p l e s m args below meth c R B0 mc ms Z adr0 μ0 hC hd1 hdl hmc hms hE H locs cells slots ls' adr hR hX hlo hc hs hls' (lvv_st (lvv_hd hS) hL1) (lvv_tl hS))
theorem Wa.iinc {ct : List CE} {stt : List SE} {K : KM} {d rc rs : Nat} {Q : Option Value → Mu → Prop} {pc : Nat} {L : List (Nat × Value)} {st : List Value} {μ : Mu} {i j : Nat} {n : Int} {x v : Int32} {L' : List (Nat × Value)} (hd : decode (kB K) pc = .ok (.iinc i n, 3)) (hj : L[j]? = some (i, .int x)) (hv : x + Int32.ofInt n = v) (hn : i < (kL K)) (hL : stL i (.int v) L = L')
    (k : Wa ct stt K d rc rs Q (pc + 3) L' st μ) : Wa ct stt K d rc rs Q pc L st μ := by
  subst hL
  intro p l e s m args below meth c R B0 mc ms Z adr0 μ0 hC hd1 hdl hmc hms hE H locs cells slots ls adr hR hX hlo hc hs hls hL1 hS
  exact lv_iinc (k := j) hC.1 hC.2.1 hd hls (by rw [cvL, List.getElem?_map, hj]; rfl) hv hn (cvL_st adr i (.int v) L) (fun ls' hls' => k p l e s m args below meth c R B0 mc ms Z adr0 μ0 hC hd1 hdl hmc hms hE H locs cells slots ls' adr hR hX hlo hc hs hls' (lvv_st lvv_int hL1) hS)
theorem Wa.if_eq {ct : List CE} {stt : List SE} {K : KM} {d rc rs : Nat} {Q : Option Value → Mu → Prop} {pc : Nat} {L : List (Nat × Value)} {st : List Value} {μ : Mu} {x : Int32} {off : Int} (tgt : Nat) (hd : decode (kB K) pc = .ok (.ifCond .eq off, 3)) (ht : (pc : Int) + off = (tgt : Int)) (kt : x = 0 → Wa ct stt K d rc rs Q tgt L st μ) (kf : ¬ x = 0 → Wa ct stt K d rc rs Q (pc + 3) L st μ) : Wa ct stt K d rc rs Q pc L (.int x :: st) μ := by
  intro p l e s m args below meth c R B0 mc ms Z adr0 μ0 hC hd1 hdl hmc hms hE H locs cells slots ls adr hR hX hlo hc hs hls hL1 hS
  exact lv_if_eq hC.1 hC.2.1 hd ht (fun h => kt h p l e s m args below meth c R B0 mc ms Z adr0 μ0 hC hd1 hdl hmc hms hE H locs cells slots ls adr hR hX hlo hc hs hls hL1 (lvv_tl hS)) (fun h => kf h p l e s m args below meth c R B0 mc ms Z adr0 μ0 hC hd1 hdl hmc hms hE H locs cells slots ls adr hR hX hlo hc hs hls hL1 (lvv_tl hS))
theorem Wa.icmp_eq {ct : List CE} {stt : List SE} {K : KM} {d rc rs : Nat} {Q : Option Value → Mu → Prop} {pc : Nat} {L : List (Nat × Value)} {st : List Value} {μ : Mu} {x y : Int32} {off : Int} (tgt : Nat) (hd : decode (kB K) pc = .ok (.if_icmp .eq off, 3)) (ht : (pc : Int) + off = (tgt : Int)) (kt : x = y → Wa ct stt K d rc rs Q tgt L st μ) (kf : ¬ x = y → Wa ct stt K d rc rs Q (pc + 3) L st μ) : Wa ct stt K d rc rs Q pc L (.int y :: .int x :: st) μ := by
  intro p l e s m args below meth c R B0 mc ms Z adr0 μ0 hC hd1 hdl hmc hms hE H locs cells slots ls adr hR hX hlo hc hs hls hL1 hS
  exact lv_icmp_eq hC.1 hC.2.1 hd ht (fun h => kt h p l e s m args below meth c R B0 mc ms Z adr0 μ0 hC hd1 hdl hmc hms hE H locs cells slots ls adr hR hX hlo hc hs hls hL1 (lvv_tl (lvv_tl hS))) (fun h => kf h p l e s m args below meth c R B0 mc ms Z adr0 μ0 hC hd1 hdl hmc hms hE H locs cells slots ls adr hR hX hlo hc hs hls hL1 (lvv_tl (lvv_tl hS)))
theorem Wa.if_ne {ct : List CE} {stt : List SE} {K : KM} {d rc rs : Nat} {Q : Option Value → Mu → Prop} {pc : Nat} {L : List (Nat × Value)} {st : List Value} {μ : Mu} {x : Int32} {off : Int} (tgt : Nat) (hd : decode (kB K) pc = .ok (.ifCond .ne off, 3)) (ht : (pc : Int) + off = (tgt : Int)) (kt : ¬ x = 0 → Wa ct stt K d rc rs Q tgt L st μ) (kf : x = 0 → Wa ct stt K d rc rs Q (pc + 3) L st μ) : Wa ct stt K d rc rs Q pc L (.int x :: st) μ := by
  intro p l e s m args below meth c R B0 mc ms Z adr0 μ0 hC hd1 hdl hmc hms hE H locs cells slots ls adr hR hX hlo hc hs hls hL1 hS
  exact lv_if_ne hC.1 hC.2.1 hd ht (fun h => kt h p l e s m args below meth c R B0 mc ms Z adr0 μ0 hC hd1 hdl hmc hms hE H locs cells slots ls adr hR hX hlo hc hs hls hL1 (lvv_tl hS)) (fun h => kf h p l e s m args below meth c R B0 mc ms Z adr0 μ0 hC hd1 hdl hmc hms hE H locs cells slots ls adr hR hX hlo hc hs hls hL1 (lvv_tl hS))
theorem Wa.icmp_ne {ct : List CE} {stt : List SE} {K : KM} {d rc rs : Nat} {Q : Option Value → Mu → Prop} {pc : Nat} {L : List (Nat × Value)} {st : List Value} {μ : Mu} {x y : Int32} {off : Int} (tgt : Nat) (hd : decode (kB K) pc = .ok (.if_icmp .ne off, 3)) (ht : (pc : Int) + off = (tgt : Int)) (kt : ¬ x = y → Wa ct stt K d rc rs Q tgt L st μ) (kf : x = y → Wa ct stt K d rc rs Q (pc + 3) L st μ) : Wa ct stt K d rc rs Q pc L (.int y :: .int x :: st) μ := by
  intro p l e s m args below meth c R B0 mc ms Z adr0 μ0 hC hd1 hdl hmc hms hE H locs cells slots ls adr hR hX hlo hc hs hls hL1 hS
  exact lv_icmp_ne hC.1 hC.2.1 hd ht (fun h => kt h p l e s m args below meth c R B0 mc ms Z adr0 μ0 hC hd1 hdl hmc hms hE H locs cells slots ls adr hR hX hlo hc hs hls hL1 (lvv_tl (lvv_tl hS))) (fun h => kf h p l e s m args below meth c R B0 mc ms Z adr0 μ0 hC hd1 hdl hmc hms hE H locs cells slots ls adr hR hX hlo hc hs hls hL1 (lvv_tl (lvv_tl hS)))
theorem Wa.if_lt {ct : List CE} {stt : List SE} {K : KM} {d rc rs : Nat} {Q : Option Value → Mu → Prop} {pc : Nat} {L : List (Nat × Value)} {st : List Value} {μ : Mu} {x : Int32} {off : Int} (tgt : Nat) (hd : decode (kB K) pc = .ok (.ifCond .lt off, 3)) (ht : (pc : Int) + off = (tgt : Int)) (kt : x < 0 → Wa ct stt K d rc rs Q tgt L st μ) (kf : ¬ x < 0 → Wa ct stt K d rc rs Q (pc + 3) L st μ) : Wa ct stt K d rc rs Q pc L (.int x :: st) μ := by
  intro p l e s m args below meth c R B0 mc ms Z adr0 μ0 hC hd1 hdl hmc hms hE H locs cells slots ls adr hR hX hlo hc hs hls hL1 hS
  exact lv_if_lt hC.1 hC.2.1 hd ht (fun h => kt h p l e s m args below meth c R B0 mc ms Z adr0 μ0 hC hd1 hdl hmc hms hE H locs cells slots ls adr hR hX hlo hc hs hls hL1 (lvv_tl hS)) (fun h => kf h p l e s m args below meth c R B0 mc ms Z adr0 μ0 hC hd1 hdl hmc hms hE H locs cells slots ls adr hR hX hlo hc hs hls hL1 (lvv_tl hS))
theorem Wa.icmp_lt {ct : List CE} {stt : List SE} {K : KM} {d rc rs : Nat} {Q : Option Value → Mu → Prop} {pc : Nat} {L : List (Nat × Value)} {st : List Value} {μ : Mu} {x y : Int32} {off : Int} (tgt : Nat) (hd : decode (kB K) pc = .ok (.if_icmp .lt off, 3)) (ht : (pc : Int) + off = (tgt : Int)) (kt : x < y → Wa ct stt K d rc rs Q tgt L st μ) (kf : ¬ x < y → Wa ct stt K d rc rs Q (pc + 3) L st μ) : Wa ct stt K d rc rs Q pc L (.int y :: .int x :: st) μ := by
  intro p l e s m args below meth c R B0 mc ms Z adr0 μ0 hC hd1 hdl hmc hms hE H locs cells slots ls adr hR hX hlo hc hs hls hL1 hS
  exact lv_icmp_lt hC.1 hC.2.1 hd ht (fun h => kt h p l e s m args below meth c R B0 mc ms Z adr0 μ0 hC hd1 hdl hmc hms hE H locs cells slots ls adr hR hX hlo hc hs hls hL1 (lvv_tl (lvv_tl hS))) (fun h => kf h p l e s m args below meth c R B0 mc ms Z adr0 μ0 hC hd1 hdl hmc hms hE H locs cells slots ls adr hR hX hlo hc hs hls hL1 (lvv_tl (lvv_tl hS)))
theorem Wa.if_ge {ct : List CE} {stt : List SE} {K : KM} {d rc rs : Nat} {Q : Option Value → Mu → Prop} {pc : Nat} {L : List (Nat × Value)} {st : List Value} {μ : Mu} {x : Int32} {off : Int} (tgt : Nat) (hd : decode (kB K) pc = .ok (.ifCond .ge off, 3)) (ht : (pc : Int) + off = (tgt : Int)) (kt : 0 ≤ x → Wa ct stt K d rc rs Q tgt L st μ) (kf : ¬ 0 ≤ x → Wa ct stt K d rc rs Q (pc + 3) L st μ) : Wa ct stt K d rc rs Q pc L (.int x :: st) μ := by
  intro p l e s m args below meth c R B0 mc ms Z adr0 μ0 hC hd1 hdl hmc hms hE H locs cells slots ls adr hR hX hlo hc hs hls hL1 hS
  exact lv_if_ge hC.1 hC.2.1 hd ht (fun h => kt h p l e s m args below meth c R B0 mc ms Z adr0 μ0 hC hd1 hdl hmc hms hE H locs cells slots ls adr hR hX hlo hc hs hls hL1 (lvv_tl hS)) (fun h => kf h p l e s m args below meth c R B0 mc ms Z adr0 μ0 hC hd1 hdl hmc hms hE H locs cells slots ls adr hR hX hlo hc hs hls hL1 (lvv_tl hS))
theorem Wa.icmp_ge {ct : List CE} {stt : List SE} {K : KM} {d rc rs : Nat} {Q : Option Value → Mu → Prop} {pc : Nat} {L : List (Nat × Value)} {st : List Value} {μ : Mu} {x y : Int32} {off : Int} (tgt : Nat) (hd : decode (kB K) pc = .ok (.if_icmp .ge off, 3)) (ht : (pc : Int) + off = (tgt : Int)) (kt : y ≤ x → Wa ct stt K d rc rs Q tgt L st μ) (kf : ¬ y ≤ x → Wa ct stt K d rc rs Q (pc + 3) L st μ) : Wa ct stt K d rc rs Q pc L (.int y :: .int x :: st) μ := by
  intro p l e s m args below meth c R B0 mc ms Z adr0 μ0 hC hd1 hdl hmc hms hE H locs cells slots ls adr hR hX hlo hc hs hls hL1 hS
  exact lv_icmp_ge hC.1 hC.2.1 hd ht (fun h => kt h p l e s m args below meth c R B0 mc ms Z adr0 μ0 hC hd1 hdl hmc hms hE H locs cells slots ls adr hR hX hlo hc hs hls hL1 (lvv_tl (lvv_tl hS))) (fun h => kf h p l e s m args below meth c R B0 mc ms Z adr0 μ0 hC hd1 hdl hmc hms hE H locs cells slots ls adr hR hX hlo hc hs hls hL1 (lvv_tl (lvv_tl hS)))
theorem Wa.if_gt {ct : List CE} {stt : List SE} {K : KM} {d rc rs : Nat} {Q : Option Value → Mu → Prop} {pc : Nat} {L : List (Nat × Value)} {st : List Value} {μ : Mu} {x : Int32} {off : Int} (tgt : Nat) (hd : decode (kB K) pc = .ok (.ifCond .gt off, 3)) (ht : (pc : Int) + off = (tgt : Int)) (kt : 0 < x → Wa ct stt K d rc rs Q tgt L st μ) (kf : ¬ 0 < x → Wa ct stt K d rc rs Q (pc + 3) L st μ) : Wa ct stt K d rc rs Q pc L (.int x :: st) μ := by
  intro p l e s m args below meth c R B0 mc ms Z adr0 μ0 hC hd1 hdl hmc hms hE H locs cells slots ls adr hR hX hlo hc hs hls hL1 hS
  exact lv_if_gt hC.1 hC.2.1 hd ht (fun h => kt h p l e s m args below meth c R B0 mc ms Z adr0 μ0 hC hd1 hdl hmc hms hE H locs cells slots ls adr hR hX hlo hc hs hls hL1 (lvv_tl hS)) (fun h => kf h p l e s m args below meth c R B0 mc ms Z adr0 μ0 hC hd1 hdl hmc hms hE H locs cells slots ls adr hR hX hlo hc hs hls hL1 (lvv_tl hS))
theorem Wa.icmp_gt {ct : List CE} {stt : List SE} {K : KM} {d rc rs : Nat} {Q : Option Value → Mu → Prop} {pc : Nat} {L : List (Nat × Value)} {st : List Value} {μ : Mu} {x y : Int32} {off : Int} (tgt : Nat) (hd : decode (kB K) pc = .ok (.if_icmp .gt off, 3)) (ht : (pc : Int) + off = (tgt : Int)) (kt : y < x → Wa ct stt K d rc rs Q tgt L st μ) (kf : ¬ y < x → Wa ct stt K d rc rs Q (pc + 3) L st μ) : Wa ct stt K d rc rs Q pc L (.int y :: .int x :: st) μ := by
  intro p l e s m args below meth c R B0 mc ms Z adr0 μ0 hC hd1 hdl hmc hms hE H locs cells slots ls adr hR hX hlo hc hs hls hL1 hS
  exact lv_icmp_gt hC.1 hC.2.1 hd ht (fun h => kt h p l e s m args below meth c R B0 mc ms Z adr0 μ0 hC hd1 hdl hmc hms hE H locs cells slots ls adr hR hX hlo hc hs hls hL1 (lvv_tl (lvv_tl hS))) (fun h => kf h p l e s m args below meth c R B0 mc ms Z adr0 μ0 hC hd1 hdl hmc hms hE H locs cells slots ls adr hR hX hlo hc hs hls hL1 (lvv_tl (lvv_tl hS)))
theorem Wa.if_le {ct : List CE} {stt : List SE} {K : KM} {d rc rs : Nat} {Q : Option Value → Mu → Prop} {pc : Nat} {L : List (Nat × Value)} {st : List Value} {μ : Mu} {x : Int32} {off : Int} (tgt : Nat) (hd : decode (kB K) pc = .ok (.ifCond .le off, 3)) (ht : (pc : Int) + off = (tgt : Int)) (kt : x ≤ 0 → Wa ct stt K d rc rs Q tgt L st μ) (kf : ¬ x ≤ 0 → Wa ct stt K d rc rs Q (pc + 3) L st μ) : Wa ct stt K d rc rs Q pc L (.int x :: st) μ := by
  intro p l e s m args below meth c R B0 mc ms Z adr0 μ0 hC hd1 hdl hmc hms hE H locs cells slots ls adr hR hX hlo hc hs hls hL1 hS
  exact lv_if_le hC.1 hC.2.1 hd ht (fun h => kt h p l e s m args below meth c R B0 mc ms Z adr0 μ0 hC hd1 hdl hmc hms hE H locs cells slots ls adr hR hX hlo hc hs hls hL1 (lvv_tl hS)) (fun h => kf h p l e s m args below meth c R B0 mc ms Z adr0 μ0 hC hd1 hdl hmc hms hE H locs cells slots ls adr hR hX hlo hc hs hls hL1 (lvv_tl hS))
theorem Wa.icmp_le {ct : List CE} {stt : List SE} {K : KM} {d rc rs : Nat} {Q : Option Value → Mu → Prop} {pc : Nat} {L : List (Nat × Value)} {st : List Value} {μ : Mu} {x y : Int32} {off : Int} (tgt : Nat) (hd : decode (kB K) pc = .ok (.if_icmp .le off, 3)) (ht : (pc : Int) + off = (tgt : Int)) (kt : x ≤ y → Wa ct stt K d rc rs Q tgt L st μ) (kf : ¬ x ≤ y → Wa ct stt K d rc rs Q (pc + 3) L st μ) : Wa ct stt K d rc rs Q pc L (.int y :: .int x :: st) μ := by
  intro p l e s m args below meth c R B0 mc ms Z adr0 μ0 hC hd1 hdl hmc hms hE H locs cells slots ls adr hR hX hlo hc hs hls hL1 hS
  exact lv_icmp_le hC.1 hC.2.1 hd ht (fun h => kt h p l e s m args below meth c R B0 mc ms Z adr0 μ0 hC hd1 hdl hmc hms hE H locs cells slots ls adr hR hX hlo hc hs hls hL1 (lvv_tl (lvv_tl hS))) (fun h => kf h p l e s m args below meth c R B0 mc ms Z adr0 μ0 hC hd1 hdl hmc hms hE H locs cells slots ls adr hR hX hlo hc hs hls hL1 (lvv_tl (lvv_tl hS)))
theorem Wa.acmp_eq {ct : List CE} {stt : List SE} {K : KM} {d rc rs : Nat} {Q : Option Value → Mu → Prop} {pc : Nat} {L : List (Nat × Value)} {st : List Value} {μ : Mu} {a b : Nat} {off : Int} (tgt : Nat) (hd : decode (kB K) pc = .ok (.if_acmp .eq off, 3)) (hka : rwN a ∨ a % 256 = 0) (hkb : rwN b ∨ b % 256 = 0) (ht : (pc : Int) + off = (tgt : Int)) (kt : a = b → Wa ct stt K d rc rs Q tgt L st μ) (kf : ¬ a = b → Wa ct stt K d rc rs Q (pc + 3) L st μ) : Wa ct stt K d rc rs Q pc L (.ref b :: .ref a :: st) μ := by
  intro p l e s m args below meth c R B0 mc ms Z adr0 μ0 hC hd1 hdl hmc hms hE H locs cells slots ls adr hR hX hlo hc hs hls hL1 hS
  have hb' : live μ b := lvv_hd hS _ rfl
  have ha : live μ a := lvv_hd (lvv_tl hS) _ rfl
  exact lv_acmp_eq (rx := some (adr a)) (ry := some (adr b)) hC.1 hC.2.1 hd ht (fun h => kt (hR.2.2.1 _ _ ha hb' hka hkb (Option.some.inj h)) p l e s m args below meth c R B0 mc ms Z adr0 μ0 hC hd1 hdl hmc hms hE H locs cells slots ls adr hR hX hlo hc hs hls hL1 (lvv_tl (lvv_tl hS))) (fun h => kf (fun q => h (by rw [q])) p l e s m args below meth c R B0 mc ms Z adr0 μ0 hC hd1 hdl hmc hms hE H locs cells slots ls adr hR hX hlo hc hs hls hL1 (lvv_tl (lvv_tl hS)))
theorem Wa.acmp_ne {ct : List CE} {stt : List SE} {K : KM} {d rc rs : Nat} {Q : Option Value → Mu → Prop} {pc : Nat} {L : List (Nat × Value)} {st : List Value} {μ : Mu} {a b : Nat} {off : Int} (tgt : Nat) (hd : decode (kB K) pc = .ok (.if_acmp .ne off, 3)) (hka : rwN a ∨ a % 256 = 0) (hkb : rwN b ∨ b % 256 = 0) (ht : (pc : Int) + off = (tgt : Int)) (kt : ¬ a = b → Wa ct stt K d rc rs Q tgt L st μ) (kf : a = b → Wa ct stt K d rc rs Q (pc + 3) L st μ) : Wa ct stt K d rc rs Q pc L (.ref b :: .ref a :: st) μ := by
  intro p l e s m args below meth c R B0 mc ms Z adr0 μ0 hC hd1 hdl hmc hms hE H locs cells slots ls adr hR hX hlo hc hs hls hL1 hS
  have hb' : live μ b := lvv_hd hS _ rfl
  have ha : live μ a := lvv_hd (lvv_tl hS) _ rfl
  exact lv_acmp_ne (rx := some (adr a)) (ry := some (adr b)) hC.1 hC.2.1 hd ht (fun h => kt (fun q => h (by rw [q])) p l e s m args below meth c R B0 mc ms Z adr0 μ0 hC hd1 hdl hmc hms hE H locs cells slots ls adr hR hX hlo hc hs hls hL1 (lvv_tl (lvv_tl hS))) (fun h => kf (hR.2.2.1 _ _ ha hb' hka hkb (Option.some.inj h)) p l e s m args below meth c R B0 mc ms Z adr0 μ0 hC hd1 hdl hmc hms hE H locs cells slots ls adr hR hX hlo hc hs hls hL1 (lvv_tl (lvv_tl hS)))
theorem Wa.tabIn {ct : List CE} {stt : List SE} {K : KM} {d rc rs : Nat} {Q : Option Value → Mu → Prop} {pc : Nat} {L : List (Nat × Value)} {st : List Value} {μ : Mu} {dflt lo hi : Int} {offs : Array Int} {len : Nat} {x : Int32} {off : Int} (tgt : Nat) (hd : decode (kB K) pc = .ok (.tableswitch dflt lo hi offs, len)) (h1 : ¬ x.toInt < lo) (h2 : ¬ hi < x.toInt) (ho : offs[(x.toInt - lo).toNat]? = some off) (ht : (pc : Int) + off = (tgt : Int)) (k : Wa ct stt K d rc rs Q tgt L st μ) : Wa ct stt K d rc rs Q pc L (.int x :: st) μ :=
  Wa.mv (fun p l e R s m args below meth c H locs cells slots Z ls adr C hls k => lv_tableIn C.1 C.2.1 hd h1 h2 ho ht k) (fun hS _ => lvv_tl hS) k
theorem Wa.tabOut {ct : List CE} {stt : List SE} {K : KM} {d rc rs : Nat} {Q : Option Value → Mu → Prop} {pc : Nat} {L : List (Nat × Value)} {st : List Value} {μ : Mu} {dflt lo hi : Int} {offs : Array Int} {len : Nat} {x : Int32} (tgt : Nat) (hd : decode (kB K) pc = .ok (.tableswitch dflt lo hi offs, len)) (h : x.toInt < lo ∨ hi < x.toInt) (ht : (pc : Int) + dflt = (tgt : Int)) (k : Wa ct stt K d rc rs Q tgt L st μ) : Wa ct stt K d rc rs Q pc L (.int x :: st) μ :=
  Wa.mv (fun p l e R s m args below meth c H locs cells slots Z ls adr C hls k => lv_tableOut C.1 C.2.1 hd h ht k) (fun hS _ => lvv_tl hS) k
