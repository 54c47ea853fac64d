/-! the rows once more, for what the structure knows -/
abbrev Wx (K : KM) (d rc rs : Nat) (Q : Option Value → Mu → Prop) (pc : Nat) (L : List (Nat × Value)) (st : List Value) (μ : Mu) : Prop := Wa CT ST K d rc rs Q pc L st μ
/-- a contract over memories with the structure -/
def Cal (K : KM) (d rc rs : Nat) (args : List Value) (μ : Mu) (Q : Option Value → Mu → Prop) : Prop := Call CT ST K d rc rs args μ (fun r μ' => St μ' ∧ Q r μ')
theorem Cal.mono {K : KM} {d rc rs : Nat} {args : List Value} {μ : Mu} {Q Q' : Option Value → Mu → Prop} (h : Cal K d rc rs args μ Q) (hq : ∀ r μ', St μ' → Q r μ' → Q' r μ') : Cal K d rc rs args μ Q' := Call.mono h (fun r μ' ⟨a, b⟩ => ⟨a, hq r μ' a b⟩)
section WX
variable {K : KM} {d rc rs : Nat} {Q : Option Value → Mu → Prop} {pc : Nat} {L : List (Nat × Value)} {st : List Value} {μ : Mu}
theorem Wx.reti {v : Int32} (hd : decode (kB K) pc = .ok (.ireturn, 1)) (hr : kR K = some .int) (hq : Q (some (.int v)) μ) : Wx K d rc rs Q pc L [.int v] μ := Wa.ret (r := some (.int v)) (Or.inl ⟨v, rfl, hd, .int, hr, rfl⟩) hq
theorem Wx.retz {v : Int32} (hd : decode (kB K) pc = .ok (.ireturn, 1)) (hr : kR K = some .boolean) (hv : v = 0 ∨ v = 1) (hq : Q (some (.int v)) μ) : Wx K d rc rs Q pc L [.int v] μ := Wa.ret (r := some (.int v)) (Or.inl ⟨v, rfl, hd, .boolean, hr, by rcases hv with rfl | rfl <;> rfl⟩) hq
theorem Wx.retc {v : Int32} (hd : decode (kB K) pc = .ok (.ireturn, 1)) (hr : kR K = some .char) (hv : narrow .char (.int v) = .int v) (hq : Q (some (.int v)) μ) : Wx K d rc rs Q pc L [.int v] μ := Wa.ret (r := some (.int v)) (Or.inl ⟨v, rfl, hd, .char, hr, hv⟩) hq
theorem Wx.retb {v : Int32} (hd : decode (kB K) pc = .ok (.ireturn, 1)) (hr : kR K = some .byte) (hv : narrow .byte (.int v) = .int v) (hq : Q (some (.int v)) μ) : Wx K d rc rs Q pc L [.int v] μ := Wa.ret (r := some (.int v)) (Or.inl ⟨v, rfl, hd, .byte, hr, hv⟩) hq
theorem Wx.retl {v : Int64} (hd : decode (kB K) pc = .ok (.lreturn, 1)) (hr : kR K = some .long) (hq : Q (some (.long v)) μ) : Wx K d rc rs Q pc L [.long v] μ := Wa.ret (r := some (.long v)) (Or.inr (Or.inl ⟨v, rfl, hd, hr⟩)) hq
theorem Wx.retd {v : UInt64} (hd : decode (kB K) pc = .ok (.dreturn, 1)) (hr : kR K = some .double) (hq : Q (some (.double v)) μ) : Wx K d rc rs Q pc L [.double v] μ := Wa.ret (r := some (.double v)) (Or.inr (Or.inr (Or.inl ⟨v, rfl, hd, hr⟩))) hq
theorem Wx.reta {v : Nat} {C : String} (hd : decode (kB K) pc = .ok (.areturn, 1)) (hr : kR K = some (.object C)) (hq : Q (some (.ref v)) μ) : Wx K d rc rs Q pc L [.ref v] μ := Wa.ret (r := some (.ref v)) (Or.inr (Or.inr (Or.inr (Or.inl ⟨v, rfl, hd, Or.inl ⟨C, hr⟩⟩)))) hq
theorem Wx.retA {v : Nat} {C : FieldType} (hd : decode (kB K) pc = .ok (.areturn, 1)) (hr : kR K = some (.array C)) (hq : Q (some (.ref v)) μ) : Wx K d rc rs Q pc L [.ref v] μ := Wa.ret (r := some (.ref v)) (Or.inr (Or.inr (Or.inr (Or.inl ⟨v, rfl, hd, Or.inr ⟨C, hr⟩⟩)))) hq
theorem Wx.retv (hd : decode (kB K) pc = .ok (.return_, 1)) (hr : kR K = none) (hq : Q none μ) : Wx K d rc rs Q pc L [] μ := Wa.ret (r := none) (Or.inr (Or.inr (Or.inr (Or.inr ⟨rfl, hd, hr⟩)))) hq
theorem Cal.of {args : List Value} (hp : plainName (kY K).cls = true) (ho : kO K = (kY K).cls) (hL : lv_args 0 args = L) (hn : (lg_sl args).length ≤ kL K) (hT : K.2.2.2.2.2 = ([], [])) (k : Wx K d rc rs (fun r μ' => St μ' ∧ Q r μ') 0 L [] μ) : Cal K d rc rs args μ Q := Call.of hp ho hL hn hT (fun _ => k)
variable {a index : Nat} {q : CE}
theorem Wx.getI (ci k : Nat) (hd : decode (kB K) pc = .ok (.getfield index, 3)) (hf : FI ci k q .int) (hw : FLink K index (q.2.1 k)) (hrw : rwN a) (hs : mS μ a = (1, ci)) (kk : Wx K d rc rs Q (pc + 3) L (.int (mI μ a k) :: st) μ) : Wx K d rc rs Q pc L (.ref a :: st) μ := Wa.getI ci k hd hf.1 hf.2.1 hw hf.2.2 hs (by rw [gI_rw hrw]; exact kk)
theorem Wx.getR (ci k : Nat) {b : Nat} {ty : FieldType} (hd : decode (kB K) pc = .ok (.getfield index, 3)) (hf : FI ci k q ty) (ht : isRefTy ty = true) (hw : FLink K index (q.2.1 k)) (hs : mS μ a = (1, ci)) (hb : gR μ a k = some b) (kk : Wx K d rc rs Q (pc + 3) L (.ref b :: st) μ) : Wx K d rc rs Q pc L (.ref a :: st) μ := Wa.getR ci k hd hf.1 hf.2.1 hw (by rw [hf.2.2]; exact ht) hs hb kk
theorem Wx.putI (ci k : Nat) {x : Int32} (hd : decode (kB K) pc = .ok (.putfield index, 3)) (hf : FI ci k q .int) (hok : CEok q) (hw : FLink K index (q.2.1 k)) (hfin : FFin K (q.2.1 k)) (hrw : rwN a) (hs : mS μ a = (1, ci)) (kk : Wx K d rc rs Q (pc + 3) L st (setI μ a k x)) : Wx K d rc rs Q pc L (.int x :: .ref a :: st) μ := Wa.putI ci k hd hf.1 hf.2.1 hok hw hfin hf.2.2 hrw hs kk
theorem Wx.putR (ci k : Nat) {x : Nat} {ty : FieldType} (hd : decode (kB K) pc = .ok (.putfield index, 3)) (hf : FI ci k q ty) (ht : isRefTy ty = true) (hok : CEok q) (hw : FLink K index (q.2.1 k)) (hfin : FFin K (q.2.1 k)) (hrw : rwN a) (hs : mS μ a = (1, ci)) (kk : Wx K d rc rs Q (pc + 3) L st (setR μ a k x)) : Wx K d rc rs Q pc L (.ref x :: .ref a :: st) μ := Wa.putR ci k hd hf.1 hf.2.1 hok hw hfin (by rw [hf.2.2]; exact ht) hrw hs kk
theorem Wx.iald {n : Nat} {i : Int32} (hd : decode (kB K) pc = .ok (.iaload, 1)) (hrw : rwN a) (hs : mS μ a = (2, n)) (hi : vp_in i n) (kk : Wx K d rc rs Q (pc + 1) L (.int (mI μ a i.toNatClampNeg) :: st) μ) : Wx K d rc rs Q pc L (.int i :: .ref a :: st) μ := Wa.iald hd hs hi (by rw [gI_rw hrw]; exact kk)
theorem Wx.bald {n : Nat} {i : Int32} (hd : decode (kB K) pc = .ok (.baload, 1)) (hrw : rwN a) (hs : mS μ a = (4, n)) (hi : vp_in i n) (kk : Wx K d rc rs Q (pc + 1) L (.int (mI μ a i.toNatClampNeg) :: st) μ) : Wx K d rc rs Q pc L (.int i :: .ref a :: st) μ := Wa.bald hd hs hi (by rw [gI_rw hrw]; exact kk)
theorem Wx.zald {n : Nat} {i : Int32} (hd : decode (kB K) pc = .ok (.baload, 1)) (hrw : rwN a) (hs : mS μ a = (5, n)) (hi : vp_in i n) (kk : Wx K d rc rs Q (pc + 1) L (.int (mI μ a i.toNatClampNeg) :: st) μ) : Wx K d rc rs Q pc L (.int i :: .ref a :: st) μ := Wa.zald hd hs hi (by rw [gI_rw hrw]; exact kk)
/-- the switch table's number of a kind -/
def swv (k : Nat) : Int32 := kSw.getD k 0
theorem Wx.swald {k : Nat} (hS : St μ) (hd1 : decode (kB K) pc = .ok (.iaload, 1)) (hk : k < 49) (kk : Wx K d rc rs Q (pc + 1) L (.int (swv k) :: st) μ) : Wx K d rc rs Q pc L (.int (nI k) :: .ref (hd 3 0) :: st) μ := by
  have e : gI μ (hd 3 0) (nI k).toNatClampNeg = swv k := by
    unfold gI
    rw [if_pos (by rw [hd_mod (by decide)]; decide), nI_clamp (by omega)]
    unfold cI
    rw [hd_mod (by decide)]
    rfl
  exact Wa.iald hd1 (s_3 hS (by decide)) (vp_in_nI hk (by decide)) (by rw [e]; exact kk)
theorem Wx.gets {C n de : String} {v : Value} (hd : decode (kB K) pc = .ok (.getstatic index, 3)) (hsq : (C, n, de, v) ∈ ST) (hw : GLinkO (kO K) index C n de) (kk : Wx K d rc rs Q (pc + 3) L (v :: st) μ) : Wx K d rc rs Q pc L st μ := Wa.gets hd hsq hw kk
theorem Wx.acmp_ne {κ i j : Nat} {off : Int} (tgt : Nat) (hκ : κ < 256) (hk : rwN (hd κ i) ∨ hd κ i % 256 = 0) (hk' : rwN (hd κ j) ∨ hd κ j % 256 = 0) (hd1 : decode (kB K) pc = .ok (.if_acmp .ne off, 3)) (ht : (pc : Int) + off = (tgt : Int)) (kt : ¬ i = j → Wx K d rc rs Q tgt L st μ) (kf : i = j → Wx K d rc rs Q (pc + 3) L st μ) : Wx K d rc rs Q pc L (.ref (hd κ j) :: .ref (hd κ i) :: st) μ :=
  Wa.acmp_ne tgt hd1 hk hk' ht (fun h => kt (fun e => h (by rw [e]))) (fun h => kf ((hd_inj hκ hκ).mp h).2)
theorem Wx.acmp_eq {κ i j : Nat} {off : Int} (tgt : Nat) (hκ : κ < 256) (hk : rwN (hd κ i) ∨ hd κ i % 256 = 0) (hk' : rwN (hd κ j) ∨ hd κ j % 256 = 0) (hd1 : decode (kB K) pc = .ok (.if_acmp .eq off, 3)) (ht : (pc : Int) + off = (tgt : Int)) (kt : i = j → Wx K d rc rs Q tgt L st μ) (kf : ¬ i = j → Wx K d rc rs Q (pc + 3) L st μ) : Wx K d rc rs Q pc L (.ref (hd κ j) :: .ref (hd κ i) :: st) μ :=
  Wa.acmp_eq tgt hd1 hk hk' ht (fun h => kt ((hd_inj hκ hκ).mp h).2) (fun h => kf (fun e => h (by rw [e])))
theorem kz {i : Nat} : rwN (hd 0 i) ∨ hd 0 i % 256 = 0 := Or.inr (hd_mod (by decide))
theorem Wx.iushr {x y : Int32} (hd : decode (kB K) pc = .ok (.iushr, 1)) (kk : Wx K d rc rs Q (pc + 1) L (.int (x.toUInt32 >>> (y.toUInt32 &&& Int32.toUInt32 31)).toInt32 :: st) μ) : Wx K d rc rs Q pc L (.int y :: .int x :: st) μ :=
  Wa.mv (fun p l e R s m args below meth c H locs cells slots Z ls adr C hls k => lv_iushr C.1 C.2.1 hd rfl k) (fun hS _ => lvv_cons lvv_int (lvv_tl (lvv_tl hS))) kk
theorem Wx.ldcw {v : Int32} (hd : decode (kB K) pc = .ok (.ldc_w index, 3)) (hw : Cond.constant (kO K) index v ∈ tb) (kk : Wx K d rc rs Q (pc + 3) L (.int v :: st) μ) : Wx K d rc rs Q pc L st μ :=
  Wa.mv (fun p l e R s m args below meth c H locs cells slots Z ls adr C hls k => lv_ldcw C.1 C.2.1 C.2.2.2.2.1 (C.2.2.2.2.2.1 _ hw) hd k) (fun hS _ => lvv_cons lvv_int hS) kk
/-! calls -/
variable {K' : KM} {n b : Nat} {As st0 : List Value}

theorem Wx.cVi (ci d' rc' rs' : Nat) (F : Int32 → Mu → Prop) (hd : decode (kB K) pc = .ok (.invokevirtual index, 3)) (hM : MOK K' n) (hlk : VLink K index q.1 (kY K')) (hq : CT[ci]? = some q) (hst : st0 = As.reverse ++ .ref b :: st) (hn : As.length = n) (hcat : (st.map fun v => v.category).sum ≤ 8) (hdd : d' + 1 ≤ d) (hrc : rc' ≤ rc) (hrs : rs' ≤ rs) (hs : mS μ b = (1, ci))
    (hcall : Cal K' d' rc' rs' (.ref b :: As) μ (fun r μ' => ∃ x, r = some (.int x) ∧ F x μ')) (kk : ∀ (x : Int32) μ', St μ' → F x μ' → Wx K d (rc - rc') (rs - rs') Q (pc + 3) L (.int x :: st) μ') : Wx K d rc rs Q pc L st0 μ :=
  Wa.callV ci d' rc' rs' hd hM hlk hq hst hn hcat hdd hrc hrs hs hcall (fun r μ' h => by
    obtain ⟨h1, x, rfl, h2⟩ := h
    exact kk x μ' h1 h2)
theorem Wx.cSi (d' rc' rs' : Nat) (F : Int32 → Mu → Prop) (hd : decode (kB K) pc = .ok (.invokestatic index, 3)) (hM : MOK K' n) (hlk : SLink K index (kY K')) (hst : st0 = As.reverse ++ st) (hn : As.length = n) (hcat : (st.map fun v => v.category).sum ≤ 8) (hdd : d' + 1 ≤ d) (hrc : rc' ≤ rc) (hrs : rs' ≤ rs)
    (hcall : Cal K' d' rc' rs' As μ (fun r μ' => ∃ x, r = some (.int x) ∧ F x μ')) (kk : ∀ (x : Int32) μ', St μ' → F x μ' → Wx K d (rc - rc') (rs - rs') Q (pc + 3) L (.int x :: st) μ') : Wx K d rc rs Q pc L st0 μ :=
  Wa.callS d' rc' rs' hd hM hlk hst hn hcat hdd hrc hrs hcall (fun r μ' h => by
    obtain ⟨h1, x, rfl, h2⟩ := h
    exact kk x μ' h1 h2)
theorem Wx.cVl (ci d' rc' rs' : Nat) (F : Int64 → Mu → Prop) (hd : decode (kB K) pc = .ok (.invokevirtual index, 3)) (hM : MOK K' n) (hlk : VLink K index q.1 (kY K')) (hq : CT[ci]? = some q) (hst : st0 = As.reverse ++ .ref b :: st) (hn : As.length = n) (hcat : (st.map fun v => v.category).sum ≤ 8) (hdd : d' + 1 ≤ d) (hrc : rc' ≤ rc) (hrs : rs' ≤ rs) (hs : mS μ b = (1, ci))
    (hcall : Cal K' d' rc' rs' (.ref b :: As) μ (fun r μ' => ∃ x, r = some (.long x) ∧ F x μ')) (kk : ∀ (x : Int64) μ', St μ' → F x μ' → Wx K d (rc - rc') (rs - rs') Q (pc + 3) L (.long x :: st) μ') : Wx K d rc rs Q pc L st0 μ :=
  Wa.callV ci d' rc' rs' hd hM hlk hq hst hn hcat hdd hrc hrs hs hcall (fun r μ' h => by
    obtain ⟨h1, x, rfl, h2⟩ := h
    exact kk x μ' h1 h2)
theorem Wx.cSl (d' rc' rs' : Nat) (F : Int64 → Mu → Prop) (hd : decode (kB K) pc = .ok (.invokestatic index, 3)) (hM : MOK K' n) (hlk : SLink K index (kY K')) (hst : st0 = As.reverse ++ st) (hn : As.length = n) (hcat : (st.map fun v => v.category).sum ≤ 8) (hdd : d' + 1 ≤ d) (hrc : rc' ≤ rc) (hrs : rs' ≤ rs)
    (hcall : Cal K' d' rc' rs' As μ (fun r μ' => ∃ x, r = some (.long x) ∧ F x μ')) (kk : ∀ (x : Int64) μ', St μ' → F x μ' → Wx K d (rc - rc') (rs - rs') Q (pc + 3) L (.long x :: st) μ') : Wx K d rc rs Q pc L st0 μ :=
  Wa.callS d' rc' rs' hd hM hlk hst hn hcat hdd hrc hrs hcall (fun r μ' h => by
    obtain ⟨h1, x, rfl, h2⟩ := h
    exact kk x μ' h1 h2)
theorem Wx.cVd (ci d' rc' rs' : Nat) (F : UInt64 → Mu → Prop) (hd : decode (kB K) pc = .ok (.invokevirtual index, 3)) (hM : MOK K' n) (hlk : VLink K index q.1 (kY K')) (hq : CT[ci]? = some q) (hst : st0 = As.reverse ++ .ref b :: st) (hn : As.length = n) (hcat : (st.map fun v => v.category).sum ≤ 8) (hdd : d' + 1 ≤ d) (hrc : rc' ≤ rc) (hrs : rs' ≤ rs) (hs : mS μ b = (1, ci))
    (hcall : Cal K' d' rc' rs' (.ref b :: As) μ (fun r μ' => ∃ x, r = some (.double x) ∧ F x μ')) (kk : ∀ (x : UInt64) μ', St μ' → F x μ' → Wx K d (rc - rc') (rs - rs') Q (pc + 3) L (.double x :: st) μ') : Wx K d rc rs Q pc L st0 μ :=
  Wa.callV ci d' rc' rs' hd hM hlk hq hst hn hcat hdd hrc hrs hs hcall (fun r μ' h => by
    obtain ⟨h1, x, rfl, h2⟩ := h
    exact kk x μ' h1 h2)
theorem Wx.cSd (d' rc' rs' : Nat) (F : UInt64 → Mu → Prop) (hd : decode (kB K) pc = .ok (.invokestatic index, 3)) (hM : MOK K' n) (hlk : SLink K index (kY K')) (hst : st0 = As.reverse ++ st) (hn : As.length = n) (hcat : (st.map fun v => v.category).sum ≤ 8) (hdd : d' + 1 ≤ d) (hrc : rc' ≤ rc) (hrs : rs' ≤ rs)
    (hcall : Cal K' d' rc' rs' As μ (fun r μ' => ∃ x, r = some (.double x) ∧ F x μ')) (kk : ∀ (x : UInt64) μ', St μ' → F x μ' → Wx K d (rc - rc') (rs - rs') Q (pc + 3) L (.double x :: st) μ') : Wx K d rc rs Q pc L st0 μ :=
  Wa.callS d' rc' rs' hd hM hlk hst hn hcat hdd hrc hrs hcall (fun r μ' h => by
    obtain ⟨h1, x, rfl, h2⟩ := h
    exact kk x μ' h1 h2)
theorem Wx.cVr (ci d' rc' rs' : Nat) {κ m : Nat} (F : Nat → Mu → Prop) (hd1 : decode (kB K) pc = .ok (.invokevirtual index, 3)) (hM : MOK K' n) (hlk : VLink K index q.1 (kY K')) (hq : CT[ci]? = some q) (hst : st0 = As.reverse ++ .ref b :: st) (hn : As.length = n) (hcat : (st.map fun v => v.category).sum ≤ 8) (hdd : d' + 1 ≤ d) (hrc : rc' ≤ rc) (hrs : rs' ≤ rs) (hs : mS μ b = (1, ci))
    (hcall : Cal K' d' rc' rs' (.ref b :: As) μ (fun r μ' => ∃ x, r = some (.ref (hd κ x)) ∧ x < m ∧ F x μ')) (kk : ∀ (x : Nat) μ', St μ' → x < m → F x μ' → Wx K d (rc - rc') (rs - rs') Q (pc + 3) L (.ref (hd κ x) :: st) μ') : Wx K d rc rs Q pc L st0 μ :=
  Wa.callV ci d' rc' rs' hd1 hM hlk hq hst hn hcat hdd hrc hrs hs hcall (fun r μ' h => by
    obtain ⟨h1, x, rfl, h2, h3⟩ := h
    exact kk x μ' h1 h2 h3)
theorem Wx.cVv (ci d' rc' rs' : Nat) (F : Mu → Prop) (hd1 : decode (kB K) pc = .ok (.invokevirtual index, 3)) (hM : MOK K' n) (hlk : VLink K index q.1 (kY K')) (hq : CT[ci]? = some q) (hst : st0 = As.reverse ++ .ref b :: st) (hn : As.length = n) (hcat : (st.map fun v => v.category).sum ≤ 8) (hdd : d' + 1 ≤ d) (hrc : rc' ≤ rc) (hrs : rs' ≤ rs) (hs : mS μ b = (1, ci))
    (hcall : Cal K' d' rc' rs' (.ref b :: As) μ (fun r μ' => r = none ∧ F μ')) (kk : ∀ μ', St μ' → F μ' → Wx K d (rc - rc') (rs - rs') Q (pc + 3) L st μ') : Wx K d rc rs Q pc L st0 μ :=
  Wa.callV ci d' rc' rs' hd1 hM hlk hq hst hn hcat hdd hrc hrs hs hcall (fun r μ' h => by
    obtain ⟨h1, rfl, h2⟩ := h
    exact kk μ' h1 h2)
theorem Wx.cSv (d' rc' rs' : Nat) (F : Mu → Prop) (hd1 : decode (kB K) pc = .ok (.invokestatic index, 3)) (hM : MOK K' n) (hlk : SLink K index (kY K')) (hst : st0 = As.reverse ++ st) (hn : As.length = n) (hcat : (st.map fun v => v.category).sum ≤ 8) (hdd : d' + 1 ≤ d) (hrc : rc' ≤ rc) (hrs : rs' ≤ rs)
    (hcall : Cal K' d' rc' rs' As μ (fun r μ' => r = none ∧ F μ')) (kk : ∀ μ', St μ' → F μ' → Wx K d (rc - rc') (rs - rs') Q (pc + 3) L st μ') : Wx K d rc rs Q pc L st0 μ :=
  Wa.callS d' rc' rs' hd1 hM hlk hst hn hcat hdd hrc hrs hcall (fun r μ' h => by
    obtain ⟨h1, rfl, h2⟩ := h
    exact kk μ' h1 h2)
theorem c_ordinal {d rc rs i : Nat} {Q : Option Value → Mu → Prop} {μ : Mu} (hS : St μ) (hi : i < 49) (hq : Q (some (.int (nI i))) μ) : Cal K_En_ordinal_8abf5 d rc rs [.ref (hd 0 i)] μ Q := by
  refine Cal.of (by decide +kernel) rfl rfl (Nat.le_of_ble_eq_true rfl) rfl ?_
  refine Wa.aload_n (j := 0) d_En_ordinal_8abf5_0 rfl ?_
  refine Wa.getI 14 0 d_En_ordinal_8abf5_1 f_Ki_0.1 f_Ki_0.2.1 fl_En_7 f_Ki_0.2.2 (s_0 hS hi) ?_
  have e : gI μ (hd 0 i) 0 = nI i := by
    unfold gI cI
    rw [hd_mod (by decide), hd_div (by decide)]
    rfl
  rw [e]
  exact Wx.reti d_En_ordinal_8abf5_4 rfl ⟨hS, hq⟩
theorem Wx.ord {i : Nat} (hS : St μ) (hd1 : decode (kB K) pc = .ok (.invokevirtual index, 3)) (hlk : ULink K index "ParishBoards$Kind" ⟨"ParishBoards$Kind", "ordinal", "()I"⟩ "java/lang/Enum" (kY K_En_ordinal_8abf5)) (hcat : (st.map fun v => v.category).sum ≤ 8) (hD : 1 ≤ d) (hi : i < 49) (kk : Wx K d rc rs Q (pc + 3) L (.int (nI i) :: st) μ) : Wx K d rc rs Q pc L (.ref (hd 0 i) :: st) μ :=
  Wa.callU (q := E_Ki) (x := ⟨"ParishBoards$Kind", "ordinal", "()I"⟩) 14 0 0 0 hd1 mok_En_ordinal_8abf5 hlk rfl hcat (by omega) (Nat.zero_le _) (Nat.zero_le _) (s_0 hS hi) (c_ordinal (Q := fun r μ' => r = some (.int (nI i)) ∧ μ' = μ) hS hi ⟨rfl, rfl⟩) (fun r μ' h => by
    obtain ⟨h1, rfl, rfl⟩ := h
    exact kk)
end WX
theorem sw_0_3 (x : Int32) : x.toInt < 0 ∨ 3 < x.toInt ∨ x = 0 ∨ x = 1 ∨ x = 2 ∨ x = 3 := by
  rcases (by omega : x.toInt < 0 ∨ 3 < x.toInt ∨ x.toInt = 0 ∨ x.toInt = 1 ∨ x.toInt = 2 ∨ x.toInt = 3) with h | h | h | h | h | h
  · exact Or.inl h
  · exact Or.inr (Or.inl h)
  · exact (Or.inr (Or.inr (Or.inl (Int32.toInt_inj.mp (h.trans (by decide : (0 : Int) = (0 : Int32).toInt))))))
  · exact (Or.inr (Or.inr (Or.inr (Or.inl (Int32.toInt_inj.mp (h.trans (by decide : (1 : Int) = (1 : Int32).toInt)))))))
  · exact (Or.inr (Or.inr (Or.inr (Or.inr (Or.inl (Int32.toInt_inj.mp (h.trans (by decide : (2 : Int) = (2 : Int32).toInt))))))))
  · exact (Or.inr (Or.inr (Or.inr (Or.inr (Or.inr (Int32.toInt_inj.mp (h.trans (by decide : (3 : Int) = (3 : Int32).toInt))))))))
theorem sw_0_4 (x : Int32) : x.toInt < 0 ∨ 4 < x.toInt ∨ x = 0 ∨ x = 1 ∨ x = 2 ∨ x = 3 ∨ x = 4 := by
  rcases (by omega : x.toInt < 0 ∨ 4 < x.toInt ∨ x.toInt = 0 ∨ x.toInt = 1 ∨ x.toInt = 2 ∨ x.toInt = 3 ∨ x.toInt = 4) with h | h | h | h | h | h | h
  · exact Or.inl h
  · exact Or.inr (Or.inl h)
  · exact (Or.inr (Or.inr (Or.inl (Int32.toInt_inj.mp (h.trans (by decide : (0 : Int) = (0 : Int32).toInt))))))
  · exact (Or.inr (Or.inr (Or.inr (Or.inl (Int32.toInt_inj.mp (h.trans (by decide : (1 : Int) = (1 : Int32).toInt)))))))
  · exact (Or.inr (Or.inr (Or.inr (Or.inr (Or.inl (Int32.toInt_inj.mp (h.trans (by decide : (2 : Int) = (2 : Int32).toInt))))))))
  · exact (Or.inr (Or.inr (Or.inr (Or.inr (Or.inr (Or.inl (Int32.toInt_inj.mp (h.trans (by decide : (3 : Int) = (3 : Int32).toInt)))))))))
  · exact (Or.inr (Or.inr (Or.inr (Or.inr (Or.inr (Or.inr (Int32.toInt_inj.mp (h.trans (by decide : (4 : Int) = (4 : Int32).toInt)))))))))
theorem sw_0_5 (x : Int32) : x.toInt < 0 ∨ 5 < x.toInt ∨ x = 0 ∨ x = 1 ∨ x = 2 ∨ x = 3 ∨ x = 4 ∨ x = 5 := by
  rcases (by omega : x.toInt < 0 ∨ 5 < x.toInt ∨ x.toInt = 0 ∨ x.toInt = 1 ∨ x.toInt = 2 ∨ x.toInt = 3 ∨ x.toInt = 4 ∨ x.toInt = 5) with h | h | h | h | h | h | h | h
  · exact Or.inl h
  · exact Or.inr (Or.inl h)
  · exact (Or.inr (Or.inr (Or.inl (Int32.toInt_inj.mp (h.trans (by decide : (0 : Int) = (0 : Int32).toInt))))))
  · exact (Or.inr (Or.inr (Or.inr (Or.inl (Int32.toInt_inj.mp (h.trans (by decide : (1 : Int) = (1 : Int32).toInt)))))))
  · exact (Or.inr (Or.inr (Or.inr (Or.inr (Or.inl (Int32.toInt_inj.mp (h.trans (by decide : (2 : Int) = (2 : Int32).toInt))))))))
  · exact (Or.inr (Or.inr (Or.inr (Or.inr (Or.inr (Or.inl (Int32.toInt_inj.mp (h.trans (by decide : (3 : Int) = (3 : Int32).toInt)))))))))
  · exact (Or.inr (Or.inr (Or.inr (Or.inr (Or.inr (Or.inr (Or.inl (Int32.toInt_inj.mp (h.trans (by decide : (4 : Int) = (4 : Int32).toInt))))))))))
  · exact (Or.inr (Or.inr (Or.inr (Or.inr (Or.inr (Or.inr (Or.inr (Int32.toInt_inj.mp (h.trans (by decide : (5 : Int) = (5 : Int32).toInt))))))))))
theorem sw_0_7 (x : Int32) : x.toInt < 0 ∨ 7 < x.toInt ∨ x = 0 ∨ x = 1 ∨ x = 2 ∨ x = 3 ∨ x = 4 ∨ x = 5 ∨ x = 6 ∨ x = 7 := by
  rcases (by omega : x.toInt < 0 ∨ 7 < x.toInt ∨ x.toInt = 0 ∨ x.toInt = 1 ∨ x.toInt = 2 ∨ x.toInt = 3 ∨ x.toInt = 4 ∨ x.toInt = 5 ∨ x.toInt = 6 ∨ x.toInt = 7) with h | h | h | h | h | h | h | h | h | h
  · exact Or.inl h
  · exact Or.inr (Or.inl h)
  · exact (Or.inr (Or.inr (Or.inl (Int32.toInt_inj.mp (h.trans (by decide : (0 : Int) = (0 : Int32).toInt))))))
  · exact (Or.inr (Or.inr (Or.inr (Or.inl (Int32.toInt_inj.mp (h.trans (by decide : (1 : Int) = (1 : Int32).toInt)))))))
  · exact (Or.inr (Or.inr (Or.inr (Or.inr (Or.inl (Int32.toInt_inj.mp (h.trans (by decide : (2 : Int) = (2 : Int32).toInt))))))))
  · exact (Or.inr (Or.inr (Or.inr (Or.inr (Or.inr (Or.inl (Int32.toInt_inj.mp (h.trans (by decide : (3 : Int) = (3 : Int32).toInt)))))))))
  · exact (Or.inr (Or.inr (Or.inr (Or.inr (Or.inr (Or.inr (Or.inl (Int32.toInt_inj.mp (h.trans (by decide : (4 : Int) = (4 : Int32).toInt))))))))))
  · exact (Or.inr (Or.inr (Or.inr (Or.inr (Or.inr (Or.inr (Or.inr (Or.inl (Int32.toInt_inj.mp (h.trans (by decide : (5 : Int) = (5 : Int32).toInt)))))))))))
  · exact (Or.inr (Or.inr (Or.inr (Or.inr (Or.inr (Or.inr (Or.inr (Or.inr (Or.inl (Int32.toInt_inj.mp (h.trans (by decide : (6 : Int) = (6 : Int32).toInt))))))))))))
  · exact (Or.inr (Or.inr (Or.inr (Or.inr (Or.inr (Or.inr (Or.inr (Or.inr (Or.inr (Int32.toInt_inj.mp (h.trans (by decide : (7 : Int) = (7 : Int32).toInt))))))))))))
theorem sw_0_11 (x : Int32) : x.toInt < 0 ∨ 11 < x.toInt ∨ x = 0 ∨ x = 1 ∨ x = 2 ∨ x = 3 ∨ x = 4 ∨ x = 5 ∨ x = 6 ∨ x = 7 ∨ x = 8 ∨ x = 9 ∨ x = 10 ∨ x = 11 := by
  rcases (by omega : x.toInt < 0 ∨ 11 < x.toInt ∨ x.toInt = 0 ∨ x.toInt = 1 ∨ x.toInt = 2 ∨ x.toInt = 3 ∨ x.toInt = 4 ∨ x.toInt = 5 ∨ x.toInt = 6 ∨ x.toInt = 7 ∨ x.toInt = 8 ∨ x.toInt = 9 ∨ x.toInt = 10 ∨ x.toInt = 11) with h | h | h | h | h | h | h | h | h | h | h | h | h | h
  · exact Or.inl h
  · exact Or.inr (Or.inl h)
  · exact (Or.inr (Or.inr (Or.inl (Int32.toInt_inj.mp (h.trans (by decide : (0 : Int) = (0 : Int32).toInt))))))
  · exact (Or.inr (Or.inr (Or.inr (Or.inl (Int32.toInt_inj.mp (h.trans (by decide : (1 : Int) = (1 : Int32).toInt)))))))
  · exact (Or.inr (Or.inr (Or.inr (Or.inr (Or.inl (Int32.toInt_inj.mp (h.trans (by decide : (2 : Int) = (2 : Int32).toInt))))))))
  · exact (Or.inr (Or.inr (Or.inr (Or.inr (Or.inr (Or.inl (Int32.toInt_inj.mp (h.trans (by decide : (3 : Int) = (3 : Int32).toInt)))))))))
  · exact (Or.inr (Or.inr (Or.inr (Or.inr (Or.inr (Or.inr (Or.inl (Int32.toInt_inj.mp (h.trans (by decide : (4 : Int) = (4 : Int32).toInt))))))))))
  · exact (Or.inr (Or.inr (Or.inr (Or.inr (Or.inr (Or.inr (Or.inr (Or.inl (Int32.toInt_inj.mp (h.trans (by decide : (5 : Int) = (5 : Int32).toInt)))))))))))
  · exact (Or.inr (Or.inr (Or.inr (Or.inr (Or.inr (Or.inr (Or.inr (Or.inr (Or.inl (Int32.toInt_inj.mp (h.trans (by decide : (6 : Int) = (6 : Int32).toInt))))))))))))
  · exact (Or.inr (Or.inr (Or.inr (Or.inr (Or.inr (Or.inr (Or.inr (Or.inr (Or.inr (Or.inl (Int32.toInt_inj.mp (h.trans (by decide : (7 : Int) = (7 : Int32).toInt)))))))))))))
  · exact (Or.inr (Or.inr (Or.inr (Or.inr (Or.inr (Or.inr (Or.inr (Or.inr (Or.inr (Or.inr (Or.inl (Int32.toInt_inj.mp (h.trans (by decide : (8 : Int) = (8 : Int32).toInt))))))))))))))
  · exact (Or.inr (Or.inr (Or.inr (Or.inr (Or.inr (Or.inr (Or.inr (Or.inr (Or.inr (Or.inr (Or.inr (Or.inl (Int32.toInt_inj.mp (h.trans (by decide : (9 : Int) = (9 : Int32).toInt)))))))))))))))
  · exact (Or.inr (Or.inr (Or.inr (Or.inr (Or.inr (Or.inr (Or.inr (Or.inr (Or.inr (Or.inr (Or.inr (Or.inr (Or.inl (Int32.toInt_inj.mp (h.trans (by decide : (10 : Int) = (10 : Int32).toInt))))))))))))))))
  · exact (Or.inr (Or.inr (Or.inr (Or.inr (Or.inr (Or.inr (Or.inr (Or.inr (Or.inr (Or.inr (Or.inr (Or.inr (Or.inr (Int32.toInt_inj.mp (h.trans (by decide : (11 : Int) = (11 : Int32).toInt))))))))))))))))
theorem sw_1_7 (x : Int32) : x.toInt < 1 ∨ 7 < x.toInt ∨ x = 1 ∨ x = 2 ∨ x = 3 ∨ x = 4 ∨ x = 5 ∨ x = 6 ∨ x = 7 := by
  rcases (by omega : x.toInt < 1 ∨ 7 < x.toInt ∨ x.toInt = 1 ∨ x.toInt = 2 ∨ x.toInt = 3 ∨ x.toInt = 4 ∨ x.toInt = 5 ∨ x.toInt = 6 ∨ x.toInt = 7) with h | h | h | h | h | h | h | h | h
  · exact Or.inl h
  · exact Or.inr (Or.inl h)
  · exact (Or.inr (Or.inr (Or.inl (Int32.toInt_inj.mp (h.trans (by decide : (1 : Int) = (1 : Int32).toInt))))))
  · exact (Or.inr (Or.inr (Or.inr (Or.inl (Int32.toInt_inj.mp (h.trans (by decide : (2 : Int) = (2 : Int32).toInt)))))))
  · exact (Or.inr (Or.inr (Or.inr (Or.inr (Or.inl (Int32.toInt_inj.mp (h.trans (by decide : (3 : Int) = (3 : Int32).toInt))))))))
  · exact (Or.inr (Or.inr (Or.inr (Or.inr (Or.inr (Or.inl (Int32.toInt_inj.mp (h.trans (by decide : (4 : Int) = (4 : Int32).toInt)))))))))
  · exact (Or.inr (Or.inr (Or.inr (Or.inr (Or.inr (Or.inr (Or.inl (Int32.toInt_inj.mp (h.trans (by decide : (5 : Int) = (5 : Int32).toInt))))))))))
  · exact (Or.inr (Or.inr (Or.inr (Or.inr (Or.inr (Or.inr (Or.inr (Or.inl (Int32.toInt_inj.mp (h.trans (by decide : (6 : Int) = (6 : Int32).toInt)))))))))))
  · exact (Or.inr (Or.inr (Or.inr (Or.inr (Or.inr (Or.inr (Or.inr (Or.inr (Int32.toInt_inj.mp (h.trans (by decide : (7 : Int) = (7 : Int32).toInt)))))))))))
theorem sw_1_13 (x : Int32) : x.toInt < 1 ∨ 13 < x.toInt ∨ x = 1 ∨ x = 2 ∨ x = 3 ∨ x = 4 ∨ x = 5 ∨ x = 6 ∨ x = 7 ∨ x = 8 ∨ x = 9 ∨ x = 10 ∨ x = 11 ∨ x = 12 ∨ x = 13 := by
  rcases (by omega : x.toInt < 1 ∨ 13 < x.toInt ∨ x.toInt = 1 ∨ x.toInt = 2 ∨ x.toInt = 3 ∨ x.toInt = 4 ∨ x.toInt = 5 ∨ x.toInt = 6 ∨ x.toInt = 7 ∨ x.toInt = 8 ∨ x.toInt = 9 ∨ x.toInt = 10 ∨ x.toInt = 11 ∨ x.toInt = 12 ∨ x.toInt = 13) with h | h | h | h | h | h | h | h | h | h | h | h | h | h | h
  · exact Or.inl h
  · exact Or.inr (Or.inl h)
  · exact (Or.inr (Or.inr (Or.inl (Int32.toInt_inj.mp (h.trans (by decide : (1 : Int) = (1 : Int32).toInt))))))
  · exact (Or.inr (Or.inr (Or.inr (Or.inl (Int32.toInt_inj.mp (h.trans (by decide : (2 : Int) = (2 : Int32).toInt)))))))
  · exact (Or.inr (Or.inr (Or.inr (Or.inr (Or.inl (Int32.toInt_inj.mp (h.trans (by decide : (3 : Int) = (3 : Int32).toInt))))))))
  · exact (Or.inr (Or.inr (Or.inr (Or.inr (Or.inr (Or.inl (Int32.toInt_inj.mp (h.trans (by decide : (4 : Int) = (4 : Int32).toInt)))))))))
  · exact (Or.inr (Or.inr (Or.inr (Or.inr (Or.inr (Or.inr (Or.inl (Int32.toInt_inj.mp (h.trans (by decide : (5 : Int) = (5 : Int32).toInt))))))))))
  · exact (Or.inr (Or.inr (Or.inr (Or.inr (Or.inr (Or.inr (Or.inr (Or.inl (Int32.toInt_inj.mp (h.trans (by decide : (6 : Int) = (6 : Int32).toInt)))))))))))
  · exact (Or.inr (Or.inr (Or.inr (Or.inr (Or.inr (Or.inr (Or.inr (Or.inr (Or.inl (Int32.toInt_inj.mp (h.trans (by decide : (7 : Int) = (7 : Int32).toInt))))))))))))
  · exact (Or.inr (Or.inr (Or.inr (Or.inr (Or.inr (Or.inr (Or.inr (Or.inr (Or.inr (Or.inl (Int32.toInt_inj.mp (h.trans (by decide : (8 : Int) = (8 : Int32).toInt)))))))))))))
  · exact (Or.inr (Or.inr (Or.inr (Or.inr (Or.inr (Or.inr (Or.inr (Or.inr (Or.inr (Or.inr (Or.inl (Int32.toInt_inj.mp (h.trans (by decide : (9 : Int) = (9 : Int32).toInt))))))))))))))
  · exact (Or.inr (Or.inr (Or.inr (Or.inr (Or.inr (Or.inr (Or.inr (Or.inr (Or.inr (Or.inr (Or.inr (Or.inl (Int32.toInt_inj.mp (h.trans (by decide : (10 : Int) = (10 : Int32).toInt)))))))))))))))
  · exact (Or.inr (Or.inr (Or.inr (Or.inr (Or.inr (Or.inr (Or.inr (Or.inr (Or.inr (Or.inr (Or.inr (Or.inr (Or.inl (Int32.toInt_inj.mp (h.trans (by decide : (11 : Int) = (11 : Int32).toInt))))))))))))))))
  · exact (Or.inr (Or.inr (Or.inr (Or.inr (Or.inr (Or.inr (Or.inr (Or.inr (Or.inr (Or.inr (Or.inr (Or.inr (Or.inr (Or.inl (Int32.toInt_inj.mp (h.trans (by decide : (12 : Int) = (12 : Int32).toInt)))))))))))))))))
  · exact (Or.inr (Or.inr (Or.inr (Or.inr (Or.inr (Or.inr (Or.inr (Or.inr (Or.inr (Or.inr (Or.inr (Or.inr (Or.inr (Or.inr (Int32.toInt_inj.mp (h.trans (by decide : (13 : Int) = (13 : Int32).toInt)))))))))))))))))
theorem sw_1_29 (x : Int32) : x.toInt < 1 ∨ 29 < x.toInt ∨ x = 1 ∨ x = 2 ∨ x = 3 ∨ x = 4 ∨ x = 5 ∨ x = 6 ∨ x = 7 ∨ x = 8 ∨ x = 9 ∨ x = 10 ∨ x = 11 ∨ x = 12 ∨ x = 13 ∨ x = 14 ∨ x = 15 ∨ x = 16 ∨ x = 17 ∨ x = 18 ∨ x = 19 ∨ x = 20 ∨ x = 21 ∨ x = 22 ∨ x = 23 ∨ x = 24 ∨ x = 25 ∨ x = 26 ∨ x = 27 ∨ x = 28 ∨ x = 29 := by
  rcases (by omega : x.toInt < 1 ∨ 29 < x.toInt ∨ x.toInt = 1 ∨ x.toInt = 2 ∨ x.toInt = 3 ∨ x.toInt = 4 ∨ x.toInt = 5 ∨ x.toInt = 6 ∨ x.toInt = 7 ∨ x.toInt = 8 ∨ x.toInt = 9 ∨ x.toInt = 10 ∨ x.toInt = 11 ∨ x.toInt = 12 ∨ x.toInt = 13 ∨ x.toInt = 14 ∨ x.toInt = 15 ∨ x.toInt = 16 ∨ x.toInt = 17 ∨ x.toInt = 18 ∨ x.toInt = 19 ∨ x.toInt = 20 ∨ x.toInt = 21 ∨ x.toInt = 22 ∨ x.toInt = 23 ∨ x.toInt = 24 ∨ x.toInt = 25 ∨ x.toInt = 26 ∨ x.toInt = 27 ∨ x.toInt = 28 ∨ x.toInt = 29) with h | h | h | h | h | h | h | h | h | h | h | h | h | h | h | h | h | h | h | h | h | h | h | h | h | h | h | h | h | h | h
  · exact Or.inl h
  · exact Or.inr (Or.inl h)
  · exact (Or.inr (Or.inr (Or.inl (Int32.toInt_inj.mp (h.trans (by decide : (1 : Int) = (1 : Int32).toInt))))))
  · exact (Or.inr (Or.inr (Or.inr (Or.inl (Int32.toInt_inj.mp (h.trans (by decide : (2 : Int) = (2 : Int32).toInt)))))))
  · exact (Or.inr (Or.inr (Or.inr (Or.inr (Or.inl (Int32.toInt_inj.mp (h.trans (by decide : (3 : Int) = (3 : Int32).toInt))))))))
  · exact (Or.inr (Or.inr (Or.inr (Or.inr (Or.inr (Or.inl (Int32.toInt_inj.mp (h.trans (by decide : (4 : Int) = (4 : Int32).toInt)))))))))
  · exact (Or.inr (Or.inr (Or.inr (Or.inr (Or.inr (Or.inr (Or.inl (Int32.toInt_inj.mp (h.trans (by decide : (5 : Int) = (5 : Int32).toInt))))))))))
  · exact (Or.inr (Or.inr (Or.inr (Or.inr (Or.inr (Or.inr (Or.inr (Or.inl (Int32.toInt_inj.mp (h.trans (by decide : (6 : Int) = (6 : Int32).toInt)))))))))))
  · exact (Or.inr (Or.inr (Or.inr (Or.inr (Or.inr (Or.inr (Or.inr (Or.inr (Or.inl (Int32.toInt_inj.mp (h.trans (by decide : (7 : Int) = (7 : Int32).toInt))))))))))))
  · exact (Or.inr (Or.inr (Or.inr (Or.inr (Or.inr (Or.inr (Or.inr (Or.inr (Or.inr (Or.inl (Int32.toInt_inj.mp (h.trans (by decide : (8 : Int) = (8 : Int32).toInt)))))))))))))
  · exact (Or.inr (Or.inr (Or.inr (Or.inr (Or.inr (Or.inr (Or.inr (Or.inr (Or.inr (Or.inr (Or.inl (Int32.toInt_inj.mp (h.trans (by decide : (9 : Int) = (9 : Int32).toInt))))))))))))))
  · exact (Or.inr (Or.inr (Or.inr (Or.inr (Or.inr (Or.inr (Or.inr (Or.inr (Or.inr (Or.inr (Or.inr (Or.inl (Int32.toInt_inj.mp (h.trans (by decide : (10 : Int) = (10 : Int32).toInt)))))))))))))))
  · exact (Or.inr (Or.inr (Or.inr (Or.inr (Or.inr (Or.inr (Or.inr (Or.inr (Or.inr (Or.inr (Or.inr (Or.inr (Or.inl (Int32.toInt_inj.mp (h.trans (by decide : (11 : Int) = (11 : Int32).toInt))))))))))))))))
  · exact (Or.inr (Or.inr (Or.inr (Or.inr (Or.inr (Or.inr (Or.inr (Or.inr (Or.inr (Or.inr (Or.inr (Or.inr (Or.inr (Or.inl (Int32.toInt_inj.mp (h.trans (by decide : (12 : Int) = (12 : Int32).toInt)))))))))))))))))
  · exact (Or.inr (Or.inr (Or.inr (Or.inr (Or.inr (Or.inr (Or.inr (Or.inr (Or.inr (Or.inr (Or.inr (Or.inr (Or.inr (Or.inr (Or.inl (Int32.toInt_inj.mp (h.trans (by decide : (13 : Int) = (13 : Int32).toInt))))))))))))))))))
  · exact (Or.inr (Or.inr (Or.inr (Or.inr (Or.inr (Or.inr (Or.inr (Or.inr (Or.inr (Or.inr (Or.inr (Or.inr (Or.inr (Or.inr (Or.inr (Or.inl (Int32.toInt_inj.mp (h.trans (by decide : (14 : Int) = (14 : Int32).toInt)))))))))))))))))))
  · exact (Or.inr (Or.inr (Or.inr (Or.inr (Or.inr (Or.inr (Or.inr (Or.inr (Or.inr (Or.inr (Or.inr (Or.inr (Or.inr (Or.inr (Or.inr (Or.inr (Or.inl (Int32.toInt_inj.mp (h.trans (by decide : (15 : Int) = (15 : Int32).toInt))))))))))))))))))))
  · exact (Or.inr (Or.inr (Or.inr (Or.inr (Or.inr (Or.inr (Or.inr (Or.inr (Or.inr (Or.inr (Or.inr (Or.inr (Or.inr (Or.inr (Or.inr (Or.inr (Or.inr (Or.inl (Int32.toInt_inj.mp (h.trans (by decide : (16 : Int) = (16 : Int32).toInt)))))))))))))))))))))
  · exact (Or.inr (Or.inr (Or.inr (Or.inr (Or.inr (Or.inr (Or.inr (Or.inr (Or.inr (Or.inr (Or.inr (Or.inr (Or.inr (Or.inr (Or.inr (Or.inr (Or.inr (Or.inr (Or.inl (Int32.toInt_inj.mp (h.trans (by decide : (17 : Int) = (17 : Int32).toInt))))))))))))))))))))))
  · exact (Or.inr (Or.inr (Or.inr (Or.inr (Or.inr (Or.inr (Or.inr (Or.inr (Or.inr (Or.inr (Or.inr (Or.inr (Or.inr (Or.inr (Or.inr (Or.inr (Or.inr (Or.inr (Or.inr (Or.inl (Int32.toInt_inj.mp (h.trans (by decide : (18 : Int) = (18 : Int32).toInt)))))))))))))))))))))))
  · exact (Or.inr (Or.inr (Or.inr (Or.inr (Or.inr (Or.inr (Or.inr (Or.inr (Or.inr (Or.inr (Or.inr (Or.inr (Or.inr (Or.inr (Or.inr (Or.inr (Or.inr (Or.inr (Or.inr (Or.inr (Or.inl (Int32.toInt_inj.mp (h.trans (by decide : (19 : Int) = (19 : Int32).toInt))))))))))))))))))))))))
  · exact (Or.inr (Or.inr (Or.inr (Or.inr (Or.inr (Or.inr (Or.inr (Or.inr (Or.inr (Or.inr (Or.inr (Or.inr (Or.inr (Or.inr (Or.inr (Or.inr (Or.inr (Or.inr (Or.inr (Or.inr (Or.inr (Or.inl (Int32.toInt_inj.mp (h.trans (by decide : (20 : Int) = (20 : Int32).toInt)))))))))))))))))))))))))
  · exact (Or.inr (Or.inr (Or.inr (Or.inr (Or.inr (Or.inr (Or.inr (Or.inr (Or.inr (Or.inr (Or.inr (Or.inr (Or.inr (Or.inr (Or.inr (Or.inr (Or.inr (Or.inr (Or.inr (Or.inr (Or.inr (Or.inr (Or.inl (Int32.toInt_inj.mp (h.trans (by decide : (21 : Int) = (21 : Int32).toInt))))))))))))))))))))))))))
  · exact (Or.inr (Or.inr (Or.inr (Or.inr (Or.inr (Or.inr (Or.inr (Or.inr (Or.inr (Or.inr (Or.inr (Or.inr (Or.inr (Or.inr (Or.inr (Or.inr (Or.inr (Or.inr (Or.inr (Or.inr (Or.inr (Or.inr (Or.inr (Or.inl (Int32.toInt_inj.mp (h.trans (by decide : (22 : Int) = (22 : Int32).toInt)))))))))))))))))))))))))))
  · exact (Or.inr (Or.inr (Or.inr (Or.inr (Or.inr (Or.inr (Or.inr (Or.inr (Or.inr (Or.inr (Or.inr (Or.inr (Or.inr (Or.inr (Or.inr (Or.inr (Or.inr (Or.inr (Or.inr (Or.inr (Or.inr (Or.inr (Or.inr (Or.inr (Or.inl (Int32.toInt_inj.mp (h.trans (by decide : (23 : Int) = (23 : Int32).toInt))))))))))))))))))))))))))))
  · exact (Or.inr (Or.inr (Or.inr (Or.inr (Or.inr (Or.inr (Or.inr (Or.inr (Or.inr (Or.inr (Or.inr (Or.inr (Or.inr (Or.inr (Or.inr (Or.inr (Or.inr (Or.inr (Or.inr (Or.inr (Or.inr (Or.inr (Or.inr (Or.inr (Or.inr (Or.inl (Int32.toInt_inj.mp (h.trans (by decide : (24 : Int) = (24 : Int32).toInt)))))))))))))))))))))))))))))
  · exact (Or.inr (Or.inr (Or.inr (Or.inr (Or.inr (Or.inr (Or.inr (Or.inr (Or.inr (Or.inr (Or.inr (Or.inr (Or.inr (Or.inr (Or.inr (Or.inr (Or.inr (Or.inr (Or.inr (Or.inr (Or.inr (Or.inr (Or.inr (Or.inr (Or.inr (Or.inr (Or.inl (Int32.toInt_inj.mp (h.trans (by decide : (25 : Int) = (25 : Int32).toInt))))))))))))))))))))))))))))))
  · exact (Or.inr (Or.inr (Or.inr (Or.inr (Or.inr (Or.inr (Or.inr (Or.inr (Or.inr (Or.inr (Or.inr (Or.inr (Or.inr (Or.inr (Or.inr (Or.inr (Or.inr (Or.inr (Or.inr (Or.inr (Or.inr (Or.inr (Or.inr (Or.inr (Or.inr (Or.inr (Or.inr (Or.inl (Int32.toInt_inj.mp (h.trans (by decide : (26 : Int) = (26 : Int32).toInt)))))))))))))))))))))))))))))))
  · exact (Or.inr (Or.inr (Or.inr (Or.inr (Or.inr (Or.inr (Or.inr (Or.inr (Or.inr (Or.inr (Or.inr (Or.inr (Or.inr (Or.inr (Or.inr (Or.inr (Or.inr (Or.inr (Or.inr (Or.inr (Or.inr (Or.inr (Or.inr (Or.inr (Or.inr (Or.inr (Or.inr (Or.inr (Or.inl (Int32.toInt_inj.mp (h.trans (by decide : (27 : Int) = (27 : Int32).toInt))))))))))))))))))))))))))))))))
  · exact (Or.inr (Or.inr (Or.inr (Or.inr (Or.inr (Or.inr (Or.inr (Or.inr (Or.inr (Or.inr (Or.inr (Or.inr (Or.inr (Or.inr (Or.inr (Or.inr (Or.inr (Or.inr (Or.inr (Or.inr (Or.inr (Or.inr (Or.inr (Or.inr (Or.inr (Or.inr (Or.inr (Or.inr (Or.inr (Or.inl (Int32.toInt_inj.mp (h.trans (by decide : (28 : Int) = (28 : Int32).toInt)))))))))))))))))))))))))))))))))
  · exact (Or.inr (Or.inr (Or.inr (Or.inr (Or.inr (Or.inr (Or.inr (Or.inr (Or.inr (Or.inr (Or.inr (Or.inr (Or.inr (Or.inr (Or.inr (Or.inr (Or.inr (Or.inr (Or.inr (Or.inr (Or.inr (Or.inr (Or.inr (Or.inr (Or.inr (Or.inr (Or.inr (Or.inr (Or.inr (Or.inr (Int32.toInt_inj.mp (h.trans (by decide : (29 : Int) = (29 : Int32).toInt)))))))))))))))))))))))))))))))))
theorem sw_5_10 (x : Int32) : x.toInt < 5 ∨ 10 < x.toInt ∨ x = 5 ∨ x = 6 ∨ x = 7 ∨ x = 8 ∨ x = 9 ∨ x = 10 := by
  rcases (by omega : x.toInt < 5 ∨ 10 < x.toInt ∨ x.toInt = 5 ∨ x.toInt = 6 ∨ x.toInt = 7 ∨ x.toInt = 8 ∨ x.toInt = 9 ∨ x.toInt = 10) with h | h | h | h | h | h | h | h
  · exact Or.inl h
  · exact Or.inr (Or.inl h)
  · exact (Or.inr (Or.inr (Or.inl (Int32.toInt_inj.mp (h.trans (by decide : (5 : Int) = (5 : Int32).toInt))))))
  · exact (Or.inr (Or.inr (Or.inr (Or.inl (Int32.toInt_inj.mp (h.trans (by decide : (6 : Int) = (6 : Int32).toInt)))))))
  · exact (Or.inr (Or.inr (Or.inr (Or.inr (Or.inl (Int32.toInt_inj.mp (h.trans (by decide : (7 : Int) = (7 : Int32).toInt))))))))
  · exact (Or.inr (Or.inr (Or.inr (Or.inr (Or.inr (Or.inl (Int32.toInt_inj.mp (h.trans (by decide : (8 : Int) = (8 : Int32).toInt)))))))))
  · exact (Or.inr (Or.inr (Or.inr (Or.inr (Or.inr (Or.inr (Or.inl (Int32.toInt_inj.mp (h.trans (by decide : (9 : Int) = (9 : Int32).toInt))))))))))
  · exact (Or.inr (Or.inr (Or.inr (Or.inr (Or.inr (Or.inr (Or.inr (Int32.toInt_inj.mp (h.trans (by decide : (10 : Int) = (10 : Int32).toInt))))))))))
theorem sw_8_11 (x : Int32) : x.toInt < 8 ∨ 11 < x.toInt ∨ x = 8 ∨ x = 9 ∨ x = 10 ∨ x = 11 := by
  rcases (by omega : x.toInt < 8 ∨ 11 < x.toInt ∨ x.toInt = 8 ∨ x.toInt = 9 ∨ x.toInt = 10 ∨ x.toInt = 11) with h | h | h | h | h | h
  · exact Or.inl h
  · exact Or.inr (Or.inl h)
  · exact (Or.inr (Or.inr (Or.inl (Int32.toInt_inj.mp (h.trans (by decide : (8 : Int) = (8 : Int32).toInt))))))
  · exact (Or.inr (Or.inr (Or.inr (Or.inl (Int32.toInt_inj.mp (h.trans (by decide : (9 : Int) = (9 : Int32).toInt)))))))
  · exact (Or.inr (Or.inr (Or.inr (Or.inr (Or.inl (Int32.toInt_inj.mp (h.trans (by decide : (10 : Int) = (10 : Int32).toInt))))))))
  · exact (Or.inr (Or.inr (Or.inr (Or.inr (Or.inr (Int32.toInt_inj.mp (h.trans (by decide : (11 : Int) = (11 : Int32).toInt))))))))
theorem sw_8_30 (x : Int32) : x.toInt < 8 ∨ 30 < x.toInt ∨ x = 8 ∨ x = 9 ∨ x = 10 ∨ x = 11 ∨ x = 12 ∨ x = 13 ∨ x = 14 ∨ x = 15 ∨ x = 16 ∨ x = 17 ∨ x = 18 ∨ x = 19 ∨ x = 20 ∨ x = 21 ∨ x = 22 ∨ x = 23 ∨ x = 24 ∨ x = 25 ∨ x = 26 ∨ x = 27 ∨ x = 28 ∨ x = 29 ∨ x = 30 := by
  rcases (by omega : x.toInt < 8 ∨ 30 < x.toInt ∨ x.toInt = 8 ∨ x.toInt = 9 ∨ x.toInt = 10 ∨ x.toInt = 11 ∨ x.toInt = 12 ∨ x.toInt = 13 ∨ x.toInt = 14 ∨ x.toInt = 15 ∨ x.toInt = 16 ∨ x.toInt = 17 ∨ x.toInt = 18 ∨ x.toInt = 19 ∨ x.toInt = 20 ∨ x.toInt = 21 ∨ x.toInt = 22 ∨ x.toInt = 23 ∨ x.toInt = 24 ∨ x.toInt = 25 ∨ x.toInt = 26 ∨ x.toInt = 27 ∨ x.toInt = 28 ∨ x.toInt = 29 ∨ x.toInt = 30) with h | h | h | h | h | h | h | h | h | h | h | h | h | h | h | h | h | h | h | h | h | h | h | h | h
  · exact Or.inl h
  · exact Or.inr (Or.inl h)
  · exact (Or.inr (Or.inr (Or.inl (Int32.toInt_inj.mp (h.trans (by decide : (8 : Int) = (8 : Int32).toInt))))))
  · exact (Or.inr (Or.inr (Or.inr (Or.inl (Int32.toInt_inj.mp (h.trans (by decide : (9 : Int) = (9 : Int32).toInt)))))))
  · exact (Or.inr (Or.inr (Or.inr (Or.inr (Or.inl (Int32.toInt_inj.mp (h.trans (by decide : (10 : Int) = (10 : Int32).toInt))))))))
  · exact (Or.inr (Or.inr (Or.inr (Or.inr (Or.inr (Or.inl (Int32.toInt_inj.mp (h.trans (by decide : (11 : Int) = (11 : Int32).toInt)))))))))
  · exact (Or.inr (Or.inr (Or.inr (Or.inr (Or.inr (Or.inr (Or.inl (Int32.toInt_inj.mp (h.trans (by decide : (12 : Int) = (12 : Int32).toInt))))))))))
  · exact (Or.inr (Or.inr (Or.inr (Or.inr (Or.inr (Or.inr (Or.inr (Or.inl (Int32.toInt_inj.mp (h.trans (by decide : (13 : Int) = (13 : Int32).toInt)))))))))))
  · exact (Or.inr (Or.inr (Or.inr (Or.inr (Or.inr (Or.inr (Or.inr (Or.inr (Or.inl (Int32.toInt_inj.mp (h.trans (by decide : (14 : Int) = (14 : Int32).toInt))))))))))))
  · exact (Or.inr (Or.inr (Or.inr (Or.inr (Or.inr (Or.inr (Or.inr (Or.inr (Or.inr (Or.inl (Int32.toInt_inj.mp (h.trans (by decide : (15 : Int) = (15 : Int32).toInt)))))))))))))
  · exact (Or.inr (Or.inr (Or.inr (Or.inr (Or.inr (Or.inr (Or.inr (Or.inr (Or.inr (Or.inr (Or.inl (Int32.toInt_inj.mp (h.trans (by decide : (16 : Int) = (16 : Int32).toInt))))))))))))))
  · exact (Or.inr (Or.inr (Or.inr (Or.inr (Or.inr (Or.inr (Or.inr (Or.inr (Or.inr (Or.inr (Or.inr (Or.inl (Int32.toInt_inj.mp (h.trans (by decide : (17 : Int) = (17 : Int32).toInt)))))))))))))))
  · exact (Or.inr (Or.inr (Or.inr (Or.inr (Or.inr (Or.inr (Or.inr (Or.inr (Or.inr (Or.inr (Or.inr (Or.inr (Or.inl (Int32.toInt_inj.mp (h.trans (by decide : (18 : Int) = (18 : Int32).toInt))))))))))))))))
  · exact (Or.inr (Or.inr (Or.inr (Or.inr (Or.inr (Or.inr (Or.inr (Or.inr (Or.inr (Or.inr (Or.inr (Or.inr (Or.inr (Or.inl (Int32.toInt_inj.mp (h.trans (by decide : (19 : Int) = (19 : Int32).toInt)))))))))))))))))
  · exact (Or.inr (Or.inr (Or.inr (Or.inr (Or.inr (Or.inr (Or.inr (Or.inr (Or.inr (Or.inr (Or.inr (Or.inr (Or.inr (Or.inr (Or.inl (Int32.toInt_inj.mp (h.trans (by decide : (20 : Int) = (20 : Int32).toInt))))))))))))))))))
  · exact (Or.inr (Or.inr (Or.inr (Or.inr (Or.inr (Or.inr (Or.inr (Or.inr (Or.inr (Or.inr (Or.inr (Or.inr (Or.inr (Or.inr (Or.inr (Or.inl (Int32.toInt_inj.mp (h.trans (by decide : (21 : Int) = (21 : Int32).toInt)))))))))))))))))))
  · exact (Or.inr (Or.inr (Or.inr (Or.inr (Or.inr (Or.inr (Or.inr (Or.inr (Or.inr (Or.inr (Or.inr (Or.inr (Or.inr (Or.inr (Or.inr (Or.inr (Or.inl (Int32.toInt_inj.mp (h.trans (by decide : (22 : Int) = (22 : Int32).toInt))))))))))))))))))))
  · exact (Or.inr (Or.inr (Or.inr (Or.inr (Or.inr (Or.inr (Or.inr (Or.inr (Or.inr (Or.inr (Or.inr (Or.inr (Or.inr (Or.inr (Or.inr (Or.inr (Or.inr (Or.inl (Int32.toInt_inj.mp (h.trans (by decide : (23 : Int) = (23 : Int32).toInt)))))))))))))))))))))
  · exact (Or.inr (Or.inr (Or.inr (Or.inr (Or.inr (Or.inr (Or.inr (Or.inr (Or.inr (Or.inr (Or.inr (Or.inr (Or.inr (Or.inr (Or.inr (Or.inr (Or.inr (Or.inr (Or.inl (Int32.toInt_inj.mp (h.trans (by decide : (24 : Int) = (24 : Int32).toInt))))))))))))))))))))))
  · exact (Or.inr (Or.inr (Or.inr (Or.inr (Or.inr (Or.inr (Or.inr (Or.inr (Or.inr (Or.inr (Or.inr (Or.inr (Or.inr (Or.inr (Or.inr (Or.inr (Or.inr (Or.inr (Or.inr (Or.inl (Int32.toInt_inj.mp (h.trans (by decide : (25 : Int) = (25 : Int32).toInt)))))))))))))))))))))))
  · exact (Or.inr (Or.inr (Or.inr (Or.inr (Or.inr (Or.inr (Or.inr (Or.inr (Or.inr (Or.inr (Or.inr (Or.inr (Or.inr (Or.inr (Or.inr (Or.inr (Or.inr (Or.inr (Or.inr (Or.inr (Or.inl (Int32.toInt_inj.mp (h.trans (by decide : (26 : Int) = (26 : Int32).toInt))))))))))))))))))))))))
  · exact (Or.inr (Or.inr (Or.inr (Or.inr (Or.inr (Or.inr (Or.inr (Or.inr (Or.inr (Or.inr (Or.inr (Or.inr (Or.inr (Or.inr (Or.inr (Or.inr (Or.inr (Or.inr (Or.inr (Or.inr (Or.inr (Or.inl (Int32.toInt_inj.mp (h.trans (by decide : (27 : Int) = (27 : Int32).toInt)))))))))))))))))))))))))
  · exact (Or.inr (Or.inr (Or.inr (Or.inr (Or.inr (Or.inr (Or.inr (Or.inr (Or.inr (Or.inr (Or.inr (Or.inr (Or.inr (Or.inr (Or.inr (Or.inr (Or.inr (Or.inr (Or.inr (Or.inr (Or.inr (Or.inr (Or.inl (Int32.toInt_inj.mp (h.trans (by decide : (28 : Int) = (28 : Int32).toInt))))))))))))))))))))))))))
  · exact (Or.inr (Or.inr (Or.inr (Or.inr (Or.inr (Or.inr (Or.inr (Or.inr (Or.inr (Or.inr (Or.inr (Or.inr (Or.inr (Or.inr (Or.inr (Or.inr (Or.inr (Or.inr (Or.inr (Or.inr (Or.inr (Or.inr (Or.inr (Or.inl (Int32.toInt_inj.mp (h.trans (by decide : (29 : Int) = (29 : Int32).toInt)))))))))))))))))))))))))))
  · exact (Or.inr (Or.inr (Or.inr (Or.inr (Or.inr (Or.inr (Or.inr (Or.inr (Or.inr (Or.inr (Or.inr (Or.inr (Or.inr (Or.inr (Or.inr (Or.inr (Or.inr (Or.inr (Or.inr (Or.inr (Or.inr (Or.inr (Or.inr (Or.inr (Int32.toInt_inj.mp (h.trans (by decide : (30 : Int) = (30 : Int32).toInt)))))))))))))))))))))))))))
theorem sw_10_22 (x : Int32) : x.toInt < 10 ∨ 22 < x.toInt ∨ x = 10 ∨ x = 11 ∨ x = 12 ∨ x = 13 ∨ x = 14 ∨ x = 15 ∨ x = 16 ∨ x = 17 ∨ x = 18 ∨ x = 19 ∨ x = 20 ∨ x = 21 ∨ x = 22 := by
  rcases (by omega : x.toInt < 10 ∨ 22 < x.toInt ∨ x.toInt = 10 ∨ x.toInt = 11 ∨ x.toInt = 12 ∨ x.toInt = 13 ∨ x.toInt = 14 ∨ x.toInt = 15 ∨ x.toInt = 16 ∨ x.toInt = 17 ∨ x.toInt = 18 ∨ x.toInt = 19 ∨ x.toInt = 20 ∨ x.toInt = 21 ∨ x.toInt = 22) with h | h | h | h | h | h | h | h | h | h | h | h | h | h | h
  · exact Or.inl h
  · exact Or.inr (Or.inl h)
  · exact (Or.inr (Or.inr (Or.inl (Int32.toInt_inj.mp (h.trans (by decide : (10 : Int) = (10 : Int32).toInt))))))
  · exact (Or.inr (Or.inr (Or.inr (Or.inl (Int32.toInt_inj.mp (h.trans (by decide : (11 : Int) = (11 : Int32).toInt)))))))
  · exact (Or.inr (Or.inr (Or.inr (Or.inr (Or.inl (Int32.toInt_inj.mp (h.trans (by decide : (12 : Int) = (12 : Int32).toInt))))))))
  · exact (Or.inr (Or.inr (Or.inr (Or.inr (Or.inr (Or.inl (Int32.toInt_inj.mp (h.trans (by decide : (13 : Int) = (13 : Int32).toInt)))))))))
  · exact (Or.inr (Or.inr (Or.inr (Or.inr (Or.inr (Or.inr (Or.inl (Int32.toInt_inj.mp (h.trans (by decide : (14 : Int) = (14 : Int32).toInt))))))))))
  · exact (Or.inr (Or.inr (Or.inr (Or.inr (Or.inr (Or.inr (Or.inr (Or.inl (Int32.toInt_inj.mp (h.trans (by decide : (15 : Int) = (15 : Int32).toInt)))))))))))
  · exact (Or.inr (Or.inr (Or.inr (Or.inr (Or.inr (Or.inr (Or.inr (Or.inr (Or.inl (Int32.toInt_inj.mp (h.trans (by decide : (16 : Int) = (16 : Int32).toInt))))))))))))
  · exact (Or.inr (Or.inr (Or.inr (Or.inr (Or.inr (Or.inr (Or.inr (Or.inr (Or.inr (Or.inl (Int32.toInt_inj.mp (h.trans (by decide : (17 : Int) = (17 : Int32).toInt)))))))))))))
  · exact (Or.inr (Or.inr (Or.inr (Or.inr (Or.inr (Or.inr (Or.inr (Or.inr (Or.inr (Or.inr (Or.inl (Int32.toInt_inj.mp (h.trans (by decide : (18 : Int) = (18 : Int32).toInt))))))))))))))
  · exact (Or.inr (Or.inr (Or.inr (Or.inr (Or.inr (Or.inr (Or.inr (Or.inr (Or.inr (Or.inr (Or.inr (Or.inl (Int32.toInt_inj.mp (h.trans (by decide : (19 : Int) = (19 : Int32).toInt)))))))))))))))
  · exact (Or.inr (Or.inr (Or.inr (Or.inr (Or.inr (Or.inr (Or.inr (Or.inr (Or.inr (Or.inr (Or.inr (Or.inr (Or.inl (Int32.toInt_inj.mp (h.trans (by decide : (20 : Int) = (20 : Int32).toInt))))))))))))))))
  · exact (Or.inr (Or.inr (Or.inr (Or.inr (Or.inr (Or.inr (Or.inr (Or.inr (Or.inr (Or.inr (Or.inr (Or.inr (Or.inr (Or.inl (Int32.toInt_inj.mp (h.trans (by decide : (21 : Int) = (21 : Int32).toInt)))))))))))))))))
  · exact (Or.inr (Or.inr (Or.inr (Or.inr (Or.inr (Or.inr (Or.inr (Or.inr (Or.inr (Or.inr (Or.inr (Or.inr (Or.inr (Or.inr (Int32.toInt_inj.mp (h.trans (by decide : (22 : Int) = (22 : Int32).toInt)))))))))))))))))
theorem sw_12_16 (x : Int32) : x.toInt < 12 ∨ 16 < x.toInt ∨ x = 12 ∨ x = 13 ∨ x = 14 ∨ x = 15 ∨ x = 16 := by
  rcases (by omega : x.toInt < 12 ∨ 16 < x.toInt ∨ x.toInt = 12 ∨ x.toInt = 13 ∨ x.toInt = 14 ∨ x.toInt = 15 ∨ x.toInt = 16) with h | h | h | h | h | h | h
  · exact Or.inl h
  · exact Or.inr (Or.inl h)
  · exact (Or.inr (Or.inr (Or.inl (Int32.toInt_inj.mp (h.trans (by decide : (12 : Int) = (12 : Int32).toInt))))))
  · exact (Or.inr (Or.inr (Or.inr (Or.inl (Int32.toInt_inj.mp (h.trans (by decide : (13 : Int) = (13 : Int32).toInt)))))))
  · exact (Or.inr (Or.inr (Or.inr (Or.inr (Or.inl (Int32.toInt_inj.mp (h.trans (by decide : (14 : Int) = (14 : Int32).toInt))))))))
  · exact (Or.inr (Or.inr (Or.inr (Or.inr (Or.inr (Or.inl (Int32.toInt_inj.mp (h.trans (by decide : (15 : Int) = (15 : Int32).toInt)))))))))
  · exact (Or.inr (Or.inr (Or.inr (Or.inr (Or.inr (Or.inr (Int32.toInt_inj.mp (h.trans (by decide : (16 : Int) = (16 : Int32).toInt)))))))))
theorem sw_17_26 (x : Int32) : x.toInt < 17 ∨ 26 < x.toInt ∨ x = 17 ∨ x = 18 ∨ x = 19 ∨ x = 20 ∨ x = 21 ∨ x = 22 ∨ x = 23 ∨ x = 24 ∨ x = 25 ∨ x = 26 := by
  rcases (by omega : x.toInt < 17 ∨ 26 < x.toInt ∨ x.toInt = 17 ∨ x.toInt = 18 ∨ x.toInt = 19 ∨ x.toInt = 20 ∨ x.toInt = 21 ∨ x.toInt = 22 ∨ x.toInt = 23 ∨ x.toInt = 24 ∨ x.toInt = 25 ∨ x.toInt = 26) with h | h | h | h | h | h | h | h | h | h | h | h
  · exact Or.inl h
  · exact Or.inr (Or.inl h)
  · exact (Or.inr (Or.inr (Or.inl (Int32.toInt_inj.mp (h.trans (by decide : (17 : Int) = (17 : Int32).toInt))))))
  · exact (Or.inr (Or.inr (Or.inr (Or.inl (Int32.toInt_inj.mp (h.trans (by decide : (18 : Int) = (18 : Int32).toInt)))))))
  · exact (Or.inr (Or.inr (Or.inr (Or.inr (Or.inl (Int32.toInt_inj.mp (h.trans (by decide : (19 : Int) = (19 : Int32).toInt))))))))
  · exact (Or.inr (Or.inr (Or.inr (Or.inr (Or.inr (Or.inl (Int32.toInt_inj.mp (h.trans (by decide : (20 : Int) = (20 : Int32).toInt)))))))))
  · exact (Or.inr (Or.inr (Or.inr (Or.inr (Or.inr (Or.inr (Or.inl (Int32.toInt_inj.mp (h.trans (by decide : (21 : Int) = (21 : Int32).toInt))))))))))
  · exact (Or.inr (Or.inr (Or.inr (Or.inr (Or.inr (Or.inr (Or.inr (Or.inl (Int32.toInt_inj.mp (h.trans (by decide : (22 : Int) = (22 : Int32).toInt)))))))))))
  · exact (Or.inr (Or.inr (Or.inr (Or.inr (Or.inr (Or.inr (Or.inr (Or.inr (Or.inl (Int32.toInt_inj.mp (h.trans (by decide : (23 : Int) = (23 : Int32).toInt))))))))))))
  · exact (Or.inr (Or.inr (Or.inr (Or.inr (Or.inr (Or.inr (Or.inr (Or.inr (Or.inr (Or.inl (Int32.toInt_inj.mp (h.trans (by decide : (24 : Int) = (24 : Int32).toInt)))))))))))))
  · exact (Or.inr (Or.inr (Or.inr (Or.inr (Or.inr (Or.inr (Or.inr (Or.inr (Or.inr (Or.inr (Or.inl (Int32.toInt_inj.mp (h.trans (by decide : (25 : Int) = (25 : Int32).toInt))))))))))))))
  · exact (Or.inr (Or.inr (Or.inr (Or.inr (Or.inr (Or.inr (Or.inr (Or.inr (Or.inr (Or.inr (Or.inr (Int32.toInt_inj.mp (h.trans (by decide : (26 : Int) = (26 : Int32).toInt))))))))))))))
theorem sw_18_22 (x : Int32) : x.toInt < 18 ∨ 22 < x.toInt ∨ x = 18 ∨ x = 19 ∨ x = 20 ∨ x = 21 ∨ x = 22 := by
  rcases (by omega : x.toInt < 18 ∨ 22 < x.toInt ∨ x.toInt = 18 ∨ x.toInt = 19 ∨ x.toInt = 20 ∨ x.toInt = 21 ∨ x.toInt = 22) with h | h | h | h | h | h | h
  · exact Or.inl h
  · exact Or.inr (Or.inl h)
  · exact (Or.inr (Or.inr (Or.inl (Int32.toInt_inj.mp (h.trans (by decide : (18 : Int) = (18 : Int32).toInt))))))
  · exact (Or.inr (Or.inr (Or.inr (Or.inl (Int32.toInt_inj.mp (h.trans (by decide : (19 : Int) = (19 : Int32).toInt)))))))
  · exact (Or.inr (Or.inr (Or.inr (Or.inr (Or.inl (Int32.toInt_inj.mp (h.trans (by decide : (20 : Int) = (20 : Int32).toInt))))))))
  · exact (Or.inr (Or.inr (Or.inr (Or.inr (Or.inr (Or.inl (Int32.toInt_inj.mp (h.trans (by decide : (21 : Int) = (21 : Int32).toInt)))))))))
  · exact (Or.inr (Or.inr (Or.inr (Or.inr (Or.inr (Or.inr (Int32.toInt_inj.mp (h.trans (by decide : (22 : Int) = (22 : Int32).toInt)))))))))
theorem sw_23_35 (x : Int32) : x.toInt < 23 ∨ 35 < x.toInt ∨ x = 23 ∨ x = 24 ∨ x = 25 ∨ x = 26 ∨ x = 27 ∨ x = 28 ∨ x = 29 ∨ x = 30 ∨ x = 31 ∨ x = 32 ∨ x = 33 ∨ x = 34 ∨ x = 35 := by
  rcases (by omega : x.toInt < 23 ∨ 35 < x.toInt ∨ x.toInt = 23 ∨ x.toInt = 24 ∨ x.toInt = 25 ∨ x.toInt = 26 ∨ x.toInt = 27 ∨ x.toInt = 28 ∨ x.toInt = 29 ∨ x.toInt = 30 ∨ x.toInt = 31 ∨ x.toInt = 32 ∨ x.toInt = 33 ∨ x.toInt = 34 ∨ x.toInt = 35) with h | h | h | h | h | h | h | h | h | h | h | h | h | h | h
  · exact Or.inl h
  · exact Or.inr (Or.inl h)
  · exact (Or.inr (Or.inr (Or.inl (Int32.toInt_inj.mp (h.trans (by decide : (23 : Int) = (23 : Int32).toInt))))))
  · exact (Or.inr (Or.inr (Or.inr (Or.inl (Int32.toInt_inj.mp (h.trans (by decide : (24 : Int) = (24 : Int32).toInt)))))))
  · exact (Or.inr (Or.inr (Or.inr (Or.inr (Or.inl (Int32.toInt_inj.mp (h.trans (by decide : (25 : Int) = (25 : Int32).toInt))))))))
  · exact (Or.inr (Or.inr (Or.inr (Or.inr (Or.inr (Or.inl (Int32.toInt_inj.mp (h.trans (by decide : (26 : Int) = (26 : Int32).toInt)))))))))
  · exact (Or.inr (Or.inr (Or.inr (Or.inr (Or.inr (Or.inr (Or.inl (Int32.toInt_inj.mp (h.trans (by decide : (27 : Int) = (27 : Int32).toInt))))))))))
  · exact (Or.inr (Or.inr (Or.inr (Or.inr (Or.inr (Or.inr (Or.inr (Or.inl (Int32.toInt_inj.mp (h.trans (by decide : (28 : Int) = (28 : Int32).toInt)))))))))))
  · exact (Or.inr (Or.inr (Or.inr (Or.inr (Or.inr (Or.inr (Or.inr (Or.inr (Or.inl (Int32.toInt_inj.mp (h.trans (by decide : (29 : Int) = (29 : Int32).toInt))))))))))))
  · exact (Or.inr (Or.inr (Or.inr (Or.inr (Or.inr (Or.inr (Or.inr (Or.inr (Or.inr (Or.inl (Int32.toInt_inj.mp (h.trans (by decide : (30 : Int) = (30 : Int32).toInt)))))))))))))
  · exact (Or.inr (Or.inr (Or.inr (Or.inr (Or.inr (Or.inr (Or.inr (Or.inr (Or.inr (Or.inr (Or.inl (Int32.toInt_inj.mp (h.trans (by decide : (31 : Int) = (31 : Int32).toInt))))))))))))))
  · exact (Or.inr (Or.inr (Or.inr (Or.inr (Or.inr (Or.inr (Or.inr (Or.inr (Or.inr (Or.inr (Or.inr (Or.inl (Int32.toInt_inj.mp (h.trans (by decide : (32 : Int) = (32 : Int32).toInt)))))))))))))))
  · exact (Or.inr (Or.inr (Or.inr (Or.inr (Or.inr (Or.inr (Or.inr (Or.inr (Or.inr (Or.inr (Or.inr (Or.inr (Or.inl (Int32.toInt_inj.mp (h.trans (by decide : (33 : Int) = (33 : Int32).toInt))))))))))))))))
  · exact (Or.inr (Or.inr (Or.inr (Or.inr (Or.inr (Or.inr (Or.inr (Or.inr (Or.inr (Or.inr (Or.inr (Or.inr (Or.inr (Or.inl (Int32.toInt_inj.mp (h.trans (by decide : (34 : Int) = (34 : Int32).toInt)))))))))))))))))
  · exact (Or.inr (Or.inr (Or.inr (Or.inr (Or.inr (Or.inr (Or.inr (Or.inr (Or.inr (Or.inr (Or.inr (Or.inr (Or.inr (Or.inr (Int32.toInt_inj.mp (h.trans (by decide : (35 : Int) = (35 : Int32).toInt)))))))))))))))))
theorem sw_25_44 (x : Int32) : x.toInt < 25 ∨ 44 < x.toInt ∨ x = 25 ∨ x = 26 ∨ x = 27 ∨ x = 28 ∨ x = 29 ∨ x = 30 ∨ x = 31 ∨ x = 32 ∨ x = 33 ∨ x = 34 ∨ x = 35 ∨ x = 36 ∨ x = 37 ∨ x = 38 ∨ x = 39 ∨ x = 40 ∨ x = 41 ∨ x = 42 ∨ x = 43 ∨ x = 44 := by
  rcases (by omega : x.toInt < 25 ∨ 44 < x.toInt ∨ x.toInt = 25 ∨ x.toInt = 26 ∨ x.toInt = 27 ∨ x.toInt = 28 ∨ x.toInt = 29 ∨ x.toInt = 30 ∨ x.toInt = 31 ∨ x.toInt = 32 ∨ x.toInt = 33 ∨ x.toInt = 34 ∨ x.toInt = 35 ∨ x.toInt = 36 ∨ x.toInt = 37 ∨ x.toInt = 38 ∨ x.toInt = 39 ∨ x.toInt = 40 ∨ x.toInt = 41 ∨ x.toInt = 42 ∨ x.toInt = 43 ∨ x.toInt = 44) with h | h | h | h | h | h | h | h | h | h | h | h | h | h | h | h | h | h | h | h | h | h
  · exact Or.inl h
  · exact Or.inr (Or.inl h)
  · exact (Or.inr (Or.inr (Or.inl (Int32.toInt_inj.mp (h.trans (by decide : (25 : Int) = (25 : Int32).toInt))))))
  · exact (Or.inr (Or.inr (Or.inr (Or.inl (Int32.toInt_inj.mp (h.trans (by decide : (26 : Int) = (26 : Int32).toInt)))))))
  · exact (Or.inr (Or.inr (Or.inr (Or.inr (Or.inl (Int32.toInt_inj.mp (h.trans (by decide : (27 : Int) = (27 : Int32).toInt))))))))
  · exact (Or.inr (Or.inr (Or.inr (Or.inr (Or.inr (Or.inl (Int32.toInt_inj.mp (h.trans (by decide : (28 : Int) = (28 : Int32).toInt)))))))))
  · exact (Or.inr (Or.inr (Or.inr (Or.inr (Or.inr (Or.inr (Or.inl (Int32.toInt_inj.mp (h.trans (by decide : (29 : Int) = (29 : Int32).toInt))))))))))
  · exact (Or.inr (Or.inr (Or.inr (Or.inr (Or.inr (Or.inr (Or.inr (Or.inl (Int32.toInt_inj.mp (h.trans (by decide : (30 : Int) = (30 : Int32).toInt)))))))))))
  · exact (Or.inr (Or.inr (Or.inr (Or.inr (Or.inr (Or.inr (Or.inr (Or.inr (Or.inl (Int32.toInt_inj.mp (h.trans (by decide : (31 : Int) = (31 : Int32).toInt))))))))))))
  · exact (Or.inr (Or.inr (Or.inr (Or.inr (Or.inr (Or.inr (Or.inr (Or.inr (Or.inr (Or.inl (Int32.toInt_inj.mp (h.trans (by decide : (32 : Int) = (32 : Int32).toInt)))))))))))))
  · exact (Or.inr (Or.inr (Or.inr (Or.inr (Or.inr (Or.inr (Or.inr (Or.inr (Or.inr (Or.inr (Or.inl (Int32.toInt_inj.mp (h.trans (by decide : (33 : Int) = (33 : Int32).toInt))))))))))))))
  · exact (Or.inr (Or.inr (Or.inr (Or.inr (Or.inr (Or.inr (Or.inr (Or.inr (Or.inr (Or.inr (Or.inr (Or.inl (Int32.toInt_inj.mp (h.trans (by decide : (34 : Int) = (34 : Int32).toInt)))))))))))))))
  · exact (Or.inr (Or.inr (Or.inr (Or.inr (Or.inr (Or.inr (Or.inr (Or.inr (Or.inr (Or.inr (Or.inr (Or.inr (Or.inl (Int32.toInt_inj.mp (h.trans (by decide : (35 : Int) = (35 : Int32).toInt))))))))))))))))
  · exact (Or.inr (Or.inr (Or.inr (Or.inr (Or.inr (Or.inr (Or.inr (Or.inr (Or.inr (Or.inr (Or.inr (Or.inr (Or.inr (Or.inl (Int32.toInt_inj.mp (h.trans (by decide : (36 : Int) = (36 : Int32).toInt)))))))))))))))))
  · exact (Or.inr (Or.inr (Or.inr (Or.inr (Or.inr (Or.inr (Or.inr (Or.inr (Or.inr (Or.inr (Or.inr (Or.inr (Or.inr (Or.inr (Or.inl (Int32.toInt_inj.mp (h.trans (by decide : (37 : Int) = (37 : Int32).toInt))))))))))))))))))
  · exact (Or.inr (Or.inr (Or.inr (Or.inr (Or.inr (Or.inr (Or.inr (Or.inr (Or.inr (Or.inr (Or.inr (Or.inr (Or.inr (Or.inr (Or.inr (Or.inl (Int32.toInt_inj.mp (h.trans (by decide : (38 : Int) = (38 : Int32).toInt)))))))))))))))))))
  · exact (Or.inr (Or.inr (Or.inr (Or.inr (Or.inr (Or.inr (Or.inr (Or.inr (Or.inr (Or.inr (Or.inr (Or.inr (Or.inr (Or.inr (Or.inr (Or.inr (Or.inl (Int32.toInt_inj.mp (h.trans (by decide : (39 : Int) = (39 : Int32).toInt))))))))))))))))))))
  · exact (Or.inr (Or.inr (Or.inr (Or.inr (Or.inr (Or.inr (Or.inr (Or.inr (Or.inr (Or.inr (Or.inr (Or.inr (Or.inr (Or.inr (Or.inr (Or.inr (Or.inr (Or.inl (Int32.toInt_inj.mp (h.trans (by decide : (40 : Int) = (40 : Int32).toInt)))))))))))))))))))))
  · exact (Or.inr (Or.inr (Or.inr (Or.inr (Or.inr (Or.inr (Or.inr (Or.inr (Or.inr (Or.inr (Or.inr (Or.inr (Or.inr (Or.inr (Or.inr (Or.inr (Or.inr (Or.inr (Or.inl (Int32.toInt_inj.mp (h.trans (by decide : (41 : Int) = (41 : Int32).toInt))))))))))))))))))))))
  · exact (Or.inr (Or.inr (Or.inr (Or.inr (Or.inr (Or.inr (Or.inr (Or.inr (Or.inr (Or.inr (Or.inr (Or.inr (Or.inr (Or.inr (Or.inr (Or.inr (Or.inr (Or.inr (Or.inr (Or.inl (Int32.toInt_inj.mp (h.trans (by decide : (42 : Int) = (42 : Int32).toInt)))))))))))))))))))))))
  · exact (Or.inr (Or.inr (Or.inr (Or.inr (Or.inr (Or.inr (Or.inr (Or.inr (Or.inr (Or.inr (Or.inr (Or.inr (Or.inr (Or.inr (Or.inr (Or.inr (Or.inr (Or.inr (Or.inr (Or.inr (Or.inl (Int32.toInt_inj.mp (h.trans (by decide : (43 : Int) = (43 : Int32).toInt))))))))))))))))))))))))
  · exact (Or.inr (Or.inr (Or.inr (Or.inr (Or.inr (Or.inr (Or.inr (Or.inr (Or.inr (Or.inr (Or.inr (Or.inr (Or.inr (Or.inr (Or.inr (Or.inr (Or.inr (Or.inr (Or.inr (Or.inr (Or.inr (Int32.toInt_inj.mp (h.trans (by decide : (44 : Int) = (44 : Int32).toInt))))))))))))))))))))))))
