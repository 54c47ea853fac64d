/-! what holds before there is a component: the constants -/
def S8 (μ : Mu) : Prop := (∀ i, i < 81 → mS μ (hd 1 i) = (1, 15)) ∧ (∀ i, i < 81 → mS μ (hd 2 i) = (4, (kTx.getD i []).length)) ∧ ∀ i, i < 2 → mS μ (hd 5 i) = (4, 100)
theorem S8.of {μ : Mu} (h : St μ) : S8 μ := ⟨fun _ hi => s_1n h hi, fun _ hi => s_2n h hi, fun _ hi => s_5 h hi⟩
theorem S8.lo {μ μ' : Mu} (h : S8 μ) (l : Lo μ μ') : S8 μ' := ⟨fun i hi => (l 1 i (by decide)).1.trans (h.1 i hi), fun i hi => (l 2 i (by decide)).1.trans (h.2.1 i hi), fun i hi => (l 5 i (by decide)).1.trans (h.2.2 i hi)⟩
theorem s8_1n {μ : Mu} (h : S8 μ) {i : Nat} (hi : i < 81) : mS μ (hd 1 i) = (1, 15) := h.1 i hi
theorem s8_2n {μ : Mu} (h : S8 μ) {i : Nat} (hi : i < 81) : mS μ (hd 2 i) = (4, (kTx.getD i []).length) := h.2.1 i hi
theorem s8_5 {μ : Mu} (h : S8 μ) {i : Nat} (hi : i < 2) : mS μ (hd 5 i) = (4, 100) := h.2.2 i hi
theorem FrS.s8 {own : Nat → Nat → Prop} {μ μ' : Mu} (h : FrS own μ μ') (ho : ∀ κ i, own κ i → 100 ≤ κ) (hS : S8 μ) : S8 μ' := hS.lo (h.lo ho)
def CalS (K : KM) (d rc rs : Nat) (args : List Value) (μ : Mu) (Q : Option Value → Mu → Prop) : Prop := Call CT ST K d rc rs args μ (fun r μ' => S8 μ' ∧ Q r μ')
theorem Cal.ofS {K : KM} {d rc rs : Nat} {args : List Value} {μ : Mu} {Q : Option Value → Mu → Prop} (hS : St μ) (h : CalS K d rc rs args μ (fun r μ' => Lo μ μ' ∧ Q r μ')) : Cal K d rc rs args μ Q := Call.mono h (fun r μ' z => ⟨hS.lo z.2.1, z.2.2⟩)
section WX8
variable {K : KM} {d rc rs : Nat} {Q : Option Value → Mu → Prop} {pc : Nat} {L : List (Nat × Value)} {st : List Value} {μ : Mu}
theorem CalS.of {args : List Value} (hp : plainName (kY K).cls = true) (ho : kO K = (kY K).cls) (hL : lv_args 0 args = L) (hn : (lg_sl args).length ≤ kL K) (hT : K.2.2.2.2.2 = ([], [])) (k : Wx K d rc rs (fun r μ' => S8 μ' ∧ Q r μ') 0 L [] μ) : CalS K d rc rs args μ Q := Call.of hp ho hL hn hT (fun _ => k)
variable {a index : Nat} {q : CE}
end WX8
section
variable {K : KM} {d rc rs : Nat} {Q : Option Value → Mu → Prop} {pc : Nat} {L : List (Nat × Value)} {st : List Value} {μ : Mu}
variable {a index : Nat} {q : CE}
variable {K' : KM} {n b : Nat} {As st0 : List Value}
theorem Wt.cVi (ci d' rc' rs' : Nat) (F : Int32 → Mu → Prop) (hd : decode (kB K) pc = .ok (.invokevirtual index, 3)) (hM : MOK K' n) (hlk : VLink K index q.1 (kY K')) (hq : CT[ci]? = some q) (hst : st0 = As.reverse ++ .ref b :: st) (hn : As.length = n) (hcat : (st.map fun v => v.category).sum ≤ 8) (hdd : d' + 1 ≤ d) (hrc : rc' ≤ rc) (hrs : rs' ≤ rs) (hs : mS μ b = (1, ci))
    (hcall : CalS K' d' rc' rs' (.ref b :: As) μ (fun r μ' => ∃ x, r = some (.int x) ∧ F x μ')) (kk : ∀ (x : Int32) μ', S8 μ' → F x μ' → Wx K d (rc - rc') (rs - rs') Q (pc + 3) L (.int x :: st) μ') : Wx K d rc rs Q pc L st0 μ :=
  Wa.callV ci d' rc' rs' hd hM hlk hq hst hn hcat hdd hrc hrs hs hcall (fun r μ' h => by
    obtain ⟨h1, x, rfl, h2⟩ := h
    exact kk x μ' h1 h2)
theorem Wt.cSi (d' rc' rs' : Nat) (F : Int32 → Mu → Prop) (hd : decode (kB K) pc = .ok (.invokestatic index, 3)) (hM : MOK K' n) (hlk : SLink K index (kY K')) (hst : st0 = As.reverse ++ st) (hn : As.length = n) (hcat : (st.map fun v => v.category).sum ≤ 8) (hdd : d' + 1 ≤ d) (hrc : rc' ≤ rc) (hrs : rs' ≤ rs)
    (hcall : CalS K' d' rc' rs' As μ (fun r μ' => ∃ x, r = some (.int x) ∧ F x μ')) (kk : ∀ (x : Int32) μ', S8 μ' → F x μ' → Wx K d (rc - rc') (rs - rs') Q (pc + 3) L (.int x :: st) μ') : Wx K d rc rs Q pc L st0 μ :=
  Wa.callS d' rc' rs' hd hM hlk hst hn hcat hdd hrc hrs hcall (fun r μ' h => by
    obtain ⟨h1, x, rfl, h2⟩ := h
    exact kk x μ' h1 h2)
theorem Wt.cVv (ci d' rc' rs' : Nat) (F : Mu → Prop) (hd1 : decode (kB K) pc = .ok (.invokevirtual index, 3)) (hM : MOK K' n) (hlk : VLink K index q.1 (kY K')) (hq : CT[ci]? = some q) (hst : st0 = As.reverse ++ .ref b :: st) (hn : As.length = n) (hcat : (st.map fun v => v.category).sum ≤ 8) (hdd : d' + 1 ≤ d) (hrc : rc' ≤ rc) (hrs : rs' ≤ rs) (hs : mS μ b = (1, ci))
    (hcall : CalS K' d' rc' rs' (.ref b :: As) μ (fun r μ' => r = none ∧ F μ')) (kk : ∀ μ', S8 μ' → F μ' → Wx K d (rc - rc') (rs - rs') Q (pc + 3) L st μ') : Wx K d rc rs Q pc L st0 μ :=
  Wa.callV ci d' rc' rs' hd1 hM hlk hq hst hn hcat hdd hrc hrs hs hcall (fun r μ' h => by
    obtain ⟨h1, rfl, h2⟩ := h
    exact kk μ' h1 h2)
theorem Wt.cSv (d' rc' rs' : Nat) (F : Mu → Prop) (hd1 : decode (kB K) pc = .ok (.invokestatic index, 3)) (hM : MOK K' n) (hlk : SLink K index (kY K')) (hst : st0 = As.reverse ++ st) (hn : As.length = n) (hcat : (st.map fun v => v.category).sum ≤ 8) (hdd : d' + 1 ≤ d) (hrc : rc' ≤ rc) (hrs : rs' ≤ rs)
    (hcall : CalS K' d' rc' rs' As μ (fun r μ' => r = none ∧ F μ')) (kk : ∀ μ', S8 μ' → F μ' → Wx K d (rc - rc') (rs - rs') Q (pc + 3) L st μ') : Wx K d rc rs Q pc L st0 μ :=
  Wa.callS d' rc' rs' hd1 hM hlk hst hn hcat hdd hrc hrs hcall (fun r μ' h => by
    obtain ⟨h1, rfl, h2⟩ := h
    exact kk μ' h1 h2)
end
section
variable {K : KM} {d rc rs : Nat} {Q : Option Value → Mu → Prop} {pc : Nat} {L : List (Nat × Value)} {st : List Value} {μ : Mu} {a index : Nat} {q : CE}
variable {K' : KM} {n b : Nat} {As st0 : List Value}
theorem Ws.cVr (ci d' rc' rs' : Nat) (F : Nat → Mu → Prop) (hd1 : decode (kB K) pc = .ok (.invokevirtual index, 3)) (hM : MOK K' n) (hlk : VLink K index q.1 (kY K')) (hq : CT[ci]? = some q) (hst : st0 = As.reverse ++ .ref b :: st) (hn : As.length = n) (hcat : (st.map fun v => v.category).sum ≤ 8) (hdd : d' + 1 ≤ d) (hrc : rc' ≤ rc) (hrs : rs' ≤ rs) (hs : mS μ b = (1, ci))
    (hcall : CalS K' d' rc' rs' (.ref b :: As) μ (fun r μ' => ∃ x, r = some (.ref x) ∧ F x μ')) (kk : ∀ (x : Nat) μ', S8 μ' → F x μ' → Wx K d (rc - rc') (rs - rs') Q (pc + 3) L (.ref x :: st) μ') : Wx K d rc rs Q pc L st0 μ :=
  Wa.callV ci d' rc' rs' hd1 hM hlk hq hst hn hcat hdd hrc hrs hs hcall (fun r μ' h => by
    obtain ⟨h1, x, rfl, h2⟩ := h
    exact kk x μ' h1 h2)
theorem Ws.cSr (d' rc' rs' : Nat) (F : Nat → Mu → Prop) (hd1 : decode (kB K) pc = .ok (.invokestatic index, 3)) (hM : MOK K' n) (hlk : SLink K index (kY K')) (hst : st0 = As.reverse ++ st) (hn : As.length = n) (hcat : (st.map fun v => v.category).sum ≤ 8) (hdd : d' + 1 ≤ d) (hrc : rc' ≤ rc) (hrs : rs' ≤ rs)
    (hcall : CalS K' d' rc' rs' As μ (fun r μ' => ∃ x, r = some (.ref x) ∧ F x μ')) (kk : ∀ (x : Nat) μ', S8 μ' → F x μ' → Wx K d (rc - rc') (rs - rs') Q (pc + 3) L (.ref x :: st) μ') : Wx K d rc rs Q pc L st0 μ :=
  Wa.callS d' rc' rs' hd1 hM hlk hst hn hcat hdd hrc hrs hcall (fun r μ' h => by
    obtain ⟨h1, x, rfl, h2⟩ := h
    exact kk x μ' h1 h2)
theorem Ws.cIv (d' rc' rs' : Nat) (F : Mu → Prop) (hd1 : decode (kB K) pc = .ok (.invokespecial index, 3)) (hM : MOK K' n) (hret : kR K' = none) (hlk : ILink K index (kY K')) (hst : st0 = As.reverse ++ .ref b :: st) (hn : As.length = n) (hcat : (st.map fun v => v.category).sum ≤ 8) (hdd : d' + 1 ≤ d) (hrc : rc' ≤ rc) (hrs : rs' ≤ rs)
    (hcall : CalS K' d' rc' rs' (.ref b :: As) μ (fun r μ' => r = none ∧ F μ')) (kk : ∀ μ', S8 μ' → F μ' → Wx K d (rc - rc') (rs - rs') Q (pc + 3) L st μ') : Wx K d rc rs Q pc L st0 μ :=
  Wa.callI d' rc' rs' hd1 hM hret hlk hst hn hcat hdd hrc hrs hcall (fun r μ' h => by
    obtain ⟨h1, rfl, h2⟩ := h
    exact kk μ' h1 h2)
theorem Ws.cNi (ci d' rc' rs' : Nat) {x : MethodName} (F : Int32 → Mu → Prop) (hd1 : decode (kB K) pc = .ok (.invokevirtual index, 3)) (hM : MOK K' n) (hlk : NLink K index q.1 x (kY K') n) (hq : CT[ci]? = some q) (hst : st0 = As.reverse ++ .ref b :: st) (hn : As.length = n) (hcat : (st.map fun v => v.category).sum ≤ 8) (hdd : d' + 1 ≤ d) (hrc : rc' ≤ rc) (hrs : rs' ≤ rs) (hs : mS μ b = (1, ci))
    (hcall : CalS K' d' rc' rs' (.ref b :: As) μ (fun r μ' => ∃ x, r = some (.int x) ∧ F x μ')) (kk : ∀ (x : Int32) μ', S8 μ' → F x μ' → Wx K d (rc - rc') (rs - rs') Q (pc + 3) L (.int x :: st) μ') : Wx K d rc rs Q pc L st0 μ :=
  Wa.callN ci d' rc' rs' hd1 hM hlk hq hst hn hcat hdd hrc hrs hs hcall (fun r μ' h => by
    obtain ⟨h1, x, rfl, h2⟩ := h
    exact kk x μ' h1 h2)
theorem Ws.cNr (ci d' rc' rs' : Nat) {x : MethodName} (F : Nat → Mu → Prop) (hd1 : decode (kB K) pc = .ok (.invokevirtual index, 3)) (hM : MOK K' n) (hlk : NLink K index q.1 x (kY K') n) (hq : CT[ci]? = some q) (hst : st0 = As.reverse ++ .ref b :: st) (hn : As.length = n) (hcat : (st.map fun v => v.category).sum ≤ 8) (hdd : d' + 1 ≤ d) (hrc : rc' ≤ rc) (hrs : rs' ≤ rs) (hs : mS μ b = (1, ci))
    (hcall : CalS K' d' rc' rs' (.ref b :: As) μ (fun r μ' => ∃ x, r = some (.ref x) ∧ F x μ')) (kk : ∀ (x : Nat) μ', S8 μ' → F x μ' → Wx K d (rc - rc') (rs - rs') Q (pc + 3) L (.ref x :: st) μ') : Wx K d rc rs Q pc L st0 μ :=
  Wa.callN ci d' rc' rs' hd1 hM hlk hq hst hn hcat hdd hrc hrs hs hcall (fun r μ' h => by
    obtain ⟨h1, x, rfl, h2⟩ := h
    exact kk x μ' h1 h2)
theorem Ws.cNv (ci d' rc' rs' : Nat) {x : MethodName} (F : Mu → Prop) (hd1 : decode (kB K) pc = .ok (.invokevirtual index, 3)) (hM : MOK K' n) (hlk : NLink K index q.1 x (kY K') n) (hq : CT[ci]? = some q) (hst : st0 = As.reverse ++ .ref b :: st) (hn : As.length = n) (hcat : (st.map fun v => v.category).sum ≤ 8) (hdd : d' + 1 ≤ d) (hrc : rc' ≤ rc) (hrs : rs' ≤ rs) (hs : mS μ b = (1, ci))
    (hcall : CalS K' d' rc' rs' (.ref b :: As) μ (fun r μ' => r = none ∧ F μ')) (kk : ∀ μ', S8 μ' → F μ' → Wx K d (rc - rc') (rs - rs') Q (pc + 3) L st μ') : Wx K d rc rs Q pc L st0 μ :=
  Wa.callN ci d' rc' rs' hd1 hM hlk hq hst hn hcat hdd hrc hrs hs hcall (fun r μ' h => by
    obtain ⟨h1, rfl, h2⟩ := h
    exact kk μ' h1 h2)
theorem Ws.cXr (ci d' rc' rs' : Nat) (F : Nat → Mu → Prop) (hd1 : decode (kB K) pc = .ok (.invokespecial index, 3)) (hM : MOK K' n) (hlk : XLink K index (kY K')) (hq : CT[ci]? = some q) (hok : CEok q) (hst : st0 = As.reverse ++ .ref b :: st) (hn : As.length = n) (hcat : (st.map fun v => v.category).sum ≤ 8) (hdd : d' + 1 ≤ d) (hrc : rc' ≤ rc) (hrs : rs' ≤ rs) (hs : mS μ b = (1, ci))
    (hcall : CalS K' d' rc' rs' (.ref b :: As) μ (fun r μ' => ∃ x, r = some (.ref x) ∧ F x μ')) (kk : ∀ (x : Nat) μ', S8 μ' → F x μ' → Wx K d (rc - rc') (rs - rs') Q (pc + 3) L (.ref x :: st) μ') : Wx K d rc rs Q pc L st0 μ :=
  Wa.callX ci d' rc' rs' hd1 hM hlk hq hok hst hn hcat hdd hrc hrs hs hcall (fun r μ' h => by
    obtain ⟨h1, x, rfl, h2⟩ := h
    exact kk x μ' h1 h2)
theorem Ws.cXi (ci d' rc' rs' : Nat) (F : Int32 → Mu → Prop) (hd1 : decode (kB K) pc = .ok (.invokespecial index, 3)) (hM : MOK K' n) (hlk : XLink K index (kY K')) (hq : CT[ci]? = some q) (hok : CEok q) (hst : st0 = As.reverse ++ .ref b :: st) (hn : As.length = n) (hcat : (st.map fun v => v.category).sum ≤ 8) (hdd : d' + 1 ≤ d) (hrc : rc' ≤ rc) (hrs : rs' ≤ rs) (hs : mS μ b = (1, ci))
    (hcall : CalS K' d' rc' rs' (.ref b :: As) μ (fun r μ' => ∃ x, r = some (.int x) ∧ F x μ')) (kk : ∀ (x : Int32) μ', S8 μ' → F x μ' → Wx K d (rc - rc') (rs - rs') Q (pc + 3) L (.int x :: st) μ') : Wx K d rc rs Q pc L st0 μ :=
  Wa.callX ci d' rc' rs' hd1 hM hlk hq hok hst hn hcat hdd hrc hrs hs hcall (fun r μ' h => by
    obtain ⟨h1, x, rfl, h2⟩ := h
    exact kk x μ' h1 h2)
end
