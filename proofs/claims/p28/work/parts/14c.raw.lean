/-! rows over cells of high names: shapes and places are asked for, none is known beforehand -/
def hiN (a : Nat) : Prop := 100 ≤ a % 256
theorem hiN.rw {a : Nat} (h : hiN a) : rwN a := by unfold hiN at h; unfold rwN; omega
theorem hi_hd {κ i : Nat} (h : 100 ≤ κ) (h' : κ < 256) : hiN (hd κ i) := by unfold hiN; rw [hd_mod h']; exact h
theorem gI_hi {μ : Mu} {a k : Nat} (h : hiN a) : gI μ a k = mI μ a k := gI_rw h.rw k
theorem gR_hi {μ : Mu} {a k : Nat} (h : hiN a) : gR μ a k = mR μ a k := gR_rw h.rw k
theorem ct_le : CT.length ≤ 30 := by decide +kernel
theorem hi_ne {κ i a : Nat} (hκ : κ < 100) (h : hiN a) : hd κ i ≠ a := fun e => by
  unfold hiN at h
  rw [← e, hd_mod (by omega)] at h
  omega
theorem Lo.setI {μ : Mu} {a k : Nat} {x : Int32} (h : hiN a) : Lo μ (setI μ a k x) := fun κ i hκ => ⟨rfl, fun j => ⟨if_neg (fun z => hi_ne hκ h z.1), rfl, rfl⟩⟩
theorem Lo.setR {μ : Mu} {a k x : Nat} (h : hiN a) : Lo μ (setR μ a k x) := fun κ i hκ => ⟨rfl, fun j => ⟨rfl, rfl, if_neg (fun z => hi_ne hκ h z.1)⟩⟩
theorem Lo.mkA {μ : Mu} {a : Nat} {sh : Nat × Nat} (h : hiN a) : Lo μ (mkA μ a sh) := fun κ i hκ => ⟨if_neg (hi_ne hκ h), fun j => ⟨if_neg (hi_ne hκ h), if_neg (hi_ne hκ h), if_neg (hi_ne hκ h)⟩⟩
theorem Lo.clA {μ : Mu} {a a0 : Nat} (h : hiN a) : Lo μ (clA μ a0 a) := fun κ i hκ => ⟨if_neg (hi_ne hκ h), fun j => ⟨if_neg (hi_ne hκ h), if_neg (hi_ne hκ h), if_neg (hi_ne hκ h)⟩⟩
theorem Lo.reS {μ : Mu} {a : Nat} {sh : Nat × Nat} (h : hiN a) : Lo μ (reS μ a sh) := fun κ i hκ => ⟨if_neg (hi_ne hκ h), fun j => ⟨rfl, rfl, rfl⟩⟩
theorem Lo.cpI {μ : Mu} {a a0 sp dp n : Nat} (h : hiN a) : Lo μ (cpI μ a0 a sp dp n) := fun κ i hκ => ⟨rfl, fun j => ⟨if_neg (hi_ne hκ h), rfl, rfl⟩⟩
theorem Lo.mkM {μ : Mu} {a κ' N k : Nat} (h : hiN a) (h1 : 100 ≤ κ') (h2 : κ' < 256) : Lo μ (mkM μ a κ' N k) := fun κ i hκ => by
  have h3 : isRow κ' N (hd κ i) = false := by
    cases hq : isRow κ' N (hd κ i) with
    | false => rfl
    | true =>
      obtain ⟨j, -, e⟩ := isRow_is hq
      have := ((hd_inj (by omega) h2).mp e).1
      omega
  have h4 : ¬ isRow κ' N (hd κ i) = true := by rw [h3]; decide
  exact ⟨(if_neg (hi_ne hκ h)).trans (if_neg h4), fun j => ⟨(if_neg (hi_ne hκ h)).trans (if_neg h4), (if_neg (hi_ne hκ h)).trans (if_neg h4), (if_neg (hi_ne hκ h)).trans (if_neg h4)⟩⟩
/-- more room does no harm -/
theorem Wa.mono {ct : List CE} {stt : List SE} {K : KM} {d rc rs rc' rs' : Nat} {Q : Option Value → Mu → Prop} {pc : Nat} {L : List (Nat × Value)} {st : List Value} {μ : Mu} (hc : rc' ≤ rc) (hs : rs' ≤ rs) (k : Wa ct stt K d rc' rs' Q pc L st μ) : Wa ct stt K d rc rs Q pc L st μ := by
  intro p l e s m args below meth c R B0 mc ms Z adr0 μ0 hC hd hdl hmc hms hE H locs cells slots ls adr hR hX hl hcc hss hls hL hS
  exact W.widen (by omega) (by omega) (k p l e s m args below meth c R B0 mc ms Z adr0 μ0 hC hd hdl hmc hms hE H locs (cells + (rc - rc')) (slots + (rs - rs')) ls adr hR hX hl (by omega) (by omega) hls hL hS)
/-- what is asked of a name for a new cell -/
def FreN (μ : Mu) (a : Nat) : Prop := mS μ a = (0, 0) ∧ hiN a
section WRA
variable {K : KM} {d rc rs : Nat} {Q : Option Value → Mu → Prop} {pc : Nat} {L : List (Nat × Value)} {st : List Value} {μ : Mu} {a index : Nat} {q : CE}
theorem Wr.getI (ci k : Nat) (hd1 : decode (kB K) pc = .ok (.getfield index, 3)) (hf : FI ci k q .int) (hw : FLink K index (q.2.1 k)) (hs : mS μ a = (1, ci)) (kk : Wx K d rc rs Q (pc + 3) L (.int (gI μ a k) :: st) μ) : Wx K d rc rs Q pc L (.ref a :: st) μ := Wa.getI ci k hd1 hf.1 hf.2.1 hw hf.2.2 hs kk
theorem Wr.getB (ci k : Nat) (hd1 : decode (kB K) pc = .ok (.getfield index, 3)) (hf : FI ci k q .byte) (hw : FLink K index (q.2.1 k)) (hs : mS μ a = (1, ci)) (kk : Wx K d rc rs Q (pc + 3) L (.int (gI μ a k) :: st) μ) : Wx K d rc rs Q pc L (.ref a :: st) μ := Wa.getf hd1 hs hf.1 hf.2.1 hw (fun adr => by rw [hf.2.2]; rfl) (fun _ => lvv_int) kk
theorem Wr.getR (ci k : Nat) {b : Nat} {ty : FieldType} (hd1 : decode (kB K) pc = .ok (.getfield index, 3)) (hf : FI ci k q ty) (ht : isRefTy ty = true) (hw : FLink K index (q.2.1 k)) (hs : mS μ a = (1, ci)) (hb : gR μ a k = some b) (kk : Wx K d rc rs Q (pc + 3) L (.ref b :: st) μ) : Wx K d rc rs Q pc L (.ref a :: st) μ := Wa.getR ci k hd1 hf.1 hf.2.1 hw (by rw [hf.2.2]; exact ht) hs hb kk
theorem Wr.putI (ci k : Nat) {x : Int32} (hd1 : decode (kB K) pc = .ok (.putfield index, 3)) (hf : FI ci k q .int) (hok : CEok q) (hw : FLink K index (q.2.1 k)) (hfin : FFin K (q.2.1 k)) (hs : mS μ a = (1, ci)) (hh : hiN a) (kk : Wx K d rc rs Q (pc + 3) L st (setI μ a k x)) : Wx K d rc rs Q pc L (.int x :: .ref a :: st) μ := Wa.putI ci k hd1 hf.1 hf.2.1 hok hw hfin hf.2.2 hh.rw hs kk
theorem Wr.putB0 (ci k : Nat) (hd1 : decode (kB K) pc = .ok (.putfield index, 3)) (hf : FI ci k q .byte) (hok : CEok q) (hw : FLink K index (q.2.1 k)) (hfin : FFin K (q.2.1 k)) (hs : mS μ a = (1, ci)) (hh : hiN a) (kk : Wx K d rc rs Q (pc + 3) L st (setI μ a k 0)) : Wx K d rc rs Q pc L (.int 0 :: .ref a :: st) μ :=
  Wa.putf hd1 hs hf.1 hf.2.1 hok hw hfin hh.rw (fun adr => by rw [hf.2.2]; rfl) (fun adr => by rw [hf.2.2]; rfl) (fun _ h => Mu1.i (h k)) (fun adr => by rw [hf.2.2]; exact congrArg Value.int ((gI_rw hh.rw k).trans up2_self)) kk
theorem Wr.putR (ci k : Nat) {x : Nat} {ty : FieldType} (hd1 : decode (kB K) pc = .ok (.putfield index, 3)) (hf : FI ci k q ty) (ht : isRefTy ty = true) (hok : CEok q) (hw : FLink K index (q.2.1 k)) (hfin : FFin K (q.2.1 k)) (hs : mS μ a = (1, ci)) (hh : hiN a) (kk : Wx K d rc rs Q (pc + 3) L st (setR μ a k x)) : Wx K d rc rs Q pc L (.ref x :: .ref a :: st) μ := Wa.putR ci k hd1 hf.1 hf.2.1 hok hw hfin (by rw [hf.2.2]; exact ht) hh.rw hs kk
theorem Wr.iast {n : Nat} {i x : Int32} (hd1 : decode (kB K) pc = .ok (.iastore, 1)) (hs : mS μ a = (2, n)) (hi : vp_in i n) (hh : hiN a) (kk : Wx K d rc rs Q (pc + 1) L st (setI μ a i.toNatClampNeg x)) : Wx K d rc rs Q pc L (.int x :: .int i :: .ref a :: st) μ := Wa.iast hd1 hh.rw hs hi kk
theorem Wr.bast {n : Nat} {i x : Int32} (hd1 : decode (kB K) pc = .ok (.bastore, 1)) (hs : mS μ a = (4, n)) (hi : vp_in i n) (hh : hiN a) (kk : Wx K d rc rs Q (pc + 1) L st (setI μ a i.toNatClampNeg (vp_nar .byte x))) : Wx K d rc rs Q pc L (.int x :: .int i :: .ref a :: st) μ := Wa.bast hd1 hh.rw hs hi kk
theorem Wr.zast {n : Nat} {i x : Int32} (hd1 : decode (kB K) pc = .ok (.bastore, 1)) (hs : mS μ a = (5, n)) (hi : vp_in i n) (hh : hiN a) (kk : Wx K d rc rs Q (pc + 1) L st (setI μ a i.toNatClampNeg (vp_nar .boolean x))) : Wx K d rc rs Q pc L (.int x :: .int i :: .ref a :: st) μ := Wa.zast hd1 hh.rw hs hi kk
theorem Wr.aastA {t n n' b : Nat} {i : Int32} (hd1 : decode (kB K) pc = .ok (.aastore, 1)) (ht : t = 40 ∨ t = 41) (hs : mS μ a = (t, n)) (hi : vp_in i n) (hh : hiN a) (hb : mS μ b = (elS t, n')) (hhb : hiN b) (kk : Wx K d rc rs Q (pc + 1) L st (setR μ a i.toNatClampNeg b)) : Wx K d rc rs Q pc L (.ref b :: .int i :: .ref a :: st) μ := Wa.aastA ct_le hd1 ht hh.rw hs hi hhb.rw hb kk
theorem Wr.newarr (t N : Nat) (a : Nat) {atype : ArrayType} {n : Int32} (hd1 : decode (kB K) pc = .ok (.newarray atype, 2)) (hw : Cond.arrayClass (newarray.typeOf atype) ∈ tb) (hty : newarray.typeOf atype = tagTy CT t) (ht : 2 ≤ t ∧ t ≤ 5) (hn : ¬ n < 0) (hN : n.toNatClampNeg = N) (hb : N ≤ 1000000) (hrc : 1 ≤ rc) (hrs : N ≤ rs) (ha : FreN μ a)
    (kk : Wx K d (rc - 1) (rs - N) Q (pc + 2) L (.ref a :: st) (mkA μ a (t, N))) : Wx K d rc rs Q pc L (.int n :: st) μ :=
  Wa.newarr a t N hd1 hw hty ht hn hN (by
    have : componentBytes (newarray.typeOf atype) ≤ 8 := by cases atype <;> decide
    have := Nat.mul_le_mul hb this
    omega) hrc hrs ha.1 ha.2.rw kk
theorem Wr.anewA (t N : Nat) (a : Nat) {n : Int32} (hd1 : decode (kB K) pc = .ok (.anewarray index, 3)) (ht : t = 40 ∨ t = 41) (hw : Cond.classLink (kO K) index (FieldType.array (elT t)).toString ∈ tb) (hw2 : Cond.arrayOver (.array (elT t)) ∈ tb) (hn : ¬ n < 0) (hN : n.toNatClampNeg = N) (hb : N ≤ 1000000) (hrc : 1 ≤ rc) (hrs : N ≤ rs) (ha : FreN μ a)
    (kk : Wx K d (rc - 1) (rs - N) Q (pc + 3) L (.ref a :: st) (mkA μ a (t, N))) : Wx K d rc rs Q pc L (.int n :: st) μ := Wa.anewA a t N ct_le hd1 ht hw hw2 hn hN (by omega) hrc hrs ha.1 ha.2.rw kk
theorem Wr.anewS (N : Nat) (a : Nat) {n : Int32} (hd1 : decode (kB K) pc = .ok (.anewarray index, 3)) (hw : Cond.classLink (kO K) index "java/lang/String" ∈ tb) (hn : ¬ n < 0) (hN : n.toNatClampNeg = N) (hb : N ≤ 1000000) (hrc : 1 ≤ rc) (hrs : N ≤ rs) (ha : FreN μ a)
    (kk : Wx K d (rc - 1) (rs - N) Q (pc + 3) L (.ref a :: st) (mkA μ a (21, N))) : Wx K d rc rs Q pc L (.int n :: st) μ := Wa.anew (q := E_Str) a 15 N hd1 rfl hw ao_Str hn hN (by omega) hrc hrs ha.1 ha.2.rw kk
theorem Wr.mnew (N M : Nat) (a κ : Nat) {n k : Int32} (hd1 : decode (kB K) pc = .ok (.multianewarray index 2, 4)) (hw : Cond.classLink (kO K) index "[[Z" ∈ tb) (hn : ¬ n < 0) (hk : ¬ k < 0) (hN : n.toNatClampNeg = N) (hM : k.toNatClampNeg = M) (hb1 : N ≤ 1000) (hb2 : M ≤ 1000) (hrc : 1 + N ≤ rc) (hrs : N + N * M ≤ rs) (hκ : 100 ≤ κ ∧ κ < 256) (ha : FreN μ a) (hna : ∀ i, i < N → hd κ i ≠ a) (hfr : ∀ i, i < N → mS μ (hd κ i) = (0, 0))
    (kk : Wx K d (rc - (1 + N)) (rs - (N + N * M)) Q (pc + 4) L (.ref a :: st) (mkM μ a κ N M)) : Wx K d rc rs Q pc L (.int k :: .int n :: st) μ := Wa.mnew a κ N M ct_le hd1 hw aa_boolean ac_boolean hn hk hN hM hb1 hb2 hrc hrs ⟨by omega, hκ.2⟩ ha.1 ha.2.rw hna hfr kk
theorem Wr.cloneZ {a0 n : Nat} (a : Nat) (hd1 : decode (kB K) pc = .ok (.invokevirtual index, 3)) (h1 : Cond.methodLink (kO K) index ⟨"[Z", "clone", "()Ljava/lang/Object;"⟩ ∈ tb) (hs0 : mS μ a0 = (5, n)) (hh : hiN a0) (hfit : ∀ k, k < n → fits .boolean (.int (gI μ a0 k)) = true) (hcat : (st.map fun v => v.category).sum ≤ 8) (hdd : 1 ≤ d) (hrc : 1 ≤ rc) (hrs : n ≤ rs) (ha : FreN μ a)
    (kk : Wx K d (rc - 1) (rs - n) Q (pc + 3) L (.ref a :: st) (clA μ a0 a)) : Wx K d rc rs Q pc L (.ref a0 :: st) μ := Wa.clone a hd1 h1 cz_sameZ cz_nat cz_inst cz_selZ (List.mem_of_getElem? (i := 7) rfl) (Or.inr ⟨rfl, rfl⟩) hh.rw hs0 (fun k hk => by have := hfit k hk; rw [gI_hi hh] at this; exact this) hcat hdd hrc hrs ha.1 ha.2.rw kk
theorem Wr.cloneB {a0 n : Nat} (a : Nat) (hd1 : decode (kB K) pc = .ok (.invokevirtual index, 3)) (h1 : Cond.methodLink (kO K) index ⟨"[B", "clone", "()Ljava/lang/Object;"⟩ ∈ tb) (hs0 : mS μ a0 = (4, n)) (hh : hiN a0) (hfit : ∀ k, k < n → fits .byte (.int (gI μ a0 k)) = true) (hcat : (st.map fun v => v.category).sum ≤ 8) (hdd : 1 ≤ d) (hrc : 1 ≤ rc) (hrs : n ≤ rs) (ha : FreN μ a)
    (kk : Wx K d (rc - 1) (rs - n) Q (pc + 3) L (.ref a :: st) (clA μ a0 a)) : Wx K d rc rs Q pc L (.ref a0 :: st) μ := Wa.clone a hd1 h1 cz_sameB cz_nat cz_inst cz_selB (List.mem_of_getElem? (i := 6) rfl) (Or.inl ⟨rfl, rfl⟩) hh.rw hs0 (fun k hk => by have := hfit k hk; rw [gI_hi hh] at this; exact this) hcat hdd hrc hrs ha.1 ha.2.rw kk
variable {K' : KM} {n b : Nat} {As st0 : List Value}
theorem Wr.cVr (ci d' rc' rs' : Nat) (F : Nat → Mu → Prop) (hd1 : decode (kB K) pc = .ok (.invokevirtual index, 3)) (hM : MOK K' n) (hlk : VLink K index q.1 (kY K')) (hq : CT[ci]? = some q) (hst : st0 = As.reverse ++ .ref b :: st) (hn : As.length = n) (hcat : (st.map fun v => v.category).sum ≤ 8) (hdd : d' + 1 ≤ d) (hrc : rc' ≤ rc) (hrs : rs' ≤ rs) (hs : mS μ b = (1, ci))
    (hcall : Cal K' d' rc' rs' (.ref b :: As) μ (fun r μ' => ∃ x, r = some (.ref x) ∧ F x μ')) (kk : ∀ (x : Nat) μ', St μ' → F x μ' → Wx K d (rc - rc') (rs - rs') Q (pc + 3) L (.ref x :: st) μ') : Wx K d rc rs Q pc L st0 μ :=
  Wa.callV ci d' rc' rs' hd1 hM hlk hq hst hn hcat hdd hrc hrs hs hcall (fun r μ' h => by
    obtain ⟨h1, x, rfl, h2⟩ := h
    exact kk x μ' h1 h2)
theorem Wr.cSr (d' rc' rs' : Nat) (F : Nat → Mu → Prop) (hd1 : decode (kB K) pc = .ok (.invokestatic index, 3)) (hM : MOK K' n) (hlk : SLink K index (kY K')) (hst : st0 = As.reverse ++ st) (hn : As.length = n) (hcat : (st.map fun v => v.category).sum ≤ 8) (hdd : d' + 1 ≤ d) (hrc : rc' ≤ rc) (hrs : rs' ≤ rs)
    (hcall : Cal K' d' rc' rs' As μ (fun r μ' => ∃ x, r = some (.ref x) ∧ F x μ')) (kk : ∀ (x : Nat) μ', St μ' → F x μ' → Wx K d (rc - rc') (rs - rs') Q (pc + 3) L (.ref x :: st) μ') : Wx K d rc rs Q pc L st0 μ :=
  Wa.callS d' rc' rs' hd1 hM hlk hst hn hcat hdd hrc hrs hcall (fun r μ' h => by
    obtain ⟨h1, x, rfl, h2⟩ := h
    exact kk x μ' h1 h2)
theorem Wr.cIv (d' rc' rs' : Nat) (F : Mu → Prop) (hd1 : decode (kB K) pc = .ok (.invokespecial index, 3)) (hM : MOK K' n) (hret : kR K' = none) (hlk : ILink K index (kY K')) (hst : st0 = As.reverse ++ .ref b :: st) (hn : As.length = n) (hcat : (st.map fun v => v.category).sum ≤ 8) (hdd : d' + 1 ≤ d) (hrc : rc' ≤ rc) (hrs : rs' ≤ rs)
    (hcall : Cal K' d' rc' rs' (.ref b :: As) μ (fun r μ' => r = none ∧ F μ')) (kk : ∀ μ', St μ' → F μ' → Wx K d (rc - rc') (rs - rs') Q (pc + 3) L st μ') : Wx K d rc rs Q pc L st0 μ :=
  Wa.callI d' rc' rs' hd1 hM hret hlk hst hn hcat hdd hrc hrs hcall (fun r μ' h => by
    obtain ⟨h1, rfl, h2⟩ := h
    exact kk μ' h1 h2)
theorem Wr.cNi (ci d' rc' rs' : Nat) {x : MethodName} (F : Int32 → Mu → Prop) (hd1 : decode (kB K) pc = .ok (.invokevirtual index, 3)) (hM : MOK K' n) (hlk : NLink K index q.1 x (kY K') n) (hq : CT[ci]? = some q) (hst : st0 = As.reverse ++ .ref b :: st) (hn : As.length = n) (hcat : (st.map fun v => v.category).sum ≤ 8) (hdd : d' + 1 ≤ d) (hrc : rc' ≤ rc) (hrs : rs' ≤ rs) (hs : mS μ b = (1, ci))
    (hcall : Cal K' d' rc' rs' (.ref b :: As) μ (fun r μ' => ∃ x, r = some (.int x) ∧ F x μ')) (kk : ∀ (x : Int32) μ', St μ' → F x μ' → Wx K d (rc - rc') (rs - rs') Q (pc + 3) L (.int x :: st) μ') : Wx K d rc rs Q pc L st0 μ :=
  Wa.callN ci d' rc' rs' hd1 hM hlk hq hst hn hcat hdd hrc hrs hs hcall (fun r μ' h => by
    obtain ⟨h1, x, rfl, h2⟩ := h
    exact kk x μ' h1 h2)
theorem Wr.cNr (ci d' rc' rs' : Nat) {x : MethodName} (F : Nat → Mu → Prop) (hd1 : decode (kB K) pc = .ok (.invokevirtual index, 3)) (hM : MOK K' n) (hlk : NLink K index q.1 x (kY K') n) (hq : CT[ci]? = some q) (hst : st0 = As.reverse ++ .ref b :: st) (hn : As.length = n) (hcat : (st.map fun v => v.category).sum ≤ 8) (hdd : d' + 1 ≤ d) (hrc : rc' ≤ rc) (hrs : rs' ≤ rs) (hs : mS μ b = (1, ci))
    (hcall : Cal K' d' rc' rs' (.ref b :: As) μ (fun r μ' => ∃ x, r = some (.ref x) ∧ F x μ')) (kk : ∀ (x : Nat) μ', St μ' → F x μ' → Wx K d (rc - rc') (rs - rs') Q (pc + 3) L (.ref x :: st) μ') : Wx K d rc rs Q pc L st0 μ :=
  Wa.callN ci d' rc' rs' hd1 hM hlk hq hst hn hcat hdd hrc hrs hs hcall (fun r μ' h => by
    obtain ⟨h1, x, rfl, h2⟩ := h
    exact kk x μ' h1 h2)
theorem Wr.cNv (ci d' rc' rs' : Nat) {x : MethodName} (F : Mu → Prop) (hd1 : decode (kB K) pc = .ok (.invokevirtual index, 3)) (hM : MOK K' n) (hlk : NLink K index q.1 x (kY K') n) (hq : CT[ci]? = some q) (hst : st0 = As.reverse ++ .ref b :: st) (hn : As.length = n) (hcat : (st.map fun v => v.category).sum ≤ 8) (hdd : d' + 1 ≤ d) (hrc : rc' ≤ rc) (hrs : rs' ≤ rs) (hs : mS μ b = (1, ci))
    (hcall : Cal K' d' rc' rs' (.ref b :: As) μ (fun r μ' => r = none ∧ F μ')) (kk : ∀ μ', St μ' → F μ' → Wx K d (rc - rc') (rs - rs') Q (pc + 3) L st μ') : Wx K d rc rs Q pc L st0 μ :=
  Wa.callN ci d' rc' rs' hd1 hM hlk hq hst hn hcat hdd hrc hrs hs hcall (fun r μ' h => by
    obtain ⟨h1, rfl, h2⟩ := h
    exact kk μ' h1 h2)
theorem Wr.cXr (ci d' rc' rs' : Nat) (F : Nat → Mu → Prop) (hd1 : decode (kB K) pc = .ok (.invokespecial index, 3)) (hM : MOK K' n) (hlk : XLink K index (kY K')) (hq : CT[ci]? = some q) (hok : CEok q) (hst : st0 = As.reverse ++ .ref b :: st) (hn : As.length = n) (hcat : (st.map fun v => v.category).sum ≤ 8) (hdd : d' + 1 ≤ d) (hrc : rc' ≤ rc) (hrs : rs' ≤ rs) (hs : mS μ b = (1, ci))
    (hcall : Cal K' d' rc' rs' (.ref b :: As) μ (fun r μ' => ∃ x, r = some (.ref x) ∧ F x μ')) (kk : ∀ (x : Nat) μ', St μ' → F x μ' → Wx K d (rc - rc') (rs - rs') Q (pc + 3) L (.ref x :: st) μ') : Wx K d rc rs Q pc L st0 μ :=
  Wa.callX ci d' rc' rs' hd1 hM hlk hq hok hst hn hcat hdd hrc hrs hs hcall (fun r μ' h => by
    obtain ⟨h1, x, rfl, h2⟩ := h
    exact kk x μ' h1 h2)
theorem Wr.cXi (ci d' rc' rs' : Nat) (F : Int32 → Mu → Prop) (hd1 : decode (kB K) pc = .ok (.invokespecial index, 3)) (hM : MOK K' n) (hlk : XLink K index (kY K')) (hq : CT[ci]? = some q) (hok : CEok q) (hst : st0 = As.reverse ++ .ref b :: st) (hn : As.length = n) (hcat : (st.map fun v => v.category).sum ≤ 8) (hdd : d' + 1 ≤ d) (hrc : rc' ≤ rc) (hrs : rs' ≤ rs) (hs : mS μ b = (1, ci))
    (hcall : Cal K' d' rc' rs' (.ref b :: As) μ (fun r μ' => ∃ x, r = some (.int x) ∧ F x μ')) (kk : ∀ (x : Int32) μ', St μ' → F x μ' → Wx K d (rc - rc') (rs - rs') Q (pc + 3) L (.int x :: st) μ') : Wx K d rc rs Q pc L st0 μ :=
  Wa.callX ci d' rc' rs' hd1 hM hlk hq hok hst hn hcat hdd hrc hrs hs hcall (fun r μ' h => by
    obtain ⟨h1, x, rfl, h2⟩ := h
    exact kk x μ' h1 h2)
end WRA
