/-! new boolean[n][k]: the outer row, and the inner ones by their places -/
theorem mm_outer (c : ClassId) (N h0 : Nat) : ∀ i : Nat, Jvm.Free.Multi.outerC c N h0 i = arrV c N (fun j => if j < i then .ref (h0 + 1 + j) else .null)
  | 0 => by
    show ({ cls := c, slots := Array.replicate N .null, vm := .none } : Cell) = _
    rw [arrV_new]
    refine congrArg (arrV c N) (funext fun j => ?_)
    simp
  | i + 1 => by
    show (Jvm.Free.Multi.outerC c N h0 i).setSlot i (.ref (h0 + 1 + i)) = _
    rw [mm_outer c N h0 i, arrV_store]
    refine congrArg (arrV c N) (funext fun j => ?_)
    by_cases e : j = i
    · subst e
      simp [updV]
    · by_cases h : j < i
      · simp [updV, e, h, Nat.lt_succ_of_lt h]
      · simp [updV, e, h, show ¬ j < i + 1 by omega]
/-- the memory with an outer row a of N places and the rows hd κ 0 .. of k places -/
def isRow (κ N b : Nat) : Bool := decide (b % 256 = κ) && decide (b / 256 < N)
def mkM (μ : Mu) (a κ N k : Nat) : Mu :=
  (fun b => if b = a then (41, N) else if isRow κ N b = true then (5, k) else mS μ b,
   fun b j => if b = a then 0 else if isRow κ N b = true then 0 else mI μ b j,
   fun b j => if b = a then 0 else if isRow κ N b = true then 0 else mL μ b j,
   fun b j => if b = a then (if j < N then some (hd κ j) else none) else if isRow κ N b = true then none else mR μ b j)
theorem hd_div1 {κ i : Nat} (h : κ < 256) : hd κ i / 256 = i := by unfold hd; omega
theorem isRow_hd {κ N i : Nat} (hκ : κ < 256) : isRow κ N (hd κ i) = true ↔ i < N := by
  unfold isRow hd
  rw [Bool.and_eq_true, decide_eq_true_eq, decide_eq_true_eq]
  omega
theorem isRow_is {κ N b : Nat} (h : isRow κ N b = true) : ∃ i, i < N ∧ b = hd κ i := by
  unfold isRow at h
  rw [Bool.and_eq_true, decide_eq_true_eq, decide_eq_true_eq] at h
  exact ⟨b / 256, h.2, by unfold hd; omega⟩
theorem Wa.mnew {ct : List CE} {stt : List SE} {K : KM} {d rc rs : Nat} {Q : Option Value → Mu → Prop} {pc : Nat} {L : List (Nat × Value)} {st : List Value} {μ : Mu} {n k : Int32} {index : Nat} (a κ N M : Nat) (hl : ct.length ≤ 30)
    (hd0 : decode (kB K) pc = .ok (.multianewarray index 2, 4)) (hw : Cond.classLink (kO K) index "[[Z" ∈ tb) (hw2 : Cond.arrayOver (.array .boolean) ∈ tb) (hw3 : Cond.arrayClass .boolean ∈ tb) (hn : ¬ n < 0) (hk : ¬ k < 0) (hN : n.toNatClampNeg = N) (hM : k.toNatClampNeg = M) (hb1 : N ≤ 1000) (hb2 : M ≤ 1000) (hrc : 1 + N ≤ rc) (hrs : N + N * M ≤ rs)
    (hκ : 8 ≤ κ ∧ κ < 256) (ha : mS μ a = (0, 0)) (hrw : rwN a) (hna : ∀ i, i < N → hd κ i ≠ a) (hfr : ∀ i, i < N → mS μ (hd κ i) = (0, 0))
    (kk : Wa ct stt K d (rc - (1 + N)) (rs - (N + N * M)) Q (pc + 4) L (.ref a :: st) (mkM μ a κ N M)) : Wa ct stt K d rc rs Q pc L (.int k :: .int n :: st) μ := by
  intro p l e s m args below meth c R B0 mc ms Z adr0 μ0 hC hd1 hdl hmc hms hE H locs cells slots ls adr hR hX hlo hc hs1 hls hL1 hS
  have hW := hC.2.2.2.2.2.1
  have hS2 : ∀ v ∈ st, lvv μ v := lvv_tl (lvv_tl hS)
  subst hN
  subst hM
  obtain ⟨comp0, c0, kA, w1, -, w3, w4, w5⟩ := arrayOverA_spec (hW _ hw2)
  intro T hT Xs
  obtain ⟨vm₁, cA, comp, -, fA, fC, -, hI, X', step⟩ := Xs.multianewarray2F (ty := .boolean) hC.1 hC.2.2.2.2.1 (hW _ hw) (hW _ hw2) (hW _ hw3) (g := F0 m pc ls (cvs adr (.int k :: .int n :: st))) rfl (by rw [hC.2.1]; exact hd0) rfl hn hk (by omega) (by show _ * 1 ≤ _; omega) (by omega) rfl rfl (by omega) (by omega)
  obtain rfl : comp = comp0 := Option.some.inj (fC.symm.trans w1)
  obtain rfl : cA = c0 := Option.some.inj (fA.symm.trans w5)
  generalize n.toNatClampNeg = N at *
  generalize k.toNatClampNeg = M at *
  generalize hF : Jvm.Free.Multi.fill (T.setVm vm₁) cA comp N M (defaultValue .boolean) N = F at X' step
  have hTh : (T.setVm vm₁).heap = H := hT
  obtain ⟨f1, f2, -, -⟩ := Jvm.Free.Multi.fill_facts (T.setVm vm₁) cA comp N M (defaultValue .boolean) N
  rw [hF, hTh] at f1 f2
  have hold : ∀ x : Nat, x < H.size → F.heap[x]? = H[x]? := fun x hx => by
    have := Jvm.Free.Multi.fill_old (T.setVm vm₁) cA comp N M (defaultValue .boolean) (a := x) (by rw [hTh]; exact hx) N
    rw [hF, hTh] at this
    exact this
  have hrow : ∀ j : Nat, j < N → F.heap[H.size + 1 + j]? = some (arrV comp M (fun _ => .int 0)) := fun j hj => by
    have := Jvm.Free.Multi.fill_inner (T.setVm vm₁) cA comp N M (defaultValue .boolean) N j hj
    rw [hF, hTh] at this
    rw [this]
    show some ({ cls := comp, slots := Array.replicate M (defaultValue .boolean), vm := .none } : Cell) = _
    rw [arrV_new]
    rfl
  rw [mm_outer] at f2
  -- the new memory
  generalize hμ' : mkM μ a κ N M = μ' at kk
  generalize hadr : (fun b => if b = a then H.size else if isRow κ N b = true then H.size + 1 + b / 256 else adr b) = adr'
  have hrn : ∀ b, isRow κ N b = true → mS μ b = (0, 0) ∧ b ≠ a ∧ rwN b ∧ b / 256 < N := fun b hb => by
    obtain ⟨i, hi, rfl⟩ := isRow_is hb
    refine ⟨hfr i hi, hna i hi, ?_, ?_⟩
    · unfold rwN hd; omega
    · unfold hd; omega
  have hna0 : ∀ b, live μ b → b ≠ a ∧ isRow κ N b = false := fun b hb => ⟨fun e => by subst e; exact hb (by rw [ha]), by
    cases hq : isRow κ N b with
    | false => rfl
    | true => exact absurd (by rw [(hrn b hq).1]) hb⟩
  have Sa : mS μ' a = (41, N) := by rw [← hμ']; exact if_pos rfl
  have Sr : ∀ b, isRow κ N b = true → mS μ' b = (5, M) := fun b hb => by rw [← hμ']; exact (if_neg (hrn b hb).2.1).trans (if_pos hb)
  have Sn : ∀ b, b ≠ a → isRow κ N b = false → mS μ' b = mS μ b := fun b h1 h2 => by rw [← hμ']; exact (if_neg h1).trans (if_neg (by rw [h2]; decide))
  have In : ∀ b, b ≠ a → isRow κ N b = false → ∀ j, mI μ' b j = mI μ b j := fun b h1 h2 j => by rw [← hμ']; exact (if_neg h1).trans (if_neg (by rw [h2]; decide))
  have Ln : ∀ b, b ≠ a → isRow κ N b = false → ∀ j, mL μ' b j = mL μ b j := fun b h1 h2 j => by rw [← hμ']; exact (if_neg h1).trans (if_neg (by rw [h2]; decide))
  have Rn : ∀ b, b ≠ a → isRow κ N b = false → ∀ j, mR μ' b j = mR μ b j := fun b h1 h2 j => by rw [← hμ']; exact (if_neg h1).trans (if_neg (by rw [h2]; decide))
  have Ir : ∀ b, isRow κ N b = true → ∀ j, mI μ' b j = 0 := fun b hb j => by rw [← hμ']; exact (if_neg (hrn b hb).2.1).trans (if_pos hb)
  have Rr : ∀ b, isRow κ N b = true → ∀ j, mR μ' b j = none := fun b hb j => by rw [← hμ']; exact (if_neg (hrn b hb).2.1).trans (if_pos hb)
  have Ra : ∀ j, mR μ' a j = if j < N then some (hd κ j) else none := fun j => by rw [← hμ']; exact if_pos rfl
  have aa : adr' a = H.size := by rw [← hadr]; exact if_pos rfl
  have ar : ∀ b, isRow κ N b = true → adr' b = H.size + 1 + b / 256 := fun b hb => by rw [← hadr]; exact (if_neg (hrn b hb).2.1).trans (if_pos hb)
  have an : ∀ b, b ≠ a → isRow κ N b = false → adr' b = adr b := fun b h1 h2 => by rw [← hadr]; exact (if_neg h1).trans (if_neg (by rw [h2]; decide))
  have hRow : ∀ j, j < N → isRow κ N (hd κ j) = true := fun j hj => (isRow_hd hκ.2).mpr hj
  obtain ⟨r1, r2, r3, r4, r5, r6, r7⟩ := hR
  have hlt : ∀ b, live μ b → adr b < H.size := fun b hb => by
    obtain ⟨c0, g, -⟩ := r2 b hb
    exact (Array.getElem?_eq_some_iff.mp g).1
  have hlv : ∀ b, live μ b → live μ' b ∧ adr' b = adr b := fun b hb => by
    obtain ⟨h1, h2⟩ := hna0 b hb
    refine ⟨?_, an b h1 h2⟩
    unfold live; rw [Sn b h1 h2]; exact hb
  have hlv' : ∀ b, live μ' b → b = a ∨ isRow κ N b = true ∨ live μ b := fun b hb => by
    by_cases h1 : b = a
    · exact Or.inl h1
    · cases h2 : isRow κ N b with
      | true => exact Or.inr (Or.inl rfl)
      | false =>
        refine Or.inr (Or.inr ?_)
        unfold live at hb ⊢
        rw [Sn b h1 h2] at hb
        exact hb
  have hla : live μ' a := by unfold live; rw [Sa]; exact (by decide : (41 : Nat) ≠ 0)
  have hlr : ∀ b, isRow κ N b = true → live μ' b := fun b hb => by unfold live; rw [Sr b hb]; exact (by decide : (5 : Nat) ≠ 0)
  have e41 : tagTy ct 41 = .array .boolean := tagTy_arr hl (Or.inr rfl)
  have hArA : ArrOfT s cA (.array .boolean) := fun N9 z9 => ⟨(fun q hq => by cases hq), kA, w3, comp, w4⟩
  have hArC : ArrOfT s comp .boolean := fun N9 z9 => by
    obtain ⟨-, k9, hk9, cm9, hkk9⟩ := (hI 0 .null).1
    exact ⟨(fun q hq => by cases hq), k9, hk9, cm9, hkk9⟩
  have ca : cellIs ct adr' μ' s a (arrV cA N (fun j => if j < N then .ref (H.size + 1 + j) else .null)) := by
    have hX1 : arrX s (tagTy ct 41) N (fun j => tyv adr' μ' a j (tagTy ct 41)) (arrV cA N (fun j => if j < N then .ref (H.size + 1 + j) else .null)) := by
      rw [e41]
      refine ⟨cA, ?_, hArA, fA, kA, comp, w3, w4, fC⟩
      congr 1
      funext j
      show _ = rv adr' (gR μ' a j)
      rw [gR_rw hrw, Ra]
      by_cases hj : j < N
      · rw [if_pos hj, if_pos hj]
        show _ = Value.ref (adr' (hd κ j))
        rw [ar _ (hRow j hj), hd_div1 hκ.2]
      · rw [if_neg hj, if_neg hj]; rfl
    refine ⟨fun h => (by cases h), rfl, fun _ => rfl, fun h => ?_, fun _ => ?_⟩
    · rw [Sa] at h; exact absurd h (by show ¬ 41 = 1; decide)
    · rw [Sa]; exact ⟨hX1.arrAt, fun _ => hX1⟩
  have cr : ∀ b, isRow κ N b = true → cellIs ct adr' μ' s b (arrV comp M (fun _ => .int 0)) := fun b hb => by
    have hX1 : arrX s (tagTy ct 5) M (fun j => tyv adr' μ' b j (tagTy ct 5)) (arrV comp M (fun _ => .int 0)) := by
      refine ⟨comp, ?_, hArC, fC, trivial⟩
      congr 1
      funext j
      show Value.int 0 = Value.int (gI μ' b j)
      rw [gI_rw (hrn b hb).2.2.1, Ir b hb]
    refine ⟨fun h => (by cases h), rfl, fun _ => rfl, fun h => ?_, fun _ => ?_⟩
    · rw [Sr b hb] at h; exact absurd h (by show ¬ 5 = 1; decide)
    · rw [Sr b hb]; exact ⟨hX1.arrAt, fun _ => hX1⟩
  have hR' : Rel ct stt B0 adr' μ' s F.heap := by
    refine ⟨by rw [f1]; omega, fun b hb => ?_, fun b x hb hx wb wx he => ?_, fun b hb => ⟨fun hw => ?_, fun hw => ?_⟩, fun b j x hb hj => ?_, fun z hz => ?_, ?_⟩
    · rcases hlv' b hb with rfl | hb' | hb'
      · exact ⟨_, by rw [aa]; exact f2, ca⟩
      · exact ⟨_, by rw [ar b hb']; exact hrow _ (hrn b hb').2.2.2, cr b hb'⟩
      · obtain ⟨c0, g1, g2⟩ := r2 b hb'
        obtain ⟨h1, h2⟩ := hna0 b hb'
        refine ⟨c0, by rw [an b h1 h2, hold _ (hlt b hb')]; exact g1, g2.congr (Sn b h1 h2) (In b h1 h2) (Ln b h1 h2) (Rn b h1 h2) (fun j x hx => (hlv x (r5 b j x hb' hx)).2)⟩
    · rcases hlv' b hb with rfl | hb' | hb' <;> rcases hlv' x hx with rfl | hx' | hx'
      · rfl
      · rw [aa, ar x hx'] at he; omega
      · rw [aa, (hlv x hx').2] at he; have := hlt x hx'; omega
      · rw [ar b hb', aa] at he; omega
      · rw [ar b hb', ar x hx'] at he
        obtain ⟨i, -, rfl⟩ := isRow_is hb'
        obtain ⟨j, -, rfl⟩ := isRow_is hx'
        rw [hd_div1 hκ.2, hd_div1 hκ.2] at he
        rw [show i = j by omega]
      · rw [ar b hb', (hlv x hx').2] at he; have := hlt x hx'; omega
      · rw [(hlv b hb').2, aa] at he; have := hlt b hb'; omega
      · rw [(hlv b hb').2, ar x hx'] at he; have := hlt b hb'; omega
      · rw [(hlv b hb').2, (hlv x hx').2] at he
        exact r3 b x hb' hx' wb wx he
    · rcases hlv' b hb with rfl | hb' | hb'
      · rw [aa]; exact r1
      · rw [ar b hb']; omega
      · rw [(hlv b hb').2]; exact (r4 b hb').1 hw
    · rcases hlv' b hb with rfl | hb' | hb'
      · exact absurd hrw hw
      · exact absurd (hrn b hb').2.2.1 hw
      · rw [(hlv b hb').2]; exact (r4 b hb').2 hw
    · rcases hlv' b hb with rfl | hb' | hb'
      · rw [gR_rw hrw, Ra] at hj
        by_cases hjn : j < N
        · rw [if_pos hjn] at hj
          rw [← Option.some.inj hj]
          exact hlr _ (hRow j hjn)
        · rw [if_neg hjn] at hj; cases hj
      · rw [gR_rw (hrn b hb').2.2.1, Rr b hb'] at hj; cases hj
      · obtain ⟨h1, h2⟩ := hna0 b hb'
        rw [gR_congr (Rn b h1 h2 j)] at hj
        exact (hlv x (r5 b j x hb' hj)).1
    · obtain ⟨g1, cf, kf, fi, f, x, cl, q1, q2, q3, q4, q5, q6, q7, q8⟩ := r6 z hz
      refine ⟨fun b hb => (hlv b (g1 b hb)).1, cf, kf, fi, f, x, cl, q1, q2, q3, q4, ?_, q6, ?_, q8⟩
      · rw [hold x (by omega)]; exact q5
      · rw [cv_ext (μ := μ) (μ' := μ') hlv g1]; exact q7
    · exact SQ.kept r7 (fun x hx _ => hold x hx)
  have hX' : Ext adr μ adr' μ' := hlv
  have hkk := kk p l e s m args below meth c R B0 mc ms Z adr0 μ0 hC hd1 hdl hmc hms hE F.heap locs (cells + 1 + N) (slots + N + N * M) ls _ hR' (hX.trans hX') hlo (by omega) (by omega) (by rw [cvL_ext hX' hL1]; exact hls) (fun z hz => lvv_alloc hX' (hL1 z hz)) (lvv_cons (lvv_ref hla) (fun z hz => lvv_alloc hX' (hS2 z hz)))
  rw [cvs_cons, cvs_ext hX' hS2, show cv adr' (.ref a) = .ref H.size from congrArg Value.ref aa] at hkk
  obtain ⟨t, a1, b1⟩ := hkk F rfl X'
  refine ⟨t, step t ?_, b1⟩
  have eT : T.heap.size = H.size := by rw [hT]
  rw [eT]
  exact a1
