/-! a call inside the law's one handler -/
theorem hok_LW_act {pc : Nat} (h : 36 ≤ pc ∧ pc < 318) : HOK K_LW_act pc 0 8 321 := by
  refine ⟨[], ⟨36, 318, 321, 190⟩, [], by decide, rfl, fun z hz => (by cases hz), ?_, by decide, cl_LW_190, rfl, d_LW_act_321, by decide⟩
  unfold covers
  simp
  omega
theorem Wr.callT {K K' : KM} {d rc rs : Nat} {Q : Option Value → Mu → Prop} {pc : Nat} {L : List (Nat × Value)} {st st0 : List Value} {μ : Mu} {n index b : Nat} {As : List Value} (hpc j : Nat) (d' rc' rs' : Nat) (F1 : Int32 → Mu → Prop) (F2 : Mu → Prop)
    (hd1 : decode (kB K) pc = .ok (.invokevirtual index, 3)) (hM : MOK K' n) (hl : Cond.methodLink (kO K) index (kY K') ∈ tb) (hlk : VLink K index "ParishBoards" (kY K')) (hst : st0 = As.reverse ++ .ref b :: st) (hn : As.length = n) (hcat : (st.map fun v => v.category).sum ≤ 8) (hdd : d' + 1 ≤ d) (hrc : rc' ≤ rc) (hrs : rs' ≤ rs) (hs : mS μ b = (1, 0)) (hok : HOK K pc 0 j hpc)
    (hcall : CalT K' d' rc' rs' (.ref b :: As) μ (fun r μ' => (∀ y, r = some (.int y) → F1 y μ') ∧ (∀ k, r = some (.float (UInt32.ofNat k)) → k < 3 → k = 0 ∧ F2 μ')))
    (k1 : ∀ y μ', F1 y μ' → Wx K d (rc - rc') (rs - rs') Q (pc + 3) L (.int y :: st) μ')
    (k2 : ∀ μ', F2 μ' → Wx K d (rc - rc') (rs - rs') Q (hpc + 2) (L.filter (fun q => !(q.1 == j) && !(q.1 + 1 == j && q.2.category == 2))) [] μ') : Wx K d rc rs Q pc L st0 μ :=
  Wx.callT d' rc' rs' hd1 hM hl hlk.2.1 hlk.2.2 hst hn hcat hdd hrc hrs hs hcall (fun y μ' _ h => k1 y μ' (h.1 y rfl)) (fun k μ' hk _ h => by
    obtain ⟨rfl, h2⟩ := h.2 k rfl hk
    exact ⟨j, hpc, hok, k2 μ' h2⟩)
