/-! the first memory stands; the walk's start -/
theorem nr_c {κ i : Nat} (h : κ < 8) : ¬ rwN (hd κ i) := by
  unfold rwN
  rw [hd_mod (by omega)]
  omega
theorem fm_first {args : Array Value} {s : State} {b L : Nat} {xs : Nat → Int32} (hw : ∀ w ∈ nwL, w.before args s = true) (hts : ∀ w ∈ lw_tbl, w.before args s = true) (hX : va_X b L xs s s.heap) :
    ∃ adr : Nat → Nat, Rel CT ST s.heap.size adr (fmMu L xs) s s.heap ∧ LitOK s adr (fmMu L xs) ∧ adr (hd 6 0) = b := by
  obtain ⟨aS, aV, hS⟩ := fm_S hw
  obtain ⟨aK, hK⟩ := fm_K hw (fun i hi => (hS i hi).1)
  obtain ⟨⟨aKI, hKI⟩, ⟨aSW, hSW⟩, hD9⟩ := fm_A hw (fun i hi => (hS i hi).1) (fun i hi => (hK i hi).1)
  obtain ⟨aD0, hD0⟩ := hD9 0 (by decide)
  obtain ⟨aD1, hD1⟩ := hD9 1 (by decide)
  obtain ⟨aD, hDg⟩ : ∃ aD : Nat → Nat, ∀ i, i < 2 → ArrC s args (tDg i) .byte 100 (fun j => .int (cI (hd 5 i) j)) (aD i) := ⟨fun i => if i = 0 then aD0 else aD1, fun i hi => by
    rcases (by omega : i = 0 ∨ i = 1) with rfl | rfl
    · exact hD0
    · exact hD1⟩
  obtain ⟨adr, hadr⟩ : ∃ adr, adr = fmA (fmF aK aS aV aD aSW aKI b) := ⟨_, rfl⟩
  have e0 : ∀ i, adr (hd 0 i) = aK i := fun i => by rw [hadr, fmA_hd (by decide)]; rfl
  have e1 : ∀ i, adr (hd 1 i) = aS i := fun i => by rw [hadr, fmA_hd (by decide)]; rfl
  have e2 : ∀ i, adr (hd 2 i) = aV i := fun i => by rw [hadr, fmA_hd (by decide)]; rfl
  have e3 : adr (hd 3 0) = aSW := by rw [hadr, fmA_hd (by decide)]; rfl
  have e4 : adr (hd 4 0) = aKI := by rw [hadr, fmA_hd (by decide)]; rfl
  have e5 : ∀ i, adr (hd 5 i) = aD i := fun i => by rw [hadr, fmA_hd (by decide)]; rfl
  have e6 : adr (hd 6 0) = b := by rw [hadr, fmA_hd (by decide)]; rfl
  clear hadr
  have hcell : ∀ a, live (fmMu L xs) a → ∃ cell, s.heap[adr a]? = some cell ∧ cellIs CT adr (fmMu L xs) s a cell := by
    intro a ha
    obtain ⟨κ, i, rfl, hc⟩ := fm_live ha
    rcases hc with ⟨rfl, hi⟩ | ⟨rfl, hi⟩ | ⟨rfl, hi⟩ | ⟨rfl, rfl⟩ | ⟨rfl, rfl⟩ | ⟨rfl, hi⟩ | ⟨rfl, rfl⟩
    · obtain ⟨-, cell, c1, c2, c3, c4⟩ := hK i hi
      refine ⟨cell, by rw [e0]; exact c1, fm_cO (q := E_Ki) (nr_c (by decide)) (fmu0 hi) rfl c2 c3 c4 (fun j hj => ?_)⟩
      rcases (by have : j < 2 := hj; omega : j = 0 ∨ j = 1) with rfl | rfl
      · show Value.int (Int32.ofNat i) = Value.int (gI (fmMu L xs) (hd 0 i) 0)
        unfold gI cI
        rw [hd_mod (by decide), hd_div (by decide)]
        rfl
      · show Value.ref (aS (min i 44)) = rv adr (gR (fmMu L xs) (hd 0 i) 1)
        rw [kk_0 hi, ← e1]
        rfl
    · obtain ⟨-, ⟨cell, c1, c2, c3, c4⟩, -⟩ := hS i hi
      refine ⟨cell, by rw [e1]; exact c1, fm_cO (q := E_Str) (nr_c (by decide)) (fmu1 hi) rfl c2 c3 c4 (fun j hj => ?_)⟩
      rcases (by have : j < 2 := hj; omega : j = 0 ∨ j = 1) with rfl | rfl
      · show Value.ref (aV i) = rv adr (gR (fmMu L xs) (hd 1 i) 0)
        rw [s1_r, ← e2]
        rfl
      · show Value.int 0 = Value.int (gI (fmMu L xs) (hd 1 i) 1)
        rw [s1_c]
    · obtain ⟨-, -, cell, c1, c2, c3, c4⟩ := hS i hi
      refine ⟨cell, by rw [e2]; exact c1, fm_cA (ty := .byte) (nr_c (by decide)) (fmu2 hi) (by decide) rfl c2 c3 c4 (fun j hj => ?_)⟩
      show Value.int ((kTx.getD i []).getD j 0) = Value.int (gI (fmMu L xs) (hd 2 i) j)
      rw [s2_g]
      rfl
    · obtain ⟨-, cell, c1, c2, c3, c4⟩ := hSW
      refine ⟨cell, by rw [e3]; exact c1, fm_cA (ty := .int) (nr_c (by decide)) fmu3 (by decide) rfl c2 c3 c4 (fun j hj => ?_)⟩
      show Value.int (kSw.getD j 0) = Value.int (gI (fmMu L xs) (hd 3 0) j)
      unfold gI cI
      rw [hd_mod (by decide)]
      rfl
    · obtain ⟨-, cell, c1, c2, c3, c4⟩ := hKI
      refine ⟨cell, by rw [e4]; exact c1, fm_cA (ty := .object "ParishBoards$Kind") (nr_c (by decide)) fmu4 (by decide) rfl c2 c3 c4 (fun j hj => ?_)⟩
      show Value.ref (aK j) = rv adr (gR (fmMu L xs) (hd 4 0) j)
      rw [kk_4 hj, ← e0]
      rfl
    · obtain ⟨-, cell, c1, c2, c3, c4⟩ := hDg i hi
      refine ⟨cell, by rw [e5]; exact c1, fm_cA (ty := .byte) (nr_c (by decide)) (fmu5 hi) (by decide) rfl c2 c3 c4 (fun j hj => ?_)⟩
      show Value.int (cI (hd 5 i) j) = Value.int (gI (fmMu L xs) (hd 5 i) j)
      unfold gI
      rw [if_pos (by rw [hd_mod (by decide)]; decide)]
    · obtain ⟨scr, x1, x2, x3, x4, x5⟩ := hX
      refine ⟨scr, by rw [e6]; exact x1, fm_cA (ty := .int) (f := fun j => .int (xs j)) (nr_c (by decide)) fmu6 (by decide) rfl x3 ?_ ⟨x2, Nat.le_of_eq x4.symm, by rw [x4], x5⟩ (fun j _ => rfl)⟩
      cases hv : scr.vm <;> first | rfl | exact absurd hv (x2.1 _)
  have hkind : ∀ a, live (fmMu L xs) a → ¬ rwN a := by
    intro a ha
    obtain ⟨κ, i, rfl, hc⟩ := fm_live ha
    exact nr_c (by omega)
  refine ⟨adr, ⟨Nat.le_refl _, hcell, ?_, fun a ha => ⟨fun h => absurd h (hkind a ha), fun _ => ?_⟩, fun a k b ha h => fm_gR ha h, fun q hq => ?_, fm_SQ hw hts⟩, ⟨fun i hi => ⟨fm_l1 (by have h36 : i < 36 := hi; omega), ?_⟩, fm_XL hw hts⟩, e6⟩
  · intro a c ha hc hca hcc he
    have za : a % 256 = 0 := hca.resolve_left (hkind a ha)
    have zc : c % 256 = 0 := hcc.resolve_left (hkind c hc)
    obtain ⟨κ, i, rfl, ki⟩ := fm_live ha
    obtain ⟨κ', j, rfl, kj⟩ := fm_live hc
    rw [hd_mod (by omega)] at za zc
    subst za zc
    have hi : i < 49 := by omega
    have hj : j < 49 := by omega
    rw [e0, e0] at he
    obtain ⟨-, cell, c1, -, -, c4⟩ := hK i hi
    obtain ⟨-, cell', d1, -, -, d4⟩ := hK j hj
    rw [he] at c1
    cases c1.symm.trans d1
    obtain ⟨p, p1, p2⟩ := c4.2 0 (by decide)
    obtain ⟨q, q1, q2⟩ := d4.2 0 (by decide)
    cases slotIn_eq p1 q1
    have h3 : Value.int (nI i) = Value.int (nI j) := Option.some.inj (p2.symm.trans q2)
    have h4 : nI i = nI j := Value.int.inj h3
    have h5 : (nI i).toNatClampNeg = (nI j).toNatClampNeg := by rw [h4]
    rw [nI_clamp (by omega), nI_clamp (by omega)] at h5
    rw [h5]
  · obtain ⟨cell, h, -⟩ := hcell a ha
    exact (Array.getElem?_eq_some_iff.mp h).1
  · rw [ST_eq] at hq
    rcases List.mem_append.mp hq with hq | hq
    · rcases List.mem_append.mp hq with hq | hq
      · simp only [List.mem_cons, List.not_mem_nil, or_false] at hq
        rcases hq with rfl | rfl | rfl | rfl
        · refine ⟨fun z hz => (by cases hz; exact fm_l4), fm_st (tw_at hts tw_KI.1) (tw_at hts tw_KI.2) ?_⟩
          show _ = some (Value.ref (adr (hd 4 0)))
          rw [e4]
          exact hKI.1
        · refine ⟨fun z hz => (by cases hz; exact fm_l3), fm_st (tw_at hts tw_SW.1) (tw_at hts tw_SW.2) ?_⟩
          show _ = some (Value.ref (adr (hd 3 0)))
          rw [e3]
          exact hSW.1
        · refine ⟨fun z hz => (by cases hz; exact fm_l5 (by decide)), fm_st (tw_at hts tw_DO.1) (tw_at hts tw_DO.2) ?_⟩
          show _ = some (Value.ref (adr (hd 5 0)))
          rw [e5]
          exact (hDg 0 (by decide)).1
        · exact ⟨fun z hz => (by cases hz), fm_st (tw_at hts tw_CS.1) (tw_at hts tw_CS.2) (va_eqt (nw_at hw rw_CS))⟩
      · obtain ⟨i, hi, rfl⟩ := List.mem_map.mp hq
        have hi := List.mem_range.mp hi
        refine ⟨fun z hz => (by cases hz; exact fm_l0 hi), fm_st (tw_at hts (tw_LS i hi)) (tw_at hts tw_Ki) ?_⟩
        show _ = some (Value.ref (adr (hd 0 i)))
        rw [e0]
        exact (hK i hi).1
    · obtain rfl := List.mem_singleton.mp hq
      refine ⟨fun z hz => (by cases hz; exact fm_l5 (by decide)), fm_st (tw_at hts tw_DT.1) (tw_at hts tw_DT.2) ?_⟩
      show _ = some (Value.ref (adr (hd 5 1)))
      rw [e5]
      exact (hDg 1 (by decide)).1
  · have h36 : i < 36 := hi
    rw [e1]
    have e45 : sTm (45 + i) = .string "ParishBoardsLaw" (lits.getD i (0, "")).1 := by
      unfold sTm
      rw [if_neg (by omega), Nat.add_sub_cancel_left]
    have h45 := (hS (45 + i) (by omega)).1
    rw [e45] at h45
    exact vk_R.of (A := args) (tw_at hts (tw_li i h36)) h45
theorem whole_start {p : Program} {e : Env} {s : State} {m : MethodId} {below : List Frame} {meth : Method} {c : Code} (l : Launch) (hflags : l.flags = flags0) {b L : Nat} {xs : Nat → Int32} (hL : L ≤ 260) (C0 : lw_At p s m meth c b L xs) : W p l e room_1 s m #[Value.ref b] below meth c s.heap [] 0 0 (lw_Z below #[Value.ref b] s) (entryFrame m ([Value.ref b] : List Value).toArray 25) := by
  obtain ⟨adr, h1, h2, h3⟩ := fm_first (flat_of_before _ C0.2.2.2.2.2.2.2.2.2) C0.2.2.2.2.2.1 C0.2.2.2.2.2.2.1
  refine law_top l ?_ hL C0 h1 h2 h3 fm_Cn fmu6 (fun κ i a b => fm_z a b)
  unfold Launch.stackTraces
  rw [hflags]
  decide
