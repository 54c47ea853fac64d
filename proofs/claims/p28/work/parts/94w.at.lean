/-! something is done to both -/
section SW
variable {d rc rs : Nat} {Q : Option Value → Mu → Prop} {μ μ' : Mu} {T : PT} {D D' E : DT} {C Ct : Nat → List Op} {OO : Nat → Nat → Nat} {c c' c'' n : Nat} {Λ : List Ld} {t : Nat → Nat} {L : Nat} {x e : Int32}
theorem NI.tick (hN : NI T C Ct D n) (hI : Inv T D') (h0 : D' 0 0 0 ≤ D 0 0 0 + 60) (hn : n + 1 ≤ 512) : NI T C Ct D' (n + 1) := ⟨hI, hN.2.1, hN.2.2.1, by have := hN.2.2.2.1; omega, hn⟩
theorem fl0 {k : Nat} (h : (some (.float (UInt32.ofNat 0)) : Option Value) = some (.float (UInt32.ofNat k))) (hk : k < 3) : k = 0 := by
  rcases (by omega : k = 0 ∨ k = 1 ∨ k = 2) with rfl | rfl | rfl
  · rfl
  · exact absurd h (by decide)
  · exact absurd h (by decide)
set_option maxRecDepth 100000 in
theorem c_act (hB : CI μ T C Ct D t L e) (hR : SR μ T D OO c) (hL : LR μ Λ c) (hP : LPd T D Λ) (hN : NI T C Ct D n) (h2 : Iv T D) (hA : OAll T C Ct OO) (h1P : 1 ≤ T 0 0) (h1N : 1 ≤ T 1 0) (h1R : 1 ≤ T 2 0) (hO10 : T 6 0 ≤ 10) (hS : St μ) (hD : 110 ≤ d)
    (hc : 3910 + pot 11 1 T D ≤ rc + pot 11 1 T (actD T C Ct D x)) (hs : 129020 + pot 4880 481 T D ≤ rs + pot 4880 481 T (actD T C Ct D x))
    (hQ : ∀ μ' c' Λ', c ≤ c' → FrS (OwA2 c c') μ μ' → St μ' → CI μ' T C Ct (actD T C Ct D x) t L e → SR μ' T (actD T C Ct D x) OO c' → LR μ' Λ' c' → LPd T (actD T C Ct D x) Λ' → Q (some (.int 1)) μ') : CalH K_LW_act d rc rs [.ref (hd 8 0), .ref (hd 100 0), .int x] μ Q := by
  have hI := hN.1
  have hDB := hI.1
  have hP5 := hDB.1.1
  have hN6 := hDB.1.2.1
  have hR8 := hDB.1.2.2.1
  have h60 := hDB.1.2.2.2.2.1
  have hday := hN.2.2.2.1
  have hn512 := hN.2.2.2.2
  have x11 := hR.2.2.2.2.2.2.1
  have s8 : ∀ μ', St μ' → mS μ' (hd 8 0) = (1, 0) := fun μ' h => s_8 h (by decide)
  obtain ⟨o1, o2, o3, o4, o5, o6, o7⟩ := hR.1
  refine e_LW_act (r_LW_act_0 (by omega) ⟨o1, ?_⟩)
  rw [o6]
  refine c_below (by omega) (by omega) (by omega) hS ⟨_, rfl, o1, ?_⟩
  rw [o7]
  refine c_below (by omega) (by omega) (by omega) hS ⟨_, rfl, o1, _, x11.1, _, x11.2.1, c_below (by omega) (by omega) (by omega) hS ⟨_, rfl, c_below (n := 11) (by decide) (by decide) (by omega) hS ⟨_, rfl, ?_⟩⟩⟩
  generalize hA' : actD T C Ct D x = AD at *
  have eA := hA'.symm
  unfold actD at eA
  have lp : belowN (x >>> ((3 : Int32) &&& 31)) (T 0 0) < T 0 0 := below_lt (by omega)
  have ln : belowN (x >>> ((5 : Int32) &&& 31)) (T 1 0) < T 1 0 := below_lt (by omega)
  have lr' : belowN (x >>> ((4 : Int32) &&& 31)) (T 2 0) < T 2 0 := below_lt (by omega)
  have lk : belowN x 11 < 11 := below_lt (by decide)
  have lv : belowN (x >>> ((6 : Int32) &&& 31)) 10000 < 10000 := below_lt (by decide)
  have lm : belowN (x >>> ((6 : Int32) &&& 31)) 16 < 16 := below_lt (by decide)
  have lw : belowN (x >>> ((6 : Int32) &&& 31)) 3 < 3 := below_lt (by decide)
  have ld : belowN (x >>> ((7 : Int32) &&& 31)) 9 < 9 := below_lt (by decide)
  have ly : belowN (x >>> ((4 : Int32) &&& 31)) 5 < 5 := below_lt (by decide)
  generalize belowN (x >>> ((3 : Int32) &&& 31)) (T 0 0) = p at *
  generalize belowN (x >>> ((5 : Int32) &&& 31)) (T 1 0) = nn at *
  generalize belowN (x >>> ((4 : Int32) &&& 31)) (T 2 0) = r at *
  generalize belowN x 11 = k at *
  have nk : ∀ {j : Nat}, j < 2 ^ 31 → nI k = nI j → k = j := fun hj h => (nI_eq (by omega) hj).mp h
  -- the class's answer, and the end
  have fin : ∀ {w : Int32} {μ1 μ2 : Mu} {c1 : Nat} {Λ1 : List Ld} {rc1 rs1 : Nat}, c ≤ c1 → FrS (OwH c c1) μ μ1 → St μ1 → SR μ1 T AD OO c1 → LR μ1 Λ1 c1 → LPd T AD Λ1 → Fr OwC8 μ1 μ2 → St μ2 → CI μ2 T C Ct AD t L e → Wx K_LW_act d rc1 rs1 (fun r μ' => St μ' ∧ Q r μ') 318 [(6, .int w), (7, .int w)] [] μ2 := fun {w μ1 μ2 c1 Λ1 rc1 rs1} a1 a2 a3 a4 a5 a6 f S2 C2 => by
    obtain ⟨b1, b2⟩ := BS.c8 a4 a5 f
    refine r_LW_act_318 (by omega) ⟨fun _ => ⟨S2, hQ μ2 c1 Λ1 a1 ?_ S2 C2 b1 b2 a6⟩, fun h => absurd rfl h⟩
    exact (a2.mono (fun κ i z => Or.inr z)).trans ((FrS.of f).mono (fun κ i z => Or.inl z))
  -- what is refused
  have rej : ∀ {μ1 μ2 : Mu} {c1 rc1 rs1 : Nat} (y : Nat → Mu → Nat), AD = D → SimP μ T D OO c c1 μ1 → Fr OwC8 μ1 μ2 → St μ2 → CI μ2 T C Ct D t L e → mS μ2 (hd 100 0) = (1, 11) ∧ ∃ b35, gR μ2 (hd 100 0) 6 = some b35 ∧ ∃ n37, mS μ2 b35 = (40, n37) ∧ ∃ cc39 ss40 : Nat, (cc39 ≤ rc1 ∧ ss40 ≤ rs1) ∧ (mS μ2 (hd 8 0) = (1, 0) ∧ Cal K_PB_count (d - 1) cc39 ss40 [.ref (hd 8 0), .int 5] μ2 (fun r μ42 => ∃ y44, r = some (.int y44) ∧ ((nI n37 = y44 → (fun r μ' => St μ' ∧ Q r μ') (some (.int 1)) μ42) ∧ (¬ nI n37 = y44 → (fun r μ' => St μ' ∧ Q r μ') (some (.int 0)) μ42)))) := fun {μ1 μ2 c1 rc1 rs1} y eD hh f S2 C2 => by
    obtain ⟨h1, h2', h3, h4, h5⟩ := hh
    have L1 := hL.fr h2' h1 h5
    obtain ⟨b1, b2⟩ := BS.c8 h4 L1 f
    refine ⟨b1.1.1, _, b1.2.1.1, _, b1.2.1.2.1, 0, 0, ⟨Nat.zero_le _, Nat.zero_le _⟩, s8 _ S2, q_count (k := 5) C2 (by decide) (by omega) S2 ⟨_, rfl, fun _ => ⟨S2, ?_⟩, fun h => absurd rfl h⟩⟩
    rw [eD] at hQ
    exact hQ μ2 c1 Λ h1 ((h2'.mono (fun κ i z => Or.inr z)).trans ((FrS.of f).mono (fun κ i z => Or.inl z))) S2 C2 b1 b2 hP
  refine ⟨fun hk => ?_, fun hk => ?_, fun hk => ?_, fun hk => ?_, fun hk => ?_, fun hk => ?_⟩
  · -- writing
    have hk2 : k ≤ 2 := by
      rcases hk with h | h | h
      · have := nk (j := 0) (by decide) h; omega
      · have := nk (j := 1) (by decide) h; omega
      · have := nk (j := 2) (by decide) h; omega
    rw [if_pos hk2] at eA
    generalize hv : belowN (x >>> ((6 : Int32) &&& 31)) 10000 = v at *
    have hpot : pot 11 1 T AD = pot 11 1 T D ∧ pot 4880 481 T AD = pot 4880 481 T D := by
      rw [eA]
      split
      · exact ⟨rfl, rfl⟩
      · exact ⟨pot_mk, pot_mk⟩
    have inb : inR (nI p) (T 0 0) ∧ inR (nI nn) (T 1 0) := ⟨inI lp (by omega), inI ln (by omega)⟩
    refine c_below (n := 10000) (by decide) (by decide) (by omega) hS ⟨_, rfl, 7, 265, ⟨by omega, by omega⟩, o1, ?_⟩
    rw [hv]
    refine c_SI_write hR hI (by omega) (Nat.le_refl _) (Nat.le_refl _) hS lp ln (by omega) (fun h60' => ⟨_, rfl, c_below (n := 10000) (by decide) (by decide) (by omega) hS ⟨_, rfl, 1, 6, ⟨by omega, by omega⟩, s8 _ hS, ?_⟩⟩) (fun h60' μ1 c1 z => ⟨_, rfl, c_below (n := 10000) (by decide) (by decide) (by omega) z.2.2.1 ⟨_, rfl, 1, 6, ⟨by omega, by omega⟩, s8 _ z.2.2.1, ?_⟩⟩)
    · rw [hv]
      have ed : dvWrite T D (nI p) (nI nn) (nI v) = (.ex 0 3, D) := by
        unfold dvWrite; rw [ifP_t inb, ifP_t (inI lv (by decide)), ifP_t h60']
      refine c_PB_write hB (by omega) (fun _ _ _ => ⟨by omega, by omega⟩) hS (fun μ2 f S2 C2 => ?_)
      rw [ed] at C2 ⊢
      rw [if_pos h60'] at eA
      exact ⟨fun y h => (by cases h), fun j h hj => ⟨fl0 h hj, rej (fun _ _ => 0) eA ⟨Nat.le_refl _, FrS.rf, hS, hR, rfl⟩ f S2 C2⟩⟩
    · rw [hv]
      obtain ⟨z1, z2, z3, z4, z5⟩ := z
      have ed : dvWrite T D (nI p) (nI nn) (nI v) = (.ok (nI (D 1 0 0)), wrD T D p nn v) := by
        unfold dvWrite; rw [ifP_t inb, ifP_t (inI lv (by decide)), ifP_f (by omega), nI_clamp (by omega), nI_clamp (by omega), nI_clamp (by omega)]
      refine c_PB_write (hB.h z2) (by omega) (fun _ _ _ => ⟨by omega, by omega⟩) z3 (fun μ2 f S2 C2 => ?_)
      rw [ed] at C2 ⊢
      rw [if_neg (by omega)] at eA
      rw [← eA] at C2 z4
      exact ⟨fun y h => by cases h; exact fin z1 z2 z3 z4 (hL.fr z2 z1 z5) (by rw [eA]; exact hP.mk hI h60') f S2 C2, fun j h hj => (by cases h)⟩
  · -- noting
    have hk3 := nk (j := 3) (by decide) hk
    rw [if_neg (by omega), if_pos hk3] at eA
    generalize hv : belowN (x >>> ((6 : Int32) &&& 31)) 16 = v at *
    have hpot : pot 11 1 T AD = pot 11 1 T D ∧ pot 4880 481 T AD = pot 4880 481 T D := by
      rw [eA]
      split
      · exact ⟨pot_mk, pot_mk⟩
      · exact ⟨rfl, rfl⟩
    have inb : inR (nI p) (T 0 0) ∧ inR (nI nn) (T 1 0) := ⟨inI lp (by omega), inI ln (by omega)⟩
    refine c_below (n := 16) (by decide) (by decide) (by omega) hS ⟨_, rfl, 7, 265, ⟨by omega, by omega⟩, o1, ?_⟩
    rw [hv]
    refine c_SI_note hR hI (by omega) (Nat.le_refl _) (Nat.le_refl _) hS lp ln lm (fun hno μ1 c1 z => ⟨_, rfl, c_below (n := 16) (by decide) (by decide) (by omega) z.2.2.1 ⟨_, rfl, 1, 6, ⟨by omega, by omega⟩, s8 _ z.2.2.1, ?_⟩⟩) (fun h1 h60' μ1 c1 z => ⟨_, rfl, c_below (n := 16) (by decide) (by decide) (by omega) z.2.2.1 ⟨_, rfl, 1, 6, ⟨by omega, by omega⟩, s8 _ z.2.2.1, ?_⟩⟩)
    · rw [hv]
      have ed : dvNote T D (nI p) (nI nn) (nI v) = (.ex 0 3, D) := by
        unfold dvNote
        rw [ifP_t inb, ifP_t (inI lm (by decide))]
        by_cases y : D 1 0 0 = 60
        · rw [ifP_t y]
        · rw [ifP_f y, nI_clamp (by omega), nI_clamp (by omega), ifP_f (fun w => hno ⟨w, by omega⟩)]
      refine c_PB_note (hB.h z.2.1) (by omega) (fun _ _ _ => ⟨by omega, by omega⟩) z.2.2.1 (fun μ2 f S2 C2 => ?_)
      rw [ed] at C2 ⊢
      rw [if_neg hno] at eA
      exact ⟨fun y h => (by cases h), fun j h hj => ⟨fl0 h hj, rej (fun _ _ => 0) eA z f S2 C2⟩⟩
    · rw [hv]
      obtain ⟨z1, z2, z3, z4, z5⟩ := z
      have ed : dvNote T D (nI p) (nI nn) (nI v) = (.ok (nI (D 1 0 0)), noD T D p nn v) := by
        unfold dvNote; rw [ifP_t inb, ifP_t (inI lm (by decide)), ifP_f (by omega), nI_clamp (by omega), nI_clamp (by omega), nI_clamp (by omega), ifP_t h1]
      refine c_PB_note (hB.h z2) (by omega) (fun _ _ _ => ⟨by omega, by omega⟩) z3 (fun μ2 f S2 C2 => ?_)
      rw [ed] at C2 ⊢
      rw [if_pos ⟨h1, h60'⟩] at eA
      rw [← eA] at C2 z4
      exact ⟨fun y h => by cases h; exact fin z1 z2 z3 z4 (hL.fr z2 z1 z5) (by rw [eA]; exact hP.mk hI h60') f S2 C2, fun j h hj => (by cases h)⟩
  · -- merging
    have hk5 : 4 ≤ k ∧ k ≤ 5 := by
      rcases hk with h | h
      · have := nk (j := 4) (by decide) h; omega
      · have := nk (j := 5) (by decide) h; omega
    rw [if_neg (by omega), if_neg (by omega), if_pos hk5.2] at eA
    generalize hv : belowN (x >>> ((6 : Int32) &&& 31)) 3 = v at *
    have hpot : pot 11 1 T AD = pot 11 1 T D ∧ pot 4880 481 T AD = pot 4880 481 T D := by
      rw [eA]
      split
      · exact ⟨pot_mk, pot_mk⟩
      · exact ⟨rfl, rfl⟩
    have inb : inR (nI p) (T 0 0) ∧ inR (nI nn) (T 1 0) := ⟨inI lp (by omega), inI ln (by omega)⟩
    refine c_below (n := 3) (by decide) (by decide) (by omega) hS ⟨_, rfl, 9, 330, ⟨by omega, by omega⟩, o1, ?_⟩
    rw [hv]
    refine c_SI_merge hR hI (by omega) (Nat.le_refl _) (Nat.le_refl _) hS lp ln lw (fun hno μ1 c1 z => ⟨_, rfl, c_below (n := 3) (by decide) (by decide) (by omega) z.2.2.1 ⟨_, rfl, 1, 6, ⟨by omega, by omega⟩, s8 _ z.2.2.1, ?_⟩⟩) (fun h1 h60' μ1 c1 z => ⟨_, rfl, c_below (n := 3) (by decide) (by decide) (by omega) z.2.2.1 ⟨_, rfl, 1, 6, ⟨by omega, by omega⟩, s8 _ z.2.2.1, ?_⟩⟩)
    · rw [hv]
      have ed : dvMerge T D (nI p) (nI nn) (nI v) = (.ex 0 2, D) := by
        unfold dvMerge
        rw [ifP_t inb, ifP_t (inI lw (by decide))]
        by_cases y : D 1 0 0 = 60
        · rw [ifP_t y]
        · rw [ifP_f y, nI_clamp (by omega), nI_clamp (by omega), ifP_f (fun w => hno ⟨w, by omega⟩)]
      refine c_PB_merge (hB.h z.2.1) (by omega) (fun _ _ _ => ⟨by omega, by omega⟩) z.2.2.1 (fun μ2 f S2 C2 => ?_)
      rw [ed] at C2 ⊢
      rw [if_neg hno] at eA
      exact ⟨fun y h => (by cases h), fun j h hj => ⟨fl0 h hj, rej (fun _ _ => 0) eA z f S2 C2⟩⟩
    · rw [hv]
      obtain ⟨z1, z2, z3, z4, z5⟩ := z
      have ed : dvMerge T D (nI p) (nI nn) (nI v) = (.ok (nI (D 1 0 0)), meD T D p nn v) := by
        unfold dvMerge; rw [ifP_t inb, ifP_t (inI lw (by decide)), ifP_f (by omega), nI_clamp (by omega), nI_clamp (by omega), nI_clamp (by omega), ifP_t h1]
      refine c_PB_merge (hB.h z2) (by omega) (fun _ _ _ => ⟨by omega, by omega⟩) z3 (fun μ2 f S2 C2 => ?_)
      rw [ed] at C2 ⊢
      rw [if_pos ⟨h1, h60'⟩] at eA
      rw [← eA] at C2 z4
      exact ⟨fun y h => by cases h; exact fin z1 z2 z3 z4 (hL.fr z2 z1 z5) (by rw [eA]; exact hP.mk hI h60') f S2 C2, fun j h hj => (by cases h)⟩
  · -- sending
    have hk7 : 6 ≤ k ∧ k ≤ 7 := by
      rcases hk with h | h
      · have := nk (j := 6) (by decide) h; omega
      · have := nk (j := 7) (by decide) h; omega
    rw [if_neg (by omega), if_neg (by omega), if_neg (by omega), if_pos hk7.2] at eA
    have p1 := pot_send (a := 11) (b := 1) (x := 2) hI lr' (by decide)
    have p2 := pot_send (a := 4880) (b := 481) (x := 544) hI lr' (by decide)
    rw [eA] at hc hs
    refine ⟨1 + 2 * carN D r (D 1 0 0), 2 + 544 * carN D r (D 1 0 0), ⟨by omega, by omega⟩, o1, c_SI_send hR hL hI (hP.len hDB).2 (by omega) (Nat.le_refl _) (Nat.le_refl _) hS lr' (fun μ1 c1 z1 z2 z3 z4 z5 => ⟨_, rfl, 0, 0, ⟨Nat.zero_le _, Nat.zero_le _⟩, s8 _ z3, ?_⟩)⟩
    have ed : dvSend T D (nI r) = (.ok (nI (carN D r (D 1 0 0))), sendD D r) := by
      unfold dvSend; rw [ifP_t (inI lr' (by omega)), nI_clamp (by omega)]
    have ed1 : (dvSend T D (nI r)).1 = .ok (nI (carN D r (D 1 0 0))) := by rw [ed]
    refine Cal.mono (CalT.call (c_PB_send (Q := fun q μ2 => q = some (.int (nI (carN D r (D 1 0 0)))) ∧ Fr OwC8 μ1 μ2 ∧ St μ2 ∧ CI μ2 T C Ct (sendD D r) t L e) (hB.h z2) (by omega) (noex ed1) z3 (fun μ2 f S2 C2 => ?_)) (fun q μ' y => by have := y.1; cases this)) (fun q μ2 _ y => ?_)
    · rw [ed] at C2 ⊢
      exact ⟨rfl, f, S2, C2⟩
    · obtain ⟨rfl, f, S2, C2⟩ := y
      refine ⟨_, rfl, ?_⟩
      rw [← eA] at C2 z4
      exact fin z1 z2 z3 z4 z5 (by rw [eA]; exact hP.send hI lr') f S2 C2
  · -- days of a road
    have hk8 := nk (j := 8) (by decide) hk
    rw [if_neg (by omega), if_neg (by omega), if_neg (by omega), if_neg (by omega), if_pos hk8] at eA
    generalize hv : belowN (x >>> ((7 : Int32) &&& 31)) 9 = v at *
    have cr : (nI r).toNatClampNeg = r := nI_clamp (by omega)
    have hpot : pot 11 1 T AD = pot 11 1 T D ∧ pot 4880 481 T AD = pot 4880 481 T D := by
      rw [eA]
      exact ⟨pot_congr (ud_f (by decide)) (fun _ _ => ud_f (by decide)), pot_congr (ud_f (by decide)) (fun _ _ => ud_f (by decide))⟩
    have gr1 : gR μ (hd 121 (T 2 0)) (nI r).toNatClampNeg = some (hd 115 r) := by rw [cr]; exact (x11.2.2 r lr').1
    have v2 : vp_in (nI 2) 4 := vI (by decide) (by decide)
    refine ⟨o1, _, x11.1, _, ⟨x11.2.1, vI lr' (by omega)⟩, _, gr1, 4, ⟨(x11.2.2 r lr').2.1, v2⟩, o1, _, x11.1, _, ⟨x11.2.1, vI lr' (by omega)⟩, _, gr1, c_below (n := 9) (by decide) (by decide) (by omega) hS ⟨_, rfl, 4, ⟨(x11.2.2 r lr').2.1, v2, hi_hd (by decide) (by decide)⟩, o1, ?_⟩⟩
    rw [hv, show (1 : Int32) + nI v = nI (1 + v) by rw [I1, nI_add], show ((2 : Int32).toNatClampNeg) = 2 from rfl]
    generalize hμ1 : setI μ (hd 115 r) 2 (nI (1 + v)) = μ1
    have f1 : FrS (fun κ i => κ = 115 ∧ i = r) μ μ1 := by rw [← hμ1]; exact FrS.rf.sI (by decide) ⟨rfl, rfl⟩
    have f1h : FrS (OwH c c) μ μ1 := f1.mono (fun κ i z => by unfold OwH; omega)
    have S1 : St μ1 := f1h.st (fun κ i z => z.lo) hS
    have sf : ∀ f, f ≠ 9 → ∀ i j, ud D 9 r 0 (1 + v) f i j = D f i j := fun f hf i j => ud_f hf
    have e0R : ∀ f, gR μ1 (hd 100 0) f = gR μ (hd 100 0) f := fun f => f1.gr (by decide) (by omega)
    have e0I : ∀ f, gI μ1 (hd 100 0) f = gI μ (hd 100 0) f := fun f => f1.gi (by decide) (by omega)
    have e115 : ∀ p j, gI μ1 (hd 115 p) j = if p = r ∧ j = 2 then nI (1 + v) else gI μ (hd 115 p) j := fun p j => by
      rw [← hμ1, gI_h (by decide) (by decide)]
      by_cases z : p = r
      · rw [z]
        by_cases z2 : j = 2
        · rw [z2, rd_eq, if_pos ⟨rfl, rfl⟩]
        · rw [rd_k z2, if_neg (fun w => z2 w.2), ← gI_h (by decide) (by decide)]
      · rw [rd_i z, if_neg (fun w => z w.1), ← gI_h (by decide) (by decide)]
    have R1 : SR μ1 T (ud D 9 r 0 (1 + v)) OO c := by
      refine hR.ext (D' := ud D 9 r 0 (1 + v)) f1 (Nat.le_refl _) (fun κ i z => by omega) (fun f _ => e0R f) ⟨?_, ?_, ?_, ?_, ?_, ?_, ?_⟩ (fun f hf i j => sf f (by omega) i j) (fun p hp => ⟨?_, fun k hk => ?_⟩) (fun p hp => ⟨?_, fun k hk => ?_⟩) (fun p hp => ⟨?_, fun k hk => ?_⟩)
      · exact (f1.S (by decide) (by omega)).trans o1
      · rw [e0I, o2, sf 0 (by decide)]
      · rw [e0I, o3, sf 2 (by decide)]
      · rw [e0I, o4, merged_congr (D := D) (D' := ud D 9 r 0 (1 + v)) (sf 1 (by decide) 0 0) (fun s => sf 4 (by decide) s 5)]
      · rw [e0I, o5, sf 3 (by decide)]
      · rw [e0I, o6]
      · rw [e0I, o7]
      · exact (f1.S (by decide) (by omega)).trans (hR.2.2.2.2.2.1.2.2 p hp).2.1
      · rw [f1.gi (by decide) (by omega), (hR.2.2.2.2.2.1.2.2 p hp).2.2 k hk]
        unfold pWt; rw [sf 8 (by decide)]
      · rw [← hμ1]; exact (x11.2.2 p hp).2.1
      · rw [e115]
        unfold rdX
        by_cases z : p = r ∧ k = 2
        · rw [if_pos z, if_neg (by omega), z.1, z.2, show 2 - 2 = 0 from rfl, ud_self]
        · rw [if_neg z, (x11.2.2 p hp).2.2 k hk]
          unfold rdX
          by_cases z2 : k < 2
          · rw [if_pos z2, if_pos z2, sf 12 (by decide)]
          · rw [if_neg z2, if_neg z2, ud_ne (fun w => z ⟨w.2.1, by have := w.2.2; omega⟩)]
      · exact (f1.S (by decide) (by omega)).trans (hR.2.2.2.2.2.2.2.1.2.2 p hp).2.1
      · rw [f1.gi (by decide) (by omega), (hR.2.2.2.2.2.2.2.1.2.2 p hp).2.2 k hk]
        unfold pGo; rw [sf 10 (by decide)]
    have y11 := R1.2.2.2.2.2.2.1
    have gr2 : gR μ1 (hd 121 (T 2 0)) (nI r).toNatClampNeg = some (hd 115 r) := by rw [cr]; exact (y11.2.2 r lr').1
    refine ⟨_, y11.1, _, ⟨y11.2.1, vI lr' (by omega)⟩, _, gr2, 4, ⟨(y11.2.2 r lr').2.1, v2⟩, 0, 0, ⟨Nat.zero_le _, Nat.zero_le _⟩, s8 _ S1, ?_⟩
    have eg : gI μ (hd 115 r) 2 = nI (D 9 r 0) := (x11.2.2 r lr').2.2 2 (by decide)
    rw [e115, if_pos ⟨rfl, rfl⟩, eg]
    have inn : inN (nI (1 + v)) 9 := by unfold inN; rw [nI_toInt (by omega)]; omega
    have ed : dvSetDays T D (nI r) (nI (1 + v)) = (.ok (nI (D 9 r 0)), ud D 9 r 0 (1 + v)) := by
      unfold dvSetDays; rw [ifP_t (inI lr' (by omega)), ifP_t inn, nI_clamp (by omega), nI_clamp (by omega)]
    have ed1 : (dvSetDays T D (nI r) (nI (1 + v))).1 = .ok (nI (D 9 r 0)) := by rw [ed]
    refine Cal.mono (CalT.call (c_PB_setDays (Q := fun q μ2 => q = some (.int (nI (D 9 r 0))) ∧ Fr OwC8 μ1 μ2 ∧ St μ2 ∧ CI μ2 T C Ct (ud D 9 r 0 (1 + v)) t L e) (hB.h f1h) (by omega) (noex ed1) S1 (fun μ2 f S2 C2 => ?_)) (fun q μ' y => by have := y.1; cases this)) (fun q μ2 _ y => ?_)
    · rw [ed] at C2 ⊢
      exact ⟨rfl, f, S2, C2⟩
    · obtain ⟨rfl, f, S2, C2⟩ := y
      refine ⟨_, rfl, ?_⟩
      rw [← eA] at C2 R1
      exact fin (Nat.le_refl _) f1h S1 R1 (hL.fr f1h (Nat.le_refl _) (e0R 13)) (by rw [eA]; exact hP.congr (ud_f (by decide)) (ud_f (by decide)) (fun _ _ => ud_f (by decide))) f S2 C2
  · -- days
    have hk9 : 9 ≤ k := by
      rw [nI_toInt (by omega)] at hk
      omega
    rw [if_neg (by omega), if_neg (by omega), if_neg (by omega), if_neg (by omega), if_neg (by omega)] at eA
    generalize hv : belowN (x >>> ((4 : Int32) &&& 31)) 5 = v at *
    refine c_below (n := 5) (by decide) (by decide) (by omega) hS ⟨_, rfl, o1, ?_⟩
    rw [hv, show (1 : Int32) + nI v = nI (1 + v) by rw [I1, nI_add]]
    have m1 : (1 + v) * (18 * T 6 0 + 601) ≤ 5 * 781 := Nat.mul_le_mul (by omega) (by omega)
    have m2 : (1 + v) * (630 * T 6 0 + 19501) ≤ 5 * 25801 := Nat.mul_le_mul (by omega) (by omega)
    obtain ⟨A1, hA1⟩ : ∃ A, (1 + v) * (18 * T 6 0 + 601) = A := ⟨_, rfl⟩
    obtain ⟨A2, hA2⟩ : ∃ A, (1 + v) * (630 * T 6 0 + 19501) = A := ⟨_, rfl⟩
    rw [hA1] at m1
    rw [hA2] at m2
    refine ⟨A1 + pot 11 1 T D - pot 11 1 T AD, A2 + pot 4880 481 T D - pot 4880 481 T AD, ⟨by omega, by omega⟩, o1, c_SI_passD hA hR hL hP hI h2 (by omega) (by omega) hS (by rw [hA1, ← eA]; omega) (by rw [hA2, ← eA]; omega) (fun μ1 c1 Λ1 z1 z2 z3 z4 z5 z6 => ⟨_, rfl, z4.1.1, 0, 0, ⟨Nat.zero_le _, Nat.zero_le _⟩, s8 _ z3, ?_⟩)⟩
    have inn : inN (nI (1 + v)) 60 := by unfold inN; rw [nI_toInt (by omega)]; omega
    rw [z4.1.2.2.1, o3]
    have ed : dvPass T C Ct D (nI (1 + v)) = (.ok (nI (daysD T C Ct D (1 + v) 2 0 0) - nI (D 2 0 0)), daysD T C Ct D (1 + v)) := by
      unfold dvPass; rw [ifP_t inn, nI_clamp (by omega)]
    have ed1 : (dvPass T C Ct D (nI (1 + v))).1 = .ok (nI (daysD T C Ct D (1 + v) 2 0 0) - nI (D 2 0 0)) := by rw [ed]
    refine Cal.mono (CalT.call (c_PB_pass (Q := fun q μ2 => q = some (.int (nI (daysD T C Ct D (1 + v) 2 0 0) - nI (D 2 0 0))) ∧ Fr OwC8 μ1 μ2 ∧ St μ2 ∧ CI μ2 T C Ct (daysD T C Ct D (1 + v)) t L e) (hB.h z2) hN (by omega) (noex ed1) z3 (fun μ2 f S2 C2 => ?_)) (fun q μ' y => by have := y.1; cases this)) (fun q μ2 _ y => ?_)
    · rw [ed] at C2 ⊢
      exact ⟨rfl, f, S2, C2⟩
    · obtain ⟨rfl, f, S2, C2⟩ := y
      refine ⟨_, rfl, ?_⟩
      rw [← eA] at C2 z4 z6
      have ew : daysD T C Ct D (1 + v) = AD := eA.symm
      rw [ew]
      exact fin z1 z2 z3 z4 z5 z6 f S2 C2
end SW
