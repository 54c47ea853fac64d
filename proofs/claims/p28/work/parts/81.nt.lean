/-! what a list tells, as numbers -/
section NTA
variable {t : Nat → Nat} {L : Nat} {os : List Ord3}
/-- the name of the road r -/
noncomputable def ndI (t : Nat → Nat) (L r : Nat) : Nat := sc (fun i => ¬ (rl (tK t L) i = 3 ∧ cn (tK t L) 3 i = r)) (nT t L) 0
theorem ndI_ok {r : Nat} (h : r < cn (tK t L) 3 (nT t L)) : ndI t L r < nT t L ∧ rl (tK t L) (ndI t L r) = 3 ∧ cn (tK t L) 3 (ndI t L r) = r := by
  obtain ⟨i, h1, h2, h3⟩ := cn_at (nT t L) r h
  have hlt : ndI t L r < nT t L := by
    rcases Nat.lt_or_ge (ndI t L r) (nT t L) with z | z
    · exact z
    · exact absurd ⟨h2, h3⟩ (sc_all (c := fun i => ¬ (rl (tK t L) i = 3 ∧ cn (tK t L) 3 i = r)) (L := nT t L) (p := 0) (q := i) (Nat.zero_le _) (Nat.lt_of_lt_of_le h1 z))
  exact ⟨hlt, Classical.not_not.mp (sc_not (c := fun i => ¬ (rl (tK t L) i = 3 ∧ cn (tK t L) 3 i = r)) hlt (Nat.zero_le _))⟩
theorem rd_facts (hLS : ∀ j, j < nT t L → LSj (tK t L) j) {r : Nat} (h : r < cn (tK t L) 3 (nT t L)) : ndI t L r + 6 < nT t L ∧ (rl (tK t L) (ndI t L r + 2) = 4 ∧ rl (tK t L) (ndI t L r + 4) = 5 ∧ rl (tK t L) (ndI t L r + 6) = 6) ∧ cn (tK t L) 3 (ndI t L r + 2) = r + 1 ∧ cn (tK t L) 3 (ndI t L r + 4) = r + 1 ∧ cn (tK t L) 3 (ndI t L r + 6) = r + 1 := by
  obtain ⟨h1, h2, h3⟩ := ndI_ok h
  generalize ndI t L r = i at h1 h2 h3 ⊢
  have k44 : tK t L i = 44 := rl_44' h2 (by decide)
  have hi1 := ((hLS i h1).2.2.2.2.2.2.2.1 k44).1
  have k1 : tK t L (i - 1) = 1 := by
    have := h2
    rw [rl_44k k44] at this
    rcases it_eq this with ⟨a, b⟩ | ⟨a0, this⟩
    · omega
    rcases it_eq this with ⟨a, b⟩ | ⟨a1, this⟩
    · omega
    rcases it_eq this with ⟨a, b⟩ | ⟨a2, this⟩
    · exact a
    exfalso
    revert this
    exact ite_ne (by decide) (ite_ne (by decide) (ite_ne (by decide) (ite_ne (by decide) (ite_ne (by decide) (ite_ne (by decide) (by decide))))))
  obtain ⟨e1, e2, e3, e4, e5, e6, e7⟩ := (hLS (i - 1) (by omega)).2.1 k1
  obtain ⟨r1, r2, r3, r4, r5, r6, r7⟩ := road_rl hLS (show i - 1 < nT t L by omega) k1
  rw [show i - 1 + 1 = i by omega] at e1 r1
  rw [show i - 1 + 2 = i + 1 by omega] at e2 r2
  rw [show i - 1 + 3 = i + 2 by omega] at e3 r3
  rw [show i - 1 + 4 = i + 3 by omega] at e4 r4
  rw [show i - 1 + 5 = i + 4 by omega] at e5 r5
  rw [show i - 1 + 6 = i + 5 by omega] at e6 r6
  rw [show i - 1 + 7 = i + 6 by omega] at e7 r7
  have n1 : i + 1 < nT t L := in_n (by omega) (by omega)
  have n2 : i + 2 < nT t L := in_n (by omega) (by omega)
  have n3 : i + 3 < nT t L := in_n (by omega) (by omega)
  have n4 : i + 4 < nT t L := in_n (by omega) (by omega)
  have n5 : i + 5 < nT t L := in_n (by omega) (by omega)
  have n6 : i + 6 < nT t L := in_n (by omega) (by omega)
  have c1 : cn (tK t L) 3 (i + 1) = r + 1 := by rw [cn_yes h2, h3]
  have c2 : cn (tK t L) 3 (i + 2) = r + 1 := by rw [show i + 2 = i + 1 + 1 by omega, cn_no (by rw [r2]; decide), c1]
  have c3 : cn (tK t L) 3 (i + 3) = r + 1 := by rw [show i + 3 = i + 2 + 1 by omega, cn_no (by rw [r3]; decide), c2]
  have c4 : cn (tK t L) 3 (i + 4) = r + 1 := by rw [show i + 4 = i + 3 + 1 by omega, cn_no (by rw [r4]; decide), c3]
  have c5 : cn (tK t L) 3 (i + 5) = r + 1 := by rw [show i + 5 = i + 4 + 1 by omega, cn_no (by rw [r5]; decide), c4]
  have c6 : cn (tK t L) 3 (i + 6) = r + 1 := by rw [show i + 6 = i + 5 + 1 by omega, cn_no (by rw [r6]; decide), c5]
  exact ⟨n6, ⟨r3, r5, r7⟩, c2, c4, c6⟩
/-- a road, when nothing is wrong -/
theorem rd_vals (hLS : ∀ j, j < nT t L → LSj (tK t L) j) (he : ∀ i, i < nT t L → ern t L i = 0) {r : Nat} (h : r < cn (tK t L) 3 (nT t L)) : (plc t L 1 (ndI t L r + 2) (ndI t L r + 2) ≠ 0 ∧ plc t L 1 (ndI t L r + 2) (ndI t L r + 2) ≤ cn (tK t L) 1 (nT t L)) ∧ (plc t L 1 (ndI t L r + 4) (ndI t L r + 4) ≠ 0 ∧ plc t L 1 (ndI t L r + 4) (ndI t L r + 4) ≤ cn (tK t L) 1 (nT t L)) ∧ 1 ≤ nvT t L (ndI t L r + 6) ∧ nvT t L (ndI t L r + 6) ≤ 9 := by
  obtain ⟨n6, ⟨r4, r5, r6⟩, -, -, -⟩ := rd_facts hLS h
  have e4 := he (ndI t L r + 2) (by omega)
  have e5 := he (ndI t L r + 4) (by omega)
  have e6 := he (ndI t L r + 6) n6
  rw [ern_p r4 (Or.inl rfl)] at e4
  rw [ern_5 r5] at e5
  rw [ern_6 r6] at e6
  have p4 : plc t L 1 (ndI t L r + 2) (ndI t L r + 2) ≠ 0 := fun z => by rw [if_pos z] at e4; cases e4
  have p5 : plc t L 1 (ndI t L r + 4) (ndI t L r + 4) ≠ 0 := fun z => by rw [if_pos z] at e5; cases e5
  have p6 : 1 ≤ nvT t L (ndI t L r + 6) ∧ nvT t L (ndI t L r + 6) ≤ 9 := Classical.byContradiction fun z => by rw [if_neg z] at e6; cases e6
  exact ⟨⟨p4, Nat.le_trans (plc_le _) (cn_mono (by omega))⟩, ⟨p5, Nat.le_trans (plc_le _) (cn_mono (by omega))⟩, p6⟩
/-- the new plan, and the new world -/
noncomputable def ntT (t : Nat → Nat) (L : Nat) (os : List Ord3) : PT := fun f k => match f with
  | 0 => cn (tK t L) 1 (nT t L)
  | 1 => cn (tK t L) 2 (nT t L)
  | 2 => cn (tK t L) 3 (nT t L)
  | 6 => os.length
  | 7 => tK t L (os.getD k (0, [], [])).1
  | 8 => if tK t L (os.getD k (0, [], [])).1 = 9 then plc t L 3 ((os.getD k (0, [], [])).1 + 1) ((os.getD k (0, [], [])).1 + 1) - 1 else plc t L 1 ((os.getD k (0, [], [])).1 + 1) ((os.getD k (0, [], [])).1 + 1) - 1
  | 9 => plc t L 2 ((os.getD k (0, [], [])).1 + 2) ((os.getD k (0, [], [])).1 + 2) - 1
  | 10 => tK t L ((os.getD k (0, [], [])).1 + 4) - 13
  | _ => 0
noncomputable def ntC (t : Nat → Nat) (L : Nat) (os : List Ord3) (k : Nat) : List Op := (os.getD k (0, [], [])).2.1.map (stO t L)
noncomputable def ntE (t : Nat → Nat) (L : Nat) (os : List Ord3) (k : Nat) : List Op := (os.getD k (0, [], [])).2.2.map (stO t L)
noncomputable def ntD (t : Nat → Nat) (L : Nat) : DT := fun f i j => match f with
  | 9 => if j = 0 then nvT t L (ndI t L i + 6) else 0
  | 12 => if j = 0 then plc t L 1 (ndI t L i + 2) (ndI t L i + 2) - 1 else plc t L 1 (ndI t L i + 4) (ndI t L i + 4) - 1
  | _ => 0
theorem nt_DB (hLS : ∀ j, j < nT t L → LSj (tK t L) j) (he : ∀ i, i < nT t L → ern t L i = 0) (hb : cn (tK t L) 1 (nT t L) ≤ 5 ∧ cn (tK t L) 2 (nT t L) ≤ 6 ∧ cn (tK t L) 3 (nT t L) ≤ 8) (ho : os.length ≤ 20) : DB (ntT t L os) (ntD t L) := by
  refine ⟨⟨hb.1, hb.2.1, hb.2.2, ho, Nat.zero_le _, show (0 : Nat) < 2 ^ 20 by decide⟩, fun s hs => absurd hs (Nat.not_lt_zero _), fun b _ => ⟨fun _ _ => Nat.zero_le _, fun _ _ => Nat.zero_le _, fun _ _ => Nat.zero_le _, Nat.zero_le _, fun _ _ h => absurd rfl h⟩, fun r hr => ?_⟩
  obtain ⟨⟨a1, a2⟩, ⟨b1, b2⟩, c1, c2⟩ := rd_vals hLS he (show r < cn (tK t L) 3 (nT t L) from hr)
  refine ⟨?_, ?_, c1, c2, fun _ _ => by show 0 < _; decide⟩
  · show plc t L 1 (ndI t L r + 2) (ndI t L r + 2) - 1 < cn (tK t L) 1 (nT t L); omega
  · show plc t L 1 (ndI t L r + 4) (ndI t L r + 4) - 1 < cn (tK t L) 1 (nT t L); omega
theorem nt_Inv (hLS : ∀ j, j < nT t L → LSj (tK t L) j) (he : ∀ i, i < nT t L → ern t L i = 0) (hb : cn (tK t L) 1 (nT t L) ≤ 5 ∧ cn (tK t L) 2 (nT t L) ≤ 6 ∧ cn (tK t L) 3 (nT t L) ≤ 8) (ho : os.length ≤ 20) : Inv (ntT t L os) (ntD t L) :=
  ⟨nt_DB hLS he hb ho, fun _ _ => (sumN_zero _ (fun _ _ => rfl)).symm, ⟨fun _ _ h => absurd h (Nat.not_lt_zero _), fun _ h => absurd h (Nat.not_lt_zero _), fun _ _ _ _ => Nat.zero_le _, fun _ _ => rfl⟩, fun _ _ _ _ h => absurd rfl h⟩
/-- an order's names -/
theorem or_facts (hLn : LnOK (tK t L) (nT t L) 0 (nT t L) os) {k : Nat} {o : Ord3} (hk : os[k]? = some o) : (6 ≤ tK t L o.1 ∧ tK t L o.1 ≤ 9) ∧ o.1 + 1 < nT t L ∧ cn (tK t L) 7 o.1 = k ∧ rl (tK t L) o.1 = 7 ∧ tK t L (o.1 + 1) = 44 ∧ cn (tK t L) 7 (o.1 + 1) = k + 1 ∧ (tK t L o.1 = 9 → rl (tK t L) (o.1 + 1) = 10) ∧
    (tK t L o.1 ≠ 9 → rl (tK t L) (o.1 + 1) = 8 ∧ o.1 + 2 < nT t L ∧ tK t L (o.1 + 2) = 44 ∧ rl (tK t L) (o.1 + 2) = 9 ∧ cn (tK t L) 7 (o.1 + 2) = k + 1) ∧ (tK t L o.1 = 8 → o.1 + 4 < nT t L ∧ 13 ≤ tK t L (o.1 + 4) ∧ tK t L (o.1 + 4) ≤ 15 ∧ rl (tK t L) (o.1 + 4) = 11 ∧ cn (tK t L) 7 (o.1 + 4) = k + 1) := by
  obtain ⟨-, hpn, h3⟩ := hLn.2.2.2.2.2.2.1 k o hk
  have hof := (hLn.2.2.2.2.2.2.2 o (List.mem_of_getElem? hk)).1
  have hls := (hLn.2.2.2.2.1 o.1 (Nat.zero_le _) hpn).2.2.2.2.2.1 hof.1 hof.2
  have z : ordN (tK t L) 0 + k = k := by have : ordN (tK t L) 0 = 0 := rfl
                                         omega
  rw [z] at h3
  have c0 : cn (tK t L) 7 o.1 = k := (cn_7 _).trans h3
  have r0 : rl (tK t L) o.1 = 7 := rl_7.mpr hof
  have n1 : o.1 + 1 < nT t L := in_n (by omega) (by omega)
  have c1 : cn (tK t L) 7 (o.1 + 1) = k + 1 := by rw [cn_yes r0, c0]
  have r1 := rl_44k hls.1
  rw [Nat.add_sub_cancel] at r1
  refine ⟨hof, n1, c0, r0, hls.1, c1, fun h9 => ?_, fun h9 => ?_, fun h8 => ?_⟩
  · rw [r1, if_neg (by omega), if_neg (by omega), if_neg (by omega), if_neg (by omega), if_neg (by omega), if_neg (by omega), if_pos h9]
  · have k2 := hls.2.1 h9
    have rr1 : rl (tK t L) (o.1 + 1) = 8 := by rw [r1, if_neg (by omega), if_neg (by omega), if_neg (by omega), if_neg (by omega), if_neg (by omega), if_pos (by omega)]
    have r2 := rl_44k k2
    rw [show o.1 + 2 - 1 = o.1 + 1 by omega, Nat.add_sub_cancel, hls.1] at r2
    refine ⟨rr1, in_n (by omega) (by omega), k2, ?_, ?_⟩
    · rw [r2, if_neg (by decide), if_neg (by decide), if_neg (by decide), if_neg (by decide), if_neg (by decide), if_neg (by decide), if_neg (by decide), if_neg (by decide), if_pos (by omega)]
    · rw [show o.1 + 2 = o.1 + 1 + 1 by omega, cn_no (by rw [rr1]; decide), c1]
  · have k2 := hls.2.1 (by omega)
    obtain ⟨k3, k4, k5⟩ := hls.2.2 h8
    have rr1 : rl (tK t L) (o.1 + 1) = 8 := by rw [r1, if_neg (by omega), if_neg (by omega), if_neg (by omega), if_neg (by omega), if_neg (by omega), if_pos (by omega)]
    have r2 := rl_44k k2
    rw [show o.1 + 2 - 1 = o.1 + 1 by omega, Nat.add_sub_cancel, hls.1] at r2
    rw [if_neg (by decide), if_neg (by decide), if_neg (by decide), if_neg (by decide), if_neg (by decide), if_neg (by decide), if_neg (by decide), if_neg (by decide), if_pos (by omega)] at r2
    have r3 : rl (tK t L) (o.1 + 3) = 0 := rl_0 (by omega)
    have n2 : o.1 + 2 < nT t L := in_n (by omega) (by omega)
    have n3 : o.1 + 3 < nT t L := in_n (by omega) (by omega)
    have n4 : o.1 + 4 < nT t L := in_n (by omega) (by omega)
    have c2 : cn (tK t L) 7 (o.1 + 2) = k + 1 := by rw [show o.1 + 2 = o.1 + 1 + 1 by omega, cn_no (by rw [rr1]; decide), c1]
    have c3 : cn (tK t L) 7 (o.1 + 3) = k + 1 := by rw [show o.1 + 3 = o.1 + 2 + 1 by omega, cn_no (by rw [r2]; decide), c2]
    have c4 : cn (tK t L) 7 (o.1 + 4) = k + 1 := by rw [show o.1 + 4 = o.1 + 3 + 1 by omega, cn_no (by rw [r3]; decide), c3]
    refine ⟨n4, k4, k5, ?_, c4⟩
    unfold rl; rw [if_neg (by omega), if_pos ⟨k4, k5⟩]
theorem stO_ok (he : ∀ i, i < nT t L → ern t L i = 0) {a : Nat × Nat} (h : refF (tK t L) (nT t L) a) : opOK (ntT t L os) (stO t L a) := by
  unfold opOK
  have hk : (stO t L a).1 = a.1 := stO_keep a
  rcases h with ⟨-, h⟩ | ⟨h0, hm, hK, hn, h17, h18⟩
  · rw [hk]
    exact Or.inr (Or.inr (Or.inr h))
  · by_cases h45 : a.1 = 45
    · left
      have est : stO t L a = (45, nvT t L (a.2 - 1), 0) := by unfold stO; rw [if_pos h45]
      rw [est]
      refine ⟨rfl, ?_⟩
      obtain ⟨g1, g2, g3⟩ := dig (t := t) (L := L) (i := a.2 - 1) (by omega) (by rw [hK]; exact h45)
      have hlt := nv_lt (p := tS t L (a.2 - 1)) (lnT t L (a.2 - 1)) g3
      have hp6 : 10 ^ lnT t L (a.2 - 1) ≤ 10 ^ 6 := Nat.pow_le_pow_right (by decide) g1
      show nv t (tS t L (a.2 - 1)) (lnT t L (a.2 - 1)) < 2 ^ 31
      have : (10 : Nat) ^ 6 = 1000000 := by decide
      omega
    · by_cases h17' : a.1 = 17
      · right; left; rw [hk]; exact h17'
      · right; right; left
        have hb : 18 ≤ a.1 ∧ a.1 ≤ 23 := by
          have : ∀ x ∈ opsR, x = 45 ∨ x = 17 ∨ (18 ≤ x ∧ x ≤ 23) := by decide
          have := this a.1 hm
          omega
        obtain ⟨k44, k44'⟩ := h18 hb.1 hb.2
        have est : stO t L a = (a.1, plc t L 1 a.2 a.2 - 1, plc t L 2 (a.2 + 1) (a.2 + 1) - 1) := by unfold stO; rw [if_neg h45, if_pos hb]
        have p1 : a.2 < nT t L := in_n hn (by omega)
        have l1 : rl (tK t L) a.2 = 12 := by
          rw [rl_44 k44 hK rfl, if_neg (by omega), if_neg (by omega), if_neg (by omega), if_neg (by omega), if_neg (by omega), if_neg (by omega), if_neg (by omega), if_pos hb]
        have e1 := he a.2 p1
        rw [ern_p l1 (Or.inr (Or.inr rfl))] at e1
        have n1 : plc t L 1 a.2 a.2 ≠ 0 := fun z => by rw [if_pos z] at e1; cases e1
        have m1 : plc t L 1 a.2 a.2 ≤ cn (tK t L) 1 (nT t L) := Nat.le_trans (plc_le _) (cn_mono (by omega))
        rw [est]
        refine ⟨hb.1, hb.2, ?_, fun h21 => ?_⟩
        · show plc t L 1 a.2 a.2 - 1 < cn (tK t L) 1 (nT t L); omega
        · have k2 := k44' h21
          have p2 : a.2 + 1 < nT t L := in_n (by omega) (by omega)
          have l2 : rl (tK t L) (a.2 + 1) = 13 := by
            rw [rl_44 k2 (show tK t L (a.2 + 1 - 1) = 44 from k44) (show tK t L (a.2 + 1 - 2) = a.1 by rw [show a.2 + 1 - 2 = a.2 - 1 by omega]; exact hK), if_neg (by omega), if_neg (by omega), if_neg (by omega), if_neg (by omega), if_neg (by omega), if_neg (by omega), if_neg (by omega), if_neg (by omega), if_neg (by omega)]
          have e2 := he (a.2 + 1) p2
          rw [ern_n l2 (Or.inr rfl)] at e2
          have n2 : plc t L 2 (a.2 + 1) (a.2 + 1) ≠ 0 := fun z => by rw [if_pos z] at e2; cases e2
          have m2 : plc t L 2 (a.2 + 1) (a.2 + 1) ≤ cn (tK t L) 2 (nT t L) := Nat.le_trans (plc_le _) (cn_mono (by omega))
          show plc t L 2 (a.2 + 1) (a.2 + 1) - 1 < cn (tK t L) 2 (nT t L); omega
theorem getD_of {k : Nat} {o d : Ord3} (h : os[k]? = some o) : os.getD k d = o := by rw [List.getD_eq_getElem?_getD, h]; rfl
theorem get_lt {k : Nat} (h : k < os.length) : ∃ o, os[k]? = some o := ⟨os[k], List.getElem?_eq_getElem h⟩
theorem nt_OW (hLn : LnOK (tK t L) (nT t L) 0 (nT t L) os) (he : ∀ i, i < nT t L → ern t L i = 0) : OW (ntT t L os) (ntC t L os) (ntE t L os) := by
  intro k hk
  obtain ⟨o, ho⟩ := get_lt (os := os) (show k < os.length from hk)
  obtain ⟨f1, f2, f3, f4, f5, f6, f7, f8, f9⟩ := or_facts hLn ho
  have hof := hLn.2.2.2.2.2.2.2 o (List.mem_of_getElem? ho)
  have e7 : ntT t L os 7 k = tK t L o.1 := by show tK t L (os.getD k (0, [], [])).1 = _; rw [getD_of ho]
  have e9 : ntT t L os 9 k = plc t L 2 (o.1 + 2) (o.1 + 2) - 1 := by show plc t L 2 ((os.getD k (0, [], [])).1 + 2) ((os.getD k (0, [], [])).1 + 2) - 1 = _; rw [getD_of ho]
  have e10 : ntT t L os 10 k = tK t L (o.1 + 4) - 13 := by show tK t L ((os.getD k (0, [], [])).1 + 4) - 13 = _; rw [getD_of ho]
  have e8 : ntT t L os 8 k = if tK t L o.1 = 9 then plc t L 3 (o.1 + 1) (o.1 + 1) - 1 else plc t L 1 (o.1 + 1) (o.1 + 1) - 1 := by
    show (if tK t L (os.getD k (0, [], [])).1 = 9 then plc t L 3 ((os.getD k (0, [], [])).1 + 1) ((os.getD k (0, [], [])).1 + 1) - 1 else plc t L 1 ((os.getD k (0, [], [])).1 + 1) ((os.getD k (0, [], [])).1 + 1) - 1) = _
    rw [getD_of ho]
  have eC : ntC t L os k = o.2.1.map (stO t L) := by unfold ntC; rw [getD_of ho]
  have eE : ntE t L os k = o.2.2.map (stO t L) := by unfold ntE; rw [getD_of ho]
  unfold ordW
  rw [e7, eC, eE, e8, e9, e10]
  refine ⟨f1, fun h => ?_, fun h => ⟨?_, ?_⟩, fun h => ?_, fun x hx => ?_, fun x hx => ?_, fun h => (hof.2.1 h _ stO_keep).2 0, fun h => ?_⟩
  · rw [if_pos h]
    have e1 := he (o.1 + 1) f2
    rw [ern_10 (f7 h)] at e1
    have n1 : plc t L 3 (o.1 + 1) (o.1 + 1) ≠ 0 := fun z => by rw [if_pos z] at e1; cases e1
    have m1 : plc t L 3 (o.1 + 1) (o.1 + 1) ≤ cn (tK t L) 3 (nT t L) := Nat.le_trans (plc_le _) (cn_mono (by omega))
    show _ < cn (tK t L) 3 (nT t L); omega
  · rw [if_neg h]
    have e1 := he (o.1 + 1) f2
    rw [ern_p (f8 h).1 (Or.inr (Or.inl rfl))] at e1
    have n1 : plc t L 1 (o.1 + 1) (o.1 + 1) ≠ 0 := fun z => by rw [if_pos z] at e1; cases e1
    have m1 : plc t L 1 (o.1 + 1) (o.1 + 1) ≤ cn (tK t L) 1 (nT t L) := Nat.le_trans (plc_le _) (cn_mono (by omega))
    show _ < cn (tK t L) 1 (nT t L); omega
  · obtain ⟨-, g1, -, g2, -⟩ := f8 h
    have e1 := he (o.1 + 2) g1
    rw [ern_n g2 (Or.inl rfl)] at e1
    have n1 : plc t L 2 (o.1 + 2) (o.1 + 2) ≠ 0 := fun z => by rw [if_pos z] at e1; cases e1
    have m1 : plc t L 2 (o.1 + 2) (o.1 + 2) ≤ cn (tK t L) 2 (nT t L) := Nat.le_trans (plc_le _) (cn_mono (by omega))
    show _ < cn (tK t L) 2 (nT t L); omega
  · obtain ⟨-, g1, g2, -⟩ := f9 h
    omega
  · obtain ⟨a, ha, rfl⟩ := List.mem_map.mp hx
    exact stO_ok he (hof.2.2.2.2 a (List.mem_append.mpr (Or.inl ha)))
  · obtain ⟨a, ha, rfl⟩ := List.mem_map.mp hx
    exact stO_ok he (hof.2.2.2.2 a (List.mem_append.mpr (Or.inr ha)))
  · rcases hof.2.2.2.1 with h' | h'
    · rw [h'] at h; exact absurd rfl h
    · exact (h' _ stO_keep).2 0
theorem nt_OB (hLn : LnOK (tK t L) (nT t L) 0 (nT t L) os) : OB (ntT t L os) (ntE t L os) := by
  intro k hk hne D
  obtain ⟨o, ho⟩ := get_lt (os := os) (show k < os.length from hk)
  have hof := hLn.2.2.2.2.2.2.2 o (List.mem_of_getElem? ho)
  have eE : ntE t L os k = o.2.2.map (stO t L) := by unfold ntE; rw [getD_of ho]
  rw [eE] at hne ⊢
  rcases hof.2.2.2.1 with h' | h'
  · rw [h'] at hne; exact absurd rfl hne
  · obtain ⟨v, hv, e⟩ := (h' (stO t L) stO_keep).1 (ntT t L os) D []
    have : evV (ntT t L os) D (o.2.2.map (stO t L)) = v := by unfold evV; rw [e]; rfl
    rw [this]; exact hv
end NTA
