/-! what stays true, whatever is done -/
section SX2
variable {T : PT} {D D' : DT} {C Ct : Nat → List Op} {n : Nat} {x : Int32}
theorem Iv.mk2 {b m v k h : Nat} (hI : Inv T D) (h2 : Iv T D) (h60 : D 1 0 0 < 60) (hb : b < T 0 0) (hm : m < T 1 0) : Iv T (mkD T D b m v k h) := h2.mk hI h60 hb hm
theorem act_inv (hN : NI T C Ct D n) (h2 : Iv T D) (h1P : 1 ≤ T 0 0) (h1N : 1 ≤ T 1 0) (h1R : 1 ≤ T 2 0) : Inv T (actD T C Ct D x) ∧ Iv T (actD T C Ct D x) ∧ actD T C Ct D x 0 0 0 ≤ D 0 0 0 + 5 ∧ (pot 11 1 T (actD T C Ct D x) ≤ pot 11 1 T D ∧ pot 4880 481 T (actD T C Ct D x) ≤ pot 4880 481 T D) ∧ ∀ r, actD T C Ct D x 12 r = D 12 r := by
  have hI := hN.1
  have hW := hN.2.1
  have hday := hN.2.2.2.1
  have hn := hN.2.2.2.2
  have hB := hI.1
  have hN6 := hB.1.2.1
  have h60 := hB.1.2.2.2.2.1
  have lp : belowN (x >>> ((3 : Int32) &&& 31)) (T 0 0) < T 0 0 := below_lt (by omega)
  have ln : belowN (x >>> ((5 : Int32) &&& 31)) (T 1 0) < T 1 0 := below_lt (by omega)
  have lr' : belowN (x >>> ((4 : Int32) &&& 31)) (T 2 0) < T 2 0 := below_lt (by omega)
  have lv : belowN (x >>> ((6 : Int32) &&& 31)) 10000 < 10000 := below_lt (by decide)
  have lm : belowN (x >>> ((6 : Int32) &&& 31)) 16 < 16 := below_lt (by decide)
  have ld : belowN (x >>> ((7 : Int32) &&& 31)) 9 < 9 := below_lt (by decide)
  have ly : belowN (x >>> ((4 : Int32) &&& 31)) 5 < 5 := below_lt (by decide)
  unfold actD
  generalize belowN (x >>> ((3 : Int32) &&& 31)) (T 0 0) = p at *
  generalize belowN (x >>> ((5 : Int32) &&& 31)) (T 1 0) = nn at *
  generalize belowN (x >>> ((4 : Int32) &&& 31)) (T 2 0) = r at *
  have same : Inv T D ∧ Iv T D ∧ D 0 0 0 ≤ D 0 0 0 + 5 ∧ (pot 11 1 T D ≤ pot 11 1 T D ∧ pot 4880 481 T D ≤ pot 4880 481 T D) ∧ ∀ r, D 12 r = D 12 r := ⟨hI, h2, by omega, ⟨Nat.le_refl _, Nat.le_refl _⟩, fun _ => rfl⟩
  have made : ∀ v m h, D 1 0 0 < 60 → v ≤ 9999 → m < 65536 → h ≤ 2 → Inv T (mkD T D p nn v m h) ∧ Iv T (mkD T D p nn v m h) ∧ mkD T D p nn v m h 0 0 0 ≤ D 0 0 0 + 5 ∧ (pot 11 1 T (mkD T D p nn v m h) ≤ pot 11 1 T D ∧ pot 4880 481 T (mkD T D p nn v m h) ≤ pot 4880 481 T D) ∧ ∀ r, mkD T D p nn v m h 12 r = D 12 r := fun v m h hS hv hm hh =>
    ⟨hI.mk hS lp ln hv hm hh, h2.mk hI hS lp ln, by rw [mk_f (by decide) (by decide) (by decide) (by decide) (by decide)]; omega, ⟨Nat.le_of_eq pot_mk, Nat.le_of_eq pot_mk⟩, fun r => funext fun j => mk_f (by decide) (by decide) (by decide) (by decide) (by decide)⟩
  split
  · split
    · exact same
    · exact made _ _ _ (by omega) (by omega) (marksB_lt hB lp (by omega)) (by decide)
  · split
    · split
      · rename_i h
        have hp : 2 ^ belowN (x >>> ((6 : Int32) &&& 31)) 16 < 2 ^ 16 := Nat.pow_lt_pow_right (by decide) lm
        exact made _ _ _ h.2 (valB_le hB lp (by omega)) (Nat.or_lt_two_pow (n := 16) (marksB_lt hB lp (by omega)) hp) (by decide)
      · exact same
    · split
      · split
        · rename_i h
          exact made _ _ _ h.2 (mergeV_le hB lp (by omega)) (marksB_lt hB lp (by omega)) (by decide)
        · exact same
      · split
        · have p1 := pot_send (a := 11) (b := 1) (x := 2) hI lr' (by decide)
          have p2 := pot_send (a := 4880) (b := 481) (x := 544) hI lr' (by decide)
          exact ⟨hI.send lr', h2.congr (send_f (by decide) (by decide)) (Nat.le_of_eq (send_f (by decide) (by decide)).symm) (fun _ _ => send_f (by decide) (by decide)) (fun _ _ => send_f (by decide) (by decide)) (fun _ _ => send_f (by decide) (by decide)) (fun _ _ => send_f (by decide) (by decide)) (fun b s _ _ z => by rw [send_f (by decide) (by decide)] at z; exact Or.inl z), by rw [send_f (by decide) (by decide)]; omega, ⟨by omega, by omega⟩, fun r => funext fun j => send_f (by decide) (by decide)⟩
        · split
          · refine ⟨⟨hB.ud90 (by omega) (by omega), hI.2.1.congr (fun _ _ => ud_f (by decide)) (fun _ _ => ud_f (by decide)), hI.2.2.1.congr (ud_f (by decide)) (fun _ _ => ud_f (by decide)) (fun _ _ => ud_f (by decide)) (fun _ _ => ud_f (by decide)), hI.2.2.2.congr (Nat.le_of_eq (ud_f (by decide)).symm) (fun _ _ => ud_f (by decide))⟩, h2.congr (ud_f (by decide)) (Nat.le_of_eq (ud_f (by decide)).symm) (fun _ _ => ud_f (by decide)) (fun _ _ => ud_f (by decide)) (fun _ _ => ud_f (by decide)) (fun _ _ => ud_f (by decide)) (fun b s _ _ z => by rw [ud_f (by decide)] at z; exact Or.inl z), by rw [ud_f (by decide)]; omega, ⟨Nat.le_of_eq (pot_congr (ud_f (by decide)) (fun _ _ => ud_f (by decide))), Nat.le_of_eq (pot_congr (ud_f (by decide)) (fun _ _ => ud_f (by decide)))⟩, fun r => funext fun j => ud_f (by decide)⟩
          · have q1 := pot_days (C := C) (Ct := Ct) (a := 11) (b := 1) (by decide) hI hW (1 + belowN (x >>> ((4 : Int32) &&& 31)) 5) 0 (by omega)
            have q2 := pot_days (C := C) (Ct := Ct) (a := 4880) (b := 481) (by decide) hI hW (1 + belowN (x >>> ((4 : Int32) &&& 31)) 5) 0 (by omega)
            rw [Nat.zero_add] at q1 q2
            refine ⟨hI.days hW _ (by omega), Iv.days hI h2 hW _ (by omega), by rw [daysD_0]; omega, ⟨q1, q2⟩, fun r => funext fun j => ?_⟩
            have : ∀ k, daysD T C Ct D k 12 r j = D 12 r j := fun k => by
              induction k with
              | zero => rfl
              | succ k ih =>
                rw [daysD]
                unfold dayD
                rw [ud_f (by decide), hoA_f (by decide) (by decide) (by decide) (by decide) (by decide), brA_f (by decide) (by decide), ordF_f (by decide) (by decide) (by decide) (by decide) (by decide) (by decide) (by decide) (by decide)]
                exact ih
            exact this _
end SX2
