/-! what always holds: kept by all that days do -/
def Inv (T : PT) (D : DT) : Prop := DB T D ∧ WI T D ∧ NU T D ∧ SD T D
theorem cP_mono {D : DT} {p m n : Nat} (h : m ≤ n) : cP D p m ≤ cP D p n := by
  obtain ⟨j, rfl⟩ : ∃ j, n = m + j := ⟨n - m, by omega⟩
  clear h
  induction j with
  | zero => exact Nat.le_refl _
  | succ j ih => exact Nat.le_trans ih (by unfold cP; rw [show m + (j + 1) = (m + j) + 1 by omega, sumN]; omega)
theorem cP_s {D : DT} {p n : Nat} : cP D p (n + 1) = cP D p n + bN (D 4 n 0 = p) := rfl
theorem cP_congr {D D' : DT} {p n : Nat} (h : ∀ t, t < n → D' 4 t 0 = D 4 t 0) : cP D' p n = cP D p n := sumN_congr _ (fun t ht => by rw [h t ht])
theorem mk_1 {T : PT} {D : DT} {b n v m h : Nat} : mkD T D b n v m h 1 0 0 = D 1 0 0 + 1 := by
  unfold mkD
  rw [onlyD_f (by decide), addS_f (by decide) (by decide), ud_f (by decide), ud_self]
theorem mk_45 {T : PT} {D : DT} {b n v m h f s j : Nat} (hf : f = 4 ∨ f = 5) (hs : s ≠ D 1 0 0) : mkD T D b n v m h f s j = D f s j := by
  unfold mkD
  rw [onlyD_f (by omega), addS_i hs, ud_f (by omega), ud_f (by omega)]
theorem mk_4S {T : PT} {D : DT} {b n v m h j : Nat} : mkD T D b n v m h 4 (D 1 0 0) j = newS b n v m (D 0 0 0) h j := by
  unfold mkD
  rw [onlyD_f (by decide), addS_4]
theorem mk_5S {T : PT} {D : DT} {b n v m h j : Nat} : mkD T D b n v m h 5 (D 1 0 0) j = if j = b then D 6 b b + 1 else D 6 b j := by
  unfold mkD
  rw [onlyD_f (by decide), addS_5]
theorem mk_6 {T : PT} {D : DT} {b n v m h c p : Nat} : mkD T D b n v m h 6 c p = if c = b ∧ p = b then D 6 b b + 1 else D 6 c p := by
  unfold mkD
  rw [onlyD_f (by decide), addS_f (by decide) (by decide)]
  simp [ud]
theorem NU.mk {T : PT} {D : DT} {b n v m h : Nat} (hN : NU T D) (hb : b < T 0 0) (hP : T 0 0 ≤ 5) : NU T (mkD T D b n v m h) := by
  obtain ⟨n1, n2, n3, n4⟩ := hN
  have ec : ∀ p k, k ≤ D 1 0 0 → cP (mkD T D b n v m h) p k = cP D p k := fun p k hk => cP_congr (fun t ht => mk_45 (Or.inl rfl) (by omega))
  have eS : ∀ p, cP (mkD T D b n v m h) p (D 1 0 0 + 1) = cP D p (D 1 0 0) + bN (b = p) := fun p => by
    rw [cP_s, ec p _ (Nat.le_refl _), mk_4S]; rfl
  refine ⟨fun s p hs hp => ?_, fun s hs => ?_, fun c p hc hp => ?_, fun c hc => ?_⟩
  · rw [mk_1] at hs
    by_cases hsS : s = D 1 0 0
    · subst hsS
      rw [mk_5S, eS]
      by_cases hpb : p = b
      · subst hpb
        rw [if_pos rfl, bN_t rfl, n4 p hb]; exact Nat.le_refl _
      · rw [if_neg hpb]
        exact Nat.le_trans (n3 b p hb hp) (Nat.le_add_right _ _)
    · rw [mk_45 (Or.inr rfl) hsS, ec p _ (by omega)]
      exact n1 s p (by omega) hp
  · rw [mk_1] at hs
    by_cases hsS : s = D 1 0 0
    · subst hsS
      rw [mk_4S, mk_5S, show newS b n v m (D 0 0 0) h 0 = b from rfl, if_pos rfl, eS, bN_t rfl, n4 b hb]
    · rw [mk_45 (Or.inr rfl) hsS, mk_45 (Or.inl rfl) hsS, ec _ _ (by omega)]
      exact n2 s (by omega)
  · rw [mk_6, mk_1, eS]
    by_cases hq : c = b ∧ p = b
    · rw [if_pos hq, bN_t hq.2.symm, hq.2, n4 b hb]; exact Nat.le_refl _
    · rw [if_neg hq]
      exact Nat.le_trans (n3 c p hc hp) (Nat.le_add_right _ _)
  · rw [mk_6, mk_1, eS]
    by_cases hq : c = b
    · subst hq
      rw [if_pos ⟨rfl, rfl⟩, bN_t rfl, n4 c hc]
    · rw [if_neg (fun z => hq z.1), bN_f (fun z => hq z.symm), n4 c hc]; rfl
theorem NU.congr {T : PT} {D D' : DT} (h : NU T D) (e1 : D' 1 0 0 = D 1 0 0) (e4 : ∀ i j, D' 4 i j = D 4 i j) (e5 : ∀ i j, D' 5 i j = D 5 i j) (e6 : ∀ i j, D' 6 i j = D 6 i j) : NU T D' := by
  have ec : ∀ p k, cP D' p k = cP D p k := fun p k => cP_congr (fun t _ => e4 t 0)
  unfold NU
  simp only [e1, e4, e5, e6, ec]
  exact h
theorem SD.congr {T : PT} {D D' : DT} (h : SD T D) (e1 : D 1 0 0 ≤ D' 1 0 0) (e10 : ∀ i j, D' 10 i j = D 10 i j) : SD T D' := fun r s hr hs hne => by
  rw [e10] at hne
  exact Nat.lt_of_lt_of_le (h r s hr hs hne) e1
theorem Inv.mk {T : PT} {D : DT} {b n v m h : Nat} (hI : Inv T D) (h60 : D 1 0 0 < 60) (hb : b < T 0 0) (hn : n < T 1 0) (hv : v ≤ 9999) (hm : m < 65536) (hh : h ≤ 2) : Inv T (mkD T D b n v m h) :=
  ⟨hI.1.mk h60 hb hn hv hm hh, hI.2.1.congr (fun _ _ => mk_f (by decide) (by decide) (by decide) (by decide) (by decide)) (fun _ _ => mk_f (by decide) (by decide) (by decide) (by decide) (by decide)), hI.2.2.1.mk hb hI.1.1.1,
    hI.2.2.2.congr (by rw [mk_1]; omega) (fun _ _ => mk_f (by decide) (by decide) (by decide) (by decide) (by decide))⟩
theorem carF_in {D : DT} {r s : Nat} : ∀ k, s < k → crC D r s → carF D r k 10 r s = D 0 0 0 + D 9 r 0 + 1
  | 0, h, _ => absurd h (Nat.not_lt_zero _)
  | k + 1, h, hc => by
    rw [carF]
    rcases Nat.lt_succ_iff_lt_or_eq.mp h with z | rfl
    · split
      · rw [ud_ne (fun y => by have := y.2.2; omega)]; exact carF_in k z hc
      · exact carF_in k z hc
    · rw [if_pos hc, ud_self]
theorem carF_out {D : DT} {r s : Nat} : ∀ k, ¬ (s < k ∧ crC D r s) → carF D r k 10 r s = D 10 r s
  | 0, _ => rfl
  | k + 1, h => by
    rw [carF]
    split
    · rename_i hc
      rw [ud_ne (fun y => h ⟨by have := y.2.2; omega, by rw [y.2.2]; exact hc⟩)]
      exact carF_out k (fun z => h ⟨by omega, z.2⟩)
    · exact carF_out k (fun z => h ⟨by omega, z.2⟩)
theorem carF_none {D : DT} {r : Nat} : ∀ k, carN D r k = 0 → carF D r k = D
  | 0, _ => rfl
  | k + 1, h => by
    unfold carN at h
    rw [sumN] at h
    have hk : ¬ crC D r k := fun z => by rw [bN_t z] at h; omega
    rw [carF, if_neg hk]
    exact carF_none k (by unfold carN; omega)
theorem DB.car {T : PT} {D : DT} {r : Nat} (hB : DB T D) (hr : r < T 2 0) : ∀ k, DB T (carF D r k)
  | 0 => hB
  | k + 1 => by
    have h9 := (hB.2.2.2 r hr).2.2.2.1
    have h0 := hB.1.2.2.2.2.2
    rw [carF]
    split
    · exact (DB.car hB hr k).ud10 (by omega)
    · exact DB.car hB hr k
theorem DB.send {T : PT} {D : DT} {r : Nat} (hB : DB T D) (hr : r < T 2 0) : DB T (sendD D r) := by
  unfold sendD
  split
  · exact (hB.car hr _).ud91
  · exact hB.car hr _
theorem Inv.send {T : PT} {D : DT} {r : Nat} (hI : Inv T D) (hr : r < T 2 0) : Inv T (sendD D r) := by
  refine ⟨hI.1.send hr, hI.2.1.congr (fun _ _ => send_f (by decide) (by decide)) (fun _ _ => send_f (by decide) (by decide)), hI.2.2.1.congr (send_f (by decide) (by decide)) (fun _ _ => send_f (by decide) (by decide)) (fun _ _ => send_f (by decide) (by decide)) (fun _ _ => send_f (by decide) (by decide)), ?_⟩
  intro r' s hr' hs hne
  rw [send_f (by decide) (by decide)]
  have e : sendD D r 10 r' s = carF D r (D 1 0 0) 10 r' s := by
    unfold sendD
    split
    · rw [ud_f (by decide)]
    · rfl
  rw [e] at hne
  by_cases hrr : r' = r
  · subst hrr
    by_cases hc : s < D 1 0 0 ∧ crC D r' s
    · exact hc.1
    · rw [carF_out _ hc] at hne
      exact hI.2.2.2 r' s hr' hs hne
  · rw [carF_f _ (Or.inr (Or.inl hrr))] at hne
    exact hI.2.2.2 r' s hr' hs hne
theorem Inv.ord {T : PT} {C Ct : Nat → List Op} {D : DT} {k : Nat} (hI : Inv T D) (hW : OW T C Ct) (hk : k < T 6 0) : Inv T (ordD T C Ct D k).1 := by
  obtain ⟨w1, w2, w3, w4, w5, w6, w7, w8⟩ := hW k hk
  have h60 := hI.1.1.2.2.2.2.1
  have hN6 := hI.1.1.2.1
  unfold ordD
  split
  · exact hI
  · by_cases h9 : T 7 k = 9
    · rw [if_pos h9]; exact hI.send (w2 h9)
    · rw [if_neg h9]
      obtain ⟨b1, b2⟩ := w3 h9
      have hm := marksB_lt hI.1 b1 (n := T 9 k) (by omega)
      by_cases hS : D 1 0 0 = 60
      · rw [if_pos hS]; exact hI
      · rw [if_neg hS]
        by_cases h8 : T 7 k = 8
        · rw [if_pos h8]
          split
          · exact hI.mk (by omega) b1 b2 (mergeV_le hI.1 b1 (by omega)) hm (by decide)
          · exact hI
        · rw [if_neg h8]
          by_cases h7 : T 7 k = 7
          · rw [if_pos h7]
            split
            · rename_i hn
              refine hI.mk (by omega) b1 b2 (valB_le hI.1 b1 (by omega)) (Nat.or_lt_two_pow (n := 16) hm ?_) (by decide)
              have hx0 : ¬ evV T D (C k) < 0 := by rw [Int32.lt_iff_toInt_lt]; have := hn.1.1; exact Int.not_lt.mpr this
              obtain ⟨v, hv, ev⟩ := nI_of hx0
              have hv16 : v < 16 := by have := hn.1.2; rw [ev, nI_toInt hv] at this; omega
              rw [ev, nI_clamp hv]
              exact Nat.pow_lt_pow_right (by decide) hv16
            · exact hI
          · rw [if_neg h7]
            exact hI.mk (by omega) b1 b2 (clamp_ok _).2 hm (by decide)
theorem Inv.ud3 {T : PT} {D : DT} {v : Nat} (hI : Inv T D) : Inv T (ud D 3 0 0 v) :=
  ⟨hI.1.ud3, hI.2.1.congr (fun _ _ => ud_f (by decide)) (fun _ _ => ud_f (by decide)), hI.2.2.1.congr (ud_f (by decide)) (fun _ _ => ud_f (by decide)) (fun _ _ => ud_f (by decide)) (fun _ _ => ud_f (by decide)), hI.2.2.2.congr (by rw [ud_f (by decide)]; exact Nat.le_refl _) (fun _ _ => ud_f (by decide))⟩
theorem Inv.ud0 {T : PT} {D : DT} {v : Nat} (hI : Inv T D) (hv : v < 2 ^ 20) : Inv T (ud D 0 0 0 v) :=
  ⟨hI.1.ud0 hv, hI.2.1.congr (fun _ _ => ud_f (by decide)) (fun _ _ => ud_f (by decide)), hI.2.2.1.congr (ud_f (by decide)) (fun _ _ => ud_f (by decide)) (fun _ _ => ud_f (by decide)) (fun _ _ => ud_f (by decide)), hI.2.2.2.congr (by rw [ud_f (by decide)]; exact Nat.le_refl _) (fun _ _ => ud_f (by decide))⟩
theorem Inv.orA {T : PT} {C Ct : Nat → List Op} {D : DT} (hI : Inv T D) (hW : OW T C Ct) : ∀ k, k ≤ T 6 0 → Inv T (ordF T C Ct D k)
  | 0, _ => hI
  | k + 1, hk => ((Inv.orA hI hW k (by omega)).ord hW (by omega)).ud3
theorem Inv.br1 {T : PT} {D : DT} {r : Nat} (hI : Inv T D) (hr : r < T 2 0) : ∀ k, k ≤ 60 → Inv T (brF D r k)
  | 0, _ => hI
  | k + 1, hk => by
    have ih := Inv.br1 hI hr k (by omega)
    obtain ⟨r1, r2, r3, r4, r5⟩ := hI.1.2.2.2 r hr
    rw [brF]
    split
    · rename_i hc
      obtain ⟨b1, b2, b3, b4, b5⟩ := ih.1.2.2.1 _ r2
      have hlt := sumN_le1 (ih.2.1 _ r2).symm b3 k (by omega) hc.2.2
      refine ⟨(ih.1.ud8 (by decide)).ud11 (by omega), ih.2.1.br (by omega) hc.2.2, ih.2.2.1.congr ?_ (fun _ _ => ?_) (fun _ _ => ?_) (fun _ _ => ?_), ih.2.2.2.congr (Nat.le_of_eq ?_) (fun _ _ => ?_)⟩
      all_goals first | rw [ud_f (by decide), ud_f (by decide)]
    · exact ih
theorem Inv.br2 {T : PT} {D : DT} (hI : Inv T D) : ∀ k, k ≤ T 2 0 → Inv T (brA D k)
  | 0, _ => hI
  | k + 1, hk => by
    have ih := Inv.br2 hI k (by omega)
    exact ih.br1 (by omega) _ ih.1.1.2.2.2.2.1
theorem hang_6 {T : PT} {D : DT} {b s c p : Nat} : hangD T D b s 6 c p = if c = b ∧ p = D 4 s 0 then D 6 b (D 4 s 0) + 1 else D 6 c p := by
  unfold hangD
  simp only [ud_f (show 6 ≠ 2 by decide), ud_f (show 6 ≠ 7 by decide), clrD_f _ _ _ _ (Or.inl (show 6 ≠ 7 by decide))]
  simp [ud]
theorem NU.hang {T : PT} {D : DT} {b s : Nat} (hN : NU T D) (hb : b < T 0 0) (hs : s < D 1 0 0) (ha : D 4 s 0 < 5) (hch : cH D b s) : NU T (hangD T D b s) := by
  obtain ⟨n1, n2, n3, n4⟩ := hN
  have h := hch (D 4 s 0) ha
  rw [if_pos rfl] at h
  have h1 := n1 s (D 4 s 0) hs ha
  have h2 : cP D (D 4 s 0) (s + 1) ≤ cP D (D 4 s 0) (D 1 0 0) := cP_mono hs
  have e1 : hangD T D b s 1 0 0 = D 1 0 0 := hang_f (by decide) (by decide) (by decide) (by decide) (by decide)
  have e4 : ∀ i j, hangD T D b s 4 i j = D 4 i j := fun _ _ => hang_f (by decide) (by decide) (by decide) (by decide) (by decide)
  have e5 : ∀ i j, hangD T D b s 5 i j = D 5 i j := fun _ _ => hang_f (by decide) (by decide) (by decide) (by decide) (by decide)
  have ec : ∀ p k, cP (hangD T D b s) p k = cP D p k := fun p k => cP_congr (fun t _ => e4 t 0)
  refine ⟨fun t p ht hp => ?_, fun t ht => ?_, fun c p hc hp => ?_, fun c hc => ?_⟩
  · rw [e5, ec]; rw [e1] at ht; exact n1 t p ht hp
  · rw [e4, e5, ec]; rw [e1] at ht; exact n2 t ht
  · rw [hang_6, ec, e1]
    split
    · rename_i z
      rw [z.2]; omega
    · exact n3 c p hc hp
  · rw [hang_6, ec, e1]
    split
    · rename_i z
      have hab : D 4 s 0 = b := by rw [← z.2, z.1]
      have n := n4 b hb
      rw [hab] at h h1 h2
      omega
    · exact n4 c hc
theorem Inv.hang {T : PT} {D : DT} {b s : Nat} (hI : Inv T D) (hb : b < T 0 0) (hs : s < D 1 0 0) (hw : D 8 b s ≠ 0) (hch : cH D b s) : Inv T (hangD T D b s) := by
  obtain ⟨a1, a2, a3, a4, a5, a6, a7⟩ := hI.1.2.1 s hs
  have hP := hI.1.1.1
  have h60 := hI.1.1.2.2.2.2.1
  have h := hch (D 4 s 0) (by omega)
  rw [if_pos rfl] at h
  have h5 := a7 (D 4 s 0) (by omega)
  have h8 := (hI.1.2.2.1 b hb).2.2.1 s (by omega)
  refine ⟨hI.1.hang hb hs (by omega), hI.2.1.hang (by omega) (by omega), hI.2.2.1.hang hb hs (by omega) hch, hI.2.2.2.congr (Nat.le_of_eq ?_) (fun _ _ => ?_)⟩
  · rw [hang_f (by decide) (by decide) (by decide) (by decide) (by decide)]
  · rw [hang_f (by decide) (by decide) (by decide) (by decide) (by decide)]
theorem Inv.ho1 {T : PT} {D : DT} {b : Nat} (hI : Inv T D) (hb : b < T 0 0) : ∀ k, k ≤ D 1 0 0 → Inv T (hoF T D b k)
  | 0, _ => hI
  | k + 1, hk => by
    have ih := Inv.ho1 hI hb k (by omega)
    rw [hoF]
    split
    · rename_i z
      refine ih.hang hb ?_ z.1 z.2
      rw [hoF_f (by decide) (by decide) (by decide) (by decide) (by decide)]; exact hk
    · exact ih
theorem Inv.ho2 {T : PT} {D : DT} (hI : Inv T D) : ∀ k, k ≤ T 0 0 → Inv T (hoA T D k)
  | 0, _ => hI
  | k + 1, hk => by
    have ih := Inv.ho2 hI k (by omega)
    exact ih.ho1 (by omega) _ (Nat.le_refl _)
theorem Inv.day {T : PT} {C Ct : Nat → List Op} {D : DT} (hI : Inv T D) (hW : OW T C Ct) (hd : D 0 0 0 + 1 < 2 ^ 20) : Inv T (dayD T C Ct D) :=
  (((hI.orA hW _ (Nat.le_refl _)).br2 _ (Nat.le_refl _)).ho2 _ (Nat.le_refl _)).ud0 hd
theorem Inv.days {T : PT} {C Ct : Nat → List Op} {D : DT} (hI : Inv T D) (hW : OW T C Ct) : ∀ n, D 0 0 0 + n < 2 ^ 20 → Inv T (daysD T C Ct D n)
  | 0, _ => hI
  | n + 1, h => by
    have ih := Inv.days hI hW n (by omega)
    exact ih.day hW (by rw [daysD_0]; omega)
/-- hanging the first sets none ahead of it free -/
theorem no_back {T : PT} {D : DT} {b s : Nat} (hI : Inv T D) (hs : s < D 1 0 0) (hch : hng D b s) (hn : ∀ t, t < s → ¬ hng D b t) : ∀ t, t < s + 1 → ¬ hng (hangD T D b s) b t := by
  intro t ht hh
  have e4 : ∀ i j, hangD T D b s 4 i j = D 4 i j := fun _ _ => hang_f (by decide) (by decide) (by decide) (by decide) (by decide)
  have e5 : ∀ i j, hangD T D b s 5 i j = D 5 i j := fun _ _ => hang_f (by decide) (by decide) (by decide) (by decide) (by decide)
  have hP := hI.1.1.1
  have h8 := hh.1
  rw [hang_8] at h8
  by_cases hts : t = s
  · rw [if_pos ⟨rfl, hts⟩] at h8; exact h8 rfl
  · rw [if_neg (fun z => hts z.2)] at h8
    have htS : t < D 1 0 0 := by omega
    have as := (hI.1.2.1 s hs).1
    have at' := (hI.1.2.1 t htS).1
    have hsa := hch.2 (D 4 s 0) (by omega)
    rw [if_pos rfl] at hsa
    obtain ⟨n1, n2, n3, n4⟩ := hI.2.2.1
    have es := n2 s hs
    rw [cP_s, bN_t rfl] at es
    have hmono : cP D (D 4 s 0) (t + 1) ≤ cP D (D 4 s 0) s := cP_mono (by omega)
    have h1 := n1 t (D 4 s 0) htS (by omega)
    refine hn t (by omega) ⟨h8, fun p hp => ?_⟩
    have hc := hh.2 p hp
    rw [e4, e5] at hc
    by_cases hpa : p = D 4 s 0
    · subst hpa
      rw [show hangD T D b s 6 b (D 4 s 0) = D 6 b (D 4 s 0) + 1 by rw [hang_6, if_pos ⟨rfl, rfl⟩]] at hc
      by_cases hpt : D 4 s 0 = D 4 t 0
      · rw [if_pos hpt] at hc ⊢
        omega
      · rw [if_neg hpt] at hc ⊢
        omega
    · rw [show hangD T D b s 6 b p = D 6 b p by rw [hang_6, if_neg (fun z => hpa z.2)]] at hc
      exact hc
