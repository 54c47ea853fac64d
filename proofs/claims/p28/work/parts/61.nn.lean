/-! the component's names, token by token -/
section NNC
variable {μ μ' : Mu} {t : Nat → Nat} {L q J : Nat}
theorem ern_new {j r : Nat} (h : rl (tK t L) j = r) (hr : r = 1 ∨ r = 2 ∨ r = 3) : ern t L j = if plc t L r j j ≠ 0 then 2 else if cn (tK t L) r j = capN r then 4 else 0 := by
  unfold ern capN; dsimp only; rw [h, if_pos hr]
theorem ern_p {j r : Nat} (h : rl (tK t L) j = r) (hr : r = 4 ∨ r = 8 ∨ r = 12) : ern t L j = if plc t L 1 j j = 0 then 3 else 0 := by
  unfold ern; dsimp only; rw [h, if_neg (by omega), if_pos hr]
theorem ern_5 {j : Nat} (h : rl (tK t L) j = 5) : ern t L j = if plc t L 1 j j = 0 then 3 else if plc t L 1 j j = plc t L 1 (j - 2) (j - 2) then 5 else 0 := by
  unfold ern; dsimp only; rw [h, if_neg (by decide), if_neg (by decide), if_pos rfl]
theorem ern_6 {j : Nat} (h : rl (tK t L) j = 6) : ern t L j = if 1 ≤ nvT t L j ∧ nvT t L j ≤ 9 then 0 else 5 := by
  unfold ern; dsimp only; rw [h, if_neg (by decide), if_neg (by decide), if_neg (by decide), if_pos rfl]
theorem ern_7 {j : Nat} (h : rl (tK t L) j = 7) : ern t L j = if cn (tK t L) 7 j = 20 then 4 else 0 := by
  unfold ern; dsimp only; rw [h, if_neg (by decide), if_neg (by decide), if_neg (by decide), if_neg (by decide), if_pos rfl]
theorem ern_n {j r : Nat} (h : rl (tK t L) j = r) (hr : r = 9 ∨ r = 13) : ern t L j = if plc t L 2 j j = 0 then 3 else 0 := by
  unfold ern; dsimp only; rw [h, if_neg (by omega), if_neg (by omega), if_neg (by omega), if_neg (by omega), if_neg (by omega), if_pos hr]
theorem ern_10 {j : Nat} (h : rl (tK t L) j = 10) : ern t L j = if plc t L 3 j j = 0 then 3 else 0 := by
  unfold ern; dsimp only; rw [h, if_neg (by decide), if_neg (by decide), if_neg (by decide), if_neg (by decide), if_neg (by decide), if_neg (by decide), if_pos rfl]
theorem cn_s {K : Nat → Nat} {r j : Nat} : cn K r (j + 1) = cn K r j + (if rl K j = r then 1 else 0) := rfl
theorem mng_ne {i : Nat} (h : i ≠ J) : mng t L (J + 1) i = mng t L J i := by
  unfold mng
  by_cases z : i < J
  · by_cases y : lr (rl (tK t L) i) ≠ 0
    · rw [if_pos ⟨by omega, y⟩, if_pos ⟨z, y⟩]
    · rw [if_neg (fun w => y w.2), if_neg (fun w => y w.2)]
  · rw [if_neg (fun w => by omega), if_neg (fun w => z w.1)]
theorem mng_at : mng t L (J + 1) J = if lr (rl (tK t L) J) ≠ 0 then plc t L (lr (rl (tK t L) J)) J J - 1 else 0 := by
  unfold mng
  by_cases y : lr (rl (tK t L) J) ≠ 0
  · rw [if_pos ⟨by omega, y⟩, if_pos y]
  · rw [if_neg (fun w => y w.2), if_neg y]
theorem mng_0 : mng t L J J = 0 := by unfold mng; rw [if_neg (fun w => Nat.lt_irrefl _ w.1)]
theorem NS.next (hN : NS μ t L q J) (hJ : J < nT t L) (he : ern t L J = 0) (hT' : TKN μ' t L) (hp : px μ' (hd 16 0) 4 = q)
    (h17 : ∀ r, 1 ≤ r → r ≤ 3 → (∀ c, c < cn (tK t L) r J → mL μ' (hd 17 (r - 1)) c = mL μ (hd 17 (r - 1)) c) ∧ (rl (tK t L) J = r → mL μ' (hd 17 (r - 1)) (cn (tK t L) r J) = wT t L J) ∧ mI μ' (hd 18 q) (2 + r) = nI (cn (tK t L) r (J + 1)) ∧ cn (tK t L) r (J + 1) ≤ capN r)
    (h5 : mI μ' (hd 16 0) 5 = nI (cn (tK t L) 7 (J + 1)) ∧ cn (tK t L) 7 (J + 1) ≤ 20) (h6 : mI μ' (hd 16 0) 6 = 0)
    (h14 : ∀ i, i ≠ J → mI μ' (hd 14 0) i = mI μ (hd 14 0) i) (h14' : mI μ' (hd 14 0) J = nI (mng t L (J + 1) J))
    (hrd : ∀ i, i < J → rl (tK t L) i = 6 → RdL μ t L q i → RdL μ' t L q i) (hrd' : rl (tK t L) J = 6 → 1 ≤ cn (tK t L) 3 J ∧ RdL μ' t L q J) (h18 : mI μ' (hd 18 q) 6 = mI μ (hd 18 q) 6) : NS μ' t L q (J + 1) := by
  obtain ⟨a1, a2, a3, a4, a5, a6, a7, a8, a9, a10⟩ := hN
  refine ⟨hT', hp, fun r h1 h3 => ⟨fun i hi hr => ?_, (h17 r h1 h3).2.2.1, (h17 r h1 h3).2.2.2⟩, h5, h6, fun i hi => ?_, fun i hi hr => ?_, hJ, fun i hi => ?_, h18.trans a10⟩
  · rcases Nat.lt_or_ge i J with z | z
    · rw [(h17 r h1 h3).1 _ (cn_lt z hr)]; exact (a3 r h1 h3).1 i z hr
    · rw [show i = J by omega] at hr ⊢; exact (h17 r h1 h3).2.1 hr
  · by_cases z : i = J
    · rw [z]; exact h14'
    · rw [h14 i z, mng_ne z]; exact a6 i hi
  · rcases Nat.lt_or_ge i J with z | z
    · obtain ⟨b1, b2⟩ := a7 i z hr
      exact ⟨b1, hrd i z hr b2⟩
    · rw [show i = J by omega] at hr ⊢; exact hrd' hr
  · rcases Nat.lt_or_ge i J with z | z
    · exact a9 i z
    · rw [show i = J by omega]; exact he
theorem cn_no {K : Nat → Nat} {r j : Nat} (h : rl K j ≠ r) : cn K r (j + 1) = cn K r j := by rw [cn_s, if_neg h]; rfl
theorem cn_yes {K : Nat → Nat} {r j : Nat} (h : rl K j = r) : cn K r (j + 1) = cn K r j + 1 := by rw [cn_s, if_pos h]
theorem NS.skip (hN : NS μ t L q J) (hJ : J < nT t L) (hr : rl (tK t L) J = 0 ∨ rl (tK t L) J = 11) : NS μ t L q (J + 1) := by
  have he : ern t L J = 0 := by
    unfold ern
    rcases hr with h | h <;> dsimp only <;> rw [h] <;> rfl
  have hl : lr (rl (tK t L) J) = 0 := by rcases hr with h | h <;> rw [h] <;> rfl
  refine hN.next hJ he hN.1 hN.2.1 (fun r h1 h3 => ⟨fun _ _ => rfl, fun z => by omega, ?_, ?_⟩) ?_ hN.2.2.2.2.1 (fun _ _ => rfl) ?_ (fun _ _ _ z => z) (fun z => by omega) rfl
  · rw [cn_no (by omega)]; exact (hN.2.2.1 r h1 h3).2.1
  · rw [cn_no (by omega)]; exact (hN.2.2.1 r h1 h3).2.2
  · rw [cn_no (by omega)]; exact hN.2.2.2.1
  · rw [hN.2.2.2.2.2.1 J (by omega), mng_0, mng_at, hl]; rfl
theorem NS.ord (hN : NS μ t L q J) (hJ : J < nT t L) (hr : rl (tK t L) J = 7) (he : ern t L J = 0) : NS (setI μ (hd 16 0) 5 (nI (cn (tK t L) 7 J + 1))) t L q (J + 1) := by
  have f : Fr (OwNm q) μ (setI μ (hd 16 0) 5 (nI (cn (tK t L) 7 J + 1))) := Fr.rf.setI (by decide) (Or.inr (Or.inl rfl))
  have hl : lr (rl (tK t L) J) = 0 := by rw [hr]; rfl
  have h20 : cn (tK t L) 7 J ≠ 20 := by
    intro z
    rw [ern_7 hr, if_pos z] at he
    cases he
  have h20' := hN.2.2.2.1.2
  refine hN.next hJ he (hN.1.fr f OwNm.t) hN.2.1 (fun r h1 h3 => ⟨fun _ _ => rfl, fun z => by omega, ?_, ?_⟩) ⟨?_, ?_⟩ ?_ (fun i _ => ?_) ?_ (fun i _ _ z => ?_) (fun z => by omega) (rd_ne (by decide) (by decide) (by decide))
  · rw [cn_no (by omega), rd_ne (by decide) (by decide) (by decide)]; exact (hN.2.2.1 r h1 h3).2.1
  · rw [cn_no (by omega)]; exact (hN.2.2.1 r h1 h3).2.2
  · rw [rd_eq, cn_yes hr]
  · rw [cn_yes hr]; omega
  · rw [rd_k (by decide)]; exact hN.2.2.2.2.1
  · rw [rd_ne (by decide) (by decide) (by decide)]
  · rw [rd_ne (by decide) (by decide) (by decide), hN.2.2.2.2.2.1 J (by omega), mng_0, mng_at, hl]; rfl
  · unfold RdL at z ⊢
    rw [rd_ne (by decide) (by decide) (by decide), rd_ne (by decide) (by decide) (by decide), rd_ne (by decide) (by decide) (by decide), rd_ne (by decide) (by decide) (by decide)]
    exact ⟨z.1, z.2.1, z.2.2.1, z.2.2.2.1, fun k hk => by rw [rd_ne (by decide) (by decide) (by decide)]; exact z.2.2.2.2 k hk⟩
theorem lr_ne {r : Nat} (h : lr r ≠ 0) : r ≠ 1 ∧ r ≠ 2 ∧ r ≠ 3 ∧ r ≠ 6 ∧ r ≠ 7 ∧ 1 ≤ lr r ∧ lr r ≤ 3 ∧ r ≠ 0 ∧ r ≠ 11 := by
  unfold lr at *
  split at h
  · rename_i z; rw [if_pos z]; omega
  · rename_i z
    rw [if_neg z]
    split at h
    · rename_i y; rw [if_pos y]; omega
    · rename_i y
      rw [if_neg y]
      split at h
      · rename_i x; rw [if_pos x]; omega
      · exact absurd rfl h
theorem NS.look (hN : NS μ t L q J) (hJ : J < nT t L) (hr : lr (rl (tK t L) J) ≠ 0) (he : ern t L J = 0) : NS (setI μ (hd 14 0) J (nI (plc t L (lr (rl (tK t L) J)) J J - 1))) t L q (J + 1) := by
  have f : Fr (OwNm q) μ (setI μ (hd 14 0) J (nI (plc t L (lr (rl (tK t L) J)) J J - 1))) := Fr.rf.setI (by decide) (Or.inl rfl)
  obtain ⟨n1, n2, n3, n6, n7, -, -, -, -⟩ := lr_ne hr
  refine hN.next hJ he (hN.1.fr f OwNm.t) hN.2.1 (fun r h1 h3 => ⟨fun _ _ => rfl, fun z => by omega, ?_, ?_⟩) ⟨?_, ?_⟩ ?_ (fun i hi => ?_) ?_ (fun i _ _ z => ?_) (fun z => by omega) (rd_ne (by decide) (by decide) (by decide))
  · rw [cn_no (by omega), rd_ne (by decide) (by decide) (by decide)]; exact (hN.2.2.1 r h1 h3).2.1
  · rw [cn_no (by omega)]; exact (hN.2.2.1 r h1 h3).2.2
  · rw [rd_ne (by decide) (by decide) (by decide), cn_no n7]; exact hN.2.2.2.1.1
  · rw [cn_no n7]; exact hN.2.2.2.1.2
  · rw [rd_ne (by decide) (by decide) (by decide)]; exact hN.2.2.2.2.1
  · rw [rd_k hi]
  · rw [rd_eq, mng_at, if_pos hr]
  · unfold RdL at z ⊢
    rw [rd_ne (by decide) (by decide) (by decide), rd_ne (by decide) (by decide) (by decide), rd_ne (by decide) (by decide) (by decide), rd_ne (by decide) (by decide) (by decide)]
    exact ⟨z.1, z.2.1, z.2.2.1, z.2.2.2.1, fun k hk => by rw [rd_ne (by decide) (by decide) (by decide)]; exact z.2.2.2.2 k hk⟩
theorem NS.new {r : Nat} (hN : NS μ t L q J) (hJ : J < nT t L) (h1 : 1 ≤ r) (h3 : r ≤ 3) (hr : rl (tK t L) J = r) (he : ern t L J = 0) : NS (setI (setL μ (hd 17 (r - 1)) (cn (tK t L) r J) (wT t L J)) (hd 18 q) (2 + r) (nI (cn (tK t L) r J + 1))) t L q (J + 1) := by
  have f : Fr (OwNm q) μ (setI (setL μ (hd 17 (r - 1)) (cn (tK t L) r J) (wT t L J)) (hd 18 q) (2 + r) (nI (cn (tK t L) r J + 1))) := (Fr.rf.setL (by decide) (Or.inr (Or.inr (Or.inl rfl)))).setI (by decide) (Or.inr (Or.inr (Or.inr (Or.inl ⟨rfl, rfl⟩))))
  have hl : lr (rl (tK t L) J) = 0 := by rw [hr]; rcases (by omega : r = 1 ∨ r = 2 ∨ r = 3) with rfl | rfl | rfl <;> rfl
  have hcap : cn (tK t L) r J ≠ capN r := by
    intro z
    rw [ern_new hr (by omega)] at he
    split at he
    · cases he
    · cases he
  have hcap' := (hN.2.2.1 r h1 h3).2.2
  refine hN.next hJ he (hN.1.fr f OwNm.t) hN.2.1 (fun r' h1' h3' => ⟨fun c hc => ?_, fun z => ?_, ?_, ?_⟩) ⟨?_, ?_⟩ ?_ (fun i hi => ?_) ?_ (fun i _ _ z => ?_) (fun z => by omega) (rd_k (by omega))
  · rw [mL_setI, mL_set]
    by_cases e : r' = r
    · rw [e] at hc ⊢; rw [if_neg (fun z => by omega)]
    · rw [if_neg (fun z => by have := z.1; unfold hd at this; omega)]
  · rw [mL_setI, mL_set, show r' = r by omega, if_pos ⟨rfl, rfl⟩]
  · by_cases e : r' = r
    · rw [e, rd_eq, cn_yes hr]
    · rw [rd_k (by omega), mI_setL, cn_no (by omega)]; exact (hN.2.2.1 r' h1' h3').2.1
  · by_cases e : r' = r
    · rw [e, cn_yes hr]; omega
    · rw [cn_no (by omega)]; exact (hN.2.2.1 r' h1' h3').2.2
  · rw [rd_ne (by decide) (by decide) (by decide), mI_setL, cn_no (by omega)]; exact hN.2.2.2.1.1
  · rw [cn_no (by omega)]; exact hN.2.2.2.1.2
  · rw [rd_ne (by decide) (by decide) (by decide), mI_setL]; exact hN.2.2.2.2.1
  · rw [rd_ne (by decide) (by decide) (by decide), mI_setL]
  · rw [rd_ne (by decide) (by decide) (by decide), mI_setL, hN.2.2.2.2.2.1 J (by omega), mng_0, mng_at, hl]; rfl
  · unfold RdL at z ⊢
    rw [rd_ne (by decide) (by decide) (by decide), rd_ne (by decide) (by decide) (by decide), rd_ne (by decide) (by decide) (by decide), rd_ne (by decide) (by decide) (by decide)]
    exact ⟨z.1, z.2.1, z.2.2.1, z.2.2.2.1, fun k hk => by rw [rd_ne (by decide) (by decide) (by decide)]; exact z.2.2.2.2 k hk⟩
/-- something is wrong with the token J -/
theorem NS.err {x : Nat} (hN : NS μ t L q J) (hJ : J < nT t L) (he : ern t L J = x) (hx : x ≠ 0) : ES (setI (setI μ (hd 16 0) 6 (nI x)) (hd 16 0) 7 (nI J)) t L J :=
  ⟨by rw [rd_k (by decide), rd_eq, he], rd_eq, hJ, by rw [he]; exact hx, hN.2.2.2.2.2.2.2.2.1⟩
theorem ES.ne {e : Nat} (h : ES μ t L e) : mI μ (hd 16 0) 6 ≠ 0 := by
  rw [h.1]
  have hb : ern t L e < 100 := by
    unfold ern
    dsimp only
    repeat' split
    all_goals decide
  intro z
  have := (nI_eq (a := ern t L e) (b := 0) (by omega) (by decide)).mp z
  exact h.2.2.2.1 this
theorem ES.fr {e : Nat} {own : Nat → Nat → Prop} (h : ES μ t L e) (f : Fr own μ μ') (ho : ¬ own 16 0) : ES μ' t L e :=
  ⟨(f.I (by decide) ho).trans h.1, (f.I (by decide) ho).trans h.2.1, h.2.2⟩
end NNC
