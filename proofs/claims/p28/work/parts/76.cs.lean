/-! the component's code: names become numbers -/
def OwS (q κ i : Nat) : Prop := (κ = 23 ∨ κ = 24) ∧ i = q
section CSC
variable {d rc rs : Nat} {Q : Option Value → Mu → Prop} {μ : Mu} {t : Nat → Nat} {L q : Nat}
theorem NS.frS {μ' : Mu} {J : Nat} (h : NS μ t L q J) (f : Fr (OwS q) μ μ') (hr : mR μ' = mR μ) : TKN μ' t L ∧ ∀ i, i < nT t L + 1 → mI μ' (hd 14 0) i = nI (mng t L J i) :=
  ⟨h.1.fr f (fun κ i a b => by unfold OwS; omega), fun i hi => (f.I (by decide) (by unfold OwS; omega)).trans (h.2.2.2.2.2.1 i hi)⟩
theorem c_Cd_settle {l : RO} (hD : 2 ≤ d) (hS : St μ) (hq : q < 2) (hn46 : tK t L (nT t L) = 46) (hN : NS μ t L q (nT t L)) (hc : GC μ q (some l)) (hl : l.length ≤ 400) (href : ∀ o ∈ l, refF (tK t L) (nT t L) o) (hQ : ∀ μ', Fr (OwS q) μ μ' → mR μ' = mR μ → St μ' → (∀ i, i < l.length → cellOp μ' q i (stO t L (l.getD i (0, 0)))) → Q none μ') : Cal K_Cd_settle d rc rs [.ref (hd 21 q), .ref (hd 10 0)] μ Q := by
  have hn4 := nT_le (t := t) (L := L)
  obtain ⟨h4, hcell⟩ := hc
  rw [show min l.length 400 = l.length by omega] at h4 hcell
  refine e_Cd_settle (g_Cd_settle_0 (by omega) hq hS ?_)
  have key : ∀ i, i ≤ l.length → ∀ μ', Fr (OwS q) μ μ' → mR μ' = mR μ → St μ' → (∀ j, i ≤ j → mI μ' (hd 23 q) j = mI μ (hd 23 q) j) → (∀ j, j < i → cellOp μ' q j (stO t L (l.getD j (0, 0)))) → Wx K_Cd_settle d rc rs (fun r μ' => St μ' ∧ Q r μ') 2 [(0, .ref (hd 21 q)), (1, .ref (hd 10 0)), (2, .int (nI i))] [] μ' := by
    refine up_loop l.length ?_ ?_
    · intro μ' f1 f2 f3 f4 f5
      refine g_Cd_settle_2 (by omega) hq f3 ⟨fun _ => ⟨f3, hQ μ' f1 f2 f3 f5⟩, fun h => absurd ?_ h⟩
      rw [f1.I (by decide) (by unfold OwS; omega), h4]; exact Int32.le_refl _
    · intro i hi ih μ' f1 f2 f3 f4 f5
      obtain ⟨hT, hM⟩ := hN.frS f1 f2
      obtain ⟨c1, c2⟩ := hcell i hi
      have ho : l.getD i (0, 0) ∈ l := by
        rw [List.getD_eq_getElem?_getD, List.getElem?_eq_getElem hi]; exact List.getElem_mem hi
      have hr := href _ ho
      generalize hoe : l.getD i (0, 0) = o at *
      have v4 : vp_in (nI i) 400 := vp_in_nI (by omega) (by decide)
      have hk : (stO t L o).1 = o.1 := stO_keep o
      have r22 : mR μ' (hd 22 q) i = some (hd 0 o.1) := by rw [f2]; exact c1
      have e23 : mI μ' (hd 23 q) i = oI o.2 := (f4 i (Nat.le_refl _)).trans c2
      have hpx : px μ' (hd 22 q) i = o.1 := px_eq (by decide) r22
      -- one more
      have nxt : ∀ μ2, Fr (OwS q) μ μ2 → mR μ2 = mR μ → St μ2 → (∀ j, j ≠ i → mI μ2 (hd 23 q) j = mI μ' (hd 23 q) j ∧ mI μ2 (hd 24 q) j = mI μ' (hd 24 q) j) → cellOp μ2 q i (stO t L o) → Wx K_Cd_settle d rc rs (fun r μ' => St μ' ∧ Q r μ') 2 [(0, .ref (hd 21 q)), (1, .ref (hd 10 0)), (2, .int (nI i + 1))] [] μ2 := by
        intro μ2 g1 g2 g3 g4 g5
        rw [nI_1]
        refine ih μ2 g1 g2 g3 (fun j hj => ((g4 j (by omega)).1).trans (f4 j (by omega))) (fun j hj => ?_)
        rcases Nat.lt_or_ge j i with z | z
        · have := f5 j z
          unfold cellOp at this ⊢
          rw [g2, (g4 j (by omega)).1, (g4 j (by omega)).2, ← f2]; exact this
        · rw [show j = i by omega, hoe]; exact g5
      refine g_Cd_settle_2 (by omega) hq f3 ?_
      rw [f1.I (by decide) (by unfold OwS; omega), h4, nI_leI (by omega) (by omega), nI_clamp (by omega), hpx, e23]
      refine ⟨fun h => absurd h (by omega), fun _ => ⟨v4, v4, (by rw [r22]; exact fun z => nomatch z), fun z45 => ?_, fun n45 => ⟨fun z => ?_, fun z => ?_⟩⟩⟩
      · rcases hr with ⟨-, z⟩ | ⟨p0, -, kk, pn, -, -⟩
        · exfalso
          rcases z with z | z | z
          · omega
          · omega
          · exact (isBin_ne z).1 z45
        · have hx : o.2 - 1 < nT t L := by omega
          obtain ⟨w1, w2⟩ := num_J hx (by rw [kk]; exact z45) hT
          rw [oI_p p0]
          refine c_Tk_worthAt (by omega) f3 hT (by omega) ⟨_, rfl, v4, ?_⟩
          rw [w1, t32_n]
          have hS2 : St (setI μ' (hd 23 q) i (nI (nvT t L (o.2 - 1)))) := f3
          refine nxt _ (f1.setI (by decide) ⟨Or.inl rfl, rfl⟩) f2 hS2 (fun j hj => ⟨rd_k hj, rd_ne (by decide) (by decide) (by decide)⟩) ?_
          have est : stO t L o = (45, nvT t L (o.2 - 1), 0) := by unfold stO; rw [if_pos z45]
          rw [est]
          refine ⟨by rw [mR_setI, r22, z45], fun _ => rd_eq, fun y => absurd (show 45 = 17 from y) (by decide), fun _ y => absurd (show 45 ≤ 23 from y) (by decide)⟩
      · have z0 : o.2 = 0 := by
          rcases hr with ⟨y, -⟩ | ⟨p0, -, -, pn, -⟩
          · exact y
          · exact (oI_m1 (by omega)).mp z
        refine nxt μ' f1 f2 f3 (fun j _ => ⟨rfl, rfl⟩) ?_
        rcases hr with ⟨-, y⟩ | ⟨p0, -⟩
        · have hno : o.1 ≠ 17 ∧ ¬ (18 ≤ o.1 ∧ o.1 ≤ 23) := by
            rcases y with y | y | y
            · omega
            · omega
            · exact ⟨(isBin_ne y).2.1, (isBin_ne y).2.2.1⟩
          unfold cellOp
          rw [hk]
          exact ⟨r22, fun y => absurd y n45, fun y => absurd y hno.1, fun a b => absurd ⟨a, b⟩ hno.2⟩
        · omega
      · rcases hr with ⟨y, -⟩ | ⟨p0, pm, kk, pn, p17, p18⟩
        · rw [y] at z; exact absurd oI_0 z
        · rw [oI_p p0, nI_1, show o.2 - 1 + 1 = o.2 by omega, show (2 : Int32) = nI 2 from rfl, nI_add, show o.2 - 1 + 2 = o.2 + 1 by omega]
          refine c_Tk_meaningAt (by omega) f3 hT (by omega) ⟨_, rfl, v4, ?_⟩
          rw [if_pos pn, hM o.2 (by omega)]
          have hS2 : St (setI μ' (hd 23 q) i (nI (mng t L (nT t L) o.2))) := f3
          have g1 : Fr (OwS q) μ (setI μ' (hd 23 q) i (nI (mng t L (nT t L) o.2))) := f1.setI (by decide) ⟨Or.inl rfl, rfl⟩
          obtain ⟨hT2, hM2⟩ := hN.frS g1 f2
          refine c_Tk_meaningAt (by omega) hS2 hT2 (by omega) ⟨_, rfl, v4, ?_⟩
          have hS3 : ∀ v, St (setI (setI μ' (hd 23 q) i (nI (mng t L (nT t L) o.2))) (hd 24 q) i v) := fun v => f3
          refine nxt _ (g1.setI (by decide) ⟨Or.inr rfl, rfl⟩) f2 (hS3 _) (fun j hj => ⟨by rw [rd_ne (by decide) (by decide) (by decide), rd_k hj], by rw [rd_k hj, rd_ne (by decide) (by decide) (by decide)]⟩) ?_
          refine ⟨by rw [mR_setI, mR_setI, hk]; exact r22, fun y => absurd (hk.symm.trans y) n45, fun y => ⟨0, by decide, ?_⟩, fun a b => ?_⟩
          · have y' : o.1 = 17 := hk.symm.trans y
            rw [rd_ne (by decide) (by decide) (by decide), rd_eq]
            have : mng t L (nT t L) o.2 = 0 := by
              unfold mng
              refine if_neg (fun w => p17 y' (rl_44' rfl ?_))
              obtain ⟨n1, n2, n3, n6, n7, -, -, n0, n11⟩ := lr_ne w.2
              exact ⟨n0, n6, n7, n11⟩
            rw [this]
          · rw [hk] at a b
            obtain ⟨k44, k44'⟩ := p18 a b
            have p1 : o.2 < nT t L := in_n pn (by omega)
            have l1 : rl (tK t L) o.2 = 12 := by
              rw [rl_44 k44 kk rfl, if_neg (by omega), if_neg (by omega), if_neg (by omega), if_neg (by omega), if_neg (by omega), if_neg (by omega), if_neg (by omega), if_pos ⟨a, b⟩]
            have est : stO t L o = (o.1, plc t L 1 o.2 o.2 - 1, plc t L 2 (o.2 + 1) (o.2 + 1) - 1) := by unfold stO; rw [if_neg n45, if_pos ⟨a, b⟩]
            have m1 : mng t L (nT t L) o.2 = plc t L 1 o.2 o.2 - 1 := by unfold mng; rw [l1, if_pos ⟨p1, by decide⟩]; rfl
            rw [est]
            refine ⟨?_, fun h21 => ?_⟩
            · rw [rd_ne (by decide) (by decide) (by decide), rd_eq, m1]
            · have k2 := k44' h21
              have p2 : o.2 + 1 < nT t L := in_n (by omega) (by omega)
              have l2 : rl (tK t L) (o.2 + 1) = 13 := by
                rw [rl_44 k2 (show tK t L (o.2 + 1 - 1) = 44 from k44) (show tK t L (o.2 + 1 - 2) = o.1 by rw [show o.2 + 1 - 2 = o.2 - 1 by omega]; exact kk), if_neg (by omega), if_neg (by omega), if_neg (by omega), if_neg (by omega), if_neg (by omega), if_neg (by omega), if_neg (by omega), if_neg (by omega), if_neg (by omega)]
              have m2 : mng t L (nT t L) (o.2 + 1) = plc t L 2 (o.2 + 1) (o.2 + 1) - 1 := by unfold mng; rw [l2, if_pos ⟨p2, by decide⟩]; rfl
              rw [rd_eq, if_pos (by omega), hM2 (o.2 + 1) (by omega), m2]
  exact key 0 (Nat.zero_le _) μ Fr.rf rfl hS (fun _ _ => rfl) (fun j hj => absurd hj (Nat.not_lt_zero _))
end CSC
