/-! the law's list: roads are told -/
section LI2
variable {d rc rs : Nat} {Q : Option Value → Mu → Prop} {μ m : Mu} {P N R r j c cv Ls R1 R2 : Nat} {X W : Nat → Nat → Nat} {F G H : Nat → Nat} {Y : List Nat}
set_option maxRecDepth 100000 in
set_option maxHeartbeats 4000000 in
theorem li_rt {ff gg : Nat} (hff : F r = ff) (hgg : G r = gg) (hD : 8 ≤ d) (hr : r < 8) (hF : F r < 8) (hG : G r < 8) (hH : H r ≤ 9) (hL : LQ μ P N r 0 0 (rX F G H) W c) (hM : Mb μ cv c Y) (hw : WF μ) (hs : SCl μ Ls) (f : FrS (fun κ i => κ = 115 ∧ i = r) μ m) (hm : mS m (hd 115 r) = (2, 4)) (hv : ∀ i, i < 4 → gI m (hd 115 r) i = nI (rX F G H r i)) (hY : Y.length ≤ 1000)
    (kk : ∀ μ c cv rc rs, LsT μ P N (r + 1) 0 (rX F G H) W cv c (Y ++ rdB F G H r) Ls → WF μ → R1 ≤ rc → R2 ≤ rs → Wx K_LW_list d rc rs Q 124 [(0, .ref (hd 6 0)), (1, .ref (hd 105 0)), (2, .ref (hd 100 0)), (3, .int (nI P)), (4, .int (nI N)), (5, .int (nI R)), (6, .int (nI r + 1))] [] μ) (b1 : 10 + R1 ≤ rc) (b2 : 36027 + R2 ≤ rs) :
    (∃ cc97 ss98 : Nat, (cc97 ≤ rc ∧ ss98 ≤ rs) ∧ CalS K_SI_with (d - 1) cc97 ss98 [.ref (hd 121 r), .ref (hd 115 r)] m (fun ρ μ100 => ∃ b101, ρ = some (.ref b101) ∧ ((mS μ100 (hd 100 0) = (1, 11) ∧ hiN (hd 100 0)) ∧ (∃ cc103 ss104 : Nat, (cc103 ≤ rc - cc97 ∧ ss104 ≤ rs - ss98) ∧ (mS (setR μ100 (hd 100 0) 11 b101) (hd 105 0) = (1, 12) ∧ CalS K_SB_append_15ec4 (d - 1) cc103 ss104 [.ref (hd 105 0), .ref (hd 1 65)] (setR μ100 (hd 100 0) 11 b101) (fun ρ μ106 => ∃ b108, ρ = some (.ref b108) ∧ (∃ cc109 ss110 : Nat, (cc109 ≤ rc - cc97 - cc103 ∧ ss110 ≤ rs - ss98 - ss104) ∧ (mS μ106 b108 = (1, 12) ∧ CalS K_SB_append_bf812 (d - 1) cc109 ss110 [.ref b108, .int (nI r)] μ106 (fun ρ μ112 => ∃ b114, ρ = some (.ref b114) ∧ (∃ cc115 ss116 : Nat, (cc115 ≤ rc - cc97 - cc103 - cc109 ∧ ss116 ≤ rs - ss98 - ss104 - ss110) ∧ (mS μ112 b114 = (1, 12) ∧ CalS K_SB_append_15ec4 (d - 1) cc115 ss116 [.ref b114, .ref (hd 1 66)] μ112 (fun ρ μ118 => ∃ b120, ρ = some (.ref b120) ∧ (∃ cc121 ss122 : Nat, (cc121 ≤ rc - cc97 - cc103 - cc109 - cc115 ∧ ss122 ≤ rs - ss98 - ss104 - ss110 - ss116) ∧ (mS μ118 b120 = (1, 12) ∧ CalS K_SB_append_bf812 (d - 1) cc121 ss122 [.ref b120, .int (nI ff)] μ118 (fun ρ μ124 => ∃ b126, ρ = some (.ref b126) ∧ (∃ cc127 ss128 : Nat, (cc127 ≤ rc - cc97 - cc103 - cc109 - cc115 - cc121 ∧ ss128 ≤ rs - ss98 - ss104 - ss110 - ss116 - ss122) ∧ (mS μ124 b126 = (1, 12) ∧ CalS K_SB_append_15ec4 (d - 1) cc127 ss128 [.ref b126, .ref (hd 1 67)] μ124 (fun ρ μ130 => ∃ b132, ρ = some (.ref b132) ∧ (∃ cc133 ss134 : Nat, (cc133 ≤ rc - cc97 - cc103 - cc109 - cc115 - cc121 - cc127 ∧ ss134 ≤ rs - ss98 - ss104 - ss110 - ss116 - ss122 - ss128) ∧ (mS μ130 b132 = (1, 12) ∧ CalS K_SB_append_bf812 (d - 1) cc133 ss134 [.ref b132, .int (nI gg)] μ130 (fun ρ μ136 => ∃ b138, ρ = some (.ref b138) ∧ (∃ cc139 ss140 : Nat, (cc139 ≤ rc - cc97 - cc103 - cc109 - cc115 - cc121 - cc127 - cc133 ∧ ss140 ≤ rs - ss98 - ss104 - ss110 - ss116 - ss122 - ss128 - ss134) ∧ (mS μ136 b138 = (1, 12) ∧ CalS K_SB_append_15ec4 (d - 1) cc139 ss140 [.ref b138, .ref (hd 1 68)] μ136 (fun ρ μ142 => ∃ b144, ρ = some (.ref b144) ∧ (mS μ142 (hd 100 0) = (1, 11) ∧ (∃ b146, gR μ142 (hd 100 0) 11 = some b146 ∧ (∃ n148, (mS μ142 b146 = (40, n148) ∧ vp_in (nI r) n148) ∧ (∃ b150, gR μ142 b146 (nI r).toNatClampNeg = some b150 ∧ (∃ n152, (mS μ142 b150 = (2, n152) ∧ vp_in (2 : Int32) n152) ∧ (∃ cc154 ss155 : Nat, (cc154 ≤ rc - cc97 - cc103 - cc109 - cc115 - cc121 - cc127 - cc133 - cc139 ∧ ss155 ≤ rs - ss98 - ss104 - ss110 - ss116 - ss122 - ss128 - ss134 - ss140) ∧ (mS μ142 b144 = (1, 12) ∧ CalS K_SB_append_bf812 (d - 1) cc154 ss155 [.ref b144, .int (gI μ142 b150 (2 : Int32).toNatClampNeg)] μ142 (fun ρ μ157 => ∃ b159, ρ = some (.ref b159) ∧ (∃ cc160 ss161 : Nat, (cc160 ≤ rc - cc97 - cc103 - cc109 - cc115 - cc121 - cc127 - cc133 - cc139 - cc154 ∧ ss161 ≤ rs - ss98 - ss104 - ss110 - ss116 - ss122 - ss128 - ss134 - ss140 - ss155) ∧ (mS μ157 b159 = (1, 12) ∧ CalS K_SB_append_15ec4 (d - 1) cc160 ss161 [.ref b159, .ref (hd 1 69)] μ157 (fun ρ μ163 => ∃ b165, ρ = some (.ref b165) ∧ Wx K_LW_list d (rc - cc97 - cc103 - cc109 - cc115 - cc121 - cc127 - cc133 - cc139 - cc154 - cc160) (rs - ss98 - ss104 - ss110 - ss116 - ss122 - ss128 - ss134 - ss140 - ss155 - ss161) Q 124 [(0, .ref (hd 6 0)), (1, .ref (hd 105 0)), (2, .ref (hd 100 0)), (3, .int (nI P)), (4, .int (nI N)), (5, .int (nI R)), (6, .int ((nI r) + 1))] [] μ163))))))))))))))))))))))))))))))))))) := by
  subst hff
  subst hgg
  have b0 : hiN (hd 100 0) := hi_hd (by decide) (by decide)
  obtain ⟨h11a, h11b, h11c⟩ := hL.2.2.2.2.2.2.1
  have lf := hL.2.2.2.2.2.2.2.2.2
  have n121 : ¬ ((121 : Nat) = 115 ∧ r = r) := by omega
  have n100 : ¬ ((100 : Nat) = 115 ∧ 0 = r) := by omega
  have Sm := f.s8 (fun κ i z => by omega) hM.2.1
  have ln1 := ln_dg (x := r) (by omega)
  have ln2 := ln_dg (x := F r) (by omega)
  have ln3 := ln_dg (x := G r) (by omega)
  have ln4 := ln_dg (x := H r) (by omega)
  refine ⟨1, r + 1, ⟨by omega, by omega⟩, c8_SI_with (κa := 121) (ia := r) (n := r) (κ := 121) (i := r + 1) (b := hd 115 r) (m := 4) (by omega) (Nat.le_refl _) (Nat.le_refl _) (by omega) Sm (by decide) ((f.S (by decide) n121).trans h11b) (by omega) (fun k hk => ?_) ⟨hm, hi_hd (by decide) (by decide), hd_ne (by decide) (by decide) (by decide)⟩ ⟨by decide, by decide⟩ ((f.S (by decide) (by omega)).trans (lf.2.2.2.2.1 _ (Nat.lt_succ_self r))) (fun m1 g1 x1 x2 x3 => ⟨_, rfl, ?_⟩)⟩
  · obtain ⟨a1, a2, -⟩ := h11c k hk
    exact ⟨hd 115 k, 4, (f.gr (by decide) n121).trans a1, (f.S (by decide) (by omega)).trans a2, hi_hd (by decide) (by decide), hd_ne (by decide) (by decide) (by decide)⟩
  have n0 : ¬ ((100 : Nat) = 121 ∧ 0 = r + 1) := by omega
  have m0 : mS m1 (hd 100 0) = (1, 11) := (g1.S (by decide) n0).trans ((f.S (by decide) n100).trans hL.1.1)
  refine ⟨⟨m0, b0⟩, ?_⟩
  generalize hm2 : setR m1 (hd 100 0) 11 (hd 121 (r + 1)) = μ0
  have F2 : FrS (OwR9 r) μ μ0 := by
    rw [← hm2]
    exact ((f.mono (fun κ i z => by unfold OwR9; omega)).trans (g1.mono (fun κ i z => by unfold OwR9; omega))).sR (by decide) (by unfold OwR9; omega)
  have e121 : ∀ k, gR μ0 (hd 121 (r + 1)) k = gR m1 (hd 121 (r + 1)) k := fun k => by rw [← hm2, gR_hi (hi_hd (by decide) (by decide)), gR_hi (hi_hd (by decide) (by decide)), mR_set, if_neg (fun z => hd_ne (by decide) (by decide) (by decide) z.1)]
  have e115 : ∀ k, gI μ0 (hd 115 r) k = gI m (hd 115 r) k := fun k => by
    rw [← hm2, gI_hi (hi_hd (by decide) (by decide)), mI_setR, ← gI_hi (hi_hd (by decide) (by decide))]; exact g1.gi (by decide) (by omega)
  have L0 : LQ μ0 P N (r + 1) 0 0 (rX F G H) W c := by
    refine hL.road F2 (fun k hk => ?_) (fun k => ?_) (by rw [← hm2]; exact m0) (by rw [← hm2, gR_hi b0, mR_set, if_pos ⟨rfl, rfl⟩]) (by rw [← hm2]; exact x1) (fun k hk => (e121 k).trans ((x2 k hk).trans (f.gr (by decide) n121))) ((e121 r).trans x3) (by rw [← hm2]; exact (g1.S (by decide) (by omega)).trans hm) (fun i hi => (e115 i).trans (hv i hi))
    · rw [← hm2, gR_hi b0, mR_set, if_neg (fun z => hk z.2), ← gR_hi b0, g1.gr (by decide) n0, f.gr (by decide) n100]
    · rw [← hm2, gI_hi b0, mI_setR, ← gI_hi b0, g1.gi (by decide) n0, f.gi (by decide) n100]
  have M0 : Mb μ0 cv c Y := hM.fx F2 (fun κ i z => by unfold OwR9 at z; omega)
  have w0 : WF μ0 := ⟨(F2.S (by decide) (by unfold OwR9; omega)).trans hw.1, fun i => (F2.S (by decide) (by unfold OwR9; omega)).trans (hw.2 i)⟩
  have s0 := sc_fr hs F2 (fun κ i z => by unfold OwR9 at z; omega)
  refine ⟨1, 4002, ⟨by omega, by omega⟩, M0.sh, M0.app (M := 2000) (lit_R M0.2.1 (by decide)) (Or.inl ⟨rfl, rfl⟩) (by omega) ⟨by simp only [List.length_append, List.length_nil, List.length_cons, tx45, tx46, tx47, tx48, tx49, tx50, tx51, tx52, tx53, tx54, tx55, tx56, tx57, tx58, tx59, tx60, tx61, tx62, tx63, tx64, tx65, tx66, tx67, tx68, tx69, tx70, tx74, tx75, tx76, tx77, tx78, tx79, tx80]; omega, by decide⟩ (Nat.le_refl _) (Nat.le_refl _) (fun μ1 M1 f1 => ⟨_, rfl, ?_⟩)⟩
  have L1 := L0.ot f1 (Nat.le_succ _)
  have w1 := w0.ot f1
  have s1 := sc_fr s0 f1 (fun κ i z => z.lo)
  refine ⟨1, 4002, ⟨by omega, by omega⟩, M1.sh, M1.api (M := 2000) (show r < 100 by omega) (by omega) ⟨by simp only [List.length_append, List.length_nil, List.length_cons, tx45, tx46, tx47, tx48, tx49, tx50, tx51, tx52, tx53, tx54, tx55, tx56, tx57, tx58, tx59, tx60, tx61, tx62, tx63, tx64, tx65, tx66, tx67, tx68, tx69, tx70, tx74, tx75, tx76, tx77, tx78, tx79, tx80]; omega, by decide⟩ (Nat.le_refl _) (Nat.le_refl _) (fun μ2 M2 f2 => ⟨_, rfl, ?_⟩)⟩
  have L2 := L1.ot f2 (Nat.le_succ _)
  have w2 := w1.ot f2
  have s2 := sc_fr s1 f2 (fun κ i z => z.lo)
  refine ⟨1, 4002, ⟨by omega, by omega⟩, M2.sh, M2.app (M := 2000) (lit_R M2.2.1 (by decide)) (Or.inl ⟨rfl, rfl⟩) (by omega) ⟨by simp only [List.length_append, List.length_nil, List.length_cons, tx45, tx46, tx47, tx48, tx49, tx50, tx51, tx52, tx53, tx54, tx55, tx56, tx57, tx58, tx59, tx60, tx61, tx62, tx63, tx64, tx65, tx66, tx67, tx68, tx69, tx70, tx74, tx75, tx76, tx77, tx78, tx79, tx80]; omega, by decide⟩ (Nat.le_refl _) (Nat.le_refl _) (fun μ3 M3 f3 => ⟨_, rfl, ?_⟩)⟩
  have L3 := L2.ot f3 (Nat.le_succ _)
  have w3 := w2.ot f3
  have s3 := sc_fr s2 f3 (fun κ i z => z.lo)
  refine ⟨1, 4002, ⟨by omega, by omega⟩, M3.sh, M3.api (M := 2000) (show F r < 100 by omega) (by omega) ⟨by simp only [List.length_append, List.length_nil, List.length_cons, tx45, tx46, tx47, tx48, tx49, tx50, tx51, tx52, tx53, tx54, tx55, tx56, tx57, tx58, tx59, tx60, tx61, tx62, tx63, tx64, tx65, tx66, tx67, tx68, tx69, tx70, tx74, tx75, tx76, tx77, tx78, tx79, tx80]; omega, by decide⟩ (Nat.le_refl _) (Nat.le_refl _) (fun μ4 M4 f4 => ⟨_, rfl, ?_⟩)⟩
  have L4 := L3.ot f4 (Nat.le_succ _)
  have w4 := w3.ot f4
  have s4 := sc_fr s3 f4 (fun κ i z => z.lo)
  refine ⟨1, 4002, ⟨by omega, by omega⟩, M4.sh, M4.app (M := 2000) (lit_R M4.2.1 (by decide)) (Or.inl ⟨rfl, rfl⟩) (by omega) ⟨by simp only [List.length_append, List.length_nil, List.length_cons, tx45, tx46, tx47, tx48, tx49, tx50, tx51, tx52, tx53, tx54, tx55, tx56, tx57, tx58, tx59, tx60, tx61, tx62, tx63, tx64, tx65, tx66, tx67, tx68, tx69, tx70, tx74, tx75, tx76, tx77, tx78, tx79, tx80]; omega, by decide⟩ (Nat.le_refl _) (Nat.le_refl _) (fun μ5 M5 f5 => ⟨_, rfl, ?_⟩)⟩
  have L5 := L4.ot f5 (Nat.le_succ _)
  have w5 := w4.ot f5
  have s5 := sc_fr s4 f5 (fun κ i z => z.lo)
  refine ⟨1, 4002, ⟨by omega, by omega⟩, M5.sh, M5.api (M := 2000) (show G r < 100 by omega) (by omega) ⟨by simp only [List.length_append, List.length_nil, List.length_cons, tx45, tx46, tx47, tx48, tx49, tx50, tx51, tx52, tx53, tx54, tx55, tx56, tx57, tx58, tx59, tx60, tx61, tx62, tx63, tx64, tx65, tx66, tx67, tx68, tx69, tx70, tx74, tx75, tx76, tx77, tx78, tx79, tx80]; omega, by decide⟩ (Nat.le_refl _) (Nat.le_refl _) (fun μ6 M6 f6 => ⟨_, rfl, ?_⟩)⟩
  have L6 := L5.ot f6 (Nat.le_succ _)
  have w6 := w5.ot f6
  have s6 := sc_fr s5 f6 (fun κ i z => z.lo)
  refine ⟨1, 4002, ⟨by omega, by omega⟩, M6.sh, M6.app (M := 2000) (lit_R M6.2.1 (by decide)) (Or.inl ⟨rfl, rfl⟩) (by omega) ⟨by simp only [List.length_append, List.length_nil, List.length_cons, tx45, tx46, tx47, tx48, tx49, tx50, tx51, tx52, tx53, tx54, tx55, tx56, tx57, tx58, tx59, tx60, tx61, tx62, tx63, tx64, tx65, tx66, tx67, tx68, tx69, tx70, tx74, tx75, tx76, tx77, tx78, tx79, tx80]; omega, by decide⟩ (Nat.le_refl _) (Nat.le_refl _) (fun μ7 M7 f7 => ⟨_, rfl, ?_⟩)⟩
  have L7 := L6.ot f7 (Nat.le_succ _)
  have w7 := w6.ot f7
  have s7 := sc_fr s6 f7 (fun κ i z => z.lo)
  obtain ⟨q1, q2, q3⟩ := L7.2.2.2.2.2.2.1
  refine ⟨L7.1.1, _, q1, _, ⟨q2, vI (Nat.lt_succ_self r) (by omega)⟩, ?_⟩
  rw [nI_clamp (show r < 2 ^ 31 by omega)]
  refine ⟨_, (q3 r (Nat.lt_succ_self r)).1, _, ⟨(q3 r (Nat.lt_succ_self r)).2.1, vI (k := 2) (by decide) (by decide)⟩, ?_⟩
  rw [show gI μ7 (hd 115 r) (2 : Int32).toNatClampNeg = nI (H r) from (q3 r (Nat.lt_succ_self r)).2.2 2 (by decide)]
  refine ⟨1, 4002, ⟨by omega, by omega⟩, M7.sh, M7.api (M := 2000) (show H r < 100 by omega) (by omega) ⟨by simp only [List.length_append, List.length_nil, List.length_cons, tx45, tx46, tx47, tx48, tx49, tx50, tx51, tx52, tx53, tx54, tx55, tx56, tx57, tx58, tx59, tx60, tx61, tx62, tx63, tx64, tx65, tx66, tx67, tx68, tx69, tx70, tx74, tx75, tx76, tx77, tx78, tx79, tx80]; omega, by decide⟩ (Nat.le_refl _) (Nat.le_refl _) (fun μ8 M8 f8 => ⟨_, rfl, ?_⟩)⟩
  have L8 := L7.ot f8 (Nat.le_succ _)
  have w8 := w7.ot f8
  have s8 := sc_fr s7 f8 (fun κ i z => z.lo)
  refine ⟨1, 4002, ⟨by omega, by omega⟩, M8.sh, M8.app (M := 2000) (lit_R M8.2.1 (by decide)) (Or.inl ⟨rfl, rfl⟩) (by omega) ⟨by simp only [List.length_append, List.length_nil, List.length_cons, tx45, tx46, tx47, tx48, tx49, tx50, tx51, tx52, tx53, tx54, tx55, tx56, tx57, tx58, tx59, tx60, tx61, tx62, tx63, tx64, tx65, tx66, tx67, tx68, tx69, tx70, tx74, tx75, tx76, tx77, tx78, tx79, tx80]; omega, by decide⟩ (Nat.le_refl _) (Nat.le_refl _) (fun μ9 M9 f9 => ⟨_, rfl, ?_⟩)⟩
  have L9 := L8.ot f9 (Nat.le_succ _)
  have w9 := w8.ot f9
  have s9 := sc_fr s8 f9 (fun κ i z => z.lo)
  have e : ((((((((Y ++ txN 65) ++ dgN r) ++ txN 66) ++ dgN (F r)) ++ txN 67) ++ dgN (G r)) ++ txN 68) ++ dgN (H r)) ++ txN 69 = Y ++ rdB F G H r := by
    unfold rdB; simp only [List.append_assoc]
  rw [e] at M9
  exact kk μ9 _ _ _ _ ⟨L9, M9, s9⟩ w9 (by omega) (by omega)
end LI2
