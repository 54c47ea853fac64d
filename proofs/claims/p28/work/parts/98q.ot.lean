/-! the law's list: an order is told -/
section LI5
variable {d rc rs : Nat} {Q : Option Value → Mu → Prop} {μ m μ' μ0 : Mu} {P N R j c cv Ls p n kd ib ia R1 R2 : Nat} {X W : Nat → Nat → Nat} {w : Nat → Nat} {x6 x7 x8 : Int32} {Y : List Nat}
def upW (W : Nat → Nat → Nat) (j : Nat) (w : Nat → Nat) : Nat → Nat → Nat := fun i => if i = j then w else W i
theorem upW_r {W : Nat → Nat → Nat} {j : Nat} {w : Nat → Nat} : upW W j w j = w := if_pos rfl
theorem upW_o {W : Nat → Nat → Nat} {j i : Nat} {w : Nat → Nat} (h : i ≠ j) : upW W j w i = W i := if_neg h
theorem ln_su (h4 : w 4 ≤ 15) (h1 : w 1 < 8) (h2 : w 2 < 8) : (suB w).length ≤ 24 := by
  have l4 := ln_dg (x := w 4) (by omega)
  have l1 := ln_dg (x := w 1) (by omega)
  have l2 := ln_dg (x := w 2) (by omega)
  unfold suB
  by_cases a : w 3 = 0
  · rw [if_pos a]; simp only [List.length_append, List.length_nil, List.length_cons, tx45, tx46, tx47, tx48, tx49, tx50, tx51, tx52, tx53, tx54, tx55, tx56, tx57, tx58, tx59, tx60, tx61, tx62, tx63, tx64, tx65, tx66, tx67, tx68, tx69, tx70, tx74, tx75, tx76, tx77, tx78, tx79, tx80]; omega
  · rw [if_neg a]
    by_cases a : w 3 = 1
    · rw [if_pos a]; simp only [List.length_append, List.length_nil, List.length_cons, tx45, tx46, tx47, tx48, tx49, tx50, tx51, tx52, tx53, tx54, tx55, tx56, tx57, tx58, tx59, tx60, tx61, tx62, tx63, tx64, tx65, tx66, tx67, tx68, tx69, tx70, tx74, tx75, tx76, tx77, tx78, tx79, tx80]; omega
    · rw [if_neg a]; simp only [List.length_append, List.length_nil, List.length_cons, tx45, tx46, tx47, tx48, tx49, tx50, tx51, tx52, tx53, tx54, tx55, tx56, tx57, tx58, tx59, tx60, tx61, tx62, tx63, tx64, tx65, tx66, tx67, tx68, tx69, tx70, tx74, tx75, tx76, tx77, tx78, tx79, tx80]; omega
theorem ln_wh (h1 : p < 8) (h2 : n < 8) : (whB p n).length ≤ 8 := by
  have l1 := ln_dg (x := p) (by omega)
  have l2 := ln_dg (x := n) (by omega)
  unfold whB; simp only [List.length_append, List.length_nil, List.length_cons, tx45, tx46, tx47, tx48, tx49, tx50, tx51, tx52, tx53, tx54, tx55, tx56, tx57, tx58, tx59, tx60, tx61, tx62, tx63, tx64, tx65, tx66, tx67, tx68, tx69, tx70, tx74, tx75, tx76, tx77, tx78, tx79, tx80]; omega
theorem tx71 : txN 71 = [108, 101, 97, 115, 116] ∧ txN 72 = [109, 111, 115, 116] ∧ txN 73 = [115, 117, 109] := by decide +kernel
theorem ln_wy : ∀ v, v < 3 → (txN (71 + v)).length ≤ 5 := by decide +kernel
theorem ln_te (h6 : w 6 ≤ 8) (h7 : w 7 ≤ 8) : (teB w).length ≤ 60 := by
  have l1 := ln_dg (x := w 6) (by omega)
  have l2 := ln_dg (x := w 7) (by omega)
  unfold teB
  by_cases a : w 5 = 0
  · rw [if_pos a]; simp only [List.length_append, List.length_nil, List.length_cons, tx45, tx46, tx47, tx48, tx49, tx50, tx51, tx52, tx53, tx54, tx55, tx56, tx57, tx58, tx59, tx60, tx61, tx62, tx63, tx64, tx65, tx66, tx67, tx68, tx69, tx70, tx74, tx75, tx76, tx77, tx78, tx79, tx80]; omega
  · rw [if_neg a]
    by_cases a : w 5 = 1
    · rw [if_pos a]; simp only [List.length_append, List.length_nil, List.length_cons, tx45, tx46, tx47, tx48, tx49, tx50, tx51, tx52, tx53, tx54, tx55, tx56, tx57, tx58, tx59, tx60, tx61, tx62, tx63, tx64, tx65, tx66, tx67, tx68, tx69, tx70, tx74, tx75, tx76, tx77, tx78, tx79, tx80]; omega
    · rw [if_neg a]
      by_cases a : w 5 = 2
      · rw [if_pos a]; simp only [List.length_append, List.length_nil, List.length_cons, tx45, tx46, tx47, tx48, tx49, tx50, tx51, tx52, tx53, tx54, tx55, tx56, tx57, tx58, tx59, tx60, tx61, tx62, tx63, tx64, tx65, tx66, tx67, tx68, tx69, tx70, tx74, tx75, tx76, tx77, tx78, tx79, tx80]; omega
      · rw [if_neg a]
        by_cases a : w 5 = 3
        · rw [if_pos a]; simp only [List.length_append, List.length_nil, List.length_cons, tx45, tx46, tx47, tx48, tx49, tx50, tx51, tx52, tx53, tx54, tx55, tx56, tx57, tx58, tx59, tx60, tx61, tx62, tx63, tx64, tx65, tx66, tx67, tx68, tx69, tx70, tx74, tx75, tx76, tx77, tx78, tx79, tx80]; omega
        · rw [if_neg a]
          by_cases a : w 5 = 4
          · rw [if_pos a]; simp only [List.length_append, List.length_nil, List.length_cons, tx45, tx46, tx47, tx48, tx49, tx50, tx51, tx52, tx53, tx54, tx55, tx56, tx57, tx58, tx59, tx60, tx61, tx62, tx63, tx64, tx65, tx66, tx67, tx68, tx69, tx70, tx74, tx75, tx76, tx77, tx78, tx79, tx80]; omega
          · rw [if_neg a]; simp only [List.length_append, List.length_nil, List.length_cons, tx45, tx46, tx47, tx48, tx49, tx50, tx51, tx52, tx53, tx54, tx55, tx56, tx57, tx58, tx59, tx60, tx61, tx62, tx63, tx64, tx65, tx66, tx67, tx68, tx69, tx70, tx74, tx75, tx76, tx77, tx78, tx79, tx80]; omega
set_option maxRecDepth 100000 in
set_option maxHeartbeats 1000000 in
theorem li_ot (hD : 9 ≤ d) (hj : j < 10) (hP : P ≤ 5) (hN : N ≤ 3) (hR : R ≤ 8) (hw : oB P N R w) (L0 : LQ μ0 P N R (j + 1) j X W c) (M0 : Mb μ0 cv c Y) (w0 : WR μ0 R) (s0 : SCl μ0 Ls) (r0 : R8 μ0 j w) (y0 : StrR μ0 133 ib 132 ia (hB w)) (hib : ib < c ∧ cv ≤ ia ∧ ia < c) (lY : Y.length ≤ 1798) (lH : (hB w).length ≤ 60)
    (kk : ∀ μ c cv rc rs, LsT μ P N R (j + 1) X (upW W j w) cv c (Y ++ flT (orT w)) Ls → WR μ R → R1 ≤ rc → R2 ≤ rs → Wx K_LW_list d rc rs Q 337 [(0, .ref (hd 6 0)), (1, .ref (hd 105 0)), (2, .ref (hd 100 0)), (3, .int (nI P)), (4, .int (nI N)), (5, .int (nI R)), (6, .int (x6 + (-1)))] [] μ) (b1 : 17 + R1 ≤ rc) (b2 : 36100 + R2 ≤ rs) :
    (∃ cc300 ss301 : Nat, (cc300 ≤ rc ∧ ss301 ≤ rs) ∧ (mS μ0 (hd 105 0) = (1, 12) ∧ CalS K_SB_append_15ec4 (d - 1) cc300 ss301 [.ref (hd 105 0), .ref (hd 133 ib)] μ0 (fun ρ μ303 => ∃ b305, ρ = some (.ref b305) ∧ (∃ cc306 ss307 : Nat, (cc306 ≤ rc - cc300 ∧ ss307 ≤ rs - ss301) ∧ CalS K_LW_test (d - 1) cc306 ss307 [.ref (hd 118 j)] μ303 (fun ρ μ309 => ∃ b310, ρ = some (.ref b310) ∧ (∃ cc311 ss312 : Nat, (cc311 ≤ rc - cc300 - cc306 ∧ ss312 ≤ rs - ss301 - ss307) ∧ (mS μ309 b305 = (1, 12) ∧ CalS K_SB_append_15ec4 (d - 1) cc311 ss312 [.ref b305, .ref b310] μ309 (fun ρ μ314 => ∃ b316, ρ = some (.ref b316) ∧ (∃ cc317 ss318 : Nat, (cc317 ≤ rc - cc300 - cc306 - cc311 ∧ ss318 ≤ rs - ss301 - ss307 - ss312) ∧ (mS μ314 b316 = (1, 12) ∧ CalS K_SB_append_15ec4 (d - 1) cc317 ss318 [.ref b316, .ref (hd 1 69)] μ314 (fun ρ μ320 => ∃ b322, ρ = some (.ref b322) ∧ (mS μ320 (hd 100 0) = (1, 11) ∧ (∃ b324, gR μ320 (hd 100 0) 14 = some b324 ∧ (∃ cc326 ss327 : Nat, (cc326 ≤ rc - cc300 - cc306 - cc311 - cc317 ∧ ss327 ≤ rs - ss301 - ss307 - ss312 - ss318) ∧ CalS K_SI_with (d - 1) cc326 ss327 [.ref b324, .ref (hd 118 j)] μ320 (fun ρ μ329 => ∃ b330, ρ = some (.ref b330) ∧ ((mS μ329 (hd 100 0) = (1, 11) ∧ hiN (hd 100 0)) ∧ Wx K_LW_list d (rc - cc300 - cc306 - cc311 - cc317 - cc326) (rs - ss301 - ss307 - ss312 - ss318 - ss327) Q 337 [(0, .ref (hd 6 0)), (1, .ref (hd 105 0)), (2, .ref (hd 100 0)), (3, .int (nI P)), (4, .int (nI N)), (5, .int (nI R)), (6, .int (x6 + (-1)))] [] (setR μ329 (hd 100 0) 14 b330))))))))))))))))) := by
  have b0 : hiN (hd 100 0) := hi_hd (by decide) (by decide)
  obtain ⟨h0, h1, h1', h2, h3, h4, h24, h5, h05, h6, h7, -⟩ := id hw
  have lT := ln_te (w := w) h6 h7
  refine ⟨1, 4002, ⟨by omega, by omega⟩, M0.sh, M0.app (M := 2000) y0 (Or.inr ⟨rfl, rfl, hib⟩) (by omega) ⟨by omega, by decide⟩ (Nat.le_refl _) (Nat.le_refl _) (fun μ1 M1 f1 => ⟨_, rfl, ?_⟩)⟩
  have L1 := L0.ot f1 (Nat.le_succ _)
  have w1 := w0.ot f1
  have s1 := sc_fr s0 f1 (fun κ i z => z.lo)
  have r1 : R8 μ1 j w := ⟨(f1.S (by decide) (by unfold OwT2 Dy; omega)).trans r0.1, fun i hi => (f1.gi (by decide) (by unfold OwT2 Dy; omega)).trans (r0.2 i hi)⟩
  refine ⟨13, 24000, ⟨by omega, by omega⟩, c_LW_test r1 h5 h6 h7 M1.1 M1.2.1 (by omega) (Nat.le_refl _) (Nat.le_refl _) (fun μ2 c2 κb jb κa ja e2 f2 S2 C2 n2 y2 => ⟨_, rfl, ?_⟩)⟩
  have L2 := L1.dy f2 e2
  have M2 := M1.dy f2 e2 S2
  have w2 := w1.ot (f2.mono (fun κ i z => Or.inr (Or.inr z)))
  have s2 := sc_fr s1 f2 (fun κ i z => z.lo)
  have r2 := r1.dy f2
  refine ⟨1, 4002, ⟨by omega, by omega⟩, M2.sh, M2.app (M := 2000) y2 (by unfold LocN at n2; omega) (by omega) ⟨by rw [List.length_append]; omega, by decide⟩ (Nat.le_refl _) (Nat.le_refl _) (fun μ3 M3 f3 => ⟨_, rfl, ?_⟩)⟩
  have L3 := L2.ot f3 (Nat.le_succ _)
  have w3 := w2.ot f3
  have s3 := sc_fr s2 f3 (fun κ i z => z.lo)
  have r3 : R8 μ3 j w := ⟨(f3.S (by decide) (by unfold OwT2 Dy; omega)).trans r2.1, fun i hi => (f3.gi (by decide) (by unfold OwT2 Dy; omega)).trans (r2.2 i hi)⟩
  refine ⟨1, 4002, ⟨by omega, by omega⟩, M3.sh, M3.app (M := 2000) (lit_R M3.2.1 (by decide)) (Or.inl ⟨rfl, rfl⟩) (by omega) ⟨by rw [List.length_append, List.length_append, tx69]; show _ + 2 ≤ 2000; omega, by decide⟩ (Nat.le_refl _) (Nat.le_refl _) (fun μ4 M4 f4 => ⟨_, rfl, ?_⟩)⟩
  have L4 := L3.ot f4 (Nat.le_succ _)
  have w4 := w3.ot f4
  have s4 := sc_fr s3 f4 (fun κ i z => z.lo)
  have r4 : R8 μ4 j w := ⟨(f4.S (by decide) (by unfold OwT2 Dy; omega)).trans r3.1, fun i hi => (f4.gi (by decide) (by unfold OwT2 Dy; omega)).trans (r3.2 i hi)⟩
  obtain ⟨q1, q2, q3⟩ := L4.2.2.2.2.2.2.2.1
  have lf := L4.2.2.2.2.2.2.2.2.2
  refine ⟨L4.1.1, _, q1, 1, j + 1, ⟨by omega, by omega⟩, c8_SI_with (κa := 124) (ia := j) (n := j) (κ := 124) (i := j + 1) (b := hd 118 j) (m := 8) (by omega) (Nat.le_refl _) (Nat.le_refl _) (by omega) M4.2.1 (by decide) q2 (by omega) (fun k hk => ?_) ⟨r4.1, hi_hd (by decide) (by decide), hd_ne (by decide) (by decide) (by decide)⟩ ⟨by decide, by decide⟩ (lf.2.2.2.2.2.2 _ (Nat.lt_succ_self j)) (fun m1 g1 x1 x2 x3 => ⟨_, rfl, ?_⟩)⟩
  · obtain ⟨a1, a2, -⟩ := q3 k hk
    exact ⟨hd 118 k, 8, a1, a2, hi_hd (by decide) (by decide), hd_ne (by decide) (by decide) (by decide)⟩
  have n0 : ¬ ((100 : Nat) = 124 ∧ 0 = j + 1) := by omega
  have m0 : mS m1 (hd 100 0) = (1, 11) := (g1.S (by decide) n0).trans L4.1.1
  refine ⟨⟨m0, b0⟩, ?_⟩
  generalize hm2 : setR m1 (hd 100 0) 14 (hd 124 (j + 1)) = μ5
  have F5 : FrS (OwO9 j) μ4 μ5 := by
    rw [← hm2]
    exact (g1.mono (fun κ i z => Or.inl z)).sR (by decide) (Or.inr ⟨rfl, rfl⟩)
  have e124 : ∀ k, gR μ5 (hd 124 (j + 1)) k = gR m1 (hd 124 (j + 1)) k := fun k => by rw [← hm2, gR_hi (hi_hd (by decide) (by decide)), gR_hi (hi_hd (by decide) (by decide)), mR_set, if_neg (fun z => hd_ne (by decide) (by decide) (by decide) z.1)]
  have Lc : LQ μ4 P N R (j + 1) j X (upW W j w) (c2 + 1 + 1) := L4.cg (fun _ _ _ _ => rfl) (fun k hk i _ => by rw [upW_o (by omega)])
  have L5 : LQ μ5 P N R (j + 1) (j + 1) X (upW W j w) (c2 + 1 + 1) := by
    refine Lc.ord F5 (fun k hk => ?_) (fun k => ?_) (by rw [← hm2]; exact m0) (by rw [← hm2, gR_hi b0, mR_set, if_pos ⟨rfl, rfl⟩]) (by rw [← hm2]; exact x1) (fun k hk => (e124 k).trans (x2 k hk)) ((e124 j).trans x3) (by rw [upW_r]; exact r4)
    · rw [← hm2, gR_hi b0, mR_set, if_neg (fun z => hk z.2), ← gR_hi b0, g1.gr (by decide) n0]
    · rw [← hm2, gI_hi b0, mI_setR, ← gI_hi b0, g1.gi (by decide) n0]
  have M5 := M4.fx F5 (fun κ i z => by unfold OwO9 at z; omega)
  have s5 := sc_fr s4 F5 (fun κ i z => by unfold OwO9 at z; omega)
  have w5 : WR μ5 R := BxR.fr w4 F5 (by rw [← hm2, gR_hi b0, mR_set, if_neg (by omega), ← gR_hi b0]; exact g1.gr (by decide) n0) (by decide) (by unfold OwO9; omega) (fun k _ => by unfold OwO9; omega)
  have e : ((Y ++ hB w) ++ teB w) ++ txN 69 = Y ++ flT (orT w) := by
    rw [or_B hw hP hN hR]; simp only [List.append_assoc]
  rw [e] at M5
  exact kk μ5 _ _ _ _ ⟨L5, M5, s5⟩ w5 (by omega) (by omega)
end LI5
