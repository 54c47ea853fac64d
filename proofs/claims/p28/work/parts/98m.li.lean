/-! the law's list: parishes and notices are told -/
section LI1
variable {d rc rs : Nat} {Q : Option Value → Mu → Prop} {μ : Mu} {P N R r j c cv Ls R1 R2 : Nat} {X W : Nat → Nat → Nat} {F G H : Nat → Nat} {Y : List Nat}
/-- how long the text is so far -/
theorem bl_of {l : List TkE} {m : Nat} (h : LnC l) (hb : sB l ≤ m) : (flT l).length ≤ m := Nat.le_trans (flT_le l (33, 0, 0) (h (33, 0, 0) rfl).1) hb
theorem bl_pa (hP : P ≤ 5) : (flT (fl paT P)).length ≤ 65 := bl_of (LnC.rows P (fun k hk => pa_C (by omega))) (by have := sB_fl (f := paT) (m := 13) (fun _ => Nat.le_of_ble_eq_true rfl) P; omega)
theorem bl_no (hN : N ≤ 3) : (flT (fl noT N)).length ≤ 39 := bl_of (LnC.rows N (fun k hk => no_C (by omega))) (by have := sB_fl (f := noT) (m := 13) (fun _ => Nat.le_of_ble_eq_true rfl) N; omega)
theorem bl_rd (hR : R ≤ 8) (h : ∀ k, k < R → F k < 5 ∧ G k < 5 ∧ H k ≤ 9) : (flT (fl (rdT F G H) R)).length ≤ 344 := bl_of (LnC.rows R (fun k hk => rd_C (by omega) (h k hk).1 (h k hk).2.1 (h k hk).2.2)) (by have := sB_fl (f := rdT F G H) (m := 43) (fun _ => Nat.le_of_ble_eq_true rfl) R; omega)
theorem bl_od (hj : j ≤ 10) (hP : P ≤ 5) (hN : N ≤ 3) (hR : R ≤ 8) (h : ∀ k, k < j → oB P N R (W k)) : (flT (fl (fun k => orT (W k)) j)).length ≤ 1350 := bl_of (LnC.rows j (fun k hk => or_C (h k hk) hP hN hR)) (by have := sB_fl (f := fun k => orT (W k)) (m := 135) (fun _ => or_sB) j; omega)
/-- what stands while the list is told -/
def LsT (μ : Mu) (P N r j : Nat) (X W : Nat → Nat → Nat) (cv c : Nat) (Y : List Nat) (Ls : Nat) : Prop := LQ μ P N r j j X W c ∧ Mb μ cv c Y ∧ SCl μ Ls
set_option maxRecDepth 100000 in
set_option maxHeartbeats 4000000 in
theorem li_45 (hD : 8 ≤ d) (hP : P ≤ 5) (hN : N ≤ 3) (kk : ∀ μ c cv rc rs, LsT μ P N 0 0 X W cv c (flT (fl paT P)) Ls → WF μ → R1 ≤ rc → R2 ≤ rs → Wx K_LW_list d rc rs Q 77 [(0, .ref (hd 6 0)), (1, .ref (hd 105 0)), (2, .ref (hd 100 0)), (3, .int (nI P)), (4, .int (nI N)), (5, .int 0)] [] μ) :
    ∀ k, k ≤ P → ∀ μ c cv rc rs, LsT μ P N 0 0 X W cv c (flT (fl paT k)) Ls → WF μ → (P - k) * 3 + R1 ≤ rc → (P - k) * 12006 + R2 ≤ rs → Wx K_LW_list d rc rs Q 45 [(0, .ref (hd 6 0)), (1, .ref (hd 105 0)), (2, .ref (hd 100 0)), (3, .int (nI P)), (4, .int (nI N)), (5, .int (nI k))] [] μ := by
  refine up_loop P (fun μ c cv rc rs hL hw b1 b2 => ?_) (fun k hk ih μ0 c cv rc rs hL w0 b1 b2 => ?_)
  · exact y_LW_list_45 (by omega) ⟨fun _ => kk μ c cv rc rs hL hw (by omega) (by omega), fun h => absurd (Int32.le_refl _) h⟩
  · obtain ⟨L0, M0, s0⟩ := hL
    have l0 := bl_pa (P := k) (by omega)
    have l1 := ln_dg (x := k) (by omega)
    refine y_LW_list_45 (by omega) ⟨fun h => absurd ((nI_leI (by omega) (by omega)).mp h) (by omega), fun _ => ?_⟩
    refine ⟨1, 4002, ⟨by omega, by omega⟩, M0.sh, M0.app (M := 2000) (lit_R M0.2.1 (by decide)) (Or.inl ⟨rfl, rfl⟩) (by omega) ⟨by simp only [List.length_append, List.length_nil, List.length_cons, tx45, tx46, tx47, tx48, tx49, tx50, tx51, tx52, tx53, tx54, tx55, tx56, tx57, tx58, tx59, tx60, tx61, tx62, tx63, tx64, tx65, tx66, tx67, tx68, tx69, tx70, tx74, tx75, tx76, tx77, tx78, tx79, tx80]; omega, by decide⟩ (Nat.le_refl _) (Nat.le_refl _) (fun μ1 M1 f1 => ⟨_, rfl, ?_⟩)⟩
    have L1 := L0.ot f1 (Nat.le_succ _)
    have w1 := w0.ot f1
    have s1 := sc_fr s0 f1 (fun κ i z => z.lo)
    refine ⟨1, 4002, ⟨by omega, by omega⟩, M1.sh, M1.api (M := 2000) (show k < 100 by omega) (by omega) ⟨by simp only [List.length_append, List.length_nil, List.length_cons, tx45, tx46, tx47, tx48, tx49, tx50, tx51, tx52, tx53, tx54, tx55, tx56, tx57, tx58, tx59, tx60, tx61, tx62, tx63, tx64, tx65, tx66, tx67, tx68, tx69, tx70, tx74, tx75, tx76, tx77, tx78, tx79, tx80]; omega, by decide⟩ (Nat.le_refl _) (Nat.le_refl _) (fun μ2 M2 f2 => ⟨_, rfl, ?_⟩)⟩
    have L2 := L1.ot f2 (Nat.le_succ _)
    have w2 := w1.ot f2
    have s2 := sc_fr s1 f2 (fun κ i z => z.lo)
    refine ⟨1, 4002, ⟨by omega, by omega⟩, M2.sh, M2.app (M := 2000) (lit_R M2.2.1 (by decide)) (Or.inl ⟨rfl, rfl⟩) (by omega) ⟨by simp only [List.length_append, List.length_nil, List.length_cons, tx45, tx46, tx47, tx48, tx49, tx50, tx51, tx52, tx53, tx54, tx55, tx56, tx57, tx58, tx59, tx60, tx61, tx62, tx63, tx64, tx65, tx66, tx67, tx68, tx69, tx70, tx74, tx75, tx76, tx77, tx78, tx79, tx80]; omega, by decide⟩ (Nat.le_refl _) (Nat.le_refl _) (fun μ3 M3 f3 => ⟨_, rfl, ?_⟩)⟩
    have L3 := L2.ot f3 (Nat.le_succ _)
    have w3 := w2.ot f3
    have s3 := sc_fr s2 f3 (fun κ i z => z.lo)
    rw [nI_s]
    have e : ((flT (fl paT k) ++ txN 62) ++ dgN k) ++ txN 63 = flT (fl paT (k + 1)) := by
      rw [flT_fl, pa_B (by omega)]; unfold paB; simp only [List.append_assoc]
    rw [e] at M3
    exact ih μ3 _ _ _ _ ⟨L3, M3, s3⟩ w3 (by omega) (by omega)

set_option maxRecDepth 100000 in
set_option maxHeartbeats 4000000 in
theorem li_77 (hD : 8 ≤ d) (hP : P ≤ 5) (hN : N ≤ 3) (hLs : Ls ≤ 260) (kk : ∀ μ c cv rc rs R, 1 ≤ R → R ≤ 8 → LsT μ P N 0 0 X W cv c (flT (fl paT P) ++ flT (fl noT N)) Ls → WF μ → R1 ≤ rc → R2 ≤ rs → Wx K_LW_list d rc rs Q 124 [(0, .ref (hd 6 0)), (1, .ref (hd 105 0)), (2, .ref (hd 100 0)), (3, .int (nI P)), (4, .int (nI N)), (5, .int (nI R)), (6, .int 0)] [] μ) :
    ∀ k, k ≤ N → ∀ μ c cv rc rs, LsT μ P N 0 0 X W cv c (flT (fl paT P) ++ flT (fl noT k)) Ls → WF μ → (N - k) * 3 + R1 ≤ rc → (N - k) * 12006 + R2 ≤ rs → Wx K_LW_list d rc rs Q 77 [(0, .ref (hd 6 0)), (1, .ref (hd 105 0)), (2, .ref (hd 100 0)), (3, .int (nI P)), (4, .int (nI N)), (5, .int (nI k))] [] μ := by
  refine up_loop N (fun μ c cv rc rs hL hw b1 b2 => ?_) (fun k hk ih μ0 c cv rc rs hL w0 b1 b2 => ?_)
  · have S := hL.2.1.2.1
    refine y_LW_list_77 (by omega) ⟨fun _ => c8_cell (k := 1) hL.2.2 hLs (by decide) (by omega) S (fun y => ⟨_, rfl, c8_below (n := 8) (by decide) (by decide) (by omega) S ⟨_, rfl, ?_⟩⟩), fun h => absurd (Int32.le_refl _) h⟩
    have hb := below_lt (x := y) (n := 8) (by decide)
    rw [I1, nI_add]
    exact kk μ c cv _ _ (1 + belowN y 8) (by omega) (by omega) hL hw (by omega) (by omega)
  · obtain ⟨L0, M0, s0⟩ := hL
    have l0 := bl_pa (P := P) hP
    have l2 := bl_no (N := k) (by omega)
    have l1 := ln_dg (x := k) (by omega)
    refine y_LW_list_77 (by omega) ⟨fun h => absurd ((nI_leI (by omega) (by omega)).mp h) (by omega), fun _ => ?_⟩
    refine ⟨1, 4002, ⟨by omega, by omega⟩, M0.sh, M0.app (M := 2000) (lit_R M0.2.1 (by decide)) (Or.inl ⟨rfl, rfl⟩) (by omega) ⟨by simp only [List.length_append, List.length_nil, List.length_cons, tx45, tx46, tx47, tx48, tx49, tx50, tx51, tx52, tx53, tx54, tx55, tx56, tx57, tx58, tx59, tx60, tx61, tx62, tx63, tx64, tx65, tx66, tx67, tx68, tx69, tx70, tx74, tx75, tx76, tx77, tx78, tx79, tx80]; omega, by decide⟩ (Nat.le_refl _) (Nat.le_refl _) (fun μ1 M1 f1 => ⟨_, rfl, ?_⟩)⟩
    have L1 := L0.ot f1 (Nat.le_succ _)
    have w1 := w0.ot f1
    have s1 := sc_fr s0 f1 (fun κ i z => z.lo)
    refine ⟨1, 4002, ⟨by omega, by omega⟩, M1.sh, M1.api (M := 2000) (show k < 100 by omega) (by omega) ⟨by simp only [List.length_append, List.length_nil, List.length_cons, tx45, tx46, tx47, tx48, tx49, tx50, tx51, tx52, tx53, tx54, tx55, tx56, tx57, tx58, tx59, tx60, tx61, tx62, tx63, tx64, tx65, tx66, tx67, tx68, tx69, tx70, tx74, tx75, tx76, tx77, tx78, tx79, tx80]; omega, by decide⟩ (Nat.le_refl _) (Nat.le_refl _) (fun μ2 M2 f2 => ⟨_, rfl, ?_⟩)⟩
    have L2 := L1.ot f2 (Nat.le_succ _)
    have w2 := w1.ot f2
    have s2 := sc_fr s1 f2 (fun κ i z => z.lo)
    refine ⟨1, 4002, ⟨by omega, by omega⟩, M2.sh, M2.app (M := 2000) (lit_R M2.2.1 (by decide)) (Or.inl ⟨rfl, rfl⟩) (by omega) ⟨by simp only [List.length_append, List.length_nil, List.length_cons, tx45, tx46, tx47, tx48, tx49, tx50, tx51, tx52, tx53, tx54, tx55, tx56, tx57, tx58, tx59, tx60, tx61, tx62, tx63, tx64, tx65, tx66, tx67, tx68, tx69, tx70, tx74, tx75, tx76, tx77, tx78, tx79, tx80]; omega, by decide⟩ (Nat.le_refl _) (Nat.le_refl _) (fun μ3 M3 f3 => ⟨_, rfl, ?_⟩)⟩
    have L3 := L2.ot f3 (Nat.le_succ _)
    have w3 := w2.ot f3
    have s3 := sc_fr s2 f3 (fun κ i z => z.lo)
    rw [nI_s]
    have e : (((flT (fl paT P) ++ flT (fl noT k)) ++ txN 64) ++ dgN k) ++ txN 63 = flT (fl paT P) ++ flT (fl noT (k + 1)) := by
      rw [flT_fl, no_B (by omega)]; unfold noB; simp only [List.append_assoc]
    rw [e] at M3
    exact ih μ3 _ _ _ _ ⟨L3, M3, s3⟩ w3 (by omega) (by omega)
end LI1
