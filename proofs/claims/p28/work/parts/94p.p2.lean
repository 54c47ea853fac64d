/-! a day: what comes waits; the loads that stay -/
noncomputable def wtD (D : DT) (W : Nat → Nat → Prop) : DT := fun f i j => if f = 8 then bN (W i j) else D f i j
/-- what waits once these loads are looked at -/
def wtP (D : DT) (l : List Ld) (b k : Nat) : Prop := pWt D b k ∨ ∃ e ∈ l, e.2.2.1 = D 0 0 0 ∧ D 12 e.2.1 1 = b ∧ k ∈ e.2.2.2 ∧ ¬ pKn D b k
section SP2
variable {d rc rs : Nat} {Q : Option Value → Mu → Prop} {μ μ' : Mu} {T : PT} {D D' E : DT} {OO : Nat → Nat → Nat} {c c' c'' : Nat} {Λ : List Ld} {own : Nat → Nat → Prop}
theorem wt_f {W : Nat → Nat → Prop} {f i j : Nat} (h : f ≠ 8) : wtD D W f i j = D f i j := if_neg h
theorem wt_W {W : Nat → Nat → Prop} {b k : Nat} : pWt (wtD D W) b k ↔ W b k := by
  unfold pWt wtD
  rw [if_pos rfl]
  by_cases h : W b k
  · rw [bN_t h]; exact ⟨fun _ => h, fun _ => by decide⟩
  · rw [bN_f h]; exact ⟨fun z => absurd rfl z, fun z => absurd z h⟩
/-- only rows of waiting change -/
theorem SR.wt {W : Nat → Nat → Prop} (h : SR μ T D OO c) (g : FrS own μ μ') (hc : c ≤ c') (ho : ∀ κ i, own κ i → κ = 112 ∨ Dy c c' κ i) (hs : ∀ p, p < T 0 0 → mS μ' (hd 112 p) = (5, 60)) (hw : ∀ p, p < T 0 0 → ∀ k, k < 60 → gI μ' (hd 112 p) k = bI (pWt D' p k)) (e : ∀ f, f ≠ 8 → f ≠ 11 → ∀ i j, D' f i j = D f i j) : SR μ' T D' OO c' := by
  have n1 : ∀ κ i, κ < 130 → κ ≠ 112 → ¬ own κ i := fun κ i h1 h2 z => by have := ho κ i z; unfold Dy at this; omega
  have e0R : ∀ f, gR μ' (hd 100 0) f = gR μ (hd 100 0) f := fun f => g.gr (by decide) (n1 _ _ (by decide) (by decide))
  have e0I : ∀ f, gI μ' (hd 100 0) f = gI μ (hd 100 0) f := fun f => g.gi (by decide) (n1 _ _ (by decide) (by decide))
  obtain ⟨o1, o2, o3, o4, o5, o6, o7⟩ := h.1
  refine h.ext g hc (fun κ i z => (ho κ i z).elim (fun z => Or.inr (Or.inl z)) (fun z => Or.inr (Or.inr (Or.inr (Or.inr z))))) (fun f _ => e0R f) ⟨?_, ?_, ?_, ?_, ?_, ?_, ?_⟩ (fun f hf i j => e f (by omega) (by omega) i j) (fun p hp => ⟨hs p hp, hw p hp⟩) (fun p hp => ⟨?_, fun k hk => ?_⟩) (fun p hp => ⟨?_, fun k hk => ?_⟩)
  · exact (g.S (by decide) (n1 _ _ (by decide) (by decide))).trans o1
  · rw [e0I, o2, e 0 (by decide) (by decide)]
  · rw [e0I, o3, e 2 (by decide) (by decide)]
  · rw [e0I, o4, merged_congr (D := D) (D' := D') (e 1 (by decide) (by decide) 0 0) (fun s => e 4 (by decide) (by decide) s 5)]
  · rw [e0I, o5, e 3 (by decide) (by decide)]
  · rw [e0I, o6]
  · rw [e0I, o7]
  · exact (g.S (by decide) (n1 _ _ (by decide) (by decide))).trans (h.2.2.2.2.2.2.1.2.2 p hp).2.1
  · rw [g.gi (by decide) (n1 _ _ (by decide) (by decide)), (h.2.2.2.2.2.2.1.2.2 p hp).2.2 k hk]
    unfold rdX; rw [e 12 (by decide) (by decide), e 9 (by decide) (by decide)]
  · exact (g.S (by decide) (n1 _ _ (by decide) (by decide))).trans (h.2.2.2.2.2.2.2.1.2.2 p hp).2.1
  · rw [g.gi (by decide) (n1 _ _ (by decide) (by decide)), (h.2.2.2.2.2.2.2.1.2.2 p hp).2.2 k hk]
    unfold pGo; rw [e 10 (by decide) (by decide)]
theorem nar_or {p : Prop} {x : Int32} (hx : x = 0 ∨ x = 1) : vp_nar .boolean (bI p ||| x) = if x = 1 then 1 else bI p := by
  rcases bI_01 (p := p) with h | h <;> rcases hx with rfl | rfl <;> rw [h] <;> decide
theorem keep_app {dy : Nat} {l : List Ld} {e : Ld} : keepL dy (l ++ [e]) = if e.2.2.1 = dy then keepL dy l else keepL dy l ++ [e] := by
  unfold keepL
  rw [List.filter_append]
  by_cases z : e.2.2.1 = dy
  · rw [if_pos z, List.filter_cons, if_neg (by simp [z])]; simp
  · rw [if_neg z, List.filter_cons, if_pos (by simp [z])]; simp
theorem keep_len {dy : Nat} (l : List Ld) : (keepL dy l).length ≤ l.length := List.length_filter_le _ _
theorem keep_take {dy x : Nat} (l : List Ld) : (keepL dy (l.take x)).length ≤ (keepL dy l).length := by
  have : keepL dy l = keepL dy (l.take x) ++ keepL dy (l.drop x) := by
    unfold keepL
    rw [← List.filter_append, List.take_append_drop]
  rw [this, List.length_append]
  omega
theorem take_g {x : Nat} {e : Ld} (h : Λ[x]? = some e) : Λ.take (x + 1) = Λ.take x ++ [e] := by
  rw [List.take_succ, h]; rfl
theorem LPd.ksl {e : Ld} (hP : LPd T D Λ) (hB : DB T D) (he : e ∈ Λ) : e.2.2.2.length ≤ 60 := by
  have h60 := hB.1.2.2.2.2.1
  obtain ⟨a1, -⟩ := hP.1 e he
  have h3 := hP.2.2.2 e.2.1 a1
  have h4 : ∀ l : List Ld, e ∈ l → e.2.2.2.length ≤ cntL l e.2.1 := by
    intro l
    induction l with
    | nil => intro h; cases h
    | cons x l ih =>
      intro h
      rcases List.mem_cons.mp h with rfl | h
      · show _ ≤ cntL l e.2.1 + (if e.2.1 = e.2.1 then _ else 0)
        rw [if_pos rfl]; omega
      · have := ih h
        show _ ≤ cntL l e.2.1 + _
        omega
  have h5 := h4 Λ he
  have : uwN D e.2.1 ≤ D 1 0 0 * 1 := sumN_le _ (fun _ _ => bN_le)
  omega
/-- what comes is put among what waits -/
theorem pass_119 {D2 : DT} {e : Ld} {i1 : Nat} (hI : Inv T D) (hR : SR μ T D2 OO c) (hk2 : ∀ b k, pKn D2 b k ↔ pKn D b k) (hP : LPd T D Λ) (he : e ∈ Λ) (hdy : e.2.2.1 = D 0 0 0) (hLd : LdR μ c e) (hD : 1 ≤ d) (a2 : Nat) (x3 x4 : Int32) (l0 : List Ld)
    (kk : ∀ μ', FrS (fun κ i => κ = 112) μ μ' → (∀ p, p < T 0 0 → mS μ' (hd 112 p) = (5, 60) ∧ ∀ k, k < 60 → gI μ' (hd 112 p) k = bI (wtP D (l0 ++ [e]) p k)) → Wx K_SI_pass d rc rs Q 70 [(0, .ref (hd 100 0)), (1, .ref (hd 131 i1)), (2, .ref a2), (3, .int x3), (4, .int (x4 + 1))] [] μ')
    (hw : ∀ p, p < T 0 0 → mS μ (hd 112 p) = (5, 60) ∧ ∀ k, k < 60 → gI μ (hd 112 p) k = bI (wtP D l0 p k)) :
    Wx K_SI_pass d rc rs Q 119 [(0, .ref (hd 100 0)), (1, .ref (hd 131 i1)), (2, .ref a2), (3, .int x3), (4, .int x4), (5, .ref (hd 130 e.1)), (6, .int (nI (D 12 e.2.1 1))), (7, .int 2)] [] μ := by
  have hB := hI.1
  have hP5 := hB.1.1
  have h60 := hB.1.2.2.2.2.1
  obtain ⟨a1, a2', a3, a4⟩ := hP.1 e he
  obtain ⟨r1, r2, r3, r4, r5⟩ := hB.2.2.2 e.2.1 a1
  obtain ⟨d1, d2, d3, d4, d5⟩ := hLd
  have hlen := hP.ksl hB he
  generalize hb : D 12 e.2.1 1 = b at *
  have loop : ∀ j, j ≤ e.2.2.2.length → ∀ μ', FrS (fun κ i => κ = 112) μ μ' → (∀ p, p < T 0 0 → mS μ' (hd 112 p) = (5, 60) ∧ ∀ k, k < 60 → gI μ' (hd 112 p) k = bI (wtP D l0 p k ∨ (p = b ∧ ¬ pKn D b k ∧ ∃ y, y < j ∧ e.2.2.2.getD y 0 = k))) → Wx K_SI_pass d rc rs Q 119 [(0, .ref (hd 100 0)), (1, .ref (hd 131 i1)), (2, .ref a2), (3, .int x3), (4, .int x4), (5, .ref (hd 130 e.1)), (6, .int (nI b)), (7, .int (nI (j + 2)))] [] μ' := by
    refine up_loop _ (fun μ' g w => ?_) (fun j hj ih μ' g w => ?_)
    · refine r_SI_pass_119 hD ⟨_, (g.S (by decide) (by decide)).trans d2, fun _ => ?_, fun h => absurd (Int32.le_refl _) h⟩
      refine kk μ' g (fun p hp => ⟨(w p hp).1, fun k hk => ?_⟩)
      rw [(w p hp).2 k hk]
      refine bI_congr ?_
      unfold wtP
      constructor
      · rintro ((z | ⟨x, x1, x2⟩) | ⟨z1, z2, z3⟩)
        · exact Or.inl z
        · exact Or.inr ⟨x, List.mem_append_left _ x1, x2⟩
        · exact Or.inr ⟨e, List.mem_append_right _ (List.mem_singleton.mpr rfl), hdy, by rw [hb, z1], getD_mem.mpr z3, by rw [z1]; exact z2⟩
      · rintro (z | ⟨x, x1, x2, x3, x4, x5⟩)
        · exact Or.inl (Or.inl z)
        · rcases List.mem_append.mp x1 with y | y
          · exact Or.inl (Or.inr ⟨x, y, x2, x3, x4, x5⟩)
          · obtain rfl := List.mem_singleton.mp y
            have ep : p = b := by rw [← x3, hb]
            exact Or.inr ⟨ep, by rw [← ep]; exact x5, getD_mem.mp x4⟩
    · have hkm : e.2.2.2.getD j 0 ∈ e.2.2.2 := getD_mem.mpr ⟨j, hj, rfl⟩
      have hkS := (a4 _ hkm).1
      have R1 := hR
      have x10 := hR.2.2.2.2.2.1
      have x8 := hR.2.2.2.1
      have ej : gI μ' (hd 130 e.1) (nI (j + 2)).toNatClampNeg = nI (e.2.2.2.getD j 0) := by
        rw [nI_clamp (by omega), g.gi (by decide) (by decide)]; exact d5 j hj
      have cb : (nI b).toNatClampNeg = b := nI_clamp (by omega)
      generalize hk0 : e.2.2.2.getD j 0 = k0 at *
      have so : mS μ' (hd 100 0) = (1, 11) := (g.S (by decide) (by decide)).trans hR.1.1
      have l2 : mS μ' (hd 130 e.1) = (2, e.2.2.2.length + 2) := (g.S (by decide) (by decide)).trans d2
      have vj : vp_in (nI (j + 2)) (e.2.2.2.length + 2) := vI (by omega) (by omega)
      refine r_SI_pass_119 hD ⟨_, l2, fun h => absurd ((nI_leI (by omega) (by omega)).mp h) (by omega), fun _ => ⟨so, _, (g.gr (by decide) (by decide)).trans x10.1, _, ⟨(g.S (by decide) (by decide)).trans x10.2.1, vI r2 (by omega)⟩, hd 112 b, by rw [cb]; exact (g.gr (by decide) (by decide)).trans (x10.2.2 b r2).1, _, ⟨l2, vj⟩, 60, ⟨(w b r2).1, by rw [ej]; exact vI (by omega) (by decide)⟩, so, _, (g.gr (by decide) (by decide)).trans x8.1, _, ⟨(g.S (by decide) (by decide)).trans x8.2.1, vI r2 (by omega)⟩, hd 110 b, by rw [cb]; exact (g.gr (by decide) (by decide)).trans (x8.2.2 b r2).1, _, ⟨l2, vj⟩, 60, ⟨(g.S (by decide) (by decide)).trans (x8.2.2 b r2).2.1, by rw [ej]; exact vI (by omega) (by decide)⟩, ?_⟩⟩
      rw [ej, nI_clamp (show k0 < 2 ^ 31 by omega), g.gi (by decide) (by decide), (x8.2.2 b r2).2.2 k0 (by omega), bI_congr (hk2 b k0)]
      have vk : vp_in (nI k0) 60 := vI (by omega) (by decide)
      have step : ∀ x : Int32, (x = 0 ∨ x = 1) → (x = 1 ↔ ¬ pKn D b k0) → Wx K_SI_pass d rc rs Q 119 [(0, .ref (hd 100 0)), (1, .ref (hd 131 i1)), (2, .ref a2), (3, .int x3), (4, .int x4), (5, .ref (hd 130 e.1)), (6, .int (nI b)), (7, .int (nI (j + 2) + 1))] [] (setI μ' (hd 112 b) k0 (vp_nar .boolean (gI μ' (hd 112 b) k0 ||| x))) := fun x hx hxx => by
        rw [nI_s, (w b r2).2 k0 (by omega), nar_or hx]
        refine ih _ (g.sI (by decide) rfl) (fun p hp => ⟨(w p hp).1, fun k hk => ?_⟩)
        have e2 : ∀ X : Int32, gI (setI μ' (hd 112 b) k0 X) (hd 112 p) k = if p = b ∧ k = k0 then X else gI μ' (hd 112 p) k := fun X => by
          rw [gI_h (by decide) (by decide)]
          by_cases z : p = b
          · rw [z]
            by_cases z2 : k = k0
            · rw [z2, rd_eq, if_pos ⟨rfl, rfl⟩]
            · rw [rd_k z2, if_neg (fun v => z2 v.2), ← gI_h (by decide) (by decide)]
          · rw [rd_i z, if_neg (fun v => z v.1), ← gI_h (by decide) (by decide)]
        rw [e2]
        by_cases z : p = b ∧ k = k0
        · rw [if_pos z, z.1, z.2]
          by_cases y : x = 1
          · rw [if_pos y, bI_t (Or.inr ⟨rfl, hxx.mp y, j, by omega, hk0⟩)]
          · rw [if_neg y]
            refine bI_congr (or_congr_right ⟨fun v => absurd (hxx.mpr v.2.1) y, fun v => absurd (hxx.mpr v.2.1) y⟩)
        · rw [if_neg z, (w p hp).2 k hk]
          refine bI_congr (or_congr_right ⟨fun v => ⟨v.1, v.2.1, ?_⟩, fun v => ⟨v.1, v.2.1, ?_⟩⟩)
          · obtain ⟨y, y1, y2⟩ := v.2.2
            exact ⟨y, by omega, y2⟩
          · obtain ⟨y, y1, y2⟩ := v.2.2
            refine ⟨y, ?_, y2⟩
            rcases Nat.lt_or_ge y j with t | t
            · exact t
            · obtain rfl : y = j := by omega
              exact absurd ⟨v.1, by rw [← y2, hk0]⟩ z
      refine bIs (fun h => ⟨60, ⟨(w b r2).1, vk, hi_hd (by decide) (by decide)⟩, step 1 (Or.inr rfl) ⟨fun _ => h, fun _ => rfl⟩⟩) (fun h => ⟨60, ⟨(w b r2).1, vk, hi_hd (by decide) (by decide)⟩, step 0 (Or.inl rfl) ⟨fun z => absurd z (by decide), fun z => absurd h z⟩⟩)
  exact loop 0 (Nat.zero_le _) μ FrS.rf (fun p hp => ⟨(hw p hp).1, fun k hk => by
    rw [(hw p hp).2 k hk]
    exact bI_congr ⟨fun z => Or.inl z, fun z => z.elim id (fun v => by obtain ⟨y, y1, _⟩ := v.2.2; omega)⟩⟩)
end SP2
