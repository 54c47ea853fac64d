/-! a day of the law's boards -/
section SQ
variable {d rc rs : Nat} {Q : Option Value → Mu → Prop} {μ μ' : Mu} {T : PT} {D D' E : DT} {C Ct : Nat → List Op} {OO : Nat → Nat → Nat} {c c' c'' : Nat} {Λ : List Ld} {own : Nat → Nat → Prop}
theorem SR.s13 {x : Nat} (h : SR μ T D OO c) : SR (setR μ (hd 100 0) 13 x) T D OO c := by
  have g : FrS (fun κ i => κ = 100 ∧ i = 0) μ (setR μ (hd 100 0) 13 x) := FrS.rf.sR (by decide) ⟨rfl, rfl⟩
  have ei : ∀ κ i k, gI (setR μ (hd 100 0) 13 x) (hd κ i) k = gI μ (hd κ i) k := fun κ i k => rfl
  obtain ⟨o1, o2, o3, o4, o5, o6, o7⟩ := h.1
  refine h.ext g (Nat.le_refl _) (fun κ i z => Or.inl z) (fun f hf => ?_) ⟨o1, o2, o3, o4, o5, o6, o7⟩ (fun f _ i j => rfl) (fun p hp => (h.2.2.2.2.2.1.2.2 p hp).2) (fun p hp => (h.2.2.2.2.2.2.1.2.2 p hp).2) (fun p hp => (h.2.2.2.2.2.2.2.1.2.2 p hp).2)
  rw [gR_h (by decide) (by decide), R_k hf, ← gR_h (by decide) (by decide)]
theorem br_e {f i j : Nat} (h8 : f ≠ 8) (h11 : f ≠ 11) : brA D (T 2 0) f i j = D f i j := brA_f h8 h11 _
theorem wt_br (hP : LPd T D Λ) (hI : Inv T D) {b k : Nat} : wtP D Λ b k ↔ pWt (brA D (T 2 0)) b k := by
  unfold wtP pWt pKn
  rw [brA_8]
  constructor
  · rintro (z | ⟨e, he, e1, e2, e3, e4⟩)
    · exact Or.inl z
    · obtain ⟨a1, a2, a3, a4⟩ := hP.1 e he
      obtain ⟨b1, b2⟩ := a4 k e3
      exact Or.inr ⟨e.2.1, a1, b1, e2, by rw [b2, e1], fun z => e4 ⟨b1, z⟩⟩
  · rintro (z | ⟨r, hr, hs, h1, h2, h3⟩)
    · exact Or.inl z
    · have h60 := hI.1.1.2.2.2.2.1
      obtain ⟨e, he, e1, e2, e3⟩ := hP.2.1 r k hr (by omega) (by omega)
      exact Or.inr ⟨e, he, by omega, by rw [e1]; exact h1, e3, fun z => h3 z.2⟩
/-- the loads -/
theorem pass_70 {q i0 : Nat} (hI : Inv T D) (hP : LPd T D Λ) (hR : SR μ T D OO c) (hq : LoR μ q Λ c) (h0 : LoR μ i0 [] c) (hS : St μ) (hD : 3 ≤ d) (hc : (keepL (D 0 0 0) Λ).length + 600 ≤ rc) (hs : 481 * (keepL (D 0 0 0) Λ).length + 19500 ≤ rs) (hΛ : Λ.length ≤ 480)
    (kk : ∀ μ' c' rc' rs', c ≤ c' → FrS (OwH c c') μ μ' → St μ' → SR μ' T (brA D (T 2 0)) OO c' → LR μ' (keepL (D 0 0 0) Λ) c' → 600 ≤ rc' → 19500 ≤ rs' → Wx K_SI_pass d rc' rs' (fun r μ' => St μ' ∧ Q r μ') 183 [(0, .ref (hd 100 0)), (2, .int 0)] [] μ') :
    Wx K_SI_pass d rc rs (fun r μ' => St μ' ∧ Q r μ') 70 [(0, .ref (hd 100 0)), (1, .ref (hd 131 i0)), (2, .ref (hd 131 q)), (3, .int (nI Λ.length)), (4, .int 0)] [] μ := by
  have hB := hI.1
  have hP5 := hB.1.1
  have hR8 := hB.1.2.2.1
  have h60 := hB.1.2.2.2.2.1
  have hdy := hB.1.2.2.2.2.2
  have loop : ∀ j, j ≤ Λ.length → ∀ μ' c' i1 rc' rs', c ≤ c' → FrS (fun κ i => κ = 112 ∨ Dy c c' κ i) μ μ' → LoR μ' i1 (keepL (D 0 0 0) (Λ.take j)) c' → (∀ p, p < T 0 0 → mS μ' (hd 112 p) = (5, 60) ∧ ∀ k, k < 60 → gI μ' (hd 112 p) k = bI (wtP D (Λ.take j) p k)) → rc ≤ rc' + (keepL (D 0 0 0) (Λ.take j)).length → rs ≤ rs' + 481 * (keepL (D 0 0 0) (Λ.take j)).length → Wx K_SI_pass d rc' rs' (fun r μ' => St μ' ∧ Q r μ') 70 [(0, .ref (hd 100 0)), (1, .ref (hd 131 i1)), (2, .ref (hd 131 q)), (3, .int (nI Λ.length)), (4, .int (nI j))] [] μ' := by
    refine up_loop _ (fun μ' c' i1 rc' rs' hcc g l w b1 b2 => ?_) (fun j hj ih μ' c' i1 rc' rs' hcc g l w b1 b2 => ?_)
    · rw [List.take_length] at l w b1 b2
      have so : mS μ' (hd 100 0) = (1, 11) := (g.S (by decide) (by unfold Dy; omega)).trans hR.1.1
      refine r_SI_pass_70 (by omega) ⟨fun _ => ⟨⟨so, hi_hd (by decide) (by decide)⟩, ?_⟩, fun h => absurd (Int32.le_refl _) h⟩
      have S' := g.st (fun κ i z => by unfold Dy at z; omega) hS
      have R' : SR μ' T (brA D (T 2 0)) OO c' := hR.wt (W := fun _ _ => True) g hcc (fun κ i z => z) (fun p hp => (w p hp).1) (fun p hp k hk => by rw [(w p hp).2 k hk]; exact bI_congr (wt_br hP hI)) (fun f h8 h11 i j => br_e h8 h11)
      have f13 : FrS (fun κ i => κ = 100 ∧ i = 0) μ' (setR μ' (hd 100 0) 13 (hd 131 i1)) := FrS.rf.sR (by decide) ⟨rfl, rfl⟩
      refine kk _ c' rc' rs' hcc ((g.mono (fun κ i z => by unfold OwH Dy at *; omega)).trans (f13.mono (fun κ i z => by unfold OwH; omega))) (f13.st (fun κ i z => by omega) S') R'.s13 ⟨i1, ?_, ?_⟩ (by omega) (by omega)
      · rw [gR_h (by decide) (by decide), R_eq]
      · exact l.fr f13 (Nat.le_refl _) (fun i hi z => by omega) (fun i hi z => by omega)
    · have so : mS μ' (hd 100 0) = (1, 11) := (g.S (by decide) (by unfold Dy; omega)).trans hR.1.1
      obtain ⟨q1, q2, q3⟩ := hq
      have hge : Λ[j]? = some Λ[j] := List.getElem?_eq_getElem hj
      have hem : Λ[j] ∈ Λ := List.getElem_mem hj
      obtain ⟨v1, v2⟩ := q3 j _ hge
      generalize hee : Λ[j] = e at *
      have tk := take_g hge
      have nD : ∀ i, i < c → ¬ (131 = 112 ∨ Dy c c' 131 i) ∧ ¬ (130 = 112 ∨ Dy c c' 130 i) := fun i hi => by unfold Dy; omega
      have qS := (g.S (by decide) (nD q q1).1).trans q2
      have ve : gR μ' (hd 131 q) (nI j).toNatClampNeg = some (hd 130 e.1) := by rw [nI_clamp (by omega)]; exact (g.gr (by decide) (nD q q1).1).trans v1
      have lw : LdR μ' c' e := v2.fr g hcc (fun i hi => (nD i hi).2)
      obtain ⟨a1, a2, a3, a4⟩ := hP.1 e hem
      have r10 := hB.2.2.2 e.2.1 a1
      have hl := hP.ksl hB hem
      have ha : e.2.2.1 < 2 ^ 21 := by
        obtain ⟨k0, hk0⟩ := List.exists_mem_of_ne_nil _ a3
        have h1 := a4 k0 hk0
        have h2 := r10.2.2.2.2 k0 (by omega)
        omega
      have g1 : gI μ' (hd 130 e.1) (1 : Int32).toNatClampNeg = nI e.2.2.1 := lw.2.2.2.1
      have g0 : gI μ' (hd 130 e.1) (0 : Int32).toNatClampNeg = nI e.2.1 := lw.2.2.1
      refine r_SI_pass_70 (by omega) ⟨fun h => absurd ((nI_leI (by omega) (by omega)).mp h) (by omega), fun _ => ⟨_, ⟨qS, vI hj (by omega)⟩, _, ve, _, ⟨lw.2.1, vI (k := 1) (by omega) (by omega)⟩, so, ?_⟩⟩
      have gd : gI μ' (hd 100 0) 0 = nI (D 0 0 0) := (g.gi (by decide) (by unfold Dy; omega)).trans hR.1.2.1
      rw [g1, gd]
      refine ⟨fun h => ?_, fun h => ?_⟩
      · have hdy' : e.2.2.1 = D 0 0 0 := (nI_eq (by omega) (by omega)).mp h
        have x11 := hR.2.2.2.2.2.2.1
        have n11 : ∀ κ i, κ < 130 → κ ≠ 112 → ¬ (κ = 112 ∨ Dy c c' κ i) := fun κ i h1 h2 z => by unfold Dy at z; omega
        refine ⟨so, _, (g.gr (by decide) (n11 _ _ (by decide) (by decide))).trans x11.1, _, ⟨lw.2.1, vI (k := 0) (by omega) (by omega)⟩, T 2 0, ⟨(g.S (by decide) (n11 _ _ (by decide) (by decide))).trans x11.2.1, by rw [g0]; exact vI a1 (by omega)⟩, hd 115 e.2.1, by rw [g0, nI_clamp (by omega)]; exact (g.gr (by decide) (n11 _ _ (by decide) (by decide))).trans (x11.2.2 _ a1).1, 4, ⟨(g.S (by decide) (n11 _ _ (by decide) (by decide))).trans (x11.2.2 _ a1).2.1, vI (k := 1) (by decide) (by decide)⟩, ?_⟩
        have e12 : gI μ' (hd 115 e.2.1) (1 : Int32).toNatClampNeg = nI (D 12 e.2.1 1) := (g.gi (by decide) (n11 _ _ (by decide) (by decide))).trans ((x11.2.2 _ a1).2.2 1 (by decide))
        rw [e12]
        have R1 : SR μ' T (wtD D (wtP D (Λ.take j))) OO c' := hR.wt (W := fun _ _ => True) g hcc (fun κ i z => z) (fun p hp => (w p hp).1) (fun p hp k hk => by rw [(w p hp).2 k hk]; exact bI_congr wt_W.symm) (fun f h8 h11 i j => wt_f h8)
        have hk2 : ∀ b k, pKn (wtD D (wtP D (Λ.take j))) b k ↔ pKn D b k := fun b k => by
          unfold pKn kn
          rw [wt_f (by decide), wt_f (by decide), wt_f (by decide), wt_f (by decide)]
        refine pass_119 hI R1 hk2 hP hem hdy' lw (by omega) _ _ _ (Λ.take j) (fun μ2 f2 w2 => ?_) w
        rw [nI_s]
        have ek : keepL (D 0 0 0) (Λ.take (j + 1)) = keepL (D 0 0 0) (Λ.take j) := by rw [tk, keep_app, if_pos hdy']
        have z := ih μ2 c' i1 rc' rs' hcc (g.trans (f2.mono (fun κ i z => Or.inl z)))
        rw [ek] at z
        exact z (l.fr f2 (Nat.le_refl _) (fun i hi z => absurd z (by decide)) (fun i hi z => absurd z (by decide))) (fun p hp => by rw [tk]; exact w2 p hp) b1 b2
      · have hne : e.2.2.1 ≠ D 0 0 0 := fun z => h (by rw [z])
        have ek : keepL (D 0 0 0) (Λ.take (j + 1)) = keepL (D 0 0 0) (Λ.take j) ++ [e] := by rw [tk, keep_app, if_neg hne]
        obtain ⟨l1, l2, l3⟩ := l
        have hk1 := keep_take (dy := D 0 0 0) (x := j + 1) Λ
        have hk3 := keep_len (dy := D 0 0 0) Λ
        have hln : (keepL (D 0 0 0) (Λ.take (j + 1))).length = (keepL (D 0 0 0) (Λ.take j)).length + 1 := by rw [ek, List.length_append]; rfl
        generalize hn : (keepL (D 0 0 0) (Λ.take j)).length = n at *
        have S' := g.st (fun κ i z => by unfold Dy at z; omega) hS
        have fN : mS μ' (hd 131 c') = (0, 0) := (g.S (by decide) (by unfold Dy; omega)).trans (hR.2.2.2.2.2.2.2.2.2.1 131 c' (by decide) (by decide) (by omega))
        refine ⟨1, n + 1, ⟨by omega, by omega⟩, c_SI_with (by omega) (Nat.le_refl _) (Nat.le_refl _) (by omega) S' (by decide) l2 (by omega) (fun k hk => ?_) ⟨lw.2.1, hi_hd (by decide) (by decide), hd_ne (by decide) (by decide) (by decide)⟩ ⟨by decide, by decide⟩ fN (fun μ2 f2 s2 v2' v3' => ⟨_, rfl, ?_⟩)⟩
        · obtain ⟨x1, x2⟩ := l3 k _ (List.getElem?_eq_getElem (by omega))
          exact ⟨_, _, x1, x2.2.1, hi_hd (by decide) (by decide), hd_ne (by decide) (by decide) (by decide)⟩
        · rw [nI_s]
          have z := ih μ2 (c' + 1) c' (rc' - 1) (rs' - (n + 1)) (by omega) ((g.mono (fun κ i z => by unfold Dy at z ⊢; omega)).trans (f2.mono (fun κ i z => by unfold Dy; omega))) ⟨by omega, by rw [hln]; exact s2, fun k x hx => ?_⟩ (fun p hp => ⟨(f2.S (by decide) (by omega)).trans (w p hp).1, fun k hk => ?_⟩) (by omega) (by omega)
          · exact z
          · rw [ek] at hx
            rcases Nat.lt_or_ge k n with y | y
            · rw [List.getElem?_append_left (by omega)] at hx
              obtain ⟨x1, x2⟩ := l3 k x hx
              exact ⟨(v2' k y).trans x1, x2.fr f2 (by omega) (fun i hi z => by omega)⟩
            · rw [List.getElem?_append_right (by omega), hn] at hx
              have hk0 : k - n = 0 := by
                rcases Nat.eq_zero_or_pos (k - n) with z | z
                · exact z
                · rw [List.getElem?_eq_none z] at hx; cases hx
              rw [hk0] at hx
              obtain rfl : e = x := Option.some.inj hx
              have hk1 : k = n := by omega
              exact ⟨by rw [hk1]; exact v3', lw.fr f2 (by omega) (fun i hi z => by omega)⟩
          · rw [f2.gi (by decide) (by omega), (w p hp).2 k hk, tk]
            refine bI_congr ?_
            unfold wtP
            refine or_congr_right ⟨fun ⟨x, x1, x2⟩ => ⟨x, List.mem_append_left _ x1, x2⟩, fun ⟨x, x1, x2⟩ => ?_⟩
            rcases List.mem_append.mp x1 with y | y
            · exact ⟨x, y, x2⟩
            · obtain rfl := List.mem_singleton.mp y
              exact absurd x2.1 hne
  rw [I0]
  exact loop 0 (Nat.zero_le _) μ c i0 rc rs (Nat.le_refl _) FrS.rf h0 (fun p hp => ⟨(hR.2.2.2.2.2.1.2.2 p hp).2.1, fun k hk => by
    rw [(hR.2.2.2.2.2.1.2.2 p hp).2.2 k hk]
    refine bI_congr ⟨fun z => Or.inl z, fun z => z.elim id (fun v => ?_)⟩
    obtain ⟨x, x1, _⟩ := v
    cases x1⟩) (by omega) (by omega)
end SQ
