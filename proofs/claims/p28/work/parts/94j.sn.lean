/-! loads; what the law's boards send -/
abbrev Ld : Type := Nat × Nat × Nat × List Nat
def LdR (μ : Mu) (c : Nat) (e : Ld) : Prop := e.1 < c ∧ mS μ (hd 130 e.1) = (2, e.2.2.2.length + 2) ∧ gI μ (hd 130 e.1) 0 = nI e.2.1 ∧ gI μ (hd 130 e.1) 1 = nI e.2.2.1 ∧ ∀ j, j < e.2.2.2.length → gI μ (hd 130 e.1) (j + 2) = nI (e.2.2.2.getD j 0)
def LoR (μ : Mu) (q : Nat) (Λ : List Ld) (c : Nat) : Prop := q < c ∧ mS μ (hd 131 q) = (40, Λ.length) ∧ ∀ k e, Λ[k]? = some e → gR μ (hd 131 q) k = some (hd 130 e.1) ∧ LdR μ c e
def LR (μ : Mu) (Λ : List Ld) (c : Nat) : Prop := ∃ q, gR μ (hd 100 0) 13 = some (hd 131 q) ∧ LoR μ q Λ c
noncomputable def carL (D : DT) (r : Nat) : Nat → List Nat
  | 0 => []
  | k + 1 => @ite _ (crC D r k) (Classical.propDecidable _) (carL D r k ++ [k]) (carL D r k)
section SJ
theorem I_mki {μ : Mu} {κ i i' j : Nat} {sh : Nat × Nat} (hn : i' ≠ i) : mI (mkA μ (hd κ i) sh) (hd κ i') j = mI μ (hd κ i') j := if_neg (fun z => hn (by unfold hd at z; omega))
variable {d rc rs : Nat} {Q : Option Value → Mu → Prop} {μ μ' : Mu} {T : PT} {D D' : DT} {OO : Nat → Nat → Nat} {c c' c'' : Nat} {own : Nat → Nat → Prop} {Λ : List Ld}
theorem LdR.fr {e : Ld} (h : LdR μ c e) (g : FrS own μ μ') (hc : c ≤ c') (ho : ∀ i, i < c → ¬ own 130 i) : LdR μ' c' e :=
  ⟨by have := h.1; omega, (g.S (by decide) (ho _ h.1)).trans h.2.1, (g.gi (by decide) (ho _ h.1)).trans h.2.2.1, (g.gi (by decide) (ho _ h.1)).trans h.2.2.2.1, fun j hj => (g.gi (by decide) (ho _ h.1)).trans (h.2.2.2.2 j hj)⟩
theorem LoR.fr {q : Nat} (h : LoR μ q Λ c) (g : FrS own μ μ') (hc : c ≤ c') (ho : ∀ i, i < c → ¬ own 130 i) (ho1 : ∀ i, i < c → ¬ own 131 i) : LoR μ' q Λ c' :=
  ⟨by have := h.1; omega, (g.S (by decide) (ho1 _ h.1)).trans h.2.1, fun k e z => ⟨(g.gr (by decide) (ho1 _ h.1)).trans (h.2.2 k e z).1, (h.2.2 k e z).2.fr g hc ho⟩⟩
theorem LR.fr (h : LR μ Λ c) (g : FrS (OwH c c') μ μ') (hc : c ≤ c') (e : gR μ' (hd 100 0) 13 = gR μ (hd 100 0) 13) : LR μ' Λ c' := by
  obtain ⟨q, h1, h2⟩ := h
  exact ⟨q, e.trans h1, h2.fr g hc (fun i hi z => by unfold OwH Dy at z; omega) (fun i hi z => by unfold OwH Dy at z; omega)⟩
theorem carL_len {r : Nat} : ∀ k, (carL D r k).length = carN D r k
  | 0 => rfl
  | k + 1 => by
    have ih := carL_len (r := r) k
    rw [carL]
    unfold carN at ih ⊢
    rw [sumN]
    split
    · rename_i z; rw [bN_t z, List.length_append, ih]; rfl
    · rename_i z; rw [bN_f z, ih]; rfl
theorem carL_mem {r x : Nat} : ∀ k, x ∈ carL D r k ↔ x < k ∧ crC D r x
  | 0 => ⟨fun h => (by cases h), fun h => absurd h.1 (Nat.not_lt_zero _)⟩
  | k + 1 => by
    have ih := carL_mem (r := r) (x := x) k
    rw [carL]
    split
    · rename_i z
      rw [List.mem_append, ih]
      constructor
      · rintro (w | w)
        · exact ⟨by omega, w.2⟩
        · obtain rfl := List.mem_singleton.mp w
          exact ⟨by omega, z⟩
      · rintro ⟨w1, w2⟩
        rcases Nat.lt_or_ge x k with y | y
        · exact Or.inl ⟨y, w2⟩
        · exact Or.inr (List.mem_singleton.mpr (by omega))
    · rename_i z
      rw [ih]
      constructor
      · rintro ⟨w1, w2⟩; exact ⟨by omega, w2⟩
      · rintro ⟨w1, w2⟩
        rcases Nat.lt_or_ge x k with y | y
        · exact ⟨y, w2⟩
        · obtain rfl : x = k := by omega
          exact absurd w2 z
/-- rows of waiting, roads, what is gone, and the numbers change -/
theorem SR.ext (h : SR μ T D OO c) (g : FrS own μ μ') (hc : c ≤ c') (ho : ∀ κ i, own κ i → (κ = 100 ∧ i = 0) ∨ κ = 112 ∨ κ = 113 ∨ κ = 115 ∨ Dy c c' κ i) (er : ∀ f, f ≠ 13 → gR μ' (hd 100 0) f = gR μ (hd 100 0) f) (o : SRo μ' T D')
    (e : ∀ f, (f = 1 ∨ f = 4 ∨ f = 5 ∨ f = 6 ∨ f = 7) → ∀ i j, D' f i j = D f i j)
    (h10 : ∀ p, p < T 0 0 → mS μ' (hd 112 p) = (5, 60) ∧ ∀ k, k < 60 → gI μ' (hd 112 p) k = bI (pWt D' p k)) (h11 : ∀ r, r < T 2 0 → mS μ' (hd 115 r) = (2, 4) ∧ ∀ j, j < 4 → gI μ' (hd 115 r) j = nI (rdX D' r j)) (h12 : ∀ r, r < T 2 0 → mS μ' (hd 113 r) = (5, 60) ∧ ∀ k, k < 60 → gI μ' (hd 113 r) k = bI (pGo D' r k)) : SR μ' T D' OO c' := by
  have no : ∀ κ i, κ < 130 → κ ≠ 100 → κ ≠ 112 → κ ≠ 113 → κ ≠ 115 → ¬ own κ i := fun κ i a b1 b2 b3 b4 z => by
    have := ho κ i z
    unfold Dy at this
    omega
  obtain ⟨ho', h6, h7, h8, h9, x10, x11, x12, h14, hf⟩ := h
  have y6 := h6.fr g (er 6 (by decide)) (by decide) (by decide) (no _ _ (by decide) (by decide) (by decide) (by decide) (by decide)) (fun k _ => no _ _ (by decide) (by decide) (by decide) (by decide) (by decide))
  have y7 := h7.fr g (er 7 (by decide)) (by decide) (no _ _ (by decide) (by decide) (by decide) (by decide) (by decide)) (fun k _ => no _ _ (by decide) (by decide) (by decide) (by decide) (by decide))
  have y8 := h8.fr g (er 8 (by decide)) (by decide) (no _ _ (by decide) (by decide) (by decide) (by decide) (by decide)) (fun k _ => no _ _ (by decide) (by decide) (by decide) (by decide) (by decide))
  have y9 := h9.fr g (er 9 (by decide)) (by decide) (no _ _ (by decide) (by decide) (by decide) (by decide) (by decide)) (fun k _ => no _ _ (by decide) (by decide) (by decide) (by decide) (by decide))
  have y14 := h14.fr g (er 14 (by decide)) (by decide) (by decide) (no _ _ (by decide) (by decide) (by decide) (by decide) (by decide)) (fun k _ => no _ _ (by decide) (by decide) (by decide) (by decide) (by decide))
  have yf := hf.fr g hc (fun κ i a b => by have := ho κ i a; unfold Dy at this; omega) (fun k _ => ⟨no _ _ (by decide) (by decide) (by decide) (by decide) (by decide), no _ _ (by decide) (by decide) (by decide) (by decide) (by decide)⟩) (fun k _ => no _ _ (by decide) (by decide) (by decide) (by decide) (by decide))
  have e1 := e 1 (by omega) 0 0
  have e4 := e 4 (by omega)
  have e5 := e 5 (by omega)
  have e6 := e 6 (by omega)
  have e7 := e 7 (by omega)
  have pk : ∀ b k, pKn D' b k ↔ pKn D b k := fun b k => by unfold pKn kn; rw [e1, e4, e5, e6]
  have pa : ∀ b k, pAh D' b k ↔ pAh D b k := fun b k => by unfold pAh ah; rw [e1, e4, e5, e5]
  have ps : ∀ b k, pSh D' b k ↔ pSh D b k := fun b k => by unfold pSh; rw [e1, e4, e4, e7]
  refine ⟨o, ?_, ?_, ⟨y8.1, y8.2.1, fun p hp => ⟨(y8.2.2 p hp).1, (y8.2.2 p hp).2.1, fun k hk => ?_⟩⟩, ⟨y9.1, y9.2.1, fun p hp => ⟨(y9.2.2 p hp).1, (y9.2.2 p hp).2.1, fun k hk => ?_⟩⟩, ⟨?_, ?_, fun p hp => ⟨?_, h10 p hp⟩⟩, ⟨?_, ?_, fun p hp => ⟨?_, h11 p hp⟩⟩, ⟨?_, ?_, fun p hp => ⟨?_, h12 p hp⟩⟩, y14, ?_⟩
  · rw [e1]
    refine ⟨y6.1, y6.2.1, fun k hk => ⟨(y6.2.2 k hk).1, (y6.2.2 k hk).2.1, fun j hj => ?_⟩⟩
    rw [e4]; exact (y6.2.2 k hk).2.2 j hj
  · rw [e1]
    refine ⟨y7.1, y7.2.1, fun k hk => ⟨(y7.2.2 k hk).1, (y7.2.2 k hk).2.1, fun j hj => ?_⟩⟩
    rw [bI_congr (pa k j)]; exact (y7.2.2 k hk).2.2 j hj
  · rw [bI_congr (pk p k)]; exact (y8.2.2 p hp).2.2 k hk
  · rw [bI_congr (ps p k)]; exact (y9.2.2 p hp).2.2 k hk
  · exact (er 10 (by decide)).trans x10.1
  · exact (g.S (by decide) (no _ _ (by decide) (by decide) (by decide) (by decide) (by decide))).trans x10.2.1
  · exact (g.gr (by decide) (no _ _ (by decide) (by decide) (by decide) (by decide) (by decide))).trans (x10.2.2 p hp).1
  · exact (er 11 (by decide)).trans x11.1
  · exact (g.S (by decide) (no _ _ (by decide) (by decide) (by decide) (by decide) (by decide))).trans x11.2.1
  · exact (g.gr (by decide) (no _ _ (by decide) (by decide) (by decide) (by decide) (by decide))).trans (x11.2.2 p hp).1
  · exact (er 12 (by decide)).trans x12.1
  · exact (g.S (by decide) (no _ _ (by decide) (by decide) (by decide) (by decide) (by decide))).trans x12.2.1
  · exact (g.gr (by decide) (no _ _ (by decide) (by decide) (by decide) (by decide) (by decide))).trans (x12.2.2 p hp).1
  · exact ⟨yf.1, fun k hk => yf.2.1 k (by rw [e1] at hk; exact hk), fun n hn => yf.2.2 n (by rw [e1] at hn; exact hn)⟩
end SJ
