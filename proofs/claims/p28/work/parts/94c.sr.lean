/-! the law's own boards, as they lie -/
def RwR (μ : Mu) (f κo io κ n len : Nat) (X : Nat → Nat → Nat) : Prop := gR μ (hd 100 0) f = some (hd κo io) ∧ mS μ (hd κo io) = (40, n) ∧ ∀ k, k < n → gR μ (hd κo io) k = some (hd κ k) ∧ mS μ (hd κ k) = (2, len) ∧ ∀ j, j < len → gI μ (hd κ k) j = nI (X k j)
def BxR (μ : Mu) (f o κ n m : Nat) (P : Nat → Nat → Prop) : Prop := gR μ (hd 100 0) f = some (hd 109 o) ∧ mS μ (hd 109 o) = (41, n) ∧ ∀ p, p < m → gR μ (hd 109 o) p = some (hd κ p) ∧ mS μ (hd κ p) = (5, 60) ∧ ∀ k, k < 60 → gI μ (hd κ p) k = bI (P p k)
def rdX (D : DT) (r j : Nat) : Nat := if j < 2 then D 12 r j else D 9 r (j - 2)
def pSh (D : DT) (b k : Nat) : Prop := k < D 1 0 0 ∧ D 7 b (5 * D 4 k 1 + D 4 k 0) = k + 1
def pKn (D : DT) (b k : Nat) : Prop := k < D 1 0 0 ∧ kn D b k
def pAh (D : DT) (k j : Nat) : Prop := j < D 1 0 0 ∧ ah D j k
def pWt (D : DT) (b k : Nat) : Prop := D 8 b k ≠ 0
def pGo (D : DT) (r k : Nat) : Prop := D 10 r k ≠ 0
def SRo (μ : Mu) (T : PT) (D : DT) : Prop := mS μ (hd 100 0) = (1, 11) ∧ gI μ (hd 100 0) 0 = nI (D 0 0 0) ∧ gI μ (hd 100 0) 1 = nI (D 2 0 0) ∧ gI μ (hd 100 0) 2 = nI (mergedN D) ∧ gI μ (hd 100 0) 3 = nI (D 3 0 0) ∧ gI μ (hd 100 0) 4 = nI (T 0 0) ∧ gI μ (hd 100 0) 5 = nI (T 1 0)
def SRf (μ : Mu) (D : DT) (c : Nat) : Prop := FC μ c ∧ (∀ k, D 1 0 0 ≤ k → mS μ (hd 116 k) = (0, 0) ∧ mS μ (hd 114 k) = (0, 0)) ∧ ∀ n, D 1 0 0 < n → mS μ (hd 119 n) = (0, 0)
def SR (μ : Mu) (T : PT) (D : DT) (OO : Nat → Nat → Nat) (c : Nat) : Prop :=
  SRo μ T D ∧ RwR μ 6 119 (D 1 0 0) 116 (D 1 0 0) 6 (D 4) ∧ BxR μ 7 4 114 60 (D 1 0 0) (pAh D) ∧ BxR μ 8 0 110 (T 0 0) (T 0 0) (pKn D) ∧ BxR μ 9 1 111 (T 0 0) (T 0 0) (pSh D) ∧ BxR μ 10 2 112 (T 0 0) (T 0 0) (pWt D) ∧
  RwR μ 11 121 (T 2 0) 115 (T 2 0) 4 (rdX D) ∧ BxR μ 12 3 113 (T 2 0) (T 2 0) (pGo D) ∧ RwR μ 14 124 (T 6 0) 118 (T 6 0) 8 OO ∧ SRf μ D c
section SRA
variable {d rc rs : Nat} {Q : Option Value → Mu → Prop} {μ μ' : Mu} {T : PT} {D : DT} {OO : Nat → Nat → Nat} {c c' : Nat} {own : Nat → Nat → Prop}
theorem RwR.fr {f κo io κ n len : Nat} {X : Nat → Nat → Nat} (h : RwR μ f κo io κ n len X) (g : FrS own μ μ') (h0 : gR μ' (hd 100 0) f = gR μ (hd 100 0) f) (hκo : κo < 256) (hκ : κ < 256) (ho : ¬ own κo io) (hk : ∀ k, k < n → ¬ own κ k) : RwR μ' f κo io κ n len X :=
  ⟨h0.trans h.1, (g.S hκo ho).trans h.2.1, fun k a => ⟨(g.gr hκo ho).trans (h.2.2 k a).1, (g.S hκ (hk k a)).trans (h.2.2 k a).2.1, fun j b => (g.gi hκ (hk k a)).trans ((h.2.2 k a).2.2 j b)⟩⟩
theorem BxR.fr {f o κ n m : Nat} {P : Nat → Nat → Prop} (h : BxR μ f o κ n m P) (g : FrS own μ μ') (h0 : gR μ' (hd 100 0) f = gR μ (hd 100 0) f) (hκ : κ < 256) (ho : ¬ own 109 o) (hk : ∀ k, k < m → ¬ own κ k) : BxR μ' f o κ n m P :=
  ⟨h0.trans h.1, (g.S (by decide) ho).trans h.2.1, fun k a => ⟨(g.gr (by decide) ho).trans (h.2.2 k a).1, (g.S hκ (hk k a)).trans (h.2.2 k a).2.1, fun j b => (g.gi hκ (hk k a)).trans ((h.2.2 k a).2.2 j b)⟩⟩
theorem SRf.fr (h : SRf μ D c) (g : FrS own μ μ') (hc : c ≤ c') (h1 : ∀ κ i, own κ i → 130 ≤ κ → i < c') (h2 : ∀ k, D 1 0 0 ≤ k → ¬ own 116 k ∧ ¬ own 114 k) (h3 : ∀ n, D 1 0 0 < n → ¬ own 119 n) : SRf μ' D c' :=
  ⟨h.1.nx hc g h1, fun k a => ⟨(g.S (by decide) (h2 k a).1).trans (h.2.1 k a).1, (g.S (by decide) (h2 k a).2).trans (h.2.1 k a).2⟩, fun n a => (g.S (by decide) (h3 n a)).trans (h.2.2 n a)⟩
/-- only dynamic names are new -/
theorem SR.dy (h : SR μ T D OO c) (g : FrS (Dy c c') μ μ') (hc : c ≤ c') : SR μ' T D OO c' := by
  have n : ∀ κ i, κ < 130 → ¬ Dy c c' κ i := fun κ i a b => by unfold Dy at b; omega
  have e : ∀ f, gR μ' (hd 100 0) f = gR μ (hd 100 0) f := fun f => g.gr (by decide) (n _ _ (by decide))
  have ei : ∀ f, gI μ' (hd 100 0) f = gI μ (hd 100 0) f := fun f => g.gi (by decide) (n _ _ (by decide))
  obtain ⟨⟨o1, o2, o3, o4, o5, o6, o7⟩, h6, h7, h8, h9, h10, h11, h12, h14, hf⟩ := h
  exact ⟨⟨(g.S (by decide) (n _ _ (by decide))).trans o1, (ei _).trans o2, (ei _).trans o3, (ei _).trans o4, (ei _).trans o5, (ei _).trans o6, (ei _).trans o7⟩,
    h6.fr g (e _) (by decide) (by decide) (n _ _ (by decide)) (fun k _ => n _ _ (by decide)), h7.fr g (e _) (by decide) (n _ _ (by decide)) (fun k _ => n _ _ (by decide)),
    h8.fr g (e _) (by decide) (n _ _ (by decide)) (fun k _ => n _ _ (by decide)), h9.fr g (e _) (by decide) (n _ _ (by decide)) (fun k _ => n _ _ (by decide)), h10.fr g (e _) (by decide) (n _ _ (by decide)) (fun k _ => n _ _ (by decide)),
    h11.fr g (e _) (by decide) (by decide) (n _ _ (by decide)) (fun k _ => n _ _ (by decide)), h12.fr g (e _) (by decide) (n _ _ (by decide)) (fun k _ => n _ _ (by decide)), h14.fr g (e _) (by decide) (by decide) (n _ _ (by decide)) (fun k _ => n _ _ (by decide)),
    hf.fr g hc (fun κ i a b => a.2.2) (fun k _ => ⟨n _ _ (by decide), n _ _ (by decide)⟩) (fun k _ => n _ _ (by decide))⟩
theorem Dy.lo {κ i : Nat} (h : Dy c c' κ i) : 100 ≤ κ := by unfold Dy at h; omega
theorem sLk_end (f : Nat → Nat) : ∀ p k, sLk f k (p + 1) = sLk f k p ++ (if f (k + p) = 0 then [] else [f (k + p)])
  | 0, k => by
    rw [sLk, sLk, sLk, Nat.add_zero]
    by_cases h : f k = 0
    · rw [if_pos h]; rfl
    · rw [if_neg h]; rfl
  | p + 1, k => by
    have ih := sLk_end f p (k + 1)
    rw [show k + 1 + p = k + (p + 1) by omega] at ih
    rw [sLk, ih, sLk]
    by_cases h : f k = 0
    · rw [if_pos h, if_pos h]
    · rw [if_neg h, if_neg h]; rfl
/-- what is found up to the sheet k of the parish p -/
def shG (f : Nat → Nat) (p k : Nat) : List Nat := if f p ≠ 0 ∧ f p ≤ k then sLk f 0 (p + 1) else sLk f 0 p
theorem shG_0 (f : Nat → Nat) (p : Nat) : shG f p 0 = sLk f 0 p := if_neg (by omega)
theorem shG_S {f : Nat → Nat} {p S : Nat} (h : f p ≤ S) : shG f p S = sLk f 0 (p + 1) := by
  unfold shG
  by_cases z : f p = 0
  · rw [if_neg (by omega), sLk_end, Nat.zero_add, if_pos z, List.append_nil]
  · rw [if_pos ⟨z, h⟩]
theorem shG_n {f : Nat → Nat} {p k : Nat} (h : f p ≠ k + 1) : shG f p (k + 1) = shG f p k := by
  unfold shG
  by_cases z : f p ≠ 0 ∧ f p ≤ k
  · rw [if_pos z, if_pos ⟨z.1, by omega⟩]
  · rw [if_neg z, if_neg (by omega)]
theorem shG_y {f : Nat → Nat} {p k : Nat} (h : f p = k + 1) : shG f p (k + 1) = shG f p k ++ [k + 1] := by
  unfold shG
  rw [if_pos (by omega), if_neg (by omega), sLk_end, Nat.zero_add, if_neg (by omega), h]
theorem getD_end {l : List Nat} {v j : Nat} (h : j < (l ++ [v]).length) : (l ++ [v]).getD j 0 = if j = l.length then v else l.getD j 0 := by
  rw [List.length_append] at h
  simp only [List.length_cons, List.length_nil] at h
  by_cases e : j = l.length
  · rw [if_pos e, e, List.getD_eq_getElem?_getD, List.getElem?_append_right (Nat.le_refl _), Nat.sub_self]; rfl
  · rw [if_neg e, List.getD_eq_getElem?_getD, List.getElem?_append_left (by omega), ← List.getD_eq_getElem?_getD]
end SRA
