/-! the law's boards while they are told -/
def rX (F G H : Nat → Nat) (r j : Nat) : Nat := if j = 0 then F r else if j = 1 then G r else if j = 2 then H r else 0
def LF (μ : Mu) (r fo j c : Nat) : Prop := FC μ c ∧ (∀ i, mS μ (hd 116 i) = (0, 0) ∧ mS μ (hd 114 i) = (0, 0)) ∧ (∀ n, 0 < n → mS μ (hd 119 n) = (0, 0)) ∧ (∀ i, r ≤ i → mS μ (hd 115 i) = (0, 0)) ∧ (∀ n, r < n → mS μ (hd 121 n) = (0, 0)) ∧ (∀ i, fo ≤ i → mS μ (hd 118 i) = (0, 0)) ∧ ∀ n, j < n → mS μ (hd 124 n) = (0, 0)
def LO (μ : Mu) (P N : Nat) : Prop := mS μ (hd 100 0) = (1, 11) ∧ (∀ f, f < 4 → gI μ (hd 100 0) f = 0) ∧ gI μ (hd 100 0) 4 = nI P ∧ gI μ (hd 100 0) 5 = nI N
abbrev noP : Nat → Nat → Prop := fun _ _ => False
def LQ (μ : Mu) (P N r fo j : Nat) (X W : Nat → Nat → Nat) (c : Nat) : Prop :=
  LO μ P N ∧ RwR μ 6 119 0 116 0 6 (fun _ _ => 0) ∧ BxR μ 7 4 114 60 0 noP ∧ BxR μ 8 0 110 P P noP ∧ BxR μ 9 1 111 P P noP ∧ BxR μ 10 2 112 P P noP ∧
  RwR μ 11 121 r 115 r 4 X ∧ RwR μ 14 124 j 118 j 8 W ∧ LR μ [] c ∧ LF μ r fo j c
/-- no row yet of what went out; or all of them -/
def WF (μ : Mu) : Prop := mS μ (hd 109 3) = (0, 0) ∧ ∀ i, mS μ (hd 113 i) = (0, 0)
/-- the text so far -/
def Mb (μ : Mu) (cv c : Nat) (X : List Nat) : Prop := FC μ c ∧ S8 μ ∧ cv ≤ c ∧ ∃ v n, v < cv ∧ SbV μ 105 0 v n X
def OwT2 (c c' κ i : Nat) : Prop := (κ = 105 ∧ i = 0) ∨ (κ = 132 ∧ i < c) ∨ Dy c c' κ i
section LQS
variable {d rc rs : Nat} {Q : Option Value → Mu → Prop} {μ μ' : Mu} {own : Nat → Nat → Prop} {P N r fo j c c' cv M x : Nat} {X W X' W' : Nat → Nat → Nat} {Y Z : List Nat}
theorem LR.nil {q : Nat} (h : gR μ (hd 100 0) 13 = some (hd 131 q)) (hq : q < c) (hs : mS μ (hd 131 q) = (40, 0)) : LR μ [] c := ⟨q, h, hq, hs, fun k e z => by rw [List.getElem?_nil] at z; cases z⟩
theorem LQ.ot (h : LQ μ P N r fo j X W c) (f : FrS (OwT2 c c') μ μ') (hc : c ≤ c') : LQ μ' P N r fo j X W c' := by
  obtain ⟨⟨o1, o2, o3, o4⟩, h6, h7, h8, h9, h10, h11, h14, ⟨q, l1, l2, l3, -⟩, ⟨g0, g1, g2, g3, g4, g5, g6⟩⟩ := h
  have n : ∀ κ i, κ < 130 → κ ≠ 105 → ¬ OwT2 c c' κ i := fun κ i a b z => by unfold OwT2 Dy at z; omega
  have nq : ¬ OwT2 c c' 131 q := fun z => by unfold OwT2 Dy at z; omega
  have e : ∀ k, gR μ' (hd 100 0) k = gR μ (hd 100 0) k := fun k => f.gr (by decide) (n _ _ (by decide) (by decide))
  have ei : ∀ k, gI μ' (hd 100 0) k = gI μ (hd 100 0) k := fun k => f.gi (by decide) (n _ _ (by decide) (by decide))
  have s : ∀ κ i, κ < 130 → κ ≠ 105 → mS μ' (hd κ i) = mS μ (hd κ i) := fun κ i a b => f.S (by omega) (n κ i a b)
  refine ⟨⟨(s _ _ (by decide) (by decide)).trans o1, fun k hk => (ei k).trans (o2 k hk), (ei 4).trans o3, (ei 5).trans o4⟩,
    h6.fr f (e _) (by decide) (by decide) (n _ _ (by decide) (by decide)) (fun k _ => n _ _ (by decide) (by decide)), h7.fr f (e _) (by decide) (n _ _ (by decide) (by decide)) (fun k _ => n _ _ (by decide) (by decide)),
    h8.fr f (e _) (by decide) (n _ _ (by decide) (by decide)) (fun k _ => n _ _ (by decide) (by decide)), h9.fr f (e _) (by decide) (n _ _ (by decide) (by decide)) (fun k _ => n _ _ (by decide) (by decide)), h10.fr f (e _) (by decide) (n _ _ (by decide) (by decide)) (fun k _ => n _ _ (by decide) (by decide)),
    h11.fr f (e _) (by decide) (by decide) (n _ _ (by decide) (by decide)) (fun k _ => n _ _ (by decide) (by decide)), h14.fr f (e _) (by decide) (by decide) (n _ _ (by decide) (by decide)) (fun k _ => n _ _ (by decide) (by decide)),
    LR.nil ((e 13).trans l1) (by omega) ((f.S (by decide) nq).trans l3), ⟨g0.nx hc f (fun κ i z a => by unfold OwT2 Dy at z; omega), fun i => ⟨(s _ _ (by decide) (by decide)).trans (g1 i).1, (s _ _ (by decide) (by decide)).trans (g1 i).2⟩, fun i a => (s _ _ (by decide) (by decide)).trans (g2 i a), fun i a => (s _ _ (by decide) (by decide)).trans (g3 i a), fun i a => (s _ _ (by decide) (by decide)).trans (g4 i a), fun i a => (s _ _ (by decide) (by decide)).trans (g5 i a), fun i a => (s _ _ (by decide) (by decide)).trans (g6 i a)⟩⟩
theorem LQ.dy (h : LQ μ P N r fo j X W c) (f : FrS (Dy c c') μ μ') (hc : c ≤ c') : LQ μ' P N r fo j X W c' := h.ot (f.mono (fun κ i z => Or.inr (Or.inr z))) hc
theorem LQ.cg (h : LQ μ P N r fo j X W c) (hX : ∀ k, k < r → ∀ i, i < 4 → X' k i = X k i) (hW : ∀ k, k < j → ∀ i, i < 8 → W' k i = W k i) : LQ μ P N r fo j X' W' c := by
  obtain ⟨o, h6, h7, h8, h9, h10, ⟨a1, a2, a3⟩, ⟨b1, b2, b3⟩, l, g⟩ := h
  exact ⟨o, h6, h7, h8, h9, h10, ⟨a1, a2, fun k hk => ⟨(a3 k hk).1, (a3 k hk).2.1, fun i hi => by rw [hX k hk i hi]; exact (a3 k hk).2.2 i hi⟩⟩, ⟨b1, b2, fun k hk => ⟨(b3 k hk).1, (b3 k hk).2.1, fun i hi => by rw [hW k hk i hi]; exact (b3 k hk).2.2 i hi⟩⟩, l, g⟩
theorem WF.ot (h : WF μ) (f : FrS (OwT2 c c') μ μ') : WF μ' := ⟨(f.S (by decide) (by unfold OwT2 Dy; omega)).trans h.1, fun i => (f.S (by decide) (by unfold OwT2 Dy; omega)).trans (h.2 i)⟩
theorem Mb.dy (h : Mb μ cv c Y) (f : FrS (Dy c c') μ μ') (hc : c ≤ c') (hS : S8 μ') : Mb μ' cv c' Y := by
  obtain ⟨a1, a2, a3, v, n, a4, a5⟩ := h
  exact ⟨a1.nx hc f (fun κ i z _ => z.2.2), hS, by omega, v, n, a4, a5.fr f (by decide) (by unfold Dy; omega) (by unfold Dy; omega)⟩
/-- other fixed names change -/
theorem Mb.fx (h : Mb μ cv c Y) (f : FrS own μ μ') (ho : ∀ κ i, own κ i → 100 ≤ κ ∧ κ < 130 ∧ κ ≠ 105) : Mb μ' cv c Y := by
  obtain ⟨a1, a2, a3, v, n, a4, a5⟩ := h
  exact ⟨a1.nx (Nat.le_refl _) f (fun κ i z y => by have := ho κ i z; omega), f.s8 (fun κ i z => (ho κ i z).1) a2, a3, v, n, a4, a5.fr f (by decide) (fun z => (ho _ _ z).2.2 rfl) (fun z => by have := (ho _ _ z).2.1; omega)⟩
theorem Mb.sh (h : Mb μ cv c Y) : mS μ (hd 105 0) = (1, 12) := by
  obtain ⟨-, -, -, v, n, -, h⟩ := h; exact h.1
theorem Mb.app {κb ib κa ia : Nat} (h : Mb μ cv c Y) (hZ : StrR μ κb ib κa ia Z) (hl : (κb = 1 ∧ κa = 2) ∨ (κb = 133 ∧ κa = 132 ∧ ib < c ∧ cv ≤ ia ∧ ia < c)) (hD : 5 ≤ d) (hM : Y.length + Z.length ≤ M ∧ M ≤ 5000) (hc : 1 ≤ rc) (hs : 2 * M + 2 ≤ rs)
    (hQ : ∀ μ', Mb μ' (c + 1) (c + 1) (Y ++ Z) → FrS (OwT2 c (c + 1)) μ μ' → Q (some (.ref (hd 105 0))) μ') : CalS K_SB_append_15ec4 d rc rs [.ref (hd 105 0), .ref (hd κb ib)] μ Q := by
  obtain ⟨a1, a2, a3, v, n, a4, a5⟩ := h
  refine c9_app (c := c) (M := M) a5 ⟨by decide, by decide, by decide⟩ hZ ⟨by omega, by omega, by unfold OwV Dy; omega, by unfold OwV Dy; omega⟩ a1 (by omega) hD a2 hM hc hs (fun μ1 v1 n1 e1 f1 S1 h1 => ?_)
  have f2 : FrS (OwT2 c (c + 1)) μ μ1 := f1.mono (fun κ' i' z => by unfold OwV Dy at z; unfold OwT2 Dy; omega)
  exact hQ μ1 ⟨a1.nx (Nat.le_succ _) f1 (fun κ' i' z y => by unfold OwV Dy at z; omega), S1, Nat.le_refl _, v1, n1, by omega, h1⟩ f2
theorem Mb.api (h : Mb μ cv c Y) (hx : x < 100) (hD : 5 ≤ d) (hM : Y.length + 2 ≤ M ∧ M ≤ 5000) (hc : 1 ≤ rc) (hs : 2 * M + 2 ≤ rs)
    (hQ : ∀ μ', Mb μ' (c + 1) (c + 1) (Y ++ dgN x) → FrS (OwT2 c (c + 1)) μ μ' → Q (some (.ref (hd 105 0))) μ') : CalS K_SB_append_bf812 d rc rs [.ref (hd 105 0), .int (nI x)] μ Q := by
  obtain ⟨a1, a2, a3, v, n, a4, a5⟩ := h
  refine c9_api (c := c) (M := M) a5 ⟨by decide, by decide, by decide⟩ hx a1 (by omega) hD a2 hM hc hs (fun μ1 v1 n1 e1 f1 S1 h1 => ?_)
  have f2 : FrS (OwT2 c (c + 1)) μ μ1 := f1.mono (fun κ' i' z => by unfold OwV Dy at z; unfold OwT2 Dy; omega)
  exact hQ μ1 ⟨a1.nx (Nat.le_succ _) f1 (fun κ' i' z y => by unfold OwV Dy at z; omega), S1, Nat.le_refl _, v1, n1, by omega, h1⟩ f2
theorem OwT2.lo {κ i : Nat} (h : OwT2 c c' κ i) : 100 ≤ κ := by unfold OwT2 Dy at h; omega
def OwR9 (r κ i : Nat) : Prop := (κ = 115 ∧ i = r) ∨ (κ = 121 ∧ i = r + 1) ∨ (κ = 100 ∧ i = 0)
/-- one more road -/
theorem LQ.road (h : LQ μ P N r fo j X W c) (f : FrS (OwR9 r) μ μ') (eR : ∀ k, k ≠ 11 → gR μ' (hd 100 0) k = gR μ (hd 100 0) k) (eI : ∀ k, gI μ' (hd 100 0) k = gI μ (hd 100 0) k) (e0 : mS μ' (hd 100 0) = (1, 11)) (e11 : gR μ' (hd 100 0) 11 = some (hd 121 (r + 1))) (es : mS μ' (hd 121 (r + 1)) = (40, r + 1)) (ek : ∀ k, k < r → gR μ' (hd 121 (r + 1)) k = gR μ (hd 121 r) k) (er : gR μ' (hd 121 (r + 1)) r = some (hd 115 r)) (e5 : mS μ' (hd 115 r) = (2, 4)) (e6 : ∀ i, i < 4 → gI μ' (hd 115 r) i = nI (X r i)) : LQ μ' P N (r + 1) fo j X W c := by
  obtain ⟨⟨o1, o2, o3, o4⟩, h6, h7, h8, h9, h10, h11, h14, ⟨q, l1, l2, l3, -⟩, ⟨g0, g1, g2, g3, g4, g5, g6⟩⟩ := h
  have n : ∀ κ i, κ ≠ 115 → κ ≠ 121 → κ ≠ 100 → ¬ OwR9 r κ i := fun κ i a b c z => by unfold OwR9 at z; omega
  have s : ∀ κ i, κ < 256 → κ ≠ 115 → κ ≠ 121 → κ ≠ 100 → mS μ' (hd κ i) = mS μ (hd κ i) := fun κ i hh a b c => f.S hh (n κ i a b c)
  refine ⟨⟨e0, fun k hk => (eI k).trans (o2 k hk), (eI 4).trans o3, (eI 5).trans o4⟩,
    h6.fr f (eR _ (by decide)) (by decide) (by decide) (n _ _ (by decide) (by decide) (by decide)) (fun k _ => n _ _ (by decide) (by decide) (by decide)), h7.fr f (eR _ (by decide)) (by decide) (n _ _ (by decide) (by decide) (by decide)) (fun k _ => n _ _ (by decide) (by decide) (by decide)),
    h8.fr f (eR _ (by decide)) (by decide) (n _ _ (by decide) (by decide) (by decide)) (fun k _ => n _ _ (by decide) (by decide) (by decide)), h9.fr f (eR _ (by decide)) (by decide) (n _ _ (by decide) (by decide) (by decide)) (fun k _ => n _ _ (by decide) (by decide) (by decide)), h10.fr f (eR _ (by decide)) (by decide) (n _ _ (by decide) (by decide) (by decide)) (fun k _ => n _ _ (by decide) (by decide) (by decide)),
    ⟨e11, es, fun k hk => ?_⟩, h14.fr f (eR _ (by decide)) (by decide) (by decide) (n _ _ (by decide) (by decide) (by decide)) (fun k _ => n _ _ (by decide) (by decide) (by decide)),
    LR.nil ((eR 13 (by decide)).trans l1) l2 ((s _ _ (by decide) (by decide) (by decide) (by decide)).trans l3), ⟨g0.nx (Nat.le_refl _) f (fun κ i z a => by unfold OwR9 at z; omega), fun i => ⟨(s _ _ (by decide) (by decide) (by decide) (by decide)).trans (g1 i).1, (s _ _ (by decide) (by decide) (by decide) (by decide)).trans (g1 i).2⟩, fun i a => (s _ _ (by decide) (by decide) (by decide) (by decide)).trans (g2 i a), fun i a => (f.S (by decide) (by unfold OwR9; omega)).trans (g3 i (by omega)), fun i a => (f.S (by decide) (by unfold OwR9; omega)).trans (g4 i (by omega)), fun i a => (s _ _ (by decide) (by decide) (by decide) (by decide)).trans (g5 i a), fun i a => (s _ _ (by decide) (by decide) (by decide) (by decide)).trans (g6 i a)⟩⟩
  rcases Nat.lt_or_ge k r with z | z
  · obtain ⟨a1, a2, a3⟩ := h11.2.2 k z
    have nk : ¬ OwR9 r 115 k := fun y => by unfold OwR9 at y; omega
    exact ⟨(ek k z).trans a1, (f.S (by decide) nk).trans a2, fun i hi => (f.gi (by decide) nk).trans (a3 i hi)⟩
  · obtain rfl : k = r := by omega
    exact ⟨er, e5, e6⟩
def OwO9 (j κ i : Nat) : Prop := (κ = 124 ∧ i = j + 1) ∨ (κ = 100 ∧ i = 0)
/-- one more order -/
theorem LQ.ord (h : LQ μ P N r (j + 1) j X W c) (f : FrS (OwO9 j) μ μ') (eR : ∀ k, k ≠ 14 → gR μ' (hd 100 0) k = gR μ (hd 100 0) k) (eI : ∀ k, gI μ' (hd 100 0) k = gI μ (hd 100 0) k) (e0 : mS μ' (hd 100 0) = (1, 11)) (e11 : gR μ' (hd 100 0) 14 = some (hd 124 (j + 1))) (es : mS μ' (hd 124 (j + 1)) = (40, j + 1)) (ek : ∀ k, k < j → gR μ' (hd 124 (j + 1)) k = gR μ (hd 124 j) k) (er : gR μ' (hd 124 (j + 1)) j = some (hd 118 j)) (e5 : R8 μ j (W j)) : LQ μ' P N r (j + 1) (j + 1) X W c := by
  obtain ⟨⟨o1, o2, o3, o4⟩, h6, h7, h8, h9, h10, h11, h14, ⟨q, l1, l2, l3, -⟩, ⟨g0, g1, g2, g3, g4, g5, g6⟩⟩ := h
  have n : ∀ κ i, κ ≠ 124 → κ ≠ 100 → ¬ OwO9 j κ i := fun κ i a b z => by unfold OwO9 at z; omega
  have s : ∀ κ i, κ < 256 → κ ≠ 124 → κ ≠ 100 → mS μ' (hd κ i) = mS μ (hd κ i) := fun κ i hh a b => f.S hh (n κ i a b)
  refine ⟨⟨e0, fun k hk => (eI k).trans (o2 k hk), (eI 4).trans o3, (eI 5).trans o4⟩,
    h6.fr f (eR _ (by decide)) (by decide) (by decide) (n _ _ (by decide) (by decide)) (fun k _ => n _ _ (by decide) (by decide)), h7.fr f (eR _ (by decide)) (by decide) (n _ _ (by decide) (by decide)) (fun k _ => n _ _ (by decide) (by decide)),
    h8.fr f (eR _ (by decide)) (by decide) (n _ _ (by decide) (by decide)) (fun k _ => n _ _ (by decide) (by decide)), h9.fr f (eR _ (by decide)) (by decide) (n _ _ (by decide) (by decide)) (fun k _ => n _ _ (by decide) (by decide)), h10.fr f (eR _ (by decide)) (by decide) (n _ _ (by decide) (by decide)) (fun k _ => n _ _ (by decide) (by decide)),
    h11.fr f (eR _ (by decide)) (by decide) (by decide) (n _ _ (by decide) (by decide)) (fun k _ => n _ _ (by decide) (by decide)), ⟨e11, es, fun k hk => ?_⟩,
    LR.nil ((eR 13 (by decide)).trans l1) l2 ((s _ _ (by decide) (by decide) (by decide)).trans l3), ⟨g0.nx (Nat.le_refl _) f (fun κ i z a => by unfold OwO9 at z; omega), fun i => ⟨(s _ _ (by decide) (by decide) (by decide)).trans (g1 i).1, (s _ _ (by decide) (by decide) (by decide)).trans (g1 i).2⟩, fun i a => (s _ _ (by decide) (by decide) (by decide)).trans (g2 i a), fun i a => (s _ _ (by decide) (by decide) (by decide)).trans (g3 i a), fun i a => (s _ _ (by decide) (by decide) (by decide)).trans (g4 i a), fun i a => (s _ _ (by decide) (by decide) (by decide)).trans (g5 i a), fun i a => (f.S (by decide) (by unfold OwO9; omega)).trans (g6 i (by omega))⟩⟩
  have nk : ∀ k, ¬ OwO9 j 118 k := fun k y => by unfold OwO9 at y; omega
  rcases Nat.lt_or_ge k j with z | z
  · obtain ⟨a1, a2, a3⟩ := h14.2.2 k z
    exact ⟨(ek k z).trans a1, (f.S (by decide) (nk k)).trans a2, fun i hi => (f.gi (by decide) (nk k)).trans (a3 i hi)⟩
  · obtain rfl : k = j := by omega
    exact ⟨er, (f.S (by decide) (nk k)).trans e5.1, fun i hi => (f.gi (by decide) (nk k)).trans (e5.2 i hi)⟩
/-- a new order's row -/
theorem LQ.row (h : LQ μ P N r j j X W c) (f : FrS (fun κ i => κ = 118 ∧ i = j) μ μ') : LQ μ' P N r (j + 1) j X W c := by
  obtain ⟨⟨o1, o2, o3, o4⟩, h6, h7, h8, h9, h10, h11, h14, ⟨q, l1, l2, l3, -⟩, ⟨g0, g1, g2, g3, g4, g5, g6⟩⟩ := h
  have n : ∀ κ i, κ ≠ 118 → ¬ (κ = 118 ∧ i = j) := fun κ i a z => a z.1
  have s : ∀ κ i, κ < 256 → κ ≠ 118 → mS μ' (hd κ i) = mS μ (hd κ i) := fun κ i hh a => f.S hh (n κ i a)
  have eR : ∀ k, gR μ' (hd 100 0) k = gR μ (hd 100 0) k := fun k => f.gr (by decide) (n _ _ (by decide))
  have eI : ∀ k, gI μ' (hd 100 0) k = gI μ (hd 100 0) k := fun k => f.gi (by decide) (n _ _ (by decide))
  exact ⟨⟨(s _ _ (by decide) (by decide)).trans o1, fun k hk => (eI k).trans (o2 k hk), (eI 4).trans o3, (eI 5).trans o4⟩,
    h6.fr f (eR _) (by decide) (by decide) (n _ _ (by decide)) (fun k _ => n _ _ (by decide)), h7.fr f (eR _) (by decide) (n _ _ (by decide)) (fun k _ => n _ _ (by decide)),
    h8.fr f (eR _) (by decide) (n _ _ (by decide)) (fun k _ => n _ _ (by decide)), h9.fr f (eR _) (by decide) (n _ _ (by decide)) (fun k _ => n _ _ (by decide)), h10.fr f (eR _) (by decide) (n _ _ (by decide)) (fun k _ => n _ _ (by decide)),
    h11.fr f (eR _) (by decide) (by decide) (n _ _ (by decide)) (fun k _ => n _ _ (by decide)), h14.fr f (eR _) (by decide) (by decide) (n _ _ (by decide)) (fun k hk => by omega),
    LR.nil ((eR 13).trans l1) l2 ((s _ _ (by decide) (by decide)).trans l3), g0.nx (Nat.le_refl _) f (fun κ i z a => by omega), fun i => ⟨(s _ _ (by decide) (by decide)).trans (g1 i).1, (s _ _ (by decide) (by decide)).trans (g1 i).2⟩, fun i a => (s _ _ (by decide) (by decide)).trans (g2 i a), fun i a => (s _ _ (by decide) (by decide)).trans (g3 i a), fun i a => (s _ _ (by decide) (by decide)).trans (g4 i a), fun i a => (f.S (by decide) (by omega)).trans (g5 i (by omega)), fun i a => (s _ _ (by decide) (by decide)).trans (g6 i a)⟩
end LQS
