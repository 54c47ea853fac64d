/-! what is true of boards, whatever is done -/
def IWK (T : PT) (D : DT) : Prop := ∀ b s, b < T 0 0 → s < 60 → D 8 b s ≠ 0 → s < D 1 0 0 ∧ ¬ kn D b s
def ISK (T : PT) (D : DT) : Prop := ∀ b s, b < T 0 0 → pSh D b s → kn D b s
def IMU (T : PT) (D : DT) : Prop := ∀ b s t, b < T 0 0 → pSh D b s → pSh D b t → D 4 s 1 = D 4 t 1 → ah D s t → s = t
def ICV (T : PT) (D : DT) : Prop := ∀ b s, b < T 0 0 → s < D 1 0 0 → kn D b s → ∃ t, pSh D b t ∧ D 4 t 1 = D 4 s 1 ∧ ah D s t
def ICL (T : PT) (D : DT) : Prop := ∀ b s p, b < T 0 0 → s < D 1 0 0 → p < 5 → kn D b s → D 5 s p ≤ D 6 b p
def ITR (D : DT) : Prop := ∀ s t p, s < D 1 0 0 → t < D 1 0 0 → p < 5 → ah D s t → D 5 s p ≤ D 5 t p
def IDM (D : DT) : Prop := ∀ s, s < D 1 0 0 → D 4 s 4 ≤ D 0 0 0
def Iv (T : PT) (D : DT) : Prop := IWK T D ∧ ISK T D ∧ IMU T D ∧ ICV T D ∧ ICL T D ∧ ITR D ∧ IDM D
section IVA
variable {T : PT} {D D' : DT} {b n v m h s : Nat}
theorem cPle {p k l : Nat} (h : k ≤ l) : cP D p k ≤ cP D p l := sumN_mono h
theorem cPo {p k : Nat} (h : D 4 k 0 = p) : cP D p (k + 1) = cP D p k + 1 := by
  show sumN _ k + bN (D 4 k 0 = p) = _
  rw [bN_t h]; rfl
/-- what is ahead was made earlier -/
theorem ah_le (hI : Inv T D) {s t : Nat} (hs : s < D 1 0 0) (ht : t < D 1 0 0) (h : ah D s t) : s ≤ t := by
  obtain ⟨hB, hW, ⟨n1, n2, n3, n4⟩, -⟩ := hI
  have hP5 := hB.1.1
  have h4 := (hB.2.1 s hs).1
  have h1 := n2 s hs
  have h2 := n1 t (D 4 s 0) ht (by omega)
  unfold ah at h
  rcases Nat.lt_or_ge t s with z | z
  · have h3 : cP D (D 4 s 0) (t + 1) ≤ cP D (D 4 s 0) s := cPle (by omega)
    have h5 := cPo (D := D) (k := s) rfl
    omega
  · exact z
/-- own sheets are one behind another -/
theorem own_lt (hI : Inv T D) {s t : Nat} (hs : s < D 1 0 0) (ht : t < D 1 0 0) (e : D 4 s 0 = D 4 t 0) (h : s < t) : D 5 s (D 4 s 0) < D 5 t (D 4 t 0) := by
  obtain ⟨hB, hW, ⟨n1, n2, n3, n4⟩, -⟩ := hI
  have h1 := n2 s hs
  have h2 := n2 t ht
  have h3 : cP D (D 4 t 0) (s + 1) ≤ cP D (D 4 t 0) t := cPle (by omega)
  have h5 := cPo (D := D) (k := t) rfl
  rw [e] at h1 ⊢
  omega
/-- a board knows its own -/
theorem kn_own (hI : Inv T D) {s : Nat} (hs : s < D 1 0 0) : kn D (D 4 s 0) s := by
  obtain ⟨hB, hW, ⟨n1, n2, n3, n4⟩, -⟩ := hI
  have h1 := n2 s hs
  have h2 := n4 _ (hB.2.1 s hs).1
  have h3 : cP D (D 4 s 0) (s + 1) ≤ cP D (D 4 s 0) (D 1 0 0) := cPle (by omega)
  unfold kn
  omega
/-- a world with a sheet more -/
theorem kn_mk_lt (hI : Inv T D) (hb : b < T 0 0) {c k : Nat} (hk : k < D 1 0 0) (hc : c < T 0 0) : kn (mkD T D b n v m h) c k ↔ kn D c k := by
  have := pKn_mk (n := n) (v := v) (m := m) (h := h) hI hb (show k ≤ D 1 0 0 by omega) hc
  unfold pKn at this
  rw [mk_1] at this
  constructor
  · intro z
    rcases this.mp ⟨by omega, z⟩ with w | w
    · exact w.2
    · omega
  · intro z; exact (this.mpr (Or.inl ⟨hk, z⟩)).2
theorem kn_mk_S (hI : Inv T D) (hb : b < T 0 0) {c : Nat} (hc : c < T 0 0) : kn (mkD T D b n v m h) c (D 1 0 0) ↔ c = b := by
  have := pKn_mk (n := n) (v := v) (m := m) (h := h) hI hb (Nat.le_refl (D 1 0 0)) hc
  unfold pKn at this
  rw [mk_1] at this
  constructor
  · intro z
    rcases this.mp ⟨by omega, z⟩ with w | w
    · omega
    · exact w.1
  · intro z; exact (this.mpr (Or.inr ⟨z, rfl⟩)).2
theorem ah_mk_lt {s t : Nat} (hs : s < D 1 0 0) (ht : t < D 1 0 0) : ah (mkD T D b n v m h) s t ↔ ah D s t := by
  unfold ah
  rw [mk_45 (Or.inl rfl) (by omega), mk_45 (Or.inr rfl) (by omega), mk_45 (Or.inr rfl) (by omega)]
theorem ah_mk_S (hI : Inv T D) (hb : b < T 0 0) {s : Nat} (hs : s ≤ D 1 0 0) : ah (mkD T D b n v m h) s (D 1 0 0) ↔ kn (mkD T D b n v m h) b s := by
  have := pAh_mkS (n := n) (v := v) (m := m) (h := h) hI hb hs
  unfold pAh pKn at this
  rw [mk_1] at this
  exact ⟨fun z => (this.mp ⟨by omega, z⟩).2, fun z => (this.mpr ⟨by omega, z⟩).2⟩
theorem ah_mk_n (hI : Inv T D) (hb : b < T 0 0) {t : Nat} (ht : t < D 1 0 0) : ¬ ah (mkD T D b n v m h) (D 1 0 0) t := fun z => by
  have := (pAh_mk (n := n) (v := v) (m := m) (h := h) hI hb ht (Nat.le_refl _)).mp ⟨by rw [mk_1]; omega, z⟩
  exact absurd this.1 (by omega)
theorem Iv.mk (hI : Inv T D) (h2 : Iv T D) (h60 : D 1 0 0 < 60) (hb : b < T 0 0) (hn : n < T 1 0) : Iv T (mkD T D b n v m h) := by
  obtain ⟨wk, sk, mu, cv, cl, tr, dm⟩ := h2
  have hB := hI.1
  have hP5 := hB.1.1
  have e4 : ∀ s j, s < D 1 0 0 → mkD T D b n v m h 4 s j = D 4 s j := fun s j hs => mk_45 (Or.inl rfl) (by omega)
  have e5 : ∀ s j, s < D 1 0 0 → mkD T D b n v m h 5 s j = D 5 s j := fun s j hs => mk_45 (Or.inr rfl) (by omega)
  have e6 : ∀ c p, D 6 c p ≤ mkD T D b n v m h 6 c p := fun c p => by
    rw [mk_6]
    split
    · rename_i z; rw [z.1, z.2]; omega
    · exact Nat.le_refl _
  have esh : ∀ c s, c < T 0 0 → pSh (mkD T D b n v m h) c s → (s < D 1 0 0 ∧ pSh D c s ∧ ¬ (c = b ∧ D 4 s 1 = n)) ∨ (c = b ∧ s = D 1 0 0) := fun c s hc z => by
    have zs : s ≤ D 1 0 0 := by have := z.1; rw [mk_1] at this; omega
    rcases (pSh_mk hB hc hb hn zs).mp z with w | w
    · exact Or.inl ⟨w.1.1, w⟩
    · exact Or.inr w
  have e5S : ∀ p, mkD T D b n v m h 5 (D 1 0 0) p = mkD T D b n v m h 6 b p := fun p => by
    rw [mk_5S, mk_6]
    by_cases z : p = b
    · rw [if_pos z, if_pos ⟨rfl, z⟩]
    · rw [if_neg z, if_neg (fun w => z w.2)]
  have n1 : mkD T D b n v m h 4 (D 1 0 0) 1 = n := mk_4S
  have clS : ∀ c s p, c < T 0 0 → s ≤ D 1 0 0 → p < 5 → kn (mkD T D b n v m h) c s → mkD T D b n v m h 5 s p ≤ mkD T D b n v m h 6 c p := fun c s p hc hs hp z => by
    rcases Nat.lt_or_ge s (D 1 0 0) with y | y
    · have := cl c s p hc y hp ((kn_mk_lt hI hb y hc).mp z)
      rw [e5 s p y]
      exact Nat.le_trans this (e6 c p)
    · obtain rfl : s = D 1 0 0 := by omega
      rw [(kn_mk_S hI hb hc).mp z, e5S]; exact Nat.le_refl _
  refine ⟨fun c s hc hs z => ?_, fun c s hc z => ?_, fun c s t hc z1 z2 e z3 => ?_, fun c s hc hs z => ?_, fun c s p hc hs hp z => ?_, fun s t p hs ht hp z => ?_, fun s hs => ?_⟩
  · rw [mk_f (by decide) (by decide) (by decide) (by decide) (by decide)] at z
    obtain ⟨w1, w2⟩ := wk c s hc hs z
    rw [mk_1]
    exact ⟨by omega, fun w => w2 ((kn_mk_lt hI hb w1 hc).mp w)⟩
  · rcases esh c s hc z with ⟨w0, w, -⟩ | ⟨w1, w2⟩
    · exact (kn_mk_lt hI hb w0 hc).mpr (sk c s hc w)
    · rw [w2]; exact (kn_mk_S hI hb hc).mpr w1
  · rcases esh c s hc z1 with ⟨w0, w, w'⟩ | ⟨w1, w2⟩
    · rcases esh c t hc z2 with ⟨y0, y, y'⟩ | ⟨y1, y2⟩
      · rw [e4 s 1 w0, e4 t 1 y0] at e
        exact mu c s t hc w y e ((ah_mk_lt w0 y0).mp z3)
      · rw [e4 s 1 w0, y2, n1] at e
        exact absurd ⟨y1, e⟩ w'
    · rcases esh c t hc z2 with ⟨y0, y, y'⟩ | ⟨y1, y2⟩
      · rw [w2] at z3; exact absurd z3 (ah_mk_n hI hb y0)
      · rw [w2, y2]
  · rw [mk_1] at hs
    rcases Nat.lt_or_ge s (D 1 0 0) with y | y
    · have zk := (kn_mk_lt hI hb y hc).mp z
      by_cases e : c = b ∧ D 4 s 1 = n
      · exact ⟨D 1 0 0, (pSh_mk hB hc hb hn (Nat.le_refl _)).mpr (Or.inr ⟨e.1, rfl⟩), by rw [n1, e4 s 1 y, e.2], (ah_mk_S hI hb (by omega)).mpr (by rw [e.1] at z; exact z)⟩
      · obtain ⟨t, t1, t2, t3⟩ := cv c s hc y zk
        exact ⟨t, (pSh_mk hB hc hb hn (Nat.le_of_lt t1.1)).mpr (Or.inl ⟨t1, fun w => e ⟨w.1, by rw [← t2]; exact w.2⟩⟩), by rw [e4 t 1 t1.1, e4 s 1 y, t2], (ah_mk_lt y t1.1).mpr t3⟩
    · obtain rfl : s = D 1 0 0 := by omega
      have ec := (kn_mk_S hI hb hc).mp z
      exact ⟨D 1 0 0, (pSh_mk hB hc hb hn (Nat.le_refl _)).mpr (Or.inr ⟨ec, rfl⟩), rfl, (ah_mk_S hI hb (Nat.le_refl _)).mpr (by rw [ec] at z; exact z)⟩
  · rw [mk_1] at hs
    exact clS c s p hc (by omega) hp z
  · rw [mk_1] at hs ht
    rcases Nat.lt_or_ge t (D 1 0 0) with y | y
    · rcases Nat.lt_or_ge s (D 1 0 0) with x | x
      · rw [e5 s p x, e5 t p y]; exact tr s t p x y hp ((ah_mk_lt x y).mp z)
      · obtain rfl : s = D 1 0 0 := by omega
        exact absurd z (ah_mk_n hI hb y)
    · obtain rfl : t = D 1 0 0 := by omega
      rw [e5S]
      exact clS b s p hb (by omega) hp ((ah_mk_S hI hb (by omega)).mp z)
  · rw [mk_1] at hs
    rw [show mkD T D b n v m h 0 0 0 = D 0 0 0 from mk_f (by decide) (by decide) (by decide) (by decide) (by decide)]
    rcases Nat.lt_or_ge s (D 1 0 0) with x | x
    · rw [e4 s 4 x]; exact dm s x
    · obtain rfl : s = D 1 0 0 := by omega
      rw [mk_4S]; exact Nat.le_refl _
/-- what does not touch boards and sheets -/
theorem Iv.congr (h2 : Iv T D) (e1 : D' 1 0 0 = D 1 0 0) (e0 : D 0 0 0 ≤ D' 0 0 0) (e4 : ∀ i j, D' 4 i j = D 4 i j) (e5 : ∀ i j, D' 5 i j = D 5 i j) (e6 : ∀ i j, D' 6 i j = D 6 i j) (e7 : ∀ i j, D' 7 i j = D 7 i j) (e8 : ∀ b s, b < T 0 0 → s < 60 → D' 8 b s ≠ 0 → D 8 b s ≠ 0 ∨ (s < D 1 0 0 ∧ ¬ kn D b s)) : Iv T D' := by
  obtain ⟨wk, sk, mu, cv, cl, tr, dm⟩ := h2
  have ek : ∀ b s, kn D' b s ↔ kn D b s := fun b s => by unfold kn; rw [e4, e5, e6]
  have ea : ∀ s t, ah D' s t ↔ ah D s t := fun s t => by unfold ah; rw [e4, e5, e5]
  have es : ∀ b s, pSh D' b s ↔ pSh D b s := fun b s => by unfold pSh; rw [e1, e4, e4, e7]
  refine ⟨fun b s hb hs z => ?_, fun b s hb z => (ek b s).mpr (sk b s hb ((es b s).mp z)), fun b s t hb z1 z2 e z3 => ?_, fun b s hb hs z => ?_, fun b s p hb hs hp z => ?_, fun s t p hs ht hp z => ?_, fun s hs => ?_⟩
  · rw [e1, ek]
    exact (e8 b s hb hs z).elim (wk b s hb hs) id
  · rw [e4, e4] at e
    exact mu b s t hb ((es b s).mp z1) ((es b t).mp z2) e ((ea s t).mp z3)
  · rw [e1] at hs
    obtain ⟨t, t1, t2, t3⟩ := cv b s hb hs ((ek b s).mp z)
    exact ⟨t, (es b t).mpr t1, by rw [e4, e4, t2], (ea s t).mpr t3⟩
  · rw [e1] at hs
    rw [e5, e6]; exact cl b s p hb hs hp ((ek b s).mp z)
  · rw [e1] at hs ht
    rw [e5, e5]; exact tr s t p hs ht hp ((ea s t).mp z)
  · rw [e1] at hs
    rw [e4]; exact Nat.le_trans (dm s hs) e0
end IVA
/-! hanging -/
section IVH
variable {T : PT} {D : DT} {b s : Nat}
theorem clrD_7 {c k : Nat} : ∀ K, clrD D b s K 7 c k = @ite _ (c = b ∧ 5 * D 4 s 1 ≤ k ∧ k < 5 * D 4 s 1 + K ∧ D 7 b k ≠ 0 ∧ ah D (D 7 b k - 1) s) (Classical.propDecidable _) 0 (D 7 c k)
  | 0 => by rw [clrD, if_neg (by omega)]
  | K + 1 => by
    rw [clrD]
    split
    · rename_i z
      unfold ud
      by_cases e : c = b ∧ k = 5 * D 4 s 1 + K
      · rw [if_pos ⟨rfl, e.1, e.2⟩, if_pos ⟨e.1, by omega, by omega, by rw [e.2]; exact z.1, by rw [e.2]; exact z.2⟩]
      · rw [if_neg (fun w => e w.2), clrD_7 K]
        by_cases e2 : c = b ∧ 5 * D 4 s 1 ≤ k ∧ k < 5 * D 4 s 1 + K ∧ D 7 b k ≠ 0 ∧ ah D (D 7 b k - 1) s
        · rw [if_pos e2, if_pos ⟨e2.1, e2.2.1, by omega, e2.2.2.2⟩]
        · rw [if_neg e2, if_neg (fun w => e2 ⟨w.1, w.2.1, by
            have : k ≠ 5 * D 4 s 1 + K := fun x => e ⟨w.1, x⟩
            omega, w.2.2.2⟩)]
    · rename_i z
      rw [clrD_7 K]
      by_cases e2 : c = b ∧ 5 * D 4 s 1 ≤ k ∧ k < 5 * D 4 s 1 + K ∧ D 7 b k ≠ 0 ∧ ah D (D 7 b k - 1) s
      · rw [if_pos e2, if_pos ⟨e2.1, e2.2.1, by omega, e2.2.2.2⟩]
      · rw [if_neg e2, if_neg (fun w => e2 ⟨w.1, w.2.1, by
          have : k ≠ 5 * D 4 s 1 + K := fun x => z (by rw [← x]; exact w.2.2.2)
          omega, w.2.2.2⟩)]
theorem hang_7 {c k : Nat} : hangD T D b s 7 c k = if c = b ∧ k = 5 * D 4 s 1 + D 4 s 0 then s + 1 else @ite _ (c = b ∧ 5 * D 4 s 1 ≤ k ∧ k < 5 * D 4 s 1 + T 0 0 ∧ D 7 b k ≠ 0 ∧ ah D (D 7 b k - 1) s) (Classical.propDecidable _) 0 (D 7 c k) := by
  unfold hangD
  rw [ud_f (by decide)]
  have e : ∀ X : DT, ud X 7 b (5 * D 4 s 1 + D 4 s 0) (s + 1) 7 c k = if c = b ∧ k = 5 * D 4 s 1 + D 4 s 0 then s + 1 else X 7 c k := fun X => by
    unfold ud
    by_cases e : c = b ∧ k = 5 * D 4 s 1 + D 4 s 0
    · rw [if_pos ⟨rfl, e.1, e.2⟩, if_pos e]
    · rw [if_neg (fun w => e w.2), if_neg e]
  rw [e, clrD_7]
  rfl
theorem hg_f {f i j : Nat} (h2 : f ≠ 2) (h6 : f ≠ 6) (h7 : f ≠ 7) (h8 : f ≠ 8) (h11 : f ≠ 11) : hangD T D b s f i j = D f i j := hang_f h2 h6 h7 h8 h11
theorem kn_hang (hI : Inv T D) (hb : b < T 0 0) (hs : s < D 1 0 0) (hch : cH D b s) {c k : Nat} (hk : k < D 1 0 0) : kn (hangD T D b s) c k ↔ kn D c k ∨ (c = b ∧ k = s) := by
  have hP5 := hI.1.1.1
  have h4 := (hI.1.2.1 s hs).1
  have h := hch (D 4 s 0) (by omega)
  rw [if_pos rfl] at h
  unfold kn
  rw [hg_f (by decide) (by decide) (by decide) (by decide) (by decide), hg_f (by decide) (by decide) (by decide) (by decide) (by decide), hang_6]
  by_cases e : c = b ∧ D 4 k 0 = D 4 s 0
  · rw [if_pos e, e.1, e.2]
    constructor
    · intro z
      rcases Nat.lt_trichotomy k s with y | y | y
      · have := own_lt hI hk hs e.2 y
        rw [e.2] at this
        exact Or.inl (by omega)
      · exact Or.inr ⟨rfl, y⟩
      · have := own_lt hI hs hk e.2.symm y
        rw [e.2] at this
        omega
    · rintro (z | ⟨-, rfl⟩)
      · omega
      · omega
  · rw [if_neg e]
    constructor
    · exact Or.inl
    · rintro (z | ⟨rfl, rfl⟩)
      · exact z
      · exact absurd ⟨rfl, rfl⟩ e
theorem ah_hang {i j : Nat} : ah (hangD T D b s) i j ↔ ah D i j := by
  unfold ah
  rw [hg_f (by decide) (by decide) (by decide) (by decide) (by decide), hg_f (by decide) (by decide) (by decide) (by decide) (by decide), hg_f (by decide) (by decide) (by decide) (by decide) (by decide)]
theorem nk_of (hI : Inv T D) (hs : s < D 1 0 0) (hch : cH D b s) : ¬ kn D b s := fun z => by
  have hP5 := hI.1.1.1
  have h4 := (hI.1.2.1 s hs).1
  have h := hch (D 4 s 0) (by omega)
  rw [if_pos rfl] at h
  unfold kn at z
  omega
theorem pSh_hang (hI : Inv T D) (h2 : Iv T D) (hb : b < T 0 0) (hs : s < D 1 0 0) (hch : cH D b s) {c k : Nat} (hk : k < D 1 0 0) (hc : c < T 0 0) : pSh (hangD T D b s) c k ↔ (pSh D c k ∧ ¬ (c = b ∧ D 4 k 1 = D 4 s 1 ∧ ah D k s)) ∨ (c = b ∧ k = s) := by
  have hP5 := hI.1.1.1
  have h4 := (hI.1.2.1 s hs).1
  have k4 := (hI.1.2.1 k hk).1
  have h := hch (D 4 s 0) (by omega)
  rw [if_pos rfl] at h
  unfold pSh
  have e1 : hangD T D b s 1 0 0 = D 1 0 0 := hg_f (by decide) (by decide) (by decide) (by decide) (by decide)
  have e4 : ∀ i j, hangD T D b s 4 i j = D 4 i j := fun _ _ => hg_f (by decide) (by decide) (by decide) (by decide) (by decide)
  rw [e1, e4, e4, hang_7]
  by_cases e : c = b ∧ 5 * D 4 k 1 + D 4 k 0 = 5 * D 4 s 1 + D 4 s 0
  · rw [if_pos e]
    have e1 : D 4 k 1 = D 4 s 1 := by omega
    have e2 : D 4 k 0 = D 4 s 0 := by omega
    constructor
    · rintro ⟨_, z⟩; exact Or.inr ⟨e.1, by omega⟩
    · rintro (⟨⟨_, z⟩, w⟩ | ⟨_, z⟩)
      · exfalso
        refine w ⟨e.1, e1, ?_⟩
        have hkn : kn D c k := h2.2.1 c k hc ⟨hk, z⟩
        unfold kn at hkn
        unfold ah
        rw [e2] at hkn ⊢
        rw [e.1] at hkn
        omega
      · exact ⟨hk, by omega⟩
  · rw [if_neg e]
    by_cases e2 : c = b ∧ 5 * D 4 s 1 ≤ 5 * D 4 k 1 + D 4 k 0 ∧ 5 * D 4 k 1 + D 4 k 0 < 5 * D 4 s 1 + T 0 0 ∧ D 7 b (5 * D 4 k 1 + D 4 k 0) ≠ 0 ∧ ah D (D 7 b (5 * D 4 k 1 + D 4 k 0) - 1) s
    · rw [if_pos e2]
      constructor
      · rintro ⟨_, z⟩; omega
      · rintro (⟨⟨_, z⟩, w⟩ | ⟨z1, z2⟩)
        · have z' := z
          rw [e2.1] at z'
          exact absurd ⟨e2.1, by omega, by have := e2.2.2.2.2; rw [z', Nat.add_sub_cancel] at this; exact this⟩ w
        · rw [z2] at e; exact absurd ⟨z1, rfl⟩ e
    · rw [if_neg e2]
      constructor
      · rintro ⟨_, z⟩
        refine Or.inl ⟨⟨hk, z⟩, fun w => e2 ⟨w.1, by omega, by omega, ?_, ?_⟩⟩
        · rw [← w.1, z]; omega
        · rw [← w.1, z, Nat.add_sub_cancel]; exact w.2.2
      · rintro (⟨z, _⟩ | ⟨z1, z2⟩)
        · exact z
        · rw [z2] at e; exact absurd ⟨z1, rfl⟩ e
theorem Iv.hang (hI : Inv T D) (h2 : Iv T D) (hb : b < T 0 0) (hs : s < D 1 0 0) (hch : cH D b s) : Iv T (hangD T D b s) := by
  have h2' := h2
  obtain ⟨wk, sk, mu, cv, cl, tr, dm⟩ := h2
  have hB := hI.1
  have hP5 := hB.1.1
  have e1 : hangD T D b s 1 0 0 = D 1 0 0 := hg_f (by decide) (by decide) (by decide) (by decide) (by decide)
  have e0 : hangD T D b s 0 0 0 = D 0 0 0 := hg_f (by decide) (by decide) (by decide) (by decide) (by decide)
  have e4 : ∀ i j, hangD T D b s 4 i j = D 4 i j := fun _ _ => hg_f (by decide) (by decide) (by decide) (by decide) (by decide)
  have e5 : ∀ i j, hangD T D b s 5 i j = D 5 i j := fun _ _ => hg_f (by decide) (by decide) (by decide) (by decide) (by decide)
  have e6 : ∀ c p, D 6 c p ≤ hangD T D b s 6 c p := fun c p => by
    rw [hang_6]
    split
    · rename_i z; rw [z.1, z.2]; omega
    · exact Nat.le_refl _
  have hnk := nk_of hI hs hch
  have shl : ∀ c k, pSh (hangD T D b s) c k → k < D 1 0 0 := fun c k z => by have := z.1; rw [e1] at this; exact this
  refine ⟨fun c k hc hk z => ?_, fun c k hc z => ?_, fun c k t hc z1 z2 e z3 => ?_, fun c k hc hk z => ?_, fun c k p hc hk hp z => ?_, fun k t p hk ht hp z => ?_, fun k hk => ?_⟩
  · rw [hang_8] at z
    by_cases e : c = b ∧ k = s
    · rw [if_pos e] at z; exact absurd rfl z
    · rw [if_neg e] at z
      obtain ⟨w1, w2⟩ := wk c k hc hk z
      rw [e1]
      exact ⟨w1, fun w => ((kn_hang hI hb hs hch w1).mp w).elim w2 e⟩
  · have hk := shl c k z
    rcases (pSh_hang hI h2' hb hs hch hk hc).mp z with w | w
    · exact (kn_hang hI hb hs hch hk).mpr (Or.inl (sk c k hc w.1))
    · exact (kn_hang hI hb hs hch hk).mpr (Or.inr w)
  · have hk := shl c k z1
    have ht := shl c t z2
    rw [e4, e4] at e
    rw [ah_hang] at z3
    rcases (pSh_hang hI h2' hb hs hch hk hc).mp z1 with w | w
    · rcases (pSh_hang hI h2' hb hs hch ht hc).mp z2 with y | y
      · exact mu c k t hc w.1 y.1 e z3
      · rw [y.2] at e z3
        exact absurd ⟨y.1, e, z3⟩ w.2
    · rcases (pSh_hang hI h2' hb hs hch ht hc).mp z2 with y | y
      · exfalso
        rw [w.2] at z3
        have hkt : kn D b t := by rw [← w.1]; exact sk c t hc y.1
        have h4 := (hB.2.1 s hs).1
        have := cl b t (D 4 s 0) hb ht (by omega) hkt
        unfold ah at z3
        exact hnk (Nat.le_trans z3 this)
      · rw [w.2, y.2]
  · rw [e1] at hk
    rcases (kn_hang hI hb hs hch hk).mp z with w | w
    · obtain ⟨t, t1, t2, t3⟩ := cv c k hc hk w
      by_cases e : c = b ∧ D 4 t 1 = D 4 s 1 ∧ ah D t s
      · refine ⟨s, (pSh_hang hI h2' hb hs hch hs hc).mpr (Or.inr ⟨e.1, rfl⟩), ?_, ah_hang.mpr ?_⟩
        · rw [e4, e4, ← e.2.1, t2]
        · have h4 := (hB.2.1 k hk).1
          have := tr t s (D 4 k 0) t1.1 hs (by omega) e.2.2
          exact Nat.le_trans t3 this
      · exact ⟨t, (pSh_hang hI h2' hb hs hch t1.1 hc).mpr (Or.inl ⟨t1, e⟩), by rw [e4, e4, t2], ah_hang.mpr t3⟩
    · exact ⟨s, (pSh_hang hI h2' hb hs hch hs hc).mpr (Or.inr ⟨w.1, rfl⟩), by rw [w.2], ah_hang.mpr (by rw [w.2]; exact Nat.le_refl _)⟩
  · rw [e1] at hk
    rw [e5]
    rcases (kn_hang hI hb hs hch hk).mp z with w | w
    · exact Nat.le_trans (cl c k p hc hk hp w) (e6 c p)
    · have h := hch p hp
      rw [w.1, w.2, hang_6]
      by_cases e : p = D 4 s 0
      · rw [if_pos ⟨rfl, e⟩]
        rw [if_pos e] at h
        rw [e] at h ⊢
        omega
      · rw [if_neg (fun x => e x.2)]
        rw [if_neg e] at h
        exact h
  · rw [e1] at hk ht
    rw [e5, e5]; exact tr k t p hk ht hp (ah_hang.mp z)
  · rw [e1] at hk
    rw [e4, e0]; exact dm k hk
/-- a sheet may be hung just if all that is ahead of it is known -/
theorem cH_iff (hI : Inv T D) (hb : b < T 0 0) (hs : s < D 1 0 0) (hn : ¬ kn D b s) : cH D b s ↔ ∀ j, j < D 1 0 0 → j ≠ s → ah D j s → kn D b j := by
  have hI' := hI
  obtain ⟨hB, hW, ⟨n1, n2, n3, n4⟩, -⟩ := hI'
  have hP5 := hB.1.1
  have h4 := (hB.2.1 s hs).1
  -- the c-th sheet of a parish
  have cth : ∀ p c K, 1 ≤ c → c ≤ cP D p K → ∃ j, j < K ∧ D 4 j 0 = p ∧ cP D p (j + 1) = c := by
    intro p c K h1
    induction K with
    | zero => intro h; have : cP D p 0 = 0 := rfl; omega
    | succ K ih =>
      intro h
      rcases Nat.lt_or_ge (cP D p K) c with y | y
      · have e : cP D p (K + 1) = cP D p K + bN (D 4 K 0 = p) := rfl
        by_cases z : D 4 K 0 = p
        · rw [bN_t z] at e
          exact ⟨K, by omega, z, by omega⟩
        · rw [bN_f z] at e; omega
      · obtain ⟨j, j1, j2, j3⟩ := ih y
        exact ⟨j, by omega, j2, j3⟩
  have e2 := n2 s hs
  constructor
  · intro hc j hj hne ha
    have h5 := (hB.2.1 j hj).1
    have hh := hc (D 4 j 0) (by omega)
    unfold ah at ha
    unfold kn
    by_cases e : D 4 j 0 = D 4 s 0
    · rw [if_pos e] at hh
      rcases Nat.lt_or_gt_of_ne hne with y | y
      · have := own_lt hI hj hs e y
        rw [← e] at this
        omega
      · have := own_lt hI hs hj e.symm y
        rw [← e] at this
        omega
    · rw [if_neg e] at hh; omega
  · intro hall p hp
    by_cases e : p = D 4 s 0
    · rw [if_pos e, e]
      have hlt : D 6 b (D 4 s 0) < D 5 s (D 4 s 0) := by unfold kn at hn; omega
      rcases Nat.lt_or_ge (D 6 b (D 4 s 0) + 1) (D 5 s (D 4 s 0)) with y | y
      · exfalso
        obtain ⟨j, j1, j2, j3⟩ := cth (D 4 s 0) (D 6 b (D 4 s 0) + 1) (s + 1) (by omega) (by omega)
        have hj : j < D 1 0 0 := by omega
        have h5 := n2 j hj
        rw [j2, j3] at h5
        have hjs : j ≠ s := fun z => by rw [z] at h5; omega
        have := hall j hj hjs (by unfold ah; rw [j2]; omega)
        unfold kn at this
        rw [j2] at this
        omega
      · omega
    · rw [if_neg e]
      rcases Nat.lt_or_ge (D 6 b p) (D 5 s p) with y | y
      · exfalso
        obtain ⟨j, j1, j2, j3⟩ := cth p (D 5 s p) (s + 1) (by omega) (n1 s p hs hp)
        have hj : j < D 1 0 0 := by omega
        have h5 := n2 j hj
        rw [j2, j3] at h5
        have hjs : j ≠ s := fun z => e (by rw [← j2, z])
        have := hall j hj hjs (by unfold ah; rw [j2]; omega)
        unfold kn at this
        rw [j2] at this
        omega
      · exact y
end IVH
