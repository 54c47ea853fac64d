/-! a whole text, as a row of tokens -/
def paT (a : Nat) : List TkE := [(0, 0, 1), (44, a, 0), (33, 0, 0)]
def noT (b : Nat) : List TkE := [(5, 0, 1), (44, 10 + b, 0), (33, 0, 0)]
def rdT (F G H : Nat → Nat) (r : Nat) : List TkE := [(1, 0, 1), (44, 20 + r, 1), (2, 0, 1), (44, F r, 1), (3, 0, 1), (44, G r, 1), (4, 0, 1), (45, H r, 0), (33, 0, 2)]
def fl (f : Nat → List TkE) : Nat → List TkE
  | 0 => []
  | n + 1 => fl f n ++ f n
def plT (P N R O : Nat) (F G H : Nat → Nat) (W : Nat → Nat → Nat) : List TkE := fl paT P ++ (fl noT N ++ (fl (rdT F G H) R ++ fl (fun k => orT (W k)) O))
/-- an order's numbers are within their bounds -/
def oB (P N R : Nat) (w : Nat → Nat) : Prop := w 0 ≤ 3 ∧ (w 0 = 3 → w 1 < R) ∧ (w 0 ≠ 3 → w 1 < P) ∧ w 2 < N ∧ w 3 ≤ 2 ∧ w 4 ≤ 15 ∧ (w 0 = 2 → w 4 < 3) ∧ w 5 ≤ 5 ∧ (w 0 ≤ 1 → w 5 ≠ 0) ∧ w 6 ≤ 8 ∧ w 7 ≤ 8 ∧ (w 5 = 1 ∨ w 5 = 2 ∨ w 5 = 5 → w 6 < P ∧ w 7 < N) ∧ (w 5 = 3 → 2 ≤ w 6) ∧ (w 5 = 4 → w 6 < P ∧ w 7 < 3)
def PBd (P N R O : Nat) (F G H : Nat → Nat) (W : Nat → Nat → Nat) : Prop := (1 ≤ P ∧ P ≤ 5) ∧ (1 ≤ N ∧ N ≤ 3) ∧ (1 ≤ R ∧ R ≤ 8) ∧ O ≤ 10 ∧ (∀ r, r < R → F r < P ∧ G r < P ∧ F r ≠ G r ∧ 1 ≤ H r ∧ H r ≤ 9) ∧ ∀ k, k < O → oB P N R (W k)
theorem fl_len {f : Nat → List TkE} {m : Nat} (h : ∀ k, (f k).length = m) : ∀ n, (fl f n).length = m * n
  | 0 => rfl
  | n + 1 => by rw [fl, List.length_append, fl_len h n, h, Nat.mul_succ]
theorem fl_le {f : Nat → List TkE} {m : Nat} : ∀ n, (∀ k, k < n → (f k).length ≤ m) → (fl f n).length ≤ m * n
  | 0, _ => Nat.le_refl _
  | n + 1, h => by
    have h1 := fl_le n (fun k hk => h k (by omega))
    have h2 := h n (by omega)
    rw [fl, List.length_append, Nat.mul_succ]; omega
theorem fl_mono {f : Nat → List TkE} {k n : Nat} (h : k ≤ n) : (fl f k).length ≤ (fl f n).length := by
  obtain ⟨c, rfl⟩ := Nat.exists_eq_add_of_le h
  clear h
  induction c with
  | zero => exact Nat.le_refl _
  | succ c ih => rw [← Nat.add_assoc, fl, List.length_append]; omega
theorem fl_pre {f : Nat → List TkE} {k n : Nat} (h : k < n) : ∃ l', fl f n = (fl f k ++ f k) ++ l' := by
  obtain ⟨c, rfl⟩ := Nat.exists_eq_add_of_lt h
  clear h
  induction c with
  | zero => exact ⟨[], by rw [List.append_nil]; rfl⟩
  | succ c ih =>
    obtain ⟨l', e⟩ := ih
    exact ⟨l' ++ f (k + c + 1), by rw [show k + (c + 1) + 1 = (k + c + 1) + 1 by omega, fl, e, List.append_assoc]⟩
theorem fl_in {f : Nat → List TkE} : ∀ n i, i < (fl f n).length → ∃ k b, k < n ∧ b < (f k).length ∧ i = (fl f k).length + b
  | 0, i, h => absurd h (Nat.not_lt_zero _)
  | n + 1, i, h => by
    rw [fl, List.length_append] at h
    rcases Nat.lt_or_ge i (fl f n).length with z | z
    · obtain ⟨k, b, h1, h2, h3⟩ := fl_in n i z
      exact ⟨k, b, by omega, h2, h3⟩
    · exact ⟨n, i - (fl f n).length, by omega, by omega, by omega⟩
/-- the tokens from p on are those of the row l -/
def VAt (S : List TkE) (p : Nat) (l : List TkE) : Prop := ∀ i x, l[i]? = some x → S[p + i]? = some x
section VAT
variable {S : List TkE} {p : Nat}
theorem VAt.l {a b : List TkE} (h : VAt S p (a ++ b)) : VAt S p a := fun i x hx => h i x (by
  have hi : i < a.length := by
    rcases Nat.lt_or_ge i a.length with z | z
    · exact z
    · rw [List.getElem?_eq_none z] at hx; cases hx
  rw [List.getElem?_append_left hi]; exact hx)
theorem VAt.r {a b : List TkE} (h : VAt S p (a ++ b)) : VAt S (p + a.length) b := fun i x hx => by
  rw [Nat.add_assoc]
  exact h _ x (by rw [List.getElem?_append_right (by omega), show a.length + i - a.length = i by omega]; exact hx)
theorem VAt.all : VAt S 0 S := fun i x hx => by rw [Nat.zero_add]; exact hx
theorem VAt.ln {f : Nat → List TkE} {k n : Nat} (h : VAt S p (fl f n)) (hk : k < n) : VAt S (p + (fl f k).length) (f k) := by
  obtain ⟨l', e⟩ := fl_pre (f := f) hk
  rw [e] at h
  exact h.l.r
end VAT
/-- the text's tokens are the row S -/
def TXS (t : Nat → Nat) (L : Nat) (S : List TkE) : Prop := S.length ≤ 400 ∧ tS t L S.length = L ∧ (∀ n x, S[n]? = some x → TKn t L n x ∧ tkOK x)
section TXS1
variable {t : Nat → Nat} {L i j p : Nat} {S l : List TkE} {x y : TkE}
theorem get_ltT {n : Nat} (h : S[n]? = some x) : n < S.length := by
  rcases Nat.lt_or_ge n S.length with z | z
  · exact z
  · rw [List.getElem?_eq_none z] at h; cases h
theorem tkOK.lt (h : tkOK x) : x.1 < 46 := by unfold tkOK at h; omega
theorem TXS.K (h : TXS t L S) (hx : S[i]? = some x) : tK t L i = x.1 := by
  obtain ⟨a, b, -⟩ := (h.2.2 i x hx).1
  have := get_ltT hx
  have := h.1
  unfold tK
  rw [if_neg (by omega), if_neg (by omega)]; exact b
theorem TXS.e (h : TXS t L S) : tK t L S.length = 46 := by
  unfold tK
  rw [if_pos (Nat.le_of_eq h.2.1.symm)]
theorem TXS.n (h : TXS t L S) : nT t L = S.length := by
  unfold nT
  have := sc_run (c := fun i => i < 400 ∧ tK t L i < 46) (L := 400) S.length 0 (fun j hj => by
    have hj' : S[j]? = some S[j] := List.getElem?_eq_getElem hj
    have := h.1
    rw [Nat.zero_add, h.K hj']
    exact ⟨by omega, (h.2.2 j _ hj').2.lt⟩) (by have := h.1; omega) (fun z => by
    rw [Nat.zero_add, h.e]
    exact fun y => absurd y.2 (by decide))
  rw [this, Nat.zero_add]
theorem TXS.ln (h : TXS t L S) (hx : S[i]? = some x) : lnT t L i = (tbK x.1 x.2.1).length := (h.2.2 i x hx).1.2.2.1
theorem nm_inj : ∀ v, v < 28 → ∀ v', v' < 28 → (tbK 44 v = tbK 44 v' → v = v') := by decide +kernel
theorem TXS.same (h : TXS t L S) (hx : S[i]? = some x) (hy : S[j]? = some y) (h1 : x.1 = 44) (h2 : y.1 = 44) : sm t L i j ↔ x.2.1 = y.2.1 := by
  obtain ⟨⟨-, -, a3, a4⟩, a5⟩ := h.2.2 i x hx
  obtain ⟨⟨-, -, b3, b4⟩, b5⟩ := h.2.2 j y hy
  have vx : x.2.1 < 28 := by unfold tkOK at a5; omega
  have vy : y.2.1 < 28 := by unfold tkOK at b5; omega
  rw [h1] at a3 a4
  rw [h2] at b3 b4
  unfold sm
  constructor
  · rintro ⟨e1, e2⟩
    refine nm_inj _ vx _ vy (List.ext_getElem? (fun k => ?_))
    rw [a3, b3] at e1
    rcases Nat.lt_or_ge k (tbK 44 x.2.1).length with z | z
    · have := e2 k (by omega)
      rw [a4 k z, b4 k (by omega), List.getD_eq_getElem?_getD, List.getD_eq_getElem?_getD, List.getElem?_eq_getElem z, List.getElem?_eq_getElem (show k < (tbK 44 y.2.1).length by omega)] at this
      rw [List.getElem?_eq_getElem z, List.getElem?_eq_getElem (show k < (tbK 44 y.2.1).length by omega)]
      exact congrArg some this
    · rw [List.getElem?_eq_none z, List.getElem?_eq_none (by omega)]
  · intro e
    rw [e] at a3 a4
    exact ⟨a3.trans b3.symm, fun k hk => by rw [a3] at hk; rw [a4 k hk, b4 k hk]⟩
theorem TXS.nvv (h : TXS t L S) (hx : S[i]? = some x) (h1 : x.1 = 45) : nvT t L i = x.2.1 := by
  obtain ⟨⟨-, -, a3, a4⟩, a5⟩ := h.2.2 i x hx
  have vx : x.2.1 < 20 := by unfold tkOK at a5; omega
  rw [h1] at a3 a4
  unfold nvT
  rw [a3]
  by_cases z : x.2.1 < 10
  · have e : tbK 45 x.2.1 = [48 + x.2.1] := if_pos z
    rw [e] at a4 ⊢
    have := a4 0 (show 0 < 1 by decide)
    rw [Nat.add_zero] at this
    show 10 * 0 + (t (tS t L i + 0) - 48) = _
    rw [Nat.add_zero, this]
    show 10 * 0 + (48 + x.2.1 - 48) = _
    omega
  · have e : tbK 45 x.2.1 = [49, 48 + (x.2.1 - 10)] := if_neg z
    rw [e] at a4 ⊢
    have h0 := a4 0 (show 0 < 2 by decide)
    have h1 := a4 1 (show 1 < 2 by decide)
    show 10 * (10 * 0 + (t (tS t L i + 0) - 48)) + (t (tS t L i + 1) - 48) = _
    rw [h0, h1]
    show 10 * (10 * 0 + (49 - 48)) + (48 + (x.2.1 - 10) - 48) = _
    omega
theorem TXS.kat (h : TXS t L S) (hv : VAt S p l) : KAt (tK t L) p l := fun i x hx => h.K (hv i x hx)
end TXS1
/-- what a name stands for, by the token ahead of it -/
def okN (P N R b : Nat) (x : TkE) : Prop := (x.1 = 44 → (5 < b ∧ (6 ≤ b ∧ b ≤ 8 ∨ 18 ≤ b ∧ b ≤ 23 → x.2.1 < P) ∧ (b = 9 → 20 ≤ x.2.1 ∧ x.2.1 < 20 + R) ∧ (¬ (6 ≤ b ∧ b ≤ 9) → ¬ (18 ≤ b ∧ b ≤ 23) → 10 ≤ x.2.1 ∧ x.2.1 < 10 + N))) ∧ (x.1 = 45 → b ≠ 4) ∧ 5 < x.1
def wfN (P N R : Nat) : Nat → List TkE → Prop
  | _, [] => True
  | b, x :: l => okN P N R b x ∧ wfN P N R x.1 l
theorem wfN_app {P N R : Nat} {l' : List TkE} (h' : ∀ b, wfN P N R b l') : ∀ (l : List TkE) b, wfN P N R b l → wfN P N R b (l ++ l')
  | [], b, _ => h' b
  | x :: l, b, h => ⟨h.1, wfN_app h' l x.1 h.2⟩
theorem wfN_at {P N R : Nat} {S : List TkE} : ∀ (l : List TkE) (p : Nat) (y : TkE), wfN P N R y.1 l → VAt S (p + 1) l → S[p]? = some y → ∀ i x, l[i]? = some x → ∃ z, S[p + i]? = some z ∧ okN P N R z.1 x
  | [], p, y, _, _, _, i, x, hx => by rw [List.getElem?_nil] at hx; cases hx
  | u :: l, p, y, h, hv, hy, 0, x, hx => by
    cases hx
    exact ⟨y, hy, h.1⟩
  | u :: l, p, y, h, hv, hy, i + 1, x, hx => by
    have h0 := hv 0 u rfl
    obtain ⟨z, h1, h2⟩ := wfN_at l (p + 1) u h.2 (fun j x hx => by rw [show p + 1 + 1 + j = p + 1 + (j + 1) by omega]; exact hv (j + 1) x hx) h0 i x hx
    exact ⟨z, by rw [show p + (i + 1) = p + 1 + i by omega]; exact h1, h2⟩
section ORW
variable {P N R s b k v : Nat} {w : Nat → Nat}
theorem okN_w (h1 : k ≠ 44) (h2 : k ≠ 45) (h3 : 5 < k) : okN P N R b (k, v, s) := ⟨fun z => absurd z h1, fun z => absurd z h2, h3⟩
theorem okN_45 (h : b ≠ 4) : okN P N R b (45, v, s) := ⟨fun z => absurd (show (45 : Nat) = 44 from z) (by decide), fun _ => h, show 5 < 45 by decide⟩
theorem okN_p (h : 6 ≤ b ∧ b ≤ 8 ∨ 18 ≤ b ∧ b ≤ 23) (hv : v < P) : okN P N R b (44, v, s) := ⟨fun _ => ⟨by omega, fun _ => hv, fun z => by omega, fun y z => by omega⟩, fun z => absurd (show (44 : Nat) = 45 from z) (by decide), show 5 < 44 by decide⟩
theorem okN_r (h : b = 9) (hv : v < R) : okN P N R b (44, 20 + v, s) := ⟨fun _ => ⟨by omega, fun z => by omega, fun _ => ⟨Nat.le_add_right _ _, Nat.add_lt_add_left hv _⟩, fun y z => by omega⟩, fun z => absurd (show (44 : Nat) = 45 from z) (by decide), show 5 < 44 by decide⟩
theorem okN_n (h : 5 < b) (h1 : ¬ (6 ≤ b ∧ b ≤ 9)) (h2 : ¬ (18 ≤ b ∧ b ≤ 23)) (hv : v < N) : okN P N R b (44, 10 + v, s) := ⟨fun _ => ⟨h, fun z => by omega, fun z => by omega, fun _ _ => ⟨Nat.le_add_right _ _, Nat.add_lt_add_left hv _⟩⟩, fun z => absurd (show (44 : Nat) = 45 from z) (by decide), show 5 < 44 by decide⟩
theorem sum_wf (h : oB P N R w) (h0 : w 0 ≤ 1) (hN : 1 ≤ N) : ∀ b, b ≠ 4 → wfN P N R b (sumT w s) := fun b hb => by
  obtain ⟨h0', h1, h1', h2, h3, -⟩ := h
  have h1'' := h1' (by omega)
  unfold sumT
  by_cases z : w 3 = 0
  · rw [if_pos z]
    exact ⟨okN_45 (by omega), True.intro⟩
  · rw [if_neg z]
    by_cases z : w 3 = 1
    · rw [if_pos z]
      exact ⟨okN_w (by omega) (by omega) (by omega), ⟨okN_w (by omega) (by omega) (by omega), ⟨okN_45 (by omega), ⟨okN_w (by omega) (by omega) (by omega), ⟨okN_45 (by omega), True.intro⟩⟩⟩⟩⟩
    · rw [if_neg z]
      exact ⟨okN_45 (by omega), ⟨okN_w (by omega) (by omega) (by omega), ⟨okN_45 (by omega), ⟨okN_w (by omega) (by omega) (by omega), ⟨okN_w (by omega) (by omega) (by omega), ⟨okN_p (by omega) (by omega), ⟨okN_n (by omega) (by omega) (by omega) (by omega), ⟨okN_w (by omega) (by omega) (by omega), ⟨okN_w (by omega) (by omega) (by omega), True.intro⟩⟩⟩⟩⟩⟩⟩⟩⟩
theorem hd_wf (h : oB P N R w) (hN : 1 ≤ N) : ∀ b, wfN P N R b (hdT w s) := fun b => by
  have hh := h
  obtain ⟨h0, h1, h1', h2, h3, h4, h24, -⟩ := hh
  unfold hdT
  by_cases e3 : w 0 = 3
  · rw [if_pos e3]
    have := h1 e3
    exact ⟨okN_w (by omega) (by omega) (by omega), ⟨okN_r rfl (by omega), True.intro⟩⟩
  · rw [if_neg e3]
    have hp := h1' e3
    by_cases e2 : w 0 = 2
    · rw [if_pos e2]
      have := h24 e2
      exact ⟨okN_w (by omega) (by omega) (by omega), ⟨okN_p (by omega) (by omega), ⟨okN_n (by omega) (by omega) (by omega) (by omega), ⟨okN_w (by omega) (by omega) (by omega), ⟨okN_w (by omega) (by omega) (by omega), True.intro⟩⟩⟩⟩⟩
    · rw [if_neg e2]
      exact ⟨okN_w (by omega) (by omega) (by omega), ⟨okN_p (by omega) (by omega), ⟨okN_n (by omega) (by omega) (by omega) (by omega), ⟨okN_w (by omega) (by omega) (by omega), sum_wf h (by omega) hN _ (by omega)⟩⟩⟩⟩
theorem ts_wf (h : oB P N R w) (hN : 1 ≤ N) : ∀ b, wfN P N R b (tsT w ++ [(33, 0, 2)]) := fun b => by
  obtain ⟨-, -, -, -, -, -, -, h5, -, -, -, h6, h7, h8⟩ := h
  unfold tsT
  by_cases z : w 5 = 0
  · rw [if_pos z]
    exact ⟨okN_w (by omega) (by omega) (by omega), True.intro⟩
  · rw [if_neg z]
    refine ⟨okN_w (by omega) (by omega) (by omega), ?_⟩
    by_cases z1 : w 5 = 1
    · rw [if_pos z1]
      have := h6 (Or.inl z1)
      exact ⟨okN_w (by omega) (by omega) (by omega), ⟨okN_p (by omega) (by omega), ⟨okN_n (by omega) (by omega) (by omega) (by omega), ⟨okN_w (by omega) (by omega) (by omega), True.intro⟩⟩⟩⟩
    · rw [if_neg z1]
      by_cases z2 : w 5 = 2
      · rw [if_pos z2]
        have := h6 (Or.inr (Or.inl z2))
        exact ⟨okN_w (by omega) (by omega) (by omega), ⟨okN_w (by omega) (by omega) (by omega), ⟨okN_p (by omega) (by omega), ⟨okN_n (by omega) (by omega) (by omega) (by omega), ⟨okN_w (by omega) (by omega) (by omega), ⟨okN_w (by omega) (by omega) (by omega), ⟨okN_w (by omega) (by omega) (by omega), ⟨okN_w (by omega) (by omega) (by omega), ⟨okN_w (by omega) (by omega) (by omega), ⟨okN_45 (by omega), ⟨okN_w (by omega) (by omega) (by omega), ⟨okN_45 (by omega), ⟨okN_w (by omega) (by omega) (by omega), ⟨okN_45 (by omega), ⟨okN_w (by omega) (by omega) (by omega), True.intro⟩⟩⟩⟩⟩⟩⟩⟩⟩⟩⟩⟩⟩⟩⟩
      · rw [if_neg z2]
        by_cases z3 : w 5 = 3
        · rw [if_pos z3]
          have := h7 z3
          exact ⟨okN_w (by omega) (by omega) (by omega), ⟨okN_w (by omega) (by omega) (by omega), ⟨okN_w (by omega) (by omega) (by omega), ⟨okN_w (by omega) (by omega) (by omega), ⟨okN_45 (by omega), ⟨okN_w (by omega) (by omega) (by omega), ⟨okN_45 (by omega), ⟨okN_w (by omega) (by omega) (by omega), ⟨okN_45 (by omega), ⟨okN_w (by omega) (by omega) (by omega), True.intro⟩⟩⟩⟩⟩⟩⟩⟩⟩⟩
        · rw [if_neg z3]
          by_cases z4 : w 5 = 4
          · rw [if_pos z4]
            have := h8 z4
            exact ⟨okN_w (by omega) (by omega) (by omega), ⟨okN_p (by omega) (by omega), ⟨okN_w (by omega) (by omega) (by omega), ⟨okN_45 (by omega), ⟨okN_w (by omega) (by omega) (by omega), ⟨okN_w (by omega) (by omega) (by omega), ⟨okN_p (by omega) (by omega), ⟨okN_n (v := 0) (by omega) (by omega) (by omega) (by omega), ⟨okN_w (by omega) (by omega) (by omega), ⟨okN_45 (by omega), ⟨okN_w (by omega) (by omega) (by omega), True.intro⟩⟩⟩⟩⟩⟩⟩⟩⟩⟩⟩
          · rw [if_neg z4]
            have := h6 (Or.inr (Or.inr (by omega)))
            exact ⟨okN_w (by omega) (by omega) (by omega), ⟨okN_p (by omega) (by omega), ⟨okN_n (by omega) (by omega) (by omega) (by omega), ⟨okN_w (by omega) (by omega) (by omega), ⟨okN_45 (by omega), ⟨okN_w (by omega) (by omega) (by omega), ⟨okN_w (by omega) (by omega) (by omega), ⟨okN_w (by omega) (by omega) (by omega), ⟨okN_p (by omega) (by omega), ⟨okN_n (by omega) (by omega) (by omega) (by omega), ⟨okN_w (by omega) (by omega) (by omega), True.intro⟩⟩⟩⟩⟩⟩⟩⟩⟩⟩⟩
theorem or_wf (h : oB P N R w) (hN : 1 ≤ N) (b : Nat) : wfN P N R b (orT w) := wfN_app (ts_wf h hN) _ b (hd_wf h hN b)
end ORW
