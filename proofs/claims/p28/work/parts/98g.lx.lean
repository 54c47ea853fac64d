/-! the text is lexed as its row of tokens -/
def lsT : TkE → List TkE → TkE
  | x, [] => x
  | _, y :: l => lsT y l
theorem wk_s {k : Nat} (h : 29 ≤ k ∧ k < 44) : ¬ isWK k := by unfold isWK; omega
theorem tkC_app {l' : List TkE} : ∀ (l : List TkE) (x : TkE), tkC x l → tkC (lsT x l) l' → tkC x (l ++ l')
  | [], _, _, h => h
  | y :: l, _, h, h' => ⟨h.1, h.2.1, tkC_app l y h.2.2 h'⟩
theorem lsT_app {l' : List TkE} : ∀ (l : List TkE) (x : TkE), lsT x (l ++ l') = lsT (lsT x l) l'
  | [], _ => rfl
  | y :: l, _ => lsT_app l y
/-- a line, or some: behind a semicolon, and up to one -/
def LnC (l : List TkE) : Prop := ∀ z : TkE, z.1 = 33 → tkC z l ∧ (lsT z l).1 = 33
theorem LnC.nil : LnC [] := fun _ h => ⟨True.intro, h⟩
theorem LnC.app {l l' : List TkE} (h : LnC l) (h' : LnC l') : LnC (l ++ l') := fun z hz => by
  obtain ⟨a, b⟩ := h z hz
  obtain ⟨c, d⟩ := h' _ b
  exact ⟨tkC_app l z a c, by rw [lsT_app]; exact d⟩
theorem LnC.rows {f : Nat → List TkE} : ∀ n, (∀ k, k < n → LnC (f k)) → LnC (fl f n)
  | 0, _ => LnC.nil
  | n + 1, h => (LnC.rows n (fun k hk => h k (by omega))).app (h n (by omega))
theorem jn_33 {z y : TkE} (hz : z.1 = 33) (hy : y.1 ≠ 41) : jnOK z y := Or.inr (Or.inl ⟨by rw [hz]; exact wk_s (by decide), hy⟩)
section TCR
variable {P N R s k v : Nat} {w F G H : Nat → Nat}
theorem pa_C {a : Nat} (h : a < 5) : LnC (paT a) := fun z hz => ⟨⟨(jn_33 hz (by dsimp only; omega)), (Or.inl ⟨by dsimp only; omega, rfl⟩), ⟨(Or.inl (show 1 ≠ 0 by decide)), (Or.inr (Or.inl ⟨rfl, by dsimp only; omega⟩)), ⟨(Or.inr (Or.inr ⟨by unfold isWK; dsimp only; omega, wk_s (by dsimp only; omega)⟩)), (Or.inl ⟨by dsimp only; omega, rfl⟩), True.intro⟩⟩⟩, rfl⟩
theorem no_C {a : Nat} (h : a < 3) : LnC (noT a) := fun z hz => ⟨⟨(jn_33 hz (by dsimp only; omega)), (Or.inl ⟨by dsimp only; omega, rfl⟩), ⟨(Or.inl (show 1 ≠ 0 by decide)), (Or.inr (Or.inl ⟨rfl, by dsimp only; omega⟩)), ⟨(Or.inr (Or.inr ⟨by unfold isWK; dsimp only; omega, wk_s (by dsimp only; omega)⟩)), (Or.inl ⟨by dsimp only; omega, rfl⟩), True.intro⟩⟩⟩, rfl⟩
theorem rd_C {r : Nat} (h : r < 8) (hF : F r < 5) (hG : G r < 5) (hH : H r ≤ 9) : LnC (rdT F G H r) := fun z hz => ⟨⟨(jn_33 hz (by dsimp only; omega)), (Or.inl ⟨by dsimp only; omega, rfl⟩), ⟨(Or.inl (show 1 ≠ 0 by decide)), (Or.inr (Or.inl ⟨rfl, by dsimp only; omega⟩)), ⟨(Or.inl (show 1 ≠ 0 by decide)), (Or.inl ⟨by dsimp only; omega, rfl⟩), ⟨(Or.inl (show 1 ≠ 0 by decide)), (Or.inr (Or.inl ⟨rfl, by dsimp only; omega⟩)), ⟨(Or.inl (show 1 ≠ 0 by decide)), (Or.inl ⟨by dsimp only; omega, rfl⟩), ⟨(Or.inl (show 1 ≠ 0 by decide)), (Or.inr (Or.inl ⟨rfl, by dsimp only; omega⟩)), ⟨(Or.inl (show 1 ≠ 0 by decide)), (Or.inl ⟨by dsimp only; omega, rfl⟩), ⟨(Or.inl (show 1 ≠ 0 by decide)), (Or.inr (Or.inr ⟨rfl, by dsimp only; omega⟩)), ⟨(Or.inr (Or.inr ⟨by unfold isWK; dsimp only; omega, wk_s (by dsimp only; omega)⟩)), (Or.inl ⟨by dsimp only; omega, rfl⟩), True.intro⟩⟩⟩⟩⟩⟩⟩⟩⟩, rfl⟩
theorem sum_C (h : oB P N R w) (h0 : w 0 ≤ 1) (hP : P ≤ 5) (hN : N ≤ 3) {z : TkE} (hz : z.2.2 ≠ 0) : tkC z (sumT w s) ∧ (lsT z (sumT w s)).2.2 = s ∧ isWK (lsT z (sumT w s)).1 := by
  obtain ⟨h0', h1, h1', h2, h3, h4, -⟩ := h
  have h1'' := h1' (by omega)
  unfold sumT
  by_cases y : w 3 = 0
  · rw [if_pos y]
    exact ⟨⟨(Or.inl hz), (Or.inr (Or.inr ⟨rfl, by dsimp only; omega⟩)), True.intro⟩, rfl, Or.inr (Or.inr rfl)⟩
  · rw [if_neg y]
    by_cases y : w 3 = 1
    · rw [if_pos y]
      exact ⟨⟨(Or.inl hz), (Or.inl ⟨by dsimp only; omega, rfl⟩), ⟨(Or.inr (Or.inr ⟨by unfold isWK; dsimp only; omega, wk_s (by dsimp only; omega)⟩)), (Or.inl ⟨by dsimp only; omega, rfl⟩), ⟨(Or.inr (Or.inl ⟨wk_s (by dsimp only; omega), by dsimp only; omega⟩)), (Or.inr (Or.inr ⟨rfl, by dsimp only; omega⟩)), ⟨(Or.inr (Or.inr ⟨by unfold isWK; dsimp only; omega, wk_s (by dsimp only; omega)⟩)), (Or.inl ⟨by dsimp only; omega, rfl⟩), ⟨(Or.inr (Or.inl ⟨wk_s (by dsimp only; omega), by dsimp only; omega⟩)), (Or.inr (Or.inr ⟨rfl, by dsimp only; omega⟩)), True.intro⟩⟩⟩⟩⟩, rfl, Or.inr (Or.inr rfl)⟩
    · rw [if_neg y]
      exact ⟨⟨(Or.inl hz), (Or.inr (Or.inr ⟨rfl, by dsimp only; omega⟩)), ⟨(Or.inr (Or.inr ⟨by unfold isWK; dsimp only; omega, wk_s (by dsimp only; omega)⟩)), (Or.inl ⟨by dsimp only; omega, rfl⟩), ⟨(Or.inr (Or.inl ⟨wk_s (by dsimp only; omega), by dsimp only; omega⟩)), (Or.inr (Or.inr ⟨rfl, by dsimp only; omega⟩)), ⟨(Or.inr (Or.inr ⟨by unfold isWK; dsimp only; omega, wk_s (by dsimp only; omega)⟩)), (Or.inl ⟨by dsimp only; omega, rfl⟩), ⟨(Or.inr (Or.inl ⟨wk_s (by dsimp only; omega), by dsimp only; omega⟩)), (Or.inl ⟨by dsimp only; omega, rfl⟩), ⟨(Or.inl (show 1 ≠ 0 by decide)), (Or.inr (Or.inl ⟨rfl, by dsimp only; omega⟩)), ⟨(Or.inl (show 1 ≠ 0 by decide)), (Or.inr (Or.inl ⟨rfl, by dsimp only; omega⟩)), ⟨(Or.inr (Or.inr ⟨by unfold isWK; dsimp only; omega, wk_s (by dsimp only; omega)⟩)), (Or.inl ⟨by dsimp only; omega, rfl⟩), ⟨(Or.inr (Or.inl ⟨wk_s (by dsimp only; omega), by dsimp only; omega⟩)), (Or.inl ⟨by dsimp only; omega, rfl⟩), True.intro⟩⟩⟩⟩⟩⟩⟩⟩⟩, rfl, Or.inl (show 17 < 29 by decide)⟩
theorem hd_C (h : oB P N R w) (hP : P ≤ 5) (hN : N ≤ 3) (hR : R ≤ 8) {z : TkE} (hz : z.1 = 33) : tkC z (hdT w s) ∧ (lsT z (hdT w s)).2.2 = s ∧ isWK (lsT z (hdT w s)).1 := by
  have hh := h
  obtain ⟨h0, h1, h1', h2, h3, h4, h24, -⟩ := hh
  unfold hdT
  by_cases e3 : w 0 = 3
  · rw [if_pos e3]
    have := h1 e3
    exact ⟨⟨(jn_33 hz (by dsimp only; omega)), (Or.inl ⟨by dsimp only; omega, rfl⟩), ⟨(Or.inl (show 1 ≠ 0 by decide)), (Or.inr (Or.inl ⟨rfl, by dsimp only; omega⟩)), True.intro⟩⟩, rfl, Or.inr (Or.inl rfl)⟩
  · rw [if_neg e3]
    have hp := h1' e3
    by_cases e2 : w 0 = 2
    · rw [if_pos e2]
      have := h24 e2
      exact ⟨⟨(jn_33 hz (by dsimp only; omega)), (Or.inl ⟨by dsimp only; omega, rfl⟩), ⟨(Or.inl (show 1 ≠ 0 by decide)), (Or.inr (Or.inl ⟨rfl, by dsimp only; omega⟩)), ⟨(Or.inl (show 1 ≠ 0 by decide)), (Or.inr (Or.inl ⟨rfl, by dsimp only; omega⟩)), ⟨(Or.inl (show 1 ≠ 0 by decide)), (Or.inl ⟨by dsimp only; omega, rfl⟩), ⟨(Or.inl (show 1 ≠ 0 by decide)), (Or.inl ⟨by dsimp only; omega, rfl⟩), True.intro⟩⟩⟩⟩⟩, rfl, Or.inl (show 13 + w 4 < 29 by omega)⟩
    · rw [if_neg e2]
      obtain ⟨q1, q2, q3⟩ := sum_C (s := s) (z := (10 + w 0, 0, 1)) h (by omega) hP hN (show 1 ≠ 0 by decide)
      exact ⟨⟨(jn_33 hz (by dsimp only; omega)), (Or.inl ⟨by dsimp only; omega, rfl⟩), ⟨(Or.inl (show 1 ≠ 0 by decide)), (Or.inr (Or.inl ⟨rfl, by dsimp only; omega⟩)), ⟨(Or.inl (show 1 ≠ 0 by decide)), (Or.inr (Or.inl ⟨rfl, by dsimp only; omega⟩)), ⟨(Or.inl (show 1 ≠ 0 by decide)), (Or.inl ⟨by dsimp only; omega, rfl⟩), q1⟩⟩⟩⟩, q2, q3⟩
theorem ts_C (h : oB P N R w) (hP : P ≤ 5) (hN : N ≤ 3) {z : TkE} (hz : z.2.2 = spT w) (hw : isWK z.1) : tkC z (tsT w ++ [(33, 0, 2)]) ∧ (lsT z (tsT w ++ [(33, 0, 2)])).1 = 33 := by
  obtain ⟨-, -, -, -, -, -, -, h5, -, h68, h78, h6, h7, h8⟩ := h
  refine ⟨?_, by rw [lsT_app]; rfl⟩
  unfold tsT
  unfold spT at hz
  by_cases y : w 5 = 0
  · rw [if_pos y]
    exact ⟨(Or.inr (Or.inr ⟨hw, wk_s (by dsimp only; omega)⟩)), (Or.inl ⟨by dsimp only; omega, rfl⟩), True.intro⟩
  · rw [if_neg y]
    rw [if_neg y] at hz
    refine ⟨(Or.inl (by rw [hz]; decide)), (Or.inl ⟨by dsimp only; omega, rfl⟩), ?_⟩
    by_cases z1 : w 5 = 1
    · rw [if_pos z1]
      have := h6 (Or.inl z1)
      exact ⟨(Or.inl (show 1 ≠ 0 by decide)), (Or.inl ⟨by dsimp only; omega, rfl⟩), ⟨(Or.inl (show 1 ≠ 0 by decide)), (Or.inr (Or.inl ⟨rfl, by dsimp only; omega⟩)), ⟨(Or.inl (show 1 ≠ 0 by decide)), (Or.inr (Or.inl ⟨rfl, by dsimp only; omega⟩)), ⟨(Or.inr (Or.inr ⟨by unfold isWK; dsimp only; omega, wk_s (by dsimp only; omega)⟩)), (Or.inl ⟨by dsimp only; omega, rfl⟩), True.intro⟩⟩⟩⟩
    · rw [if_neg z1]
      by_cases z2 : w 5 = 2
      · rw [if_pos z2]
        have := h6 (Or.inr (Or.inl z2))
        exact ⟨(Or.inl (show 1 ≠ 0 by decide)), (Or.inl ⟨by dsimp only; omega, rfl⟩), ⟨(Or.inl (show 1 ≠ 0 by decide)), (Or.inl ⟨by dsimp only; omega, rfl⟩), ⟨(Or.inl (show 1 ≠ 0 by decide)), (Or.inr (Or.inl ⟨rfl, by dsimp only; omega⟩)), ⟨(Or.inl (show 1 ≠ 0 by decide)), (Or.inr (Or.inl ⟨rfl, by dsimp only; omega⟩)), ⟨(Or.inl (show 1 ≠ 0 by decide)), (Or.inl ⟨by dsimp only; omega, rfl⟩), ⟨(Or.inl (show 1 ≠ 0 by decide)), (Or.inl ⟨by dsimp only; omega, rfl⟩), ⟨(Or.inr (Or.inr ⟨by unfold isWK; dsimp only; omega, wk_s (by dsimp only; omega)⟩)), (Or.inl ⟨by dsimp only; omega, rfl⟩), ⟨(Or.inr (Or.inl ⟨wk_s (by dsimp only; omega), by dsimp only; omega⟩)), (Or.inl ⟨by dsimp only; omega, rfl⟩), ⟨(Or.inr (Or.inr ⟨by unfold isWK; dsimp only; omega, wk_s (by dsimp only; omega)⟩)), (Or.inl ⟨by dsimp only; omega, rfl⟩), ⟨(Or.inr (Or.inl ⟨wk_s (by dsimp only; omega), by dsimp only; omega⟩)), (Or.inr (Or.inr ⟨rfl, by dsimp only; omega⟩)), ⟨(Or.inr (Or.inr ⟨by unfold isWK; dsimp only; omega, wk_s (by dsimp only; omega)⟩)), (Or.inl ⟨by dsimp only; omega, rfl⟩), ⟨(Or.inr (Or.inl ⟨wk_s (by dsimp only; omega), by dsimp only; omega⟩)), (Or.inr (Or.inr ⟨rfl, by dsimp only; omega⟩)), ⟨(Or.inr (Or.inr ⟨by unfold isWK; dsimp only; omega, wk_s (by dsimp only; omega)⟩)), (Or.inl ⟨by dsimp only; omega, rfl⟩), ⟨(Or.inr (Or.inl ⟨wk_s (by dsimp only; omega), by dsimp only; omega⟩)), (Or.inr (Or.inr ⟨rfl, by dsimp only; omega⟩)), ⟨(Or.inr (Or.inr ⟨by unfold isWK; dsimp only; omega, wk_s (by dsimp only; omega)⟩)), (Or.inl ⟨by dsimp only; omega, rfl⟩), True.intro⟩⟩⟩⟩⟩⟩⟩⟩⟩⟩⟩⟩⟩⟩⟩
      · rw [if_neg z2]
        by_cases z3 : w 5 = 3
        · rw [if_pos z3]
          have := h7 z3
          exact ⟨(Or.inl (show 1 ≠ 0 by decide)), (Or.inl ⟨by dsimp only; omega, rfl⟩), ⟨(Or.inr (Or.inr ⟨by unfold isWK; dsimp only; omega, wk_s (by dsimp only; omega)⟩)), (Or.inl ⟨by dsimp only; omega, rfl⟩), ⟨(Or.inr (Or.inl ⟨wk_s (by dsimp only; omega), by dsimp only; omega⟩)), (Or.inl ⟨by dsimp only; omega, rfl⟩), ⟨(Or.inr (Or.inr ⟨by unfold isWK; dsimp only; omega, wk_s (by dsimp only; omega)⟩)), (Or.inl ⟨by dsimp only; omega, rfl⟩), ⟨(Or.inr (Or.inl ⟨wk_s (by dsimp only; omega), by dsimp only; omega⟩)), (Or.inr (Or.inr ⟨rfl, by dsimp only; omega⟩)), ⟨(Or.inr (Or.inr ⟨by unfold isWK; dsimp only; omega, wk_s (by dsimp only; omega)⟩)), (Or.inl ⟨by dsimp only; omega, rfl⟩), ⟨(Or.inr (Or.inl ⟨wk_s (by dsimp only; omega), by dsimp only; omega⟩)), (Or.inr (Or.inr ⟨rfl, by dsimp only; omega⟩)), ⟨(Or.inr (Or.inr ⟨by unfold isWK; dsimp only; omega, wk_s (by dsimp only; omega)⟩)), (Or.inl ⟨by dsimp only; omega, rfl⟩), ⟨(Or.inr (Or.inl ⟨wk_s (by dsimp only; omega), by dsimp only; omega⟩)), (Or.inr (Or.inr ⟨rfl, by dsimp only; omega⟩)), ⟨(Or.inr (Or.inr ⟨by unfold isWK; dsimp only; omega, wk_s (by dsimp only; omega)⟩)), (Or.inl ⟨by dsimp only; omega, rfl⟩), True.intro⟩⟩⟩⟩⟩⟩⟩⟩⟩⟩
        · rw [if_neg z3]
          by_cases z4 : w 5 = 4
          · rw [if_pos z4]
            have := h8 z4
            exact ⟨(Or.inl (show 1 ≠ 0 by decide)), (Or.inl ⟨by dsimp only; omega, rfl⟩), ⟨(Or.inl (show 1 ≠ 0 by decide)), (Or.inr (Or.inl ⟨rfl, by dsimp only; omega⟩)), ⟨(Or.inr (Or.inr ⟨by unfold isWK; dsimp only; omega, wk_s (by dsimp only; omega)⟩)), (Or.inl ⟨by dsimp only; omega, rfl⟩), ⟨(Or.inr (Or.inl ⟨wk_s (by dsimp only; omega), by dsimp only; omega⟩)), (Or.inr (Or.inr ⟨rfl, by dsimp only; omega⟩)), ⟨(Or.inl (show 1 ≠ 0 by decide)), (Or.inl ⟨by dsimp only; omega, rfl⟩), ⟨(Or.inl (show 1 ≠ 0 by decide)), (Or.inl ⟨by dsimp only; omega, rfl⟩), ⟨(Or.inl (show 1 ≠ 0 by decide)), (Or.inr (Or.inl ⟨rfl, by dsimp only; omega⟩)), ⟨(Or.inl (show 1 ≠ 0 by decide)), (Or.inr (Or.inl ⟨rfl, by dsimp only; omega⟩)), ⟨(Or.inr (Or.inr ⟨by unfold isWK; dsimp only; omega, wk_s (by dsimp only; omega)⟩)), (Or.inl ⟨by dsimp only; omega, rfl⟩), ⟨(Or.inr (Or.inl ⟨wk_s (by dsimp only; omega), by dsimp only; omega⟩)), (Or.inr (Or.inr ⟨rfl, by dsimp only; omega⟩)), ⟨(Or.inr (Or.inr ⟨by unfold isWK; dsimp only; omega, wk_s (by dsimp only; omega)⟩)), (Or.inl ⟨by dsimp only; omega, rfl⟩), True.intro⟩⟩⟩⟩⟩⟩⟩⟩⟩⟩⟩
          · rw [if_neg z4]
            have := h6 (Or.inr (Or.inr (by omega)))
            exact ⟨(Or.inl (show 1 ≠ 0 by decide)), (Or.inl ⟨by dsimp only; omega, rfl⟩), ⟨(Or.inl (show 1 ≠ 0 by decide)), (Or.inr (Or.inl ⟨rfl, by dsimp only; omega⟩)), ⟨(Or.inl (show 1 ≠ 0 by decide)), (Or.inr (Or.inl ⟨rfl, by dsimp only; omega⟩)), ⟨(Or.inr (Or.inr ⟨by unfold isWK; dsimp only; omega, wk_s (by dsimp only; omega)⟩)), (Or.inl ⟨by dsimp only; omega, rfl⟩), ⟨(Or.inr (Or.inl ⟨wk_s (by dsimp only; omega), by dsimp only; omega⟩)), (Or.inr (Or.inr ⟨rfl, by dsimp only; omega⟩)), ⟨(Or.inl (show 1 ≠ 0 by decide)), (Or.inl ⟨by dsimp only; omega, rfl⟩), ⟨(Or.inl (show 1 ≠ 0 by decide)), (Or.inl ⟨by dsimp only; omega, rfl⟩), ⟨(Or.inl (show 1 ≠ 0 by decide)), (Or.inl ⟨by dsimp only; omega, rfl⟩), ⟨(Or.inl (show 1 ≠ 0 by decide)), (Or.inr (Or.inl ⟨rfl, by dsimp only; omega⟩)), ⟨(Or.inl (show 1 ≠ 0 by decide)), (Or.inr (Or.inl ⟨rfl, by dsimp only; omega⟩)), ⟨(Or.inr (Or.inr ⟨by unfold isWK; dsimp only; omega, wk_s (by dsimp only; omega)⟩)), (Or.inl ⟨by dsimp only; omega, rfl⟩), True.intro⟩⟩⟩⟩⟩⟩⟩⟩⟩⟩⟩
theorem or_C (h : oB P N R w) (hP : P ≤ 5) (hN : N ≤ 3) (hR : R ≤ 8) : LnC (orT w) := fun z hz => by
  obtain ⟨a, b, c⟩ := hd_C (s := spT w) h hP hN hR hz
  obtain ⟨e, f⟩ := ts_C h hP hN b c
  exact ⟨tkC_app _ z a e, by unfold orT; rw [lsT_app]; exact f⟩
end TCR
theorem tkC_ok : ∀ (l : List TkE) (x : TkE), tkC x l → ∀ (n : Nat) (y : TkE), l[n]? = some y → tkOK y
  | [], _, _, n, y, h => by rw [List.getElem?_nil] at h; cases h
  | u :: l, x, h, 0, y, e => by cases e; exact h.2.1
  | u :: l, x, h, n + 1, y, e => tkC_ok l u h.2.2 n y e
section TLN
variable {P N R O : Nat} {F G H : Nat → Nat} {W : Nat → Nat → Nat}
theorem pl_C (hB : PBd P N R O F G H W) : LnC (plT P N R O F G H W) := by
  obtain ⟨b1, b2, b3, b4, b5, b6⟩ := hB
  refine (LnC.rows P (fun k hk => pa_C (by omega))).app ((LnC.rows N (fun k hk => no_C (by omega))).app ((LnC.rows R (fun k hk => ?_)).app (LnC.rows O (fun k hk => or_C (b6 k hk) b1.2 b2.2 b3.2))))
  obtain ⟨d1, d2, -, -, d5⟩ := b5 k hk
  exact rd_C (by omega) (by omega) (by omega) d5
theorem sum_len {w : Nat → Nat} {s : Nat} : (sumT w s).length ≤ 9 := by
  unfold sumT
  repeat' split
  all_goals exact Nat.le_of_ble_eq_true rfl
theorem hd_len {w : Nat → Nat} {s : Nat} : (hdT w s).length ≤ 13 := by
  unfold hdT
  repeat' split
  · exact Nat.le_of_ble_eq_true rfl
  · exact Nat.le_of_ble_eq_true rfl
  · rw [List.length_append]; have := sum_len (w := w) (s := s); show 4 + _ ≤ 13; omega
theorem ts_len {w : Nat → Nat} : (tsT w).length ≤ 15 := by
  unfold tsT
  repeat' split
  all_goals exact Nat.le_of_ble_eq_true rfl
theorem or_len {w : Nat → Nat} : (orT w).length ≤ 29 := by
  unfold orT
  rw [List.length_append, List.length_append]
  have := hd_len (w := w) (s := spT w)
  have := ts_len (w := w)
  show _ + (_ + 1) ≤ 29
  omega
theorem pl_len4 (hB : PBd P N R O F G H W) : (plT P N R O F G H W).length ≤ 400 := by
  obtain ⟨b1, b2, b3, b4, -⟩ := hB
  have := fl_le (f := fun k => orT (W k)) (m := 29) O (fun k _ => or_len)
  rw [pl_len]; unfold oA; omega
/-- how many bytes a row has at most -/
def sB : List TkE → Nat
  | [] => 0
  | x :: l => (if x.1 < 29 then 7 else 3) + sB l
theorem sB_app : ∀ l l' : List TkE, sB (l ++ l') = sB l + sB l'
  | [], _ => (Nat.zero_add _).symm
  | x :: l, l' => by rw [List.cons_append, sB, sB, sB_app l l', Nat.add_assoc]
theorem sB_fl {f : Nat → List TkE} {m : Nat} (h : ∀ k, sB (f k) ≤ m) : ∀ n, sB (fl f n) ≤ m * n
  | 0 => Nat.zero_le _
  | n + 1 => by rw [fl, sB_app, Nat.mul_succ]; have := sB_fl h n; have := h n; omega
theorem tb_6 : ∀ k, k < 44 → (tbK k 0).length ≤ (if k < 29 then 6 else 2) := by decide +kernel
theorem tb_2 : ∀ v, v < 28 → (tbK 44 v).length ≤ 2 ∧ (tbK 45 v).length ≤ 2 := by decide +kernel
theorem tk_7 {x : TkE} (h : tkOK x) : (tkB x).length ≤ if x.1 < 29 then 7 else 3 := by
  have hs : (sepB x.2.2).length ≤ 1 := by
    unfold sepB
    by_cases a : x.2.2 = 0
    · rw [if_pos a]; decide
    · rw [if_neg a]
      by_cases a : x.2.2 = 1
      · rw [if_pos a]; decide
      · rw [if_neg a]; decide
  unfold tkB
  rw [List.length_append]
  rcases h with ⟨a, b⟩ | ⟨a, b⟩ | ⟨a, b⟩
  · have := tb_6 x.1 a
    rw [b]
    split at this
    · rename_i z; rw [if_pos z]; omega
    · rename_i z; rw [if_neg z]; omega
  · rw [a, if_neg (by decide)]
    have := (tb_2 _ b).1; omega
  · rw [a, if_neg (by decide)]
    have := (tb_2 x.2.1 (by omega)).2; omega
theorem flT_le : ∀ (l : List TkE) (x : TkE), tkC x l → (flT l).length ≤ sB l
  | [], _, _ => Nat.le_refl _
  | y :: l, _, h => by
    rw [flT, List.length_append, sB]
    have := flT_le l y h.2.2
    have := tk_7 h.2.1
    omega
theorem or_sB {w : Nat → Nat} : sB (orT w) ≤ 135 := by
  have h1 : sB (tsT w) ≤ 69 := by
    unfold tsT
    repeat' split
    all_goals exact Nat.le_of_ble_eq_true rfl
  have h2 : ∀ s, sB (sumT w s) ≤ 35 := fun s => by
    unfold sumT
    repeat' split
    all_goals exact Nat.le_of_ble_eq_true rfl
  have h3 : ∀ k : Nat, (if k < 29 then 7 else 3) ≤ 7 := fun k => by split <;> decide
  have h4 : ∀ s, sB (hdT w s) ≤ 63 := fun s => by
    unfold hdT
    repeat' split
    · exact Nat.le_of_ble_eq_true rfl
    · show 7 + (3 + (3 + (7 + ((if 13 + w 4 < 29 then 7 else 3) + 0)))) ≤ 63
      have := h3 (13 + w 4); omega
    · rw [sB_app]
      show ((if 6 + w 0 < 29 then 7 else 3) + (3 + (3 + ((if 10 + w 0 < 29 then 7 else 3) + 0)))) + _ ≤ 63
      have := h3 (6 + w 0); have := h3 (10 + w 0); have := h2 s; omega
  unfold orT
  rw [sB_app, sB_app]
  have := h4 (spT w)
  show _ + (_ + 3) ≤ 135
  omega
theorem pl_bytes (hB : PBd P N R O F G H W) : (flT (plT P N R O F G H W)).length ≤ 1800 := by
  have h := flT_le _ (33, 0, 0) ((pl_C hB) (33, 0, 0) rfl).1
  obtain ⟨b1, b2, b3, b4, -⟩ := hB
  have a1 := sB_fl (f := paT) (m := 13) (fun _ => Nat.le_of_ble_eq_true rfl) P
  have a2 := sB_fl (f := noT) (m := 13) (fun _ => Nat.le_of_ble_eq_true rfl) N
  have a3 := sB_fl (f := rdT F G H) (m := 43) (fun _ => Nat.le_of_ble_eq_true rfl) R
  have a4 := sB_fl (f := fun k => orT (W k)) (m := 135) (fun _ => or_sB) O
  unfold plT at h
  rw [sB_app, sB_app, sB_app] at h
  unfold plT
  omega
theorem pl_TXS {t : Nat → Nat} {L : Nat} (hB : PBd P N R O F G H W) (hL : (flT (plT P N R O F G H W)).length = L) (ht : ∀ k, k < L → t k = (flT (plT P N R O F G H W)).getD k 0) : TXS t L (plT P N R O F G H W) := by
  have hC := ((pl_C hB) (33, 0, 0) rfl).1
  have h0 : tS t L 0 = 0 := by
    show skB t L 0 = 0
    obtain ⟨y, l, e⟩ : ∃ y l, plT P N R O F G H W = y :: l := by
      unfold plT
      obtain ⟨b1, -⟩ := hB
      obtain ⟨p, rfl⟩ : ∃ p, P = p + 1 := ⟨P - 1, by omega⟩
      cases e : fl paT (p + 1) with
      | nil => exact absurd (congrArg List.length e) (by rw [pa_len]; show 3 * (p + 1) ≠ 0; omega)
      | cons y l => exact ⟨y, _, rfl⟩
    rw [e] at hC ht hL
    obtain ⟨f1, f2, f3, -⟩ := tb_first hC.2.1
    have hl : (flT (y :: l)).length = (tbK y.1 y.2.1).length + ((sepB y.2.2).length + (flT l).length) := by
      show ((tbK y.1 y.2.1 ++ sepB y.2.2) ++ flT l).length = _
      rw [List.length_append, List.length_append]; omega
    have ht0 := ht 0 (by omega)
    have e0 : (flT (y :: l)).getD 0 0 = (tbK y.1 y.2.1).getD 0 0 := by
      show ((tbK y.1 y.2.1 ++ sepB y.2.2) ++ flT l).getD 0 0 = _
      rw [List.append_assoc, gD_app1 f1]
    rw [e0] at ht0
    unfold skB
    refine sc_no (fun z => ?_)
    have := z.2
    rw [ht0] at this
    omega
  obtain ⟨q1, q2⟩ := lex_go (t := t) (L := L) (plT P N R O F G H W) (33, 0, 0) 0 0 hC (by omega) (fun j hj => by rw [Nat.zero_add]; exact ht j (by omega)) h0
  rw [Nat.zero_add] at q2
  refine ⟨pl_len4 hB, q2, fun n x hx => ?_⟩
  have := q1 n (get_ltT hx)
  rw [Nat.zero_add, List.getD_eq_getElem?_getD, hx] at this
  exact ⟨this, tkC_ok _ _ hC n x hx⟩
end TLN
