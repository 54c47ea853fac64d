/-! the model's names, token by token -/
def arN (r : Nat) : Nat := if r = 4 then 51 else if r = 5 then 52 else if r = 6 then 53 else if r = 7 then 54 else if r = 8 ∨ r = 10 then 55 else if r = 9 then 56 else if r = 11 then 57 else 0
noncomputable def slN (K : Nat → Nat) (i : Nat) : Nat := if rl K i = 7 then cn K 7 i else if rl K i ≤ 6 then cn K 3 i - 1 else cn K 7 i - 1
noncomputable def vlN (t : Nat → Nat) (L i : Nat) : Int32 := if rl (tK t L) i = 6 then nI (nvT t L i) else if rl (tK t L) i = 7 then nI (tK t L i) else if rl (tK t L) i = 11 then nI (tK t L i - 13) else nI (plc t L (lr (rl (tK t L) i)) i i - 1)
/-- how far behind its line's head such a token stands -/
def hdN (r : Nat) : Nat := if r = 4 then 2 else if r = 5 then 4 else if r = 6 then 6 else if r = 8 ∨ r = 10 then 1 else if r = 9 then 2 else 4
theorem arN_0 : ∀ r, r < 14 → (arN r ≠ 0 ↔ r = 4 ∨ r = 5 ∨ r = 6 ∨ r = 7 ∨ r = 8 ∨ r = 9 ∨ r = 10 ∨ r = 11) := by decide
theorem arN_in : ∀ r, r < 14 → arN r ≠ 0 → 51 ≤ arN r ∧ arN r ≤ 57 := by decide
theorem cls6 : ∀ a, a < 14 → ∀ b, b < 14 → (arN b ≠ 0 ∧ b ≤ 6 ∧ arN a = arN b) → a = 4 ∨ a = 5 ∨ a = 6 := by decide
theorem cls7 : ∀ a, a < 14 → ∀ b, b < 14 → (arN b ≠ 0 ∧ ¬ b ≤ 6 ∧ b ≠ 7 ∧ arN a = arN b) → a = 8 ∨ a = 9 ∨ a = 10 ∨ a = 11 := by decide
section M66
variable {K : Nat → Nat} {n x : Nat}
theorem rl_44k {j : Nat} (h : K j = 44) : rl K j = (if K (j - 1) = 0 then 1 else if K (j - 1) = 5 then 2 else if K (j - 1) = 1 then 3 else if K (j - 1) = 2 then 4 else if K (j - 1) = 3 then 5
     else if 6 ≤ K (j - 1) ∧ K (j - 1) ≤ 8 then 8 else if K (j - 1) = 9 then 10 else if 18 ≤ K (j - 1) ∧ K (j - 1) ≤ 23 then 12 else if 6 ≤ K (j - 2) ∧ K (j - 2) ≤ 8 then 9 else 13) := rl_44 h rfl rfl
theorem it_eq {c : Prop} [Decidable c] {a b m : Nat} (h : (if c then a else b) = m) : (c ∧ a = m) ∨ (¬ c ∧ b = m) := by
  by_cases z : c
  · rw [if_pos z] at h; exact Or.inl ⟨z, h⟩
  · rw [if_neg z] at h; exact Or.inr ⟨z, h⟩
/-- the word ahead of a name -/
theorem rl_prev {j r : Nat} (hr : rl K j = r) (h : r = 4 ∨ r = 5 ∨ r = 8 ∨ r = 9 ∨ r = 10) : K j = 44 ∧ (r = 4 → K (j - 1) = 2) ∧ (r = 5 → K (j - 1) = 3) ∧ (r = 8 → 6 ≤ K (j - 1) ∧ K (j - 1) ≤ 8) ∧ (r = 10 → K (j - 1) = 9) ∧ (r = 9 → 6 ≤ K (j - 2) ∧ K (j - 2) ≤ 8 ∧ ¬ kw1 (K (j - 1))) := by
  have hk := rl_44' hr (by omega)
  rw [rl_44k hk] at hr
  refine ⟨hk, ?_⟩
  rcases it_eq hr with ⟨a, b⟩ | ⟨a0, hr⟩
  · omega
  rcases it_eq hr with ⟨a, b⟩ | ⟨a1, hr⟩
  · omega
  rcases it_eq hr with ⟨a, b⟩ | ⟨a2, hr⟩
  · omega
  rcases it_eq hr with ⟨a, b⟩ | ⟨a3, hr⟩
  · omega
  rcases it_eq hr with ⟨a, b⟩ | ⟨a4, hr⟩
  · omega
  rcases it_eq hr with ⟨a, b⟩ | ⟨a5, hr⟩
  · omega
  rcases it_eq hr with ⟨a, b⟩ | ⟨a6, hr⟩
  · omega
  rcases it_eq hr with ⟨a, b⟩ | ⟨a7, hr⟩
  · omega
  rcases it_eq hr with ⟨a, b⟩ | ⟨a8, hr⟩
  · refine ⟨by omega, by omega, by omega, by omega, fun _ => ⟨a.1, a.2, ?_⟩⟩
    unfold kw1; omega
  · omega
theorem rl_11 {j : Nat} (hr : rl K j = 11) : 13 ≤ K j ∧ K j ≤ 15 := by
  by_cases h : 13 ≤ K j ∧ K j ≤ 15
  · exact h
  · exfalso
    by_cases a : 6 ≤ K j ∧ K j ≤ 9
    · rw [rl_7.mpr a] at hr; omega
    · by_cases b : K j = 45
      · unfold rl at hr; rw [if_neg a, if_neg h, if_pos b] at hr; split at hr <;> omega
      · by_cases c : K j = 44
        · rw [rl_44k c] at hr
          exact ite_ne (by decide) (ite_ne (by decide) (ite_ne (by decide) (ite_ne (by decide) (ite_ne (by decide) (ite_ne (by decide) (ite_ne (by decide) (ite_ne (by decide) (ite_ne (by decide) (by decide))))))))) hr
        · rw [rl_0 ⟨c, b, a, h⟩] at hr; omega
theorem rl_of_kw {j : Nat} (h : K j ≠ 44 ∧ K j ≠ 45 ∧ ¬ (6 ≤ K j ∧ K j ≤ 9) ∧ ¬ (13 ≤ K j ∧ K j ≤ 15)) : arN (rl K j) = 0 := by rw [rl_0 h]; rfl
/-- a road's line, from its head on -/
theorem road_rl {a : Nat} (hLS : ∀ j, j < n → LSj K j) (ha : a < n) (hk : K a = 1) : rl K (a + 1) = 3 ∧ rl K (a + 2) = 0 ∧ rl K (a + 3) = 4 ∧ rl K (a + 4) = 0 ∧ rl K (a + 5) = 5 ∧ rl K (a + 6) = 0 ∧ rl K (a + 7) = 6 := by
  obtain ⟨e1, e2, e3, e4, e5, e6, e7⟩ := (hLS a ha).2.1 hk
  refine ⟨?_, rl_0 (by omega), ?_, rl_0 (by omega), ?_, rl_0 (by omega), ?_⟩
  · rw [rl_44 e1 (show K (a + 1 - 1) = 1 from hk) rfl]; rfl
  · rw [rl_44 e3 (show K (a + 3 - 1) = 2 from e2) rfl]; rfl
  · rw [rl_44 e5 (show K (a + 5 - 1) = 3 from e4) rfl]; rfl
  · unfold rl; rw [if_neg (by omega), if_neg (by omega), if_pos e7, if_pos (show K (a + 7 - 1) = 4 from e6)]
theorem head_at (hLS : ∀ j, j < n → LSj K j) (hx : x < n) (hr : rl K x = 4 ∨ rl K x = 5 ∨ rl K x = 6 ∨ rl K x = 8 ∨ rl K x = 9 ∨ rl K x = 10 ∨ rl K x = 11) : hdN (rl K x) ≤ x ∧ rl K (x - hdN (rl K x)) = (if rl K x ≤ 6 then 3 else 7) ∧ ∀ j, x - hdN (rl K x) ≤ j → j < x → arN (rl K j) ≠ arN (rl K x) := by
  -- roads
  have rd : ∀ a c, K a = 1 → a < n → x = a + 1 + c → hdN (rl K x) = c → (c = 2 ∨ c = 4 ∨ c = 6) → hdN (rl K x) ≤ x ∧ rl K (x - hdN (rl K x)) = (if rl K x ≤ 6 then 3 else 7) ∧ ∀ j, x - hdN (rl K x) ≤ j → j < x → arN (rl K j) ≠ arN (rl K x) := by
    intro a c ka han hxa hc hc'
    obtain ⟨r1, r2, r3, r4, r5, r6, r7⟩ := road_rl hLS han ka
    rw [hc]
    have e : x - c = a + 1 := by omega
    rw [e, r1]
    rcases hc' with rfl | rfl | rfl
    · have ex : rl K x = 4 := by rw [hxa]; exact r3
      rw [ex]
      refine ⟨by omega, rfl, fun j h1 h2 => ?_⟩
      rcases (by omega : j = a + 1 ∨ j = a + 2) with z | z <;> rw [z]
      · rw [r1]; decide
      · rw [r2]; decide
    · have ex : rl K x = 5 := by rw [hxa]; exact r5
      rw [ex]
      refine ⟨by omega, rfl, fun j h1 h2 => ?_⟩
      rcases (by omega : j = a + 1 ∨ j = a + 2 ∨ j = a + 3 ∨ j = a + 4) with z | z | z | z <;> rw [z]
      · rw [r1]; decide
      · rw [r2]; decide
      · rw [r3]; decide
      · rw [r4]; decide
    · have ex : rl K x = 6 := by rw [hxa]; exact r7
      rw [ex]
      refine ⟨by omega, rfl, fun j h1 h2 => ?_⟩
      rcases (by omega : j = a + 1 ∨ j = a + 2 ∨ j = a + 3 ∨ j = a + 4 ∨ j = a + 5 ∨ j = a + 6) with z | z | z | z | z | z <;> rw [z]
      · rw [r1]; decide
      · rw [r2]; decide
      · rw [r3]; decide
      · rw [r4]; decide
      · rw [r5]; decide
      · rw [r6]; decide
  have h1x : K x = 44 → 1 ≤ x := fun h => ((hLS x hx).2.2.2.2.2.2.2.1 h).1
  rcases hr with h | h | h | h | h | h | h
  · obtain ⟨k, k1, -⟩ := rl_prev h (Or.inl rfl)
    have k1 := k1 rfl
    have := h1x k
    obtain ⟨b1, b2⟩ := (hLS (x - 1) (by omega)).2.2.1 k1
    exact rd (x - 1 - 2) 2 b2 (by omega) (by omega) (by rw [h]; rfl) (Or.inl rfl)
  · obtain ⟨k, -, k1, -⟩ := rl_prev h (Or.inr (Or.inl rfl))
    have k1 := k1 rfl
    have := h1x k
    obtain ⟨b1, b2⟩ := (hLS (x - 1) (by omega)).2.2.2.1 k1
    exact rd (x - 1 - 4) 4 b2 (by omega) (by omega) (by rw [h]; rfl) (Or.inr (Or.inl rfl))
  · obtain ⟨k, k1⟩ := rl_6 h
    have : 1 ≤ x := by
      rcases Nat.eq_zero_or_pos x with z | z
      · rw [z] at k k1; have k1' : K 0 = 4 := k1; omega
      · exact z
    obtain ⟨b1, b2⟩ := (hLS (x - 1) (by omega)).2.2.2.2.1 k1
    exact rd (x - 1 - 6) 6 b2 (by omega) (by omega) (by rw [h]; rfl) (Or.inr (Or.inr rfl))
  · obtain ⟨k, -, -, k1, -⟩ := rl_prev h (Or.inr (Or.inr (Or.inl rfl)))
    have k1 := k1 rfl
    have := h1x k
    rw [h]
    have r7 : rl K (x - 1) = 7 := rl_7.mpr ⟨k1.1, by omega⟩
    refine ⟨this, r7, fun j a b => ?_⟩
    have a' : x - 1 ≤ j := a
    rw [show j = x - 1 by omega, r7]; decide
  · obtain ⟨k, -, -, -, -, k1⟩ := rl_prev h (Or.inr (Or.inr (Or.inr (Or.inl rfl))))
    obtain ⟨k1, k2, k3⟩ := k1 rfl
    obtain ⟨b1, b2⟩ := (hLS x hx).2.2.2.2.2.2.2.1 k
    rcases b2 with b2 | ⟨b2, b3, -⟩
    · exact absurd b2 k3
    · rw [h]
      have r7 : rl K (x - 2) = 7 := rl_7.mpr ⟨k1, by omega⟩
      have r8 : rl K (x - 1) = 8 := by
        rw [rl_44 b2 (show K (x - 1 - 1) = K (x - 2) by rw [show x - 1 - 1 = x - 2 by omega]) rfl, if_neg (by omega), if_neg (by omega), if_neg (by omega), if_neg (by omega), if_neg (by omega), if_pos ⟨k1, k2⟩]
      refine ⟨b3, r7, fun j a b => ?_⟩
      have a' : x - 2 ≤ j := a
      rcases (by omega : j = x - 2 ∨ j = x - 1) with z | z <;> rw [z]
      · rw [r7]; decide
      · rw [r8]; decide
  · obtain ⟨k, -, -, -, k1, -⟩ := rl_prev h (Or.inr (Or.inr (Or.inr (Or.inr rfl))))
    have k1 := k1 rfl
    have := h1x k
    rw [h]
    have r7 : rl K (x - 1) = 7 := rl_7.mpr ⟨by omega, by omega⟩
    refine ⟨this, r7, fun j a b => ?_⟩
    have a' : x - 1 ≤ j := a
    rw [show j = x - 1 by omega, r7]; decide
  · obtain ⟨k1, k2⟩ := rl_11 h
    obtain ⟨b1, b2⟩ := (hLS x hx).2.2.2.2.2.2.2.2 k1 k2
    obtain ⟨c1, c2, c3⟩ := (hLS (x - 4) (by omega)).2.2.2.2.2.1 (by omega) (by omega)
    have c2 := c2 (by omega)
    obtain ⟨c3, -⟩ := c3 b2
    rw [show x - 4 + 1 = x - 3 by omega] at c1
    rw [show x - 4 + 2 = x - 2 by omega] at c2
    rw [show x - 4 + 3 = x - 1 by omega] at c3
    rw [h]
    have r7 : rl K (x - 4) = 7 := rl_7.mpr ⟨by omega, by omega⟩
    have r8 : rl K (x - 3) = 8 := by rw [rl_44 c1 (show K (x - 3 - 1) = 8 by rw [show x - 3 - 1 = x - 4 by omega]; exact b2) rfl]; rfl
    have r9 : rl K (x - 2) = 9 := by rw [rl_44 c2 (show K (x - 2 - 1) = 44 by rw [show x - 2 - 1 = x - 3 by omega]; exact c1) (show K (x - 2 - 2) = 8 by rw [show x - 2 - 2 = x - 4 by omega]; exact b2)]; rfl
    have r0 : rl K (x - 1) = 0 := rl_0 (by omega)
    refine ⟨b1, r7, fun j a b => ?_⟩
    have a' : x - 4 ≤ j := a
    rcases (by omega : j = x - 4 ∨ j = x - 3 ∨ j = x - 2 ∨ j = x - 1) with z | z | z | z <;> rw [z]
    · rw [r7]; decide
    · rw [r8]; decide
    · rw [r9]; decide
    · rw [r0]; decide
/-- no two tokens share a place -/
theorem slot_ok (hLS : ∀ j, j < n → LSj K j) (hx : x < n) (hr : arN (rl K x) ≠ 0) : (rl K x ≠ 7 → 1 ≤ (if rl K x ≤ 6 then cn K 3 x else cn K 7 x)) ∧ ∀ i, i < x → arN (rl K i) = arN (rl K x) → slN K i < slN K x := by
  have hl := rl_lt (K := K) (j := x)
  have h8 := (arN_0 _ hl).mp hr
  by_cases h7 : rl K x = 7
  · refine ⟨fun z => absurd h7 z, fun i hi e => ?_⟩
    have hli := rl_lt (K := K) (j := i)
    have : rl K i = 7 := by
      have : ∀ a, a < 14 → arN a = arN 7 → a = 7 := by decide
      exact this _ hli (by rw [e, h7])
    unfold slN
    rw [if_pos this, if_pos h7]
    exact cn_lt hi this
  · obtain ⟨b1, b2, b3⟩ := head_at hLS hx (by omega)
    have hc : ∀ i, i < x → arN (rl K i) = arN (rl K x) → i < x - hdN (rl K x) := fun i hi e => by
      rcases Nat.lt_or_ge i (x - hdN (rl K x)) with z | z
      · exact z
      · exact absurd e (b3 i z hi)
    have hpos : 1 ≤ hdN (rl K x) := by
      have : ∀ a, a < 14 → 1 ≤ hdN a := by decide
      exact this _ hl
    by_cases h6 : rl K x ≤ 6
    · rw [if_pos h6] at b2 ⊢
      have l1 := cn_lt (K := K) (r := 3) (show x - hdN (rl K x) < x by omega) b2
      refine ⟨fun _ => by omega, fun i hi e => ?_⟩
      have hli := rl_lt (K := K) (j := i)
      have hi6 : rl K i ≤ 6 ∧ rl K i ≠ 7 := by
        have := cls6 _ hli _ hl ⟨hr, h6, e⟩
        omega
      have l2 := cn_mono (K := K) (r := 3) (show i ≤ x - hdN (rl K x) by have := hc i hi e; omega)
      have hpi : 1 ≤ cn K 3 i := by
        obtain ⟨d1, d2, -⟩ := head_at hLS (show i < n by omega) (by
          have := cls6 _ hli _ hl ⟨hr, h6, e⟩
          omega)
        rw [if_pos hi6.1] at d2
        have hp2 : 1 ≤ hdN (rl K i) := by
          have : ∀ a, a < 14 → 1 ≤ hdN a := by decide
          exact this _ hli
        have := cn_lt (K := K) (r := 3) (show i - hdN (rl K i) < i by omega) d2
        omega
      unfold slN
      rw [if_neg hi6.2, if_pos hi6.1, if_neg h7, if_pos h6]
      omega
    · rw [if_neg h6] at b2 ⊢
      have l1 := cn_lt (K := K) (r := 7) (show x - hdN (rl K x) < x by omega) b2
      refine ⟨fun _ => by omega, fun i hi e => ?_⟩
      have hli := rl_lt (K := K) (j := i)
      have hi6 : ¬ rl K i ≤ 6 ∧ rl K i ≠ 7 := by
        have := cls7 _ hli _ hl ⟨hr, h6, h7, e⟩
        omega
      have l2 := cn_mono (K := K) (r := 7) (show i ≤ x - hdN (rl K x) by have := hc i hi e; omega)
      have hpi : 1 ≤ cn K 7 i := by
        obtain ⟨d1, d2, -⟩ := head_at hLS (show i < n by omega) (by
          have := cls7 _ hli _ hl ⟨hr, h6, h7, e⟩
          omega)
        rw [if_neg hi6.1] at d2
        have hp2 : 1 ≤ hdN (rl K i) := by
          have : ∀ a, a < 14 → 1 ≤ hdN a := by decide
          exact this _ hli
        have := cn_lt (K := K) (r := 7) (show i - hdN (rl K i) < i by omega) d2
        omega
      unfold slN
      rw [if_neg hi6.2, if_neg hi6.1, if_neg h7, if_neg h6]
      omega
end M66
