/-! a sheet more: what becomes of the rows -/
theorem onlyD_7 {E : DT} {b n S c k : Nat} : ∀ K, onlyD E b n S K 7 c k = if c = b ∧ 5 * n ≤ k ∧ k < 5 * n + K then (if k = 5 * n + b then S + 1 else 0) else E 7 c k
  | 0 => by rw [onlyD, if_neg (by omega)]
  | K + 1 => by
    have e0 : onlyD E b n S (K + 1) 7 c k = if c = b ∧ k = 5 * n + K then (if K = b then S + 1 else 0) else onlyD E b n S K 7 c k := by
      show ud (onlyD E b n S K) 7 b (5 * n + K) (if K = b then S + 1 else 0) 7 c k = _
      unfold ud
      by_cases e : c = b ∧ k = 5 * n + K
      · rw [if_pos e, if_pos ⟨rfl, e.1, e.2⟩]
      · rw [if_neg e, if_neg (fun z => e z.2)]
    rw [e0, onlyD_7 K]
    by_cases e : c = b ∧ k = 5 * n + K
    · rw [if_pos e, if_pos (show c = b ∧ 5 * n ≤ k ∧ k < 5 * n + (K + 1) from ⟨e.1, by omega, by omega⟩)]
      by_cases e2 : K = b
      · rw [if_pos e2, if_pos (by omega)]
      · rw [if_neg e2, if_neg (by omega)]
    · rw [if_neg e]
      by_cases e2 : c = b ∧ 5 * n ≤ k ∧ k < 5 * n + K
      · rw [if_pos e2, if_pos (show c = b ∧ 5 * n ≤ k ∧ k < 5 * n + (K + 1) from ⟨e2.1, by omega, by omega⟩)]
      · rw [if_neg e2, if_neg (show ¬ (c = b ∧ 5 * n ≤ k ∧ k < 5 * n + (K + 1)) from fun z => e2 ⟨z.1, z.2.1, by
          have : k ≠ 5 * n + K := fun w => e ⟨z.1, w⟩
          omega⟩)]
theorem sumN_mono {f : Nat → Nat} {m n : Nat} (h : m ≤ n) : sumN f m ≤ sumN f n := by
  obtain ⟨j, rfl⟩ : ∃ j, n = m + j := ⟨n - m, by omega⟩
  induction j with
  | zero => exact Nat.le_refl _
  | succ j ih =>
    have := ih (by omega)
    show sumN f m ≤ sumN f (m + j) + f (m + j)
    omega
section MKP
variable {T : PT} {D : DT} {b n v m h : Nat}
theorem mk_7 {c k : Nat} : mkD T D b n v m h 7 c k = if c = b ∧ 5 * n ≤ k ∧ k < 5 * n + T 0 0 then (if k = 5 * n + b then D 1 0 0 + 1 else 0) else D 7 c k := by
  unfold mkD
  rw [onlyD_7, addS_f (by decide) (by decide), ud_f (by decide), ud_f (by decide)]
theorem sLk_in (f : Nat → Nat) : ∀ j k p, k ≤ p → p < k + j → f p ≠ 0 → f p ∈ sLk f k j
  | 0, _, _, h1, h2, _ => by omega
  | j + 1, k, p, h1, h2, h3 => by
    rw [sLk]
    by_cases e : p = k
    · subst e; rw [if_neg h3]; exact List.mem_cons_self
    · have := sLk_in f j (k + 1) p (by omega) (by omega) h3
      split
      · exact this
      · exact List.mem_cons_of_mem _ this
theorem getD_mem {l : List Nat} {v : Nat} : v ∈ l ↔ ∃ j, j < l.length ∧ l.getD j 0 = v := by
  constructor
  · intro h
    obtain ⟨j, hj, e⟩ := List.mem_iff_getElem.mp h
    exact ⟨j, hj, by rw [List.getD_eq_getElem?_getD, List.getElem?_eq_getElem hj]; exact e⟩
  · rintro ⟨j, hj, e⟩
    rw [List.getD_eq_getElem?_getD, List.getElem?_eq_getElem hj] at e
    exact e ▸ List.getElem_mem hj
/-- a board shows a sheet of a notice just if it is in the row -/
theorem sh_row {k : Nat} (hB : DB T D) (hb : b < T 0 0) (hn : n < T 1 0) : k + 1 ∈ shL D b n ↔ pSh D b k ∧ D 4 k 1 = n := by
  have hP5 := hB.1.1
  have hN6 := hB.1.2.1
  constructor
  · intro h
    obtain ⟨-, p, -, hp, e⟩ := sLk_mem _ _ _ _ h
    have e' : D 7 b (5 * n + p) = k + 1 := e
    have h4 := (hB.2.2.1 b hb).2.2.2.2 (5 * n + p) (by omega) (by omega)
    have h5 := (hB.2.2.1 b hb).2.1 (5 * n + p) (by omega)
    rw [e', Nat.add_sub_cancel] at h4
    have e1 : D 4 k 0 = p := by omega
    have e2 : D 4 k 1 = n := by omega
    exact ⟨⟨by omega, by rw [e1, e2]; exact e'⟩, e2⟩
  · rintro ⟨⟨h1, h2⟩, h3⟩
    have hp4 : D 4 k 0 < T 0 0 := (hB.2.1 k h1).1
    rw [h3] at h2
    have := sLk_in (fun p => D 7 b (5 * n + p)) 5 0 (D 4 k 0) (Nat.zero_le _) (by omega) (by show D 7 b (5 * n + D 4 k 0) ≠ 0; omega)
    have e : D 7 b (5 * n + D 4 k 0) ∈ sLk (fun p => D 7 b (5 * n + p)) 0 5 := this
    rw [h2] at e
    exact e
/-- the rows of a world with a sheet more -/
theorem pKn_mk {c k : Nat} (hI : Inv T D) (hb : b < T 0 0) (hk : k ≤ D 1 0 0) (hc : c < T 0 0) : pKn (mkD T D b n v m h) c k ↔ pKn D c k ∨ (c = b ∧ k = D 1 0 0) := by
  obtain ⟨hB, hW, ⟨n1, n2, n3, n4⟩, -⟩ := hI
  have hP5 := hB.1.1
  unfold pKn kn
  rw [mk_1]
  rcases Nat.lt_or_ge k (D 1 0 0) with hlt | hge
  · rw [mk_45 (Or.inl rfl) (by omega), mk_45 (Or.inr rfl) (by omega), mk_6]
    have hp4 : D 4 k 0 < T 0 0 := (hB.2.1 k hlt).1
    by_cases e : c = b ∧ D 4 k 0 = b
    · rw [if_pos e]
      have h2 := n2 k hlt
      have h4 := n4 b hb
      have h5 : cP D b (k + 1) ≤ cP D b (D 1 0 0) := by
        have := sumN_mono (f := fun t => bN (D 4 t 0 = b)) (show k + 1 ≤ D 1 0 0 by omega)
        exact this
      rw [e.2] at h2 ⊢
      rw [e.1]
      constructor
      · intro _; exact Or.inl ⟨hlt, by omega⟩
      · intro _; exact ⟨by omega, by omega⟩
    · rw [if_neg e]
      constructor
      · rintro ⟨_, z⟩; exact Or.inl ⟨hlt, z⟩
      · rintro (⟨_, z⟩ | z)
        · exact ⟨by omega, z⟩
        · omega
  · obtain rfl : k = D 1 0 0 := by omega
    rw [mk_4S, mk_5S, show newS b n v m (D 0 0 0) h 0 = b from rfl, if_pos rfl, mk_6]
    have h3 := n3 c b hc (by omega)
    have h4 := n4 b hb
    constructor
    · rintro ⟨_, z⟩
      by_cases e : c = b
      · exact Or.inr ⟨e, rfl⟩
      · rw [if_neg (fun w => e w.1)] at z; omega
    · rintro (⟨z, _⟩ | ⟨rfl, _⟩)
      · omega
      · rw [if_pos ⟨rfl, rfl⟩]; exact ⟨by omega, Nat.le_refl _⟩
theorem pAh_mk {k j : Nat} (hI : Inv T D) (hb : b < T 0 0) (hk : k < D 1 0 0) (hj : j ≤ D 1 0 0) : pAh (mkD T D b n v m h) k j ↔ pAh D k j := by
  obtain ⟨hB, hW, ⟨n1, n2, n3, n4⟩, -⟩ := hI
  have hP5 := hB.1.1
  unfold pAh ah
  rw [mk_1, mk_45 (f := 5) (s := k) (Or.inr rfl) (by omega)]
  rcases Nat.lt_or_ge j (D 1 0 0) with hlt | hge
  · rw [mk_45 (Or.inl rfl) (by omega), mk_45 (Or.inr rfl) (by omega)]
    constructor
    · rintro ⟨_, z⟩; exact ⟨hlt, z⟩
    · rintro ⟨_, z⟩; exact ⟨by omega, z⟩
  · obtain rfl : j = D 1 0 0 := by omega
    rw [mk_4S, mk_5S, show newS b n v m (D 0 0 0) h 0 = b from rfl, if_pos rfl]
    have h1 := n1 k b hk (by omega)
    have h4 := n4 b hb
    have h5 : cP D b (k + 1) ≤ cP D b (D 1 0 0) := sumN_mono (f := fun t => bN (D 4 t 0 = b)) (show k + 1 ≤ D 1 0 0 by omega)
    constructor
    · rintro ⟨_, z⟩; omega
    · rintro ⟨z, _⟩; omega
theorem pAh_mkS {j : Nat} (hI : Inv T D) (hb : b < T 0 0) (hj : j ≤ D 1 0 0) : pAh (mkD T D b n v m h) (D 1 0 0) j ↔ pKn (mkD T D b n v m h) b j := by
  have hP5 := hI.1.1.1
  unfold pAh pKn ah kn
  rw [mk_1]
  have e : ∀ p, mkD T D b n v m h 5 (D 1 0 0) p = mkD T D b n v m h 6 b p := fun p => by
    rw [mk_5S, mk_6]
    by_cases z : p = b
    · rw [if_pos z, if_pos ⟨rfl, z⟩]
    · rw [if_neg z, if_neg (fun w => z w.2)]
  rw [e]
theorem pSh_mk {c k : Nat} (hB : DB T D) (hc : c < T 0 0) (hb : b < T 0 0) (hn : n < T 1 0) (hk : k ≤ D 1 0 0) : pSh (mkD T D b n v m h) c k ↔ (pSh D c k ∧ ¬ (c = b ∧ D 4 k 1 = n)) ∨ (c = b ∧ k = D 1 0 0) := by
  have hP5 := hB.1.1
  unfold pSh
  rw [mk_1]
  rcases Nat.lt_or_ge k (D 1 0 0) with hlt | hge
  · have hp4 : D 4 k 0 < T 0 0 := (hB.2.1 k hlt).1
    rw [mk_45 (Or.inl rfl) (by omega), mk_45 (Or.inl rfl) (by omega), mk_7]
    by_cases e : c = b ∧ D 4 k 1 = n
    · rw [if_pos ⟨e.1, by omega, by omega⟩]
      constructor
      · rintro ⟨_, z⟩
        split at z <;> omega
      · rintro (⟨_, z⟩ | z)
        · exact absurd e z
        · omega
    · rw [if_neg (fun w => e ⟨w.1, by omega⟩)]
      constructor
      · rintro ⟨_, z⟩; exact Or.inl ⟨⟨hlt, z⟩, e⟩
      · rintro (⟨z, _⟩ | z)
        · exact ⟨by omega, z.2⟩
        · omega
  · obtain rfl : k = D 1 0 0 := by omega
    rw [mk_4S, mk_4S, show newS b n v m (D 0 0 0) h 0 = b from rfl, show newS b n v m (D 0 0 0) h 1 = n from rfl, mk_7]
    by_cases e : c = b
    · rw [if_pos ⟨e, by omega, by omega⟩, if_pos rfl]
      exact ⟨fun _ => Or.inr ⟨e, rfl⟩, fun _ => ⟨by omega, rfl⟩⟩
    · rw [if_neg (fun w => e w.1)]
      constructor
      · rintro ⟨_, z⟩
        have := (hB.2.2.1 c hc).2.1 (5 * n + b) (by have := hB.1.2.1; omega)
        omega
      · rintro (⟨z, _⟩ | z)
        · omega
        · exact absurd z.1 e
end MKP
