/-! what the names of a whole text stand for -/
section RLI
variable {K : Nat → Nat} {j r n M m : Nat} {f : Nat → Nat}
theorem rl_inv (h44 : K j = 44) : (rl K j = 1 ↔ K (j - 1) = 0) ∧ (rl K j = 2 ↔ K (j - 1) = 5) ∧ (rl K j = 3 ↔ K (j - 1) = 1) := by
  rw [rl_44k h44]
  refine ⟨⟨fun h => ?_, fun h => ?_⟩, ⟨fun h => ?_, fun h => ?_⟩, ⟨fun h => ?_, fun h => ?_⟩⟩
  · repeat' split at h
    all_goals first | assumption | omega
  · rw [if_pos h]
  · repeat' split at h
    all_goals first | assumption | omega
  · rw [if_neg (by omega), if_pos h]
  · repeat' split at h
    all_goals first | assumption | omega
  · rw [if_neg (by omega), if_neg (by omega), if_pos h]
theorem cnA (hf : ∀ a b, a < b → f a < f b) (hr : ∀ j, j < M → (rl K j = r ↔ ∃ a, a < n ∧ j = f a)) : ∀ m, m ≤ M → ∀ a, a ≤ n → (∀ a', a' < a → f a' < m) → (∀ a', a ≤ a' → a' < n → m ≤ f a') → cn K r m = a
  | 0, _, a, _, h1, _ => by
    rcases Nat.eq_zero_or_pos a with rfl | z
    · rfl
    · exact absurd (h1 0 z) (Nat.not_lt_zero _)
  | m + 1, hm, a, ha, h1, h2 => by
    rw [cn]
    by_cases z : rl K m = r
    · obtain ⟨a0, h3, h4⟩ := (hr m (by omega)).mp z
      have e1 : a0 < a := by
        rcases Nat.lt_or_ge a0 a with y | y
        · exact y
        · have := h2 a0 y h3; omega
      have e2 : a ≤ a0 + 1 := by
        rcases Nat.lt_or_ge (a0 + 1) a with y | y
        · have := h1 (a0 + 1) y
          have := hf a0 (a0 + 1) (by omega)
          omega
        · exact y
      rw [if_pos z, cnA hf hr m (by omega) a0 (by omega) (fun a' h => by have := hf a' a0 h; omega) (fun a' h h' => by
        rcases Nat.eq_or_lt_of_le h with y | y
        · rw [← y]; omega
        · have := hf a0 a' y; omega)]
      omega
    · rw [if_neg z, Nat.add_zero]
      refine cnA hf hr m (by omega) a ha (fun a' h => ?_) (fun a' h h' => by have := h2 a' h h'; omega)
      have h3 := h1 a' h
      rcases Nat.eq_or_lt_of_le (show f a' ≤ m by omega) with y | y
      · exact absurd ((hr m (by omega)).mpr ⟨a', by omega, y.symm⟩) z
      · exact y
end RLI
section PLN
variable {t : Nat → Nat} {L j r n c : Nat} {f : Nat → Nat} {S : List TkE}
/-- names of a role: at f a for a < n, and bear the marks c + a -/
def NmR (t : Nat → Nat) (L : Nat) (S : List TkE) (r n c : Nat) (f : Nat → Nat) : Prop := (∀ a b, a < b → f a < f b) ∧ (∀ j, j < S.length → (rl (tK t L) j = r ↔ ∃ a, a < n ∧ j = f a)) ∧ (∀ a, a < n → f a < S.length ∧ ∃ s, S[f a]? = some (44, c + a, s))
theorem NmR.num (h : NmR t L S r n c f) {a : Nat} (ha : a < n) : cn (tK t L) r (f a) = a :=
  cnA h.1 h.2.1 (f a) (Nat.le_of_lt (h.2.2 a ha).1) a (Nat.le_of_lt ha) (fun a' z => h.1 a' a z) (fun a' z _ => by
    rcases Nat.eq_or_lt_of_le z with y | y
    · rw [y]; exact Nat.le_refl _
    · exact Nat.le_of_lt (h.1 a a' y))
theorem NmR.tot (h : NmR t L S r n c f) : cn (tK t L) r S.length = n :=
  cnA h.1 h.2.1 _ (Nat.le_refl _) n (Nat.le_refl _) (fun a' z => (h.2.2 a' z).1) (fun a' z y => by omega)
theorem NmR.lt (h : NmR t L S r n c f) {a b : Nat} (hab : f a < f b) : a < b := by
  rcases Nat.lt_or_ge a b with z | z
  · exact z
  · rcases Nat.eq_or_lt_of_le z with y | y
    · rw [y] at hab; omega
    · have := h.1 b a y; omega
theorem NmR.is (h : NmR t L S r n c f) (hS : TXS t L S) {v s : Nat} (hj : S[j]? = some (44, c + v, s)) (hv : v < n) (hlt : f v < j) : plc t L r j j = v + 1 := by
  obtain ⟨h1, s', h2⟩ := h.2.2 v hv
  have := plc_s (t := t) (L := L) (r := r) (x := j) j (f v) hlt ((h.2.1 _ h1).mpr ⟨v, hv, rfl⟩) ((hS.same h2 hj rfl rfl).mpr rfl) (fun k' hk hr hs => by
    obtain ⟨a', y1, y2⟩ := (h.2.1 k' (by omega)).mp hr
    obtain ⟨-, s2, y3⟩ := h.2.2 a' y1
    rw [y2] at hs hk
    have y4 := (hS.same y3 hj rfl rfl).mp hs
    have y5 := h.lt hk
    have y6 : c + a' = c + v := y4
    omega)
  rw [this, h.num hv]
theorem NmR.new (h : NmR t L S r n c f) (hS : TXS t L S) {a : Nat} (ha : a < n) : plc t L r (f a) (f a) = 0 := by
  obtain ⟨h1, s', h2⟩ := h.2.2 a ha
  refine (plc_0 _).mpr (fun k' hk hr hs => ?_)
  obtain ⟨a', y1, y2⟩ := (h.2.1 k' (by omega)).mp hr
  obtain ⟨-, s2, y3⟩ := h.2.2 a' y1
  rw [y2] at hs hk
  have y4 : c + a' = c + a := (hS.same y3 h2 rfl rfl).mp hs
  have y5 := h.lt hk
  omega
end PLN
section PLT
variable {t : Nat → Nat} {L P N R O i j : Nat} {F G H : Nat → Nat} {W : Nat → Nat → Nat} {x : TkE}
theorem pa_len (n : Nat) : (fl paT n).length = 3 * n := fl_len (f := paT) (m := 3) (fun _ => rfl) n
theorem no_len (n : Nat) : (fl noT n).length = 3 * n := fl_len (f := noT) (m := 3) (fun _ => rfl) n
theorem rd_len (n : Nat) : (fl (rdT F G H) n).length = 9 * n := fl_len (f := rdT F G H) (m := 9) (fun _ => rfl) n
abbrev oA (P N R : Nat) : Nat := 3 * P + 3 * N + 9 * R
theorem va_pa {a : Nat} (ha : a < P) : VAt (plT P N R O F G H W) (3 * a) (paT a) := by
  have := (VAt.all (S := plT P N R O F G H W)).l.ln ha
  rw [pa_len, Nat.zero_add] at this; exact this
theorem va_no {b : Nat} (hb : b < N) : VAt (plT P N R O F G H W) (3 * P + 3 * b) (noT b) := by
  have := (VAt.all (S := plT P N R O F G H W)).r.l.ln hb
  rw [pa_len, no_len, Nat.zero_add] at this; exact this
theorem va_rd {r : Nat} (hr : r < R) : VAt (plT P N R O F G H W) (3 * P + 3 * N + 9 * r) (rdT F G H r) := by
  have := (VAt.all (S := plT P N R O F G H W)).r.r.l.ln hr
  rw [pa_len, no_len, rd_len, Nat.zero_add] at this; exact this
theorem va_or {k : Nat} (hk : k < O) : VAt (plT P N R O F G H W) (oA P N R + (fl (fun k => orT (W k)) k).length) (orT (W k)) := by
  have := (VAt.all (S := plT P N R O F G H W)).r.r.r.ln hk
  rw [pa_len, no_len, rd_len, Nat.zero_add] at this; exact this
theorem pl_len : (plT P N R O F G H W).length = oA P N R + (fl (fun k => orT (W k)) O).length := by
  unfold plT
  rw [List.length_append, List.length_append, List.length_append, pa_len, no_len, rd_len]; unfold oA; omega
/-- where a token stands -/
theorem pl_cls (h : i < (plT P N R O F G H W).length) : (∃ a b, a < P ∧ b < 3 ∧ i = 3 * a + b) ∨ (∃ a b, a < N ∧ b < 3 ∧ i = 3 * P + 3 * a + b) ∨ (∃ a b, a < R ∧ b < 9 ∧ i = 3 * P + 3 * N + 9 * a + b) ∨ ∃ k b, k < O ∧ b < (orT (W k)).length ∧ i = oA P N R + (fl (fun k => orT (W k)) k).length + b := by
  rw [pl_len] at h
  unfold oA at h
  rcases Nat.lt_or_ge i (3 * P) with z | z
  · exact Or.inl ⟨i / 3, i % 3, by omega, by omega, by omega⟩
  · rcases Nat.lt_or_ge i (3 * P + 3 * N) with y | y
    · exact Or.inr (Or.inl ⟨(i - 3 * P) / 3, (i - 3 * P) % 3, by omega, by omega, by omega⟩)
    · rcases Nat.lt_or_ge i (oA P N R) with u | u
      · unfold oA at u
        exact Or.inr (Or.inr (Or.inl ⟨(i - (3 * P + 3 * N)) / 9, (i - (3 * P + 3 * N)) % 9, by omega, by omega, by omega⟩))
      · unfold oA at u
        obtain ⟨k, b, h1, h2, h3⟩   := fl_in (f := fun k => orT (W k)) O (i - oA P N R) (by unfold oA; omega)
        exact Or.inr (Or.inr (Or.inr ⟨k, b, h1, h2, by unfold oA at h3 ⊢; omega⟩))
theorem or_first {w : Nat → Nat} : ∃ x l, orT w = x :: l := by
  unfold orT hdT
  split
  · exact ⟨_, _, rfl⟩
  · split
    · exact ⟨_, _, rfl⟩
    · exact ⟨_, _, rfl⟩
/-- a token of an order, and the one ahead of it -/
theorem or_tok (hB : PBd P N R O F G H W) {k b : Nat} (hk : k < O) (hb : b < (orT (W k)).length) : ∃ x z, (orT (W k))[b]? = some x ∧ (plT P N R O F G H W)[oA P N R + (fl (fun k => orT (W k)) k).length + b]? = some x ∧ 1 ≤ oA P N R ∧ (plT P N R O F G H W)[oA P N R + (fl (fun k => orT (W k)) k).length + b - 1]? = some z ∧ okN P N R z.1 x := by
  obtain ⟨b1, b2, b3, b4, b5, b6⟩ := hB
  have hx : (orT (W k))[b]? = some (orT (W k))[b] := List.getElem?_eq_getElem hb
  have hv := va_or (P := P) (N := N) (R := R) (O := O) (F := F) (G := G) (H := H) (W := W) hk
  have h1 : 1 ≤ oA P N R := by unfold oA; omega
  have hlen := pl_len (P := P) (N := N) (R := R) (O := O) (F := F) (G := G) (H := H) (W := W)
  have hin := get_ltT (hv b _ hx)
  have hp : oA P N R + (fl (fun k => orT (W k)) k).length - 1 < (plT P N R O F G H W).length := by omega
  obtain ⟨z, hz, hok⟩ := wfN_at (S := plT P N R O F G H W) (orT (W k)) (oA P N R + (fl (fun k => orT (W k)) k).length - 1) _ (or_wf (b6 k hk) b2.1 _) (by rw [show oA P N R + (fl (fun k => orT (W k)) k).length - 1 + 1 = oA P N R + (fl (fun k => orT (W k)) k).length by omega]; exact hv) (List.getElem?_eq_getElem hp) b _ hx
  exact ⟨_, z, hx, hv b _ hx, h1, by rw [show oA P N R + (fl (fun k => orT (W k)) k).length + b - 1 = oA P N R + (fl (fun k => orT (W k)) k).length - 1 + b by omega]; exact hz, hok⟩
/-- where the words of the head stand -/
theorem k_cls (hS : TXS t L (plT P N R O F G H W)) (hB : PBd P N R O F G H W) (h : i < (plT P N R O F G H W).length) : (tK t L i = 0 → ∃ a, a < P ∧ i = 3 * a) ∧ (tK t L i = 5 → ∃ a, a < N ∧ i = 3 * P + 3 * a) ∧ (tK t L i = 1 → ∃ a, a < R ∧ i = 3 * P + 3 * N + 9 * a) := by
  rcases pl_cls h with ⟨a, b, ha, hb, rfl⟩ | ⟨a, b, ha, hb, rfl⟩ | ⟨a, b, ha, hb, rfl⟩ | ⟨k, b, hk, hb, rfl⟩
  · have v := hS.kat (va_pa ha)
    rcases (by omega : b = 0 ∨ b = 1 ∨ b = 2) with rfl | rfl | rfl
    · have e : tK t L (3 * a + 0) = 0 := v 0 _ rfl
      exact ⟨fun _ => ⟨a, ha, rfl⟩, fun z => by omega, fun z => by omega⟩
    · have e : tK t L (3 * a + 1) = 44 := v 1 _ rfl
      exact ⟨fun z => by omega, fun z => by omega, fun z => by omega⟩
    · have e : tK t L (3 * a + 2) = 33 := v 2 _ rfl
      exact ⟨fun z => by omega, fun z => by omega, fun z => by omega⟩
  · have v := hS.kat (va_no ha)
    rcases (by omega : b = 0 ∨ b = 1 ∨ b = 2) with rfl | rfl | rfl
    · have e : tK t L (3 * P + 3 * a + 0) = 5 := v 0 _ rfl
      exact ⟨fun z => by omega, fun _ => ⟨a, ha, rfl⟩, fun z => by omega⟩
    · have e : tK t L (3 * P + 3 * a + 1) = 44 := v 1 _ rfl
      exact ⟨fun z => by omega, fun z => by omega, fun z => by omega⟩
    · have e : tK t L (3 * P + 3 * a + 2) = 33 := v 2 _ rfl
      exact ⟨fun z => by omega, fun z => by omega, fun z => by omega⟩
  · have v := hS.kat (va_rd ha)
    rcases (by omega : b = 0 ∨ b = 1 ∨ b = 2 ∨ b = 3 ∨ b = 4 ∨ b = 5 ∨ b = 6 ∨ b = 7 ∨ b = 8) with rfl | rfl | rfl | rfl | rfl | rfl | rfl | rfl | rfl
    · have e : tK t L (3 * P + 3 * N + 9 * a + 0) = 1 := v 0 _ rfl
      exact ⟨fun z => by omega, fun z => by omega, fun _ => ⟨a, ha, rfl⟩⟩
    · have e : tK t L (3 * P + 3 * N + 9 * a + 1) = 44 := v 1 _ rfl
      exact ⟨fun z => by omega, fun z => by omega, fun z => by omega⟩
    · have e : tK t L (3 * P + 3 * N + 9 * a + 2) = 2 := v 2 _ rfl
      exact ⟨fun z => by omega, fun z => by omega, fun z => by omega⟩
    · have e : tK t L (3 * P + 3 * N + 9 * a + 3) = 44 := v 3 _ rfl
      exact ⟨fun z => by omega, fun z => by omega, fun z => by omega⟩
    · have e : tK t L (3 * P + 3 * N + 9 * a + 4) = 3 := v 4 _ rfl
      exact ⟨fun z => by omega, fun z => by omega, fun z => by omega⟩
    · have e : tK t L (3 * P + 3 * N + 9 * a + 5) = 44 := v 5 _ rfl
      exact ⟨fun z => by omega, fun z => by omega, fun z => by omega⟩
    · have e : tK t L (3 * P + 3 * N + 9 * a + 6) = 4 := v 6 _ rfl
      exact ⟨fun z => by omega, fun z => by omega, fun z => by omega⟩
    · have e : tK t L (3 * P + 3 * N + 9 * a + 7) = 45 := v 7 _ rfl
      exact ⟨fun z => by omega, fun z => by omega, fun z => by omega⟩
    · have e : tK t L (3 * P + 3 * N + 9 * a + 8) = 33 := v 8 _ rfl
      exact ⟨fun z => by omega, fun z => by omega, fun z => by omega⟩
  · obtain ⟨x, z, -, h2, -, -, h5⟩ := or_tok hB hk hb
    have e := hS.K h2
    have := h5.2.2
    exact ⟨fun z => by omega, fun z => by omega, fun z => by omega⟩
abbrev f1 (a : Nat) : Nat := 3 * a + 1
abbrev f2 (P b : Nat) : Nat := 3 * P + 3 * b + 1
abbrev f3 (P N r : Nat) : Nat := 3 * P + 3 * N + 9 * r + 1
theorem nm1 (hS : TXS t L (plT P N R O F G H W)) (hB : PBd P N R O F G H W) : NmR t L (plT P N R O F G H W) 1 P 0 f1 := by
  have hat : ∀ a, a < P → (plT P N R O F G H W)[f1 a]? = some (44, 0 + a, 0) := fun a ha => by rw [Nat.zero_add]; exact va_pa ha 1 _ rfl
  refine ⟨fun a b h => by unfold f1; omega, fun j hj => ⟨fun h => ?_, ?_⟩, fun a ha => ⟨get_ltT (hat a ha), 0, hat a ha⟩⟩
  · have h44 := rl_44' h (by decide)
    have h0 := (rl_inv h44).1.mp h
    obtain ⟨a, ha, e⟩ := (k_cls hS hB (show j - 1 < _ by omega)).1 h0
    refine ⟨a, ha, ?_⟩
    have : j ≠ 0 := fun z => by rw [z] at h44 h0; have h0' : tK t L 0 = 0 := h0; omega
    unfold f1; omega
  · rintro ⟨a, ha, rfl⟩
    have e0 : tK t L (3 * a + 0) = 0 := hS.K (va_pa ha 0 _ rfl)
    have e1 : tK t L (3 * a + 1) = 44 := hS.K (va_pa ha 1 _ rfl)
    exact (rl_inv e1).1.mpr e0
theorem nm2 (hS : TXS t L (plT P N R O F G H W)) (hB : PBd P N R O F G H W) : NmR t L (plT P N R O F G H W) 2 N 10 (f2 P) := by
  have hat : ∀ a, a < N → (plT P N R O F G H W)[f2 P a]? = some (44, 10 + a, 0) := fun a ha => va_no ha 1 _ rfl
  refine ⟨fun a b h => by unfold f2; omega, fun j hj => ⟨fun h => ?_, ?_⟩, fun a ha => ⟨get_ltT (hat a ha), 0, hat a ha⟩⟩
  · have h44 := rl_44' h (by decide)
    have h0 := (rl_inv h44).2.1.mp h
    obtain ⟨a, ha, e⟩ := (k_cls hS hB (show j - 1 < _ by omega)).2.1 h0
    refine ⟨a, ha, ?_⟩
    have : j ≠ 0 := fun z => by rw [z] at h44 h0; have h0' : tK t L 0 = 5 := h0; omega
    unfold f2; omega
  · rintro ⟨a, ha, rfl⟩
    have e0 : tK t L (3 * P + 3 * a + 0) = 5 := hS.K (va_no ha 0 _ rfl)
    have e1 : tK t L (3 * P + 3 * a + 1) = 44 := hS.K (va_no ha 1 _ rfl)
    exact (rl_inv e1).2.1.mpr e0
theorem nm3 (hS : TXS t L (plT P N R O F G H W)) (hB : PBd P N R O F G H W) : NmR t L (plT P N R O F G H W) 3 R 20 (f3 P N) := by
  have hat : ∀ a, a < R → (plT P N R O F G H W)[f3 P N a]? = some (44, 20 + a, 1) := fun a ha => va_rd ha 1 _ rfl
  refine ⟨fun a b h => by unfold f3; omega, fun j hj => ⟨fun h => ?_, ?_⟩, fun a ha => ⟨get_ltT (hat a ha), 1, hat a ha⟩⟩
  · have h44 := rl_44' h (by decide)
    have h0 := (rl_inv h44).2.2.mp h
    obtain ⟨a, ha, e⟩ := (k_cls hS hB (show j - 1 < _ by omega)).2.2 h0
    refine ⟨a, ha, ?_⟩
    have : j ≠ 0 := fun z => by rw [z] at h44 h0; have h0' : tK t L 0 = 1 := h0; omega
    unfold f3; omega
  · rintro ⟨a, ha, rfl⟩
    have e0 : tK t L (3 * P + 3 * N + 9 * a + 0) = 1 := hS.K (va_rd ha 0 _ rfl)
    have e1 : tK t L (3 * P + 3 * N + 9 * a + 1) = 44 := hS.K (va_rd ha 1 _ rfl)
    exact (rl_inv e1).2.2.mpr e0
end PLT
