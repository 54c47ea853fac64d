/-! texts as rows of tokens: (kind, which one, what stands behind) -/
abbrev TkE : Type := Nat × Nat × Nat
def tbK (k v : Nat) : List Nat := if k = 44 then [if v < 10 then 112 else if v < 20 then 110 else 114, 48 + v % 10] else if k = 45 then (if v < 10 then [48 + v] else [49, 48 + (v - 10)]) else (kTx.getD k []).map (fun x => x.toInt.toNat)
def sepB (s : Nat) : List Nat := if s = 0 then [] else if s = 1 then [32] else [10]
def tkB (x : TkE) : List Nat := tbK x.1 x.2.1 ++ sepB x.2.2
def flT : List TkE → List Nat
  | [] => []
  | x :: l => tkB x ++ flT l
theorem flT_app : ∀ l l' : List TkE, flT (l ++ l') = flT l ++ flT l'
  | [], _ => rfl
  | x :: l, l' => by rw [List.cons_append, flT, flT, flT_app l l', List.append_assoc]
def tkOK (x : TkE) : Prop := (x.1 < 44 ∧ x.2.1 = 0) ∨ (x.1 = 44 ∧ x.2.1 < 28) ∨ (x.1 = 45 ∧ x.2.1 < 20)
def isWK (k : Nat) : Prop := k < 29 ∨ k = 44 ∨ k = 45
def jnOK (x y : TkE) : Prop := x.2.2 ≠ 0 ∨ (¬ isWK x.1 ∧ y.1 ≠ 41) ∨ (isWK x.1 ∧ ¬ isWK y.1)
def tkC : TkE → List TkE → Prop
  | _, [] => True
  | x, y :: l => jnOK x y ∧ tkOK y ∧ tkC y l
theorem tb_w1 : ∀ k, k < 29 → (1 ≤ (tbK k 0).length ∧ (tbK k 0).length ≤ 10) ∧ (97 ≤ (tbK k 0).getD 0 0 ∧ (tbK k 0).getD 0 0 ≤ 122) ∧ (∀ j, j < (tbK k 0).length → 97 ≤ (tbK k 0).getD j 0 ∧ (tbK k 0).getD j 0 ≤ 122) ∧ ∀ i, i < 29 → (kTx.getD i [] = (tbK k 0).map nI ↔ i = k) := by decide +kernel
theorem tb_w2 : ∀ v, v < 28 → (1 ≤ (tbK 44 v).length ∧ (tbK 44 v).length ≤ 10) ∧ (97 ≤ (tbK 44 v).getD 0 0 ∧ (tbK 44 v).getD 0 0 ≤ 122) ∧ (∀ j, j < (tbK 44 v).length → (97 ≤ (tbK 44 v).getD j 0 ∧ (tbK 44 v).getD j 0 ≤ 122) ∨ (48 ≤ (tbK 44 v).getD j 0 ∧ (tbK 44 v).getD j 0 ≤ 57)) ∧ ∀ i, i < 29 → ¬ kTx.getD i [] = (tbK 44 v).map nI := by decide +kernel
theorem tb_n : ∀ v, v < 20 → (1 ≤ (tbK 45 v).length ∧ (tbK 45 v).length ≤ 6) ∧ ∀ j, j < (tbK 45 v).length → 48 ≤ (tbK 45 v).getD j 0 ∧ (tbK 45 v).getD j 0 ≤ 57 := by decide +kernel
theorem tb_s : ∀ k, k < 42 → 29 ≤ k → (tbK k 0).length = 1 ∧ sy1 ((tbK k 0).getD 0 0) = k ∧ ¬ (97 ≤ (tbK k 0).getD 0 0 ∧ (tbK k 0).getD 0 0 ≤ 122) ∧ ¬ (48 ≤ (tbK k 0).getD 0 0 ∧ (tbK k 0).getD 0 0 ≤ 57) ∧ (tbK k 0).getD 0 0 ≠ 32 ∧ (tbK k 0).getD 0 0 ≠ 10 ∧ ((tbK k 0).getD 0 0 = 61 → k = 41) := by decide +kernel
theorem sc_run {c : Nat → Prop} {L : Nat} : ∀ n p, (∀ j, j < n → c (p + j)) → p + n ≤ L → (p + n < L → ¬ c (p + n)) → sc c L p = p + n
  | 0, p, _, h2, h3 => by
    rcases Nat.eq_or_lt_of_le h2 with z | z
    · exact sc_end (by omega)
    · exact sc_no (h3 z)
  | n + 1, p, h1, h2, h3 => by
    rw [sc_yes (show c p from h1 0 (by omega)) (by omega), sc_run n (p + 1) (fun j hj => by rw [show p + 1 + j = p + (j + 1) by omega]; exact h1 (j + 1) (by omega)) (by omega) (fun z => by rw [show p + 1 + n = p + (n + 1) by omega]; exact h3 (by omega))]
    omega
section LX
variable {t : Nat → Nat} {L p k v : Nat} {w : List Nat}
theorem ew_iff {i : Nat} (hw : ∀ j, j < w.length → t (p + j) = w.getD j 0) : ew t p w.length i ↔ kTx.getD i [] = w.map nI := by
  constructor
  · rintro ⟨h1, h2⟩
    refine List.ext_getElem? (fun j => ?_)
    rcases Nat.lt_or_ge j w.length with hj | hj
    · have := h2 j hj
      have h1' : (kTx.getD i []).length = w.length := h1
      rw [hw j hj, List.getD_eq_getElem?_getD] at this
      unfold txC at this
      rw [List.getD_eq_getElem?_getD] at this
      rw [List.getElem?_map]
      rw [List.getElem?_eq_getElem (show j < (kTx.getD i []).length by omega)] at this ⊢
      rw [List.getElem?_eq_getElem hj] at this ⊢
      exact congrArg some this.symm
    · have h1' : (kTx.getD i []).length = w.length := h1
      rw [List.getElem?_eq_none (show (kTx.getD i []).length ≤ j by omega), List.getElem?_eq_none (by rw [List.length_map]; exact hj)]
  · intro h
    refine ⟨?_, fun j hj => ?_⟩
    · show (kTx.getD i []).length = w.length
      rw [h, List.length_map]
    · unfold txC
      rw [h, hw j hj, List.getD_eq_getElem?_getD, List.getD_eq_getElem?_getD, List.getElem?_map, List.getElem?_eq_getElem hj]; rfl
theorem tk_w (hw : ∀ j, j < w.length → t (p + j) = w.getD j 0) (hl : 1 ≤ w.length ∧ w.length ≤ 10) (h0 : isL (w.getD 0 0)) (ha : ∀ j, j < w.length → isL (w.getD j 0) ∨ isD (w.getD j 0)) (hL : p + w.length ≤ L) (hn : p + w.length < L → ¬ isL (t (p + w.length)) ∧ ¬ isD (t (p + w.length)))
    (hk : (k < 29 ∧ ∀ i, i < 29 → (kTx.getD i [] = w.map nI ↔ i = k)) ∨ (k = 44 ∧ ∀ i, i < 29 → ¬ kTx.getD i [] = w.map nI)) : tkE t L p = p + w.length ∧ tkK t L p = k := by
  have hp : isL (t p) := by have := hw 0 (by omega); rw [Nat.add_zero] at this; rw [this]; exact h0
  have hE : tkE t L p = p + w.length := by
    unfold tkE
    rw [if_pos (Or.inl hp)]
    unfold skR
    refine sc_run w.length p (fun j hj => ⟨by omega, ?_⟩) hL (fun z => ?_)
    · rw [hw j hj]; exact (ha j hj).elim (fun z => Or.inr ⟨hp, z⟩) Or.inl
    · obtain ⟨a, b⟩ := hn z
      rintro ⟨-, y⟩
      exact y.elim b (fun y => a y.2)
  refine ⟨hE, ?_⟩
  have nd : ¬ isD (t p) := by unfold isL at hp; unfold isD; omega
  unfold tkK
  rw [if_neg nd, if_pos hp, hE, show p + w.length - p = w.length by omega, if_pos hl.2]
  unfold wdK
  rcases hk with ⟨hk, hi⟩ | ⟨rfl, hi⟩
  · have e : sc (fun i => i < 29 ∧ ¬ ew t p w.length i) 29 0 = k := by
      have := sc_run (c := fun i => i < 29 ∧ ¬ ew t p w.length i) (L := 29) k 0 (fun j hj => ⟨by omega, fun z => by have := (hi _ (by omega)).mp ((ew_iff hw).mp z); omega⟩) (by omega) (fun _ z => z.2 ((ew_iff hw).mpr ((hi _ (by omega)).mpr (Nat.zero_add k))))
      rw [this, Nat.zero_add]
    rw [e, if_neg (by omega)]
  · have e : sc (fun i => i < 29 ∧ ¬ ew t p w.length i) 29 0 = 29 := by
      have := sc_run (c := fun i => i < 29 ∧ ¬ ew t p w.length i) (L := 29) 29 0 (fun j hj => ⟨by omega, fun z => hi _ (by omega) ((ew_iff hw).mp z)⟩) (by omega) (fun z => by omega)
      rw [this]
    rw [e, if_pos rfl]
theorem tk_n (hw : ∀ j, j < w.length → t (p + j) = w.getD j 0) (hl : 1 ≤ w.length ∧ w.length ≤ 6) (ha : ∀ j, j < w.length → isD (w.getD j 0)) (hL : p + w.length ≤ L) (hn : p + w.length < L → ¬ isD (t (p + w.length))) : tkE t L p = p + w.length ∧ tkK t L p = 45 := by
  have hp : isD (t p) := by have := hw 0 (by omega); rw [Nat.add_zero] at this; rw [this]; exact ha 0 (by omega)
  have nl : ¬ isL (t p) := by unfold isD at hp; unfold isL; omega
  have hE : tkE t L p = p + w.length := by
    unfold tkE
    rw [if_pos (Or.inr hp)]
    unfold skR
    refine sc_run w.length p (fun j hj => ⟨by omega, ?_⟩) hL (fun z => ?_)
    · rw [hw j hj]; exact Or.inl (ha j hj)
    · rintro ⟨-, y⟩
      exact y.elim (hn z) (fun y => nl y.1)
  refine ⟨hE, ?_⟩
  unfold tkK
  rw [if_pos hp, hE, show p + w.length - p = w.length by omega, if_pos hl.2]
theorem tk_s (hL : p < L) (hk : 29 ≤ k ∧ k < 42) (hp : t p = (tbK k 0).getD 0 0) (hn : p + 1 < L → t (p + 1) ≠ 61) : tkE t L p = p + 1 ∧ tkK t L p = k := by
  obtain ⟨-, a2, a3, a4, -⟩ := tb_s k hk.2 hk.1
  rw [← hp] at a2 a3 a4
  have nl : ¬ isLong t L p := fun z => hn z.2.1 z.2.2
  have n1 : ¬ isL (t p) := a3
  have n2 : ¬ isD (t p) := a4
  refine ⟨?_, ?_⟩
  · unfold tkE syN
    rw [if_neg (fun z => z.elim n1 n2), if_neg nl, a2, if_neg (by omega)]
  · unfold tkK syK
    rw [if_neg n2, if_neg n1, if_neg nl, a2]
theorem tk_s2 (hL : p + 1 < L) (hk : k = 42 ∨ k = 43) (hp : t p = if k = 42 then 60 else 62) (hn : t (p + 1) = 61) : tkE t L p = p + 2 ∧ tkK t L p = k := by
  have hl : isLong t L p := ⟨by rw [hp]; split <;> simp, hL, hn⟩
  have n1 : ¬ isL (t p) := by unfold isL; rw [hp]; split <;> omega
  have n2 : ¬ isD (t p) := by unfold isD; rw [hp]; split <;> omega
  refine ⟨?_, ?_⟩
  · unfold tkE syN
    rw [if_neg (fun z => z.elim n1 n2), if_pos hl]
  · unfold tkK syK
    rw [if_neg n2, if_neg n1, if_pos hl, hp]
    rcases hk with rfl | rfl <;> decide
/-- one token -/
theorem tk_one {x : TkE} (hx : tkOK x) (hw : ∀ j, j < (tbK x.1 x.2.1).length → t (p + j) = (tbK x.1 x.2.1).getD j 0) (hL : p + (tbK x.1 x.2.1).length ≤ L)
    (hn : p + (tbK x.1 x.2.1).length < L → (isWK x.1 → ¬ isL (t (p + (tbK x.1 x.2.1).length)) ∧ ¬ isD (t (p + (tbK x.1 x.2.1).length))) ∧ (¬ isWK x.1 → t (p + (tbK x.1 x.2.1).length) ≠ 61)) :
    tkE t L p = p + (tbK x.1 x.2.1).length ∧ tkK t L p = x.1 := by
  obtain ⟨k, v, s⟩ := x
  show tkE t L p = p + (tbK k v).length ∧ tkK t L p = k
  rcases hx with ⟨a, b⟩ | ⟨a, b⟩ | ⟨a, b⟩
  · have b' : v = 0 := b
    have a' : k < 44 := a
    subst b'
    by_cases hk : k < 29
    · obtain ⟨h1, h2, h3, h4⟩ := tb_w1 k hk
      exact tk_w hw h1 h2 (fun j hj => Or.inl (h3 j hj)) hL (fun z => (hn z).1 (Or.inl hk)) (Or.inl ⟨hk, h4⟩)
    · have nw : ¬ isWK k := by unfold isWK; omega
      by_cases h42 : k < 42
      · obtain ⟨h1, -⟩ := tb_s k h42 (by omega)
        have hn' := fun z => (hn z).2 nw
        have hw0 := hw 0 (by show 0 < (tbK k 0).length; omega)
        have hL' : p + (tbK k 0).length ≤ L := hL
        have hn2 : p + (tbK k 0).length < L → t (p + (tbK k 0).length) ≠ 61 := hn'
        rw [h1] at hL' hn2 ⊢
        exact tk_s (by omega) ⟨by omega, h42⟩ hw0 hn2
      · have hk2 : k = 42 ∨ k = 43 := by omega
        rcases hk2 with rfl | rfl
        · exact tk_s2 (by have : p + 2 ≤ L := hL; omega) (Or.inl rfl) (hw 0 (show 0 < (tbK 42 0).length by decide)) (hw 1 (show 1 < (tbK 42 0).length by decide))
        · exact tk_s2 (by have : p + 2 ≤ L := hL; omega) (Or.inr rfl) (hw 0 (show 0 < (tbK 43 0).length by decide)) (hw 1 (show 1 < (tbK 43 0).length by decide))
  · have a' : k = 44 := a
    subst a'
    obtain ⟨h1, h2, h3, h4⟩ := tb_w2 v b
    exact tk_w hw h1 h2 h3 hL (fun z => (hn z).1 (Or.inr (Or.inl rfl))) (Or.inr ⟨rfl, h4⟩)
  · have a' : k = 45 := a
    subst a'
    obtain ⟨h1, h2⟩ := tb_n v b
    exact tk_n hw h1 h2 hL (fun z => ((hn z).1 (Or.inr (Or.inr rfl))).2)
/-- how a token begins -/
theorem tb_first {x : TkE} (hx : tkOK x) : 1 ≤ (tbK x.1 x.2.1).length ∧ (tbK x.1 x.2.1).getD 0 0 ≠ 32 ∧ (tbK x.1 x.2.1).getD 0 0 ≠ 10 ∧ ((tbK x.1 x.2.1).getD 0 0 = 61 → x.1 = 41) ∧ (¬ isWK x.1 → ¬ isL ((tbK x.1 x.2.1).getD 0 0) ∧ ¬ isD ((tbK x.1 x.2.1).getD 0 0)) := by
  obtain ⟨k, v, s⟩ := x
  show 1 ≤ (tbK k v).length ∧ (tbK k v).getD 0 0 ≠ 32 ∧ (tbK k v).getD 0 0 ≠ 10 ∧ ((tbK k v).getD 0 0 = 61 → k = 41) ∧ (¬ isWK k → ¬ isL ((tbK k v).getD 0 0) ∧ ¬ isD ((tbK k v).getD 0 0))
  rcases hx with ⟨a, b⟩ | ⟨a, b⟩ | ⟨a, b⟩
  · have b' : v = 0 := b
    have a' : k < 44 := a
    subst b'
    by_cases hk : k < 29
    · obtain ⟨h1, h2, -, -⟩ := tb_w1 k hk
      exact ⟨h1.1, by omega, by omega, by omega, fun z => absurd (Or.inl hk) z⟩
    · by_cases h42 : k < 42
      · obtain ⟨h1, -, h3, h4, h5, h6, h7⟩ := tb_s k h42 (by omega)
        exact ⟨by omega, h5, h6, h7, fun _ => ⟨h3, h4⟩⟩
      · have hk2 : k = 42 ∨ k = 43 := by omega
        rcases hk2 with rfl | rfl <;> exact ⟨by decide, by decide, by decide, by decide, fun _ => ⟨by unfold isL; decide, by unfold isD; decide⟩⟩
  · have a' : k = 44 := a
    subst a'
    obtain ⟨h1, h2, -, -⟩ := tb_w2 v b
    exact ⟨h1.1, by omega, by omega, by omega, fun z => absurd (Or.inr (Or.inl rfl)) z⟩
  · have a' : k = 45 := a
    subst a'
    obtain ⟨h1, h2⟩ := tb_n v b
    have := h2 0 (by omega)
    exact ⟨h1.1, by omega, by omega, by omega, fun z => absurd (Or.inr (Or.inr rfl)) z⟩
theorem gD_app1 {a b : List Nat} {j : Nat} (h : j < a.length) : (a ++ b).getD j 0 = a.getD j 0 := by
  rw [List.getD_eq_getElem?_getD, List.getD_eq_getElem?_getD, List.getElem?_append_left h]
theorem gD_app2 {a b : List Nat} {j : Nat} : (a ++ b).getD (a.length + j) 0 = b.getD j 0 := by
  rw [List.getD_eq_getElem?_getD, List.getD_eq_getElem?_getD, List.getElem?_append_right (by omega), show a.length + j - a.length = j by omega]
/-- what is known of the n-th token -/
def TKn (t : Nat → Nat) (L i : Nat) (x : TkE) : Prop := tS t L i < L ∧ tkK t L (tS t L i) = x.1 ∧ lnT t L i = (tbK x.1 x.2.1).length ∧ ∀ k, k < (tbK x.1 x.2.1).length → t (tS t L i + k) = (tbK x.1 x.2.1).getD k 0
theorem lex_go : ∀ (l : List TkE) (x : TkE) (p i : Nat), tkC x l → p + (flT l).length = L → (∀ j, j < (flT l).length → t (p + j) = (flT l).getD j 0) → tS t L i = p → (∀ n, n < l.length → TKn t L (i + n) (l.getD n (0, 0, 0))) ∧ tS t L (i + l.length) = L
  | [], x, p, i, _, hL, _, hS => ⟨fun n hn => absurd hn (Nat.not_lt_zero _), hS.trans hL⟩
  | y :: l, x, p, i, hc, hL, ht, hS => by
    obtain ⟨-, ok, hc2⟩ := hc
    obtain ⟨f1, -⟩ := tb_first ok
    have hlen : (flT (y :: l)).length = (tbK y.1 y.2.1).length + (sepB y.2.2).length + (flT l).length := by
      show (tkB y ++ flT l).length = _
      rw [List.length_append]; unfold tkB; rw [List.length_append]
    have hT : ∀ j, j < (tbK y.1 y.2.1).length → t (p + j) = (tbK y.1 y.2.1).getD j 0 := fun j hj => by
      rw [ht j (by omega)]
      show ((tbK y.1 y.2.1 ++ sepB y.2.2) ++ flT l).getD j 0 = _
      rw [List.append_assoc, gD_app1 hj]
    have hR : ∀ j, j < (sepB y.2.2).length + (flT l).length → t (p + (tbK y.1 y.2.1).length + j) = (sepB y.2.2 ++ flT l).getD j 0 := fun j hj => by
      rw [Nat.add_assoc, ht _ (by omega)]
      show ((tbK y.1 y.2.1 ++ sepB y.2.2) ++ flT l).getD _ 0 = _
      rw [List.append_assoc, gD_app2]
    have hR2 : ∀ j, j < (flT l).length → t (p + (tbK y.1 y.2.1).length + (sepB y.2.2).length + j) = (flT l).getD j 0 := fun j hj => by
      rw [Nat.add_assoc _ (sepB y.2.2).length j, hR _ (by omega), gD_app2]
    -- what begins the rest
    have hnx : (flT l).length ≠ 0 → ∃ z l', l = z :: l' ∧ jnOK y z ∧ tkOK z ∧ t (p + (tbK y.1 y.2.1).length + (sepB y.2.2).length) = (tbK z.1 z.2.1).getD 0 0 := fun h => by
      match l, hc2, hR2, h with
      | [], _, _, h => exact absurd rfl h
      | z :: l', hc2, hR2, h =>
        obtain ⟨j1, ok', -⟩ := hc2
        obtain ⟨g1, -⟩ := tb_first ok'
        refine ⟨z, l', rfl, j1, ok', ?_⟩
        have := hR2 0 (by omega)
        rw [Nat.add_zero] at this
        rw [this]
        show ((tbK z.1 z.2.1 ++ sepB z.2.2) ++ flT l').getD 0 0 = _
        rw [List.append_assoc, gD_app1 g1]
    have hsl : (sepB y.2.2).length = if y.2.2 = 0 then 0 else 1 := by
      unfold sepB
      by_cases z : y.2.2 = 0
      · rw [if_pos z, if_pos z]; rfl
      · rw [if_neg z, if_neg z]; split <;> rfl
    have hsb : y.2.2 ≠ 0 → t (p + (tbK y.1 y.2.1).length) = 32 ∨ t (p + (tbK y.1 y.2.1).length) = 10 := fun z => by
      rw [if_neg z] at hsl
      have := hR 0 (by omega)
      rw [Nat.add_zero] at this
      rw [this, gD_app1 (by omega)]
      unfold sepB
      rw [if_neg z]
      split
      · exact Or.inl rfl
      · exact Or.inr rfl
    obtain ⟨e1, e2⟩ := tk_one (t := t) (L := L) (p := p) ok hT (by omega) (fun z => by
      by_cases hs : y.2.2 = 0
      · rw [if_pos hs] at hsl
        obtain ⟨z2, l', -, j1, ok', e⟩ := hnx (by omega)
        rw [hsl, Nat.add_zero] at e
        obtain ⟨-, -, -, g4, g5⟩ := tb_first ok'
        rw [e]
        refine ⟨fun u => ?_, fun u w => ?_⟩
        · rcases j1 with j1 | j1 | j1
          · exact absurd hs j1
          · exact absurd u j1.1
          · exact g5 j1.2
        · rcases j1 with j1 | j1 | j1
          · exact absurd hs j1
          · exact j1.2 (g4 w)
          · exact absurd j1.1 u
      · have := hsb hs
        unfold isL isD
        exact ⟨fun _ => by omega, fun _ => by omega⟩)
    have e3 : tS t L (i + 1) = p + (tbK y.1 y.2.1).length + (sepB y.2.2).length := by
      show skB t L (tkE t L (tS t L i)) = _
      rw [hS, e1]
      unfold skB
      refine sc_run _ _ (fun j hj => ?_) (by omega) (fun z => ?_)
      · by_cases hs : y.2.2 = 0
        · rw [if_pos hs] at hsl; omega
        · rw [if_neg hs] at hsl
          rw [show j = 0 by omega, Nat.add_zero]
          exact ⟨by omega, hsb hs⟩
      · obtain ⟨z2, l', -, j1, ok', e⟩ := hnx (by omega)
        obtain ⟨-, g2, g3, -⟩ := tb_first ok'
        rintro ⟨-, u⟩
        rw [e] at u
        omega
    obtain ⟨q1, q2⟩ := lex_go l y _ (i + 1) hc2 (by omega) hR2 e3
    refine ⟨fun n hn => ?_, by rw [List.length_cons, show i + (l.length + 1) = i + 1 + l.length by omega]; exact q2⟩
    match n, hn with
    | 0, _ => exact ⟨by show tS t L (i + 0) < L; rw [Nat.add_zero, hS]; omega, by rw [Nat.add_zero, hS]; exact e2, by unfold lnT; rw [Nat.add_zero, hS, e1]; show _ = (tbK y.1 y.2.1).length; omega, fun k hk => by rw [Nat.add_zero, hS]; exact hT k hk⟩
    | n + 1, hn =>
      rw [show i + (n + 1) = i + 1 + n by omega, List.getD_cons_succ]
      exact q1 n (by rw [List.length_cons] at hn; omega)
end LX
