/-! plain rows over tokens -/
def opR (a : Nat) (o : Nat × Nat) : List Nat := if o.1 = 21 then [a + 1] else if 18 ≤ o.1 ∧ o.1 ≤ 23 then [a + 1, a + 2] else []
def opO : Nat → RO → List Nat
  | _, [] => []
  | a, o :: l => opR a o ++ opO (a + wdR o) l
theorem opR_len {a : Nat} {o : Nat × Nat} : (opR a o).length = opN o := by
  unfold opR opN
  split
  · rfl
  · split <;> rfl
theorem opO_len : ∀ (l : RO) (a : Nat), (opO a l).length + l.length = coL l
  | [], _ => rfl
  | o :: l, a => by have := opO_len l (a + wdR o); rw [opO, coL, List.length_append, opR_len, List.length_cons]; omega
section PT
variable {t : Nat → Nat} {L q p : Nat} {K : Nat → Nat} {n x j : Nat}
def nv (t : Nat → Nat) (p : Nat) : Nat → Nat
  | 0 => 0
  | k + 1 => 10 * nv t p k + (t (p + k) - 48)
noncomputable def lnT (t : Nat → Nat) (L i : Nat) : Nat := tkE t L (tS t L i) - tS t L i
noncomputable def nvT (t : Nat → Nat) (L i : Nat) : Nat := nv t (tS t L i) (lnT t L i)
def rl (K : Nat → Nat) (j : Nat) : Nat :=
  if 6 ≤ K j ∧ K j ≤ 9 then 7
  else if 13 ≤ K j ∧ K j ≤ 15 then 11
  else if K j = 45 then (if K (j - 1) = 4 then 6 else 0)
  else if K j = 44 then
    (if K (j - 1) = 0 then 1 else if K (j - 1) = 5 then 2 else if K (j - 1) = 1 then 3 else if K (j - 1) = 2 then 4 else if K (j - 1) = 3 then 5
     else if 6 ≤ K (j - 1) ∧ K (j - 1) ≤ 8 then 8 else if K (j - 1) = 9 then 10 else if 18 ≤ K (j - 1) ∧ K (j - 1) ≤ 23 then 12
     else if 6 ≤ K (j - 2) ∧ K (j - 2) ≤ 8 then 9 else 13)
  else 0
theorem rl_0 {K : Nat → Nat} {j : Nat} (h : K j ≠ 44 ∧ K j ≠ 45 ∧ ¬ (6 ≤ K j ∧ K j ≤ 9) ∧ ¬ (13 ≤ K j ∧ K j ≤ 15)) : rl K j = 0 := by
  unfold rl; rw [if_neg h.2.2.1, if_neg h.2.2.2, if_neg h.2.1, if_neg h.1]
theorem rl_45 {K : Nat → Nat} {j : Nat} (h : K j = 45) (h' : K (j - 1) ≠ 4) : rl K j = 0 := by
  unfold rl; rw [if_neg (by omega), if_neg (by omega), if_pos h, if_neg h']
theorem rl_44 {K : Nat → Nat} {j a b : Nat} (h : K j = 44) (h1 : K (j - 1) = a) (h2 : K (j - 2) = b) : rl K j = (if a = 0 then 1 else if a = 5 then 2 else if a = 1 then 3 else if a = 2 then 4 else if a = 3 then 5
     else if 6 ≤ a ∧ a ≤ 8 then 8 else if a = 9 then 10 else if 18 ≤ a ∧ a ≤ 23 then 12 else if 6 ≤ b ∧ b ≤ 8 then 9 else 13) := by
  unfold rl; rw [if_neg (by omega), if_neg (by omega), if_neg (by omega), if_pos h, h1, h2]
theorem in_n (h : p ≤ nT t L) (hk : tK t L p < 46) : p < nT t L := by
  rcases Nat.eq_or_lt_of_le h with z | z
  · have := nT_end (t := t) (L := L); rw [← z] at this; omega
  · exact z
theorem nv_lt {p : Nat} : ∀ k, (∀ j, j < k → isD (t (p + j))) → nv t p k < 10 ^ k
  | 0, _ => Nat.one_pos
  | k + 1, h => by
    have ih := nv_lt k (fun j hj => h j (by omega))
    have := h k (by omega)
    unfold isD at this
    rw [nv, Nat.pow_succ]; omega
theorem dig {i : Nat} (hi : i < nT t L) (hk : tK t L i = 45) : lnT t L i ≤ 6 ∧ tS t L i + lnT t L i ≤ L ∧ ∀ j, j < lnT t L i → isD (t (tS t L i + j)) := by
  have hs := tS_lt hi
  rw [tK_in hi] at hk
  have he := tkE_le (t := t) hs
  unfold tkK at hk
  by_cases hd' : isD (t (tS t L i))
  · rw [if_pos hd'] at hk
    have h6 : lnT t L i ≤ 6 := by
      unfold lnT
      by_cases z : tkE t L (tS t L i) - tS t L i ≤ 6
      · exact z
      · rw [if_neg z] at hk; omega
    refine ⟨h6, by unfold lnT; omega, fun j hj => ?_⟩
    have e : tkE t L (tS t L i) = skR t L (isL (t (tS t L i))) (tS t L i) := by unfold tkE; rw [if_pos (Or.inr hd')]
    have hj' : tS t L i + j < skR t L (isL (t (tS t L i))) (tS t L i) := by rw [← e]; unfold lnT at hj; omega
    have := (sc_all (show tS t L i ≤ tS t L i + j by omega) hj').2
    rcases this with z | ⟨z, -⟩
    · exact z
    · unfold isL at z; unfold isD at hd'; omega
  · rw [if_neg hd'] at hk
    by_cases hl : isL (t (tS t L i))
    · rw [if_pos hl] at hk
      split at hk
      · have := wdK_lt (t := t) (p := tS t L i) (n := tkE t L (tS t L i) - tS t L i); omega
      · omega
    · rw [if_neg hl] at hk
      have := syK_rng (t := t) (L := L) (p := tS t L i); omega
theorem nI_m (a : Nat) : nI (a + 1) - 1 = nI a := by rw [← nI_1, Int32.add_sub_cancel]
theorem rl_44k {j : Nat} (h : K j = 44) : rl K j = (if K (j - 1) = 0 then 1 else if K (j - 1) = 5 then 2 else if K (j - 1) = 1 then 3 else if K (j - 1) = 2 then 4 else if K (j - 1) = 3 then 5
     else if 6 ≤ K (j - 1) ∧ K (j - 1) ≤ 8 then 8 else if K (j - 1) = 9 then 10 else if 18 ≤ K (j - 1) ∧ K (j - 1) ≤ 23 then 12 else if 6 ≤ K (j - 2) ∧ K (j - 2) ≤ 8 then 9 else 13) := rl_44 h rfl rfl
theorem it_eq {c : Prop} [Decidable c] {a b m : Nat} (h : (if c then a else b) = m) : (c ∧ a = m) ∨ (¬ c ∧ b = m) := by
  by_cases z : c
  · rw [if_pos z] at h; exact Or.inl ⟨z, h⟩
  · rw [if_neg z] at h; exact Or.inr ⟨z, h⟩
theorem road_rl {a : Nat} (hLS : ∀ j, j < n → LSj K j) (ha : a < n) (hk : K a = 1) : rl K (a + 1) = 3 ∧ rl K (a + 2) = 0 ∧ rl K (a + 3) = 4 ∧ rl K (a + 4) = 0 ∧ rl K (a + 5) = 5 ∧ rl K (a + 6) = 0 ∧ rl K (a + 7) = 6 := by
  obtain ⟨e1, e2, e3, e4, e5, e6, e7⟩ := (hLS a ha).2.1 hk
  refine ⟨?_, rl_0 (by omega), ?_, rl_0 (by omega), ?_, rl_0 (by omega), ?_⟩
  · rw [rl_44 e1 (show K (a + 1 - 1) = 1 from hk) rfl]; rfl
  · rw [rl_44 e3 (show K (a + 3 - 1) = 2 from e2) rfl]; rfl
  · rw [rl_44 e5 (show K (a + 5 - 1) = 3 from e4) rfl]; rfl
  · unfold rl; rw [if_neg (by omega), if_neg (by omega), if_pos e7, if_pos (show K (a + 7 - 1) = 4 from e6)]
theorem i3 {P : Prop} [Decidable P] : (if P then (3 : Int32) else 0) = nI (if P then 3 else 0) := by by_cases h : P; rw [if_pos h, if_pos h]; rfl; rw [if_neg h, if_neg h]; rfl
theorem tK_46 {t : Nat → Nat} {L p : Nat} (hp : p ≤ nT t L) (h : 46 ≤ tK t L p) : p = nT t L := by
  rcases Nat.lt_or_ge p (nT t L) with z | z
  · have := nT_in z; omega
  · omega
theorem plF_facts {t : Nat → Nat} {L p' : Nat} {os : List Ord3} (e : plF (tK t L) 400 0 = (p', some os)) : p' = nT t L ∧ tK t L (nT t L) = 46 ∧ LnOK (tK t L) (nT t L) 0 (nT t L) os := by
  have h := pl_ok (K := tK t L) (n := nT t L) nT_end 400 0 (Nat.zero_le _)
  rw [e] at h
  obtain ⟨-, h2, h3⟩ := h
  obtain ⟨h4, h5⟩ := h3 os rfl
  have hp : p' = nT t L := tK_46 h2 (by have h5' : tK t L p' = 46 := h5; omega)
  have h5' : tK t L p' = 46 := h5
  have h4' : LnOK (tK t L) (nT t L) 0 p' os := h4
  rw [hp] at h5' h4'
  exact ⟨hp, h5', h4'⟩
end PT
