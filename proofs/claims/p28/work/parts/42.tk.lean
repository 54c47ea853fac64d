/-! tokens, as functions of the tape's bytes t, of which there are L -/
noncomputable def scn (c : Nat → Prop) : Nat → Nat → Nat
  | 0, p => p
  | n + 1, p => @ite _ (c p) (Classical.propDecidable _) (scn c n (p + 1)) p
/-- the first place from p on where c does not hold -/
noncomputable def sc (c : Nat → Prop) (L p : Nat) : Nat := scn c (L - p) p
theorem sc_yes {c : Nat → Prop} {L p : Nat} (hc : c p) (hp : p < L) : sc c L p = sc c L (p + 1) := by
  unfold sc
  rw [show L - p = (L - (p + 1)) + 1 by omega, scn, if_pos hc]
theorem sc_no {c : Nat → Prop} {L p : Nat} (hc : ¬ c p) : sc c L p = p := by
  unfold sc
  cases L - p with
  | zero => rfl
  | succ n => rw [scn, if_neg hc]
theorem sc_end {c : Nat → Prop} {L p : Nat} (hp : L ≤ p) : sc c L p = p := by
  unfold sc
  rw [show L - p = 0 by omega]; rfl
theorem scn_ge {c : Nat → Prop} : ∀ n p, p ≤ scn c n p
  | 0, p => Nat.le_refl p
  | n + 1, p => by
    rw [scn]; split
    · exact Nat.le_trans (Nat.le_succ p) (scn_ge n (p + 1))
    · exact Nat.le_refl p
theorem scn_le {c : Nat → Prop} : ∀ n p, scn c n p ≤ p + n
  | 0, p => Nat.le_refl p
  | n + 1, p => by
    rw [scn]; split
    · have := scn_le (c := c) n (p + 1); omega
    · omega
theorem scn_all {c : Nat → Prop} : ∀ n p q, p ≤ q → q < scn c n p → c q
  | 0, p, q, h1, h2 => by rw [scn] at h2; omega
  | n + 1, p, q, h1, h2 => by
    rw [scn] at h2
    split at h2
    · rename_i hc
      rcases Nat.eq_or_lt_of_le h1 with rfl | h
      · exact hc
      · exact scn_all n (p + 1) q h h2
    · omega
theorem scn_not {c : Nat → Prop} : ∀ n p, scn c n p < p + n → ¬ c (scn c n p)
  | 0, p, h => by rw [scn] at h; omega
  | n + 1, p, h => by
    rw [scn] at h ⊢
    split
    · rename_i hc
      rw [if_pos hc] at h
      exact scn_not n (p + 1) (by omega)
    · rename_i hc; exact hc
theorem sc_ge {c : Nat → Prop} {L p : Nat} : p ≤ sc c L p := scn_ge _ _
theorem sc_le {c : Nat → Prop} {L p : Nat} (h : p ≤ L) : sc c L p ≤ L := by have := scn_le (c := c) (L - p) p; unfold sc; omega
theorem sc_all {c : Nat → Prop} {L p q : Nat} (h1 : p ≤ q) (h2 : q < sc c L p) : c q := scn_all _ p q h1 h2
theorem sc_not {c : Nat → Prop} {L p : Nat} (h : sc c L p < L) (hp : p ≤ L) : ¬ c (sc c L p) := by
  unfold sc at h ⊢
  exact scn_not _ _ (by omega)
def isL (b : Nat) : Prop := 97 ≤ b ∧ b ≤ 122
def isD (b : Nat) : Prop := 48 ≤ b ∧ b ≤ 57
/-- behind blanks -/
noncomputable def skB (t : Nat → Nat) (L p : Nat) : Nat := sc (fun q => q < L ∧ (t q = 32 ∨ t q = 10)) L p
/-- behind a run -/
noncomputable def skR (t : Nat → Nat) (L : Nat) (w : Prop) (p : Nat) : Nat := sc (fun q => q < L ∧ (isD (t q) ∨ (w ∧ isL (t q)))) L p
/-- the word i stands at p, and is n long -/
def ew (t : Nat → Nat) (p n i : Nat) : Prop := txL i = n ∧ ∀ j, j < n → nI (t (p + j)) = txC i j
noncomputable def wdK (t : Nat → Nat) (p n : Nat) : Nat := if sc (fun i => i < 29 ∧ ¬ ew t p n i) 29 0 = 29 then 44 else sc (fun i => i < 29 ∧ ¬ ew t p n i) 29 0
def sy1 (b : Nat) : Nat := if b = 40 then 29 else if b = 41 then 30 else if b = 91 then 31 else if b = 93 then 32 else if b = 59 then 33 else if b = 44 then 34 else if b = 43 then 35 else if b = 45 then 36 else if b = 42 then 37 else if b = 47 then 38 else if b = 60 then 39 else if b = 62 then 40 else if b = 61 then 41 else 47
/-- '<=' or '>=' begins there -/
def isLong (t : Nat → Nat) (L p : Nat) : Prop := (t p = 60 ∨ t p = 62) ∧ p + 1 < L ∧ t (p + 1) = 61
noncomputable def syK (t : Nat → Nat) (L p : Nat) : Nat := @ite _ (isLong t L p) (Classical.propDecidable _) (if t p = 60 then 42 else 43) (sy1 (t p))
noncomputable def syN (t : Nat → Nat) (L p : Nat) : Nat := @ite _ (isLong t L p) (Classical.propDecidable _) 2 (if sy1 (t p) = 47 then 0 else 1)
/-- behind the token that begins at p -/
noncomputable def tkE (t : Nat → Nat) (L p : Nat) : Nat := @ite _ (isL (t p) ∨ isD (t p)) (Classical.propDecidable _) (skR t L (isL (t p)) p) (p + syN t L p)
/-- its kind -/
noncomputable def tkK (t : Nat → Nat) (L p : Nat) : Nat :=
  @ite _ (isD (t p)) (Classical.propDecidable _) (if tkE t L p - p ≤ 6 then 45 else 47)
  (@ite _ (isL (t p)) (Classical.propDecidable _) (if tkE t L p - p ≤ 10 then wdK t p (tkE t L p - p) else 47) (syK t L p))
noncomputable def tS (t : Nat → Nat) (L : Nat) : Nat → Nat
  | 0 => skB t L 0
  | i + 1 => skB t L (tkE t L (tS t L i))
noncomputable def tK (t : Nat → Nat) (L i : Nat) : Nat := if L ≤ tS t L i then 46 else if i = 400 then 47 else tkK t L (tS t L i)
/-- how many tokens there are ahead of the last -/
noncomputable def nT (t : Nat → Nat) (L : Nat) : Nat := sc (fun i => i < 400 ∧ tK t L i < 46) 400 0
theorem wdK_lt {t : Nat → Nat} {p n : Nat} : wdK t p n < 29 ∨ wdK t p n = 44 := by
  unfold wdK
  have := sc_le (c := fun i => i < 29 ∧ ¬ ew t p n i) (L := 29) (p := 0) (by decide)
  split
  · exact Or.inr rfl
  · exact Or.inl (by omega)
theorem sy1_rng {b : Nat} : (29 ≤ sy1 b ∧ sy1 b ≤ 41) ∨ sy1 b = 47 := by
  unfold sy1
  repeat' split
  all_goals omega
theorem syK_rng {t : Nat → Nat} {L p : Nat} : (29 ≤ syK t L p ∧ syK t L p ≤ 43) ∨ syK t L p = 47 := by
  unfold syK
  split
  · split <;> omega
  · have := sy1_rng (b := t p); omega
theorem tkK_rng {t : Nat → Nat} {L p : Nat} : tkK t L p ≤ 45 ∨ tkK t L p = 47 := by
  unfold tkK
  split
  · split <;> omega
  · split
    · split
      · have := wdK_lt (t := t) (p := p) (n := tkE t L p - p); omega
      · omega
    · have := syK_rng (t := t) (L := L) (p := p); omega
theorem tK_rng {t : Nat → Nat} {L i : Nat} : tK t L i ≤ 47 := by
  unfold tK
  split
  · omega
  · split
    · omega
    · have := tkK_rng (t := t) (L := L) (p := tS t L i); omega
theorem tK_400 {t : Nat → Nat} {L : Nat} : 46 ≤ tK t L 400 := by
  unfold tK
  split
  · omega
  · rw [if_pos rfl]; omega
theorem nT_le {t : Nat → Nat} {L : Nat} : nT t L ≤ 400 := sc_le (by decide)
theorem nT_in {t : Nat → Nat} {L i : Nat} (h : i < nT t L) : tK t L i < 46 := (sc_all (Nat.zero_le i) h).2
theorem nT_end {t : Nat → Nat} {L : Nat} : 46 ≤ tK t L (nT t L) := by
  rcases Nat.lt_or_ge (nT t L) 400 with h | h
  · have := sc_not (c := fun i => i < 400 ∧ tK t L i < 46) (L := 400) (p := 0) h (by decide)
    exact Nat.le_of_not_lt (fun z => this ⟨h, z⟩)
  · have := nT_le (t := t) (L := L)
    rw [show nT t L = 400 by omega]; exact tK_400
theorem skB_ge {t : Nat → Nat} {L p : Nat} : p ≤ skB t L p := sc_ge
theorem skB_le {t : Nat → Nat} {L p : Nat} (h : p ≤ L) : skB t L p ≤ L := sc_le h
theorem skR_ge {t : Nat → Nat} {L p : Nat} {w : Prop} : p ≤ skR t L w p := sc_ge
theorem skR_le {t : Nat → Nat} {L p : Nat} {w : Prop} (h : p ≤ L) : skR t L w p ≤ L := sc_le h
theorem tkE_le {t : Nat → Nat} {L p : Nat} (h : p < L) : p ≤ tkE t L p ∧ tkE t L p ≤ L := by
  unfold tkE syN
  split
  · exact ⟨skR_ge, skR_le (by omega)⟩
  · split
    · rename_i hl
      obtain ⟨-, h2, -⟩ := hl
      omega
    · split <;> omega
/-- a token that is none of the wrong ones has bytes -/
theorem tkE_gt {t : Nat → Nat} {L p : Nat} (h : p < L) (hk : tkK t L p ≠ 47) : p < tkE t L p := by
  by_cases hw : isL (t p) ∨ isD (t p)
  · have e : tkE t L p = skR t L (isL (t p)) p := by unfold tkE; rw [if_pos hw]
    rw [e]
    unfold skR
    rw [sc_yes (p := p) ⟨h, hw.elim (fun z => Or.inr ⟨z, z⟩) Or.inl⟩ h]
    exact sc_ge
  · have e : tkE t L p = p + syN t L p := by unfold tkE; rw [if_neg hw]
    have ek : tkK t L p = syK t L p := by unfold tkK; rw [if_neg (fun z => hw (Or.inr z)), if_neg (fun z => hw (Or.inl z))]
    rw [ek] at hk
    rw [e]
    unfold syN syK at *
    by_cases hl : isLong t L p
    · rw [if_pos hl]; omega
    · rw [if_neg hl] at hk ⊢
      rw [if_neg hk]; omega
theorem tS_le {t : Nat → Nat} {L : Nat} : ∀ i, i ≤ nT t L → tS t L i ≤ L
  | 0, _ => skB_le (Nat.zero_le _)
  | i + 1, h => by
    have ih := tS_le (t := t) (L := L) i (by omega)
    have hk := nT_in (t := t) (L := L) (i := i) (by omega)
    rw [tS]
    refine skB_le ?_
    have hlt : tS t L i < L := by
      rcases Nat.lt_or_ge (tS t L i) L with z | z
      · exact z
      · unfold tK at hk; rw [if_pos z] at hk; omega
    exact (tkE_le hlt).2
theorem tS_lt {t : Nat → Nat} {L i : Nat} (h : i < nT t L) : tS t L i < L := by
  have hk := nT_in (t := t) (L := L) h
  rcases Nat.lt_or_ge (tS t L i) L with z | z
  · exact z
  · unfold tK at hk; rw [if_pos z] at hk; omega
theorem tK_in {t : Nat → Nat} {L i : Nat} (h : i < nT t L) : tK t L i = tkK t L (tS t L i) := by
  have hl := tS_lt h
  have := nT_le (t := t) (L := L)
  unfold tK
  rw [if_neg (by omega), if_neg (by omega)]
/-- a byte, as the component keeps it -/
def sb (b : Nat) : Int32 := if b < 128 then nI b else nI b - 256
theorem sb_lt {b : Nat} (h : b < 128) : sb b = nI b := if_pos h
theorem sb_all : ∀ b, b < 256 → (128 ≤ b → sb b < 0) ∧ (sb b = 32 ↔ b = 32) ∧ (sb b = 10 ↔ b = 10) := by decide +kernel
theorem sb_toInt {b : Nat} (h : b < 256) : (sb b).toInt = if b < 128 then (b : Int) else (b : Int) - 256 := by
  have : ∀ b, b < 256 → (sb b).toInt = if b < 128 then (b : Int) else (b : Int) - 256 := by decide +kernel
  exact this b h
theorem txC_rng : ∀ i, i < 46 → ∀ j, j < 14 → ∃ c, c < 128 ∧ txC i j = nI c := by
  have h : ∀ i, i < 46 → ∀ j, j < 14 → (txC i j).toNatClampNeg < 128 ∧ txC i j = nI (txC i j).toNatClampNeg := by decide +kernel
  exact fun i hi j hj => ⟨_, (h i hi j hj).1, (h i hi j hj).2⟩
theorem sb_txC {b i j : Nat} (hb : b < 256) (hi : i < 46) (hj : j < 14) : sb b = txC i j ↔ nI b = txC i j := by
  obtain ⟨c, hc, e⟩ := txC_rng i hi j hj
  rw [e]
  by_cases h : b < 128
  · rw [sb_lt h]
  · rw [nI_eq (by omega) (by omega)]
    constructor
    · intro z
      have h1 := (sb_all b hb).1 (by omega)
      rw [z] at h1
      exact absurd h1 (nI_pos (by omega))
    · intro z; omega
