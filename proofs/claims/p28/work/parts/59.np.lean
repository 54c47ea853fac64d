/-! names: what they mean, and what is wrong with them -/
theorem i64_toInt {n : Nat} (h : n < 2 ^ 63) : (Int64.ofNat n).toInt = n := Int64.toInt_ofNat_of_lt h
theorem i64_inj {a b : Nat} (ha : a < 2 ^ 63) (hb : b < 2 ^ 63) (h : Int64.ofNat a = Int64.ofNat b) : a = b := by
  have := congrArg Int64.toInt h
  rw [i64_toInt ha, i64_toInt hb] at this
  omega
/-- what a letter or a digit counts in a name -/
def cvb (b : Nat) : Nat := if 97 ≤ b ∧ b ≤ 122 then b - 96 else b - 21
def isW (b : Nat) : Prop := isL b ∨ isD b
theorem cvb_rng {b : Nat} (h : isW b) : 1 ≤ cvb b ∧ cvb b ≤ 36 := by
  unfold isW isL isD at h
  unfold cvb
  split <;> omega
theorem cvb_inj {a b : Nat} (ha : isW a) (hb : isW b) (h : cvb a = cvb b) : a = b := by
  unfold isW isL isD at ha hb
  unfold cvb at h
  split at h <;> split at h <;> omega
def wN (t : Nat → Nat) (p : Nat) : Nat → Nat
  | 0 => 0
  | m + 1 => wN t p m * 37 + cvb (t (p + m))
theorem wN_lt {t : Nat → Nat} {p : Nat} : ∀ m, (∀ j, j < m → isW (t (p + j))) → wN t p m < 37 ^ m
  | 0, _ => Nat.one_pos
  | m + 1, h => by
    have ih := wN_lt m (fun j hj => h j (by omega))
    have := cvb_rng (h m (by omega))
    rw [wN, Nat.pow_succ]; omega
/-- a name's worth tells the name -/
theorem wN_inj {t : Nat → Nat} {p p' : Nat} : ∀ m m', (∀ j, j < m → isW (t (p + j))) → (∀ j, j < m' → isW (t (p' + j))) → wN t p m = wN t p' m' → m = m' ∧ ∀ j, j < m → t (p + j) = t (p' + j)
  | 0, 0, _, _, _ => ⟨rfl, fun j hj => absurd hj (Nat.not_lt_zero _)⟩
  | 0, m' + 1, _, h', e => by
    have := cvb_rng (h' m' (by omega))
    rw [wN, wN] at e; omega
  | m + 1, 0, h, _, e => by
    have := cvb_rng (h m (by omega))
    rw [wN, wN] at e; omega
  | m + 1, m' + 1, h, h', e => by
    have c1 := cvb_rng (h m (by omega))
    have c2 := cvb_rng (h' m' (by omega))
    rw [wN, wN] at e
    have e1 : wN t p m = wN t p' m' := by omega
    have e2 : cvb (t (p + m)) = cvb (t (p' + m')) := by omega
    obtain ⟨i1, i2⟩ := wN_inj m m' (fun j hj => h j (by omega)) (fun j hj => h' j (by omega)) e1
    refine ⟨by omega, fun j hj => ?_⟩
    rcases Nat.lt_or_ge j m with z | z
    · exact i2 j z
    · rw [show j = m by omega, cvb_inj (h m (by omega)) (h' m' (by omega)) e2, i1]
theorem nw_b : ∀ b, b < 128 → (97 ≤ b ∧ b ≤ 122 → (sb b - 97 + 1).toInt64 = Int64.ofNat (b - 96)) ∧ (48 ≤ b ∧ b ≤ 57 → (sb b - 48 + 27).toInt64 = Int64.ofNat (b - 21)) := by decide +kernel
theorem nm_b : ∀ b, b < 128 → (48 ≤ b ∧ b ≤ 57 → (sb b - 48).toInt64 = Int64.ofNat (b - 48)) := by decide +kernel
theorem nwW_eq {t : Nat → Nat} {p : Nat} : ∀ m, (∀ j, j < m → isW (t (p + j))) → nwW t p m = Int64.ofNat (wN t p m)
  | 0, _ => rfl
  | m + 1, h => by
    have ih := nwW_eq m (fun j hj => h j (by omega))
    have hb := h m (by omega)
    have hb' := hb
    unfold isW isL isD at hb'
    rw [nwW, wN, ih, Int64.ofNat_add, Int64.ofNat_mul]
    congr 1
    by_cases hl : isL (t (p + m))
    · rw [if_pos hl, (nw_b _ (by omega)).1 hl]
      unfold cvb; rw [if_pos (show 97 ≤ t (p + m) ∧ t (p + m) ≤ 122 from hl)]
    · rw [if_neg hl]
      have hd' : isD (t (p + m)) := hb.elim (fun z => absurd z hl) id
      rw [(nw_b _ (by unfold isD at hd'; omega)).2 hd']
      unfold cvb; rw [if_neg (show ¬ (97 ≤ t (p + m) ∧ t (p + m) ≤ 122) from hl)]
theorem nmW_eq {t : Nat → Nat} {p : Nat} : ∀ m, (∀ j, j < m → isD (t (p + j))) → nmW t p m = Int64.ofNat (nv t p m)
  | 0, _ => rfl
  | m + 1, h => by
    have ih := nmW_eq m (fun j hj => h j (by omega))
    have hb := h m (by omega)
    rw [nmW, nv, ih, Nat.mul_comm 10, Int64.ofNat_add, Int64.ofNat_mul]
    congr 1
    exact nm_b _ (by unfold isD at hb; omega) hb
/-- a name has at most ten letters and digits -/
theorem nam {t : Nat → Nat} {L i : Nat} (hi : i < nT t L) (hk : tK t L i = 44) : lnT t L i ≤ 10 ∧ tS t L i + lnT t L i ≤ L ∧ ∀ j, j < lnT t L i → isW (t (tS t L i + j)) := by
  have hs := tS_lt hi
  rw [tK_in hi] at hk
  have he := tkE_le (t := t) hs
  unfold tkK at hk
  by_cases hd' : isD (t (tS t L i))
  · rw [if_pos hd'] at hk; split at hk <;> omega
  · rw [if_neg hd'] at hk
    by_cases hl : isL (t (tS t L i))
    · rw [if_pos hl] at hk
      have h10 : lnT t L i ≤ 10 := by
        unfold lnT
        by_cases z : tkE t L (tS t L i) - tS t L i ≤ 10
        · exact z
        · rw [if_neg z] at hk; omega
      refine ⟨h10, by unfold lnT; omega, fun j hj => ?_⟩
      have e : tkE t L (tS t L i) = skR t L (isL (t (tS t L i))) (tS t L i) := by unfold tkE; rw [if_pos (Or.inl hl)]
      have hj' : tS t L i + j < skR t L (isL (t (tS t L i))) (tS t L i) := by rw [← e]; unfold lnT at hj; omega
      have := (sc_all (show tS t L i ≤ tS t L i + j by omega) hj').2
      exact this.elim Or.inr (fun z => Or.inl z.2)
    · rw [if_neg hl] at hk
      have := syK_rng (t := t) (L := L) (p := tS t L i); omega
/-- two tokens with one name -/
def sm (t : Nat → Nat) (L i j : Nat) : Prop := lnT t L i = lnT t L j ∧ ∀ k, k < lnT t L i → t (tS t L i + k) = t (tS t L j + k)
noncomputable def wT (t : Nat → Nat) (L i : Nat) : Int64 := nwW t (tS t L i) (lnT t L i)
theorem wN_congr {t : Nat → Nat} {p p' : Nat} : ∀ m, (∀ j, j < m → t (p + j) = t (p' + j)) → wN t p m = wN t p' m
  | 0, _ => rfl
  | m + 1, h => by rw [wN, wN, wN_congr m (fun j hj => h j (by omega)), h m (by omega)]
theorem wT_eq {t : Nat → Nat} {L i j : Nat} (hi : i < nT t L) (hj : j < nT t L) (ki : tK t L i = 44) (kj : tK t L j = 44) : wT t L i = wT t L j ↔ sm t L i j := by
  obtain ⟨a1, a2, a3⟩ := nam hi ki
  obtain ⟨b1, b2, b3⟩ := nam hj kj
  unfold wT
  rw [nwW_eq _ a3, nwW_eq _ b3]
  have l1 := wN_lt _ a3
  have l2 := wN_lt _ b3
  have p1 : 37 ^ lnT t L i ≤ 37 ^ 10 := Nat.pow_le_pow_right (by decide) a1
  have p2 : 37 ^ lnT t L j ≤ 37 ^ 10 := Nat.pow_le_pow_right (by decide) b1
  have p3 : 37 ^ 10 < 2 ^ 63 := by decide
  constructor
  · intro h
    exact wN_inj _ _ a3 b3 (i64_inj (by omega) (by omega) h)
  · rintro ⟨h1, h2⟩
    rw [← h1, wN_congr _ h2]
/-- how many of the role r there are ahead of i -/
noncomputable def cn (K : Nat → Nat) (r : Nat) : Nat → Nat
  | 0 => 0
  | i + 1 => cn K r i + (if rl K i = r then 1 else 0)
/-- the place (and one) of the name x among those of the role r ahead of i; 0 if there is none -/
noncomputable def plc (t : Nat → Nat) (L r x : Nat) : Nat → Nat
  | 0 => 0
  | i + 1 => if plc t L r x i ≠ 0 then plc t L r x i else @ite _ (rl (tK t L) i = r ∧ sm t L i x) (Classical.propDecidable _) (cn (tK t L) r i + 1) 0
theorem cn_mono {K : Nat → Nat} {r i j : Nat} (h : i ≤ j) : cn K r i ≤ cn K r j := by
  obtain ⟨c, rfl⟩ := Nat.exists_eq_add_of_le h
  clear h
  induction c with
  | zero => exact Nat.le_refl _
  | succ c ih => rw [show i + (c + 1) = (i + c) + 1 by omega, cn]; omega
theorem cn_lt {K : Nat → Nat} {r i j : Nat} (h : i < j) (hr : rl K i = r) : cn K r i < cn K r j := by
  have h1 := cn_mono (K := K) (r := r) (show i + 1 ≤ j by omega)
  rw [cn, if_pos hr] at h1; omega
theorem cn_at {K : Nat → Nat} {r : Nat} : ∀ j c, c < cn K r j → ∃ i, i < j ∧ rl K i = r ∧ cn K r i = c
  | 0, c, h => absurd h (Nat.not_lt_zero _)
  | j + 1, c, h => by
    rw [cn] at h
    rcases Nat.lt_or_ge c (cn K r j) with z | z
    · obtain ⟨i, a, b, e⟩ := cn_at j c z
      exact ⟨i, by omega, b, e⟩
    · by_cases hr : rl K j = r
      · rw [if_pos hr] at h
        exact ⟨j, by omega, hr, by omega⟩
      · rw [if_neg hr] at h; omega
section PLC
variable {t : Nat → Nat} {L r x : Nat}
theorem plc_le : ∀ i, plc t L r x i ≤ cn (tK t L) r i
  | 0 => Nat.le_refl _
  | i + 1 => by
    have ih := plc_le i
    have h1 := cn_mono (K := tK t L) (r := r) (Nat.le_succ i)
    rw [plc]
    split
    · exact Nat.le_trans ih h1
    · split
      · rename_i h; rw [cn, if_pos h.1]; omega
      · exact Nat.zero_le _
theorem plc_0 : ∀ i, (plc t L r x i = 0 ↔ ∀ k, k < i → rl (tK t L) k = r → ¬ sm t L k x)
  | 0 => ⟨fun _ k hk => absurd hk (Nat.not_lt_zero _), fun _ => rfl⟩
  | i + 1 => by
    have ih := plc_0 i
    rw [plc]
    constructor
    · intro h k hk hr hs
      by_cases z : plc t L r x i ≠ 0
      · rw [if_pos z] at h; exact z h
      · rw [if_neg z] at h
        rcases Nat.lt_or_ge k i with y | y
        · exact ih.mp (Classical.not_not.mp z) k y hr hs
        · rw [show k = i by omega] at hr hs
          rw [if_pos ⟨hr, hs⟩] at h; omega
    · intro h
      have z : plc t L r x i = 0 := ih.mpr (fun k hk => h k (by omega))
      rw [if_neg (fun y => y z), if_neg (fun y => h i (by omega) y.1 y.2)]
theorem plc_s : ∀ i k, k < i → rl (tK t L) k = r → sm t L k x → (∀ k', k' < k → rl (tK t L) k' = r → ¬ sm t L k' x) → plc t L r x i = cn (tK t L) r k + 1
  | 0, k, hk, _, _, _ => absurd hk (Nat.not_lt_zero _)
  | i + 1, k, hk, hr, hs, hf => by
    rw [plc]
    rcases Nat.lt_or_ge k i with y | y
    · have ih := plc_s i k y hr hs hf
      rw [if_pos (by omega), ih]
    · have e : k = i := by omega
      subst e
      have z : plc t L r x k = 0 := (plc_0 k).mpr hf
      rw [if_neg (fun w => w z), if_pos ⟨hr, hs⟩]
end PLC
/-- the error at the token j, 0 for none -/
noncomputable def ern (t : Nat → Nat) (L j : Nat) : Nat :=
  let K := tK t L
  let r := rl K j
  if r = 1 ∨ r = 2 ∨ r = 3 then (if plc t L r j j ≠ 0 then 2 else if cn K r j = (if r = 1 then 5 else if r = 2 then 6 else 8) then 4 else 0)
  else if r = 4 ∨ r = 8 ∨ r = 12 then (if plc t L 1 j j = 0 then 3 else 0)
  else if r = 5 then (if plc t L 1 j j = 0 then 3 else if plc t L 1 j j = plc t L 1 (j - 2) (j - 2) then 5 else 0)
  else if r = 6 then (if 1 ≤ nvT t L j ∧ nvT t L j ≤ 9 then 0 else 5)
  else if r = 7 then (if cn K 7 j = 20 then 4 else 0)
  else if r = 9 ∨ r = 13 then (if plc t L 2 j j = 0 then 3 else 0)
  else if r = 10 then (if plc t L 3 j j = 0 then 3 else 0)
  else 0
theorem ite_ne {c : Prop} [Decidable c] {x y n : Nat} (hx : x ≠ n) (hy : y ≠ n) : (if c then x else y) ≠ n := by
  by_cases h : c
  · rw [if_pos h]; exact hx
  · rw [if_neg h]; exact hy
theorem rl_7 {K : Nat → Nat} {j : Nat} : rl K j = 7 ↔ 6 ≤ K j ∧ K j ≤ 9 := by
  constructor
  · intro h
    by_cases z : 6 ≤ K j ∧ K j ≤ 9
    · exact z
    · exfalso
      unfold rl at h
      rw [if_neg z] at h
      exact ite_ne (by decide) (ite_ne (ite_ne (by decide) (by decide)) (ite_ne (ite_ne (by decide) (ite_ne (by decide) (ite_ne (by decide) (ite_ne (by decide) (ite_ne (by decide) (ite_ne (by decide) (ite_ne (by decide) (ite_ne (by decide) (ite_ne (by decide) (by decide)))))))))) (by decide))) h
  · intro h; unfold rl; rw [if_pos h]
theorem cn_7 {K : Nat → Nat} : ∀ j, cn K 7 j = ordN K j
  | 0 => rfl
  | j + 1 => by
    rw [cn, ordN, cn_7 j]
    by_cases h : 6 ≤ K j ∧ K j ≤ 9
    · rw [if_pos h, if_pos (rl_7.mpr h)]
    · rw [if_neg h, if_neg (fun z => h (rl_7.mp z))]
