/-! the component cuts the tape into tokens -/
theorem sc_at {c : Nat → Prop} {L k : Nat} : ∀ n p, k = p + n → (∀ q, p ≤ q → q < k → c q) → ¬ c k → k ≤ L → sc c L p = k
  | 0, p, h, _, hn, _ => by subst h; exact sc_no hn
  | n + 1, p, h, ha, hn, hL => by
    rw [sc_yes (ha p (Nat.le_refl _) (by omega)) (by omega)]
    exact sc_at n (p + 1) (by omega) (fun q h1 h2 => ha q (by omega) h2) hn hL
/-- the tape stands in the tokens' fields -/
def TP (μ : Mu) (t : Nat → Nat) (L : Nat) : Prop := L ≤ 2000 ∧ (∀ k, k < L → t k < 256) ∧ mI μ (hd 10 0) 6 = nI L ∧ px μ (hd 10 0) 5 = 0 ∧ ∀ k, k < L → mI μ (hd 9 0) k = sb (t k)
/-- the text i stands at p -/
def stP (t : Nat → Nat) (L p i : Nat) : Prop := p + txL i ≤ L ∧ ∀ j, j < txL i → sb (t (p + j)) = txC i j
noncomputable def nmW (t : Nat → Nat) (p : Nat) : Nat → Int64
  | 0 => 0
  | n + 1 => nmW t p n * 10 + (sb (t (p + n)) - 48).toInt64
noncomputable def nwW (t : Nat → Nat) (p : Nat) : Nat → Int64
  | 0 => 0
  | n + 1 => nwW t p n * 37 + (@ite _ (isL (t (p + n))) (Classical.propDecidable _) (sb (t (p + n)) - 97 + 1) (sb (t (p + n)) - 48 + 27)).toInt64
theorem isL_sb {b : Nat} (h : b < 256) : (97 ≤ (sb b).toInt ∧ (sb b).toInt ≤ 122) ↔ isL b := by
  rw [sb_toInt h]; unfold isL; split <;> omega
theorem isD_sb {b : Nat} (h : b < 256) : (48 ≤ (sb b).toInt ∧ (sb b).toInt ≤ 57) ↔ isD b := by
  rw [sb_toInt h]; unfold isD; split <;> omega
section TKC
variable {d rc rs : Nat} {Q : Option Value → Mu → Prop} {μ : Mu} {t : Nat → Nat} {L : Nat}
theorem c_Tk_isLetterX {x : Int32} (hD : 1 ≤ d) (hS : St μ) (hQ : Q (some (.int (bI (97 ≤ x.toInt ∧ x.toInt ≤ 122)))) μ) : Cal K_Tk_isLetter d rc rs [.int x] μ Q := by
  refine e_Tk_isLetter (g_Tk_isLetter_0 hD hS ?_)
  have e1 : x < 97 ↔ x.toInt < 97 := by rw [Int32.lt_iff_toInt_lt]; exact Iff.rfl
  have e2 : (122 : Int32) < x ↔ 122 < x.toInt := by rw [Int32.lt_iff_toInt_lt]; exact Iff.rfl
  rw [e1, e2]
  refine ⟨fun h => ⟨hS, ?_⟩, fun h => ⟨fun h2 => ⟨hS, ?_⟩, fun h2 => ⟨hS, ?_⟩⟩⟩
  · rw [bI_f (by omega)] at hQ; exact hQ
  · rw [bI_f (by omega)] at hQ; exact hQ
  · rw [bI_t (by omega)] at hQ; exact hQ
theorem c_Tk_isDigitX {x : Int32} (hD : 1 ≤ d) (hS : St μ) (hQ : Q (some (.int (bI (48 ≤ x.toInt ∧ x.toInt ≤ 57)))) μ) : Cal K_Tk_isDigit d rc rs [.int x] μ Q := by
  refine e_Tk_isDigit (g_Tk_isDigit_0 hD hS ?_)
  have e1 : x < 48 ↔ x.toInt < 48 := by rw [Int32.lt_iff_toInt_lt]; exact Iff.rfl
  have e2 : (57 : Int32) < x ↔ 57 < x.toInt := by rw [Int32.lt_iff_toInt_lt]; exact Iff.rfl
  rw [e1, e2]
  refine ⟨fun h => ⟨hS, ?_⟩, fun h => ⟨fun h2 => ⟨hS, ?_⟩, fun h2 => ⟨hS, ?_⟩⟩⟩
  · rw [bI_f (by omega)] at hQ; exact hQ
  · rw [bI_f (by omega)] at hQ; exact hQ
  · rw [bI_t (by omega)] at hQ; exact hQ
theorem c_Tk_isLetter {b : Nat} (hD : 1 ≤ d) (hS : St μ) (hb : b < 256) (hQ : Q (some (.int (bI (isL b)))) μ) : Cal K_Tk_isLetter d rc rs [.int (sb b)] μ Q :=
  c_Tk_isLetterX hD hS (by rw [bI_congr (isL_sb hb)]; exact hQ)
theorem c_Tk_isDigit {b : Nat} (hD : 1 ≤ d) (hS : St μ) (hb : b < 256) (hQ : Q (some (.int (bI (isD b)))) μ) : Cal K_Tk_isDigit d rc rs [.int (sb b)] μ Q :=
  c_Tk_isDigitX hD hS (by rw [bI_congr (isD_sb hb)]; exact hQ)
theorem c_Tk_byteAt {p : Nat} (hT : TP μ t L) (hD : 1 ≤ d) (hS : St μ) (hp : p < L) (hQ : Q (some (.int (sb (t p)))) μ) : Cal K_Tk_byteAt d rc rs [.ref (hd 10 0), .int (nI p)] μ Q := by
  obtain ⟨h1, h2, h3, h4, h5⟩ := hT
  refine e_Tk_byteAt (g_Tk_byteAt_0 hD hS ?_)
  rw [h3, h4, if_pos rfl, nI_clamp (by omega), h5 p hp]
  exact ⟨fun h => absurd h (nI_pos (by omega)), fun _ => ⟨fun h => absurd h (nI_ge hp (by omega)), fun _ => ⟨fun h => absurd h (nI_ge (by omega) (by decide)), fun _ => ⟨vp_in_nI (by omega) (by decide), hS, hQ⟩⟩⟩⟩
theorem c_Tk_behindBlanks {p : Nat} (hT : TP μ t L) (hD : 2 ≤ d) (hS : St μ) (hp : p ≤ L) (hQ : Q (some (.int (nI (skB t L p)))) μ) : Cal K_Tk_behindBlanks d rc rs [.ref (hd 10 0), .int (nI p)] μ Q := by
  have hT' := hT
  obtain ⟨h1, h2, h3, h4, h5⟩ := hT
  refine e_Tk_behindBlanks (g_Tk_behindBlanks_0 (by omega) hS ?_)
  have key : ∀ k, k ≤ L → Q (some (.int (nI (skB t L k)))) μ → Wx K_Tk_behindBlanks d rc rs (fun r μ' => St μ' ∧ Q r μ') 2 [(0, .ref (hd 10 0)), (2, .int (nI k))] [] μ := by
    refine up_loop _ (fun h => ?_) (fun k hk ih h => ?_)
    · have e : skB t L L = L := sc_end (Nat.le_refl _)
      rw [e] at h
      refine g_Tk_behindBlanks_2 (by omega) hS ⟨fun _ => ⟨hS, h⟩, fun h => absurd ?_ h⟩
      rw [h3]; exact Int32.le_refl _
    · have hb := sb_all (t k) (h2 k hk)
      have yes : (t k = 32 ∨ t k = 10) → Wx K_Tk_behindBlanks d rc rs (fun r μ' => St μ' ∧ Q r μ') 2 [(0, .ref (hd 10 0)), (2, .int (nI k + 1))] [] μ := fun z => by
        rw [nI_1]
        refine ih ?_
        have e : skB t L k = skB t L (k + 1) := sc_yes ⟨hk, z⟩ hk
        rw [← e]; exact h
      refine g_Tk_behindBlanks_2 (by omega) hS ⟨fun h => absurd h ?_, fun _ => c_Tk_byteAt hT' (by omega) hS hk ⟨_, rfl, fun z => yes (Or.inl (hb.2.1.mp z)), fun z => c_Tk_byteAt hT' (by omega) hS hk ⟨_, rfl, fun y => yes (Or.inr (hb.2.2.mp y)), fun y => ⟨hS, ?_⟩⟩⟩⟩
      · rw [h3]; exact nI_ge hk (by omega)
      · have e : skB t L k = k := sc_no (fun u => u.2.elim (fun v => z (hb.2.1.mpr v)) (fun v => y (hb.2.2.mpr v)))
        rw [e] at h; exact h
  exact key p hp hQ
theorem c_Tk_standsAt {p i : Nat} (hT : TP μ t L) (hD : 4 ≤ d) (hS : St μ) (hi : i < 46) (hp : p ≤ L) (hQ : Q (some (.int (bI (stP t L p i)))) μ) : Cal K_Tk_standsAt d rc rs [.ref (hd 10 0), .int (nI p), .ref (hd 1 i)] μ Q := by
  have hT' := hT
  obtain ⟨h1, h2, h3, h4, h5⟩ := hT
  have hl := txL_lt i hi
  refine e_Tk_standsAt (g_Tk_standsAt_0 (by omega) hi hS (c_Str_length (by omega) hS hi ⟨_, rfl, ?_⟩))
  rw [h3, nI_add, nI_leI (by omega) (by omega)]
  refine ⟨fun hle => ?_, fun h => ⟨hS, ?_⟩⟩
  · have key : ∀ k, k ≤ txL i → (∀ j, j < k → sb (t (p + j)) = txC i j) → Wx K_Tk_standsAt d rc rs (fun r μ' => St μ' ∧ Q r μ') 17 [(0, .ref (hd 10 0)), (1, .int (nI p)), (2, .ref (hd 1 i)), (3, .int (nI k))] [] μ := by
      refine up_loop _ (fun h => ?_) (fun k hk ih h => ?_)
      · refine g_Tk_standsAt_17 (by omega) hi hS (c_Str_length (by omega) hS hi ⟨_, rfl, fun _ => ⟨hS, ?_⟩, fun h => absurd (Int32.le_refl _) h⟩)
        rw [bI_t ⟨hle, h⟩] at hQ; exact hQ
      · refine g_Tk_standsAt_17 (by omega) hi hS (c_Str_length (by omega) hS hi ⟨_, rfl, fun h => absurd h (nI_ge hk (by omega)), fun _ => ?_⟩)
        rw [nI_add]
        refine c_Tk_byteAt hT' (by omega) hS (by omega) ⟨_, rfl, c_Str_charAt (by omega) hS hi hk ⟨_, rfl, fun z => ?_, fun z => ⟨hS, ?_⟩⟩⟩
        · rw [nI_1]
          refine ih (fun j hj => ?_)
          rcases Nat.lt_succ_iff_lt_or_eq.mp hj with y | rfl
          · exact h j y
          · exact z
        · rw [bI_f (fun y => z (y.2 k hk))] at hQ; exact hQ
    exact key 0 (Nat.zero_le _) (fun j hj => absurd hj (Nat.not_lt_zero _))
  · rw [bI_f (fun y => h y.1)] at hQ; exact hQ
/-- the longest text that stands there, so far -/
def best (t : Nat → Nat) (L p k r : Nat) : Prop := r < 49 ∧ ((r = 47 ∧ ∀ i, i < k → 1 ≤ txL (min i 44) → ¬ stP t L p (min i 44)) ∨ (1 ≤ txL (min r 44) ∧ stP t L p (min r 44) ∧ ∀ i, i < k → stP t L p (min i 44) → txL (min i 44) ≤ txL (min r 44)))
theorem tx_sym : ∀ r, r < 49 → (r < 29 → 1 ≤ txL r ∧ 97 ≤ (txC r 0).toInt ∧ (txC r 0).toInt ≤ 122) ∧ (29 ≤ r → r ≤ 41 → txL r = 1 ∧ sy1 (txC r 0).toNatClampNeg = r) ∧ (44 ≤ r → txL (min r 44) = 0) := by decide +kernel
theorem tx_long : txL 42 = 2 ∧ txL 43 = 2 ∧ txC 42 0 = nI 60 ∧ txC 42 1 = nI 61 ∧ txC 43 0 = nI 62 ∧ txC 43 1 = nI 61 := by decide +kernel
theorem tx_of_sy1 : ∀ b, b < 128 → sy1 b ≠ 47 → txC (sy1 b) 0 = nI b := by decide +kernel
theorem sy1_big {b : Nat} (h : 128 ≤ b) : sy1 b = 47 := by
  unfold sy1
  repeat' rw [if_neg (by omega)]
theorem stP_1 {t : Nat → Nat} {L p r : Nat} (hp : p < L) (hb : t p < 256) (h1 : 29 ≤ r) (h2 : r ≤ 41) : stP t L p r ↔ sy1 (t p) = r := by
  obtain ⟨-, h3, -⟩ := tx_sym r (by omega)
  obtain ⟨e1, e2⟩ := h3 h1 h2
  unfold stP
  rw [e1]
  constructor
  · rintro ⟨-, h⟩
    have h0 := h 0 (by decide)
    rw [Nat.add_zero, sb_txC hb (by omega) (by decide)] at h0
    rw [← h0, nI_clamp (by omega)] at e2
    exact e2
  · intro h
    refine ⟨by omega, fun j hj => ?_⟩
    have hj0 : j = 0 := by omega
    subst hj0
    have hlt : t p < 128 := by
      rcases Nat.lt_or_ge (t p) 128 with z | z
      · exact z
      · rw [sy1_big z] at h; omega
    rw [Nat.add_zero, sb_txC hb (by omega) (by decide), ← h]
    exact (tx_of_sy1 (t p) hlt (by omega)).symm
theorem stP_2 {t : Nat → Nat} {L p r c : Nat} (h2 : ∀ k, k < L → t k < 256) (hr : r < 46) (e1 : txL r = 2) (e2 : txC r 0 = nI c) (e3 : txC r 1 = nI 61) (hc : c < 128) : stP t L p r ↔ (t p = c ∧ p + 1 < L ∧ t (p + 1) = 61) := by
  unfold stP
  rw [e1]
  constructor
  · rintro ⟨hl, h⟩
    have a := h 0 (by decide)
    have b := h 1 (by decide)
    have b1 := h2 p (by omega)
    have b2 := h2 (p + 1) (by omega)
    rw [Nat.add_zero, sb_txC b1 hr (by decide), e2, nI_eq (by omega) (by omega)] at a
    rw [sb_txC b2 hr (by decide), e3, nI_eq (by omega) (by omega)] at b
    exact ⟨a, by omega, b⟩
  · rintro ⟨a, b, c'⟩
    refine ⟨by omega, fun j hj => ?_⟩
    rcases (by omega : j = 0 ∨ j = 1) with rfl | rfl
    · rw [Nat.add_zero, sb_txC (h2 p (by omega)) hr (by decide), e2, a]
    · rw [sb_txC (h2 (p + 1) b) hr (by decide), e3, c']
theorem stP_w {t : Nat → Nat} {L p r : Nat} (h2 : ∀ k, k < L → t k < 256) (hr : r < 29) (h : stP t L p r) : isL (t p) := by
  obtain ⟨h3, -, -⟩ := tx_sym r (by omega)
  obtain ⟨e1, e2, e3⟩ := h3 hr
  have hb := h2 p (by have := h.1; omega)
  have h0 := h.2 0 e1
  rw [Nat.add_zero] at h0
  rw [← h0] at e2 e3
  exact (isL_sb hb).mp ⟨e2, e3⟩
theorem best_fin {t : Nat → Nat} {L p r : Nat} (h2 : ∀ k, k < L → t k < 256) (hp : p < L) (hl : ¬ isL (t p)) (h : best t L p 49 r) : r = syK t L p := by
  obtain ⟨hr, h⟩ := h
  obtain ⟨q1, q2, q3, q4, q5, q6⟩ := tx_long
  have s42 := stP_2 (t := t) (L := L) (p := p) h2 (by decide) q1 q3 q4 (by decide)
  have s43 := stP_2 (t := t) (L := L) (p := p) h2 (by decide) q2 q5 q6 (by decide)
  have hb := h2 p hp
  rcases h with ⟨rfl, h⟩ | ⟨h1, hs, h⟩
  · have hn : ¬ isLong t L p := fun z => by
      rcases z.1 with y | y
      · exact h 42 (by decide) (by decide +kernel) (s42.mpr ⟨y, z.2⟩)
      · exact h 43 (by decide) (by decide +kernel) (s43.mpr ⟨y, z.2⟩)
    unfold syK
    rw [if_neg hn]
    rcases sy1_rng (b := t p) with z | z
    · exfalso
      have hm : min (sy1 (t p)) 44 = sy1 (t p) := by omega
      have e1 := ((tx_sym (sy1 (t p)) (by omega)).2.1 z.1 z.2).1
      exact h (sy1 (t p)) (by omega) (by rw [hm, e1]; exact Nat.le_refl _) (by rw [hm]; exact (stP_1 hp hb z.1 z.2).mpr rfl)
    · exact z.symm
  · have hr44 : r < 44 := by
      rcases Nat.lt_or_ge r 44 with z | z
      · exact z
      · rw [(tx_sym r hr).2.2 z] at h1; omega
    have hm : min r 44 = r := by omega
    rw [hm] at h1 hs h
    have hr29 : 29 ≤ r := by
      rcases Nat.lt_or_ge r 29 with z | z
      · exact absurd (stP_w h2 z hs) hl
      · exact z
    unfold syK
    rcases Nat.lt_or_ge r 42 with z | z
    · have e1 := ((tx_sym r hr).2.1 hr29 (by omega)).1
      have hn : ¬ isLong t L p := fun y => by
        rcases y.1 with x | x
        · have := h 42 (by decide) (s42.mpr ⟨x, y.2⟩)
          rw [show min 42 44 = 42 from rfl, q1, e1] at this; omega
        · have := h 43 (by decide) (s43.mpr ⟨x, y.2⟩)
          rw [show min 43 44 = 43 from rfl, q2, e1] at this; omega
      rw [if_neg hn]
      exact ((stP_1 hp hb hr29 (by omega)).mp hs).symm
    · rcases (by omega : r = 42 ∨ r = 43) with rfl | rfl
      · have := s42.mp hs
        rw [if_pos ⟨Or.inl this.1, this.2⟩, if_pos this.1]
      · have := s43.mp hs
        rw [if_pos ⟨Or.inr this.1, this.2⟩, if_neg (by omega)]
theorem c_Tk_symbolAt {p : Nat} (hT : TP μ t L) (hD : 5 ≤ d) (hS : St μ) (hp : p < L) (hl : ¬ isL (t p)) (hQ : Q (some (.ref (hd 0 (syK t L p)))) μ) : Cal K_Tk_symbolAt d rc rs [.ref (hd 10 0), .int (nI p)] μ Q := by
  have hT' := hT
  obtain ⟨h1, h2, h3, h4, h5⟩ := hT
  refine e_Tk_symbolAt (g_Tk_symbolAt_0 (by omega) hS ?_)
  have key : ∀ k, k ≤ 49 → ∀ r, best t L p k r → Wx K_Tk_symbolAt d rc rs (fun r μ' => St μ' ∧ Q r μ') 15 [(0, .ref (hd 10 0)), (1, .int (nI p)), (2, .ref (hd 0 r)), (3, .ref (hd 4 0)), (4, .int (nI 49)), (5, .int (nI k))] [] μ := by
    refine up_loop _ (fun r hb => ?_) (fun k hk ih r hb => ?_)
    · rw [← best_fin h2 hp hl hb] at hQ
      exact g_Tk_symbolAt_15 (by omega) hb.1 hS ⟨fun _ => ⟨hS, hQ⟩, fun h => absurd (Int32.le_refl _) h⟩
    · refine g_Tk_symbolAt_15 (by omega) hb.1 hS ⟨fun h => absurd h (nI_ge hk (by decide)), fun _ => ⟨vp_in_nI hk (by decide), ?_⟩⟩
      rw [nI_clamp (by omega)]
      have hlk := txL_lt (min k 44) (by omega)
      have hlr := txL_lt (min r 44) (by omega)
      refine c_Str_length (by omega) hS (by omega) ⟨_, rfl, c_Str_length (by omega) hS (by omega) ⟨_, rfl, ?_⟩⟩
      rw [nI_leI (by omega) (by omega)]
      have step : (stP t L p (min k 44) → txL (min k 44) ≤ txL (min r 44)) → best t L p (k + 1) r := fun hx => by
        refine ⟨hb.1, ?_⟩
        rcases hb.2 with ⟨e, h⟩ | ⟨a, b, h⟩
        · refine Or.inl ⟨e, fun i hi h1 hs => ?_⟩
          rcases Nat.lt_succ_iff_lt_or_eq.mp hi with z | rfl
          · exact h i z h1 hs
          · have := hx hs
            rw [e, show txL (min 47 44) = 0 by decide +kernel] at this
            omega
        · refine Or.inr ⟨a, b, fun i hi hs => ?_⟩
          rcases Nat.lt_succ_iff_lt_or_eq.mp hi with z | rfl
          · exact h i z hs
          · exact hx hs
      refine ⟨fun z => ?_, fun z => ?_⟩
      · rw [nI_1]; exact ih r (step (fun _ => z))
      · refine c_Tk_standsAt hT' (by omega) hS (by omega) (by omega) ⟨_, rfl, fun e => ?_, fun e => ?_⟩
        · rw [bI_z] at e
          rw [nI_1]; exact ih r (step (fun y => absurd y e))
        · rw [bI_z, Classical.not_not] at e
          rw [nI_1]
          refine ih k ⟨hk, Or.inr ⟨by omega, e, fun i hi hs => ?_⟩⟩
          rcases Nat.lt_succ_iff_lt_or_eq.mp hi with y | rfl
          · rcases hb.2 with ⟨e', h⟩ | ⟨a, b, h⟩
            · rcases Nat.eq_zero_or_pos (txL (min i 44)) with u | u
              · omega
              · exact absurd hs (h i y u)
            · have := h i y hs; omega
          · exact Nat.le_refl _
  exact key 0 (Nat.zero_le _) 47 ⟨by decide, Or.inl ⟨rfl, fun i hi => absurd hi (Nat.not_lt_zero _)⟩⟩
theorem syN_tx {t : Nat → Nat} {L p : Nat} : syN t L p = txL (min (syK t L p) 44) := by
  unfold syN syK
  by_cases hl : isLong t L p
  · rw [if_pos hl, if_pos hl]
    split
    · exact (show 2 = txL (min 42 44) by decide +kernel)
    · exact (show 2 = txL (min 43 44) by decide +kernel)
  · rw [if_neg hl, if_neg hl]
    rcases sy1_rng (b := t p) with z | z
    · rw [if_neg (by omega), show min (sy1 (t p)) 44 = sy1 (t p) by omega, ((tx_sym (sy1 (t p)) (by omega)).2.1 z.1 z.2).1]
    · rw [if_pos z, z]; exact (show 0 = txL (min 47 44) by decide +kernel)
theorem c_Tk_behindRun {p : Nat} (hT : TP μ t L) (hD : 6 ≤ d) (hS : St μ) (hp : p < L) (hQ : Q (some (.int (nI (tkE t L p)))) μ) : Cal K_Tk_behindRun d rc rs [.ref (hd 10 0), .int (nI p)] μ Q := by
  have hT' := hT
  obtain ⟨h1, h2, h3, h4, h5⟩ := hT
  have hb := h2 p hp
  have run : ∀ w : Prop, (isL (t p) ∨ isD (t p)) → (w ↔ isL (t p)) → Wx K_Tk_behindRun d rc rs (fun r μ' => St μ' ∧ Q r μ') 42 [(0, .ref (hd 10 0)), (3, .int (bI w)), (4, .int (nI p))] [] μ := by
    intro w hw hwi
    have ew : w = isL (t p) := propext hwi
    have eT : tkE t L p = skR t L w p := by unfold tkE; rw [if_pos hw, ew]
    rw [eT] at hQ
    have key : ∀ k, k ≤ L → Q (some (.int (nI (skR t L w k)))) μ → Wx K_Tk_behindRun d rc rs (fun r μ' => St μ' ∧ Q r μ') 42 [(0, .ref (hd 10 0)), (3, .int (bI w)), (4, .int (nI k))] [] μ := by
      refine up_loop _ (fun h => ?_) (fun k hk ih h => ?_)
      · have e : skR t L w L = L := sc_end (Nat.le_refl _)
        rw [e] at h
        refine g_Tk_behindRun_42 (by omega) hS ⟨fun _ => ⟨hS, h⟩, fun h => absurd ?_ h⟩
        rw [h3]; exact Int32.le_refl _
      · have hbk := h2 k hk
        have yes : (isD (t k) ∨ (w ∧ isL (t k))) → Wx K_Tk_behindRun d rc rs (fun r μ' => St μ' ∧ Q r μ') 42 [(0, .ref (hd 10 0)), (3, .int (bI w)), (4, .int (nI k + 1))] [] μ := fun z => by
          rw [nI_1]
          refine ih ?_
          have e : skR t L w k = skR t L w (k + 1) := sc_yes ⟨hk, z⟩ hk
          rw [← e]; exact h
        have no : ¬ (isD (t k) ∨ (w ∧ isL (t k))) → St μ ∧ Q (some (.int (nI k))) μ := fun z => by
          have e : skR t L w k = k := sc_no (fun u => z u.2)
          rw [e] at h; exact ⟨hS, h⟩
        refine g_Tk_behindRun_42 (by omega) hS ⟨fun h => absurd h ?_, fun _ => c_Tk_byteAt hT' (by omega) hS hk ⟨_, rfl, c_Tk_isDigit (by omega) hS hbk ⟨_, rfl, fun e => ?_, fun e => ?_⟩⟩⟩
        · rw [h3]; exact nI_ge hk (by omega)
        · rw [bI_z] at e
          refine ⟨fun z => ?_, fun z => ?_⟩
          · rw [bI_z] at z
            exact no (fun u => u.elim e (fun v => z v.1))
          · rw [bI_z, Classical.not_not] at z
            refine c_Tk_byteAt hT' (by omega) hS hk ⟨_, rfl, c_Tk_isLetter (by omega) hS hbk ⟨_, rfl, fun y => ?_, fun y => ?_⟩⟩
            · rw [bI_z] at y
              exact no (fun u => u.elim e (fun v => y v.2))
            · rw [bI_z, Classical.not_not] at y
              exact yes (Or.inr ⟨z, y⟩)
        · rw [bI_z, Classical.not_not] at e
          exact yes (Or.inl e)
    exact key p (by omega) hQ
  refine e_Tk_behindRun (g_Tk_behindRun_0 (by omega) hS (c_Tk_byteAt hT' (by omega) hS hp ⟨_, rfl, c_Tk_isLetter (by omega) hS hb ⟨_, rfl, fun e => ?_, fun e => ?_⟩⟩))
  · rw [bI_z] at e
    refine c_Tk_isDigit (by omega) hS hb ⟨_, rfl, fun z => ?_, fun z => ?_⟩
    · rw [bI_z] at z
      have eT : tkE t L p = p + syN t L p := by unfold tkE; rw [if_neg (fun u => u.elim e z)]
      have hk := syK_rng (t := t) (L := L) (p := p)
      refine c_Tk_symbolAt hT' (by omega) hS hp e ⟨_, rfl, by omega, c_Str_length (by omega) hS (by omega) ⟨_, rfl, hS, ?_⟩⟩
      rw [nI_add, ← syN_tx, ← eT]; exact hQ
    · rw [bI_z, Classical.not_not] at z
      exact c_Tk_isLetter (by omega) hS hb ⟨_, rfl, run _ (Or.inr z) Iff.rfl⟩
  · rw [bI_z, Classical.not_not] at e
    exact c_Tk_isLetter (by omega) hS hb ⟨_, rfl, run _ (Or.inl e) Iff.rfl⟩
theorem c_Tk_kindOf {p : Nat} (hT : TP μ t L) (hD : 6 ≤ d) (hS : St μ) (hp : p < L) (hQ : Q (some (.ref (hd 0 (tkK t L p)))) μ) : Cal K_Tk_kindOf d rc rs [.ref (hd 10 0), .int (nI p), .int (nI (tkE t L p))] μ Q := by
  have hT' := hT
  obtain ⟨h1, h2, h3, h4, h5⟩ := hT
  have hb := h2 p hp
  obtain ⟨g1, g2⟩ := tkE_le (t := t) hp
  refine e_Tk_kindOf (g_Tk_kindOf_0 (by omega) hS (c_Tk_byteAt hT' (by omega) hS hp ⟨_, rfl, c_Tk_isDigit (by omega) hS hb ⟨_, rfl, fun e => ?_, fun e => ?_⟩⟩))
  · rw [bI_z] at e
    refine c_Tk_isLetter (by omega) hS hb ⟨_, rfl, fun z => ?_, fun z => ?_⟩
    · rw [bI_z] at z
      have ek : tkK t L p = syK t L p := by unfold tkK; rw [if_neg e, if_neg z]
      rw [ek] at hQ
      have hk := syK_rng (t := t) (L := L) (p := p)
      exact c_Tk_symbolAt hT' (by omega) hS hp z ⟨_, rfl, by omega, hS, hQ⟩
    · rw [bI_z, Classical.not_not] at z
      have ek : tkK t L p = if tkE t L p - p ≤ 10 then wdK t p (tkE t L p - p) else 47 := by unfold tkK; rw [if_neg e, if_pos z]
      rw [ek] at hQ
      rw [nI_sub g1, show (10 : Int32) = nI 10 from rfl, nI_leI (by omega) (by decide)]
      refine ⟨fun y => ?_, fun y => ⟨hS, ?_⟩⟩
      · rw [if_pos y] at hQ
        have hsE : p < tkE t L p := by
          have : tkE t L p = skR t L (isL (t p)) p := by unfold tkE; rw [if_pos (Or.inl z)]
          rw [this]
          unfold skR
          rw [sc_yes (p := p) ⟨hp, Or.inr ⟨z, z⟩⟩ hp]
          exact sc_ge
        have est : ∀ i, i < 46 → txL i = tkE t L p - p → (stP t L p i ↔ ew t p (tkE t L p - p) i) := fun i hi hl => by
          unfold stP ew
          rw [hl]
          refine ⟨fun u => ⟨rfl, fun j hj => ?_⟩, fun u => ⟨by omega, fun j hj => ?_⟩⟩
          · exact (sb_txC (h2 (p + j) (by omega)) hi (by omega)).mp (u.2 j hj)
          · exact (sb_txC (h2 (p + j) (by omega)) hi (by omega)).mpr (u.2 j hj)
        have key : ∀ k, k ≤ 49 → (∀ i, i < k → i < 29 → ¬ ew t p (tkE t L p - p) i) → Wx K_Tk_kindOf d rc rs (fun r μ' => St μ' ∧ Q r μ') 69 [(0, .ref (hd 10 0)), (1, .int (nI p)), (2, .int (nI (tkE t L p))), (4, .ref (hd 4 0)), (5, .int (nI 49)), (6, .int (nI k))] [] μ := by
          refine up_loop _ (fun h => ?_) (fun k hk ih h => ?_)
          · refine g_Tk_kindOf_69 (by omega) hS ⟨fun _ => ⟨hS, ?_⟩, fun h => absurd (Int32.le_refl _) h⟩
            have e : wdK t p (tkE t L p - p) = 44 := by
              unfold wdK
              rw [if_pos (sc_at 29 0 rfl (fun q _ hq => ⟨hq, h q (by omega) hq⟩) (fun u => absurd u.1 (by decide)) (by decide))]
            rw [e] at hQ; exact hQ
          · have go : ¬ (k < 29 ∧ ew t p (tkE t L p - p) k) → Wx K_Tk_kindOf d rc rs (fun r μ' => St μ' ∧ Q r μ') 69 [(0, .ref (hd 10 0)), (1, .int (nI p)), (2, .int (nI (tkE t L p))), (4, .ref (hd 4 0)), (5, .int (nI 49)), (6, .int (nI k + 1))] [] μ := fun hn => by
              rw [nI_1]
              refine ih (fun i hi h29 => ?_)
              rcases Nat.lt_succ_iff_lt_or_eq.mp hi with u | rfl
              · exact h i u h29
              · exact fun v => hn ⟨h29, v⟩
            have hlk := txL_lt (min k 44) (by omega)
            refine g_Tk_kindOf_69 (by omega) hS ⟨fun h => absurd h (nI_ge hk (by decide)), fun _ => ⟨vp_in_nI hk (by decide), ?_⟩⟩
            rw [nI_clamp (by omega), nI_sub g1]
            refine c_Str_length (by omega) hS (by omega) ⟨_, rfl, ?_⟩
            rw [nI_eq (by omega) (by omega)]
            refine ⟨fun u => ?_, fun u => ?_⟩
            · have hm : min k 44 = k := by
                rcases Nat.lt_or_ge k 44 with v | v
                · omega
                · rw [(tx_sym k hk).2.2 v] at u; omega
              rw [hm] at u ⊢
              refine c_Tk_standsAt hT' (by omega) hS (by omega) (by omega) ⟨_, rfl, fun v => ?_, fun v => ⟨hS, ?_⟩⟩
              · rw [bI_z] at v
                exact go (fun x => v ((est k (by omega) u).mpr x.2))
              · rw [bI_z, Classical.not_not] at v
                have k29 : k < 29 := by
                  rcases Nat.lt_or_ge k 29 with x | x
                  · exact x
                  · exfalso
                    have h0 := v.2 0 (by omega)
                    rw [Nat.add_zero] at h0
                    have hz : (97 ≤ (txC k 0).toInt ∧ (txC k 0).toInt ≤ 122) := by rw [← h0]; exact (isL_sb hb).mpr z
                    exact (by decide +kernel : ∀ k, k < 49 → 29 ≤ k → ¬ (97 ≤ (txC k 0).toInt ∧ (txC k 0).toInt ≤ 122)) k hk x hz
                have hew := (est k (by omega) u).mp v
                have e : wdK t p (tkE t L p - p) = k := by
                  have es : sc (fun i => i < 29 ∧ ¬ ew t p (tkE t L p - p) i) 29 0 = k := sc_at k 0 (by omega) (fun q _ hq => ⟨by omega, h q hq (by omega)⟩) (fun x => x.2 hew) (by omega)
                  unfold wdK
                  rw [es, if_neg (by omega)]
                rw [e] at hQ; exact hQ
            · exact go (fun x => u (by rw [show min k 44 = k by omega]; exact x.2.1))
        exact key 0 (Nat.zero_le _) (fun i hi => absurd hi (Nat.not_lt_zero _))
      · rw [if_neg y] at hQ; exact hQ
  · rw [bI_z, Classical.not_not] at e
    have ek : tkK t L p = if tkE t L p - p ≤ 6 then 45 else 47 := by unfold tkK; rw [if_pos e]
    rw [ek] at hQ
    rw [nI_sub g1, show (6 : Int32) = nI 6 from rfl, nI_leI (by omega) (by decide)]
    refine ⟨fun y => ⟨hS, ?_⟩, fun y => ⟨hS, ?_⟩⟩
    · rw [if_pos y] at hQ; exact hQ
    · rw [if_neg y] at hQ; exact hQ
theorem c_Tk_numberWorth {p e : Nat} (hT : TP μ t L) (hD : 2 ≤ d) (hS : St μ) (hp : p ≤ e) (he : e ≤ L) (hQ : Q (some (.long (nmW t p (e - p)))) μ) : Cal K_Tk_numberWorth d rc rs [.ref (hd 10 0), .int (nI p), .int (nI e)] μ Q := by
  have hL := hT.1
  refine e_Tk_numberWorth (g_Tk_numberWorth_0 (by omega) hS ?_)
  have key : ∀ k, k ≤ e - p → Wx K_Tk_numberWorth d rc rs (fun r μ' => St μ' ∧ Q r μ') 5 [(0, .ref (hd 10 0)), (2, .int (nI e)), (3, .long (nmW t p k)), (5, .int (nI (p + k)))] [] μ := by
    refine up_loop _ ?_ (fun k hk ih => ?_)
    · refine g_Tk_numberWorth_5 (by omega) hS ⟨fun _ => ⟨hS, hQ⟩, fun h => absurd ?_ h⟩
      rw [show p + (e - p) = e by omega]; exact Int32.le_refl _
    · refine g_Tk_numberWorth_5 (by omega) hS ⟨fun h => absurd h (nI_ge (by omega) (by omega)), fun _ => c_Tk_byteAt hT (by omega) hS (by omega) ⟨_, rfl, ?_⟩⟩
      rw [nI_1]; exact ih
  exact key 0 (Nat.zero_le _)
theorem c_Tk_nameWorth {p e : Nat} (hT : TP μ t L) (hD : 2 ≤ d) (hS : St μ) (hp : p ≤ e) (he : e ≤ L) (hQ : Q (some (.long (nwW t p (e - p)))) μ) : Cal K_Tk_nameWorth d rc rs [.ref (hd 10 0), .int (nI p), .int (nI e)] μ Q := by
  have hL := hT.1
  refine e_Tk_nameWorth (g_Tk_nameWorth_0 (by omega) hS ?_)
  have key : ∀ k, k ≤ e - p → Wx K_Tk_nameWorth d rc rs (fun r μ' => St μ' ∧ Q r μ') 5 [(0, .ref (hd 10 0)), (2, .int (nI e)), (3, .long (nwW t p k)), (5, .int (nI (p + k)))] [] μ := by
    refine up_loop _ ?_ (fun k hk ih => ?_)
    · refine g_Tk_nameWorth_5 (by omega) hS ⟨fun _ => ⟨hS, hQ⟩, fun h => absurd ?_ h⟩
      rw [show p + (e - p) = e by omega]; exact Int32.le_refl _
    · refine g_Tk_nameWorth_5 (by omega) hS ⟨fun h => absurd h (nI_ge (by omega) (by omega)), fun _ => c_Tk_byteAt hT (by omega) hS (by omega) ⟨_, rfl, c_Tk_isLetter (by omega) hS (hT.2.1 _ (by omega)) ⟨_, rfl, fun z => ?_, fun z => ?_⟩⟩⟩
      · rw [bI_z] at z
        rw [nI_1]
        rw [nwW, if_neg z] at ih; exact ih
      · rw [bI_z, Classical.not_not] at z
        rw [nI_1]
        rw [nwW, if_pos z] at ih; exact ih
  exact key 0 (Nat.zero_le _)
end TKC
