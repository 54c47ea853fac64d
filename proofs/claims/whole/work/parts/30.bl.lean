/-! sets as bits of a long -/
def bl (x : Int64) (s : Nat) : Bool := x.toBitVec.getLsbD s
theorem bl_ext {x y : Int64} (h : ∀ s, s < 64 → bl x s = bl y s) : x = y := Int64.toBitVec_inj.mp (BitVec.eq_of_getLsbD_eq (fun s hs => h s hs))
theorem bl_or (x y : Int64) (s : Nat) : bl (x ||| y) s = (bl x s || bl y s) := by unfold bl; rw [Int64.toBitVec_or, BitVec.getLsbD_or]
theorem bl_and (x y : Int64) (s : Nat) : bl (x &&& y) s = (bl x s && bl y s) := by unfold bl; rw [Int64.toBitVec_and, BitVec.getLsbD_and]
theorem bl_xor (x y : Int64) (s : Nat) : bl (x ^^^ y) s = (bl x s ^^ bl y s) := by unfold bl; rw [Int64.toBitVec_xor, BitVec.getLsbD_xor]
theorem bl_0 (s : Nat) : bl 0 s = false := by
  show (0#64).getLsbD s = false
  exact BitVec.getLsbD_zero
theorem bl_1 (s : Nat) : bl 1 s = decide (s = 0) := by
  show (1#64).getLsbD s = _
  rw [BitVec.getLsbD_one]
  simp [eq_comm]
theorem bl_m1 {s : Nat} (h : s < 64) : bl (-1) s = true := by
  show (BitVec.allOnes 64).getLsbD s = true
  rw [BitVec.getLsbD_allOnes]; exact decide_eq_true h
theorem bw_c : ∀ k, k < 64 → ((nI k).toInt64 &&& 63).toBitVec = BitVec.ofNat 64 k := by decide +kernel
theorem bw_sm : ∀ k, k < 64 → (BitVec.ofNat 64 k).smod 64 = BitVec.ofNat 64 k := by decide +kernel
theorem bl_one {k s : Nat} (hk : k < 64) (hs : s < 64) : bl ((1 : Int64) <<< ((nI k).toInt64 &&& 63)) s = decide (s = k) := by
  unfold bl
  rw [Int64.toBitVec_shiftLeft, bw_c k hk, bw_sm k hk, BitVec.shiftLeft_eq', BitVec.getLsbD_shiftLeft, BitVec.toNat_ofNat, Nat.mod_eq_of_lt (by omega)]
  show (decide (s < 64) && !decide (s < k) && (1#64).getLsbD (s - k)) = _
  rw [BitVec.getLsbD_one, Bool.eq_iff_iff]
  simp only [Bool.and_eq_true, decide_eq_true_eq, Bool.not_eq_true', decide_eq_false_iff_not]
  omega
theorem bl_sh {x : Int64} {k : Nat} (hk : k < 64) : bl (x >>> ((nI k).toInt64 &&& 63)) 0 = bl x k := by
  unfold bl
  rw [Int64.toBitVec_shiftRight, bw_c k hk, bw_sm k hk]
  show (x.toBitVec.sshiftRight (BitVec.ofNat 64 k).toNat).getLsbD 0 = _
  rw [BitVec.getLsbD_sshiftRight, BitVec.toNat_ofNat, Nat.mod_eq_of_lt (by omega)]
  simp [hk]
theorem bl_t {x : Int64} {k : Nat} (hk : k < 64) : (x >>> ((nI k).toInt64 &&& 63)) &&& 1 = if bl x k then 1 else 0 := by
  apply bl_ext
  intro s hs
  rw [bl_and, bl_1]
  by_cases h0 : s = 0
  · subst h0
    rw [bl_sh hk]
    cases bl x k
    · simp [bl_0]
    · simp [bl_1]
  · rw [decide_eq_false h0, Bool.and_false]
    cases bl x k
    · simp [bl_0]
    · simp [bl_1, h0]
theorem bl_t1 {x : Int64} {k : Nat} (hk : k < 64) : lg_cmp ((x >>> ((nI k).toInt64 &&& 63)) &&& 1) 1 = 0 ↔ bl x k = true := by
  rw [lg_cmp_eq, bl_t hk]
  cases bl x k
  · exact ⟨fun h => absurd h (by decide), fun h => absurd h (by decide)⟩
  · exact ⟨fun _ => rfl, fun _ => rfl⟩
theorem bl_t0 {x : Int64} {k : Nat} (hk : k < 64) : lg_cmp ((x >>> ((nI k).toInt64 &&& 63)) &&& 1) 0 = 0 ↔ bl x k = false := by
  rw [lg_cmp_eq, bl_t hk]
  cases bl x k
  · exact ⟨fun _ => rfl, fun _ => rfl⟩
  · exact ⟨fun h => absurd h (by decide), fun h => absurd h (by decide)⟩
theorem bl_clr {x : Int64} {k s : Nat} (hk : k < 64) (hs : s < 64) : bl (x &&& (((1 : Int64) <<< ((nI k).toInt64 &&& 63)) ^^^ (-1))) s = (bl x s && !decide (s = k)) := by
  rw [bl_and, bl_xor, bl_one hk hs, bl_m1 hs]; cases decide (s = k) <;> rfl
/-! how many bits -/
def pcN (n w : Nat) : Nat := sumN (fun s => if n.testBit s then 1 else 0) w
theorem sumN_front (f : Nat → Nat) : ∀ n, sumN f (n + 1) = f 0 + sumN (fun k => f (k + 1)) n
  | 0 => by simp [sumN]
  | n + 1 => by rw [sumN, sumN_front f n, sumN]; omega
theorem pcN_s (n w : Nat) : pcN n (w + 1) = n % 2 + pcN (n / 2) w := by
  unfold pcN
  rw [sumN_front]
  congr 1
  · rw [Nat.testBit_zero]
    rcases Nat.mod_two_eq_zero_or_one n with h | h <;> simp [h]
  · exact sumN_congr _ (fun k _ => by rw [Nat.testBit_succ])
theorem pcN_and : ∀ (w n : Nat), n < 2 ^ w → n ≠ 0 → pcN (n &&& (n - 1)) w + 1 = pcN n w
  | 0, n, h, h0 => by omega
  | w + 1, n, h, h0 => by
    rw [pcN_s, pcN_s, Nat.and_div_two]
    have hlt : n / 2 < 2 ^ w := by rw [Nat.pow_succ] at h; omega
    have hm : (n &&& (n - 1)) % 2 = 0 := by
      have h2 : ¬ ((n &&& (n - 1)) % 2 = 1) := by rw [Nat.and_mod_two_eq_one]; omega
      omega
    rw [hm]
    rcases Nat.mod_two_eq_zero_or_one n with h1 | h1
    · have e : (n - 1) / 2 = n / 2 - 1 := by omega
      rw [e, h1]
      have := pcN_and w (n / 2) hlt (by omega)
      omega
    · have e : (n - 1) / 2 = n / 2 := by omega
      rw [e, h1, Nat.and_self]; omega
def cnt (x : Int64) : Nat := sumN (fun s => if bl x s then 1 else 0) 64
theorem cnt_pc (x : Int64) : cnt x = pcN x.toBitVec.toNat 64 := sumN_congr _ (fun s _ => by
  show (if x.toBitVec.getLsbD s then 1 else 0) = _
  rw [← BitVec.testBit_toNat])
theorem cnt_le (x : Int64) : cnt x ≤ 64 := by
  have : cnt x ≤ 64 * 1 := sumN_le 64 (fun s _ => by split <;> omega)
  omega
theorem cnt_and {x : Int64} (h : x ≠ 0) : cnt (x &&& (x - 1)) + 1 = cnt x := by
  have h0 : x.toBitVec.toNat ≠ 0 := fun e => h (Int64.toBitVec_inj.mp (BitVec.eq_of_toNat_eq (by rw [e]; rfl)))
  rw [cnt_pc, cnt_pc, Int64.toBitVec_and, BitVec.toNat_and, Int64.toBitVec_sub]
  have e : (x.toBitVec - (1 : Int64).toBitVec).toNat = x.toBitVec.toNat - 1 := by
    rw [BitVec.toNat_sub]
    show (2 ^ 64 - 1 + x.toBitVec.toNat) % 2 ^ 64 = _
    have := x.toBitVec.isLt
    omega
  rw [e]
  exact pcN_and 64 _ x.toBitVec.isLt h0
theorem cnt_0 : cnt 0 = 0 := sumN_zero _ (fun s _ => by rw [bl_0]; rfl)
theorem c_MM_bits {d rc rs : Nat} {x : Int64} {Q : Option Value → Mu → Prop} {μ : Mu} (hD : 1 ≤ d) (hS : St μ) (hQ : Q (some (.int (nI (cnt x)))) μ) : Cal K_MM_bits d rc rs [.long x] μ Q := by
  refine e_MM_bits (g_MM_bits_0 hD hS ?_)
  have key : ∀ c (x : Int64) m, cnt x = c → Q (some (.int (nI (m + c)))) μ → Wx K_MM_bits d rc rs (fun r μ' => St μ' ∧ Q r μ') 4 [(2, .int (nI m)), (3, .long x)] [] μ := by
    intro c
    induction c with
    | zero =>
      intro x m hc hq
      refine g_MM_bits_4 hD hS ⟨fun _ => ⟨hS, hq⟩, fun h => ?_⟩
      rw [lg_cmp_eq] at h
      have := cnt_and h
      omega
    | succ c ih =>
      intro x m hc hq
      refine g_MM_bits_4 hD hS ⟨fun h => ?_, fun h => ?_⟩
      · rw [lg_cmp_eq] at h
        rw [h, cnt_0] at hc
        omega
      · rw [lg_cmp_eq] at h
        have := cnt_and h
        rw [I1, nI_add]
        exact ih _ (m + 1) (by omega) (by rw [show m + 1 + c = m + (c + 1) by omega]; exact hq)
  exact key _ x 0 rfl (by rw [Nat.zero_add]; exact hQ)
/-- the bits of x are the places below 60 of which p holds -/
def Bs (x : Int64) (p : Nat → Prop) : Prop := ∀ s, s < 64 → (bl x s = true ↔ s < 60 ∧ p s)
theorem Bs.cntE {x : Int64} {p : Nat → Prop} (h : Bs x p) : cnt x = sumN (fun s => bN (p s)) 60 := by
  unfold cnt
  rw [sumN_ext (m := 60) (by decide) (fun k h1 h2 => by
    have := h k h2
    cases hb : bl x k
    · rfl
    · rw [hb] at this; have := (this.mp rfl).1; omega)]
  refine sumN_congr _ (fun k hk => ?_)
  have := h k (by omega)
  by_cases hp : p k
  · rw [bN_t hp, if_pos (this.mpr ⟨hk, hp⟩)]
  · rw [bN_f hp, if_neg (fun z => hp (this.mp z).2)]
theorem Bs.congr {x : Int64} {p q : Nat → Prop} (h : Bs x p) (e : ∀ s, s < 60 → (p s ↔ q s)) : Bs x q := fun s hs => by
  rw [h s hs]
  exact ⟨fun ⟨a, b⟩ => ⟨a, (e s a).mp b⟩, fun ⟨a, b⟩ => ⟨a, (e s a).mpr b⟩⟩
theorem Bs.zero {p : Nat → Prop} (h : ∀ s, s < 60 → ¬ p s) : Bs 0 p := fun s hs => by
  rw [bl_0]
  exact ⟨fun z => absurd z (by decide), fun z => absurd z.2 (h s z.1)⟩
theorem Bs.add {x : Int64} {p q : Nat → Prop} {k : Nat} (h : Bs x p) (hk : k < 60) (e : ∀ s, s < 60 → (q s ↔ p s ∨ s = k)) : Bs (x ||| ((1 : Int64) <<< ((nI k).toInt64 &&& 63))) q := fun s hs => by
  rw [bl_or, bl_one (by omega) hs, Bool.or_eq_true, decide_eq_true_eq, h s hs]
  constructor
  · rintro (⟨a, b⟩ | rfl)
    · exact ⟨a, (e s a).mpr (Or.inl b)⟩
    · exact ⟨hk, (e s hk).mpr (Or.inr rfl)⟩
  · rintro ⟨a, b⟩
    rcases (e s a).mp b with c | c
    · exact Or.inl ⟨a, c⟩
    · exact Or.inr c
theorem Bs.del {x : Int64} {p q : Nat → Prop} {k : Nat} (h : Bs x p) (hk : k < 60) (e : ∀ s, s < 60 → (q s ↔ p s ∧ s ≠ k)) : Bs (x &&& (((1 : Int64) <<< ((nI k).toInt64 &&& 63)) ^^^ (-1))) q := fun s hs => by
  rw [bl_clr (by omega) hs, Bool.and_eq_true, h s hs, Bool.not_eq_true', decide_eq_false_iff_not]
  exact ⟨fun ⟨⟨a, b⟩, c⟩ => ⟨a, (e s a).mpr ⟨b, c⟩⟩, fun ⟨a, b⟩ => ⟨⟨a, ((e s a).mp b).1⟩, ((e s a).mp b).2⟩⟩
theorem Bs.or {x y : Int64} {p q r : Nat → Prop} (h : Bs x p) (h' : Bs y q) (e : ∀ s, s < 60 → (r s ↔ p s ∨ q s)) : Bs (x ||| y) r := fun s hs => by
  rw [bl_or, Bool.or_eq_true, h s hs, h' s hs]
  exact ⟨fun z => z.elim (fun ⟨a, b⟩ => ⟨a, (e s a).mpr (Or.inl b)⟩) (fun ⟨a, b⟩ => ⟨a, (e s a).mpr (Or.inr b)⟩), fun ⟨a, b⟩ => ((e s a).mp b).elim (fun c => Or.inl ⟨a, c⟩) (fun c => Or.inr ⟨a, c⟩)⟩
theorem Bs.t1 {x : Int64} {p : Nat → Prop} {k : Nat} (h : Bs x p) (hk : k < 60) : lg_cmp ((x >>> ((nI k).toInt64 &&& 63)) &&& 1) 1 = 0 ↔ p k := by
  rw [bl_t1 (by omega), h k (by omega)]
  exact ⟨fun z => z.2, fun z => ⟨hk, z⟩⟩
theorem Bs.t0 {x : Int64} {p : Nat → Prop} {k : Nat} (h : Bs x p) (hk : k < 60) : lg_cmp ((x >>> ((nI k).toInt64 &&& 63)) &&& 1) 0 = 0 ↔ ¬ p k := by
  have e := h k (by omega)
  rw [bl_t0 (by omega)]
  constructor
  · intro z w
    rw [z] at e
    exact absurd (e.mpr ⟨hk, w⟩) (by decide)
  · intro z
    cases hb : bl x k
    · rfl
    · exact absurd (e.mp hb).2 z
theorem Bs.ne0 {x : Int64} {p : Nat → Prop} (h : Bs x p) : lg_cmp x 0 = 0 ↔ ∀ s, s < 60 → ¬ p s := by
  rw [lg_cmp_eq]
  constructor
  · rintro rfl s hs hp
    have := (h s (by omega)).mpr ⟨hs, hp⟩
    rw [bl_0] at this
    cases this
  · intro hn
    apply bl_ext
    intro s hs
    rw [bl_0]
    cases hb : bl x s
    · rfl
    · have := (h s hs).mp hb
      exact absurd this.2 (hn s this.1)
