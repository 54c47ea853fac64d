/-! plain facts, of other parts -/
def bl (x : Int64) (s : Nat) : Bool := x.toBitVec.getLsbD s
theorem bl_ext {x y : Int64} (h : ∀ s, s < 64 → bl x s = bl y s) : x = y := Int64.toBitVec_inj.mp (BitVec.eq_of_getLsbD_eq (fun s hs => h s hs))
theorem bl_or (x y : Int64) (s : Nat) : bl (x ||| y) s = (bl x s || bl y s) := by unfold bl; rw [Int64.toBitVec_or, BitVec.getLsbD_or]
theorem bl_and (x y : Int64) (s : Nat) : bl (x &&& y) s = (bl x s && bl y s) := by unfold bl; rw [Int64.toBitVec_and, BitVec.getLsbD_and]
theorem bl_xor (x y : Int64) (s : Nat) : bl (x ^^^ y) s = (bl x s ^^ bl y s) := by unfold bl; rw [Int64.toBitVec_xor, BitVec.getLsbD_xor]
theorem bl_0 (s : Nat) : bl 0 s = false := by
  show (0#64).getLsbD s = false
  exact BitVec.getLsbD_zero
theorem bl_1 (s : Nat) : bl 1 s = decide (s = 0) := by
  show (1#64).getLsbD s = _
  rw [BitVec.getLsbD_one]
  simp [eq_comm]
theorem bl_m1 {s : Nat} (h : s < 64) : bl (-1) s = true := by
  show (BitVec.allOnes 64).getLsbD s = true
  rw [BitVec.getLsbD_allOnes]; exact decide_eq_true h
theorem bw_c : ∀ k, k < 64 → ((nI k).toInt64 &&& 63).toBitVec = BitVec.ofNat 64 k := by decide +kernel
theorem bw_sm : ∀ k, k < 64 → (BitVec.ofNat 64 k).smod 64 = BitVec.ofNat 64 k := by decide +kernel
theorem bl_one {k s : Nat} (hk : k < 64) (hs : s < 64) : bl ((1 : Int64) <<< ((nI k).toInt64 &&& 63)) s = decide (s = k) := by
  unfold bl
  rw [Int64.toBitVec_shiftLeft, bw_c k hk, bw_sm k hk, BitVec.shiftLeft_eq', BitVec.getLsbD_shiftLeft, BitVec.toNat_ofNat, Nat.mod_eq_of_lt (by omega)]
  show (decide (s < 64) && !decide (s < k) && (1#64).getLsbD (s - k)) = _
  rw [BitVec.getLsbD_one, Bool.eq_iff_iff]
  simp only [Bool.and_eq_true, decide_eq_true_eq, Bool.not_eq_true', decide_eq_false_iff_not]
  omega
theorem bl_sh {x : Int64} {k : Nat} (hk : k < 64) : bl (x >>> ((nI k).toInt64 &&& 63)) 0 = bl x k := by
  unfold bl
  rw [Int64.toBitVec_shiftRight, bw_c k hk, bw_sm k hk]
  show (x.toBitVec.sshiftRight (BitVec.ofNat 64 k).toNat).getLsbD 0 = _
  rw [BitVec.getLsbD_sshiftRight, BitVec.toNat_ofNat, Nat.mod_eq_of_lt (by omega)]
  simp [hk]
theorem bl_t {x : Int64} {k : Nat} (hk : k < 64) : (x >>> ((nI k).toInt64 &&& 63)) &&& 1 = if bl x k then 1 else 0 := by
  apply bl_ext
  intro s hs
  rw [bl_and, bl_1]
  by_cases h0 : s = 0
  · subst h0
    rw [bl_sh hk]
    cases bl x k
    · simp [bl_0]
    · simp [bl_1]
  · rw [decide_eq_false h0, Bool.and_false]
    cases bl x k
    · simp [bl_0]
    · simp [bl_1, h0]
theorem bl_t1 {x : Int64} {k : Nat} (hk : k < 64) : lg_cmp ((x >>> ((nI k).toInt64 &&& 63)) &&& 1) 1 = 0 ↔ bl x k = true := by
  rw [lg_cmp_eq, bl_t hk]
  cases bl x k
  · exact ⟨fun h => absurd h (by decide), fun h => absurd h (by decide)⟩
  · exact ⟨fun _ => rfl, fun _ => rfl⟩
theorem bl_t0 {x : Int64} {k : Nat} (hk : k < 64) : lg_cmp ((x >>> ((nI k).toInt64 &&& 63)) &&& 1) 0 = 0 ↔ bl x k = false := by
  rw [lg_cmp_eq, bl_t hk]
  cases bl x k
  · exact ⟨fun _ => rfl, fun _ => rfl⟩
  · exact ⟨fun h => absurd h (by decide), fun h => absurd h (by decide)⟩
theorem bl_clr {x : Int64} {k s : Nat} (hk : k < 64) (hs : s < 64) : bl (x &&& (((1 : Int64) <<< ((nI k).toInt64 &&& 63)) ^^^ (-1))) s = (bl x s && !decide (s = k)) := by
  rw [bl_and, bl_xor, bl_one hk hs, bl_m1 hs]; cases decide (s = k) <;> rfl
def pcN (n w : Nat) : Nat := sumN (fun s => if n.testBit s then 1 else 0) w
theorem sumN_front (f : Nat → Nat) : ∀ n, sumN f (n + 1) = f 0 + sumN (fun k => f (k + 1)) n
  | 0 => by simp [sumN]
  | n + 1 => by rw [sumN, sumN_front f n, sumN]; omega
theorem pcN_s (n w : Nat) : pcN n (w + 1) = n % 2 + pcN (n / 2) w := by
  unfold pcN
  rw [sumN_front]
  congr 1
  · rw [Nat.testBit_zero]
    rcases Nat.mod_two_eq_zero_or_one n with h | h <;> simp [h]
  · exact sumN_congr _ (fun k _ => by rw [Nat.testBit_succ])
theorem pcN_and : ∀ (w n : Nat), n < 2 ^ w → n ≠ 0 → pcN (n &&& (n - 1)) w + 1 = pcN n w
  | 0, n, h, h0 => by omega
  | w + 1, n, h, h0 => by
    rw [pcN_s, pcN_s, Nat.and_div_two]
    have hlt : n / 2 < 2 ^ w := by rw [Nat.pow_succ] at h; omega
    have hm : (n &&& (n - 1)) % 2 = 0 := by
      have h2 : ¬ ((n &&& (n - 1)) % 2 = 1) := by rw [Nat.and_mod_two_eq_one]; omega
      omega
    rw [hm]
    rcases Nat.mod_two_eq_zero_or_one n with h1 | h1
    · have e : (n - 1) / 2 = n / 2 - 1 := by omega
      rw [e, h1]
      have := pcN_and w (n / 2) hlt (by omega)
      omega
    · have e : (n - 1) / 2 = n / 2 := by omega
      rw [e, h1, Nat.and_self]; omega
def cnt (x : Int64) : Nat := sumN (fun s => if bl x s then 1 else 0) 64
theorem cnt_pc (x : Int64) : cnt x = pcN x.toBitVec.toNat 64 := sumN_congr _ (fun s _ => by
  show (if x.toBitVec.getLsbD s then 1 else 0) = _
  rw [← BitVec.testBit_toNat])
theorem cnt_le (x : Int64) : cnt x ≤ 64 := by
  have : cnt x ≤ 64 * 1 := sumN_le 64 (fun s _ => by split <;> omega)
  omega
theorem cnt_and {x : Int64} (h : x ≠ 0) : cnt (x &&& (x - 1)) + 1 = cnt x := by
  have h0 : x.toBitVec.toNat ≠ 0 := fun e => h (Int64.toBitVec_inj.mp (BitVec.eq_of_toNat_eq (by rw [e]; rfl)))
  rw [cnt_pc, cnt_pc, Int64.toBitVec_and, BitVec.toNat_and, Int64.toBitVec_sub]
  have e : (x.toBitVec - (1 : Int64).toBitVec).toNat = x.toBitVec.toNat - 1 := by
    rw [BitVec.toNat_sub]
    show (2 ^ 64 - 1 + x.toBitVec.toNat) % 2 ^ 64 = _
    have := x.toBitVec.isLt
    omega
  rw [e]
  exact pcN_and 64 _ x.toBitVec.isLt h0
theorem cnt_0 : cnt 0 = 0 := sumN_zero _ (fun s _ => by rw [bl_0]; rfl)
/-- the bits of x are the places below 60 of which p holds -/
def Bs (x : Int64) (p : Nat → Prop) : Prop := ∀ s, s < 64 → (bl x s = true ↔ s < 60 ∧ p s)
theorem Bs.cntE {x : Int64} {p : Nat → Prop} (h : Bs x p) : cnt x = sumN (fun s => bN (p s)) 60 := by
  unfold cnt
  rw [sumN_ext (m := 60) (by decide) (fun k h1 h2 => by
    have := h k h2
    cases hb : bl x k
    · rfl
    · rw [hb] at this; have := (this.mp rfl).1; omega)]
  refine sumN_congr _ (fun k hk => ?_)
  have := h k (by omega)
  by_cases hp : p k
  · rw [bN_t hp, if_pos (this.mpr ⟨hk, hp⟩)]
  · rw [bN_f hp, if_neg (fun z => hp (this.mp z).2)]
theorem Bs.congr {x : Int64} {p q : Nat → Prop} (h : Bs x p) (e : ∀ s, s < 60 → (p s ↔ q s)) : Bs x q := fun s hs => by
  rw [h s hs]
  exact ⟨fun ⟨a, b⟩ => ⟨a, (e s a).mp b⟩, fun ⟨a, b⟩ => ⟨a, (e s a).mpr b⟩⟩
theorem Bs.zero {p : Nat → Prop} (h : ∀ s, s < 60 → ¬ p s) : Bs 0 p := fun s hs => by
  rw [bl_0]
  exact ⟨fun z => absurd z (by decide), fun z => absurd z.2 (h s z.1)⟩
theorem Bs.add {x : Int64} {p q : Nat → Prop} {k : Nat} (h : Bs x p) (hk : k < 60) (e : ∀ s, s < 60 → (q s ↔ p s ∨ s = k)) : Bs (x ||| ((1 : Int64) <<< ((nI k).toInt64 &&& 63))) q := fun s hs => by
  rw [bl_or, bl_one (by omega) hs, Bool.or_eq_true, decide_eq_true_eq, h s hs]
  constructor
  · rintro (⟨a, b⟩ | rfl)
    · exact ⟨a, (e s a).mpr (Or.inl b)⟩
    · exact ⟨hk, (e s hk).mpr (Or.inr rfl)⟩
  · rintro ⟨a, b⟩
    rcases (e s a).mp b with c | c
    · exact Or.inl ⟨a, c⟩
    · exact Or.inr c
theorem Bs.del {x : Int64} {p q : Nat → Prop} {k : Nat} (h : Bs x p) (hk : k < 60) (e : ∀ s, s < 60 → (q s ↔ p s ∧ s ≠ k)) : Bs (x &&& (((1 : Int64) <<< ((nI k).toInt64 &&& 63)) ^^^ (-1))) q := fun s hs => by
  rw [bl_clr (by omega) hs, Bool.and_eq_true, h s hs, Bool.not_eq_true', decide_eq_false_iff_not]
  exact ⟨fun ⟨⟨a, b⟩, c⟩ => ⟨a, (e s a).mpr ⟨b, c⟩⟩, fun ⟨a, b⟩ => ⟨⟨a, ((e s a).mp b).1⟩, ((e s a).mp b).2⟩⟩
theorem Bs.or {x y : Int64} {p q r : Nat → Prop} (h : Bs x p) (h' : Bs y q) (e : ∀ s, s < 60 → (r s ↔ p s ∨ q s)) : Bs (x ||| y) r := fun s hs => by
  rw [bl_or, Bool.or_eq_true, h s hs, h' s hs]
  exact ⟨fun z => z.elim (fun ⟨a, b⟩ => ⟨a, (e s a).mpr (Or.inl b)⟩) (fun ⟨a, b⟩ => ⟨a, (e s a).mpr (Or.inr b)⟩), fun ⟨a, b⟩ => ((e s a).mp b).elim (fun c => Or.inl ⟨a, c⟩) (fun c => Or.inr ⟨a, c⟩)⟩
theorem Bs.t1 {x : Int64} {p : Nat → Prop} {k : Nat} (h : Bs x p) (hk : k < 60) : lg_cmp ((x >>> ((nI k).toInt64 &&& 63)) &&& 1) 1 = 0 ↔ p k := by
  rw [bl_t1 (by omega), h k (by omega)]
  exact ⟨fun z => z.2, fun z => ⟨hk, z⟩⟩
theorem Bs.t0 {x : Int64} {p : Nat → Prop} {k : Nat} (h : Bs x p) (hk : k < 60) : lg_cmp ((x >>> ((nI k).toInt64 &&& 63)) &&& 1) 0 = 0 ↔ ¬ p k := by
  have e := h k (by omega)
  rw [bl_t0 (by omega)]
  constructor
  · intro z w
    rw [z] at e
    exact absurd (e.mpr ⟨hk, w⟩) (by decide)
  · intro z
    cases hb : bl x k
    · rfl
    · exact absurd (e.mp hb).2 z
theorem Bs.ne0 {x : Int64} {p : Nat → Prop} (h : Bs x p) : lg_cmp x 0 = 0 ↔ ∀ s, s < 60 → ¬ p s := by
  rw [lg_cmp_eq]
  constructor
  · rintro rfl s hs hp
    have := (h s (by omega)).mpr ⟨hs, hp⟩
    rw [bl_0] at this
    cases this
  · intro hn
    apply bl_ext
    intro s hs
    rw [bl_0]
    cases hb : bl x s
    · rfl
    · have := (h s hs).mp hb
      exact absurd this.2 (hn s this.1)

def b1E (x : Int32) : Int32 := x - (((x.toUInt32 >>> ((1 : Int32).toUInt32 &&& Int32.toUInt32 31)).toInt32) &&& (1431655765 : Int32))
def b2E (x : Int32) : Int32 := (x &&& (858993459 : Int32)) + (((x.toUInt32 >>> ((2 : Int32).toUInt32 &&& Int32.toUInt32 31)).toInt32) &&& (858993459 : Int32))
def b3E (x : Int32) : Int32 := (x + ((x.toUInt32 >>> ((4 : Int32).toUInt32 &&& Int32.toUInt32 31)).toInt32)) &&& (252645135 : Int32)
def b4E (x : Int32) : Int32 := x + ((x.toUInt32 >>> ((8 : Int32).toUInt32 &&& Int32.toUInt32 31)).toInt32)
def b5E (x : Int32) : Int32 := x + ((x.toUInt32 >>> ((16 : Int32).toUInt32 &&& Int32.toUInt32 31)).toInt32)
theorem bcE_eq (x : Int32) : bcE x = b5E (b4E (b3E (b2E (b1E x)))) &&& (63 : Int32) := rfl
theorem nI_and (a b : Nat) : nI a &&& nI b = nI (a &&& b) := by
  apply Int32.toBitVec_inj.mp
  simp [nI, Int32.toBitVec_and, BitVec.ofNat_and]
theorem nx_cnt : ∀ j : Fin 32, (UInt32.ofNat j.val &&& Int32.toUInt32 31).toNat % 32 = j.val := by decide +kernel
theorem nx_ush {k j : Nat} (hk : k < 65536) (hj : j < 32) : ((nI k).toUInt32 >>> ((nI j).toUInt32 &&& Int32.toUInt32 31)).toInt32 = nI (k / 2 ^ j) := by
  have hs : k >>> j ≤ k := by
    rw [Nat.shiftRight_eq_div_pow]
    exact Nat.div_le_self _ _
  have e2 : UInt32.ofNat k >>> (UInt32.ofNat j &&& Int32.toUInt32 31) = UInt32.ofNat (k >>> j) := by
    apply UInt32.toNat_inj.1
    have h1 : (UInt32.ofNat k).toNat = k := Nat.mod_eq_of_lt (by omega)
    have h2 : (UInt32.ofNat (k >>> j)).toNat = k >>> j := Nat.mod_eq_of_lt (by omega)
    rw [UInt32.toNat_shiftRight, nx_cnt ⟨j, hj⟩, h1, h2]
  show (UInt32.ofNat k >>> (UInt32.ofNat j &&& Int32.toUInt32 31)).toInt32 = _
  rw [e2, Nat.shiftRight_eq_div_pow]
  rfl
def b1N (x : Nat) : Nat := x - (x / 2 ^ 1 &&& 1431655765)
def b2N (x : Nat) : Nat := (x &&& 858993459) + (x / 2 ^ 2 &&& 858993459)
def b3N (x : Nat) : Nat := (x + x / 2 ^ 4) &&& 252645135
def b4N (x : Nat) : Nat := x + x / 2 ^ 8
def b5N (x : Nat) : Nat := x + x / 2 ^ 16
theorem b1_ok {x : Nat} (h : x < 65536) : b1E (nI x) = nI (b1N x) := by
  unfold b1E b1N
  rw [I1, nx_ush h (by decide), show (1431655765 : Int32) = nI 1431655765 from rfl, nI_and, nI_sub]
  have : x / 2 ^ 1 &&& 1431655765 ≤ x / 2 ^ 1 := Nat.and_le_left
  omega
theorem b2_ok {x : Nat} (h : x < 65536) : b2E (nI x) = nI (b2N x) := by
  unfold b2E b2N
  rw [I2, nx_ush h (by decide), show (858993459 : Int32) = nI 858993459 from rfl, nI_and, nI_and, nI_add]
theorem b3_ok {x : Nat} (h : x < 65536) : b3E (nI x) = nI (b3N x) := by
  unfold b3E b3N
  rw [I4, nx_ush h (by decide), show (252645135 : Int32) = nI 252645135 from rfl, nI_add, nI_and]
theorem b4_ok {x : Nat} (h : x < 65536) : b4E (nI x) = nI (b4N x) := by
  unfold b4E b4N
  rw [I8, nx_ush h (by decide), nI_add]
theorem b5_ok {x : Nat} (h : x < 65536) : b5E (nI x) = nI (b5N x) := by
  unfold b5E b5N
  rw [I16, nx_ush h (by decide), nI_add]
def pcR : Nat → Nat → Nat
  | 0, _ => 0
  | w + 1, n => n % 2 + pcR w (n / 2)
theorem pcR_eq : ∀ w n, pcN n w = pcR w n
  | 0, _ => rfl
  | w + 1, n => by rw [pcN_s, pcR, pcR_eq w]
def b1K (x : Nat) : Nat := Nat.sub x (Nat.land (Nat.div x 2) 1431655765)
def b2K (x : Nat) : Nat := Nat.add (Nat.land x 858993459) (Nat.land (Nat.div x 4) 858993459)
def b3K (x : Nat) : Nat := Nat.land (Nat.add x (Nat.div x 16)) 252645135
def b4K (x : Nat) : Nat := Nat.add x (Nat.div x 256)
def b5K (x : Nat) : Nat := Nat.land (Nat.add x (Nat.div x 65536)) 63
def pcK (n : Nat) : Nat := Nat.add (Nat.mod n 2) (Nat.add (Nat.mod (Nat.div n 2) 2) (Nat.add (Nat.mod (Nat.div n 4) 2) (Nat.add (Nat.mod (Nat.div n 8) 2) (Nat.add (Nat.mod (Nat.div n 16) 2) (Nat.add (Nat.mod (Nat.div n 32) 2) (Nat.add (Nat.mod (Nat.div n 64) 2) (Nat.add (Nat.mod (Nat.div n 128) 2) (Nat.add (Nat.mod (Nat.div n 256) 2) (Nat.add (Nat.mod (Nat.div n 512) 2) (Nat.add (Nat.mod (Nat.div n 1024) 2) (Nat.add (Nat.mod (Nat.div n 2048) 2) (Nat.add (Nat.mod (Nat.div n 4096) 2) (Nat.add (Nat.mod (Nat.div n 8192) 2) (Nat.add (Nat.mod (Nat.div n 16384) 2) (Nat.mod (Nat.div n 32768) 2)))))))))))))))
def bcChk (m : Nat) : Bool := and (and (Nat.ble (b1K m) 65535) (Nat.ble (b2K (b1K m)) 65535)) (and (and (Nat.ble (b3K (b2K (b1K m))) 65535) (Nat.ble (b4K (b3K (b2K (b1K m)))) 65535)) (Nat.beq (b5K (b4K (b3K (b2K (b1K m))))) (pcK m)))
def allB (f : Nat → Bool) (n : Nat) : Bool := Nat.rec true (fun k ih => and (f k) ih) n
theorem allB_ok {f : Nat → Bool} : ∀ n, allB f n = true → ∀ k, k < n → f k = true
  | 0, _, k, hk => absurd hk (Nat.not_lt_zero k)
  | n + 1, h, k, hk => by
    have h' : and (f n) (allB f n) = true := h
    rw [Bool.and_eq_true] at h'
    rcases Nat.lt_succ_iff_lt_or_eq.mp hk with z | rfl
    · exact allB_ok n h'.2 k z
    · exact h'.1
theorem bc_1 : allB (fun a => allB (fun b => bcChk (Nat.add (Nat.mul 256 a) b)) 256) 64 = true := by decide +kernel
theorem bc_2 : allB (fun a => allB (fun b => bcChk (Nat.add (Nat.mul 256 (Nat.add 64 a)) b)) 256) 64 = true := by decide +kernel
theorem bc_3 : allB (fun a => allB (fun b => bcChk (Nat.add (Nat.mul 256 (Nat.add 128 a)) b)) 256) 64 = true := by decide +kernel
theorem bc_4 : allB (fun a => allB (fun b => bcChk (Nat.add (Nat.mul 256 (Nat.add 192 a)) b)) 256) 64 = true := by decide +kernel
theorem bc_all {m : Nat} (h : m < 65536) : bcChk m = true := by
  have e : 256 * (m / 256) + m % 256 = m := Nat.div_add_mod m 256
  have hb : m % 256 < 256 := Nat.mod_lt _ (by decide)
  rcases (by omega : m / 256 < 64 ∨ (64 ≤ m / 256 ∧ m / 256 - 64 < 64) ∨ (128 ≤ m / 256 ∧ m / 256 - 128 < 64) ∨ (192 ≤ m / 256 ∧ m / 256 - 192 < 64)) with z | ⟨z1, z⟩ | ⟨z1, z⟩ | ⟨z1, z⟩
  · have := allB_ok _ (allB_ok _ bc_1 (m / 256) z) (m % 256) hb
    rw [show Nat.add (Nat.mul 256 (m / 256)) (m % 256) = m from e] at this; exact this
  · have := allB_ok _ (allB_ok _ bc_2 (m / 256 - 64) z) (m % 256) hb
    rw [show Nat.add 64 (m / 256 - 64) = m / 256 from Nat.add_sub_of_le z1, show Nat.add (Nat.mul 256 (m / 256)) (m % 256) = m from e] at this; exact this
  · have := allB_ok _ (allB_ok _ bc_3 (m / 256 - 128) z) (m % 256) hb
    rw [show Nat.add 128 (m / 256 - 128) = m / 256 from Nat.add_sub_of_le z1, show Nat.add (Nat.mul 256 (m / 256)) (m % 256) = m from e] at this; exact this
  · have := allB_ok _ (allB_ok _ bc_4 (m / 256 - 192) z) (m % 256) hb
    rw [show Nat.add 192 (m / 256 - 192) = m / 256 from Nat.add_sub_of_le z1, show Nat.add (Nat.mul 256 (m / 256)) (m % 256) = m from e] at this; exact this
theorem pcK_eq (n : Nat) : pcK n = pcR 16 n := by
  simp only [pcR, Nat.div_div_eq_div_mul, Nat.reduceMul, Nat.add_zero]
  rfl
theorem bc_ok {m : Nat} (h : m < 65536) : bcE (nI m) = nI (pcR 16 m) := by
  have hc := bc_all h
  unfold bcChk at hc
  rw [Bool.and_eq_true, Bool.and_eq_true, Bool.and_eq_true, Bool.and_eq_true] at hc
  obtain ⟨⟨c1, c2⟩, ⟨c3, c4⟩, c5⟩ := hc
  have d1 : b1N m < 65536 := Nat.lt_succ_of_le (Nat.le_of_ble_eq_true c1)
  have d2 : b2N (b1N m) < 65536 := Nat.lt_succ_of_le (Nat.le_of_ble_eq_true c2)
  have d3 : b3N (b2N (b1N m)) < 65536 := Nat.lt_succ_of_le (Nat.le_of_ble_eq_true c3)
  have d4 : b4N (b3N (b2N (b1N m))) < 65536 := Nat.lt_succ_of_le (Nat.le_of_ble_eq_true c4)
  have d5 : (b5N (b4N (b3N (b2N (b1N m)))) &&& 63) = pcK m := Nat.eq_of_beq_eq_true c5
  rw [bcE_eq, b1_ok h, b2_ok d1, b3_ok d2, b4_ok d3, b5_ok d4, show (63 : Int32) = nI 63 from rfl, nI_and, d5, pcK_eq]
theorem nI_64 {m : Nat} (h : m < 2 ^ 31) : (nI m).toInt64.toBitVec.toNat = m := by
  have e : (nI m).toInt64 = Int64.ofNat m := by
    apply Int64.toInt_inj.mp
    rw [Int32.toInt_toInt64, nI_toInt h, Int64.toInt_ofNat_of_lt (by omega)]
  rw [e]
  show (BitVec.ofNat 64 m).toNat = m
  rw [BitVec.toNat_ofNat, Nat.mod_eq_of_lt (by omega)]
theorem cnt_nI {m : Nat} (h : m < 65536) : nI (cnt (nI m).toInt64) = bcE (nI m) := by
  rw [bc_ok h, cnt_pc, nI_64 (by omega), ← pcR_eq]
  congr 1
  exact sumN_ext (m := 16) (by decide) (fun k h1 h2 => by
    have hp : 2 ^ 16 ≤ 2 ^ k := Nat.pow_le_pow_right (by decide) h1
    have hm : m < 2 ^ k := by omega
    rw [Nat.testBit_lt_two_pow hm]; rfl)
noncomputable def cP (D : DT) (p n : Nat) : Nat := sumN (fun t => bN (D 4 t 0 = p)) n
/-- stamps and numbers count the sheets of a parish -/
def NU (T : PT) (D : DT) : Prop := (∀ s p, s < D 1 0 0 → p < 5 → D 5 s p ≤ cP D p (s + 1)) ∧ (∀ s, s < D 1 0 0 → D 5 s (D 4 s 0) = cP D (D 4 s 0) (s + 1)) ∧
  (∀ b p, b < T 0 0 → p < 5 → D 6 b p ≤ cP D p (D 1 0 0)) ∧ ∀ b, b < T 0 0 → D 6 b b = cP D b (D 1 0 0)
def SD (T : PT) (D : DT) : Prop := ∀ r s, r < T 2 0 → s < 60 → D 10 r s ≠ 0 → s < D 1 0 0
def GI (T : PT) (D : DT) : Prop := WI T D ∧ NU T D ∧ SD T D
theorem cP_zero {T : PT} {D : DT} (h : DB T D) {p n : Nat} (hp : T 0 0 ≤ p) (hn : n ≤ D 1 0 0) : cP D p n = 0 :=
  sumN_zero _ (fun t ht => bN_f (fun e => by have := (h.2.1 t (by omega)).1; omega))
theorem NU.z6 {T : PT} {D : DT} (h : NU T D) (hB : DB T D) {b p : Nat} (hb : b < T 0 0) (hp : T 0 0 ≤ p) (hp5 : p < 5) : D 6 b p = 0 := by
  have := h.2.2.1 b p hb hp5
  rw [cP_zero hB hp (Nat.le_refl _)] at this
  omega
theorem NU.z5 {T : PT} {D : DT} (h : NU T D) (hB : DB T D) {s p : Nat} (hs : s < D 1 0 0) (hp : T 0 0 ≤ p) (hp5 : p < 5) : D 5 s p = 0 := by
  have := h.1 s p hs hp5
  rw [cP_zero hB hp (by omega)] at this
  omega
theorem NU.known {T : PT} {D : DT} (h : NU T D) (hB : DB T D) {b : Nat} (hb : b < T 0 0) : knownB D b = sumN (fun p => D 6 b p) (T 0 0) :=
  sumN_ext hB.1.1 (fun k h1 h2 => h.z6 hB hb h1 h2)
theorem DB.shN {T : PT} {D : DT} (h : DB T D) {b n : Nat} (hb : b < T 0 0) (hn : T 1 0 ≤ n) (hn6 : n < 6) : shL D b n = [] := by
  have hz : ∀ p, p < 5 → D 7 b (5 * n + p) = 0 := fun p hp => by
    rcases Nat.eq_zero_or_pos (D 7 b (5 * n + p)) with h0 | h0
    · exact h0
    · have h1 := (h.2.2.1 b hb).2.1 (5 * n + p) (by omega)
      have h2 := (h.2.2.1 b hb).2.2.2.2 (5 * n + p) (by omega) (by omega)
      have h3 := (h.2.1 (D 7 b (5 * n + p) - 1) (by omega)).2.1
      omega
  exact sLk_cut _ 0 5 0 (fun p h1 h2 => hz p (by omega))
theorem tornB_N {T : PT} {D : DT} (h : DB T D) {b l : Nat} (hb : b < T 0 0) (hl : 1 ≤ l) : tornB D b l = sumN (fun n => bN (l ≤ (shL D b n).length)) (T 1 0) :=
  sumN_ext h.1.2.1 (fun n h1 h2 => bN_f (by rw [h.shN hb h1 h2]; show ¬ l ≤ 0; omega))
theorem ud_same {D : DT} {f i j v : Nat} (h : D f i j = v) : ud D f i j v = D := by
  funext f' i' j'
  unfold ud
  split
  · rename_i z
    obtain ⟨rfl, rfl, rfl⟩ := z
    exact h.symm
  · rfl
theorem merged_mk {T : PT} {D : DT} {b n v m h : Nat} : mergedN (mkD T D b n v m h) = mergedN D + bN (h = 2) := by
  unfold mergedN mkD
  have e1 : onlyD (addS (ud (ud D 1 0 0 (D 1 0 0 + 1)) 6 b b (D 6 b b + 1)) (D 1 0 0) (newS b n v m (D 0 0 0) h) (fun j => if j = b then D 6 b b + 1 else D 6 b j)) b n (D 1 0 0) (T 0 0) 1 0 0 = D 1 0 0 + 1 := by rw [onlyD_f (by decide), addS_f (by decide) (by decide), ud_f (by decide), ud_self]
  rw [e1, sumN]
  congr 1
  · exact sumN_congr _ (fun s hs => by rw [onlyD_f (by decide), addS_i (by omega), ud_f (by decide), ud_f (by decide)])
  · rw [onlyD_f (by decide), addS_4]; rfl
section XA
variable {d rc rs w mg : Nat} {Q : Option Value → Mu → Prop} {μ : Mu} {T : PT} {D : DT}
theorem least_one {b n : Nat} (hB : DB T D) (hb : b < T 0 0) (hn : n < 6) (h1 : (shL D b n).length = 1) : mergeV D b n 0 = valB D b n := by
  obtain ⟨v, hv⟩ := List.length_eq_one_iff.mp h1
  obtain ⟨v0, v1⟩ := shL_mem hB hb hn (v := v) (by rw [hv]; exact List.mem_cons_self)
  have := (hB.2.1 _ v1).2.2.1
  unfold mergeV leastB valB
  rw [if_pos rfl, hv, List.getD_cons_zero, if_neg v0]
  simp only [List.foldl_cons, List.foldl_nil]
  omega
theorem iand_b (p : Prop) (q : Prop) : bI p &&& bI q = bI (p ∧ q) := by
  by_cases hp : p
  · by_cases hq : q
    · rw [bI_t hp, bI_t hq, bI_t ⟨hp, hq⟩]; decide
    · rw [bI_t hp, bI_f hq, bI_f (fun z => hq z.2)]; decide
  · by_cases hq : q
    · rw [bI_f hp, bI_t hq, bI_f (fun z => hp z.1)]; decide
    · rw [bI_f hp, bI_f hq, bI_f (fun z => hp z.1)]; decide
/-- can be hung -/
def hng (D : DT) (b s : Nat) : Prop := D 8 b s ≠ 0 ∧ cH D b s
end XA
