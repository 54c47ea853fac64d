/-! the count of marks -/
def b1E (x : Int32) : Int32 := x - (((x.toUInt32 >>> ((1 : Int32).toUInt32 &&& Int32.toUInt32 31)).toInt32) &&& (1431655765 : Int32))
def b2E (x : Int32) : Int32 := (x &&& (858993459 : Int32)) + (((x.toUInt32 >>> ((2 : Int32).toUInt32 &&& Int32.toUInt32 31)).toInt32) &&& (858993459 : Int32))
def b3E (x : Int32) : Int32 := (x + ((x.toUInt32 >>> ((4 : Int32).toUInt32 &&& Int32.toUInt32 31)).toInt32)) &&& (252645135 : Int32)
def b4E (x : Int32) : Int32 := x + ((x.toUInt32 >>> ((8 : Int32).toUInt32 &&& Int32.toUInt32 31)).toInt32)
def b5E (x : Int32) : Int32 := x + ((x.toUInt32 >>> ((16 : Int32).toUInt32 &&& Int32.toUInt32 31)).toInt32)
theorem bcE_eq (x : Int32) : bcE x = b5E (b4E (b3E (b2E (b1E x)))) &&& (63 : Int32) := rfl
theorem nI_and (a b : Nat) : nI a &&& nI b = nI (a &&& b) := by
  apply Int32.toBitVec_inj.mp
  simp [nI, Int32.toBitVec_and, BitVec.ofNat_and]
theorem nx_cnt : ∀ j : Fin 32, (UInt32.ofNat j.val &&& Int32.toUInt32 31).toNat % 32 = j.val := by decide +kernel
theorem nx_ush {k j : Nat} (hk : k < 65536) (hj : j < 32) : ((nI k).toUInt32 >>> ((nI j).toUInt32 &&& Int32.toUInt32 31)).toInt32 = nI (k / 2 ^ j) := by
  have hs : k >>> j ≤ k := by
    rw [Nat.shiftRight_eq_div_pow]
    exact Nat.div_le_self _ _
  have e2 : UInt32.ofNat k >>> (UInt32.ofNat j &&& Int32.toUInt32 31) = UInt32.ofNat (k >>> j) := by
    apply UInt32.toNat_inj.1
    have h1 : (UInt32.ofNat k).toNat = k := Nat.mod_eq_of_lt (by omega)
    have h2 : (UInt32.ofNat (k >>> j)).toNat = k >>> j := Nat.mod_eq_of_lt (by omega)
    rw [UInt32.toNat_shiftRight, nx_cnt ⟨j, hj⟩, h1, h2]
  show (UInt32.ofNat k >>> (UInt32.ofNat j &&& Int32.toUInt32 31)).toInt32 = _
  rw [e2, Nat.shiftRight_eq_div_pow]
  rfl
def b1N (x : Nat) : Nat := x - (x / 2 ^ 1 &&& 1431655765)
def b2N (x : Nat) : Nat := (x &&& 858993459) + (x / 2 ^ 2 &&& 858993459)
def b3N (x : Nat) : Nat := (x + x / 2 ^ 4) &&& 252645135
def b4N (x : Nat) : Nat := x + x / 2 ^ 8
def b5N (x : Nat) : Nat := x + x / 2 ^ 16
theorem b1_ok {x : Nat} (h : x < 65536) : b1E (nI x) = nI (b1N x) := by
  unfold b1E b1N
  rw [I1, nx_ush h (by decide), show (1431655765 : Int32) = nI 1431655765 from rfl, nI_and, nI_sub]
  have : x / 2 ^ 1 &&& 1431655765 ≤ x / 2 ^ 1 := Nat.and_le_left
  omega
theorem b2_ok {x : Nat} (h : x < 65536) : b2E (nI x) = nI (b2N x) := by
  unfold b2E b2N
  rw [I2, nx_ush h (by decide), show (858993459 : Int32) = nI 858993459 from rfl, nI_and, nI_and, nI_add]
theorem b3_ok {x : Nat} (h : x < 65536) : b3E (nI x) = nI (b3N x) := by
  unfold b3E b3N
  rw [I4, nx_ush h (by decide), show (252645135 : Int32) = nI 252645135 from rfl, nI_add, nI_and]
theorem b4_ok {x : Nat} (h : x < 65536) : b4E (nI x) = nI (b4N x) := by
  unfold b4E b4N
  rw [I8, nx_ush h (by decide), nI_add]
theorem b5_ok {x : Nat} (h : x < 65536) : b5E (nI x) = nI (b5N x) := by
  unfold b5E b5N
  rw [I16, nx_ush h (by decide), nI_add]
def pcR : Nat → Nat → Nat
  | 0, _ => 0
  | w + 1, n => n % 2 + pcR w (n / 2)
theorem pcR_eq : ∀ w n, pcN n w = pcR w n
  | 0, _ => rfl
  | w + 1, n => by rw [pcN_s, pcR, pcR_eq w]
def b1K (x : Nat) : Nat := Nat.sub x (Nat.land (Nat.div x 2) 1431655765)
def b2K (x : Nat) : Nat := Nat.add (Nat.land x 858993459) (Nat.land (Nat.div x 4) 858993459)
def b3K (x : Nat) : Nat := Nat.land (Nat.add x (Nat.div x 16)) 252645135
def b4K (x : Nat) : Nat := Nat.add x (Nat.div x 256)
def b5K (x : Nat) : Nat := Nat.land (Nat.add x (Nat.div x 65536)) 63
def pcK (n : Nat) : Nat := Nat.add (Nat.mod n 2) (Nat.add (Nat.mod (Nat.div n 2) 2) (Nat.add (Nat.mod (Nat.div n 4) 2) (Nat.add (Nat.mod (Nat.div n 8) 2) (Nat.add (Nat.mod (Nat.div n 16) 2) (Nat.add (Nat.mod (Nat.div n 32) 2) (Nat.add (Nat.mod (Nat.div n 64) 2) (Nat.add (Nat.mod (Nat.div n 128) 2) (Nat.add (Nat.mod (Nat.div n 256) 2) (Nat.add (Nat.mod (Nat.div n 512) 2) (Nat.add (Nat.mod (Nat.div n 1024) 2) (Nat.add (Nat.mod (Nat.div n 2048) 2) (Nat.add (Nat.mod (Nat.div n 4096) 2) (Nat.add (Nat.mod (Nat.div n 8192) 2) (Nat.add (Nat.mod (Nat.div n 16384) 2) (Nat.mod (Nat.div n 32768) 2)))))))))))))))
def bcChk (m : Nat) : Bool := and (and (Nat.ble (b1K m) 65535) (Nat.ble (b2K (b1K m)) 65535)) (and (and (Nat.ble (b3K (b2K (b1K m))) 65535) (Nat.ble (b4K (b3K (b2K (b1K m)))) 65535)) (Nat.beq (b5K (b4K (b3K (b2K (b1K m))))) (pcK m)))
def allB (f : Nat → Bool) (n : Nat) : Bool := Nat.rec true (fun k ih => and (f k) ih) n
theorem allB_ok {f : Nat → Bool} : ∀ n, allB f n = true → ∀ k, k < n → f k = true
  | 0, _, k, hk => absurd hk (Nat.not_lt_zero k)
  | n + 1, h, k, hk => by
    have h' : and (f n) (allB f n) = true := h
    rw [Bool.and_eq_true] at h'
    rcases Nat.lt_succ_iff_lt_or_eq.mp hk with z | rfl
    · exact allB_ok n h'.2 k z
    · exact h'.1
theorem bc_1 : allB (fun a => allB (fun b => bcChk (Nat.add (Nat.mul 256 a) b)) 256) 64 = true := by decide +kernel
theorem bc_2 : allB (fun a => allB (fun b => bcChk (Nat.add (Nat.mul 256 (Nat.add 64 a)) b)) 256) 64 = true := by decide +kernel
theorem bc_3 : allB (fun a => allB (fun b => bcChk (Nat.add (Nat.mul 256 (Nat.add 128 a)) b)) 256) 64 = true := by decide +kernel
theorem bc_4 : allB (fun a => allB (fun b => bcChk (Nat.add (Nat.mul 256 (Nat.add 192 a)) b)) 256) 64 = true := by decide +kernel
theorem bc_all {m : Nat} (h : m < 65536) : bcChk m = true := by
  have e : 256 * (m / 256) + m % 256 = m := Nat.div_add_mod m 256
  have hb : m % 256 < 256 := Nat.mod_lt _ (by decide)
  rcases (by omega : m / 256 < 64 ∨ (64 ≤ m / 256 ∧ m / 256 - 64 < 64) ∨ (128 ≤ m / 256 ∧ m / 256 - 128 < 64) ∨ (192 ≤ m / 256 ∧ m / 256 - 192 < 64)) with z | ⟨z1, z⟩ | ⟨z1, z⟩ | ⟨z1, z⟩
  · have := allB_ok _ (allB_ok _ bc_1 (m / 256) z) (m % 256) hb
    rw [show Nat.add (Nat.mul 256 (m / 256)) (m % 256) = m from e] at this; exact this
  · have := allB_ok _ (allB_ok _ bc_2 (m / 256 - 64) z) (m % 256) hb
    rw [show Nat.add 64 (m / 256 - 64) = m / 256 from Nat.add_sub_of_le z1, show Nat.add (Nat.mul 256 (m / 256)) (m % 256) = m from e] at this; exact this
  · have := allB_ok _ (allB_ok _ bc_3 (m / 256 - 128) z) (m % 256) hb
    rw [show Nat.add 128 (m / 256 - 128) = m / 256 from Nat.add_sub_of_le z1, show Nat.add (Nat.mul 256 (m / 256)) (m % 256) = m from e] at this; exact this
  · have := allB_ok _ (allB_ok _ bc_4 (m / 256 - 192) z) (m % 256) hb
    rw [show Nat.add 192 (m / 256 - 192) = m / 256 from Nat.add_sub_of_le z1, show Nat.add (Nat.mul 256 (m / 256)) (m % 256) = m from e] at this; exact this
theorem pcK_eq (n : Nat) : pcK n = pcR 16 n := by
  simp only [pcR, Nat.div_div_eq_div_mul, Nat.reduceMul, Nat.add_zero]
  rfl
theorem bc_ok {m : Nat} (h : m < 65536) : bcE (nI m) = nI (pcR 16 m) := by
  have hc := bc_all h
  unfold bcChk at hc
  rw [Bool.and_eq_true, Bool.and_eq_true, Bool.and_eq_true, Bool.and_eq_true] at hc
  obtain ⟨⟨c1, c2⟩, ⟨c3, c4⟩, c5⟩ := hc
  have d1 : b1N m < 65536 := Nat.lt_succ_of_le (Nat.le_of_ble_eq_true c1)
  have d2 : b2N (b1N m) < 65536 := Nat.lt_succ_of_le (Nat.le_of_ble_eq_true c2)
  have d3 : b3N (b2N (b1N m)) < 65536 := Nat.lt_succ_of_le (Nat.le_of_ble_eq_true c3)
  have d4 : b4N (b3N (b2N (b1N m))) < 65536 := Nat.lt_succ_of_le (Nat.le_of_ble_eq_true c4)
  have d5 : (b5N (b4N (b3N (b2N (b1N m)))) &&& 63) = pcK m := Nat.eq_of_beq_eq_true c5
  rw [bcE_eq, b1_ok h, b2_ok d1, b3_ok d2, b4_ok d3, b5_ok d4, show (63 : Int32) = nI 63 from rfl, nI_and, d5, pcK_eq]
theorem nI_64 {m : Nat} (h : m < 2 ^ 31) : (nI m).toInt64.toBitVec.toNat = m := by
  have e : (nI m).toInt64 = Int64.ofNat m := by
    apply Int64.toInt_inj.mp
    rw [Int32.toInt_toInt64, nI_toInt h, Int64.toInt_ofNat_of_lt (by omega)]
  rw [e]
  show (BitVec.ofNat 64 m).toNat = m
  rw [BitVec.toNat_ofNat, Nat.mod_eq_of_lt (by omega)]
theorem cnt_nI {m : Nat} (h : m < 65536) : nI (cnt (nI m).toInt64) = bcE (nI m) := by
  rw [bc_ok h, cnt_pc, nI_64 (by omega), ← pcR_eq]
  congr 1
  exact sumN_ext (m := 16) (by decide) (fun k h1 h2 => by
    have hp : 2 ^ 16 ≤ 2 ^ k := Nat.pow_le_pow_right (by decide) h1
    have hm : m < 2 ^ k := by omega
    rw [Nat.testBit_lt_two_pow hm]; rfl)
/-! what always holds of what days change -/
noncomputable def cP (D : DT) (p n : Nat) : Nat := sumN (fun t => bN (D 4 t 0 = p)) n
/-- stamps and numbers count the sheets of a parish -/
def NU (T : PT) (D : DT) : Prop := (∀ s p, s < D 1 0 0 → p < 5 → D 5 s p ≤ cP D p (s + 1)) ∧ (∀ s, s < D 1 0 0 → D 5 s (D 4 s 0) = cP D (D 4 s 0) (s + 1)) ∧
  (∀ b p, b < T 0 0 → p < 5 → D 6 b p ≤ cP D p (D 1 0 0)) ∧ ∀ b, b < T 0 0 → D 6 b b = cP D b (D 1 0 0)
def SD (T : PT) (D : DT) : Prop := ∀ r s, r < T 2 0 → s < 60 → D 10 r s ≠ 0 → s < D 1 0 0
def GI (T : PT) (D : DT) : Prop := WI T D ∧ NU T D ∧ SD T D
theorem cP_zero {T : PT} {D : DT} (h : DB T D) {p n : Nat} (hp : T 0 0 ≤ p) (hn : n ≤ D 1 0 0) : cP D p n = 0 :=
  sumN_zero _ (fun t ht => bN_f (fun e => by have := (h.2.1 t (by omega)).1; omega))
theorem NU.z6 {T : PT} {D : DT} (h : NU T D) (hB : DB T D) {b p : Nat} (hb : b < T 0 0) (hp : T 0 0 ≤ p) (hp5 : p < 5) : D 6 b p = 0 := by
  have := h.2.2.1 b p hb hp5
  rw [cP_zero hB hp (Nat.le_refl _)] at this
  omega
theorem NU.z5 {T : PT} {D : DT} (h : NU T D) (hB : DB T D) {s p : Nat} (hs : s < D 1 0 0) (hp : T 0 0 ≤ p) (hp5 : p < 5) : D 5 s p = 0 := by
  have := h.1 s p hs hp5
  rw [cP_zero hB hp (by omega)] at this
  omega
theorem NU.known {T : PT} {D : DT} (h : NU T D) (hB : DB T D) {b : Nat} (hb : b < T 0 0) : knownB D b = sumN (fun p => D 6 b p) (T 0 0) :=
  sumN_ext hB.1.1 (fun k h1 h2 => h.z6 hB hb h1 h2)
theorem DB.shN {T : PT} {D : DT} (h : DB T D) {b n : Nat} (hb : b < T 0 0) (hn : T 1 0 ≤ n) (hn6 : n < 6) : shL D b n = [] := by
  have hz : ∀ p, p < 5 → D 7 b (5 * n + p) = 0 := fun p hp => by
    rcases Nat.eq_zero_or_pos (D 7 b (5 * n + p)) with h0 | h0
    · exact h0
    · have h1 := (h.2.2.1 b hb).2.1 (5 * n + p) (by omega)
      have h2 := (h.2.2.1 b hb).2.2.2.2 (5 * n + p) (by omega) (by omega)
      have h3 := (h.2.1 (D 7 b (5 * n + p) - 1) (by omega)).2.1
      omega
  exact sLk_cut _ 0 5 0 (fun p h1 h2 => hz p (by omega))
theorem tornB_N {T : PT} {D : DT} (h : DB T D) {b l : Nat} (hb : b < T 0 0) (hl : 1 ≤ l) : tornB D b l = sumN (fun n => bN (l ≤ (shL D b n).length)) (T 1 0) :=
  sumN_ext h.1.2.1 (fun n h1 h2 => bN_f (by rw [h.shN hb h1 h2]; show ¬ l ≤ 0; omega))
/-! what is asked of the model's worlds -/
section MSR
variable {d rc rs w : Nat} {Q : Option Value → Mu → Prop} {μ : Mu} {T : PT} {D : DT} {mg : Nat}
theorem c_MS_valueOf {b n y : Nat} (hC : XN μ w T D mg) (hD : 3 ≤ d) (hS : St μ) (hb : b < T 0 0) (hn : n < 6) (hy : y < 3) (hQ : Q (some (.int (nI (mergeV D b n y)))) μ) : Cal K_MS_valueOf d rc rs [.ref (hd 65 w), .int (nI b), .int (nI n), .int (nI y)] μ Q := by
  have hw := hC.w2; have hP := hC.P5; have h60 := hC.S60; have hl5 := shL_len D b n
  refine e_MS_valueOf (g_MS_valueOf_0 (by omega) hw hS ?_)
  have key : ∀ (R : List Nat) (k m0 m1 m2 : Nat), (shL D b n).drop k = R → k ≤ (shL D b n).length → m1 ≤ 9999 → m2 ≤ 9999 → R.foldl (fun m v => min m (D 4 (v - 1) 2)) m1 = leastB D b n → R.foldl (fun m v => max m (D 4 (v - 1) 2)) m2 = mostB D b n → R.foldl (fun m v => m + D 4 (v - 1) 2) m0 = sumB D b n → Wx K_MS_valueOf d rc rs (fun r μ' => St μ' ∧ Q r μ') 14 [(0, .ref (hd 65 w)), (1, .int (nI b)), (2, .int (nI n)), (3, .int (nI y)), (4, .int (nI (min m0 9999))), (5, .int (nI m1)), (6, .int (nI m2)), (7, .int (nI k))] [] μ := by
    intro R
    induction R with
    | nil =>
      intro k m0 m1 m2 e hk b1 b2 h1 h2 h3
      have := drop_nil e
      refine g_MS_valueOf_14 (by omega) hw hS (c_MS_shows hC (by omega) hS hb hn ⟨_, rfl, fun _ => ?_, fun h => absurd ?_ h⟩)
      · simp only [List.foldl_nil] at h1 h2 h3
        rw [h1, h2, h3, I0, I1, nI_eq (by omega) (by decide), nI_eq (by omega) (by decide)]
        unfold mergeV at hQ
        refine ⟨fun z => ⟨hS, ?_⟩, fun z => ⟨fun z1 => ⟨hS, ?_⟩, fun z1 => ⟨hS, ?_⟩⟩⟩
        · rw [if_pos z] at hQ; exact hQ
        · rw [if_neg z, if_pos z1] at hQ; exact hQ
        · rw [if_neg z, if_neg z1] at hQ; exact hQ
      · rw [nI_leI (by omega) (by omega)]; exact this
    | cons v R ih =>
      intro k m0 m1 m2 e hk b1 b2 h1 h2 h3
      obtain ⟨e1, e2, e3⟩ := drop_hd e
      have hv : v ∈ shL D b n := List.mem_of_mem_drop (i := k) (by rw [e]; exact List.mem_cons_self)
      obtain ⟨v0, v1⟩ := shL_mem hC.2.1 hb hn hv
      have hv2 := (hC.shB v1).2.2.1
      refine g_MS_valueOf_14 (by omega) hw hS (c_MS_shows hC (by omega) hS hb hn ⟨_, rfl, fun h => absurd h (nI_ge e3 (by omega)), fun _ => ?_⟩)
      refine c_MS_shown hC (by omega) hS hb hn (by omega) ⟨_, rfl, ?_⟩
      rw [e1, oI_p (by omega), nI_clamp (by omega), hC.s3 v1, nI_add, I9999, imin_nI (by decide) (by omega), imin_nI (by omega) (by omega), imax_nI (by omega) (by omega), nI_1]
      rw [show min 9999 (min m0 9999 + D 4 (v - 1) 2) = min (m0 + D 4 (v - 1) 2) 9999 by omega]
      exact ⟨vp_in_nI (by omega) (by decide), ih (k + 1) _ _ _ e2 e3 (by omega) (by omega) h1 h2 h3⟩
  exact key _ 0 0 9999 0 rfl (Nat.zero_le _) (by decide) (by decide) rfl rfl rfl
theorem c_MS_known {b : Nat} (hC : XN μ w T D mg) (hD : 2 ≤ d) (hS : St μ) (hN : NU T D) (hb : b < T 0 0) (hQ : Q (some (.int (nI (knownB D b)))) μ) : Cal K_MS_known d rc rs [.ref (hd 65 w), .int (nI b)] μ Q := by
  have hw := hC.w2; have hP := hC.P5
  rw [hN.known hC.2.1 hb] at hQ
  refine e_MS_known (g_MS_known_0 (by omega) hw hS ?_)
  have key : ∀ k, k ≤ T 0 0 → Wx K_MS_known d rc rs (fun r μ' => St μ' ∧ Q r μ') 4 [(0, .ref (hd 65 w)), (1, .int (nI b)), (2, .int (nI (sumN (fun p => D 6 b p) k))), (3, .int (nI k))] [] μ := by
    refine up_loop _ ?_ (fun k hk ih => ?_)
    · refine g_MS_known_4 (by omega) hw hS ⟨fun _ => ⟨hS, hQ⟩, fun h => absurd ?_ h⟩
      rw [hC.pP]; exact Int32.le_refl _
    · refine g_MS_known_4 (by omega) hw hS ⟨fun h => absurd h ?_, fun _ => c_MS_numberOf hC (by omega) hS hb (by omega) ⟨_, rfl, ?_⟩⟩
      · rw [hC.pP]; exact nI_ge hk (by omega)
      rw [nI_add, nI_1]; exact ih
  exact key 0 (Nat.zero_le _)
theorem c_MS_allKnown (hC : XN μ w T D mg) (hD : 3 ≤ d) (hS : St μ) (hN : NU T D) (hQ : Q (some (.int (nI (knownAll T D)))) μ) : Cal K_MS_allKnown d rc rs [.ref (hd 65 w)] μ Q := by
  have hw := hC.w2; have hP := hC.P5
  refine e_MS_allKnown (g_MS_allKnown_0 (by omega) hw hS ?_)
  have key : ∀ k, k ≤ T 0 0 → Wx K_MS_allKnown d rc rs (fun r μ' => St μ' ∧ Q r μ') 4 [(0, .ref (hd 65 w)), (1, .int (nI (sumN (fun b => knownB D b) k))), (2, .int (nI k))] [] μ := by
    refine up_loop _ ?_ (fun k hk ih => ?_)
    · refine g_MS_allKnown_4 (by omega) hw hS ⟨fun _ => ⟨hS, hQ⟩, fun h => absurd ?_ h⟩
      rw [hC.pP]; exact Int32.le_refl _
    · refine g_MS_allKnown_4 (by omega) hw hS ⟨fun h => absurd h ?_, fun _ => c_MS_known hC (by omega) hS hN hk ⟨_, rfl, ?_⟩⟩
      · rw [hC.pP]; exact nI_ge hk (by omega)
      rw [nI_add, nI_1]; exact ih
  exact key 0 (Nat.zero_le _)
theorem c_MS_noticesOf {b l : Nat} (hC : XN μ w T D mg) (hD : 3 ≤ d) (hS : St μ) (hb : b < T 0 0) (hl : 1 ≤ l) (hl2 : l < 2 ^ 31) (hQ : Q (some (.int (nI (tornB D b l)))) μ) : Cal K_MS_noticesOf d rc rs [.ref (hd 65 w), .int (nI b), .int (nI l)] μ Q := by
  have hw := hC.w2; have hP := hC.P5; have hN := hC.N6
  rw [tornB_N hC.2.1 hb hl] at hQ
  refine e_MS_noticesOf (g_MS_noticesOf_0 (by omega) hw hS ?_)
  have key : ∀ k, k ≤ T 1 0 → Wx K_MS_noticesOf d rc rs (fun r μ' => St μ' ∧ Q r μ') 5 [(0, .ref (hd 65 w)), (1, .int (nI b)), (2, .int (nI l)), (3, .int (nI (sumN (fun n => bN (l ≤ (shL D b n).length)) k))), (4, .int (nI k))] [] μ := by
    refine up_loop _ ?_ (fun k hk ih => ?_)
    · refine g_MS_noticesOf_5 (by omega) hw hS ⟨fun _ => ⟨hS, hQ⟩, fun h => absurd ?_ h⟩
      rw [hC.pN]; exact Int32.le_refl _
    · have hl5 := shL_len D b k
      refine g_MS_noticesOf_5 (by omega) hw hS ⟨fun h => absurd h ?_, fun _ => c_MS_shows hC (by omega) hS hb (by omega) ⟨_, rfl, fun e => ?_, fun e => ?_⟩⟩
      · rw [hC.pN]; exact nI_ge hk (by omega)
      · rw [nI_ltI (by omega) hl2] at e
        rw [sumN, bN_f (by omega)] at ih
        rw [I0, nI_add, nI_1]; exact ih
      · rw [nI_ltI (by omega) hl2] at e
        rw [sumN, bN_t (by omega)] at ih
        rw [I1, nI_add, nI_add]; exact ih
  exact key 0 (Nat.zero_le _)
theorem c_MS_pushed {k b n : Nat} (hC : XN μ w T D mg) (hD : 4 ≤ d) (hS : St μ) (hk : 18 ≤ k ∧ k ≤ 23) (hk1 : k ≠ 21) (hb : b < T 0 0) (hn : n < 6) (hQ : Q (some (.int (ansX T D k b n))) μ) : Cal K_MS_pushed d rc rs [.ref (hd 65 w), .int (nI k), .int (nI b), .int (nI n)] μ Q := by
  have hw := hC.w2; have hP := hC.P5; have h60 := hC.S60; have hl5 := shL_len D b n
  refine e_MS_pushed (g_MS_pushed_0 (by omega) hw hS (c_MS_shows hC (by omega) hS hb hn ⟨_, rfl, ?_⟩))
  rcases (by omega : k = 18 ∨ k = 19 ∨ k = 20 ∨ k = 22 ∨ k = 23) with rfl | rfl | rfl | rfl | rfl
  · have e : ansX T D 18 b n = nI (valB D b n) := rfl
    rw [e] at hQ
    refine ⟨fun _ => ?_, fun h => absurd h (by decide), fun h => absurd h (by decide), fun h => absurd h (by decide), fun h => absurd h (by decide)⟩
    rw [I0, nI_eq (by omega) (by decide)]
    unfold valB at hQ
    refine ⟨fun z => ⟨hS, ?_⟩, fun z => c_MS_shown hC (by omega) hS hb hn (by decide) ⟨_, rfl, ?_⟩⟩
    · rw [List.length_eq_zero_iff.mp z] at hQ
      rw [List.getD_nil, if_pos rfl] at hQ; exact hQ
    · obtain ⟨v, R, hv⟩ : ∃ v R, shL D b n = v :: R := by
        cases hc : shL D b n with
        | nil => rw [hc] at z; exact absurd rfl z
        | cons v R => exact ⟨v, R, rfl⟩
      obtain ⟨v0, v1⟩ := shL_mem hC.2.1 hb hn (v := v) (by rw [hv]; exact List.mem_cons_self)
      rw [hv, List.getD_cons_zero] at hQ ⊢
      rw [if_neg v0] at hQ
      rw [oI_p (by omega), nI_clamp (by omega), hC.s3 v1]
      exact ⟨vp_in_nI (by omega) (by decide), hS, hQ⟩
  · exact ⟨fun h => absurd h (by decide), fun _ => ⟨hS, hQ⟩, fun h => absurd h (by decide), fun h => absurd h (by decide), fun h => absurd h (by decide)⟩
  · have e : ansX T D 20 b n = bcE (nI (marksB D b n)) := rfl
    rw [e] at hQ
    refine ⟨fun h => absurd h (by decide), fun h => absurd h (by decide), fun _ => ?_, fun h => absurd h (by decide), fun h => absurd h (by decide)⟩
    refine c_MS_marksOf hC (by omega) hS hb hn ⟨_, rfl, c_MM_bits (by omega) hS ⟨_, rfl, hS, ?_⟩⟩
    rw [cnt_nI (marksB_lt hC.2.1 hb hn)]; exact hQ
  · have e : ansX T D 22 b n = bI (2 ≤ (shL D b n).length) := rfl
    rw [e] at hQ
    refine ⟨fun h => absurd h (by decide), fun h => absurd h (by decide), fun h => absurd h (by decide), fun _ => ?_, fun h => absurd h (by decide)⟩
    rw [I1, nI_leI (by omega) (by decide)]
    refine ⟨fun z => ⟨hS, ?_⟩, fun z => ⟨hS, ?_⟩⟩
    · rw [bI_f (by omega)] at hQ; exact hQ
    · rw [bI_t (by omega)] at hQ; exact hQ
  · have e : ansX T D 23 b n = bI (1 ≤ (shL D b n).length) := rfl
    rw [e] at hQ
    refine ⟨fun h => absurd h (by decide), fun h => absurd h (by decide), fun h => absurd h (by decide), fun h => absurd h (by decide), fun _ => ?_⟩
    rw [I0, nI_leI (by omega) (by decide)]
    refine ⟨fun z => ⟨hS, ?_⟩, fun z => ⟨hS, ?_⟩⟩
    · rw [bI_f (by omega)] at hQ; exact hQ
    · rw [bI_t (by omega)] at hQ; exact hQ
end MSR
