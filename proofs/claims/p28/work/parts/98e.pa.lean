/-! a whole text is read, and has no error -/
def oj (g : Nat → List Ord3) : Nat → List Ord3
  | 0 => []
  | n + 1 => oj g n ++ g n
theorem oj_nil : ∀ n, oj (fun _ => []) n = []
  | 0 => rfl
  | n + 1 => by rw [oj, oj_nil n]; rfl
theorem oj_len {g : Nat → Ord3} : ∀ n, (oj (fun k => [g k]) n).length = n
  | 0 => rfl
  | n + 1 => by rw [oj, List.length_append, oj_len n]; rfl
theorem oj_get {g : Nat → Ord3} : ∀ n k, k < n → (oj (fun k => [g k]) n)[k]? = some (g k)
  | 0, k, h => absurd h (Nat.not_lt_zero _)
  | n + 1, k, h => by
    have hl := oj_len (g := g) n
    rw [oj]
    rcases Nat.lt_or_ge k n with z | z
    · rw [List.getElem?_append_left (by omega)]; exact oj_get n k z
    · rw [List.getElem?_append_right (by omega), hl, show k = n by omega, Nat.sub_self]; rfl
theorem fl_PLs {K : Nat → Nat} {f : Nat → List TkE} {g : Nat → List Ord3} {p : Nat} : ∀ n, (∀ k, k < n → PLs K 1 (p + (fl f k).length) (p + (fl f k).length + (f k).length) (g k)) → PLs K n p (p + (fl f n).length) (oj g n)
  | 0, _ => PLs.nil
  | n + 1, h => by
    have := (fl_PLs n (fun k hk => h k (by omega))).trans (h n (by omega))
    rw [Nat.add_comm 1 n] at this
    rw [fl, List.length_append, ← Nat.add_assoc]; exact this
section PA
variable {t : Nat → Nat} {L P N R O i j : Nat} {F G H : Nat → Nat} {W : Nat → Nat → Nat} {x : TkE}
def oP (P N R : Nat) (W : Nat → Nat → Nat) (k : Nat) : Nat := oA P N R + (fl (fun k => orT (W k)) k).length
def oG (P N R : Nat) (W : Nat → Nat → Nat) (k : Nat) : Ord3 := (oP P N R W k, hdO (W k) (oP P N R W k), tsO (W k) (oP P N R W k + (hdT (W k) (spT (W k))).length + 1))
def oS (P N R O : Nat) (W : Nat → Nat → Nat) : List Ord3 := oj (fun k => [oG P N R W k]) O
theorem pl_parse (hS : TXS t L (plT P N R O F G H W)) (hB : PBd P N R O F G H W) : plF (tK t L) 400 0 = ((plT P N R O F G H W).length, some (oS P N R O W)) := by
  have a1 : PLs (tK t L) P 0 (0 + (fl paT P).length) (oj (fun _ => []) P) := fl_PLs P (fun k hk => by
    rw [pa_len, Nat.zero_add]
    have v := hS.kat (va_pa hk)
    have k0 : tK t L (3 * k) = 0 := v 0 _ rfl
    exact PLs.one (by omega) (ln_g (Or.inl k0) (v 1 _ rfl)) (v 2 _ rfl))
  have a2 : PLs (tK t L) N (3 * P) (3 * P + (fl noT N).length) (oj (fun _ => []) N) := fl_PLs N (fun k hk => by
    rw [no_len]
    have v := hS.kat (va_no hk)
    have k0 : tK t L (3 * P + 3 * k) = 5 := v 0 _ rfl
    exact PLs.one (by omega) (ln_g (Or.inr k0) (v 1 _ rfl)) (v 2 _ rfl))
  have a3 : PLs (tK t L) R (3 * P + 3 * N) (3 * P + 3 * N + (fl (rdT F G H) R).length) (oj (fun _ => []) R) := fl_PLs R (fun k hk => by
    rw [rd_len]
    have v := hS.kat (va_rd hk)
    have k0 : tK t L (3 * P + 3 * N + 9 * k) = 1 := v 0 _ rfl
    exact PLs.one (by omega) (ln_r k0 (v 1 _ rfl) (v 2 _ rfl) (v 3 _ rfl) (v 4 _ rfl) (v 5 _ rfl) (v 6 _ rfl) (v 7 _ rfl)) (v 8 _ rfl))
  have a4 : PLs (tK t L) O (oA P N R) (oA P N R + (fl (fun k => orT (W k)) O).length) (oj (fun k => [oG P N R W k]) O) := fl_PLs O (fun k hk => by
    obtain ⟨h0, -, -, -, h3, -, h4, h5, hz, -⟩ := hB.2.2.2.2.2 k hk
    exact or_y h0 h3 h4 h5 hz (hS.kat (va_or hk)))
  rw [pa_len, Nat.zero_add, oj_nil] at a1
  rw [no_len, oj_nil] at a2
  rw [rd_len, oj_nil] at a3
  have := ((a1.trans a2).trans a3).trans a4
  rw [← pl_len (P := P) (N := N) (R := R) (O := O) (F := F) (G := G) (H := H) (W := W)] at this
  obtain ⟨b1, b2, b3, b4, -⟩ := hB
  exact this.fin (by omega) hS.e
theorem ern_z (h : rl (tK t L) j = 0 ∨ rl (tK t L) j = 11) : ern t L j = 0 := by
  unfold ern
  dsimp only
  rw [if_neg (by omega), if_neg (by omega), if_neg (by omega), if_neg (by omega), if_neg (by omega), if_neg (by omega), if_neg (by omega)]
/-- a text's facts, once read -/
theorem pl_LnOK (hS : TXS t L (plT P N R O F G H W)) (hB : PBd P N R O F G H W) : LnOK (tK t L) (nT t L) 0 (nT t L) (oS P N R O W) := (plF_facts (pl_parse hS hB)).2.2
theorem plc1 (hS : TXS t L (plT P N R O F G H W)) (hB : PBd P N R O F G H W) {v s : Nat} (hj : (plT P N R O F G H W)[j]? = some (44, v, s)) (hv : v < P) (h : 3 * P ≤ j) : plc t L 1 j j = v + 1 :=
  (nm1 hS hB).is hS (v := v) (s := s) (by rw [Nat.zero_add]; exact hj) hv (by unfold f1; omega)
theorem plc2 (hS : TXS t L (plT P N R O F G H W)) (hB : PBd P N R O F G H W) {v s : Nat} (hj : (plT P N R O F G H W)[j]? = some (44, 10 + v, s)) (hv : v < N) (h : 3 * P + 3 * N ≤ j) : plc t L 2 j j = v + 1 :=
  (nm2 hS hB).is hS hj hv (by unfold f2; omega)
theorem plc3 (hS : TXS t L (plT P N R O F G H W)) (hB : PBd P N R O F G H W) {v s : Nat} (hj : (plT P N R O F G H W)[j]? = some (44, 20 + v, s)) (hv : v < R) (h : oA P N R ≤ j) : plc t L 3 j j = v + 1 :=
  (nm3 hS hB).is hS hj hv (by unfold oA at h; unfold f3; omega)
theorem rl_11 {K : Nat → Nat} (h : 13 ≤ K j ∧ K j ≤ 15) : rl K j = 11 := by
  unfold rl; rw [if_neg (by omega), if_pos h]
theorem rl_w (hS : TXS t L (plT P N R O F G H W)) {a k : Nat} {x : TkE} (hx : (plT P N R O F G H W)[a]? = some x) (hk : x.1 = k) (h : k ≠ 44 ∧ k ≠ 45 ∧ ¬ (6 ≤ k ∧ k ≤ 9) ∧ ¬ (13 ≤ k ∧ k ≤ 15)) : ern t L a = 0 := by
  have e := hS.K hx
  rw [hk] at e
  exact ern_z (Or.inl (rl_0 (by rw [e]; exact h)))
theorem ern_or (hS : TXS t L (plT P N R O F G H W)) (hB : PBd P N R O F G H W) {k b : Nat} (hk : k < O) (hb : b < (orT (W k)).length) : ern t L (oA P N R + (fl (fun k => orT (W k)) k).length + b) = 0 := by
  obtain ⟨x, z, -, h2, h3, h4, h5⟩ := or_tok hB hk hb
  generalize hj : oA P N R + (fl (fun k => orT (W k)) k).length + b = j at *
  have hA : oA P N R ≤ j := by omega
  have hA' : 3 * P + 3 * N + 9 * R ≤ j := hA
  have e := hS.K h2
  have ez := hS.K h4
  obtain ⟨u, v, s⟩ := x
  obtain ⟨o1, o2, o3⟩ := h5
  have o3' : 5 < u := o3
  by_cases h44 : u = 44
  · subst h44
    have e44 : tK t L j = 44 := e
    obtain ⟨q1, q2, q3, q4⟩ := o1 rfl
    have er := rl_44k e44
    rw [ez] at er
    rw [if_neg (by omega), if_neg (by omega), if_neg (by omega), if_neg (by omega), if_neg (by omega)] at er
    by_cases c1 : 6 ≤ z.1 ∧ z.1 ≤ 8
    · rw [if_pos c1] at er
      rw [ern_p er (Or.inr (Or.inl rfl)), plc1 hS hB h2 (q2 (Or.inl c1)) (by omega), if_neg (by omega)]
    · rw [if_neg c1] at er
      by_cases c2 : z.1 = 9
      · rw [if_pos c2] at er
        obtain ⟨q5, q6⟩ := q3 c2
        have q5' : 20 ≤ v := q5
        have q6' : v < 20 + R := q6
        have h2' : (plT P N R O F G H W)[j]? = some (44, 20 + (v - 20), s) := by rw [show 20 + (v - 20) = v by omega]; exact h2
        rw [ern_10 er, plc3 hS hB h2' (by omega) hA, if_neg (by omega)]
      · rw [if_neg c2] at er
        by_cases c3 : 18 ≤ z.1 ∧ z.1 ≤ 23
        · rw [if_pos c3] at er
          rw [ern_p er (Or.inr (Or.inr rfl)), plc1 hS hB h2 (q2 (Or.inr c3)) (by omega), if_neg (by omega)]
        · rw [if_neg c3] at er
          obtain ⟨q5, q6⟩ := q4 (by omega) c3
          have q5' : 10 ≤ v := q5
          have q6' : v < 10 + N := q6
          have h2' : (plT P N R O F G H W)[j]? = some (44, 10 + (v - 10), s) := by rw [show 10 + (v - 10) = v by omega]; exact h2
          have er' : rl (tK t L) j = 9 ∨ rl (tK t L) j = 13 := by
            split at er
            · exact Or.inl er
            · exact Or.inr er
          rw [ern_n rfl er', plc2 hS hB h2' (by omega) (by omega), if_neg (by omega)]
  · by_cases h45 : u = 45
    · subst h45
      exact ern_z (Or.inl (rl_45 e (by rw [ez]; exact o2 rfl)))
    · by_cases h7 : 6 ≤ u ∧ u ≤ 9
      · have e7 : rl (tK t L) j = 7 := rl_7.mpr (by rw [e]; exact h7)
        have hlen := os_len (pl_LnOK hS hB)
        have hol : (oS P N R O W).length = O := oj_len O
        have hlt : j ≤ nT t L := by rw [hS.n]; exact Nat.le_of_lt (get_ltT h2)
        have := cn_mono (K := tK t L) (r := 7) hlt
        have hO := hB.2.2.2.1
        rw [ern_7 e7, if_neg (by omega)]
      · by_cases h13 : 13 ≤ u ∧ u ≤ 15
        · exact ern_z (Or.inr (rl_11 (by rw [e]; exact h13)))
        · exact ern_z (Or.inl (rl_0 (by rw [e]; exact ⟨h44, h45, h7, h13⟩)))
theorem ern0 (hS : TXS t L (plT P N R O F G H W)) (hB : PBd P N R O F G H W) : ∀ j, j < nT t L → ern t L j = 0 := fun j hj => by
  have hLS := (pl_LnOK hS hB).2.2.2.2.1
  have n1 := nm1 hS hB
  have n2 := nm2 hS hB
  have n3 := nm3 hS hB
  have hB' := hB
  obtain ⟨b1, b2, b3, b4, b5, b6⟩ := hB'
  rw [hS.n] at hj
  rcases pl_cls hj with ⟨a, b, ha, hb, rfl⟩ | ⟨a, b, ha, hb, rfl⟩ | ⟨a, b, ha, hb, rfl⟩ | ⟨k, b, hk, hb, rfl⟩
  · have v := va_pa (P := P) (N := N) (R := R) (O := O) (F := F) (G := G) (H := H) (W := W) ha
    rcases (by omega : b = 0 ∨ b = 1 ∨ b = 2) with rfl | rfl | rfl
    · exact rl_w hS (v 0 _ rfl) rfl (by decide)
    · have hr := (n1.2.1 _ hj).mpr ⟨a, ha, rfl⟩
      rw [ern_new hr (Or.inl rfl), if_neg (fun z => z (n1.new hS ha)), if_neg (by have := n1.num ha; unfold f1 at this; rw [this]; show a ≠ 5; omega)]
    · exact rl_w hS (v 2 _ rfl) rfl (by decide)
  · have v := va_no (P := P) (N := N) (R := R) (O := O) (F := F) (G := G) (H := H) (W := W) ha
    rcases (by omega : b = 0 ∨ b = 1 ∨ b = 2) with rfl | rfl | rfl
    · exact rl_w hS (v 0 _ rfl) rfl (by decide)
    · have hr := (n2.2.1 _ hj).mpr ⟨a, ha, rfl⟩
      rw [ern_new hr (Or.inr (Or.inl rfl)), if_neg (fun z => z (n2.new hS ha)), if_neg (by have := n2.num ha; unfold f2 at this; rw [this]; show a ≠ 6; omega)]
    · exact rl_w hS (v 2 _ rfl) rfl (by decide)
  · have v := va_rd (P := P) (N := N) (R := R) (O := O) (F := F) (G := G) (H := H) (W := W) ha
    have k0 : tK t L (3 * P + 3 * N + 9 * a) = 1 := hS.K (v 0 _ rfl)
    obtain ⟨r1, r2, r3, r4, r5, r6, r7⟩ := road_rl (n := nT t L) (fun j hj => hLS j (Nat.zero_le _) hj) (by rw [hS.n]; omega) k0
    obtain ⟨d1, d2, d3, d4⟩ := b5 a ha
    rcases (by omega : b = 0 ∨ b = 1 ∨ b = 2 ∨ b = 3 ∨ b = 4 ∨ b = 5 ∨ b = 6 ∨ b = 7 ∨ b = 8) with rfl | rfl | rfl | rfl | rfl | rfl | rfl | rfl | rfl
    · exact rl_w hS (v 0 _ rfl) rfl (by decide)
    · rw [ern_new r1 (Or.inr (Or.inr rfl)), if_neg (fun z => z (n3.new hS ha)), if_neg (by have := n3.num ha; unfold f3 at this; rw [this]; show a ≠ 8; omega)]
    · exact ern_z (Or.inl r2)
    · rw [ern_p r3 (Or.inl rfl), plc1 hS hB (v 3 _ rfl) d1 (by omega), if_neg (by omega)]
    · exact ern_z (Or.inl r4)
    · rw [ern_5 r5, plc1 hS hB (v 5 _ rfl) d2 (by omega), show 3 * P + 3 * N + 9 * a + 5 - 2 = 3 * P + 3 * N + 9 * a + 3 by omega, plc1 hS hB (v 3 _ rfl) d1 (by omega), if_neg (by omega), if_neg (by omega)]
    · exact ern_z (Or.inl r6)
    · rw [ern_6 r7, hS.nvv (v 7 _ rfl) rfl]
      show (if 1 ≤ H a ∧ H a ≤ 9 then 0 else 5) = 0
      rw [if_pos d4]
    · exact rl_w hS (v 8 _ rfl) rfl (by decide)
  · exact ern_or hS hB hk hb
end PA
