/-! what the orders of a text say -/
section BIZ
theorem bI_0z {p : Prop} : bI p = 0 ↔ ¬ p := by
  by_cases h : p
  · rw [bI_t h]; exact ⟨fun z => absurd z (by decide), fun z => absurd h z⟩
  · rw [bI_f h]; exact ⟨fun _ => h, fun _ => rfl⟩
theorem bI_or {p q : Prop} : bI p ||| bI q = 0 ↔ ¬ (p ∨ q) := by
  by_cases h : p <;> by_cases h' : q
  · rw [bI_t h, bI_t h']; exact ⟨fun z => absurd z (by decide), fun z => absurd (Or.inl h) z⟩
  · rw [bI_t h, bI_f h']; exact ⟨fun z => absurd z (by decide), fun z => absurd (Or.inl h) z⟩
  · rw [bI_f h, bI_t h']; exact ⟨fun z => absurd z (by decide), fun z => absurd (Or.inr h') z⟩
  · rw [bI_f h, bI_f h']; exact ⟨fun _ z => z.elim h h', fun _ => by decide⟩
theorem bI_nor {p q : Prop} : (1 - bI p) ||| bI q = 0 ↔ ¬ (¬ p ∨ q) := by
  by_cases h : p <;> by_cases h' : q
  · rw [bI_t h, bI_t h']; exact ⟨fun z => absurd z (by decide), fun z => absurd (Or.inr h') z⟩
  · rw [bI_t h, bI_f h']; exact ⟨fun _ z => z.elim (fun y => y h) h', fun _ => by decide⟩
  · rw [bI_f h, bI_t h']; exact ⟨fun z => absurd z (by decide), fun z => absurd (Or.inl h) z⟩
  · rw [bI_f h, bI_f h']; exact ⟨fun z => absurd z (by decide), fun z => absurd (Or.inl h) z⟩
theorem bI_an {p q : Prop} : bI p &&& (1 - bI q) = 0 ↔ ¬ (p ∧ ¬ q) := by
  by_cases h : p <;> by_cases h' : q
  · rw [bI_t h, bI_t h']; exact ⟨fun _ z => z.2 h', fun _ => by decide⟩
  · rw [bI_t h, bI_f h']; exact ⟨fun z => absurd z (by decide), fun z => absurd ⟨h, h'⟩ z⟩
  · rw [bI_f h, bI_t h']; exact ⟨fun _ z => h z.1, fun _ => by decide⟩
  · rw [bI_f h, bI_f h']; exact ⟨fun _ z => h z.1, fun _ => by decide⟩
theorem dayx {x : Int32} {a : Nat} (ha : 2 ≤ a) (h8 : a ≤ 8) : jn 38 x (nI a) = x / nI a := by
  show (if nI a = 0 then 0 else x / nI a) = _
  exact if_neg (fun z => by
    have := (nI_eq (a := a) (b := 0) (by omega) (by decide)).mp z
    omega)
end BIZ
section OR
variable {t : Nat → Nat} {L P N R O i j : Nat} {F G H : Nat → Nat} {W : Nat → Nat → Nat} {x : TkE}
theorem st_n (hS : TXS t L (plT P N R O F G H W)) {v s : Nat} (h : (plT P N R O F G H W)[i]? = some (45, v, s)) : stO t L (45, i + 1) = (45, v, 0) := by
  unfold stO
  rw [if_pos rfl]
  show (45, nvT t L (i + 1 - 1), 0) = _
  rw [Nat.add_sub_cancel, hS.nvv h rfl]
theorem st_o {k y : Nat} (h : k ≠ 45 ∧ ¬ (18 ≤ k ∧ k ≤ 23)) : stO t L (k, y) = (k, 0, 0) := by
  unfold stO
  rw [if_neg h.1, if_neg h.2]
theorem st_q (hS : TXS t L (plT P N R O F G H W)) (hB : PBd P N R O F G H W) {k a n s s' : Nat} (hk : 18 ≤ k ∧ k ≤ 23) (h1 : (plT P N R O F G H W)[i + 1]? = some (44, a, s)) (h2 : (plT P N R O F G H W)[i + 2]? = some (44, 10 + n, s')) (ha : a < P) (hn : n < N) (hA : oA P N R ≤ i) : stO t L (k, i + 1) = (k, a, n) := by
  unfold oA at hA
  unfold stO
  rw [if_neg (by show k ≠ 45; omega), if_pos hk]
  show (k, plc t L 1 (i + 1) (i + 1) - 1, plc t L 2 (i + 2) (i + 2) - 1) = _
  rw [plc1 hS hB h1 ha (by omega), plc2 hS hB h2 hn (by omega)]; rfl
theorem st_w (hS : TXS t L (plT P N R O F G H W)) (hB : PBd P N R O F G H W) {a s : Nat} (h1 : (plT P N R O F G H W)[i + 1]? = some (44, a, s)) (ha : a < P) (hA : oA P N R ≤ i) : ∃ y, stO t L (21, i + 1) = (21, a, y) := by
  unfold oA at hA
  unfold stO
  rw [if_neg (show (21 : Nat) ≠ 45 by decide), if_pos (show 18 ≤ 21 ∧ 21 ≤ 23 by decide)]
  refine ⟨plc t L 2 (i + 2) (i + 2) - 1, ?_⟩
  show (21, plc t L 1 (i + 1) (i + 1) - 1, plc t L 2 (i + 2) (i + 2) - 1) = _
  rw [plc1 hS hB h1 ha (by omega)]; rfl
theorem sum_ev (hS : TXS t L (plT P N R O F G H W)) (hB : PBd P N R O F G H W) {w : Nat → Nat} {s q : Nat} (hw : oB P N R w) (h0 : w 0 ≤ 1) (hv : VAt (plT P N R O F G H W) q (sumT w s)) (hA : oA P N R ≤ q) (T : PT) (D : DT) : evV T D ((sumO w q).map (stO t L)) = sumS D w := by
  obtain ⟨-, -, h1, h2, h3, -⟩ := hw
  have h1' := h1 (by omega)
  unfold sumT at hv
  unfold sumO sumS
  rcases (by omega : w 3 = 0 ∨ w 3 = 1 ∨ w 3 = 2) with z | z | z <;> rw [z] at hv ⊢
  · have e1 : stO t L (45, q + 1) = (45, w 4, 0) := st_n hS (hv 0 _ rfl)
    show evV T D [stO t L (45, q + 1)] = nI (w 4)
    rw [e1]; rfl
  · have e1 : stO t L (17, q + 1) = (17, 0, 0) := st_o (by decide)
    have e2 : stO t L (45, q + 3) = (45, 7, 0) := st_n hS (hv 2 _ rfl)
    have e3 : stO t L (37, 0) = (37, 0, 0) := st_o (by decide)
    have e4 : stO t L (45, q + 5) = (45, w 4, 0) := st_n hS (hv 4 _ rfl)
    have e5 : stO t L (36, 0) = (36, 0, 0) := st_o (by decide)
    show evV T D [stO t L (17, q + 1), stO t L (45, q + 3), stO t L (37, 0), stO t L (45, q + 5), stO t L (36, 0)] = nI (D 0 0 0) * 7 - nI (w 4)
    rw [e1, e2, e3, e4, e5]; rfl
  · have e1 : stO t L (45, q + 1) = (45, w 4, 0) := st_n hS (hv 0 _ rfl)
    have e2 : stO t L (45, q + 3) = (45, 3, 0) := st_n hS (hv 2 _ rfl)
    have e3 : stO t L (37, 0) = (37, 0, 0) := st_o (by decide)
    have e4 : stO t L (19, q + 5) = (19, w 1, w 2) := st_q (i := q + 4) hS hB (by decide) (hv 5 _ rfl) (hv 6 _ rfl) h1' h2 (by omega)
    have e5 : stO t L (17, q + 9) = (17, 0, 0) := st_o (by decide)
    have e6 : stO t L (36, 0) = (36, 0, 0) := st_o (by decide)
    show evV T D [stO t L (45, q + 1), stO t L (45, q + 3), stO t L (37, 0), stO t L (19, q + 5), stO t L (37, 0), stO t L (17, q + 9), stO t L (36, 0)] = nI (w 4) * 3 * nI (shL D (w 1) (w 2)).length - nI (D 0 0 0)
    rw [e1, e2, e3, e4, e5, e6]; rfl
theorem ts_ne {w : Nat → Nat} {q : Nat} (h : w 5 ≠ 0) : tsO w q ≠ [] := by
  unfold tsO
  rw [if_neg h]
  repeat' split
  all_goals exact fun z => by cases z
theorem ts_ev (hS : TXS t L (plT P N R O F G H W)) (hB : PBd P N R O F G H W) {w : Nat → Nat} {p : Nat} (hw : oB P N R w) (h0 : w 5 ≠ 0) (hv : VAt (plT P N R O F G H W) p (tsT w)) (hA : oA P N R ≤ p) (T : PT) (D : DT) (hd : w 5 = 4 → D 11 (w 6) 0 < 2 ^ 31) : evV T D ((tsO w (p + 1)).map (stO t L)) = 0 ↔ ¬ holdsS D w := by
  obtain ⟨-, -, -, -, -, -, -, h5, -, h68, h78, h6, h7, h8⟩ := hw
  have hv1 := hv
  unfold tsT at hv1
  rw [if_neg h0] at hv1
  unfold tsO holdsS
  rw [if_neg h0, if_neg h0]
  have e24 : stO t L (24, 0) = (24, 0, 0) := st_o (by decide)
  have e26 : stO t L (26, 0) = (26, 0, 0) := st_o (by decide)
  have e25 : stO t L (25, 0) = (25, 0, 0) := st_o (by decide)
  have e36 : stO t L (36, 0) = (36, 0, 0) := st_o (by decide)
  have e37 : stO t L (37, 0) = (37, 0, 0) := st_o (by decide)
  have e38 : stO t L (38, 0) = (38, 0, 0) := st_o (by decide)
  have e39 : stO t L (39, 0) = (39, 0, 0) := st_o (by decide)
  have e40 : stO t L (40, 0) = (40, 0, 0) := st_o (by decide)
  have e41 : stO t L (41, 0) = (41, 0, 0) := st_o (by decide)
  have e43 : stO t L (43, 0) = (43, 0, 0) := st_o (by decide)
  have e17 : ∀ y, stO t L (17, y) = (17, 0, 0) := fun y => st_o (by decide)
  rcases (by omega : w 5 = 1 ∨ w 5 = 2 ∨ w 5 = 3 ∨ w 5 = 4 ∨ w 5 = 5) with z | z | z | z | z
  · obtain ⟨q1, q2⟩ := h6 (Or.inl z)
    rw [if_pos z] at hv1 ⊢
    rw [if_pos z]
    have e1 : stO t L (22, p + 1 + 1) = (22, w 6, w 7) := st_q (i := p + 1) hS hB (by decide) (hv1 2 _ rfl) (hv1 3 _ rfl) q1 q2 (by omega)
    show evV T D [stO t L (22, p + 1 + 1)] = 0 ↔ _
    rw [e1]
    exact bI_0z
  · obtain ⟨q1, q2⟩ := h6 (Or.inr (Or.inl z))
    rw [if_neg (by omega), if_pos z] at hv1 ⊢
    rw [if_neg (by omega), if_pos z]
    have e1 : stO t L (23, p + 1 + 2) = (23, w 6, w 7) := st_q (i := p + 2) hS hB (by decide) (hv1 3 _ rfl) (hv1 4 _ rfl) q1 q2 (by omega)
    have e2 : stO t L (45, p + 1 + 10) = (45, 5, 0) := st_n (i := p + 10) hS (hv1 10 _ rfl)
    have e3 : stO t L (45, p + 1 + 12) = (45, 5, 0) := st_n (i := p + 12) hS (hv1 12 _ rfl)
    have e4 : stO t L (45, p + 1 + 14) = (45, 0, 0) := st_n (i := p + 14) hS (hv1 14 _ rfl)
    show evV T D [stO t L (23, p + 1 + 2), stO t L (24, 0), stO t L (17, p + 1 + 6), stO t L (17, p + 1 + 8), stO t L (45, p + 1 + 10), stO t L (38, 0), stO t L (45, p + 1 + 12), stO t L (37, 0), stO t L (36, 0), stO t L (45, p + 1 + 14), stO t L (41, 0), stO t L (26, 0)] = 0 ↔ _
    rw [e1, e24, e17, e17, e2, e38, e3, e37, e36, e4, e41, e26]
    have e : evV T D [(23, w 6, w 7), (24, 0, 0), (17, 0, 0), (17, 0, 0), (45, 5, 0), (38, 0, 0), (45, 5, 0), (37, 0, 0), (36, 0, 0), (45, 0, 0), (41, 0, 0), (26, 0, 0)] = (1 - bI (1 ≤ (shL D (w 6) (w 7)).length)) ||| bI (nI (D 0 0 0) - jn 38 (nI (D 0 0 0)) (nI 5) * nI 5 = nI 0) := rfl
    rw [e, dayx (by decide) (by decide), bI_nor]
    exact ⟨fun h z => h (z.elim (fun y => Or.inl (by omega)) Or.inr), fun h z => h (z.elim (fun y => Or.inl (by omega)) Or.inr)⟩
  · have q1 := h7 z
    rw [if_neg (by omega), if_neg (by omega), if_pos z] at hv1 ⊢
    rw [if_neg (by omega), if_neg (by omega), if_pos z]
    have e2 : stO t L (45, p + 1 + 5) = (45, w 6, 0) := st_n (i := p + 5) hS (hv1 5 _ rfl)
    have e3 : stO t L (45, p + 1 + 7) = (45, w 6, 0) := st_n (i := p + 7) hS (hv1 7 _ rfl)
    have e4 : stO t L (45, p + 1 + 9) = (45, w 7, 0) := st_n (i := p + 9) hS (hv1 9 _ rfl)
    show evV T D [stO t L (17, p + 1 + 1), stO t L (17, p + 1 + 3), stO t L (45, p + 1 + 5), stO t L (38, 0), stO t L (45, p + 1 + 7), stO t L (37, 0), stO t L (36, 0), stO t L (45, p + 1 + 9), stO t L (41, 0)] = 0 ↔ _
    rw [e17, e17, e2, e38, e3, e37, e36, e4, e41]
    have e : evV T D [(17, 0, 0), (17, 0, 0), (45, w 6, 0), (38, 0, 0), (45, w 6, 0), (37, 0, 0), (36, 0, 0), (45, w 7, 0), (41, 0, 0)] = bI (nI (D 0 0 0) - jn 38 (nI (D 0 0 0)) (nI (w 6)) * nI (w 6) = nI (w 7)) := rfl
    rw [e, dayx q1 h68, bI_0z]
  · obtain ⟨q1, q2⟩ := h8 z
    have hd' := hd z
    rw [if_neg (by omega), if_neg (by omega), if_neg (by omega), if_pos z] at hv1 ⊢
    rw [if_neg (by omega), if_neg (by omega), if_neg (by omega), if_pos z]
    obtain ⟨y, e1⟩ := st_w (i := p + 1) hS hB (hv1 2 _ rfl) q1 (by omega)
    have e2 : stO t L (45, p + 1 + 4) = (45, w 7, 0) := st_n (i := p + 4) hS (hv1 4 _ rfl)
    have e3 : stO t L (19, p + 1 + 6) = (19, w 6, 0) := st_q (i := p + 6) hS hB (by decide) (hv1 7 _ rfl) (hv1 8 (44, 10 + 0, 0) rfl) q1 (by have := hB.2.1; omega) (by omega)
    have e4 : stO t L (45, p + 1 + 10) = (45, 2, 0) := st_n (i := p + 10) hS (hv1 10 _ rfl)
    show evV T D [stO t L (21, p + 1 + 1), stO t L (45, p + 1 + 4), stO t L (40, 0), stO t L (19, p + 1 + 6), stO t L (45, p + 1 + 10), stO t L (43, 0), stO t L (26, 0)] = 0 ↔ _
    rw [e1, e2, e40, e3, e4, e43, e26]
    have e : evV T D [(21, w 6, y), (45, w 7, 0), (40, 0, 0), (19, w 6, 0), (45, 2, 0), (43, 0, 0), (26, 0, 0)] = bI (nI (w 7) < nI (D 11 (w 6) 0)) ||| bI (nI 2 ≤ nI (shL D (w 6) 0).length) := rfl
    have hl := shL_len D (w 6) 0
    rw [e, bI_or, nI_ltI (by omega) hd', nI_leI (by decide) (by omega)]
  · obtain ⟨q1, q2⟩ := h6 (Or.inr (Or.inr z))
    rw [if_neg (by omega), if_neg (by omega), if_neg (by omega), if_neg (by omega)] at hv1 ⊢
    rw [if_neg (by omega), if_neg (by omega), if_neg (by omega), if_neg (by omega)]
    have e1 : stO t L (20, p + 1 + 1) = (20, w 6, w 7) := st_q (i := p + 1) hS hB (by decide) (hv1 2 _ rfl) (hv1 3 _ rfl) q1 q2 (by omega)
    have e2 : stO t L (45, p + 1 + 5) = (45, 3, 0) := st_n (i := p + 5) hS (hv1 5 _ rfl)
    have e3 : stO t L (22, p + 1 + 8) = (22, w 6, w 7) := st_q (i := p + 8) hS hB (by decide) (hv1 9 _ rfl) (hv1 10 _ rfl) q1 q2 (by omega)
    show evV T D [stO t L (20, p + 1 + 1), stO t L (45, p + 1 + 5), stO t L (39, 0), stO t L (22, p + 1 + 8), stO t L (24, 0), stO t L (25, 0)] = 0 ↔ _
    rw [e1, e2, e39, e3, e24, e25]
    have e : evV T D [(20, w 6, w 7), (45, 3, 0), (39, 0, 0), (22, w 6, w 7), (24, 0, 0), (25, 0, 0)] = bI (bcE (nI (marksB D (w 6) (w 7))) < nI 3) &&& (1 - bI (2 ≤ (shL D (w 6) (w 7)).length)) := rfl
    rw [e, bI_an]
    exact ⟨fun h z => h ⟨z.1, by omega⟩, fun h z => h ⟨z.1, by omega⟩⟩
end OR
section OR2
variable {t : Nat → Nat} {L P N R O : Nat} {F G H : Nat → Nat} {W : Nat → Nat → Nat} {os : List Ord3}
theorem oS_get {k : Nat} (hk : k < O) : (oS P N R O W).getD k (0, [], []) = oG P N R W k := getD_of (oj_get O k hk)
theorem pl_T (hS : TXS t L (plT P N R O F G H W)) (hB : PBd P N R O F G H W) (os : List Ord3) : ntT t L os 0 0 = P ∧ ntT t L os 1 0 = N ∧ ntT t L os 2 0 = R :=
  ⟨by show cn (tK t L) 1 (nT t L) = P; rw [hS.n]; exact (nm1 hS hB).tot, by show cn (tK t L) 2 (nT t L) = N; rw [hS.n]; exact (nm2 hS hB).tot, by show cn (tK t L) 3 (nT t L) = R; rw [hS.n]; exact (nm3 hS hB).tot⟩
theorem pl_ndI (hS : TXS t L (plT P N R O F G H W)) (hB : PBd P N R O F G H W) {r : Nat} (hr : r < R) : ndI t L r = f3 P N r := by
  have n3 := nm3 hS hB
  have ht := n3.tot
  obtain ⟨h1, h2, h3⟩ := ndI_ok (t := t) (L := L) (r := r) (by rw [hS.n, ht]; exact hr)
  rw [hS.n] at h1
  obtain ⟨a, ha, e⟩ := (n3.2.1 _ h1).mp h2
  rw [e, n3.num ha] at h3
  rw [e, h3]
theorem pl_D (hS : TXS t L (plT P N R O F G H W)) (hB : PBd P N R O F G H W) {r : Nat} (hr : r < R) : ntD t L 12 r 0 = F r ∧ ntD t L 12 r 1 = G r ∧ ntD t L 9 r 0 = H r ∧ ntD t L 9 r 1 = 0 := by
  have v := va_rd (P := P) (N := N) (R := R) (O := O) (F := F) (G := G) (H := H) (W := W) hr
  have e := pl_ndI hS hB hr
  obtain ⟨d1, d2, -⟩ := hB.2.2.2.2.1 r hr
  unfold f3 at e
  refine ⟨?_, ?_, ?_, rfl⟩
  · show (plc t L 1 (ndI t L r + 2) (ndI t L r + 2) - 1) = F r
    rw [e, plc1 hS hB (v 3 _ rfl) d1 (by omega)]; rfl
  · show (plc t L 1 (ndI t L r + 4) (ndI t L r + 4) - 1) = G r
    rw [e, plc1 hS hB (v 5 _ rfl) d2 (by omega)]; rfl
  · show nvT t L (ndI t L r + 6) = H r
    rw [e]; exact hS.nvv (v 7 _ rfl) rfl
theorem pl_OAll (hS : TXS t L (plT P N R O F G H W)) (hB : PBd P N R O F G H W) : OAll (ntT t L (oS P N R O W)) (ntC t L (oS P N R O W)) (ntE t L (oS P N R O W)) W := by
  obtain ⟨t0, t1, t2⟩ := pl_T hS hB (oS P N R O W)
  have hol : (oS P N R O W).length = O := oj_len O
  refine ⟨nt_OW (pl_LnOK hS hB) (ern0 hS hB), fun k hk => ?_⟩
  have hk' : k < O := by have : k < (oS P N R O W).length := hk; omega
  have hw := hB.2.2.2.2.2 k hk'
  have hww := hw
  obtain ⟨h0, h1, h1', h2, h3, h4, h24, h5, h05, h68, h78, h6, h7, h8⟩ := hww
  have v : VAt (plT P N R O F G H W) (oP P N R W k) (orT (W k)) := va_or hk'
  have hA : oA P N R ≤ oP P N R W k := Nat.le_add_right _ _
  have hA' : 3 * P + 3 * N + 9 * R ≤ oP P N R W k := hA
  have g := oS_get (P := P) (N := N) (R := R) (W := W) hk'
  have vh : VAt (plT P N R O F G H W) (oP P N R W k) (hdT (W k) (spT (W k))) := v.l
  have K0 : tK t L (oP P N R W k) = W k 0 + 6 := by
    unfold hdT at vh
    by_cases e3 : W k 0 = 3
    · rw [if_pos e3] at vh; rw [e3]; exact hS.K (vh 0 _ rfl)
    · rw [if_neg e3] at vh
      by_cases e2 : W k 0 = 2
      · rw [if_pos e2] at vh; rw [e2]; exact hS.K (vh 0 _ rfl)
      · rw [if_neg e2] at vh; exact (hS.K (vh 0 _ rfl)).trans (Nat.add_comm _ _)
  refine ⟨⟨h0, by rw [t2]; exact h1, by rw [t0]; exact h1', by rw [t1]; exact h2, h3, h4, h24, h5, by omega, by omega, by rw [t0, t1]; exact h6, fun z => by rw [t0]; exact h8 z, h7⟩, ⟨?_, ?_, ?_, ?_, ?_⟩, ?_⟩
  · show tK t L ((oS P N R O W).getD k (0, [], [])).1 = _
    rw [g]; exact K0
  · show (if tK t L ((oS P N R O W).getD k (0, [], [])).1 = 9 then plc t L 3 (((oS P N R O W).getD k (0, [], [])).1 + 1) (((oS P N R O W).getD k (0, [], [])).1 + 1) - 1 else plc t L 1 (((oS P N R O W).getD k (0, [], [])).1 + 1) (((oS P N R O W).getD k (0, [], [])).1 + 1) - 1) = _
    rw [g]
    show (if tK t L (oP P N R W k) = 9 then plc t L 3 (oP P N R W k + 1) (oP P N R W k + 1) - 1 else plc t L 1 (oP P N R W k + 1) (oP P N R W k + 1) - 1) = _
    rw [K0]
    unfold hdT at vh
    by_cases e3 : W k 0 = 3
    · rw [if_pos e3] at vh
      rw [if_pos (by omega), plc3 hS hB (vh 1 _ rfl) (h1 e3) (by omega)]; rfl
    · rw [if_neg e3] at vh
      rw [if_neg (by omega)]
      by_cases e2 : W k 0 = 2
      · rw [if_pos e2] at vh
        rw [plc1 hS hB (vh 1 _ rfl) (h1' e3) (by omega)]; rfl
      · rw [if_neg e2] at vh
        rw [plc1 hS hB (vh 1 _ rfl) (h1' e3) (by omega)]; rfl
  · intro e3
    show plc t L 2 (((oS P N R O W).getD k (0, [], [])).1 + 2) (((oS P N R O W).getD k (0, [], [])).1 + 2) - 1 = _
    rw [g]
    show plc t L 2 (oP P N R W k + 2) (oP P N R W k + 2) - 1 = _
    unfold hdT at vh
    rw [if_neg e3] at vh
    by_cases e2 : W k 0 = 2
    · rw [if_pos e2] at vh
      rw [plc2 hS hB (vh 2 _ rfl) h2 (by omega)]; rfl
    · rw [if_neg e2] at vh
      rw [plc2 hS hB (vh 2 _ rfl) h2 (by omega)]; rfl
  · intro e2
    show tK t L (((oS P N R O W).getD k (0, [], [])).1 + 4) - 13 = _
    rw [g]
    show tK t L (oP P N R W k + 4) - 13 = _
    unfold hdT at vh
    rw [if_neg (by omega), if_pos e2] at vh
    rw [hS.K (vh 4 _ rfl)]
    show 13 + W k 4 - 13 = W k 4
    omega
  · intro e1 D
    show evV _ D ((((oS P N R O W).getD k (0, [], [])).2.1).map (stO t L)) = _
    rw [g]
    show evV _ D ((hdO (W k) (oP P N R W k)).map (stO t L)) = _
    unfold hdO
    rw [if_pos e1]
    unfold hdT at vh
    rw [if_neg (by omega), if_neg (by omega)] at vh
    exact sum_ev hS hB hw e1 vh.r (by omega) _ D
  · by_cases e5 : W k 5 = 0
    · refine Or.inl ⟨?_, e5⟩
      show (((oS P N R O W).getD k (0, [], [])).2.2).map (stO t L) = []
      rw [g]
      show (tsO (W k) _).map (stO t L) = []
      unfold tsO
      rw [if_pos e5]; rfl
    · refine Or.inr ⟨?_, fun D hd => ?_⟩
      · show (((oS P N R O W).getD k (0, [], [])).2.2).map (stO t L) ≠ []
        rw [g]
        exact fun z => ts_ne (q := oP P N R W k + (hdT (W k) (spT (W k))).length + 1) e5 (List.map_eq_nil_iff.mp z)
      · show evV _ D ((((oS P N R O W).getD k (0, [], [])).2.2).map (stO t L)) = 0 ↔ _
        rw [g]
        exact ts_ev hS hB hw e5 v.r.l (by omega) _ D hd
/-- what the text answers when it is told -/
theorem pl_Tch (hS : TXS t L (plT P N R O F G H W)) (hB : PBd P N R O F G H W) {c p : Int32} {r : Option (List Ord3)} (h : TchO t L c p r) : c = 0 ∧ p = -1 ∧ r = some (oS P N R O W) := by
  have hlen := os_len (pl_LnOK hS hB)
  have hol : (oS P N R O W).length = O := oj_len O
  obtain ⟨b1, b2, b3, b4, -⟩ := id hB
  have t1 := (nm1 hS hB).tot
  have t2 := (nm2 hS hB).tot
  have t3 := (nm3 hS hB).tot
  rw [← hS.n] at t1 t2 t3
  exact TchO.uniq (Or.inr (Or.inr ⟨_, _, pl_parse hS hB, ern0 hS hB, ⟨by omega, by omega, by omega, by omega⟩, rfl, rfl, rfl⟩)) h
end OR2
