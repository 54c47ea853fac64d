/-! the model's worlds, by the same numbers -/
def mlc (w f i j : Nat) : Nat × Nat := match f with
  | 0 => (hd 65 w, 0)
  | 1 => (hd 65 w, 1)
  | 2 => (hd 65 w, 2)
  | 3 => (hd 65 w, 4)
  | 4 => (hd (66 + j) w, i)
  | 5 => (hd 72 w, 5 * i + j)
  | 6 => (hd 73 w, 5 * i + j)
  | 7 => (hd 74 w, 30 * i + j)
  | _ => (hd (76 + j) w, i)
def mrg (S P R f i j : Nat) : Prop := match f with
  | 0 => i = 0 ∧ j = 0
  | 1 => i = 0 ∧ j = 0
  | 2 => i = 0 ∧ j = 0
  | 3 => i = 0 ∧ j = 0
  | 4 => i < S ∧ j < 6
  | 5 => i < S ∧ j < 5
  | 6 => i < P ∧ j < 5
  | 7 => i < P ∧ j < 30
  | 9 => i < R ∧ j < 2
  | _ => False
def YR (μ : Mu) (w S P R : Nat) (D : DT) : Prop := ∀ f i j, mrg S P R f i j → mI μ (mlc w f i j).1 (mlc w f i j).2 = en f (D f i j)
theorem mlc_inj {w f i j f' i' j' : Nat} (h : mrg 60 5 8 f i j) (h' : mrg 60 5 8 f' i' j') (e1 : (mlc w f i j).1 = (mlc w f' i' j').1) (e2 : (mlc w f i j).2 = (mlc w f' i' j').2) : f' = f ∧ i' = i ∧ j' = j := by
  rcases f with _|_|_|_|_|_|_|_|_|_|f <;> first | (simp only [mrg] at h; done) | skip
  all_goals
    rcases f' with _|_|_|_|_|_|_|_|_|_|f' <;> first | (simp only [mrg] at h'; done) | (simp only [mrg, mlc, hd] at h h' e1 e2; omega)
theorem mrg_mono {S P R f i j : Nat} (h : mrg S P R f i j) {S' P' R' : Nat} (hS : S ≤ S') (hP : P ≤ P') (hR : R ≤ R') : mrg S' P' R' f i j := by
  rcases f with _|_|_|_|_|_|_|_|_|_|f <;> simp only [mrg] at h ⊢ <;> omega
theorem YR.set {μ : Mu} {w S P R f i j v : Nat} {D : DT} (h : YR μ w S P R D) (hS : S ≤ 60) (hP : P ≤ 5) (hR : R ≤ 8) (hr : mrg 60 5 8 f i j) : YR (setI μ (mlc w f i j).1 (mlc w f i j).2 (en f v)) w S P R (ud D f i j v) := by
  intro f' i' j' hr'
  by_cases hq : f' = f ∧ i' = i ∧ j' = j
  · obtain ⟨rfl, rfl, rfl⟩ := hq
    rw [ud_self]
    exact if_pos ⟨rfl, rfl⟩
  · rw [ud_ne hq, mI_set, if_neg (fun z => hq (mlc_inj hr (mrg_mono hr' hS hP hR) z.1.symm z.2.symm))]
    exact h f' i' j' hr'
theorem YR.fr {μ μ' : Mu} {w S P R : Nat} {D : DT} (h : YR μ w S P R D) (e : ∀ f i j, mrg S P R f i j → mI μ' (mlc w f i j).1 (mlc w f i j).2 = mI μ (mlc w f i j).1 (mlc w f i j).2) : YR μ' w S P R D := fun f i j hr => (e f i j hr).trans (h f i j hr)
theorem mlc_k {w S P R f i j : Nat} (h : mrg S P R f i j) : ∃ κ, (mlc w f i j).1 = hd κ w ∧ ((κ = 65 ∧ (mlc w f i j).2 ≠ 3 ∧ (mlc w f i j).2 ≠ 18) ∨ (66 ≤ κ ∧ κ ≤ 77 ∧ κ ≠ 75)) := by
  rcases f with _|_|_|_|_|_|_|_|_|_|f <;> simp only [mrg] at h <;> simp only [mlc]
  · exact ⟨65, rfl, Or.inl ⟨rfl, by decide, by decide⟩⟩
  · exact ⟨65, rfl, Or.inl ⟨rfl, by decide, by decide⟩⟩
  · exact ⟨65, rfl, Or.inl ⟨rfl, by decide, by decide⟩⟩
  · exact ⟨65, rfl, Or.inl ⟨rfl, by decide, by decide⟩⟩
  · exact ⟨66 + j, rfl, Or.inr (by omega)⟩
  · exact ⟨72, rfl, Or.inr (by omega)⟩
  · exact ⟨73, rfl, Or.inr (by omega)⟩
  · exact ⟨74, rfl, Or.inr (by omega)⟩
  · exact ⟨76 + j, rfl, Or.inr (by omega)⟩
/-- what goes by roads: road, day, sheets -/
abbrev Ent : Type := Nat × Nat × Int64
def YE (μ : Mu) (w : Nat) (Es : List Ent) : Prop := mI μ (hd 65 w) 18 = nI Es.length ∧ ∀ k e, Es[k]? = some e → mI μ (hd 79 w) k = nI e.1 ∧ mI μ (hd 80 w) k = nI e.2.1 ∧ mL μ (hd 81 w) k = e.2.2
def PM (μ : Mu) (T : PT) (D : DT) : Prop := mI μ (hd 50 (px μ (hd 40 0) 11)) 0 = nI (T 0 0) ∧ mI μ (hd 50 (px μ (hd 40 0) 11)) 1 = nI (T 1 0) ∧ mI μ (hd 50 (px μ (hd 40 0) 11)) 2 = nI (T 2 0) ∧ mI μ (hd 50 (px μ (hd 40 0) 11)) 6 = nI (T 6 0) ∧
  ∀ r, r < T 2 0 → mI μ (hd 51 (px μ (hd 40 0) 11)) r = nI (D 12 r 0) ∧ mI μ (hd 52 (px μ (hd 40 0) 11)) r = nI (D 12 r 1)
/-- the model's world w holds D -/
def XN (μ : Mu) (w : Nat) (T : PT) (D : DT) (mg : Nat) : Prop :=
  w < 2 ∧ DB T D ∧ YR μ w (D 1 0 0) (T 0 0) (T 2 0) D ∧ mI μ (hd 65 w) 3 = nI mg ∧
  (∀ b, b < T 0 0 → Bs (mL μ (hd 75 w) b) (fun s => D 8 b s ≠ 0)) ∧ (∀ r, r < T 2 0 → Bs (mL μ (hd 78 w) r) (fun s => D 10 r s ≠ 0)) ∧ PM μ T D
section XMA
variable {μ : Mu} {w : Nat} {T : PT} {D : DT} {mg : Nat}
theorem XN.w2 (h : XN μ w T D mg) : w < 2 := h.1
theorem XN.P5 (h : XN μ w T D mg) : T 0 0 ≤ 5 := h.2.1.1.1
theorem XN.N6 (h : XN μ w T D mg) : T 1 0 ≤ 6 := h.2.1.1.2.1
theorem XN.R8 (h : XN μ w T D mg) : T 2 0 ≤ 8 := h.2.1.1.2.2.1
theorem XN.O20 (h : XN μ w T D mg) : T 6 0 ≤ 20 := h.2.1.1.2.2.2.1
theorem XN.S60 (h : XN μ w T D mg) : D 1 0 0 ≤ 60 := h.2.1.1.2.2.2.2.1
theorem XN.dayB (h : XN μ w T D mg) : D 0 0 0 < 2 ^ 20 := h.2.1.1.2.2.2.2.2
theorem XN.shB (h : XN μ w T D mg) {s : Nat} (hs : s < D 1 0 0) : D 4 s 0 < T 0 0 ∧ D 4 s 1 < T 1 0 ∧ D 4 s 2 ≤ 9999 ∧ D 4 s 3 < 65536 ∧ D 4 s 4 < 2 ^ 20 ∧ D 4 s 5 ≤ 2 ∧ ∀ p, p < 5 → D 5 s p ≤ D 1 0 0 := h.2.1.2.1 s hs
theorem XN.bdB (h : XN μ w T D mg) {b : Nat} (hb : b < T 0 0) : (∀ p, p < 5 → D 6 b p ≤ D 1 0 0) ∧ (∀ k, k < 30 → D 7 b k ≤ D 1 0 0) ∧ (∀ s, s < 60 → D 8 b s ≤ 1) ∧ D 11 b 0 ≤ 60 ∧ ∀ k, k < 30 → D 7 b k ≠ 0 → D 4 (D 7 b k - 1) 0 = k % 5 ∧ D 4 (D 7 b k - 1) 1 = k / 5 := h.2.1.2.2.1 b hb
theorem XN.rdB (h : XN μ w T D mg) {r : Nat} (hr : r < T 2 0) : D 12 r 0 < T 0 0 ∧ D 12 r 1 < T 0 0 ∧ 1 ≤ D 9 r 0 ∧ D 9 r 0 ≤ 9 ∧ ∀ s, s < 60 → D 10 r s < 2 ^ 20 + 20 := h.2.1.2.2.2 r hr
theorem XN.day (h : XN μ w T D mg) : mI μ (hd 65 w) 0 = nI (D 0 0 0) := h.2.2.1 0 0 0 ⟨rfl, rfl⟩
theorem XN.cnt (h : XN μ w T D mg) : mI μ (hd 65 w) 1 = nI (D 1 0 0) := h.2.2.1 1 0 0 ⟨rfl, rfl⟩
theorem XN.hung (h : XN μ w T D mg) : mI μ (hd 65 w) 2 = nI (D 2 0 0) := h.2.2.1 2 0 0 ⟨rfl, rfl⟩
theorem XN.car (h : XN μ w T D mg) : mI μ (hd 65 w) 4 = nI (D 3 0 0) := h.2.2.1 3 0 0 ⟨rfl, rfl⟩
theorem XN.s1 (h : XN μ w T D mg) {s : Nat} (hs : s < D 1 0 0) : mI μ (hd 66 w) s = nI (D 4 s 0) := h.2.2.1 4 s 0 ⟨hs, by decide⟩
theorem XN.s2 (h : XN μ w T D mg) {s : Nat} (hs : s < D 1 0 0) : mI μ (hd 67 w) s = nI (D 4 s 1) := h.2.2.1 4 s 1 ⟨hs, by decide⟩
theorem XN.s3 (h : XN μ w T D mg) {s : Nat} (hs : s < D 1 0 0) : mI μ (hd 68 w) s = nI (D 4 s 2) := h.2.2.1 4 s 2 ⟨hs, by decide⟩
theorem XN.s4 (h : XN μ w T D mg) {s : Nat} (hs : s < D 1 0 0) : mI μ (hd 69 w) s = nI (D 4 s 3) := h.2.2.1 4 s 3 ⟨hs, by decide⟩
theorem XN.s5 (h : XN μ w T D mg) {s : Nat} (hs : s < D 1 0 0) : mI μ (hd 70 w) s = nI (D 4 s 4) := h.2.2.1 4 s 4 ⟨hs, by decide⟩
theorem XN.s6 (h : XN μ w T D mg) {s : Nat} (hs : s < D 1 0 0) : mI μ (hd 71 w) s = nI (D 4 s 5) := h.2.2.1 4 s 5 ⟨hs, by decide⟩
theorem XN.stamp (h : XN μ w T D mg) {s p : Nat} (hs : s < D 1 0 0) (hp : p < 5) : mI μ (hd 72 w) (5 * s + p) = nI (D 5 s p) := h.2.2.1 5 s p ⟨hs, hp⟩
theorem XN.num (h : XN μ w T D mg) {b p : Nat} (hb : b < T 0 0) (hp : p < 5) : mI μ (hd 73 w) (5 * b + p) = nI (D 6 b p) := h.2.2.1 6 b p ⟨hb, hp⟩
theorem XN.shw (h : XN μ w T D mg) {b k : Nat} (hb : b < T 0 0) (hk : k < 30) : mI μ (hd 74 w) (30 * b + k) = oI (D 7 b k) := h.2.2.1 7 b k ⟨hb, hk⟩
theorem XN.r3 (h : XN μ w T D mg) {r : Nat} (hr : r < T 2 0) : mI μ (hd 76 w) r = nI (D 9 r 0) := h.2.2.1 9 r 0 ⟨hr, by decide⟩
theorem XN.r4 (h : XN μ w T D mg) {r : Nat} (hr : r < T 2 0) : mI μ (hd 77 w) r = nI (D 9 r 1) := h.2.2.1 9 r 1 ⟨hr, by decide⟩
theorem XN.mer (h : XN μ w T D mg) : mI μ (hd 65 w) 3 = nI mg := h.2.2.2.1
theorem XN.wait (h : XN μ w T D mg) {b : Nat} (hb : b < T 0 0) : Bs (mL μ (hd 75 w) b) (fun s => D 8 b s ≠ 0) := h.2.2.2.2.1 b hb
theorem XN.went (h : XN μ w T D mg) {r : Nat} (hr : r < T 2 0) : Bs (mL μ (hd 78 w) r) (fun s => D 10 r s ≠ 0) := h.2.2.2.2.2.1 r hr
theorem XN.pP (h : XN μ w T D mg) : mI μ (hd 50 (px μ (hd 40 0) 11)) 0 = nI (T 0 0) := h.2.2.2.2.2.2.1
theorem XN.pN (h : XN μ w T D mg) : mI μ (hd 50 (px μ (hd 40 0) 11)) 1 = nI (T 1 0) := h.2.2.2.2.2.2.2.1
theorem XN.pR (h : XN μ w T D mg) : mI μ (hd 50 (px μ (hd 40 0) 11)) 2 = nI (T 2 0) := h.2.2.2.2.2.2.2.2.1
theorem XN.pO (h : XN μ w T D mg) : mI μ (hd 50 (px μ (hd 40 0) 11)) 6 = nI (T 6 0) := h.2.2.2.2.2.2.2.2.2.1
theorem XN.pr (h : XN μ w T D mg) {r : Nat} (hr : r < T 2 0) : mI μ (hd 51 (px μ (hd 40 0) 11)) r = nI (D 12 r 0) ∧ mI μ (hd 52 (px μ (hd 40 0) 11)) r = nI (D 12 r 1) := h.2.2.2.2.2.2.2.2.2.2 r hr
end XMA
theorem nI_m1 (l : Nat) : nI (l + 1) + (-1) = nI l := by rw [← nI_pred l, ← Int32.sub_eq_add_neg]
/-! what is asked of it -/
section MSQ
variable {d rc rs w : Nat} {Q : Option Value → Mu → Prop} {μ : Mu} {T : PT} {D : DT} {mg : Nat}
theorem c_MS_stampOf {s p : Nat} (hC : XN μ w T D mg) (hD : 1 ≤ d) (hS : St μ) (hs : s < D 1 0 0) (hp : p < 5) (hQ : Q (some (.int (nI (D 5 s p)))) μ) : Cal K_MS_stampOf d rc rs [.ref (hd 65 w), .int (nI s), .int (nI p)] μ Q := by
  have hw := hC.w2; have h60 := hC.S60
  refine e_MS_stampOf (g_MS_stampOf_0 hD hw hS ?_)
  rw [I5, nI_mul, nI_add, nI_clamp (by omega), hC.stamp hs hp]
  exact ⟨vp_in_nI (by omega) (by decide), hS, hQ⟩
theorem c_MS_numberOf {b p : Nat} (hC : XN μ w T D mg) (hD : 1 ≤ d) (hS : St μ) (hb : b < T 0 0) (hp : p < 5) (hQ : Q (some (.int (nI (D 6 b p)))) μ) : Cal K_MS_numberOf d rc rs [.ref (hd 65 w), .int (nI b), .int (nI p)] μ Q := by
  have hw := hC.w2; have hP := hC.P5
  refine e_MS_numberOf (g_MS_numberOf_0 hD hw hS ?_)
  rw [I5, nI_mul, nI_add, nI_clamp (by omega), hC.num hb hp]
  exact ⟨vp_in_nI (by omega) (by decide), hS, hQ⟩
theorem c_MS_spot {b n p : Nat} (hD : 1 ≤ d) (hS : St μ) (hw : w < 2) (hQ : Q (some (.int (nI (30 * b + (5 * n + p))))) μ) : Cal K_MS_spot d rc rs [.ref (hd 65 w), .int (nI b), .int (nI n), .int (nI p)] μ Q := by
  refine e_MS_spot (g_MS_spot_0 hD hw hS ?_)
  rw [I5, I6, nI_mul, nI_add, nI_mul, nI_add, show 5 * (6 * b + n) + p = 30 * b + (5 * n + p) by omega]
  exact ⟨hS, hQ⟩
theorem c_MS_knows {b s : Nat} (hC : XN μ w T D mg) (hD : 2 ≤ d) (hS : St μ) (hb : b < T 0 0) (hs : s < D 1 0 0) (hQ : Q (some (.int (bI (kn D b s)))) μ) : Cal K_MS_knows d rc rs [.ref (hd 65 w), .int (nI b), .int (nI s)] μ Q := by
  have hw := hC.w2; have h60 := hC.S60; have hP := hC.P5
  obtain ⟨a1, a2, a3, a4, a5, a6, a7⟩ := hC.shB hs
  refine e_MS_knows (g_MS_knows_0 (by omega) hw hS ⟨vp_in_nI (by omega) (by decide), ?_⟩)
  rw [nI_clamp (by omega), hC.s1 hs]
  refine c_MS_stampOf hC (by omega) hS hs (by omega) ⟨_, rfl, vp_in_nI (by omega) (by decide), ?_⟩
  rw [hC.s1 hs]
  refine c_MS_numberOf hC (by omega) hS hb (by omega) ⟨_, rfl, ?_⟩
  have := a7 (D 4 s 0) (by omega)
  have := (hC.bdB hb).1 (D 4 s 0) (by omega)
  rw [nI_ltI (by omega) (by omega)]
  refine ⟨fun h => ⟨hS, ?_⟩, fun h => ⟨hS, ?_⟩⟩
  · rw [show kn D b s = (D 5 s (D 4 s 0) ≤ D 6 b (D 4 s 0)) from rfl, bI_f (by omega)] at hQ; exact hQ
  · rw [show kn D b s = (D 5 s (D 4 s 0) ≤ D 6 b (D 4 s 0)) from rfl, bI_t (by omega)] at hQ; exact hQ
theorem c_MS_isAhead {s t : Nat} (hC : XN μ w T D mg) (hD : 2 ≤ d) (hS : St μ) (hs : s < D 1 0 0) (ht : t < D 1 0 0) (hQ : Q (some (.int (bI (ah D s t)))) μ) : Cal K_MS_isAhead d rc rs [.ref (hd 65 w), .int (nI s), .int (nI t)] μ Q := by
  have hw := hC.w2; have h60 := hC.S60; have hP := hC.P5
  obtain ⟨a1, a2, a3, a4, a5, a6, a7⟩ := hC.shB hs
  obtain ⟨b1, b2, b3, b4, b5, b6, b7⟩ := hC.shB ht
  refine e_MS_isAhead (g_MS_isAhead_0 (by omega) hw hS ⟨vp_in_nI (by omega) (by decide), ?_⟩)
  rw [nI_clamp (by omega), hC.s1 hs]
  refine c_MS_stampOf hC (by omega) hS ht (by omega) ⟨_, rfl, vp_in_nI (by omega) (by decide), ?_⟩
  rw [hC.s1 hs]
  refine c_MS_stampOf hC (by omega) hS hs (by omega) ⟨_, rfl, ?_⟩
  have := a7 (D 4 s 0) (by omega)
  have := b7 (D 4 s 0) (by omega)
  rw [nI_ltI (by omega) (by omega)]
  refine ⟨fun h => ⟨hS, ?_⟩, fun h => ⟨hS, ?_⟩⟩
  · rw [show ah D s t = (D 5 s (D 4 s 0) ≤ D 5 t (D 4 s 0)) from rfl, bI_f (by omega)] at hQ; exact hQ
  · rw [show ah D s t = (D 5 s (D 4 s 0) ≤ D 5 t (D 4 s 0)) from rfl, bI_t (by omega)] at hQ; exact hQ
theorem c_MS_shows {b n : Nat} (hC : XN μ w T D mg) (hD : 2 ≤ d) (hS : St μ) (hb : b < T 0 0) (hn : n < 6) (hQ : Q (some (.int (nI (shL D b n).length))) μ) : Cal K_MS_shows d rc rs [.ref (hd 65 w), .int (nI b), .int (nI n)] μ Q := by
  have hw := hC.w2; have hP := hC.P5; have h60 := hC.S60
  refine e_MS_shows (g_MS_shows_0 (by omega) hw hS ?_)
  rw [hC.2.1.shP hb hn] at hQ
  have key : ∀ k, k ≤ T 0 0 → ∀ m, Q (some (.int (nI (m + (sLk (fun p => D 7 b (5 * n + p)) k (T 0 0 - k)).length)))) μ → Wx K_MS_shows d rc rs (fun r μ' => St μ' ∧ Q r μ') 5 [(0, .ref (hd 65 w)), (1, .int (nI b)), (2, .int (nI n)), (3, .int (nI m)), (4, .int (nI k))] [] μ := by
    refine up_loop _ (fun m h => ?_) (fun k hk ih m h => ?_)
    · rw [Nat.sub_self] at h
      refine g_MS_shows_5 (by omega) hw hS ⟨fun _ => ⟨hS, h⟩, fun h => absurd ?_ h⟩
      rw [hC.pP]; exact Int32.le_refl _
    · refine g_MS_shows_5 (by omega) hw hS ⟨fun h => absurd h ?_, fun _ => c_MS_spot (by omega) hS hw ⟨_, rfl, vp_in_nI (by omega) (by decide), ?_⟩⟩
      · rw [hC.pP]; exact nI_ge hk (by omega)
      have hv := (hC.bdB hb).2.1 (5 * n + k) (by omega)
      rw [nI_clamp (by omega), hC.shw hb (by omega), oI_m1 (by omega)]
      rw [show T 0 0 - k = (T 0 0 - (k + 1)) + 1 by omega, sLk] at h
      refine ⟨fun e => ?_, fun e => ?_⟩
      · rw [if_pos e] at h
        rw [I0, nI_add, nI_1]
        exact ih (m + 0) h
      · rw [if_neg e, List.length_cons] at h
        rw [I1, nI_add, nI_add]
        exact ih (m + 1) (by rw [Nat.add_assoc, Nat.add_comm 1]; exact h)
  exact key 0 (Nat.zero_le _) 0 (by rw [Nat.zero_add]; exact hQ)
theorem c_MS_shown {b n l : Nat} (hC : XN μ w T D mg) (hD : 2 ≤ d) (hS : St μ) (hb : b < T 0 0) (hn : n < 6) (hl : l < 2 ^ 31) (hQ : Q (some (.int (oI ((shL D b n).getD l 0)))) μ) : Cal K_MS_shown d rc rs [.ref (hd 65 w), .int (nI b), .int (nI n), .int (nI l)] μ Q := by
  have hw := hC.w2; have hP := hC.P5; have h60 := hC.S60
  refine e_MS_shown (g_MS_shown_0 (by omega) hw hS ?_)
  rw [hC.2.1.shP hb hn] at hQ
  have key : ∀ k, k ≤ T 0 0 → ∀ m, m < 2 ^ 31 → Q (some (.int (oI ((sLk (fun p => D 7 b (5 * n + p)) k (T 0 0 - k)).getD m 0)))) μ → Wx K_MS_shown d rc rs (fun r μ' => St μ' ∧ Q r μ') 6 [(0, .ref (hd 65 w)), (1, .int (nI b)), (2, .int (nI n)), (4, .int (nI m)), (5, .int (nI k))] [] μ := by
    refine up_loop _ (fun m hm h => ?_) (fun k hk ih m hm h => ?_)
    · rw [Nat.sub_self, sLk, List.getD_nil, oI_0] at h
      refine g_MS_shown_6 (by omega) hw hS ⟨fun _ => ⟨hS, h⟩, fun h => absurd ?_ h⟩
      rw [hC.pP]; exact Int32.le_refl _
    · refine g_MS_shown_6 (by omega) hw hS ⟨fun h => absurd h ?_, fun _ => c_MS_spot (by omega) hS hw ⟨_, rfl, vp_in_nI (by omega) (by decide), ?_⟩⟩
      · rw [hC.pP]; exact nI_ge hk (by omega)
      have hv := (hC.bdB hb).2.1 (5 * n + k) (by omega)
      rw [nI_clamp (by omega), hC.shw hb (by omega), oI_m1 (by omega)]
      rw [show T 0 0 - k = (T 0 0 - (k + 1)) + 1 by omega, sLk] at h
      refine ⟨fun e => ?_, fun e => ?_⟩
      · rw [if_pos e] at h
        rw [nI_1]
        exact ih m hm h
      · rw [if_neg e] at h
        refine ⟨fun z => ?_, fun z => ?_⟩
        · rw [I0, nI_eq hm (by decide)] at z
          subst z
          rw [List.getD_cons_zero] at h
          exact ⟨hS, h⟩
        · rw [I0, nI_eq hm (by decide)] at z
          obtain ⟨j, rfl⟩ : ∃ j, m = j + 1 := ⟨m - 1, by omega⟩
          rw [List.getD_cons_succ] at h
          rw [nI_m1, nI_1]
          exact ih j (by omega) h
  exact key 0 (Nat.zero_le _) l hl hQ
theorem drop_hd {L R : List Nat} {v k : Nat} (h : L.drop k = v :: R) : L.getD k 0 = v ∧ L.drop (k + 1) = R ∧ k < L.length := by
  have hl : k < L.length := by
    rcases Nat.lt_or_ge k L.length with a | a
    · exact a
    · rw [List.drop_of_length_le a] at h; cases h
  rw [List.drop_eq_getElem_cons hl] at h
  injection h with h1 h2
  refine ⟨?_, h2, hl⟩
  rw [List.getD_eq_getElem?_getD, List.getElem?_eq_getElem hl, h1]; rfl
theorem drop_nil {L : List Nat} {k : Nat} (h : L.drop k = []) : L.length ≤ k := List.drop_eq_nil_iff.mp h
theorem c_MS_marksOf {b n : Nat} (hC : XN μ w T D mg) (hD : 3 ≤ d) (hS : St μ) (hb : b < T 0 0) (hn : n < 6) (hQ : Q (some (.int (nI (marksB D b n)))) μ) : Cal K_MS_marksOf d rc rs [.ref (hd 65 w), .int (nI b), .int (nI n)] μ Q := by
  have hw := hC.w2; have hP := hC.P5; have h60 := hC.S60; have hl5 := shL_len D b n
  refine e_MS_marksOf (g_MS_marksOf_0 (by omega) hw hS ?_)
  have key : ∀ (R : List Nat) (k m : Nat), (shL D b n).drop k = R → k ≤ (shL D b n).length → Q (some (.int (nI (R.foldl (fun m v => m ||| D 4 (v - 1) 3) m)))) μ → Wx K_MS_marksOf d rc rs (fun r μ' => St μ' ∧ Q r μ') 5 [(0, .ref (hd 65 w)), (1, .int (nI b)), (2, .int (nI n)), (3, .int (nI m)), (4, .int (nI k))] [] μ := by
    intro R
    induction R with
    | nil =>
      intro k m e hk h
      have := drop_nil e
      refine g_MS_marksOf_5 (by omega) hw hS (c_MS_shows hC (by omega) hS hb hn ⟨_, rfl, fun _ => ⟨hS, h⟩, fun h => absurd ?_ h⟩)
      rw [nI_leI (by omega) (by omega)]; exact this
    | cons v R ih =>
      intro k m e hk h
      obtain ⟨e1, e2, e3⟩ := drop_hd e
      have hv : v ∈ shL D b n := List.mem_of_mem_drop (i := k) (by rw [e]; exact List.mem_cons_self)
      obtain ⟨v0, v1⟩ := shL_mem hC.2.1 hb hn hv
      refine g_MS_marksOf_5 (by omega) hw hS (c_MS_shows hC (by omega) hS hb hn ⟨_, rfl, fun h => absurd h (nI_ge e3 (by omega)), fun _ => ?_⟩)
      refine c_MS_shown hC (by omega) hS hb hn (by omega) ⟨_, rfl, ?_⟩
      rw [e1, oI_p (by omega), nI_clamp (by omega), hC.s4 v1, nI_or, nI_1]
      exact ⟨vp_in_nI (by omega) (by decide), ih (k + 1) _ e2 e3 h⟩
  exact key _ 0 0 rfl (Nat.zero_le _) hQ
theorem c_MS_waits {b : Nat} (hC : XN μ w T D mg) (hD : 2 ≤ d) (hS : St μ) (hW : WI T D) (hb : b < T 0 0) (hQ : Q (some (.int (nI (D 11 b 0)))) μ) : Cal K_MS_waits d rc rs [.ref (hd 65 w), .int (nI b)] μ Q := by
  have hw := hC.w2; have hP := hC.P5
  refine e_MS_waits (g_MS_waits_0 (by omega) hw hS ⟨vp_in_nI (by omega) (by decide), ?_⟩)
  rw [nI_clamp (by omega)]
  refine c_MM_bits (by omega) hS ⟨_, rfl, hS, ?_⟩
  have e : cnt (mL μ (hd 75 w) b) = D 11 b 0 := by
    rw [(hC.wait hb).cntE, hW b hb]
    refine sumN_congr _ (fun s hs => ?_)
    have := (hC.bdB hb).2.2.1 s hs
    by_cases h0 : D 8 b s = 0
    · rw [bN_f (fun z => z h0), h0]
    · rw [bN_t h0]; omega
  rw [e]; exact hQ
end MSQ
