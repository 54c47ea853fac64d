/-! what days change, as numbers: D; what a list tells: T -/
abbrev DT : Type := Nat → Nat → Nat → Nat
def ud (D : DT) (f i j v : Nat) : DT := fun f' i' j' => if f' = f ∧ i' = i ∧ j' = j then v else D f' i' j'
theorem ud_self {D : DT} {f i j v : Nat} : ud D f i j v f i j = v := if_pos ⟨rfl, rfl, rfl⟩
theorem ud_ne {D : DT} {f i j v f' i' j' : Nat} (h : ¬ (f' = f ∧ i' = i ∧ j' = j)) : ud D f i j v f' i' j' = D f' i' j' := if_neg h
theorem ud_f {D : DT} {f i j v f' i' j' : Nat} (h : f' ≠ f) : ud D f i j v f' i' j' = D f' i' j' := if_neg (fun z => h z.1)
/-- where a number stands in the world w -/
def lc (w f i j : Nat) : Nat × Nat := match f with
  | 0 => (hd 29 w, 4)
  | 1 => (hd 29 w, 5)
  | 2 => (hd 29 w, 6)
  | 3 => (hd 29 w, 7)
  | 4 => (hd 33 (60 * w + i), j + 1)
  | 5 => (hd 34 (60 * w + i), j)
  | 6 => (hd 36 (5 * w + i), j)
  | 7 => (hd 37 (5 * w + i), j)
  | 8 => (hd 38 (5 * w + i), j)
  | 9 => (hd 27 (8 * w + i), j + 3)
  | 10 => (hd 28 (8 * w + i), j)
  | 11 => (hd 35 (5 * w + i), 3)
  | _ => (hd 27 (8 * w + i), j + 1)
def rng (S P R f i j : Nat) : Prop := match f with
  | 0 => i = 0 ∧ j = 0
  | 1 => i = 0 ∧ j = 0
  | 2 => i = 0 ∧ j = 0
  | 3 => i = 0 ∧ j = 0
  | 4 => i < S ∧ j < 6
  | 5 => i < S ∧ j < 5
  | 6 => i < P ∧ j < 5
  | 7 => i < P ∧ j < 30
  | 8 => i < P ∧ j < 60
  | 9 => i < R ∧ j < 2
  | 10 => i < R ∧ j < 60
  | 11 => i < P ∧ j = 0
  | 12 => i < R ∧ j < 2
  | _ => False
def en (f v : Nat) : Int32 := match f with
  | 7 => oI v
  | 10 => oI v
  | _ => nI v
def XR (μ : Mu) (w S P R : Nat) (D : DT) : Prop := ∀ f i j, rng S P R f i j → mI μ (lc w f i j).1 (lc w f i j).2 = en f (D f i j)
theorem rng_f {S P R f i j : Nat} (h : rng S P R f i j) : f < 13 := by
  rcases f with _|_|_|_|_|_|_|_|_|_|_|_|_|f <;> first | omega | (simp only [rng] at h; done)
theorem lc_inj {w f i j f' i' j' : Nat} (h : rng 60 5 8 f i j) (h' : rng 60 5 8 f' i' j') (e1 : (lc w f i j).1 = (lc w f' i' j').1) (e2 : (lc w f i j).2 = (lc w f' i' j').2) : f' = f ∧ i' = i ∧ j' = j := by
  rcases f with _|_|_|_|_|_|_|_|_|_|_|_|_|f <;> first | (simp only [rng] at h; done) | skip
  all_goals
    rcases f' with _|_|_|_|_|_|_|_|_|_|_|_|_|f' <;> first | (simp only [rng] at h'; done) | (simp only [rng, lc, hd] at h h' e1 e2; omega)
theorem rng_mono {S P R f i j : Nat} (h : rng S P R f i j) {S' P' R' : Nat} (hS : S ≤ S') (hP : P ≤ P') (hR : R ≤ R') : rng S' P' R' f i j := by
  rcases f with _|_|_|_|_|_|_|_|_|_|_|_|_|f <;> simp only [rng] at h ⊢ <;> omega
theorem XR.set {μ : Mu} {w S P R f i j v : Nat} {D : DT} (h : XR μ w S P R D) (hS : S ≤ 60) (hP : P ≤ 5) (hR : R ≤ 8) (hr : rng 60 5 8 f i j) : XR (setI μ (lc w f i j).1 (lc w f i j).2 (en f v)) w S P R (ud D f i j v) := by
  intro f' i' j' hr'
  by_cases hq : f' = f ∧ i' = i ∧ j' = j
  · obtain ⟨rfl, rfl, rfl⟩ := hq
    rw [ud_self]
    exact if_pos ⟨rfl, rfl⟩
  · rw [ud_ne hq, mI_set, if_neg (fun z => hq (lc_inj hr (rng_mono hr' hS hP hR) z.1.symm z.2.symm))]
    exact h f' i' j' hr'
abbrev PT : Type := Nat → Nat → Nat
/-- bounds -/
def DB (T : PT) (D : DT) : Prop :=
  (T 0 0 ≤ 5 ∧ T 1 0 ≤ 6 ∧ T 2 0 ≤ 8 ∧ T 6 0 ≤ 20 ∧ D 1 0 0 ≤ 60 ∧ D 0 0 0 < 2 ^ 20) ∧
  (∀ s, s < D 1 0 0 → D 4 s 0 < T 0 0 ∧ D 4 s 1 < T 1 0 ∧ D 4 s 2 ≤ 9999 ∧ D 4 s 3 < 65536 ∧ D 4 s 4 < 2 ^ 20 ∧ D 4 s 5 ≤ 2 ∧ ∀ p, p < 5 → D 5 s p ≤ D 1 0 0) ∧
  (∀ b, b < T 0 0 → (∀ p, p < 5 → D 6 b p ≤ D 1 0 0) ∧ (∀ k, k < 30 → D 7 b k ≤ D 1 0 0) ∧ (∀ s, s < 60 → D 8 b s ≤ 1) ∧ D 11 b 0 ≤ 60 ∧ ∀ k, k < 30 → D 7 b k ≠ 0 → D 4 (D 7 b k - 1) 0 = k % 5 ∧ D 4 (D 7 b k - 1) 1 = k / 5) ∧
  (∀ r, r < T 2 0 → D 12 r 0 < T 0 0 ∧ D 12 r 1 < T 0 0 ∧ 1 ≤ D 9 r 0 ∧ D 9 r 0 ≤ 9 ∧ ∀ s, s < 60 → D 10 r s < 2 ^ 20 + 20)
/-- the world w holds D, and its plan is T's -/
def XC (μ : Mu) (w : Nat) (T : PT) (D : DT) : Prop :=
  w < 2 ∧ DB T D ∧ XR μ w (D 1 0 0) (T 0 0) (T 2 0) D ∧ (mI μ (hd 18 (px μ (hd 29 w) 3)) 3 = nI (T 0 0) ∧ mI μ (hd 18 (px μ (hd 29 w) 3)) 4 = nI (T 1 0) ∧ mI μ (hd 18 (px μ (hd 29 w) 3)) 5 = nI (T 2 0) ∧ mI μ (hd 18 (px μ (hd 29 w) 3)) 6 = nI (T 6 0))
section XCA
variable {μ : Mu} {w : Nat} {T : PT} {D : DT} (h : XC μ w T D)
theorem XC.w2 (h : XC μ w T D) : w < 2 := h.1
theorem XC.P5 (h : XC μ w T D) : T 0 0 ≤ 5 := h.2.1.1.1
theorem XC.N6 (h : XC μ w T D) : T 1 0 ≤ 6 := h.2.1.1.2.1
theorem XC.R8 (h : XC μ w T D) : T 2 0 ≤ 8 := h.2.1.1.2.2.1
theorem XC.O20 (h : XC μ w T D) : T 6 0 ≤ 20 := h.2.1.1.2.2.2.1
theorem XC.S60 (h : XC μ w T D) : D 1 0 0 ≤ 60 := h.2.1.1.2.2.2.2.1
theorem XC.dayB (h : XC μ w T D) : D 0 0 0 < 2 ^ 20 := h.2.1.1.2.2.2.2.2
theorem XC.shB (h : XC μ w T D) {s : Nat} (hs : s < D 1 0 0) : D 4 s 0 < T 0 0 ∧ D 4 s 1 < T 1 0 ∧ D 4 s 2 ≤ 9999 ∧ D 4 s 3 < 65536 ∧ D 4 s 4 < 2 ^ 20 ∧ D 4 s 5 ≤ 2 ∧ ∀ p, p < 5 → D 5 s p ≤ D 1 0 0 := h.2.1.2.1 s hs
theorem XC.bdB (h : XC μ w T D) {b : Nat} (hb : b < T 0 0) : (∀ p, p < 5 → D 6 b p ≤ D 1 0 0) ∧ (∀ k, k < 30 → D 7 b k ≤ D 1 0 0) ∧ (∀ s, s < 60 → D 8 b s ≤ 1) ∧ D 11 b 0 ≤ 60 ∧ ∀ k, k < 30 → D 7 b k ≠ 0 → D 4 (D 7 b k - 1) 0 = k % 5 ∧ D 4 (D 7 b k - 1) 1 = k / 5 := h.2.1.2.2.1 b hb
theorem XC.rdB (h : XC μ w T D) {r : Nat} (hr : r < T 2 0) : D 12 r 0 < T 0 0 ∧ D 12 r 1 < T 0 0 ∧ 1 ≤ D 9 r 0 ∧ D 9 r 0 ≤ 9 ∧ ∀ s, s < 60 → D 10 r s < 2 ^ 20 + 20 := h.2.1.2.2.2 r hr
theorem XC.day (h : XC μ w T D) : mI μ (hd 29 w) 4 = nI (D 0 0 0) := h.2.2.1 0 0 0 ⟨rfl, rfl⟩
theorem XC.cnt (h : XC μ w T D) : mI μ (hd 29 w) 5 = nI (D 1 0 0) := h.2.2.1 1 0 0 ⟨rfl, rfl⟩
theorem XC.hung (h : XC μ w T D) : mI μ (hd 29 w) 6 = nI (D 2 0 0) := h.2.2.1 2 0 0 ⟨rfl, rfl⟩
theorem XC.car (h : XC μ w T D) : mI μ (hd 29 w) 7 = nI (D 3 0 0) := h.2.2.1 3 0 0 ⟨rfl, rfl⟩
theorem XC.s1 (h : XC μ w T D) {s : Nat} (hs : s < D 1 0 0) : mI μ (hd 33 (60 * w + s)) 1 = nI (D 4 s 0) := h.2.2.1 4 s 0 ⟨hs, by decide⟩
theorem XC.s2 (h : XC μ w T D) {s : Nat} (hs : s < D 1 0 0) : mI μ (hd 33 (60 * w + s)) 2 = nI (D 4 s 1) := h.2.2.1 4 s 1 ⟨hs, by decide⟩
theorem XC.s3 (h : XC μ w T D) {s : Nat} (hs : s < D 1 0 0) : mI μ (hd 33 (60 * w + s)) 3 = nI (D 4 s 2) := h.2.2.1 4 s 2 ⟨hs, by decide⟩
theorem XC.s4 (h : XC μ w T D) {s : Nat} (hs : s < D 1 0 0) : mI μ (hd 33 (60 * w + s)) 4 = nI (D 4 s 3) := h.2.2.1 4 s 3 ⟨hs, by decide⟩
theorem XC.s5 (h : XC μ w T D) {s : Nat} (hs : s < D 1 0 0) : mI μ (hd 33 (60 * w + s)) 5 = nI (D 4 s 4) := h.2.2.1 4 s 4 ⟨hs, by decide⟩
theorem XC.s6 (h : XC μ w T D) {s : Nat} (hs : s < D 1 0 0) : mI μ (hd 33 (60 * w + s)) 6 = nI (D 4 s 5) := h.2.2.1 4 s 5 ⟨hs, by decide⟩
theorem XC.stamp (h : XC μ w T D) {s p : Nat} (hs : s < D 1 0 0) (hp : p < 5) : mI μ (hd 34 (60 * w + s)) p = nI (D 5 s p) := h.2.2.1 5 s p ⟨hs, hp⟩
theorem XC.num (h : XC μ w T D) {b p : Nat} (hb : b < T 0 0) (hp : p < 5) : mI μ (hd 36 (5 * w + b)) p = nI (D 6 b p) := h.2.2.1 6 b p ⟨hb, hp⟩
theorem XC.shw (h : XC μ w T D) {b k : Nat} (hb : b < T 0 0) (hk : k < 30) : mI μ (hd 37 (5 * w + b)) k = oI (D 7 b k) := h.2.2.1 7 b k ⟨hb, hk⟩
theorem XC.wait (h : XC μ w T D) {b s : Nat} (hb : b < T 0 0) (hs : s < 60) : mI μ (hd 38 (5 * w + b)) s = nI (D 8 b s) := h.2.2.1 8 b s ⟨hb, hs⟩
theorem XC.wc (h : XC μ w T D) {b : Nat} (hb : b < T 0 0) : mI μ (hd 35 (5 * w + b)) 3 = nI (D 11 b 0) := h.2.2.1 11 b 0 ⟨hb, rfl⟩
theorem XC.r1 (h : XC μ w T D) {r : Nat} (hr : r < T 2 0) : mI μ (hd 27 (8 * w + r)) 1 = nI (D 12 r 0) := h.2.2.1 12 r 0 ⟨hr, by decide⟩
theorem XC.r2 (h : XC μ w T D) {r : Nat} (hr : r < T 2 0) : mI μ (hd 27 (8 * w + r)) 2 = nI (D 12 r 1) := h.2.2.1 12 r 1 ⟨hr, by decide⟩
theorem XC.r3 (h : XC μ w T D) {r : Nat} (hr : r < T 2 0) : mI μ (hd 27 (8 * w + r)) 3 = nI (D 9 r 0) := h.2.2.1 9 r 0 ⟨hr, by decide⟩
theorem XC.r4 (h : XC μ w T D) {r : Nat} (hr : r < T 2 0) : mI μ (hd 27 (8 * w + r)) 4 = nI (D 9 r 1) := h.2.2.1 9 r 1 ⟨hr, by decide⟩
theorem XC.com (h : XC μ w T D) {r s : Nat} (hr : r < T 2 0) (hs : s < 60) : mI μ (hd 28 (8 * w + r)) s = oI (D 10 r s) := h.2.2.1 10 r s ⟨hr, hs⟩
theorem XC.pP (h : XC μ w T D) : mI μ (hd 18 (px μ (hd 29 w) 3)) 3 = nI (T 0 0) := h.2.2.2.1
theorem XC.pN (h : XC μ w T D) : mI μ (hd 18 (px μ (hd 29 w) 3)) 4 = nI (T 1 0) := h.2.2.2.2.1
theorem XC.pR (h : XC μ w T D) : mI μ (hd 18 (px μ (hd 29 w) 3)) 5 = nI (T 2 0) := h.2.2.2.2.2.1
theorem XC.pO (h : XC μ w T D) : mI μ (hd 18 (px μ (hd 29 w) 3)) 6 = nI (T 6 0) := h.2.2.2.2.2.2
end XCA
theorem oI_toInt {v : Nat} (h : v < 2 ^ 31) : (oI v).toInt = (v : Int) - 1 := by
  rcases Nat.eq_zero_or_pos v with rfl | h0
  · rw [oI_0]; decide
  · rw [oI_p h0, nI_toInt (by omega)]; omega
theorem oI_lt {v n : Nat} (hv : v < 2 ^ 31) (hn : n < 2 ^ 31) : oI v < nI n ↔ v ≤ n := by
  rw [Int32.lt_iff_toInt_lt, oI_toInt hv, nI_toInt hn]; omega
/-! what is asked of D -/
def kn (D : DT) (b s : Nat) : Prop := D 5 s (D 4 s 0) ≤ D 6 b (D 4 s 0)
def ah (D : DT) (s t : Nat) : Prop := D 5 s (D 4 s 0) ≤ D 5 t (D 4 s 0)
def shL (D : DT) (b n : Nat) : List Nat := sLk (fun p => D 7 b (5 * n + p)) 0 5
noncomputable def knowersN (T : PT) (D : DT) (s : Nat) : Nat := sumN (fun b => bN (kn D b s)) (T 0 0)
def knownB (D : DT) (b : Nat) : Nat := sumN (fun p => D 6 b p) 5
def knownAll (T : PT) (D : DT) : Nat := sumN (fun b => knownB D b) (T 0 0)
noncomputable def showersN (T : PT) (D : DT) (s : Nat) : Nat := sumN (fun b => bN (D 7 b (5 * D 4 s 1 + D 4 s 0) = s + 1)) (T 0 0)
noncomputable def roadsFromN (T : PT) (D : DT) (p : Nat) : Nat := sumN (fun r => bN (D 12 r 0 = p)) (T 2 0)
noncomputable def uwN (D : DT) (r : Nat) : Nat := sumN (fun s => bN (D 0 0 0 < D 10 r s)) (D 1 0 0)
noncomputable def uwAll (T : PT) (D : DT) : Nat := sumN (fun r => uwN D r) (T 2 0)
def waitAll (T : PT) (D : DT) : Nat := sumN (fun b => D 11 b 0) (T 0 0)
noncomputable def tornB (D : DT) (b l : Nat) : Nat := sumN (fun n => bN (l ≤ (shL D b n).length)) 6
noncomputable def tornAll (T : PT) (D : DT) : Nat := sumN (fun b => tornB D b 2) (T 0 0)
noncomputable def mergedN (D : DT) : Nat := sumN (fun s => bN (D 4 s 5 = 2)) (D 1 0 0)
def marksB (D : DT) (b n : Nat) : Nat := (shL D b n).foldl (fun m v => m ||| D 4 (v - 1) 3) 0
theorem sLk_len (f : Nat → Nat) : ∀ j k, (sLk f k j).length ≤ j
  | 0, _ => by simp [sLk]
  | j + 1, k => by
    have := sLk_len f j (k + 1)
    rw [sLk]; split <;> simp <;> omega
theorem sLk_mem (f : Nat → Nat) : ∀ j k v, v ∈ sLk f k j → v ≠ 0 ∧ ∃ p, k ≤ p ∧ p < k + j ∧ f p = v
  | 0, _, _, h => by simp [sLk] at h
  | j + 1, k, v, h => by
    rw [sLk] at h
    split at h
    · obtain ⟨a, p, h1, h2, h3⟩ := sLk_mem f j (k + 1) v h
      exact ⟨a, p, by omega, by omega, h3⟩
    · rename_i hk
      rcases List.mem_cons.mp h with rfl | h
      · exact ⟨hk, k, Nat.le_refl _, by omega, rfl⟩
      · obtain ⟨a, p, h1, h2, h3⟩ := sLk_mem f j (k + 1) v h
        exact ⟨a, p, by omega, by omega, h3⟩
