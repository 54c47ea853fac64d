/-! the component's world begins anew, and is copied -/
section WBA
variable {d rc rs : Nat} {Q : Option Value → Mu → Prop} {μ : Mu} {T : PT} {D : DT}
/-- nothing has been done -/
def D0 (D : DT) : Prop := (D 0 0 0 = 0 ∧ D 1 0 0 = 0 ∧ D 2 0 0 = 0 ∧ D 3 0 0 = 0) ∧ (∀ b p, D 6 b p = 0) ∧ (∀ b k, D 7 b k = 0) ∧ (∀ b s, D 8 b s = 0) ∧ (∀ b, D 11 b 0 = 0) ∧ (∀ r, D 9 r 1 = 0) ∧ ∀ r s, D 10 r s = 0
theorem c_Wd_begin {q : Nat} (hD : 2 ≤ d) (hS : St μ) (hq : q < 2) (hB : DB T D) (hz : D0 D)
    (hp : mI μ (hd 18 q) 3 = nI (T 0 0) ∧ mI μ (hd 18 q) 4 = nI (T 1 0) ∧ mI μ (hd 18 q) 5 = nI (T 2 0) ∧ mI μ (hd 18 q) 6 = nI (T 6 0))
    (hr : ∀ r, r < T 2 0 → mI μ (hd 27 (16 + 8 * q + r)) 1 = nI (D 12 r 0) ∧ mI μ (hd 27 (16 + 8 * q + r)) 2 = nI (D 12 r 1) ∧ mI μ (hd 27 (16 + 8 * q + r)) 3 = nI (D 9 r 0) ∧ mI μ (hd 27 (16 + 8 * q + r)) 4 = 0 ∧ ∀ k, k < 60 → mI μ (hd 28 (16 + 8 * q + r)) k = -1)
    (hQ : ∀ μ', Fr (OwW 0) μ μ' → px μ' (hd 29 0) 3 = q → St μ' → XC μ' 0 T D → Q none μ') : Cal K_Wd_begin d rc rs [.ref (hd 29 0), .ref (hd 18 q)] μ Q := by
  have h5 := hB.1.1; have h8 := hB.1.2.2.1
  obtain ⟨⟨z0, z1, z2, z3⟩, z6, z7, z8, z11, z9, z10⟩ := hz
  have hS1 : St (setI (setI (setI (setI (setR μ (hd 29 0) 3 (hd 18 q)) (hd 29 0) 4 0) (hd 29 0) 5 0) (hd 29 0) 6 0) (hd 29 0) 7 0) := sd_29_3 hS (by decide) hq
  have f1 : Fr (OwW 0) μ (setI (setI (setI (setI (setR μ (hd 29 0) 3 (hd 18 q)) (hd 29 0) 4 0) (hd 29 0) 5 0) (hd 29 0) 6 0) (hd 29 0) 7 0) := ((((Fr.rf.setR (by decide) (Or.inl ⟨rfl, rfl⟩)).setI (by decide) (Or.inl ⟨rfl, rfl⟩)).setI (by decide) (Or.inl ⟨rfl, rfl⟩)).setI (by decide) (Or.inl ⟨rfl, rfl⟩)).setI (by decide) (Or.inl ⟨rfl, rfl⟩)
  have a29 : ∀ k, 4 ≤ k → k ≤ 7 → mI (setI (setI (setI (setI (setR μ (hd 29 0) 3 (hd 18 q)) (hd 29 0) 4 0) (hd 29 0) 5 0) (hd 29 0) 6 0) (hd 29 0) 7 0) (hd 29 0) k = 0 := fun k h4 h7 => by
    rcases (by omega : k = 4 ∨ k = 5 ∨ k = 6 ∨ k = 7) with rfl | rfl | rfl | rfl
    · rw [rd_k (by decide), rd_k (by decide), rd_k (by decide), rd_eq]
    · rw [rd_k (by decide), rd_k (by decide), rd_eq]
    · rw [rd_k (by decide), rd_eq]
    · rw [rd_eq]
  have b29 : px (setI (setI (setI (setI (setR μ (hd 29 0) 3 (hd 18 q)) (hd 29 0) 4 0) (hd 29 0) 5 0) (hd 29 0) 6 0) (hd 29 0) 7 0) (hd 29 0) 3 = q := px_eq (κ := 18) (by decide) (by rw [mR_setI, mR_setI, mR_setI, mR_setI, mR_set, if_pos ⟨rfl, rfl⟩])
  refine e_Wd_begin (g_Wd_begin_0 (by omega) (by decide) hq hS ?_)
  generalize setI (setI (setI (setI (setR μ (hd 29 0) 3 (hd 18 q)) (hd 29 0) 4 0) (hd 29 0) 5 0) (hd 29 0) 6 0) (hd 29 0) 7 0 = μ1 at *
  -- roads
  have k61 : ∀ r, r ≤ T 2 0 → ∀ μ', Fr (OwW 0) μ μ' → px μ' (hd 29 0) 3 = q → St μ' → (∀ k, 4 ≤ k → k ≤ 7 → mI μ' (hd 29 0) k = 0) → (∀ b, b < 5 → (∀ p, p < 5 → mI μ' (hd 36 (5 * 0 + b)) p = 0) ∧ (∀ k, k < 30 → mI μ' (hd 37 (5 * 0 + b)) k = -1) ∧ (∀ s, s < 60 → mI μ' (hd 38 (5 * 0 + b)) s = 0) ∧ mI μ' (hd 35 (5 * 0 + b)) 3 = 0) →
      (∀ x, x < r → (∀ s, s < 60 → mI μ' (hd 28 (8 * 0 + x)) s = -1) ∧ mI μ' (hd 27 (8 * 0 + x)) 1 = nI (D 12 x 0) ∧ mI μ' (hd 27 (8 * 0 + x)) 2 = nI (D 12 x 1) ∧ mI μ' (hd 27 (8 * 0 + x)) 3 = nI (D 9 x 0) ∧ mI μ' (hd 27 (8 * 0 + x)) 4 = 0) → Wx K_Wd_begin d rc rs (fun r μ' => St μ' ∧ Q r μ') 61 [(0, .ref (hd 29 0)), (2, .int (nI r))] [] μ' := by
    refine up_loop _ (fun μ' f p s g b x => ?_) (fun r hr' ih μ' f p s g b x => ?_)
    · have e18 : ∀ k, mI μ' (hd 18 q) k = mI μ (hd 18 q) k := fun k => f.I (by decide) (by unfold OwW; omega)
      refine g_Wd_begin_61 (by omega) (by decide) s ⟨fun _ => ⟨s, hQ μ' f p s ⟨by decide, hB, ?_, ?_⟩⟩, fun h => absurd ?_ h⟩
      · intro f' i j hr'
        rcases f' with _|_|_|_|_|_|_|_|_|_|_|_|_|f' <;> simp only [rng] at hr'
        · obtain ⟨rfl, rfl⟩ := hr'; show mI μ' (hd 29 0) 4 = nI (D 0 0 0); rw [z0]; exact g 4 (by decide) (by decide)
        · obtain ⟨rfl, rfl⟩ := hr'; show mI μ' (hd 29 0) 5 = nI (D 1 0 0); rw [z1]; exact g 5 (by decide) (by decide)
        · obtain ⟨rfl, rfl⟩ := hr'; show mI μ' (hd 29 0) 6 = nI (D 2 0 0); rw [z2]; exact g 6 (by decide) (by decide)
        · obtain ⟨rfl, rfl⟩ := hr'; show mI μ' (hd 29 0) 7 = nI (D 3 0 0); rw [z3]; exact g 7 (by decide) (by decide)
        · rw [z1] at hr'; exact absurd hr'.1 (Nat.not_lt_zero _)
        · rw [z1] at hr'; exact absurd hr'.1 (Nat.not_lt_zero _)
        · show mI μ' (hd 36 (5 * 0 + i)) j = nI (D 6 i j); rw [z6]; exact (b i (by omega)).1 j hr'.2
        · show mI μ' (hd 37 (5 * 0 + i)) j = oI (D 7 i j); rw [z7, oI_0]; exact (b i (by omega)).2.1 j hr'.2
        · show mI μ' (hd 38 (5 * 0 + i)) j = nI (D 8 i j); rw [z8]; exact (b i (by omega)).2.2.1 j hr'.2
        · show mI μ' (hd 27 (8 * 0 + i)) (j + 3) = nI (D 9 i j)
          obtain ⟨-, -, -, x3, x4⟩ := x i hr'.1
          rcases (by omega : j = 0 ∨ j = 1) with rfl | rfl
          · exact x3
          · rw [z9]; exact x4
        · show mI μ' (hd 28 (8 * 0 + i)) j = oI (D 10 i j); rw [z10, oI_0]; exact (x i hr'.1).1 j hr'.2
        · obtain ⟨h, rfl⟩ := hr'; show mI μ' (hd 35 (5 * 0 + i)) 3 = nI (D 11 i 0); rw [z11]; exact (b i (by omega)).2.2.2
        · show mI μ' (hd 27 (8 * 0 + i)) (j + 1) = nI (D 12 i j)
          obtain ⟨-, x1, x2, -, -⟩ := x i hr'.1
          rcases (by omega : j = 0 ∨ j = 1) with rfl | rfl
          · exact x1
          · exact x2
      · rw [p, e18, e18, e18, e18]; exact hp
      · rw [p, e18, hp.2.2.1]; exact Int32.le_refl _
    · obtain ⟨y1, y2, y3, y4, y5⟩ := hr r hr'
      refine g_Wd_begin_61 (by omega) (by decide) s ⟨fun h => absurd h ?_, fun _ => ⟨vp_in_nI (by omega) (by decide), vp_in_nI (by omega) (by decide), ?_⟩⟩
      · rw [p, f.I (by decide) (by unfold OwW; omega), hp.2.2.1]; exact nI_ge hr' (by omega)
      rw [nI_clamp (by omega), p]
      refine c_Rd_copyFrom (by omega) s (by omega) (by omega) (by omega) (fun μ2 m1 m2 m3 m4 m5 => ⟨rfl, ?_⟩)
      rw [nI_1]
      have fo : ∀ κ i k, κ < 256 → ¬ ((κ = 27 ∨ κ = 28) ∧ i = 8 * 0 + r) → mI μ2 (hd κ i) k = mI μ' (hd κ i) k := fun κ i k h h' => m1.I h h'
      have n16 : ∀ κ k, (κ = 27 ∨ κ = 28) → mI μ' (hd κ (16 + 8 * q + r)) k = mI μ (hd κ (16 + 8 * q + r)) k := fun κ k h => f.I (by omega) (by unfold OwW; omega)
      refine ih μ2 (f.trans (m1.mono (fun κ i z => by unfold OwW; omega))) (by unfold px; rw [m2]; exact p) m3 (fun k h4 h7 => by rw [fo _ _ _ (by decide) (by omega)]; exact g k h4 h7) (fun c hc => ?_) (fun y hy => ?_)
      · obtain ⟨c1, c2, c3, c4⟩ := b c hc
        refine ⟨fun p hp => ?_, fun k hk => ?_, fun s hs => ?_, ?_⟩
        · rw [fo _ _ _ (by decide) (by omega)]; exact c1 p hp
        · rw [fo _ _ _ (by decide) (by omega)]; exact c2 k hk
        · rw [fo _ _ _ (by decide) (by omega)]; exact c3 s hs
        · rw [fo _ _ _ (by decide) (by omega)]; exact c4
      · by_cases e : y = r
        · rw [e]
          refine ⟨fun s hs => ?_, ?_, ?_, ?_, ?_⟩
          · rw [m4 s hs, n16 28 s (Or.inr rfl)]; exact y5 s hs
          · rw [m5 1 (by decide) (by decide), n16 27 1 (Or.inl rfl)]; exact y1
          · rw [m5 2 (by decide) (by decide), n16 27 2 (Or.inl rfl)]; exact y2
          · rw [m5 3 (by decide) (by decide), n16 27 3 (Or.inl rfl)]; exact y3
          · rw [m5 4 (by decide) (by decide), n16 27 4 (Or.inl rfl)]; exact y4
        · obtain ⟨w1, w2, w3, w4, w5⟩ := x y (by omega)
          refine ⟨fun s hs => ?_, ?_, ?_, ?_, ?_⟩
          · rw [fo _ _ _ (by decide) (by omega)]; exact w1 s hs
          · rw [fo _ _ _ (by decide) (by omega)]; exact w2
          · rw [fo _ _ _ (by decide) (by omega)]; exact w3
          · rw [fo _ _ _ (by decide) (by omega)]; exact w4
          · rw [fo _ _ _ (by decide) (by omega)]; exact w5
  -- boards
  have k36 : ∀ c, c ≤ 5 → ∀ μ', Fr (OwW 0) μ μ' → px μ' (hd 29 0) 3 = q → St μ' → (∀ k, 4 ≤ k → k ≤ 7 → mI μ' (hd 29 0) k = 0) → (∀ b, b < c → (∀ p, p < 5 → mI μ' (hd 36 (5 * 0 + b)) p = 0) ∧ (∀ k, k < 30 → mI μ' (hd 37 (5 * 0 + b)) k = -1) ∧ (∀ s, s < 60 → mI μ' (hd 38 (5 * 0 + b)) s = 0) ∧ mI μ' (hd 35 (5 * 0 + b)) 3 = 0) → Wx K_Wd_begin d rc rs (fun r μ' => St μ' ∧ Q r μ') 36 [(0, .ref (hd 29 0)), (2, .ref (hd 31 0)), (3, .int (nI 5)), (4, .int (nI c))] [] μ' := by
    refine up_loop 5 (fun μ' f p s g b => ?_) (fun c hc ih μ' f p s g b => ?_)
    · exact g_Wd_begin_36 (by omega) (by decide) (by decide) s ⟨fun _ => k61 0 (Nat.zero_le _) μ' f p s g b (fun x hx => absurd hx (Nat.not_lt_zero _)), fun h => absurd (Int32.le_refl _) h⟩
    · refine g_Wd_begin_36 (by omega) (by decide) (by decide) s ⟨fun h => absurd h (nI_ge hc (by decide)), fun _ => ⟨vp_in_nI hc (by decide), ?_⟩⟩
      rw [nI_clamp (by omega)]
      refine c_Bd_clear (by omega) s (by omega) (fun μ2 m1 m2 m3 m4 m5 m6 m7 => ⟨rfl, ?_⟩)
      rw [nI_1]
      have fo : ∀ κ i k, κ < 256 → ¬ OwBd (5 * 0 + c) κ i → mI μ2 (hd κ i) k = mI μ' (hd κ i) k := fun κ i k h h' => m1.I h h'
      refine ih μ2 (f.trans (m1.mono (fun κ i z => by unfold OwBd at z; unfold OwW; omega))) (by unfold px; rw [m2]; exact p) m3 (fun k h4 h7 => by rw [fo _ _ _ (by decide) (by unfold OwBd; omega)]; exact g k h4 h7) (fun y hy => ?_)
      by_cases e : y = c
      · rw [e]; exact ⟨m4, m5, m6, m7⟩
      · obtain ⟨c1, c2, c3, c4⟩ := b y (by omega)
        refine ⟨fun p hp => ?_, fun k hk => ?_, fun s hs => ?_, ?_⟩
        · rw [fo _ _ _ (by decide) (by unfold OwBd; omega)]; exact c1 p hp
        · rw [fo _ _ _ (by decide) (by unfold OwBd; omega)]; exact c2 k hk
        · rw [fo _ _ _ (by decide) (by unfold OwBd; omega)]; exact c3 s hs
        · rw [fo _ _ _ (by decide) (by unfold OwBd; omega)]; exact c4
  exact k36 0 (by decide) μ1 f1 b29 hS1 a29 (fun b hb => absurd hb (Nat.not_lt_zero _))
end WBA
