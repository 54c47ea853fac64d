/-! what waits is hung; what was sent comes -/
theorem sumN_chg {f g : Nat → Nat} {s : Nat} : ∀ n, s < n → (∀ k, k < n → k ≠ s → g k = f k) → sumN g n + f s = sumN f n + g s
  | 0, h, _ => by omega
  | n + 1, h, e => by
    rw [sumN, sumN]
    rcases Nat.lt_succ_iff_lt_or_eq.mp h with hs | rfl
    · have := sumN_chg n hs (fun k hk hne => e k (by omega) hne)
      have := e n (by omega) (by omega)
      omega
    · have := sumN_congr (f := g) (g := f) s (fun k hk => e k (by omega) (by omega))
      omega
theorem sumN_pos {f : Nat → Nat} {s : Nat} : ∀ n, s < n → f s ≤ sumN f n
  | 0, h => by omega
  | n + 1, h => by
    rw [sumN]
    rcases Nat.lt_succ_iff_lt_or_eq.mp h with hs | rfl
    · have := sumN_pos (f := f) n hs; omega
    · omega
theorem hang_f {T : PT} {D : DT} {b s f i j : Nat} (h2 : f ≠ 2) (h6 : f ≠ 6) (h7 : f ≠ 7) (h8 : f ≠ 8) (h11 : f ≠ 11) : hangD T D b s f i j = D f i j := by
  unfold hangD
  simp only [ud_f h2, ud_f h7, ud_f h6, ud_f h11, ud_f h8, clrD_f _ _ _ _ (Or.inl h7)]
theorem hang_8 {T : PT} {D : DT} {b s c t : Nat} : hangD T D b s 8 c t = if c = b ∧ t = s then 0 else D 8 c t := by
  unfold hangD
  simp only [ud_f (show 8 ≠ 2 by decide), ud_f (show 8 ≠ 7 by decide), clrD_f _ _ _ _ (Or.inl (show 8 ≠ 7 by decide)), ud_f (show 8 ≠ 6 by decide), ud_f (show 8 ≠ 11 by decide)]
  simp [ud]
theorem hang_11 {T : PT} {D : DT} {b s c : Nat} : hangD T D b s 11 c 0 = if c = b then D 11 b 0 - 1 else D 11 c 0 := by
  unfold hangD
  simp only [ud_f (show 11 ≠ 2 by decide), ud_f (show 11 ≠ 7 by decide), clrD_f _ _ _ _ (Or.inl (show 11 ≠ 7 by decide)), ud_f (show 11 ≠ 6 by decide)]
  simp [ud]
/-- the count of what waits -/
def WI (T : PT) (D : DT) : Prop := ∀ b, b < T 0 0 → D 11 b 0 = sumN (fun s => D 8 b s) 60
theorem WI.hang {T : PT} {D : DT} {b s : Nat} (h : WI T D) (hs : s < 60) (h1 : D 8 b s = 1) : WI T (hangD T D b s) := by
  intro c hc
  rw [hang_11]
  by_cases hcb : c = b
  · subst hcb
    rw [if_pos rfl, h c hc]
    have := sumN_chg (f := fun s => D 8 c s) (g := fun t => hangD T D c s 8 c t) (s := s) 60 hs (fun k hk hne => by
      show hangD T D c s 8 c k = _
      rw [hang_8, if_neg (fun z => hne z.2)])
    have e : hangD T D c s 8 c s = 0 := by rw [hang_8, if_pos ⟨rfl, rfl⟩]
    simp only [e, h1] at this
    omega
  · rw [if_neg hcb, h c hc]
    exact sumN_congr _ (fun k hk => by rw [hang_8, if_neg (fun z => hcb z.1)])
noncomputable def hoF (T : PT) (D : DT) (b : Nat) : Nat → DT
  | 0 => D
  | k + 1 => @ite _ (hoF T D b k 8 b k ≠ 0 ∧ cH (hoF T D b k) b k) (Classical.propDecidable _) (hangD T (hoF T D b k) b k) (hoF T D b k)
theorem hoF_f {T : PT} {D : DT} {b f i j : Nat} (h2 : f ≠ 2) (h6 : f ≠ 6) (h7 : f ≠ 7) (h8 : f ≠ 8) (h11 : f ≠ 11) : ∀ k, hoF T D b k f i j = D f i j
  | 0 => rfl
  | k + 1 => by
    rw [hoF]
    split
    · rw [hang_f h2 h6 h7 h8 h11, hoF_f h2 h6 h7 h8 h11 k]
    · exact hoF_f h2 h6 h7 h8 h11 k
theorem hoF_8 {T : PT} {D : DT} {b c t : Nat} : ∀ k, (c ≠ b ∨ k ≤ t) → hoF T D b k 8 c t = D 8 c t
  | 0, _ => rfl
  | k + 1, h => by
    rw [hoF]
    split
    · rw [hang_8, if_neg (fun z => by have := z.1; have := z.2; omega), hoF_8 k (by omega)]
    · exact hoF_8 k (by omega)
theorem hoF_stop {T : PT} {D : DT} {b k : Nat} (hz : ∀ s, s < 60 → hoF T D b k 8 b s = 0) : ∀ n, k + n ≤ 60 → hoF T D b (k + n) = hoF T D b k
  | 0, _ => rfl
  | n + 1, h => by
    have ih := hoF_stop hz n (by omega)
    rw [show k + (n + 1) = (k + n) + 1 by omega, hoF, ih, if_neg (fun z => z.1 (hz (k + n) (by omega)))]
theorem DB.hang {T : PT} {D : DT} (h : DB T D) {b s : Nat} (hb : b < T 0 0) (hs : s < D 1 0 0) (hk : D 6 b (D 4 s 0) + 1 ≤ D 1 0 0) : DB T (hangD T D b s) := by
  have hb4 := ((h.2.2.1 b hb).2.2.2.1)
  have hP := h.1.1
  obtain ⟨a1, a2, -⟩ := h.2.1 s hs
  have h1 : DB T (ud (ud (ud D 8 b s 0) 11 b 0 (D 11 b 0 - 1)) 6 b (D 4 s 0) (D 6 b (D 4 s 0) + 1)) := ((h.ud8 (by decide)).ud11 (by omega)).ud6 hk
  have h2 : ∀ k, DB T (clrD (ud (ud (ud D 8 b s 0) 11 b 0 (D 11 b 0 - 1)) 6 b (D 4 s 0) (D 6 b (D 4 s 0) + 1)) b s k) := by
    intro k
    induction k with
    | zero => exact h1
    | succ k ih =>
      rw [clrD]
      split
      · exact ih.ud7 (Nat.zero_le _) (fun x => absurd rfl x)
      · exact ih
  unfold hangD
  refine ((h2 (T 0 0)).ud7 ?_ (fun _ => ?_)).ud2
  · rw [clrD_f _ _ _ _ (Or.inl (by decide))]; exact hs
  · rw [Nat.add_sub_cancel, clrD_f _ _ _ _ (Or.inl (by decide)), clrD_f _ _ _ _ (Or.inl (by decide))]
    show D 4 s 0 = _ ∧ D 4 s 1 = _
    omega
theorem c_Wd_hangOn {d rc rs w b : Nat} {Q : Option Value → Mu → Prop} {μ : Mu} {T : PT} {D : DT} (hC : XC μ w T D) (hD : 3 ≤ d) (hS : St μ) (hb : b < T 0 0) (hW : WI T D)
    (hQ : ∀ μ', Fr (OwW w) μ μ' → mR μ' = mR μ → St μ' → XC μ' w T (hoF T D b (D 1 0 0)) → WI T (hoF T D b (D 1 0 0)) → Q none μ') : Cal K_Wd_hangOn d rc rs [.ref (hd 29 w), .ref (hd 35 (5 * w + b))] μ Q := by
  have hw := hC.w2; have hP := hC.P5; have h60 := hC.S60; have hN := hC.N6
  refine e_Wd_hangOn (g_Wd_hangOn_0 (by omega) hw (by omega) hS ?_)
  have key : ∀ k, k ≤ D 1 0 0 → ∀ μ', Fr (OwW w) μ μ' → mR μ' = mR μ → St μ' → XC μ' w T (hoF T D b k) → WI T (hoF T D b k) → Wx K_Wd_hangOn d rc rs (fun r μ' => St μ' ∧ Q r μ') 2 [(0, .ref (hd 29 w)), (1, .ref (hd 35 (5 * w + b))), (2, .int (nI k))] [] μ' := by
    refine up_loop _ (fun μ' f1 f2 f3 f4 f5 => ?_) (fun k hk ih μ' f1 f2 f3 f4 f5 => ?_)
    · refine g_Wd_hangOn_2 (by omega) hw (by omega) f3 ⟨fun _ => ⟨f3, hQ μ' f1 f2 f3 f4 f5⟩, fun h => absurd ?_ h⟩
      rw [f4.cnt, hoF_f (by decide) (by decide) (by decide) (by decide) (by decide)]; exact Int32.le_refl _
    · have c1 : hoF T D b k 1 0 0 = D 1 0 0 := hoF_f (by decide) (by decide) (by decide) (by decide) (by decide) k
      have hk' : k < hoF T D b k 1 0 0 := by rw [c1]; exact hk
      obtain ⟨b1, b2, b3, b4, b5⟩ := f4.bdB hb
      have hwk := b3 k (by omega)
      refine g_Wd_hangOn_2 (by omega) hw (by omega) f3 ⟨fun h => absurd h ?_, fun _ => ⟨fun h => ⟨f3, ?_⟩, fun _ => ?_⟩⟩
      · rw [f4.cnt, c1]; exact nI_ge hk (by omega)
      · rw [f4.wc hb, I0, nI_leI (by omega) (by decide)] at h
        have hz : ∀ s, s < 60 → hoF T D b k 8 b s = 0 := fun s hs => by
          have e1 := f5 b hb
          have e2 : hoF T D b k 8 b s ≤ sumN (fun s => hoF T D b k 8 b s) 60 := sumN_pos (f := fun s => hoF T D b k 8 b s) 60 hs
          omega
        have e := hoF_stop hz (D 1 0 0 - k) (by omega)
        rw [show k + (D 1 0 0 - k) = D 1 0 0 by omega] at e
        exact hQ μ' f1 f2 f3 (by rw [e]; exact f4) (by rw [e]; exact f5)
      · have hw0 : mI μ' (hd 38 (5 * w + b)) k = 0 ↔ hoF T D b k 8 b k = 0 := by rw [f4.wait hb (by omega), I0, nI_eq (by omega) (by decide)]
        rw [nI_clamp (by omega), hw0]
        refine ⟨vp_in_nI (by omega) (by decide), fun z => ?_, fun z => ⟨vp_in_nI (by omega) (by decide), ?_⟩⟩
        · rw [nI_1]
          have e : hoF T D b (k + 1) = hoF T D b k := by rw [hoF, if_neg (fun y => y.1 z)]
          exact ih μ' f1 f2 f3 (by rw [e]; exact f4) (by rw [e]; exact f5)
        · obtain ⟨a1, a2, a3, a4, a5, a6, a7⟩ := f4.shB hk'
          refine c_Bd_canHang (a := hoF T D b k 4 k 0) (st := fun p => hoF T D b k 5 k p) (f := fun p => hoF T D b k 6 b p) (by omega) f3 (by omega) (by omega) (f4.s1 hk') (by omega) (fun p hp => ⟨f4.stamp hk' hp, by have := a7 p hp; omega⟩) (fun p hp => ⟨f4.num hb hp, by have := b1 p hp; omega⟩) ⟨_, rfl, fun y => ?_, fun y => ?_⟩
          · rw [bI_z] at y
            rw [nI_1]
            have e : hoF T D b (k + 1) = hoF T D b k := by rw [hoF, if_neg (fun x => y x.2)]
            exact ih μ' f1 f2 f3 (by rw [e]; exact f4) (by rw [e]; exact f5)
          · rw [bI_z, Classical.not_not] at y
            have hwc : 1 ≤ hoF T D b k 11 b 0 := by
              have e1 := f5 b hb
              have e2 : hoF T D b k 8 b k ≤ sumN (fun s => hoF T D b k 8 b s) 60 := sumN_pos (f := fun s => hoF T D b k 8 b s) 60 (show k < 60 by omega)
              omega
            refine c_Wd_hang f4 (by omega) f3 hb hk' z hwc y (fun μ'' g1 g2 g3 g4 => ⟨rfl, ?_⟩)
            rw [nI_1]
            have e : hoF T D b (k + 1) = hangD T (hoF T D b k) b k := by rw [hoF, if_pos ⟨z, y⟩]
            exact ih μ'' (f1.trans g1) (g2.trans f2) g3 (by rw [e]; exact g4) (by rw [e]; exact f5.hang (by omega) (by omega))
  exact key 0 (Nat.zero_le _) μ Fr.rf rfl hS hC hW
/-! what was sent on a road comes -/
noncomputable def brF (D : DT) (r : Nat) : Nat → DT
  | 0 => D
  | k + 1 => @ite _ (D 10 r k = D 0 0 0 + 1 ∧ ¬ kn D (D 12 r 1) k ∧ brF D r k 8 (D 12 r 1) k = 0) (Classical.propDecidable _) (ud (ud (brF D r k) 8 (D 12 r 1) k 1) 11 (D 12 r 1) 0 (brF D r k 11 (D 12 r 1) 0 + 1)) (brF D r k)
theorem brF_f {D : DT} {r f i j : Nat} (h8 : f ≠ 8) (h11 : f ≠ 11) : ∀ k, brF D r k f i j = D f i j
  | 0 => rfl
  | k + 1 => by
    rw [brF]
    split
    · rw [ud_f h11, ud_f h8, brF_f h8 h11 k]
    · exact brF_f h8 h11 k
theorem WI.br {T : PT} {D : DT} {b s : Nat} (h : WI T D) (hs : s < 60) (h0 : D 8 b s = 0) : WI T (ud (ud D 8 b s 1) 11 b 0 (D 11 b 0 + 1)) := by
  intro c hc
  by_cases hcb : c = b
  · subst hcb
    rw [ud_self, h c hc]
    have := sumN_chg (f := fun s => D 8 c s) (g := fun t => ud (ud D 8 c s 1) 11 c 0 (D 11 c 0 + 1) 8 c t) (s := s) 60 hs (fun k hk hne => by
      show ud (ud D 8 c s 1) 11 c 0 (D 11 c 0 + 1) 8 c k = _
      rw [ud_f (by decide), ud_ne (fun z => hne z.2.2)])
    have e : ud (ud D 8 c s 1) 11 c 0 (D 11 c 0 + 1) 8 c s = 1 := by rw [ud_f (by decide), ud_self]
    have e' : sumN (fun t => ud (ud D 8 c s 1) 11 c 0 (D 11 c 0 + 1) 8 c t) 60 + D 8 c s = sumN (fun s => D 8 c s) 60 + ud (ud D 8 c s 1) 11 c 0 (D 11 c 0 + 1) 8 c s := this
    rw [e, h0] at e'
    have h' := h c hc
    rw [h'] at e'
    exact e'.symm
  · rw [ud_ne (fun z => hcb z.2.1), ud_f (by decide), h c hc]
    exact sumN_congr _ (fun k hk => by rw [ud_f (by decide), ud_ne (fun z => hcb z.2.1)])
theorem sumN_le1 {f : Nat → Nat} {n m : Nat} (h : sumN f n = m) (hb : ∀ k, k < n → f k ≤ 1) (s : Nat) (hs : s < n) (h0 : f s = 0) : m + 1 ≤ n := by
  have e := sumN_chg (f := f) (g := fun k => if k = s then 1 else f k) n hs (fun k hk hne => if_neg hne)
  have e2 := sumN_le (f := fun k => if k = s then 1 else f k) (b := 1) n (fun k hk => by show (if k = s then 1 else f k) ≤ 1; split; exact Nat.le_refl 1; exact hb k hk)
  simp only [if_pos, h0] at e
  omega
theorem c_Wd_bringFrom {d rc rs w r : Nat} {Q : Option Value → Mu → Prop} {μ : Mu} {T : PT} {D : DT} (hC : XC μ w T D) (hD : 2 ≤ d) (hS : St μ) (hr : r < T 2 0) (hW : WI T D)
    (hQ : ∀ μ', Fr (OwW w) μ μ' → mR μ' = mR μ → St μ' → XC μ' w T (brF D r (D 1 0 0)) → WI T (brF D r (D 1 0 0)) → Q none μ') : Cal K_Wd_bringFrom d rc rs [.ref (hd 29 w), .ref (hd 27 (8 * w + r))] μ Q := by
  have hw := hC.w2; have hP := hC.P5; have h60 := hC.S60; have hR := hC.R8; have hdy := hC.dayB
  obtain ⟨r1, r2, r3, r4, r5⟩ := hC.rdB hr
  refine e_Wd_bringFrom (g_Wd_bringFrom_0 (by omega) hw (by omega) hS ?_)
  rw [hC.r2 hr, nI_clamp (by omega)]
  refine ⟨vp_in_nI (by omega) (by decide), ?_⟩
  generalize hb : D 12 r 1 = b at r2
  have key : ∀ k, k ≤ D 1 0 0 → ∀ μ', Fr (OwW w) μ μ' → mR μ' = mR μ → St μ' → XC μ' w T (brF D r k) → WI T (brF D r k) → Wx K_Wd_bringFrom d rc rs (fun r μ' => St μ' ∧ Q r μ') 12 [(0, .ref (hd 29 w)), (1, .ref (hd 27 (8 * w + r))), (2, .ref (hd 35 (5 * w + b))), (3, .int (nI k))] [] μ' := by
    refine up_loop _ (fun μ' f1 f2 f3 f4 f5 => ?_) (fun k hk ih μ' f1 f2 f3 f4 f5 => ?_)
    · refine g_Wd_bringFrom_12 (by omega) hw (by omega) (by omega) f3 ⟨fun _ => ⟨f3, hQ μ' f1 f2 f3 f4 f5⟩, fun h => absurd ?_ h⟩
      rw [f4.cnt, brF_f (by decide) (by decide)]; exact Int32.le_refl _
    · have c : ∀ f i j, f ≠ 8 → f ≠ 11 → brF D r k f i j = D f i j := fun f i j h h' => brF_f h h' k
      have c1 := c 1 0 0 (by decide) (by decide)
      have hk' : k < brF D r k 1 0 0 := by rw [c1]; exact hk
      obtain ⟨b1, b2, b3, b4, b5⟩ := f4.bdB r2
      obtain ⟨a1, a2, a3, a4, a5, a6, a7⟩ := f4.shB hk'
      refine g_Wd_bringFrom_12 (by omega) hw (by omega) (by omega) f3 ⟨fun h => absurd h ?_, fun _ => ?_⟩
      · rw [f4.cnt, c1]; exact nI_ge hk (by omega)
      have r5k := r5 k (by omega)
      have hco : mI μ' (hd 28 (8 * w + r)) k = mI μ' (hd 29 w) 4 ↔ D 10 r k = D 0 0 0 + 1 := by rw [f4.com hr (by omega), f4.day, ← oI_s, c 10 _ _ (by decide) (by decide), c 0 _ _ (by decide) (by decide), oI_inj (by omega) (by omega)]
      rw [nI_clamp (by omega), hco]
      have keep : ¬ (D 10 r k = D 0 0 0 + 1 ∧ ¬ kn D (D 12 r 1) k ∧ brF D r k 8 (D 12 r 1) k = 0) → Wx K_Wd_bringFrom d rc rs (fun r μ' => St μ' ∧ Q r μ') 12 [(0, .ref (hd 29 w)), (1, .ref (hd 27 (8 * w + r))), (2, .ref (hd 35 (5 * w + b))), (3, .int (nI k + 1))] [] μ' := fun hn => by
        rw [nI_1]
        have e : brF D r (k + 1) = brF D r k := by rw [brF, if_neg hn]
        exact ih μ' f1 f2 f3 (by rw [e]; exact f4) (by rw [e]; exact f5)
      refine ⟨vp_in_nI (by omega) (by decide), fun z => ⟨vp_in_nI (by omega) (by decide), ?_⟩, fun z => keep (fun y => z y.1)⟩
      have hx := a7 (brF D r k 4 k 0) (by omega)
      have hy := b1 (brF D r k 4 k 0) (by omega)
      refine c_Bd_has (by omega) f3 (by omega) (by omega) (f4.s1 hk') (by omega) (f4.stamp hk' (by omega)) (f4.num r2 (by omega)) (by omega) (by omega) ?_
      have hkn : (brF D r k 5 k (brF D r k 4 k 0) ≤ brF D r k 6 b (brF D r k 4 k 0)) = kn D b k := by
        simp only [kn, c 5 _ _ (by decide) (by decide), c 4 _ _ (by decide) (by decide), c 6 _ _ (by decide) (by decide)]
      rw [hkn]
      refine ⟨_, rfl, fun y => ?_, fun y => ?_⟩
      · rw [bI_z] at y
        have hwk := b3 k (by omega)
        refine c_Bd_keepWaiting (by omega) f3 (by omega) (by omega) (fun x => ⟨rfl, ?_⟩) (fun x => ⟨rfl, keep (fun u => x ?_)⟩)
        · rw [f4.wait r2 (by omega), I0, nI_eq (by omega) (by decide)] at x
          rw [nI_1]
          have hlt := sumN_le1 (f5 b r2).symm b3 k (by omega) x
          have g1 := f4.set (f := 8) (i := b) (j := k) (v := 1) (by decide) ⟨by omega, by omega⟩ (f4.2.1.ud8 (by decide))
          have g2 := g1.set (f := 11) (i := b) (j := 0) (v := brF D r k 11 b 0 + 1) (by decide) ⟨by omega, rfl⟩ (g1.2.1.ud11 (by omega))
          have e3 : mI μ' (hd 35 (5 * w + b)) 3 + 1 = nI (brF D r k 11 b 0 + 1) := by rw [f4.wc r2, I1, nI_add]
          rw [e3]
          have hSt : St (setI (setI μ' (hd 38 (5 * w + b)) k (nI 1)) (hd 35 (5 * w + b)) 3 (nI (brF D r k 11 b 0 + 1))) := f3
          have e : brF D r (k + 1) = ud (ud (brF D r k) 8 b k 1) 11 b 0 (brF D r k 11 b 0 + 1) := by
            rw [brF, hb, if_pos ⟨z, y, x⟩]
          exact ih _ ((f1.setI (by decide) (by unfold OwW; omega)).setI (by decide) (by unfold OwW; omega)) f2 hSt (by rw [e]; exact g2) (by rw [e]; exact f5.br (by omega) x)
        · rw [f4.wait r2 (by omega), I0, nI_eq (by omega) (by decide)]
          rw [hb] at u; exact u.2.2
      · rw [bI_z, Classical.not_not] at y
        exact keep (fun u => u.2.1 (by rw [hb]; exact y))
  exact key 0 (Nat.zero_le _) μ Fr.rf rfl hS hC hW
