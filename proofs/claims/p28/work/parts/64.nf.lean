/-! the component's names: the first error -/
theorem sw_lk1 : ∀ k, k < 49 → (swv k = 1 → k = 0) ∧ (swv k = 2 → k = 5) ∧ (swv k = 3 → k = 1) ∧ ((swv k = 4 ∨ swv k = 5 ∨ swv k = 6) → 6 ≤ k ∧ k ≤ 8) ∧ (swv k = 7 → k = 9) := by decide +kernel
theorem sw_lk2 : ∀ k, k < 49 → ((swv k = 10 ∨ swv k = 11 ∨ swv k = 19 ∨ swv k = 20 ∨ swv k = 21) → 18 ≤ k ∧ k ≤ 23 ∧ k ≠ 21) ∧ ((swv k = 22 ∨ swv k = 27) → k = 21 ∨ k = 2) ∧ (swv k = 28 → k = 3) ∧ (swv k = 29 → k = 4) := by decide +kernel
theorem sw_lk3 : ∀ k, k < 49 → (k ≤ 9 ∨ (18 ≤ k ∧ k ≤ 23)) → 1 ≤ (swv k).toInt ∧ (swv k).toInt ≤ 29 := by decide +kernel
theorem sw_lk4 : ∀ k, k < 49 → (k ≤ 9 ∨ (18 ≤ k ∧ k ≤ 23)) → ¬ (swv k = 8) ∧ ¬ (swv k = 9) ∧ ¬ (swv k = 12) ∧ ¬ (swv k = 13) ∧ ¬ (swv k = 14) ∧ ¬ (swv k = 15) ∧ ¬ (swv k = 16) := by decide +kernel
theorem sw_lk5 : ∀ k, k < 49 → (k ≤ 9 ∨ (18 ≤ k ∧ k ≤ 23)) → ¬ (swv k = 17) ∧ ¬ (swv k = 18) ∧ ¬ (swv k = 23) ∧ ¬ (swv k = 24) ∧ ¬ (swv k = 25) ∧ ¬ (swv k = 26) := by decide +kernel
/-- the tokens from j to J are names that are looked at already -/
def relN (K : Nat → Nat) (j J : Nat) : Prop := j ≤ J ∧ (∀ i, j ≤ i → i < J → K i = 44 ∨ rl K i = 6) ∧ K J ≠ 44 ∧ rl K J ≠ 6
theorem rl_6 {K : Nat → Nat} {i : Nat} (hri : rl K i = 6) : K i = 45 ∧ K (i - 1) = 4 := by
  by_cases a : 6 ≤ K i ∧ K i ≤ 9
  · rw [rl_7.mpr a] at hri; omega
  · by_cases b : K i = 45
    · refine ⟨b, ?_⟩
      by_cases c : K (i - 1) = 4
      · exact c
      · rw [rl_45 b c] at hri; omega
    · exfalso
      unfold rl at hri
      rw [if_neg a, if_neg b] at hri
      exact ite_ne (by decide) (ite_ne (ite_ne (by decide) (ite_ne (by decide) (ite_ne (by decide) (ite_ne (by decide) (ite_ne (by decide) (ite_ne (by decide) (ite_ne (by decide) (ite_ne (by decide) (ite_ne (by decide) (by decide)))))))))) (by decide)) hri
theorem nk {K : Nat → Nat} {n x : Nat} (hLS : ∀ j, j < n → LSj K j) (hn : K n = 46) (hx : 1 ≤ x ∧ x ≤ n) (h1 : ¬ kw1 (K (x - 1))) (h2 : ¬ (K (x - 1) = 44 ∧ 2 ≤ x ∧ kw2 (K (x - 2)))) (h3 : K (x - 1) ≠ 4) : K x ≠ 44 ∧ rl K x ≠ 6 := by
  refine ⟨fun z => ?_, fun z => h3 (rl_6 z).2⟩
  rcases Nat.eq_or_lt_of_le hx.2 with y | y
  · rw [y, hn] at z; omega
  · obtain ⟨-, b⟩ := (hLS x y).2.2.2.2.2.2.2.1 z
    exact b.elim h1 h2
section NFC
variable {d rc rs : Nat} {Q : Option Value → Mu → Prop} {μ : Mu} {t : Nat → Nat} {L q J j : Nat}
theorem c_Nm_look (hD : 5 ≤ d) (hS : St μ) (hLS : ∀ j, j < nT t L → LSj (tK t L) j) (hn46 : tK t L (nT t L) = 46) (hj : j < nT t L) (hR : relN (tK t L) j J) (hN : NS μ t L q J) (hQ : ∀ μ' J', Fr (OwNm q) μ μ' → St μ' → relN (tK t L) (j + 1) J' → SX μ' t L q J' → Q none μ') : Cal K_Nm_look d rc rs [.ref (hd 16 0), .int (nI j)] μ Q := by
  have hn4 := nT_le (t := t) (L := L)
  have hr47 := tK_rng (t := t) (L := L) (i := j)
  have hc0 := (hN.1.2.2 j (by omega)).1
  have hpx : px μ (hd 11 0) j = tK t L j := px_eq (by decide) hc0
  obtain ⟨r1, r2, r3, r4⟩ := hR
  -- a name that is looked at already, or a word that tells nothing
  have dflt : ¬ (tK t L j ≤ 9 ∨ (18 ≤ tK t L j ∧ tK t L j ≤ 23)) → Q none μ := by
    intro h
    rcases Nat.eq_or_lt_of_le r1 with z | z
    · subst z
      have hr0 : rl (tK t L) j = 0 ∨ rl (tK t L) j = 11 := by
        by_cases a : 13 ≤ tK t L j ∧ tK t L j ≤ 15
        · right; unfold rl; rw [if_neg (by omega), if_pos a]
        · left
          by_cases b : tK t L j = 45
          · by_cases c : tK t L (j - 1) = 4
            · exfalso; apply r4; unfold rl; rw [if_neg (by omega), if_neg a, if_pos b, if_pos c]
            · exact rl_45 b c
          · exact rl_0 ⟨r3, b, by omega, a⟩
      have hk := nk (x := j + 1) hLS hn46 ⟨by omega, by omega⟩ (by rw [Nat.add_sub_cancel]; unfold kw1; omega) (fun y => r3 (by have := y.1; rw [Nat.add_sub_cancel] at this; exact this)) (by rw [Nat.add_sub_cancel]; omega)
      exact hQ μ (j + 1) Fr.rf hS ⟨Nat.le_refl _, fun i a b => absurd a (by omega), hk.1, hk.2⟩ (Or.inl (hN.skip hj hr0))
    · exact hQ μ J Fr.rf hS ⟨z, fun i a b => r2 i (by omega) b, r3, r4⟩ (Or.inl hN)
  -- a word that tells something is not looked at already
  have atJ : (tK t L j ≤ 9 ∨ (18 ≤ tK t L j ∧ tK t L j ≤ 23)) → j = J := by
    intro h
    rcases Nat.eq_or_lt_of_le r1 with z | z
    · exact z
    · exfalso
      rcases r2 j (Nat.le_refl _) z with y | y
      · omega
      · have := (rl_6 y).1; omega
  have hls := hLS j hj
  have in1 : tK t L (j + 1) < 46 → j + 1 < nT t L := fun h => by
    rcases Nat.eq_or_lt_of_le (show j + 1 ≤ nT t L by omega) with z | z
    · rw [z, hn46] at h; omega
    · exact z
  refine e_Nm_look (g_Nm_look_0 (by omega) hS ?_)
  refine e_Tk_kindAt (g_Tk_kindAt_0 (by omega) hS ⟨fun h => absurd h (nI_pos (by omega)), fun _ => ?_⟩)
  rw [hN.1.2.1, nI_leI (by omega) (by omega), nI_clamp (by omega), hpx]
  refine ⟨fun h => absurd h (by omega), fun _ => ⟨vp_in_nI (by omega) (by decide), (by rw [hc0]; exact fun z => nomatch z), hS, _, rfl, by omega, ?_⟩⟩
  have s1 := sw_lk1 (tK t L j) (by omega)
  have s2 := sw_lk2 (tK t L j) (by omega)
  rw [hN.2.1, nI_1]
  -- a name is told
  have tel : ∀ r, 1 ≤ r → r ≤ 3 → (tK t L j = if r = 1 then 0 else if r = 2 then 5 else 1) → Cal K_Nm_tell (d - 1) 0 0 [.ref (hd 16 0), .int (nI (j + 1)), .ref (hd 17 (r - 1)), .int (mI μ (hd 18 q) (2 + r))] μ (fun r' μ7 => ∃ y8, r' = some (.int y8) ∧ (St (setI μ7 (hd 18 q) (2 + r) y8) ∧ Q none (setI μ7 (hd 18 q) (2 + r) y8))) := by
    intro r h1 h3 hk
    have hk' : tK t L j = 0 ∨ tK t L j = 5 ∨ tK t L j = 1 := by rcases (by omega : r = 1 ∨ r = 2 ∨ r = 3) with rfl | rfl | rfl <;> simp at hk <;> omega
    have hJ := atJ (by omega)
    subst hJ
    have k44 : tK t L (j + 1) = 44 := by
      rcases hk' with z | z | z
      · exact hls.1 (Or.inl z)
      · exact hls.1 (Or.inr z)
      · exact (hls.2.1 z).1
    have hx := in1 (by omega)
    have hrl : rl (tK t L) (j + 1) = r := by
      rw [rl_44 k44 (show tK t L (j + 1 - 1) = tK t L j from rfl) rfl]
      rcases (by omega : r = 1 ∨ r = 2 ∨ r = 3) with rfl | rfl | rfl <;> rw [hk] <;> rfl
    have hN1 := hN.skip hj (Or.inl (rl_0 ⟨by omega, by omega, by omega, by omega⟩))
    rw [show mI μ (hd 18 q) (2 + r) = nI (cn (tK t L) r (j + 1)) from (hN1.2.2.1 r h1 h3).2.1]
    have hk2 := nk (x := j + 2) hLS hn46 ⟨by omega, by omega⟩ (by rw [show j + 2 - 1 = j + 1 by omega]; unfold kw1; omega) (fun y => by have := y.2.2; rw [show j + 2 - 2 = j by omega] at this; unfold kw2 at this; omega) (by rw [show j + 2 - 1 = j + 1 by omega]; omega)
    refine c_tellX (by omega) hS hx hrl h1 h3 hN1 (fun μ' v hv hs _ => ⟨_, rfl, ?_⟩)
    have hs1 : St (setI μ' (hd 18 q) (2 + r) v) := hs
    obtain ⟨f, sx⟩ := hv _ rfl hs1
    exact ⟨hs1, hQ _ (j + 2) f hs1 ⟨by omega, fun i a b => Or.inl (by rw [show i = j + 1 by omega]; exact k44), hk2.1, hk2.2⟩ sx⟩
  -- behind one name
  have one : tK t L (j + 1) = 44 → ¬ kw2 (tK t L j) → relN (tK t L) (j + 1) (j + 2) := by
    intro k44 h2
    have hx := in1 (by omega)
    have hk2 := nk (x := j + 2) hLS hn46 ⟨by omega, by omega⟩ (by rw [show j + 2 - 1 = j + 1 by omega]; unfold kw1; omega) (fun y => h2 (by have := y.2.2; rw [show j + 2 - 2 = j by omega] at this; exact this)) (by rw [show j + 2 - 1 = j + 1 by omega]; omega)
    exact ⟨by omega, fun i a b => Or.inl (by rw [show i = j + 1 by omega]; exact k44), hk2.1, hk2.2⟩
  have two : tK t L (j + 1) = 44 → tK t L (j + 2) = 44 → j + 2 < nT t L ∧ relN (tK t L) (j + 1) (j + 3) := by
    intro k44 k44'
    have hx := in1 (by omega)
    have hx2 : j + 2 < nT t L := by
      rcases Nat.eq_or_lt_of_le (show j + 2 ≤ nT t L by omega) with z | z
      · rw [z, hn46] at k44'; omega
      · exact z
    have hk2 := nk (x := j + 3) hLS hn46 ⟨by omega, by omega⟩ (by rw [show j + 3 - 1 = j + 2 by omega]; unfold kw1; omega) (fun y => by have := y.2.2; rw [show j + 3 - 2 = j + 1 by omega] at this; unfold kw2 at this; omega) (by rw [show j + 3 - 1 = j + 2 by omega]; omega)
    refine ⟨hx2, by omega, fun i a b => Or.inl ?_, hk2.1, hk2.2⟩
    rcases (by omega : i = j + 1 ∨ i = j + 2) with z | z <;> rw [z]
    · exact k44
    · exact k44'
  refine ⟨fun z => tel 1 (by decide) (by decide) (by rw [s1.1 z]; rfl), fun z => tel 2 (by decide) (by decide) (by rw [s1.2.1 z]; rfl), fun z => tel 3 (by decide) (by decide) (by rw [s1.2.2.1 z]; rfl), fun z => ?_, fun z => ?_, fun z => ?_, fun z => ?_, fun z => ?_, fun z => ?_, fun z => ⟨hS, dflt ?_⟩⟩
  · -- write, note, merge
    have hk := s1.2.2.2.1 z
    have hJ := atJ (by omega)
    subst hJ
    obtain ⟨k44, k44', -⟩ := hls.2.2.2.2.2.1 hk.1 (by omega)
    have k44' := k44' (by omega)
    obtain ⟨hx2, hrel⟩ := two k44 k44'
    have l1 : rl (tK t L) (j + 1) = 8 := by
      rw [rl_44 k44 (show tK t L (j + 1 - 1) = tK t L j from rfl) rfl, if_neg (by omega), if_neg (by omega), if_neg (by omega), if_neg (by omega), if_neg (by omega), if_pos (by omega)]
    have l2 : rl (tK t L) (j + 2) = 9 := by
      rw [rl_44 k44' (show tK t L (j + 2 - 1) = 44 from k44) (show tK t L (j + 2 - 2) = tK t L j from rfl), if_neg (by omega), if_neg (by omega), if_neg (by omega), if_neg (by omega), if_neg (by omega), if_neg (by omega), if_neg (by omega), if_neg (by omega), if_pos (by omega)]
    refine c_ordX (by omega) hS hj (rl_7.mpr (by omega)) hN (fun μ1 a1 a2 a3 => ⟨rfl, c_boardX (by omega) a2 hx2 k44 k44' (by rw [l1]; rfl) (by rw [l2]; rfl) (by rw [l1]; decide) a3 (fun μ2 b1 b2 b3 => ⟨rfl, b2, hQ _ (j + 3) (a1.trans b1) b2 hrel b3⟩)⟩)
  · -- send
    have hk := s1.2.2.2.2 z
    have hJ := atJ (by omega)
    subst hJ
    obtain ⟨k44, -, -⟩ := hls.2.2.2.2.2.1 (by omega) (by omega)
    have l1 : rl (tK t L) (j + 1) = 10 := by rw [rl_44 k44 (show tK t L (j + 1 - 1) = 9 from hk) rfl]; rfl
    refine c_ordX (by omega) hS hj (rl_7.mpr (by omega)) hN (fun μ1 a1 a2 a3 => ⟨rfl, c_findX (r := 3) (by omega) a2 (in1 (by omega)) k44 (by rw [l1]; rfl) (by decide) (by decide) (by rw [l1]; decide) a3 (fun hN' => ?_) (fun μ2 b1 b2 b3 => ⟨rfl, b2, hQ _ (j + 2) (a1.trans b1) b2 (one k44 (by unfold kw2; omega)) b3⟩)⟩)
    rw [hN'.2.1]; exact (hN'.2.2.1 3 (by decide) (by decide)).2.1
  · -- a board, a notice
    have hk := s2.1 z
    have hJ := atJ (by omega)
    subst hJ
    obtain ⟨k44, k44'⟩ := hls.2.2.2.2.2.2.1 hk.1 hk.2.1
    have k44' := k44' hk.2.2
    obtain ⟨hx2, hrel⟩ := two k44 k44'
    have l1 : rl (tK t L) (j + 1) = 12 := by
      rw [rl_44 k44 (show tK t L (j + 1 - 1) = tK t L j from rfl) rfl, if_neg (by omega), if_neg (by omega), if_neg (by omega), if_neg (by omega), if_neg (by omega), if_neg (by omega), if_neg (by omega), if_pos (by omega)]
    have l2 : rl (tK t L) (j + 2) = 13 := by
      rw [rl_44 k44' (show tK t L (j + 2 - 1) = 44 from k44) (show tK t L (j + 2 - 2) = tK t L j from rfl), if_neg (by omega), if_neg (by omega), if_neg (by omega), if_neg (by omega), if_neg (by omega), if_neg (by omega), if_neg (by omega), if_neg (by omega), if_neg (by omega)]
    have hN1 := hN.skip hj (Or.inl (rl_0 ⟨by omega, by omega, by omega, by omega⟩))
    exact c_boardX (by omega) hS hx2 k44 k44' (by rw [l1]; rfl) (by rw [l2]; rfl) (by rw [l1]; decide) (Or.inl hN1) (fun μ2 b1 b2 b3 => ⟨rfl, b2, hQ _ (j + 3) b1 b2 hrel b3⟩)
  · -- waits, from
    have hk := s2.2.1 z
    have hJ := atJ (by omega)
    subst hJ
    have k44 : tK t L (j + 1) = 44 := by
      rcases hk with y | y
      · exact (hls.2.2.2.2.2.2.1 (by omega) (by omega)).1
      · obtain ⟨a, b⟩ := hls.2.2.1 y
        have := ((hLS (j - 2) (by omega)).2.1 b).2.2.1
        rw [show j - 2 + 3 = j + 1 by omega] at this; exact this
    have l1 : rl (tK t L) (j + 1) = 12 ∨ rl (tK t L) (j + 1) = 4 := by
      rcases hk with y | y
      · left; rw [rl_44 k44 (show tK t L (j + 1 - 1) = 21 from y) rfl]; rfl
      · right; rw [rl_44 k44 (show tK t L (j + 1 - 1) = 2 from y) rfl]; rfl
    have hN1 := hN.skip hj (Or.inl (rl_0 ⟨by omega, by omega, by omega, by omega⟩))
    exact c_findX (r := 1) (by omega) hS (in1 (by omega)) k44 (by rcases l1 with y | y <;> rw [y] <;> rfl) (by decide) (by decide) (by omega) (Or.inl hN1) (fun hN' => (hN'.2.2.1 1 (by decide) (by decide)).2.1) (fun μ2 b1 b2 b3 => ⟨rfl, b2, hQ _ (j + 2) b1 b2 (one k44 (by unfold kw2; omega)) b3⟩)
  · -- to
    have hk := s2.2.2.1 z
    have hJ := atJ (by omega)
    subst hJ
    obtain ⟨h4, k1⟩ := hls.2.2.2.1 hk
    obtain ⟨-, e2, e3, -, e5, -, -⟩ := (hLS (j - 4) (by omega)).2.1 k1
    rw [show j - 4 + 2 = j - 2 by omega] at e2
    rw [show j - 4 + 3 = j - 1 by omega] at e3
    rw [show j - 4 + 5 = j + 1 by omega] at e5
    have lw : rl (tK t L) (j - 1) = 4 := by rw [rl_44 e3 (show tK t L (j - 1 - 1) = 2 by rw [show j - 1 - 1 = j - 2 by omega]; exact e2) rfl]; rfl
    have l1 : rl (tK t L) (j + 1) = 5 := by rw [rl_44 e5 (show tK t L (j + 1 - 1) = 3 from hk) rfl]; rfl
    have hN1 := hN.skip hj (Or.inl (rl_0 ⟨by omega, by omega, by omega, by omega⟩))
    rw [show nI j - 1 = nI (j - 1) by
      have := nI_m (j - 1)
      rw [show j - 1 + 1 = j by omega] at this
      exact this]
    exact c_otherX (by omega) hS (in1 (by omega)) (by omega) e5 l1 lw hN1 (fun μ2 b1 b2 b3 => ⟨rfl, b2, hQ _ (j + 2) b1 b2 (one e5 (by unfold kw2; omega)) b3⟩)
  · -- days
    have hk := s2.2.2.2 z
    have hJ := atJ (by omega)
    subst hJ
    obtain ⟨h6, -, -, -, -, -, -, kp, -, -, -, lp⟩ := road_at hLS hj hk
    have hx := in1 (by omega)
    have hN1 := hN.skip hj (Or.inl (rl_0 ⟨by omega, by omega, by omega, by omega⟩))
    have hk2 := nk (x := j + 2) hLS hn46 ⟨by omega, by omega⟩ (by rw [show j + 2 - 1 = j + 1 by omega]; unfold kw1; omega) (fun y => by have := y.1; rw [show j + 2 - 1 = j + 1 by omega] at this; omega) (by rw [show j + 2 - 1 = j + 1 by omega]; omega)
    exact c_layX (by omega) hS hLS hx hk hN1 (fun μ2 b1 b2 b3 => ⟨rfl, b2, hQ _ (j + 2) b1 b2 ⟨by omega, fun i a b => Or.inr (by rw [show i = j + 1 by omega]; exact lp), hk2.1, hk2.2⟩ b3⟩)
  · intro h
    have t3 := sw_lk3 _ (by omega) h
    have t4 := sw_lk4 _ (by omega) h
    obtain ⟨u8, u9, u12, u13, u14, u15, u16⟩ := t4
    obtain ⟨u17, u18, u23, u24, u25, u26⟩ := sw_lk5 _ (by omega) h
    rcases z with y | y | y | y | y | y | y | y | y | y | y | y | y | y | y
    · omega
    · have y' : ((29 : Int32)).toInt < (swv (tK t L j)).toInt := by first | exact Int32.lt_iff_toInt_lt.mp y | exact y
      have : ((29 : Int32)).toInt = 29 := by decide
      omega
    · exact u8 y
    · exact u9 y
    · exact u12 y
    · exact u13 y
    · exact u14 y
    · exact u15 y
    · exact u16 y
    · exact u17 y
    · exact u18 y
    · exact u23 y
    · exact u24 y
    · exact u25 y
    · exact u26 y
/-- all names -/
theorem c_Nm_firstError (hD : 6 ≤ d) (hS : St μ) (hq : q < 2) (hLS : ∀ j, j < nT t L → LSj (tK t L) j) (hn46 : tK t L (nT t L) = 46) (hT : TKP μ t L (nT t L + 1)) (h0 : mI μ (hd 18 q) 3 = 0 ∧ mI μ (hd 18 q) 4 = 0 ∧ mI μ (hd 18 q) 5 = 0) (h06 : mI μ (hd 18 q) 6 = nI (min (cn (tK t L) 7 (nT t L)) 20))
    (hok : ∀ μ', Fr (OwNm q) μ μ' → St μ' → NS μ' t L q (nT t L) → Q (some (.int 0)) μ') (her : ∀ μ' e, Fr (OwNm q) μ μ' → St μ' → TKN μ' t L → ES μ' t L e → Q (some (.int (nI (ern t L e)))) μ') : Cal K_Nm_firstError d rc rs [.ref (hd 16 0), .ref (hd 18 q)] μ Q := by
  have hn4 := nT_le (t := t) (L := L)
  have hS1 : St (setI (setI (setI (setR μ (hd 16 0) 4 (hd 18 q)) (hd 16 0) 5 0) (hd 16 0) 6 0) (hd 16 0) 7 (-1)) := sd_16_4 hS (by decide) hq
  have f1 : Fr (OwNm q) μ (setI (setI (setI (setR μ (hd 16 0) 4 (hd 18 q)) (hd 16 0) 5 0) (hd 16 0) 6 0) (hd 16 0) 7 (-1)) := (((Fr.rf.setR (by decide) (Or.inr (Or.inl rfl))).setI (by decide) (Or.inr (Or.inl rfl))).setI (by decide) (Or.inr (Or.inl rfl))).setI (by decide) (Or.inr (Or.inl rfl))
  have hT0 : TKN μ t L := ⟨hT.1, hT.2.1, fun i hi => ⟨(hT.2.2 i hi).1, (hT.2.2 i hi).2.1, (hT.2.2 i hi).2.2.1⟩⟩
  have h06' : mI (setI (setI (setI (setR μ (hd 16 0) 4 (hd 18 q)) (hd 16 0) 5 0) (hd 16 0) 6 0) (hd 16 0) 7 (-1)) (hd 18 q) 6 = nI (min (cn (tK t L) 7 (nT t L)) 20) := by
    rw [rd_ne (by decide) (by decide) (by decide), rd_ne (by decide) (by decide) (by decide), rd_ne (by decide) (by decide) (by decide), mI_setR]; exact h06
  have hN : NS (setI (setI (setI (setR μ (hd 16 0) 4 (hd 18 q)) (hd 16 0) 5 0) (hd 16 0) 6 0) (hd 16 0) 7 (-1)) t L q 0 := by
    refine ⟨hT0.fr f1 OwNm.t, ?_, fun r h1 h3 => ⟨fun i hi => absurd hi (Nat.not_lt_zero _), ?_, Nat.zero_le _⟩, ⟨?_, Nat.zero_le _⟩, ?_, fun i hi => ?_, fun i hi => absurd hi (Nat.not_lt_zero _), Nat.zero_le _, fun i hi => absurd hi (Nat.not_lt_zero _), h06'⟩
    · exact px_eq (κ := 18) (by decide) (by rw [mR_setI, mR_setI, mR_setI, mR_set, if_pos ⟨rfl, rfl⟩])
    · rw [rd_ne (by decide) (by decide) (by decide), rd_ne (by decide) (by decide) (by decide), rd_ne (by decide) (by decide) (by decide), mI_setR]
      rcases (by omega : r = 1 ∨ r = 2 ∨ r = 3) with rfl | rfl | rfl
      · exact h0.1
      · exact h0.2.1
      · exact h0.2.2
    · rw [rd_k (by decide), rd_k (by decide), rd_eq]; rfl
    · rw [rd_k (by decide), rd_eq]
    · rw [rd_ne (by decide) (by decide) (by decide), rd_ne (by decide) (by decide) (by decide), rd_ne (by decide) (by decide) (by decide), mI_setR, (hT.2.2 i hi).2.2.2]
      unfold mng; rw [if_neg (fun z => Nat.not_lt_zero _ z.1)]; rfl
  refine e_Nm_firstError (g_Nm_firstError_0 (by omega) hq hS ?_)
  generalize (setI (setI (setI (setR μ (hd 16 0) 4 (hd 18 q)) (hd 16 0) 5 0) (hd 16 0) 6 0) (hd 16 0) 7 (-1)) = μ1 at hS1 f1 hN ⊢
  -- something was wrong
  have bad : ∀ μ' e (x : Nat), x < 1000 → Fr (OwNm q) μ μ' → St μ' → TKN μ' t L → ES μ' t L e → Wx K_Nm_firstError d rc rs (fun r μ' => St μ' ∧ Q r μ') 22 [(0, .ref (hd 16 0)), (2, .int (nI x))] [] μ' := by
    intro μ' e x hx g1 g2 g3 g4
    have hq' := her μ' e g1 g2 g3 g4
    refine g_Nm_firstError_22 (by omega) g2 ?_
    rw [g4.1]
    refine ⟨fun _ => ⟨g2, hq'⟩, fun _ => ⟨fun z => absurd z ?_, fun _ => ⟨g2, hq'⟩⟩⟩
    rw [← g4.1]; exact g4.ne
  have key : ∀ j, j ≤ nT t L → ∀ μ' J, Fr (OwNm q) μ μ' → St μ' → relN (tK t L) j J → NS μ' t L q J → Wx K_Nm_firstError d rc rs (fun r μ' => St μ' ∧ Q r μ') 22 [(0, .ref (hd 16 0)), (2, .int (nI j))] [] μ' := by
    refine up_loop (nT t L) ?_ ?_
    · intro μ' J g1 g2 g3 g4
      have hJ : J = nT t L := by have := g3.1; have := g4.2.2.2.2.2.2.2.1; omega
      rw [hJ] at g4
      have hc0 := (g4.1.2.2 (nT t L) (by omega)).1
      have hpx : px μ' (hd 11 0) (nT t L) = 46 := px_eq (κ := 0) (by decide) (by rw [hc0, hn46])
      refine g_Nm_firstError_22 (by omega) g2 ?_
      rw [g4.1.2.1, nI_leI (by omega) (by omega), g4.2.2.2.2.1]
      refine ⟨fun h => absurd h (by omega), fun _ => ⟨fun _ => ?_, fun z => absurd rfl z⟩⟩
      refine e_Nm_look (g_Nm_look_0 (by omega) g2 ?_)
      refine e_Tk_kindAt (g_Tk_kindAt_0 (by omega) g2 ⟨fun h => absurd h (nI_pos (by omega)), fun _ => ?_⟩)
      rw [g4.1.2.1, nI_leI (by omega) (by omega), nI_clamp (by omega), hpx]
      have no : ∀ {P : Prop} {a b : Int32}, a ≠ b → (a = b → P) := fun h z => absurd z h
      refine ⟨fun h => absurd h (by omega), fun _ => ⟨vp_in_nI (by omega) (by decide), (by rw [hc0]; exact fun z => nomatch z), g2, _, rfl, by decide, fun z => absurd z (by decide), fun z => absurd z (by decide), fun z => absurd z (by decide), fun z => absurd z (by decide), fun z => absurd z (by decide), fun z => absurd z (by decide), fun z => absurd z (by decide), fun z => absurd z (by decide), fun z => absurd z (by decide), fun _ => ⟨g2, rfl, ?_⟩⟩⟩
      rw [nI_1]
      refine g_Nm_firstError_22 (by omega) g2 ?_
      rw [g4.1.2.1, nI_leI (by omega) (by omega), g4.2.2.2.2.1]
      exact ⟨fun _ => ⟨g2, hok μ' g1 g2 g4⟩, fun h => absurd (Nat.le_refl _) h⟩
    · intro j hj ih μ' J g1 g2 g3 g4
      refine g_Nm_firstError_22 (by omega) g2 ?_
      rw [g4.1.2.1, nI_leI (by omega) (by omega), g4.2.2.2.2.1]
      refine ⟨fun h => absurd h (by omega), fun _ => ⟨fun _ => ?_, fun z => absurd rfl z⟩⟩
      refine c_Nm_look (by omega) g2 hLS hn46 hj g3 g4 (fun μ2 J' m1 m2 m3 m4 => ⟨rfl, ?_⟩)
      rw [nI_1]
      rcases m4 with m4 | ⟨m4, -, e, m5⟩
      · exact ih μ2 J' (g1.trans m1) m2 m3 m4
      · exact bad μ2 e (j + 1) (by omega) (g1.trans m1) m2 m4 m5
  have h44 : tK t L 0 ≠ 44 := by
    intro z
    rcases Nat.eq_zero_or_pos (nT t L) with y | y
    · rw [y, z] at hn46; cases hn46
    · have := (hLS 0 y).2.2.2.2.2.2.2.1 z; omega
  have h6 : rl (tK t L) 0 ≠ 6 := fun z => by
    obtain ⟨a, b⟩ := rl_6 z
    have b' : tK t L 0 = 4 := b
    omega
  exact key 0 (Nat.zero_le _) μ1 0 f1 hS1 ⟨Nat.le_refl _, fun i a b => absurd b (by omega), h44, h6⟩ hN
end NFC
