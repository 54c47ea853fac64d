/-! plain facts behind what always holds -/
theorem sumN_add {f g : Nat → Nat} : ∀ n, sumN (fun k => f k + g k) n = sumN f n + sumN g n
  | 0 => rfl
  | n + 1 => by rw [sumN, sumN, sumN, sumN_add n]; omega
theorem sumN_one {c r : Nat} : ∀ n, r < n → sumN (fun k => if r = k then c else 0) n = c
  | 0, h => absurd h (Nat.not_lt_zero _)
  | n + 1, h => by
    rw [sumN]
    rcases Nat.lt_succ_iff_lt_or_eq.mp h with z | rfl
    · rw [sumN_one n z, if_neg (by omega)]; rfl
    · rw [sumN_zero _ (fun k hk => if_neg (by omega)), if_pos rfl, Nat.zero_add]
theorem sumN_lt {f : Nat → Nat} {b s : Nat} : ∀ n, (∀ k, k < n → f k ≤ b) → s < n → f s + 1 ≤ b → sumN f n + 1 ≤ n * b
  | 0, _, h, _ => absurd h (Nat.not_lt_zero _)
  | n + 1, hb, h, hs => by
    rw [sumN, Nat.succ_mul]
    have h1 := hb n (by omega)
    rcases Nat.lt_succ_iff_lt_or_eq.mp h with z | rfl
    · have := sumN_lt n (fun k hk => hb k (by omega)) z hs; omega
    · have := sumN_le (f := f) (b := b) s (fun k hk => hb k (by omega)); omega
section XB
variable {d rc rs w mg : Nat} {Q : Option Value → Mu → Prop} {μ : Mu} {T : PT} {D : DT}
theorem brF_8 {E : DT} {r b s : Nat} : ∀ k, (brF E r k 8 b s ≠ 0 ↔ E 8 b s ≠ 0 ∨ (s < k ∧ E 12 r 1 = b ∧ E 10 r s = E 0 0 0 + 1 ∧ ¬ kn E b s))
  | 0 => ⟨fun z => Or.inl z, fun z => z.elim id (fun y => absurd y.1 (Nat.not_lt_zero _))⟩
  | k + 1 => by
    have ih := brF_8 (E := E) (r := r) (b := b) (s := s) k
    rw [brF]
    split
    · rename_i hc
      rw [ud_f (by decide)]
      by_cases hq : b = E 12 r 1 ∧ s = k
      · rw [show ud (brF E r k) 8 (E 12 r 1) k 1 8 b s = 1 from if_pos ⟨rfl, hq⟩]
        refine ⟨fun _ => Or.inr ⟨by omega, hq.1.symm, ?_, ?_⟩, fun _ => by decide⟩
        · rw [hq.2]; exact hc.1
        · rw [hq.1, hq.2]; exact hc.2.1
      · rw [show ud (brF E r k) 8 (E 12 r 1) k 1 8 b s = brF E r k 8 b s from if_neg (fun z => hq z.2), ih]
        refine ⟨fun z => z.elim Or.inl (fun y => Or.inr ⟨by omega, y.2⟩), fun z => z.elim Or.inl (fun y => Or.inr ⟨?_, y.2⟩)⟩
        have : s ≠ k := fun u => hq ⟨y.2.1.symm, u⟩
        omega
    · rename_i hc
      rw [ih]
      refine ⟨fun z => z.elim Or.inl (fun y => Or.inr ⟨by omega, y.2⟩), fun z => z.elim Or.inl (fun y => ?_)⟩
      rcases Nat.lt_succ_iff_lt_or_eq.mp y.1 with u | rfl
      · exact Or.inr ⟨u, y.2⟩
      · refine Classical.byContradiction (fun hn => hc ⟨y.2.2.1, by rw [y.2.1]; exact y.2.2.2, ?_⟩)
        rw [y.2.1]
        exact Classical.byContradiction (fun u => hn (ih.mp u))
theorem brA_8 {D : DT} {b s : Nat} : ∀ k, (brA D k 8 b s ≠ 0 ↔ D 8 b s ≠ 0 ∨ ∃ r, r < k ∧ s < D 1 0 0 ∧ D 12 r 1 = b ∧ D 10 r s = D 0 0 0 + 1 ∧ ¬ kn D b s)
  | 0 => ⟨fun z => Or.inl z, fun z => z.elim id (fun ⟨r, y, _⟩ => absurd y (Nat.not_lt_zero _))⟩
  | k + 1 => by
    have hkn : kn (brA D k) b s = kn D b s := by
      simp only [kn, brA_f (show 5 ≠ 8 by decide) (show 5 ≠ 11 by decide), brA_f (show 4 ≠ 8 by decide) (show 4 ≠ 11 by decide), brA_f (show 6 ≠ 8 by decide) (show 6 ≠ 11 by decide)]
    rw [brA, brF_8, brA_8 k, brA_f (by decide) (by decide), brA_f (by decide) (by decide), brA_f (by decide) (by decide), brA_f (by decide) (by decide), hkn]
    constructor
    · rintro ((z | ⟨r, h1, h2⟩) | z)
      · exact Or.inl z
      · exact Or.inr ⟨r, by omega, h2⟩
      · exact Or.inr ⟨k, by omega, z⟩
    · rintro (z | ⟨r, h1, h2⟩)
      · exact Or.inl (Or.inl z)
      · rcases Nat.lt_succ_iff_lt_or_eq.mp h1 with u | rfl
        · exact Or.inl (Or.inr ⟨r, u, h2⟩)
        · exact Or.inr h2
/-- tests are 0 or 1 -/
def OB (T : PT) (Ct : Nat → List Op) : Prop := ∀ k, k < T 6 0 → Ct k ≠ [] → ∀ D, evV T D (Ct k) = 0 ∨ evV T D (Ct k) = 1
theorem merged_congr {D D' : DT} (e1 : D' 1 0 0 = D 1 0 0) (e4 : ∀ s, D' 4 s 5 = D 4 s 5) : mergedN D' = mergedN D := by
  unfold mergedN
  rw [e1]
  exact sumN_congr _ (fun s _ => by rw [e4])
theorem ordD_x {T : PT} {C Ct : Nat → List Op} {D : DT} {k : Nat} (h : ¬ (Ct k ≠ [] ∧ evV T D (Ct k) = 0)) : ordD T C Ct D k = ordD T C (fun _ => []) D k := by
  unfold ordD
  rw [if_neg h, if_neg (show ¬ ((fun _ : Nat => ([] : List Op)) k ≠ [] ∧ evV T D ((fun _ : Nat => ([] : List Op)) k) = 0) from fun z => z.1 rfl)]
theorem ordD_o {T : PT} {C Ct : Nat → List Op} {D : DT} {k : Nat} (h : Ct k ≠ [] ∧ evV T D (Ct k) = 0) : ordD T C Ct D k = (D, 0) := by
  unfold ordD
  rw [if_pos h]
theorem hoF_skip {E : DT} {b k : Nat} : ∀ n, (∀ t, k ≤ t → t < k + n → ¬ hng (hoF T E b k) b t) → hoF T E b (k + n) = hoF T E b k
  | 0, _ => rfl
  | n + 1, h => by
    have ih := hoF_skip (E := E) (b := b) (k := k) n (fun t h1 h2 => h t h1 (by omega))
    rw [show k + (n + 1) = (k + n) + 1 by omega, hoF, ih, if_neg (show ¬ (hoF T E b k 8 b (k + n) ≠ 0 ∧ cH (hoF T E b k) b (k + n)) from fun z => h (k + n) (by omega) (by omega) z)]
end XB
