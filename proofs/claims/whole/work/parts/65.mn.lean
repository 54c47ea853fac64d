/-! the model's names -/
section MNC
variable {d rc rs : Nat} {Q : Option Value → Mu → Prop} {μ : Mu} {t : Nat → Nat} {L q x : Nat}
theorem c_MM_isSame {i j : Nat} (hD : 1 ≤ d) (hS : St μ) (hT : MT μ t L) (hi : i < nT t L) (hj : j < nT t L) (hQ : Q (some (.int (bI (sm t L i j)))) μ) : Cal K_MM_isSame d rc rs [.ref (hd 40 0), .int (nI i), .int (nI j)] μ Q := by
  have hn4 := nT_le (t := t) (L := L)
  have hL := hT.1.1
  obtain ⟨a1, a2, a3⟩ := hT.2 i (by omega)
  obtain ⟨b1, b2, b3⟩ := hT.2 j (by omega)
  have a3 := a3 hi
  have b3 := b3 hj
  have hb : ∀ i, i < nT t L → tS t L i + lnT t L i ≤ L := fun i hi => by
    have hs := tS_lt hi
    have := tkE_le (t := t) hs
    unfold lnT; omega
  have li := hb i hi
  have lj := hb j hj
  have vi : vp_in (nI i) 401 := vp_in_nI (by omega) (by decide)
  have vj : vp_in (nI j) 401 := vp_in_nI (by omega) (by decide)
  refine e_MM_isSame (g_MM_isSame_0 hD hS ⟨vi, vj, ?_⟩)
  rw [nI_clamp (by omega), nI_clamp (by omega), a3, b3, nI_eq (by omega) (by omega)]
  refine ⟨fun z => ?_, fun z => ⟨hS, ?_⟩⟩
  · have key : ∀ k, k ≤ lnT t L i → (∀ m, m < k → t (tS t L i + m) = t (tS t L j + m)) → Wx K_MM_isSame d rc rs (fun r μ' => St μ' ∧ Q r μ') 19 [(0, .ref (hd 40 0)), (1, .int (nI i)), (2, .int (nI j)), (3, .int (nI k))] [] μ := by
      refine up_loop (lnT t L i) ?_ ?_
      · intro h
        refine g_MM_isSame_19 hD hS ⟨vi, fun _ => ⟨hS, ?_⟩, fun y => absurd ?_ y⟩
        · rw [bI_t ⟨z, h⟩] at hQ; exact hQ
        · rw [nI_clamp (by omega), a3]; exact Int32.le_refl _
      · intro k hk ih h
        refine g_MM_isSame_19 hD hS ⟨vi, fun y => absurd y ?_, fun _ => ⟨vi, ?_⟩⟩
        · rw [nI_clamp (by omega), a3]; exact nI_ge hk (by omega)
        · rw [nI_clamp (by omega), nI_clamp (by omega), a2, b2, nI_add, nI_add, nI_clamp (by omega), nI_clamp (by omega), hT.1.2.2.2 _ (by omega), hT.1.2.2.2 _ (by omega), nI_1]
          have h1 := hT.1.2.1 (tS t L i + k) (by omega)
          have h2 := hT.1.2.1 (tS t L j + k) (by omega)
          rw [nI_eq (by omega) (by omega)]
          refine ⟨vp_in_nI (by omega) (by decide), vj, vp_in_nI (by omega) (by decide), fun y => ih (fun m hm => ?_), fun y => ⟨hS, ?_⟩⟩
          · rcases Nat.lt_or_ge m k with w | w
            · exact h m w
            · rw [show m = k by omega]; exact y
          · rw [bI_f (fun w => y (w.2 k hk))] at hQ; exact hQ
    exact key 0 (Nat.zero_le _) (fun m hm => absurd hm (Nat.not_lt_zero _))
  · rw [bI_f (fun w => z w.1)] at hQ; exact hQ
/-- the roles stand -/
def RL (μ : Mu) (t : Nat → Nat) (L : Nat) : Prop := ∀ i, i < nT t L → mI μ (hd 45 0) i = nI (rl (tK t L) i)
theorem rl_lt {K : Nat → Nat} {j : Nat} : rl K j < 14 := by
  unfold rl
  have h : ∀ {c : Prop} [Decidable c] {x y : Nat}, x < 14 → y < 14 → (if c then x else y) < 14 := fun {c} _ {x y} hx hy => by
    by_cases z : c
    · rw [if_pos z]; exact hx
    · rw [if_neg z]; exact hy
  exact h (by decide) (h (by decide) (h (h (by decide) (by decide)) (h (h (by decide) (h (by decide) (h (by decide) (h (by decide) (h (by decide) (h (by decide) (h (by decide) (h (by decide) (h (by decide) (by decide)))))))))) (by decide))))
theorem c_MM_told {r : Nat} (hD : 2 ≤ d) (hS : St μ) (hT : MT μ t L) (hR : RL μ t L) (hx : x < nT t L) (hr : r < 14) (hQ : Q (some (.int (oI (plc t L r x x)))) μ) : Cal K_MM_told d rc rs [.ref (hd 40 0), .int (nI x), .int (nI r)] μ Q := by
  have hn4 := nT_le (t := t) (L := L)
  refine e_MM_told (g_MM_told_0 (by omega) hS ?_)
  have key : ∀ k, k ≤ x → (∀ i, i < k → rl (tK t L) i = r → ¬ sm t L i x) → Wx K_MM_told d rc rs (fun r μ' => St μ' ∧ Q r μ') 5 [(0, .ref (hd 40 0)), (1, .int (nI x)), (2, .int (nI r)), (3, .int (nI (cn (tK t L) r k))), (4, .int (nI k))] [] μ := by
    refine up_loop x ?_ ?_
    · intro h
      refine g_MM_told_5 (by omega) hS ⟨fun _ => ⟨hS, ?_⟩, fun y => absurd (Int32.le_refl _) y⟩
      rw [(plc_0 x).mpr h, oI_0] at hQ; exact hQ
    · intro k hk ih h
      have hrk := rl_lt (K := tK t L) (j := k)
      refine g_MM_told_5 (by omega) hS ⟨fun y => absurd y (nI_ge hk (by omega)), fun _ => ⟨vp_in_nI (by omega) (by decide), ?_⟩⟩
      rw [nI_clamp (by omega), hR k (by omega), nI_eq (by omega) (by omega), nI_1, nI_1]
      refine ⟨fun y => ?_, fun y => ?_⟩
      · refine c_MM_isSame (by omega) hS hT (by omega) hx ⟨_, rfl, fun z => ?_, fun z => ⟨hS, ?_⟩⟩
        · rw [bI_z] at z
          rw [← cn_yes y]
          refine ih (fun i hi hri => ?_)
          rcases Nat.lt_or_ge i k with w | w
          · exact h i w hri
          · rw [show i = k by omega]; exact z
        · rw [bI_z, Classical.not_not] at z
          rw [plc_s x k hk y z h, oI_s] at hQ; exact hQ
      · rw [← cn_no y]
        refine ih (fun i hi hri => ?_)
        rcases Nat.lt_or_ge i k with w | w
        · exact h i w hri
        · rw [show i = k by omega] at hri; exact absurd hri y
  exact key 0 (Nat.zero_le _) (fun i hi => absurd hi (Nat.not_lt_zero _))
theorem plc_400 {r y i : Nat} (hi : i ≤ 400) : plc t L r y i ≤ 400 := by
  have h : ∀ i, cn (tK t L) r i ≤ i := fun i => by
    induction i with
    | zero => exact Nat.le_refl _
    | succ i ih => rw [cn_s]; split <;> omega
  have := plc_le (t := t) (L := L) (r := r) (x := y) i
  have := h i; omega
theorem c_MM_look {r : Nat} (hD : 3 ≤ d) (hS : St μ) (hT : MT μ t L) (hR : RL μ t L) (hx : x < nT t L) (hr : r < 14) (hQ : St (setI μ (hd 46 0) x (oI (plc t L r x x))) → Q (some (.int (if plc t L r x x = 0 then 3 else 0))) (setI μ (hd 46 0) x (oI (plc t L r x x)))) : Cal K_MM_look d rc rs [.ref (hd 40 0), .int (nI x), .int (nI r)] μ Q := by
  have hn4 := nT_le (t := t) (L := L)
  have hp := plc_400 (t := t) (L := L) (r := r) (y := x) (i := x) (by omega)
  have v4 : vp_in (nI x) 401 := vp_in_nI (by omega) (by decide)
  have hS1 : St (setI μ (hd 46 0) x (oI (plc t L r x x))) := hS
  have hq := hQ hS1
  refine e_MM_look (g_MM_look_0 (by omega) hS (c_MM_told (by omega) hS hT hR hx hr ⟨_, rfl, v4, v4, ?_⟩))
  rw [nI_clamp (by omega), rd_eq, oI_m1 (by omega)]
  refine ⟨fun z => ⟨hS1, ?_⟩, fun z => ⟨hS1, ?_⟩⟩
  · rw [if_pos z] at hq; exact hq
  · rw [if_neg z] at hq; exact hq
theorem c_MM_isNew_ {r c m : Nat} (hD : 3 ≤ d) (hS : St μ) (hT : MT μ t L) (hR : RL μ t L) (hx : x < nT t L) (hr : rl (tK t L) x = r) (hc : c < 1000) (hm : m < 1000) (hQ : Q (some (.int (if plc t L r x x ≠ 0 then 2 else if c = m then 4 else 0))) μ) : Cal K_MM_isNew_ d rc rs [.ref (hd 40 0), .int (nI x), .int (nI c), .int (nI m)] μ Q := by
  have hn4 := nT_le (t := t) (L := L)
  have hp := plc_400 (t := t) (L := L) (r := r) (y := x) (i := x) (by omega)
  have hrl := rl_lt (K := tK t L) (j := x)
  refine e_MM_isNew_ (g_MM_isNew__0 (by omega) hS ⟨vp_in_nI (by omega) (by decide), ?_⟩)
  rw [nI_clamp (by omega), hR x hx, hr]
  refine c_MM_told (by omega) hS hT hR hx (by omega) ⟨_, rfl, fun z => ?_, fun z => ⟨hS, ?_⟩⟩
  · rw [oI_m1 (by omega)] at z
    rw [if_neg (fun y => y z)] at hQ
    rw [nI_eq (by omega) (by omega)]
    exact ⟨fun y => ⟨hS, by rw [if_pos y] at hQ; exact hQ⟩, fun y => ⟨hS, by rw [if_neg y] at hQ; exact hQ⟩⟩
  · rw [oI_m1 (by omega)] at z
    rw [if_pos z] at hQ; exact hQ
end MNC
