/-! the first memory: its shapes, where it lies -/
def fmG (L κ i : Nat) : Nat × Nat := if κ = 0 then (if i < 49 then (1, 14) else (0, 0)) else if κ = 1 then (if i < 81 then (1, 15) else (0, 0)) else if κ = 2 then (if i < 81 then (4, (kTx.getD i []).length) else (0, 0)) else if κ = 5 then (if i < 2 then (4, 100) else (0, 0)) else if i = 0 then (if κ = 3 then (2, 49) else if κ = 4 then (20, 49) else if κ = 6 then (2, L) else (0, 0)) else (0, 0)
def fmMu (L : Nat) (xs : Nat → Int32) : Mu := (fun a => fmG L (a % 256) (a / 256), fun _ k => xs k, fun _ _ => 0, fun _ _ => none)
def fmF (aK aS aV aD : Nat → Nat) (aSW aKI b : Nat) (κ i : Nat) : Nat := if κ = 0 then aK i else if κ = 1 then aS i else if κ = 2 then aV i else if κ = 3 then aSW else if κ = 4 then aKI else if κ = 5 then aD i else b
def fmA (f : Nat → Nat → Nat) (a : Nat) : Nat := f (a % 256) (a / 256)
theorem fmA_hd {f : Nat → Nat → Nat} {κ i : Nat} (h : κ < 256) : fmA f (hd κ i) = f κ i := by unfold fmA; rw [hd_mod h, hd_div h]
theorem fmMu_S {L : Nat} {xs : Nat → Int32} {κ i : Nat} (h : κ < 256) : mS (fmMu L xs) (hd κ i) = fmG L κ i := by
  show fmG L (hd κ i % 256) (hd κ i / 256) = _
  rw [hd_mod h, hd_div h]
theorem fmG_live {L κ i : Nat} (h : (fmG L κ i).1 ≠ 0) : (κ = 0 ∧ i < 49) ∨ (κ = 1 ∧ i < 81) ∨ (κ = 2 ∧ i < 81) ∨ (κ = 3 ∧ i = 0) ∨ (κ = 4 ∧ i = 0) ∨ (κ = 5 ∧ i < 2) ∨ (κ = 6 ∧ i = 0) := by
  unfold fmG at h
  repeat' split at h
  all_goals first | exact absurd rfl h | omega
theorem fm_live {L : Nat} {xs : Nat → Int32} {a : Nat} (h : live (fmMu L xs) a) : ∃ κ i, a = hd κ i ∧ ((κ = 0 ∧ i < 49) ∨ (κ = 1 ∧ i < 81) ∨ (κ = 2 ∧ i < 81) ∨ (κ = 3 ∧ i = 0) ∨ (κ = 4 ∧ i = 0) ∨ (κ = 5 ∧ i < 2) ∨ (κ = 6 ∧ i = 0)) :=
  ⟨a % 256, a / 256, by unfold hd; omega, fmG_live h⟩
section FM
variable {L : Nat} {xs : Nat → Int32}
theorem fmu0 {i : Nat} (h : i < 49) : mS (fmMu L xs) (hd 0 i) = (1, 14) := (fmMu_S (by decide)).trans (by unfold fmG; rw [if_pos rfl, if_pos h])
theorem fmu1 {i : Nat} (h : i < 81) : mS (fmMu L xs) (hd 1 i) = (1, 15) := (fmMu_S (by decide)).trans (by unfold fmG; rw [if_neg (by decide), if_pos rfl, if_pos h])
theorem fmu2 {i : Nat} (h : i < 81) : mS (fmMu L xs) (hd 2 i) = (4, (kTx.getD i []).length) := (fmMu_S (by decide)).trans (by unfold fmG; rw [if_neg (by decide), if_neg (by decide), if_pos rfl, if_pos h])
theorem fmu3 : mS (fmMu L xs) (hd 3 0) = (2, 49) := rfl
theorem fmu4 : mS (fmMu L xs) (hd 4 0) = (20, 49) := rfl
theorem fmu5 {i : Nat} (h : i < 2) : mS (fmMu L xs) (hd 5 i) = (4, 100) := (fmMu_S (by decide)).trans (by unfold fmG; rw [if_neg (by decide), if_neg (by decide), if_neg (by decide), if_pos rfl, if_pos h])
theorem fmu6 : mS (fmMu L xs) (hd 6 0) = (2, L) := rfl
theorem fm_l0 {i : Nat} (h : i < 49) : live (fmMu L xs) (hd 0 i) := by unfold live; rw [fmu0 h]; exact (by decide : (1 : Nat) ≠ 0)
theorem fm_l1 {i : Nat} (h : i < 81) : live (fmMu L xs) (hd 1 i) := by unfold live; rw [fmu1 h]; exact (by decide : (1 : Nat) ≠ 0)
theorem fm_l2 {i : Nat} (h : i < 81) : live (fmMu L xs) (hd 2 i) := by unfold live; rw [fmu2 h]; exact (by decide : (4 : Nat) ≠ 0)
theorem fm_l3 : live (fmMu L xs) (hd 3 0) := by unfold live; rw [fmu3]; exact (by decide : (2 : Nat) ≠ 0)
theorem fm_l4 : live (fmMu L xs) (hd 4 0) := by unfold live; rw [fmu4]; exact (by decide : (20 : Nat) ≠ 0)
theorem fm_l5 {i : Nat} (h : i < 2) : live (fmMu L xs) (hd 5 i) := by unfold live; rw [fmu5 h]; exact (by decide : (4 : Nat) ≠ 0)
theorem fm_z {κ i : Nat} (h : 8 ≤ κ) (h' : κ < 256) : mS (fmMu L xs) (hd κ i) = (0, 0) := (fmMu_S (by omega)).trans (by
  unfold fmG
  rw [if_neg (by omega), if_neg (by omega), if_neg (by omega), if_neg (by omega : ¬ κ = 5), if_neg (by omega : ¬ κ = 3), if_neg (by omega : ¬ κ = 4), if_neg (by omega : ¬ κ = 6)]
  split <;> rfl)
theorem fm_Cn : CnF (fmMu L xs) := by
  intro e he h5 i hi
  unfold sTab at he
  iterate 64 (first
    | (rcases List.mem_cons.mp he with rfl | he
       · first
         | exact absurd h5 (by decide)
         | exact fmu0 hi
         | exact fmu1 hi
         | exact fmu2 hi
         | exact fmu5 hi
         | (have hi' : i < 1 := hi
            have h0 : i = 0 := by omega
            rw [h0]
            first | exact fmu3 | exact fmu4))
    | skip)
  cases he
theorem fm_gR {a k b : Nat} (ha : live (fmMu L xs) a) (h : gR (fmMu L xs) a k = some b) : live (fmMu L xs) b := by
  obtain ⟨κ, i, rfl, hc⟩ := fm_live ha
  unfold gR cR at h
  rcases hc with ⟨rfl, hi⟩ | ⟨rfl, hi⟩ | ⟨rfl, hi⟩ | ⟨rfl, rfl⟩ | ⟨rfl, rfl⟩ | ⟨rfl, hi⟩ | ⟨rfl, rfl⟩
  all_goals rw [hd_mod (by decide)] at h
  all_goals try rw [hd_div (by decide)] at h
  · rw [if_pos (by decide), if_pos rfl] at h
    split at h
    · rw [← Option.some.inj h]; exact fm_l1 (by omega)
    · cases h
  · rw [if_pos (by decide), if_neg (by decide), if_pos rfl] at h
    split at h
    · rw [← Option.some.inj h]; exact fm_l2 hi
    · cases h
  · rw [if_pos (by decide), if_neg (by decide), if_neg (by decide), if_neg (by decide)] at h
    cases h
  · rw [if_pos (by decide), if_neg (by decide), if_neg (by decide), if_neg (by decide)] at h
    cases h
  · rw [if_pos (by decide), if_neg (by decide), if_neg (by decide), if_pos rfl] at h
    split at h
    · rename_i hk
      rw [← Option.some.inj h]; exact fm_l0 hk
    · cases h
  · rw [if_pos (by decide), if_neg (by decide), if_neg (by decide), if_neg (by decide)] at h
    cases h
  · rw [if_neg (by decide)] at h
    cases h
end FM
/-- a constant object, a constant array -/
theorem fm_cO {ct : List CE} {adr : Nat → Nat} {μ : Mu} {U : State} {a k : Nat} {cell : Cell} {q : CE} {val : Nat → FieldType → Value} (ha : ¬ rwN a) (hs : mS μ a = (1, k)) (hq : ct[k]? = some q) (h1 : cell.vm ≠ .unknown) (h2 : cell.vm.isStatics = false) (ho : objAt U q val cell) (hv : ∀ j, j < q.2.2.1 → val j (q.2.2.2 j) = tyv adr μ a j (q.2.2.2 j)) : cellIs ct adr μ U a cell := by
  refine ⟨h1, h2, fun h => absurd h ha, fun _ => ⟨q, by rw [hs]; exact hq, ho.1, fun j hj => ?_⟩, fun h => ?_⟩
  · obtain ⟨i, hi, hv'⟩ := ho.2 j hj
    exact ⟨i, hi, by rw [hv', hv j hj]⟩
  · rw [hs] at h
    have h' : 2 ≤ 1 := h
    omega
theorem fm_cA {ct : List CE} {adr : Nat → Nat} {μ : Mu} {U : State} {a t n : Nat} {cell : Cell} {ty : FieldType} {f : Nat → Value} (ha : ¬ rwN a) (hs : mS μ a = (t, n)) (ht : 2 ≤ t) (hty : tagTy ct t = ty) (h1 : cell.vm ≠ .unknown) (h2 : cell.vm.isStatics = false) (ho : arrAt U ty n f cell) (hv : ∀ j, j < n → f j = tyv adr μ a j ty) : cellIs ct adr μ U a cell := by
  refine ⟨h1, h2, fun h => absurd h ha, fun h => ?_, fun _ => ⟨?_, fun h => absurd h ha⟩⟩
  · rw [hs] at h
    have h' : t = 1 := h
    omega
  · rw [hs]
    show arrAt U (tagTy ct t) n _ cell
    rw [hty]
    exact ⟨ho.1, ho.2.1, ho.2.2.1, fun j hj => by rw [ho.2.2.2 j hj, hv j hj]⟩
theorem slotIn_eq {U : State} {C f d : String} {i j : Nat} (h : SlotIn U C f d i) (h' : SlotIn U C f d j) : i = j := by
  obtain ⟨cf, kf, fi, fd, h1, h2, -⟩ := h
  obtain ⟨cf', kf', fi', fd', g1, g2, -⟩ := h'
  cases h1.symm.trans g1
  exact h2.symm.trans g2
