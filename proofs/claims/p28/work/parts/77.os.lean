/-! the component's orders, settled -/
section OSC
variable {d rc rs : Nat} {Q : Option Value → Mu → Prop} {μ : Mu} {t : Nat → Nat} {L : Nat}
theorem c_Od_settle {i k tok b s m e : Nat} (hD : 2 ≤ d) (hi : i < 42) (hk49 : k < 49) (hS : St μ) (hT : TKN μ t L) (hM : ∀ i, i < nT t L + 1 → mI μ (hd 14 0) i = nI (mng t L (nT t L) i)) (hO : OrdP μ i k tok b s m e) (h1 : tok + 1 ≤ nT t L) (h2 : k ≠ 9 → tok + 2 ≤ nT t L) (hQ : ∀ μ', Fr (fun κ j => κ = 26 ∧ j = i) μ μ' → mR μ' = mR μ → St μ' → OrdP μ' i k tok b s m e → (k = 9 → mI μ' (hd 26 i) 4 = nI (mng t L (nT t L) (tok + 1))) → (k ≠ 9 → mI μ' (hd 26 i) 2 = nI (mng t L (nT t L) (tok + 1)) ∧ mI μ' (hd 26 i) 3 = nI (mng t L (nT t L) (tok + 2))) → Q none μ') : Cal K_Od_settle d rc rs [.ref (hd 26 i), .ref (hd 10 0)] μ Q := by
  have hn4 := nT_le (t := t) (L := L)
  obtain ⟨o1, o2, o3, o4, o5, o6⟩ := hO
  have hpx : px μ (hd 26 i) 0 = k := px_eq (κ := 0) (by decide) o1
  refine e_Od_settle (g_Od_settle_0 (by omega) hi hS ?_)
  rw [o2, nI_1]
  refine c_Tk_meaningAt (by omega) hS hT (by omega) ⟨_, rfl, ?_⟩
  rw [if_pos h1, hM _ (by omega), hpx]
  refine ⟨fun z => ?_, fun z => ?_⟩
  · have hS1 : St (setI μ (hd 26 i) 4 (nI (mng t L (nT t L) (tok + 1)))) := hS
    refine ⟨hS1, hQ _ (Fr.rf.setI (by decide) ⟨rfl, rfl⟩) rfl hS1 ⟨o1, ?_, fun y => ?_, ?_, ?_, ?_⟩ (fun _ => rd_eq) (fun y => absurd z y)⟩
    · rw [rd_k (by decide)]; exact o2
    · rw [rd_k (by decide)]; exact o3 y
    · rw [rd_k (by decide)]; exact o4
    · rw [rd_k (by decide)]; exact o5
    · rw [rd_k (by decide)]; exact o6
  · have hS1 : St (setI μ (hd 26 i) 2 (nI (mng t L (nT t L) (tok + 1)))) := hS
    have f1 : Fr (fun κ j => κ = 26 ∧ j = i) μ (setI μ (hd 26 i) 2 (nI (mng t L (nT t L) (tok + 1)))) := Fr.rf.setI (by decide) ⟨rfl, rfl⟩
    rw [rd_k (by decide), o2, show (2 : Int32) = nI 2 from rfl, nI_add]
    refine c_Tk_meaningAt (by omega) hS1 (hT.fr f1 (fun κ j a b => by omega)) (by omega) ⟨_, rfl, ?_⟩
    rw [if_pos (h2 z), rd_ne (by decide) (by decide) (by decide), hM _ (by have := h2 z; omega)]
    have hS2 : St (setI (setI μ (hd 26 i) 2 (nI (mng t L (nT t L) (tok + 1)))) (hd 26 i) 3 (nI (mng t L (nT t L) (tok + 2)))) := hS
    refine ⟨hS2, hQ _ (f1.setI (by decide) ⟨rfl, rfl⟩) rfl hS2 ⟨o1, ?_, fun y => ?_, ?_, ?_, ?_⟩ (fun y => absurd y z) (fun _ => ⟨?_, rd_eq⟩)⟩
    · rw [rd_k (by decide), rd_k (by decide)]; exact o2
    · rw [rd_k (by decide), rd_k (by decide)]; exact o3 y
    · rw [rd_k (by decide), rd_k (by decide)]; exact o4
    · rw [rd_k (by decide), rd_k (by decide)]; exact o5
    · rw [rd_k (by decide), rd_k (by decide)]; exact o6
    · rw [rd_k (by decide), rd_eq]
end OSC
