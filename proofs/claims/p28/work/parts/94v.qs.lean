/-! questions that are not refused -/
section SV
variable {d rc rs : Nat} {Q : Option Value → Mu → Prop} {μ μ' : Mu} {T : PT} {D D' E : DT} {C Ct : Nat → List Op} {t : Nat → Nat} {L : Nat} {x : Int32}
theorem q_call {K : KM} {args : List Value} {v : Int32} (h : ∀ Q : Option Value → Mu → Prop, Q (RV.ok v).c μ → CalT K d rc rs args μ Q) (hQ : Q (some (.int v)) μ) : Cal K d rc rs args μ Q :=
  Call.mono (CalT.call (h (fun r μ' => r = some (.int v) ∧ μ' = μ) ⟨rfl, rfl⟩) (fun k μ' z => by have := z.1; cases this)) (fun r μ' z => ⟨z.1, by rw [z.2.1, z.2.2]; exact hQ⟩)
theorem noex {v : Int32} {A : Prop} {r : RV} (h : r = RV.ok v) : ∀ k c, r = RV.ex k c → A := fun k c e => by rw [h] at e; cases e
theorem inI {k n : Nat} (hk : k < n) (hn : n < 2 ^ 31) : inR (nI k) n := (inR.of (by omega)).mpr hk
theorem q_count {k : Nat} (hC : CI μ T C Ct D t L x) (hk : k < 13) (hD : 7 ≤ d) (hS : St μ) (hQ : Q (some (.int (nI (if k = 12 then L else tallyN T D k)))) μ) : Cal K_PB_count d rc rs [.ref (hd 8 0), .int (nI k)] μ Q := by
  have e : rvCount T D L (nI k) = RV.ok (nI (if k = 12 then L else tallyN T D k)) := by
    unfold rvCount
    rw [ifP_t (inI hk (by decide)), nI_clamp (by omega)]
    by_cases z : k = 12
    · rw [if_pos (by rw [z]; rfl), if_pos z]
    · rw [if_neg (show ¬ nI k = 12 from fun w => z ((nI_eq (by omega) (by decide)).mp w)), if_neg z]
  exact q_call (fun Q h => c_PB_count hC hD (noex e) hS (by rw [e]; exact h)) hQ
theorem q_parish {p k : Nat} (hC : CI μ T C Ct D t L x) (hp : p < T 0 0) (hk : k < 6) (hD : 6 ≤ d) (hS : St μ) (hQ : Q (some (.int (nI (parishN T D p k)))) μ) : Cal K_PB_parish d rc rs [.ref (hd 8 0), .int (nI p), .int (nI k)] μ Q := by
  have h5 := hC.1.P5
  have e : rvParish T D (nI p) (nI k) = RV.ok (nI (parishN T D p k)) := by
    unfold rvParish
    rw [ifP_t (inI hp (by omega)), ifP_t (inI hk (by decide)), nI_clamp (by omega), nI_clamp (by omega)]
  exact q_call (fun Q h => c_PB_parish hC hD (noex e) hS (by rw [e]; exact h)) hQ
theorem q_knows {p o : Nat} (hC : CI μ T C Ct D t L x) (hp : p < T 0 0) (ho : o < T 0 0) (hD : 6 ≤ d) (hS : St μ) (hQ : Q (some (.int (nI (D 6 p o)))) μ) : Cal K_PB_knows d rc rs [.ref (hd 8 0), .int (nI p), .int (nI o)] μ Q := by
  have h5 := hC.1.P5
  have e : rvKnows T D (nI p) (nI o) = RV.ok (nI (D 6 p o)) := by
    unfold rvKnows
    rw [ifP_t (inI hp (by omega)), ifP_t (inI ho (by omega)), nI_clamp (by omega), nI_clamp (by omega)]
  exact q_call (fun Q h => c_PB_knows hC hD (noex e) hS (by rw [e]; exact h)) hQ
theorem q_sheet {s k : Nat} (hC : CI μ T C Ct D t L x) (hs : s < D 1 0 0) (hk : k < 8) (hD : 6 ≤ d) (hS : St μ) (hQ : Q (some (.int (nI (sheetN T D s k)))) μ) : Cal K_PB_sheet d rc rs [.ref (hd 8 0), .int (nI s), .int (nI k)] μ Q := by
  have h60 := hC.1.S60
  have e : rvSheet T D (nI s) (nI k) = RV.ok (nI (sheetN T D s k)) := by
    unfold rvSheet
    rw [ifP_t (inI hs (by omega)), ifP_t (inI hk (by decide)), nI_clamp (by omega), nI_clamp (by omega)]
  exact q_call (fun Q h => c_PB_sheet hC hD (noex e) hS (by rw [e]; exact h)) hQ
theorem q_stamp {s p : Nat} (hC : CI μ T C Ct D t L x) (hs : s < D 1 0 0) (hp : p < T 0 0) (hD : 6 ≤ d) (hS : St μ) (hQ : Q (some (.int (nI (D 5 s p)))) μ) : Cal K_PB_stamp d rc rs [.ref (hd 8 0), .int (nI s), .int (nI p)] μ Q := by
  have h60 := hC.1.S60
  have h5 := hC.1.P5
  have e : rvStamp T D (nI s) (nI p) = RV.ok (nI (D 5 s p)) := by
    unfold rvStamp
    rw [ifP_t (inI hs (by omega)), ifP_t (inI hp (by omega)), nI_clamp (by omega), nI_clamp (by omega)]
  exact q_call (fun Q h => c_PB_stamp hC hD (noex e) hS (by rw [e]; exact h)) hQ
theorem q_shown {b n l : Nat} (hC : CI μ T C Ct D t L x) (hb : b < T 0 0) (hn : n < T 1 0) (hl : l < (shL D b n).length) (hD : 6 ≤ d) (hS : St μ) (hQ : Q (some (.int (nI ((shL D b n).getD l 0 - 1)))) μ) : Cal K_PB_shown d rc rs [.ref (hd 8 0), .int (nI b), .int (nI n), .int (nI l)] μ Q := by
  have h5 := hC.1.P5
  have h6 := hC.1.N6
  have hle := shL_len D b n
  have e : rvShown T D (nI b) (nI n) (nI l) = RV.ok (nI ((shL D b n).getD l 0 - 1)) := by
    unfold rvShown
    rw [ifP_t ⟨inI hb (by omega), inI hn (by omega)⟩, nI_clamp (by omega), nI_clamp (by omega), ifP_t (inI hl (by omega)), nI_clamp (by omega), oI_p (Nat.pos_of_ne_zero (sh_pos hl))]
  exact q_call (fun Q h => c_PB_shown hC hD (noex e) hS (by rw [e]; exact h)) hQ
/-- how two sheets stand -/
noncomputable def cmpN (D : DT) (s u : Nat) : Nat := @ite _ (s = u) (Classical.propDecidable _) 0 (@ite _ (ah D s u) (Classical.propDecidable _) 1 (@ite _ (ah D u s) (Classical.propDecidable _) 2 3))
theorem q_compare {s u : Nat} (hC : CI μ T C Ct D t L x) (hs : s < D 1 0 0) (hu : u < D 1 0 0) (hD : 6 ≤ d) (hS : St μ) (hQ : Q (some (.int (nI (cmpN D s u)))) μ) : Cal K_PB_compare d rc rs [.ref (hd 8 0), .int (nI s), .int (nI u)] μ Q := by
  have h60 := hC.1.S60
  have e : rvCompare D (nI s) (nI u) = RV.ok (nI (cmpN D s u)) := by
    unfold rvCompare cmpN
    rw [ifP_t (inI hs (by omega)), ifP_t (inI hu (by omega)), nI_clamp (by omega), nI_clamp (by omega)]
    by_cases z : s = u
    · rw [ifP_t (by rw [z]), if_pos z]; rfl
    · rw [ifP_f (fun w => z ((nI_eq (by omega) (by omega)).mp w)), if_neg z]
      by_cases y : ah D s u
      · rw [ifP_t y, if_pos y]; rfl
      · rw [ifP_f y, if_neg y]
        by_cases w : ah D u s
        · rw [ifP_t w, if_pos w]; rfl
        · rw [ifP_f w, if_neg w]; rfl
  exact q_call (fun Q h => c_PB_compare hC hD (noex e) hS (by rw [e]; exact h)) hQ
theorem q_road {r k : Nat} (hC : CI μ T C Ct D t L x) (hr : r < T 2 0) (hk : k < 5) (hD : 6 ≤ d) (hS : St μ) (hQ : Q (some (.int (nI (roadN D r k)))) μ) : Cal K_PB_road d rc rs [.ref (hd 8 0), .int (nI r), .int (nI k)] μ Q := by
  have h8 := hC.1.R8
  have e : rvRoad T D (nI r) (nI k) = RV.ok (nI (roadN D r k)) := by
    unfold rvRoad
    rw [ifP_t (inI hr (by omega)), ifP_t (inI hk (by decide)), nI_clamp (by omega), nI_clamp (by omega)]
  exact q_call (fun Q h => c_PB_road hC hD (noex e) hS (by rw [e]; exact h)) hQ
end SV
