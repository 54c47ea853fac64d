/-! orders and days, in the model -/
/-- an order as it stands in the model's plan q -/
def mordOK (μ : Mu) (q : Nat) (T : PT) (C Ct : Nat → List Op) (k : Nat) : Prop := ∃ s, mI μ (hd 54 q) k = nI (T 7 k) ∧ mI μ (hd 55 q) k = nI (T 8 k) ∧ (T 7 k ≠ 9 → mI μ (hd 56 q) k = nI (T 9 k)) ∧ (T 7 k = 8 → mI μ (hd 57 q) k = nI (T 10 k)) ∧
  mI μ (hd 58 q) k = nI s ∧ mI μ (hd 59 q) k = nI (s + encN (C k)) ∧ mI μ (hd 60 q) k = nI (s + encN (C k) + encN (Ct k)) ∧ s + encN (C k) + encN (Ct k) ≤ 800 ∧ cdM μ q s (C k) ∧ cdM μ q (s + encN (C k)) (Ct k) ∧ (C k).length ≤ 400 ∧ (Ct k).length ≤ 400
def XOM (μ : Mu) (q : Nat) (T : PT) (C Ct : Nat → List Op) : Prop := ∀ k, k < T 6 0 → mordOK μ q T C Ct k
/-- tests are 0 or 1 -/
def OB (T : PT) (Ct : Nat → List Op) : Prop := ∀ k, k < T 6 0 → Ct k ≠ [] → ∀ D, evV T D (Ct k) = 0 ∨ evV T D (Ct k) = 1
theorem mordOK.fr {μ μ' : Mu} {q k : Nat} {T : PT} {C Ct : Nat → List Op} {own : Nat → Nat → Prop} (h : mordOK μ q T C Ct k) (f : Fr own μ μ') (ho : ∀ κ i, (50 ≤ κ ∧ κ ≤ 62) → ¬ own κ i) : mordOK μ' q T C Ct k := by
  obtain ⟨s, h1, h2, h3, h4, h5, h6, h7, h8, h9, h10, h11⟩ := h
  have e : ∀ κ, (50 ≤ κ ∧ κ ≤ 62) → ∀ j, mI μ' (hd κ q) j = mI μ (hd κ q) j := fun κ hκ j => f.I (by omega) (ho κ q hκ)
  refine ⟨s, ?_, ?_, ?_, ?_, ?_, ?_, ?_, h8, h9.fr (e 61 (by decide)), h10.fr (e 61 (by decide)), h11⟩
  · rw [e 54 (by decide)]; exact h1
  · rw [e 55 (by decide)]; exact h2
  · rw [e 56 (by decide)]; exact h3
  · rw [e 57 (by decide)]; exact h4
  · rw [e 58 (by decide)]; exact h5
  · rw [e 59 (by decide)]; exact h6
  · rw [e 60 (by decide)]; exact h7
theorem XOM.fr {μ μ' : Mu} {q : Nat} {T : PT} {C Ct : Nat → List Op} {own : Nat → Nat → Prop} (h : XOM μ q T C Ct) (f : Fr own μ μ') (ho : ∀ κ i, (50 ≤ κ ∧ κ ≤ 62) → ¬ own κ i) : XOM μ' q T C Ct := fun k hk => (h k hk).fr f ho
theorem encO_pos (o : Op) : 1 ≤ (encO o).length := by
  unfold encO
  split
  · exact Nat.succ_le_succ (Nat.zero_le _)
  · split
    · exact Nat.succ_le_succ (Nat.zero_le _)
    · split
      · exact Nat.succ_le_succ (Nat.zero_le _)
      · split
        · exact Nat.succ_le_succ (Nat.zero_le _)
        · split
          · exact Nat.succ_le_succ (Nat.zero_le _)
          · split <;> exact Nat.succ_le_succ (Nat.zero_le _)
theorem encN_zero : ∀ l : List Op, encN l = 0 ↔ l = []
  | [] => ⟨fun _ => rfl, fun _ => rfl⟩
  | o :: l => ⟨fun h => by have := encO_pos o; rw [encN] at h; omega, fun h => by cases h⟩
theorem EB.congr {T : PT} {D D' : DT} {y : Nat} {Es : List Ent} (h : EB T D y Es) (e : ∀ r s, D' 10 r s = D 10 r s) : EB T D' y Es := by
  refine ⟨fun x hx => ?_, fun r s hr hs => by rw [e]; exact h.2 r s hr hs⟩
  obtain ⟨b1, b2, b3, b4, b5⟩ := h.1 x hx
  exact ⟨b1, b2, b3, b4, fun s hs hb => by rw [e]; exact b5 s hs hb⟩
theorem merged_congr {D D' : DT} (e1 : D' 1 0 0 = D 1 0 0) (e4 : ∀ s, D' 4 s 5 = D 4 s 5) : mergedN D' = mergedN D := by
  unfold mergedN
  rw [e1]
  exact sumN_congr _ (fun s _ => by rw [e4])
/-- the model's world, whole -/
def MW (μ : Mu) (w : Nat) (T : PT) (D : DT) (Es : List Ent) : Prop := XN μ w T D (mergedN D) ∧ YE μ w Es ∧ EB T D (D 0 0 0) Es
/-- the model's world changes -/
def FrO (w : Nat) (μ μ' : Mu) : Prop := Fr (OwM w) μ μ' ∧ mR μ' = mR μ
theorem FrO.rf {w : Nat} {μ : Mu} : FrO w μ μ := ⟨Fr.rf, rfl⟩
theorem FrO.trans {w : Nat} {μ1 μ2 μ3 : Mu} (h : FrO w μ1 μ2) (h' : FrO w μ2 μ3) : FrO w μ1 μ3 := ⟨h.1.trans h'.1, h'.2.trans h.2⟩
theorem FrM.o {w : Nat} {μ μ' : Mu} (h : FrM w μ μ') : FrO w μ μ' := ⟨h.1, h.2.1⟩
theorem FrO.px {w : Nat} {μ μ' : Mu} (h : FrO w μ μ') : px μ' (hd 40 0) 11 = px μ (hd 40 0) 11 := by unfold _root_.Jvm.Pilot.@@N@@.px; rw [h.2]
theorem XOM.frO {μ μ' : Mu} {q w : Nat} {T : PT} {C Ct : Nat → List Op} (h : XOM μ q T C Ct) (f : FrO w μ μ') : XOM μ' q T C Ct := h.fr f.1 (by unfold OwM; omega)
theorem ordD_x {T : PT} {C Ct : Nat → List Op} {D : DT} {k : Nat} (h : ¬ (Ct k ≠ [] ∧ evV T D (Ct k) = 0)) : ordD T C Ct D k = ordD T C (fun _ => []) D k := by
  unfold ordD
  rw [if_neg h, if_neg (show ¬ ((fun _ : Nat => ([] : List Op)) k ≠ [] ∧ evV T D ((fun _ : Nat => ([] : List Op)) k) = 0) from fun z => z.1 rfl)]
theorem ordD_o {T : PT} {C Ct : Nat → List Op} {D : DT} {k : Nat} (h : Ct k ≠ [] ∧ evV T D (Ct k) = 0) : ordD T C Ct D k = (D, 0) := by
  unfold ordD
  rw [if_pos h]
section MSO
variable {d rc rs w : Nat} {Q : Option Value → Mu → Prop} {μ : Mu} {T : PT} {C Ct : Nat → List Op} {D : DT} {Es : List Ent}
theorem MW.mk {μ' : Mu} {b n v m h : Nat} (hM : MW μ w T D Es) (f : FrM w μ μ') (hX : XN μ' w T (mkD T D b n v m h) (mergedN D + bN (h = 2))) : MW μ' w T (mkD T D b n v m h) Es := by
  refine ⟨by rw [merged_mk]; exact hX, hM.2.1.frM f, ?_⟩
  rw [mk_f (by decide) (by decide) (by decide) (by decide) (by decide)]
  exact hM.2.2.congr (fun _ _ => mk_f (by decide) (by decide) (by decide) (by decide) (by decide))
theorem c_MS_holds {k q : Nat} (hM : MW μ w T D Es) (hD : 6 ≤ d) (hS : St μ) (hI : Inv T D) (hpq : px μ (hd 40 0) 11 = q) (hO : XOM μ q T C Ct) (hW : OW T C Ct) (hT : OB T Ct) (hk : k < T 6 0)
    (hQ : ∀ μ', FrK w μ μ' → St μ' → Q (some (.int (bI (¬ (Ct k ≠ [] ∧ evV T D (Ct k) = 0))))) μ') : Cal K_MS_holds d rc rs [.ref (hd 65 w), .int (nI k)] μ Q := by
  have hC := hM.1
  have hw := hC.w2; have h20 := hC.O20
  obtain ⟨s, h1, h2, h3, h4, h5, h6, h7, h8, h9, h10, h11, h12⟩ := hO k hk
  obtain ⟨w1, w2, w3, w4, w5, w6, w7, w8⟩ := hW k hk
  have v21 : vp_in (nI k) 21 := vp_in_nI (by omega) (by decide)
  refine e_MS_holds (g_MS_holds_0 (by omega) hw hS ?_)
  rw [nI_clamp (by omega), hpq, h6, h7, nI_eq (by omega) (by omega)]
  refine ⟨v21, v21, fun z => ⟨hS, ?_⟩, fun z => ⟨v21, v21, ?_⟩⟩
  · have hz : Ct k = [] := (encN_zero _).mp (by omega)
    have := hQ μ FrK.rf hS
    rw [bI_t (fun y => y.1 hz)] at this; exact this
  · have hz : Ct k ≠ [] := fun y => z (by rw [(encN_zero _).mpr y]; rfl)
    refine c_MS_carryOut hC (by omega) hS hI.2.1 hpq rfl (by omega) h12 h10 w6 (w8 hz) (fun μ' f1 f2 => ⟨_, rfl, fun e => ⟨f2, ?_⟩, fun e => ⟨f2, ?_⟩⟩)
    · have := hQ μ' f1 f2
      rw [bI_t (fun y => by rw [y.2] at e; exact absurd e (by decide))] at this; exact this
    · have := hQ μ' f1 f2
      rw [bI_f (fun y => y ⟨hz, (hT k hk hz D).resolve_right e⟩)] at this; exact this
theorem c_MS_order {k q : Nat} (hM : MW μ w T D Es) (hD : 6 ≤ d) (hS : St μ) (hI : Inv T D) (hpq : px μ (hd 40 0) 11 = q) (hO : XOM μ q T C Ct) (hW : OW T C Ct) (hk : k < T 6 0)
    (hQ : ∀ μ' Es', FrO w μ μ' → St μ' → MW μ' w T (ordD T C (fun _ => []) D k).1 Es' → Q (some (.int (nI (ordD T C (fun _ => []) D k).2))) μ') : Cal K_MS_order d rc rs [.ref (hd 65 w), .int (nI k)] μ Q := by
  have hC := hM.1
  have hw := hC.w2; have h20 := hC.O20; have hN := hC.N6; have h60 := hC.S60
  have hoK := hO k hk
  obtain ⟨s, h1, h2, h3, h4, h5, h6, h7, h8, h9, h10, h11, h12⟩ := id hoK
  obtain ⟨w1, w2, w3, w4, w5, w6, w7, w8⟩ := hW k hk
  have v21 : vp_in (nI k) 21 := vp_in_nI (by omega) (by decide)
  have v20 : vp_in (nI k) 20 := vp_in_nI (by omega) (by decide)
  have hnt : ¬ ((fun _ : Nat => ([] : List Op)) k ≠ [] ∧ evV T D ((fun _ : Nat => ([] : List Op)) k) = 0) := fun z => z.1 rfl
  have ne1 : ∀ {p : Prop}, D 1 0 0 < 2 ^ 30 → (nI (D 1 0 0) = -1 → p) := fun h z => by rw [← oI_s, oI_m1 (by omega)] at z; omega
  refine e_MS_order (g_MS_order_0 (by omega) hw hS ?_)
  rw [nI_clamp (by omega), hpq, h1, h2, hC.cnt]
  refine ⟨v20, v20, v20, fun z => ?_, fun z => ?_⟩
  · rw [show (9 : Int32) = nI 9 from rfl, nI_eq (by omega) (by decide)] at z
    have eD : ordD T C (fun _ => []) D k = (sendD D (T 8 k), bN (0 < carN D (T 8 k) (D 1 0 0))) := by unfold ordD; rw [if_neg hnt, if_pos z]
    refine c_MS_send hC (by omega) hS (w2 z) hM.2.1 hM.2.2 hI.2.2.2 (fun μ' Es' m1 m2 m3 m4 m5 m6 => ⟨_, rfl, ?_⟩)
    have hc : carN D (T 8 k) (D 1 0 0) ≤ D 1 0 0 * 1 := sumN_le _ (fun _ _ => bN_le)
    have hk := hQ μ' Es' ⟨m1, m2⟩ m3 (by
      rw [eD]
      refine ⟨?_, m5, ?_⟩
      · show XN μ' w T (sendD D (T 8 k)) (mergedN (sendD D (T 8 k)))
        rw [merged_congr (send_f (by decide) (by decide)) (fun s => send_f (by decide) (by decide))]; exact m4
      · show EB T (sendD D (T 8 k)) (sendD D (T 8 k) 0 0 0) Es'
        rw [send_f (by decide) (by decide)]; exact m6)
    rw [eD] at hk
    rw [I0, nI_leI (by omega) (by decide)]
    refine ⟨fun y => ⟨m3, ?_⟩, fun y => ⟨m3, ?_⟩⟩
    · rw [show (bN (0 < carN D (T 8 k) (D 1 0 0))) = 0 from bN_f (by omega)] at hk; exact hk
    · rw [show (bN (0 < carN D (T 8 k) (D 1 0 0))) = 1 from bN_t (by omega)] at hk; exact hk
  · rw [show (9 : Int32) = nI 9 from rfl, nI_eq (by omega) (by decide)] at z
    obtain ⟨w31, w32⟩ := w3 z
    rw [h3 z]
    refine ⟨fun y => ⟨hS, ?_⟩, fun y => ⟨v20, ?_⟩⟩
    · rw [I60, nI_eq (by omega) (by decide)] at y
      have eD : ordD T C (fun _ => []) D k = (D, 0) := by unfold ordD; rw [if_neg hnt, if_neg z, if_pos y]
      rw [eD] at hQ
      exact hQ μ Es FrO.rf hS hM
    · rw [I60, nI_eq (by omega) (by decide)] at y
      have hl5 := shL_len D (T 8 k) (T 9 k)
      refine ⟨fun z8 => ?_, fun z8 => ⟨v21, v21, ?_⟩⟩
      · have z8' := z8
        rw [show (8 : Int32) = nI 8 from rfl, nI_eq (by omega) (by decide)] at z8
        refine c_MS_shows hC (by omega) hS w31 (by omega) ⟨_, rfl, v20, ?_⟩
        rw [hpq, h1, h4 z8]
        refine ⟨fun _ => ⟨fun x => ⟨hS, ?_⟩, fun x => ⟨v20, ?_⟩⟩, fun h => absurd z8' h⟩
        · rw [I1, nI_leI (by omega) (by decide)] at x
          have eD : ordD T C (fun _ => []) D k = (D, 0) := by unfold ordD; rw [if_neg hnt, if_neg z, if_neg y, if_pos z8, if_neg (by omega)]
          rw [eD] at hQ
          exact hQ μ Es FrO.rf hS hM
        · rw [I1, nI_leI (by omega) (by decide)] at x
          have eD : ordD T C (fun _ => []) D k = (meD T D (T 8 k) (T 9 k) (T 10 k), 1) := by unfold ordD; rw [if_neg hnt, if_neg z, if_neg y, if_pos z8, if_pos (by omega)]
          rw [eD] at hQ
          refine c_MS_merge hC (by omega) hS (by omega) w31 w32 (w4 z8) (fun μ' m1 m2 m3 => ⟨_, rfl, ne1 (by omega), fun _ => ⟨m2, hQ μ' Es m1.o m2 (hM.mk m1 ?_)⟩⟩)
          rw [bN_t rfl]; exact m3
      · rw [show (8 : Int32) = nI 8 from rfl, nI_eq (by omega) (by decide)] at z8
        rw [h5, h6]
        have hh : hts (C k) 0 = some 1 := w7 (by omega)
        refine c_MS_carryOut hC (by omega) hS hI.2.1 hpq rfl (by omega) h11 h9 w5 hh (fun μ2 m1 m2 => ⟨_, rfl, ?_⟩)
        have hC2 := hC.frK m1
        have fo2 : FrO w μ μ2 := m1.m.o
        have hM2 : MW μ2 w T D Es := ⟨hC2, hM.2.1.frM m1.m, hM.2.2⟩
        refine c_MS_shows hC2 (by omega) m2 w31 (by omega) ⟨_, rfl, v20, ?_⟩
        obtain ⟨s', g1, g2, g3, g4, -⟩ := hoK.fr m1.1 (by omega)
        rw [fo2.px, hpq, g1]
        refine ⟨fun h => absurd h ?_, fun _ => ⟨v20, fun z6 => ?_, fun z6 => ?_⟩⟩
        · rw [show (8 : Int32) = nI 8 from rfl, nI_eq (by omega) (by decide)]; exact z8
        · rw [show (6 : Int32) = nI 6 from rfl, nI_eq (by omega) (by decide)] at z6
          have eD : ordD T C (fun _ => []) D k = (wrD T D (T 8 k) (T 9 k) (clampN (evV T D (C k))), 1) := by unfold ordD; rw [if_neg hnt, if_neg z, if_neg y, if_neg z8, if_neg (by omega)]
          rw [eD] at hQ
          rw [clamp_ok']
          refine c_MS_write hC2 (by omega) m2 (by omega) w31 w32 (clamp_ok _).2 (fun μ' l1 l2 l3 => ⟨_, rfl, ne1 (by omega), fun _ => ⟨l2, hQ μ' Es (fo2.trans l1.o) l2 (hM2.mk l1 ?_)⟩⟩)
          rw [bN_f (by decide)]; exact l3
        · rw [show (6 : Int32) = nI 6 from rfl, nI_eq (by omega) (by decide)] at z6
          have z7 : T 7 k = 7 := by omega
          have no : ¬ newMk D (T 8 k) (T 9 k) (evV T D (C k)) → St μ2 ∧ Q (some (.int 0)) μ2 := fun hn => by
            have eD : ordD T C (fun _ => []) D k = (D, 0) := by unfold ordD; rw [if_neg hnt, if_neg z, if_neg y, if_neg z8, if_pos z7, if_neg hn]
            rw [eD] at hQ
            exact ⟨m2, hQ μ2 Es fo2 m2 hM2⟩
          refine c_MM_isIn (by omega) m2 ⟨_, rfl, fun x => ?_, fun x => ⟨fun x1 => ?_, fun x1 => ?_⟩⟩
          · rw [bI_z] at x
            exact no (fun u => x u.1)
          · rw [bI_z, Classical.not_not] at x
            rw [I1, nI_eq (by omega) (by decide)] at x1
            refine c_MS_marksOf hC2 (by omega) m2 w31 (by omega) ⟨_, rfl, fun x2 => ?_, fun x2 => ?_⟩
            · have hn : newMk D (T 8 k) (T 9 k) (evV T D (C k)) := ⟨x, x1, x2⟩
              have eD : ordD T C (fun _ => []) D k = (noD T D (T 8 k) (T 9 k) (evV T D (C k)).toNatClampNeg, 1) := by unfold ordD; rw [if_neg hnt, if_neg z, if_neg y, if_neg z8, if_pos z7, if_pos hn]
              rw [eD] at hQ
              have hx0 : ¬ evV T D (C k) < 0 := by rw [Int32.lt_iff_toInt_lt]; have := x.1; exact Int.not_lt.mpr this
              obtain ⟨v, hv, ev⟩ := nI_of hx0
              have hv16 : v < 16 := by have := x.2; rw [ev, nI_toInt hv] at this; have h15 : (15 : Int32).toInt = 15 := by decide
                                       omega
              rw [ev, nI_clamp hv] at hQ
              rw [ev]
              refine c_MS_note hC2 (by omega) m2 (by omega) w31 w32 hv16 x1 (fun μ' l1 l2 l3 => ⟨_, rfl, ne1 (by omega), fun _ => ⟨l2, hQ μ' Es (fo2.trans l1.o) l2 (hM2.mk l1 ?_)⟩⟩)
              rw [bN_f (by decide)]; exact l3
            · exact no (fun u => x2 u.2.2)
          · rw [I1, nI_eq (by omega) (by decide)] at x1
            exact no (fun u => x1 u.2.1)
end MSO
