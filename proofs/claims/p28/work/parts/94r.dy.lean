/-! a day, and days -/
section SR1
variable {d rc rs : Nat} {Q : Option Value → Mu → Prop} {μ μ' : Mu} {T : PT} {D D' E : DT} {C Ct : Nat → List Op} {OO : Nat → Nat → Nat} {c c' c'' : Nat} {Λ : List Ld} {own : Nat → Nat → Prop}
def ordH (T : PT) (Ct : Nat → List Op) (k : Nat) (w : Nat → Nat) : Prop := (Ct k = [] ∧ w 5 = 0) ∨ (Ct k ≠ [] ∧ ∀ D, (w 5 = 4 → D 11 (w 6) 0 < 2 ^ 31) → (evV T D (Ct k) = 0 ↔ ¬ holdsS D w))
/-- the orders are told alike -/
def OAll (T : PT) (C Ct : Nat → List Op) (OO : Nat → Nat → Nat) : Prop := OW T C Ct ∧ ∀ k, k < T 6 0 → ownOK T (OO k) ∧ ordM T C k (OO k) ∧ ordH T Ct k (OO k)
theorem ord_or {k : Nat} : (ordD T C Ct D k = (D, 0)) ∨ ((ordD T C Ct D k) = (sendD D (T 8 k), bN (0 < carN D (T 8 k) (D 1 0 0))) ∧ T 7 k = 9) ∨ ∃ b n v m h, D 1 0 0 ≠ 60 ∧ T 7 k ≠ 9 ∧ b = T 8 k ∧ n = T 9 k ∧ (ordD T C Ct D k) = (mkD T D b n v m h, 1) := by
  unfold ordD
  split
  · exact Or.inl rfl
  · split
    · rename_i h; exact Or.inr (Or.inl ⟨rfl, h⟩)
    · split
      · exact Or.inl rfl
      · split
        · split
          · exact Or.inr (Or.inr ⟨_, _, _, _, _, by assumption, by assumption, rfl, rfl, rfl⟩)
          · exact Or.inl rfl
        · split
          · split
            · exact Or.inr (Or.inr ⟨_, _, _, _, _, by assumption, by assumption, rfl, rfl, rfl⟩)
            · exact Or.inl rfl
          · exact Or.inr (Or.inr ⟨_, _, _, _, _, by assumption, by assumption, rfl, rfl, rfl⟩)
theorem ord_3 {k : Nat} : (ordD T C Ct D k).1 3 0 0 = D 3 0 0 ∧ (ordD T C Ct D k).2 ≤ 1 := by
  rcases ord_or (T := T) (C := C) (Ct := Ct) (D := D) (k := k) with h | ⟨h, -⟩ | ⟨b, n, v, m, h', -, -, -, -, h⟩
  · rw [h]; exact ⟨rfl, Nat.zero_le _⟩
  · rw [h]; exact ⟨send_f (by decide) (by decide), bN_le⟩
  · rw [h]; exact ⟨mk_f (by decide) (by decide) (by decide) (by decide) (by decide), Nat.le_refl _⟩
theorem pot_ord {a b k : Nat} (hab : b * 9 ≤ a) (hI : Inv T D) (hW : OW T C Ct) (hk : k < T 6 0) : pot a b T (ordD T C Ct D k).1 ≤ pot a b T D := by
  rcases ord_or (T := T) (C := C) (Ct := Ct) (D := D) (k := k) with h | ⟨h, h9⟩ | ⟨b', n, v, m, h', -, -, -, -, h⟩
  · rw [h]; exact Nat.le_refl _
  · rw [h]
    have := pot_send (a := a) (b := b) (x := 0) hI ((hW k hk).2.1 h9) hab
    show pot a b T (sendD D (T 8 k)) ≤ _
    omega
  · rw [h]; exact Nat.le_of_eq pot_mk
theorem pot_3 {a b v : Nat} : pot a b T (ud D 3 0 0 v) = pot a b T D := pot_congr (ud_f (by decide)) (fun _ _ => ud_f (by decide))
theorem pot_orF {a b : Nat} (hab : b * 9 ≤ a) (hI : Inv T D) (hW : OW T C Ct) : ∀ n k, k + n ≤ T 6 0 → pot a b T (ordF T C Ct D (k + n)) ≤ pot a b T (ordF T C Ct D k)
  | 0, _, _ => Nat.le_refl _
  | n + 1, k, h => by
    have ih := pot_orF hab hI hW n k (by omega)
    have := pot_ord (C := C) (Ct := Ct) hab (hI.orA hW (k + n) (by omega)) hW (show k + n < T 6 0 by omega)
    rw [show k + (n + 1) = (k + n) + 1 by omega, ordF, pot_3]
    omega
theorem day_pot {a b : Nat} (hI : Inv T D) : pot a b T (dayD T C Ct D) = pot a b T (ud (ordF T C Ct D (T 6 0)) 0 0 0 (ordF T C Ct D (T 6 0) 0 0 0 + 1)) := by
  have e0 : ordF T C Ct D (T 6 0) 0 0 0 = D 0 0 0 := ordF_f (by decide) (by decide) (by decide) (by decide) (by decide) (by decide) (by decide) (by decide) _
  refine pot_congr ?_ (fun i j => ?_)
  · unfold dayD; rw [ud_self, ud_self, e0]
  · unfold dayD
    rw [ud_f (by decide), ud_f (by decide), hoA_f (by decide) (by decide) (by decide) (by decide) (by decide), brA_f (by decide) (by decide)]
theorem Iv.ord {k : Nat} (hI : Inv T D) (h2 : Iv T D) (hW : OW T C Ct) (hk : k < T 6 0) : Iv T (ordD T C Ct D k).1 := by
  have h60 := hI.1.1.2.2.2.2.1
  rcases ord_or (T := T) (C := C) (Ct := Ct) (D := D) (k := k) with h | ⟨h, h9⟩ | ⟨b', n, v, m, h', hS, h9, hb, hn, h⟩
  · rw [h]; exact h2
  · rw [h]
    exact h2.congr (send_f (by decide) (by decide)) (Nat.le_of_eq (send_f (by decide) (by decide)).symm) (fun _ _ => send_f (by decide) (by decide)) (fun _ _ => send_f (by decide) (by decide)) (fun _ _ => send_f (by decide) (by decide)) (fun _ _ => send_f (by decide) (by decide)) (fun b s _ _ z => by
      have z' : sendD D (T 8 k) 8 b s ≠ 0 := z
      rw [show sendD D (T 8 k) 8 b s = D 8 b s from send_f (by decide) (by decide)] at z'
      exact Or.inl z')
  · rw [h]
    have := (hW k hk).2.2.1 h9
    exact h2.mk hI (by omega) (by rw [hb]; exact this.1) (by rw [hn]; exact this.2)
theorem Iv.ud3 {v : Nat} (h2 : Iv T D) : Iv T (ud D 3 0 0 v) := h2.congr (ud_f (by decide)) (Nat.le_of_eq (ud_f (by decide)).symm) (fun _ _ => ud_f (by decide)) (fun _ _ => ud_f (by decide)) (fun _ _ => ud_f (by decide)) (fun _ _ => ud_f (by decide)) (fun b s _ _ z => by rw [ud_f (by decide)] at z; exact Or.inl z)
theorem Iv.orA (hI : Inv T D) (h2 : Iv T D) (hW : OW T C Ct) : ∀ k, k ≤ T 6 0 → Iv T (ordF T C Ct D k)
  | 0, _ => h2
  | k + 1, hk => ((Iv.orA hI h2 hW k (by omega)).ord (hI.orA hW k (by omega)) hW (by omega)).ud3
theorem Iv.br (hI : Inv T D) (h2 : Iv T D) : Iv T (brA D (T 2 0)) := h2.congr (brA_f (by decide) (by decide) _) (Nat.le_of_eq (brA_f (by decide) (by decide) _).symm) (fun _ _ => brA_f (by decide) (by decide) _) (fun _ _ => brA_f (by decide) (by decide) _) (fun _ _ => brA_f (by decide) (by decide) _) (fun _ _ => brA_f (by decide) (by decide) _) (fun b s _ _ z => by
  rcases (brA_8 _).mp z with y | ⟨r, -, y1, -, -, y2⟩
  · exact Or.inl y
  · exact Or.inr ⟨y1, y2⟩)
theorem Iv.day (hI : Inv T D) (h2 : Iv T D) (hW : OW T C Ct) : Iv T (dayD T C Ct D) := by
  have hO := hI.orA hW (T 6 0) (Nat.le_refl _)
  have h2O := Iv.orA hI h2 hW (T 6 0) (Nat.le_refl _)
  have hB := hO.br2 (T 2 0) (Nat.le_refl _)
  have h2B := h2O.br hO
  have h2H := Iv.ho2 hB h2B (T 0 0) (Nat.le_refl _)
  have e0 : hoA T (brA (ordF T C Ct D (T 6 0)) (T 2 0)) (T 0 0) 0 0 0 = D 0 0 0 := by
    rw [hoA_f (by decide) (by decide) (by decide) (by decide) (by decide), brA_f (by decide) (by decide), ordF_f (by decide) (by decide) (by decide) (by decide) (by decide) (by decide) (by decide) (by decide)]
  unfold dayD
  exact h2H.congr (ud_f (by decide)) (by rw [ud_self, e0]; omega) (fun _ _ => ud_f (by decide)) (fun _ _ => ud_f (by decide)) (fun _ _ => ud_f (by decide)) (fun _ _ => ud_f (by decide)) (fun b s _ _ z => by rw [ud_f (by decide)] at z; exact Or.inl z)
theorem SR.s3 (h : SR μ T D OO c) : SR (setI μ (hd 100 0) 3 (gI μ (hd 100 0) 3 + 1)) T (ud D 3 0 0 (D 3 0 0 + 1)) OO c := by
  have g : FrS (fun κ i => κ = 100 ∧ i = 0) μ (setI μ (hd 100 0) 3 (gI μ (hd 100 0) 3 + 1)) := FrS.rf.sI (by decide) ⟨rfl, rfl⟩
  obtain ⟨o1, o2, o3, o4, o5, o6, o7⟩ := h.1
  have e0I : ∀ f, f ≠ 3 → gI (setI μ (hd 100 0) 3 (gI μ (hd 100 0) 3 + 1)) (hd 100 0) f = gI μ (hd 100 0) f := fun f hf => by rw [gI_h (by decide) (by decide), rd_k hf, ← gI_h (by decide) (by decide)]
  refine h.ext (D' := ud D 3 0 0 (D 3 0 0 + 1)) g (Nat.le_refl _) (fun κ i z => Or.inl z) (fun f hf => ?_) ⟨o1, ?_, ?_, ?_, ?_, ?_, ?_⟩ (fun f hf i j => ud_f (by omega)) (fun p hp => ⟨(h.2.2.2.2.2.1.2.2 p hp).2.1, fun k hk => ?_⟩) (fun p hp => ⟨(h.2.2.2.2.2.2.1.2.2 p hp).2.1, fun k hk => ?_⟩) (fun p hp => ⟨(h.2.2.2.2.2.2.2.1.2.2 p hp).2.1, fun k hk => ?_⟩)
  · exact gR_h (by decide) (by decide) |>.trans (gR_h (by decide) (by decide)).symm
  · rw [e0I 0 (by decide), o2, ud_f (by decide)]
  · rw [e0I 1 (by decide), o3, ud_f (by decide)]
  · rw [e0I 2 (by decide), o4, merged_congr (D := D) (D' := ud D 3 0 0 (D 3 0 0 + 1)) (ud_f (by decide)) (fun s => ud_f (by decide))]
  · rw [gI_h (by decide) (by decide), rd_eq, o5, nI_s, ud_self]
  · rw [e0I 4 (by decide), o6]
  · rw [e0I 5 (by decide), o7]
  · rw [g.gi (by decide) (by omega), (h.2.2.2.2.2.1.2.2 p hp).2.2 k hk]; unfold pWt; rw [ud_f (by decide)]
  · rw [g.gi (by decide) (by omega), (h.2.2.2.2.2.2.1.2.2 p hp).2.2 k hk]; unfold rdX; rw [ud_f (by decide), ud_f (by decide)]
  · rw [g.gi (by decide) (by omega), (h.2.2.2.2.2.2.2.1.2.2 p hp).2.2 k hk]; unfold pGo; rw [ud_f (by decide)]
theorem c_SI_pass (hA : OAll T C Ct OO) (hR : SR μ T D OO c) (hL : LR μ Λ c) (hP : LPd T D Λ) (hI : Inv T D) (h2 : Iv T D) (hD : 7 ≤ d) (hS : St μ)
    (hc : 18 * T 6 0 + 601 + pot 11 1 T D ≤ rc + pot 11 1 T (dayD T C Ct D)) (hs : 630 * T 6 0 + 19501 + pot 4880 481 T D ≤ rs + pot 4880 481 T (dayD T C Ct D))
    (hQ : ∀ μ' c' Λ', c ≤ c' → FrS (OwH c c') μ μ' → St μ' → SR μ' T (dayD T C Ct D) OO c' → LR μ' Λ' c' → LPd T (dayD T C Ct D) Λ' → Q none μ') : Cal K_SI_pass d rc rs [.ref (hd 100 0)] μ Q := by
  obtain ⟨hW, hO⟩ := hA
  have hB := hI.1
  have hP5 := hB.1.1
  have h20 := hB.1.2.2.2.1
  have x14 := hR.2.2.2.2.2.2.2.2.1
  rw [day_pot hI] at hc hs
  refine e_SI_pass (r_SI_pass_0 (by omega) ⟨hR.1.1, _, x14.1, _, x14.2.1, ?_⟩)
  have loop : ∀ k, k ≤ T 6 0 → ∀ μ' c' Λ' rc' rs', c ≤ c' → FrS (OwH c c') μ μ' → St μ' → SR μ' T (ordF T C Ct D k) OO c' → LR μ' Λ' c' → LPd T (ordF T C Ct D k) Λ' →
      18 * (T 6 0 - k) + 601 + pot 11 1 T (ordF T C Ct D k) ≤ rc' + pot 11 1 T (ud (ordF T C Ct D (T 6 0)) 0 0 0 (ordF T C Ct D (T 6 0) 0 0 0 + 1)) → 630 * (T 6 0 - k) + 19501 + pot 4880 481 T (ordF T C Ct D k) ≤ rs' + pot 4880 481 T (ud (ordF T C Ct D (T 6 0)) 0 0 0 (ordF T C Ct D (T 6 0) 0 0 0 + 1)) →
      Wx K_SI_pass d rc' rs' (fun r μ' => St μ' ∧ Q r μ') 10 [(0, .ref (hd 100 0)), (1, .ref (hd 124 (T 6 0))), (2, .int (nI (T 6 0))), (3, .int (nI k))] [] μ' := by
    have hIO := hI.orA hW (T 6 0) (Nat.le_refl _)
    have h2O := Iv.orA hI h2 hW (T 6 0) (Nat.le_refl _)
    have pd1 := pot_day (a := 11) (b := 1) hIO
    have pd2 := pot_day (a := 4880) (b := 481) hIO
    refine up_loop _ (fun μ' c' Λ' rc' rs' h1 g S R L P b1 b2 => ?_) (fun k hk ih μ' c' Λ' rc' rs' h1 g S R L P b1 b2 => ?_)
    · -- behind the orders
      have hdl := (LPd.day P).lenU
      have hlen := P.len hIO.1
      obtain ⟨q, q0, q1, q2, q3⟩ := L
      have hne : hd 100 0 ≠ hd 131 c' := hd_ne (by decide) (by decide) (by decide)
      have f1 : FrS (Dy c' (c' + 1)) μ' (mkA μ' (hd 131 c') (40, 0)) := FrS.rf.mk (by decide) (by unfold Dy; omega)
      have R1 := R.dy f1 (by omega)
      have fq : FreN μ' (hd 131 c') := R.2.2.2.2.2.2.2.2.2.1.fr (by decide) (by decide)
      have lq : LoR (mkA μ' (hd 131 c') (40, 0)) q Λ' (c' + 1) := LoR.fr ⟨q1, q2, q3⟩ f1 (by omega) (fun i hi z => by unfold Dy at z; omega) (fun i hi z => by unfold Dy at z; omega)
      refine r_SI_pass_10 (by omega) ⟨fun _ => ⟨⟨by decide, by decide, by omega, Nat.zero_le _⟩, hd 131 c', fq, R1.1.1, hd 131 q, (f1.gr (by decide) (by unfold Dy; omega)).trans q0, _, lq.2.1, ?_⟩, fun h => absurd (Int32.le_refl _) h⟩
      refine pass_70 hIO P R1 lq ⟨by omega, if_pos rfl, fun k e h => by cases h⟩ (f1.st (fun κ i z => z.lo) S) (by omega) (by omega) (by omega) hlen.2 (fun μ2 c2 rc2 rs2 y1 y2 y3 y4 y5 y6 y7 => ?_)
      have hB2 := hIO.br2 (T 2 0) (Nat.le_refl _)
      have h2B := h2O.br hIO
      refine pass_183 hB2 h2B y4 y3 (by omega) (by omega) (by omega) (fun μ3 c3 z => ?_)
      obtain ⟨z1, z2, z3, z4, z5⟩ := z
      have e0 : brA (ordF T C Ct D (T 6 0)) (T 2 0) 0 0 0 = D 0 0 0 := by
        rw [brA_f (by decide) (by decide), ordF_f (by decide) (by decide) (by decide) (by decide) (by decide) (by decide) (by decide) (by decide)]
      have e0' : ordF T C Ct D (T 6 0) 0 0 0 = D 0 0 0 := ordF_f (by decide) (by decide) (by decide) (by decide) (by decide) (by decide) (by decide) (by decide) _
      rw [e0] at z4
      refine hQ μ3 c3 (keepL (ordF T C Ct D (T 6 0) 0 0 0) Λ') (by omega) ((g.mono (fun κ i z => z.w (Nat.le_refl _) (by omega))).trans ((f1.mono (fun κ i z => z.h.w h1 (by omega))).trans ((y2.mono (fun κ i z => z.w (by omega) z1)).trans (z2.mono (fun κ i z => z.w (by omega) (Nat.le_refl _)))))) z3 z4 (y5.fr z2 z1 z5) ?_
      refine (LPd.day P).congr ?_ ?_ (fun i j => ?_)
      · unfold dayD; rw [ud_self, ud_self, e0']
      · unfold dayD
        rw [ud_f (by decide), ud_f (by decide), hoA_f (by decide) (by decide) (by decide) (by decide) (by decide), brA_f (by decide) (by decide)]
      · unfold dayD
        rw [ud_f (by decide), ud_f (by decide), hoA_f (by decide) (by decide) (by decide) (by decide) (by decide), brA_f (by decide) (by decide)]
    · have hIk := hI.orA hW k (by omega)
      have h2k := Iv.orA hI h2 hW k (by omega)
      obtain ⟨w1, w2, w3⟩ := hO k hk
      have d11 : OO k 5 = 4 → ordF T C Ct D k 11 (OO k 6) 0 < 2 ^ 31 := fun e4 => by
        have := (hIk.1.2.2.1 (OO k 6) (w1.2.2.2.2.2.2.2.2.2.2.2.1 e4).1).2.2.2.1
        omega
      have x := R.2.2.2.2.2.2.2.2.1
      have po1 := pot_orF (a := 11) (b := 1) (by decide) hI hW (T 6 0 - (k + 1)) (k + 1) (by omega)
      have po2 := pot_orF (a := 4880) (b := 481) (by decide) hI hW (T 6 0 - (k + 1)) (k + 1) (by omega)
      rw [show k + 1 + (T 6 0 - (k + 1)) = T 6 0 by omega] at po1 po2
      have eF : ordF T C Ct D (k + 1) = ud (ordD T C Ct (ordF T C Ct D k) k).1 3 0 0 (ordF T C Ct D k 3 0 0 + (ordD T C Ct (ordF T C Ct D k) k).2) := rfl
      have pk1 := pot_ord (a := 11) (b := 1) (C := C) (Ct := Ct) (by decide) hIk hW hk
      have pk2 := pot_ord (a := 4880) (b := 481) (C := C) (Ct := Ct) (by decide) hIk hW hk
      have e11' : pot 11 1 T (ordF T C Ct D (k + 1)) = pot 11 1 T (ordD T C Ct (ordF T C Ct D k) k).1 := by rw [eF, pot_3]
      have e22' : pot 4880 481 T (ordF T C Ct D (k + 1)) = pot 4880 481 T (ordD T C Ct (ordF T C Ct D k) k).1 := by rw [eF, pot_3]
      refine r_SI_pass_10 (by omega) ⟨fun h => absurd ((nI_leI (by omega) (by omega)).mp h) (by omega), fun _ => ⟨_, ⟨x.2.1, vI hk (by omega)⟩, hd 118 k, by rw [nI_clamp (by omega)]; exact (x.2.2 k hk).1, 4, 130, ⟨by omega, by omega⟩, R.1.1, c_SI_holds R hIk hk w1 (by omega) (Nat.le_refl _) (Nat.le_refl _) S (fun μ1 c1 y1 f1 S1 => ⟨_, rfl, bIs (fun hh => ?_) (fun hh => ?_)⟩)⟩⟩
      · have hoo : ordD T C Ct (ordF T C Ct D k) k = (ordF T C Ct D k, 0) := by
          rcases w3 with ⟨z1, z2⟩ | ⟨z1, z2⟩
          · exfalso; apply hh; unfold holdsS; rw [if_pos z2]; trivial
          · exact ordD_o ⟨z1, (z2 _ d11).mpr hh⟩
        have e1 : ordF T C Ct D (k + 1) = ordF T C Ct D k := by
          rw [eF, hoo]; exact ud_same rfl
        rw [nI_s]
        have z := ih μ1 c1 Λ' (rc' - 4) (rs' - 130)
        rw [e1] at z
        exact z (by omega) ((g.mono (fun κ i z => z.w (Nat.le_refl _) y1)).trans (f1.mono (fun κ i z => z.h.w h1 (Nat.le_refl _)))) S1 (R.dy f1 y1) (L.fr (f1.mono (fun κ i z => z.h)) y1 (f1.gr (by decide) (by unfold Dy; omega))) P (by omega) (by omega)
      · have hoo : ordD T C Ct (ordF T C Ct D k) k = doD T C (ordF T C Ct D k) k := by
          refine ordD_x ?_
          rintro ⟨z1, z2⟩
          rcases w3 with ⟨z3, -⟩ | ⟨-, z3⟩
          · exact z1 z3
          · exact (z3 _ d11).mp z2 hh
        have R1 := R.dy f1 y1
        have L1 := L.fr (f1.mono (fun κ i z => z.h)) y1 (f1.gr (by decide) (by unfold Dy; omega))
        obtain ⟨o3, o4⟩ := ord_3 (T := T) (C := C) (Ct := Ct) (D := ordF T C Ct D k) (k := k)
        rw [hoo] at o3 o4 pk1 pk2 eF
        have e11 : pot 11 1 T (ordF T C Ct D (k + 1)) = pot 11 1 T (doD T C (ordF T C Ct D k) k).1 := by rw [eF, pot_3]
        have e22 : pot 4880 481 T (ordF T C Ct D (k + 1)) = pot 4880 481 T (doD T C (ordF T C Ct D k) k).1 := by rw [eF, pot_3]
        refine ⟨14 + pot 11 1 T (ordF T C Ct D k) - pot 11 1 T (doD T C (ordF T C Ct D k) k).1, 500 + pot 4880 481 T (ordF T C Ct D k) - pot 4880 481 T (doD T C (ordF T C Ct D k) k).1, ⟨by omega, by omega⟩, R1.1.1, c_SI_does R1 L1 P hIk hk w1 w2 (by omega) (by omega) (by omega) S1 (fun μ2 c2 Λ2 t1 t2 t3 t4 t5 t6 => ⟨_, rfl, fun hz => ?_, fun hz => ?_⟩)⟩
        · have hz' : (doD T C (ordF T C Ct D k) k).2 = 0 := (nI_eq (by omega) (by decide)).mp hz
          have e1 : ordF T C Ct D (k + 1) = (doD T C (ordF T C Ct D k) k).1 := by
            rw [eF, hz', Nat.add_zero]; exact ud_same o3
          rw [nI_s]
          have z := ih μ2 c2 Λ2 (rc' - 4 - (14 + pot 11 1 T (ordF T C Ct D k) - pot 11 1 T (doD T C (ordF T C Ct D k) k).1)) (rs' - 130 - (500 + pot 4880 481 T (ordF T C Ct D k) - pot 4880 481 T (doD T C (ordF T C Ct D k) k).1))
          rw [e1] at z e11 e22
          exact z (by omega) ((g.mono (fun κ i z => z.w (Nat.le_refl _) (by omega))).trans ((f1.mono (fun κ i z => z.h.w h1 t1)).trans (t2.mono (fun κ i z => z.w (by omega) (Nat.le_refl _))))) t3 t4 t5 t6 (by omega) (by omega)
        · have hz' : (doD T C (ordF T C Ct D k) k).2 = 1 := by
            have : (doD T C (ordF T C Ct D k) k).2 ≠ 0 := fun w => hz (by rw [w]; rfl)
            omega
          have e1 : ordF T C Ct D (k + 1) = ud (doD T C (ordF T C Ct D k) k).1 3 0 0 ((doD T C (ordF T C Ct D k) k).1 3 0 0 + 1) := by
            rw [eF, hz', o3]
          refine ⟨t4.1.1, ⟨t4.1.1, hi_hd (by decide) (by decide)⟩, ?_⟩
          rw [nI_s]
          have z := ih (setI μ2 (hd 100 0) 3 (gI μ2 (hd 100 0) 3 + 1)) c2 Λ2 (rc' - 4 - (14 + pot 11 1 T (ordF T C Ct D k) - pot 11 1 T (doD T C (ordF T C Ct D k) k).1)) (rs' - 130 - (500 + pot 4880 481 T (ordF T C Ct D k) - pot 4880 481 T (doD T C (ordF T C Ct D k) k).1))
          rw [e11, e22] at z
          have f3 : FrS (fun κ i => κ = 100 ∧ i = 0) μ2 (setI μ2 (hd 100 0) 3 (gI μ2 (hd 100 0) 3 + 1)) := FrS.rf.sI (by decide) ⟨rfl, rfl⟩
          refine z (by omega) (((g.mono (fun κ i z => z.w (Nat.le_refl _) (by omega))).trans ((f1.mono (fun κ i z => z.h.w h1 t1)).trans (t2.mono (fun κ i z => z.w (by omega) (Nat.le_refl _))))).trans (f3.mono (fun κ i z => by unfold OwH; omega))) (f3.st (fun κ i z => by omega) t3) (by rw [e1]; exact t4.s3) (t5.fr (f3.mono (fun κ i z => by unfold OwH; omega)) (Nat.le_refl _) ?_) ?_ (by omega) (by omega)
          · exact gR_h (by decide) (by decide) |>.trans (gR_h (by decide) (by decide)).symm
          · rw [e1]; exact t6.congr (ud_f (by decide)) (ud_f (by decide)) (fun _ _ => ud_f (by decide))
  have z := loop 0 (Nat.zero_le _) μ c Λ rc rs (Nat.le_refl _) FrS.rf hS hR hL hP
  rw [Nat.sub_zero] at z
  exact z hc hs
end SR1
