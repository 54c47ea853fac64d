/-! the model's worlds change -/
def OwM (w κ i : Nat) : Prop := (65 ≤ κ ∧ κ ≤ 82) ∧ i = w
theorem YR.congr {μ : Mu} {w S P R : Nat} {D D' : DT} (h : YR μ w S P R D) (e : ∀ f i j, f ≠ 8 → f ≠ 10 → f ≠ 11 → f ≠ 12 → D' f i j = D f i j) : YR μ w S P R D' := fun f i j hr => by
  rw [e f i j (fun z => by subst z; exact hr) (fun z => by subst z; exact hr) (fun z => by subst z; exact hr) (fun z => by subst z; exact hr)]
  exact h f i j hr
theorem XN.congr {μ : Mu} {w mg : Nat} {T : PT} {D D' : DT} (h : XN μ w T D mg) (hB : DB T D') (e : ∀ f i j, f ≠ 8 → f ≠ 11 → D' f i j = D f i j) (e8 : ∀ b s, b < T 0 0 → s < 60 → (D' 8 b s ≠ 0 ↔ D 8 b s ≠ 0)) : XN μ w T D' mg := by
  obtain ⟨h1, h2, h3, h4, h5, h6, h7⟩ := h
  refine ⟨h1, hB, ?_, h4, fun b hb => (h5 b hb).congr (fun s hs => (e8 b s hb hs).symm), fun r hr => (h6 r hr).congr (fun s hs => by rw [e 10 r s (by decide) (by decide)]), ?_⟩
  · rw [e 1 0 0 (by decide) (by decide)]
    exact h3.congr (fun f i j a b c d => e f i j a c)
  · obtain ⟨p1, p2, p3, p4, p5⟩ := h7
    refine ⟨p1, p2, p3, p4, fun r hr => ?_⟩
    rw [e 12 r 0 (by decide) (by decide), e 12 r 1 (by decide) (by decide)]
    exact p5 r hr
theorem PM.fr {μ μ' : Mu} {T : PT} {D : DT} {own : Nat → Nat → Prop} (h : PM μ T D) (f : Fr own μ μ') (hr : mR μ' = mR μ) (ho : ∀ κ i, (50 ≤ κ ∧ κ ≤ 52) → ¬ own κ i) : PM μ' T D := by
  have hpx : px μ' (hd 40 0) 11 = px μ (hd 40 0) 11 := by unfold px; rw [hr]
  obtain ⟨p1, p2, p3, p4, p5⟩ := h
  unfold PM
  rw [hpx, f.I (by decide) (ho _ _ (by omega)), f.I (by decide) (ho _ _ (by omega)), f.I (by decide) (ho _ _ (by omega)), f.I (by decide) (ho _ _ (by omega))]
  refine ⟨p1, p2, p3, p4, fun r hr' => ?_⟩
  rw [f.I (by decide) (ho _ _ (by omega)), f.I (by decide) (ho _ _ (by omega))]
  exact p5 r hr'
theorem XN.fr {μ μ' : Mu} {w mg : Nat} {T : PT} {D : DT} {own : Nat → Nat → Prop} (h : XN μ w T D mg) (f : Fr own μ μ') (hr : mR μ' = mR μ) (ho : ∀ κ i, ((50 ≤ κ ∧ κ ≤ 52) ∨ (65 ≤ κ ∧ κ ≤ 78 ∧ i = w)) → ¬ own κ i) : XN μ' w T D mg := by
  obtain ⟨h1, h2, h3, h4, h5, h6, h7⟩ := h
  refine ⟨h1, h2, h3.fr (fun f' i j hr' => ?_), ?_, fun b hb => ?_, fun r hr => ?_, h7.fr f hr (fun κ i z => ho κ i (Or.inl z))⟩
  · obtain ⟨κ, e, hk⟩ := mlc_k hr'
    rw [e]
    exact f.I (by omega) (ho _ _ (by omega))
  · rw [f.I (by decide) (ho _ _ (by omega))]; exact h4
  · rw [f.L (by decide) (ho _ _ (by omega))]; exact h5 b hb
  · rw [f.L (by decide) (ho _ _ (by omega))]; exact h6 r hr
theorem YE.fr {μ μ' : Mu} {w : Nat} {Es : List Ent} {own : Nat → Nat → Prop} (h : YE μ w Es) (f : Fr own μ μ') (hu : mI μ' (hd 65 w) 18 = mI μ (hd 65 w) 18) (ho : ∀ κ, (79 ≤ κ ∧ κ ≤ 81) → ¬ own κ w) : YE μ' w Es := by
  refine ⟨hu.trans h.1, fun k e he => ?_⟩
  rw [f.I (by decide) (ho _ (by omega)), f.I (by decide) (ho _ (by omega)), f.L (by decide) (ho _ (by omega))]
  exact h.2 k e he
theorem XN.set {μ : Mu} {w mg : Nat} {T : PT} {D : DT} (h : XN μ w T D mg) {f i j v : Nat} (hf : f ≠ 1) (hr : mrg 60 5 8 f i j) (hB : DB T (ud D f i j v)) : XN (setI μ (mlc w f i j).1 (mlc w f i j).2 (en f v)) w T (ud D f i j v) mg := by
  obtain ⟨h1, h2, h3, h4, h5, h6, h7⟩ := h
  obtain ⟨κ, eκ, hk⟩ := mlc_k (w := w) hr
  have f8 : f ≠ 8 := fun z => by subst z; exact hr
  have f10 : f ≠ 10 := fun z => by subst z; exact hr
  have f12 : f ≠ 12 := fun z => by subst z; exact hr
  have e1 : ud D f i j v 1 0 0 = D 1 0 0 := ud_f hf.symm
  refine ⟨h1, hB, ?_, ?_, fun b hb => ?_, fun r hr => ?_, ?_⟩
  · rw [e1]; exact h3.set h2.1.2.2.2.2.1 h2.1.1 h2.1.2.2.1 hr
  · rw [mI_set, if_neg]
    · exact h4
    · rw [eκ]
      rintro ⟨z1, z2⟩
      have := (hd_inj (by decide) (by omega)).mp z1
      omega
  · exact (h5 b hb).congr (fun s hs => by rw [ud_f f8.symm])
  · exact (h6 r hr).congr (fun s hs => by rw [ud_f f10.symm])
  · have hne : ∀ κ' i' k, (50 ≤ κ' ∧ κ' ≤ 52) → mI (setI μ (mlc w f i j).1 (mlc w f i j).2 (en f v)) (hd κ' i') k = mI μ (hd κ' i') k := fun κ' i' k z => by
      rw [mI_set, if_neg]
      rw [eκ]
      rintro ⟨z1, z2⟩
      have := (hd_inj (by omega) (by omega)).mp z1
      omega
    obtain ⟨p1, p2, p3, p4, p5⟩ := h7
    have e2 : px (setI μ (mlc w f i j).1 (mlc w f i j).2 (en f v)) (hd 40 0) 11 = px μ (hd 40 0) 11 := rfl
    unfold PM
    rw [e2, hne _ _ _ (by omega), hne _ _ _ (by omega), hne _ _ _ (by omega), hne _ _ _ (by omega)]
    refine ⟨p1, p2, p3, p4, fun r hr => ?_⟩
    rw [hne _ _ _ (by omega), hne _ _ _ (by omega), ud_f f12.symm, ud_f f12.symm]
    exact p5 r hr
theorem ud_same {D : DT} {f i j v : Nat} (h : D f i j = v) : ud D f i j v = D := by
  funext f' i' j'
  unfold ud
  split
  · rename_i z
    obtain ⟨rfl, rfl, rfl⟩ := z
    exact h.symm
  · rfl
theorem YR.grow {μ : Mu} {w S P R : Nat} {D : DT} {x y : Nat → Nat} (h : YR μ w S P R D) (h4 : ∀ j, j < 6 → mI μ (hd (66 + j) w) S = nI (x j)) (h5 : ∀ j, j < 5 → mI μ (hd 72 w) (5 * S + j) = nI (y j)) : YR μ w (S + 1) P R (addS D S x y) := by
  intro f i j hr
  by_cases hi : i = S ∧ (f = 4 ∨ f = 5)
  · obtain ⟨rfl, rfl | rfl⟩ := hi
    · rw [addS_4]; exact h4 j hr.2
    · rw [addS_5]; exact h5 j hr.2
  · have hr' : mrg S P R f i j := by
      rcases f with _|_|_|_|_|_|_|_|_|_|f <;> first | (simp only [mrg] at hr; done) | (simp only [mrg] at hr ⊢; omega)
    have e : addS D S x y f i j = D f i j := by
      unfold addS
      rw [if_neg (fun z => hi ⟨z.2, Or.inl z.1⟩), if_neg (fun z => hi ⟨z.2, Or.inr z.1⟩)]
    rw [e]; exact h f i j hr'
theorem YR.new {μ : Mu} {w S P R κ k : Nat} {x : Int32} {D : DT} (h : YR μ w S P R D) (hk : (66 ≤ κ ∧ κ ≤ 71) ∧ S ≤ k) : YR (setI μ (hd κ w) k x) w S P R D := h.fr (fun f i j hr => by
  rw [mI_set, if_neg]
  rintro ⟨z1, z2⟩
  rcases f with _|_|_|_|_|_|_|_|_|_|f <;> simp only [mrg] at hr <;> simp only [mlc, hd] at z1 z2 <;> omega)
theorem YR.newC {μ : Mu} {w S P R a sp n : Nat} {D : DT} (h : YR μ w S P R D) : YR (cpI μ a (hd 72 w) sp (5 * S) n) w S P R D := h.fr (fun f i j hr => by
  rw [mI_cp]
  split
  · rename_i z1
    rcases f with _|_|_|_|_|_|_|_|_|_|f <;> simp only [mrg] at hr <;> simp only [mlc, hd] at z1 ⊢ <;> first | omega | skip
    rw [if_neg (by omega)]
  · rfl)
theorem rc_at {μ : Mu} {a0 a sp dp j n : Nat} (h : j < n) : mI (cpI μ a0 a sp dp n) a (dp + j) = mI μ a0 (sp + j) := by
  rw [mI_cp, if_pos rfl, if_pos (by omega), show dp + j - dp = j by omega]
theorem merged_mk {T : PT} {D : DT} {b n v m h : Nat} : mergedN (mkD T D b n v m h) = mergedN D + bN (h = 2) := by
  unfold mergedN mkD
  have e1 : onlyD (addS (ud (ud D 1 0 0 (D 1 0 0 + 1)) 6 b b (D 6 b b + 1)) (D 1 0 0) (newS b n v m (D 0 0 0) h) (fun j => if j = b then D 6 b b + 1 else D 6 b j)) b n (D 1 0 0) (T 0 0) 1 0 0 = D 1 0 0 + 1 := by rw [onlyD_f (by decide), addS_f (by decide) (by decide), ud_f (by decide), ud_self]
  rw [e1, sumN]
  congr 1
  · exact sumN_congr _ (fun s hs => by rw [onlyD_f (by decide), addS_i (by omega), ud_f (by decide), ud_f (by decide)])
  · rw [onlyD_f (by decide), addS_4]; rfl
section MSC
variable {d rc rs w mg : Nat} {Q : Option Value → Mu → Prop} {μ : Mu} {T : PT} {D : DT}
theorem c_MS_make {b n v m h : Nat} (hC : XN μ w T D mg) (hD : 2 ≤ d) (hS : St μ) (h60 : D 1 0 0 < 60) (hb : b < T 0 0) (hn : n < T 1 0) (hv : v ≤ 9999) (hm : m < 65536) (hh : h ≤ 2)
    (hQ : ∀ μ', Fr (OwM w) μ μ' → mR μ' = mR μ → mI μ' (hd 65 w) 18 = mI μ (hd 65 w) 18 → (∀ κ, 79 ≤ κ → κ ≤ 81 → ∀ k, mI μ' (hd κ w) k = mI μ (hd κ w) k ∧ mL μ' (hd κ w) k = mL μ (hd κ w) k) → St μ' → XN μ' w T (mkD T D b n v m h) (mg + bN (h = 2)) → Q (some (.int (nI (D 1 0 0)))) μ') : Cal K_MS_make d rc rs [.ref (hd 65 w), .int (nI b), .int (nI n), .int (nI v), .int (nI m), .int (nI h)] μ Q := by
  have hw := hC.w2; have hP := hC.P5; have hN := hC.N6; have hR := hC.R8
  refine e_MS_make (g_MS_make_0 (by omega) hw hS ?_)
  rw [hC.cnt, I5, nI_mul, nI_mul, nI_add, nI_clamp (by omega), nI_clamp (by omega), nI_clamp (by omega), nI_clamp (by omega), nI_clamp (by omega), I1, nI_add]
  have v1 : vp_in (nI (5 * b + b)) 25 := vp_in_nI (by omega) (by decide)
  have v2 : vp_in (nI (D 1 0 0)) 60 := vp_in_nI (by omega) (by decide)
  refine ⟨v1, v1, fun μ3 e3 => ⟨v2, v2, v2, v2, fun μ8 e8 => ⟨v2, v2, ⟨nI_pos (by omega), nI_pos (by omega), by decide, by omega, by omega⟩, fun μ12 e12 => ?_⟩⟩⟩
  have x1 : YR (setI μ (hd 65 w) 1 (nI (D 1 0 0 + 1))) w (D 1 0 0) (T 0 0) (T 2 0) (ud D 1 0 0 (D 1 0 0 + 1)) := hC.2.2.1.set (f := 1) (i := 0) (j := 0) (by omega) hP hR ⟨rfl, rfl⟩
  have x2 : YR (setI (setI μ (hd 65 w) 1 (nI (D 1 0 0 + 1))) (hd 73 w) (5 * b + b) (nI (D 6 b b + 1))) w (D 1 0 0) (T 0 0) (T 2 0) (ud (ud D 1 0 0 (D 1 0 0 + 1)) 6 b b (D 6 b b + 1)) := x1.set (f := 6) (i := b) (j := b) (by omega) hP hR ⟨by omega, by omega⟩
  have e3' : μ3 = setI (setI μ (hd 65 w) 1 (nI (D 1 0 0 + 1))) (hd 73 w) (5 * b + b) (nI (D 6 b b + 1)) := by
    rw [e3, mI_set, if_neg (fun z => hd_ne (by decide) (by decide) (by decide) z.1), hC.num hb (by omega), nI_add]
  rw [← e3'] at x2
  have e8' : mI μ8 (hd 65 w) 0 = nI (D 0 0 0) := by
    rw [e8, e3']
    simp (disch := decide) only [rd_ne, rd_k]
    exact hC.day
  rw [e8'] at e12
  have x3 : YR μ12 w (D 1 0 0) (T 0 0) (T 2 0) (ud (ud D 1 0 0 (D 1 0 0 + 1)) 6 b b (D 6 b b + 1)) := by
    rw [e12, e8]
    exact ((((((x2.new ⟨by decide, Nat.le_refl _⟩).new ⟨by decide, Nat.le_refl _⟩).new ⟨by decide, Nat.le_refl _⟩).new ⟨by decide, Nat.le_refl _⟩).new ⟨by decide, Nat.le_refl _⟩).new ⟨by decide, Nat.le_refl _⟩).newC
  have x4 : YR μ12 w (D 1 0 0 + 1) (T 0 0) (T 2 0) (addS (ud (ud D 1 0 0 (D 1 0 0 + 1)) 6 b b (D 6 b b + 1)) (D 1 0 0) (newS b n v m (D 0 0 0) h) (fun j => if j = b then D 6 b b + 1 else D 6 b j)) := by
    refine x3.grow (fun j hj => ?_) (fun j hj => ?_)
    · rw [e12, e8]
      rcases (by omega : j = 0 ∨ j = 1 ∨ j = 2 ∨ j = 3 ∨ j = 4 ∨ j = 5) with rfl | rfl | rfl | rfl | rfl | rfl <;>
        simp (disch := decide) only [rd_eq, rd_k, rd_ne, rc_ne, newS]
    · have hj6 := hC.num hb hj
      rw [e12, rc_at hj, e8, e3']
      simp (disch := decide) only [rd_ne]
      by_cases hjb : j = b
      · rw [if_pos hjb, hjb, rd_eq]
      · rw [if_neg hjb, rd_k (by omega), rd_ne (by decide) (by decide) (by decide)]; exact hj6
  have fr : Fr (OwM w) μ μ12 := by
    rw [e12, e8, e3']
    exact ((((((((Fr.rf.setI (by decide) (by unfold OwM; omega)).setI (by decide) (by unfold OwM; omega)).setI (by decide) (by unfold OwM; omega)).setI (by decide) (by unfold OwM; omega)).setI (by decide) (by unfold OwM; omega)).setI (by decide) (by unfold OwM; omega)).setI (by decide) (by unfold OwM; omega)).setI (by decide) (by unfold OwM; omega)).cpI (by decide) (by unfold OwM; omega)
  have mr : mR μ12 = mR μ := by rw [e12, e8, e3']; rfl
  have hSt : St μ12 := hS.of_eq fr.1 mr
  have u18 : mI μ12 (hd 65 w) 18 = mI μ (hd 65 w) 18 := by
    rw [e12, e8, e3']
    simp (disch := decide) only [rd_ne, rd_k, rc_ne]
  have uE : ∀ κ, 79 ≤ κ → κ ≤ 81 → ∀ k, mI μ12 (hd κ w) k = mI μ (hd κ w) k ∧ mL μ12 (hd κ w) k = mL μ (hd κ w) k := fun κ h1 h2 k => by
    refine ⟨?_, by rw [e12, e8, e3']; rfl⟩
    rw [e12, e8, e3']
    rcases (by omega : κ = 79 ∨ κ = 80 ∨ κ = 81) with rfl | rfl | rfl <;> simp (disch := decide) only [rd_ne, rc_ne]
  have uL : ∀ κ k, mL μ12 (hd κ w) k = mL μ (hd κ w) k := fun κ k => by rw [e12, e8, e3']; rfl
  have hC12 : XN μ12 w T (addS (ud (ud D 1 0 0 (D 1 0 0 + 1)) 6 b b (D 6 b b + 1)) (D 1 0 0) (newS b n v m (D 0 0 0) h) (fun j => if j = b then D 6 b b + 1 else D 6 b j)) mg := by
    refine ⟨hw, hC.2.1.mk1 h60 hb hn hv hm hh, x4, ?_, fun c hc => ?_, fun r hr => ?_, ?_⟩
    · rw [e12, e8, e3']
      simp (disch := decide) only [rd_ne, rd_k, rc_ne]
      exact hC.mer
    · rw [uL]
      exact (hC.wait hc).congr (fun s hs => by rw [addS_f (by decide) (by decide), ud_f (by decide), ud_f (by decide)])
    · rw [uL]
      exact (hC.went hr).congr (fun s hs => by rw [addS_f (by decide) (by decide), ud_f (by decide), ud_f (by decide)])
    · exact PM.fr hC.2.2.2.2.2.2 fr mr (by unfold OwM; omega)
  have hB := hC12.2.1
  have hQ' : ∀ μ', Fr (OwM w) μ μ' → mR μ' = mR μ → mI μ' (hd 65 w) 18 = mI μ (hd 65 w) 18 → (∀ κ, 79 ≤ κ → κ ≤ 81 → ∀ k, mI μ' (hd κ w) k = mI μ (hd κ w) k ∧ mL μ' (hd κ w) k = mL μ (hd κ w) k) → St μ' → XN μ' w T (onlyD (addS (ud (ud D 1 0 0 (D 1 0 0 + 1)) 6 b b (D 6 b b + 1)) (D 1 0 0) (newS b n v m (D 0 0 0) h) (fun j => if j = b then D 6 b b + 1 else D 6 b j)) b n (D 1 0 0) (T 0 0)) (mg + bN (h = 2)) → Q (some (.int (nI (D 1 0 0)))) μ' := hQ
  have hE1 : addS (ud (ud D 1 0 0 (D 1 0 0 + 1)) 6 b b (D 6 b b + 1)) (D 1 0 0) (newS b n v m (D 0 0 0) h) (fun j => if j = b then D 6 b b + 1 else D 6 b j) 1 0 0 = D 1 0 0 + 1 := by rw [addS_f (by decide) (by decide), ud_f (by decide), ud_self]
  have hE4 : addS (ud (ud D 1 0 0 (D 1 0 0 + 1)) 6 b b (D 6 b b + 1)) (D 1 0 0) (newS b n v m (D 0 0 0) h) (fun j => if j = b then D 6 b b + 1 else D 6 b j) 4 (D 1 0 0) 0 = b := by rw [addS_4]; rfl
  have hE5 : addS (ud (ud D 1 0 0 (D 1 0 0 + 1)) 6 b b (D 6 b b + 1)) (D 1 0 0) (newS b n v m (D 0 0 0) h) (fun j => if j = b then D 6 b b + 1 else D 6 b j) 4 (D 1 0 0) 1 = n := by rw [addS_4]; rfl
  clear x1 x2 x3 x4 e3 e3' e8 e8' e12 hQ uL
  generalize addS (ud (ud D 1 0 0 (D 1 0 0 + 1)) 6 b b (D 6 b b + 1)) (D 1 0 0) (newS b n v m (D 0 0 0) h) (fun j => if j = b then D 6 b b + 1 else D 6 b j) = E at hC12 hB hQ' hE1 hE4 hE5
  have key : ∀ k, k ≤ 5 → ∀ μ', Fr (OwM w) μ μ' → mR μ' = mR μ → mI μ' (hd 65 w) 18 = mI μ (hd 65 w) 18 → (∀ κ, 79 ≤ κ → κ ≤ 81 → ∀ k, mI μ' (hd κ w) k = mI μ (hd κ w) k ∧ mL μ' (hd κ w) k = mL μ (hd κ w) k) → St μ' → XN μ' w T (onlyD E b n (D 1 0 0) (min k (T 0 0))) mg → Wx K_MS_make d rc rs (fun r μ' => St μ' ∧ Q r μ') 105 [(0, .ref (hd 65 w)), (1, .int (nI b)), (2, .int (nI n)), (5, .int (nI h)), (6, .int (nI (D 1 0 0))), (7, .int (nI k))] [] μ' := by
    refine up_loop _ (fun μ' f1 f2 fu fe f3 f4 => ?_) (fun k hk ih μ' f1 f2 fu fe f3 f4 => ?_)
    · rw [show min 5 (T 0 0) = T 0 0 by omega] at f4
      have f4' := f4
      obtain ⟨g1, g2, g3, g4, g5, g6, g7⟩ := f4
      have last : ∀ x, x = bN (h = 2) → St (setI μ' (hd 65 w) 3 (nI (mg + x))) ∧ Q (some (.int (nI (D 1 0 0)))) (setI μ' (hd 65 w) 3 (nI (mg + x))) := fun x hx => by
        have hSt' : St (setI μ' (hd 65 w) 3 (nI (mg + x))) := f3
        have fr' : Fr (OwM w) μ' (setI μ' (hd 65 w) 3 (nI (mg + x))) := Fr.rf.setI (by decide) (by unfold OwM; omega)
        refine ⟨hSt', hQ' _ (f1.trans fr') f2 (by rw [rd_k (by decide)]; exact fu) (fun κ h1 h2 k => ⟨by rw [rd_ne (by decide) (by omega) (by omega)]; exact (fe κ h1 h2 k).1, (fe κ h1 h2 k).2⟩) hSt' ?_⟩
        refine ⟨g1, g2, g3.fr (fun f i j hr => ?_), by rw [rd_eq, hx], g5, g6, PM.fr g7 fr' rfl (by unfold OwM; omega)⟩
        obtain ⟨κ, e, hk⟩ := mlc_k (w := w) hr
        rw [e, mI_set, if_neg]
        rintro ⟨z1, z2⟩
        have := (hd_inj (by omega) (by decide)).mp z1
        omega
      refine g_MS_make_105 (by omega) hw f3 ⟨fun _ => ?_, fun h => absurd (by decide) h⟩
      rw [f4'.mer, I0, I1, I2, nI_eq (by omega) (by decide), nI_add, nI_add]
      exact ⟨fun z => last 1 (bN_t z).symm, fun z => last 0 (bN_f z).symm⟩
    · refine g_MS_make_105 (by omega) hw f3 ⟨fun h => absurd h (nI_ge hk (by decide)), fun _ => c_MS_spot (by omega) f3 hw ⟨_, rfl, ?_⟩⟩
      rw [nI_eq (by omega) (by omega), nI_clamp (by omega)]
      have hvp : vp_in (nI (30 * b + (5 * n + k))) 150 := vp_in_nI (by omega) (by decide)
      have on : ∀ (x : Int32) (v : Nat), x = oI v → v = (if k = b then D 1 0 0 + 1 else 0) → Wx K_MS_make d rc rs (fun r μ' => St μ' ∧ Q r μ') 105 [(0, .ref (hd 65 w)), (1, .int (nI b)), (2, .int (nI n)), (5, .int (nI h)), (6, .int (nI (D 1 0 0))), (7, .int (nI k + 1))] [] (setI μ' (hd 74 w) (30 * b + (5 * n + k)) x) := fun x v hx hv => by
        rw [nI_1]
        have hSt' : St (setI μ' (hd 74 w) (30 * b + (5 * n + k)) x) := f3
        have hB2 : DB T (ud (onlyD E b n (D 1 0 0) (min k (T 0 0))) 7 b (5 * n + k) v) := by
          by_cases hkP : k < T 0 0
          · have := hB.only (n := n) hb (by omega) (by omega) hE4 hE5 (k + 1) hkP
            rw [onlyD, ← hv] at this
            rw [show min k (T 0 0) = k by omega]; exact this
          · have hv0 : v = 0 := by rw [hv, if_neg (by omega)]
            rw [hv0]
            exact f4.2.1.ud7 (Nat.zero_le _) (fun x => absurd rfl x)
        have g1 := f4.set (f := 7) (i := b) (j := 5 * n + k) (v := v) (by decide) ⟨by omega, by omega⟩ hB2
        refine ih _ (f1.setI (by decide) (by unfold OwM; omega)) f2 (by rw [rd_ne (by decide) (by decide) (by decide)]; exact fu) (fun κ h1 h2 k => ⟨by rw [rd_ne (by decide) (by omega) (by omega)]; exact (fe κ h1 h2 k).1, (fe κ h1 h2 k).2⟩) hSt' ?_
        by_cases hkP : k < T 0 0
        · rw [show min (k + 1) (T 0 0) = k + 1 by omega, onlyD, ← hv]
          rw [show min k (T 0 0) = k by omega] at g1
          rw [hx]; exact g1
        · have hv0 : v = 0 := by rw [hv, if_neg (by omega)]
          rw [show min (k + 1) (T 0 0) = min k (T 0 0) by omega]
          have hz := f4.2.1.shZ (n := n) (p := k) hb (by omega) (by omega) hk
          rw [ud_same (by rw [hz, hv0])] at g1
          rw [hx]; exact g1
      exact ⟨fun z => ⟨hvp, on _ (D 1 0 0 + 1) (oI_s _).symm (by rw [if_pos z])⟩, fun z => ⟨hvp, on _ 0 rfl (by rw [if_neg z])⟩⟩
  exact key 0 (Nat.zero_le _) μ12 fr mr u18 uE hSt (by rw [show min 0 (T 0 0) = 0 by omega]; exact hC12)
end MSC
