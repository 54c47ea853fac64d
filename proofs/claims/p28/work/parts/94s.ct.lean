/-! days; how many; what is counted -/
section SS
variable {d rc rs : Nat} {Q : Option Value → Mu → Prop} {μ μ' : Mu} {T : PT} {D D' E : DT} {C Ct : Nat → List Op} {OO : Nat → Nat → Nat} {c c' c'' : Nat} {Λ : List Ld} {own : Nat → Nat → Prop}
theorem pot_dayle {a b : Nat} (hab : b * 9 ≤ a) (hI : Inv T D) (hW : OW T C Ct) : pot a b T (dayD T C Ct D) ≤ pot a b T D := by
  have hIO := hI.orA hW (T 6 0) (Nat.le_refl _)
  have h1 := pot_day (a := a) (b := b) hIO
  have h2 := pot_orF (D := D) hab hI hW (T 6 0) 0 (by omega)
  rw [Nat.zero_add] at h2
  rw [day_pot hI]
  have h3 : pot a b T (ordF T C Ct D 0) = pot a b T D := rfl
  omega
theorem Iv.days (hI : Inv T D) (h2 : Iv T D) (hW : OW T C Ct) : ∀ n, D 0 0 0 + n < 2 ^ 20 → Iv T (daysD T C Ct D n)
  | 0, _ => h2
  | n + 1, h => (Iv.days hI h2 hW n (by omega)).day (hI.days hW n (by omega)) hW
theorem pot_days {a b : Nat} (hab : b * 9 ≤ a) (hI : Inv T D) (hW : OW T C Ct) : ∀ n k, D 0 0 0 + (k + n) < 2 ^ 20 → pot a b T (daysD T C Ct D (k + n)) ≤ pot a b T (daysD T C Ct D k)
  | 0, _, _ => Nat.le_refl _
  | n + 1, k, h => by
    have ih := pot_days hab hI hW n k (by omega)
    have := pot_dayle (C := C) (Ct := Ct) hab (hI.days hW (k + n) (by omega)) hW
    rw [show k + (n + 1) = (k + n) + 1 by omega, daysD]
    omega
set_option maxRecDepth 100000 in
theorem c_SI_passD {n : Nat} (hA : OAll T C Ct OO) (hR : SR μ T D OO c) (hL : LR μ Λ c) (hP : LPd T D Λ) (hI : Inv T D) (h2 : Iv T D) (hdn : D 0 0 0 + n < 2 ^ 20) (hD : 8 ≤ d) (hS : St μ)
    (hc : n * (18 * T 6 0 + 601) + pot 11 1 T D ≤ rc + pot 11 1 T (daysD T C Ct D n)) (hs : n * (630 * T 6 0 + 19501) + pot 4880 481 T D ≤ rs + pot 4880 481 T (daysD T C Ct D n))
    (hQ : ∀ μ' c' Λ', c ≤ c' → FrS (OwH c c') μ μ' → St μ' → SR μ' T (daysD T C Ct D n) OO c' → LR μ' Λ' c' → LPd T (daysD T C Ct D n) Λ' → Q (some (.ref (hd 100 0))) μ') : Cal K_SI_pass_ d rc rs [.ref (hd 100 0), .int (nI n)] μ Q := by
  have hW := hA.1
  refine e_SI_pass_ (r_SI_pass__0 (by omega) ?_)
  have loop : ∀ k, k ≤ n → ∀ μ' c' Λ' rc' rs', c ≤ c' → FrS (OwH c c') μ μ' → St μ' → SR μ' T (daysD T C Ct D k) OO c' → LR μ' Λ' c' → LPd T (daysD T C Ct D k) Λ' →
      (n - k) * (18 * T 6 0 + 601) + pot 11 1 T (daysD T C Ct D k) ≤ rc' + pot 11 1 T (daysD T C Ct D n) → (n - k) * (630 * T 6 0 + 19501) + pot 4880 481 T (daysD T C Ct D k) ≤ rs' + pot 4880 481 T (daysD T C Ct D n) →
      Wx K_SI_pass_ d rc' rs' (fun r μ' => St μ' ∧ Q r μ') 2 [(0, .ref (hd 100 0)), (1, .int (nI n)), (2, .int (nI k))] [] μ' := by
    refine up_loop _ (fun μ' c' Λ' rc' rs' h1 g S R L P b1 b2 => ?_) (fun k hk ih μ' c' Λ' rc' rs' h1 g S R L P b1 b2 => ?_)
    · exact r_SI_pass__2 (by omega) ⟨fun _ => ⟨S, hQ μ' c' Λ' h1 g S R L P⟩, fun h => absurd (Int32.le_refl _) h⟩
    · have hIk := hI.days hW k (by omega)
      have h2k := Iv.days hI h2 hW k (by omega)
      have p1 := pot_days (C := C) (Ct := Ct) (a := 11) (b := 1) (by decide) hI hW (n - (k + 1)) (k + 1) (by omega)
      have p2 := pot_days (C := C) (Ct := Ct) (a := 4880) (b := 481) (by decide) hI hW (n - (k + 1)) (k + 1) (by omega)
      rw [show k + 1 + (n - (k + 1)) = n by omega, daysD] at p1 p2
      have q1 := pot_dayle (C := C) (Ct := Ct) (a := 11) (b := 1) (by decide) hIk hW
      have q2 := pot_dayle (C := C) (Ct := Ct) (a := 4880) (b := 481) (by decide) hIk hW
      obtain ⟨m, hm⟩ : ∃ m, n - k = m + 1 := ⟨n - k - 1, by omega⟩
      have hm' : n - (k + 1) = m := by omega
      rw [hm, Nat.succ_mul] at b1 b2
      rw [hm', daysD] at ih
      obtain ⟨A1, hA1⟩ : ∃ A, m * (18 * T 6 0 + 601) = A := ⟨_, rfl⟩
      obtain ⟨A2, hA2⟩ : ∃ A, m * (630 * T 6 0 + 19501) = A := ⟨_, rfl⟩
      rw [hA1] at b1
      rw [hA2] at b2
      simp only [hA1, hA2] at ih
      refine r_SI_pass__2 (by omega) ⟨fun h => absurd ((nI_leI (by omega) (by omega)).mp h) (by omega), fun _ => ⟨18 * T 6 0 + 601 + pot 11 1 T (daysD T C Ct D k) - pot 11 1 T (dayD T C Ct (daysD T C Ct D k)), 630 * T 6 0 + 19501 + pot 4880 481 T (daysD T C Ct D k) - pot 4880 481 T (dayD T C Ct (daysD T C Ct D k)), ⟨by omega, by omega⟩, R.1.1, c_SI_pass hA R L P hIk h2k (by omega) S (by omega) (by omega) (fun μ2 c2 Λ2 y1 y2 y3 y4 y5 y6 => ⟨rfl, ?_⟩)⟩⟩
      rw [nI_s]
      exact ih μ2 c2 Λ2 _ _ (by omega) ((g.mono (fun κ i z => z.w (Nat.le_refl _) y1)).trans (y2.mono (fun κ i z => z.w h1 (Nat.le_refl _)))) y3 y4 y5 y6 (by omega) (by omega)
  rw [I0]
  exact loop 0 (Nat.zero_le _) μ c Λ rc rs (Nat.le_refl _) FrS.rf hS hR hL hP (by rw [Nat.sub_zero]; exact hc) (by rw [Nat.sub_zero]; exact hs)
/-- how many of a parish's sheets -/
theorem cP_min {o v : Nat} : ∀ n, sumN (fun k => bN (cP D o (k + 1) ≤ v ∧ D 4 k 0 = o)) n = min v (cP D o n)
  | 0 => by show 0 = min v 0; omega
  | n + 1 => by
    have ih := cP_min (o := o) (v := v) n
    rw [sumN, ih]
    have e : cP D o (n + 1) = cP D o n + bN (D 4 n 0 = o) := rfl
    by_cases z : D 4 n 0 = o
    · rw [bN_t z] at e
      by_cases y : cP D o (n + 1) ≤ v
      · rw [bN_t ⟨y, z⟩]; omega
      · rw [bN_f (fun w => y w.1)]; omega
    · rw [bN_f z] at e
      rw [bN_f (fun w => z w.2)]; omega
theorem c_SI_of {κ i p : Nat} {P : Nat → Prop} (hR : SR μ T D OO c) (hI : Inv T D) (hκ : κ < 256) (hs0 : mS μ (hd κ i) = (5, 60)) (hw : ∀ k, k < 60 → gI μ (hd κ i) k = bI (P k)) (hp : p < T 0 0) (hD : 1 ≤ d) (hS : St μ)
    (hQ : Q (some (.int (nI (sumN (fun k => bN (P k ∧ D 4 k 0 = p)) (D 1 0 0))))) μ) : Cal K_SI_of d rc rs [.ref (hd 100 0), .ref (hd κ i), .int (nI p)] μ Q := by
  have hB := hI.1
  have hP5 := hB.1.1
  have h60 := hB.1.2.2.2.2.1
  refine e_SI_of (r_SI_of_0 hD ?_)
  have loop : ∀ k, k ≤ D 1 0 0 → Wx K_SI_of d rc rs (fun r μ' => St μ' ∧ Q r μ') 5 [(0, .ref (hd 100 0)), (1, .ref (hd κ i)), (2, .int (nI p)), (3, .int (nI (sumN (fun k => bN (P k ∧ D 4 k 0 = p)) k))), (4, .int (nI k))] [] μ := by
    have x6 := hR.2.1
    refine up_loop _ ?_ (fun k hk ih => ?_)
    · exact r_SI_of_5 hD ⟨hR.1.1, _, x6.1, _, x6.2.1, fun _ => ⟨hS, hQ⟩, fun h => absurd (Int32.le_refl _) h⟩
    · rw [sumN] at ih
      have h4 := (hB.2.1 k hk).1
      refine r_SI_of_5 hD ⟨hR.1.1, _, x6.1, _, x6.2.1, fun h => absurd ((nI_leI (by omega) (by omega)).mp h) (by omega), fun _ => ⟨60, ⟨hs0, vI (by omega) (by decide)⟩, ?_⟩⟩
      rw [nI_clamp (show k < 2 ^ 31 by omega), hw k (by omega), nI_s, nI_s, show ∀ x : Int32, x + 0 = x from Int32.add_zero]
      refine bIs (fun h => ?_) (fun h => ⟨hR.1.1, _, x6.1, _, ⟨x6.2.1, vI hk (by omega)⟩, _, (x6.2.2 k hk).1, 6, ⟨(x6.2.2 k hk).2.1, vI (k := 0) (by decide) (by decide)⟩, ?_⟩)
      · rw [bN_f (fun z => h z.1), Nat.add_zero] at ih; exact ih
      · rw [show ((0 : Int32).toNatClampNeg) = 0 from rfl, (x6.2.2 k hk).2.2 0 (by decide)]
        refine ⟨fun e => ?_, fun e => ?_⟩
        · rw [bN_t ⟨h, (nI_eq (by omega) (by omega)).mp e⟩] at ih; exact ih
        · rw [bN_f (fun z => e (by rw [z.2])), Nat.add_zero] at ih; exact ih
  exact loop 0 (Nat.zero_le _)
theorem kn_cnt (hI : Inv T D) {b o : Nat} (hb : b < T 0 0) (ho : o < T 0 0) : sumN (fun k => bN (pKn D b k ∧ D 4 k 0 = o)) (D 1 0 0) = D 6 b o := by
  obtain ⟨hB, hW, ⟨n1, n2, n3, n4⟩, -⟩ := hI
  have hP5 := hB.1.1
  have h3 := n3 b o hb (by omega)
  rw [show D 6 b o = min (D 6 b o) (cP D o (D 1 0 0)) by omega, ← cP_min]
  refine sumN_congr _ (fun k hk => bN_congr ?_)
  have h2 := n2 k hk
  unfold pKn kn
  constructor
  · rintro ⟨⟨_, z⟩, rfl⟩; exact ⟨by omega, rfl⟩
  · rintro ⟨z, rfl⟩; exact ⟨⟨hk, by omega⟩, rfl⟩
theorem ah_cnt (hI : Inv T D) {s o : Nat} (hs : s < D 1 0 0) (ho : o < T 0 0) : sumN (fun k => bN (pAh D s k ∧ D 4 k 0 = o)) (D 1 0 0) = D 5 s o := by
  obtain ⟨hB, hW, ⟨n1, n2, n3, n4⟩, -⟩ := hI
  have hP5 := hB.1.1
  have h1 := n1 s o hs (by omega)
  have h3 : cP D o (s + 1) ≤ cP D o (D 1 0 0) := cPle (by omega)
  rw [show D 5 s o = min (D 5 s o) (cP D o (D 1 0 0)) by omega, ← cP_min]
  refine sumN_congr _ (fun k hk => bN_congr ?_)
  have h2 := n2 k hk
  unfold pAh ah
  constructor
  · rintro ⟨⟨_, z⟩, rfl⟩; exact ⟨by omega, rfl⟩
  · rintro ⟨z, rfl⟩; exact ⟨⟨hk, by omega⟩, rfl⟩
theorem gs130 {M : Mu} {i k f : Nat} {x : Int32} : gI (setI M (hd 130 i) k x) (hd 100 0) f = gI M (hd 100 0) f := by
  rw [gI_h (by decide) (by decide), rd_ne (by decide) (by decide) (by decide), ← gI_h (by decide) (by decide)]
theorem gm130 {M : Mu} {i f : Nat} {sh : Nat × Nat} : gI (mkA M (hd 130 i) sh) (hd 100 0) f = gI M (hd 100 0) f := by
  rw [gI_h (by decide) (by decide), I_mkn (by decide) (by decide) (by decide), ← gI_h (by decide) (by decide)]
noncomputable def ctV (T : PT) (D : DT) (k : Nat) : Nat := if k = 12 then 0 else tallyN T D k
theorem under_N (hP : LPd T D Λ) : sumN (fun j => ((Λ.map (fun e => e.2.2.2.length)).getD j 0)) Λ.length = uwAll T D := by
  have h1 : ∀ l : List Ld, sumN (fun j => ((l.map (fun e => e.2.2.2.length)).getD j 0)) l.length = (l.map (fun e => e.2.2.2.length)).foldr (· + ·) 0 := by
    intro l
    induction l with
    | nil => rfl
    | cons e l ih =>
      rw [List.length_cons, sumN_front]
      show (_ : Nat) + sumN (fun k => ((l.map (fun e => e.2.2.2.length)).getD k 0)) l.length = _
      rw [ih]; rfl
  have h2 : ∀ l : List Ld, (∀ e ∈ l, e.2.1 < T 2 0) → (l.map (fun e => e.2.2.2.length)).foldr (· + ·) 0 = sumN (fun r => cntL l r) (T 2 0) := by
    intro l
    induction l with
    | nil => intro _; exact (sumN_zero _ (fun _ _ => rfl)).symm
    | cons e l ih =>
      intro h
      have e1 : sumN (fun r => cntL (e :: l) r) (T 2 0) = sumN (fun r => cntL l r) (T 2 0) + sumN (fun r => if e.2.1 = r then e.2.2.2.length else 0) (T 2 0) := by
        rw [← sumN_add]; exact sumN_congr _ (fun k _ => rfl)
      rw [e1, sumN_one _ (h e List.mem_cons_self), ← ih (fun x hx => h x (List.mem_cons_of_mem _ hx))]
      show e.2.2.2.length + _ = _
      omega
  rw [h1, h2 Λ (fun e he => (hP.1 e he).1)]
  exact sumN_congr _ (fun r hr => hP.2.2.2 r hr)
end SS
