/-! the model's world begins anew, and is copied -/
section WMA
variable {d rc rs : Nat} {Q : Option Value → Mu → Prop} {μ : Mu} {T : PT} {D : DT}
theorem c_MS_copy {w a b n m : Nat} (hD : 1 ≤ d) (hS : St μ) (hw : w < 2) (ha : mS μ a = (2, n)) (wa : rwN a) (hb : mS μ b = (2, m)) (wb : rwN b) (hn : n ≤ m) (hn2 : n < 2 ^ 31) (hQ : St (cpI μ a b 0 0 n) → Q none (cpI μ a b 0 0 n)) : Cal K_MS_copy d rc rs [.ref (hd 65 w), .ref a, .ref b] μ Q := by
  refine e_MS_copy (n1 := n) (n2 := m) (g_MS_copy_0 hD hw ha wa hb wb hS ?_)
  have hS1 : St (cpI μ a b 0 0 n) := hS
  rw [nI_clamp hn2]
  refine ⟨⟨by decide, by decide, ?_, ?_, ?_⟩, hS1, hQ hS1⟩
  · rw [Int32.lt_iff_toInt_lt, nI_toInt hn2]; show ¬ ((n : Int) < 0); omega
  · show 0 + n ≤ n; omega
  · show 0 + n ≤ m; omega
theorem c_MS_copyL {w a b n m : Nat} (hD : 1 ≤ d) (hS : St μ) (hw : w < 2) (ha : mS μ a = (3, n)) (wa : rwN a) (hb : mS μ b = (3, m)) (wb : rwN b) (hn : n ≤ m) (hn2 : n < 2 ^ 31) (hQ : St (cpL μ a b 0 0 n) → Q none (cpL μ a b 0 0 n)) : Cal K_MS_copy_ d rc rs [.ref (hd 65 w), .ref a, .ref b] μ Q := by
  refine e_MS_copy_ (n1 := n) (n2 := m) (g_MS_copy__0 hD hw ha wa hb wb hS ?_)
  have hS1 : St (cpL μ a b 0 0 n) := hS
  rw [nI_clamp hn2]
  refine ⟨⟨by decide, by decide, ?_, ?_, ?_⟩, hS1, hQ hS1⟩
  · rw [Int32.lt_iff_toInt_lt, nI_toInt hn2]; show ¬ ((n : Int) < 0); omega
  · show 0 + n ≤ n; omega
  · show 0 + n ≤ m; omega
def lnM (κ : Nat) : Nat := if κ ≤ 71 then 60 else if κ = 72 then 300 else if κ = 73 then 25 else if κ = 74 then 150 else if κ = 75 then 5 else if κ ≤ 78 then 8 else 480
theorem lnM_lt (κ : Nat) : lnM κ < 2 ^ 31 := by
  unfold lnM
  repeat' split
  all_goals decide
def isLg (κ : Nat) : Prop := κ = 75 ∨ κ = 78 ∨ κ = 81
/-- the arrays below κ stand in a as they stood in b -/
def Acc (μ : Mu) (a b j : Nat) (μ' : Mu) : Prop := FrO a μ μ' ∧ St μ' ∧ (∀ k, k ≤ 18 → (k ≤ 4 ∨ k = 18) → mI μ' (hd 65 a) k = mI μ (hd 65 b) k) ∧ ∀ κ, 66 ≤ κ → κ < j → ∀ k, k < lnM κ → (¬ isLg κ → mI μ' (hd κ a) k = mI μ (hd κ b) k) ∧ (isLg κ → mL μ' (hd κ a) k = mL μ (hd κ b) k)
theorem mL_mI' {μ : Mu} {κ i k : Nat} {a sp dp n b : Nat} : mL (cpI μ a b sp dp n) (hd κ i) k = mL μ (hd κ i) k := rfl
theorem acc_I {a b κ : Nat} {μ' : Mu} (hD : 1 ≤ d) (ha : a < 2) (hb : b < 2) (hab : b ≠ a) (h1 : 66 ≤ κ) (h2 : κ ≤ 81) (hk : ¬ isLg κ) (sa : mS μ' (hd κ a) = (2, lnM κ)) (sb : mS μ' (hd κ b) = (2, lnM κ)) (h : Acc μ a b κ μ') (hQ : ∀ μ'', Acc μ a b (κ + 1) μ'' → Q none μ'') : Cal K_MS_copy d rc rs [.ref (hd 65 a), .ref (hd κ b), .ref (hd κ a)] μ' Q := by
  have hl : lnM κ < 2 ^ 31 := lnM_lt κ
  obtain ⟨f, s, c, r⟩ := h
  refine c_MS_copy hD s ha sb (rw_hd (by omega) (by omega)) sa (rw_hd (by omega) (by omega)) (Nat.le_refl _) hl (fun hS => hQ _ ⟨⟨f.1.cpI (by omega) ⟨⟨by omega, by omega⟩, rfl⟩, f.2⟩, hS, fun k k1 k2 => ?_, fun κ' g1 g2 k hk' => ?_⟩)
  · rw [rc_ne (by omega) (by omega) (by omega)]; exact c k k1 k2
  · by_cases z : κ' = κ
    · subst z
      exact ⟨fun _ => (rc_in hk').trans (f.1.I (by omega) (by unfold OwM; omega)), fun z => absurd z hk⟩
    · obtain ⟨r1, r2⟩ := r κ' g1 (by omega) k hk'
      exact ⟨fun z1 => (rc_ne (by omega) (by omega) z).trans (r1 z1), fun z1 => r2 z1⟩
theorem acc_L {a b κ : Nat} {μ' : Mu} (hD : 1 ≤ d) (ha : a < 2) (hb : b < 2) (hab : b ≠ a) (h1 : 66 ≤ κ) (h2 : κ ≤ 81) (hk : isLg κ) (sa : mS μ' (hd κ a) = (3, lnM κ)) (sb : mS μ' (hd κ b) = (3, lnM κ)) (h : Acc μ a b κ μ') (hQ : ∀ μ'', Acc μ a b (κ + 1) μ'' → Q none μ'') : Cal K_MS_copy_ d rc rs [.ref (hd 65 a), .ref (hd κ b), .ref (hd κ a)] μ' Q := by
  have hl : lnM κ < 2 ^ 31 := lnM_lt κ
  obtain ⟨f, s, c, r⟩ := h
  refine c_MS_copyL hD s ha sb (rw_hd (by omega) (by omega)) sa (rw_hd (by omega) (by omega)) (Nat.le_refl _) hl (fun hS => hQ _ ⟨⟨f.1.cpL (by omega) ⟨⟨by omega, by omega⟩, rfl⟩, f.2⟩, hS, fun k k1 k2 => c k k1 k2, fun κ' g1 g2 k hk' => ?_⟩)
  by_cases z : κ' = κ
  · subst z
    refine ⟨fun z => absurd hk z, fun _ => ?_⟩
    rw [mL_cp, if_pos rfl, if_pos ⟨Nat.zero_le _, by omega⟩, Nat.zero_add, Nat.sub_zero]
    exact f.1.L (by omega) (by unfold OwM; omega)
  · obtain ⟨r1, r2⟩ := r κ' g1 (by omega) k hk'
    exact ⟨fun z1 => r1 z1, fun z1 => by rw [mL_cp, if_neg (hd_ne (by omega) (by omega) z)]; exact r2 z1⟩
theorem c_MS_become {Es : List Ent} (hM : MW μ 0 T D Es) (hD : 2 ≤ d) (hS : St μ) (hQ : ∀ μ', FrO 1 μ μ' → St μ' → MW μ' 1 T D Es → Q (some (.ref (hd 65 1))) μ') : Cal K_MS_become d rc rs [.ref (hd 65 1), .ref (hd 65 0)] μ Q := by
  have hd1 : 1 ≤ d - 1 := by omega
  have a2 : (1 : Nat) < 2 := by decide
  have b2 : (0 : Nat) < 2 := by decide
  have ne : (0 : Nat) ≠ 1 := by decide
  refine e_MS_become (g_MS_become_0 (by omega) a2 b2 hS (fun μ1 e1 μ2 e2 => ?_))
  have A0 : Acc μ 1 0 66 μ2 := by
    have f1 : FrO 1 μ μ1 := by rw [e1]; exact ⟨((Fr.rf.setI (by decide) ⟨by decide, rfl⟩).setI (by decide) ⟨by decide, rfl⟩).setI (by decide) ⟨by decide, rfl⟩, rfl⟩
    have f2 : FrO 1 μ1 μ2 := by rw [e2]; exact ⟨((Fr.rf.setI (by decide) ⟨by decide, rfl⟩).setI (by decide) ⟨by decide, rfl⟩).setI (by decide) ⟨by decide, rfl⟩, rfl⟩
    have o1 : ∀ k, mI μ1 (hd 65 0) k = mI μ (hd 65 0) k := fun k => f1.1.I (by decide) (by unfold OwM; omega)
    refine ⟨f1.trans f2, hS.of_eq (f2.1.1.trans f1.1.1) (f2.2.trans f1.2), fun k k1 k2 => ?_, fun κ g1 g2 => by omega⟩
    rcases (by omega : k = 0 ∨ k = 1 ∨ k = 2 ∨ k = 3 ∨ k = 4 ∨ k = 18) with rfl | rfl | rfl | rfl | rfl | rfl
    · rw [e2, rd_k (by decide), rd_k (by decide), rd_k (by decide), e1, rd_k (by decide), rd_k (by decide), rd_eq]
    · rw [e2, rd_k (by decide), rd_k (by decide), rd_k (by decide), e1, rd_k (by decide), rd_eq, rd_i (by decide)]
    · rw [e2, rd_k (by decide), rd_k (by decide), rd_k (by decide), e1, rd_eq, rd_i (by decide), rd_i (by decide)]
    · rw [e2, rd_k (by decide), rd_k (by decide), rd_eq, o1]
    · rw [e2, rd_k (by decide), rd_eq, rd_i (by decide), o1]
    · rw [e2, rd_eq, rd_i (by decide), rd_i (by decide), o1]
  clear e1 e2
  refine acc_I hd1 a2 b2 ne (by decide) (by decide) (by unfold isLg; decide) (s_66 A0.2.1 a2) (s_66 A0.2.1 b2) A0 (fun μ3 A => ⟨rfl, ?_⟩)
  refine acc_I hd1 a2 b2 ne (by decide) (by decide) (by unfold isLg; decide) (s_67 A.2.1 a2) (s_67 A.2.1 b2) A (fun μ3 A => ⟨rfl, ?_⟩)
  refine acc_I hd1 a2 b2 ne (by decide) (by decide) (by unfold isLg; decide) (s_68 A.2.1 a2) (s_68 A.2.1 b2) A (fun μ3 A => ⟨rfl, ?_⟩)
  refine acc_I hd1 a2 b2 ne (by decide) (by decide) (by unfold isLg; decide) (s_69 A.2.1 a2) (s_69 A.2.1 b2) A (fun μ3 A => ⟨rfl, ?_⟩)
  refine acc_I hd1 a2 b2 ne (by decide) (by decide) (by unfold isLg; decide) (s_70 A.2.1 a2) (s_70 A.2.1 b2) A (fun μ3 A => ⟨rfl, ?_⟩)
  refine acc_I hd1 a2 b2 ne (by decide) (by decide) (by unfold isLg; decide) (s_71 A.2.1 a2) (s_71 A.2.1 b2) A (fun μ3 A => ⟨rfl, ?_⟩)
  refine acc_I hd1 a2 b2 ne (by decide) (by decide) (by unfold isLg; decide) (s_72 A.2.1 a2) (s_72 A.2.1 b2) A (fun μ3 A => ⟨rfl, ?_⟩)
  refine acc_I hd1 a2 b2 ne (by decide) (by decide) (by unfold isLg; decide) (s_73 A.2.1 a2) (s_73 A.2.1 b2) A (fun μ3 A => ⟨rfl, ?_⟩)
  refine acc_I hd1 a2 b2 ne (by decide) (by decide) (by unfold isLg; decide) (s_74 A.2.1 a2) (s_74 A.2.1 b2) A (fun μ3 A => ⟨rfl, ?_⟩)
  refine acc_L hd1 a2 b2 ne (by decide) (by decide) (Or.inl rfl) (s_75 A.2.1 a2) (s_75 A.2.1 b2) A (fun μ3 A => ⟨rfl, ?_⟩)
  refine acc_I hd1 a2 b2 ne (by decide) (by decide) (by unfold isLg; decide) (s_76 A.2.1 a2) (s_76 A.2.1 b2) A (fun μ3 A => ⟨rfl, ?_⟩)
  refine acc_I hd1 a2 b2 ne (by decide) (by decide) (by unfold isLg; decide) (s_77 A.2.1 a2) (s_77 A.2.1 b2) A (fun μ3 A => ⟨rfl, ?_⟩)
  refine acc_L hd1 a2 b2 ne (by decide) (by decide) (Or.inr (Or.inl rfl)) (s_78 A.2.1 a2) (s_78 A.2.1 b2) A (fun μ3 A => ⟨rfl, ?_⟩)
  refine acc_I hd1 a2 b2 ne (by decide) (by decide) (by unfold isLg; decide) (s_79 A.2.1 a2) (s_79 A.2.1 b2) A (fun μ3 A => ⟨rfl, ?_⟩)
  refine acc_I hd1 a2 b2 ne (by decide) (by decide) (by unfold isLg; decide) (s_80 A.2.1 a2) (s_80 A.2.1 b2) A (fun μ3 A => ⟨rfl, ?_⟩)
  refine acc_L hd1 a2 b2 ne (by decide) (by decide) (Or.inr (Or.inr rfl)) (s_81 A.2.1 a2) (s_81 A.2.1 b2) A (fun μ3 A => ⟨rfl, ?_⟩)
  obtain ⟨f, s, c, r⟩ := A
  refine ⟨s, hQ μ3 f s ?_⟩
  obtain ⟨hC, hY, hB⟩ := hM
  have h60 := hC.S60; have h5 := hC.P5; have h8 := hC.R8
  have h480 := hB.len h8
  have hpx : px μ3 (hd 40 0) 11 = px μ (hd 40 0) 11 := by unfold px; rw [f.2]
  have rI : ∀ κ k, 66 ≤ κ → κ ≤ 81 → ¬ isLg κ → k < lnM κ → mI μ3 (hd κ 1) k = mI μ (hd κ 0) k := fun κ k g1 g2 g3 g4 => (r κ g1 (by omega) k g4).1 g3
  have rL : ∀ κ k, 66 ≤ κ → κ ≤ 81 → isLg κ → k < lnM κ → mL μ3 (hd κ 1) k = mL μ (hd κ 0) k := fun κ k g1 g2 g3 g4 => (r κ g1 (by omega) k g4).2 g3
  obtain ⟨x1, x2, x3, x4, x5, x6, x7⟩ := hC
  refine ⟨⟨a2, x2, fun f' i j hr => ?_, (c 3 (by decide) (by decide)).trans x4, fun b hb => ?_, fun r hr => ?_, ?_⟩, ⟨(c 18 (by decide) (by decide)).trans hY.1, fun k e he => ?_⟩, hB⟩
  · refine Eq.trans ?_ (x3 f' i j hr)
    rcases f' with _|_|_|_|_|_|_|_|_|_|f' <;> simp only [mrg] at hr
    · exact c 0 (by decide) (by decide)
    · exact c 1 (by decide) (by decide)
    · exact c 2 (by decide) (by decide)
    · exact c 4 (by decide) (by decide)
    · exact rI (66 + j) i (by omega) (by omega) (by unfold isLg; omega) (by unfold lnM; rw [if_pos (by omega)]; omega)
    · exact rI 72 (5 * i + j) (by omega) (by omega) (by unfold isLg; omega) (by show 5 * i + j < 300; omega)
    · exact rI 73 (5 * i + j) (by omega) (by omega) (by unfold isLg; omega) (by show 5 * i + j < 25; omega)
    · exact rI 74 (30 * i + j) (by omega) (by omega) (by unfold isLg; omega) (by show 30 * i + j < 150; omega)
    · exact rI (76 + j) i (by omega) (by omega) (by unfold isLg; omega) (by unfold lnM; rw [if_neg (by omega), if_neg (by omega), if_neg (by omega), if_neg (by omega), if_neg (by omega), if_pos (by omega)]; omega)
  · rw [rL 75 b (by decide) (by decide) (Or.inl rfl) (by show b < 5; omega)]; exact x5 b hb
  · rw [rL 78 r (by decide) (by decide) (Or.inr (Or.inl rfl)) (by show r < 8; omega)]; exact x6 r hr
  · obtain ⟨p1, p2, p3, p4, p5⟩ := x7
    have e5 : ∀ κ k, 50 ≤ κ → κ ≤ 52 → mI μ3 (hd κ (px μ (hd 40 0) 11)) k = mI μ (hd κ (px μ (hd 40 0) 11)) k := fun κ k g1 g2 => f.1.I (by omega) (by unfold OwM; omega)
    unfold PM
    rw [hpx, e5 50 _ (by decide) (by decide), e5 50 _ (by decide) (by decide), e5 50 _ (by decide) (by decide), e5 50 _ (by decide) (by decide)]
    refine ⟨p1, p2, p3, p4, fun r hr => ?_⟩
    rw [e5 51 _ (by decide) (by decide), e5 52 _ (by decide) (by decide)]
    exact p5 r hr
  · have hk : k < 480 := by
      have : k < Es.length := by
        rcases Nat.lt_or_ge k Es.length with z | z
        · exact z
        · rw [List.getElem?_eq_none z] at he; cases he
      omega
    rw [rI 79 k (by decide) (by decide) (by unfold isLg; omega) hk, rI 80 k (by decide) (by decide) (by unfold isLg; omega) hk, rL 81 k (by decide) (by decide) (Or.inr (Or.inr rfl)) hk]
    exact hY.2 k e he
/-- the model's world begins -/
theorem c_MS_begin {q : Nat} (hD : 2 ≤ d) (hS : St μ) (hq : px μ (hd 40 0) 11 = q) (hB : DB T D) (hz : D0 D) (hP : PM μ T D) (hr : ∀ r, r < T 2 0 → mI μ (hd 53 q) r = nI (D 9 r 0))
    (hQ : ∀ μ', FrO 0 μ μ' → St μ' → MW μ' 0 T D [] → Q none μ') : Cal K_MS_begin d rc rs [.ref (hd 65 0)] μ Q := by
  have h5 := hB.1.1; have h8 := hB.1.2.2.1
  obtain ⟨⟨z0, z1, z2, z3⟩, z6, z7, z8, z11, z9, z10⟩ := hz
  have hS1 : St (setI (setI (setI (setI (setI (setI μ (hd 65 0) 0 0) (hd 65 0) 1 0) (hd 65 0) 2 0) (hd 65 0) 3 0) (hd 65 0) 4 0) (hd 65 0) 18 0) := hS
  have f1 : FrO 0 μ (setI (setI (setI (setI (setI (setI μ (hd 65 0) 0 0) (hd 65 0) 1 0) (hd 65 0) 2 0) (hd 65 0) 3 0) (hd 65 0) 4 0) (hd 65 0) 18 0) := ⟨(((((Fr.rf.setI (by decide) ⟨by decide, rfl⟩).setI (by decide) ⟨by decide, rfl⟩).setI (by decide) ⟨by decide, rfl⟩).setI (by decide) ⟨by decide, rfl⟩).setI (by decide) ⟨by decide, rfl⟩).setI (by decide) ⟨by decide, rfl⟩, rfl⟩
  have a65 : ∀ k, (k ≤ 4 ∨ k = 18) → mI (setI (setI (setI (setI (setI (setI μ (hd 65 0) 0 0) (hd 65 0) 1 0) (hd 65 0) 2 0) (hd 65 0) 3 0) (hd 65 0) 4 0) (hd 65 0) 18 0) (hd 65 0) k = 0 := fun k hk => by
    rcases (by omega : k = 0 ∨ k = 1 ∨ k = 2 ∨ k = 3 ∨ k = 4 ∨ k = 18) with rfl | rfl | rfl | rfl | rfl | rfl
    · rw [rd_k (by decide), rd_k (by decide), rd_k (by decide), rd_k (by decide), rd_k (by decide), rd_eq]
    · rw [rd_k (by decide), rd_k (by decide), rd_k (by decide), rd_k (by decide), rd_eq]
    · rw [rd_k (by decide), rd_k (by decide), rd_k (by decide), rd_eq]
    · rw [rd_k (by decide), rd_k (by decide), rd_eq]
    · rw [rd_k (by decide), rd_eq]
    · rw [rd_eq]
  refine e_MS_begin (g_MS_begin_0 (by omega) (by decide) hS ?_)
  generalize setI (setI (setI (setI (setI (setI μ (hd 65 0) 0 0) (hd 65 0) 1 0) (hd 65 0) 2 0) (hd 65 0) 3 0) (hd 65 0) 4 0) (hd 65 0) 18 0 = μ1 at *
  have k118 : ∀ r, r ≤ 8 → ∀ μ', FrO 0 μ μ' → St μ' → (∀ k, (k ≤ 4 ∨ k = 18) → mI μ' (hd 65 0) k = 0) → (∀ k, k < 25 → mI μ' (hd 73 0) k = 0) → (∀ k, k < 150 → mI μ' (hd 74 0) k = -1) → (∀ k, k < 5 → mL μ' (hd 75 0) k = 0) → (∀ k, k < T 2 0 → mI μ' (hd 76 0) k = nI (D 9 k 0)) → (∀ k, k < r → mI μ' (hd 77 0) k = 0 ∧ mL μ' (hd 78 0) k = 0) → Wx K_MS_begin d rc rs (fun r μ' => St μ' ∧ Q r μ') 118 [(0, .ref (hd 65 0)), (1, .int (nI r))] [] μ' := by
    refine up_loop 8 (fun μ' f s g y3 y4 y5 y6 y7 => ?_) (fun r hr' ih μ' f s g y3 y4 y5 y6 y7 => ?_)
    · refine g_MS_begin_118 (by omega) (by decide) s ⟨fun _ => ⟨s, hQ μ' f s ?_⟩, fun h => absurd (Int32.le_refl _) h⟩
      have hm : mergedN D = 0 := by unfold mergedN; rw [z1]; rfl
      have hpx : px μ' (hd 40 0) 11 = px μ (hd 40 0) 11 := by unfold px; rw [f.2]
      refine ⟨⟨by decide, hB, fun f' i j hr' => ?_, ?_, fun b hb => ?_, fun r hr => ?_, ?_⟩, ⟨g 18 (Or.inr rfl), fun k e he => by rw [List.getElem?_nil] at he; cases he⟩, ⟨(fun e he => by cases he), fun r s hr hs => ?_⟩⟩
      · rcases f' with _|_|_|_|_|_|_|_|_|_|f' <;> simp only [mrg] at hr'
        · obtain ⟨rfl, rfl⟩ := hr'; show mI μ' (hd 65 0) 0 = nI (D 0 0 0); rw [z0]; exact g 0 (by decide)
        · obtain ⟨rfl, rfl⟩ := hr'; show mI μ' (hd 65 0) 1 = nI (D 1 0 0); rw [z1]; exact g 1 (by decide)
        · obtain ⟨rfl, rfl⟩ := hr'; show mI μ' (hd 65 0) 2 = nI (D 2 0 0); rw [z2]; exact g 2 (by decide)
        · obtain ⟨rfl, rfl⟩ := hr'; show mI μ' (hd 65 0) 4 = nI (D 3 0 0); rw [z3]; exact g 4 (by decide)
        · rw [z1] at hr'; exact absurd hr'.1 (Nat.not_lt_zero _)
        · rw [z1] at hr'; exact absurd hr'.1 (Nat.not_lt_zero _)
        · show mI μ' (hd 73 0) (5 * i + j) = nI (D 6 i j); rw [z6]; exact y3 _ (by omega)
        · show mI μ' (hd 74 0) (30 * i + j) = oI (D 7 i j); rw [z7, oI_0]; exact y4 _ (by omega)
        · show mI μ' (hd (76 + j) 0) i = nI (D 9 i j)
          rcases (by omega : j = 0 ∨ j = 1) with rfl | rfl
          · exact y6 i hr'.1
          · rw [z9]; exact (y7 i (by omega)).1
      · rw [hm]; exact g 3 (by decide)
      · rw [y5 b (by omega)]; exact Bs.zero (fun s _ h => h (z8 b s))
      · rw [(y7 r (by omega)).2]; exact Bs.zero (fun s _ h => h (z10 r s))
      · obtain ⟨p1, p2, p3, p4, p5⟩ := hP
        have e5 : ∀ κ k, 50 ≤ κ → κ ≤ 52 → mI μ' (hd κ (px μ (hd 40 0) 11)) k = mI μ (hd κ (px μ (hd 40 0) 11)) k := fun κ k g1 g2 => f.1.I (by omega) (by unfold OwM; omega)
        unfold PM
        rw [hpx, e5 50 _ (by decide) (by decide), e5 50 _ (by decide) (by decide), e5 50 _ (by decide) (by decide), e5 50 _ (by decide) (by decide)]
        refine ⟨p1, p2, p3, p4, fun r hr => ?_⟩
        rw [e5 51 _ (by decide) (by decide), e5 52 _ (by decide) (by decide)]
        exact p5 r hr
      · rw [z0, z10, bN_f (Nat.lt_irrefl _)]; rfl
    · refine g_MS_begin_118 (by omega) (by decide) s ⟨fun h => absurd h (nI_ge hr' (by decide)), fun _ => ⟨vp_in_nI hr' (by decide), vp_in_nI hr' (by decide), ?_⟩⟩
      rw [nI_clamp (by omega), nI_1]
      have s1 : St (setL (setI μ' (hd 77 0) r 0) (hd 78 0) r 0) := s
      have e : ∀ κ k, κ < 256 → κ ≠ 77 → mI (setL (setI μ' (hd 77 0) r 0) (hd 78 0) r 0) (hd κ 0) k = mI μ' (hd κ 0) k := fun κ k a b => rd_ne (by decide) a b
      refine ih _ ⟨(f.1.setI (by decide) ⟨by decide, rfl⟩).setL (by decide) ⟨by decide, rfl⟩, f.2⟩ s1 (fun k hk => ?_) (fun k hk => ?_) (fun k hk => ?_) (fun k hk => ?_) (fun k hk => ?_) (fun k hk => ?_)
      · rw [e 65 _ (by decide) (by decide)]; exact g k hk
      · rw [e 73 _ (by decide) (by decide)]; exact y3 k hk
      · rw [e 74 _ (by decide) (by decide)]; exact y4 k hk
      · rw [mL_set, if_neg (fun z => absurd z.1 (hd_ne (by decide) (by decide) (by decide)))]; exact y5 k hk
      · rw [e 76 _ (by decide) (by decide)]; exact y6 k hk
      · rw [mL_set, mI_setL]
        by_cases z : k = r
        · rw [z, rd_eq, if_pos ⟨rfl, rfl⟩]; exact ⟨rfl, rfl⟩
        · rw [rd_k z, if_neg (fun w => z w.2)]; exact y7 k (by omega)
  have k80 : ∀ r, r ≤ 5 → ∀ μ', FrO 0 μ μ' → St μ' → (∀ k, (k ≤ 4 ∨ k = 18) → mI μ' (hd 65 0) k = 0) → (∀ k, k < 25 → mI μ' (hd 73 0) k = 0) → (∀ k, k < 150 → mI μ' (hd 74 0) k = -1) → (∀ k, k < r → mL μ' (hd 75 0) k = 0) → Wx K_MS_begin d rc rs (fun r μ' => St μ' ∧ Q r μ') 80 [(0, .ref (hd 65 0)), (1, .int (nI r))] [] μ' := by
    refine up_loop 5 (fun μ' f s g y3 y4 y5 => ?_) (fun r hr' ih μ' f s g y3 y4 y5 => ?_)
    · have hpx : px μ' (hd 40 0) 11 = q := by unfold px; rw [f.2]; exact hq
      have hpl := s.plan.2
      rw [hpx] at hpl
      refine g_MS_begin_80 (by omega) (by decide) s ⟨fun _ => ?_, fun h => absurd (Int32.le_refl _) h⟩
      rw [hpx]
      refine c_MS_copy (by omega) s (by decide) (s_53 hpl) (rw_hd (by decide) (by decide)) (s_76 s (by decide)) (rw_hd (by decide) (by decide)) (Nat.le_refl _) (by decide) (fun hS2 => ⟨rfl, ?_⟩)
      have e : ∀ κ k, κ < 256 → κ ≠ 76 → mI (cpI μ' (hd 53 q) (hd 76 0) 0 0 8) (hd κ 0) k = mI μ' (hd κ 0) k := fun κ k a b => rc_ne (by decide) a b
      refine k118 0 (by decide) _ ⟨f.1.cpI (by decide) ⟨by decide, rfl⟩, f.2⟩ hS2 (fun k hk => ?_) (fun k hk => ?_) (fun k hk => ?_) (fun k hk => y5 k hk) (fun k hk => ?_) (fun k hk => absurd hk (Nat.not_lt_zero _))
      · rw [e 65 _ (by decide) (by decide)]; exact g k hk
      · rw [e 73 _ (by decide) (by decide)]; exact y3 k hk
      · rw [e 74 _ (by decide) (by decide)]; exact y4 k hk
      · rw [rc_in (by omega), f.1.I (by decide) (by unfold OwM; omega)]; exact hr k hk
    · refine g_MS_begin_80 (by omega) (by decide) s ⟨fun h => absurd h (nI_ge hr' (by decide)), fun _ => ⟨vp_in_nI hr' (by decide), ?_⟩⟩
      rw [nI_clamp (by omega), nI_1]
      have s1 : St (setL μ' (hd 75 0) r 0) := s
      refine ih _ ⟨f.1.setL (by decide) ⟨by decide, rfl⟩, f.2⟩ s1 g y3 y4 (fun k hk => ?_)
      rw [mL_set]
      by_cases z : k = r
      · rw [z, if_pos ⟨rfl, rfl⟩]
      · rw [if_neg (fun w => z w.2)]; exact y5 k (by omega)
  have k56 : ∀ r, r ≤ 150 → ∀ μ', FrO 0 μ μ' → St μ' → (∀ k, (k ≤ 4 ∨ k = 18) → mI μ' (hd 65 0) k = 0) → (∀ k, k < 25 → mI μ' (hd 73 0) k = 0) → (∀ k, k < r → mI μ' (hd 74 0) k = -1) → Wx K_MS_begin d rc rs (fun r μ' => St μ' ∧ Q r μ') 56 [(0, .ref (hd 65 0)), (1, .int (nI r))] [] μ' := by
    refine up_loop 150 (fun μ' f s g y3 y4 => ?_) (fun r hr' ih μ' f s g y3 y4 => ?_)
    · exact g_MS_begin_56 (by omega) (by decide) s ⟨fun _ => k80 0 (by decide) μ' f s g y3 y4 (fun k hk => absurd hk (Nat.not_lt_zero _)), fun h => absurd (Int32.le_refl _) h⟩
    · refine g_MS_begin_56 (by omega) (by decide) s ⟨fun h => absurd h (nI_ge hr' (by decide)), fun _ => ⟨vp_in_nI hr' (by decide), ?_⟩⟩
      rw [nI_clamp (by omega), nI_1]
      have s1 : St (setI μ' (hd 74 0) r (-1)) := s
      refine ih _ ⟨f.1.setI (by decide) ⟨by decide, rfl⟩, f.2⟩ s1 (fun k hk => ?_) (fun k hk => ?_) (fun k hk => ?_)
      · rw [rd_ne (by decide) (by decide) (by decide)]; exact g k hk
      · rw [rd_ne (by decide) (by decide) (by decide)]; exact y3 k hk
      · by_cases z : k = r
        · rw [z, rd_eq]
        · rw [rd_k z]; exact y4 k (by omega)
  have k32 : ∀ r, r ≤ 25 → ∀ μ', FrO 0 μ μ' → St μ' → (∀ k, (k ≤ 4 ∨ k = 18) → mI μ' (hd 65 0) k = 0) → (∀ k, k < r → mI μ' (hd 73 0) k = 0) → Wx K_MS_begin d rc rs (fun r μ' => St μ' ∧ Q r μ') 32 [(0, .ref (hd 65 0)), (1, .int (nI r))] [] μ' := by
    refine up_loop 25 (fun μ' f s g y3 => ?_) (fun r hr' ih μ' f s g y3 => ?_)
    · exact g_MS_begin_32 (by omega) (by decide) s ⟨fun _ => k56 0 (by decide) μ' f s g y3 (fun k hk => absurd hk (Nat.not_lt_zero _)), fun h => absurd (Int32.le_refl _) h⟩
    · refine g_MS_begin_32 (by omega) (by decide) s ⟨fun h => absurd h (nI_ge hr' (by decide)), fun _ => ⟨vp_in_nI hr' (by decide), ?_⟩⟩
      rw [nI_clamp (by omega), nI_1]
      have s1 : St (setI μ' (hd 73 0) r 0) := s
      refine ih _ ⟨f.1.setI (by decide) ⟨by decide, rfl⟩, f.2⟩ s1 (fun k hk => ?_) (fun k hk => ?_)
      · rw [rd_ne (by decide) (by decide) (by decide)]; exact g k hk
      · by_cases z : k = r
        · rw [z, rd_eq]
        · rw [rd_k z]; exact y3 k (by omega)
  exact k32 0 (by decide) μ1 f1 hS1 a65 (fun k hk => absurd hk (Nat.not_lt_zero _))
end WMA
