/-! making, by what is told -/
theorem imin_nI {a b : Nat} (ha : a < 2 ^ 31) (hb : b < 2 ^ 31) : imin (nI a) (nI b) = nI (min a b) := by
  unfold imin
  by_cases h : b < a
  · rw [if_pos ((nI_ltI hb ha).mpr h), Nat.min_eq_right (by omega)]
  · rw [if_neg (fun z => h ((nI_ltI hb ha).mp z)), Nat.min_eq_left (by omega)]
theorem imax_nI {a b : Nat} (ha : a < 2 ^ 31) (hb : b < 2 ^ 31) : imax (nI a) (nI b) = nI (max a b) := by
  unfold imax
  by_cases h : a < b
  · rw [if_pos ((nI_ltI ha hb).mpr h), Nat.max_eq_right (by omega)]
  · rw [if_neg (fun z => h ((nI_ltI ha hb).mp z)), Nat.max_eq_left (by omega)]
theorem fold_or_lt {g : Nat → Nat} : ∀ (L : List Nat) (m : Nat), m < 65536 → (∀ v ∈ L, g v < 65536) → L.foldl (fun m v => m ||| g v) m < 65536
  | [], _, h, _ => h
  | v :: L, m, h, hg => fold_or_lt L _ (Nat.or_lt_two_pow (n := 16) h (hg v List.mem_cons_self)) (fun x hx => hg x (List.mem_cons_of_mem _ hx))
theorem shL_mem {T : PT} {D : DT} (h : DB T D) {b n v : Nat} (hb : b < T 0 0) (hn : n < 6) (hv : v ∈ shL D b n) : v ≠ 0 ∧ v - 1 < D 1 0 0 := by
  obtain ⟨h0, p, h1, h2, h3⟩ := sLk_mem _ _ _ _ hv
  have := (h.2.2.1 b hb).2.1 (5 * n + p) (by omega)
  have h3' : D 7 b (5 * n + p) = v := h3
  exact ⟨h0, by omega⟩
theorem marksB_lt {T : PT} {D : DT} (h : DB T D) {b n : Nat} (hb : b < T 0 0) (hn : n < 6) : marksB D b n < 65536 :=
  fold_or_lt _ 0 (by decide) (fun v hv => ((h.2.1 _ (shL_mem h hb hn hv).2).2.2.2.1))
def leastB (D : DT) (b n : Nat) : Nat := (shL D b n).foldl (fun m v => min m (D 4 (v - 1) 2)) 9999
def mostB (D : DT) (b n : Nat) : Nat := (shL D b n).foldl (fun m v => max m (D 4 (v - 1) 2)) 0
def sumB (D : DT) (b n : Nat) : Nat := (shL D b n).foldl (fun m v => m + D 4 (v - 1) 2) 0
def mergeV (D : DT) (b n y : Nat) : Nat := if y = 0 then leastB D b n else if y = 1 then mostB D b n else min (sumB D b n) 9999
theorem valB_le {T : PT} {D : DT} (h : DB T D) {b n : Nat} (hb : b < T 0 0) (hn : n < 6) : valB D b n ≤ 9999 := by
  unfold valB
  have hg := shL_get h (l := 0) hb hn
  split
  · exact Nat.zero_le _
  · exact (h.2.1 _ (by omega)).2.2.1
def wrD (T : PT) (D : DT) (b n v : Nat) : DT := mkD T D b n v (marksB D b n) 0
def noD (T : PT) (D : DT) (b n k : Nat) : DT := mkD T D b n (valB D b n) (marksB D b n ||| 2 ^ k) 1
def meD (T : PT) (D : DT) (b n y : Nat) : DT := mkD T D b n (mergeV D b n y) (marksB D b n) 2
theorem c_Wd_makeWritten {d rc rs w b n v : Nat} {Q : Option Value → Mu → Prop} {μ : Mu} {T : PT} {D : DT} (hC : XC μ w T D) (hD : 3 ≤ d) (hS : St μ) (h60 : D 1 0 0 < 60) (hb : b < T 0 0) (hn : n < T 1 0) (hv : v ≤ 9999)
    (hQ : ∀ μ', Fr (OwW w) μ μ' → mR μ' = mR μ → St μ' → XC μ' w T (wrD T D b n v) → Q (some (.int (nI (D 1 0 0)))) μ') : Cal K_Wd_makeWritten d rc rs [.ref (hd 29 w), .int (nI b), .int (nI n), .int (nI v)] μ Q := by
  have hw := hC.w2; have hP := hC.P5; have hN := hC.N6
  refine e_Wd_makeWritten (g_Wd_makeWritten_0 (by omega) hw hS ⟨vp_in_nI (by omega) (by decide), ?_⟩)
  rw [nI_clamp (by omega)]
  refine c_Wd_marksShown hC (by omega) hS hb (by omega) ⟨_, rfl, ?_⟩
  exact c_Wd_make (h := 0) hC (by omega) hS h60 hb hn hv (marksB_lt hC.2.1 hb (by omega)) (by decide) (fun μ' f1 f2 f3 f4 => ⟨_, rfl, f3, hQ μ' f1 f2 f3 f4⟩)
theorem shl_1 : ∀ k, k < 16 → (1 : Int32) <<< (nI k &&& 31) = nI (2 ^ k) := by decide +kernel
theorem c_Wd_makeNoted {d rc rs w b n k : Nat} {Q : Option Value → Mu → Prop} {μ : Mu} {T : PT} {D : DT} (hC : XC μ w T D) (hD : 5 ≤ d) (hS : St μ) (h60 : D 1 0 0 < 60) (hb : b < T 0 0) (hn : n < T 1 0) (hk : k < 16)
    (hQ : ∀ μ', Fr (OwW w) μ μ' → mR μ' = mR μ → St μ' → XC μ' w T (noD T D b n k) → Q (some (.int (nI (D 1 0 0)))) μ') : Cal K_Wd_makeNoted d rc rs [.ref (hd 29 w), .int (nI b), .int (nI n), .int (nI k)] μ Q := by
  have hw := hC.w2; have hP := hC.P5; have hN := hC.N6
  refine e_Wd_makeNoted (g_Wd_makeNoted_0 (by omega) hw hS ⟨vp_in_nI (by omega) (by decide), ?_⟩)
  rw [nI_clamp (by omega)]
  refine c_Wd_marksShown hC (by omega) hS hb (by omega) ⟨_, rfl, ?_⟩
  refine c_Wd_answer hC (by omega) hS (by decide) hb (by omega) ⟨_, rfl, ?_⟩
  rw [shl_1 k hk, nI_or, show ansX T D 18 b n = nI (valB D b n) from rfl]
  have hp : 2 ^ k < 2 ^ 16 := Nat.pow_lt_pow_right (by decide) hk
  exact c_Wd_make (h := 1) hC (by omega) hS h60 hb hn (valB_le hC.2.1 hb (by omega)) (Nat.or_lt_two_pow (n := 16) (marksB_lt hC.2.1 hb (by omega)) hp) (by decide) (fun μ' f1 f2 f3 f4 => ⟨_, rfl, f3, hQ μ' f1 f2 f3 f4⟩)
theorem fold_min_le {g : Nat → Nat} : ∀ (L : List Nat) (m : Nat), L.foldl (fun m v => min m (g v)) m ≤ m
  | [], _ => Nat.le_refl _
  | v :: L, m => Nat.le_trans (fold_min_le L _) (Nat.min_le_left _ _)
theorem fold_max_le {g : Nat → Nat} {B : Nat} : ∀ (L : List Nat) (m : Nat), m ≤ B → (∀ v ∈ L, g v ≤ B) → L.foldl (fun m v => max m (g v)) m ≤ B
  | [], _, h, _ => h
  | v :: L, m, h, hg => fold_max_le L _ (Nat.max_le.mpr ⟨h, hg v List.mem_cons_self⟩) (fun x hx => hg x (List.mem_cons_of_mem _ hx))
theorem mergeV_le {T : PT} {D : DT} (h : DB T D) {b n y : Nat} (hb : b < T 0 0) (hn : n < 6) : mergeV D b n y ≤ 9999 := by
  unfold mergeV
  split
  · exact fold_min_le _ _
  · split
    · exact fold_max_le _ _ (by decide) (fun v hv => (h.2.1 _ (shL_mem h hb hn hv).2).2.2.1)
    · exact Nat.min_le_right _ _
theorem c_Wd_makeMerged {d rc rs w b n y : Nat} {Q : Option Value → Mu → Prop} {μ : Mu} {T : PT} {D : DT} (hC : XC μ w T D) (hD : 3 ≤ d) (hS : St μ) (h60 : D 1 0 0 < 60) (hb : b < T 0 0) (hn : n < T 1 0) (hy : y < 3)
    (hQ : ∀ μ', Fr (OwW w) μ μ' → mR μ' = mR μ → St μ' → XC μ' w T (meD T D b n y) → Q (some (.int (nI (D 1 0 0)))) μ') : Cal K_Wd_makeMerged d rc rs [.ref (hd 29 w), .int (nI b), .int (nI n), .int (nI y)] μ Q := by
  have hw := hC.w2; have hP := hC.P5; have hN := hC.N6
  refine e_Wd_makeMerged (g_Wd_makeMerged_0 (by omega) hw hS ⟨vp_in_nI (by omega) (by decide), ?_⟩)
  rw [nI_clamp (by omega)]
  have hsh := hC.2.1.shP (n := n) hb (by omega)
  have key : ∀ k, k ≤ T 0 0 → ∀ m1 m2 m3, m1 ≤ 9999 → m2 ≤ 9999 → m3 ≤ 9999 * k → (sLk (fun p => D 7 b (5 * n + p)) k (T 0 0 - k)).foldl (fun m v => min m (D 4 (v - 1) 2)) m1 = leastB D b n → (sLk (fun p => D 7 b (5 * n + p)) k (T 0 0 - k)).foldl (fun m v => max m (D 4 (v - 1) 2)) m2 = mostB D b n → (sLk (fun p => D 7 b (5 * n + p)) k (T 0 0 - k)).foldl (fun m v => m + D 4 (v - 1) 2) m3 = sumB D b n → Wx K_Wd_makeMerged d rc rs (fun r μ' => St μ' ∧ Q r μ') 22 [(0, .ref (hd 29 w)), (1, .int (nI b)), (2, .int (nI n)), (3, .int (nI y)), (4, .ref (hd 35 (5 * w + b))), (5, .int (nI m1)), (6, .int (nI m2)), (7, .int (nI m3)), (8, .int (nI k))] [] μ := by
    refine up_loop _ (fun m1 m2 m3 b1 b2 b3 e1 e2 e3 => ?_) (fun k hk ih m1 m2 m3 b1 b2 b3 e1 e2 e3 => ?_)
    · rw [Nat.sub_self] at e1 e2 e3
      have e1' : m1 = leastB D b n := e1
      have e2' : m2 = mostB D b n := e2
      have e3' : m3 = sumB D b n := e3
      have fin : ∀ v, v = mergeV D b n y → Cal K_Wd_marksShown (d - 1) 0 0 [.ref (hd 29 w), .ref (hd 35 (5 * w + b)), .int (nI n)] μ (fun r μ6 => ∃ y7, r = some (.int y7) ∧ (Cal K_Wd_make (d - 1) 0 0 [.ref (hd 29 w), .int (nI b), .int (nI n), .int (nI v), .int y7, .int 2] μ6 (fun r μ8 => ∃ y9, r = some (.int y9) ∧ (St μ8 ∧ Q (some (.int y9)) μ8)))) := fun v hv => by
        refine c_Wd_marksShown hC (by omega) hS hb (by omega) ⟨_, rfl, ?_⟩
        rw [hv]
        exact c_Wd_make (h := 2) hC (by omega) hS h60 hb hn (mergeV_le hC.2.1 hb (by omega)) (marksB_lt hC.2.1 hb (by omega)) (by decide) (fun μ' f1 f2 f3 f4 => ⟨_, rfl, f3, hQ μ' f1 f2 f3 f4⟩)
      refine g_Wd_makeMerged_22 (by omega) hw (by omega) hS ⟨fun _ => ⟨fun z => ?_, fun z => ⟨fun z2 => ?_, fun z2 => ?_⟩⟩, fun h => absurd ?_ h⟩
      · rw [I0, nI_eq (by omega) (by decide)] at z
        exact fin m1 (by unfold mergeV; rw [if_pos z]; exact e1')
      · rw [I0, nI_eq (by omega) (by decide)] at z
        rw [I1, nI_eq (by omega) (by decide)] at z2
        exact fin m2 (by unfold mergeV; rw [if_neg z, if_pos z2]; exact e2')
      · rw [I0, nI_eq (by omega) (by decide)] at z
        rw [I1, nI_eq (by omega) (by decide)] at z2
        rw [I9999, imin_nI (by omega) (by decide)]
        exact fin _ (by unfold mergeV; rw [if_neg z, if_neg z2, e3'])
      · rw [hC.pP]; exact Int32.le_refl _
    · refine g_Wd_makeMerged_22 (by omega) hw (by omega) hS ⟨fun h => absurd h ?_, fun _ => c_Bd_shownFrom (by omega) hS (by omega) (by omega) (by omega) ?_⟩
      · rw [hC.pP]; exact nI_ge hk (by omega)
      obtain ⟨h1, h2⟩ := hC.shwF hb (n := n) (p := k) (by omega) (by omega)
      have h3 := (hC.bdB hb).2.1 (5 * n + k) (by omega)
      rw [show T 0 0 - k = (T 0 0 - (k + 1)) + 1 by omega, sLk] at e1 e2 e3
      rw [h1]
      refine ⟨_, rfl, fun z => ?_, fun z => ?_⟩
      · rw [oI_m1 h2] at z
        rw [if_pos z] at e1 e2 e3
        rw [nI_1]
        exact ih m1 m2 m3 b1 b2 (by omega) e1 e2 e3
      · rw [oI_m1 h2] at z
        rw [if_neg z, List.foldl_cons] at e1 e2 e3
        have hv := (hC.shB (s := D 7 b (5 * n + k) - 1) (by omega)).2.2.1
        rw [oI_p (by omega), nI_clamp (by omega), hC.s3 (by omega), imin_nI (by omega) (by omega), imax_nI (by omega) (by omega), nI_add, nI_1]
        exact ⟨vp_in_nI (by omega) (by decide), ih _ _ _ (by omega) (by omega) (by omega) e1 e2 e3⟩
  refine key 0 (Nat.zero_le _) 9999 0 0 (by decide) (by decide) (by decide) ?_ ?_ ?_
  · rw [Nat.sub_zero, ← hsh]; rfl
  · rw [Nat.sub_zero, ← hsh]; rfl
  · rw [Nat.sub_zero, ← hsh]; rfl
