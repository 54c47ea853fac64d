/-! sheets are made, and sent -/
theorem XR.fr {μ μ' : Mu} {w S P R : Nat} {D : DT} (h : XR μ w S P R D) (e : ∀ f i j, rng S P R f i j → mI μ' (lc w f i j).1 (lc w f i j).2 = mI μ (lc w f i j).1 (lc w f i j).2) : XR μ' w S P R D := fun f i j hr => (e f i j hr).trans (h f i j hr)
theorem lc_new {w S P R f i j : Nat} (hr : rng S P R f i j) : (lc w f i j).1 ≠ hd 33 (60 * w + S) ∧ (lc w f i j).1 ≠ hd 34 (60 * w + S) := by
  rcases f with _|_|_|_|_|_|_|_|_|_|_|_|_|f <;> first | (simp only [rng] at hr; done) | (simp only [rng] at hr; constructor <;> simp only [lc, hd, ne_eq] <;> omega)
theorem XR.new33 {μ : Mu} {w S P R k : Nat} {x : Int32} {D : DT} (h : XR μ w S P R D) : XR (setI μ (hd 33 (60 * w + S)) k x) w S P R D := h.fr (fun f i j hr => by rw [mI_set, if_neg (fun z => (lc_new hr).1 z.1)])
theorem XR.new34 {μ : Mu} {w S P R a sp dp n : Nat} {D : DT} (h : XR μ w S P R D) : XR (cpI μ a (hd 34 (60 * w + S)) sp dp n) w S P R D := h.fr (fun f i j hr => by rw [mI_cp, if_neg (lc_new hr).2])
/-! reading, without cases -/
theorem rd_eq {μ : Mu} {a k : Nat} {x : Int32} : mI (setI μ a k x) a k = x := if_pos ⟨rfl, rfl⟩
theorem rd_k {μ : Mu} {a k j : Nat} {x : Int32} (h : j ≠ k) : mI (setI μ a k x) a j = mI μ a j := if_neg (fun z => h z.2)
theorem rd_ne {μ : Mu} {κ i κ' i' k j : Nat} {x : Int32} (h : κ < 256) (h' : κ' < 256) (hn : κ' ≠ κ) : mI (setI μ (hd κ i) k x) (hd κ' i') j = mI μ (hd κ' i') j := if_neg (fun z => hd_ne h' h hn z.1)
theorem rd_i {μ : Mu} {κ i i' k j : Nat} {x : Int32} (hn : i' ≠ i) : mI (setI μ (hd κ i) k x) (hd κ i') j = mI μ (hd κ i') j := if_neg (fun z => hn (by have := z.1; unfold hd at this; omega))
theorem rc_ne {μ : Mu} {κ i κ' i' j a sp dp n : Nat} (h : κ < 256) (h' : κ' < 256) (hn : κ' ≠ κ) : mI (cpI μ a (hd κ i) sp dp n) (hd κ' i') j = mI μ (hd κ' i') j := if_neg (hd_ne h' h hn)
theorem rc_i {μ : Mu} {κ i i' j a sp dp n : Nat} (hn : i' ≠ i) : mI (cpI μ a (hd κ i) sp dp n) (hd κ i') j = mI μ (hd κ i') j := if_neg (fun z => hn (by unfold hd at z; omega))
theorem rc_in {μ : Mu} {a0 a j n : Nat} (h : j < n) : mI (cpI μ a0 a 0 0 n) a j = mI μ a0 j := by
  rw [mI_cp, if_pos rfl, if_pos ⟨Nat.zero_le _, by omega⟩]; congr 1; omega
theorem z32 : (0 : Int32).toNatClampNeg = 0 := rfl
theorem f32 : (5 : Int32).toNatClampNeg = 5 := rfl
/-- a sheet's numbers -/
def newS (b n v m dy h : Nat) : Nat → Nat
  | 0 => b
  | 1 => n
  | 2 => v
  | 3 => m
  | 4 => dy
  | _ => h
def addS (D : DT) (S : Nat) (x y : Nat → Nat) : DT := fun f i j => if f = 4 ∧ i = S then x j else if f = 5 ∧ i = S then y j else D f i j
theorem addS_f {D : DT} {S f i j : Nat} {x y : Nat → Nat} (h4 : f ≠ 4) (h5 : f ≠ 5) : addS D S x y f i j = D f i j := by
  unfold addS
  rw [if_neg (fun z => h4 z.1), if_neg (fun z => h5 z.1)]
theorem addS_i {D : DT} {S f i j : Nat} {x y : Nat → Nat} (h : i ≠ S) : addS D S x y f i j = D f i j := by
  unfold addS
  rw [if_neg (fun z => h z.2), if_neg (fun z => h z.2)]
theorem addS_4 {D : DT} {S j : Nat} {x y : Nat → Nat} : addS D S x y 4 S j = x j := if_pos ⟨rfl, rfl⟩
theorem addS_5 {D : DT} {S j : Nat} {x y : Nat → Nat} : addS D S x y 5 S j = y j := by
  unfold addS
  rw [if_neg (fun z => absurd z.1 (by decide)), if_pos ⟨rfl, rfl⟩]
theorem XR.grow {μ : Mu} {w S P R : Nat} {D : DT} {x y : Nat → Nat} (h : XR μ w S P R D) (h4 : ∀ j, j < 6 → mI μ (hd 33 (60 * w + S)) (j + 1) = nI (x j)) (h5 : ∀ j, j < 5 → mI μ (hd 34 (60 * w + S)) j = nI (y j)) : XR μ w (S + 1) P R (addS D S x y) := by
  intro f i j hr
  by_cases hi : i = S ∧ (f = 4 ∨ f = 5)
  · obtain ⟨rfl, rfl | rfl⟩ := hi
    · rw [addS_4]; exact h4 j hr.2
    · rw [addS_5]; exact h5 j hr.2
  · have hr' : rng S P R f i j := by
      rcases f with _|_|_|_|_|_|_|_|_|_|_|_|_|f <;> first | (simp only [rng] at hr; done) | (simp only [rng] at hr ⊢; omega)
    have e : addS D S x y f i j = D f i j := by
      unfold addS
      rw [if_neg (fun z => hi ⟨z.2, Or.inl z.1⟩), if_neg (fun z => hi ⟨z.2, Or.inr z.1⟩)]
    rw [e]; exact h f i j hr'
/-- it alone is shown -/
def onlyD (E : DT) (b n S : Nat) : Nat → DT
  | 0 => E
  | k + 1 => ud (onlyD E b n S k) 7 b (5 * n + k) (if k = b then S + 1 else 0)
theorem onlyD_f {E : DT} {b n S f i j : Nat} (h : f ≠ 7) : ∀ k, onlyD E b n S k f i j = E f i j
  | 0 => rfl
  | k + 1 => by rw [onlyD, ud_f h, onlyD_f h k]
def mkD (T : PT) (D : DT) (b n v m h : Nat) : DT :=
  onlyD (addS (ud (ud D 1 0 0 (D 1 0 0 + 1)) 6 b b (D 6 b b + 1)) (D 1 0 0) (newS b n v m (D 0 0 0) h) (fun j => if j = b then D 6 b b + 1 else D 6 b j)) b n (D 1 0 0) (T 0 0)
theorem DB.mk1 {T : PT} {D : DT} (hB : DB T D) {b n v m h : Nat} (hS : D 1 0 0 < 60) (hb : b < T 0 0) (hn : n < T 1 0) (hv : v ≤ 9999) (hm : m < 65536) (hh : h ≤ 2) : DB T (addS (ud (ud D 1 0 0 (D 1 0 0 + 1)) 6 b b (D 6 b b + 1)) (D 1 0 0) (newS b n v m (D 0 0 0) h) (fun j => if j = b then D 6 b b + 1 else D 6 b j)) := by
  obtain ⟨⟨a1, a2, a3, a4, a5, a6⟩, h2, h3, h4⟩ := hB
  have e1 : addS (ud (ud D 1 0 0 (D 1 0 0 + 1)) 6 b b (D 6 b b + 1)) (D 1 0 0) (newS b n v m (D 0 0 0) h) (fun j => if j = b then D 6 b b + 1 else D 6 b j) 1 0 0 = D 1 0 0 + 1 := by rw [addS_f (by decide) (by decide), ud_f (by decide), ud_self]
  refine ⟨⟨a1, a2, a3, a4, by rw [e1]; omega, a6⟩, fun s hs => ?_, fun c hc => ?_, h4⟩
  · rw [e1] at hs ⊢
    by_cases hsS : s = D 1 0 0
    · subst hsS
      simp only [addS_4, addS_5, newS]
      have hb6 := (h3 b hb).1
      refine ⟨hb, hn, hv, hm, a6, hh, fun p hp => ?_⟩
      split
      · have := hb6 b (by omega); omega
      · have := hb6 p hp; omega
    · obtain ⟨b1, b2, b3, b4, b5, b6, b7⟩ := h2 s (by omega)
      simp only [addS_i hsS]
      exact ⟨b1, b2, b3, b4, b5, b6, fun p hp => Nat.le_succ_of_le (b7 p hp)⟩
  · obtain ⟨b1, b2, b3, b4, b5⟩ := h3 c hc
    have e7 : ∀ k, addS (ud (ud D 1 0 0 (D 1 0 0 + 1)) 6 b b (D 6 b b + 1)) (D 1 0 0) (newS b n v m (D 0 0 0) h) (fun j => if j = b then D 6 b b + 1 else D 6 b j) 7 c k = D 7 c k := fun k => addS_f (by decide) (by decide)
    refine ⟨fun p hp => ?_, fun k hk => ?_, b3, b4, fun k hk hne => ?_⟩
    · rw [e1, addS_f (by decide) (by decide)]
      by_cases hq : (6 : Nat) = 6 ∧ c = b ∧ p = b
      · rw [show ud (ud D 1 0 0 (D 1 0 0 + 1)) 6 b b (D 6 b b + 1) 6 c p = D 6 b b + 1 from if_pos hq]
        have := b1 p hp
        obtain ⟨-, rfl, rfl⟩ := hq
        omega
      · rw [show ud (ud D 1 0 0 (D 1 0 0 + 1)) 6 b b (D 6 b b + 1) 6 c p = D 6 c p from if_neg hq]
        have := b1 p hp; omega
    · rw [e7, e1]; have := b2 k hk; omega
    · rw [e7] at hne ⊢
      have := b2 k hk
      rw [addS_i (by omega), addS_i (by omega)]
      exact b5 k hk hne
theorem DB.only {T : PT} {E : DT} {b n S : Nat} (h : DB T E) (hb : b < T 0 0) (hn : n < 6) (hS : S + 1 ≤ E 1 0 0) (h0 : E 4 S 0 = b) (h1 : E 4 S 1 = n) : ∀ k, k ≤ T 0 0 → DB T (onlyD E b n S k)
  | 0, _ => h
  | k + 1, hk => by
    have hP := h.1.1
    rw [onlyD]
    refine (DB.only h hb hn hS h0 h1 k (by omega)).ud7 ?_ ?_
    · rw [onlyD_f (by decide)]; split <;> omega
    · intro hne
      split at hne
      · rename_i hkb
        rw [if_pos hkb, Nat.add_sub_cancel, onlyD_f (by decide), onlyD_f (by decide), h0, h1]
        omega
      · exact absurd rfl hne
theorem DB.mk {T : PT} {D : DT} (hB : DB T D) {b n v m h : Nat} (hS : D 1 0 0 < 60) (hb : b < T 0 0) (hn : n < T 1 0) (hv : v ≤ 9999) (hm : m < 65536) (hh : h ≤ 2) : DB T (mkD T D b n v m h) := by
  have hN := hB.1.2.1
  refine (hB.mk1 hS hb hn hv hm hh).only hb (by omega) ?_ ?_ ?_ _ (Nat.le_refl _)
  · rw [addS_f (by decide) (by decide), ud_f (by decide), ud_self]; exact Nat.le_refl _
  · rw [addS_4]; rfl
  · rw [addS_4]; rfl
theorem c_Wd_make {d rc rs w b n v m h : Nat} {Q : Option Value → Mu → Prop} {μ : Mu} {T : PT} {D : DT} (hC : XC μ w T D) (hD : 2 ≤ d) (hS : St μ) (h60 : D 1 0 0 < 60) (hb : b < T 0 0) (hn : n < T 1 0) (hv : v ≤ 9999) (hm : m < 65536) (hh : h ≤ 2)
    (hQ : ∀ μ', Fr (OwW w) μ μ' → mR μ' = mR μ → St μ' → XC μ' w T (mkD T D b n v m h) → Q (some (.int (nI (D 1 0 0)))) μ') : Cal K_Wd_make d rc rs [.ref (hd 29 w), .int (nI b), .int (nI n), .int (nI v), .int (nI m), .int (nI h)] μ Q := by
  have hw := hC.w2; have hP := hC.P5; have hN := hC.N6; have hR := hC.R8
  refine e_Wd_make (g_Wd_make_0 (by omega) hw hS ?_)
  refine c_Wd_isFull hC (by omega) hS ⟨_, rfl, fun _ => ?_, fun e => absurd (bI_f (by omega)) e⟩
  rw [nI_clamp (by omega), hC.cnt, nI_clamp (by omega)]
  refine ⟨vp_in_nI (by omega) (by decide), vp_in_nI (by omega) (by decide), vp_in_nI (by omega) (by decide), fun μ7 e7 => ⟨vp_in_nI (by omega) (by decide), fun μ10 e10 => ⟨by decide, fun μ12 e12 => ?_⟩⟩⟩
  -- the first two
  have x1 : XR (setI μ (hd 29 w) 5 (nI (D 1 0 0 + 1))) w (D 1 0 0) (T 0 0) (T 2 0) (ud D 1 0 0 (D 1 0 0 + 1)) := hC.2.2.1.set (f := 1) (i := 0) (j := 0) (by omega) hP hR ⟨rfl, rfl⟩
  have x2 : XR (setI (setI μ (hd 29 w) 5 (nI (D 1 0 0 + 1))) (hd 36 (5 * w + b)) b (nI (D 6 b b + 1))) w (D 1 0 0) (T 0 0) (T 2 0) (ud (ud D 1 0 0 (D 1 0 0 + 1)) 6 b b (D 6 b b + 1)) := x1.set (f := 6) (i := b) (j := b) (by omega) hP hR ⟨by omega, by omega⟩
  have e7' : μ7 = setI (setI μ (hd 29 w) 5 (nI (D 1 0 0 + 1))) (hd 36 (5 * w + b)) b (nI (D 6 b b + 1)) := by
    rw [e7, I1, nI_add, mI_set, if_neg (fun z => hd_ne (by decide) (by decide) (by decide) z.1), hC.num hb (by omega), nI_add]
  rw [← e7'] at x2
  have e10' : mI μ10 (hd 29 w) 4 = nI (D 0 0 0) := by
    rw [e10, e7']
    simp (disch := decide) only [rd_ne, rd_k]
    exact hC.day
  rw [e10', z32, f32] at e12
  have x3 : XR μ12 w (D 1 0 0) (T 0 0) (T 2 0) (ud (ud D 1 0 0 (D 1 0 0 + 1)) 6 b b (D 6 b b + 1)) := by
    rw [e12, e10]
    exact ((((((x2.new33).new33).new33).new33).new33).new33).new34
  have x4 : XR μ12 w (D 1 0 0 + 1) (T 0 0) (T 2 0) (addS (ud (ud D 1 0 0 (D 1 0 0 + 1)) 6 b b (D 6 b b + 1)) (D 1 0 0) (newS b n v m (D 0 0 0) h) (fun j => if j = b then D 6 b b + 1 else D 6 b j)) := by
    refine x3.grow (fun j hj => ?_) (fun j hj => ?_)
    · rw [e12, e10]
      rcases (by omega : j = 0 ∨ j = 1 ∨ j = 2 ∨ j = 3 ∨ j = 4 ∨ j = 5) with rfl | rfl | rfl | rfl | rfl | rfl <;>
        simp (disch := decide) only [rd_eq, rd_k, rd_ne, rc_ne, newS]
    · have hj6 := hC.num hb hj
      rw [e12, e10, e7']
      rw [rc_in hj]
      simp (disch := decide) only [rd_ne]
      by_cases hjb : j = b
      · rw [if_pos hjb, hjb, rd_eq]
      · rw [if_neg hjb, rd_k hjb, rd_ne (by decide) (by decide) (by decide)]; exact hj6
  have fr : Fr (OwW w) μ μ12 := by
    rw [e12, e10, e7']
    exact ((((((((Fr.rf.setI (by decide) (by unfold OwW; omega)).setI (by decide) (by unfold OwW; omega)).setI (by decide) (by unfold OwW; omega)).setI (by decide) (by unfold OwW; omega)).setI (by decide) (by unfold OwW; omega)).setI (by decide) (by unfold OwW; omega)).setI (by decide) (by unfold OwW; omega)).setI (by decide) (by unfold OwW; omega)).cpI (by decide) (by unfold OwW; omega)
  have mr : mR μ12 = mR μ := by rw [e12, e10, e7']; rfl
  have hSt : St μ12 := hS.of_eq fr.1 mr
  have hpx : px μ12 (hd 29 w) 3 = px μ (hd 29 w) 3 := by unfold px; rw [mr]
  have hC12 : XC μ12 w T (addS (ud (ud D 1 0 0 (D 1 0 0 + 1)) 6 b b (D 6 b b + 1)) (D 1 0 0) (newS b n v m (D 0 0 0) h) (fun j => if j = b then D 6 b b + 1 else D 6 b j)) := by
    refine ⟨hw, hC.2.1.mk1 h60 hb hn hv hm hh, x4, ?_⟩
    rw [hpx, fr.I (by decide) (by unfold OwW; omega), fr.I (by decide) (by unfold OwW; omega), fr.I (by decide) (by unfold OwW; omega), fr.I (by decide) (by unfold OwW; omega)]
    exact hC.2.2.2
  have hB := hC12.2.1
  have hQ' : ∀ μ', Fr (OwW w) μ μ' → mR μ' = mR μ → St μ' → XC μ' w T (onlyD (addS (ud (ud D 1 0 0 (D 1 0 0 + 1)) 6 b b (D 6 b b + 1)) (D 1 0 0) (newS b n v m (D 0 0 0) h) (fun j => if j = b then D 6 b b + 1 else D 6 b j)) b n (D 1 0 0) (T 0 0)) → Q (some (.int (nI (D 1 0 0)))) μ' := hQ
  have hE1 : addS (ud (ud D 1 0 0 (D 1 0 0 + 1)) 6 b b (D 6 b b + 1)) (D 1 0 0) (newS b n v m (D 0 0 0) h) (fun j => if j = b then D 6 b b + 1 else D 6 b j) 1 0 0 = D 1 0 0 + 1 := by rw [addS_f (by decide) (by decide), ud_f (by decide), ud_self]
  have hE4 : addS (ud (ud D 1 0 0 (D 1 0 0 + 1)) 6 b b (D 6 b b + 1)) (D 1 0 0) (newS b n v m (D 0 0 0) h) (fun j => if j = b then D 6 b b + 1 else D 6 b j) 4 (D 1 0 0) 0 = b := by rw [addS_4]; rfl
  have hE5 : addS (ud (ud D 1 0 0 (D 1 0 0 + 1)) 6 b b (D 6 b b + 1)) (D 1 0 0) (newS b n v m (D 0 0 0) h) (fun j => if j = b then D 6 b b + 1 else D 6 b j) 4 (D 1 0 0) 1 = n := by rw [addS_4]; rfl
  clear x1 x2 x3 x4 e7 e7' e10 e10' e12 hQ
  generalize addS (ud (ud D 1 0 0 (D 1 0 0 + 1)) 6 b b (D 6 b b + 1)) (D 1 0 0) (newS b n v m (D 0 0 0) h) (fun j => if j = b then D 6 b b + 1 else D 6 b j) = E at hC12 hB hQ' hE1 hE4 hE5
  have key : ∀ k, k ≤ T 0 0 → ∀ μ', Fr (OwW w) μ μ' → mR μ' = mR μ → St μ' → XC μ' w T (onlyD E b n (D 1 0 0) k) → Wx K_Wd_make d rc rs (fun r μ' => St μ' ∧ Q r μ') 113 [(0, .ref (hd 29 w)), (1, .int (nI b)), (2, .int (nI n)), (6, .int (nI (D 1 0 0))), (7, .ref (hd 35 (5 * w + b))), (9, .int (nI k))] [] μ' := by
    refine up_loop _ (fun μ' f1 f2 f3 f4 => ?_) (fun k hk ih μ' f1 f2 f3 f4 => ?_)
    · refine g_Wd_make_113 (by omega) hw (by omega) f3 ⟨fun _ => ⟨f3, hQ' μ' f1 f2 f3 f4⟩, fun h => absurd ?_ h⟩
      rw [f4.pP]; exact Int32.le_refl _
    · have hB' := hB.only (n := n) hb (by omega) (by omega) hE4 hE5 (k + 1) hk
      refine g_Wd_make_113 (by omega) hw (by omega) f3 ⟨fun h => absurd h ?_, fun _ => ?_⟩
      · rw [f4.pP]; exact nI_ge hk (by omega)
      rw [nI_eq (by omega) (by omega)]
      refine ⟨fun z => ?_, fun z => ?_⟩
      · refine c_Bd_show (by omega) f3 (by omega) (by omega) (by omega) ⟨rfl, ?_⟩
        rw [nI_1]
        have hB2 : DB T (ud (onlyD E b n (D 1 0 0) k) 7 b (5 * n + k) (D 1 0 0 + 1)) := by rw [onlyD, if_pos z] at hB'; exact hB'
        have g1 := f4.set (f := 7) (i := b) (j := 5 * n + k) (v := D 1 0 0 + 1) (by decide) ⟨by omega, by omega⟩ hB2
        have hSt' : St (setI μ' (hd 37 (5 * w + b)) (5 * n + k) (nI (D 1 0 0))) := f3
        refine ih _ (f1.setI (by decide) (by unfold OwW; omega)) f2 hSt' ?_
        rw [onlyD, if_pos z, ← oI_s]; exact g1
      · refine c_Bd_show (by omega) f3 (by omega) (by omega) (by omega) ⟨rfl, ?_⟩
        rw [nI_1]
        have hB2 : DB T (ud (onlyD E b n (D 1 0 0) k) 7 b (5 * n + k) 0) := by rw [onlyD, if_neg z] at hB'; exact hB'
        have g1 := f4.set (f := 7) (i := b) (j := 5 * n + k) (v := 0) (by decide) ⟨by omega, by omega⟩ hB2
        have hSt' : St (setI μ' (hd 37 (5 * w + b)) (5 * n + k) (-1)) := f3
        refine ih _ (f1.setI (by decide) (by unfold OwW; omega)) f2 hSt' ?_
        rw [onlyD, if_neg z]; exact g1
  exact key 0 (Nat.zero_le _) μ12 fr mr hSt hC12
