/-! numbers that cells choose; both worlds side by side -/
theorem nI_div {a b : Nat} (ha : a < 2 ^ 31) (hb : b < 2 ^ 31) : nI a / nI b = nI (a / b) := by
  apply Int32.toInt_inj.mp
  have h2 := Nat.lt_of_le_of_lt (Nat.div_le_self a b) ha
  have h1 : ((a : Int).tdiv (b : Int)) = ((a / b : Nat) : Int) := Int.ofNat_tdiv a b
  rw [Int32.toInt_div, nI_toInt ha, nI_toInt hb, nI_toInt h2, h1]
  obtain ⟨z, hz⟩ : ∃ z, a / b = z := ⟨_, rfl⟩
  rw [hz] at h2 ⊢
  rw [Int.bmod_eq_of_le]
  · omega
  · omega
theorem nI_mod {a b : Nat} (ha : a < 2 ^ 31) (hb : b < 2 ^ 31) : nI a - nI a / nI b * nI b = nI (a % b) := by
  rw [nI_div ha hb, nI_mul, nI_sub (Nat.div_mul_le_self a b)]
  congr 1
  have := Nat.div_add_mod a b
  rw [Nat.mul_comm] at this
  omega
def lowN (x : Int32) : Nat := (x &&& (2147483647 : Int32)).toNatClampNeg
def belowN (x : Int32) (n : Nat) : Nat := lowN x % n
theorem low_ok (x : Int32) : x &&& (2147483647 : Int32) = nI (lowN x) ∧ lowN x < 2 ^ 31 := by
  have h : 0 ≤ (x &&& (2147483647 : Int32)).toInt := by
    have e : (x &&& (2147483647 : Int32)).toBitVec = x.toBitVec &&& 2147483647#32 := Int32.toBitVec_and _ _
    show 0 ≤ (x &&& (2147483647 : Int32)).toBitVec.toInt
    rw [e, BitVec.toInt_eq_toNat_of_msb]
    · exact Int.natCast_nonneg _
    · rw [BitVec.msb_and]
      show (x.toBitVec.msb && false) = false
      exact Bool.and_false _
  obtain ⟨k, hk, e, -⟩ := nat_of h
  unfold lowN
  rw [e, nI_clamp hk]
  exact ⟨rfl, hk⟩
theorem below_lt {x : Int32} {n : Nat} (h : 0 < n) : belowN x n < n := Nat.mod_lt _ h
section SU
variable {d rc rs : Nat} {Q : Option Value → Mu → Prop} {μ μ' : Mu} {T : PT} {D D' E : DT} {C Ct : Nat → List Op} {OO : Nat → Nat → Nat} {c c' c'' n : Nat} {Λ : List Ld} {own : Nat → Nat → Prop} {t : Nat → Nat} {L : Nat} {x : Int32}
theorem c_below {n : Nat} (hn : 0 < n) (hn2 : n < 2 ^ 31) (hD : 1 ≤ d) (hS : St μ) (hQ : Q (some (.int (nI (belowN x n)))) μ) : Cal K_LW_below d rc rs [.int x, .int (nI n)] μ Q := by
  obtain ⟨h1, h2⟩ := low_ok x
  refine e_LW_below (r_LW_below_0 hD ⟨fun z => absurd ((nI_eq hn2 (by decide)).mp (show nI n = nI 0 from z)) (by omega), ?_⟩)
  rw [h1, nI_mod h2 hn2]
  exact ⟨hS, hQ⟩
theorem CI.lo (h : CI μ T C Ct D t L x) (l : Lo μ μ') : CI μ' T C Ct D t L x := by
  obtain ⟨h1, ⟨h2, h3, h4⟩, ⟨h5, h6, h7, h8⟩, h9⟩ := h
  have eI : ∀ κ i k, κ < 100 → mI μ' (hd κ i) k = mI μ (hd κ i) k := fun κ i k h => ((l κ i h).2 k).1
  have eR : ∀ κ i k, κ < 100 → mR μ' (hd κ i) k = mR μ (hd κ i) k := fun κ i k h => ((l κ i h).2 k).2.2
  have p8 : ∀ κ i k, κ < 100 → px μ' (hd κ i) k = px μ (hd κ i) k := fun κ i k h => by unfold px; rw [eR _ _ _ h]
  refine ⟨h1.tr2 (fun k => eI _ _ _ (by decide)) (fun κ i k z => eI _ _ _ (by unfold OwW at z; omega)) (eR _ _ _ (by decide)), ⟨by rw [p8 _ _ _ (by decide), p8 _ _ _ (by decide)]; exact h2, by rw [p8 _ _ _ (by decide), p8 _ _ _ (by decide)]; exact h3, ?_⟩, ⟨h5, h6, ?_, fun k hk => ?_⟩, ?_⟩
  · rw [p8 _ _ _ (by decide)]
    exact h4.tr h1.O20 (eI _ _ _ (by decide)) (fun k => eR _ _ _ (by decide)) (fun κ k z => eI _ _ _ (by omega)) (fun j k _ => ⟨eI _ _ _ (by decide), eR _ _ _ (by decide)⟩)
  · rw [eI _ _ _ (by decide)]; exact h7
  · rw [eI _ _ _ (by decide)]; exact h8 k hk
  · rw [eI _ _ _ (by decide)]; exact h9
theorem CI.h (h : CI μ T C Ct D t L x) (g : FrS (OwH c c') μ μ') : CI μ' T C Ct D t L x := h.lo (g.lo (fun κ i z => z.lo))
/-- the component's work is not seen by the law's boards -/
theorem SR.fr2 (h : SR μ T D OO c) (g : FrS own μ μ') (hc : c ≤ c') (ho : ∀ κ i, own κ i → κ < 100 ∨ Dy c c' κ i) : SR μ' T D OO c' := by
  have n : ∀ κ i, 100 ≤ κ → κ < 130 → ¬ own κ i := fun κ i a a' b => by have := ho κ i b; unfold Dy at this; omega
  have e : ∀ f, gR μ' (hd 100 0) f = gR μ (hd 100 0) f := fun f => g.gr (by decide) (n _ _ (by decide) (by decide))
  have ei : ∀ f, gI μ' (hd 100 0) f = gI μ (hd 100 0) f := fun f => g.gi (by decide) (n _ _ (by decide) (by decide))
  obtain ⟨⟨o1, o2, o3, o4, o5, o6, o7⟩, h6, h7, h8, h9, h10, h11, h12, h14, hf⟩ := h
  exact ⟨⟨(g.S (by decide) (n _ _ (by decide) (by decide))).trans o1, (ei _).trans o2, (ei _).trans o3, (ei _).trans o4, (ei _).trans o5, (ei _).trans o6, (ei _).trans o7⟩,
    h6.fr g (e _) (by decide) (by decide) (n _ _ (by decide) (by decide)) (fun k _ => n _ _ (by decide) (by decide)), h7.fr g (e _) (by decide) (n _ _ (by decide) (by decide)) (fun k _ => n _ _ (by decide) (by decide)),
    h8.fr g (e _) (by decide) (n _ _ (by decide) (by decide)) (fun k _ => n _ _ (by decide) (by decide)), h9.fr g (e _) (by decide) (n _ _ (by decide) (by decide)) (fun k _ => n _ _ (by decide) (by decide)), h10.fr g (e _) (by decide) (n _ _ (by decide) (by decide)) (fun k _ => n _ _ (by decide) (by decide)),
    h11.fr g (e _) (by decide) (by decide) (n _ _ (by decide) (by decide)) (fun k _ => n _ _ (by decide) (by decide)), h12.fr g (e _) (by decide) (n _ _ (by decide) (by decide)) (fun k _ => n _ _ (by decide) (by decide)), h14.fr g (e _) (by decide) (by decide) (n _ _ (by decide) (by decide)) (fun k _ => n _ _ (by decide) (by decide)),
    hf.fr g hc (fun κ i a b => by have := ho κ i a; unfold Dy at this; omega) (fun k _ => ⟨n _ _ (by decide) (by decide), n _ _ (by decide) (by decide)⟩) (fun k _ => n _ _ (by decide) (by decide))⟩
theorem LR.fr2 (h : LR μ Λ c) (g : FrS own μ μ') (hc : c ≤ c') (ho : ∀ κ i, own κ i → κ < 100 ∨ Dy c c' κ i) : LR μ' Λ c' := by
  obtain ⟨q, h1, h2⟩ := h
  exact ⟨q, (g.gr (by decide) (fun z => by have := ho _ _ z; unfold Dy at this; omega)).trans h1, h2.fr g hc (fun i hi z => by have := ho _ _ z; unfold Dy at this; omega) (fun i hi z => by have := ho _ _ z; unfold Dy at this; omega)⟩
theorem c8_own {κ i : Nat} (h : OwC8 κ i) : κ < 100 ∨ Dy c c' κ i := by unfold OwC8 at h; omega
/-- both worlds -/
def BS (μ : Mu) (T : PT) (C Ct : Nat → List Op) (D : DT) (OO : Nat → Nat → Nat) (Λ : List Ld) (c : Nat) (t : Nat → Nat) (L : Nat) (x : Int32) : Prop := CI μ T C Ct D t L x ∧ SR μ T D OO c ∧ LR μ Λ c ∧ LPd T D Λ
def OwA2 (c c' κ i : Nat) : Prop := OwC8 κ i ∨ OwH c c' κ i
theorem BS.c8 (h : SR μ T D OO c) (hL : LR μ Λ c) (f : Fr OwC8 μ μ') : SR μ' T D OO c ∧ LR μ' Λ c := ⟨h.fr2 (FrS.of f) (Nat.le_refl _) (fun κ i z => c8_own z), hL.fr2 (FrS.of f) (Nat.le_refl _) (fun κ i z => c8_own z)⟩
/-- never fewer -/
def Mono (D D' : DT) : Prop := D 1 0 0 ≤ D' 1 0 0 ∧ D 2 0 0 ≤ D' 2 0 0 ∧ mergedN D ≤ mergedN D' ∧ D 3 0 0 ≤ D' 3 0 0
theorem Mono.rf : Mono D D := ⟨Nat.le_refl _, Nat.le_refl _, Nat.le_refl _, Nat.le_refl _⟩
theorem Mono.trans {D1 D2 : DT} (h : Mono D D1) (h' : Mono D1 D2) : Mono D D2 := ⟨Nat.le_trans h.1 h'.1, Nat.le_trans h.2.1 h'.2.1, Nat.le_trans h.2.2.1 h'.2.2.1, Nat.le_trans h.2.2.2 h'.2.2.2⟩
theorem Mono.mk' {b n v m h : Nat} : Mono D (mkD T D b n v m h) := ⟨by rw [mk_1]; omega, Nat.le_of_eq (mk_f (by decide) (by decide) (by decide) (by decide) (by decide)).symm, by rw [merged_mk]; omega, Nat.le_of_eq (mk_f (by decide) (by decide) (by decide) (by decide) (by decide)).symm⟩
theorem Mono.send {r : Nat} : Mono D (sendD D r) := ⟨Nat.le_of_eq (send_f (by decide) (by decide)).symm, Nat.le_of_eq (send_f (by decide) (by decide)).symm, Nat.le_of_eq (merged_congr (D' := sendD D r) (send_f (by decide) (by decide)) (fun s => send_f (by decide) (by decide))).symm, Nat.le_of_eq (send_f (by decide) (by decide)).symm⟩
theorem Mono.ord {k : Nat} : Mono D (ordD T C Ct D k).1 := by
  rcases ord_or (T := T) (C := C) (Ct := Ct) (D := D) (k := k) with h | ⟨h, -⟩ | ⟨b, n, v, m, h', -, -, -, -, h⟩
  · rw [h]; exact Mono.rf
  · rw [h]; exact Mono.send
  · rw [h]; exact Mono.mk'
theorem Mono.orF : ∀ k, Mono D (ordF T C Ct D k)
  | 0 => Mono.rf
  | k + 1 => by
    refine (Mono.orF k).trans (Mono.ord.trans (D1 := (ordD T C Ct (ordF T C Ct D k) k).1) ⟨?_, ?_, ?_, ?_⟩)
    · rw [ordF, ud_f (by decide)]; exact Nat.le_refl _
    · rw [ordF, ud_f (by decide)]; exact Nat.le_refl _
    · rw [ordF]; exact Nat.le_of_eq (merged_congr (ud_f (by decide)) (fun s => ud_f (by decide))).symm
    · have := (ord_3 (T := T) (C := C) (Ct := Ct) (D := ordF T C Ct D k) (k := k)).1
      rw [ordF, ud_self, this]; omega
theorem Mono.hang {b s : Nat} : Mono D (hangD T D b s) := ⟨Nat.le_of_eq (hg_f (by decide) (by decide) (by decide) (by decide) (by decide)).symm, by
    have : hangD T D b s 2 0 0 = D 2 0 0 + 1 := by unfold hangD; exact ud_self
    omega, Nat.le_of_eq (merged_congr (D' := hangD T D b s) (hg_f (by decide) (by decide) (by decide) (by decide) (by decide)) (fun s' => hg_f (by decide) (by decide) (by decide) (by decide) (by decide))).symm, Nat.le_of_eq (hg_f (by decide) (by decide) (by decide) (by decide) (by decide)).symm⟩
theorem Mono.ho1 {b : Nat} : ∀ k, Mono D (hoF T D b k)
  | 0 => Mono.rf
  | k + 1 => by
    have ih := @Mono.ho1 b k
    rw [hoF]
    split
    · exact ih.trans Mono.hang
    · exact ih
theorem Mono.ho2 : ∀ k, Mono D (hoA T D k)
  | 0 => Mono.rf
  | k + 1 => (Mono.ho2 k).trans (Mono.ho1 _)
theorem Mono.br : Mono D (brA D (T 2 0)) := ⟨Nat.le_of_eq (brA_f (by decide) (by decide) _).symm, Nat.le_of_eq (brA_f (by decide) (by decide) _).symm, Nat.le_of_eq (merged_congr (D' := brA D (T 2 0)) (brA_f (by decide) (by decide) _) (fun s => brA_f (by decide) (by decide) _)).symm, Nat.le_of_eq (brA_f (by decide) (by decide) _).symm⟩
theorem Mono.u0 {v : Nat} : Mono D (ud D 0 0 0 v) := ⟨Nat.le_of_eq (ud_f (by decide)).symm, Nat.le_of_eq (ud_f (by decide)).symm, Nat.le_of_eq (merged_congr (D' := ud D 0 0 0 v) (ud_f (by decide)) (fun s => ud_f (by decide))).symm, Nat.le_of_eq (ud_f (by decide)).symm⟩
theorem Mono.u9 {r v : Nat} : Mono D (ud D 9 r 0 v) := ⟨Nat.le_of_eq (ud_f (by decide)).symm, Nat.le_of_eq (ud_f (by decide)).symm, Nat.le_of_eq (merged_congr (D' := ud D 9 r 0 v) (ud_f (by decide)) (fun s => ud_f (by decide))).symm, Nat.le_of_eq (ud_f (by decide)).symm⟩
theorem Mono.days : ∀ k, Mono D (daysD T C Ct D k)
  | 0 => Mono.rf
  | k + 1 => (Mono.days k).trans (((Mono.orF _).trans Mono.br).trans ((Mono.ho2 _).trans Mono.u0))
/-- what is done -/
noncomputable def actD (T : PT) (C Ct : Nat → List Op) (D : DT) (x : Int32) : DT :=
  if belowN x 11 ≤ 2 then (if D 1 0 0 = 60 then D else wrD T D (belowN (x >>> ((3 : Int32) &&& 31)) (T 0 0)) (belowN (x >>> ((5 : Int32) &&& 31)) (T 1 0)) (belowN (x >>> ((6 : Int32) &&& 31)) 10000))
  else if belowN x 11 = 3 then (if (shL D (belowN (x >>> ((3 : Int32) &&& 31)) (T 0 0)) (belowN (x >>> ((5 : Int32) &&& 31)) (T 1 0))).length = 1 ∧ D 1 0 0 < 60 then noD T D (belowN (x >>> ((3 : Int32) &&& 31)) (T 0 0)) (belowN (x >>> ((5 : Int32) &&& 31)) (T 1 0)) (belowN (x >>> ((6 : Int32) &&& 31)) 16) else D)
  else if belowN x 11 ≤ 5 then (if 2 ≤ (shL D (belowN (x >>> ((3 : Int32) &&& 31)) (T 0 0)) (belowN (x >>> ((5 : Int32) &&& 31)) (T 1 0))).length ∧ D 1 0 0 < 60 then meD T D (belowN (x >>> ((3 : Int32) &&& 31)) (T 0 0)) (belowN (x >>> ((5 : Int32) &&& 31)) (T 1 0)) (belowN (x >>> ((6 : Int32) &&& 31)) 3) else D)
  else if belowN x 11 ≤ 7 then sendD D (belowN (x >>> ((4 : Int32) &&& 31)) (T 2 0))
  else if belowN x 11 = 8 then ud D 9 (belowN (x >>> ((4 : Int32) &&& 31)) (T 2 0)) 0 (1 + belowN (x >>> ((7 : Int32) &&& 31)) 9)
  else daysD T C Ct D (1 + belowN (x >>> ((4 : Int32) &&& 31)) 5)
theorem act_mono : Mono D (actD T C Ct D x) := by
  unfold actD
  split
  · split
    · exact Mono.rf
    · exact Mono.mk'
  · split
    · split
      · exact Mono.mk'
      · exact Mono.rf
    · split
      · split
        · exact Mono.mk'
        · exact Mono.rf
      · split
        · exact Mono.send
        · split
          · exact Mono.u9
          · exact Mono.days _
end SU
