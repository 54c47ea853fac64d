/-! what is kept from call to call -/
section NIA
variable {T : PT} {C Ct : Nat → List Op} {D : DT} {n L : Nat} {x1 x2 x3 : Int32}
theorem NI.step {D' : DT} (h : NI T C Ct D n) (hn : n + 1 ≤ 512) (hI : Inv T D') (h0 : D' 0 0 0 ≤ D 0 0 0 + 60) : NI T C Ct D' (n + 1) := ⟨hI, h.2.1, h.2.2.1, by have := h.2.2.2.1; omega, hn⟩
theorem NI.same (h : NI T C Ct D n) (hn : n + 1 ≤ 512) : NI T C Ct D (n + 1) := h.step hn h.1 (by omega)
theorem NI.mkK {b k v m w : Nat} (h : NI T C Ct D n) (hn : n + 1 ≤ 512) (h60 : D 1 0 0 < 60) (hb : b < T 0 0) (hk : k < T 1 0) (hv : v ≤ 9999) (hm : m < 65536) (hw : w ≤ 2) : NI T C Ct (mkD T D b k v m w) (n + 1) :=
  h.step hn (h.1.mk h60 hb hk hv hm hw) (by rw [mk_f (by decide) (by decide) (by decide) (by decide) (by decide)]; omega)
theorem NI.write (h : NI T C Ct D n) (hn : n + 1 ≤ 512) : NI T C Ct (dvWrite T D x1 x2 x3).2 (n + 1) := by
  have h60 := h.1.1.1.2.2.2.2.1
  have hN6 := h.1.1.1.2.1
  unfold dvWrite
  by_cases h1 : inR x1 (T 0 0) ∧ inR x2 (T 1 0)
  · rw [ifP_t h1]
    by_cases h2 : inR x3 10000
    · rw [ifP_t h2]
      by_cases h3 : D 1 0 0 = 60
      · rw [ifP_t h3]; exact h.same hn
      · rw [ifP_f h3]
        obtain ⟨a, ha, ha2, rfl⟩ := h1.1.ex
        obtain ⟨c, hc, hc2, rfl⟩ := h1.2.ex
        obtain ⟨v, hv, hv2, rfl⟩ := h2.ex
        rw [nI_clamp ha2, nI_clamp hc2, nI_clamp hv2]
        exact h.mkK hn (by omega) ha hc (by omega) (marksB_lt h.1.1 ha (by omega)) (by decide)
    · rw [ifP_f h2]; exact h.same hn
  · rw [ifP_f h1]; exact h.same hn
theorem NI.note (h : NI T C Ct D n) (hn : n + 1 ≤ 512) : NI T C Ct (dvNote T D x1 x2 x3).2 (n + 1) := by
  have h60 := h.1.1.1.2.2.2.2.1
  have hN6 := h.1.1.1.2.1
  unfold dvNote
  by_cases h1 : inR x1 (T 0 0) ∧ inR x2 (T 1 0)
  · rw [ifP_t h1]
    by_cases h2 : inR x3 16
    · rw [ifP_t h2]
      by_cases h3 : D 1 0 0 = 60
      · rw [ifP_t h3]; exact h.same hn
      · rw [ifP_f h3]
        by_cases h4 : (shL D x1.toNatClampNeg x2.toNatClampNeg).length = 1
        · rw [ifP_t h4]
          obtain ⟨a, ha, ha2, rfl⟩ := h1.1.ex
          obtain ⟨c, hc, hc2, rfl⟩ := h1.2.ex
          obtain ⟨v, hv, hv2, rfl⟩ := h2.ex
          rw [nI_clamp ha2, nI_clamp hc2, nI_clamp hv2]
          exact h.mkK hn (by omega) ha hc (valB_le h.1.1 ha (by omega)) (Nat.or_lt_two_pow (n := 16) (marksB_lt h.1.1 ha (by omega)) (Nat.pow_lt_pow_right (by decide) hv)) (by decide)
        · rw [ifP_f h4]; exact h.same hn
    · rw [ifP_f h2]; exact h.same hn
  · rw [ifP_f h1]; exact h.same hn
theorem NI.merge (h : NI T C Ct D n) (hn : n + 1 ≤ 512) : NI T C Ct (dvMerge T D x1 x2 x3).2 (n + 1) := by
  have h60 := h.1.1.1.2.2.2.2.1
  have hN6 := h.1.1.1.2.1
  unfold dvMerge
  by_cases h1 : inR x1 (T 0 0) ∧ inR x2 (T 1 0)
  · rw [ifP_t h1]
    by_cases h2 : inR x3 3
    · rw [ifP_t h2]
      by_cases h3 : D 1 0 0 = 60
      · rw [ifP_t h3]; exact h.same hn
      · rw [ifP_f h3]
        by_cases h4 : 2 ≤ (shL D x1.toNatClampNeg x2.toNatClampNeg).length
        · rw [ifP_t h4]
          obtain ⟨a, ha, ha2, rfl⟩ := h1.1.ex
          obtain ⟨c, hc, hc2, rfl⟩ := h1.2.ex
          obtain ⟨v, hv, hv2, rfl⟩ := h2.ex
          rw [nI_clamp ha2, nI_clamp hc2, nI_clamp hv2]
          exact h.mkK hn (by omega) ha hc (mergeV_le h.1.1 ha (by omega)) (marksB_lt h.1.1 ha (by omega)) (by decide)
        · rw [ifP_f h4]; exact h.same hn
    · rw [ifP_f h2]; exact h.same hn
  · rw [ifP_f h1]; exact h.same hn
theorem NI.sent (h : NI T C Ct D n) (hn : n + 1 ≤ 512) : NI T C Ct (dvSend T D x1).2 (n + 1) := by
  unfold dvSend
  by_cases h1 : inR x1 (T 2 0)
  · rw [ifP_t h1]
    obtain ⟨a, ha, ha2, rfl⟩ := h1.ex
    rw [nI_clamp ha2]
    show NI T C Ct (sendD D a) (n + 1)
    exact h.step hn (h.1.send ha) (by rw [send_f (by decide) (by decide)]; omega)
  · rw [ifP_f h1]; exact h.same hn
theorem NI.setDays (h : NI T C Ct D n) (hn : n + 1 ≤ 512) : NI T C Ct (dvSetDays T D x1 x2).2 (n + 1) := by
  unfold dvSetDays
  by_cases h1 : inR x1 (T 2 0)
  · rw [ifP_t h1]
    by_cases h2 : inN x2 9
    · rw [ifP_t h2]
      obtain ⟨v, hv2, rfl, hv3⟩ := nat_of (x := x2) (by have := h2.1; omega)
      have hv : 1 ≤ v ∧ v ≤ 9 := by
        have a1 := h2.1
        have a2 := h2.2
        rw [← hv3] at a1 a2
        omega
      rw [nI_clamp hv2]
      show NI T C Ct (ud D 9 x1.toNatClampNeg 0 v) (n + 1)
      exact h.step hn ⟨h.1.1.ud90 hv.1 hv.2, h.1.2.1.congr (fun _ _ => ud_f (by decide)) (fun _ _ => ud_f (by decide)), h.1.2.2.1.congr (ud_f (by decide)) (fun _ _ => ud_f (by decide)) (fun _ _ => ud_f (by decide)) (fun _ _ => ud_f (by decide)), h.1.2.2.2.congr (by rw [ud_f (by decide)]; exact Nat.le_refl _) (fun _ _ => ud_f (by decide))⟩ (by rw [ud_f (by decide)]; omega)
    · rw [ifP_f h2]; exact h.same hn
  · rw [ifP_f h1]; exact h.same hn
theorem NI.pass (h : NI T C Ct D n) (hn : n + 1 ≤ 512) : NI T C Ct (dvPass T C Ct D x1).2 (n + 1) := by
  have hdy := h.2.2.2
  unfold dvPass
  by_cases h1 : inN x1 60
  · rw [ifP_t h1]
    obtain ⟨v, hv2, rfl, hv3⟩ := nat_of (x := x1) (by have := h1.1; omega)
    have hv : v ≤ 60 := by have := h1.2; rw [← hv3] at this; omega
    rw [nI_clamp hv2]
    show NI T C Ct (daysD T C Ct D v) (n + 1)
    exact h.step hn (h.1.days h.2.1 v (by omega)) (by rw [daysD_0]; omega)
  · rw [ifP_f h1]; exact h.same hn
end NIA
/-! which things are thrown, and what the law makes of them -/
def exOK (l : List (Nat × Nat)) (r : RV) : Prop := ∀ z, r = Sum.inr z → z ∈ l
theorem exOK.ok {l : List (Nat × Nat)} {v : Int32} : exOK l (.ok v) := fun _ h => by cases h
theorem exOK.ex {l : List (Nat × Nat)} {k c : Nat} (h : (k, c) ∈ l) : exOK l (.ex k c) := fun _ e => by cases e; exact h
theorem exOK.ite {l : List (Nat × Nat)} {p : Prop} {a b : RV} (ha : exOK l a) (hb : exOK l b) : exOK l (ifP p a b) := by
  by_cases h : p
  · rw [ifP_t h]; exact ha
  · rw [ifP_f h]; exact hb
theorem exOK.ite2 {α : Type} {l : List (Nat × Nat)} {p : Prop} {a b : RV × α} (ha : exOK l a.1) (hb : exOK l b.1) : exOK l (ifP p a b).1 := by
  by_cases h : p
  · rw [ifP_t h]; exact ha
  · rw [ifP_f h]; exact hb
/-- what the law's own method leaves -/
def WO (rv : RV) (code : Int32) (μ : Mu) : Prop := match rv with
  | .inl v => code = 0 ∧ mL μ (hd 90 0) 0 = v.toInt64
  | .inr z => code = nI z.2
def OwE8 (κ i : Nat) : Prop := OwC8 κ i ∨ (κ = 90 ∧ i = 0)
theorem Fr.e8 {μ μ' : Mu} (h : Fr OwC8 μ μ') : Fr OwE8 μ μ' := h.mono (fun κ i z => Or.inl z)
theorem CI.e90 {μ : Mu} {T : PT} {C Ct : Nat → List Op} {D : DT} {t : Nat → Nat} {L : Nat} {x : Int32} {k : Nat} {v : Int64} (h : CI μ T C Ct D t L x) : CI (setL μ (hd 90 0) k v) T C Ct D t L x := h.tr (EqR.rf.sL (by decide) (by decide) (Or.inr (by decide)))
theorem rv_ok {rv : RV} {v : Int32} (h : some (Value.int v) = rv.c) : rv = Sum.inl v := by
  rcases rv with w | z
  · have : Value.int v = Value.int w := Option.some.inj h
    cases this; rfl
  · have : Value.int v = Value.float (UInt32.ofNat z.1) := Option.some.inj h
    cases this
theorem u3_inj : ∀ a, a < 3 → ∀ b, b < 3 → UInt32.ofNat a = UInt32.ofNat b → a = b := by decide
theorem rv_ex {rv : RV} {k : Nat} {l : List (Nat × Nat)} (h : some (Value.float (UInt32.ofNat k)) = rv.c) (hk : k < 3) (hl : exOK l rv) (hl3 : ∀ z ∈ l, z.1 < 3) : ∃ c, (k, c) ∈ l ∧ rv = Sum.inr (k, c) := by
  rcases rv with w | ⟨a, c⟩
  · have : Value.float (UInt32.ofNat k) = Value.int w := Option.some.inj h
    cases this
  · have h1 := hl (a, c) rfl
    have h2 : Value.float (UInt32.ofNat k) = Value.float (UInt32.ofNat a) := Option.some.inj h
    have h3 : UInt32.ofNat k = UInt32.ofNat a := by injection h2
    have h4 := u3_inj k hk a (hl3 _ h1) h3
    subst h4
    exact ⟨c, h1, rfl⟩
