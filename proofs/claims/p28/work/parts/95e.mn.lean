/-! the mean is a number, and so is itself -/
theorem cmp_int (a : Int) : compare a a = .eq := by simp [compare, compareOfLessAndEq]
theorem cmp_self {y : UInt64} (h : FP.dIsNaN y = false) : Op.cmpValue (FP.dcmp y y) .l = 0 := by
  have h' : ¬ Jvm.FP.Core.decode Jvm.FP.Core.b64 y.toNat = Jvm.FP.Core.Datum.nan := of_decide_eq_false h
  show Op.cmpValue (Jvm.FP.Core.order (Jvm.FP.Core.decode Jvm.FP.Core.b64 y.toNat) (Jvm.FP.Core.decode Jvm.FP.Core.b64 y.toNat)) .l = 0
  generalize Jvm.FP.Core.decode Jvm.FP.Core.b64 y.toNat = z at h'
  cases z with
  | nan => exact absurd rfl h'
  | inf s =>
    show Op.cmpValue (some (compare _ _)) .l = 0
    rw [cmp_int]; rfl
  | fin s c q =>
    show Op.cmpValue (some (compare _ _)) .l = 0
    rw [cmp_int]; rfl
def mzB (k p : Nat) : Bool := !(FP.dIsNaN (FP.ddiv (FP.i2d (nI k)) (FP.i2d (nI p))))
def mzC (k : Nat) : Bool := mzB k 1 && (mzB k 2 && (mzB k 3 && (mzB k 4 && mzB k 5)))
theorem mz_all : allB (fun a => allB (fun b => mzC (Nat.add (Nat.mul 40 a) b)) 40) 38 = true := by decide +kernel
theorem mz_ok {k p : Nat} (hk : k < 1520) (hp : 1 ≤ p) (hp5 : p ≤ 5) : FP.dIsNaN (FP.ddiv (FP.i2d (nI k)) (FP.i2d (nI p))) = false := by
  have h := allB_ok _ (allB_ok _ mz_all (k / 40) (by omega)) (k % 40) (Nat.mod_lt _ (by decide))
  have e : Nat.add (Nat.mul 40 (k / 40)) (k % 40) = k := Nat.div_add_mod k 40
  rw [e] at h
  unfold mzC at h
  rw [Bool.and_eq_true, Bool.and_eq_true, Bool.and_eq_true, Bool.and_eq_true] at h
  obtain ⟨h1, h2, h3, h4, h5⟩ := h
  have g : ∀ p, mzB k p = true → FP.dIsNaN (FP.ddiv (FP.i2d (nI k)) (FP.i2d (nI p))) = false := fun p h => by
    unfold mzB at h
    simpa using h
  rcases (by omega : p = 1 ∨ p = 2 ∨ p = 3 ∨ p = 4 ∨ p = 5) with rfl | rfl | rfl | rfl | rfl
  · exact g _ h1
  · exact g _ h2
  · exact g _ h3
  · exact g _ h4
  · exact g _ h5
