/-! numbers, as the component keeps them -/
theorem t32_n (n : Nat) : (Int64.ofNat n).toInt32 = nI n := by
  apply Int32.toBitVec_inj.mp
  have e1 : (Int64.ofNat n).toInt32.toBitVec = (BitVec.ofNat 64 n).signExtend 32 := rfl
  have e2 : (nI n).toBitVec = BitVec.ofNat 32 n := rfl
  rw [e1, e2]
  apply BitVec.eq_of_getLsbD_eq
  intro i hi
  rw [BitVec.getLsbD_signExtend, BitVec.getLsbD_ofNat, BitVec.getLsbD_ofNat, if_pos (by omega)]
  simp only [hi, decide_true, Bool.true_and, show i < 64 by omega]
