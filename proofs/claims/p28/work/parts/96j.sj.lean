/-! what was is made, and the law begins -/
section LK
variable {d rc rs : Nat} {Q : Option Value → Mu → Prop} {μ μ' : Mu} {T : PT} {D D' E : DT} {C Ct : Nat → List Op} {OO : Nat → Nat → Nat} {Λ : List Ld} {t : Nat → Nat} {L c n w Ls : Nat} {x e : Int32}
set_option maxRecDepth 100000 in
theorem law_was (h1P : 1 ≤ T 0 0) (h1N : 1 ≤ T 1 0) (h1R : 1 ≤ T 2 0) (hO10 : T 6 0 ≤ 10) (hA : OAll T C Ct OO) (hD : 112 ≤ d) (hQ : ∀ μ', St μ' → Q (some (.int 1)) μ')
    (S : St μ) (Cc : CI μ T C Ct D t 0 e) (R : SR μ T D OO c) (LL : LR μ Λ c) (P : LPd T D Λ) (N : NI T C Ct D n) (i2 : Iv T D) (cb : CBd D) (hsc : mS μ (hd 6 0) = (2, Ls)) (hLs : Ls ≤ 260) (hn : n + 18 ≤ 500) (b1 : 71796 + pot 11 1 T D ≤ rc) (b2 : 2367497 + pot 4880 481 T D ≤ rs) :
    (¬ (12 : Int32) < 0 ∧ 12 ≤ 1000000 ∧ 1 ≤ rc ∧ 12 ≤ rs) ∧ (∃ q13, FreN μ q13 ∧ Wx K_LW_law d (rc - 1) (rs - 12) Q 44 [(0, .ref (hd 6 0)), (2, .ref (hd 100 0)), (3, .ref (hd 8 0)), (4, .ref q13), (5, .int 0)] [] (mkA μ q13 (2, 12))) := by
  have fq : FreN μ (hd 134 c) := R.2.2.2.2.2.2.2.2.2.1.fr (by decide) (by decide)
  have f1 : FrS (Dy c (c + 1)) μ (mkA μ (hd 134 c) (2, 12)) := FrS.rf.mk (by decide) (by unfold Dy; omega)
  refine ⟨⟨by decide, by decide, by omega, by omega⟩, _, fq, law_44z h1P h1N h1R hO10 hA hD hQ ⟨⟨f1.st (fun κ i z => z.lo) S, Cc.dy f1, R.dy f1 (by omega), LL.fr2 f1 (by omega) (fun κ i z => Or.inr z), P⟩, ⟨N, i2, cb⟩, ⟨(by omega : c < c + 1), if_pos rfl, fun k hk => ⟨0, ?_, Nat.zero_le _⟩⟩, (f1.S (by decide) (by unfold Dy; omega)).trans hsc, hLs⟩ hn (by omega) (by omega)⟩
  rw [gI_h (by decide) (by decide), mI_mk, if_pos rfl]; rfl
end LK
