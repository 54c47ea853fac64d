/-! nine times, and the same answers -/
section LJ
variable {d rc rs : Nat} {Q : Option Value → Mu → Prop} {μ μ' : Mu} {T : PT} {D D' E : DT} {C Ct : Nat → List Op} {OO : Nat → Nat → Nat} {Λ : List Ld} {t : Nat → Nat} {L c n w Ls : Nat} {x e : Int32}
set_option maxRecDepth 100000 in
theorem law_44z (h1P : 1 ≤ T 0 0) (h1N : 1 ≤ T 1 0) (h1R : 1 ≤ T 2 0) (hO10 : T 6 0 ≤ 10) (hA : OAll T C Ct OO) (hD : 112 ≤ d) (hQ : ∀ μ', St μ' → Q (some (.int 1)) μ')
    (hL : LSt μ T C Ct OO D Λ c n t 0 e w Ls) (hn : n + 18 ≤ 500) (b1 : 71795 + pot 11 1 T D ≤ rc) (b2 : 2367485 + pot 4880 481 T D ≤ rs) :
    Wx K_LW_law d rc rs Q 44 [(0, .ref (hd 6 0)), (2, .ref (hd 100 0)), (3, .ref (hd 8 0)), (4, .ref (hd 134 w)), (5, .int 0)] [] μ := by
  refine law_44 (R1 := 866) (R2 := 27539) h1P h1N h1R hO10 hA hD (fun μ2 D2 Λ2 c2 n2 rc2 rs2 hL2 hn2 e1 e2 => ?_) 0 (Nat.zero_le _) μ D Λ c n rc rs hL (by omega) (by omega) (by omega)
  obtain ⟨⟨S, Cc, R, LL, P⟩, N3, W3, hsc, hLs⟩ := hL2
  refine r_LW_law_44 (by omega) ⟨fun _ => ⟨866, 27539, ⟨by omega, by omega⟩, R.1.1, c_SI_isSame S Cc R LL P N3.1.1 h1P (by omega) (Nat.le_refl _) (Nat.le_refl _) (fun μ3 c3 h3 g3 S3 => ⟨_, rfl, Or.inr rfl, hQ μ3 S3⟩)⟩, fun h => absurd (Int32.le_refl _) h⟩
end LJ
