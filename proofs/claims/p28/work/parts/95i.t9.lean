section LI
variable {d rc rs : Nat} {Q : Option Value → Mu → Prop} {μ μ' : Mu} {T : PT} {D D' E : DT} {C Ct : Nat → List Op} {OO : Nat → Nat → Nat} {Λ : List Ld} {t : Nat → Nat} {L c n w Ls : Nat} {x e : Int32}
set_option maxRecDepth 100000 in
/-- nine times, and what comes behind -/
theorem law_44 (h1P : 1 ≤ T 0 0) (h1N : 1 ≤ T 1 0) (h1R : 1 ≤ T 2 0) (hO10 : T 6 0 ≤ 10) (hA : OAll T C Ct OO) (hD : 112 ≤ d) {R1 R2 : Nat}
    (kk : ∀ μ D Λ c n rc rs, LSt μ T C Ct OO D Λ c n t L e w Ls → n ≤ 500 → R1 + pot 11 1 T D ≤ rc → R2 + pot 4880 481 T D ≤ rs → Wx K_LW_law d rc rs Q 44 [(0, .ref (hd 6 0)), (2, .ref (hd 100 0)), (3, .ref (hd 8 0)), (4, .ref (hd 134 w)), (5, .int (nI 9))] [] μ) :
    ∀ k, k ≤ 9 → ∀ μ D Λ c n rc rs, LSt μ T C Ct OO D Λ c n t L e w Ls → n + 2 * (9 - k) ≤ 500 → (9 - k) * 7881 + R1 + pot 11 1 T D ≤ rc → (9 - k) * 259994 + R2 + pot 4880 481 T D ≤ rs → Wx K_LW_law d rc rs Q 44 [(0, .ref (hd 6 0)), (2, .ref (hd 100 0)), (3, .ref (hd 8 0)), (4, .ref (hd 134 w)), (5, .int (nI k))] [] μ := by
  refine up_loop _ (fun μ D Λ c n rc rs hL hn b1 b2 => kk μ D Λ c n rc rs hL (by omega) (by omega) (by omega)) (fun k hk ih μ D Λ c n rc rs hL hn b1 b2 => ?_)
  obtain ⟨⟨S, Cc, R, LL, P⟩, N3, W3, hsc, hLs⟩ := id hL
  have hk9 : 9 - k = (9 - (k + 1)) + 1 := by omega
  rw [hk9, Nat.succ_mul] at b1 b2
  refine r_LW_law_44 (by omega) ⟨fun h => absurd ((nI_leI (a := 9) (b := k) (by decide) (by omega)).mp h) (by omega), fun _ => ?_⟩
  rw [show nI k + (2 : Int32) = nI (k + 2) by rw [show (2 : Int32) = nI 2 from rfl, nI_add]]
  refine c_cell hsc hLs (by omega) (by omega) S (fun y => ⟨_, rfl, ?_⟩)
  refine law_72 (M := 2 * (9 - (k + 1))) (R1 := (9 - (k + 1)) * 7881 + R1) (R2 := (9 - (k + 1)) * 259994 + R2) h1P h1N h1R hO10 hA hD (fun μ2 D2 Λ2 c2 n2 rc2 rs2 h1 h2 h3 h4 => ?_) 0 (Nat.zero_le _) μ D Λ c n rc rs hL (by omega) (by omega) (by omega)
  rw [nI_s]
  exact ih μ2 D2 Λ2 c2 n2 rc2 rs2 h1 (by omega) (by omega) (by omega)
end LI
