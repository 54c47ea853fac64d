/-! things are made: frames -/
section FRS
variable {own own' : Nat → Nat → Prop} {μ μ' μ'' : Mu}
end FRS
section CSA
variable {μ : Mu} {a b k j x y κ i κ' i' : Nat} {v : Int32} {sh : Nat × Nat}
end CSA
