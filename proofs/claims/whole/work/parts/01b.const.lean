def cI (a k : Nat) : Int32 := 0
def cR (a k : Nat) : Option Nat := none
