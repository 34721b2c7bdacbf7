def Inv (A I : Nat → Nat → Int32) : Prop := A = A ∧ I = I
