theorem tt2 : (1:Nat) = 1 := rfl
