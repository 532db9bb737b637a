theorem hd_probe : (1 : Nat) = 1 := rfl
