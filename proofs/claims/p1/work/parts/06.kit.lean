theorem et_test : (1 : Nat) = 1 := rfl
