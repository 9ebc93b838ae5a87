theorem x_test : 1 = 1 := rfl
