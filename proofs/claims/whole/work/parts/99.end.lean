theorem last_row : 1 = 1 := rfl
