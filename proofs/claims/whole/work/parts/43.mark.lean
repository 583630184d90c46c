/-! here the machine level ends -/
theorem mark_43 : 1 + 1 = 2 := rfl
