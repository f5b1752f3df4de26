/-! ===== the last part, small ===== -/
theorem sn_last : 1 = 1 := rfl
