/-! the search, run by the kernel: boards of 5 and 6 files -/
theorem bo_5_3 : eng 5 3 = true := by decide +kernel
theorem bo_5_4 : eng 5 4 = true := by decide +kernel
theorem bo_5_5 : eng 5 5 = true := by decide +kernel
theorem bo_5_6 : eng 5 6 = true := by decide +kernel
theorem bo_5_7 : eng 5 7 = true := by decide +kernel
theorem bo_5_8 : eng 5 8 = true := by decide +kernel
theorem bo_6_3 : eng 6 3 = true := by decide +kernel
theorem bo_6_4 : eng 6 4 = true := by decide +kernel
theorem bo_6_5 : eng 6 5 = true := by decide +kernel
theorem bo_6_6 : eng 6 6 = true := by decide +kernel
theorem bo_6_7 : eng 6 7 = true := by decide +kernel
theorem bo_6_8 : eng 6 8 = true := by decide +kernel
