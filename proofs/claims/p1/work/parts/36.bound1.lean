/-! the search, run by the kernel: boards of 3 and 4 files -/
theorem bo_3_3 : eng 3 3 = true := by decide +kernel
theorem bo_3_4 : eng 3 4 = true := by decide +kernel
theorem bo_3_5 : eng 3 5 = true := by decide +kernel
theorem bo_3_6 : eng 3 6 = true := by decide +kernel
theorem bo_3_7 : eng 3 7 = true := by decide +kernel
theorem bo_3_8 : eng 3 8 = true := by decide +kernel
theorem bo_4_3 : eng 4 3 = true := by decide +kernel
theorem bo_4_4 : eng 4 4 = true := by decide +kernel
theorem bo_4_5 : eng 4 5 = true := by decide +kernel
theorem bo_4_6 : eng 4 6 = true := by decide +kernel
theorem bo_4_7 : eng 4 7 = true := by decide +kernel
theorem bo_4_8 : eng 4 8 = true := by decide +kernel
