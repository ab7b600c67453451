/-! the search, run by the kernel: boards of 7 and 8 files -/
theorem bo_7_3 : eng 7 3 = true := by decide +kernel
theorem bo_7_4 : eng 7 4 = true := by decide +kernel
theorem bo_7_5 : eng 7 5 = true := by decide +kernel
theorem bo_7_6 : eng 7 6 = true := by decide +kernel
theorem bo_7_7 : eng 7 7 = true := by decide +kernel
theorem bo_7_8 : eng 7 8 = true := by decide +kernel
theorem bo_8_3 : eng 8 3 = true := by decide +kernel
theorem bo_8_4 : eng 8 4 = true := by decide +kernel
theorem bo_8_5 : eng 8 5 = true := by decide +kernel
theorem bo_8_6 : eng 8 6 = true := by decide +kernel
theorem bo_8_7 : eng 8 7 = true := by decide +kernel
theorem bo_8_8 : eng 8 8 = true := by decide +kernel
/-- no board has a distance of 60 or more -/
theorem bnd_all {F R : Nat} (hB : bd F R) : Bnd F R := by
  refine eng_ok hB ?_
  obtain ⟨h1, h2, h3, h4⟩ := hB
  rcases (show F = 3 ∨ F = 4 ∨ F = 5 ∨ F = 6 ∨ F = 7 ∨ F = 8 by omega) with rfl | rfl | rfl | rfl | rfl | rfl <;> rcases (show R = 3 ∨ R = 4 ∨ R = 5 ∨ R = 6 ∨ R = 7 ∨ R = 8 by omega) with rfl | rfl | rfl | rfl | rfl | rfl
  · exact bo_3_3
  · exact bo_3_4
  · exact bo_3_5
  · exact bo_3_6
  · exact bo_3_7
  · exact bo_3_8
  · exact bo_4_3
  · exact bo_4_4
  · exact bo_4_5
  · exact bo_4_6
  · exact bo_4_7
  · exact bo_4_8
  · exact bo_5_3
  · exact bo_5_4
  · exact bo_5_5
  · exact bo_5_6
  · exact bo_5_7
  · exact bo_5_8
  · exact bo_6_3
  · exact bo_6_4
  · exact bo_6_5
  · exact bo_6_6
  · exact bo_6_7
  · exact bo_6_8
  · exact bo_7_3
  · exact bo_7_4
  · exact bo_7_5
  · exact bo_7_6
  · exact bo_7_7
  · exact bo_7_8
  · exact bo_8_3
  · exact bo_8_4
  · exact bo_8_5
  · exact bo_8_6
  · exact bo_8_7
  · exact bo_8_8
