/-! words of seven crossings, by program -/
theorem e7_0 : e7p 0 13 = true := by decide +kernel
theorem e7_13 : e7p 13 10 = true := by decide +kernel
theorem e7_23 : e7p 23 6 = true := by decide +kernel
theorem e7_29 : e7p 29 6 = true := by decide +kernel
theorem e7_35 : e7p 35 12 = true := by decide +kernel
theorem e7_47 : e7p 47 9 = true := by decide +kernel
theorem e7_56 : e7p 56 6 = true := by decide +kernel
theorem e7_62 : e7p 62 5 = true := by decide +kernel
theorem e7_67 : e7p 67 6 = true := by decide +kernel
theorem e7_73 : e7p 73 4 = true := by decide +kernel
theorem e7_77 : e7p 77 4 = true := by decide +kernel
theorem e7_81 : e7p 81 4 = true := by decide +kernel
