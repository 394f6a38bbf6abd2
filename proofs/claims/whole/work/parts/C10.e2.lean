/-! words of seven crossings, by program -/
theorem e7_85 : e7p 85 4 = true := by decide +kernel
theorem e7_89 : e7p 89 3 = true := by decide +kernel
theorem e7_92 : e7p 92 2 = true := by decide +kernel
theorem e7_94 : e7p 94 7 = true := by decide +kernel
theorem e7_101 : e7p 101 9 = true := by decide +kernel
theorem e7_110 : e7p 110 5 = true := by decide +kernel
theorem e7_115 : e7p 115 5 = true := by decide +kernel
theorem e7_120 : e7p 120 8 = true := by decide +kernel
theorem e7_128 : e7p 128 5 = true := by decide +kernel
theorem e7_133 : e7p 133 4 = true := by decide +kernel
theorem e7_137 : e7p 137 2 = true := by decide +kernel
theorem e7_139 : e7p 139 4 = true := by decide +kernel
