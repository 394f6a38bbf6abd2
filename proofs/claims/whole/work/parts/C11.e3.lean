/-! words of seven crossings, by program -/
theorem e7_143 : e7p 143 5 = true := by decide +kernel
theorem e7_148 : e7p 148 6 = true := by decide +kernel
theorem e7_154 : e7p 154 3 = true := by decide +kernel
theorem e7_157 : e7p 157 2 = true := by decide +kernel
theorem e7_159 : e7p 159 2 = true := by decide +kernel
theorem e7_161 : e7p 161 4 = true := by decide +kernel
theorem e7_165 : e7p 165 3 = true := by decide +kernel
theorem e7_168 : e7p 168 3 = true := by decide +kernel
theorem e7_171 : e7p 171 3 = true := by decide +kernel
theorem e7_174 : e7p 174 4 = true := by decide +kernel
theorem e7_178 : e7p 178 2 = true := by decide +kernel
theorem e7_180 : e7p 180 4 = true := by decide +kernel
