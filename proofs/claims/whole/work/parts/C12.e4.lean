/-! words of seven crossings, by program -/
theorem e7_184 : e7p 184 3 = true := by decide +kernel
theorem e7_187 : e7p 187 2 = true := by decide +kernel
theorem e7_189 : e7p 189 2 = true := by decide +kernel
theorem e7_191 : e7p 191 3 = true := by decide +kernel
theorem e7_194 : e7p 194 2 = true := by decide +kernel
theorem e7_196 : e7p 196 2 = true := by decide +kernel
theorem e7_198 : e7p 198 2 = true := by decide +kernel
theorem e7_200 : e7p 200 4 = true := by decide +kernel
theorem e7_204 : e7p 204 2 = true := by decide +kernel
theorem e7_206 : e7p 206 2 = true := by decide +kernel
