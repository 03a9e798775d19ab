/-! the code's tables, checked by the kernel -/
theorem zck_165 : (List.range' 165 6).all zchM = true := by decide +kernel
theorem zck_171 : (List.range' 171 8).all zchM = true := by decide +kernel
theorem zck_179 : (List.range' 179 4).all zchM = true := by decide +kernel
theorem zck_183 : (List.range' 183 4).all zchM = true := by decide +kernel
theorem zck_187 : (List.range' 187 3).all zchM = true := by decide +kernel
theorem zck_190 : (List.range' 190 4).all zchM = true := by decide +kernel
theorem zck_194 : (List.range' 194 5).all zchM = true := by decide +kernel
theorem zck_199 : (List.range' 199 6).all zchM = true := by decide +kernel
