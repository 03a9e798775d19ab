/-! the code's tables, checked by the kernel -/
theorem zck_205 : (List.range' 205 3).all zchM = true := by decide +kernel
theorem zck_208 : (List.range' 208 2).all zchM = true := by decide +kernel
theorem zck_210 : (List.range' 210 7).all zchM = true := by decide +kernel
theorem zck_217 : (List.range' 217 6).all zchM = true := by decide +kernel
theorem zck_223 : (List.range' 223 2).all zchM = true := by decide +kernel
