/-! the code's tables, checked by the kernel -/
theorem zck_91 : (List.range' 91 9).all zchM = true := by decide +kernel
theorem zck_100 : (List.range' 100 10).all zchM = true := by decide +kernel
theorem zck_110 : (List.range' 110 6).all zchM = true := by decide +kernel
theorem zck_116 : (List.range' 116 8).all zchM = true := by decide +kernel
theorem zck_124 : (List.range' 124 9).all zchM = true := by decide +kernel
theorem zck_133 : (List.range' 133 13).all zchM = true := by decide +kernel
theorem zck_146 : (List.range' 146 16).all zchM = true := by decide +kernel
theorem zck_162 : (List.range' 162 3).all zchM = true := by decide +kernel
