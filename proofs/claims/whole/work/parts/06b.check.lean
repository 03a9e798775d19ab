/-! the code's tables, checked by the kernel -/
theorem zck_0 : (List.range' 0 8).all zchM = true := by decide +kernel
theorem zck_8 : (List.range' 8 15).all zchM = true := by decide +kernel
theorem zck_23 : (List.range' 23 9).all zchM = true := by decide +kernel
theorem zck_32 : (List.range' 32 12).all zchM = true := by decide +kernel
theorem zck_44 : (List.range' 44 20).all zchM = true := by decide +kernel
theorem zck_64 : (List.range' 64 17).all zchM = true := by decide +kernel
theorem zck_81 : (List.range' 81 3).all zchM = true := by decide +kernel
theorem zck_84 : (List.range' 84 7).all zchM = true := by decide +kernel
