/-! the check of the tables, method by method -/
theorem ck_157 : zo_157.all (dzCk 157) = true := by decide +kernel
theorem ck_158 : zo_158.all (dzCk 158) = true := by decide +kernel
theorem ck_159 : zo_159.all (dzCk 159) = true := by decide +kernel
theorem ck_160 : zo_160.all (dzCk 160) = true := by decide +kernel
