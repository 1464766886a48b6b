-- deps: 26a 9k
/-! The law before its program: a fresh class. -/
theorem lawA_v : (f_L_lawA wC0).map (fun w => w.1 1 1) = some 0 := by decide +kernel
