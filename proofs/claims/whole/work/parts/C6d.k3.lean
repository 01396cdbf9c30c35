/-! ===== the kernel runs the making ===== -/
set_option maxRecDepth 100000 in
theorem all_ok3 : chk2 6 350 350 qAll = true := by decide +kernel
