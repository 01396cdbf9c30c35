/-! ===== the kernel runs the making ===== -/
set_option maxRecDepth 100000 in
theorem all_ok2 : chk2 6 0 350 qAll = true := by decide +kernel
