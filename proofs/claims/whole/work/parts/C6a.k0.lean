/-! ===== the kernel runs the making ===== -/
set_option maxRecDepth 100000 in
theorem all_ok0 : chk0 qAll = true := by decide +kernel
