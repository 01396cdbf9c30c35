/-! ===== the kernel runs the making ===== -/
set_option maxRecDepth 100000 in
theorem all_ok1 : chk1 qAll = true := by decide +kernel
