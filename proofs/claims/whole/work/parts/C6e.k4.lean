/-! ===== the kernel runs the making ===== -/
set_option maxRecDepth 100000 in
theorem all_ok4 : chk2 99 0 350 qAll = true := by decide +kernel
