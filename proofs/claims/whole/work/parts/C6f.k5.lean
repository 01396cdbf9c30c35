/-! ===== the kernel runs the making ===== -/
set_option maxRecDepth 100000 in
theorem all_ok5 : chk2 99 350 350 qAll = true := by decide +kernel
