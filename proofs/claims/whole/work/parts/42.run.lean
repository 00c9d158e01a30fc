/-! ===== the search is run ===== -/
set_option maxRecDepth 100000 in
theorem gk_run : gk_go 6 0 [] [] 0 = true := by decide +kernel
