set_option maxRecDepth 1000000 in
theorem zt_x1 : (zt_is (ev_run zt_tab 16 106 [2] zt_W1 [] 47) 39183057349386101269 zt_W2) = true := by decide +kernel
