set_option maxRecDepth 1000000 in
theorem zt_m2 : (zt_is (ev_run zt_tab 16 127 [2] zt_V2 [] 47) 39183057349386101269 zt_V2 && zt_many (ev_run zt_tab 16 127 [2] zt_V2 [] 47) 16566) = true := by decide +kernel
