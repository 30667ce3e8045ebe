theorem az_k0 : az_chk 0 = true := by decide +kernel
