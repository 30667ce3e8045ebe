theorem az_kL240 : (List.range' 240 48).all (az_ck1 0) = true := by decide +kernel
theorem az_kL288 : (List.range' 288 48).all (az_ck1 0) = true := by decide +kernel
theorem az_kL336 : (List.range' 336 48).all (az_ck1 0) = true := by decide +kernel
theorem az_kL384 : (List.range' 384 48).all (az_ck1 0) = true := by decide +kernel
theorem az_kL432 : (List.range' 432 48).all (az_ck1 0) = true := by decide +kernel
