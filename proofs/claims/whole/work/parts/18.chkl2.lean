theorem az_kL480 : (List.range' 480 48).all (az_ck1 0) = true := by decide +kernel
theorem az_kL528 : (List.range' 528 48).all (az_ck1 0) = true := by decide +kernel
theorem az_kL576 : (List.range' 576 48).all (az_ck1 0) = true := by decide +kernel
theorem az_kL624 : (List.range' 624 48).all (az_ck1 0) = true := by decide +kernel
theorem az_kL672 : (List.range' 672 48).all (az_ck1 0) = true := by decide +kernel
