theorem az_kL0 : (List.range' 0 48).all (az_ck1 0) = true := by decide +kernel
theorem az_kL48 : (List.range' 48 48).all (az_ck1 0) = true := by decide +kernel
theorem az_kL96 : (List.range' 96 48).all (az_ck1 0) = true := by decide +kernel
theorem az_kL144 : (List.range' 144 48).all (az_ck1 0) = true := by decide +kernel
theorem az_kL192 : (List.range' 192 48).all (az_ck1 0) = true := by decide +kernel
