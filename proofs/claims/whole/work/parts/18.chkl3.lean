theorem az_kL720 : (List.range' 720 48).all (az_ck1 0) = true := by decide +kernel
theorem az_kL768 : (List.range' 768 48).all (az_ck1 0) = true := by decide +kernel
theorem az_kL816 : (List.range' 816 48).all (az_ck1 0) = true := by decide +kernel
theorem az_kL864 : (List.range' 864 47).all (az_ck1 0) = true := by decide +kernel
