theorem az_e0 : az_cok 0 = true := by decide +kernel
theorem az_e1 : az_cok 1 = true := by decide +kernel
theorem az_e2 : az_cok 2 = true := by decide +kernel
theorem az_e3 : az_cok 3 = true := by decide +kernel
theorem az_e4 : az_cok 4 = true := by decide +kernel
theorem az_e5 : az_cok 5 = true := by decide +kernel
theorem az_e6 : az_cok 6 = true := by decide +kernel
theorem az_aci : Cond.arrayClass .int ∈ az_ws := List.mem_filter.mpr ⟨List.mem_of_getElem? (i := 116) (by decide +kernel), rfl⟩
theorem az_acz : Cond.arrayClass .boolean ∈ az_ws := List.mem_filter.mpr ⟨List.mem_of_getElem? (i := 809) (by decide +kernel), rfl⟩
theorem az_oii : Cond.instanceMethod objectInit ∈ az_ws := List.mem_filter.mpr ⟨List.mem_of_getElem? (i := 79) (by decide +kernel), by decide +kernel⟩
theorem az_oic : Cond.code objectInit ⟨#[0xb1]⟩ 1 none ∈ az_ws := List.mem_filter.mpr ⟨List.mem_of_getElem? (i := 80) (by decide +kernel), by decide +kernel⟩
theorem az_mx1 : Cond.static Lib.Math.max.name ∈ az_ws := List.mem_filter.mpr ⟨List.mem_of_getElem? (i := 419) (by decide +kernel), by decide +kernel⟩
theorem az_mx2 : Cond.initialized "java/lang/Math" ∈ az_ws := List.mem_filter.mpr ⟨List.mem_of_getElem? (i := 70) (by decide +kernel), by decide +kernel⟩
theorem az_mx3 : Cond.code Lib.Math.max.name Lib.Math.max.code 2 (some .int) ∈ az_ws := List.mem_filter.mpr ⟨List.mem_of_getElem? (i := 420) (by decide +kernel), by decide +kernel⟩
