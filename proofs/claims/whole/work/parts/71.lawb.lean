/-! THE LAW's kinds, one by one -/
section LAWB
variable {sc : az_S} {x m c0 s0 : Nat} {K : az_H} {v3 : Int32}
set_option maxRecDepth 100000 in
theorem lw_22 (hx : x + 22 < m) (hK : lwS x m c0 s0 K) (h1 : ¬ ((v3 + 1) < 0 ∨ sc.2.1 ≤ Int32.toNatClampNeg (v3 + 1))) : ∃ K2, az_rn sc iL_law 22 [some (.ref sc.1), some (.ref x), some (.ref m), some (.int v3)] [] K = az_rn sc iL_law 907 [some (.ref sc.1), some (.ref x), some (.ref m), some (.int v3)] [] K2 ∧ lwS x m c0 s0 K2 := by
  obtain ⟨v, K1, K2, e1, e2, r5, r6, hK2⟩ := lw_op (c5 := fun K => az_ca sc iX5_table [.ref x, .int (sc.2.2 (Int32.toNatClampNeg (v3 + 1)))] K) (c6 := fun K => az_ca sc iX6_table [.ref m, .int (sc.2.2 (Int32.toNatClampNeg (v3 + 1)))] K) hx (fun G G1 V A R Vm Am S ti ci h hS hm => ou_table h (show x + 22 ≤ m + 24 by omega) hS hm _) hK
  refine ⟨K2, ?_, hK2⟩
  rw [bL_law_22, if_pos ⟨rfl, h1⟩, r5, e1, bI_s, if_pos ⟨rfl, h1⟩, r6, e2, bI_s, if_pos rfl]
set_option maxRecDepth 100000 in
theorem lw_39 (hx : x + 22 < m) (hK : lwS x m c0 s0 K) (h1 : ¬ ((v3 + 1) < 0 ∨ sc.2.1 ≤ Int32.toNatClampNeg (v3 + 1))) (h2 : ¬ ((v3 + 2) < 0 ∨ sc.2.1 ≤ Int32.toNatClampNeg (v3 + 2))) (h3 : ¬ ((v3 + 3) < 0 ∨ sc.2.1 ≤ Int32.toNatClampNeg (v3 + 3))) : ∃ K2, az_rn sc iL_law 39 [some (.ref sc.1), some (.ref x), some (.ref m), some (.int v3)] [] K = az_rn sc iL_law 907 [some (.ref sc.1), some (.ref x), some (.ref m), some (.int v3)] [] K2 ∧ lwS x m c0 s0 K2 := by
  obtain ⟨v, K1, K2, e1, e2, r5, r6, hK2⟩ := lw_op (c5 := fun K => az_ca sc iX5_arrow [.ref x, .int (sc.2.2 (Int32.toNatClampNeg (v3 + 1))), .int (sc.2.2 (Int32.toNatClampNeg (v3 + 2))), .int (sc.2.2 (Int32.toNatClampNeg (v3 + 3)))] K) (c6 := fun K => az_ca sc iX6_arrow [.ref m, .int (sc.2.2 (Int32.toNatClampNeg (v3 + 1))), .int (sc.2.2 (Int32.toNatClampNeg (v3 + 2))), .int (sc.2.2 (Int32.toNatClampNeg (v3 + 3)))] K) hx (fun G G1 V A R Vm Am S ti ci h hS hm => ou_arrow h (show x + 22 ≤ m + 24 by omega) hS hm _ _ _) hK
  refine ⟨K2, ?_, hK2⟩
  rw [bL_law_39, if_pos ⟨rfl, h1⟩, if_pos ⟨rfl, h2⟩, if_pos ⟨rfl, h3⟩, r5, e1, bI_s, if_pos ⟨rfl, h1⟩, if_pos ⟨rfl, h2⟩, if_pos ⟨rfl, h3⟩, r6, e2, bI_s, if_pos rfl]
set_option maxRecDepth 100000 in
theorem lw_76 (hx : x + 22 < m) (hK : lwS x m c0 s0 K) (h1 : ¬ ((v3 + 1) < 0 ∨ sc.2.1 ≤ Int32.toNatClampNeg (v3 + 1))) (h2 : ¬ ((v3 + 2) < 0 ∨ sc.2.1 ≤ Int32.toNatClampNeg (v3 + 2))) (h3 : ¬ ((v3 + 3) < 0 ∨ sc.2.1 ≤ Int32.toNatClampNeg (v3 + 3))) (h4 : ¬ ((v3 + 4) < 0 ∨ sc.2.1 ≤ Int32.toNatClampNeg (v3 + 4))) : ∃ K2, az_rn sc iL_law 76 [some (.ref sc.1), some (.ref x), some (.ref m), some (.int v3)] [] K = az_rn sc iL_law 907 [some (.ref sc.1), some (.ref x), some (.ref m), some (.int v3)] [] K2 ∧ lwS x m c0 s0 K2 := by
  obtain ⟨v, K1, K2, e1, e2, r5, r6, hK2⟩ := lw_op (c5 := fun K => az_ca sc iX5_way [.ref x, .int (sc.2.2 (Int32.toNatClampNeg (v3 + 1))), .int (sc.2.2 (Int32.toNatClampNeg (v3 + 2))), .int (sc.2.2 (Int32.toNatClampNeg (v3 + 3))), .int (sc.2.2 (Int32.toNatClampNeg (v3 + 4)))] K) (c6 := fun K => az_ca sc iX6_way [.ref m, .int (sc.2.2 (Int32.toNatClampNeg (v3 + 1))), .int (sc.2.2 (Int32.toNatClampNeg (v3 + 2))), .int (sc.2.2 (Int32.toNatClampNeg (v3 + 3))), .int (sc.2.2 (Int32.toNatClampNeg (v3 + 4)))] K) hx (fun G G1 V A R Vm Am S ti ci h hS hm => ou_way h (show x + 22 ≤ m + 24 by omega) hS hm _ _ _ _) hK
  refine ⟨K2, ?_, hK2⟩
  rw [bL_law_76, if_pos ⟨rfl, h1⟩, if_pos ⟨rfl, h2⟩, if_pos ⟨rfl, h3⟩, if_pos ⟨rfl, h4⟩, r5, e1, bI_s, if_pos ⟨rfl, h1⟩, if_pos ⟨rfl, h2⟩, if_pos ⟨rfl, h3⟩, if_pos ⟨rfl, h4⟩, r6, e2, bI_s, if_pos rfl]
set_option maxRecDepth 100000 in
theorem lw_123 (hx : x + 22 < m) (hK : lwS x m c0 s0 K) (h1 : ¬ ((v3 + 1) < 0 ∨ sc.2.1 ≤ Int32.toNatClampNeg (v3 + 1))) : ∃ K2, az_rn sc iL_law 123 [some (.ref sc.1), some (.ref x), some (.ref m), some (.int v3)] [] K = az_rn sc iL_law 907 [some (.ref sc.1), some (.ref x), some (.ref m), some (.int v3)] [] K2 ∧ lwS x m c0 s0 K2 := by
  obtain ⟨v, K1, K2, e1, e2, r5, r6, hK2⟩ := lw_op (c5 := fun K => az_ca sc iX5_close [.ref x, .int (sc.2.2 (Int32.toNatClampNeg (v3 + 1)))] K) (c6 := fun K => az_ca sc iX6_close [.ref m, .int (sc.2.2 (Int32.toNatClampNeg (v3 + 1)))] K) hx (fun G G1 V A R Vm Am S ti ci h hS hm => ou_close h (show x + 22 ≤ m + 24 by omega) hS hm _) hK
  refine ⟨K2, ?_, hK2⟩
  rw [bL_law_123, if_pos ⟨rfl, h1⟩, r5, e1, bI_s, if_pos ⟨rfl, h1⟩, r6, e2, bI_s, if_pos rfl]
set_option maxRecDepth 100000 in
theorem lw_140 (hx : x + 22 < m) (hK : lwS x m c0 s0 K) (h1 : ¬ ((v3 + 1) < 0 ∨ sc.2.1 ≤ Int32.toNatClampNeg (v3 + 1))) (h2 : ¬ ((v3 + 2) < 0 ∨ sc.2.1 ≤ Int32.toNatClampNeg (v3 + 2))) : ∃ K2, az_rn sc iL_law 140 [some (.ref sc.1), some (.ref x), some (.ref m), some (.int v3)] [] K = az_rn sc iL_law 907 [some (.ref sc.1), some (.ref x), some (.ref m), some (.int v3)] [] K2 ∧ lwS x m c0 s0 K2 := by
  obtain ⟨v, K1, K2, e1, e2, r5, r6, hK2⟩ := lw_op (c5 := fun K => az_ca sc iX5_fault [.ref x, .int (sc.2.2 (Int32.toNatClampNeg (v3 + 1))), .int (sc.2.2 (Int32.toNatClampNeg (v3 + 2)))] K) (c6 := fun K => az_ca sc iX6_fault [.ref m, .int (sc.2.2 (Int32.toNatClampNeg (v3 + 1))), .int (sc.2.2 (Int32.toNatClampNeg (v3 + 2)))] K) hx (fun G G1 V A R Vm Am S ti ci h hS hm => ou_fault h (show x + 22 ≤ m + 24 by omega) hS hm _ _) hK
  refine ⟨K2, ?_, hK2⟩
  rw [bL_law_140, if_pos ⟨rfl, h1⟩, if_pos ⟨rfl, h2⟩, r5, e1, bI_s, if_pos ⟨rfl, h1⟩, if_pos ⟨rfl, h2⟩, r6, e2, bI_s, if_pos rfl]
set_option maxRecDepth 100000 in
theorem lw_167 (hx : x + 22 < m) (hK : lwS x m c0 s0 K) (h1 : ¬ ((v3 + 1) < 0 ∨ sc.2.1 ≤ Int32.toNatClampNeg (v3 + 1))) (h2 : ¬ ((v3 + 2) < 0 ∨ sc.2.1 ≤ Int32.toNatClampNeg (v3 + 2))) (h3 : ¬ ((v3 + 3) < 0 ∨ sc.2.1 ≤ Int32.toNatClampNeg (v3 + 3))) : ∃ K2, az_rn sc iL_law 167 [some (.ref sc.1), some (.ref x), some (.ref m), some (.int v3)] [] K = az_rn sc iL_law 907 [some (.ref sc.1), some (.ref x), some (.ref m), some (.int v3)] [] K2 ∧ lwS x m c0 s0 K2 := by
  obtain ⟨v, K1, K2, e1, e2, r5, r6, hK2⟩ := lw_op (c5 := fun K => az_ca sc iX5_order [.ref x, .int (sc.2.2 (Int32.toNatClampNeg (v3 + 1))), .long (((Int32.toInt64 (sc.2.2 (Int32.toNatClampNeg (v3 + 2)))) <<< (Int32.toInt64 32 &&& 63)) ||| ((Int32.toInt64 (sc.2.2 (Int32.toNatClampNeg (v3 + 3)))) &&& 4294967295))] K) (c6 := fun K => az_ca sc iX6_order [.ref m, .int (sc.2.2 (Int32.toNatClampNeg (v3 + 1))), .long (((Int32.toInt64 (sc.2.2 (Int32.toNatClampNeg (v3 + 2)))) <<< (Int32.toInt64 32 &&& 63)) ||| ((Int32.toInt64 (sc.2.2 (Int32.toNatClampNeg (v3 + 3)))) &&& 4294967295))] K) hx (fun G G1 V A R Vm Am S ti ci h hS hm => op_order h (show x + 22 ≤ m + 24 by omega) hS hm _ _) hK
  refine ⟨K2, ?_, hK2⟩
  rw [bL_law_167, if_pos ⟨rfl, h1⟩, if_pos ⟨rfl, h2⟩, if_pos ⟨rfl, h3⟩, r5, e1, bI_s, if_pos ⟨rfl, h1⟩, if_pos ⟨rfl, h2⟩, if_pos ⟨rfl, h3⟩, r6, e2, bI_s, if_pos rfl]
set_option maxRecDepth 100000 in
theorem lw_218 (hx : x + 22 < m) (hK : lwS x m c0 s0 K) (h1 : ¬ ((v3 + 1) < 0 ∨ sc.2.1 ≤ Int32.toNatClampNeg (v3 + 1))) : ∃ K2, az_rn sc iL_law 218 [some (.ref sc.1), some (.ref x), some (.ref m), some (.int v3)] [] K = az_rn sc iL_law 907 [some (.ref sc.1), some (.ref x), some (.ref m), some (.int v3)] [] K2 ∧ lwS x m c0 s0 K2 := by
  obtain ⟨v, K1, K2, e1, e2, r5, r6, hK2⟩ := lw_op (c5 := fun K => az_ca sc iX5_turned [.ref x, .int (sc.2.2 (Int32.toNatClampNeg (v3 + 1)))] K) (c6 := fun K => az_ca sc iX6_turned [.ref m, .int (sc.2.2 (Int32.toNatClampNeg (v3 + 1)))] K) hx (fun G G1 V A R Vm Am S ti ci h hS hm => op_turned h (show x + 22 ≤ m + 24 by omega) hS hm _) hK
  refine ⟨K2, ?_, hK2⟩
  rw [bL_law_218, if_pos ⟨rfl, h1⟩, r5, e1, bI_s, if_pos ⟨rfl, h1⟩, r6, e2, bI_s, if_pos rfl]
set_option maxRecDepth 100000 in
theorem lw_262 (hx : x + 22 < m) (hK : lwS x m c0 s0 K) (h1 : ¬ ((v3 + 1) < 0 ∨ sc.2.1 ≤ Int32.toNatClampNeg (v3 + 1))) (h2 : ¬ ((v3 + 2) < 0 ∨ sc.2.1 ≤ Int32.toNatClampNeg (v3 + 2))) : ∃ K2, az_rn sc iL_law 262 [some (.ref sc.1), some (.ref x), some (.ref m), some (.int v3)] [] K = az_rn sc iL_law 907 [some (.ref sc.1), some (.ref x), some (.ref m), some (.int v3)] [] K2 ∧ lwS x m c0 s0 K2 := by
  obtain ⟨v, K1, K2, e1, e2, r5, r6, hK2⟩ := lw_op (c5 := fun K => az_ca sc iX5_about [.ref x, .int (sc.2.2 (Int32.toNatClampNeg (v3 + 1))), .int (sc.2.2 (Int32.toNatClampNeg (v3 + 2)))] K) (c6 := fun K => az_ca sc iX6_about [.ref m, .int (sc.2.2 (Int32.toNatClampNeg (v3 + 1))), .int (sc.2.2 (Int32.toNatClampNeg (v3 + 2)))] K) hx (fun G G1 V A R Vm Am S ti ci h hS hm => ou_about h (show x + 22 ≤ m + 24 by omega) hS hm _ _) hK
  refine ⟨K2, ?_, hK2⟩
  rw [bL_law_262, if_pos ⟨rfl, h1⟩, if_pos ⟨rfl, h2⟩, r5, e1, bI_s, if_pos ⟨rfl, h1⟩, if_pos ⟨rfl, h2⟩, r6, e2, bI_s, if_pos rfl]
set_option maxRecDepth 100000 in
theorem lw_289 (hx : x + 22 < m) (hK : lwS x m c0 s0 K) (h1 : ¬ ((v3 + 1) < 0 ∨ sc.2.1 ≤ Int32.toNatClampNeg (v3 + 1))) (h2 : ¬ ((v3 + 2) < 0 ∨ sc.2.1 ≤ Int32.toNatClampNeg (v3 + 2))) (h3 : ¬ ((v3 + 3) < 0 ∨ sc.2.1 ≤ Int32.toNatClampNeg (v3 + 3))) : ∃ K2, az_rn sc iL_law 289 [some (.ref sc.1), some (.ref x), some (.ref m), some (.int v3)] [] K = az_rn sc iL_law 907 [some (.ref sc.1), some (.ref x), some (.ref m), some (.int v3)] [] K2 ∧ lwS x m c0 s0 K2 := by
  obtain ⟨v, K1, K2, e1, e2, r5, r6, hK2⟩ := lw_op (c5 := fun K => az_ca sc iX5_end [.ref x, .int (sc.2.2 (Int32.toNatClampNeg (v3 + 1))), .int (sc.2.2 (Int32.toNatClampNeg (v3 + 2))), .int (sc.2.2 (Int32.toNatClampNeg (v3 + 3)))] K) (c6 := fun K => az_ca sc iX6_end [.ref m, .int (sc.2.2 (Int32.toNatClampNeg (v3 + 1))), .int (sc.2.2 (Int32.toNatClampNeg (v3 + 2))), .int (sc.2.2 (Int32.toNatClampNeg (v3 + 3)))] K) hx (fun G G1 V A R Vm Am S ti ci h hS hm => ou_end h (show x + 22 ≤ m + 24 by omega) hS hm _ _ _) hK
  refine ⟨K2, ?_, hK2⟩
  rw [bL_law_289, if_pos ⟨rfl, h1⟩, if_pos ⟨rfl, h2⟩, if_pos ⟨rfl, h3⟩, r5, e1, bI_s, if_pos ⟨rfl, h1⟩, if_pos ⟨rfl, h2⟩, if_pos ⟨rfl, h3⟩, r6, e2, bI_s, if_pos rfl]
set_option maxRecDepth 100000 in
theorem lw_326 (hx : x + 22 < m) (hK : lwS x m c0 s0 K) (h1 : ¬ ((v3 + 1) < 0 ∨ sc.2.1 ≤ Int32.toNatClampNeg (v3 + 1))) (h2 : ¬ ((v3 + 2) < 0 ∨ sc.2.1 ≤ Int32.toNatClampNeg (v3 + 2))) (h3 : ¬ ((v3 + 3) < 0 ∨ sc.2.1 ≤ Int32.toNatClampNeg (v3 + 3))) : ∃ K2, az_rn sc iL_law 326 [some (.ref sc.1), some (.ref x), some (.ref m), some (.int v3)] [] K = az_rn sc iL_law 907 [some (.ref sc.1), some (.ref x), some (.ref m), some (.int v3)] [] K2 ∧ lwS x m c0 s0 K2 := by
  obtain ⟨v, K1, K2, e1, e2, r5, r6, hK2⟩ := lw_op (c5 := fun K => az_ca sc iX5_wayOf [.ref x, .int (sc.2.2 (Int32.toNatClampNeg (v3 + 1))), .int (sc.2.2 (Int32.toNatClampNeg (v3 + 2))), .int (sc.2.2 (Int32.toNatClampNeg (v3 + 3)))] K) (c6 := fun K => az_ca sc iX6_wayOf [.ref m, .int (sc.2.2 (Int32.toNatClampNeg (v3 + 1))), .int (sc.2.2 (Int32.toNatClampNeg (v3 + 2))), .int (sc.2.2 (Int32.toNatClampNeg (v3 + 3)))] K) hx (fun G G1 V A R Vm Am S ti ci h hS hm => ou_wayOf h (show x + 22 ≤ m + 24 by omega) hS hm _ _ _) hK
  refine ⟨K2, ?_, hK2⟩
  rw [bL_law_326, if_pos ⟨rfl, h1⟩, if_pos ⟨rfl, h2⟩, if_pos ⟨rfl, h3⟩, r5, e1, bI_s, if_pos ⟨rfl, h1⟩, if_pos ⟨rfl, h2⟩, if_pos ⟨rfl, h3⟩, r6, e2, bI_s, if_pos rfl]
set_option maxRecDepth 100000 in
theorem lw_427 (hx : x + 22 < m) (hK : lwS x m c0 s0 K) (h1 : ¬ ((v3 + 1) < 0 ∨ sc.2.1 ≤ Int32.toNatClampNeg (v3 + 1))) (h2 : ¬ ((v3 + 2) < 0 ∨ sc.2.1 ≤ Int32.toNatClampNeg (v3 + 2))) : ∃ K2, az_rn sc iL_law 427 [some (.ref sc.1), some (.ref x), some (.ref m), some (.int v3)] [] K = az_rn sc iL_law 907 [some (.ref sc.1), some (.ref x), some (.ref m), some (.int v3)] [] K2 ∧ lwS x m c0 s0 K2 := by
  obtain ⟨v, K1, K2, e1, e2, r5, r6, hK2⟩ := lw_op (c5 := fun K => az_ca sc iX5_then [.ref x, .int (sc.2.2 (Int32.toNatClampNeg (v3 + 1))), .int (sc.2.2 (Int32.toNatClampNeg (v3 + 2)))] K) (c6 := fun K => az_ca sc iX6_then [.ref m, .int (sc.2.2 (Int32.toNatClampNeg (v3 + 1))), .int (sc.2.2 (Int32.toNatClampNeg (v3 + 2)))] K) hx (fun G G1 V A R Vm Am S ti ci h hS hm => op_then h (show x + 22 ≤ m + 24 by omega) hS hm _ _) hK
  refine ⟨K2, ?_, hK2⟩
  rw [bL_law_427, if_pos ⟨rfl, h1⟩, if_pos ⟨rfl, h2⟩, r5, e1, bI_s, if_pos ⟨rfl, h1⟩, if_pos ⟨rfl, h2⟩, r6, e2, bI_s, if_pos rfl]
set_option maxRecDepth 100000 in
theorem lw_454 (hx : x + 22 < m) (hK : lwS x m c0 s0 K) (h1 : ¬ ((v3 + 1) < 0 ∨ sc.2.1 ≤ Int32.toNatClampNeg (v3 + 1))) (h2 : ¬ ((v3 + 2) < 0 ∨ sc.2.1 ≤ Int32.toNatClampNeg (v3 + 2))) : ∃ K2, az_rn sc iL_law 454 [some (.ref sc.1), some (.ref x), some (.ref m), some (.int v3)] [] K = az_rn sc iL_law 907 [some (.ref sc.1), some (.ref x), some (.ref m), some (.int v3)] [] K2 ∧ lwS x m c0 s0 K2 := by
  obtain ⟨v, K1, K2, e1, e2, r5, r6, hK2⟩ := lw_op (c5 := fun K => az_ca sc iX5_told [.ref x, .int (sc.2.2 (Int32.toNatClampNeg (v3 + 1))), .int (sc.2.2 (Int32.toNatClampNeg (v3 + 2)))] K) (c6 := fun K => az_ca sc iX6_told [.ref m, .int (sc.2.2 (Int32.toNatClampNeg (v3 + 1))), .int (sc.2.2 (Int32.toNatClampNeg (v3 + 2)))] K) hx (fun G G1 V A R Vm Am S ti ci h hS hm => op_told h (show x + 22 ≤ m + 24 by omega) hS hm _ _) hK
  refine ⟨K2, ?_, hK2⟩
  rw [bL_law_454, if_pos ⟨rfl, h1⟩, if_pos ⟨rfl, h2⟩, r5, e1, bI_s, if_pos ⟨rfl, h1⟩, if_pos ⟨rfl, h2⟩, r6, e2, bI_s, if_pos rfl]
set_option maxRecDepth 100000 in
theorem lw_481 (hx : x + 22 < m) (hK : lwS x m c0 s0 K) (h1 : ¬ ((v3 + 1) < 0 ∨ sc.2.1 ≤ Int32.toNatClampNeg (v3 + 1))) (h2 : ¬ ((v3 + 2) < 0 ∨ sc.2.1 ≤ Int32.toNatClampNeg (v3 + 2))) : ∃ K2, az_rn sc iL_law 481 [some (.ref sc.1), some (.ref x), some (.ref m), some (.int v3)] [] K = az_rn sc iL_law 907 [some (.ref sc.1), some (.ref x), some (.ref m), some (.int v3)] [] K2 ∧ lwS x m c0 s0 K2 := by
  obtain ⟨v, K1, K2, e1, e2, r5, r6, hK2⟩ := lw_op (c5 := fun K => az_ca sc iX5_gives [.ref x, .int (sc.2.2 (Int32.toNatClampNeg (v3 + 1))), .int (sc.2.2 (Int32.toNatClampNeg (v3 + 2)))] K) (c6 := fun K => az_ca sc iX6_gives [.ref m, .int (sc.2.2 (Int32.toNatClampNeg (v3 + 1))), .int (sc.2.2 (Int32.toNatClampNeg (v3 + 2)))] K) hx (fun G G1 V A R Vm Am S ti ci h hS hm => ou_gives h (show x + 22 ≤ m + 24 by omega) hS hm _ _) hK
  refine ⟨K2, ?_, hK2⟩
  rw [bL_law_481, if_pos ⟨rfl, h1⟩, if_pos ⟨rfl, h2⟩, r5, e1, bI_s, if_pos ⟨rfl, h1⟩, if_pos ⟨rfl, h2⟩, r6, e2, bI_s, if_pos rfl]
set_option maxRecDepth 100000 in
theorem lw_626 (hx : x + 22 < m) (hK : lwS x m c0 s0 K) (h1 : ¬ ((v3 + 1) < 0 ∨ sc.2.1 ≤ Int32.toNatClampNeg (v3 + 1))) : ∃ K2, az_rn sc iL_law 626 [some (.ref sc.1), some (.ref x), some (.ref m), some (.int v3)] [] K = az_rn sc iL_law 907 [some (.ref sc.1), some (.ref x), some (.ref m), some (.int v3)] [] K2 ∧ lwS x m c0 s0 K2 := by
  obtain ⟨v, K1, K2, e1, e2, r5, r6, hK2⟩ := lw_op (c5 := fun K => az_ca sc iX5_leg [.ref x, .int (sc.2.2 (Int32.toNatClampNeg (v3 + 1)))] K) (c6 := fun K => az_ca sc iX6_leg [.ref m, .int (sc.2.2 (Int32.toNatClampNeg (v3 + 1)))] K) hx (fun G G1 V A R Vm Am S ti ci h hS hm => ou_leg h hS hm _) hK
  refine ⟨K2, ?_, hK2⟩
  rw [bL_law_626, if_pos ⟨rfl, h1⟩, r5, e1, bI_s, if_pos ⟨rfl, h1⟩, r6, e2, bI_s, if_pos rfl]
set_option maxRecDepth 100000 in
theorem lw_882 (hx : x + 22 < m) (hK : lwS x m c0 s0 K) (h1 : ¬ ((v3 + 1) < 0 ∨ sc.2.1 ≤ Int32.toNatClampNeg (v3 + 1))) : ∃ K2, az_rn sc iL_law 882 [some (.ref sc.1), some (.ref x), some (.ref m), some (.int v3)] [] K = az_rn sc iL_law 907 [some (.ref sc.1), some (.ref x), some (.ref m), some (.int v3)] [] K2 ∧ lwS x m c0 s0 K2 := by
  obtain ⟨v, K1, K2, e1, e2, r5, r6, hK2⟩ := lw_op (c5 := fun K => az_ca sc iX5_count [.ref x, .int (sc.2.2 (Int32.toNatClampNeg (v3 + 1)))] K) (c6 := fun K => az_ca sc iX6_count [.ref m, .int (sc.2.2 (Int32.toNatClampNeg (v3 + 1)))] K) hx (fun G G1 V A R Vm Am S ti ci h hS hm => ou_count h hS hm _) hK
  refine ⟨K2, ?_, hK2⟩
  rw [bL_law_882, if_pos ⟨rfl, h1⟩, r5, e1, bI_s, if_pos ⟨rfl, h1⟩, r6, e2, bI_s, if_pos rfl]
end LAWB
