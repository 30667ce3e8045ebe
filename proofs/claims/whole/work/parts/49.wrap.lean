/-! the operations in one form -/
section WRAP
variable {sc : az_S} {G G1 : az_H} {B x m : Nat} {V Vm : Nat → Int32} {A Am : Nat → Nat → Int32} {R : Nat → Nat → Option Nat} {S : wS} {ti ci : Nat → Nat}
theorem ou_count (h : iC G B V A R S ti ci) (hS : wW S) (hm : iM Vm Am S) (y : Int32) : opU (az_ca sc iX5_count [.ref x, .int y] (clG G x V A R)) (az_ca sc iX6_count [.ref m, .int y] (mdG G1 m Vm Am)) G G1 B x m S := by
  obtain ⟨v, e1, e2⟩ := op_count (sc := sc) (G1 := G1) (x := x) (m := m) h hm y
  exact opU_n h hS hm v e1 e2
theorem ou_leg (h : iC G B V A R S ti ci) (hS : wW S) (hm : iM Vm Am S) (y : Int32) : opU (az_ca sc iX5_leg [.ref x, .int y] (clG G x V A R)) (az_ca sc iX6_leg [.ref m, .int y] (mdG G1 m Vm Am)) G G1 B x m S := by
  obtain ⟨v, e1, e2⟩ := op_leg (sc := sc) (G1 := G1) (x := x) (m := m) h hS hm y
  exact opU_n h hS hm v e1 e2
theorem ou_wayOf (h : iC G B V A R S ti ci) (hB : x + 22 ≤ B) (hS : wW S) (hm : iM Vm Am S) (y a b : Int32) : opU (az_ca sc iX5_wayOf [.ref x, .int y, .int a, .int b] (clG G x V A R)) (az_ca sc iX6_wayOf [.ref m, .int y, .int a, .int b] (mdG G1 m Vm Am)) G G1 B x m S := by
  obtain ⟨v, e1, e2⟩ := op_wayOf (sc := sc) (G1 := G1) (x := x) (m := m) h hB hS hm y a b
  exact opU_n h hS hm v e1 e2
theorem ou_end (h : iC G B V A R S ti ci) (hB : x + 22 ≤ B) (hS : wW S) (hm : iM Vm Am S) (y a b : Int32) : opU (az_ca sc iX5_end [.ref x, .int y, .int a, .int b] (clG G x V A R)) (az_ca sc iX6_end [.ref m, .int y, .int a, .int b] (mdG G1 m Vm Am)) G G1 B x m S := by
  obtain ⟨v, e1, e2⟩ := op_end (sc := sc) (G1 := G1) (x := x) (m := m) h hB hS hm y a b
  exact opU_n h hS hm v e1 e2
theorem ou_gives (h : iC G B V A R S ti ci) (hB : x + 22 ≤ B) (hS : wW S) (hm : iM Vm Am S) (y a : Int32) : opU (az_ca sc iX5_gives [.ref x, .int y, .int a] (clG G x V A R)) (az_ca sc iX6_gives [.ref m, .int y, .int a] (mdG G1 m Vm Am)) G G1 B x m S := by
  obtain ⟨v, e1, e2⟩ := op_gives (sc := sc) (G1 := G1) (x := x) (m := m) h hB hS hm y a
  exact opU_n h hS hm v e1 e2
theorem ou_about (h : iC G B V A R S ti ci) (hB : x + 22 ≤ B) (hS : wW S) (hm : iM Vm Am S) (y a : Int32) : opU (az_ca sc iX5_about [.ref x, .int y, .int a] (clG G x V A R)) (az_ca sc iX6_about [.ref m, .int y, .int a] (mdG G1 m Vm Am)) G G1 B x m S := by
  obtain ⟨v, e1, e2⟩ := op_about (sc := sc) (G1 := G1) (x := x) (m := m) h hB hS hm y a
  exact opU_n h hS hm v e1 e2
theorem ou_fault (h : iC G B V A R S ti ci) (hB : x + 22 ≤ B) (hS : wW S) (hm : iM Vm Am S) (y a : Int32) : opU (az_ca sc iX5_fault [.ref x, .int y, .int a] (clG G x V A R)) (az_ca sc iX6_fault [.ref m, .int y, .int a] (mdG G1 m Vm Am)) G G1 B x m S := by
  obtain ⟨v, A', Am', e1, e2, e3, e4⟩ := op_fault (sc := sc) (G1 := G1) (x := x) (m := m) h hB hS hm y a
  exact ⟨v, G, V, A', R, Vm, Am', S, ti, ci, e1, e2, e3, e4, hS, fun _ _ => rfl, rfl, rfl⟩
theorem ou_close (h : iC G B V A R S ti ci) (hB : x + 22 ≤ B) (hS : wW S) (hm : iM Vm Am S) (y : Int32) : opU (az_ca sc iX5_close [.ref x, .int y] (clG G x V A R)) (az_ca sc iX6_close [.ref m, .int y] (mdG G1 m Vm Am)) G G1 B x m S := by
  obtain ⟨v, G', A', Am', S', e1, e2, e3, e4, e5, e6, e7, e8, e9⟩ := op_close (sc := sc) (G1 := G1) (x := x) (m := m) h hB hS hm y
  exact ⟨v, G', V, A', R, Vm, Am', S', ti, ci, e1, e2, e3, e4, e5, e6, by rw [e7, e8, e9], by rw [e7, e8, e9]⟩
theorem ou_arrow (h : iC G B V A R S ti ci) (hB : x + 22 ≤ B) (hS : wW S) (hm : iM Vm Am S) (y a b : Int32) : opU (az_ca sc iX5_arrow [.ref x, .int y, .int a, .int b] (clG G x V A R)) (az_ca sc iX6_arrow [.ref m, .int y, .int a, .int b] (mdG G1 m Vm Am)) G G1 B x m S := by
  obtain ⟨v, G', Am', S', e1, e2, e3, e4, e5, e6, e7, e8, e9⟩ := op_arrow (sc := sc) (G1 := G1) (x := x) (m := m) h hB hS hm y a b
  exact ⟨v, G', V, A, R, Vm, Am', S', ti, ci, e1, e2, e3, e4, e5, e6, by rw [e7, e8, e9], by rw [e7, e8, e9]⟩
theorem ou_way (h : iC G B V A R S ti ci) (hB : x + 22 ≤ B) (hS : wW S) (hm : iM Vm Am S) (y a b c : Int32) : opU (az_ca sc iX5_way [.ref x, .int y, .int a, .int b, .int c] (clG G x V A R)) (az_ca sc iX6_way [.ref m, .int y, .int a, .int b, .int c] (mdG G1 m Vm Am)) G G1 B x m S := by
  obtain ⟨v, G', Am', S', e1, e2, e3, e4, e5, e6, e7, e8, e9⟩ := op_way (sc := sc) (G1 := G1) (x := x) (m := m) h hB hS hm y a b c
  exact ⟨v, G', V, A, R, Vm, Am', S', ti, ci, e1, e2, e3, e4, e5, e6, by rw [e7, e8, e9], by rw [e7, e8, e9]⟩
theorem ou_table (h : iC G B V A R S ti ci) (hB : x + 22 ≤ B) (hS : wW S) (hm : iM Vm Am S) (y : Int32) : opU (az_ca sc iX5_table [.ref x, .int y] (clG G x V A R)) (az_ca sc iX6_table [.ref m, .int y] (mdG G1 m Vm Am)) G G1 B x m S := by
  obtain ⟨v, G', V', R', Vm', Am', S', ti', e1, e2, e3, e4, e5, e6, e7, e8, e9⟩ := op_table (sc := sc) (G1 := G1) (x := x) (m := m) h hB hS hm y
  exact ⟨v, G', V', A, R', Vm', Am', S', ti', ci, e1, e2, e3, e4, e5, e6, by rw [e9]; omega, by rw [e9]; omega⟩
end WRAP
