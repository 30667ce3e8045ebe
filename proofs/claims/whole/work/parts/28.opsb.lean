/-! OPERATION about -/
theorem sw_out (ts : List Nat) {y : Int32} {n : Nat} (hl : ts.length = n + 1) (hn : n < 2 ^ 31) (h : y < 0 ∨ nI n ≤ y) : az_sw ts 0 y = ts.getLastD 0 := by
  unfold az_sw
  rw [if_pos]
  rcases h with h | h
  · left
    rw [Int32.lt_iff_toInt_lt] at h
    exact h
  · right
    rw [Int32.le_iff_toInt_le, nI_toInt hn] at h
    rw [hl]
    omega
section OPSB
variable {sc : az_S} {G G1 : az_H} {B x m : Nat} {V Vm : Nat → Int32} {A Am : Nat → Nat → Int32} {R : Nat → Nat → Option Nat} {S : wS} {ti ci : Nat → Nat}
theorem op_about (h : iC G B V A R S ti ci) (hB : x + 22 ≤ B) (hS : wW S) (hm : iM Vm Am S) (y a : Int32) : ∃ v : Int32, az_ca sc iX5_about [.ref x, .int y, .int a] (clG G x V A R) = some (some (.int v), clG G x V A R) ∧ az_ca sc iX6_about [.ref m, .int y, .int a] (mdG G1 m Vm Am) = some (some (.int v), mdG G1 m Vm Am) := by
  have h8 := hS.1
  rw [eX5_about, eX6_about, cl_rc0, md_rc]
  rcases ix_c y (n := sN S) (by omega) with ⟨i, hi, rfl⟩ | hy
  · have hT := h.tabc (x := x) hB hi V A R
    have hw := hS.tw hi
    have hk := hw.k24
    rw [s_tableAt h hS hi, bR_s, m_isTableT hm hS hi, bI_s, if_neg (by decide), bX5_about_9]
    rcases ix_c a (n := 5) (by omega) with ⟨j, hj, rfl⟩ | ha
    · have hin : az_ca sc iX6_in [.int (nI j), .int 0, .int 4] (mdG G1 m Vm Am) = some (some (.int 1), mdG G1 m Vm Am) := m_inN (n := 5) (by omega) hj
      rw [hin, bI_s, if_pos (by decide), bX6_about_14]
      match j, hj with
      | 0, _ =>
        refine ⟨nI (tN (sT S i)), ?_, ?_⟩
        · rw [show az_sw [10, 13, 16, 23, 26, 34] 0 (nI 0) = 10 from rfl, bX5_about_10, tb_f0 hT]
        · rw [show az_sw [15, 20, 25, 34, 77] 0 (nI 0) = 15 from rfl, bX6_about_15, md_r1, md_a1 (by omega), hm.1.o hi]
      | 1, _ =>
        refine ⟨nI (tK (sT S i)), ?_, ?_⟩
        · rw [show az_sw [10, 13, 16, 23, 26, 34] 0 (nI 1) = 13 from rfl, bX5_about_13, tb_f1 hT]
        · rw [show az_sw [15, 20, 25, 34, 77] 0 (nI 1) = 20 from rfl, bX6_about_20, md_r2, md_a2 (by omega), hm.1.a hi]
      | 2, _ =>
        refine ⟨tC (sT S i), ?_, ?_⟩
        · rw [show az_sw [10, 13, 16, 23, 26, 34] 0 (nI 2) = 16 from rfl, bX5_about_16, tb_f2 hT]
          rcases hw.c01 with e | e <;> rw [e] <;> rfl
        · rw [show az_sw [15, 20, 25, 34, 77] 0 (nI 2) = 25 from rfl, bX6_about_25, md_r3, md_a3 (by omega), hm.1.c hi]
          rcases hw.c01 with e | e <;> rw [e] <;> rfl
      | 3, _ =>
        refine ⟨nI (r2 (sT S i)), ?_, ?_⟩
        · rw [show az_sw [10, 13, 16, 23, 26, 34] 0 (nI 3) = 23 from rfl, bX5_about_23, tb_rc hT, s_rowsOfTwo hT hw, bI_s]
        · rw [show az_sw [15, 20, 25, 34, 77] 0 (nI 3) = 34 from rfl, bX6_about_34, md_r1, md_a1 (by omega), hm.1.o hi, m_rows2 hm.1 hi]
      | 4, _ =>
        rcases hw.c01 with e | e
        · refine ⟨-3, ?_, ?_⟩
          · rw [show az_sw [10, 13, 16, 23, 26, 34] 0 (nI 4) = 26 from rfl, bX5_about_26, tb_f2 hT, e, if_pos rfl]
          · have := hw.n1
            have := hw.nk
            rw [show az_sw [15, 20, 25, 34, 77] 0 (nI 4) = 77 from rfl, bX6_about_77, bX6_about_79, md_r2, md_a2 (by omega), hm.1.a hi, if_neg (show ¬ nI (tK (sT S i)) ≤ (0 : Int32) from nI_ge (a := 0) (by omega) (by omega)), md_r3, md_a3 (by omega), hm.1.c hi, e, if_pos rfl, md_r3, md_a3 (by omega), hm.1.c hi, e, if_pos rfl]
        · refine ⟨nI (ctB (bk (sT S i)) (tK (sT S i))), ?_, ?_⟩
          · rw [show az_sw [10, 13, 16, 23, 26, 34] 0 (nI 4) = 26 from rfl, bX5_about_26, tb_f2 hT, e, if_neg (by decide), tb_rc hT, s_arrowsWithBack hT hw, bI_s]
          · rw [show az_sw [15, 20, 25, 34, 77] 0 (nI 4) = 77 from rfl, bX6_about_77, m_backs hm.1 hi e (hS.told hi e)]
    · refine ⟨-2, ?_, ?_⟩
      · rw [sw_out _ (n := 5) rfl (by omega) ha]
        exact bX5_about_34 _ _ _ _ _ _
      · have hin : az_ca sc iX6_in [.int a, .int 0, .int 4] (mdG G1 m Vm Am) = some (some (.int 0), mdG G1 m Vm Am) := m_inO (n := 5) (by omega) ha
        rw [hin, bI_s, if_neg (by decide)]
  · refine ⟨-2, ?_, ?_⟩
    · rw [s_tableAtN h hy, bR_0]
    · rw [m_isTableN hm hS hy, bI_s, if_pos rfl]
end OPSB
