section OPBE
variable {sc : az_S} {G G1 : az_H} {B x m : Nat} {V Vm : Nat → Int32} {A Am : Nat → Nat → Int32} {R : Nat → Nat → Option Nat} {S : wS} {ti ci : Nat → Nat}
theorem op_beside (h : iC G B V A R S ti ci) (hB : x + 22 ≤ B) (hS : wW S) (hm : iM Vm Am S) (y1 y2 : Int32) : opU (az_ca sc iX5_beside [.ref x, .int y1, .int y2] (clG G x V A R)) (az_ca sc iX6_beside [.ref m, .int y1, .int y2] (mdG G1 m Vm Am)) G G1 B x m S := by
  have h8 := hS.1
  rcases ix_c y1 (n := sN S) (by omega) with ⟨i, hi, rfl⟩ | hy1
  · rcases ix_c y2 (n := sN S) (by omega) with ⟨j, hj, rfl⟩ | hy2
    · have hT := h.tabc (x := x) hB hi V A R
      have hU := h.tabc (x := x) hB hj V A R
      have wTT := hS.tw hi
      have wU := hS.tw hj
      rcases wTT.c01 with hc | hc
      · refine opU_n h hS hm (-3) ?_ ?_
        · rw [eX5_beside, cl_rc0, s_tableAt h hS hi, bR_s, cl_rc0, s_tableAt h hS hj, bR_s, tb_f2 hT, hc, if_pos (by decide)]
        · rw [eX6_beside, md_rc, m_isTableT hm hS hi, bI_s, if_neg (by decide), md_rc, m_isTableT hm hS hj, bI_s, if_pos (by decide), md_r1, md_a1 (by omega), md_r1, md_a1 (by omega), md_r3, md_a3 (by omega), hm.1.c hi, hc, if_pos (by decide)]
      · rcases wU.c01 with hd | hd
        · refine opU_n h hS hm (-3) ?_ ?_
          · rw [eX5_beside, cl_rc0, s_tableAt h hS hi, bR_s, cl_rc0, s_tableAt h hS hj, bR_s, tb_f2 hT, hc, if_neg (by decide), tb_f2 hU, hd, if_neg (by decide)]
          · rw [eX6_beside, md_rc, m_isTableT hm hS hi, bI_s, if_neg (by decide), md_rc, m_isTableT hm hS hj, bI_s, if_pos (by decide), md_r1, md_a1 (by omega), md_r1, md_a1 (by omega), md_r3, md_a3 (by omega), hm.1.c hi, hc, if_neg (by decide), md_r3, md_a3 (by omega), hm.1.c hj, hd, if_pos (by decide)]
        · have hN : tN (sT S i) * tN (sT S j) ≤ 6 * 6 := Nat.mul_le_mul wTT.n6 wU.n6
          have hK : tK (sT S i) * tK (sT S j) ≤ 24 * 24 := Nat.mul_le_mul wTT.k24 wU.k24
          have c5 : az_ca sc iX5_beside [.ref x, .int (nI i), .int (nI j)] (clG G x V A R) = (if (6 : Int32) < nI (tN (sT S i) * tN (sT S j)) then some (some (.int (-3)), clG G x V A R) else (if nI (tK (sT S i) * tK (sT S j)) ≤ (24 : Int32) then (if nI (sN S) < (8 : Int32) then az_bR (az_ca sc iX5_tableBeside [.ref (ti i), .ref (ti j)] (clG G x V A R)) (fun G14 => (az_rc G14 x 5 (az_bI (az_ca sc iX5_keepTable [.ref x, .null] G14) fun x17 G16 => (some (some (.int x17), G16))))) (fun r15 G14 => (az_rc G14 x 5 (az_bI (az_ca sc iX5_keepTable [.ref x, .ref r15] G14) fun x19 G18 => (some (some (.int x19), G18))))) else some (some (.int (-4)), clG G x V A R)) else some (some (.int (-3)), clG G x V A R))) := by
            rw [eX5_beside, cl_rc0, s_tableAt h hS hi, bR_s, cl_rc0, s_tableAt h hS hj, bR_s, tb_f2 hT, hc, if_neg (by decide), tb_f2 hU, hd, if_pos (by decide), tb_f0 hT, tb_f0 hU, tb_f1 hT, tb_f1 hU, pk_mul, pk_mul, cl0_i11, h.1]
          have c6 : az_ca sc iX6_beside [.ref m, .int (nI i), .int (nI j)] (mdG G1 m Vm Am) = (if (6 : Int32) < nI (tN (sT S i) * tN (sT S j)) then some (some (.int (-3)), mdG G1 m Vm Am) else (if nI (tK (sT S i) * tK (sT S j)) ≤ (24 : Int32) then (if ¬ nI (sN S) = (8 : Int32) then az_rc (mdG G1 m Vm Am) m 6 (az_bV (az_ca sc iX6_begins [.ref m, .int (nI (tN (sT S i) * tN (sT S j)))] (mdG G1 m Vm Am)) fun G19 => az_rn sc iX6_beside 64 [some (.ref m), some (.int (nI i)), some (.int (nI j)), some (.int (nI (tN (sT S i)))), some (.int (nI (tN (sT S j)))), some (.int (nI (sN S))), some (.int 0), none, none, none, none] [] G19) else some (some (.int (-4)), mdG G1 m Vm Am)) else some (some (.int (-3)), mdG G1 m Vm Am))) := by
            rw [eX6_beside, md_rc, m_isTableT hm hS hi, bI_s, if_neg (by decide), md_rc, m_isTableT hm hS hj, bI_s, if_pos (by decide), md_r1, md_a1 (by omega), hm.1.o hi, md_r1, md_a1 (by omega), hm.1.o hj, md_r3, md_a3 (by omega), hm.1.c hi, hc, if_neg (by decide), md_r3, md_a3 (by omega), hm.1.c hj, hd, if_neg (by decide), md_r2, md_a2 (by omega), hm.1.a hi, md_r2, md_a2 (by omega), hm.1.a hj, pk_mul, pk_mul, md_i0, hm.1.1, md_i0, hm.1.1]
          by_cases h6 : tN (sT S i) * tN (sT S j) ≤ 6
          · have g6 : ¬ (6 : Int32) < nI (tN (sT S i) * tN (sT S j)) := show ¬ nI 6 < nI (tN (sT S i) * tN (sT S j)) from nI_nlt h6 (by omega)
            by_cases h24 : tK (sT S i) * tK (sT S j) ≤ 24
            · have g24 : nI (tK (sT S i) * tK (sT S j)) ≤ (24 : Int32) := show nI (tK (sT S i) * tK (sT S j)) ≤ nI 24 from nI_le h24 (by omega)
              by_cases hk : sN S < 8
              · have ht := (h.2.2.2.2.2.2.1 i hi).2.2.2
                have hu := (h.2.2.2.2.2.2.1 j hj).2.2.2
                obtain ⟨A1, e1, e2, e3⟩ := m_begins (sc := sc) (G := G1) (m := m) hm.1 hk (be_n1 wTT wU) h6
                obtain ⟨A2, e4, e5, e6⟩ := m_besideL (sc := sc) (G := G1) (m := m) e2 wTT wU (hS.told hi hc) (hS.told hj hd) h6 h24 hi hj rfl rfl
                have hW := beF_W wTT wU h6 h24 rfl (hS.told hi hc) (hS.told hj hd)
                refine opU_p (Am' := A2) h hS hm hk hW.1 (fun _ => hW.2) ?_ ?_ e5 (fun r hr => (e6 r hr).trans (e3 r (by omega)))
                · rw [c5, if_neg g6, if_pos g24, if_pos (lt8 hk), s_tableBe hT hU ht hu wTT wU (hS.told hi hc) (hS.told hj hd) h6 h24, bR_s, e9_cl h hB, cl_rc0, s_keepP h hB hk, bI_s]
                · rw [c6, if_neg g6, if_pos g24, if_pos (ne8 hk), md_rc, e1, bV_s]
                  exact e4
              · have hk' : sN S = 8 := by omega
                refine opU_n h hS hm (-4) ?_ ?_
                · rw [c5, if_neg g6, if_pos g24, hk', if_neg (by decide)]
                · rw [c6, if_neg g6, if_pos g24, hk', if_neg (by decide)]
            · have g24 : ¬ nI (tK (sT S i) * tK (sT S j)) ≤ (24 : Int32) := show ¬ nI (tK (sT S i) * tK (sT S j)) ≤ nI 24 from nI_ge (by omega) (by omega)
              refine opU_n h hS hm (-3) ?_ ?_
              · rw [c5, if_neg g6, if_neg g24]
              · rw [c6, if_neg g6, if_neg g24]
          · have g6 : (6 : Int32) < nI (tN (sT S i) * tN (sT S j)) := show nI 6 < nI (tN (sT S i) * tN (sT S j)) from nI_lt (by omega) (by omega)
            refine opU_n h hS hm (-3) ?_ ?_
            · rw [c5, if_pos g6]
            · rw [c6, if_pos g6]
    · refine opU_n h hS hm (-2) ?_ ?_
      · rw [eX5_beside, cl_rc0, s_tableAt h hS hi, bR_s, cl_rc0, s_tableAtN h hy2, bR_0]
      · rw [eX6_beside, md_rc, m_isTableT hm hS hi, bI_s, if_neg (by decide), md_rc, m_isTableN hm hS hy2, bI_s, if_neg (by decide)]
  · refine opU_n h hS hm (-2) ?_ ?_
    · rcases ix_c y2 (n := sN S) (by omega) with ⟨j, hj, rfl⟩ | hy2
      · rw [eX5_beside, cl_rc0, s_tableAtN h hy1, bR_0, cl_rc0, s_tableAt h hS hj, bR_s]
      · rw [eX5_beside, cl_rc0, s_tableAtN h hy1, bR_0, cl_rc0, s_tableAtN h hy2, bR_0]
    · rw [eX6_beside, md_rc, m_isTableN hm hS hy1, bI_s, if_pos (by decide)]
end OPBE
