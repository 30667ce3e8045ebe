section ANSWE
variable {sc : az_S} {G G1 : az_H} {B x m : Nat} {V Vm : Nat → Int32} {A Am : Nat → Nat → Int32} {R : Nat → Nat → Option Nat} {S : wS} {ti ci : Nat → Nat}
theorem iM_V {V V' : Nat → Int32} {A : Nat → Nat → Int32} {S : wS} (h : iM V A S) (h0 : V' 0 = V 0) (h1 : V' 1 = V 1) (h2 : V' 2 = V 2) (h4 : V' 4 = V 4) : iM V' A S := by
  obtain ⟨⟨a0, a1⟩, a2, a3, a4, a5⟩ := h
  exact ⟨⟨h0.trans a0, a1⟩, h1.trans a2, h2.trans a3, h4.trans a4, a5⟩
theorem aw1_20 (A : Nat → Nat → Int32) (y : Nat) (v w : Int32) : aw1 A y v w 20 y = v := by
  unfold aw1
  rw [up_n _ _ (show 20 ≠ 21 by omega), up_s, upd_s]
theorem aw1_21 (A : Nat → Nat → Int32) (y : Nat) (v w : Int32) : aw1 A y v w 21 y = w := by
  unfold aw1
  rw [up_s, upd_s]
theorem aw1_22 (A : Nat → Nat → Int32) (y : Nat) (v w : Int32) : aw1 A y v w 22 = A 22 := by
  unfold aw1
  rw [up_n _ _ (show 22 ≠ 21 by omega), up_n _ _ (show 22 ≠ 20 by omega)]
theorem op_answer (h : iC G B V A R S ti ci) (hB : x + 22 ≤ B) (hS : wW S) (hm : iM Vm Am S) (y1 y2 y3 : Int32) : opU (az_ca sc iX5_answer [.ref x, .int y1, .int y2, .int y3] (clG G x V A R)) (az_ca sc iX6_answer [.ref m, .int y1, .int y2, .int y3] (mdG G1 m Vm Am)) G G1 B x m S := by
  have h24 := hS.2.1
  have h8 := hS.1
  rcases ix_c y1 (n := sM S) (by omega) with ⟨j, hj, rfl⟩ | hy
  · have cJ := h.car (x := x) hB hj V A R
    have hib := hS.cb hj
    have hwu := hS.tw hib
    have hu6 := hwu.n6
    have hU := h.tabc (x := x) hB hib V A R
    have mJ := hm.2.2.2.2.1 j hj
    rcases ix_c y2 (n := tN (sT S (cB S j))) (by omega) with ⟨y, hy, rfl⟩ | hy2
    · rcases ix_c y3 (n := 2) (by omega) with ⟨i, hi2, rfl⟩ | hy3
      · have hin : az_ca sc iX6_in [.int (nI i), .int 0, .int 1] (mdG G1 m Vm Am) = some (some (.int 1), mdG G1 m Vm Am) := m_inN (n := 2) (by omega) hi2
        have le1 : nI i ≤ (1 : Int32) := show nI i ≤ nI 1 from nI_le (by omega) (by omega)
        have hwr := s_writeAnswer (sc := sc) h hB hS hj (show y < 6 by omega)
        have hfi := m_findAnswer (sc := sc) (G := G1) (m := m) hm hS hj (show y < 24 by omega)
        have i01 : i = 0 ∨ i = 1 := by omega
        cases hF : awF (sT S (cA S j)) (sT S (cB S j)) (cg S j) y with
        | none =>
          rw [hF] at hwr hfi
          dsimp only at hwr hfi
          refine ⟨-1, G, V, aw1 A y (-1) (-1), R, Vm, Am, S, ti, ci, ?_, ?_, iC_A h (aw1_22 _ _ _ _) rfl rfl rfl rfl, hm, hS, fun _ _ => rfl, rfl, rfl⟩
          · rw [eX5_answer, cl_rc0, s_carrierAt h hS hj, bR_s, cr_f3 cJ, tb_rc hU, s_hasObject hU hy hu6, bI_s, if_neg (by decide), if_neg (show ¬ nI i < (0 : Int32) from nI_nlt0 (by omega)), if_pos le1, cl_rc0, hwr, bV_s]
            rcases i01 with rfl | rfl
            · rw [if_neg (by decide), cl0_r8, s_read cl_c20 (show y < 6 by omega) (by omega), bI_s, aw1_20]
            · rw [if_pos (by decide), cl0_r9, s_read cl_c21 (show y < 6 by omega) (by omega), bI_s, aw1_21]
          · rw [eX6_answer, md_rc, m_isCarrierT hm hS hj, bI_s, if_neg (by decide), md_r1, md_r12, md_a11 (by omega), mJ.2.1, md_a1 (by omega), hm.1.o hib, m_inN (by omega) hy, bI_s, if_neg (by decide), hin, bI_s, if_pos (by decide), md_rc, hfi, bI_s, if_neg (by decide)]
        | some z =>
          obtain ⟨p, e⟩ := z
          rw [hF] at hwr hfi
          dsimp only at hwr hfi
          refine ⟨if i = 0 then nI p else nI e, G, V, aw1 (aw1 A y (-1) (-1)) y (nI p) (nI e), R, va_up (va_up Vm 5 (nI p)) 6 (nI e), Am, S, ti, ci, ?_, ?_, iC_A h ((aw1_22 _ _ _ _).trans (aw1_22 _ _ _ _)) rfl rfl rfl rfl, iM_V hm ?_ ?_ ?_ ?_, hS, fun _ _ => rfl, rfl, rfl⟩
          · rw [eX5_answer, cl_rc0, s_carrierAt h hS hj, bR_s, cr_f3 cJ, tb_rc hU, s_hasObject hU hy hu6, bI_s, if_neg (by decide), if_neg (show ¬ nI i < (0 : Int32) from nI_nlt0 (by omega)), if_pos le1, cl_rc0, hwr, bV_s]
            rcases i01 with rfl | rfl
            · rw [if_neg (by decide), cl0_r8, s_read cl_c20 (show y < 6 by omega) (by omega), bI_s, aw1_20]
              rfl
            · rw [if_pos (by decide), cl0_r9, s_read cl_c21 (show y < 6 by omega) (by omega), bI_s, aw1_21]
              rfl
          · rw [eX6_answer, md_rc, m_isCarrierT hm hS hj, bI_s, if_neg (by decide), md_r1, md_r12, md_a11 (by omega), mJ.2.1, md_a1 (by omega), hm.1.o hib, m_inN (by omega) hy, bI_s, if_neg (by decide), hin, bI_s, if_pos (by decide), md_rc, hfi, bI_s, if_pos (by decide)]
            rcases i01 with rfl | rfl
            · rw [if_neg (by decide), md_i26, up_n _ _ (show 5 ≠ 6 by omega), up_s]
              rfl
            · rw [if_pos (by decide), md_i27, up_s]
              rfl
          · rw [up_n _ _ (by omega), up_n _ _ (by omega)]
          · rw [up_n _ _ (by omega), up_n _ _ (by omega)]
          · rw [up_n _ _ (by omega), up_n _ _ (by omega)]
          · rw [up_n _ _ (by omega), up_n _ _ (by omega)]
      · have hin : az_ca sc iX6_in [.int y3, .int 0, .int 1] (mdG G1 m Vm Am) = some (some (.int 0), mdG G1 m Vm Am) := m_inO (n := 2) (by omega) hy3
        refine opU_n h hS hm (-2) ?_ ?_
        · rw [eX5_answer, cl_rc0, s_carrierAt h hS hj, bR_s, cr_f3 cJ, tb_rc hU, s_hasObject hU hy hu6, bI_s, if_neg (by decide)]
          by_cases h0 : y3 < 0
          · rw [if_pos h0]
          · have h3 : ¬ y3 ≤ 1 := by
              intro q
              exact absurd (Int32.le_trans (hy3.resolve_left h0) q) (by decide)
            rw [if_neg h0, if_neg h3]
        · rw [eX6_answer, md_rc, m_isCarrierT hm hS hj, bI_s, if_neg (by decide), md_r1, md_r12, md_a11 (by omega), mJ.2.1, md_a1 (by omega), hm.1.o hib, m_inN (by omega) hy, bI_s, if_neg (by decide), hin, bI_s, if_neg (by decide)]
    · refine opU_n h hS hm (-2) ?_ ?_
      · rw [eX5_answer, cl_rc0, s_carrierAt h hS hj, bR_s, cr_f3 cJ, tb_rc hU, s_hasObjectN hU hy2, bI_s, if_pos rfl]
      · rw [eX6_answer, md_rc, m_isCarrierT hm hS hj, bI_s, if_neg (by decide), md_r1, md_r12, md_a11 (by omega), mJ.2.1, md_a1 (by omega), hm.1.o hib, m_inO (by omega) hy2, bI_s, if_pos rfl]
  · refine opU_n h hS hm (-2) ?_ ?_
    · rw [eX5_answer, cl_rc0, s_carrierAtN h hy, bR_0]
    · rw [eX6_answer, md_rc, m_isCarrierN hm hS hy, bI_s, if_pos rfl]
end ANSWE
