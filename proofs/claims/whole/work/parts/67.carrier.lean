/-! OPERATION carrier -/
section CARRIER
variable {sc : az_S} {G G1 : az_H} {B x m : Nat} {V Vm : Nat → Int32} {A Am : Nat → Nat → Int32} {R : Nat → Nat → Option Nat} {S : wS} {ti ci : Nat → Nat}
theorem op_carrier (h : iC G B V A R S ti ci) (hB : x + 22 ≤ B) (hS : wW S) (hm : iM Vm Am S) (y1 y2 y3 : Int32) : opU (az_ca sc iX5_carrier [.ref x, .int y1, .int y2, .int y3] (clG G x V A R)) (az_ca sc iX6_carrier [.ref m, .int y1, .int y2, .int y3] (mdG G1 m Vm Am)) G G1 B x m S := by
  have h8 := hS.1
  have h24 := hS.2.1
  obtain ⟨E0, hE⟩ : ∃ E0, 180000 ≤ E0 := ⟨180000, Nat.le_refl _⟩
  rcases ix_c y1 (n := sN S) (by omega) with ⟨i, hi, rfl⟩ | hy1
  · have hT : ∀ V' A', tbC (clG G x V' A' R) (ti i) (sT S i) := fun V' A' => h.tabc hB hi V' A' R
    have hw := hS.tw hi
    have hk := hw.k24
    rcases ix_c y2 (n := sN S) (by omega) with ⟨j, hj, rfl⟩ | hy2
    · have hU : ∀ V' A', tbC (clG G x V' A' R) (ti j) (sT S j) := fun V' A' => h.tabc hB hj V' A' R
      have hwu := hS.tw hj
      have hku := hwu.k24
      by_cases h0 : (0 : Int32) ≤ y3
      · rcases hw.c01 with hc | hc
        · refine opU_n h hS hm (-3) ?_ ?_
          · rw [eX5_carrier, cl_rc0, s_tableAt h hS hi, bR_s, cl_rc0, s_tableAt h hS hj, bR_s, if_pos h0, tb_f2 (hT _ _), hc, if_pos rfl]
          · rw [eX6_carrier, md_rc, m_isTableT hm hS hi, bI_s, if_neg (by decide), md_rc, m_isTableT hm hS hj, bI_s, if_neg (by decide), if_pos h0, md_r3, md_a3 (by omega), hm.1.c hi, hc, if_pos rfl]
        · rcases hwu.c01 with hd | hd
          · refine opU_n h hS hm (-3) ?_ ?_
            · rw [eX5_carrier, cl_rc0, s_tableAt h hS hi, bR_s, cl_rc0, s_tableAt h hS hj, bR_s, if_pos h0, tb_f2 (hT _ _), hc, if_neg (by decide), tb_f2 (hU _ _), hd, if_neg (by decide)]
            · rw [eX6_carrier, md_rc, m_isTableT hm hS hi, bI_s, if_neg (by decide), md_rc, m_isTableT hm hS hj, bI_s, if_neg (by decide), if_pos h0, md_r3, md_a3 (by omega), hm.1.c hi, hc, if_neg (by decide), md_r3, md_a3 (by omega), hm.1.c hj, hd, if_neg (by decide)]
          · obtain ⟨V', A', k1, k2, k3, k4, k5, k6⟩ := s_pickCarrier (sc := sc) (x := x) (V := V) (A := A) hE hT hw (hS.told hi hc) hU hwu y3
            obtain ⟨Vm', Am', q1, q2, q3, q4, q5, q6, q7, q8, q9⟩ := m_search (sc := sc) (G := G1) (m := m) (V := Vm) hE hm.1 hi hj (hS.told hi hc) y3 0 (mStp_w (sc := sc) (G := G1) (m := m) (j := j) (wn := y3) hi)
            obtain ⟨t1, t2, t3⟩ := sw_tr (sT S i) (sT S j) E0 (fun n _ => decide (nI n = y3)) 60001 1 0 0 (fun _ => 0) 0 (by omega) (Nat.le_refl _)
            obtain ⟨t4, t5⟩ := sw_w (sT S i) (sT S j) E0 y3 60001 1 0 0 (fun _ => 0) 0
            generalize sw (sT S i) (sT S j) E0 (fun n _ => decide (nI n = y3)) 60001 1 0 0 (fun _ => 0) 0 = z at k1 k3 k4 k5 q1 q3 q9 t1 t2 t3 t4 t5
            have hC' : iC G B V' A' R (sSq S z.2.2.1) ti ci := iC_Sq h k6 (k2 0 (by omega) (by omega) (by omega)) (k2 1 (by omega) (by omega) (by omega)) (k2 2 (by omega) (by omega) (by omega)) k3
            have hM' : iM Vm' Am' (sSq S z.2.2.1) := iM_Sq hS hm (q2 0 (by omega)) (q2 1 (by omega)) q3 (q2 4 (by omega)) (fun r hr => q4 r (by omega)) q5 q8 (q4 21 (by omega))
            have hS' : wW (sSq S z.2.2.1) := wW_Sq hS t1
            have v1 : V' 1 = nI (sM S) := hC'.2.1
            have vm1 : Vm' 1 = nI (sM S) := hM'.2.1
            have out : ∀ v : Int32, az_ca sc iX5_carrier [.ref x, .int (nI i), .int (nI j), .int y3] (clG G x V A R) = some (some (.int v), clG G x V' A' R) → az_ca sc iX6_carrier [.ref m, .int (nI i), .int (nI j), .int y3] (mdG G1 m Vm Am) = some (some (.int v), mdG G1 m Vm' Am') → opU (az_ca sc iX5_carrier [.ref x, .int (nI i), .int (nI j), .int y3] (clG G x V A R)) (az_ca sc iX6_carrier [.ref m, .int (nI i), .int (nI j), .int y3] (mdG G1 m Vm Am)) G G1 B x m S := fun v e1 e2 => opU_Sq (opU_n hC' hS' hM' v e1 e2)
            by_cases c1 : z.1 = 1
            · have a1 : mAns z 0 = -5 := if_pos c1
              rw [if_pos c1] at k4
              by_cases hn : sM S < 24
              · refine out (-5) ?_ ?_
                · rw [eX5_carrier, cl_rc0, s_tableAt h hS hi, bR_s, cl_rc0, s_tableAt h hS hj, bR_s, if_pos h0, tb_f2 (hT _ _), hc, if_neg (by decide), tb_f2 (hU _ _), hd, if_pos (by decide), cl_rc0, k1, bI_s, cl0_r2, cl3_i2, k4, if_pos (by decide), cl0_i12, v1, if_pos (lt24 hn), cl0_r2, cl3_i2, k4, if_neg (by decide)]
                · rw [eX6_carrier, md_rc, m_isTableT hm hS hi, bI_s, if_neg (by decide), md_rc, m_isTableT hm hS hj, bI_s, if_neg (by decide), if_pos h0, md_r3, md_a3 (by omega), hm.1.c hi, hc, if_neg (by decide), md_r3, md_a3 (by omega), hm.1.c hj, hd, if_pos (by decide), md_rc, q1, bI_s, a1, if_pos rfl, md_i10, vm1, if_pos (ne24 hn), if_neg (by decide)]
              · have hn' : sM S = 24 := by omega
                refine out (-4) ?_ ?_
                · rw [eX5_carrier, cl_rc0, s_tableAt h hS hi, bR_s, cl_rc0, s_tableAt h hS hj, bR_s, if_pos h0, tb_f2 (hT _ _), hc, if_neg (by decide), tb_f2 (hU _ _), hd, if_pos (by decide), cl_rc0, k1, bI_s, cl0_r2, cl3_i2, k4, if_pos (by decide), cl0_i12, v1, hn', if_neg (by decide)]
                · rw [eX6_carrier, md_rc, m_isTableT hm hS hi, bI_s, if_neg (by decide), md_rc, m_isTableT hm hS hj, bI_s, if_neg (by decide), if_pos h0, md_r3, md_a3 (by omega), hm.1.c hi, hc, if_neg (by decide), md_r3, md_a3 (by omega), hm.1.c hj, hd, if_pos (by decide), md_rc, q1, bI_s, a1, if_pos rfl, md_i10, vm1, hn', if_neg (by decide)]
            · have a1 : mAns z 0 = nI z.2.1 := by
                unfold mAns
                rw [if_neg c1, if_pos (show (0 : Int32) = 0 from rfl)]
                split <;> rfl
              rw [if_neg c1] at k4
              have n5 : ¬ nI z.2.1 = -5 := nI_nm5 (by omega)
              by_cases c2 : z.1 = 2
              · obtain ⟨w, w1, w2⟩ := t4 c2
                have c3 : y3 < nI z.2.1 := by
                  rw [← w2, w1]
                  exact nI_lt (by omega) (by omega)
                by_cases hn : sM S < 24
                · have hkp := s_newK (sc := sc) (x := x) hC' hB (i := i) (j := j) hw hi hn
                  obtain ⟨A2, k1', ⟨k2', k3', k4'⟩, k5', k6', k7'⟩ := m_keeps (sc := sc) (G := G1) (m := m) (V := Vm') (A := Am') (n := sM S) vm1 hn
                  refine opU_Sq (opU_c (p := i) (q := j) (g := cpF (A' 17) (fun _ => 0) (tK (sT S i))) (Am' := A2) hC' hS' hM' hn hi hj hc hd (fun a ha => ?_) ?_ ?_ ⟨k2', k3', k4'⟩ (k5'.trans q6) (k6'.trans q7) (fun a ha => ?_))
                  · have ha' : a < tK (sT S i) := ha
                    obtain ⟨d1, d2⟩ := k5 c2 a ha'
                    rw [cpF_lt _ _ ha', d1, nI_clamp (by omega)]
                    exact ⟨rfl, d2⟩
                  · rw [eX5_carrier, cl_rc0, s_tableAt h hS hi, bR_s, cl_rc0, s_tableAt h hS hj, bR_s, if_pos h0, tb_f2 (hT _ _), hc, if_neg (by decide), tb_f2 (hU _ _), hd, if_pos (by decide), cl_rc0, k1, bI_s, cl0_r2, cl3_i2, k4, if_neg (by decide), if_pos c3, cl0_i12, v1, if_pos (lt24 hn), cl0_r2, cl3_i2, k4, if_pos rfl]
                    exact hkp
                  · rw [eX6_carrier, md_rc, m_isTableT hm hS hi, bI_s, if_neg (by decide), md_rc, m_isTableT hm hS hj, bI_s, if_neg (by decide), if_pos h0, md_r3, md_a3 (by omega), hm.1.c hi, hc, if_neg (by decide), md_r3, md_a3 (by omega), hm.1.c hj, hd, if_pos (by decide), md_rc, q1, bI_s, a1, if_neg n5, if_pos c3, md_i10, vm1, if_pos (ne24 hn), if_pos n5, md_rc, k1', bI_s]
                    rfl
                  · have ha' : a < tK (sT S i) := ha
                    obtain ⟨d1, d2⟩ := k5 c2 a ha'
                    obtain ⟨d3, d4⟩ := q9 c2 a ha'
                    rw [cpF_lt _ _ ha', d1, ← d3]
                    exact k7' a (by omega)
                · have hn' : sM S = 24 := by omega
                  refine out (-4) ?_ ?_
                  · rw [eX5_carrier, cl_rc0, s_tableAt h hS hi, bR_s, cl_rc0, s_tableAt h hS hj, bR_s, if_pos h0, tb_f2 (hT _ _), hc, if_neg (by decide), tb_f2 (hU _ _), hd, if_pos (by decide), cl_rc0, k1, bI_s, cl0_r2, cl3_i2, k4, if_neg (by decide), if_pos c3, cl0_i12, v1, hn', if_neg (by decide)]
                  · rw [eX6_carrier, md_rc, m_isTableT hm hS hi, bI_s, if_neg (by decide), md_rc, m_isTableT hm hS hj, bI_s, if_neg (by decide), if_pos h0, md_r3, md_a3 (by omega), hm.1.c hi, hc, if_neg (by decide), md_r3, md_a3 (by omega), hm.1.c hj, hd, if_pos (by decide), md_rc, q1, bI_s, a1, if_neg n5, if_pos c3, md_i10, vm1, hn', if_neg (by decide)]
              · have c3 : ¬ y3 < nI z.2.1 := by
                  intro q
                  rcases ix_c y3 (n := z.2.1) (by omega) with ⟨w, w1, w2⟩ | w
                  · exact t5 c2 w (Nat.zero_le _) w1 w2.symm
                  · rcases w with w | w
                    · exact absurd h0 (Int32.not_le.mpr w)
                    · exact absurd w (Int32.not_le.mpr q)
                refine out (-3) ?_ ?_
                · rw [eX5_carrier, cl_rc0, s_tableAt h hS hi, bR_s, cl_rc0, s_tableAt h hS hj, bR_s, if_pos h0, tb_f2 (hT _ _), hc, if_neg (by decide), tb_f2 (hU _ _), hd, if_pos (by decide), cl_rc0, k1, bI_s, cl0_r2, cl3_i2, k4, if_neg (by decide), if_neg c3]
                · rw [eX6_carrier, md_rc, m_isTableT hm hS hi, bI_s, if_neg (by decide), md_rc, m_isTableT hm hS hj, bI_s, if_neg (by decide), if_pos h0, md_r3, md_a3 (by omega), hm.1.c hi, hc, if_neg (by decide), md_r3, md_a3 (by omega), hm.1.c hj, hd, if_pos (by decide), md_rc, q1, bI_s, a1, if_neg n5, if_neg c3]
      · refine opU_n h hS hm (-2) ?_ ?_
        · rw [eX5_carrier, cl_rc0, s_tableAt h hS hi, bR_s, cl_rc0, s_tableAt h hS hj, bR_s, if_neg h0]
        · rw [eX6_carrier, md_rc, m_isTableT hm hS hi, bI_s, if_neg (by decide), md_rc, m_isTableT hm hS hj, bI_s, if_neg (by decide), if_neg h0]
    · refine opU_n h hS hm (-2) ?_ ?_
      · rw [eX5_carrier, cl_rc0, s_tableAt h hS hi, bR_s, cl_rc0, s_tableAtN h hy2, bR_0]
      · rw [eX6_carrier, md_rc, m_isTableT hm hS hi, bI_s, if_neg (by decide), md_rc, m_isTableN hm hS hy2, bI_s, if_pos (by decide)]
  · refine opU_n h hS hm (-2) ?_ ?_
    · rcases ix_c y2 (n := sN S) (by omega) with ⟨j, hj, rfl⟩ | hy2
      · rw [eX5_carrier, cl_rc0, s_tableAtN h hy1, bR_0, cl_rc0, s_tableAt h hS hj, bR_s]
      · rw [eX5_carrier, cl_rc0, s_tableAtN h hy1, bR_0, cl_rc0, s_tableAtN h hy2, bR_0]
    · rw [eX6_carrier, md_rc, m_isTableN hm hS hy1, bI_s, if_pos rfl]
end CARRIER
