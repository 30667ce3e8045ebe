section TOLDE
variable {sc : az_S} {G G1 : az_H} {B x m : Nat} {V Vm : Nat → Int32} {A Am : Nat → Nat → Int32} {R : Nat → Nat → Option Nat} {S : wS} {ti ci : Nat → Nat} {j : Nat}
theorem m_isCome (h : iM V A S) (hS : wW S) (hj : j < sM S) {y : Nat} (hy : y < 24) : az_ca sc iX6_isCome [.ref m, .int (nI j), .int (nI y)] (mdG G m V A) = some (some (.int (if cmM (sT S (cA S j)) (sT S (cB S j)) (cg S j) y = true then 1 else 0)), mdG G m V A) := by
  have h24 := hS.2.1
  have h8 := hS.1
  have hi := hS.ca hj
  have hib := hS.cb hj
  have hw := hS.tw hi
  have hwu := hS.tw hib
  have hk := hw.k24
  have hku := hwu.k24
  have hn6 := hw.n6
  have hu6 := hwu.n6
  have hnk := hw.nk
  have inner : ∀ c, c < tK (sT S (cB S j)) → az_rn sc iX6_isCome 15 [some (.ref m), some (.int (nI j)), some (.int (nI y)), some (.int (nI (cB S j))), some (.int (nI c)), some (.int (nI 0))] [] (mdG G m V A) = if exB (fun p => decide (fr (sT S (cB S j)) c = cg S j p) && (decide (to (sT S (cB S j)) c = y) && bk (sT S (cB S j)) c)) (tN (sT S (cA S j))) = true then some (some (.int 1), mdG G m V A) else az_rn sc iX6_isCome 7 [some (.ref m), some (.int (nI j)), some (.int (nI y)), some (.int (nI (cB S j))), some (.int (nI (c + 1))), some (.int (nI (tN (sT S (cA S j)))))] [] (mdG G m V A) := by
    intro c hc
    have f1 := hwu.frn hc
    have f3 := hwu.ton hc
    refine lp_ex (fun p => az_rn sc iX6_isCome 15 [some (.ref m), some (.int (nI j)), some (.int (nI y)), some (.int (nI (cB S j))), some (.int (nI c)), some (.int (nI p))] [] (mdG G m V A)) (fun p => decide (fr (sT S (cB S j)) c = cg S j p) && (decide (to (sT S (cB S j)) c = y) && bk (sT S (cB S j)) c)) (some (some (.int 1), mdG G m V A)) _ (tN (sT S (cA S j))) (fun p hp => ?_) ?_
    · have g1 := hS.cgk hj (show p < tK (sT S (cA S j)) by omega)
      rw [bX6_isCome_15, md_r1, md_r11, md_a10 (by omega), (h.2.2.2.2.1 j hj).1, md_a1 (by omega), h.1.o hi, if_neg (nI_ge hp (by omega)), md_rc, m_from h.1 hib hc, bI_s, md_rc, m_give h hS hj (show p < tK (sT S (cA S j)) by omega), bI_s, ite_nnI (by omega) (by omega), nI_1]
      by_cases e1 : fr (sT S (cB S j)) c = cg S j p
      · rw [if_neg (fun z => z e1), md_rc, m_to h.1 hib hc, bI_s, ite_nnI (by omega) (by omega)]
        by_cases e2 : to (sT S (cB S j)) c = y
        · rw [if_neg (fun z => z e2), md_rc, m_isPaired h.1 hib (hS.told hib (hS.cbc hj)) hc, bI_s]
          by_cases e3 : bk (sT S (cB S j)) c = true
          · rw [if_pos e3, if_neg (by decide), zr_1, if_pos (by simp [e1, e2, e3])]
          · rw [if_neg e3, if_pos rfl, if_neg (by simp [e3])]
        · rw [if_pos e2, if_neg (by simp [e2])]
      · rw [if_pos e1, if_neg (by simp [e1])]
    · rw [bX6_isCome_15, md_r1, md_r11, md_a10 (by omega), (h.2.2.2.2.1 j hj).1, md_a1 (by omega), h.1.o hi, if_pos (nI_le (Nat.le_refl _) (by omega)), nI_1]
  rw [eX6_isCome, md_r12, md_a11 (by omega), (h.2.2.2.2.1 j hj).2.1]
  refine (lp_exO (fun c (o : Option Value) => az_rn sc iX6_isCome 7 [some (.ref m), some (.int (nI j)), some (.int (nI y)), some (.int (nI (cB S j))), some (.int (nI c)), o] [] (mdG G m V A)) (fun c => exB (fun p => decide (fr (sT S (cB S j)) c = cg S j p) && (decide (to (sT S (cB S j)) c = y) && bk (sT S (cB S j)) c)) (tN (sT S (cA S j)))) (some (some (.int 1), mdG G m V A)) (some (some (.int 0), mdG G m V A)) (tK (sT S (cB S j))) (fun c o hc => ?_) (fun o => ?_) none).trans ?_
  · have e1 : az_rn sc iX6_isCome 7 [some (.ref m), some (.int (nI j)), some (.int (nI y)), some (.int (nI (cB S j))), some (.int (nI c)), o] [] (mdG G m V A) = az_rn sc iX6_isCome 15 [some (.ref m), some (.int (nI j)), some (.int (nI y)), some (.int (nI (cB S j))), some (.int (nI c)), some (.int (nI 0))] [] (mdG G m V A) := by
      rw [bX6_isCome_7, md_r2, md_a2 (by omega), h.1.a hib, if_neg (nI_ge hc (by omega))]
      rfl
    refine ⟨fun hz => ?_, fun hz => ⟨some (.int (nI (tN (sT S (cA S j))))), ?_⟩⟩
    · rw [e1, inner c hc, if_pos hz]
    · rw [e1, inner c hc, if_neg (by rw [hz]; decide)]
  · rw [bX6_isCome_7, md_r2, md_a2 (by omega), h.1.a hib, if_pos (nI_le (Nat.le_refl _) (by omega)), zr_0]
  · unfold cmM
    split <;> rfl
theorem m_isAllCome (h : iM V A S) (hS : wW S) (hj : j < sM S) : az_ca sc iX6_isAllCome [.ref m, .int (nI j)] (mdG G m V A) = some (some (.int (if rcA (sT S (cA S j)) (sT S (cB S j)) (cg S j) = true then 0 else 1)), mdG G m V A) := by
  have h24 := hS.2.1
  have h8 := hS.1
  have hib := hS.cb hj
  have hwu := hS.tw hib
  have hu6 := hwu.n6
  rw [eX6_isAllCome]
  refine (lp_ex (fun y => az_rn sc iX6_isAllCome 2 [some (.ref m), some (.int (nI j)), some (.int (nI y))] [] (mdG G m V A)) (fun y => !rcN (sT S (cA S j)) (sT S (cB S j)) (cg S j) y) (some (some (.int 0), mdG G m V A)) (some (some (.int 1), mdG G m V A)) (tN (sT S (cB S j))) (fun y hy => ?_) ?_).trans ?_
  · rw [bX6_isAllCome_2, md_r1, md_r12, md_a11 (by omega), (h.2.2.2.2.1 j hj).2.1, md_a1 (by omega), h.1.o hib, if_neg (nI_ge hy (by omega)), md_rc, m_isCome h hS hj (by omega), bI_s, rc_e hwu, nI_1]
    by_cases e : rcN (sT S (cA S j)) (sT S (cB S j)) (cg S j) y = true
    · rw [if_pos e, if_pos (by decide), if_neg (by simp [e])]
    · rw [if_neg e, if_neg (by decide), zr_0, if_pos (by simp [e])]
  · rw [bX6_isAllCome_2, md_r1, md_r12, md_a11 (by omega), (h.2.2.2.2.1 j hj).2.1, md_a1 (by omega), h.1.o hib, if_pos (nI_le (Nat.le_refl _) (by omega)), zr_1]
  · unfold rcA
    split <;> rfl
theorem b01 (p : Bool) (K : az_H) : (if (if p = true then (0 : Int32) else 1) = 0 then (some (some (.int 0), K) : az_R) else some (some (.int 1), K)) = some (some (.int (if p = true then 0 else 1)), K) := by
  cases p <;> rfl
theorem op_told (h : iC G B V A R S ti ci) (hB : x + 22 ≤ B) (hS : wW S) (hm : iM Vm Am S) (y a : Int32) : opU (az_ca sc iX5_told [.ref x, .int y, .int a] (clG G x V A R)) (az_ca sc iX6_told [.ref m, .int y, .int a] (mdG G1 m Vm Am)) G G1 B x m S := by
  have h24 := hS.2.1
  have h8 := hS.1
  rcases ix_c y (n := sM S) (by omega) with ⟨j, hj, rfl⟩ | hy
  · have cJ := h.car (x := x) hB hj V A R
    have hi := hS.ca hj
    have hib := hS.cb hj
    have hw := hS.tw hi
    have hwu := hS.tw hib
    have hku := hwu.k24
    have hT := h.tabc (x := x) hB hi V A R
    have hU := h.tabc (x := x) hB hib V A R
    have mJ := hm.2.2.2.2.1 j hj
    have hf : ∀ a, a < tK (sT S (cA S j)) → cR S j a = nI (cg S j a) ∧ cg S j a < 24 := fun a ha => ⟨hS.cr hj ha, by have := hS.cgk hj ha; omega⟩
    rcases ix_c a (n := 5) (by omega) with ⟨i, hi5, rfl⟩ | ha
    · have hin : az_ca sc iX6_in [.int (nI i), .int 0, .int 4] (mdG G1 m Vm Am) = some (some (.int 1), mdG G1 m Vm Am) := m_inN (n := 5) (by omega) hi5
      match i, hi5 with
      | 0, _ =>
        refine opU_n h hS hm (nI (cA S j)) ?_ ?_
        · rw [eX5_told, cl_rc0, s_carrierAt h hS hj, bR_s, bX5_told_9, show az_sw [10, 13, 16, 26, 38, 50] 0 (nI 0) = 10 from rfl, bX5_told_10, cr_f0 cJ]
        · rw [eX6_told, md_rc, m_isCarrierT hm hS hj, bI_s, if_neg (by decide), hin, bI_s, if_pos (by decide), bX6_told_12, show az_sw [13, 18, 23, 31, 39] 0 (nI 0) = 13 from rfl, bX6_told_13, md_r11, md_a10 (by omega), mJ.1]
      | 1, _ =>
        refine opU_n h hS hm (nI (cB S j)) ?_ ?_
        · rw [eX5_told, cl_rc0, s_carrierAt h hS hj, bR_s, bX5_told_9, show az_sw [10, 13, 16, 26, 38, 50] 0 (nI 1) = 13 from rfl, bX5_told_13, cr_f1 cJ]
        · rw [eX6_told, md_rc, m_isCarrierT hm hS hj, bI_s, if_neg (by decide), hin, bI_s, if_pos (by decide), bX6_told_12, show az_sw [13, 18, 23, 31, 39] 0 (nI 1) = 18 from rfl, bX6_told_18, md_r12, md_a11 (by omega), mJ.2.1]
      | 2, _ =>
        refine opU_n h hS hm (if uqM (sT S (cA S j)) (cg S j) = true then 0 else 1) ?_ ?_
        · rw [eX5_told, cl_rc0, s_carrierAt h hS hj, bR_s, bX5_told_9, show az_sw [10, 13, 16, 26, 38, 50] 0 (nI 2) = 16 from rfl, bX5_told_16, cr_f2 cJ, cr_f4 cJ, s_keepsUnlike hT hw cJ.2 hf, bI_s, uq_e, b01]
        · rw [eX6_told, md_rc, m_isCarrierT hm hS hj, bI_s, if_neg (by decide), hin, bI_s, if_pos (by decide), bX6_told_12, show az_sw [13, 18, 23, 31, 39] 0 (nI 2) = 23 from rfl, bX6_told_23, md_rc, m_isUnlike hm hS hj, bI_s, b01]
      | 3, _ =>
        refine opU_n h hS hm (if gvA (sT S (cA S j)) (sT S (cB S j)) (cg S j) = true then 0 else 1) ?_ ?_
        · rw [eX5_told, cl_rc0, s_carrierAt h hS hj, bR_s, bX5_told_9, show az_sw [10, 13, 16, 26, 38, 50] 0 (nI 3) = 26 from rfl, bX5_told_26, cr_f2 cJ, cr_f3 cJ, cr_f4 cJ, s_givesAll hT hw hU hwu cJ.2 hf, bI_s, b01]
        · rw [eX6_told, md_rc, m_isCarrierT hm hS hj, bI_s, if_neg (by decide), hin, bI_s, if_pos (by decide), bX6_told_12, show az_sw [13, 18, 23, 31, 39] 0 (nI 3) = 31 from rfl, bX6_told_31, md_rc, m_isFilled hm hS hj, bI_s, b01]
      | 4, _ =>
        refine opU_n h hS hm (if rcA (sT S (cA S j)) (sT S (cB S j)) (cg S j) = true then 0 else 1) ?_ ?_
        · rw [eX5_told, cl_rc0, s_carrierAt h hS hj, bR_s, bX5_told_9, show az_sw [10, 13, 16, 26, 38, 50] 0 (nI 4) = 38 from rfl, bX5_told_38, cr_f2 cJ, cr_f3 cJ, cr_f4 cJ, s_reachesAll hT hw hU hwu cJ.2 hf, bI_s, b01]
        · rw [eX6_told, md_rc, m_isCarrierT hm hS hj, bI_s, if_neg (by decide), hin, bI_s, if_pos (by decide), bX6_told_12, show az_sw [13, 18, 23, 31, 39] 0 (nI 4) = 39 from rfl, bX6_told_39, md_rc, m_isAllCome hm hS hj, bI_s, b01]
    · have hin : az_ca sc iX6_in [.int a, .int 0, .int 4] (mdG G1 m Vm Am) = some (some (.int 0), mdG G1 m Vm Am) := m_inO (n := 5) (by omega) ha
      refine opU_n h hS hm (-2) ?_ ?_
      · rw [eX5_told, cl_rc0, s_carrierAt h hS hj, bR_s, bX5_told_9, sw_out _ (n := 5) rfl (by omega) ha]
        exact bX5_told_50 _ _ _ _ _ _
      · rw [eX6_told, md_rc, m_isCarrierT hm hS hj, bI_s, if_neg (by decide), hin, bI_s, if_neg (by decide)]
  · refine opU_n h hS hm (-2) ?_ ?_
    · rw [eX5_told, cl_rc0, s_carrierAtN h hy, bR_0]
    · rw [eX6_told, md_rc, m_isCarrierN hm hS hy, bI_s, if_pos rfl]
end TOLDE
