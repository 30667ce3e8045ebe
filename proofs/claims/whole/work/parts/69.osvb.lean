/-! OPERATIONS pull, follows -/
def foS (T : tb) (y : Nat) (s r : Int32) (a : Nat) (z : Int32) : Int32 := if to T a = y ∧ (plF T s a &&& (plF T r a ^^^ (-1))) = 0 then z ||| ((1 : Int32) <<< (nI a &&& 31)) else z
def foF (T : tb) (y : Nat) (s r : Int32) : Int32 := flB (foS T y s r) (tK T) 0
section SIEVB
variable {sc : az_S} {G G1 : az_H} {B x m : Nat} {V Vm : Nat → Int32} {A Am : Nat → Nat → Int32} {R : Nat → Nat → Option Nat} {S : wS} {ti ci : Nat → Nat} {i : Nat}
theorem m_isObjT (hm : iM Vm Am S) (hS : wW S) (hi : i < sN S) {y : Nat} (hy : y < tN (sT S i)) : az_ca sc iX6_isObject [.ref m, .int (nI i), .int (nI y)] (mdG G1 m Vm Am) = some (some (.int 1), mdG G1 m Vm Am) := by
  have h8 := hS.1
  have hn6 := (hS.tw hi).n6
  rw [eX6_isObject, md_rc, m_isTableT hm hS hi, bI_s, if_neg (by decide), md_r1, md_a1 (by omega), hm.1.o hi, m_inN (by omega) hy, bI_s, if_neg (by decide), zr_1]
theorem m_isObjN (hm : iM Vm Am S) (hS : wW S) (hi : i < sN S) {y : Int32} (hy : y < 0 ∨ nI (tN (sT S i)) ≤ y) : az_ca sc iX6_isObject [.ref m, .int (nI i), .int y] (mdG G1 m Vm Am) = some (some (.int 0), mdG G1 m Vm Am) := by
  have h8 := hS.1
  have hn6 := (hS.tw hi).n6
  rw [eX6_isObject, md_rc, m_isTableT hm hS hi, bI_s, if_neg (by decide), md_r1, md_a1 (by omega), hm.1.o hi, m_inO (by omega) hy, bI_s, if_pos rfl, zr_0]
theorem m_isObjM (hm : iM Vm Am S) (hS : wW S) {z y : Int32} (hz : z < 0 ∨ nI (sN S) ≤ z) : az_ca sc iX6_isObject [.ref m, .int z, .int y] (mdG G1 m Vm Am) = some (some (.int 0), mdG G1 m Vm Am) := by
  rw [eX6_isObject, md_rc, m_isTableN hm hS hz, bI_s, if_pos rfl, zr_0]
theorem op_pull (h : iC G B V A R S ti ci) (hB : x + 22 ≤ B) (hS : wW S) (hm : iM Vm Am S) (y1 y2 y3 y4 : Int32) : opU (az_ca sc iX5_pull [.ref x, .int y1, .int y2, .int y3, .int y4] (clG G x V A R)) (az_ca sc iX6_pull [.ref m, .int y1, .int y2, .int y3, .int y4] (mdG G1 m Vm Am)) G G1 B x m S := by
  have h8 := hS.1
  rcases ix_c y1 (n := sN S) (by omega) with ⟨i, hi, rfl⟩ | hy1
  · have hT := h.tabc (x := x) hB hi V A R
    have hw := hS.tw hi
    have hn6 := hw.n6
    have hk := hw.k24
    rcases ix_c y2 (n := tN (sT S i)) (by omega) with ⟨y, hy, rfl⟩ | hy2
    · rcases ix_c y4 (n := tK (sT S i)) (by omega) with ⟨a, ha, rfl⟩ | hy4
      · rcases hw.c01 with hc | hc
        · refine opU_n h hS hm (-3) ?_ ?_
          · rw [eX5_pull, cl_rc0, s_tableAt h hS hi, bR_s, tb_rc hT, s_hasObject hT hy hn6, bI_s, if_neg (by decide), tb_rc hT, s_hasArrow hT ha hk, bI_s, if_pos (by decide), tb_f2 hT, hc, if_pos rfl]
          · rw [eX6_pull, md_rc, m_isObjT hm hS hi hy, bI_s, if_neg (by decide), md_rc, m_isArrowT hm hS hi ha, bI_s, if_pos (by decide), md_r3, md_a3 (by omega), hm.1.c hi, hc, if_pos rfl]
        · have ht := hS.told hi hc
          have hto := hw.ton ha
          by_cases hs : svN (sT S i) y y3 = true
          · refine opU_n h hS hm (-3) ?_ ?_
            · rw [eX5_pull, cl_rc0, s_tableAt h hS hi, bR_s, tb_rc hT, s_hasObject hT hy hn6, bI_s, if_neg (by decide), tb_rc hT, s_hasArrow hT ha hk, bI_s, if_pos (by decide), tb_f2 hT, hc, if_neg (by decide), tb_rc hT, s_isSieve hT hw ht (by omega), bI_s, if_pos hs, if_pos rfl]
            · rw [eX6_pull, md_rc, m_isObjT hm hS hi hy, bI_s, if_neg (by decide), md_rc, m_isArrowT hm hS hi ha, bI_s, if_pos (by decide), md_r3, md_a3 (by omega), hm.1.c hi, hc, if_neg (by decide), md_rc, m_isSieve hm.1 hi ht (by omega), bI_s, if_pos hs, if_pos rfl]
          · by_cases hty : to (sT S i) a = y
            · refine opU_n h hS hm (plF (sT S i) y3 a) ?_ ?_
              · rw [eX5_pull, cl_rc0, s_tableAt h hS hi, bR_s, tb_rc hT, s_hasObject hT hy hn6, bI_s, if_neg (by decide), tb_rc hT, s_hasArrow hT ha hk, bI_s, if_pos (by decide), tb_f2 hT, hc, if_neg (by decide), tb_rc hT, s_isSieve hT hw ht (by omega), bI_s, if_neg hs, if_neg (show ¬ (1 : Int32) = 0 by decide), tb_rc hT, s_toOf hT (by omega), bI_s, hw.g ha, ite_nI (by omega) (by omega), if_pos hty, tb_rc hT, s_pulled hT hw ht y3 ha, bI_s]
              · rw [eX6_pull, md_rc, m_isObjT hm hS hi hy, bI_s, if_neg (by decide), md_rc, m_isArrowT hm hS hi ha, bI_s, if_pos (by decide), md_r3, md_a3 (by omega), hm.1.c hi, hc, if_neg (by decide), md_rc, m_isSieve hm.1 hi ht (by omega), bI_s, if_neg hs, if_neg (show ¬ (1 : Int32) = 0 by decide), md_rc, m_to hm.1 hi ha, bI_s, ite_nI (by omega) (by omega), if_pos hty, md_rc, m_pulled hm.1 hi ht y3 ha, bI_s]
            · refine opU_n h hS hm (-3) ?_ ?_
              · rw [eX5_pull, cl_rc0, s_tableAt h hS hi, bR_s, tb_rc hT, s_hasObject hT hy hn6, bI_s, if_neg (by decide), tb_rc hT, s_hasArrow hT ha hk, bI_s, if_pos (by decide), tb_f2 hT, hc, if_neg (by decide), tb_rc hT, s_isSieve hT hw ht (by omega), bI_s, if_neg hs, if_neg (show ¬ (1 : Int32) = 0 by decide), tb_rc hT, s_toOf hT (by omega), bI_s, hw.g ha, ite_nI (by omega) (by omega), if_neg hty]
              · rw [eX6_pull, md_rc, m_isObjT hm hS hi hy, bI_s, if_neg (by decide), md_rc, m_isArrowT hm hS hi ha, bI_s, if_pos (by decide), md_r3, md_a3 (by omega), hm.1.c hi, hc, if_neg (by decide), md_rc, m_isSieve hm.1 hi ht (by omega), bI_s, if_neg hs, if_neg (show ¬ (1 : Int32) = 0 by decide), md_rc, m_to hm.1 hi ha, bI_s, ite_nI (by omega) (by omega), if_neg hty]
      · refine opU_n h hS hm (-2) ?_ ?_
        · rw [eX5_pull, cl_rc0, s_tableAt h hS hi, bR_s, tb_rc hT, s_hasObject hT hy hn6, bI_s, if_neg (by decide), tb_rc hT, s_hasArrowN hT hy4, bI_s, if_neg (by decide)]
        · rw [eX6_pull, md_rc, m_isObjT hm hS hi hy, bI_s, if_neg (by decide), md_rc, m_isArrowN hm hS hi hy4, bI_s, if_neg (by decide)]
    · refine opU_n h hS hm (-2) ?_ ?_
      · rw [eX5_pull, cl_rc0, s_tableAt h hS hi, bR_s, tb_rc hT, s_hasObjectN hT hy2, bI_s, if_pos rfl]
      · rw [eX6_pull, md_rc, m_isObjN hm hS hi hy2, bI_s, if_pos rfl]
  · refine opU_n h hS hm (-2) ?_ ?_
    · rw [eX5_pull, cl_rc0, s_tableAtN h hy1, bR_0]
    · rw [eX6_pull, md_rc, m_isObjM hm hS hy1, bI_s, if_pos rfl]
theorem op_follows (h : iC G B V A R S ti ci) (hB : x + 22 ≤ B) (hS : wW S) (hm : iM Vm Am S) (y1 y2 y3 y4 : Int32) : opU (az_ca sc iX5_follows [.ref x, .int y1, .int y2, .int y3, .int y4] (clG G x V A R)) (az_ca sc iX6_follows [.ref m, .int y1, .int y2, .int y3, .int y4] (mdG G1 m Vm Am)) G G1 B x m S := by
  have h8 := hS.1
  rcases ix_c y1 (n := sN S) (by omega) with ⟨i, hi, rfl⟩ | hy1
  · have hT := h.tabc (x := x) hB hi V A R
    have hw := hS.tw hi
    have hn6 := hw.n6
    have hk := hw.k24
    rcases ix_c y2 (n := tN (sT S i)) (by omega) with ⟨y, hy, rfl⟩ | hy2
    · rcases hw.c01 with hc | hc
      · refine opU_n h hS hm (-3) ?_ ?_
        · rw [eX5_follows, cl_rc0, s_tableAt h hS hi, bR_s, tb_rc hT, s_hasObject hT hy hn6, bI_s, if_pos (by decide), tb_f2 hT, hc, if_pos rfl]
        · rw [eX6_follows, md_rc, m_isObjT hm hS hi hy, bI_s, if_pos (by decide), md_r3, md_a3 (by omega), hm.1.c hi, hc, if_pos rfl]
      · have ht := hS.told hi hc
        by_cases hs : svN (sT S i) y y3 = true
        · refine opU_n h hS hm (-3) ?_ ?_
          · rw [eX5_follows, cl_rc0, s_tableAt h hS hi, bR_s, tb_rc hT, s_hasObject hT hy hn6, bI_s, if_pos (by decide), tb_f2 hT, hc, if_neg (by decide), tb_rc hT, s_isSieve hT hw ht (by omega), bI_s, if_pos hs, if_pos rfl]
          · rw [eX6_follows, md_rc, m_isObjT hm hS hi hy, bI_s, if_pos (by decide), md_r3, md_a3 (by omega), hm.1.c hi, hc, if_neg (by decide), md_rc, m_isSieve hm.1 hi ht (by omega), bI_s, if_pos hs, if_pos rfl]
        · by_cases hr : svN (sT S i) y y4 = true
          · refine opU_n h hS hm (-3) ?_ ?_
            · rw [eX5_follows, cl_rc0, s_tableAt h hS hi, bR_s, tb_rc hT, s_hasObject hT hy hn6, bI_s, if_pos (by decide), tb_f2 hT, hc, if_neg (by decide), tb_rc hT, s_isSieve hT hw ht (by omega), bI_s, if_neg hs, if_neg (show ¬ (1 : Int32) = 0 by decide), tb_rc hT, s_isSieve hT hw ht (by omega), bI_s, if_pos hr, if_neg (by decide)]
            · rw [eX6_follows, md_rc, m_isObjT hm hS hi hy, bI_s, if_pos (by decide), md_r3, md_a3 (by omega), hm.1.c hi, hc, if_neg (by decide), md_rc, m_isSieve hm.1 hi ht (by omega), bI_s, if_neg hs, if_neg (show ¬ (1 : Int32) = 0 by decide), md_rc, m_isSieve hm.1 hi ht (by omega), bI_s, if_pos hr, if_neg (by decide)]
          · refine opU_n h hS hm (foF (sT S i) y y3 y4) ?_ ?_
            · rw [eX5_follows, cl_rc0, s_tableAt h hS hi, bR_s, tb_rc hT, s_hasObject hT hy hn6, bI_s, if_pos (by decide), tb_f2 hT, hc, if_neg (by decide), tb_rc hT, s_isSieve hT hw ht (by omega), bI_s, if_neg hs, if_neg (show ¬ (1 : Int32) = 0 by decide), tb_rc hT, s_isSieve hT hw ht (by omega), bI_s, if_neg hr, if_pos (show ¬ (1 : Int32) = 0 by decide)]
              refine (lp_fl (fun a r (_ : Unit) => az_rn sc iX5_follows 31 [some (.ref x), some (.int (nI i)), some (.int (nI y)), some (.int y3), some (.int y4), some (.ref (ti i)), some (.int r), some (.int (nI a))] [] (clG G x V A R)) (foS (sT S i) y y3 y4) (fun r => some (some (.int r), clG G x V A R)) (tK (sT S i)) (fun a r _ ha => ⟨(), ?_⟩) (fun r _ => ?_) 0 ()).trans rfl
              · have hto := hw.ton ha
                rw [bX5_follows_31, tb_f1 hT, if_neg (nI_ge ha (by omega)), tb_rc hT, s_toOf hT (by omega), bI_s, hw.g ha, ite_nnI (by omega) (by omega), nI_1]
                unfold foS
                by_cases c : to (sT S i) a = y
                · rw [if_neg (fun z => z c), tb_rc hT, s_pulled hT hw ht y3 ha, bI_s, tb_rc hT, s_pulled hT hw ht y4 ha, bI_s]
                  by_cases c2 : (plF (sT S i) y3 a &&& (plF (sT S i) y4 a ^^^ (-1))) = 0
                  · rw [if_neg (fun z => z c2), if_pos ⟨c, c2⟩]
                  · rw [if_pos c2, if_neg (fun z => c2 z.2)]
                · rw [if_pos c, if_neg (fun z => c z.1)]
              · rw [bX5_follows_31, tb_f1 hT, if_pos (nI_le (Nat.le_refl _) (by omega))]
            · rw [eX6_follows, md_rc, m_isObjT hm hS hi hy, bI_s, if_pos (by decide), md_r3, md_a3 (by omega), hm.1.c hi, hc, if_neg (by decide), md_rc, m_isSieve hm.1 hi ht (by omega), bI_s, if_neg hs, if_neg (show ¬ (1 : Int32) = 0 by decide), md_rc, m_isSieve hm.1 hi ht (by omega), bI_s, if_neg hr, if_pos (show ¬ (1 : Int32) = 0 by decide)]
              refine (lp_fl (fun a r (_ : Unit) => az_rn sc iX6_follows 30 [some (.ref m), some (.int (nI i)), some (.int (nI y)), some (.int y3), some (.int y4), some (.int r), some (.int (nI a))] [] (mdG G1 m Vm Am)) (foS (sT S i) y y3 y4) (fun r => some (some (.int r), mdG G1 m Vm Am)) (tK (sT S i)) (fun a r _ ha => ⟨(), ?_⟩) (fun r _ => ?_) 0 ()).trans rfl
              · have hto := hw.ton ha
                rw [bX6_follows_30, md_r2, md_a2 (by omega), hm.1.a hi, if_neg (nI_ge ha (by omega)), md_rc, m_to hm.1 hi ha, bI_s, ite_nnI (by omega) (by omega), nI_1]
                unfold foS
                by_cases c : to (sT S i) a = y
                · rw [if_neg (fun z => z c), md_rc, m_pulled hm.1 hi ht y3 ha, bI_s, md_rc, m_pulled hm.1 hi ht y4 ha, bI_s]
                  by_cases c2 : (plF (sT S i) y3 a &&& (plF (sT S i) y4 a ^^^ (-1))) = 0
                  · rw [if_neg (fun z => z c2), if_pos ⟨c, c2⟩]
                  · rw [if_pos c2, if_neg (fun z => c2 z.2)]
                · rw [if_pos c, if_neg (fun z => c z.1)]
              · rw [bX6_follows_30, md_r2, md_a2 (by omega), hm.1.a hi, if_pos (nI_le (Nat.le_refl _) (by omega))]
    · refine opU_n h hS hm (-2) ?_ ?_
      · rw [eX5_follows, cl_rc0, s_tableAt h hS hi, bR_s, tb_rc hT, s_hasObjectN hT hy2, bI_s, if_neg (by decide)]
      · rw [eX6_follows, md_rc, m_isObjN hm hS hi hy2, bI_s, if_neg (by decide)]
  · refine opU_n h hS hm (-2) ?_ ?_
    · rw [eX5_follows, cl_rc0, s_tableAtN h hy1, bR_0]
    · rw [eX6_follows, md_rc, m_isObjM hm hS hy1, bI_s, if_neg (by decide)]
end SIEVB
