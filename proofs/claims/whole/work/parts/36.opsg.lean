/-! OPERATION way -/
section OPSG
variable {sc : az_S} {G G1 : az_H} {B x m : Nat} {V Vm : Nat → Int32} {A Am : Nat → Nat → Int32} {R : Nat → Nat → Option Nat} {S : wS} {ti ci : Nat → Nat} {nt : Nat} {Tb : Nat → tb}
theorem mT_way (h : mT Vm Am nt Tb) {i a b c : Nat} (hi : i < nt) (ha : a < tK (Tb i)) (hb : b < tK (Tb i)) (hW : tbW (wS1 (Tb i) a b (nI c))) : mT Vm (va_up Am 6 (upd (Am 6) (576 * i + 24 * a + b) (nI c))) nt (va_up Tb i (wS1 (Tb i) a b (nI c))) := by
  obtain ⟨a1, a2, a3⟩ := h
  have hki := (a3 i hi).1.k24
  refine ⟨a1, a2, fun j hj => ?_⟩
  obtain ⟨b1, b2, b3, b4, b5, b6, b7⟩ := a3 j hj
  have hkj := b1.k24
  rw [up_n _ _ (show 1 ≠ 6 by omega), up_n _ _ (show 2 ≠ 6 by omega), up_n _ _ (show 3 ≠ 6 by omega), up_n _ _ (show 4 ≠ 6 by omega), up_n _ _ (show 5 ≠ 6 by omega), up_s]
  by_cases e : j = i
  · subst e
    rw [up_s]
    refine ⟨hW, b2, b3, b4, b5, fun p q hp hq hnp hnq ht => ?_, fun p q hp hq hpq => ?_⟩
    · have hp' : p < tK (Tb j) := hp
      have hq' : q < tK (Tb j) := hq
      rw [wy_S1 (by omega) (by omega)]
      unfold upd
      by_cases e2 : p = a ∧ q = b
      · rw [if_pos e2, if_pos (by omega)]
      · rw [if_neg e2, if_neg (by omega)]
        exact b6 p q hp' hq' hnp hnq ht
    · have hpq' : tK (Tb j) ≤ p ∨ tK (Tb j) ≤ q := hpq
      unfold upd
      rw [if_neg (by omega)]
      exact b7 p q hp hq hpq'
  · rw [up_n _ _ e]
    refine ⟨b1, b2, b3, b4, b5, fun p q hp hq hnp hnq ht => ?_, fun p q hp hq hpq => ?_⟩
    · unfold upd
      rw [if_neg (by omega)]
      exact b6 p q hp hq hnp hnq ht
    · unfold upd
      rw [if_neg (by omega)]
      exact b7 p q hp hq hpq
theorem op_way (h : iC G B V A R S ti ci) (hB : x + 22 ≤ B) (hS : wW S) (hm : iM Vm Am S) (y a b c : Int32) : ∃ (v : Int32) (G' : az_H) (Am' : Nat → Nat → Int32) (S' : wS), az_ca sc iX5_way [.ref x, .int y, .int a, .int b, .int c] (clG G x V A R) = some (some (.int v), clG G' x V A R) ∧ az_ca sc iX6_way [.ref m, .int y, .int a, .int b, .int c] (mdG G1 m Vm Am) = some (some (.int v), mdG G1 m Vm Am') ∧ iC G' B V A R S' ti ci ∧ iM Vm Am' S' ∧ wW S' ∧ (∀ q : Nat, q ≤ B → G'.1 q = G.1 q) ∧ G'.2 = G.2 ∧ sN S' = sN S ∧ sM S' = sM S := by
  have h8 := hS.1
  have out : ∀ v : Int32, az_ca sc iX5_way [.ref x, .int y, .int a, .int b, .int c] (clG G x V A R) = some (some (.int v), clG G x V A R) → az_ca sc iX6_way [.ref m, .int y, .int a, .int b, .int c] (mdG G1 m Vm Am) = some (some (.int v), mdG G1 m Vm Am) → (∃ (v : Int32) (G' : az_H) (Am' : Nat → Nat → Int32) (S' : wS), az_ca sc iX5_way [.ref x, .int y, .int a, .int b, .int c] (clG G x V A R) = some (some (.int v), clG G' x V A R) ∧ az_ca sc iX6_way [.ref m, .int y, .int a, .int b, .int c] (mdG G1 m Vm Am) = some (some (.int v), mdG G1 m Vm Am') ∧ iC G' B V A R S' ti ci ∧ iM Vm Am' S' ∧ wW S' ∧ (∀ q : Nat, q ≤ B → G'.1 q = G.1 q) ∧ G'.2 = G.2 ∧ sN S' = sN S ∧ sM S' = sM S) := fun v e1 e2 => ⟨v, G, Am, S, e1, e2, h, hm, hS, fun _ _ => rfl, rfl, rfl, rfl⟩
  rcases ix_c y (n := sN S) (by omega) with ⟨i, hi, rfl⟩ | hy
  · have hT := h.tabc (x := x) hB hi V A R
    have hw := hS.tw hi
    have hn6 := hw.n6
    have hk := hw.k24
    have hx : x + 22 < ti i := by have := h.tB hi; omega
    rcases ix_c a (n := tK (sT S i)) (by omega) with ⟨a', ha, rfl⟩ | ha
    · skip
      rcases ix_c b (n := tK (sT S i)) (by omega) with ⟨b', hb, rfl⟩ | hb
      · skip
        rcases ix_c c (n := tK (sT S i)) (by omega) with ⟨c', hc, rfl⟩ | hc
        · skip
          have tna := hw.ton ha
          have fnb := hw.frn hb
          have fna := hw.frn ha
          have fnc := hw.frn hc
          have tnc := hw.ton hc
          have tnb := hw.ton hb
          rcases hw.c01 with hc0 | hc0
          · skip
            by_cases e1 : to (sT S i) a' = fr (sT S i) b'
            · skip
              by_cases e2 : tN (sT S i) ≤ a'
              · skip
                by_cases e3 : tN (sT S i) ≤ b'
                · skip
                  by_cases e4 : fr (sT S i) c' = fr (sT S i) a'
                  · skip
                    by_cases e5 : to (sT S i) c' = to (sT S i) b'
                    · skip
                      have hW : tbW (wS1 (sT S i) a' b' (nI c')) := wS1_W hw ha hb hc e2 e3 e1 e4 e5
                      refine ⟨1, tbG G (ti i) (wS1 (sT S i) a' b' (nI c')), va_up Am 6 (upd (Am 6) (576 * i + 24 * a' + b') (nI c')), sUp S i (wS1 (sT S i) a' b' (nI c')), ?_, ?_, ?_, ?_, ?_, ?_, rfl, rfl, rfl⟩
                      · rw [eX5_way, cl_rc0, s_tableAt h hS hi, bR_s, tb_rc hT, s_hasArrow hT ha hk, bI_s, if_neg (by decide), tb_rc hT, s_hasArrow hT hb hk, bI_s, if_neg (by decide), tb_rc hT, s_hasArrow hT hc hk, bI_s, if_pos (by decide), tb_f2 hT, hc0, if_neg (by decide), tb_rc hT, s_isRow hT hw ha hb, bI_s, if_pos e1, if_neg (by decide), tb_rc hT, s_doesNothing hT (by omega) hn6, bI_s, if_neg (show ¬ a' < tN (sT S i) by omega), if_neg (by decide), tb_rc hT, s_doesNothing hT (by omega) hn6, bI_s, if_neg (show ¬ b' < tN (sT S i) by omega), if_pos rfl, tb_rc hT, s_fromOf hT (by omega), bI_s, tb_rc hT, s_fromOf hT (by omega), bI_s, hw.f hc, hw.f ha, ite_nnI (by omega) (by omega), if_neg (fun q => q e4), tb_rc hT, s_toOf hT (by omega), bI_s, tb_rc hT, s_toOf hT (by omega), bI_s, hw.g hc, hw.g hb, ite_nI (by omega) (by omega), if_pos e5, tb_rc hT]
                        have eT : clG G x V A R = tbG (clG G x V A R) (ti i) (sT S i) := (tg_id hT).symm
                        rw [eT, s_setWay ha hb hk, bV_s, tg_cl _ _ _ _ hx]
                      · rw [eX6_way, md_rc, m_isArrowT hm hS hi ha, bI_s, if_neg (by decide), md_rc, m_isArrowT hm hS hi hb, bI_s, if_neg (by decide), md_rc, m_isArrowT hm hS hi hc, bI_s, if_pos (by decide), md_r1, md_a1 (by omega), hm.1.o hi, md_r3, md_a3 (by omega), hm.1.c hi, hc0, if_neg (by decide), md_rc, m_to hm.1 hi ha, bI_s, md_rc, m_from hm.1 hi hb, bI_s, ite_nnI (by omega) (by omega), if_neg (fun q => q e1), if_neg (nI_nlt (show tN (sT S i) ≤ a' by omega) (by omega)), if_neg (nI_nlt (show tN (sT S i) ≤ b' by omega) (by omega)), md_rc, m_from hm.1 hi hc, bI_s, md_rc, m_from hm.1 hi ha, bI_s, ite_nnI (by omega) (by omega), if_neg (fun q => q e4), md_rc, m_to hm.1 hi hc, bI_s, md_rc, m_to hm.1 hi hb, bI_s, ite_nI (by omega) (by omega), if_pos e5, md_r6, n576, md_s6 (by omega)]
                      · exact iC_up h hi (tg_C G (ti i) _) (fun q' hq' => tg_out G _ hq') rfl rfl
                      · exact iM_up hS hm hc0 (mT_way hm.1 hi ha hb hW) (up_n _ _ (by omega)) (up_n _ _ (by omega)) (up_n _ _ (by omega)) (up_n _ _ (by omega))
                      · exact wW_up hS hi hc0 hW (fun z => by have z' : tC (sT S i) = 1 := z; rw [hc0] at z'; exact absurd z' (by decide))
                      · intro q' hq'
                        have := h.tB hi
                        exact tg_out G _ (by omega)
                    · refine out (-3) ?_ ?_
                      · rw [eX5_way, cl_rc0, s_tableAt h hS hi, bR_s, tb_rc hT, s_hasArrow hT ha hk, bI_s, if_neg (by decide), tb_rc hT, s_hasArrow hT hb hk, bI_s, if_neg (by decide), tb_rc hT, s_hasArrow hT hc hk, bI_s, if_pos (by decide), tb_f2 hT, hc0, if_neg (by decide), tb_rc hT, s_isRow hT hw ha hb, bI_s, if_pos e1, if_neg (by decide), tb_rc hT, s_doesNothing hT (by omega) hn6, bI_s, if_neg (show ¬ a' < tN (sT S i) by omega), if_neg (by decide), tb_rc hT, s_doesNothing hT (by omega) hn6, bI_s, if_neg (show ¬ b' < tN (sT S i) by omega), if_pos rfl, tb_rc hT, s_fromOf hT (by omega), bI_s, tb_rc hT, s_fromOf hT (by omega), bI_s, hw.f hc, hw.f ha, ite_nnI (by omega) (by omega), if_neg (fun q => q e4), tb_rc hT, s_toOf hT (by omega), bI_s, tb_rc hT, s_toOf hT (by omega), bI_s, hw.g hc, hw.g hb, ite_nI (by omega) (by omega), if_neg e5]
                      · rw [eX6_way, md_rc, m_isArrowT hm hS hi ha, bI_s, if_neg (by decide), md_rc, m_isArrowT hm hS hi hb, bI_s, if_neg (by decide), md_rc, m_isArrowT hm hS hi hc, bI_s, if_pos (by decide), md_r1, md_a1 (by omega), hm.1.o hi, md_r3, md_a3 (by omega), hm.1.c hi, hc0, if_neg (by decide), md_rc, m_to hm.1 hi ha, bI_s, md_rc, m_from hm.1 hi hb, bI_s, ite_nnI (by omega) (by omega), if_neg (fun q => q e1), if_neg (nI_nlt (show tN (sT S i) ≤ a' by omega) (by omega)), if_neg (nI_nlt (show tN (sT S i) ≤ b' by omega) (by omega)), md_rc, m_from hm.1 hi hc, bI_s, md_rc, m_from hm.1 hi ha, bI_s, ite_nnI (by omega) (by omega), if_neg (fun q => q e4), md_rc, m_to hm.1 hi hc, bI_s, md_rc, m_to hm.1 hi hb, bI_s, ite_nI (by omega) (by omega), if_neg e5]
                  · refine out (-3) ?_ ?_
                    · rw [eX5_way, cl_rc0, s_tableAt h hS hi, bR_s, tb_rc hT, s_hasArrow hT ha hk, bI_s, if_neg (by decide), tb_rc hT, s_hasArrow hT hb hk, bI_s, if_neg (by decide), tb_rc hT, s_hasArrow hT hc hk, bI_s, if_pos (by decide), tb_f2 hT, hc0, if_neg (by decide), tb_rc hT, s_isRow hT hw ha hb, bI_s, if_pos e1, if_neg (by decide), tb_rc hT, s_doesNothing hT (by omega) hn6, bI_s, if_neg (show ¬ a' < tN (sT S i) by omega), if_neg (by decide), tb_rc hT, s_doesNothing hT (by omega) hn6, bI_s, if_neg (show ¬ b' < tN (sT S i) by omega), if_pos rfl, tb_rc hT, s_fromOf hT (by omega), bI_s, tb_rc hT, s_fromOf hT (by omega), bI_s, hw.f hc, hw.f ha, ite_nnI (by omega) (by omega), if_pos e4]
                    · rw [eX6_way, md_rc, m_isArrowT hm hS hi ha, bI_s, if_neg (by decide), md_rc, m_isArrowT hm hS hi hb, bI_s, if_neg (by decide), md_rc, m_isArrowT hm hS hi hc, bI_s, if_pos (by decide), md_r1, md_a1 (by omega), hm.1.o hi, md_r3, md_a3 (by omega), hm.1.c hi, hc0, if_neg (by decide), md_rc, m_to hm.1 hi ha, bI_s, md_rc, m_from hm.1 hi hb, bI_s, ite_nnI (by omega) (by omega), if_neg (fun q => q e1), if_neg (nI_nlt (show tN (sT S i) ≤ a' by omega) (by omega)), if_neg (nI_nlt (show tN (sT S i) ≤ b' by omega) (by omega)), md_rc, m_from hm.1 hi hc, bI_s, md_rc, m_from hm.1 hi ha, bI_s, ite_nnI (by omega) (by omega), if_pos e4]
                · refine out (-3) ?_ ?_
                  · rw [eX5_way, cl_rc0, s_tableAt h hS hi, bR_s, tb_rc hT, s_hasArrow hT ha hk, bI_s, if_neg (by decide), tb_rc hT, s_hasArrow hT hb hk, bI_s, if_neg (by decide), tb_rc hT, s_hasArrow hT hc hk, bI_s, if_pos (by decide), tb_f2 hT, hc0, if_neg (by decide), tb_rc hT, s_isRow hT hw ha hb, bI_s, if_pos e1, if_neg (by decide), tb_rc hT, s_doesNothing hT (by omega) hn6, bI_s, if_neg (show ¬ a' < tN (sT S i) by omega), if_neg (by decide), tb_rc hT, s_doesNothing hT (by omega) hn6, bI_s, if_pos (show b' < tN (sT S i) by omega), if_neg (by decide)]
                  · rw [eX6_way, md_rc, m_isArrowT hm hS hi ha, bI_s, if_neg (by decide), md_rc, m_isArrowT hm hS hi hb, bI_s, if_neg (by decide), md_rc, m_isArrowT hm hS hi hc, bI_s, if_pos (by decide), md_r1, md_a1 (by omega), hm.1.o hi, md_r3, md_a3 (by omega), hm.1.c hi, hc0, if_neg (by decide), md_rc, m_to hm.1 hi ha, bI_s, md_rc, m_from hm.1 hi hb, bI_s, ite_nnI (by omega) (by omega), if_neg (fun q => q e1), if_neg (nI_nlt (show tN (sT S i) ≤ a' by omega) (by omega)), if_pos (nI_lt (show b' < tN (sT S i) by omega) (by omega))]
              · refine out (-3) ?_ ?_
                · rw [eX5_way, cl_rc0, s_tableAt h hS hi, bR_s, tb_rc hT, s_hasArrow hT ha hk, bI_s, if_neg (by decide), tb_rc hT, s_hasArrow hT hb hk, bI_s, if_neg (by decide), tb_rc hT, s_hasArrow hT hc hk, bI_s, if_pos (by decide), tb_f2 hT, hc0, if_neg (by decide), tb_rc hT, s_isRow hT hw ha hb, bI_s, if_pos e1, if_neg (by decide), tb_rc hT, s_doesNothing hT (by omega) hn6, bI_s, if_pos (show a' < tN (sT S i) by omega), if_pos (by decide)]
                · rw [eX6_way, md_rc, m_isArrowT hm hS hi ha, bI_s, if_neg (by decide), md_rc, m_isArrowT hm hS hi hb, bI_s, if_neg (by decide), md_rc, m_isArrowT hm hS hi hc, bI_s, if_pos (by decide), md_r1, md_a1 (by omega), hm.1.o hi, md_r3, md_a3 (by omega), hm.1.c hi, hc0, if_neg (by decide), md_rc, m_to hm.1 hi ha, bI_s, md_rc, m_from hm.1 hi hb, bI_s, ite_nnI (by omega) (by omega), if_neg (fun q => q e1), if_pos (nI_lt (show a' < tN (sT S i) by omega) (by omega))]
            · refine out (-3) ?_ ?_
              · rw [eX5_way, cl_rc0, s_tableAt h hS hi, bR_s, tb_rc hT, s_hasArrow hT ha hk, bI_s, if_neg (by decide), tb_rc hT, s_hasArrow hT hb hk, bI_s, if_neg (by decide), tb_rc hT, s_hasArrow hT hc hk, bI_s, if_pos (by decide), tb_f2 hT, hc0, if_neg (by decide), tb_rc hT, s_isRow hT hw ha hb, bI_s, if_neg e1, if_pos rfl]
              · rw [eX6_way, md_rc, m_isArrowT hm hS hi ha, bI_s, if_neg (by decide), md_rc, m_isArrowT hm hS hi hb, bI_s, if_neg (by decide), md_rc, m_isArrowT hm hS hi hc, bI_s, if_pos (by decide), md_r1, md_a1 (by omega), hm.1.o hi, md_r3, md_a3 (by omega), hm.1.c hi, hc0, if_neg (by decide), md_rc, m_to hm.1 hi ha, bI_s, md_rc, m_from hm.1 hi hb, bI_s, ite_nnI (by omega) (by omega), if_pos e1]
          · refine out (-3) ?_ ?_
            · rw [eX5_way, cl_rc0, s_tableAt h hS hi, bR_s, tb_rc hT, s_hasArrow hT ha hk, bI_s, if_neg (by decide), tb_rc hT, s_hasArrow hT hb hk, bI_s, if_neg (by decide), tb_rc hT, s_hasArrow hT hc hk, bI_s, if_pos (by decide), tb_f2 hT, hc0, if_pos (by decide)]
            · rw [eX6_way, md_rc, m_isArrowT hm hS hi ha, bI_s, if_neg (by decide), md_rc, m_isArrowT hm hS hi hb, bI_s, if_neg (by decide), md_rc, m_isArrowT hm hS hi hc, bI_s, if_pos (by decide), md_r1, md_a1 (by omega), hm.1.o hi, md_r3, md_a3 (by omega), hm.1.c hi, hc0, if_pos (by decide)]
        · refine out (-2) ?_ ?_
          · rw [eX5_way, cl_rc0, s_tableAt h hS hi, bR_s, tb_rc hT, s_hasArrow hT ha hk, bI_s, if_neg (by decide), tb_rc hT, s_hasArrow hT hb hk, bI_s, if_neg (by decide), tb_rc hT, s_hasArrowN hT hc, bI_s, if_neg (by decide)]
          · rw [eX6_way, md_rc, m_isArrowT hm hS hi ha, bI_s, if_neg (by decide), md_rc, m_isArrowT hm hS hi hb, bI_s, if_neg (by decide), md_rc, m_isArrowN hm hS hi hc, bI_s, if_neg (by decide)]
      · refine out (-2) ?_ ?_
        · rw [eX5_way, cl_rc0, s_tableAt h hS hi, bR_s, tb_rc hT, s_hasArrow hT ha hk, bI_s, if_neg (by decide), tb_rc hT, s_hasArrowN hT hb, bI_s, if_pos rfl]
        · rw [eX6_way, md_rc, m_isArrowT hm hS hi ha, bI_s, if_neg (by decide), md_rc, m_isArrowN hm hS hi hb, bI_s, if_pos rfl]
    · refine out (-2) ?_ ?_
      · rw [eX5_way, cl_rc0, s_tableAt h hS hi, bR_s, tb_rc hT, s_hasArrowN hT ha, bI_s, if_pos rfl]
      · rw [eX6_way, md_rc, m_isArrowN hm hS hi ha, bI_s, if_pos rfl]
  · refine out (-2) ?_ ?_
    · rw [eX5_way, cl_rc0, s_tableAtN h hy, bR_0]
    · rw [eX6_way, md_rc, m_isArrowM hm hS hy, bI_s, if_pos rfl]
end OPSG
