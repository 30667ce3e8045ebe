/-! OPERATIONS arrow, way -/
section OPSF
variable {sc : az_S} {G G1 : az_H} {B x m : Nat} {V Vm : Nat → Int32} {A Am : Nat → Nat → Int32} {R : Nat → Nat → Option Nat} {S : wS} {ti ci : Nat → Nat} {nt : Nat} {Tb : Nat → tb}
theorem nI24 {a : Nat} (h : a < 24) : nI a < 24 := show nI a < nI 24 from nI_lt h (by omega)
theorem m_comes {i k : Nat} (hi : i < 8) (hk : k < 24) (ha : Am 2 i = nI k) (p q : Int32) : az_ca sc iX6_comes [.ref m, .int (nI i), .int p, .int q] (mdG G1 m Vm Am) = some (some (.int (nI k)), mdG G1 m Vm (va_up (va_up (va_up Am 4 (upd (Am 4) (24 * i + k) p)) 5 (upd (Am 5) (24 * i + k) q)) 2 (upd (Am 2) i (nI (k + 1))))) := by
  rw [eX6_comes, md_r2, md_a2 hi, ha, md_r4, n24, md_s4 (by omega), md_r5, md_s5 (by omega), md_r2, md_a2 hi, md_s2 hi]
  rw [up_n _ _ (show 5 ≠ 4 by omega), up_n _ _ (show 2 ≠ 5 by omega), up_n _ _ (show 2 ≠ 4 by omega), ha, nI_1]
theorem mT_arrow (h : mT Vm Am nt Tb) {i : Nat} (hi : i < nt) {p q : Nat} (hp : p < tN (Tb i)) (hq : q < tN (Tb i)) (hk : tK (Tb i) < 24) : mT Vm (va_up (va_up (va_up Am 4 (upd (Am 4) (24 * i + tK (Tb i)) (nI p))) 5 (upd (Am 5) (24 * i + tK (Tb i)) (nI q))) 2 (upd (Am 2) i (nI (tK (Tb i) + 1)))) nt (va_up Tb i (aAr (Tb i) p q)) := by
  obtain ⟨a1, a2, a3⟩ := h
  refine ⟨a1, a2, fun j hj => ?_⟩
  obtain ⟨b1, b2, b3, b4, b5, b6, b7⟩ := a3 j hj
  have hw := (a3 i hi).1
  have hn6 := hw.n6
  rw [up_n _ _ (show 1 ≠ 2 by omega), up_n _ _ (show 1 ≠ 5 by omega), up_n _ _ (show 1 ≠ 4 by omega), up_s, up_n _ _ (show 3 ≠ 2 by omega), up_n _ _ (show 3 ≠ 5 by omega), up_n _ _ (show 3 ≠ 4 by omega), up_n _ _ (show 4 ≠ 2 by omega), up_n _ _ (show 4 ≠ 5 by omega), up_s, up_n _ _ (show 5 ≠ 2 by omega), up_s, up_n _ _ (show 6 ≠ 2 by omega), up_n _ _ (show 6 ≠ 5 by omega), up_n _ _ (show 6 ≠ 4 by omega)]
  by_cases e : j = i
  · subst e
    rw [up_s]
    refine ⟨aAr_W hw hp hq hk, b2, ?_, b4, fun a ha => ?_, fun a b ha hb hna hnb ht => ?_, fun a b ha hb hab => ?_⟩
    · show upd (Am 2) j (nI (tK (Tb j) + 1)) j = nI (tK (Tb j) + 1)
      simp [upd]
    · have ha' : a < tK (Tb j) + 1 := ha
      show upd (Am 4) (24 * j + tK (Tb j)) (nI p) (24 * j + a) = upd (tF (Tb j)) (tK (Tb j)) (nI p) a ∧ upd (Am 5) (24 * j + tK (Tb j)) (nI q) (24 * j + a) = upd (tG (Tb j)) (tK (Tb j)) (nI q) a
      unfold upd
      by_cases e2 : a = tK (Tb j)
      · subst e2; simp
      · rw [if_neg (by omega), if_neg e2, if_neg (by omega), if_neg e2]
        exact b5 a (by omega)
    · have ha' : a < tK (Tb j) + 1 := ha
      have hb' : b < tK (Tb j) + 1 := hb
      have hna' : tN (Tb j) ≤ a := hna
      have hnb' : tN (Tb j) ≤ b := hnb
      rw [wy_aA hk (by omega) (by omega), if_neg (by omega), if_neg (by omega)]
      by_cases e1 : a = tK (Tb j)
      · rw [b7 a b (by omega) (by omega) (by omega)]
        exact (hw.2.2.2.2 a b (by omega) (by omega) (by omega)).symm
      · by_cases e2 : b = tK (Tb j)
        · rw [b7 a b (by omega) (by omega) (by omega)]
          exact (hw.2.2.2.2 a b (by omega) (by omega) (by omega)).symm
        · rw [to_aA (by omega), if_neg e1, fr_aA (by omega), if_neg e2] at ht
          exact b6 a b (by omega) (by omega) hna' hnb' ht
    · have hab' : tK (Tb j) + 1 ≤ a ∨ tK (Tb j) + 1 ≤ b := hab
      exact b7 a b ha hb (by omega)
  · rw [up_n _ _ e]
    have hkj := b1.k24
    refine ⟨b1, b2, ?_, b4, fun a ha => ?_, b6, b7⟩
    · simp only [upd, if_neg e]; exact b3
    · unfold upd
      rw [if_neg (by omega), if_neg (by omega)]
      exact b5 a ha
theorem op_arrow (h : iC G B V A R S ti ci) (hB : x + 22 ≤ B) (hS : wW S) (hm : iM Vm Am S) (y a b : Int32) : ∃ (v : Int32) (G' : az_H) (Am' : Nat → Nat → Int32) (S' : wS), az_ca sc iX5_arrow [.ref x, .int y, .int a, .int b] (clG G x V A R) = some (some (.int v), clG G' x V A R) ∧ az_ca sc iX6_arrow [.ref m, .int y, .int a, .int b] (mdG G1 m Vm Am) = some (some (.int v), mdG G1 m Vm Am') ∧ iC G' B V A R S' ti ci ∧ iM Vm Am' S' ∧ wW S' ∧ (∀ q : Nat, q ≤ B → G'.1 q = G.1 q) ∧ G'.2 = G.2 ∧ sN S' = sN S ∧ sM S' = sM S := by
  have h8 := hS.1
  have out : ∀ v : Int32, az_ca sc iX5_arrow [.ref x, .int y, .int a, .int b] (clG G x V A R) = some (some (.int v), clG G x V A R) → az_ca sc iX6_arrow [.ref m, .int y, .int a, .int b] (mdG G1 m Vm Am) = some (some (.int v), mdG G1 m Vm Am) → (∃ (v : Int32) (G' : az_H) (Am' : Nat → Nat → Int32) (S' : wS), az_ca sc iX5_arrow [.ref x, .int y, .int a, .int b] (clG G x V A R) = some (some (.int v), clG G' x V A R) ∧ az_ca sc iX6_arrow [.ref m, .int y, .int a, .int b] (mdG G1 m Vm Am) = some (some (.int v), mdG G1 m Vm Am') ∧ iC G' B V A R S' ti ci ∧ iM Vm Am' S' ∧ wW S' ∧ (∀ q : Nat, q ≤ B → G'.1 q = G.1 q) ∧ G'.2 = G.2 ∧ sN S' = sN S ∧ sM S' = sM S) := fun v e1 e2 => ⟨v, G, Am, S, e1, e2, h, hm, hS, fun _ _ => rfl, rfl, rfl, rfl⟩
  rcases ix_c y (n := sN S) (by omega) with ⟨i, hi, rfl⟩ | hy
  · have hT := h.tabc (x := x) hB hi V A R
    have hw := hS.tw hi
    have hn6 := hw.n6
    have hk24 := hw.k24
    have hx : x + 22 < ti i := by have := h.tB hi; omega
    rcases ix_c a (n := tN (sT S i)) (by omega) with ⟨p, hp, rfl⟩ | ha
    · rcases ix_c b (n := tN (sT S i)) (by omega) with ⟨q, hq, rfl⟩ | hb
      · rcases hw.c01 with hc | hc
        · by_cases hk : tK (sT S i) < 24
          · refine ⟨nI (tK (sT S i)), tbG G (ti i) (aAr (sT S i) p q), va_up (va_up (va_up Am 4 (upd (Am 4) (24 * i + tK (sT S i)) (nI p))) 5 (upd (Am 5) (24 * i + tK (sT S i)) (nI q))) 2 (upd (Am 2) i (nI (tK (sT S i) + 1))), sUp S i (aAr (sT S i) p q), ?_, ?_, ?_, ?_, ?_, ?_, rfl, rfl, rfl⟩
            · have hnk := hw.nk
              rw [eX5_arrow, cl_rc0, s_tableAt h hS hi, bR_s, tb_rc hT, s_hasObject hT hp hn6, bI_s, if_neg (by decide), tb_rc hT, s_hasObject hT hq hn6, bI_s, if_pos (by decide), tb_f2 hT, hc, if_pos rfl, tb_f1 hT, if_pos (nI24 hk), tb_rc hT]
              have e1 : clG G x V A R = tbG (clG G x V A R) (ti i) (sT S i) := (tg_id hT).symm
              rw [e1, s_addArrow (by omega) (by omega) hk, bI_s, tg_cl _ _ _ _ hx]
            · rw [eX6_arrow, md_rc, m_isTableT hm hS hi, bI_s, if_neg (by decide), md_r1, md_a1 (by omega), hm.1.o hi, m_inN (by omega) hp, bI_s, if_neg (by decide), md_r1, md_a1 (by omega), hm.1.o hi, m_inN (by omega) hq, bI_s, if_pos (by decide), md_r3, md_a3 (by omega), hm.1.c hi, hc, if_pos rfl, md_r2, md_a2 (by omega), hm.1.a hi, if_pos (fun z => by have z' : nI (tK (sT S i)) = nI 24 := z; rw [nI_inj (by omega) (by omega)] at z'; omega), md_rc, m_comes (by omega) hk (hm.1.a hi), bI_s]
            · refine iC_up h hi (tg_C G (ti i) _) (fun q' hq' => tg_out G _ hq') rfl rfl
            · refine iM_up hS hm hc (mT_arrow hm.1 hi hp hq hk) ?_ ?_ ?_ ?_
              · rw [up_n _ _ (by omega), up_n _ _ (by omega), up_n _ _ (by omega)]
              · rw [up_n _ _ (by omega), up_n _ _ (by omega), up_n _ _ (by omega)]
              · rw [up_n _ _ (by omega), up_n _ _ (by omega), up_n _ _ (by omega)]
              · rw [up_n _ _ (by omega), up_n _ _ (by omega), up_n _ _ (by omega)]
            · exact wW_up hS hi hc (aAr_W hw hp hq hk) (fun z => by have z' : tC (sT S i) = 1 := z; rw [hc] at z'; exact absurd z' (by decide))
            · intro q' hq'
              have := h.tB hi
              exact tg_out G _ (by omega)
          · have hk' : tK (sT S i) = 24 := by omega
            refine out (-4) ?_ ?_
            · rw [eX5_arrow, cl_rc0, s_tableAt h hS hi, bR_s, tb_rc hT, s_hasObject hT hp hn6, bI_s, if_neg (by decide), tb_rc hT, s_hasObject hT hq hn6, bI_s, if_pos (by decide), tb_f2 hT, hc, if_pos rfl, tb_f1 hT, hk', if_neg (by decide)]
            · rw [eX6_arrow, md_rc, m_isTableT hm hS hi, bI_s, if_neg (by decide), md_r1, md_a1 (by omega), hm.1.o hi, m_inN (by omega) hp, bI_s, if_neg (by decide), md_r1, md_a1 (by omega), hm.1.o hi, m_inN (by omega) hq, bI_s, if_pos (by decide), md_r3, md_a3 (by omega), hm.1.c hi, hc, if_pos rfl, md_r2, md_a2 (by omega), hm.1.a hi, hk', if_neg (by decide)]
        · refine out (-3) ?_ ?_
          · rw [eX5_arrow, cl_rc0, s_tableAt h hS hi, bR_s, tb_rc hT, s_hasObject hT hp hn6, bI_s, if_neg (by decide), tb_rc hT, s_hasObject hT hq hn6, bI_s, if_pos (by decide), tb_f2 hT, hc, if_neg (by decide)]
          · rw [eX6_arrow, md_rc, m_isTableT hm hS hi, bI_s, if_neg (by decide), md_r1, md_a1 (by omega), hm.1.o hi, m_inN (by omega) hp, bI_s, if_neg (by decide), md_r1, md_a1 (by omega), hm.1.o hi, m_inN (by omega) hq, bI_s, if_pos (by decide), md_r3, md_a3 (by omega), hm.1.c hi, hc, if_neg (by decide)]
      · refine out (-2) ?_ ?_
        · rw [eX5_arrow, cl_rc0, s_tableAt h hS hi, bR_s, tb_rc hT, s_hasObject hT hp hn6, bI_s, if_neg (by decide), tb_rc hT, s_hasObjectN hT hb, bI_s, if_neg (by decide)]
        · rw [eX6_arrow, md_rc, m_isTableT hm hS hi, bI_s, if_neg (by decide), md_r1, md_a1 (by omega), hm.1.o hi, m_inN (by omega) hp, bI_s, if_neg (by decide), md_r1, md_a1 (by omega), hm.1.o hi, m_inO (by omega) hb, bI_s, if_neg (by decide)]
    · refine out (-2) ?_ ?_
      · rw [eX5_arrow, cl_rc0, s_tableAt h hS hi, bR_s, tb_rc hT, s_hasObjectN hT ha, bI_s, if_pos rfl]
      · rw [eX6_arrow, md_rc, m_isTableT hm hS hi, bI_s, if_neg (by decide), md_r1, md_a1 (by omega), hm.1.o hi, m_inO (by omega) ha, bI_s, if_pos rfl]
  · refine out (-2) ?_ ?_
    · rw [eX5_arrow, cl_rc0, s_tableAtN h hy, bR_0]
    · rw [eX6_arrow, md_rc, m_isTableN hm hS hy, bI_s, if_pos rfl]
end OPSF
