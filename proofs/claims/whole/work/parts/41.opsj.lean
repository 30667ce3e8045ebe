/-! THE FORM OF AN OPERATION; turned -/
def opU (c5 c6 : az_R) (G G1 : az_H) (B x m : Nat) (S : wS) : Prop := ∃ (v : Int32) (G' : az_H) (V' : Nat → Int32) (A' : Nat → Nat → Int32) (R' : Nat → Nat → Option Nat) (Vm' : Nat → Int32) (Am' : Nat → Nat → Int32) (S' : wS) (ti' ci' : Nat → Nat), c5 = some (some (.int v), clG G' x V' A' R') ∧ c6 = some (some (.int v), mdG G1 m Vm' Am') ∧ iC G' B V' A' R' S' ti' ci' ∧ iM Vm' Am' S' ∧ wW S' ∧ (∀ q : Nat, q ≤ B → G'.1 q = G.1 q) ∧ G'.2.1 + 4 * sN S + 2 * sM S = G.2.1 + 4 * sN S' + 2 * sM S' ∧ G'.2.2 + 630 * sN S + 29 * sM S = G.2.2 + 630 * sN S' + 29 * sM S'
section OPSJ
variable {sc : az_S} {G G1 : az_H} {B x m : Nat} {V Vm : Nat → Int32} {A Am : Nat → Nat → Int32} {R : Nat → Nat → Option Nat} {S : wS} {ti ci : Nat → Nat}
theorem opU_n {c5 c6 : az_R} (h : iC G B V A R S ti ci) (hS : wW S) (hm : iM Vm Am S) (v : Int32) (e1 : c5 = some (some (.int v), clG G x V A R)) (e2 : c6 = some (some (.int v), mdG G1 m Vm Am)) : opU c5 c6 G G1 B x m S :=
  ⟨v, G, V, A, R, Vm, Am, S, ti, ci, e1, e2, h, hm, hS, fun _ _ => rfl, rfl, rfl⟩
theorem opU_p {c5 c6 : az_R} (h : iC G B V A R S ti ci) (hS : wW S) (hm : iM Vm Am S) (hn : sN S < 8) {T : tb} (hT : tbW T) (ht : tC T = 1 → tld T) {Am' : Nat → Nat → Int32} (e1 : c5 = some (some (.int (nI (sN S))), clG (tbG (bmp G 4 630) G.2.1 T) x (va_up V 0 (nI (sN S + 1))) A (va_up R 1 (va_up (R 1) (sN S) (some G.2.1))))) (e2 : c6 = some (some (.int (nI (sN S))), mdG G1 m (va_up Vm 0 (nI (sN S + 1))) Am')) (e3 : mT (va_up Vm 0 (nI (sN S + 1))) Am' (sN S + 1) (va_up (sT S) (sN S) T)) (e4 : ∀ r : Nat, 10 ≤ r → Am' r = Am r) : opU c5 c6 G G1 B x m S := by
  have h5 := h.2.2.2.2.1
  refine ⟨_, _, _, _, _, _, _, sPu S T, _, ci, e1, e2, iC_push h hS T, iM_push hS hm e3 e4, wW_push hS hn hT ht, fun q hq => tg_out (bmp G 4 630) T (by omega), ?_, ?_⟩
  · show G.2.1 + 4 + 4 * sN S + 2 * sM S = G.2.1 + 4 * (sN S + 1) + 2 * sM S
    omega
  · show G.2.2 + 630 + 630 * sN S + 29 * sM S = G.2.2 + 630 * (sN S + 1) + 29 * sM S
    omega
theorem e9_cl (h : iC G B V A R S ti ci) (hB : x + 22 ≤ B) (T : tb) : tbG (bmp (clG G x V A R) 4 630) (clG G x V A R).2.1 T = clG (tbG (bmp G 4 630) G.2.1 T) x V A R := by
  have h5 := h.2.2.2.2.1
  exact tg_cl (G := bmp G 4 630) _ _ _ _ (show x + 22 < G.2.1 by omega)
theorem s_keepP (h : iC G B V A R S ti ci) (hB : x + 22 ≤ B) (hn : sN S < 8) (T : tb) : az_ca sc iX5_keepTable [.ref x, .ref (clG G x V A R).2.1] (clG (tbG (bmp G 4 630) G.2.1 T) x V A R) = some (some (.int (nI (sN S))), clG (tbG (bmp G 4 630) G.2.1 T) x (va_up V 0 (nI (sN S + 1))) A (va_up R 1 (va_up (R 1) (sN S) (some G.2.1)))) := by
  have h5 := h.2.2.2.2.1
  exact s_keepTable (sc := sc) (G := bmp G 4 630) (x := x) (V := V) (A := A) (R := R) (t := G.2.1) (T := T) (by omega) h.1 hn
theorem lt8 {n : Nat} (h : n < 8) : nI n < (8 : Int32) := show nI n < nI 8 from nI_lt h (by omega)
theorem ne8 {n : Nat} (h : n < 8) : ¬ nI n = (8 : Int32) := fun z => by
  have z' : nI n = nI 8 := z
  rw [nI_inj (by omega) (by omega)] at z'
  omega
theorem op_turned (h : iC G B V A R S ti ci) (hB : x + 22 ≤ B) (hS : wW S) (hm : iM Vm Am S) (y : Int32) : opU (az_ca sc iX5_turned [.ref x, .int y] (clG G x V A R)) (az_ca sc iX6_turned [.ref m, .int y] (mdG G1 m Vm Am)) G G1 B x m S := by
  have h8 := hS.1
  rcases ix_c y (n := sN S) (by omega) with ⟨i, hi, rfl⟩ | hy
  · have hT := h.tabc (x := x) hB hi V A R
    have hw := hS.tw hi
    rcases hw.c01 with hc | hc
    · refine opU_n h hS hm (-3) ?_ ?_
      · rw [eX5_turned, cl_rc0, s_tableAt h hS hi, bR_s, tb_f2 hT, hc, if_neg (by decide)]
      · rw [eX6_turned, md_rc, m_isTableT hm hS hi, bI_s, if_pos (by decide), md_r3, md_a3 (by omega), hm.1.c hi, hc, if_neg (by decide)]
    · by_cases hk : sN S < 8
      · have ht := (h.2.2.2.2.2.2.1 i hi).2.2.2
        obtain ⟨A1, e1, e2, e3⟩ := m_begins (sc := sc) (G := G1) (m := m) hm.1 hk hw.n1 hw.n6
        obtain ⟨A2, e4, e5, e6⟩ := m_turnedL (sc := sc) (G := G1) (m := m) e2 hw hi rfl
        have hW := tuF_W hw (hS.told hi hc)
        refine opU_p (Am' := A2) h hS hm hk hW.1 (fun _ => hW.2) ?_ ?_ e5 (fun r hr => (e6 r (by omega)).trans (e3 r (by omega)))
        · rw [eX5_turned, cl_rc0, s_tableAt h hS hi, bR_s, tb_f2 hT, hc, if_pos (by decide), cl0_i11, h.1, if_pos (lt8 hk), s_turnedTable hT ht hw, bR_s, e9_cl h hB, cl_rc0, s_keepP h hB hk, bI_s]
        · rw [eX6_turned, md_rc, m_isTableT hm hS hi, bI_s, if_pos (by decide), md_r3, md_a3 (by omega), hm.1.c hi, hc, if_pos (by decide), md_i0, hm.1.1, if_pos (ne8 hk), md_i0, hm.1.1, md_r1, md_a1 (by omega), hm.1.o hi, md_rc, e1, bV_s, md_r1, md_a1 (by omega), e2.o2 (i := i) (by omega) (up_n _ _ (by omega))]
          exact e4
      · have hk' : sN S = 8 := by omega
        refine opU_n h hS hm (-4) ?_ ?_
        · rw [eX5_turned, cl_rc0, s_tableAt h hS hi, bR_s, tb_f2 hT, hc, if_pos (by decide), cl0_i11, h.1, hk', if_neg (by decide)]
        · rw [eX6_turned, md_rc, m_isTableT hm hS hi, bI_s, if_pos (by decide), md_r3, md_a3 (by omega), hm.1.c hi, hc, if_pos (by decide), md_i0, hm.1.1, hk', if_neg (by decide)]
  · refine opU_n h hS hm (-2) ?_ ?_
    · rw [eX5_turned, cl_rc0, s_tableAtN h hy, bR_0]
    · rw [eX6_turned, md_rc, m_isTableN hm hS hy, bI_s, if_neg (by decide)]
end OPSJ
