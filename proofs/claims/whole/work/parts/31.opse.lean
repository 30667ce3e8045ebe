/-! a table replaced; OPERATIONS fault, close -/
def sUp (S : wS) (i : Nat) (T : tb) : wS := (sN S, va_up (sT S) i T, sM S, sC S, sQ S, sL S, sG S)
theorem iC_up {G G' : az_H} {B : Nat} {V : Nat → Int32} {A A' : Nat → Nat → Int32} {R : Nat → Nat → Option Nat} {S : wS} {ti ci : Nat → Nat} (h : iC G B V A R S ti ci) {i : Nat} (hi : i < sN S) {T : tb} (hT : tbC G' (ti i) T) (ho : ∀ q : Nat, (q < ti i ∨ ti i + 3 < q) → G'.1 q = G.1 q) (h2 : G'.2 = G.2) (hA : A' 22 = A 22) : iC G' B V A' R (sUp S i T) ti ci := by
  obtain ⟨a1, a2, a3, a4, a5, a6, a7, a8, a9, a10⟩ := h
  refine ⟨a1, a2, a3, a4, by rw [h2]; exact a5, fun a ha => by rw [hA]; exact a6 a ha, fun j hj => ?_, a8, fun j hj => ?_, a10⟩
  · obtain ⟨b1, b2, b3, b4⟩ := a7 j hj
    refine ⟨b1, ?_, b3, by rw [h2]; exact b4⟩
    by_cases e : j = i
    · subst e
      show tbC G' (ti j) (va_up (sT S) j T j)
      rw [up_s]
      exact hT
    · show tbC G' (ti j) (va_up (sT S) i T j)
      rw [up_n _ _ e]
      have hd := a8 j i hj hi e
      exact ⟨(ho _ (by omega)).trans b2.1, (ho _ (by omega)).trans b2.2.1, (ho _ (by omega)).trans b2.2.2.1, (ho _ (by omega)).trans b2.2.2.2⟩
  · obtain ⟨b1, b2, b3, b4, b5⟩ := a9 j hj
    have hd := a10 i j hi hj
    exact ⟨b1, (ho _ (by omega)).trans b2, (ho _ (by omega)).trans b3, b4, by rw [h2]; exact b5⟩
theorem iC_A {G : az_H} {B : Nat} {V V' : Nat → Int32} {A A' : Nat → Nat → Int32} {R : Nat → Nat → Option Nat} {S : wS} {ti ci : Nat → Nat} (h : iC G B V A R S ti ci) (hA : A' 22 = A 22) (h0 : V' 0 = V 0) (h1 : V' 1 = V 1) (h2 : V' 2 = V 2) (h3 : V' 3 = V 3) : iC G B V' A' R S ti ci := by
  obtain ⟨a1, a2, a3, a4, a5, a6, a7⟩ := h
  exact ⟨h0.trans a1, h1.trans a2, h2.trans a3, h3.trans a4, a5, fun a ha => by rw [hA]; exact a6 a ha, a7⟩
theorem wW_up {S : wS} (h : wW S) {i : Nat} (hi : i < sN S) (hc : tC (sT S i) = 0) {T : tb} (hT : tbW T) (ht : tC T = 1 → tld T) : wW (sUp S i T) := by
  obtain ⟨a1, a2, a3, a4, a5, a6⟩ := h
  refine ⟨a1, a2, a3, a4, fun j hj => ?_, fun j hj => ?_⟩
  · show tbW (va_up (sT S) i T j) ∧ (tC (va_up (sT S) i T j) = 1 → tld (va_up (sT S) i T j))
    by_cases e : j = i
    · subst e; rw [up_s]; exact ⟨hT, ht⟩
    · rw [up_n _ _ e]; exact a5 j hj
  · obtain ⟨b1, b2, b3, b4, b5⟩ := a6 j hj
    have e1 : cA S j ≠ i := by
      intro e; rw [e, hc] at b3; exact absurd b3 (by decide)
    have e2 : cB S j ≠ i := by
      intro e; rw [e, hc] at b4; exact absurd b4 (by decide)
    have f1 : sT (sUp S i T) (cA S j) = sT S (cA S j) := up_n _ _ e1
    have f2 : sT (sUp S i T) (cB S j) = sT S (cB S j) := up_n _ _ e2
    show cA S j < sN S ∧ cB S j < sN S ∧ tC (sT (sUp S i T) (cA S j)) = 1 ∧ tC (sT (sUp S i T) (cB S j)) = 1 ∧ ∀ a, a < tK (sT (sUp S i T) (cA S j)) → cR S j a = nI (cg S j a) ∧ cg S j a < tK (sT (sUp S i T) (cB S j))
    rw [f1, f2]
    exact ⟨b1, b2, b3, b4, b5⟩
theorem iM_up {V : Nat → Int32} {A A' : Nat → Nat → Int32} {S : wS} (hS : wW S) (h : iM V A S) {i : Nat} (hc : tC (sT S i) = 0) {T : tb} (hT : mT V A' (sN S) (va_up (sT S) i T)) (h10 : A' 10 = A 10) (h11 : A' 11 = A 11) (h12 : A' 12 = A 12) (h21 : A' 21 = A 21) : iM V A' (sUp S i T) := by
  obtain ⟨a1, a2, a3, a4, a5, a6⟩ := h
  refine ⟨hT, a2, a3, a4, fun j hj => ?_, fun a ha => by rw [h21]; exact a6 a ha⟩
  have e1 : cA S j ≠ i := by
    intro e
    have b3 := hS.cac hj
    rw [e, hc] at b3
    exact absurd b3 (by decide)
  have f1 : sT (sUp S i T) (cA S j) = sT S (cA S j) := up_n _ _ e1
  show A' 10 j = nI (cA S j) ∧ A' 11 j = nI (cB S j) ∧ ∀ a, a < tK (sT (sUp S i T) (cA S j)) → A' 12 (24 * j + a) = cR S j a
  rw [h10, h11, h12, f1]
  exact a5 j hj
theorem iM_A {V : Nat → Int32} {A A' : Nat → Nat → Int32} {S : wS} (h : iM V A S) (hT : mT V A' (sN S) (sT S)) (h10 : A' 10 = A 10) (h11 : A' 11 = A 11) (h12 : A' 12 = A 12) (h21 : A' 21 = A 21) : iM V A' S := by
  obtain ⟨a1, a2, a3, a4, a5, a6⟩ := h
  refine ⟨hT, a2, a3, a4, fun j hj => ?_, fun a ha => by rw [h21]; exact a6 a ha⟩
  rw [h10, h11, h12]
  exact a5 j hj
section OPSE
variable {sc : az_S} {G G1 : az_H} {B x m : Nat} {V Vm : Nat → Int32} {A Am : Nat → Nat → Int32} {R : Nat → Nat → Option Nat} {S : wS} {ti ci : Nat → Nat}
theorem op_fault (h : iC G B V A R S ti ci) (hB : x + 22 ≤ B) (hS : wW S) (hm : iM Vm Am S) (y a : Int32) : ∃ (v : Int32) (A' Am' : Nat → Nat → Int32), az_ca sc iX5_fault [.ref x, .int y, .int a] (clG G x V A R) = some (some (.int v), clG G x V A' R) ∧ az_ca sc iX6_fault [.ref m, .int y, .int a] (mdG G1 m Vm Am) = some (some (.int v), mdG G1 m Vm Am') ∧ iC G B V A' R S ti ci ∧ iM Vm Am' S := by
  have h8 := hS.1
  rw [eX5_fault, eX6_fault, cl_rc0, md_rc]
  rcases ix_c y (n := sN S) (by omega) with ⟨i, hi, rfl⟩ | hy
  · have hT := h.tabc (x := x) hB hi V A R
    have hw := hS.tw hi
    rw [m_isTableT hm hS hi, bI_s, if_neg (by decide), s_tableAt h hS hi, bR_s]
    rcases ix_c a (n := 4) (by omega) with ⟨j, hj, rfl⟩ | ha
    · have hin : az_ca sc iX6_in [.int (nI j), .int 0, .int 3] (mdG G1 m Vm Am) = some (some (.int 1), mdG G1 m Vm Am) := m_inN (n := 4) (by omega) hj
      refine ⟨fw (A 18) (flt (sT S i)).1 (flt (sT S i)).2.1 (flt (sT S i)).2.2.1 (flt (sT S i)).2.2.2 j, va_up A 18 (fw (A 18) (flt (sT S i)).1 (flt (sT S i)).2.1 (flt (sT S i)).2.2.1 (flt (sT S i)).2.2.2), va_up Am 7 (fw (Am 7) (flt (sT S i)).1 (flt (sT S i)).2.1 (flt (sT S i)).2.2.1 (flt (sT S i)).2.2.2), ?_, ?_, ?_, ?_⟩
      · have hx : x + 22 < ti i := by have := h.tB hi; omega
        have h3 : nI j ≤ (3 : Int32) := show nI j ≤ nI 3 from nI_le (show j ≤ 3 by omega) (by omega)
        rw [if_neg (show ¬ nI j < (0 : Int32) from nI_nlt0 (by omega)), if_pos h3, cl0_r6, tb_rc hT, s_writeFault hT hw cl_c18 (by omega), bV_s, cl_u18, cl0_r6, s_read cl_c18 hj (by omega), bI_s, up_s]
      · rw [hin, bI_s, if_pos (by decide), md_rc, m_findFault hm.1 hi, bV_s, md_r7, md_a7 hj, up_s, fw_lt (Am 7) (A 18) _ _ _ _ hj]
      · exact iC_A h (up_n _ _ (by omega)) rfl rfl rfl rfl
      · exact iM_A hm (mT_up hm.1 (by omega) _) (up_n _ _ (by omega)) (up_n _ _ (by omega)) (up_n _ _ (by omega)) (up_n _ _ (by omega))
    · have hin : az_ca sc iX6_in [.int a, .int 0, .int 3] (mdG G1 m Vm Am) = some (some (.int 0), mdG G1 m Vm Am) := m_inO (n := 4) (by omega) ha
      refine ⟨-2, A, Am, ?_, ?_, h, hm⟩
      · by_cases h0 : a < 0
        · rw [if_pos h0]
        · have h3 : ¬ a ≤ 3 := by
            intro q
            have := Int32.le_trans (ha.resolve_left h0) q
            exact absurd this (by decide)
          rw [if_neg h0, if_neg h3]
      · rw [hin, bI_s, if_neg (by decide)]
  · refine ⟨-2, A, Am, ?_, ?_, h, hm⟩
    · rw [s_tableAtN h hy, bR_0]
    · rw [m_isTableN hm hS hy, bI_s, if_pos rfl]
/-- a table closed -/
def tCl (T : tb) : tb := (tN T, tK T, 1, tF T, tG T, tW T)
theorem tCl_W {T : tb} (h : tbW T) : tbW (tCl T) := ⟨⟨h.1.1, h.1.2.1, h.1.2.2.1, h.1.2.2.2.1, Or.inr rfl⟩, h.2.1, h.2.2.1, h.2.2.2.1, h.2.2.2.2⟩
theorem tCl_t {T : tb} (h : tld T) : tld (tCl T) := h
theorem mT_cl {V : Nat → Int32} {A : Nat → Nat → Int32} {nt : Nat} {Tb : Nat → tb} (h : mT V A nt Tb) (i : Nat) : mT V (va_up A 3 (upd (A 3) i 1)) nt (va_up Tb i (tCl (Tb i))) := by
  obtain ⟨a1, a2, a3⟩ := h
  refine ⟨a1, a2, fun j hj => ?_⟩
  obtain ⟨b1, b2, b3, b4, b5, b6, b7⟩ := a3 j hj
  rw [up_n A _ (show 1 ≠ 3 by omega), up_n A _ (show 2 ≠ 3 by omega), up_n A _ (show 4 ≠ 3 by omega), up_n A _ (show 5 ≠ 3 by omega), up_n A _ (show 6 ≠ 3 by omega), up_s]
  by_cases e : j = i
  · subst e
    rw [up_s]
    exact ⟨tCl_W b1, b2, b3, by simp [upd, tCl, tC], b5, b6, b7⟩
  · rw [up_n _ _ e]
    exact ⟨b1, b2, b3, by simp only [upd, if_neg e]; exact b4, b5, b6, b7⟩
theorem op_close (h : iC G B V A R S ti ci) (hB : x + 22 ≤ B) (hS : wW S) (hm : iM Vm Am S) (y : Int32) : ∃ (v : Int32) (G' : az_H) (A' Am' : Nat → Nat → Int32) (S' : wS), az_ca sc iX5_close [.ref x, .int y] (clG G x V A R) = some (some (.int v), clG G' x V A' R) ∧ az_ca sc iX6_close [.ref m, .int y] (mdG G1 m Vm Am) = some (some (.int v), mdG G1 m Vm Am') ∧ iC G' B V A' R S' ti ci ∧ iM Vm Am' S' ∧ wW S' ∧ (∀ q : Nat, q ≤ B → G'.1 q = G.1 q) ∧ G'.2 = G.2 ∧ sN S' = sN S ∧ sM S' = sM S := by
  have h8 := hS.1
  rw [eX5_close, eX6_close, cl_rc0, md_rc]
  rcases ix_c y (n := sN S) (by omega) with ⟨i, hi, rfl⟩ | hy
  · have hT := h.tabc (x := x) hB hi V A R
    have hw := hS.tw hi
    have hx : x + 22 < ti i := by have := h.tB hi; omega
    rw [s_tableAt h hS hi, bR_s, m_isTableT hm hS hi, bI_s, if_pos (by decide), md_rc, m_findFault hm.1 hi, bV_s, md_r3, md_a3 (by omega), up_n Am _ (show 3 ≠ 7 by omega), hm.1.c hi, tb_f2 hT]
    have hm7 : mT Vm (va_up Am 7 (fw (Am 7) (flt (sT S i)).1 (flt (sT S i)).2.1 (flt (sT S i)).2.2.1 (flt (sT S i)).2.2.2)) (sN S) (sT S) := mT_up hm.1 (by omega) _
    have hm7' : iM Vm (va_up Am 7 (fw (Am 7) (flt (sT S i)).1 (flt (sT S i)).2.1 (flt (sT S i)).2.2.1 (flt (sT S i)).2.2.2)) S := iM_A hm hm7 (up_n _ _ (by omega)) (up_n _ _ (by omega)) (up_n _ _ (by omega)) (up_n _ _ (by omega))
    rcases hw.c01 with hc | hc
    · rw [hc, if_pos rfl, if_neg (by decide), cl0_r6, tb_rc hT, s_writeFault hT hw cl_c18 (by omega), bV_s, cl_u18, cl0_r6]
      have hrd : az_ca sc iX5_read [.ref (x + 18), .int 0] (clG G x V (va_up A 18 (fw (A 18) (flt (sT S i)).1 (flt (sT S i)).2.1 (flt (sT S i)).2.2.1 (flt (sT S i)).2.2.2)) R) = some (some (.int (flt (sT S i)).1), clG G x V (va_up A 18 (fw (A 18) (flt (sT S i)).1 (flt (sT S i)).2.1 (flt (sT S i)).2.2.1 (flt (sT S i)).2.2.2)) R) := by
        have := s_read (sc := sc) (i := 0) (cl_c18 (G := G) (x := x) (V := V) (A := va_up A 18 (fw (A 18) (flt (sT S i)).1 (flt (sT S i)).2.1 (flt (sT S i)).2.2.1 (flt (sT S i)).2.2.2)) (R := R)) (by omega) (by omega)
        rw [up_s] at this
        exact this
      rw [hrd, bI_s, md_r7]
      have hra : ∀ k : Int32 → az_R, az_aI (mdG G1 m Vm (va_up Am 7 (fw (Am 7) (flt (sT S i)).1 (flt (sT S i)).2.1 (flt (sT S i)).2.2.1 (flt (sT S i)).2.2.2))) 0 (m + 7) 0 k = k (flt (sT S i)).1 := by
        intro k
        have := md_a7 (G := G1) (m := m) (V := Vm) (A := va_up Am 7 (fw (Am 7) (flt (sT S i)).1 (flt (sT S i)).2.1 (flt (sT S i)).2.2.1 (flt (sT S i)).2.2.2)) (i := 0) (by omega) k
        rw [up_s] at this
        exact this
      rw [hra]
      by_cases hf : (flt (sT S i)).1 = 0
      · rw [if_pos hf, if_pos hf, w1_1, md_r3, w1_1, md_s3 (by omega), up_n Am _ (show 3 ≠ 7 by omega)]
        have hT2 := tbC_cl (h.tab hi) hx V (va_up A 18 (fw (A 18) (flt (sT S i)).1 (flt (sT S i)).2.1 (flt (sT S i)).2.2.1 (flt (sT S i)).2.2.2)) R
        have htold : tld (sT S i) := by
          unfold flt at hf
          cases hu : uu1 (sT S i) with
          | some z => rw [hu] at hf; exact absurd (show (1 : Int32) = 0 from hf) (by decide)
          | none => exact uu1_told hw hu
        refine ⟨1, az_set G (ti i) (.inr (4, [.int (nI (tN (sT S i))), .int (nI (tK (sT S i))), .int 1, .ref (ti i + 1), .ref (ti i + 2), .ref (ti i + 3)])), va_up A 18 (fw (A 18) (flt (sT S i)).1 (flt (sT S i)).2.1 (flt (sT S i)).2.2.1 (flt (sT S i)).2.2.2), va_up (va_up Am 7 (fw (Am 7) (flt (sT S i)).1 (flt (sT S i)).2.1 (flt (sT S i)).2.2.1 (flt (sT S i)).2.2.2)) 3 (upd (Am 3) i 1), sUp S i (tCl (sT S i)), ?_, rfl, ?_, ?_, ?_, ?_, rfl, rfl, rfl⟩
        · rw [pt_s hT2.1 (Nat.le_of_ble_eq_true rfl)]
          rw [cl_setd _ _ _ _ hx]
          rfl
        · refine iC_up h hi ?_ (fun q hq => set_n (by omega)) rfl (up_n _ _ (by omega))
          have hd := h.tab hi
          exact ⟨set_1 _ _ _, (set_n (by omega)).trans hd.2.1, (set_n (by omega)).trans hd.2.2.1, (set_n (by omega)).trans hd.2.2.2⟩
        · refine iM_up hS hm hc ?_ ?_ ?_ ?_ ?_
          · have := mT_cl hm7 i
            rw [up_n Am _ (show 3 ≠ 7 by omega)] at this
            exact this
          · rw [up_n _ _ (by omega), up_n _ _ (by omega)]
          · rw [up_n _ _ (by omega), up_n _ _ (by omega)]
          · rw [up_n _ _ (by omega), up_n _ _ (by omega)]
          · rw [up_n _ _ (by omega), up_n _ _ (by omega)]
        · exact wW_up hS hi hc (tCl_W hw) (fun _ => tCl_t htold)
        · intro q hq
          have := h.tB hi
          exact set_n (by omega)
      · rw [if_neg hf, if_neg hf]
        exact ⟨-3, G, _, _, S, rfl, rfl, iC_A h (up_n _ _ (by omega)) rfl rfl rfl rfl, hm7', hS, fun _ _ => rfl, rfl, rfl, rfl⟩
    · rw [hc, if_neg (by decide), if_pos (by decide)]
      exact ⟨-3, G, A, _, S, rfl, rfl, h, hm7', hS, fun _ _ => rfl, rfl, rfl, rfl⟩
  · refine ⟨-2, G, A, Am, S, ?_, ?_, h, hm, hS, fun _ _ => rfl, rfl, rfl, rfl⟩
    · rw [s_tableAtN h hy, bR_0]
    · rw [m_isTableN hm hS hy, bI_s, if_neg (by decide)]
end OPSE
