/-! OPERATIONS carriers, carrier, same -/
def sSq (S : wS) (t : Nat) : wS := (sN S, sT S, sM S, sC S, t, sL S, sG S)
theorem iC_Sq {G : az_H} {B : Nat} {V V' : Nat → Int32} {A A' : Nat → Nat → Int32} {R : Nat → Nat → Option Nat} {S : wS} {ti ci : Nat → Nat} {t : Nat} (h : iC G B V A R S ti ci) (hA : A' 22 = A 22) (h0 : V' 0 = V 0) (h1 : V' 1 = V 1) (h2 : V' 2 = V 2) (h3 : V' 3 = nI t) : iC G B V' A' R (sSq S t) ti ci := by
  obtain ⟨a1, a2, a3, a4, a5, a6, a7⟩ := h
  exact ⟨h0.trans a1, h1.trans a2, h2.trans a3, h3, a5, fun a ha => by rw [hA]; exact a6 a ha, a7⟩
theorem iM_Sq {V V' : Nat → Int32} {A A' : Nat → Nat → Int32} {S : wS} {t : Nat} (hS : wW S) (h : iM V A S) (h0 : V' 0 = V 0) (h1 : V' 1 = V 1) (h2 : V' 2 = nI t) (h4 : V' 4 = V 4) (hr : ∀ r : Nat, r < 7 → A' r = A r) (h10 : ∀ z, z < 24 → A' 10 z = A 10 z ∧ A' 11 z = A 11 z) (h12 : ∀ z, z < 576 → A' 12 z = A 12 z) (h21 : A' 21 = A 21) : iM V' A' (sSq S t) := by
  obtain ⟨a1, a2, a3, a4, a5, a6⟩ := h
  have h24 := hS.2.1
  refine ⟨mT_V (mT_A a1 hr) h0, h1.trans a2, h2, h4.trans a4, fun j hj => ?_, fun a ha => by rw [h21]; exact a6 a ha⟩
  have hj' : j < sM S := hj
  obtain ⟨b1, b2, b3⟩ := a5 j hj'
  have hk := (hS.tw (hS.ca hj')).k24
  refine ⟨(h10 j (by omega)).1.trans b1, (h10 j (by omega)).2.trans b2, fun a ha => ?_⟩
  have ha' : a < tK (sT S (cA S j)) := ha
  rw [h12 _ (by omega)]
  exact b3 a ha'
theorem wW_Sq {S : wS} {t : Nat} (h : wW S) (ht : t ≤ 60000) : wW (sSq S t) := ⟨h.1, h.2.1, ht, h.2.2.2.1, h.2.2.2.2.1, h.2.2.2.2.2⟩
theorem opU_Sq {c5 c6 : az_R} {G G1 : az_H} {B x m : Nat} {S : wS} {t : Nat} (h : opU c5 c6 G G1 B x m (sSq S t)) : opU c5 c6 G G1 B x m S := h
theorem sw_w (T U : tb) (E0 : Nat) (wn : Int32) : ∀ e p v tr g n, ((sw T U E0 (fun n _ => decide (nI n = wn)) e p v tr g n).1 = 2 → ∃ i, (sw T U E0 (fun n _ => decide (nI n = wn)) e p v tr g n).2.1 = i + 1 ∧ nI i = wn) ∧ ((sw T U E0 (fun n _ => decide (nI n = wn)) e p v tr g n).1 ≠ 2 → ∀ i, n ≤ i → i < (sw T U E0 (fun n _ => decide (nI n = wn)) e p v tr g n).2.1 → nI i ≠ wn) := by
  intro e
  induction e with
  | zero =>
    intro p v tr g n
    refine ⟨fun z => absurd z (show ¬ (0 : Nat) = 2 by omega), fun _ i h1 h2 => ?_⟩
    have h2' : i < n := h2
    omega
  | succ e ih =>
    intro p v tr g n
    rw [sw_s]
    by_cases c1 : (sr T U E0 p v tr g).1 = 2
    · rw [if_pos c1]
      by_cases c2 : nI n = wn
      · rw [if_pos (show decide (nI n = wn) = true from decide_eq_true c2)]
        exact ⟨fun _ => ⟨n, rfl, c2⟩, fun z => absurd rfl z⟩
      · rw [if_neg (show ¬ decide (nI n = wn) = true by simp [c2])]
        obtain ⟨a1, a2⟩ := ih (tK T) ((sr T U E0 p v tr g).2.2 (tK T - 1) + 1) (sr T U E0 p v tr g).2.1 (sr T U E0 p v tr g).2.2 (n + 1)
        refine ⟨a1, fun z i h1 h2 => ?_⟩
        by_cases e1 : i = n
        · rw [e1]; exact c2
        · exact a2 z i (by omega) h2
    · rw [if_neg c1]
      refine ⟨fun z => absurd z c1, fun _ i h1 h2 => ?_⟩
      have h2' : i < n := h2
      omega
section SWC
variable {sc : az_S} {G G1 : az_H} {B x m : Nat} {V Vm : Nat → Int32} {A Am : Nat → Nat → Int32} {R : Nat → Nat → Option Nat} {S : wS} {ti ci : Nat → Nat}
theorem nI_nm5 {a : Nat} (ha : a < 2 ^ 31) : ¬ nI a = -5 := by
  intro h
  have h1 := congrArg Int32.toInt h
  rw [nI_toInt ha] at h1
  have : (-5 : Int32).toInt = -5 := by decide
  omega
theorem op_carriers (h : iC G B V A R S ti ci) (hB : x + 22 ≤ B) (hS : wW S) (hm : iM Vm Am S) (y1 y2 : Int32) : opU (az_ca sc iX5_carriers [.ref x, .int y1, .int y2] (clG G x V A R)) (az_ca sc iX6_carriers [.ref m, .int y1, .int y2] (mdG G1 m Vm Am)) G G1 B x m S := by
  have h8 := hS.1
  obtain ⟨E0, hE⟩ : ∃ E0, 180000 ≤ E0 := ⟨180000, Nat.le_refl _⟩
  rcases ix_c y1 (n := sN S) (by omega) with ⟨i, hi, rfl⟩ | hy1
  · have hT : ∀ V' A', tbC (clG G x V' A' R) (ti i) (sT S i) := fun V' A' => h.tabc hB hi V' A' R
    have hw := hS.tw hi
    rcases ix_c y2 (n := sN S) (by omega) with ⟨j, hj, rfl⟩ | hy2
    · have hU : ∀ V' A', tbC (clG G x V' A' R) (ti j) (sT S j) := fun V' A' => h.tabc hB hj V' A' R
      have hwu := hS.tw hj
      rcases hw.c01 with hc | hc
      · refine opU_n h hS hm (-3) ?_ ?_
        · rw [eX5_carriers, cl_rc0, s_tableAt h hS hi, bR_s, cl_rc0, s_tableAt h hS hj, bR_s, tb_f2 (hT _ _), hc, if_pos rfl]
        · rw [eX6_carriers, md_rc, m_isTableT hm hS hi, bI_s, if_neg (by decide), md_rc, m_isTableT hm hS hj, bI_s, if_pos (by decide), md_r3, md_a3 (by omega), hm.1.c hi, hc, if_pos rfl]
      · rcases hwu.c01 with hd | hd
        · refine opU_n h hS hm (-3) ?_ ?_
          · rw [eX5_carriers, cl_rc0, s_tableAt h hS hi, bR_s, cl_rc0, s_tableAt h hS hj, bR_s, tb_f2 (hT _ _), hc, if_neg (by decide), tb_f2 (hU _ _), hd, if_neg (by decide)]
          · rw [eX6_carriers, md_rc, m_isTableT hm hS hi, bI_s, if_neg (by decide), md_rc, m_isTableT hm hS hj, bI_s, if_pos (by decide), md_r3, md_a3 (by omega), hm.1.c hi, hc, if_neg (by decide), md_r3, md_a3 (by omega), hm.1.c hj, hd, if_pos rfl]
        · obtain ⟨V', A', k1, k2, k3, k4, k5, k6⟩ := s_pickCarrier (sc := sc) (x := x) (V := V) (A := A) hE hT hw (hS.told hi hc) hU hwu (-1)
          obtain ⟨Vm', Am', q1, q2, q3, q4, q5, q6, q7, q8, q9⟩ := m_search (sc := sc) (G := G1) (m := m) (V := Vm) hE hm.1 hi hj (hS.told hi hc) (-2) 0 (mStp_c (sc := sc) (G := G1) (m := m) (j := j) hi)
          obtain ⟨t1, t2, t3⟩ := sw_tr (sT S i) (sT S j) E0 (fun n _ => decide (nI n = -1)) 60001 1 0 0 (fun _ => 0) 0 (by omega) (Nat.le_refl _)
          generalize sw (sT S i) (sT S j) E0 (fun n _ => decide (nI n = -1)) 60001 1 0 0 (fun _ => 0) 0 = z at k1 k3 k4 k5 q1 q3 q9 t1 t2 t3
          refine ⟨if z.1 = 1 then -5 else nI z.2.1, G, V', A', R, Vm', Am', sSq S z.2.2.1, ti, ci, ?_, ?_, iC_Sq h k6 (k2 0 (by omega) (by omega) (by omega)) (k2 1 (by omega) (by omega) (by omega)) (k2 2 (by omega) (by omega) (by omega)) k3, iM_Sq hS hm (q2 0 (by omega)) (q2 1 (by omega)) q3 (q2 4 (by omega)) (fun r hr => q4 r (by omega)) q5 q8 (q4 21 (by omega)), wW_Sq hS t1, fun _ _ => rfl, rfl, rfl⟩
          · rw [eX5_carriers, cl_rc0, s_tableAt h hS hi, bR_s, cl_rc0, s_tableAt h hS hj, bR_s, tb_f2 (hT _ _), hc, if_neg (by decide), tb_f2 (hU _ _), hd, if_pos (by decide), cl_rc0, k1, bI_s, cl0_r2, cl3_i2, k4]
            by_cases c : z.1 = 1
            · rw [if_pos c, if_pos c, if_neg (show ¬ (1 : Int32) = 0 by decide)]
            · rw [if_neg c, if_neg c, if_pos (show (0 : Int32) = 0 from rfl)]
          · rw [eX6_carriers, md_rc, m_isTableT hm hS hi, bI_s, if_neg (by decide), md_rc, m_isTableT hm hS hj, bI_s, if_pos (by decide), md_r3, md_a3 (by omega), hm.1.c hi, hc, if_neg (by decide), md_r3, md_a3 (by omega), hm.1.c hj, hd, if_neg (by decide), md_rc, q1, bI_s]
            unfold mAns
            by_cases c : z.1 = 1
            · rw [if_pos c, if_pos c]
            · rw [if_neg c, if_neg c, if_pos (show (0 : Int32) = 0 from rfl)]
              split <;> rfl
    · refine opU_n h hS hm (-2) ?_ ?_
      · rw [eX5_carriers, cl_rc0, s_tableAt h hS hi, bR_s, cl_rc0, s_tableAtN h hy2, bR_0]
      · rw [eX6_carriers, md_rc, m_isTableT hm hS hi, bI_s, if_neg (by decide), md_rc, m_isTableN hm hS hy2, bI_s, if_neg (by decide)]
  · refine opU_n h hS hm (-2) ?_ ?_
    · rcases ix_c y2 (n := sN S) (by omega) with ⟨j, hj, rfl⟩ | hy2
      · rw [eX5_carriers, cl_rc0, s_tableAtN h hy1, bR_0, cl_rc0, s_tableAt h hS hj, bR_s]
      · rw [eX5_carriers, cl_rc0, s_tableAtN h hy1, bR_0, cl_rc0, s_tableAtN h hy2, bR_0]
    · rw [eX6_carriers, md_rc, m_isTableN hm hS hy1, bI_s, if_pos rfl]
theorem op_same (h : iC G B V A R S ti ci) (hB : x + 22 ≤ B) (hS : wW S) (hm : iM Vm Am S) (y1 y2 : Int32) : opU (az_ca sc iX5_same [.ref x, .int y1, .int y2] (clG G x V A R)) (az_ca sc iX6_same [.ref m, .int y1, .int y2] (mdG G1 m Vm Am)) G G1 B x m S := by
  have h8 := hS.1
  obtain ⟨E0, hE⟩ : ∃ E0, 180000 ≤ E0 := ⟨180000, Nat.le_refl _⟩
  rcases ix_c y1 (n := sN S) (by omega) with ⟨i, hi, rfl⟩ | hy1
  · have hT : ∀ V' A', tbC (clG G x V' A' R) (ti i) (sT S i) := fun V' A' => h.tabc hB hi V' A' R
    have hw := hS.tw hi
    have hnk := hw.nk
    have hn1 := hw.n1
    rcases ix_c y2 (n := sN S) (by omega) with ⟨j, hj, rfl⟩ | hy2
    · have hU : ∀ V' A', tbC (clG G x V' A' R) (ti j) (sT S j) := fun V' A' => h.tabc hB hj V' A' R
      have hwu := hS.tw hj
      rcases hw.c01 with hc | hc
      · refine opU_n h hS hm (-3) ?_ ?_
        · rw [eX5_same, cl_rc0, s_tableAt h hS hi, bR_s, cl_rc0, s_tableAt h hS hj, bR_s, tb_f2 (hT _ _), hc, if_pos rfl]
        · rw [eX6_same, md_rc, m_isTableT hm hS hi, bI_s, if_neg (by decide), md_rc, m_isTableT hm hS hj, bI_s, if_pos (by decide), md_r3, md_a3 (by omega), hm.1.c hi, hc, if_pos rfl]
      · rcases hwu.c01 with hd | hd
        · refine opU_n h hS hm (-3) ?_ ?_
          · rw [eX5_same, cl_rc0, s_tableAt h hS hi, bR_s, cl_rc0, s_tableAt h hS hj, bR_s, tb_f2 (hT _ _), hc, if_neg (by decide), tb_f2 (hU _ _), hd, if_neg (by decide)]
          · rw [eX6_same, md_rc, m_isTableT hm hS hi, bI_s, if_neg (by decide), md_rc, m_isTableT hm hS hj, bI_s, if_pos (by decide), md_r3, md_a3 (by omega), hm.1.c hi, hc, if_neg (by decide), md_r3, md_a3 (by omega), hm.1.c hj, hd, if_neg (by decide)]
        · obtain ⟨A1, f, e1, e2, e3⟩ := s_start (sc := sc) (x := x) (V := V) (A := A) hT hw (hS.told hi hc)
          have hV0 : va_up (va_up (va_up V 3 0) 4 0) 5 0 4 = 0 := by rw [up_n _ _ (by omega), up_s]
          obtain ⟨V', f', k1, k2, k3⟩ := s_sameL (sc := sc) (x := x) (A := A1) (V0 := va_up (va_up (va_up V 3 0) 4 0) 5 0) hE hT hw (hS.told hi hc) hU hwu e2.r hV0 (nI i) (nI j) 60001 1 0 0 (fun _ => 0) 0 (va_up (va_up (va_up V 3 0) 4 0) 5 0) f (by omega) (by omega) (Nat.le_refl _) (by omega) (fun _ _ _ _ => rfl) (by rw [up_n _ _ (by omega), up_n _ _ (by omega), up_s]; rfl) hV0 (up_s _ _ _) (fun q hq => by
            have : q = 0 := by omega
            subst this
            exact ⟨Nat.zero_le _, by rw [e3]; decide⟩) (fun a ha => by omega)
          obtain ⟨Vm', Am', q1, q2, q3, q4, q5, q6, q7, q8, q9⟩ := m_search (sc := sc) (G := G1) (m := m) (V := Vm) hE hm.1 hi hj (hS.told hi hc) (-2) 1 (mStp_s (sc := sc) (G := G1) (m := m) hi hj (hS.told hj hd))
          obtain ⟨t1, t2, t3⟩ := sw_tr (sT S i) (sT S j) E0 (fun _ g => smT (sT S i) (sT S j) g) 60001 1 0 0 (fun _ => 0) 0 (by omega) (Nat.le_refl _)
          have t4 : (sw (sT S i) (sT S j) E0 (fun _ g => smT (sT S i) (sT S j) g) 60001 1 0 0 (fun _ => 0) 0).1 = 2 → 0 < (sw (sT S i) (sT S j) E0 (fun _ g => smT (sT S i) (sT S j) g) 60001 1 0 0 (fun _ => 0) 0).2.1 := by
            have key : ∀ e p v tr g n, (sw (sT S i) (sT S j) E0 (fun _ g => smT (sT S i) (sT S j) g) e p v tr g n).1 = 2 → 0 < (sw (sT S i) (sT S j) E0 (fun _ g => smT (sT S i) (sT S j) g) e p v tr g n).2.1 := by
              intro e
              induction e with
              | zero => intro p v tr g n z; exact absurd z (show ¬ (0 : Nat) = 2 by omega)
              | succ e ih =>
                intro p v tr g n
                rw [sw_s]
                by_cases c1 : (sr (sT S i) (sT S j) E0 p v tr g).1 = 2
                · rw [if_pos c1]
                  by_cases c2 : (fun _ g => smT (sT S i) (sT S j) g) n (sr (sT S i) (sT S j) E0 p v tr g).2.2 = true
                  · rw [if_pos c2]
                    exact fun _ => Nat.succ_pos _
                  · rw [if_neg c2]
                    exact ih _ _ _ _ _
                · rw [if_neg c1]
                  exact fun z => absurd z c1
            exact key _ _ _ _ _ _
          generalize sw (sT S i) (sT S j) E0 (fun _ g => smT (sT S i) (sT S j) g) 60001 1 0 0 (fun _ => 0) 0 = z at k1 k3 q1 q3 q9 t1 t2 t3 t4
          refine ⟨if z.1 = 1 then -5 else if z.1 = 2 then 1 else 0, G, V', va_up A1 4 f', R, Vm', Am', sSq S z.2.2.1, ti, ci, ?_, ?_, iC_Sq h ((up_n _ _ (by omega)).trans (e2.1 22 (by omega) (by omega) (by omega))) ((k2 0 (by omega) (by omega) (by omega)).trans ?_) ((k2 1 (by omega) (by omega) (by omega)).trans ?_) ((k2 2 (by omega) (by omega) (by omega)).trans ?_) k3, iM_Sq hS hm (q2 0 (by omega)) (q2 1 (by omega)) q3 (q2 4 (by omega)) (fun r hr => q4 r (by omega)) q5 q8 (q4 21 (by omega)), wW_Sq hS t1, fun _ _ => rfl, rfl, rfl⟩
          · rw [eX5_same, cl_rc0, s_tableAt h hS hi, bR_s, cl_rc0, s_tableAt h hS hj, bR_s, tb_f2 (hT _ _), hc, if_neg (by decide), tb_f2 (hU _ _), hd, if_pos (by decide), cl0_r2, cl_rc3, e1, bV_s]
            exact k1
          · rw [eX6_same, md_rc, m_isTableT hm hS hi, bI_s, if_neg (by decide), md_rc, m_isTableT hm hS hj, bI_s, if_pos (by decide), md_r3, md_a3 (by omega), hm.1.c hi, hc, if_neg (by decide), md_r3, md_a3 (by omega), hm.1.c hj, hd, if_pos (by decide), md_rc, q1, bI_s]
            unfold mAns
            by_cases c : z.1 = 1
            · rw [if_pos c, if_pos c, if_neg (by decide)]
            · rw [if_neg c, if_neg c]
              by_cases c2 : z.1 = 2
              · have c3 := t4 c2
                rw [if_pos c2, if_pos c2, if_pos (nI_nm5 (by omega)), if_neg (show ¬ nI z.2.1 ≤ (0 : Int32) from (show ¬ nI z.2.1 ≤ nI 0 from nI_ge c3 (by omega)))]
              · rw [if_neg c2, if_neg c2, if_neg (show ¬ (1 : Int32) = 0 by decide), if_pos (by decide), if_pos (by decide)]
          · rw [up_n _ _ (by omega), up_n _ _ (by omega), up_n _ _ (by omega)]
          · rw [up_n _ _ (by omega), up_n _ _ (by omega), up_n _ _ (by omega)]
          · rw [up_n _ _ (by omega), up_n _ _ (by omega), up_n _ _ (by omega)]
    · refine opU_n h hS hm (-2) ?_ ?_
      · rw [eX5_same, cl_rc0, s_tableAt h hS hi, bR_s, cl_rc0, s_tableAtN h hy2, bR_0]
      · rw [eX6_same, md_rc, m_isTableT hm hS hi, bI_s, if_neg (by decide), md_rc, m_isTableN hm hS hy2, bI_s, if_neg (by decide)]
  · refine opU_n h hS hm (-2) ?_ ?_
    · rcases ix_c y2 (n := sN S) (by omega) with ⟨j, hj, rfl⟩ | hy2
      · rw [eX5_same, cl_rc0, s_tableAtN h hy1, bR_0, cl_rc0, s_tableAt h hS hj, bR_s]
      · rw [eX5_same, cl_rc0, s_tableAtN h hy1, bR_0, cl_rc0, s_tableAtN h hy2, bR_0]
    · rw [eX6_same, md_rc, m_isTableN hm hS hy1, bI_s, if_pos rfl]
theorem s_newK (h : iC G B V A R S ti ci) (hB : x + 22 ≤ B) {i j : Nat} (hw : tbW (sT S i)) (hi : i < sN S) (hn : sM S < 24) : (az_nO (clG G x V A R) 0 fun r17 G16 => (az_bV (az_ca sc iX0_init [.ref r17, .int (nI i), .int (nI j), .ref (ti i), .ref (ti j)] G16) fun G18 => (az_fR G18 x 5 5 fun r19 => (az_fR G18 r17 0 4 fun r20 => (az_fI G18 (ti i) 4 1 fun x21 => (az_bV (az_ca sc iX5_copy [.ref r19, .ref r20, .int x21] G18) fun G22 => (az_rc G22 x 5 (az_bI (az_ca sc iX5_keepCarrier [.ref x, .ref r17] G22) fun x24 G23 => (some (some (.int x24), G23)))))))))) = some (some (.int (nI (sM S))), clG (crG (bmp G 2 29) G.2.1 i j (ti i) (ti j) (cpF (A 17) (fun _ => 0) (tK (sT S i)))) x (va_up V 1 (nI (sM S + 1))) A (va_up R 2 (va_up (R 2) (sM S) (some G.2.1)))) := by
  have hk := hw.k24
  have h5 := h.2.2.2.2.1
  have lT : ti i + 3 < G.2.1 := (h.2.2.2.2.2.2.1 i hi).2.2.2
  have e9 : crG (bmp (clG G x V A R) 2 29) (clG G x V A R).2.1 i j (ti i) (ti j) (fun _ => 0) = clG (crG (bmp G 2 29) G.2.1 i j (ti i) (ti j) (fun _ => 0)) x V A R := cg_cl (G := bmp G 2 29) _ _ _ _ _ _ _ _ (show x + 22 < G.2.1 by omega)
  have cN : crC (clG (crG (bmp G 2 29) G.2.1 i j (ti i) (ti j) (fun _ => 0)) x V A R) G.2.1 i j (ti i) (ti j) (fun _ => 0) := ⟨(cl_out _ _ _ _ (by omega)).trans (cg_C (bmp G 2 29) G.2.1 i j (ti i) (ti j) (fun _ => 0)).1, (cl_out _ _ _ _ (by omega)).trans (cg_C (bmp G 2 29) G.2.1 i j (ti i) (ti j) (fun _ => 0)).2⟩
  have hT2 : tbC (clG (crG (bmp G 2 29) G.2.1 i j (ti i) (ti j) (fun _ => 0)) x V A R) (ti i) (sT S i) := tbC_cl (tbC_cg (h.tab hi) lT) (by have := h.tB hi; omega) _ _ _
  rw [nO0, s_newC, bV_s, e9, cl0_r5]
  show (az_fR (clG (crG (bmp G 2 29) G.2.1 i j (ti i) (ti j) (fun _ => 0)) x V A R) G.2.1 0 4 _) = _
  rw [cr_f4 cN, tb_f1 hT2, s_copy cl_c17 cN.2 (by omega) hk hk (by omega) (by omega), bV_s, cl_setd _ _ _ _ (by omega), cg_u, cl_rc0]
  have hkc := s_keepCarrier (sc := sc) (G := bmp G 2 29) (x := x) (V := V) (A := A) (R := R) (c := G.2.1) (n := sM S) (p := i) (q := j) (tp := ti i) (tq := ti j) (g := cpF (A 17) (fun _ => 0) (tK (sT S i))) (by omega) h.2.1 hn
  rw [show (clG G x V A R).2.1 = G.2.1 from rfl, hkc, bI_s]
end SWC
