/-! OPERATIONS cones, limit: the model gathers; a limit among cones -/
theorem lc64 {a : Nat} (h : a < 2 ^ 31) : (lg_cmp (lN a) 64 ≤ (0 : Int32)) ↔ a ≤ 64 := (lg_cmp_le _ _).trans (lN_le (b := 64) h (by omega))
section LIMC
variable {sc : az_S} {G : az_H} {m : Nat} {V : Nat → Int32} {A : Nat → Nat → Int32} {S : wS} {i : Nat}
theorem iM_V3 {V' : Nat → Int32} {A' : Nat → Nat → Int32} (h : iM V A S) (hV : ∀ r, r ≠ 3 → V' r = V r) (hA : ∀ r, r < 16 ∨ 20 < r → A' r = A r) : iM V' A' S := iM_V (iM_A16 h (fun r hr => hA r (by omega))) (hV 0 (by omega)) (hV 1 (by omega)) (hV 2 (by omega)) (hV 4 (by omega))
theorem m_conStep (h : iM V A S) (hS : wW S) (hi : i < sM S) {q : Nat} (hq : q < tN (sT S (cB S i))) (hr : frR A (tN (sT S (cA S i))) (fun _ => q) (cg S i)) {r : Nat → Nat} {s : coS} (ho : okR (coP S i q) (tK (sT S (cB S i))) (tN (sT S (cA S i))) r) (hz : cz s < 384) (hV3 : V 3 = nI (cz s)) (h18 : ∀ y, y < tN (sT S (cA S i)) → A 18 y = nI (r y)) (hc : coR 19 20 A (tN (sT S (cA S i))) s) (o6 : Option Value) : ∃ V' A' o6', az_rn sc iX6_findCones 56 [some (.ref m), some (.int (nI i)), some (.int (nI (cB S i))), some (.int (nI (tN (sT S (cA S i))))), some (.int (nI q)), some (.int 1), o6] [] (mdG G m V A) = az_rn sc iX6_findCones 56 [some (.ref m), some (.int (nI i)), some (.int (nI (cB S i))), some (.int (nI (tN (sT S (cA S i))))), some (.int (nI q)), some (.int (if (od (coP S i q) (tK (sT S (cB S i))) (tN (sT S (cA S i))) r).2 = true then 0 else 1)), o6'] [] (mdG G m V' A') ∧ (∀ r, r ≠ 3 → V' r = V r) ∧ V' 3 = nI (cz (if hbB (sT S (cA S i)) (sT S (cB S i)) (fun _ => q) (cg S i) r = true then cAdd (tN (sT S (cA S i))) s q r else s)) ∧ (∀ r, r < 18 ∨ 20 < r → A' r = A r) ∧ coR 19 20 A' (tN (sT S (cA S i))) (if hbB (sT S (cA S i)) (sT S (cB S i)) (fun _ => q) (cg S i) r = true then cAdd (tN (sT S (cA S i))) s q r else s) ∧ ((od (coP S i q) (tK (sT S (cB S i))) (tN (sT S (cA S i))) r).2 = false → ∀ y, y < tN (sT S (cA S i)) → A' 18 y = nI ((od (coP S i q) (tK (sT S (cB S i))) (tN (sT S (cA S i))) r).1 y)) := by
  have ca := hS.ca hi
  have cb := hS.cb hi
  have hw := hS.tw ca
  have hn6 := hw.n6
  have hb := m_isCone (sc := sc) (G := G) (m := m) h hS hi hq (r := r) (fun y hy => ⟨h18 y hy, (ho y hy).2, (of_decide_eq_true (ho y hy).1).1⟩)
  rw [bX6_findCones_56, if_neg (show ¬ (1 : Int32) = 0 by decide), md_rc, hb, bI_s]
  by_cases c : hbB (sT S (cA S i)) (sT S (cB S i)) (fun _ => q) (cg S i) r = true
  · have L70 : ∀ d y f, y + d = tN (sT S (cA S i)) → (∀ k y', k < cz s → y' < tN (sT S (cA S i)) → f (6 * k + y') = nI (cl s (6 * k + y'))) → (∀ y', y' < y → f (6 * cz s + y') = nI (r y')) → ∃ V' A' o6', az_rn sc iX6_findCones 70 [some (.ref m), some (.int (nI i)), some (.int (nI (cB S i))), some (.int (nI (tN (sT S (cA S i))))), some (.int (nI q)), some (.int 1), some (.int (nI y))] [] (mdG G m V (va_up (va_up A 19 (upd (A 19) (cz s) (nI q))) 20 f)) = az_rn sc iX6_findCones 56 [some (.ref m), some (.int (nI i)), some (.int (nI (cB S i))), some (.int (nI (tN (sT S (cA S i))))), some (.int (nI q)), some (.int (if (od (coP S i q) (tK (sT S (cB S i))) (tN (sT S (cA S i))) r).2 = true then 0 else 1)), o6'] [] (mdG G m V' A') ∧ (∀ r, r ≠ 3 → V' r = V r) ∧ V' 3 = nI (cz s + 1) ∧ (∀ r, r < 18 ∨ 20 < r → A' r = A r) ∧ coR 19 20 A' (tN (sT S (cA S i))) (cAdd (tN (sT S (cA S i))) s q r) ∧ ((od (coP S i q) (tK (sT S (cB S i))) (tN (sT S (cA S i))) r).2 = false → ∀ y, y < tN (sT S (cA S i)) → A' 18 y = nI ((od (coP S i q) (tK (sT S (cB S i))) (tN (sT S (cA S i))) r).1 y)) := by
      intro d
      induction d with
      | zero =>
        intro y f hy h1 h2
        have e : y = tN (sT S (cA S i)) := by omega
        subst e
        have hm2 : iM (va_up V 3 (nI (cz s + 1))) (va_up (va_up A 19 (upd (A 19) (cz s) (nI q))) 20 f) S := iM_V3 h (fun r hr => up_n _ _ hr) (fun r hr => by rw [up_n _ _ (by omega), up_n _ _ (by omega)])
        obtain ⟨f18, q1, q2⟩ := m_nextRow (sc := sc) (G := G) (m := m) (V := va_up V 3 (nI (cz s + 1))) (A := va_up (va_up A 19 (upd (A 19) (cz s) (nI q))) 20 f) hm2.1 cb hn6 (frR_18 hr (by rw [up_n _ _ (by omega), up_n _ _ (by omega)]) (by rw [up_n _ _ (by omega), up_n _ _ (by omega)])) ho (fun y hy => by
          rw [up_n _ _ (show 18 ≠ 20 by omega), up_n _ _ (show 18 ≠ 19 by omega)]
          exact h18 y hy)
        refine ⟨va_up V 3 (nI (cz s + 1)), va_up (va_up (va_up A 19 (upd (A 19) (cz s) (nI q))) 20 f) 18 f18, some (.int (nI (tN (sT S (cA S i))))), ?_, fun r hr => up_n _ _ hr, up_s _ _ _, fun r hr => ?_, coR_add (f15 := upd (A 19) (cz s) (nI q)) (f16 := f) hn6 (fun k hk => ?_) (upd_s _ _ _) h1 h2 ?_ ?_, fun z y hy => ?_⟩
        · rw [bX6_findCones_70, if_pos (nI_le (Nat.le_refl _) (by omega)), md_i21, hV3, md_p21, nI_1, md_rc, q1, bI_s]
          rfl
        · rw [up_n _ _ (by omega), up_n _ _ (by omega), up_n _ _ (by omega)]
        · rw [upd_n _ _ (by omega)]
          exact hc.1 k hk
        · rw [up_n _ _ (show 19 ≠ 18 by omega), up_n _ _ (show 19 ≠ 20 by omega), up_s]
        · rw [up_n _ _ (show 20 ≠ 18 by omega), up_s]
        · rw [up_s]
          exact q2 z y hy
      | succ d ih =>
        intro y f hy h1 h2
        have hyn : y < tN (sT S (cA S i)) := by omega
        rw [bX6_findCones_70, if_neg (nI_ge hyn (by omega)), md_r23, md_i21, hV3, md_r20, md_a18 (by omega), up_n _ _ (show 18 ≠ 20 by omega), up_n _ _ (show 18 ≠ 19 by omega), h18 y hyn, n6m, md_s20 (by omega), up_s, up_up, nI_1]
        refine ih (y + 1) _ (by omega) (fun k y' hk hy' => ?_) (fun y' hy' => ?_)
        · rw [upd_n _ _ (by omega)]
          exact h1 k y' hk hy'
        · by_cases e : y' = y
          · subst e
            exact upd_s _ _ _
          · rw [upd_n _ _ (by omega)]
            exact h2 y' (by omega)
    obtain ⟨V', A', o6', q1, q2⟩ := L70 (tN (sT S (cA S i))) 0 (A 20) (by omega) hc.2 (fun y hy => absurd hy (Nat.not_lt_zero _))
    have e20 : va_up (va_up A 19 (upd (A 19) (cz s) (nI q))) 20 (A 20) = va_up A 19 (upd (A 19) (cz s) (nI q)) := by
      have e0 : A 20 = va_up A 19 (upd (A 19) (cz s) (nI q)) 20 := (up_n _ _ (by omega)).symm
      rw [e0, up_id]
    rw [e20] at q1
    rw [if_pos c, if_neg (show ¬ (1 : Int32) = 0 by decide), if_pos c, md_r22, md_i21, hV3, md_s19 (by omega)]
    exact ⟨V', A', o6', q1, q2⟩
  · obtain ⟨f18, q1, q2⟩ := m_nextRow (sc := sc) (G := G) (m := m) (V := V) (A := A) h.1 cb hn6 hr ho h18
    have q1' : az_ca sc iX6_nextRow [.ref m, .int (nI (cB S i)), .int (nI (tN (sT S (cA S i))))] (mdG G m V A) = some (some (.int (if (od (coP S i q) (tK (sT S (cB S i))) (tN (sT S (cA S i))) r).2 = true then 0 else 1)), mdG G m V (va_up A 18 f18)) := q1
    rw [if_neg c, if_pos (show (0 : Int32) = 0 from rfl), if_neg c, md_rc, q1', bI_s]
    refine ⟨V, va_up A 18 f18, o6, rfl, fun _ _ => rfl, hV3, fun r hr => up_n _ _ (by omega), ⟨fun k hk => ?_, fun k y hk hy => ?_⟩, fun z y hy => ?_⟩
    · rw [up_n _ _ (show 19 ≠ 18 by omega)]
      exact hc.1 k hk
    · rw [up_n _ _ (show 20 ≠ 18 by omega)]
      exact hc.2 k y hk hy
    · rw [up_s]
      exact q2 z y hy
theorem m_conQ (h : iM V A S) (hS : wW S) (hi : i < sM S) {q : Nat} (hq : q < tN (sT S (cB S i))) (hr : frR A (tN (sT S (cA S i))) (fun _ => q) (cg S i)) : ∀ d r s V1 A1 (o6 : Option Value), vl (coP S i q) (tK (sT S (cB S i))) r (tN (sT S (cA S i))) + (d + 1) = coPr S i q → okR (coP S i q) (tK (sT S (cB S i))) (tN (sT S (cA S i))) r → cz s + (d + 1) ≤ 384 → (∀ r, r ≠ 3 → V1 r = V r) → V1 3 = nI (cz s) → (∀ r, r < 18 ∨ 20 < r → A1 r = A r) → (∀ y, y < tN (sT S (cA S i)) → A1 18 y = nI (r y)) → coR 19 20 A1 (tN (sT S (cA S i))) s → ∃ V' A' o6', az_rn sc iX6_findCones 56 [some (.ref m), some (.int (nI i)), some (.int (nI (cB S i))), some (.int (nI (tN (sT S (cA S i))))), some (.int (nI q)), some (.int 1), o6] [] (mdG G m V1 A1) = az_rn sc iX6_findCones 41 [some (.ref m), some (.int (nI i)), some (.int (nI (cB S i))), some (.int (nI (tN (sT S (cA S i))))), some (.int (nI (q + 1))), some (.int 0), o6'] [] (mdG G m V' A') ∧ (∀ r, r ≠ 3 → V' r = V r) ∧ V' 3 = nI (cz (gc (coP S i q) (tK (sT S (cB S i))) (tN (sT S (cA S i))) (hbB (sT S (cA S i)) (sT S (cB S i)) (fun _ => q) (cg S i)) q (d + 1) r s)) ∧ (∀ r, r < 18 ∨ 20 < r → A' r = A r) ∧ coR 19 20 A' (tN (sT S (cA S i))) (gc (coP S i q) (tK (sT S (cB S i))) (tN (sT S (cA S i))) (hbB (sT S (cA S i)) (sT S (cB S i)) (fun _ => q) (cg S i)) q (d + 1) r s) := by
  intro d
  induction d with
  | zero =>
    intro r s V1 A1 o6 hd ho hz hV1 hV3 hA1 h18 hc
    have hod : (od (coP S i q) (tK (sT S (cB S i))) (tN (sT S (cA S i))) r).2 = true := by
      cases hz : (od (coP S i q) (tK (sT S (cB S i))) (tN (sT S (cA S i))) r).2 with
      | true => rfl
      | false =>
        have := (od_nx ho hd).2 hz
        omega
    obtain ⟨V', A', o6', k1, k2, k3, k4, k5, k6⟩ := m_conStep (sc := sc) (G := G) (m := m) (iM_V3 h hV1 (fun r hr => hA1 r (by omega))) hS hi hq (frR_18 hr (hA1 16 (by omega)) (hA1 17 (by omega))) ho (by omega) hV3 h18 hc o6
    rw [hod, if_pos rfl] at k1
    refine ⟨V', A', o6', k1.trans ?_, fun r hr => (k2 r hr).trans (hV1 r hr), k3, fun r hr => (k4 r hr).trans (hA1 r hr), k5⟩
    rw [bX6_findCones_56, if_pos rfl, nI_1]
  | succ d ih =>
    intro r s V1 A1 o6 hd ho hz hV1 hV3 hA1 h18 hc
    have hod : (od (coP S i q) (tK (sT S (cB S i))) (tN (sT S (cA S i))) r).2 = false := by
      cases hz : (od (coP S i q) (tK (sT S (cB S i))) (tN (sT S (cA S i))) r).2 with
      | false => rfl
      | true =>
        have := (od_nx ho hd).1 hz
        omega
    obtain ⟨n1, n2, n3⟩ := od_ok (coP S i q) (tK (sT S (cB S i))) (tN (sT S (cA S i))) r ho
    have hv := n2 hod
    obtain ⟨V', A', o6', k1, k2, k3, k4, k5, k6⟩ := m_conStep (sc := sc) (G := G) (m := m) (iM_V3 h hV1 (fun r hr => hA1 r (by omega))) hS hi hq (frR_18 hr (hA1 16 (by omega)) (hA1 17 (by omega))) ho (by omega) hV3 h18 hc o6
    rw [hod, if_neg (show ¬ false = true by decide)] at k1
    have hz2 : cz (if hbB (sT S (cA S i)) (sT S (cB S i)) (fun _ => q) (cg S i) r = true then cAdd (tN (sT S (cA S i))) s q r else s) ≤ cz s + 1 := by
      split
      · exact Nat.le_refl _
      · exact Nat.le_succ _
    obtain ⟨V2, A2, p6, w1, w2, w3, w4, w5⟩ := ih (od (coP S i q) (tK (sT S (cB S i))) (tN (sT S (cA S i))) r).1 (if hbB (sT S (cA S i)) (sT S (cB S i)) (fun _ => q) (cg S i) r = true then cAdd (tN (sT S (cA S i))) s q r else s) V' A' o6' (by omega) n1 (by omega) (fun r hr => (k2 r hr).trans (hV1 r hr)) k3 (fun r hr => (k4 r hr).trans (hA1 r hr)) (k6 hod) k5
    exact ⟨V2, A2, p6, k1.trans w1, w2, w3, w4, w5⟩
/-- all cones of the model -/
theorem m_findCones (h : iM V A S) (hS : wW S) (hi : i < sM S) : ∃ V' A', az_ca sc iX6_findCones [.ref m, .int (nI i)] (mdG G m V A) = some (some (.int (if exB (fun q => decide (64 < coPr S i q)) (tN (sT S (cB S i))) = true then 0 else 1)), mdG G m V' A') ∧ (∀ r, r ≠ 3 → V' r = V r) ∧ (∀ r, r < 16 ∨ 20 < r → A' r = A r) ∧ (exB (fun q => decide (64 < coPr S i q)) (tN (sT S (cB S i))) = false → V' 3 = nI (cz (gcA S i (tN (sT S (cB S i))))) ∧ coR 19 20 A' (tN (sT S (cA S i))) (gcA S i (tN (sT S (cB S i))))) := by
  have h24 := hS.2.1
  have h8 := hS.1
  have ca := hS.ca hi
  have cb := hS.cb hi
  have hw := hS.tw ca
  have hwu := hS.tw cb
  have hn6 := hw.n6
  have hu6 := hwu.n6
  have mI := h.2.2.2.2.1 i hi
  have L18 : ∀ d q A1, q + d = tN (sT S (cB S i)) → (∀ q', q' < q → coPr S i q' ≤ 64) → (∀ r, r < 16 ∨ 20 < r → A1 r = A r) → ∃ A', (∀ r, r < 16 ∨ 20 < r → A' r = A r) ∧ (exB (fun q => decide (64 < coPr S i q)) (tN (sT S (cB S i))) = true → az_rn sc iX6_findCones 18 [some (.ref m), some (.int (nI i)), some (.int (nI (cB S i))), some (.int (nI (tN (sT S (cA S i))))), some (.int (nI q)), none, none] [] (mdG G m (va_up V 3 0) A1) = some (some (.int 0), mdG G m (va_up V 3 0) A')) ∧ (exB (fun q => decide (64 < coPr S i q)) (tN (sT S (cB S i))) = false → az_rn sc iX6_findCones 18 [some (.ref m), some (.int (nI i)), some (.int (nI (cB S i))), some (.int (nI (tN (sT S (cA S i))))), some (.int (nI q)), none, none] [] (mdG G m (va_up V 3 0) A1) = az_rn sc iX6_findCones 41 [some (.ref m), some (.int (nI i)), some (.int (nI (cB S i))), some (.int (nI (tN (sT S (cA S i))))), some (.int (nI 0)), none, none] [] (mdG G m (va_up V 3 0) A')) := by
    intro d
    induction d with
    | zero =>
      intro q A1 hq hall hA1
      have e : q = tN (sT S (cB S i)) := by omega
      subst e
      have hm1 : iM (va_up V 3 0) A1 S := iM_V3 h (fun r hr => up_n _ _ hr) hA1
      refine ⟨A1, hA1, fun z => ?_, fun _ => ?_⟩
      · obtain ⟨q', q1, q2⟩ := exB_iff.mp z
        have := hall q' q1
        have q3 : 64 < coPr S i q' := of_decide_eq_true q2
        omega
      · rw [bX6_findCones_18, md_r1, md_a1 (by omega), hm1.1.o cb, if_pos (nI_le (Nat.le_refl _) (by omega))]
        rfl
    | succ d ih =>
      intro q A1 hq hall hA1
      have hqn : q < tN (sT S (cB S i)) := by omega
      have hm1 : iM (va_up V 3 0) A1 S := iM_V3 h (fun r hr => up_n _ _ hr) hA1
      obtain ⟨A2, a1, a2, a3⟩ := m_ahead (sc := sc) (G := G) (m := m) hm1 hS hi (show q < 24 by omega)
      have hm2 : iM (va_up V 3 0) A2 S := iM_A16 hm1 (fun r hr => a2 r (by omega) (by omega))
      have hch : az_ca sc iX6_chances [.ref m, .int (nI (cB S i)), .int (nI (tN (sT S (cA S i))))] (mdG G m (va_up V 3 0) A2) = some (some (.long (lN (coPr S i q))), mdG G m (va_up V 3 0) A2) := m_chances hm2.1 cb hn6 a3
      have hpr := coPr_lt hS hi q
      by_cases c : coPr S i q ≤ 64
      · obtain ⟨A', w1, w2, w3⟩ := ih (q + 1) A2 (by omega) (fun q' hq' => by
          by_cases e : q' = q
          · subst e; exact c
          · exact hall q' (by omega)) (fun r hr => (a2 r (by omega) (by omega)).trans (hA1 r hr))
        have e1 : az_rn sc iX6_findCones 18 [some (.ref m), some (.int (nI i)), some (.int (nI (cB S i))), some (.int (nI (tN (sT S (cA S i))))), some (.int (nI q)), none, none] [] (mdG G m (va_up V 3 0) A1) = az_rn sc iX6_findCones 18 [some (.ref m), some (.int (nI i)), some (.int (nI (cB S i))), some (.int (nI (tN (sT S (cA S i))))), some (.int (nI (q + 1))), none, none] [] (mdG G m (va_up V 3 0) A2) := by
          rw [bX6_findCones_18, md_r1, md_a1 (by omega), hm1.1.o cb, if_neg (nI_ge hqn (by omega)), md_rc, a1, bV_s, md_rc, hch, bL_s, if_pos ((lc64 (by omega)).mpr c), nI_1]
        exact ⟨A', w1, fun z => e1.trans (w2 z), fun z => e1.trans (w3 z)⟩
      · refine ⟨A2, fun r hr => (a2 r (by omega) (by omega)).trans (hA1 r hr), fun _ => ?_, fun z => ?_⟩
        · rw [bX6_findCones_18, md_r1, md_a1 (by omega), hm1.1.o cb, if_neg (nI_ge hqn (by omega)), md_rc, a1, bV_s, md_rc, hch, bL_s, if_neg (fun z => c ((lc64 (by omega)).mp z)), zr_0]
        · have : exB (fun q => decide (64 < coPr S i q)) (tN (sT S (cB S i))) = true := exB_iff.mpr ⟨q, hqn, decide_eq_true (by omega)⟩
          rw [this] at z
          cases z
  obtain ⟨A1, k1, k2, k3⟩ := L18 (tN (sT S (cB S i))) 0 A (by omega) (fun q' hq' => absurd hq' (Nat.not_lt_zero _)) (fun _ _ => rfl)
  have e0 : az_ca sc iX6_findCones [.ref m, .int (nI i)] (mdG G m V A) = az_rn sc iX6_findCones 18 [some (.ref m), some (.int (nI i)), some (.int (nI (cB S i))), some (.int (nI (tN (sT S (cA S i))))), some (.int (nI 0)), none, none] [] (mdG G m (va_up V 3 0) A) := by
    rw [eX6_findCones, md_r12, md_a11 (by omega), mI.2.1, md_r1, md_r11, md_a10 (by omega), mI.1, md_a1 (by omega), h.1.o ca, md_p21]
    rfl
  cases hex : exB (fun q => decide (64 < coPr S i q)) (tN (sT S (cB S i))) with
  | true =>
    refine ⟨va_up V 3 0, A1, e0.trans (k2 hex), fun r hr => up_n _ _ hr, k1, fun z => by cases z⟩
  | false =>
    have h64 : ∀ q, q < tN (sT S (cB S i)) → coPr S i q ≤ 64 := by
      intro q hq
      by_cases z : coPr S i q ≤ 64
      · exact z
      · have : exB (fun q => decide (64 < coPr S i q)) (tN (sT S (cB S i))) = true := exB_iff.mpr ⟨q, hq, decide_eq_true (by omega)⟩
        rw [this] at hex
        cases hex
    have L41 : ∀ d q (o5 o6 : Option Value) V1 A1, q + d = tN (sT S (cB S i)) → (∀ r, r ≠ 3 → V1 r = V r) → V1 3 = nI (cz (gcA S i q)) → (∀ r, r < 16 ∨ 20 < r → A1 r = A r) → coR 19 20 A1 (tN (sT S (cA S i))) (gcA S i q) → ∃ V' A', az_rn sc iX6_findCones 41 [some (.ref m), some (.int (nI i)), some (.int (nI (cB S i))), some (.int (nI (tN (sT S (cA S i))))), some (.int (nI q)), o5, o6] [] (mdG G m V1 A1) = some (some (.int 1), mdG G m V' A') ∧ (∀ r, r ≠ 3 → V' r = V r) ∧ (∀ r, r < 16 ∨ 20 < r → A' r = A r) ∧ V' 3 = nI (cz (gcA S i (tN (sT S (cB S i))))) ∧ coR 19 20 A' (tN (sT S (cA S i))) (gcA S i (tN (sT S (cB S i)))) := by
      intro d
      induction d with
      | zero =>
        intro q o5 o6 V1 A1 hq h1 h2 h3 h4
        have e : q = tN (sT S (cB S i)) := by omega
        subst e
        have hm1 : iM V1 A1 S := iM_V3 h h1 h3
        refine ⟨V1, A1, ?_, h1, h3, h2, h4⟩
        rw [bX6_findCones_41, md_r1, md_a1 (by omega), hm1.1.o cb, if_pos (nI_le (Nat.le_refl _) (by omega)), zr_1]
      | succ d ih =>
        intro q o5 o6 V1 A1 hq h1 h2 h3 h4
        have hqn : q < tN (sT S (cB S i)) := by omega
        have hm1 : iM V1 A1 S := iM_V3 h h1 h3
        obtain ⟨A2, a1, a2, a3⟩ := m_ahead (sc := sc) (G := G) (m := m) hm1 hS hi (show q < 24 by omega)
        have hm2 : iM V1 A2 S := iM_A16 hm1 (fun r hr => a2 r (by omega) (by omega))
        obtain ⟨f18, q1, q2⟩ := m_firstRow (sc := sc) (G := G) (m := m) (V := V1) (A := A2) hm2.1 cb hn6 a3
        have q1' : az_ca sc iX6_firstRow [.ref m, .int (nI (cB S i)), .int (nI (tN (sT S (cA S i))))] (mdG G m V1 A2) = some (some (.int (if coPr S i q = 0 then 0 else 1)), mdG G m V1 (va_up A2 18 f18)) := q1
        have hle := gcA_le (S := S) (i := i) (Q := q) (fun q' hq' => h64 q' (by omega))
        have h64q := h64 q hqn
        have hA3 : ∀ r, r < 16 ∨ 20 < r → va_up A2 18 f18 r = A r := fun r hr => ((up_n _ _ (by omega)).trans (a2 r (by omega) (by omega))).trans (h3 r hr)
        have hc3 : coR 19 20 (va_up A2 18 f18) (tN (sT S (cA S i))) (gcA S i q) := ⟨fun k hk => by rw [up_n _ _ (show 19 ≠ 18 by omega), a2 19 (by omega) (by omega)]; exact h4.1 k hk, fun k y hk hy => by rw [up_n _ _ (show 20 ≠ 18 by omega), a2 20 (by omega) (by omega)]; exact h4.2 k y hk hy⟩
        rw [bX6_findCones_41, md_r1, md_a1 (by omega), hm1.1.o cb, if_neg (nI_ge hqn (by omega)), md_rc, a1, bV_s, md_rc, q1', bI_s]
        by_cases hp : coPr S i q = 0
        · have eg : gcA S i (q + 1) = gcA S i q := by
            show gc (coP S i q) (tK (sT S (cB S i))) (tN (sT S (cA S i))) (hbB (sT S (cA S i)) (sT S (cB S i)) (fun _ => q) (cg S i)) q (coPr S i q) (fun y => fs (coP S i q y) (tK (sT S (cB S i)))) (gcA S i q) = gcA S i q
            rw [hp]
            rfl
          obtain ⟨V', A', w1, w2⟩ := ih (q + 1) (some (.int 0)) o6 V1 (va_up A2 18 f18) (by omega) h1 (by rw [eg]; exact h2) hA3 (by rw [eg]; exact hc3)
          rw [if_pos hp, bX6_findCones_56, if_pos rfl, nI_1]
          exact ⟨V', A', w1, w2⟩
        · obtain ⟨t1, t2, t3⟩ := coOk (S := S) (i := i) (q := q) (by omega)
          obtain ⟨d', hd'⟩ : ∃ d', coPr S i q = d' + 1 := ⟨coPr S i q - 1, by omega⟩
          have hpos : 0 < prd (pq (sT S (cB S i)) (fun _ => q) (cg S i)) (tK (sT S (cB S i))) (tN (sT S (cA S i))) := by
            have e : coPr S i q = prd (pq (sT S (cB S i)) (fun _ => q) (cg S i)) (tK (sT S (cB S i))) (tN (sT S (cA S i))) := rfl
            omega
          have hm3 : iM V1 (va_up A2 18 f18) S := iM_A16 hm2 (fun r hr => up_n _ _ (by omega))
          obtain ⟨V2, A4, p6, w1, w2, w3, w4, w5⟩ := m_conQ (sc := sc) (G := G) (m := m) hm3 hS hi hqn (frR_18 a3 (up_n _ _ (by omega)) (up_n _ _ (by omega))) d' (fun y => fs (coP S i q y) (tK (sT S (cB S i)))) (gcA S i q) V1 (va_up A2 18 f18) o6 (by rw [t3, hd']; omega) t2 (by omega) (fun _ _ => rfl) h2 (fun _ _ => rfl) (fun y hy => by rw [up_s]; exact q2 hpos y hy) hc3
          rw [← hd'] at w3 w5
          obtain ⟨V', A', g1, g2⟩ := ih (q + 1) (some (.int 0)) p6 V2 A4 (by omega) (fun r hr => (w2 r hr).trans (h1 r hr)) w3 (fun r hr => (w4 r (by omega)).trans (hA3 r hr)) w5
          rw [if_neg hp]
          exact ⟨V', A', w1.trans g1, g2⟩
    obtain ⟨V', A', w1, w2, w3, w4⟩ := L41 (tN (sT S (cB S i))) 0 none none (va_up V 3 0) A1 (by omega) (fun r hr => up_n _ _ hr) (up_s _ _ _) k1 ⟨fun k hk => absurd hk (Nat.not_lt_zero _), fun k y hk _ => absurd hk (Nat.not_lt_zero _)⟩
    exact ⟨V', A', e0.trans ((k3 hex).trans w1), w2, w3, fun _ => w4⟩
end LIMC
