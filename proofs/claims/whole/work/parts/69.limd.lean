/-! OPERATIONS cones, limit -/
section LIMD
variable {sc : az_S} {G : az_H} {m : Nat} {V : Nat → Int32} {A : Nat → Nat → Int32} {nt j : Nat} {Tb : Nat → tb} {n : Nat} {s : coS}
theorem m_leads (h : mT V A nt Tb) (hj : j < nt) (hc : coR 19 20 A n s) (hz : cz s ≤ 384) (hn : n ≤ 6) (hW : coW (Tb j) n s) {c d : Nat} (hc' : c < cz s) (hd : d < cz s) : az_ca sc iX6_leads [.ref m, .int (nI j), .int (nI n), .int (nI c), .int (nI d)] (mdG G m V A) = some (some (.int (nI (aiN (Tb j) n s c d))), mdG G m V A) := by
  have h8 := h.2.1
  have hwu := h.w hj
  have hku := hwu.k24
  have hu6 := hwu.n6
  have hc1 := (hW c hc').1
  have hd1 := (hW d hd).1
  have L0 : ∀ e k y, y ≤ n → ∃ o7 o8 : Option Value, az_rn sc iX6_leads 34 [some (.ref m), some (.int (nI j)), some (.int (nI n)), some (.int (nI c)), some (.int (nI d)), some (.int (nI k)), some (.int (nI e)), some (.int 0), some (.int (nI y))] [] (mdG G m V A) = az_rn sc iX6_leads 4 [some (.ref m), some (.int (nI j)), some (.int (nI n)), some (.int (nI c)), some (.int (nI d)), some (.int (nI k)), some (.int (nI (e + 1))), o7, o8] [] (mdG G m V A) := by
    intro e k y hy
    refine ⟨some (.int 0), some (.int (nI y)), ?_⟩
    rw [bX6_leads_34, nI_a0, Nat.add_zero, nI_1]
    by_cases e1 : n ≤ y
    · rw [if_pos (nI_le e1 (by omega)), if_pos (show (0 : Int32) = 0 from rfl)]
    · rw [if_neg (nI_ge (show y < n by omega) (by omega)), if_pos (show (0 : Int32) = 0 from rfl), if_pos (show (0 : Int32) = 0 from rfl)]
  have L1 : ∀ e k, e < tK (Tb j) → ∀ dd y, y + dd = n → (∀ y', y' < y → wy (Tb j) e (cl s (6 * d + y')) = nI (cl s (6 * c + y'))) → ∃ o7 o8 : Option Value, az_rn sc iX6_leads 34 [some (.ref m), some (.int (nI j)), some (.int (nI n)), some (.int (nI c)), some (.int (nI d)), some (.int (nI k)), some (.int (nI e)), some (.int 1), some (.int (nI y))] [] (mdG G m V A) = az_rn sc iX6_leads 4 [some (.ref m), some (.int (nI j)), some (.int (nI n)), some (.int (nI c)), some (.int (nI d)), some (.int (nI (k + if blB (Tb j) n s e c d = true then 1 else 0))), some (.int (nI (e + 1))), o7, o8] [] (mdG G m V A) := by
    intro e k he dd
    induction dd with
    | zero =>
      intro y hy hall
      have ee : y = n := by omega
      subst ee
      have hb : blB (Tb j) y s e c d = true := by
        unfold blB
        rw [exB_none (fun y' hy' => by simp [hall y' hy'])]
        rfl
      refine ⟨some (.int 1), some (.int (nI y)), ?_⟩
      rw [bX6_leads_34, if_pos (nI_le (Nat.le_refl _) (by omega)), if_neg (show ¬ (1 : Int32) = 0 by decide), if_pos hb, nI_1, nI_1]
    | succ dd ih =>
      intro y hy hall
      have hyn : y < n := by omega
      have hl := (hW d hd).2 y hyn
      rw [bX6_leads_34, if_neg (nI_ge hyn (by omega)), if_neg (show ¬ (1 : Int32) = 0 by decide), md_r23, n6m, md_a20 (by omega), hc.2 d y hd hyn, md_rc, m_wayIn h hj he hl, bI_s, md_r23, n6m, md_a20 (by omega), hc.2 c y hc' hyn, nI_1]
      by_cases e1 : wy (Tb j) e (cl s (6 * d + y)) = nI (cl s (6 * c + y))
      · rw [if_neg (fun z => z e1)]
        refine ih (y + 1) (by omega) (fun y' hy' => ?_)
        by_cases e2 : y' = y
        · subst e2; exact e1
        · exact hall y' (by omega)
      · have hb : ¬ blB (Tb j) n s e c d = true := by
          unfold blB
          rw [exB_iff.mpr ⟨y, hyn, by simp [e1]⟩]
          decide
        rw [if_pos e1, if_neg hb]
        exact L0 e k (y + 1) (by omega)
  rw [eX6_leads]
  have loop : ∀ (dd e k : Nat) (o7 o8 : Option Value), e + dd = tK (Tb j) → az_rn sc iX6_leads 4 [some (.ref m), some (.int (nI j)), some (.int (nI n)), some (.int (nI c)), some (.int (nI d)), some (.int (nI (ctB (aiB (Tb j) n s c d) e))), some (.int (nI e)), o7, o8] [] (mdG G m V A) = some (some (.int (nI (aiN (Tb j) n s c d))), mdG G m V A) := by
    intro dd
    induction dd with
    | zero =>
      intro e k o7 o8 he
      have ee : e = tK (Tb j) := by omega
      subst ee
      rw [bX6_leads_4, md_r2, md_a2 (by omega), h.a hj, if_pos (nI_le (Nat.le_refl _) (by omega))]
      rfl
    | succ dd ih =>
      intro e k o7 o8 he
      have hek : e < tK (Tb j) := by omega
      have f1 := hwu.frn hek
      have f2 := hwu.ton hek
      rw [bX6_leads_4, md_r2, md_a2 (by omega), h.a hj, if_neg (nI_ge hek (by omega)), md_rc, m_from h hj hek, bI_s, md_r22, md_a19 (by omega), hc.1 c hc', ite_nnI (by omega) (by omega)]
      by_cases e1 : fr (Tb j) e = cp s c
      · rw [if_neg (fun z => z e1), md_rc, m_to h hj hek, bI_s, md_r22, md_a19 (by omega), hc.1 d hd, ite_nnI (by omega) (by omega)]
        by_cases e2 : to (Tb j) e = cp s d
        · rw [if_neg (fun z => z e2)]
          obtain ⟨p7, p8, w⟩ := L1 e (ctB (aiB (Tb j) n s c d) e) hek n 0 (by omega) (fun y' hy' => absurd hy' (Nat.not_lt_zero _))
          refine w.trans ?_
          have ec : ctB (aiB (Tb j) n s c d) e + (if blB (Tb j) n s e c d = true then 1 else 0) = ctB (aiB (Tb j) n s c d) (e + 1) := by
            rw [ctB_succ]
            have : aiB (Tb j) n s c d e = blB (Tb j) n s e c d := by simp [aiB, e1, e2]
            rw [this]
          rw [ec]
          exact ih (e + 1) k p7 p8 (by omega)
        · rw [if_pos e2]
          obtain ⟨p7, p8, w⟩ := L0 e (ctB (aiB (Tb j) n s c d) e) 0 (Nat.zero_le _)
          refine w.trans ?_
          have ec : ctB (aiB (Tb j) n s c d) e = ctB (aiB (Tb j) n s c d) (e + 1) := by
            rw [ctB_succ]
            have : aiB (Tb j) n s c d e = false := by simp [aiB, e2]
            rw [this]
            rfl
          rw [ec]
          exact ih (e + 1) k p7 p8 (by omega)
      · rw [if_pos e1]
        obtain ⟨p7, p8, w⟩ := L0 e (ctB (aiB (Tb j) n s c d) e) 0 (Nat.zero_le _)
        refine w.trans ?_
        have ec : ctB (aiB (Tb j) n s c d) e = ctB (aiB (Tb j) n s c d) (e + 1) := by
          rw [ctB_succ]
          have : aiB (Tb j) n s c d e = false := by simp [aiB, e1]
          rw [this]
          rfl
        rw [ec]
        exact ih (e + 1) k p7 p8 (by omega)
  exact loop (tK (Tb j)) 0 0 none none (by omega)
theorem m_limL (h : mT V A nt Tb) (hj : j < nt) (hV3 : V 3 = nI (cz s)) (hc : coR 19 20 A n s) (hz : cz s ≤ 384) (hn : n ≤ 6) (hW : coW (Tb j) n s) (f : Nat) : ∃ A', az_rn sc iX6_limit 27 [some (.ref m), some (.int (nI f)), some (.int (nI j)), some (.int (nI n)), some (.int (nI 0)), none, none] [] (mdG G m V A) = (match flB1 (Tb j) n s with
    | some d => some (some (.int (nI (cp s d))), mdG G m (va_up V 4 (nI n)) (va_up A 21 A'))
    | none => some (some (.int (-1)), mdG G m V A)) ∧ ∀ d, flB1 (Tb j) n s = some d → ∀ y, y < n → A' y = nI (cl s (6 * d + y)) := by
  have hwu := h.w hj
  have L0 : ∀ d c, d < cz s → c ≤ cz s → ∃ o5 o6 : Option Value, az_rn sc iX6_limit 35 [some (.ref m), some (.int (nI f)), some (.int (nI j)), some (.int (nI n)), some (.int (nI d)), some (.int 0), some (.int (nI c))] [] (mdG G m V A) = az_rn sc iX6_limit 27 [some (.ref m), some (.int (nI f)), some (.int (nI j)), some (.int (nI n)), some (.int (nI (d + 1))), o5, o6] [] (mdG G m V A) := by
    intro d c hd hc2
    refine ⟨some (.int 0), some (.int (nI c)), ?_⟩
    rw [bX6_limit_35, md_i21, hV3, nI_1]
    by_cases e1 : cz s ≤ c
    · rw [if_pos (nI_le e1 (by omega)), if_pos (show (0 : Int32) = 0 from rfl)]
    · rw [if_neg (nI_ge (show c < cz s by omega) (by omega)), if_pos (show (0 : Int32) = 0 from rfl), if_pos (show (0 : Int32) = 0 from rfl)]
  have L1 : ∀ d, d < cz s → ∀ dd c, c + dd = cz s → (∀ c', c' < c → aiN (Tb j) n s c' d = 1) → (nlB (Tb j) n s d = true → ∃ o5 o6 : Option Value, az_rn sc iX6_limit 35 [some (.ref m), some (.int (nI f)), some (.int (nI j)), some (.int (nI n)), some (.int (nI d)), some (.int 1), some (.int (nI c))] [] (mdG G m V A) = az_rn sc iX6_limit 27 [some (.ref m), some (.int (nI f)), some (.int (nI j)), some (.int (nI n)), some (.int (nI (d + 1))), o5, o6] [] (mdG G m V A)) ∧ (nlB (Tb j) n s d = false → az_rn sc iX6_limit 35 [some (.ref m), some (.int (nI f)), some (.int (nI j)), some (.int (nI n)), some (.int (nI d)), some (.int 1), some (.int (nI c))] [] (mdG G m V A) = az_rn sc iX6_limit 62 [some (.ref m), some (.int (nI f)), some (.int (nI j)), some (.int (nI n)), some (.int (nI d)), some (.int 1), some (.int (nI 0))] [] (mdG G m (va_up V 4 (nI n)) A)) := by
    intro d hd dd
    induction dd with
    | zero =>
      intro c hc2 hall
      have e : c = cz s := by omega
      subst e
      refine ⟨fun z => ?_, fun _ => ?_⟩
      · obtain ⟨c', c1, c2⟩ := exB_iff.mp z
        have := hall c' c1
        simp [this] at c2
      · rw [bX6_limit_35, md_i21, hV3, if_pos (nI_le (Nat.le_refl _) (by omega)), if_neg (show ¬ (1 : Int32) = 0 by decide), md_p25]
        rfl
    | succ dd ih =>
      intro c hc2 hall
      have hcz : c < cz s := by omega
      have hle := aiN_le (n := n) (s := s) hwu c d
      have e0 : az_rn sc iX6_limit 35 [some (.ref m), some (.int (nI f)), some (.int (nI j)), some (.int (nI n)), some (.int (nI d)), some (.int 1), some (.int (nI c))] [] (mdG G m V A) = if ¬ aiN (Tb j) n s c d = 1 then az_rn sc iX6_limit 35 [some (.ref m), some (.int (nI f)), some (.int (nI j)), some (.int (nI n)), some (.int (nI d)), some (.int 0), some (.int (nI (c + 1)))] [] (mdG G m V A) else az_rn sc iX6_limit 35 [some (.ref m), some (.int (nI f)), some (.int (nI j)), some (.int (nI n)), some (.int (nI d)), some (.int 1), some (.int (nI (c + 1)))] [] (mdG G m V A) := by
        rw [bX6_limit_35, md_i21, hV3, if_neg (nI_ge hcz (by omega)), if_neg (show ¬ (1 : Int32) = 0 by decide), md_rc, m_leads h hj hc hz hn hW hcz hd, bI_s, nI_1]
        show (if ¬ nI (aiN (Tb j) n s c d) = nI 1 then _ else _) = _
        rw [ite_nnI (by omega) (by omega)]
      by_cases e1 : aiN (Tb j) n s c d = 1
      · rw [if_neg (fun z => z e1)] at e0
        obtain ⟨i1, i2⟩ := ih (c + 1) (by omega) (fun c' hc' => by
          by_cases e2 : c' = c
          · subst e2; exact e1
          · exact hall c' (by omega))
        refine ⟨fun z => ?_, fun z => e0.trans (i2 z)⟩
        obtain ⟨o5, o6, w⟩ := i1 z
        exact ⟨o5, o6, e0.trans w⟩
      · rw [if_pos e1] at e0
        have hnl : nlB (Tb j) n s d = true := exB_iff.mpr ⟨c, hcz, by simp [e1]⟩
        obtain ⟨o5, o6, w⟩ := L0 d (c + 1) hd hcz
        exact ⟨fun _ => ⟨o5, o6, e0.trans w⟩, fun z => by rw [hnl] at z; cases z⟩
  have L62 : ∀ d, d < cz s → ∀ dd y g, y + dd = n → (∀ y', y' < y → g y' = nI (cl s (6 * d + y'))) → ∃ g', az_rn sc iX6_limit 62 [some (.ref m), some (.int (nI f)), some (.int (nI j)), some (.int (nI n)), some (.int (nI d)), some (.int 1), some (.int (nI y))] [] (mdG G m (va_up V 4 (nI n)) (va_up A 21 g)) = some (some (.int (nI (cp s d))), mdG G m (va_up V 4 (nI n)) (va_up A 21 g')) ∧ ∀ y, y < n → g' y = nI (cl s (6 * d + y)) := by
    intro d hd dd
    induction dd with
    | zero =>
      intro y g hy hg
      have e : y = n := by omega
      subst e
      refine ⟨g, ?_, hg⟩
      rw [bX6_limit_62, if_pos (nI_le (Nat.le_refl _) (by omega)), md_r22, md_a19 (by omega), up_n _ _ (show 19 ≠ 21 by omega), hc.1 d hd]
    | succ dd ih =>
      intro y g hy hg
      have hyn : y < n := by omega
      rw [bX6_limit_62, if_neg (nI_ge hyn (by omega)), md_r24, md_r23, n6m, md_a20 (by omega), up_n _ _ (show 20 ≠ 21 by omega), hc.2 d y hd hyn, md_s21 (by omega), up_s, up_up, nI_1]
      refine ih (y + 1) _ (by omega) (fun y' hy' => ?_)
      by_cases e : y' = y
      · subst e
        exact upd_s _ _ _
      · rw [upd_n _ _ e]
        exact hg y' (by omega)
  have loop : ∀ dd d (o5 o6 : Option Value), d + dd = cz s → (∀ d', d' < d → nlB (Tb j) n s d' = true) → ∃ A', az_rn sc iX6_limit 27 [some (.ref m), some (.int (nI f)), some (.int (nI j)), some (.int (nI n)), some (.int (nI d)), o5, o6] [] (mdG G m V A) = (match flB1 (Tb j) n s with
      | some d => some (some (.int (nI (cp s d))), mdG G m (va_up V 4 (nI n)) (va_up A 21 A'))
      | none => some (some (.int (-1)), mdG G m V A)) ∧ ∀ d, flB1 (Tb j) n s = some d → ∀ y, y < n → A' y = nI (cl s (6 * d + y)) := by
    intro dd
    induction dd with
    | zero =>
      intro d o5 o6 hd hall
      have e : d = cz s := by omega
      subst e
      have hn1 : flB1 (Tb j) n s = none := by
        cases hz2 : flB1 (Tb j) n s with
        | none => rfl
        | some d' =>
          obtain ⟨d1, d2, d3⟩ := fdB_some hz2
          rw [hall d' d1] at d2
          cases d2
      refine ⟨A 21, ?_, fun d' hd' => by rw [hn1] at hd'; cases hd'⟩
      rw [hn1, bX6_limit_27, md_i21, hV3, if_pos (nI_le (Nat.le_refl _) (by omega))]
    | succ dd ih =>
      intro d o5 o6 hd hall
      have hdz : d < cz s := by omega
      have e0 : az_rn sc iX6_limit 27 [some (.ref m), some (.int (nI f)), some (.int (nI j)), some (.int (nI n)), some (.int (nI d)), o5, o6] [] (mdG G m V A) = az_rn sc iX6_limit 35 [some (.ref m), some (.int (nI f)), some (.int (nI j)), some (.int (nI n)), some (.int (nI d)), some (.int 1), some (.int (nI 0))] [] (mdG G m V A) := by
        rw [bX6_limit_27, md_i21, hV3, if_neg (nI_ge hdz (by omega))]
        rfl
      obtain ⟨l1, l2⟩ := L1 d hdz (cz s) 0 (by omega) (fun c' hc' => absurd hc' (Nat.not_lt_zero _))
      cases hnl : nlB (Tb j) n s d with
      | true =>
        obtain ⟨p5, p6, w⟩ := l1 hnl
        obtain ⟨A', q1, q2⟩ := ih (d + 1) p5 p6 (by omega) (fun d' hd' => by
          by_cases e2 : d' = d
          · subst e2; exact hnl
          · exact hall d' (by omega))
        exact ⟨A', e0.trans (w.trans q1), q2⟩
      | false =>
        have hs1 : flB1 (Tb j) n s = some d := by
          cases hz2 : flB1 (Tb j) n s with
          | none =>
            have := fdB_none hz2 d hdz
            rw [hnl] at this
            cases this
          | some d' =>
            obtain ⟨d1, d2, d3⟩ := fdB_some hz2
            have a1 : ¬ d' < d := fun z => by
              rw [hall d' z] at d2
              cases d2
            have a2 : ¬ d < d' := fun z => by
              have := d3 d z
              rw [hnl] at this
              cases this
            have e3 : d' = d := by omega
            rw [e3]
        obtain ⟨g', q1, q2⟩ := L62 d hdz n 0 (A 21) (by omega) (fun y' hy' => absurd hy' (Nat.not_lt_zero _))
        rw [up_id] at q1
        refine ⟨g', ?_, fun d' hd' => ?_⟩
        · rw [hs1]
          exact e0.trans ((l2 hnl).trans q1)
        · rw [hs1] at hd'
          cases hd'
          exact q2
  exact loop (cz s) 0 none none (by omega) (fun d' hd' => absurd hd' (Nat.not_lt_zero _))
end LIMD
def sLm (S : wS) (l : Nat) (g : Nat → Int32) : wS := (sN S, sT S, sM S, sC S, sQ S, l, g)
section LIME
variable {sc : az_S} {G G1 : az_H} {B x m : Nat} {V Vm : Nat → Int32} {A Am : Nat → Nat → Int32} {R : Nat → Nat → Option Nat} {S : wS} {ti ci : Nat → Nat}
theorem op_cones (h : iC G B V A R S ti ci) (hB : x + 22 ≤ B) (hS : wW S) (hm : iM Vm Am S) (y1 y2 : Int32) : opU (az_ca sc iX5_cones [.ref x, .int y1, .int y2] (clG G x V A R)) (az_ca sc iX6_cones [.ref m, .int y1, .int y2] (mdG G1 m Vm Am)) G G1 B x m S := by
  have h24 := hS.2.1
  have h8 := hS.1
  rcases ix_c y1 (n := sM S) (by omega) with ⟨i, hi, rfl⟩ | hy1
  · have ca := hS.ca hi
    have cb := hS.cb hi
    have hw := hS.tw ca
    have hwu := hS.tw cb
    have hk := hw.k24
    have hn6 := hw.n6
    have hu6 := hwu.n6
    have hnu := hwu.nk
    have mI := hm.2.2.2.2.1 i hi
    have cI : ∀ V' A', crC (clG G x V' A' R) (ci i) (cA S i) (cB S i) (ti (cA S i)) (ti (cB S i)) (cR S i) := fun V' A' => h.car hB hi V' A' R
    have hT : ∀ V' A', tbC (clG G x V' A' R) (ti (cA S i)) (sT S (cA S i)) := fun V' A' => h.tabc hB ca V' A' R
    have hU : ∀ V' A', tbC (clG G x V' A' R) (ti (cB S i)) (sT S (cB S i)) := fun V' A' => h.tabc hB cb V' A' R
    rcases ix_c y2 (n := tN (sT S (cB S i))) (by omega) with ⟨q, hq, rfl⟩ | hy2
    · have hin := m_inN (sc := sc) (G := mdG G1 m Vm Am) (n := tN (sT S (cB S i))) (by omega) hq
      have hpr := coPr_lt hS hi q
      obtain ⟨A1, k1, k2, k3, k4, k5⟩ := s_coneChances (sc := sc) (x := x) h hB hS hi hq
      obtain ⟨A2, q1, q2, q3⟩ := m_ahead (sc := sc) (G := G1) (m := m) hm hS hi (show q < 24 by omega)
      have hm2 : iM Vm A2 S := iM_A16 hm (fun r hr => q2 r (by omega) (by omega))
      have hch : az_ca sc iX6_chances [.ref m, .int (nI (cB S i)), .int (nI (tN (sT S (cA S i))))] (mdG G1 m Vm A2) = some (some (.long (lN (coPr S i q))), mdG G1 m Vm A2) := m_chances hm2.1 cb hn6 q3
      by_cases c : coPr S i q ≤ 5000
      · obtain ⟨A3, w1, w2, w3⟩ := s_famS (sc := sc) (x := x) (V := V) (A := A1) (rl := x + 19) (rh := ci i + 1) (lor := A1 19) hT hw hU hwu (fun V' A' e => by rw [cl_c19, e]) (fun V' A' _ => (cI V' A').2) (l := fun _ => q) (fun a ha => ⟨k5 a (by omega), by omega⟩) (hS.hl hi) (-1)
        obtain ⟨f18, t1, t2⟩ := m_firstRow (sc := sc) (G := G1) (m := m) (V := Vm) (A := A2) hm2.1 cb hn6 q3
        have t1' : az_ca sc iX6_firstRow [.ref m, .int (nI (cB S i)), .int (nI (tN (sT S (cA S i))))] (mdG G1 m Vm A2) = some (some (.int (if coPr S i q = 0 then 0 else 1)), mdG G1 m Vm (va_up A2 18 f18)) := t1
        have hfin : ∃ A', az_rn sc iX6_cones 52 [some (.ref m), some (.int (nI i)), some (.int (nI q)), some (.int (nI (cB S i))), some (.int (nI (tN (sT S (cA S i))))), some (.int (nI 0)), some (.int (if coPr S i q = 0 then 0 else 1))] [] (mdG G1 m Vm (va_up A2 18 f18)) = some (some (.int (nI (coQ S i q).1)), mdG G1 m Vm A') ∧ (∀ r, r ≠ 18 → A' r = A2 r) := by
          by_cases hp : coPr S i q = 0
          · refine ⟨va_up A2 18 f18, ?_, fun r hr => up_n _ _ hr⟩
            have e0 : (coQ S i q).1 = 0 := by
              unfold coQ
              rw [hp]
              rfl
            rw [if_pos hp, bX6_cones_52, if_pos rfl, e0]
          · obtain ⟨z1, z2, z3⟩ := coOk (S := S) (i := i) (q := q) (by omega)
            obtain ⟨d', hd'⟩ : ∃ d', coPr S i q = d' + 1 := ⟨coPr S i q - 1, by omega⟩
            have hpos : 0 < prd (pq (sT S (cB S i)) (fun _ => q) (cg S i)) (tK (sT S (cB S i))) (tN (sT S (cA S i))) := by
              have e : coPr S i q = prd (pq (sT S (cB S i)) (fun _ => q) (cg S i)) (tK (sT S (cB S i))) (tN (sT S (cA S i))) := rfl
              omega
            have z3' : vl (pq (sT S (cB S i)) (fun _ => q) (cg S i)) (tK (sT S (cB S i))) (fun y => fs (coP S i q y) (tK (sT S (cB S i)))) (tN (sT S (cA S i))) = 0 := z3
            have hd2 : prd (pq (sT S (cB S i)) (fun _ => q) (cg S i)) (tK (sT S (cB S i))) (tN (sT S (cA S i))) = d' + 1 := hd'
            obtain ⟨A', u1, u2⟩ := m_famC (sc := sc) (G := G1) (m := m) hm2 hS hi hq q3 d' (fun y => fs (coP S i q y) (tK (sT S (cB S i)))) 0 (va_up A2 18 f18) (by rw [z3', hd2]; omega) z2 (fun r hr => up_n _ _ hr) (fun y hy => by rw [up_s]; exact t2 hpos y hy)
            refine ⟨A', ?_, u2⟩
            rw [if_neg hp]
            refine u1.trans ?_
            unfold coQ
            rw [hd']
            rfl
        obtain ⟨A4, u1, u2⟩ := hfin
        refine ⟨nI (coQ S i q).1, G, V, A3, R, Vm, A4, S, ti, ci, ?_, ?_, iC_A h (A' := A3) (V' := V) ((w2 22 (by omega)).trans (k2 22 (by omega) (by omega) (by omega) (by omega))) rfl rfl rfl rfl, iM_A16 hm2 (fun r hr => u2 r (by omega)), hS, fun _ _ => rfl, rfl, rfl⟩
        · rw [eX5_cones, cl_rc0, s_carrierAt h hS hi, bR_s, cr_f3 (cI _ _), tb_rc (hU _ _), s_hasObject (hU _ _) hq hu6, bI_s, if_pos (by decide), cl_rc0, k1, bI_s, if_pos ((le5000 (by omega)).mpr c), cl0_r3, cr_f2 (cI _ _), cr_f3 (cI _ _), cl0_r7, cr_f4 (cI _ _), cl_rc8, w1, bI_s]
          rfl
        · rw [eX6_cones, md_rc, m_isCarrierT hm hS hi, bI_s, if_neg (by decide), md_r1, md_r12, md_a11 (by omega), mI.2.1, md_a1 (by omega), hm.1.o cb, hin, bI_s, if_pos (by decide), md_r12, md_a11 (by omega), mI.2.1, md_r1, md_r11, md_a10 (by omega), mI.1, md_a1 (by omega), hm.1.o ca, md_rc, q1, bV_s, md_rc, hch, bL_s, if_pos ((lc5000 (by omega)).mpr c), md_rc, t1', bI_s]
          exact u1
      · refine ⟨-5, G, V, A1, R, Vm, A2, S, ti, ci, ?_, ?_, iC_A h (A' := A1) (V' := V) (k2 22 (by omega) (by omega) (by omega) (by omega)) rfl rfl rfl rfl, hm2, hS, fun _ _ => rfl, rfl, rfl⟩
        · rw [eX5_cones, cl_rc0, s_carrierAt h hS hi, bR_s, cr_f3 (cI _ _), tb_rc (hU _ _), s_hasObject (hU _ _) hq hu6, bI_s, if_pos (by decide), cl_rc0, k1, bI_s, if_neg (fun z => c ((le5000 (by omega)).mp z))]
        · rw [eX6_cones, md_rc, m_isCarrierT hm hS hi, bI_s, if_neg (by decide), md_r1, md_r12, md_a11 (by omega), mI.2.1, md_a1 (by omega), hm.1.o cb, hin, bI_s, if_pos (by decide), md_r12, md_a11 (by omega), mI.2.1, md_r1, md_r11, md_a10 (by omega), mI.1, md_a1 (by omega), hm.1.o ca, md_rc, q1, bV_s, md_rc, hch, bL_s, if_neg (fun z => c ((lc5000 (by omega)).mp z))]
    · have hin := m_inO (sc := sc) (G := mdG G1 m Vm Am) (n := tN (sT S (cB S i))) (by omega) hy2
      refine opU_n h hS hm (-2) ?_ ?_
      · rw [eX5_cones, cl_rc0, s_carrierAt h hS hi, bR_s, cr_f3 (cI _ _), tb_rc (hU _ _), s_hasObjectN (hU _ _) hy2, bI_s, if_neg (by decide)]
      · rw [eX6_cones, md_rc, m_isCarrierT hm hS hi, bI_s, if_neg (by decide), md_r1, md_r12, md_a11 (by omega), mI.2.1, md_a1 (by omega), hm.1.o cb, hin, bI_s, if_neg (by decide)]
  · refine opU_n h hS hm (-2) ?_ ?_
    · rw [eX5_cones, cl_rc0, s_carrierAtN h hy1, bR_0]
    · rw [eX6_cones, md_rc, m_isCarrierN hm hS hy1, bI_s, if_pos rfl]
theorem le64 {a : Nat} (h : a < 2 ^ 31) : (nI a ≤ (64 : Int32)) ↔ a ≤ 64 := nI_leI (b := 64) h (by omega)
theorem op_limit (h : iC G B V A R S ti ci) (hB : x + 22 ≤ B) (hS : wW S) (hm : iM Vm Am S) (y1 : Int32) : opU (az_ca sc iX5_limit [.ref x, .int y1] (clG G x V A R)) (az_ca sc iX6_limit [.ref m, .int y1] (mdG G1 m Vm Am)) G G1 B x m S := by
  have h24 := hS.2.1
  have h8 := hS.1
  rcases ix_c y1 (n := sM S) (by omega) with ⟨i, hi, rfl⟩ | hy1
  · have ca := hS.ca hi
    have cb := hS.cb hi
    have hw := hS.tw ca
    have hwu := hS.tw cb
    have hn6 := hw.n6
    have hu6 := hwu.n6
    have cI : ∀ V' A', crC (clG G x V' A' R) (ci i) (cA S i) (cB S i) (ti (cA S i)) (ti (cB S i)) (cR S i) := fun V' A' => h.car hB hi V' A' R
    have hT : ∀ V' A', tbC (clG G x V' A' R) (ti (cA S i)) (sT S (cA S i)) := fun V' A' => h.tabc hB ca V' A' R
    have hU : ∀ V' A', tbC (clG G x V' A' R) (ti (cB S i)) (sT S (cB S i)) := fun V' A' => h.tabc hB cb V' A' R
    obtain ⟨V2, A2, q1, q2, q3, q4⟩ := m_findCones (sc := sc) (G := G1) (m := m) hm hS hi
    have hM2 : iM V2 A2 S := iM_V3 hm q2 q3
    have L10 : ∀ d q A1, q + d = tN (sT S (cB S i)) → (∀ q', q' < q → coPr S i q' ≤ 64) → (∀ r, r < 9 ∨ 19 < r → A1 r = A r) → ∃ A', (∀ r, r < 9 ∨ 19 < r → A' r = A r) ∧ (exB (fun q => decide (64 < coPr S i q)) (tN (sT S (cB S i))) = true → az_rn sc iX5_limit 10 [some (.ref x), some (.int (nI i)), some (.ref (ci i)), some (.int (nI q)), none] [] (clG G x V A1 R) = some (some (.int (-5)), clG G x V A' R)) ∧ (exB (fun q => decide (64 < coPr S i q)) (tN (sT S (cB S i))) = false → az_rn sc iX5_limit 10 [some (.ref x), some (.int (nI i)), some (.ref (ci i)), some (.int (nI q)), none] [] (clG G x V A1 R) = az_rn sc iX5_limit 10 [some (.ref x), some (.int (nI i)), some (.ref (ci i)), some (.int (nI (tN (sT S (cB S i))))), none] [] (clG G x V A' R)) := by
      intro d
      induction d with
      | zero =>
        intro q A1 hq hall hA1
        have e : q = tN (sT S (cB S i)) := by omega
        subst e
        refine ⟨A1, hA1, fun z => ?_, fun _ => rfl⟩
        obtain ⟨q', q1, q2⟩ := exB_iff.mp z
        have := hall q' q1
        have q3 : 64 < coPr S i q' := of_decide_eq_true q2
        omega
      | succ d ih =>
        intro q A1 hq hall hA1
        have hqn : q < tN (sT S (cB S i)) := by omega
        have hC1 : iC G B V A1 R S ti ci := iC_A9b h (fun _ _ => rfl) hA1
        obtain ⟨A2, w1, w2, w3, w4, w5⟩ := s_coneChances (sc := sc) (x := x) hC1 hB hS hi hqn
        have hpr := coPr_lt hS hi q
        have hA2 : ∀ r, r < 9 ∨ 19 < r → A2 r = A r := fun r hr => (w2 r (by omega) (by omega) (by omega) (by omega)).trans (hA1 r hr)
        by_cases c : coPr S i q ≤ 64
        · obtain ⟨A', k1, k2, k3⟩ := ih (q + 1) A2 (by omega) (fun q' hq' => by
            by_cases e : q' = q
            · subst e; exact c
            · exact hall q' (by omega)) hA2
          have e1 : az_rn sc iX5_limit 10 [some (.ref x), some (.int (nI i)), some (.ref (ci i)), some (.int (nI q)), none] [] (clG G x V A1 R) = az_rn sc iX5_limit 10 [some (.ref x), some (.int (nI i)), some (.ref (ci i)), some (.int (nI (q + 1))), none] [] (clG G x V A2 R) := by
            rw [bX5_limit_10, cr_f3 (cI _ _), tb_f0 (hU _ _), if_neg (nI_ge hqn (by omega)), cl_rc0, w1, bI_s, if_pos ((le64 (by omega)).mpr c), nI_1]
          exact ⟨A', k1, fun z => e1.trans (k2 z), fun z => e1.trans (k3 z)⟩
        · refine ⟨A2, hA2, fun _ => ?_, fun z => ?_⟩
          · rw [bX5_limit_10, cr_f3 (cI _ _), tb_f0 (hU _ _), if_neg (nI_ge hqn (by omega)), cl_rc0, w1, bI_s, if_neg (fun z => c ((le64 (by omega)).mp z))]
          · have : exB (fun q => decide (64 < coPr S i q)) (tN (sT S (cB S i))) = true := exB_iff.mpr ⟨q, hqn, decide_eq_true (by omega)⟩
            rw [this] at z
            cases z
    obtain ⟨A1, k1, k2, k3⟩ := L10 (tN (sT S (cB S i))) 0 A (by omega) (fun q' hq' => absurd hq' (Nat.not_lt_zero _)) (fun _ _ => rfl)
    have e5 : az_ca sc iX5_limit [.ref x, .int (nI i)] (clG G x V A R) = az_rn sc iX5_limit 10 [some (.ref x), some (.int (nI i)), some (.ref (ci i)), some (.int (nI 0)), none] [] (clG G x V A R) := by
      rw [eX5_limit, cl_rc0, s_carrierAt h hS hi, bR_s]
      rfl
    cases hex : exB (fun q => decide (64 < coPr S i q)) (tN (sT S (cB S i))) with
    | true =>
      rw [hex, if_pos rfl] at q1
      refine ⟨-5, G, V, A1, R, V2, A2, S, ti, ci, e5.trans (k2 hex), ?_, iC_A9b h (fun _ _ => rfl) k1, hM2, hS, fun _ _ => rfl, rfl, rfl⟩
      rw [eX6_limit, md_rc, m_isCarrierT hm hS hi, bI_s, if_pos (by decide), md_rc, q1, bI_s, if_neg (by decide)]
    | false =>
      rw [hex, if_neg (show ¬ false = true by decide)] at q1
      obtain ⟨q5, q6⟩ := q4 hex
      have h64 : ∀ q, q < tN (sT S (cB S i)) → coPr S i q ≤ 64 := by
        intro q hq
        by_cases z : coPr S i q ≤ 64
        · exact z
        · have : exB (fun q => decide (64 < coPr S i q)) (tN (sT S (cB S i))) = true := exB_iff.mpr ⟨q, hq, decide_eq_true (by omega)⟩
          rw [this] at hex
          cases hex
      have hC1 : iC G B V A1 R S ti ci := iC_A9b h (fun _ _ => rfl) k1
      obtain ⟨V3, A3, g1, g2, g3, g4, g5⟩ := s_gatherCones (sc := sc) (x := x) hC1 hB hS hi h64
      have hle := gcA_le (S := S) (i := i) (Q := tN (sT S (cB S i))) h64
      have hW := gcA_W hS hi (tN (sT S (cB S i))) (Nat.le_refl _)
      have hC3 : iC G B V3 A3 R S ti ci := iC_A9b hC1 g2 g4
      have hfl := s_firstLimit (sc := sc) (G := G) (x := x) (V := V3) (R := R) (A := A3) g3 g5 (by omega) hn6 hW (hU _ _) hwu
      obtain ⟨g21, w1, w2⟩ := m_limL (sc := sc) (G := G1) (m := m) (V := V2) (A := A2) hM2.1 cb q5 q6 (by omega) hn6 hW i
      have mI2 := hM2.2.2.2.2.1 i hi
      have e6 : az_ca sc iX6_limit [.ref m, .int (nI i)] (mdG G1 m Vm Am) = az_rn sc iX6_limit 27 [some (.ref m), some (.int (nI i)), some (.int (nI (cB S i))), some (.int (nI (tN (sT S (cA S i))))), some (.int (nI 0)), none, none] [] (mdG G1 m V2 A2) := by
        rw [eX6_limit, md_rc, m_isCarrierT hm hS hi, bI_s, if_pos (by decide), md_rc, q1, bI_s, if_pos (by decide), md_r12, md_a11 (by omega), mI2.2.1, md_r1, md_r11, md_a10 (by omega), mI2.1, md_a1 (by omega), hM2.1.o ca]
        rfl
      cases hf : flB1 (sT S (cB S i)) (tN (sT S (cA S i))) (gcA S i (tN (sT S (cB S i)))) with
      | none =>
        rw [hf] at w1 hfl
        refine ⟨-1, G, V3, A3, R, V2, A2, S, ti, ci, e5.trans ((k3 hex).trans ?_), e6.trans w1, hC3, hM2, hS, fun _ _ => rfl, rfl, rfl⟩
        rw [bX5_limit_10, cr_f3 (cI _ _), tb_f0 (hU _ _), if_pos (nI_le (Nat.le_refl _) (by omega)), cl_rc0, g1, bV_s, cl0_r4, cr_f3 (cI _ _), cr_f2 (cI _ _), tb_f0 (hT _ _), cl_rc14, hfl, bI_s, if_neg (show ¬ ¬ avI none = -1 from fun z => z rfl)]
      | some d =>
        rw [hf] at w1 hfl
        have w3 := w2 d hf
        obtain ⟨d1, d2, d3⟩ := fdB_some hf
        have L49 : ∀ dd y f, y + dd = tN (sT S (cA S i)) → (∀ y', y' < y → f y' = nI (cl (gcA S i (tN (sT S (cB S i)))) (6 * d + y'))) → ∃ f', az_rn sc iX5_limit 49 [some (.ref x), some (.int (nI i)), some (.ref (ci i)), some (.int (nI d)), some (.int (nI y))] [] (clG G x (va_up V3 2 (nI (tN (sT S (cA S i))))) (va_up A3 22 f) R) = some (some (.int (nI (cp (gcA S i (tN (sT S (cB S i)))) d))), clG G x (va_up V3 2 (nI (tN (sT S (cA S i))))) (va_up A3 22 f') R) ∧ ∀ y, y < tN (sT S (cA S i)) → f' y = nI (cl (gcA S i (tN (sT S (cB S i)))) (6 * d + y)) := by
          intro dd
          induction dd with
          | zero =>
            intro y f hy hf2
            have e : y = tN (sT S (cA S i)) := by omega
            subst e
            refine ⟨f, ?_, hf2⟩
            have hc22 : coR 15 16 (va_up A3 22 f) (tN (sT S (cA S i))) (gcA S i (tN (sT S (cB S i)))) := ⟨fun k hk => by rw [up_n _ _ (show 15 ≠ 22 by omega)]; exact g5.1 k hk, fun k y hk hy => by rw [up_n _ _ (show 16 ≠ 22 by omega)]; exact g5.2 k y hk hy⟩
            rw [bX5_limit_49, cl0_i13, up_s, if_pos (nI_le (Nat.le_refl _) (by omega)), cl0_r4, cl_rc14, s_apexOf hc22 (by omega) d1, bI_s]
          | succ dd ih =>
            intro y f hy hf2
            have hyn : y < tN (sT S (cA S i)) := by omega
            have hc22 : coR 15 16 (va_up A3 22 f) (tN (sT S (cA S i))) (gcA S i (tN (sT S (cB S i)))) := ⟨fun k hk => by rw [up_n _ _ (show 15 ≠ 22 by omega)]; exact g5.1 k hk, fun k y hk hy => by rw [up_n _ _ (show 16 ≠ 22 by omega)]; exact g5.2 k y hk hy⟩
            rw [bX5_limit_49, cl0_i13, up_s, if_neg (nI_ge hyn (by omega)), cl0_r10, cl0_r4, cl_rc14, s_legOf hc22 (by omega) hn6 d1 hyn, bI_s, s_write cl_c22 (by omega) (by omega), bV_s, cl_u22, up_s, up_up, nI_1]
            refine ih (y + 1) _ (by omega) (fun y' hy' => ?_)
            by_cases e : y' = y
            · subst e
              exact upd_s _ _ _
            · rw [upd_n _ _ e]
              exact hf2 y' (by omega)
        obtain ⟨f22, t1, t2⟩ := L49 (tN (sT S (cA S i))) 0 (A3 22) (by omega) (fun y' hy' => absurd hy' (Nat.not_lt_zero _))
        rw [up_id] at t1
        refine ⟨nI (cp (gcA S i (tN (sT S (cB S i)))) d), G, va_up V3 2 (nI (tN (sT S (cA S i)))), va_up A3 22 f22, R, va_up V2 4 (nI (tN (sT S (cA S i)))), va_up A2 21 g21, sLm S (tN (sT S (cA S i))) (fun y => nI (cl (gcA S i (tN (sT S (cB S i)))) (6 * d + y))), ti, ci, e5.trans ((k3 hex).trans ?_), e6.trans w1, ?_, ?_, ?_, fun _ _ => rfl, rfl, rfl⟩
        · rw [bX5_limit_10, cr_f3 (cI _ _), tb_f0 (hU _ _), if_pos (nI_le (Nat.le_refl _) (by omega)), cl_rc0, g1, bV_s, cl0_r4, cr_f3 (cI _ _), cr_f2 (cI _ _), tb_f0 (hT _ _), cl_rc14, hfl, bI_s, if_pos (show ¬ avI (some d) = -1 from nI_nm1 (by omega)), cr_f2 (cI _ _), tb_f0 (hT _ _), cl0_p13]
          exact t1
        · obtain ⟨a1, a2, a3, a4, a5, a6, a7⟩ := hC3
          exact ⟨(up_n _ _ (by omega)).trans a1, (up_n _ _ (by omega)).trans a2, up_s _ _ _, (up_n _ _ (by omega)).trans a4, a5, fun a ha => by rw [up_s]; exact t2 a ha, a7⟩
        · obtain ⟨a1, a2, a3, a4, a5, a6⟩ := hM2
          refine ⟨mT_V (mT_A a1 (fun r hr => up_n _ _ (by omega))) (up_n _ _ (by omega)), (up_n _ _ (by omega)).trans a2, (up_n _ _ (by omega)).trans a3, up_s _ _ _, fun j hj => ?_, fun a ha => by rw [up_s]; exact w3 a ha⟩
          rw [up_n _ _ (show 10 ≠ 21 by omega), up_n _ _ (show 11 ≠ 21 by omega), up_n _ _ (show 12 ≠ 21 by omega)]
          exact a5 j hj
        · exact ⟨hS.1, hS.2.1, hS.2.2.1, hn6, hS.2.2.2.2.1, hS.2.2.2.2.2⟩
  · refine opU_n h hS hm (-2) ?_ ?_
    · rw [eX5_limit, cl_rc0, s_carrierAtN h hy1, bR_0]
    · rw [eX6_limit, md_rc, m_isCarrierN hm hS hy1, bI_s, if_neg (by decide)]
end LIME
