/-! OPERATION answers -/
section ANSWH
variable {sc : az_S} {G G1 : az_H} {B x m : Nat} {V Vm : Nat → Int32} {A Am : Nat → Nat → Int32} {R : Nat → Nat → Option Nat} {S : wS} {ti ci : Nat → Nat} {i : Nat}
theorem s_answersK (h : iC G B V A R S ti ci) (hB : x + 22 ≤ B) (hS : wW S) (hi : i < sM S) (hn : sM S < 24) (y1 : Int32) (hall : ∀ y', y' < tN (sT S (cB S i)) → awA S i y' ≠ none ∧ A 20 y' = nI (aX (sT S (cA S i)) (sT S (cB S i)) (cg S i) y') ∧ A 21 y' = nI (aA (sT S (cA S i)) (sT S (cB S i)) (cg S i) y')) : az_rn sc iX5_answers 10 [some (.ref x), some (.int y1), some (.ref (ci i)), some (.int (nI (tN (sT S (cB S i))))), none] [] (clG G x V A R) = some (some (.int (nI (sM S))), clG (crG (bmp G 2 29) G.2.1 (cB S i) (cA S i) (ti (cB S i)) (ti (cA S i)) (arG (sT S (cA S i)) (sT S (cB S i)) (cg S i) (tK (sT S (cB S i))))) x (va_up V 1 (nI (sM S + 1))) A (va_up R 2 (va_up (R 2) (sM S) (some G.2.1)))) := by
  have h5 := h.2.2.2.2.1
  have ca := hS.ca hi
  have cb := hS.cb hi
  have hw := hS.tw ca
  have hwu := hS.tw cb
  have hk := hw.k24
  have hku := hwu.k24
  have hu6 := hwu.n6
  have htu := hS.told cb (hS.cbc hi)
  obtain ⟨-, i1, i2, i3, i4⟩ := h.2.2.2.2.2.2.2.2.1 i hi
  have lT : ti (cA S i) + 3 < G.2.1 := (h.2.2.2.2.2.2.1 _ ca).2.2.2
  have lU : ti (cB S i) + 3 < G.2.1 := (h.2.2.2.2.2.2.1 _ cb).2.2.2
  have cI : ∀ V' A', crC (clG G x V' A' R) (ci i) (cA S i) (cB S i) (ti (cA S i)) (ti (cB S i)) (cR S i) := fun V' A' => h.car hB hi V' A' R
  have hU : ∀ V' A', tbC (clG G x V' A' R) (ti (cB S i)) (sT S (cB S i)) := fun V' A' => h.tabc hB cb V' A' R
  have cI2 : ∀ g : Nat → Int32, crC (clG (crG (bmp G 2 29) G.2.1 (cB S i) (cA S i) (ti (cB S i)) (ti (cA S i)) g) x V A R) (ci i) (cA S i) (cB S i) (ti (cA S i)) (ti (cB S i)) (cR S i) := fun g =>
    ⟨(cl_out _ _ _ _ (by omega)).trans ((cg_o (bmp G 2 29) _ _ _ _ _ (by omega)).trans i1), (cl_out _ _ _ _ (by omega)).trans ((cg_o (bmp G 2 29) _ _ _ _ _ (by omega)).trans i2)⟩
  have hT2 : ∀ g : Nat → Int32, tbC (clG (crG (bmp G 2 29) G.2.1 (cB S i) (cA S i) (ti (cB S i)) (ti (cA S i)) g) x V A R) (ti (cA S i)) (sT S (cA S i)) := fun g => tbC_cl (tbC_cg (h.tab ca) lT) (by have := h.tB ca; omega) _ _ _
  have hU2 : ∀ g : Nat → Int32, tbC (clG (crG (bmp G 2 29) G.2.1 (cB S i) (cA S i) (ti (cB S i)) (ti (cA S i)) g) x V A R) (ti (cB S i)) (sT S (cB S i)) := fun g => tbC_cl (tbC_cg (h.tab cb) lU) (by have := h.tB cb; omega) _ _ _
  have cN : ∀ g : Nat → Int32, crC (clG (crG (bmp G 2 29) G.2.1 (cB S i) (cA S i) (ti (cB S i)) (ti (cA S i)) g) x V A R) G.2.1 (cB S i) (cA S i) (ti (cB S i)) (ti (cA S i)) g := fun g => ⟨(cl_out _ _ _ _ (by omega)).trans (cg_C (bmp G 2 29) G.2.1 _ _ _ _ g).1, (cl_out _ _ _ _ (by omega)).trans (cg_C (bmp G 2 29) G.2.1 _ _ _ _ g).2⟩
  have e9 : crG (bmp (clG G x V A R) 2 29) (clG G x V A R).2.1 (cB S i) (cA S i) (ti (cB S i)) (ti (cA S i)) (fun _ => 0) = clG (crG (bmp G 2 29) G.2.1 (cB S i) (cA S i) (ti (cB S i)) (ti (cA S i)) (fun _ => 0)) x V A R := cg_cl (G := bmp G 2 29) _ _ _ _ _ _ _ _ (show x + 22 < G.2.1 by omega)
  have lI : ci i + 1 < (clG G x V A R).2.1 := i4
  have loop : ∀ d e, e + d = tK (sT S (cB S i)) → az_rn sc iX5_answers 49 [some (.ref x), some (.int y1), some (.ref (ci i)), some (.ref G.2.1), some (.int (nI e))] [] (clG (crG (bmp G 2 29) G.2.1 (cB S i) (cA S i) (ti (cB S i)) (ti (cA S i)) (arG (sT S (cA S i)) (sT S (cB S i)) (cg S i) e)) x V A R) = some (some (.int (nI (sM S))), clG (crG (bmp G 2 29) G.2.1 (cB S i) (cA S i) (ti (cB S i)) (ti (cA S i)) (arG (sT S (cA S i)) (sT S (cB S i)) (cg S i) (tK (sT S (cB S i))))) x (va_up V 1 (nI (sM S + 1))) A (va_up R 2 (va_up (R 2) (sM S) (some G.2.1)))) := by
    intro d
    induction d with
    | zero =>
      intro e he
      have ee : e = tK (sT S (cB S i)) := by omega
      subst ee
      rw [bX5_answers_49, cr_f3 (cI2 _), tb_f1 (hU2 _), if_pos (nI_le (Nat.le_refl _) (by omega)), cl_rc0, s_keepCarrier (G := bmp G 2 29) (by omega) h.2.1 hn, bI_s]
    | succ d ih =>
      intro e he
      have hek : e < tK (sT S (cB S i)) := by omega
      have haw := s_answeredArrow (sc := sc) (cI2 (arG (sT S (cA S i)) (sT S (cB S i)) (cg S i) e)) (hT2 _) hw (hU2 _) hwu htu (hS.hl hi) (fun y hy => (hall y hy).1) (fun y hy => (hall y hy).2) hek
      rw [bX5_answers_49, cr_f3 (cI2 _), tb_f1 (hU2 _), if_neg (nI_ge hek (by omega)), cr_f4 (cN _), cl_rc0, haw, bI_s, s_write (cN _).2 (by omega) (by omega), bV_s, cl_setd _ _ _ _ (by omega), cg_u, arG_s, nI_1]
      exact ih (e + 1) (by omega)
  have ar0 : arG (sT S (cA S i)) (sT S (cB S i)) (cg S i) 0 = fun _ => 0 := funext fun a => if_neg (Nat.not_lt_zero _)
  have l0 := loop (tK (sT S (cB S i))) 0 (by omega)
  rw [ar0] at l0
  rw [bX5_answers_10, cr_f3 (cI _ _), tb_f0 (hU _ _), if_pos (nI_le (Nat.le_refl _) (by omega)), cl0_i12, h.2.1, if_pos (lt24 hn), nO0, cr_f1 (crC_psh (cI _ _) lI), cr_f0 (crC_psh (cI _ _) lI), cr_f3 (crC_psh (cI _ _) lI), cr_f2 (crC_psh (cI _ _) lI), s_newC, bV_s, e9]
  exact l0
theorem m_answersK (hm : iM Vm Am S) (hS : wW S) (hi : i < sM S) (hn : sM S < 24) (hall : ∀ y', y' < tN (sT S (cB S i)) → awA S i y' ≠ none ∧ Am 22 y' = nI (aX (sT S (cA S i)) (sT S (cB S i)) (cg S i) y') ∧ Am 23 y' = nI (aA (sT S (cA S i)) (sT S (cB S i)) (cg S i) y')) : ∃ A2, az_rn sc iX6_answers 18 [some (.ref m), some (.int (nI i)), some (.int (nI (cA S i))), some (.int (nI (cB S i))), some (.int (nI (tN (sT S (cB S i))))), none, none, none] [] (mdG G1 m Vm Am) = some (some (.int (nI (sM S))), mdG G1 m (va_up Vm 1 (nI (sM S + 1))) A2) ∧ agC Am A2 (sM S) ∧ A2 10 (sM S) = nI (cB S i) ∧ A2 11 (sM S) = nI (cA S i) ∧ ∀ a, a < tK (sT S (cB S i)) → A2 12 (24 * sM S + a) = nI (aqF (sT S (cA S i)) (sT S (cB S i)) (cg S i) a) := by
  have h8 := hS.1
  have ca := hS.ca hi
  have cb := hS.cb hi
  have hw := hS.tw ca
  have hwu := hS.tw cb
  have hk := hw.k24
  have hku := hwu.k24
  have hn6 := hw.n6
  have hu6 := hwu.n6
  have htu := hS.told cb (hS.cbc hi)
  have hall1 : ∀ y, y < tN (sT S (cB S i)) → awF (sT S (cA S i)) (sT S (cB S i)) (cg S i) y ≠ none := fun y hy => (hall y hy).1
  have t10 : ∀ (A : Nat → Nat → Int32) (v : Int32) (k : az_H → az_R), az_sI (mdG G1 m Vm A) 0 (m + 10) 24 v k = k (mdG G1 m Vm (va_up A 10 (upd (A 10) 24 v))) := fun A v k => md_s10 (i := 24) (by omega) v k
  have t11 : ∀ (A : Nat → Nat → Int32) (v : Int32) (k : az_H → az_R), az_sI (mdG G1 m Vm A) 0 (m + 11) 24 v k = k (mdG G1 m Vm (va_up A 11 (upd (A 11) 24 v))) := fun A v k => md_s11 (i := 24) (by omega) v k
  obtain ⟨A1, hA1⟩ : ∃ A1, A1 = va_up (va_up Am 10 (upd (Am 10) 24 (nI (cB S i)))) 11 (upd (Am 11) 24 (nI (cA S i))) := ⟨_, rfl⟩
  have r10 : A1 10 = upd (Am 10) 24 (nI (cB S i)) := by rw [hA1, up_n _ _ (show 10 ≠ 11 by omega), up_s]
  have r11 : A1 11 = upd (Am 11) 24 (nI (cA S i)) := by rw [hA1, up_s]
  have rr : ∀ r : Nat, r ≠ 10 → r ≠ 11 → A1 r = Am r := fun r h1 h2 => by rw [hA1, up_n _ _ h2, up_n _ _ h1]
  have iMf : ∀ f : Nat → Int32, (∀ z, z < 576 → f z = Am 12 z) → iM Vm (va_up A1 12 f) S := by
    intro f hf
    obtain ⟨a1, a2, a3, a4, a5, a6⟩ := hm
    have h24 := hS.2.1
    refine ⟨mT_A a1 (fun r hr => (up_n _ _ (by omega)).trans (rr r (by omega) (by omega))), a2, a3, a4, fun j hj => ?_, fun a ha => by rw [up_n _ _ (show 21 ≠ 12 by omega), rr 21 (by omega) (by omega)]; exact a6 a ha⟩
    obtain ⟨b1, b2, b3⟩ := a5 j hj
    have hkj := (hS.tw (hS.ca hj)).k24
    rw [up_n _ _ (show 10 ≠ 12 by omega), up_n _ _ (show 11 ≠ 12 by omega), up_s, r10, r11, upd_n _ _ (by omega), upd_n _ _ (by omega)]
    refine ⟨b1, b2, fun a ha => ?_⟩
    rw [hf _ (by omega)]
    exact b3 a ha
  have L81 : ∀ e f, e < tK (sT S (cB S i)) → (∀ z, z < 576 → f z = Am 12 z) → ∀ d c, c + d = aqF (sT S (cA S i)) (sT S (cB S i)) (cg S i) e → az_rn sc iX6_answers 81 [some (.ref m), some (.int (nI i)), some (.int (nI (cA S i))), some (.int (nI (cB S i))), some (.int (nI e)), some (.int (nI (fr (sT S (cB S i)) e))), some (.int (nI (to (sT S (cB S i)) e))), some (.int (nI c))] [] (mdG G1 m Vm (va_up A1 12 f)) = az_rn sc iX6_answers 63 [some (.ref m), some (.int (nI i)), some (.int (nI (cA S i))), some (.int (nI (cB S i))), some (.int (nI (e + 1))), some (.int (nI (fr (sT S (cB S i)) e))), some (.int (nI (to (sT S (cB S i)) e))), some (.int (nI (aqF (sT S (cA S i)) (sT S (cB S i)) (cg S i) e)))] [] (mdG G1 m Vm (va_up A1 12 (upd f (576 + e) (nI (aqF (sT S (cA S i)) (sT S (cB S i)) (cg S i) e))))) := by
    intro e f he hf
    have hM := iMf f hf
    have f1 := hwu.frn he
    have f2 := hwu.ton he
    obtain ⟨a1, a2, a3, a4, a5⟩ := awF_ok (hall1 _ f1)
    obtain ⟨b1, b2, b3, b4, b5⟩ := awF_ok (hall1 _ f2)
    obtain ⟨q1, q2, q3⟩ := aq_ok hwu htu hall1 he
    obtain ⟨p1, p2, p3⟩ := fdB_some q1
    have x22 : ∀ y, y < tN (sT S (cB S i)) → va_up A1 12 f 22 y = nI (aX (sT S (cA S i)) (sT S (cB S i)) (cg S i) y) := fun y hy => by
      rw [up_n _ _ (show 22 ≠ 12 by omega), rr 22 (by omega) (by omega)]
      exact (hall y hy).2.1
    have x23 : ∀ y, y < tN (sT S (cB S i)) → va_up A1 12 f 23 y = nI (aA (sT S (cA S i)) (sT S (cB S i)) (cg S i) y) := fun y hy => by
      rw [up_n _ _ (show 23 ≠ 12 by omega), rr 23 (by omega) (by omega)]
      exact (hall y hy).2.2
    have one : ∀ c, c < tK (sT S (cA S i)) → az_rn sc iX6_answers 81 [some (.ref m), some (.int (nI i)), some (.int (nI (cA S i))), some (.int (nI (cB S i))), some (.int (nI e)), some (.int (nI (fr (sT S (cB S i)) e))), some (.int (nI (to (sT S (cB S i)) e))), some (.int (nI c))] [] (mdG G1 m Vm (va_up A1 12 f)) = if aqB (sT S (cA S i)) (sT S (cB S i)) (cg S i) e c = true then az_rn sc iX6_answers 63 [some (.ref m), some (.int (nI i)), some (.int (nI (cA S i))), some (.int (nI (cB S i))), some (.int (nI (e + 1))), some (.int (nI (fr (sT S (cB S i)) e))), some (.int (nI (to (sT S (cB S i)) e))), some (.int (nI c))] [] (mdG G1 m Vm (va_up A1 12 (upd f (576 + e) (nI c)))) else az_rn sc iX6_answers 81 [some (.ref m), some (.int (nI i)), some (.int (nI (cA S i))), some (.int (nI (cB S i))), some (.int (nI e)), some (.int (nI (fr (sT S (cB S i)) e))), some (.int (nI (to (sT S (cB S i)) e))), some (.int (nI (c + 1)))] [] (mdG G1 m Vm (va_up A1 12 f)) := by
      intro c hc
      have g1 := hS.cgk hi hc
      have u1 := hw.frn hc
      have u2 := hw.ton hc
      rw [bX6_answers_81, md_rc, m_from hM.1 ca hc, bI_s, md_r28, md_a22 (by omega), x22 _ f1, ite_nnI (by omega) (by omega), nI_1]
      by_cases c1 : fr (sT S (cA S i)) c = aX (sT S (cA S i)) (sT S (cB S i)) (cg S i) (fr (sT S (cB S i)) e)
      · rw [if_neg (fun z => z c1), md_rc, m_to hM.1 ca hc, bI_s, md_r28, md_a22 (by omega), x22 _ f2, ite_nnI (by omega) (by omega)]
        by_cases c2 : to (sT S (cA S i)) c = aX (sT S (cA S i)) (sT S (cB S i)) (cg S i) (to (sT S (cB S i)) e)
        · rw [if_neg (fun z => z c2), md_rc, m_give hM hS hi hc, bI_s, md_r29, md_a23 (by omega), x23 _ f2, md_rc, m_wayIn hM.1 cb g1 b2, bI_s, md_r29, md_a23 (by omega), x23 _ f1, md_rc, m_wayIn hM.1 cb a2 he, bI_s, q2]
          by_cases c3 : wy (sT S (cB S i)) (cg S i c) (aA (sT S (cA S i)) (sT S (cB S i)) (cg S i) (to (sT S (cB S i)) e)) = nI (wv (sT S (cB S i)) (aA (sT S (cA S i)) (sT S (cB S i)) (cg S i) (fr (sT S (cB S i)) e)) e)
          · rw [if_pos c3, md_r13, n576b, md_s12 (by omega), up_s, up_up, nI_1, if_pos (show aqB (sT S (cA S i)) (sT S (cB S i)) (cg S i) e c = true by simp [aqB, thq, c1, c2, c3])]
          · rw [if_neg c3, if_neg (show ¬ aqB (sT S (cA S i)) (sT S (cB S i)) (cg S i) e c = true by simp [aqB, thq, c3])]
        · rw [if_pos c2, if_neg (show ¬ aqB (sT S (cA S i)) (sT S (cB S i)) (cg S i) e c = true by simp [aqB, thq, c2])]
      · rw [if_pos c1, if_neg (show ¬ aqB (sT S (cA S i)) (sT S (cB S i)) (cg S i) e c = true by simp [aqB, thq, c1])]
    intro d
    induction d with
    | zero =>
      intro c hc
      have ec : c = aqF (sT S (cA S i)) (sT S (cB S i)) (cg S i) e := by omega
      rw [ec, one _ p1, if_pos p2]
    | succ d ih =>
      intro c hc
      rw [one c (by omega), if_neg (by rw [p3 c (by omega)]; decide)]
      exact ih (c + 1) (by omega)
  have L63 : ∀ d e f (o5 o6 o7 : Option Value), e + d = tK (sT S (cB S i)) → (∀ z, z < 576 → f z = Am 12 z) → (∀ e', e' < e → f (576 + e') = nI (aqF (sT S (cA S i)) (sT S (cB S i)) (cg S i) e')) → ∃ f', az_rn sc iX6_answers 63 [some (.ref m), some (.int (nI i)), some (.int (nI (cA S i))), some (.int (nI (cB S i))), some (.int (nI e)), o5, o6, o7] [] (mdG G1 m Vm (va_up A1 12 f)) = az_bI (az_ca sc iX6_keeps [.ref m] (mdG G1 m Vm (va_up A1 12 f'))) (fun x G => some (some (.int x), G)) ∧ (∀ z, z < 576 → f' z = Am 12 z) ∧ (∀ e, e < tK (sT S (cB S i)) → f' (576 + e) = nI (aqF (sT S (cA S i)) (sT S (cB S i)) (cg S i) e)) := by
    intro d
    induction d with
    | zero =>
      intro e f o5 o6 o7 he hf hfe
      have ee : e = tK (sT S (cB S i)) := by omega
      subst ee
      have hM := iMf f hf
      refine ⟨f, ?_, hf, hfe⟩
      rw [bX6_answers_63, md_r2, md_a2 (by omega), hM.1.a cb, if_pos (nI_le (Nat.le_refl _) (by omega)), md_rc]
    | succ d ih =>
      intro e f o5 o6 o7 he hf hfe
      have hek : e < tK (sT S (cB S i)) := by omega
      have hM := iMf f hf
      have l81 := L81 e f hek hf (aqF (sT S (cA S i)) (sT S (cB S i)) (cg S i) e) 0 (by omega)
      obtain ⟨f', k1, k2, k3⟩ := ih (e + 1) (upd f (576 + e) (nI (aqF (sT S (cA S i)) (sT S (cB S i)) (cg S i) e))) (some (.int (nI (fr (sT S (cB S i)) e)))) (some (.int (nI (to (sT S (cB S i)) e)))) (some (.int (nI (aqF (sT S (cA S i)) (sT S (cB S i)) (cg S i) e)))) (by omega) (fun z hz => by rw [upd_n _ _ (by omega)]; exact hf z hz) (fun e' he' => by
        by_cases e2 : e' = e
        · subst e2
          exact upd_s _ _ _
        · rw [upd_n _ _ (by omega)]
          exact hfe e' (by omega))
      refine ⟨f', ?_, k2, k3⟩
      rw [bX6_answers_63, md_r2, md_a2 (by omega), hM.1.a cb, if_neg (nI_ge hek (by omega)), md_rc, m_from hM.1 cb hek, bI_s, md_rc, m_to hM.1 cb hek, bI_s]
      exact l81.trans k1
  have e12 : va_up A1 12 (Am 12) = A1 := by
    have : Am 12 = A1 12 := (rr 12 (by omega) (by omega)).symm
    rw [this, up_id]
  obtain ⟨f', k1, k2, k3⟩ := L63 (tK (sT S (cB S i))) 0 (Am 12) none none none (by omega) (fun _ _ => rfl) (fun e' he' => absurd he' (Nat.not_lt_zero _))
  rw [e12] at k1
  obtain ⟨A2, w1, ⟨w2, w3, w4⟩, w5, w6, w7⟩ := m_keeps (sc := sc) (G := G1) (m := m) (V := Vm) (A := va_up A1 12 f') (n := sM S) hm.2.1 hn
  refine ⟨A2, ?_, ⟨fun r q1 q2 q3 => ?_, fun j' hj' => ?_, fun q hq => ?_⟩, ?_, ?_, fun a ha => ?_⟩
  · rw [bX6_answers_18, md_r1, md_a1 (by omega), hm.1.o cb, if_pos (nI_le (Nat.le_refl _) (by omega)), md_i10, hm.2.1, if_pos (ne24 hn), md_r11, t10, md_r12, t11, up_n _ _ (show 11 ≠ 10 by omega), ← hA1]
    refine k1.trans ?_
    rw [w1, bI_s]
  · rw [w2 r q1 q2 q3, up_n _ _ q3, rr r q1 q2]
  · rw [(w3 j' hj').1, (w3 j' hj').2, up_n _ _ (show 10 ≠ 12 by omega), up_n _ _ (show 11 ≠ 12 by omega), r10, r11, upd_n _ _ (by omega), upd_n _ _ (by omega)]
    exact ⟨rfl, rfl⟩
  · rw [w4 q hq, up_s, k2 q (by omega)]
  · rw [w5, up_n _ _ (show 10 ≠ 12 by omega), r10, upd_s]
  · rw [w6, up_n _ _ (show 11 ≠ 12 by omega), r11, upd_s]
  · rw [w7 a (by omega), up_s]
    exact k3 a ha
theorem op_answers (h : iC G B V A R S ti ci) (hB : x + 22 ≤ B) (hS : wW S) (hm : iM Vm Am S) (y1 : Int32) : opU (az_ca sc iX5_answers [.ref x, .int y1] (clG G x V A R)) (az_ca sc iX6_answers [.ref m, .int y1] (mdG G1 m Vm Am)) G G1 B x m S := by
  have h24 := hS.2.1
  have h8 := hS.1
  rcases ix_c y1 (n := sM S) (by omega) with ⟨i, hi, rfl⟩ | hy1
  · have ca := hS.ca hi
    have cb := hS.cb hi
    have hw := hS.tw ca
    have hwu := hS.tw cb
    have hk := hw.k24
    have hku := hwu.k24
    have hu6 := hwu.n6
    have mI := hm.2.2.2.2.1 i hi
    have cI : ∀ V' A', crC (clG G x V' A' R) (ci i) (cA S i) (cB S i) (ti (cA S i)) (ti (cB S i)) (cR S i) := fun V' A' => h.car hB hi V' A' R
    have hU : ∀ V' A', tbC (clG G x V' A' R) (ti (cB S i)) (sT S (cB S i)) := fun V' A' => h.tabc hB cb V' A' R
    obtain ⟨A1, k1, k2, k3⟩ := s_answersL (sc := sc) h hB hS hi (nI i) (tN (sT S (cB S i))) 0 A (by omega) (fun _ _ _ => rfl) (fun y' hy' => absurd hy' (Nat.not_lt_zero _))
    obtain ⟨V2, A2, q0, q1, q2, q3⟩ := m_answersL (sc := sc) (G1 := G1) (m := m) hm hS hi (tN (sT S (cB S i))) 0 Vm Am (by omega) (fun _ _ _ => rfl) (fun _ _ _ => rfl) (fun y' hy' => absurd hy' (Nat.not_lt_zero _))
    have hC1 : iC G B V A1 R S ti ci := iC_A h (k1 22 (by omega) (by omega)) rfl rfl rfl rfl
    have hM2 : iM V2 A2 S := iM_V (iM_A16 hm (fun r hr => q1 r (by omega) (by omega))) (q0 0 (by omega) (by omega)) (q0 1 (by omega) (by omega)) (q0 2 (by omega) (by omega)) (q0 4 (by omega) (by omega))
    have e5 : az_ca sc iX5_answers [.ref x, .int (nI i)] (clG G x V A R) = az_rn sc iX5_answers 10 [some (.ref x), some (.int (nI i)), some (.ref (ci i)), some (.int (nI 0)), none] [] (clG G x V A R) := by
      rw [eX5_answers, cl_rc0, s_carrierAt h hS hi, bR_s]
      rfl
    have e6 : az_ca sc iX6_answers [.ref m, .int (nI i)] (mdG G1 m Vm Am) = az_rn sc iX6_answers 18 [some (.ref m), some (.int (nI i)), some (.int (nI (cA S i))), some (.int (nI (cB S i))), some (.int (nI 0)), none, none, none] [] (mdG G1 m Vm Am) := by
      rw [eX6_answers, md_rc, m_isCarrierT hm hS hi, bI_s, if_pos (by decide), md_r11, md_a10 (by omega), mI.1, md_r12, md_a11 (by omega), mI.2.1]
      rfl
    cases hno : noA S i with
    | true => exact opU_n hC1 hS hM2 (-3) (e5.trans (k2 hno)) (e6.trans (q2 hno))
    | false =>
      obtain ⟨k4, k5⟩ := k3 hno
      obtain ⟨q4, q5⟩ := q3 hno
      by_cases hn : sM S < 24
      · obtain ⟨A3, w1, w2, w3, w4, w5⟩ := m_answersK (sc := sc) (G1 := G1) (m := m) hM2 hS hi hn q5
        have hall1 : ∀ y, y < tN (sT S (cB S i)) → awF (sT S (cA S i)) (sT S (cB S i)) (cg S i) y ≠ none := fun y hy => (k5 y hy).1
        refine opU_c (p := cB S i) (q := cA S i) (g := arG (sT S (cA S i)) (sT S (cB S i)) (cg S i) (tK (sT S (cB S i)))) (Am' := A3) hC1 hS hM2 hn cb ca (hS.cbc hi) (hS.cac hi) (fun a ha => ?_) (e5.trans (k4.trans (s_answersK hC1 hB hS hi hn (nI i) k5))) (e6.trans (q4.trans w1)) w2 w3 w4 (fun a ha => ?_)
        · obtain ⟨p1, p2, p3⟩ := aq_ok hwu (hS.told cb (hS.cbc hi)) hall1 ha
          have p4 := (fdB_some p1).1
          have e : arG (sT S (cA S i)) (sT S (cB S i)) (cg S i) (tK (sT S (cB S i))) a = nI (aqF (sT S (cA S i)) (sT S (cB S i)) (cg S i) a) := if_pos ha
          rw [e, nI_clamp (by omega)]
          exact ⟨rfl, p4⟩
        · rw [w5 a ha]
          exact (if_pos ha).symm
      · have hn' : sM S = 24 := by omega
        refine opU_n hC1 hS hM2 (-4) (e5.trans (k4.trans ?_)) (e6.trans (q4.trans ?_))
        · rw [bX5_answers_10, cr_f3 (cI _ _), tb_f0 (hU _ _), if_pos (nI_le (Nat.le_refl _) (by omega)), cl0_i12, hC1.2.1, hn', if_neg (by decide)]
        · rw [bX6_answers_18, md_r1, md_a1 (by omega), hM2.1.o cb, if_pos (nI_le (Nat.le_refl _) (by omega)), md_i10, hM2.2.1, hn', if_neg (by decide)]
  · refine opU_n h hS hm (-2) ?_ ?_
    · rw [eX5_answers, cl_rc0, s_carrierAtN h hy1, bR_0]
    · rw [eX6_answers, md_rc, m_isCarrierN hm hS hy1, bI_s, if_neg (by decide)]
end ANSWH
