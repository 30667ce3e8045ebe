/-! THE SEARCH: from one find to the next -/
/-- how far an arrow's values go -/
def gl (T U : tb) (q : Nat) : Nat := if q < tN T then tN U else tK U
/-- to the next find: 0 the end, 1 spent, 2 found; tries; what was given -/
def sr (T U : tb) : Nat → Nat → Nat → Nat → (Nat → Nat) → Nat × Nat × (Nat → Nat)
  | 0, _, _, tr, g => (0, tr, g)
  | _ + 1, 0, _, tr, g => (0, tr, g)
  | e + 1, q + 1, v, tr, g => if gl T U q ≤ v then sr T U e q (g (q - 1) + 1) tr g else if 60000 ≤ tr then (1, tr, g) else if q < tN T ∨ fB T U (va_up g q v) q = true then (if q + 1 < tK T then sr T U e (q + 2) 0 (tr + 1) (va_up g q v) else (2, tr + 1, va_up g q v)) else sr T U e (q + 1) (v + 1) (tr + 1) (va_up g q v)
def pm (p : Nat) : Int32 := match p with
  | 0 => -1
  | q + 1 => nI q
theorem pm_a (q : Nat) : nI q + (-1) = pm q := by
  cases q with
  | zero => decide
  | succ q => exact pk_m1 q
theorem pm_s (q : Nat) : nI q - 1 = pm q := by
  cases q with
  | zero => decide
  | succ q =>
    have h := pk_sub (a := q + 1) (b := 1) (by omega)
    exact h
theorem gl_le {T U : tb} (hwu : tbW U) (q : Nat) : gl T U q ≤ tK U := by
  unfold gl
  have := hwu.nk
  split <;> omega
theorem ruR_4 {r5 r6 r7 r : Nat} {A : Nat → Nat → Int32} {T : tb} {f : Nat → Int32} (h : ruR r5 r6 r7 A T) (h5 : r5 ≠ r) (h6 : r6 ≠ r) (h7 : r7 ≠ r) : ruR r5 r6 r7 (va_up A r f) T := by
  obtain ⟨h1, h2⟩ := h
  refine ⟨fun l hl => ?_, fun i hi => ?_⟩
  · rw [up_n _ _ h5]; exact h1 l hl
  · rw [up_n _ _ h6, up_n _ _ h7]; exact h2 i hi
theorem lit180 : (180000 : Int32) = nI 180000 := rfl
theorem lit60 : (60000 : Int32) = nI 60000 := rfl
section SRCH
variable {sc : az_S} {G : az_H} {x m t u : Nat} {V0 : Nat → Int32} {A : Nat → Nat → Int32} {R : Nat → Nat → Option Nat} {T U : tb} {nt i j : Nat} {Tb : Nat → tb}
theorem s_next (hT : ∀ V A, tbC (clG G x V A R) t T) (hw : tbW T) (ht : tld T) (hU : ∀ V A, tbC (clG G x V A R) u U) (hwu : tbW U) (hru : ruR 5 6 7 A T) : ∀ e p v tr g st (o4 : Option Value) V f, 2 * (60000 - tr) + p < e → tr ≤ 60000 → st + 2 * (60000 - tr) + p < 180000 → p ≤ tK T → (∀ r, r ≠ 3 → r ≠ 4 → r ≠ 5 → V r = V0 r) → V 3 = nI tr → V 4 = V0 4 → V 5 = pm p → (∀ q, p = q + 1 → v ≤ gl T U q ∧ f q + 1 = nI v) → (∀ a, a + 1 < p → f a = nI (g a) ∧ g a < gl T U a) → ∃ V' f', az_rn sc iX3_next 2 [some (.ref (x + 3)), some (.ref t), some (.ref u), some (.int (nI st)), o4] [] (clG G x V (va_up A 4 f) R) = some (some (.int (if (sr T U e p v tr g).1 = 2 then 1 else 0)), clG G x V' (va_up A 4 f') R) ∧ (∀ r, r ≠ 3 → r ≠ 4 → r ≠ 5 → V' r = V0 r) ∧ V' 3 = nI (sr T U e p v tr g).2.1 ∧ V' 4 = (if (sr T U e p v tr g).1 = 1 then 1 else V0 4) ∧ (sr T U e p v tr g).2.1 ≤ 60000 ∧ ((sr T U e p v tr g).1 = 2 → V' 5 = pm (tK T) ∧ tr < (sr T U e p v tr g).2.1 ∧ ∀ a, a < tK T → f' a = nI ((sr T U e p v tr g).2.2 a) ∧ (sr T U e p v tr g).2.2 a < gl T U a) := by
  have hk := hw.k24
  have hku := hwu.k24
  have hn6 := hw.n6
  have hu6 := hwu.n6
  have hnk := hw.nk
  intro e
  induction e with
  | zero => intro p v tr g st o4 V f h; omega
  | succ e ih =>
    intro p v tr g st o4 V f he htr hst hp hV h3 h4 h5 hv hg
    match p, he, hst, hp, h5, hv, hg with
    | 0, he, hst, hp, h5, hv, hg =>
      refine ⟨V, f, ?_, hV, h3, ?_, htr, fun z => ?_⟩
      · rw [bX3_next_2, lit180, if_neg (nI_ge (show st < 180000 by omega) (by omega)), cl3_i3, h5, if_pos (show pm 0 < (0 : Int32) by decide), zr_0]
        rfl
      · exact h4
      · exact absurd z (show ¬ (0 : Nat) = 2 by omega)
    | q + 1, he, hst, hp, h5, hv, hg =>
      obtain ⟨hv1, hv2⟩ := hv q rfl
      have hglu := gl_le (T := T) hwu q
      have hV5 : V 5 = nI q := h5
      have hq : q < tK T := hp
      have hT1 := hT V (va_up A 4 f)
      have hU1 := hU V (va_up A 4 f)
      have esr : sr T U (e + 1) (q + 1) v tr g = if gl T U q ≤ v then sr T U e q (g (q - 1) + 1) tr g else if 60000 ≤ tr then (1, tr, g) else if q < tN T ∨ fB T U (va_up g q v) q = true then (if q + 1 < tK T then sr T U e (q + 2) 0 (tr + 1) (va_up g q v) else (2, tr + 1, va_up g q v)) else sr T U e (q + 1) (v + 1) (tr + 1) (va_up g q v) := rfl
      -- what was given up to q, once v stands at q
      have hg2 : ∀ a, a ≤ q → v < gl T U q → upd f q (nI v) a = nI (va_up g q v a) ∧ va_up g q v a < gl T U a := by
        intro a ha hvl
        by_cases e1 : a = q
        · subst e1
          rw [upd_s, up_s]
          exact ⟨rfl, hvl⟩
        · rw [upd_n _ _ e1, up_n _ _ e1]
          exact hg a (by omega)
      rw [bX3_next_2, lit180, if_neg (nI_ge (show st < 180000 by omega) (by omega)), cl3_i3, hV5, if_neg (nI_nlt0 (by omega)), cl3_r0, cl3_i3, hV5, s_read cl_c4 (by omega) (by omega), bI_s, up_s, hv2, cl3_i3, hV5, tb_rc hT1, s_doesNothing hT1 (by omega) hn6, bI_s, esr]
      by_cases hqn : q < tN T
      · rw [if_pos hqn, if_neg (show ¬ (1 : Int32) = 0 by decide)]
        have egl : gl T U q = tN U := if_pos hqn
        rw [egl] at hv1 hg2 ⊢
        rw [tb_f0 hU1]
        by_cases c1 : tN U ≤ v
        · rw [if_neg (fun z => by have := (nI_ltI (by omega) (by omega)).mp z; omega), if_pos c1, cl3_i3, hV5, cl3_p3, pm_s, nI_1]
          refine ih q (g (q - 1) + 1) tr g (st + 1) _ _ f (by omega) htr (by omega) (by omega) (fun r a3 a4 a5 => ?_) ?_ ?_ (up_s _ _ _) (fun q' e1 => ?_) (fun a ha => hg a (by omega))
          · rw [up_n _ _ a5]; exact hV r a3 a4 a5
          · rw [up_n _ _ (by omega)]; exact h3
          · rw [up_n _ _ (by omega)]; exact h4
          · subst e1
            obtain ⟨b1, b2⟩ := hg q' (by omega)
            rw [Nat.add_sub_cancel, b1, nI_1]
            exact ⟨b2, rfl⟩
        · have c1' : v < tN U := by omega
          have hfit : az_ca sc iX3_fits [.ref (x + 3), .ref t, .ref u] (clG G x (va_up V 3 (nI (tr + 1))) (va_up A 4 (upd f q (nI v))) R) = some (some (.int (if q < tN T ∨ fB T U (va_up g q v) q = true then 1 else 0)), clG G x (va_up V 3 (nI (tr + 1))) (va_up A 4 (upd f q (nI v))) R) := s_fits (hT _ _) hw ht (hU _ _) hwu ((up_n _ _ (by omega)).trans hV5) hq (ruR_4 hru (by omega) (by omega) (by omega)) (fun a ha => by
            obtain ⟨b1, b2⟩ := hg2 a ha c1'
            have b3 := gl_le (T := T) hwu a
            rw [up_s]
            exact ⟨b1, by omega⟩)
          rw [if_pos (nI_lt c1' (by omega)), if_neg c1, cl3_i1, h3, lit60]
          by_cases c2 : 60000 ≤ tr
          · rw [if_neg (fun z => by have := (nI_ltI (by omega) (by omega)).mp z; omega), if_pos c2, w1_1, cl3_p2, zr_0]
            refine ⟨_, f, rfl, fun r a3 a4 a5 => ?_, ?_, up_s _ _ _, htr, fun z => ?_⟩
            · rw [up_n _ _ a4]; exact hV r a3 a4 a5
            · rw [up_n _ _ (by omega)]; exact h3
            · exact absurd z (show ¬ (1 : Nat) = 2 by omega)
          · rw [if_pos (nI_lt (show tr < 60000 by omega) (by omega)), if_neg c2, cl3_i1, h3, cl3_p1, cl3_r0, cl3_i3, up_n _ _ (show 5 ≠ 3 by omega), hV5, s_write cl_c4 (show q < 24 by omega) (by omega), bV_s, cl_u4, up_s, up_up, nI_1, cl_rc3, hfit, bI_s]
            by_cases c3 : q < tN T ∨ fB T U (va_up g q v) q = true
            · rw [if_pos c3, if_pos c3, if_neg (by decide), cl3_i3, up_n _ _ (show 5 ≠ 3 by omega), hV5, tb_f1 (hT _ _), nI_1]
              by_cases c4 : q + 1 < tK T
              · rw [if_pos (nI_lt c4 (by omega)), if_pos c4, cl3_i3, up_n _ _ (show 5 ≠ 3 by omega), hV5, cl3_p3, cl3_r0, cl3_i3, up_s, nI_1, s_write cl_c4 (show q + 1 < 24 by omega) (by omega), bV_s, cl_u4, up_s, up_up, nI_1]
                obtain ⟨V', f', k1, k2, k3, k4, k5, k6⟩ := ih (q + 2) 0 (tr + 1) (va_up g q v) (st + 1) (some (.int (nI v))) (va_up (va_up V 3 (nI (tr + 1))) 5 (nI (q + 1))) (upd (upd f q (nI v)) (q + 1) (-1)) (by omega) (by omega) (by omega) (by omega) (fun r a3 a4 a5 => by rw [up_n _ _ a5, up_n _ _ a3]; exact hV r a3 a4 a5) (by rw [up_n _ _ (by omega), up_s]) (by rw [up_n _ _ (by omega), up_n _ _ (by omega)]; exact h4) (up_s _ _ _) (fun q' e1 => by
                    have e2 : q' = q + 1 := by omega
                    subst e2
                    exact ⟨Nat.zero_le _, by rw [upd_s]; decide⟩) (fun a ha => by
                    rw [upd_n _ _ (by omega)]
                    obtain ⟨b1, b2⟩ := hg2 a (by omega) c1'
                    exact ⟨b1, b2⟩)
                exact ⟨V', f', k1, k2, k3, k4, k5, fun z => ⟨(k6 z).1, by have := (k6 z).2.1; omega, (k6 z).2.2⟩⟩
              · rw [if_neg (fun z => by have := (nI_ltI (by omega) (by omega)).mp z; omega), if_neg c4, zr_1]
                have eqk : q + 1 = tK T := by omega
                refine ⟨_, upd f q (nI v), rfl, fun r a3 a4 a5 => ?_, up_s _ _ _, ?_, by show tr + 1 ≤ 60000; omega, fun _ => ⟨?_, Nat.lt_succ_self _, fun a ha => ?_⟩⟩
                · rw [up_n _ _ a3]; exact hV r a3 a4 a5
                · rw [up_n _ _ (by omega), if_neg (show ¬ (2 : Nat) = 1 by omega)]; exact h4
                · rw [up_n _ _ (by omega), hV5, ← eqk]; rfl
                · obtain ⟨b1, b2⟩ := hg2 a (by omega) c1'
                  exact ⟨b1, b2⟩
            · rw [if_neg c3, if_neg c3, if_pos rfl, nI_1]
              obtain ⟨V', f', k1, k2, k3, k4, k5, k6⟩ := ih (q + 1) (v + 1) (tr + 1) (va_up g q v) (st + 1) (some (.int (nI v))) (va_up V 3 (nI (tr + 1))) (upd f q (nI v)) (by omega) (by omega) (by omega) (by omega) (fun r a3 a4 a5 => by rw [up_n _ _ a3]; exact hV r a3 a4 a5) (up_s _ _ _) (by rw [up_n _ _ (by omega)]; exact h4) (by rw [up_n _ _ (by omega), hV5]; rfl) (fun q' e1 => by
                  have e2 : q' = q := by omega
                  subst e2
                  exact ⟨by omega, by rw [upd_s, nI_1]⟩) (fun a ha => by
                  obtain ⟨b1, b2⟩ := hg2 a (by omega) c1'
                  exact ⟨b1, b2⟩)
              exact ⟨V', f', k1, k2, k3, k4, k5, fun z => ⟨(k6 z).1, by have := (k6 z).2.1; omega, (k6 z).2.2⟩⟩
      · rw [if_neg hqn, if_pos (show (0 : Int32) = 0 from rfl)]
        have egl : gl T U q = tK U := if_neg hqn
        rw [egl] at hv1 hg2 ⊢
        rw [tb_f1 hU1]
        by_cases c1 : tK U ≤ v
        · rw [if_neg (fun z => by have := (nI_ltI (by omega) (by omega)).mp z; omega), if_pos c1, cl3_i3, hV5, cl3_p3, pm_s, nI_1]
          refine ih q (g (q - 1) + 1) tr g (st + 1) _ _ f (by omega) htr (by omega) (by omega) (fun r a3 a4 a5 => ?_) ?_ ?_ (up_s _ _ _) (fun q' e1 => ?_) (fun a ha => hg a (by omega))
          · rw [up_n _ _ a5]; exact hV r a3 a4 a5
          · rw [up_n _ _ (by omega)]; exact h3
          · rw [up_n _ _ (by omega)]; exact h4
          · subst e1
            obtain ⟨b1, b2⟩ := hg q' (by omega)
            rw [Nat.add_sub_cancel, b1, nI_1]
            exact ⟨b2, rfl⟩
        · have c1' : v < tK U := by omega
          have hfit : az_ca sc iX3_fits [.ref (x + 3), .ref t, .ref u] (clG G x (va_up V 3 (nI (tr + 1))) (va_up A 4 (upd f q (nI v))) R) = some (some (.int (if q < tN T ∨ fB T U (va_up g q v) q = true then 1 else 0)), clG G x (va_up V 3 (nI (tr + 1))) (va_up A 4 (upd f q (nI v))) R) := s_fits (hT _ _) hw ht (hU _ _) hwu ((up_n _ _ (by omega)).trans hV5) hq (ruR_4 hru (by omega) (by omega) (by omega)) (fun a ha => by
            obtain ⟨b1, b2⟩ := hg2 a ha c1'
            have b3 := gl_le (T := T) hwu a
            rw [up_s]
            exact ⟨b1, by omega⟩)
          rw [if_pos (nI_lt c1' (by omega)), if_neg c1, cl3_i1, h3, lit60]
          by_cases c2 : 60000 ≤ tr
          · rw [if_neg (fun z => by have := (nI_ltI (by omega) (by omega)).mp z; omega), if_pos c2, w1_1, cl3_p2, zr_0]
            refine ⟨_, f, rfl, fun r a3 a4 a5 => ?_, ?_, up_s _ _ _, htr, fun z => ?_⟩
            · rw [up_n _ _ a4]; exact hV r a3 a4 a5
            · rw [up_n _ _ (by omega)]; exact h3
            · exact absurd z (show ¬ (1 : Nat) = 2 by omega)
          · rw [if_pos (nI_lt (show tr < 60000 by omega) (by omega)), if_neg c2, cl3_i1, h3, cl3_p1, cl3_r0, cl3_i3, up_n _ _ (show 5 ≠ 3 by omega), hV5, s_write cl_c4 (show q < 24 by omega) (by omega), bV_s, cl_u4, up_s, up_up, nI_1, cl_rc3, hfit, bI_s]
            by_cases c3 : q < tN T ∨ fB T U (va_up g q v) q = true
            · rw [if_pos c3, if_pos c3, if_neg (by decide), cl3_i3, up_n _ _ (show 5 ≠ 3 by omega), hV5, tb_f1 (hT _ _), nI_1]
              by_cases c4 : q + 1 < tK T
              · rw [if_pos (nI_lt c4 (by omega)), if_pos c4, cl3_i3, up_n _ _ (show 5 ≠ 3 by omega), hV5, cl3_p3, cl3_r0, cl3_i3, up_s, nI_1, s_write cl_c4 (show q + 1 < 24 by omega) (by omega), bV_s, cl_u4, up_s, up_up, nI_1]
                obtain ⟨V', f', k1, k2, k3, k4, k5, k6⟩ := ih (q + 2) 0 (tr + 1) (va_up g q v) (st + 1) (some (.int (nI v))) (va_up (va_up V 3 (nI (tr + 1))) 5 (nI (q + 1))) (upd (upd f q (nI v)) (q + 1) (-1)) (by omega) (by omega) (by omega) (by omega) (fun r a3 a4 a5 => by rw [up_n _ _ a5, up_n _ _ a3]; exact hV r a3 a4 a5) (by rw [up_n _ _ (by omega), up_s]) (by rw [up_n _ _ (by omega), up_n _ _ (by omega)]; exact h4) (up_s _ _ _) (fun q' e1 => by
                    have e2 : q' = q + 1 := by omega
                    subst e2
                    exact ⟨Nat.zero_le _, by rw [upd_s]; decide⟩) (fun a ha => by
                    rw [upd_n _ _ (by omega)]
                    obtain ⟨b1, b2⟩ := hg2 a (by omega) c1'
                    exact ⟨b1, b2⟩)
                exact ⟨V', f', k1, k2, k3, k4, k5, fun z => ⟨(k6 z).1, by have := (k6 z).2.1; omega, (k6 z).2.2⟩⟩
              · rw [if_neg (fun z => by have := (nI_ltI (by omega) (by omega)).mp z; omega), if_neg c4, zr_1]
                have eqk : q + 1 = tK T := by omega
                refine ⟨_, upd f q (nI v), rfl, fun r a3 a4 a5 => ?_, up_s _ _ _, ?_, by show tr + 1 ≤ 60000; omega, fun _ => ⟨?_, Nat.lt_succ_self _, fun a ha => ?_⟩⟩
                · rw [up_n _ _ a3]; exact hV r a3 a4 a5
                · rw [up_n _ _ (by omega), if_neg (show ¬ (2 : Nat) = 1 by omega)]; exact h4
                · rw [up_n _ _ (by omega), hV5, ← eqk]; rfl
                · obtain ⟨b1, b2⟩ := hg2 a (by omega) c1'
                  exact ⟨b1, b2⟩
            · rw [if_neg c3, if_neg c3, if_pos rfl, nI_1]
              obtain ⟨V', f', k1, k2, k3, k4, k5, k6⟩ := ih (q + 1) (v + 1) (tr + 1) (va_up g q v) (st + 1) (some (.int (nI v))) (va_up V 3 (nI (tr + 1))) (upd f q (nI v)) (by omega) (by omega) (by omega) (by omega) (fun r a3 a4 a5 => by rw [up_n _ _ a3]; exact hV r a3 a4 a5) (up_s _ _ _) (by rw [up_n _ _ (by omega)]; exact h4) (by rw [up_n _ _ (by omega), hV5]; rfl) (fun q' e1 => by
                  have e2 : q' = q := by omega
                  subst e2
                  exact ⟨by omega, by rw [upd_s, nI_1]⟩) (fun a ha => by
                  obtain ⟨b1, b2⟩ := hg2 a (by omega) c1'
                  exact ⟨b1, b2⟩)
              exact ⟨V', f', k1, k2, k3, k4, k5, fun z => ⟨(k6 z).1, by have := (k6 z).2.1; omega, (k6 z).2.2⟩⟩
theorem mT_V {V V' : Nat → Int32} {A : Nat → Nat → Int32} (h : mT V A nt Tb) (h0 : V' 0 = V 0) : mT V' A nt Tb := ⟨h0.trans h.1, h.2⟩
theorem m_srch (h : mT V0 A nt Tb) (hi : i < nt) (hj : j < nt) (ht : tld (Tb i)) (hru : ruR 15 13 14 A (Tb i)) (wn bs : Int32) (n : Nat) : ∀ e p v tr g (o8 : Option Value) V f, 2 * (60000 - tr) + p < e → tr ≤ 60000 → p ≤ tK (Tb i) → (∀ r, r ≠ 2 → V r = V0 r) → V 2 = nI tr → (∀ z, z < 576 → f z = A 12 z) → (∀ q, p = q + 1 → v ≤ gl (Tb i) (Tb j) q ∧ f (576 + q) + 1 = nI v) → (∀ a, a + 1 < p → f (576 + a) = nI (g a) ∧ g a < gl (Tb i) (Tb j) a) → ∃ V' f', (∀ r, r ≠ 2 → V' r = V0 r) ∧ V' 2 = nI (sr (Tb i) (Tb j) e p v tr g).2.1 ∧ (∀ z, z < 576 → f' z = A 12 z) ∧ ((sr (Tb i) (Tb j) e p v tr g).1 = 0 → az_rn sc iX6_search 27 [some (.ref m), some (.int (nI i)), some (.int (nI j)), some (.int wn), some (.int bs), some (.int (nI 576)), some (.int (nI n)), some (.int (pm p)), o8] [] (mdG G m V (va_up A 12 f)) = some (some (.int (if bs = 0 then nI n else 0)), mdG G m V' (va_up A 12 f'))) ∧ ((sr (Tb i) (Tb j) e p v tr g).1 = 1 → az_rn sc iX6_search 27 [some (.ref m), some (.int (nI i)), some (.int (nI j)), some (.int wn), some (.int bs), some (.int (nI 576)), some (.int (nI n)), some (.int (pm p)), o8] [] (mdG G m V (va_up A 12 f)) = some (some (.int (-5)), mdG G m V' (va_up A 12 f'))) ∧ ((sr (Tb i) (Tb j) e p v tr g).1 = 2 → (∀ a, a < tK (Tb i) → f' (576 + a) = nI ((sr (Tb i) (Tb j) e p v tr g).2.2 a) ∧ (sr (Tb i) (Tb j) e p v tr g).2.2 a < gl (Tb i) (Tb j) a) ∧ ∃ v8 : Int32, az_rn sc iX6_search 27 [some (.ref m), some (.int (nI i)), some (.int (nI j)), some (.int wn), some (.int bs), some (.int (nI 576)), some (.int (nI n)), some (.int (pm p)), o8] [] (mdG G m V (va_up A 12 f)) = az_rn sc iX6_search 89 [some (.ref m), some (.int (nI i)), some (.int (nI j)), some (.int wn), some (.int bs), some (.int (nI 576)), some (.int (nI n)), some (.int (nI (tK (Tb i) - 1))), some (.int v8)] [] (mdG G m V' (va_up A 12 f'))) ∧ (sr (Tb i) (Tb j) e p v tr g).1 ≤ 2 := by
  have h8 := h.2.1
  have hw := h.w hi
  have hwu := h.w hj
  have hk := hw.k24
  have hku := hwu.k24
  have hn6 := hw.n6
  have hu6 := hwu.n6
  have hnk := hw.nk
  have hn1 := hw.n1
  have mt : ∀ (V : Nat → Int32) (f : Nat → Int32), V 0 = V0 0 → mT V (va_up A 12 f) nt Tb := fun V f h0 => mT_V (mT_A h (fun r hr => up_n _ _ (by omega))) h0
  intro e
  induction e with
  | zero => intro p v tr g o8 V f h; omega
  | succ e ih =>
    intro p v tr g o8 V f he htr hp hV h3 hf hv hg
    match p, he, hp, hv, hg with
    | 0, he, hp, hv, hg =>
      refine ⟨V, f, hV, h3, hf, fun _ => ?_, fun z => absurd z (show ¬ (0 : Nat) = 1 by omega), fun z => absurd z (show ¬ (0 : Nat) = 2 by omega), Nat.zero_le _⟩
      rw [bX6_search_27, if_pos (show pm 0 < (0 : Int32) by decide)]
      by_cases hb : bs = 0
      · rw [if_pos hb, if_pos hb]
      · rw [if_neg hb, if_neg hb]
    | q + 1, he, hp, hv, hg =>
      obtain ⟨hv1, hv2⟩ := hv q rfl
      have hglu := gl_le (T := Tb i) hwu q
      have hq : q < tK (Tb i) := hp
      have esr : sr (Tb i) (Tb j) (e + 1) (q + 1) v tr g = if gl (Tb i) (Tb j) q ≤ v then sr (Tb i) (Tb j) e q (g (q - 1) + 1) tr g else if 60000 ≤ tr then (1, tr, g) else if q < tN (Tb i) ∨ fB (Tb i) (Tb j) (va_up g q v) q = true then (if q + 1 < tK (Tb i) then sr (Tb i) (Tb j) e (q + 2) 0 (tr + 1) (va_up g q v) else (2, tr + 1, va_up g q v)) else sr (Tb i) (Tb j) e (q + 1) (v + 1) (tr + 1) (va_up g q v) := rfl
      have hg2 : ∀ a, a ≤ q → v < gl (Tb i) (Tb j) q → upd f (576 + q) (nI v) (576 + a) = nI (va_up g q v a) ∧ va_up g q v a < gl (Tb i) (Tb j) a := by
        intro a ha hvl
        by_cases e1 : a = q
        · subst e1
          rw [upd_s, up_s]
          exact ⟨rfl, hvl⟩
        · rw [upd_n _ _ (by omega), up_n _ _ e1]
          exact hg a (by omega)
      have hf2 : ∀ z, z < 576 → upd f (576 + q) (nI v) z = A 12 z := fun z hz => by
        rw [upd_n _ _ (by omega)]; exact hf z hz
      have m1 := mt V f (hV 0 (by omega))
      have m2 := mt V (upd f (576 + q) (nI v)) (hV 0 (by omega))
      have m3 := mt (va_up V 2 (nI (tr + 1))) (upd f (576 + q) (nI v)) ((up_n _ _ (by omega)).trans (hV 0 (by omega)))
      by_cases hqn : q < tN (Tb i)
      · skip
        have egl : gl (Tb i) (Tb j) q = tN (Tb j) := if_pos hqn
        rw [egl] at hv1 hg2
        rw [esr, egl]
        by_cases c1 : tN (Tb j) ≤ v
        · rw [if_pos c1]
          obtain ⟨V', f', k1, k2, k3, k4, k5, k6, k7⟩ := ih q (g (q - 1) + 1) tr g (some (.int (nI (tN (Tb j))))) V (upd f (576 + q) (nI v)) (by omega) htr (by omega) hV h3 hf2 (fun q' e1 => by
            subst e1
            obtain ⟨b1, b2⟩ := hg q' (by omega)
            rw [upd_n _ _ (by omega), Nat.add_sub_cancel, b1, nI_1]
            exact ⟨b2, rfl⟩) (fun a ha => by
            rw [upd_n _ _ (by omega)]
            exact hg a (by omega))
          have run : az_rn sc iX6_search 27 [some (.ref m), some (.int (nI i)), some (.int (nI j)), some (.int wn), some (.int bs), some (.int (nI 576)), some (.int (nI n)), some (.int (nI q)), o8] [] (mdG G m V (va_up A 12 f)) = az_rn sc iX6_search 27 [some (.ref m), some (.int (nI i)), some (.int (nI j)), some (.int wn), some (.int bs), some (.int (nI 576)), some (.int (nI n)), some (.int (pm q)), some (.int (nI (tN (Tb j))))] [] (mdG G m V (va_up A 12 (upd f (576 + q) (nI v)))) := by
            rw [bX6_search_27, if_neg (nI_nlt0 (show q < 2 ^ 31 by omega)), md_r13, nI_add, md_a12 (by omega), up_s, hv2, md_s12 (by omega), up_s, up_up, md_r1, md_a1 (by omega), m2.o hi, if_neg (nI_ge hqn (by omega)), md_r1, md_a1 (by omega), m2.o hj, md_r13, md_a12 (by omega), up_s, upd_s, ite_nnI (by omega) (by omega), if_neg (fun z => z (show v = tN (Tb j) by omega)), pm_a]
          refine ⟨V', f', k1, k2, k3, fun z => run.trans (k4 z), fun z => run.trans (k5 z), fun z => ⟨(k6 z).1, ?_⟩, k7⟩
          obtain ⟨v8, e8⟩ := (k6 z).2
          exact ⟨v8, run.trans e8⟩
        · have c1' : v < tN (Tb j) := by omega
          rw [if_neg c1]
          by_cases c2 : 60000 ≤ tr
          · rw [if_pos c2]
            refine ⟨V, upd f (576 + q) (nI v), hV, h3, hf2, fun z => absurd z (show ¬ (1 : Nat) = 0 by omega), fun _ => ?_, fun z => absurd z (show ¬ (1 : Nat) = 2 by omega), by show 1 ≤ 2; omega⟩
            show az_rn sc iX6_search 27 [some (.ref m), some (.int (nI i)), some (.int (nI j)), some (.int wn), some (.int bs), some (.int (nI 576)), some (.int (nI n)), some (.int (nI q)), o8] [] (mdG G m V (va_up A 12 f)) = _
            rw [bX6_search_27, if_neg (nI_nlt0 (show q < 2 ^ 31 by omega)), md_r13, nI_add, md_a12 (by omega), up_s, hv2, md_s12 (by omega), up_s, up_up, md_r1, md_a1 (by omega), m2.o hi, if_neg (nI_ge hqn (by omega)), md_r1, md_a1 (by omega), m2.o hj, md_r13, md_a12 (by omega), up_s, upd_s, ite_nnI (by omega) (by omega), if_pos (show ¬ v = tN (Tb j) by omega), md_i14, h3, lit60, ite_nnI (by omega) (by omega), if_neg (fun z => z (show tr = 60000 by omega))]
          · rw [if_neg c2]
            have m4 := mt (va_up V 2 (nI (tr + 1))) (upd (upd f (576 + q) (nI v)) (576 + (q + 1)) (-1)) ((up_n _ _ (by omega)).trans (hV 0 (by omega)))
            clear m4
            by_cases c3 : q < tN (Tb i) ∨ fB (Tb i) (Tb j) (va_up g q v) q = true
            · rw [if_pos c3]
              have run : az_rn sc iX6_search 27 [some (.ref m), some (.int (nI i)), some (.int (nI j)), some (.int wn), some (.int bs), some (.int (nI 576)), some (.int (nI n)), some (.int (nI q)), o8] [] (mdG G m V (va_up A 12 f)) = az_rn sc iX6_search 89 [some (.ref m), some (.int (nI i)), some (.int (nI j)), some (.int wn), some (.int bs), some (.int (nI 576)), some (.int (nI n)), some (.int (nI q)), some (.int (nI (tN (Tb j))))] [] (mdG G m (va_up V 2 (nI (tr + 1))) (va_up A 12 (upd f (576 + q) (nI v)))) := by
                rw [bX6_search_27, if_neg (nI_nlt0 (show q < 2 ^ 31 by omega)), md_r13, nI_add, md_a12 (by omega), up_s, hv2, md_s12 (by omega), up_s, up_up, md_r1, md_a1 (by omega), m2.o hi, if_neg (nI_ge hqn (by omega)), md_r1, md_a1 (by omega), m2.o hj, md_r13, md_a12 (by omega), up_s, upd_s, ite_nnI (by omega) (by omega), if_pos (show ¬ v = tN (Tb j) by omega), md_i14, h3, lit60, ite_nnI (by omega) (by omega), if_pos (show ¬ tr = 60000 by omega), md_i14, h3, nI_1, md_p14, md_r1, md_a1 (by omega), m3.o hi, if_pos (nI_lt hqn (by omega))]
              by_cases c4 : q + 1 < tK (Tb i)
              · rw [if_pos c4]
                obtain ⟨V', f', k1, k2, k3, k4, k5, k6, k7⟩ := ih (q + 2) 0 (tr + 1) (va_up g q v) (some (.int (nI (tN (Tb j))))) (va_up V 2 (nI (tr + 1))) (upd (upd f (576 + q) (nI v)) (576 + (q + 1)) (-1)) (by omega) (by omega) (by omega) (fun r a3 => by rw [up_n _ _ a3]; exact hV r a3) (up_s _ _ _) (fun z hz => by rw [upd_n _ _ (by omega)]; exact hf2 z hz) (fun q' e1 => by
                  have e2 : q' = q + 1 := by omega
                  subst e2
                  exact ⟨Nat.zero_le _, by rw [upd_s]; decide⟩) (fun a ha => by
                  rw [upd_n _ _ (by omega)]
                  exact hg2 a (by omega) c1')
                have run2 : az_rn sc iX6_search 89 [some (.ref m), some (.int (nI i)), some (.int (nI j)), some (.int wn), some (.int bs), some (.int (nI 576)), some (.int (nI n)), some (.int (nI q)), some (.int (nI (tN (Tb j))))] [] (mdG G m (va_up V 2 (nI (tr + 1))) (va_up A 12 (upd f (576 + q) (nI v)))) = az_rn sc iX6_search 27 [some (.ref m), some (.int (nI i)), some (.int (nI j)), some (.int wn), some (.int bs), some (.int (nI 576)), some (.int (nI n)), some (.int (pm (q + 2))), some (.int (nI (tN (Tb j))))] [] (mdG G m (va_up V 2 (nI (tr + 1))) (va_up A 12 (upd (upd f (576 + q) (nI v)) (576 + (q + 1)) (-1)))) := by
                  rw [bX6_search_89, md_r2, md_a2 (by omega), m3.a hi, show (1 : Int32) = nI 1 from rfl, pk_sub (by omega), if_neg (nI_ge (show q < tK (Tb i) - 1 by omega) (by omega)), md_r13, nI_add, nI_add, md_s12 (by omega), up_s, up_up]
                  rfl
                refine ⟨V', f', k1, k2, k3, fun z => run.trans (run2.trans (k4 z)), fun z => run.trans (run2.trans (k5 z)), fun z => ⟨(k6 z).1, ?_⟩, k7⟩
                obtain ⟨v8, e8⟩ := (k6 z).2
                exact ⟨v8, run.trans (run2.trans e8)⟩
              · rw [if_neg c4]
                have eqk : q = tK (Tb i) - 1 := by omega
                refine ⟨va_up V 2 (nI (tr + 1)), upd f (576 + q) (nI v), fun r a3 => ?_, up_s _ _ _, hf2, fun z => absurd z (show ¬ (2 : Nat) = 0 by omega), fun z => absurd z (show ¬ (2 : Nat) = 1 by omega), fun _ => ⟨fun a ha => hg2 a (by omega) c1', nI (tN (Tb j)), ?_⟩, Nat.le_refl _⟩
                · rw [up_n _ _ a3]; exact hV r a3
                · refine run.trans ?_
                  rw [← eqk]
            · exact absurd (Or.inl hqn) c3
      · skip
        have egl : gl (Tb i) (Tb j) q = tK (Tb j) := if_neg hqn
        rw [egl] at hv1 hg2
        rw [esr, egl]
        by_cases c1 : tK (Tb j) ≤ v
        · rw [if_pos c1]
          obtain ⟨V', f', k1, k2, k3, k4, k5, k6, k7⟩ := ih q (g (q - 1) + 1) tr g (some (.int (nI (tK (Tb j))))) V (upd f (576 + q) (nI v)) (by omega) htr (by omega) hV h3 hf2 (fun q' e1 => by
            subst e1
            obtain ⟨b1, b2⟩ := hg q' (by omega)
            rw [upd_n _ _ (by omega), Nat.add_sub_cancel, b1, nI_1]
            exact ⟨b2, rfl⟩) (fun a ha => by
            rw [upd_n _ _ (by omega)]
            exact hg a (by omega))
          have run : az_rn sc iX6_search 27 [some (.ref m), some (.int (nI i)), some (.int (nI j)), some (.int wn), some (.int bs), some (.int (nI 576)), some (.int (nI n)), some (.int (nI q)), o8] [] (mdG G m V (va_up A 12 f)) = az_rn sc iX6_search 27 [some (.ref m), some (.int (nI i)), some (.int (nI j)), some (.int wn), some (.int bs), some (.int (nI 576)), some (.int (nI n)), some (.int (pm q)), some (.int (nI (tK (Tb j))))] [] (mdG G m V (va_up A 12 (upd f (576 + q) (nI v)))) := by
            rw [bX6_search_27, if_neg (nI_nlt0 (show q < 2 ^ 31 by omega)), md_r13, nI_add, md_a12 (by omega), up_s, hv2, md_s12 (by omega), up_s, up_up, md_r1, md_a1 (by omega), m2.o hi, if_pos (nI_le (by omega) (by omega)), md_r2, md_a2 (by omega), m2.a hj, md_r13, md_a12 (by omega), up_s, upd_s, ite_nnI (by omega) (by omega), if_neg (fun z => z (show v = tK (Tb j) by omega)), pm_a]
          refine ⟨V', f', k1, k2, k3, fun z => run.trans (k4 z), fun z => run.trans (k5 z), fun z => ⟨(k6 z).1, ?_⟩, k7⟩
          obtain ⟨v8, e8⟩ := (k6 z).2
          exact ⟨v8, run.trans e8⟩
        · have c1' : v < tK (Tb j) := by omega
          rw [if_neg c1]
          by_cases c2 : 60000 ≤ tr
          · rw [if_pos c2]
            refine ⟨V, upd f (576 + q) (nI v), hV, h3, hf2, fun z => absurd z (show ¬ (1 : Nat) = 0 by omega), fun _ => ?_, fun z => absurd z (show ¬ (1 : Nat) = 2 by omega), by show 1 ≤ 2; omega⟩
            show az_rn sc iX6_search 27 [some (.ref m), some (.int (nI i)), some (.int (nI j)), some (.int wn), some (.int bs), some (.int (nI 576)), some (.int (nI n)), some (.int (nI q)), o8] [] (mdG G m V (va_up A 12 f)) = _
            rw [bX6_search_27, if_neg (nI_nlt0 (show q < 2 ^ 31 by omega)), md_r13, nI_add, md_a12 (by omega), up_s, hv2, md_s12 (by omega), up_s, up_up, md_r1, md_a1 (by omega), m2.o hi, if_pos (nI_le (by omega) (by omega)), md_r2, md_a2 (by omega), m2.a hj, md_r13, md_a12 (by omega), up_s, upd_s, ite_nnI (by omega) (by omega), if_pos (show ¬ v = tK (Tb j) by omega), md_i14, h3, lit60, ite_nnI (by omega) (by omega), if_neg (fun z => z (show tr = 60000 by omega))]
          · rw [if_neg c2]
            have m4 := mt (va_up V 2 (nI (tr + 1))) (upd (upd f (576 + q) (nI v)) (576 + (q + 1)) (-1)) ((up_n _ _ (by omega)).trans (hV 0 (by omega)))
            have hfit : az_ca sc iX6_isKept [.ref m, .int (nI i), .int (nI j), .int (nI q)] (mdG G m (va_up V 2 (nI (tr + 1))) (va_up A 12 (upd f (576 + q) (nI v)))) = some (some (.int (if fB (Tb i) (Tb j) (va_up g q v) q = true then 1 else 0)), mdG G m (va_up V 2 (nI (tr + 1))) (va_up A 12 (upd f (576 + q) (nI v)))) := m_isKept m3 hi ht hj hq (by omega) (ruR_4 hru (by omega) (by omega) (by omega)) (fun a ha => by
              obtain ⟨b1, b2⟩ := hg2 a ha c1'
              have b3 := gl_le (T := Tb i) hwu a
              rw [up_s]
              exact ⟨b1, by omega⟩)
            by_cases c3 : q < tN (Tb i) ∨ fB (Tb i) (Tb j) (va_up g q v) q = true
            · rw [if_pos c3]
              have run : az_rn sc iX6_search 27 [some (.ref m), some (.int (nI i)), some (.int (nI j)), some (.int wn), some (.int bs), some (.int (nI 576)), some (.int (nI n)), some (.int (nI q)), o8] [] (mdG G m V (va_up A 12 f)) = az_rn sc iX6_search 89 [some (.ref m), some (.int (nI i)), some (.int (nI j)), some (.int wn), some (.int bs), some (.int (nI 576)), some (.int (nI n)), some (.int (nI q)), some (.int (nI (tK (Tb j))))] [] (mdG G m (va_up V 2 (nI (tr + 1))) (va_up A 12 (upd f (576 + q) (nI v)))) := by
                rw [bX6_search_27, if_neg (nI_nlt0 (show q < 2 ^ 31 by omega)), md_r13, nI_add, md_a12 (by omega), up_s, hv2, md_s12 (by omega), up_s, up_up, md_r1, md_a1 (by omega), m2.o hi, if_pos (nI_le (by omega) (by omega)), md_r2, md_a2 (by omega), m2.a hj, md_r13, md_a12 (by omega), up_s, upd_s, ite_nnI (by omega) (by omega), if_pos (show ¬ v = tK (Tb j) by omega), md_i14, h3, lit60, ite_nnI (by omega) (by omega), if_pos (show ¬ tr = 60000 by omega), md_i14, h3, nI_1, md_p14, md_r1, md_a1 (by omega), m3.o hi, if_neg (fun z => hqn ((nI_ltI (by omega) (by omega)).mp z)), md_rc, hfit, bI_s, if_pos (c3.resolve_left hqn), if_neg (show ¬ (1 : Int32) = 0 by decide)]
              by_cases c4 : q + 1 < tK (Tb i)
              · rw [if_pos c4]
                obtain ⟨V', f', k1, k2, k3, k4, k5, k6, k7⟩ := ih (q + 2) 0 (tr + 1) (va_up g q v) (some (.int (nI (tK (Tb j))))) (va_up V 2 (nI (tr + 1))) (upd (upd f (576 + q) (nI v)) (576 + (q + 1)) (-1)) (by omega) (by omega) (by omega) (fun r a3 => by rw [up_n _ _ a3]; exact hV r a3) (up_s _ _ _) (fun z hz => by rw [upd_n _ _ (by omega)]; exact hf2 z hz) (fun q' e1 => by
                  have e2 : q' = q + 1 := by omega
                  subst e2
                  exact ⟨Nat.zero_le _, by rw [upd_s]; decide⟩) (fun a ha => by
                  rw [upd_n _ _ (by omega)]
                  exact hg2 a (by omega) c1')
                have run2 : az_rn sc iX6_search 89 [some (.ref m), some (.int (nI i)), some (.int (nI j)), some (.int wn), some (.int bs), some (.int (nI 576)), some (.int (nI n)), some (.int (nI q)), some (.int (nI (tK (Tb j))))] [] (mdG G m (va_up V 2 (nI (tr + 1))) (va_up A 12 (upd f (576 + q) (nI v)))) = az_rn sc iX6_search 27 [some (.ref m), some (.int (nI i)), some (.int (nI j)), some (.int wn), some (.int bs), some (.int (nI 576)), some (.int (nI n)), some (.int (pm (q + 2))), some (.int (nI (tK (Tb j))))] [] (mdG G m (va_up V 2 (nI (tr + 1))) (va_up A 12 (upd (upd f (576 + q) (nI v)) (576 + (q + 1)) (-1)))) := by
                  rw [bX6_search_89, md_r2, md_a2 (by omega), m3.a hi, show (1 : Int32) = nI 1 from rfl, pk_sub (by omega), if_neg (nI_ge (show q < tK (Tb i) - 1 by omega) (by omega)), md_r13, nI_add, nI_add, md_s12 (by omega), up_s, up_up]
                  rfl
                refine ⟨V', f', k1, k2, k3, fun z => run.trans (run2.trans (k4 z)), fun z => run.trans (run2.trans (k5 z)), fun z => ⟨(k6 z).1, ?_⟩, k7⟩
                obtain ⟨v8, e8⟩ := (k6 z).2
                exact ⟨v8, run.trans (run2.trans e8)⟩
              · rw [if_neg c4]
                have eqk : q = tK (Tb i) - 1 := by omega
                refine ⟨va_up V 2 (nI (tr + 1)), upd f (576 + q) (nI v), fun r a3 => ?_, up_s _ _ _, hf2, fun z => absurd z (show ¬ (2 : Nat) = 0 by omega), fun z => absurd z (show ¬ (2 : Nat) = 1 by omega), fun _ => ⟨fun a ha => hg2 a (by omega) c1', nI (tK (Tb j)), ?_⟩, Nat.le_refl _⟩
                · rw [up_n _ _ a3]; exact hV r a3
                · refine run.trans ?_
                  rw [← eqk]
            · rw [if_neg c3]
              obtain ⟨V', f', k1, k2, k3, k4, k5, k6, k7⟩ := ih (q + 1) (v + 1) (tr + 1) (va_up g q v) (some (.int (nI (tK (Tb j))))) (va_up V 2 (nI (tr + 1))) (upd f (576 + q) (nI v)) (by omega) (by omega) (by omega) (fun r a3 => by rw [up_n _ _ a3]; exact hV r a3) (up_s _ _ _) hf2 (fun q' e1 => by
                have e2 : q' = q := by omega
                subst e2
                exact ⟨by omega, by rw [upd_s, nI_1]⟩) (fun a ha => hg2 a (by omega) c1')
              have run : az_rn sc iX6_search 27 [some (.ref m), some (.int (nI i)), some (.int (nI j)), some (.int wn), some (.int bs), some (.int (nI 576)), some (.int (nI n)), some (.int (nI q)), o8] [] (mdG G m V (va_up A 12 f)) = az_rn sc iX6_search 27 [some (.ref m), some (.int (nI i)), some (.int (nI j)), some (.int wn), some (.int bs), some (.int (nI 576)), some (.int (nI n)), some (.int (pm (q + 1))), some (.int (nI (tK (Tb j))))] [] (mdG G m (va_up V 2 (nI (tr + 1))) (va_up A 12 (upd f (576 + q) (nI v)))) := by
                rw [bX6_search_27, if_neg (nI_nlt0 (show q < 2 ^ 31 by omega)), md_r13, nI_add, md_a12 (by omega), up_s, hv2, md_s12 (by omega), up_s, up_up, md_r1, md_a1 (by omega), m2.o hi, if_pos (nI_le (by omega) (by omega)), md_r2, md_a2 (by omega), m2.a hj, md_r13, md_a12 (by omega), up_s, upd_s, ite_nnI (by omega) (by omega), if_pos (show ¬ v = tK (Tb j) by omega), md_i14, h3, lit60, ite_nnI (by omega) (by omega), if_pos (show ¬ tr = 60000 by omega), md_i14, h3, nI_1, md_p14, md_r1, md_a1 (by omega), m3.o hi, if_neg (fun z => hqn ((nI_ltI (by omega) (by omega)).mp z)), md_rc, hfit, bI_s, if_neg (fun z => c3 (Or.inr z)), if_pos (show (0 : Int32) = 0 from rfl)]
                rfl
              refine ⟨V', f', k1, k2, k3, fun z => run.trans (k4 z), fun z => run.trans (k5 z), fun z => ⟨(k6 z).1, ?_⟩, k7⟩
              obtain ⟨v8, e8⟩ := (k6 z).2
              exact ⟨v8, run.trans e8⟩
end SRCH
