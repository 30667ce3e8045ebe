/-! OPERATIONS cones, limit: the class gathers -/
section LIMB
variable {sc : az_S} {G G1 : az_H} {B x m u : Nat} {V Vm : Nat → Int32} {A Am : Nat → Nat → Int32} {R : Nat → Nat → Option Nat} {S : wS} {ti ci : Nat → Nat} {i : Nat} {U : tb} {n : Nat} {s : coS}
theorem s_coAdd {q : Nat} {r : Nat → Nat} (hV : V 6 = nI (cz s)) (hz : cz s < 384) (hn : n ≤ 6) (hc : coR 15 16 A n s) (h9 : ∀ y, y < n → A 9 y = nI (r y)) : ∃ A', az_ca sc iX1_add [.ref (x + 14), .int (nI q), .ref (x + 9), .int (nI n)] (clG G x V A R) = some (none, clG G x (va_up V 6 (nI (cz s + 1))) A' R) ∧ (∀ r, r ≠ 15 → r ≠ 16 → A' r = A r) ∧ coR 15 16 A' n (cAdd n s q r) := by
  have loop : ∀ d y f, y + d = n → (∀ k y', k < cz s → y' < n → f (6 * k + y') = nI (cl s (6 * k + y'))) → (∀ y', y' < y → f (6 * cz s + y') = nI (r y')) → ∃ f', az_rn sc iX1_add 13 [some (.ref (x + 14)), some (.int (nI q)), some (.ref (x + 9)), some (.int (nI n)), some (.int (nI y))] [] (clG G x V (va_up (va_up A 15 (upd (A 15) (cz s) (nI q))) 16 f) R) = some (none, clG G x (va_up V 6 (nI (cz s + 1))) (va_up (va_up A 15 (upd (A 15) (cz s) (nI q))) 16 f') R) ∧ (∀ k y', k < cz s → y' < n → f' (6 * k + y') = nI (cl s (6 * k + y'))) ∧ (∀ y', y' < n → f' (6 * cz s + y') = nI (r y')) := by
    intro d
    induction d with
    | zero =>
      intro y f hy h1 h2
      have e : y = n := by omega
      subst e
      refine ⟨f, ?_, h1, h2⟩
      rw [bX1_add_13, if_pos (nI_le (Nat.le_refl _) (by omega)), cl14_i0, hV, cl14_p0, nI_1]
    | succ d ih =>
      intro y f hy h1 h2
      have hyn : y < n := by omega
      rw [bX1_add_13, if_neg (nI_ge hyn (by omega)), cl14_r2, cl14_i0, hV, s_read cl_c9 (by omega) (by omega), bI_s, up_n _ _ (show 9 ≠ 16 by omega), up_n _ _ (show 9 ≠ 15 by omega), h9 y hyn, nI_m6, s_write cl_c16 (by omega) (by omega), bV_s, cl_u16, up_s, up_up, nI_1]
      refine ih (y + 1) _ (by omega) (fun k y' hk hy' => ?_) (fun y' hy' => ?_)
      · rw [upd_n _ _ (by omega)]
        exact h1 k y' hk hy'
      · by_cases e : y' = y
        · subst e
          exact upd_s _ _ _
        · rw [upd_n _ _ (by omega)]
          exact h2 y' (by omega)
  obtain ⟨f', q1, q2, q3⟩ := loop n 0 (A 16) (by omega) hc.2 (fun y hy => absurd hy (Nat.not_lt_zero _))
  refine ⟨va_up (va_up A 15 (upd (A 15) (cz s) (nI q))) 16 f', ?_, fun r r1 r2 => ?_, coR_add (f15 := upd (A 15) (cz s) (nI q)) (f16 := f') hn (fun k hk => ?_) (upd_s _ _ _) q2 q3 ?_ (up_s _ _ _)⟩
  · have e16 : va_up (va_up A 15 (upd (A 15) (cz s) (nI q))) 16 (A 16) = va_up A 15 (upd (A 15) (cz s) (nI q)) := by
      have e0 : A 16 = va_up A 15 (upd (A 15) (cz s) (nI q)) 16 := (up_n _ _ (by omega)).symm
      rw [e0, up_id]
    rw [e16] at q1
    rw [eX1_add, cl14_i0, hV, if_pos (show nI (cz s) < (384 : Int32) from (show nI (cz s) < nI 384 from nI_lt hz (by omega))), cl14_r1, cl14_i0, hV, s_write cl_c15 (by omega) (by omega), bV_s, cl_u15]
    exact q1
  · rw [up_n _ _ r2, up_n _ _ r1]
  · rw [upd_n _ _ (by omega)]
    exact hc.1 k hk
  · rw [up_n _ _ (show 15 ≠ 16 by omega), up_s]
/-- the class gathers all cones with one object -/
theorem s_gathQ (h : iC G B V A R S ti ci) (hB : x + 22 ≤ B) (hS : wW S) (hi : i < sM S) {q : Nat} (hq : q < tN (sT S (cB S i))) (h19 : ∀ a, a < 24 → A 19 a = nI q) : ∀ d k r s V1 A1, k + d = coPr S i q → cz s + d ≤ 384 → (∀ r, r ≠ 6 → V1 r = V r) → V1 6 = nI (cz s) → (∀ r, r < 9 ∨ 16 < r → A1 r = A r) → coR 15 16 A1 (tN (sT S (cA S i))) s → layR A1 (coP S i q) (tK (sT S (cB S i))) (tN (sT S (cA S i))) → (0 < d → okR (coP S i q) (tK (sT S (cB S i))) (tN (sT S (cA S i))) r ∧ vl (coP S i q) (tK (sT S (cB S i))) r (tN (sT S (cA S i))) = k ∧ ∀ y, y < tN (sT S (cA S i)) → A1 13 y = nI (ctB (coP S i q y) (r y))) → ∃ V' A', az_rn sc iX5_gatherCones 18 [some (.ref x), some (.ref (ci i)), some (.int (nI q)), some (.int (nI (coPr S i q))), some (.int (nI k))] [] (clG G x V1 A1 R) = az_rn sc iX5_gatherCones 6 [some (.ref x), some (.ref (ci i)), some (.int (nI (q + 1))), some (.int (nI (coPr S i q))), some (.int (nI (coPr S i q)))] [] (clG G x V' A' R) ∧ (∀ r, r ≠ 6 → V' r = V r) ∧ V' 6 = nI (cz (gc (coP S i q) (tK (sT S (cB S i))) (tN (sT S (cA S i))) (hbB (sT S (cA S i)) (sT S (cB S i)) (fun _ => q) (cg S i)) q d r s)) ∧ (∀ r, r < 9 ∨ 16 < r → A' r = A r) ∧ coR 15 16 A' (tN (sT S (cA S i))) (gc (coP S i q) (tK (sT S (cB S i))) (tN (sT S (cA S i))) (hbB (sT S (cA S i)) (sT S (cB S i)) (fun _ => q) (cg S i)) q d r s) := by
  have ca := hS.ca hi
  have cb := hS.cb hi
  have cI : ∀ V' A', crC (clG G x V' A' R) (ci i) (cA S i) (cB S i) (ti (cA S i)) (ti (cB S i)) (cR S i) := fun V' A' => h.car hB hi V' A' R
  have hT : ∀ V' A', tbC (clG G x V' A' R) (ti (cA S i)) (sT S (cA S i)) := fun V' A' => h.tabc hB ca V' A' R
  have hU : ∀ V' A', tbC (clG G x V' A' R) (ti (cB S i)) (sT S (cB S i)) := fun V' A' => h.tabc hB cb V' A' R
  have hw := hS.tw ca
  have hwu := hS.tw cb
  have hku := hwu.k24
  have hk := hw.k24
  have hn6 := hw.n6
  have hnu := hwu.nk
  have hl := hS.hl hi
  have hpr := coPr_lt hS hi q
  have e24 : tK (sT S (cA S i)) ≤ 24 := hk
  intro d
  induction d with
  | zero =>
    intro k r s V1 A1 hk' hz hV1 hV6 hA1 hc hlay hok
    have e : k = coPr S i q := by omega
    subst e
    refine ⟨V1, A1, ?_, hV1, hV6, hA1, hc⟩
    rw [bX5_gatherCones_18, if_pos (nI_le (Nat.le_refl _) (by omega)), nI_1]
  | succ d ih =>
    intro k r s V1 A1 hk' hz hV1 hV6 hA1 hc hlay hok
    obtain ⟨o1, o2, o3⟩ := hok (Nat.succ_pos _)
    obtain ⟨n1, n2, n3⟩ := od_ok (coP S i q) (tK (sT S (cB S i))) (tN (sT S (cA S i))) r o1
    have nx : 0 < d → (od (coP S i q) (tK (sT S (cB S i))) (tN (sT S (cA S i))) r).2 = false := by
      intro hd
      cases hz : (od (coP S i q) (tK (sT S (cB S i))) (tN (sT S (cA S i))) r).2 with
      | false => rfl
      | true =>
        have := n3 hz
        have e : prd (coP S i q) (tK (sT S (cB S i))) (tN (sT S (cA S i))) = coPr S i q := rfl
        omega
    obtain ⟨f9, c1, c2⟩ := s_choose (sc := sc) (G := G) (x := x) (V := V1) (R := R) (A := A1) hn6 hku hlay o1 o3
    have a19 : va_up A1 9 f9 19 = A 19 := (up_n _ _ (by omega)).trans (hA1 19 (by omega))
    have hh1 := s_holds (sc := sc) (G := G) (x := x) (V := V1) (R := R) (A := va_up A1 9 f9) (rl := x + 19) (rh := ci i + 1) (lor := A 19) (hT _ _) hw (hU _ _) hwu (by rw [cl_c19, a19]) (cI _ _).2 (l := fun _ => q) (fun a ha => ⟨h19 a (by omega), by omega⟩) hl (r := r) (fun y hy => by
      rw [up_s]
      exact ⟨c2 y hy, (o1 y hy).2⟩)
    have l2 : layR (va_up A1 9 f9) (coP S i q) (tK (sT S (cB S i))) (tN (sT S (cA S i))) := fun y hy => by
      rw [up_n _ _ (show 12 ≠ 9 by omega), up_n _ _ (show 11 ≠ 9 by omega)]
      exact hlay y hy
    have hc9 : coR 15 16 (va_up A1 9 f9) (tN (sT S (cA S i))) s := by
      refine ⟨fun k hk => ?_, fun k y hk hy => ?_⟩
      · rw [up_n _ _ (show 15 ≠ 9 by omega)]
        exact hc.1 k hk
      · rw [up_n _ _ (show 16 ≠ 9 by omega)]
        exact hc.2 k y hk hy
    rw [bX5_gatherCones_18, if_neg (nI_ge (show k < coPr S i q by omega) (by omega)), cl0_r3, cr_f2 (cI _ _), tb_f0 (hT _ _), cl_rc8, c1, bV_s, cl0_r3, cr_f2 (cI _ _), cr_f3 (cI _ _), cl0_r7, cr_f4 (cI _ _), cl_rc8, hh1, bI_s, gc_s, nI_1]
    by_cases hb : hbB (sT S (cA S i)) (sT S (cB S i)) (fun _ => q) (cg S i) r = true
    · obtain ⟨A2, w1, w2, w3⟩ := s_coAdd (sc := sc) (G := G) (x := x) (V := V1) (R := R) (A := va_up A1 9 f9) (q := q) (r := r) hV6 (by omega) hn6 hc9 (fun y hy => by rw [up_s]; exact c2 y hy)
      have l3 : layR A2 (coP S i q) (tK (sT S (cB S i))) (tN (sT S (cA S i))) := fun y hy => by
        rw [w2 12 (by omega) (by omega), w2 11 (by omega) (by omega)]
        exact l2 y hy
      obtain ⟨fs', s1, s2⟩ := s_step (sc := sc) (G := G) (x := x) (V := va_up V1 6 (nI (cz s + 1))) (R := R) (A := A2) (p := coP S i q) (K := tK (sT S (cB S i))) (n := tN (sT S (cA S i))) hn6 hku l3 o1 (fun y hy => by
        rw [w2 13 (by omega) (by omega), up_n _ _ (show 13 ≠ 9 by omega)]
        exact o3 y hy)
      obtain ⟨V', A', q1, q2, q3, q4, q5⟩ := ih (k + 1) (od (coP S i q) (tK (sT S (cB S i))) (tN (sT S (cA S i))) r).1 (cAdd (tN (sT S (cA S i))) s q r) (va_up V1 6 (nI (cz s + 1))) (va_up A2 13 fs') (by omega) (by show cz s + 1 + d ≤ 384; omega) (fun r hr => by rw [up_n _ _ hr]; exact hV1 r hr) (up_s _ _ _) (fun r hr => by
        rw [up_n _ _ (by omega), w2 r (by omega) (by omega), up_n _ _ (by omega)]
        exact hA1 r hr) ⟨fun k hk => by
        rw [up_n _ _ (show 15 ≠ 13 by omega)]
        exact w3.1 k hk, fun k y hk hy => by
        rw [up_n _ _ (show 16 ≠ 13 by omega)]
        exact w3.2 k y hk hy⟩ (fun y hy => by
        rw [up_n _ _ (show 12 ≠ 13 by omega), up_n _ _ (show 11 ≠ 13 by omega)]
        exact l3 y hy) (fun hd => ⟨n1, by rw [n2 (nx hd), o2], fun y hy => by rw [up_s]; exact s2 y hy⟩)
      rw [if_pos hb, if_neg (show ¬ (1 : Int32) = 0 by decide), if_pos hb, cl0_r4, cl0_r3, cl8_r0, cr_f2 (cI _ _), tb_f0 (hT _ _), cl_rc14, w1, bV_s, cl0_r3, cr_f2 (cI _ _), tb_f0 (hT _ _), cl_rc8, s1, bV_s]
      exact ⟨V', A', q1, q2, q3, q4, q5⟩
    · obtain ⟨fs', s1, s2⟩ := s_step (sc := sc) (G := G) (x := x) (V := V1) (R := R) (A := va_up A1 9 f9) (p := coP S i q) (K := tK (sT S (cB S i))) (n := tN (sT S (cA S i))) hn6 hku l2 o1 (fun y hy => by
        rw [up_n _ _ (show 13 ≠ 9 by omega)]
        exact o3 y hy)
      obtain ⟨V', A', q1, q2, q3, q4, q5⟩ := ih (k + 1) (od (coP S i q) (tK (sT S (cB S i))) (tN (sT S (cA S i))) r).1 s V1 (va_up (va_up A1 9 f9) 13 fs') (by omega) (by omega) hV1 hV6 (fun r hr => by
        rw [up_n _ _ (by omega), up_n _ _ (by omega)]
        exact hA1 r hr) ⟨fun k hk => by
        rw [up_n _ _ (show 15 ≠ 13 by omega)]
        exact hc9.1 k hk, fun k y hk hy => by
        rw [up_n _ _ (show 16 ≠ 13 by omega)]
        exact hc9.2 k y hk hy⟩ (fun y hy => by
        rw [up_n _ _ (show 12 ≠ 13 by omega), up_n _ _ (show 11 ≠ 13 by omega)]
        exact l2 y hy) (fun hd => ⟨n1, by rw [n2 (nx hd), o2], fun y hy => by rw [up_s]; exact s2 y hy⟩)
      rw [if_neg hb, if_pos (show (0 : Int32) = 0 from rfl), if_neg hb, cl0_r3, cr_f2 (cI _ _), tb_f0 (hT _ _), cl_rc8, s1, bV_s]
      exact ⟨V', A', q1, q2, q3, q4, q5⟩
theorem iC_A9b {V' : Nat → Int32} (h : iC G B V A R S ti ci) {A' : Nat → Nat → Int32} (hV : ∀ r, r ≠ 6 → V' r = V r) (hA : ∀ r, r < 9 ∨ 19 < r → A' r = A r) : iC G B V' A' R S ti ci := iC_A h (hA 22 (by omega)) (hV 0 (by omega)) (hV 1 (by omega)) (hV 2 (by omega)) (hV 3 (by omega))
theorem s_gatherCones (h : iC G B V A R S ti ci) (hB : x + 22 ≤ B) (hS : wW S) (hi : i < sM S) (h64 : ∀ q, q < tN (sT S (cB S i)) → coPr S i q ≤ 64) : ∃ V' A', az_ca sc iX5_gatherCones [.ref x, .ref (ci i)] (clG G x V A R) = some (none, clG G x V' A' R) ∧ (∀ r, r ≠ 6 → V' r = V r) ∧ V' 6 = nI (cz (gcA S i (tN (sT S (cB S i))))) ∧ (∀ r, r < 9 ∨ 19 < r → A' r = A r) ∧ coR 15 16 A' (tN (sT S (cA S i))) (gcA S i (tN (sT S (cB S i)))) := by
  have cb := hS.cb hi
  have hwu := hS.tw cb
  have hu6 := hwu.n6
  have cI : ∀ V' A', crC (clG G x V' A' R) (ci i) (cA S i) (cB S i) (ti (cA S i)) (ti (cB S i)) (cR S i) := fun V' A' => h.car hB hi V' A' R
  have hU : ∀ V' A', tbC (clG G x V' A' R) (ti (cB S i)) (sT S (cB S i)) := fun V' A' => h.tabc hB cb V' A' R
  have loop : ∀ d q (o3 o4 : Option Value) V1 A1, q + d = tN (sT S (cB S i)) → (∀ r, r ≠ 6 → V1 r = V r) → V1 6 = nI (cz (gcA S i q)) → (∀ r, r < 9 ∨ 19 < r → A1 r = A r) → coR 15 16 A1 (tN (sT S (cA S i))) (gcA S i q) → ∃ V' A', az_rn sc iX5_gatherCones 6 [some (.ref x), some (.ref (ci i)), some (.int (nI q)), o3, o4] [] (clG G x V1 A1 R) = some (none, clG G x V' A' R) ∧ (∀ r, r ≠ 6 → V' r = V r) ∧ V' 6 = nI (cz (gcA S i (tN (sT S (cB S i))))) ∧ (∀ r, r < 9 ∨ 19 < r → A' r = A r) ∧ coR 15 16 A' (tN (sT S (cA S i))) (gcA S i (tN (sT S (cB S i)))) := by
    intro d
    induction d with
    | zero =>
      intro q o3 o4 V1 A1 hq h1 h2 h3 h4
      have e : q = tN (sT S (cB S i)) := by omega
      subst e
      refine ⟨V1, A1, ?_, h1, h2, h3, h4⟩
      rw [bX5_gatherCones_6, cr_f3 (cI _ _), tb_f0 (hU _ _), if_pos (nI_le (Nat.le_refl _) (by omega))]
    | succ d ih =>
      intro q o3 o4 V1 A1 hq h1 h2 h3 h4
      have hqn : q < tN (sT S (cB S i)) := by omega
      have hC1 := iC_A9b h h1 h3
      obtain ⟨A2, w1, w2, w3, w4, w5⟩ := s_coneChances (sc := sc) (x := x) hC1 hB hS hi hqn
      have hC2 : iC G B V1 A2 R S ti ci := iC_A9b (V := V) h h1 (fun r hr => (w2 r (by omega) (by omega) (by omega) (by omega)).trans (h3 r hr))
      have hle := gcA_le (S := S) (i := i) (Q := q) (fun q' hq' => h64 q' (by omega))
      have h64q := h64 q hqn
      obtain ⟨V3, A3, g1, g2, g3, g4, g5⟩ := s_gathQ (sc := sc) (x := x) hC2 hB hS hi hqn w5 (coPr S i q) 0 (fun y => fs (coP S i q y) (tK (sT S (cB S i)))) (gcA S i q) V1 A2 (by omega) (by omega) (fun _ _ => rfl) h2 (fun _ _ => rfl) ⟨fun k hk => by rw [w2 15 (by omega) (by omega) (by omega) (by omega)]; exact h4.1 k hk, fun k y hk hy => by rw [w2 16 (by omega) (by omega) (by omega) (by omega)]; exact h4.2 k y hk hy⟩ w3 (fun hd => ⟨(coOk hd).2.1, (coOk hd).2.2, fun y hy => by
        rw [w4 y hy, (fs_ok ((coOk hd).1 y hy)).2.2.2]
        rfl⟩)
      obtain ⟨V', A', k1, k2⟩ := ih (q + 1) (some (.int (nI (coPr S i q)))) (some (.int (nI (coPr S i q)))) V3 A3 (by omega) (fun r hr => (g2 r hr).trans (h1 r hr)) g3 (fun r hr => ((g4 r (by omega)).trans (w2 r (by omega) (by omega) (by omega) (by omega))).trans (h3 r hr)) g5
      refine ⟨V', A', ?_, k2⟩
      rw [bX5_gatherCones_6, cr_f3 (cI _ _), tb_f0 (hU _ _), if_neg (nI_ge hqn (by omega)), cl_rc0, w1, bI_s]
      exact g1.trans k1
  obtain ⟨V', A', k1, k2⟩ := loop (tN (sT S (cB S i))) 0 none none (va_up V 6 0) A (by omega) (fun r hr => up_n _ _ hr) (up_s _ _ _) (fun _ _ => rfl) ⟨fun k hk => absurd hk (Nat.not_lt_zero _), fun k y hk _ => absurd hk (Nat.not_lt_zero _)⟩
  refine ⟨V', A', ?_, k2⟩
  rw [eX5_gatherCones, cl0_r4, cl14_p0]
  exact k1
end LIMB
