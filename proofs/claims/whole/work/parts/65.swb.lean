/-! THE SEARCH from its start to its end: the model's side, and 'same' -/
section SWB
variable {sc : az_S} {G : az_H} {x m t u E0 : Nat} {V0 : Nat → Int32} {A : Nat → Nat → Int32} {R : Nat → Nat → Option Nat} {T U : tb} {nt i j : Nat} {Tb : Nat → tb}
/-- the model's test of a find -/
def mStp (sc : az_S) (G : az_H) (m nt i j : Nat) (Tb : Nat → tb) (wn bs : Int32) (stp : Nat → (Nat → Nat) → Bool) : Prop := ∀ (n : Nat) (g : Nat → Nat) (V : Nat → Int32) (A' : Nat → Nat → Int32) (v8 : Int32), n ≤ 60000 → mT V A' nt Tb → A' 10 24 = nI i → A' 11 24 = nI j → (∀ a, a < tK (Tb i) → A' 12 (576 + a) = nI (g a) ∧ g a < tK (Tb j)) → az_rn sc iX6_search 89 [some (.ref m), some (.int (nI i)), some (.int (nI j)), some (.int wn), some (.int bs), some (.int (nI 576)), some (.int (nI n)), some (.int (nI (tK (Tb i) - 1))), some (.int v8)] [] (mdG G m V A') = if stp n g = true then some (some (.int (nI (n + 1))), mdG G m V A') else az_rn sc iX6_search 27 [some (.ref m), some (.int (nI i)), some (.int (nI j)), some (.int wn), some (.int bs), some (.int (nI 576)), some (.int (nI (n + 1))), some (.int (nI (tK (Tb i) - 1))), some (.int v8)] [] (mdG G m V A')
def mAns (z : Nat × Nat × Nat × (Nat → Nat)) (bs : Int32) : Int32 := if z.1 = 1 then -5 else if z.1 = 2 then nI z.2.1 else if bs = 0 then nI z.2.1 else 0
theorem m_swL (hE : 180000 ≤ E0) (h : mT V0 A nt Tb) (hi : i < nt) (hj : j < nt) (ht : tld (Tb i)) (hru : ruR 15 13 14 A (Tb i)) (h10 : A 10 24 = nI i) (h11 : A 11 24 = nI j) (wn bs : Int32) {stp : Nat → (Nat → Nat) → Bool} (hst : mStp sc G m nt i j Tb wn bs stp) : ∀ e p v tr g n (o8 : Option Value) V f, 60000 - tr < e → tr ≤ 60000 → n ≤ tr → p ≤ tK (Tb i) → (∀ r, r ≠ 2 → V r = V0 r) → V 2 = nI tr → (∀ z, z < 576 → f z = A 12 z) → (∀ q, p = q + 1 → v ≤ gl (Tb i) (Tb j) q ∧ f (576 + q) + 1 = nI v) → (∀ a, a + 1 < p → f (576 + a) = nI (g a) ∧ g a < gl (Tb i) (Tb j) a) → ∃ V' f', (∀ r, r ≠ 2 → V' r = V0 r) ∧ V' 2 = nI (sw (Tb i) (Tb j) E0 stp e p v tr g n).2.2.1 ∧ (∀ z, z < 576 → f' z = A 12 z) ∧ az_rn sc iX6_search 27 [some (.ref m), some (.int (nI i)), some (.int (nI j)), some (.int wn), some (.int bs), some (.int (nI 576)), some (.int (nI n)), some (.int (pm p)), o8] [] (mdG G m V (va_up A 12 f)) = some (some (.int (mAns (sw (Tb i) (Tb j) E0 stp e p v tr g n) bs)), mdG G m V' (va_up A 12 f')) ∧ ((sw (Tb i) (Tb j) E0 stp e p v tr g n).1 = 2 → ∀ a, a < tK (Tb i) → f' (576 + a) = nI ((sw (Tb i) (Tb j) E0 stp e p v tr g n).2.2.2 a) ∧ (sw (Tb i) (Tb j) E0 stp e p v tr g n).2.2.2 a < tK (Tb j)) := by
  have hw := h.w hi
  have hwu := h.w hj
  have hk := hw.k24
  have hnk := hw.nk
  have hn1 := hw.n1
  have pk : pm (tK (Tb i)) = nI (tK (Tb i) - 1) := by
    have e : tK (Tb i) = (tK (Tb i) - 1) + 1 := by omega
    rw [e]
    rfl
  intro e
  induction e with
  | zero => intro p v tr g n o8 V f h; omega
  | succ e ih =>
    intro p v tr g n o8 V f he htr hn hp hV h3 hf hv hg
    obtain ⟨V', f', k1, k2, k3, k4, k5, k6, k7⟩ := m_srch (sc := sc) (G := G) (m := m) h hi hj ht hru wn bs n E0 p v tr g o8 V f (by omega) htr hp hV h3 hf hv hg
    obtain ⟨b1, b2, b3, b4⟩ := sr_tr (Tb i) (Tb j) E0 p v tr g htr
    rw [sw_s]
    by_cases c1 : (sr (Tb i) (Tb j) E0 p v tr g).1 = 2
    · obtain ⟨k8, v8, k9⟩ := k6 c1
      have c3 := b3 c1
      have hst1 := hst n (sr (Tb i) (Tb j) E0 p v tr g).2.2 V' (va_up A 12 f') v8 (by omega) (mT_V (mT_A h (fun r hr => up_n _ _ (by omega))) (k1 0 (by omega))) ((congrFun (up_n A f' (show 10 ≠ 12 by omega)) 24).trans h10) ((congrFun (up_n A f' (show 11 ≠ 12 by omega)) 24).trans h11) (fun a ha => by
        rw [up_s]
        obtain ⟨d1, d2⟩ := k8 a ha
        have d3 := gl_le (T := Tb i) hwu a
        exact ⟨d1, by omega⟩)
      rw [if_pos c1]
      by_cases c2 : stp n (sr (Tb i) (Tb j) E0 p v tr g).2.2 = true
      · rw [if_pos c2] at hst1 ⊢
        refine ⟨V', f', k1, k2, k3, k9.trans (hst1.trans ?_), fun _ a ha => ?_⟩
        · rfl
        · obtain ⟨d1, d2⟩ := k8 a ha
          have d3 := gl_le (T := Tb i) hwu a
          exact ⟨d1, by show (sr (Tb i) (Tb j) E0 p v tr g).2.2 a < tK (Tb j); omega⟩
      · rw [if_neg c2] at hst1 ⊢
        obtain ⟨V2, f2, q1, q2, q3, q4, q5⟩ := ih (tK (Tb i)) ((sr (Tb i) (Tb j) E0 p v tr g).2.2 (tK (Tb i) - 1) + 1) (sr (Tb i) (Tb j) E0 p v tr g).2.1 (sr (Tb i) (Tb j) E0 p v tr g).2.2 (n + 1) (some (.int v8)) V' f' (by omega) b2 (by omega) (Nat.le_refl _) k1 k2 k3 (fun q hq => by
          obtain ⟨d1, d2⟩ := k8 q (by omega)
          rw [hq, Nat.add_sub_cancel, d1, nI_1]
          exact ⟨d2, rfl⟩) (fun a ha => k8 a (by omega))
        refine ⟨V2, f2, q1, q2, q3, k9.trans (hst1.trans ?_), q5⟩
        rw [← pk]
        exact q4
    · rw [if_neg c1]
      refine ⟨V', f', k1, k2, k3, ?_, fun z => absurd z c1⟩
      by_cases c2 : (sr (Tb i) (Tb j) E0 p v tr g).1 = 1
      · rw [k5 c2]
        unfold mAns
        rw [if_pos (show (sr (Tb i) (Tb j) E0 p v tr g).1 = 1 from c2)]
      · have c0 : (sr (Tb i) (Tb j) E0 p v tr g).1 = 0 := by omega
        rw [k4 c0]
        unfold mAns
        rw [if_neg (show ¬ (sr (Tb i) (Tb j) E0 p v tr g).1 = 1 from c2), if_neg (show ¬ (sr (Tb i) (Tb j) E0 p v tr g).1 = 2 from c1)]
theorem m_search {V : Nat → Int32} (hE : 180000 ≤ E0) (h : mT V A nt Tb) (hi : i < nt) (hj : j < nt) (ht : tld (Tb i)) (wn bs : Int32) {stp : Nat → (Nat → Nat) → Bool} (hst : mStp sc G m nt i j Tb wn bs stp) : ∃ V' A', az_ca sc iX6_search [.ref m, .int (nI i), .int (nI j), .int wn, .int bs] (mdG G m V A) = some (some (.int (mAns (sw (Tb i) (Tb j) E0 stp 60001 1 0 0 (fun _ => 0) 0) bs)), mdG G m V' A') ∧ (∀ r, r ≠ 2 → V' r = V r) ∧ V' 2 = nI (sw (Tb i) (Tb j) E0 stp 60001 1 0 0 (fun _ => 0) 0).2.2.1 ∧ (∀ r, r < 10 ∨ 15 < r → A' r = A r) ∧ (∀ z, z < 24 → A' 10 z = A 10 z ∧ A' 11 z = A 11 z) ∧ A' 10 24 = nI i ∧ A' 11 24 = nI j ∧ (∀ z, z < 576 → A' 12 z = A 12 z) ∧ ((sw (Tb i) (Tb j) E0 stp 60001 1 0 0 (fun _ => 0) 0).1 = 2 → ∀ a, a < tK (Tb i) → A' 12 (576 + a) = nI ((sw (Tb i) (Tb j) E0 stp 60001 1 0 0 (fun _ => 0) 0).2.2.2 a) ∧ (sw (Tb i) (Tb j) E0 stp 60001 1 0 0 (fun _ => 0) 0).2.2.2 a < tK (Tb j)) := by
  have hw := h.w hi
  have hnk := hw.nk
  have hn1 := hw.n1
  have t10 : ∀ (V : Nat → Int32) (A : Nat → Nat → Int32) (v : Int32) (k : az_H → az_R), az_sI (mdG G m V A) 0 (m + 10) 24 v k = k (mdG G m V (va_up A 10 (upd (A 10) 24 v))) := fun V A v k => md_s10 (i := 24) (by omega) v k
  have t11 : ∀ (V : Nat → Int32) (A : Nat → Nat → Int32) (v : Int32) (k : az_H → az_R), az_sI (mdG G m V A) 0 (m + 11) 24 v k = k (mdG G m V (va_up A 11 (upd (A 11) 24 v))) := fun V A v k => md_s11 (i := 24) (by omega) v k
  have t12 : ∀ (V : Nat → Int32) (A : Nat → Nat → Int32) (v : Int32) (k : az_H → az_R), az_sI (mdG G m V A) 0 (m + 12) 576 v k = k (mdG G m V (va_up A 12 (upd (A 12) 576 v))) := fun V A v k => md_s12 (i := 576) (by omega) v k
  obtain ⟨A1, hA1⟩ : ∃ A1, A1 = va_up (va_up A 10 (upd (A 10) 24 (nI i))) 11 (upd (A 11) 24 (nI j)) := ⟨_, rfl⟩
  have r10 : A1 10 = upd (A 10) 24 (nI i) := by rw [hA1, up_n _ _ (show 10 ≠ 11 by omega), up_s]
  have r11 : A1 11 = upd (A 11) 24 (nI j) := by rw [hA1, up_s]
  have rr : ∀ r : Nat, r ≠ 10 → r ≠ 11 → A1 r = A r := fun r h1 h2 => by rw [hA1, up_n _ _ h2, up_n _ _ h1]
  have h1 : mT (va_up V 2 0) A1 nt Tb := mT_V (mT_A h (fun r hr => rr r (by omega) (by omega))) (up_n _ _ (by omega))
  obtain ⟨A2, e1, e2⟩ := m_findPairs (sc := sc) (G := G) (m := m) h1 hi ht
  have s10 : A2 10 = A1 10 := e2.1 10 (by omega) (by omega) (by omega)
  have s11 : A2 11 = A1 11 := e2.1 11 (by omega) (by omega) (by omega)
  have s12 : A2 12 = A 12 := (e2.1 12 (by omega) (by omega) (by omega)).trans (rr 12 (by omega) (by omega))
  have h2 : mT (va_up V 2 0) A2 nt Tb := mT_A h1 (fun r hr => e2.1 r (by omega) (by omega) (by omega))
  obtain ⟨V', f', k1, k2, k3, k4, k5⟩ := m_swL (sc := sc) (G := G) (m := m) hE h2 hi hj ht e2.r (by rw [s10, r10, upd_s]) (by rw [s11, r11, upd_s]) wn bs hst 60001 1 0 0 (fun _ => 0) 0 none (va_up V 2 0) (upd (A2 12) 576 (-1)) (by omega) (by omega) (Nat.le_refl _) (by omega) (fun _ _ => rfl) (up_s _ _ _) (fun z hz => upd_n _ _ (by omega)) (fun q hq => by
    have : q = 0 := by omega
    subst this
    exact ⟨Nat.zero_le _, by rw [upd_s]; decide⟩) (fun a ha => by omega)
  refine ⟨V', va_up A2 12 f', ?_, fun r r2 => ?_, k2, fun r hr => ?_, fun z hz => ?_, ?_, ?_, fun z hz => ?_, fun z a ha => ?_⟩
  · rw [eX6_search, md_p14, md_r11, t10, md_r12, t11, up_n _ _ (show 11 ≠ 10 by omega), ← hA1, md_rc, e1, bV_s, md_r13, t12]
    exact k4
  · rw [k1 r r2, up_n _ _ r2]
  · rw [up_n _ _ (by omega), e2.1 r (by omega) (by omega) (by omega), rr r (by omega) (by omega)]
  · rw [up_n _ _ (show 10 ≠ 12 by omega), up_n _ _ (show 11 ≠ 12 by omega), s10, s11, r10, r11, upd_n _ _ (by omega), upd_n _ _ (by omega)]
    exact ⟨rfl, rfl⟩
  · rw [up_n _ _ (show 10 ≠ 12 by omega), s10, r10, upd_s]
  · rw [up_n _ _ (show 11 ≠ 12 by omega), s11, r11, upd_s]
  · rw [up_s, k3 z hz, s12]
  · rw [up_s]
    exact k5 z a ha
theorem i32_1 {a b : Int32} : a + 1 = b + 1 ↔ a = b := by
  constructor
  · intro h
    have h2 := congrArg (fun z => z - 1) h
    simpa using h2
  · intro h
    rw [h]
/-- the model's tests -/
theorem mStp_w {wn : Int32} (hi : i < nt) : mStp sc G m nt i j Tb wn 0 (fun n _ => decide (nI n = wn)) := by
  intro n g V A' v8 hn h h10 h11 hg
  have h8 := h.2.1
  have hw := h.w hi
  have hk := hw.k24
  have hnk := hw.nk
  have hn1 := hw.n1
  rw [bX6_search_89, md_r2, md_a2 (by omega), h.a hi, show nI (tK (Tb i)) - 1 = nI (tK (Tb i) - 1) from pk_sub (b := 1) (by omega), if_pos (nI_le (Nat.le_refl _) (by omega))]
  by_cases c : nI n = wn
  · rw [if_pos (show nI n + 1 = wn + 1 by rw [c]), if_pos (show decide (nI n = wn) = true from decide_eq_true c), nI_1]
  · rw [if_neg (fun z => c (i32_1.mp z)), if_pos (show (0 : Int32) = 0 from rfl), if_neg (show ¬ decide (nI n = wn) = true by simp [c]), nI_1]
theorem mStp_c (hi : i < nt) : mStp sc G m nt i j Tb (-2) 0 (fun n _ => decide (nI n = -1)) := by
  intro n g V A' v8 hn h h10 h11 hg
  have h8 := h.2.1
  have hw := h.w hi
  have hk := hw.k24
  have hnk := hw.nk
  have hn1 := hw.n1
  have c : ¬ nI n = -1 := nI_nm1 (by omega)
  have c2 : ¬ nI (n + 1) = (-2) + 1 := fun z => nI_nm1 (a := n + 1) (by omega) (z.trans (by decide))
  rw [bX6_search_89, md_r2, md_a2 (by omega), h.a hi, show nI (tK (Tb i)) - 1 = nI (tK (Tb i) - 1) from pk_sub (b := 1) (by omega), if_pos (nI_le (Nat.le_refl _) (by omega)), nI_1, if_neg c2, if_pos (show (0 : Int32) = 0 from rfl), if_neg (show ¬ decide (nI n = -1) = true by simp [c])]
theorem mStp_s (hi : i < nt) (hj : j < nt) (hu : tld (Tb j)) : mStp sc G m nt i j Tb (-2) 1 (fun _ g => smT (Tb i) (Tb j) g) := by
  intro n g V A' v8 hn h h10 h11 hg
  have h8 := h.2.1
  have hw := h.w hi
  have hk := hw.k24
  have hnk := hw.nk
  have hn1 := hw.n1
  have c2 : ¬ nI (n + 1) = (-2) + 1 := fun z => nI_nm1 (a := n + 1) (by omega) (z.trans (by decide))
  have hs : az_ca sc iX6_isSame [.ref m, .int 24] (mdG G m V A') = some (some (.int (if smT (Tb i) (Tb j) g = true then 1 else 0)), mdG G m V A') := m_isSameT (j := 24) ⟨h, by omega, hi, hj, h10, h11, hg, hu⟩
  rw [bX6_search_89, md_r2, md_a2 (by omega), h.a hi, show nI (tK (Tb i)) - 1 = nI (tK (Tb i) - 1) from pk_sub (b := 1) (by omega), if_pos (nI_le (Nat.le_refl _) (by omega)), nI_1, if_neg c2, if_neg (show ¬ (1 : Int32) = 0 by decide), md_rc, hs, bI_s]
  by_cases c : smT (Tb i) (Tb j) g = true
  · rw [if_pos c, if_neg (show ¬ (1 : Int32) = 0 by decide), if_pos (show (fun _ g => smT (Tb i) (Tb j) g) n g = true from c)]
  · rw [if_neg c, if_pos (show (0 : Int32) = 0 from rfl), if_neg (show ¬ (fun _ g => smT (Tb i) (Tb j) g) n g = true from c)]
/-- the class's loop in 'same' -/
theorem s_sameL (hE : 180000 ≤ E0) (hT : ∀ V A, tbC (clG G x V A R) t T) (hw : tbW T) (ht : tld T) (hU : ∀ V A, tbC (clG G x V A R) u U) (hwu : tbW U) (hru : ruR 5 6 7 A T) (hV0 : V0 4 = 0) (y1 y2 : Int32) : ∀ e p v tr g n V f, 60000 - tr < e → tr ≤ 60000 → n ≤ tr → p ≤ tK T → (∀ r, r ≠ 3 → r ≠ 4 → r ≠ 5 → V r = V0 r) → V 3 = nI tr → V 4 = 0 → V 5 = pm p → (∀ q, p = q + 1 → v ≤ gl T U q ∧ f q + 1 = nI v) → (∀ a, a + 1 < p → f a = nI (g a) ∧ g a < gl T U a) → ∃ V' f', az_rn sc iX5_same 30 [some (.ref x), some (.int y1), some (.int y2), some (.ref t), some (.ref u), some (.int 0), some (.int (nI n))] [] (clG G x V (va_up A 4 f) R) = some (some (.int (if (sw T U E0 (fun _ g => smT T U g) e p v tr g n).1 = 1 then -5 else if (sw T U E0 (fun _ g => smT T U g) e p v tr g n).1 = 2 then 1 else 0)), clG G x V' (va_up A 4 f') R) ∧ (∀ r, r ≠ 3 → r ≠ 4 → r ≠ 5 → V' r = V0 r) ∧ V' 3 = nI (sw T U E0 (fun _ g => smT T U g) e p v tr g n).2.2.1 := by
  have hk := hw.k24
  have hku := hwu.k24
  have hnk := hw.nk
  have hn1 := hw.n1
  intro e
  induction e with
  | zero => intro p v tr g n V f h; omega
  | succ e ih =>
    intro p v tr g n V f he htr hn hp hV h3 h4 h5 hv hg
    obtain ⟨V', f', k1, k2, k3, k4, k5, k6⟩ := s_nextC (sc := sc) (x := x) (A := A) hE hT hw ht hU hwu hru htr hp hV h3 (h4.trans hV0.symm) h5 hv hg
    obtain ⟨b1, b2, b3, b4⟩ := sr_tr T U E0 p v tr g htr
    rw [sw_s, bX5_same_30, if_neg (show ¬ ¬ (0 : Int32) = 0 by decide), lit60, if_neg (fun z => by have := (nI_ltI (by omega) (by omega)).mp z; omega), cl0_r2, cl_rc3, k1, bI_s]
    by_cases c1 : (sr T U E0 p v tr g).1 = 2
    · obtain ⟨k7, k8, k9⟩ := k6 c1
      rw [if_pos c1, if_pos c1, if_neg (show ¬ (1 : Int32) = 0 by decide), cl0_r2, cl3_r0, s_isSame (hT _ _) hw (hU _ _) hwu cl_c4 (g := (sr T U E0 p v tr g).2.2) (fun a ha => by
        obtain ⟨d1, d2⟩ := k9 a ha
        have d3 := gl_le (T := T) hwu a
        rw [up_s]
        exact ⟨d1, by omega⟩), bI_s]
      by_cases c2 : smT T U (sr T U E0 p v tr g).2.2 = true
      · rw [if_pos c2, if_pos (show (fun _ g => smT T U g) n (sr T U E0 p v tr g).2.2 = true from c2), bX5_same_30, if_pos (show ¬ (1 : Int32) = 0 by decide), cl0_r2, cl3_i2, k4, c1, if_neg (show ¬ (2 : Nat) = 1 by omega), hV0, if_pos (show (0 : Int32) = 0 from rfl), if_neg (show ¬ (1 : Int32) = 0 by decide)]
        exact ⟨V', f', rfl, k2, k3⟩
      · rw [if_neg c2, if_neg (show ¬ (fun _ g => smT T U g) n (sr T U E0 p v tr g).2.2 = true from c2), nI_1]
        refine ih (tK T) ((sr T U E0 p v tr g).2.2 (tK T - 1) + 1) (sr T U E0 p v tr g).2.1 (sr T U E0 p v tr g).2.2 (n + 1) V' f' (by omega) k5 (by omega) (Nat.le_refl _) k2 k3 ?_ k7 (fun q hq => ?_) (fun a ha => k9 a (by omega))
        · rw [k4, c1, if_neg (show ¬ (2 : Nat) = 1 by omega), hV0]
        · obtain ⟨d1, d2⟩ := k9 q (by omega)
          rw [hq, Nat.add_sub_cancel, d1, nI_1]
          exact ⟨d2, rfl⟩
    · rw [if_neg c1, if_neg c1, if_pos (show (0 : Int32) = 0 from rfl), cl0_r2, cl3_i2, k4, hV0]
      refine ⟨V', f', ?_, k2, k3⟩
      show _ = some (some (Value.int (if (sr T U E0 p v tr g).1 = 1 then -5 else if (sr T U E0 p v tr g).1 = 2 then 1 else 0)), _)
      by_cases c2 : (sr T U E0 p v tr g).1 = 1
      · rw [if_pos c2, if_pos c2, if_neg (show ¬ (1 : Int32) = 0 by decide)]
      · rw [if_neg c2, if_neg c2, if_neg c1, if_pos (show (0 : Int32) = 0 from rfl), if_pos (show (0 : Int32) = 0 from rfl)]
end SWB
