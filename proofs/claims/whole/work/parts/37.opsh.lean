/-! OPERATION table: a new table on both sides -/
def sPu (S : wS) (T : tb) : wS := (sN S + 1, va_up (sT S) (sN S) T, sM S, sC S, sQ S, sL S, sG S)
def eqB (A A' : Nat → Nat → Int32) (nt : Nat) : Prop := (∀ i, i < nt → A' 1 i = A 1 i ∧ A' 2 i = A 2 i ∧ A' 3 i = A 3 i ∧ (∀ q, q < 24 → A' 4 (24 * i + q) = A 4 (24 * i + q) ∧ A' 5 (24 * i + q) = A 5 (24 * i + q)) ∧ ∀ q, q < 576 → A' 6 (576 * i + q) = A 6 (576 * i + q)) ∧ (∀ r : Nat, 7 ≤ r → A' r = A r)
theorem upd_n (f : Nat → Int32) {k j : Nat} (v : Int32) (h : j ≠ k) : upd f k v j = f j := if_neg h
theorem upd_s (f : Nat → Int32) (k : Nat) (v : Int32) : upd f k v k = v := if_pos rfl
theorem n576a (i a : Nat) : 576 * nI i + nI a = nI (576 * i + a) := by
  rw [show (576 : Int32) = nI 576 from rfl, pk_mul, nI_add]
section OPSH
variable {sc : az_S} {G G1 : az_H} {B x m : Nat} {V Vm : Nat → Int32} {A Am : Nat → Nat → Int32} {R : Nat → Nat → Option Nat} {S : wS} {ti ci : Nat → Nat} {nt : Nat} {Tb : Nat → tb}
theorem m_begins (h : mT Vm Am nt Tb) (hnt : nt < 8) {n : Nat} (h1 : 1 ≤ n) (h6 : n ≤ 6) : ∃ A' : Nat → Nat → Int32, az_ca sc iX6_begins [.ref m, .int (nI n)] (mdG G m Vm Am) = some (none, mdG G m (va_up Vm 0 (nI (nt + 1))) A') ∧ mT (va_up Vm 0 (nI (nt + 1))) A' (nt + 1) (va_up Tb nt (tnw n n)) ∧ ∀ r : Nat, 7 ≤ r → A' r = Am r := by
  have l36 : ∀ d j A', j + d = n → (eqB Am A' nt ∧ A' 1 nt = nI n ∧ A' 2 nt = nI j ∧ A' 3 nt = 0 ∧ (∀ a, a < j → A' 4 (24 * nt + a) = nI a ∧ A' 5 (24 * nt + a) = nI a) ∧ ∀ q, q < 576 → A' 6 (576 * nt + q) = -1) → ∃ A'', az_rn sc iX6_begins 36 [some (.ref m), some (.int (nI n)), some (.int (nI nt)), some (.int (nI j))] [] (mdG G m Vm A') = some (none, mdG G m (va_up Vm 0 (nI (nt + 1))) A'') ∧ (eqB Am A'' nt ∧ A'' 1 nt = nI n ∧ A'' 2 nt = nI n ∧ A'' 3 nt = 0 ∧ (∀ a, a < n → A'' 4 (24 * nt + a) = nI a ∧ A'' 5 (24 * nt + a) = nI a) ∧ ∀ q, q < 576 → A'' 6 (576 * nt + q) = -1) := by
    intro d
    induction d with
    | zero =>
      intro j A' hj hI
      have e : j = n := by omega
      subst e
      refine ⟨A', ?_, hI⟩
      rw [bX6_begins_36, if_pos (nI_le (Nat.le_refl _) (by omega)), md_i0, md_p0, h.1, nI_1]
    | succ d ih =>
      intro j A' hj hI
      obtain ⟨⟨i1, i2⟩, i3, i4, i5, i6, i7⟩ := hI
      rw [bX6_begins_36, if_neg (nI_ge (show j < n by omega) (by omega)), md_rc, m_comes hnt (show j < 24 by omega) i4, bI_s, nI_1]
      refine ih (j + 1) _ (by omega) ⟨⟨fun i hi => ?_, fun r hr => ?_⟩, ?_, ?_, ?_, fun a ha => ?_, fun q hq => ?_⟩
      · obtain ⟨j1, j2, j3, j4, j5⟩ := i1 i hi
        rw [up_n _ _ (show 1 ≠ 2 by omega), up_n _ _ (show 1 ≠ 5 by omega), up_n _ _ (show 1 ≠ 4 by omega), up_s, up_n _ _ (show 3 ≠ 2 by omega), up_n _ _ (show 3 ≠ 5 by omega), up_n _ _ (show 3 ≠ 4 by omega), up_n _ _ (show 4 ≠ 2 by omega), up_n _ _ (show 4 ≠ 5 by omega), up_s, up_n _ _ (show 5 ≠ 2 by omega), up_s, up_n _ _ (show 6 ≠ 2 by omega), up_n _ _ (show 6 ≠ 5 by omega), up_n _ _ (show 6 ≠ 4 by omega)]
        refine ⟨j1, ?_, j3, fun q hq => ?_, j5⟩
        · rw [upd_n _ _ (by omega)]; exact j2
        · rw [upd_n _ _ (by omega), upd_n _ _ (by omega)]; exact j4 q hq
      · rw [up_n _ _ (by omega), up_n _ _ (by omega), up_n _ _ (by omega)]; exact i2 r hr
      · rw [up_n _ _ (by omega), up_n _ _ (by omega), up_n _ _ (by omega)]; exact i3
      · rw [up_s, upd_s]
      · rw [up_n _ _ (by omega), up_n _ _ (by omega), up_n _ _ (by omega)]; exact i5
      · rw [up_n _ _ (show 4 ≠ 2 by omega), up_n _ _ (show 4 ≠ 5 by omega), up_s, up_n _ _ (show 5 ≠ 2 by omega), up_s]
        by_cases e : a = j
        · subst e
          rw [upd_s, upd_s]; exact ⟨rfl, rfl⟩
        · rw [upd_n _ _ (by omega), upd_n _ _ (by omega)]; exact i6 a (by omega)
      · rw [up_n _ _ (show 6 ≠ 2 by omega), up_n _ _ (show 6 ≠ 5 by omega), up_n _ _ (show 6 ≠ 4 by omega)]; exact i7 q hq
  have l20 : ∀ d j A', j + d = 576 → (eqB Am A' nt ∧ A' 1 nt = nI n ∧ A' 2 nt = 0 ∧ A' 3 nt = 0 ∧ ∀ q, q < j → A' 6 (576 * nt + q) = -1) → ∃ A'', az_rn sc iX6_begins 20 [some (.ref m), some (.int (nI n)), some (.int (nI nt)), some (.int (nI j))] [] (mdG G m Vm A') = az_rn sc iX6_begins 36 [some (.ref m), some (.int (nI n)), some (.int (nI nt)), some (.int (nI 0))] [] (mdG G m Vm A'') ∧ (eqB Am A'' nt ∧ A'' 1 nt = nI n ∧ A'' 2 nt = 0 ∧ A'' 3 nt = 0 ∧ ∀ q, q < 576 → A'' 6 (576 * nt + q) = -1) := by
    intro d
    induction d with
    | zero =>
      intro j A' hj hI
      have e : j = 576 := by omega
      subst e
      refine ⟨A', ?_, hI⟩
      rw [bX6_begins_20, if_pos (show (576 : Int32) ≤ nI 576 from nI_le (Nat.le_refl _) (by omega))]
      rfl
    | succ d ih =>
      intro j A' hj hI
      obtain ⟨⟨i1, i2⟩, i3, i4, i5, i7⟩ := hI
      rw [bX6_begins_20, if_neg (show ¬ (576 : Int32) ≤ nI j from (show ¬ nI 576 ≤ nI j from nI_ge (show j < 576 by omega) (by omega))), md_r6, n576a, md_s6 (by omega), nI_1]
      refine ih (j + 1) _ (by omega) ⟨⟨fun i hi => ?_, fun r hr => ?_⟩, ?_, ?_, ?_, fun q hq => ?_⟩
      · obtain ⟨j1, j2, j3, j4, j5⟩ := i1 i hi
        rw [up_n _ _ (show 1 ≠ 6 by omega), up_n _ _ (show 2 ≠ 6 by omega), up_n _ _ (show 3 ≠ 6 by omega), up_n _ _ (show 4 ≠ 6 by omega), up_n _ _ (show 5 ≠ 6 by omega), up_s]
        refine ⟨j1, j2, j3, j4, fun q hq => ?_⟩
        rw [upd_n _ _ (by omega)]; exact j5 q hq
      · rw [up_n _ _ (by omega)]; exact i2 r hr
      · rw [up_n _ _ (by omega)]; exact i3
      · rw [up_n _ _ (by omega)]; exact i4
      · rw [up_n _ _ (by omega)]; exact i5
      · rw [up_s]
        by_cases e : q = j
        · subst e
          rw [upd_s]
        · rw [upd_n _ _ (by omega)]; exact i7 q (by omega)
  obtain ⟨A1, e1, f1⟩ := l20 576 0 (va_up (va_up (va_up Am 1 (upd (Am 1) nt (nI n))) 2 (upd (Am 2) nt 0)) 3 (upd (Am 3) nt 0)) (by omega) (by
    refine ⟨⟨fun i hi => ?_, fun r hr => ?_⟩, ?_, ?_, ?_, fun q hq => absurd hq (Nat.not_lt_zero _)⟩
    · rw [up_n _ _ (show 1 ≠ 3 by omega), up_n _ _ (show 1 ≠ 2 by omega), up_s, up_n _ _ (show 2 ≠ 3 by omega), up_s, up_s, up_n _ _ (show 4 ≠ 3 by omega), up_n _ _ (show 4 ≠ 2 by omega), up_n _ _ (show 4 ≠ 1 by omega), up_n _ _ (show 5 ≠ 3 by omega), up_n _ _ (show 5 ≠ 2 by omega), up_n _ _ (show 5 ≠ 1 by omega), up_n _ _ (show 6 ≠ 3 by omega), up_n _ _ (show 6 ≠ 2 by omega), up_n _ _ (show 6 ≠ 1 by omega)]
      exact ⟨upd_n _ _ (by omega), upd_n _ _ (by omega), upd_n _ _ (by omega), fun _ _ => ⟨rfl, rfl⟩, fun _ _ => rfl⟩
    · rw [up_n _ _ (by omega), up_n _ _ (by omega), up_n _ _ (by omega)]
    · rw [up_n _ _ (by omega), up_n _ _ (by omega), up_s, upd_s]
    · rw [up_n _ _ (by omega), up_s, upd_s]
    · rw [up_s, upd_s])
  obtain ⟨A2, e2, f2⟩ := l36 n 0 A1 (by omega) ⟨f1.1, f1.2.1, f1.2.2.1, f1.2.2.2.1, fun a ha => absurd ha (Nat.not_lt_zero _), f1.2.2.2.2⟩
  refine ⟨A2, ?_, ⟨?_, by omega, fun i hi => ?_⟩, f2.1.2⟩
  · rw [eX6_begins, md_i0, h.1, md_r1, md_s1 hnt, md_r2, md_s2 hnt, md_r3, w1_0, md_s3 hnt, up_n _ _ (show 2 ≠ 1 by omega), up_n _ _ (show 3 ≠ 2 by omega), up_n _ _ (show 3 ≠ 1 by omega)]
    exact e1.trans e2
  · exact up_s _ _ _
  · obtain ⟨⟨i1, i2⟩, i3, i4, i5, i6, i7⟩ := f2
    by_cases e : i = nt
    · subst e
      obtain ⟨g1, g2, g3, g4, g5⟩ := tnw_s n n h6
      rw [up_s, g1, g2, g3]
      refine ⟨tnw_W h1 h6, i3, i4, i5, fun a ha => ?_, fun a b ha hb hna hnb ht => absurd ha (by omega), fun a b ha hb _ => ?_⟩
      · rw [(g4 a ha).1, (g4 a ha).2]; exact i6 a ha
      · have := i7 (24 * a + b) (by omega)
        rw [← Nat.add_assoc] at this
        exact this
    · rw [up_n _ _ e]
      have hi' : i < nt := by omega
      obtain ⟨j1, j2, j3, j4, j5⟩ := i1 i hi'
      obtain ⟨b1, b2, b3, b4, b5, b6, b7⟩ := h.2.2 i hi'
      have hk := b1.k24
      refine ⟨b1, j1.trans b2, j2.trans b3, j3.trans b4, fun a ha => ?_, fun a b ha hb hna hnb ht => ?_, fun a b ha hb hab => ?_⟩
      · rw [(j4 a (by omega)).1, (j4 a (by omega)).2]; exact b5 a ha
      · have := j5 (24 * a + b) (by omega)
        rw [← Nat.add_assoc] at this
        exact this.trans (b6 a b ha hb hna hnb ht)
      · have := j5 (24 * a + b) (by omega)
        rw [← Nat.add_assoc] at this
        exact this.trans (b7 a b ha hb hab)
end OPSH
