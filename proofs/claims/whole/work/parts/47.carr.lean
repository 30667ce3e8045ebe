/-! A NEW CARRIER -/
def crG (G : az_H) (c p q tp tq : Nat) (g : Nat → Int32) : az_H := (fun i => if i = c then some (.inr (0, [.int (nI p), .int (nI q), .ref tp, .ref tq, .ref (c + 1)])) else if i = c + 1 then some (.inl (0, 24, .inl g)) else G.1 i, G.2)
theorem cg_C (G : az_H) (c p q tp tq : Nat) (g : Nat → Int32) : crC (crG G c p q tp tq g) c p q tp tq g := ⟨if_pos rfl, (if_neg (by omega)).trans (if_pos rfl)⟩
theorem cg_o (G : az_H) {c : Nat} (p q tp tq : Nat) (g : Nat → Int32) {i : Nat} (h : i < c ∨ c + 1 < i) : (crG G c p q tp tq g).1 i = G.1 i := (if_neg (by omega)).trans (if_neg (by omega))
theorem cg_u (G : az_H) (c p q tp tq : Nat) (g f : Nat → Int32) : az_set (crG G c p q tp tq g) (c + 1) (.inl (0, 24, .inl f)) = crG G c p q tp tq f := by
  refine Prod.ext (funext fun i => ?_) rfl
  show (if i = c + 1 then _ else if i = c then _ else if i = c + 1 then _ else G.1 i) = (if i = c then _ else if i = c + 1 then _ else G.1 i)
  by_cases h1 : i = c + 1
  · rw [if_pos h1, if_neg (show ¬ i = c by omega), if_pos h1]
  · rw [if_neg h1, if_neg h1, if_neg h1]
theorem cg_cl {G : az_H} {x c : Nat} (p q tp tq : Nat) (g : Nat → Int32) (V : Nat → Int32) (A : Nat → Nat → Int32) (R : Nat → Nat → Option Nat) (h : x + 22 < c) : crG (clG G x V A R) c p q tp tq g = clG (crG G c p q tp tq g) x V A R := by
  refine Prod.ext (funext fun i => ?_) rfl
  by_cases h1 : x ≤ i ∧ i ≤ x + 22
  · rw [cg_o _ _ _ _ _ _ (by omega)]
    show (if x ≤ i ∧ i ≤ x + 22 then _ else _) = (if x ≤ i ∧ i ≤ x + 22 then _ else _)
    rw [if_pos h1, if_pos h1]
  · rw [cl_out (crG G c p q tp tq g) V A R (by omega)]
    show (if i = c then _ else if i = c + 1 then _ else (clG G x V A R).1 i) = (if i = c then _ else if i = c + 1 then _ else G.1 i)
    rw [cl_out G V A R (by omega)]
def sPc (S : wS) (c : Nat × Nat × (Nat → Int32)) : wS := (sN S, sT S, sM S + 1, va_up (sC S) (sM S) c, sQ S, sL S, sG S)
section CARR
variable {sc : az_S} {G G1 K : az_H} {B x m t : Nat} {V Vm : Nat → Int32} {A Am : Nat → Nat → Int32} {R : Nat → Nat → Option Nat} {S : wS} {ti ci : Nat → Nat}
theorem nO0 (K : az_H) (k : Nat → az_H → az_R) : az_nO K 0 k = k K.2.1 (az_psh K (.inr (0, az_df 0)) 5) := rfl
theorem s_newC (p q tp tq : Nat) : az_ca sc iX0_init [.ref K.2.1, .int (nI p), .int (nI q), .ref tp, .ref tq] (az_psh K (.inr (0, az_df 0)) 5) = some (none, crG (bmp K 2 29) K.2.1 p q tp tq (fun _ => 0)) := by
  obtain ⟨f, t, sl⟩ := K
  have c24 : ∀ (G : az_H) (k : Nat → az_H → az_R), az_nA G 0 24 k = k G.2.1 (az_psh G (.inl (0, 24, .inl (fun _ => 0))) 24) := fun G k => nA_s (n := 24) (by omega) k
  rw [eX0_init, pt_s (psh_t _ _ _) (Nat.le_of_ble_eq_true rfl), psh_set, pt_s (psh_t _ _ _) (Nat.le_of_ble_eq_true rfl), psh_set, pt_s (psh_t _ _ _) (Nat.le_of_ble_eq_true rfl), psh_set, pt_s (psh_t _ _ _) (Nat.le_of_ble_eq_true rfl), psh_set, c24]
  show az_pt (az_psh (az_psh ((f, t, sl) : az_H) _ 5) _ 24) t 0 4 (.ref (t + 1)) _ = _
  rw [pt_s ((psh_o _ _ (by show t ≠ t + 1; omega)).trans (psh_t _ _ _)) (Nat.le_of_ble_eq_true rfl), psh_set2 _ _ _ (by show t ≠ t + 1; omega), psh_set]
  refine congrArg (fun z => some (none, z)) ?_
  refine Prod.ext (funext fun i => ?_) rfl
  show (if i = t + 1 then _ else if i = t then _ else f i) = (if i = t then _ else if i = t + 1 then _ else f i)
  by_cases h1 : i = t + 1
  · rw [if_pos h1, if_neg (show ¬ i = t by omega), if_pos h1]
  · rw [if_neg h1, if_neg h1]
    rfl
theorem s_keepCarrier {c n p q tp tq : Nat} {g : Nat → Int32} (hx : x + 22 < c) (hV : V 1 = nI n) (hn : n < 24) : az_ca sc iX5_keepCarrier [.ref x, .ref c] (clG (crG G c p q tp tq g) x V A R) = some (some (.int (nI n)), clG (crG G c p q tp tq g) x (va_up V 1 (nI (n + 1))) A (va_up R 2 (va_up (R 2) n (some c)))) := by
  have hv : (clG (crG G c p q tp tq g) x V A R).1 c = some (.inr (az_el 3, [.int (nI p), .int (nI q), .ref tp, .ref tq, .ref (c + 1)])) := (cl_out _ _ _ _ (by omega)).trans (cg_C G c p q tp tq g).1
  have h7 : nI (n + 1) - 1 = nI n := by rw [show (1 : Int32) = nI 1 from rfl, pk_sub (by omega)]; rfl
  rw [eX5_keepCarrier, cl0_i12, hV, if_neg (nI_nlt0 (by omega)), cl0_i12, hV, cl0_r1, ln_s cl_c2, if_pos (nI_lt (by omega) (by omega)), cl0_r1, cl0_i12, hV, sR_s cl_c2 hv (by omega) (by omega), cl_u2, cl0_i12, hV, nI_1, cl0_p12, cl0_i12, up_s, h7]
theorem iC_pushC (h : iC G B V A R S ti ci) {p q : Nat} (g : Nat → Int32) : iC (crG (bmp G 2 29) G.2.1 p q (ti p) (ti q) g) B (va_up V 1 (nI (sM S + 1))) A (va_up R 2 (va_up (R 2) (sM S) (some G.2.1))) (sPc S (p, q, g)) ti (va_up ci (sM S) G.2.1) := by
  obtain ⟨a1, a2, a3, a4, a5, a6, a7, a8, a9, a10⟩ := h
  have out : ∀ i : Nat, i < G.2.1 → (crG (bmp G 2 29) G.2.1 p q (ti p) (ti q) g).1 i = G.1 i := fun i hi => cg_o (bmp G 2 29) _ _ _ _ _ (by omega)
  have e2 : (crG (bmp G 2 29) G.2.1 p q (ti p) (ti q) g).2.1 = G.2.1 + 2 := rfl
  refine ⟨(up_n _ _ (by omega)).trans a1, up_s _ _ _, (up_n _ _ (by omega)).trans a3, (up_n _ _ (by omega)).trans a4, by rw [e2]; omega, a6, fun i hi => ?_, a8, fun j hj => ?_, fun i j hi hj => ?_⟩
  · obtain ⟨b1, b2, b3, b4⟩ := a7 i hi
    refine ⟨(congrFun (up_n R _ (show 1 ≠ 2 by omega)) i).trans b1, ⟨(out _ (by omega)).trans b2.1, (out _ (by omega)).trans b2.2.1, (out _ (by omega)).trans b2.2.2.1, (out _ (by omega)).trans b2.2.2.2⟩, b3, by rw [e2]; omega⟩
  · have hj' : j < sM S + 1 := hj
    rw [up_s, e2]
    have eA : cA (sPc S (p, q, g)) j = (va_up (sC S) (sM S) (p, q, g) j).1 := rfl
    have eB : cB (sPc S (p, q, g)) j = (va_up (sC S) (sM S) (p, q, g) j).2.1 := rfl
    have eR : cR (sPc S (p, q, g)) j = (va_up (sC S) (sM S) (p, q, g) j).2.2 := rfl
    rw [eA, eB, eR]
    by_cases e : j = sM S
    · subst e
      rw [up_s, up_s, up_s]
      have hc := cg_C (bmp G 2 29) G.2.1 p q (ti p) (ti q) g
      exact ⟨rfl, hc.1, hc.2, a5, by omega⟩
    · rw [up_n _ _ e, up_n _ _ e, up_n _ _ e]
      obtain ⟨b1, b2, b3, b4, b5⟩ := a9 j (by omega)
      exact ⟨b1, (out _ (by omega)).trans b2, (out _ (by omega)).trans b3, b4, by omega⟩
  · have hj' : j < sM S + 1 := hj
    have hi' : i < sN S := hi
    obtain ⟨b1, b2, b3, b4⟩ := a7 i hi'
    by_cases e : j = sM S
    · rw [e, up_s]
      omega
    · rw [up_n _ _ e]
      exact a10 i j hi' (by omega)
theorem wW_pushC (h : wW S) (hn : sM S < 24) {p q : Nat} {g : Nat → Int32} (hp : p < sN S) (hq : q < sN S) (cp : tC (sT S p) = 1) (cq : tC (sT S q) = 1) (hg : ∀ a, a < tK (sT S p) → g a = nI (g a).toNatClampNeg ∧ (g a).toNatClampNeg < tK (sT S q)) : wW (sPc S (p, q, g)) := by
  obtain ⟨a1, a2, a3, a4, a5, a6⟩ := h
  refine ⟨a1, hn, a3, a4, a5, fun j hj => ?_⟩
  have hj' : j < sM S + 1 := hj
  have eA : cA (sPc S (p, q, g)) j = (va_up (sC S) (sM S) (p, q, g) j).1 := rfl
  have eB : cB (sPc S (p, q, g)) j = (va_up (sC S) (sM S) (p, q, g) j).2.1 := rfl
  have eR : cR (sPc S (p, q, g)) j = (va_up (sC S) (sM S) (p, q, g) j).2.2 := rfl
  show cA (sPc S (p, q, g)) j < sN S ∧ cB (sPc S (p, q, g)) j < sN S ∧ tC (sT S (cA (sPc S (p, q, g)) j)) = 1 ∧ tC (sT S (cB (sPc S (p, q, g)) j)) = 1 ∧ ∀ a, a < tK (sT S (cA (sPc S (p, q, g)) j)) → cR (sPc S (p, q, g)) j a = nI (cR (sPc S (p, q, g)) j a).toNatClampNeg ∧ (cR (sPc S (p, q, g)) j a).toNatClampNeg < tK (sT S (cB (sPc S (p, q, g)) j))
  rw [eA, eB, eR]
  by_cases e : j = sM S
  · subst e
    rw [up_s]
    exact ⟨hp, hq, cp, cq, hg⟩
  · rw [up_n _ _ e]
    exact a6 j (by omega)
theorem n576b (a : Nat) : 576 + nI a = nI (576 + a) := by
  rw [show (576 : Int32) = nI 576 from rfl, nI_add]
/-- the rows a carrier's coming leaves -/
def agC (A A' : Nat → Nat → Int32) (n : Nat) : Prop := (∀ r : Nat, r ≠ 10 → r ≠ 11 → r ≠ 12 → A' r = A r) ∧ (∀ j, j < n → A' 10 j = A 10 j ∧ A' 11 j = A 11 j) ∧ (∀ q, q < 24 * n → A' 12 q = A 12 q)
theorem m_keeps {n : Nat} (hV : V 1 = nI n) (hn : n < 24) : ∃ A' : Nat → Nat → Int32, az_ca sc iX6_keeps [.ref m] (mdG G m V A) = some (some (.int (nI n)), mdG G m (va_up V 1 (nI (n + 1))) A') ∧ agC A A' n ∧ A' 10 n = A 10 24 ∧ A' 11 n = A 11 24 ∧ ∀ a, a < 24 → A' 12 (24 * n + a) = A 12 (576 + a) := by
  have h7 : nI (n + 1) - 1 = nI n := by rw [show (1 : Int32) = nI 1 from rfl, pk_sub (by omega)]; rfl
  have a10 : ∀ (A : Nat → Nat → Int32) (k : Int32 → az_R), az_aI (mdG G m V A) 0 (m + 10) 24 k = k (A 10 24) := fun A k => md_a10 (i := 24) (by omega) k
  have a11 : ∀ (A : Nat → Nat → Int32) (k : Int32 → az_R), az_aI (mdG G m V A) 0 (m + 11) 24 k = k (A 11 24) := fun A k => md_a11 (i := 24) (by omega) k
  have loop : ∀ d j A', j + d = 24 → (agC A A' n ∧ A' 10 n = A 10 24 ∧ A' 11 n = A 11 24 ∧ (∀ a, a < 24 → A' 12 (576 + a) = A 12 (576 + a)) ∧ ∀ a, a < j → A' 12 (24 * n + a) = A 12 (576 + a)) → ∃ A'', az_rn sc iX6_keeps 20 [some (.ref m), some (.int (nI j))] [] (mdG G m V A') = some (some (.int (nI n)), mdG G m (va_up V 1 (nI (n + 1))) A'') ∧ agC A A'' n ∧ A'' 10 n = A 10 24 ∧ A'' 11 n = A 11 24 ∧ ∀ a, a < 24 → A'' 12 (24 * n + a) = A 12 (576 + a) := by
    intro d
    induction d with
    | zero =>
      intro j A' hj hI
      have e : j = 24 := by omega
      subst e
      obtain ⟨i1, i2, i3, i4, i5⟩ := hI
      refine ⟨A', ?_, i1, i2, i3, i5⟩
      rw [bX6_keeps_20, if_pos (show (24 : Int32) ≤ nI 24 from (show nI 24 ≤ nI 24 from nI_le (Nat.le_refl _) (by omega))), md_i10, md_p10, hV, nI_1, md_i10, up_s, h7]
    | succ d ih =>
      intro j A' hj hI
      obtain ⟨⟨i0, i1, i6⟩, i2, i3, i4, i5⟩ := hI
      rw [bX6_keeps_20, if_neg (show ¬ (24 : Int32) ≤ nI j from (show ¬ nI 24 ≤ nI j from nI_ge (by omega) (by omega))), md_r13, md_i10, hV, md_r13, n576b, md_a12 (by omega), n24, md_s12 (by omega), nI_1]
      refine ih (j + 1) _ (by omega) ⟨⟨fun r h1 h2 h3 => ?_, fun j' hj' => ?_, fun q hq => ?_⟩, ?_, ?_, fun a ha => ?_, fun a ha => ?_⟩
      · rw [up_n _ _ h3]; exact i0 r h1 h2 h3
      · rw [up_n _ _ (show 10 ≠ 12 by omega), up_n _ _ (show 11 ≠ 12 by omega)]; exact i1 j' hj'
      · rw [up_s, upd_n _ _ (by omega)]; exact i6 q hq
      · rw [up_n _ _ (show 10 ≠ 12 by omega)]; exact i2
      · rw [up_n _ _ (show 11 ≠ 12 by omega)]; exact i3
      · rw [up_s, upd_n _ _ (by omega)]; exact i4 a ha
      · rw [up_s]
        by_cases e : a = j
        · subst e
          rw [upd_s]; exact i4 a (by omega)
        · rw [upd_n _ _ (by omega)]; exact i5 a (by omega)
  rw [eX6_keeps, md_r11, md_i10, hV, md_r11, a10, md_s10 (by omega), md_r12, md_i10, hV, md_r12, a11, md_s11 (by omega)]
  refine loop 24 0 _ (by omega) ⟨⟨fun r h1 h2 h3 => ?_, fun j' hj' => ?_, fun q hq => ?_⟩, ?_, ?_, fun a ha => ?_, fun a ha => absurd ha (Nat.not_lt_zero _)⟩
  · rw [up_n _ _ h2, up_n _ _ h1]
  · rw [up_n _ _ (show 10 ≠ 11 by omega), up_s, up_s, upd_n _ _ (by omega), upd_n _ _ (by omega), up_n _ _ (show 11 ≠ 10 by omega)]
    exact ⟨rfl, rfl⟩
  · rw [up_n _ _ (show 12 ≠ 11 by omega), up_n _ _ (show 12 ≠ 10 by omega)]
  · rw [up_n _ _ (show 10 ≠ 11 by omega), up_s, upd_s]
  · rw [up_s, upd_s, up_n _ _ (show 11 ≠ 10 by omega)]
  · rw [up_n _ _ (show 12 ≠ 11 by omega), up_n _ _ (show 12 ≠ 10 by omega)]
end CARR
