/-! keepTable; OPERATION table -/
theorem iC_push {G : az_H} {B : Nat} {V : Nat → Int32} {A : Nat → Nat → Int32} {R : Nat → Nat → Option Nat} {S : wS} {ti ci : Nat → Nat} (h : iC G B V A R S ti ci) (hS : wW S) (T : tb) : iC (tbG (bmp G 4 630) G.2.1 T) B (va_up V 0 (nI (sN S + 1))) A (va_up R 1 (va_up (R 1) (sN S) (some G.2.1))) (sPu S T) (va_up ti (sN S) G.2.1) ci := by
  obtain ⟨a1, a2, a3, a4, a5, a6, a7, a8, a9, a10⟩ := h
  have out : ∀ q : Nat, q < G.2.1 → (tbG (bmp G 4 630) G.2.1 T).1 q = G.1 q := fun q hq => tg_out (bmp G 4 630) T (by omega)
  have e2 : (tbG (bmp G 4 630) G.2.1 T).2.1 = G.2.1 + 4 := rfl
  refine ⟨up_s _ _ _, (up_n _ _ (by omega)).trans a2, (up_n _ _ (by omega)).trans a3, (up_n _ _ (by omega)).trans a4, by rw [e2]; omega, a6, fun i hi => ?_, fun i j hi hj hij => ?_, fun j hj => ?_, fun i j hi hj => ?_⟩
  · have hi' : i < sN S + 1 := hi
    rw [up_s, e2]
    show va_up (R 1) (sN S) (some G.2.1) i = some (va_up ti (sN S) G.2.1 i) ∧ tbC (tbG (bmp G 4 630) G.2.1 T) (va_up ti (sN S) G.2.1 i) (va_up (sT S) (sN S) T i) ∧ _
    by_cases e : i = sN S
    · subst e
      rw [up_s, up_s, up_s]
      exact ⟨rfl, tg_C _ _ _, a5, by omega⟩
    · rw [up_n _ _ e, up_n _ _ e, up_n _ _ e]
      obtain ⟨b1, b2, b3, b4⟩ := a7 i (by omega)
      exact ⟨b1, ⟨(out _ (by omega)).trans b2.1, (out _ (by omega)).trans b2.2.1, (out _ (by omega)).trans b2.2.2.1, (out _ (by omega)).trans b2.2.2.2⟩, b3, by omega⟩
  · have hi' : i < sN S + 1 := hi
    have hj' : j < sN S + 1 := hj
    by_cases e : i = sN S
    · have ej : j ≠ sN S := by omega
      obtain ⟨b1, b2, b3, b4⟩ := a7 j (by omega)
      rw [e, up_s, up_n _ _ ej]
      omega
    · by_cases ej : j = sN S
      · obtain ⟨b1, b2, b3, b4⟩ := a7 i (by omega)
        rw [ej, up_s, up_n _ _ e]
        omega
      · rw [up_n _ _ e, up_n _ _ ej]
        exact a8 i j (by omega) (by omega) hij
  · obtain ⟨b1, b2, b3, b4, b5⟩ := a9 j hj
    have hj' : j < sM S := hj
    refine ⟨(congrFun (up_n R _ (show 2 ≠ 1 by omega)) j).trans b1, ?_, (out _ (by omega)).trans b3, b4, by rw [e2]; omega⟩
    rw [out _ (by omega), b2]
    show some (Sum.inr (0, [Value.int (nI (cA S j)), Value.int (nI (cB S j)), Value.ref (ti (cA S j)), Value.ref (ti (cB S j)), Value.ref (ci j + 1)])) = some (Sum.inr (0, [Value.int (nI (cA S j)), Value.int (nI (cB S j)), Value.ref (va_up ti (sN S) G.2.1 (cA S j)), Value.ref (va_up ti (sN S) G.2.1 (cB S j)), Value.ref (ci j + 1)]))
    have c1 := hS.ca hj'
    have c2 := hS.cb hj'
    rw [up_n _ _ (show cA S j ≠ sN S by omega), up_n _ _ (show cB S j ≠ sN S by omega)]
  · have hi' : i < sN S + 1 := hi
    obtain ⟨b1, b2, b3, b4, b5⟩ := a9 j hj
    by_cases e : i = sN S
    · rw [e, up_s]
      omega
    · rw [up_n _ _ e]
      exact a10 i j (by omega) hj
theorem wW_push {S : wS} (h : wW S) (hn : sN S < 8) {T : tb} (hT : tbW T) (ht : tC T = 1 → tld T) : wW (sPu S T) := by
  obtain ⟨a1, a2, a3, a4, a5, a6⟩ := h
  refine ⟨hn, a2, a3, a4, fun j hj => ?_, fun j hj => ?_⟩
  · have hj' : j < sN S + 1 := hj
    show tbW (va_up (sT S) (sN S) T j) ∧ (tC (va_up (sT S) (sN S) T j) = 1 → tld (va_up (sT S) (sN S) T j))
    by_cases e : j = sN S
    · subst e; rw [up_s]; exact ⟨hT, ht⟩
    · rw [up_n _ _ e]; exact a5 j (by omega)
  · obtain ⟨b1, b2, b3, b4, b5⟩ := a6 j hj
    have f1 : sT (sPu S T) (cA S j) = sT S (cA S j) := up_n _ _ (by omega)
    have f2 : sT (sPu S T) (cB S j) = sT S (cB S j) := up_n _ _ (by omega)
    show cA S j < sN S + 1 ∧ cB S j < sN S + 1 ∧ tC (sT (sPu S T) (cA S j)) = 1 ∧ tC (sT (sPu S T) (cB S j)) = 1 ∧ ∀ a, a < tK (sT (sPu S T) (cA S j)) → cR S j a = nI (cg S j a) ∧ cg S j a < tK (sT (sPu S T) (cB S j))
    rw [f1, f2]
    exact ⟨by omega, by omega, b3, b4, b5⟩
theorem iM_push {V : Nat → Int32} {A A' : Nat → Nat → Int32} {S : wS} (hS : wW S) (h : iM V A S) {T : tb} (hT : mT (va_up V 0 (nI (sN S + 1))) A' (sN S + 1) (va_up (sT S) (sN S) T)) (hA : ∀ r : Nat, 10 ≤ r → A' r = A r) : iM (va_up V 0 (nI (sN S + 1))) A' (sPu S T) := by
  obtain ⟨a1, a2, a3, a4, a5, a6⟩ := h
  refine ⟨hT, (up_n _ _ (by omega)).trans a2, (up_n _ _ (by omega)).trans a3, (up_n _ _ (by omega)).trans a4, fun j hj => ?_, fun a ha => by rw [hA 21 (by omega)]; exact a6 a ha⟩
  have hj' : j < sM S := hj
  have c1 := hS.ca hj'
  have f1 : sT (sPu S T) (cA S j) = sT S (cA S j) := up_n _ _ (by omega)
  show A' 10 j = nI (cA S j) ∧ A' 11 j = nI (cB S j) ∧ ∀ a, a < tK (sT (sPu S T) (cA S j)) → A' 12 (24 * j + a) = cR S j a
  rw [hA 10 (by omega), hA 11 (by omega), hA 12 (by omega), f1]
  exact a5 j hj'
section OPSI
variable {sc : az_S} {G G1 : az_H} {B x m : Nat} {V Vm : Nat → Int32} {A Am : Nat → Nat → Int32} {R : Nat → Nat → Option Nat} {S : wS} {ti ci : Nat → Nat} {nt : Nat} {Tb : Nat → tb}
theorem nO4 (K : az_H) (k : Nat → az_H → az_R) : az_nO K 4 k = k K.2.1 (az_psh K (.inr (4, az_df 4)) 6) := rfl
theorem s_keepTable {t n : Nat} {T : tb} (hx : x + 22 < t) (hV : V 0 = nI n) (hn : n < 8) : az_ca sc iX5_keepTable [.ref x, .ref t] (clG (tbG G t T) x V A R) = some (some (.int (nI n)), clG (tbG G t T) x (va_up V 0 (nI (n + 1))) A (va_up R 1 (va_up (R 1) n (some t)))) := by
  have hv : (clG (tbG G t T) x V A R).1 t = some (.inr (az_el 2, tOb t T)) := (cl_out _ _ _ _ (by omega)).trans (tg_C G t T).1
  have h7 : nI (n + 1) - 1 = nI n := by rw [show (1 : Int32) = nI 1 from rfl, pk_sub (by omega)]; rfl
  rw [eX5_keepTable, cl0_i11, hV, if_neg (nI_nlt0 (by omega)), cl0_i11, hV, cl0_r0, ln_s cl_c1, if_pos (nI_lt (by omega) (by omega)), cl0_r0, cl0_i11, hV, sR_s cl_c1 hv (by omega) (by omega), cl_u1, cl0_i11, hV, nI_1, cl0_p11, cl0_i11, up_s, h7]
theorem op_table (h : iC G B V A R S ti ci) (hB : x + 22 ≤ B) (hS : wW S) (hm : iM Vm Am S) (y : Int32) : ∃ (v : Int32) (G' : az_H) (V' : Nat → Int32) (R' : Nat → Nat → Option Nat) (Vm' : Nat → Int32) (Am' : Nat → Nat → Int32) (S' : wS) (ti' : Nat → Nat), az_ca sc iX5_table [.ref x, .int y] (clG G x V A R) = some (some (.int v), clG G' x V' A R') ∧ az_ca sc iX6_table [.ref m, .int y] (mdG G1 m Vm Am) = some (some (.int v), mdG G1 m Vm' Am') ∧ iC G' B V' A R' S' ti' ci ∧ iM Vm' Am' S' ∧ wW S' ∧ (∀ q : Nat, q ≤ B → G'.1 q = G.1 q) ∧ (G'.2.1 + 4 * sN S = G.2.1 + 4 * sN S' ∧ G'.2.2 + 630 * sN S = G.2.2 + 630 * sN S' ∧ sM S' = sM S) := by
  have h8 := hS.1
  have h5 := h.2.2.2.2.1
  by_cases hy : y < 1 ∨ 6 < y
  · refine ⟨-2, G, V, R, Vm, Am, S, ti, ?_, ?_, h, hm, hS, fun _ _ => rfl, rfl, rfl, rfl⟩
    · rw [eX5_table]
      by_cases h1 : y < 1
      · rw [if_pos h1]
      · rw [if_neg h1, if_neg (Int32.not_le.mpr (hy.resolve_left h1))]
    · have hin : ¬ ((1 : Int32) ≤ y ∧ y ≤ 6) := fun z => by
        rcases hy with hy | hy
        · exact absurd z.1 (Int32.not_le.mpr hy)
        · exact absurd z.2 (Int32.not_le.mpr hy)
      rw [eX6_table, m_in, bI_s, if_neg hin, if_neg (by decide)]
  · have h1 : ¬ y < 1 := fun z => hy (Or.inl z)
    have h6 : ¬ 6 < y := fun z => hy (Or.inr z)
    have h1' : 1 ≤ y := Int32.not_lt.mp h1
    have h6' : y ≤ 6 := Int32.not_lt.mp h6
    obtain ⟨n, hn, rfl⟩ : ∃ n : Nat, n < 7 ∧ y = nI n := by
      rcases ix_c y (n := 7) (by omega) with z | z | z
      · exact z
      · exact absurd (Int32.lt_of_lt_of_le z (by decide : (0 : Int32) ≤ 1)) h1
      · exact absurd (Int32.lt_of_lt_of_le (by decide : (6 : Int32) < nI 7) z) h6
    have hn1 : 1 ≤ n := by
      have : nI 1 ≤ nI n := h1'
      rw [nI_leI (by omega) (by omega)] at this
      omega
    have hin : (1 : Int32) ≤ nI n ∧ nI n ≤ 6 := ⟨h1', h6'⟩
    by_cases hk : sN S < 8
    · obtain ⟨A', e1, e2, e3⟩ := m_begins (sc := sc) (G := G1) (m := m) hm.1 hk hn1 (show n ≤ 6 by omega)
      refine ⟨nI (sN S), tbG (bmp G 4 630) G.2.1 (tnw n n), va_up V 0 (nI (sN S + 1)), va_up R 1 (va_up (R 1) (sN S) (some G.2.1)), va_up Vm 0 (nI (sN S + 1)), A', sPu S (tnw n n), va_up ti (sN S) G.2.1, ?_, ?_, iC_push h hS _, iM_push hS hm e2 (fun r hr => e3 r (by omega)), wW_push hS hk (tnw_W hn1 (by omega)) (fun z => by
        rw [(tnw_s n n (by omega)).2.2.1] at z
        exact absurd z (by decide)), fun q hq => tg_out (bmp G 4 630) _ (by omega), ?_, ?_, rfl⟩
      · rw [eX5_table, if_neg h1, if_pos h6', cl0_i11, h.1, if_pos (show nI (sN S) < (8 : Int32) from (show nI (sN S) < nI 8 from nI_lt hk (by omega))), nO4]
        have hi := s_newT (sc := sc) (K := clG G x V A R) hn1 (show n ≤ 6 by omega)
        have e9 : tbG (bmp (clG G x V A R) 4 630) (clG G x V A R).2.1 (tnw n n) = clG (tbG (bmp G 4 630) G.2.1 (tnw n n)) x V A R := tg_cl (G := bmp G 4 630) _ _ _ _ (show x + 22 < G.2.1 by omega)
        rw [e9] at hi
        rw [hi, bV_s, cl_rc0]
        have hkp := s_keepTable (sc := sc) (G := bmp G 4 630) (x := x) (V := V) (A := A) (R := R) (t := G.2.1) (T := tnw n n) (by omega) h.1 hk
        refine Eq.trans (congrArg (fun z => az_bI z _) hkp) ?_
        rw [bI_s]
      · rw [eX6_table, m_in, bI_s, if_pos hin, if_pos (by decide), md_i0, hm.1.1, if_pos (fun z => by
          have z' : nI (sN S) = nI 8 := z
          rw [nI_inj (by omega) (by omega)] at z'
          omega), md_rc, e1, bV_s, md_i0, up_s]
        rw [show (1 : Int32) = nI 1 from rfl, pk_sub (by omega)]
        rfl
      · show G.2.1 + 4 + 4 * sN S = G.2.1 + 4 * (sN S + 1)
        omega
      · show G.2.2 + 630 + 630 * sN S = G.2.2 + 630 * (sN S + 1)
        omega
    · have hk' : sN S = 8 := by omega
      refine ⟨-4, G, V, R, Vm, Am, S, ti, ?_, ?_, h, hm, hS, fun _ _ => rfl, rfl, rfl, rfl⟩
      · rw [eX5_table, if_neg h1, if_pos h6', cl0_i11, h.1, hk', if_neg (by decide)]
      · rw [eX6_table, m_in, bI_s, if_pos hin, if_pos (by decide), md_i0, hm.1.1, hk', if_neg (by decide)]
end OPSI
