/-! OPERATION then -/
def thG (S : wS) (i j k : Nat) : Nat → Int32 := fun a => if a < k then cR S j (cg S i a) else 0
theorem iM_pushC {V : Nat → Int32} {A A' : Nat → Nat → Int32} {S : wS} (hS : wW S) (h : iM V A S) {p q : Nat} {g : Nat → Int32} (hag : agC A A' (sM S)) (h10 : A' 10 (sM S) = nI p) (h11 : A' 11 (sM S) = nI q) (h12 : ∀ a, a < tK (sT S p) → A' 12 (24 * sM S + a) = g a) : iM (va_up V 1 (nI (sM S + 1))) A' (sPc S (p, q, g)) := by
  obtain ⟨a1, a2, a3, a4, a5, a6⟩ := h
  obtain ⟨g1, g2, g3⟩ := hag
  refine ⟨?_, up_s _ _ _, (up_n _ _ (by omega)).trans a3, (up_n _ _ (by omega)).trans a4, fun j hj => ?_, fun a ha => by rw [g1 21 (by omega) (by omega) (by omega)]; exact a6 a ha⟩
  · have h1 := mT_upV (V := V) a1 (j := 1) (by omega) (nI (sM S + 1))
    unfold mT at h1 ⊢
    rw [g1 1 (by omega) (by omega) (by omega), g1 2 (by omega) (by omega) (by omega), g1 3 (by omega) (by omega) (by omega), g1 4 (by omega) (by omega) (by omega), g1 5 (by omega) (by omega) (by omega), g1 6 (by omega) (by omega) (by omega)]
    exact h1
  · have hj' : j < sM S + 1 := hj
    have eA : cA (sPc S (p, q, g)) j = (va_up (sC S) (sM S) (p, q, g) j).1 := rfl
    have eB : cB (sPc S (p, q, g)) j = (va_up (sC S) (sM S) (p, q, g) j).2.1 := rfl
    have eR : cR (sPc S (p, q, g)) j = (va_up (sC S) (sM S) (p, q, g) j).2.2 := rfl
    show A' 10 j = nI (cA (sPc S (p, q, g)) j) ∧ A' 11 j = nI (cB (sPc S (p, q, g)) j) ∧ ∀ a, a < tK (sT S (cA (sPc S (p, q, g)) j)) → A' 12 (24 * j + a) = cR (sPc S (p, q, g)) j a
    rw [eA, eB, eR]
    by_cases e : j = sM S
    · subst e
      rw [up_s]
      exact ⟨h10, h11, h12⟩
    · rw [up_n _ _ e, (g2 j (by omega)).1, (g2 j (by omega)).2]
      obtain ⟨b1, b2, b3⟩ := a5 j (by omega)
      refine ⟨b1, b2, fun a ha => ?_⟩
      have hk := (hS.tw (hS.ca (show j < sM S by omega))).k24
      have ha' : a < tK (sT S (cA S j)) := ha
      rw [g3 (24 * j + a) (by omega)]
      exact b3 a ha
section THEN
variable {sc : az_S} {G G1 K : az_H} {B x m t : Nat} {V Vm : Nat → Int32} {A Am : Nat → Nat → Int32} {R : Nat → Nat → Option Nat} {S : wS} {ti ci : Nat → Nat}
theorem opU_c {c5 c6 : az_R} (h : iC G B V A R S ti ci) (hS : wW S) (hm : iM Vm Am S) (hn : sM S < 24) {p q : Nat} {g : Nat → Int32} {Am' : Nat → Nat → Int32} (hp : p < sN S) (hq : q < sN S) (cp : tC (sT S p) = 1) (cq : tC (sT S q) = 1) (hg : ∀ a, a < tK (sT S p) → g a = nI (g a).toNatClampNeg ∧ (g a).toNatClampNeg < tK (sT S q)) (e1 : c5 = some (some (.int (nI (sM S))), clG (crG (bmp G 2 29) G.2.1 p q (ti p) (ti q) g) x (va_up V 1 (nI (sM S + 1))) A (va_up R 2 (va_up (R 2) (sM S) (some G.2.1))))) (e2 : c6 = some (some (.int (nI (sM S))), mdG G1 m (va_up Vm 1 (nI (sM S + 1))) Am')) (hag : agC Am Am' (sM S)) (h10 : Am' 10 (sM S) = nI p) (h11 : Am' 11 (sM S) = nI q) (h12 : ∀ a, a < tK (sT S p) → Am' 12 (24 * sM S + a) = g a) : opU c5 c6 G G1 B x m S := by
  have h5 := h.2.2.2.2.1
  refine ⟨_, _, _, _, _, _, _, sPc S (p, q, g), ti, _, e1, e2, iC_pushC h g, iM_pushC hS hm hag h10 h11 h12, wW_pushC hS hn hp hq cp cq hg, fun i hi => cg_o (bmp G 2 29) _ _ _ _ _ (by omega), ?_, ?_⟩
  · show G.2.1 + 2 + 4 * sN S + 2 * sM S = G.2.1 + 4 * sN S + 2 * (sM S + 1)
    omega
  · show G.2.2 + 29 + 630 * sN S + 29 * sM S = G.2.2 + 630 * sN S + 29 * (sM S + 1)
    omega
theorem crC_psh {c p q tp tq : Nat} {g : Nat → Int32} {e : va_E} {n : Nat} (h : crC K c p q tp tq g) (hc : c + 1 < K.2.1) : crC (az_psh K e n) c p q tp tq g := ⟨(psh_o _ _ (by omega)).trans h.1, (psh_o _ _ (by omega)).trans h.2⟩
theorem crC_cg {c p q tp tq c' p' q' tp' tq' k s : Nat} {g g' : Nat → Int32} (h : crC K c p q tp tq g) (hc : c + 1 < c') : crC (crG (bmp K k s) c' p' q' tp' tq' g') c p q tp tq g := ⟨(cg_o _ _ _ _ _ _ (by omega)).trans h.1, (cg_o _ _ _ _ _ _ (by omega)).trans h.2⟩
theorem tbC_cg {t c' p' q' tp' tq' k s : Nat} {g' : Nat → Int32} {T : tb} (h : tbC K t T) (hc : t + 3 < c') : tbC (crG (bmp K k s) c' p' q' tp' tq' g') t T :=
  ⟨(cg_o _ _ _ _ _ _ (by omega)).trans h.1, (cg_o _ _ _ _ _ _ (by omega)).trans h.2.1, (cg_o _ _ _ _ _ _ (by omega)).trans h.2.2.1, (cg_o _ _ _ _ _ _ (by omega)).trans h.2.2.2⟩
theorem lt24 {n : Nat} (h : n < 24) : nI n < (24 : Int32) := show nI n < nI 24 from nI_lt h (by omega)
theorem ne24 {n : Nat} (h : n < 24) : ¬ nI n = (24 : Int32) := fun z => by
  have z' : nI n = nI 24 := z
  rw [nI_inj (by omega) (by omega)] at z'
  omega
theorem thG_s (S : wS) (i j k : Nat) : upd (thG S i j k) k (cR S j (cg S i k)) = thG S i j (k + 1) := by
  funext a
  unfold upd thG
  by_cases e : a = k
  · rw [if_pos e, if_pos (by omega), e]
  · rw [if_neg e]
    by_cases e2 : a < k
    · rw [if_pos e2, if_pos (by omega)]
    · rw [if_neg e2, if_neg (by omega)]
theorem s_thenL (h : iC G B V A R S ti ci) (hB : x + 22 ≤ B) (hS : wW S) {i j : Nat} (hi : i < sM S) (hj : j < sM S) (he : cB S i = cA S j) (hn : sM S < 24) (y1 y2 : Int32) : az_rn sc iX5_then 41 [some (.ref x), some (.int y1), some (.int y2), some (.ref (ci i)), some (.ref (ci j)), some (.ref G.2.1), some (.int (nI 0))] [] (clG (crG (bmp G 2 29) G.2.1 (cA S i) (cB S j) (ti (cA S i)) (ti (cB S j)) (fun _ => 0)) x V A R) = some (some (.int (nI (sM S))), clG (crG (bmp G 2 29) G.2.1 (cA S i) (cB S j) (ti (cA S i)) (ti (cB S j)) (thG S i j (tK (sT S (cA S i))))) x (va_up V 1 (nI (sM S + 1))) A (va_up R 2 (va_up (R 2) (sM S) (some G.2.1)))) := by
  have h5 := h.2.2.2.2.1
  have hwA := hS.tw (hS.ca hi)
  have hkA := hwA.k24
  have hwB := hS.tw (hS.ca hj)
  have hkB := hwB.k24
  obtain ⟨-, i1, i2, i3, i4⟩ := h.2.2.2.2.2.2.2.2.1 i hi
  obtain ⟨-, j1, j2, j3, j4⟩ := h.2.2.2.2.2.2.2.2.1 j hj
  obtain ⟨-, tA, tA1, tA2⟩ := h.2.2.2.2.2.2.1 (cA S i) (hS.ca hi)
  have cI : ∀ g : Nat → Int32, crC (clG (crG (bmp G 2 29) G.2.1 (cA S i) (cB S j) (ti (cA S i)) (ti (cB S j)) g) x V A R) (ci i) (cA S i) (cB S i) (ti (cA S i)) (ti (cB S i)) (cR S i) := fun g =>
    ⟨(cl_out _ _ _ _ (by omega)).trans ((cg_o (bmp G 2 29) _ _ _ _ _ (by omega)).trans i1), (cl_out _ _ _ _ (by omega)).trans ((cg_o (bmp G 2 29) _ _ _ _ _ (by omega)).trans i2)⟩
  have cJ : ∀ g : Nat → Int32, crC (clG (crG (bmp G 2 29) G.2.1 (cA S i) (cB S j) (ti (cA S i)) (ti (cB S j)) g) x V A R) (ci j) (cA S j) (cB S j) (ti (cA S j)) (ti (cB S j)) (cR S j) := fun g =>
    ⟨(cl_out _ _ _ _ (by omega)).trans ((cg_o (bmp G 2 29) _ _ _ _ _ (by omega)).trans j1), (cl_out _ _ _ _ (by omega)).trans ((cg_o (bmp G 2 29) _ _ _ _ _ (by omega)).trans j2)⟩
  have cN : ∀ g : Nat → Int32, crC (clG (crG (bmp G 2 29) G.2.1 (cA S i) (cB S j) (ti (cA S i)) (ti (cB S j)) g) x V A R) G.2.1 (cA S i) (cB S j) (ti (cA S i)) (ti (cB S j)) g := fun g =>
    ⟨(cl_out _ _ _ _ (by omega)).trans (cg_C _ _ _ _ _ _ _).1, (cl_out _ _ _ _ (by omega)).trans (cg_C _ _ _ _ _ _ _).2⟩
  have cT : ∀ g : Nat → Int32, tbC (clG (crG (bmp G 2 29) G.2.1 (cA S i) (cB S j) (ti (cA S i)) (ti (cB S j)) g) x V A R) (ti (cA S i)) (sT S (cA S i)) := fun g =>
    tbC_cl (tbC_cg tA (by omega)) (by omega) _ _ _
  have loop : ∀ d a, a + d = tK (sT S (cA S i)) → az_rn sc iX5_then 41 [some (.ref x), some (.int y1), some (.int y2), some (.ref (ci i)), some (.ref (ci j)), some (.ref G.2.1), some (.int (nI a))] [] (clG (crG (bmp G 2 29) G.2.1 (cA S i) (cB S j) (ti (cA S i)) (ti (cB S j)) (thG S i j a)) x V A R) = some (some (.int (nI (sM S))), clG (crG (bmp G 2 29) G.2.1 (cA S i) (cB S j) (ti (cA S i)) (ti (cB S j)) (thG S i j (tK (sT S (cA S i))))) x (va_up V 1 (nI (sM S + 1))) A (va_up R 2 (va_up (R 2) (sM S) (some G.2.1)))) := by
    intro d
    induction d with
    | zero =>
      intro a ha
      have e : a = tK (sT S (cA S i)) := by omega
      subst e
      rw [bX5_then_41, cr_f2 (cI _), tb_f1 (cT _), if_pos (nI_le (Nat.le_refl _) (by omega)), cl_rc0, s_keepCarrier (G := bmp G 2 29) (by omega) h.2.1 hn, bI_s]
    | succ d ih =>
      intro a ha
      have hak : a < tK (sT S (cA S i)) := by omega
      have hgk := hS.cgk hi hak
      rw [he] at hgk
      rw [bX5_then_41, cr_f2 (cI _), tb_f1 (cT _), if_neg (nI_ge hak (by omega)), cr_f4 (cN _), cr_rc (cI _), s_givenTo (cI _) (by omega), bI_s, hS.cr hi hak, cr_rc (cJ _), s_givenTo (cJ _) (by omega), bI_s, s_write (cN _).2 (by omega) (by omega), bV_s, cl_setd _ _ _ _ (by omega), cg_u, thG_s, nI_1]
      exact ih (a + 1) (by omega)
  exact loop (tK (sT S (cA S i))) 0 (by omega)
theorem m_thenL {A1 : Nat → Nat → Int32} {i j p k : Nat} {g : Nat → Int32} (hi : i < 24) (hj : j < 24) (hp : p < 8) (hk : k ≤ 24) (h10 : A1 10 i = nI p) (h2 : A1 2 p = nI k) (hg : ∀ a, a < k → ∃ c : Nat, c < 24 ∧ A1 12 (24 * i + a) = nI c ∧ A1 12 (24 * j + c) = g a) : ∃ f : Nat → Int32, az_rn sc iX6_then 45 [some (.ref m), some (.int (nI i)), some (.int (nI j)), some (.int (nI 0))] [] (mdG G1 m Vm A1) = az_bI (az_ca sc iX6_keeps [.ref m] (mdG G1 m Vm (va_up A1 12 f))) (fun x G => some (some (.int x), G)) ∧ (∀ z, z < 576 → f z = A1 12 z) ∧ ∀ a, a < k → f (576 + a) = g a := by
  have loop : ∀ d a (f : Nat → Int32), a + d = k → (∀ z, z < 576 → f z = A1 12 z) → (∀ a', a' < a → f (576 + a') = g a') → ∃ f' : Nat → Int32, az_rn sc iX6_then 45 [some (.ref m), some (.int (nI i)), some (.int (nI j)), some (.int (nI a))] [] (mdG G1 m Vm (va_up A1 12 f)) = az_bI (az_ca sc iX6_keeps [.ref m] (mdG G1 m Vm (va_up A1 12 f'))) (fun x G => some (some (.int x), G)) ∧ (∀ z, z < 576 → f' z = A1 12 z) ∧ ∀ a, a < k → f' (576 + a) = g a := by
    intro d
    induction d with
    | zero =>
      intro a f ha hf hfa
      have e : a = k := by omega
      subst e
      refine ⟨f, ?_, hf, hfa⟩
      rw [bX6_then_45, md_r2, md_r11, md_a10 (by omega), up_n _ _ (show 10 ≠ 12 by omega), h10, md_a2 hp, up_n _ _ (show 2 ≠ 12 by omega), h2, if_pos (nI_le (Nat.le_refl _) (by omega)), md_rc]
    | succ d ih =>
      intro a f ha hf hfa
      obtain ⟨c, c1, c2, c3⟩ := hg a (by omega)
      rw [bX6_then_45, md_r2, md_r11, md_a10 (by omega), up_n _ _ (show 10 ≠ 12 by omega), h10, md_a2 hp, up_n _ _ (show 2 ≠ 12 by omega), h2, if_neg (nI_ge (show a < k by omega) (by omega)), md_r13, md_r13, md_r13, n24, md_a12 (by omega), up_s, hf _ (by omega), c2, n24, md_a12 (by omega), up_s, hf _ (by omega), c3, n576b, md_s12 (by omega), up_s, up_up, nI_1]
      refine ih (a + 1) _ (by omega) (fun z hz => ?_) (fun a' ha' => ?_)
      · rw [upd_n _ _ (by omega)]; exact hf z hz
      · by_cases e : a' = a
        · subst e; rw [upd_s]
        · rw [upd_n _ _ (by omega)]; exact hfa a' (by omega)
  obtain ⟨f, f1, f2, f3⟩ := loop k 0 (A1 12) (by omega) (fun _ _ => rfl) (fun a ha => absurd ha (Nat.not_lt_zero _))
  rw [up_id] at f1
  exact ⟨f, f1, f2, f3⟩
theorem op_then (h : iC G B V A R S ti ci) (hB : x + 22 ≤ B) (hS : wW S) (hm : iM Vm Am S) (y1 y2 : Int32) : opU (az_ca sc iX5_then [.ref x, .int y1, .int y2] (clG G x V A R)) (az_ca sc iX6_then [.ref m, .int y1, .int y2] (mdG G1 m Vm Am)) G G1 B x m S := by
  have h24 := hS.2.1
  have h8 := hS.1
  have h5 := h.2.2.2.2.1
  rcases ix_c y1 (n := sM S) (by omega) with ⟨i, hi, rfl⟩ | hy1
  · rcases ix_c y2 (n := sM S) (by omega) with ⟨j, hj, rfl⟩ | hy2
    · have cI := h.car (x := x) hB hi V A R
      have cJ := h.car (x := x) hB hj V A R
      have bI' := hS.cb hi
      have aI' := hS.ca hi
      have aJ := hS.ca hj
      have bJ := hS.cb hj
      have mI := hm.2.2.2.2.1 i hi
      have mJ := hm.2.2.2.2.1 j hj
      by_cases he : cB S i = cA S j
      · by_cases hn : sM S < 24
        · have hkA := (hS.tw aI').k24
          have lI : ci i + 1 < G.2.1 := (h.2.2.2.2.2.2.2.2.1 i hi).2.2.2.2
          have lJ : ci j + 1 < G.2.1 := (h.2.2.2.2.2.2.2.2.1 j hj).2.2.2.2
          have t10 : ∀ (A : Nat → Nat → Int32) (v : Int32) (k : az_H → az_R), az_sI (mdG G1 m Vm A) 0 (m + 10) 24 v k = k (mdG G1 m Vm (va_up A 10 (upd (A 10) 24 v))) := fun A v k => md_s10 (i := 24) (by omega) v k
          have t11 : ∀ (A : Nat → Nat → Int32) (v : Int32) (k : az_H → az_R), az_sI (mdG G1 m Vm A) 0 (m + 11) 24 v k = k (mdG G1 m Vm (va_up A 11 (upd (A 11) 24 v))) := fun A v k => md_s11 (i := 24) (by omega) v k
          obtain ⟨A1, hA1⟩ : ∃ A1, A1 = va_up (va_up Am 10 (upd (Am 10) 24 (Am 10 i))) 11 (upd (Am 11) 24 (Am 11 j)) := ⟨_, rfl⟩
          have r10 : A1 10 = upd (Am 10) 24 (Am 10 i) := by rw [hA1, up_n _ _ (show 10 ≠ 11 by omega), up_s]
          have r11 : A1 11 = upd (Am 11) 24 (Am 11 j) := by rw [hA1, up_s]
          have rr : ∀ r : Nat, r ≠ 10 → r ≠ 11 → A1 r = Am r := fun r h1 h2 => by rw [hA1, up_n _ _ h2, up_n _ _ h1]
          obtain ⟨f, f1, f2, f3⟩ := m_thenL (sc := sc) (G1 := G1) (m := m) (Vm := Vm) (A1 := A1) (i := i) (j := j) (p := cA S i) (k := tK (sT S (cA S i))) (g := thG S i j (tK (sT S (cA S i)))) (by omega) (by omega) (by omega) hkA (by rw [r10, upd_n _ _ (by omega)]; exact mI.1) (by rw [rr 2 (by omega) (by omega)]; exact hm.1.a aI') (fun a ha => by
            have hgk := hS.cgk hi ha
            have hkB := (hS.tw bI').k24
            refine ⟨cg S i a, by omega, ?_, ?_⟩
            · rw [rr 12 (by omega) (by omega), mI.2.2 a ha]
              exact hS.cr hi ha
            · rw [rr 12 (by omega) (by omega), mJ.2.2 _ (by rw [← he]; exact hgk)]
              unfold thG
              rw [if_pos ha])
          obtain ⟨A2, k1, ⟨k2, k3, k4⟩, k5, k6, k7⟩ := m_keeps (sc := sc) (G := G1) (m := m) (V := Vm) (A := va_up A1 12 f) (n := sM S) hm.2.1 hn
          refine opU_c (p := cA S i) (q := cB S j) (g := thG S i j (tK (sT S (cA S i)))) (Am' := A2) h hS hm hn aI' bJ (hS.cac hi) (hS.cbc hj) (fun a ha => ?_) ?_ ?_ ⟨fun r q1 q2 q3 => ?_, fun j' hj' => ?_, fun q hq => ?_⟩ ?_ ?_ (fun a ha => ?_)
          · unfold thG
            rw [if_pos ha]
            have hgk := hS.cgk hi ha
            rw [he] at hgk
            exact ⟨hS.cr hj hgk, hS.cgk hj hgk⟩
          · have e9 : crG (bmp (clG G x V A R) 2 29) (clG G x V A R).2.1 (cA S i) (cB S j) (ti (cA S i)) (ti (cB S j)) (fun _ => 0) = clG (crG (bmp G 2 29) G.2.1 (cA S i) (cB S j) (ti (cA S i)) (ti (cB S j)) (fun _ => 0)) x V A R := cg_cl (G := bmp G 2 29) _ _ _ _ _ _ _ _ (show x + 22 < G.2.1 by omega)
            rw [eX5_then, cl_rc0, s_carrierAt h hS hi, bR_s, cl_rc0, s_carrierAt h hS hj, bR_s, cr_f1 cI, cr_f0 cJ, ite_nI (by omega) (by omega), if_pos he, cl0_i12, h.2.1, if_pos (lt24 hn), nO0, cr_f0 (crC_psh cI lI), cr_f1 (crC_psh cJ lJ), cr_f2 (crC_psh cI lI), cr_f3 (crC_psh cJ lJ), s_newC, bV_s, e9]
            exact s_thenL h hB hS hi hj he hn _ _
          · rw [eX6_then, md_rc, m_isCarrierT hm hS hi, bI_s, if_neg (by decide), md_rc, m_isCarrierT hm hS hj, bI_s, if_pos (by decide), md_r12, md_a11 (by omega), md_r11, md_a10 (by omega), mI.2.1, mJ.1, ite_nI (by omega) (by omega), if_pos he, md_i10, hm.2.1, if_pos (ne24 hn), md_r11, md_r11, md_a10 (by omega), t10, md_r12, md_r12, md_a11 (by omega), t11, up_n _ _ (show 11 ≠ 10 by omega), ← hA1]
            refine f1.trans ?_
            rw [k1, bI_s]
          · rw [k2 r q1 q2 q3, up_n _ _ q3, rr r q1 q2]
          · rw [(k3 j' hj').1, (k3 j' hj').2, up_n _ _ (show 10 ≠ 12 by omega), up_n _ _ (show 11 ≠ 12 by omega), r10, r11, upd_n _ _ (by omega), upd_n _ _ (by omega)]
            exact ⟨rfl, rfl⟩
          · rw [k4 q hq, up_s, f2 q (by omega), rr 12 (by omega) (by omega)]
          · rw [k5, up_n _ _ (show 10 ≠ 12 by omega), r10, upd_s]
            exact mI.1
          · rw [k6, up_n _ _ (show 11 ≠ 12 by omega), r11, upd_s]
            exact mJ.2.1
          · rw [k7 a (by omega), up_s]
            exact f3 a ha
        · have hn' : sM S = 24 := by omega
          refine opU_n h hS hm (-4) ?_ ?_
          · rw [eX5_then, cl_rc0, s_carrierAt h hS hi, bR_s, cl_rc0, s_carrierAt h hS hj, bR_s, cr_f1 cI, cr_f0 cJ, ite_nI (by omega) (by omega), if_pos he, cl0_i12, h.2.1, hn', if_neg (by decide)]
          · rw [eX6_then, md_rc, m_isCarrierT hm hS hi, bI_s, if_neg (by decide), md_rc, m_isCarrierT hm hS hj, bI_s, if_pos (by decide), md_r12, md_a11 (by omega), md_r11, md_a10 (by omega), mI.2.1, mJ.1, ite_nI (by omega) (by omega), if_pos he, md_i10, hm.2.1, hn', if_neg (by decide)]
      · refine opU_n h hS hm (-3) ?_ ?_
        · rw [eX5_then, cl_rc0, s_carrierAt h hS hi, bR_s, cl_rc0, s_carrierAt h hS hj, bR_s, cr_f1 cI, cr_f0 cJ, ite_nI (by omega) (by omega), if_neg he]
        · rw [eX6_then, md_rc, m_isCarrierT hm hS hi, bI_s, if_neg (by decide), md_rc, m_isCarrierT hm hS hj, bI_s, if_pos (by decide), md_r12, md_a11 (by omega), md_r11, md_a10 (by omega), mI.2.1, mJ.1, ite_nI (by omega) (by omega), if_neg he]
    · refine opU_n h hS hm (-2) ?_ ?_
      · rw [eX5_then, cl_rc0, s_carrierAt h hS hi, bR_s, cl_rc0, s_carrierAtN h hy2, bR_0]
      · rw [eX6_then, md_rc, m_isCarrierT hm hS hi, bI_s, if_neg (by decide), md_rc, m_isCarrierN hm hS hy2, bI_s, if_neg (by decide)]
  · refine opU_n h hS hm (-2) ?_ ?_
    · rcases ix_c y2 (n := sM S) (by omega) with ⟨j, hj, rfl⟩ | hy2
      · rw [eX5_then, cl_rc0, s_carrierAtN h hy1, bR_0, cl_rc0, s_carrierAt h hS hj, bR_s]
      · rw [eX5_then, cl_rc0, s_carrierAtN h hy1, bR_0, cl_rc0, s_carrierAtN h hy2, bR_0]
    · rw [eX6_then, md_rc, m_isCarrierN hm hS hy1, bI_s, if_pos rfl]
end THEN
