/-! OPERATION beside: the model's side -/
def beR (T U : tb) (A : Nat → Nat → Int32) (c : Nat) : Prop := ∀ x, x < c → A 8 x = nI (ePp T U x) ∧ A 9 x = nI (eQq T U x)
theorem beR_s {T U : tb} {A : Nat → Nat → Int32} {c : Nat} (h : beR T U A c) : beR T U (va_up (va_up A 8 (upd (A 8) c (nI (ePp T U c)))) 9 (upd (A 9) c (nI (eQq T U c)))) (c + 1) := by
  intro x hx
  rw [up_n _ _ (show 8 ≠ 9 by omega), up_s, up_s]
  by_cases e : x = c
  · subst e
    rw [upd_s, upd_s]
    exact ⟨rfl, rfl⟩
  · rw [upd_n _ _ e, upd_n _ _ e]
    exact h x (by omega)
theorem beR_A {T U : tb} {A A' : Nat → Nat → Int32} {c : Nat} (h : beR T U A c) (h8 : A' 8 = A 8) (h9 : A' 9 = A 9) : beR T U A' c := fun x hx => by
  rw [h8, h9]; exact h x hx
theorem dv_s {y : Int32} (h : ¬ y = 0) (k : az_R) : az_dv y k = k := if_neg h
section BEMO
variable {sc : az_S} {G : az_H} {m : Nat} {V : Nat → Int32} {A : Nat → Nat → Int32} {nt : Nat} {Tb : Nat → tb} {T U B : tb}
theorem m_besideL (h : mT V A (nt + 1) (va_up Tb nt (tnw (tN T * tN U) (tN T * tN U)))) (wTT : tbW T) (wU : tbW U) (tT : tld T) (tU : tld U) (h6 : tN T * tN U ≤ 6) (h24 : tK T * tK U ≤ 24) {i j : Nat} (hi : i < nt) (hj : j < nt) (eT : Tb i = T) (eU : Tb j = U) : ∃ A' : Nat → Nat → Int32, az_rn sc iX6_beside 64 [some (.ref m), some (.int (nI i)), some (.int (nI j)), some (.int (nI (tN T))), some (.int (nI (tN U))), some (.int (nI nt)), some (.int 0), none, none, none, none] [] (mdG G m V A) = some (some (.int (nI nt)), mdG G m V A') ∧ mT V A' (nt + 1) (va_up Tb nt (beF T U)) ∧ ∀ r : Nat, 10 ≤ r → A' r = A r := by
  have k1 := wTT.k24
  have k2 := wU.k24
  have n1 := wTT.n6
  have n2 := wU.n6
  have n1' := wU.n1
  have nkT := wTT.nk
  have nkU := wU.nk
  have nk := be_nk wTT wU
  have h8 := h.2.1
  have hTi : ∀ W, va_up Tb nt W i = T := fun W => (up_n _ _ (by omega)).trans eT
  have hUj : ∀ W, va_up Tb nt W j = U := fun W => (up_n _ _ (by omega)).trans eU
  have hend : tN T * tN U + bdx (tN T) (tN U) (tK U) (tK T) 0 = tK T * tK U := bdx_e nkT nkU
  obtain ⟨B, hB⟩ : ∃ B, beA T U (tK T * tK U - tN T * tN U) = B := ⟨_, rfl⟩
  obtain ⟨i1, i2, i3, i4, i5⟩ := beB_s wTT wU h6 h24 hB
  have hm0 : ¬ nI (tN U) = (0 : Int32) := fun z => by
    have z' : nI (tN U) = nI 0 := z
    rw [nI_inj (by omega) (by omega)] at z'
    omega
  have l64 : ∀ e c A', c + e = tN T * tN U → mT V A' (nt + 1) (va_up Tb nt (beA T U 0)) → beR T U A' c → (∀ r : Nat, 10 ≤ r → A' r = A r) → ∃ A'', az_rn sc iX6_beside 64 [some (.ref m), some (.int (nI i)), some (.int (nI j)), some (.int (nI (tN T))), some (.int (nI (tN U))), some (.int (nI nt)), some (.int (nI c)), none, none, none, none] [] (mdG G m V A') = az_rn sc iX6_beside 87 [some (.ref m), some (.int (nI i)), some (.int (nI j)), some (.int (nI (tN T))), some (.int (nI (tN U))), some (.int (nI nt)), some (.int (nI 0)), none, none, none, none] [] (mdG G m V A'') ∧ mT V A'' (nt + 1) (va_up Tb nt (beA T U 0)) ∧ beR T U A'' (tN T * tN U) ∧ ∀ r : Nat, 10 ≤ r → A'' r = A r := by
    intro e
    induction e with
    | zero =>
      intro c A' hc hA hR hr
      have e2 : c = tN T * tN U := by omega
      subst e2
      refine ⟨A', ?_, hA, hR, hr⟩
      rw [bX6_beside_64, pk_mul, if_pos (nI_le (Nat.le_refl _) (by omega))]
      rfl
    | succ e ih =>
      intro c A' hc hA hR hr
      have hcl : c < tN T * tN U := by omega
      have ep : ePp T U c = c / tN U := if_pos hcl
      have eq : eQq T U c = c % tN U := if_pos hcl
      rw [bX6_beside_64, pk_mul, if_neg (nI_ge hcl (by omega)), md_r8, dv_s hm0, pk_div (by omega) (by omega) (by omega), md_s8 (by omega), md_r9, dv_s hm0, ← pk_div (a := c) (by omega) (show 0 < tN U by omega) (by omega), pk_rem (by omega) (by omega) (by omega), md_s9 (by omega), pk_div (by omega) (by omega) (by omega), nI_1, up_n _ _ (show 9 ≠ 8 by omega), ← ep, ← eq]
      refine ih (c + 1) _ (by omega) (mT_up (mT_up hA (by omega) _) (by omega) _) (beR_s hR) (fun r hr' => ?_)
      rw [up_n _ _ (by omega), up_n _ _ (by omega)]
      exact hr r hr'
  have l95 : ∀ a, a < tK T → ∀ e b A' (o8 : Option Value), b + e = tK U → mT V A' (nt + 1) (va_up Tb nt (beA T U (bdx (tN T) (tN U) (tK U) a b))) → beR T U A' (tN T * tN U + bdx (tN T) (tN U) (tK U) a b) → (∀ r : Nat, 10 ≤ r → A' r = A r) → ∃ (A'' : Nat → Nat → Int32) (o8' : Option Value), az_rn sc iX6_beside 95 [some (.ref m), some (.int (nI i)), some (.int (nI j)), some (.int (nI (tN T))), some (.int (nI (tN U))), some (.int (nI nt)), some (.int (nI a)), some (.int (nI b)), o8, none, none] [] (mdG G m V A') = az_rn sc iX6_beside 87 [some (.ref m), some (.int (nI i)), some (.int (nI j)), some (.int (nI (tN T))), some (.int (nI (tN U))), some (.int (nI nt)), some (.int (nI (a + 1))), some (.int (nI (tK U))), o8', none, none] [] (mdG G m V A'') ∧ mT V A'' (nt + 1) (va_up Tb nt (beA T U (bdx (tN T) (tN U) (tK U) (a + 1) 0))) ∧ beR T U A'' (tN T * tN U + bdx (tN T) (tN U) (tK U) (a + 1) 0) ∧ ∀ r : Nat, 10 ≤ r → A'' r = A r := by
    intro a ha e
    induction e with
    | zero =>
      intro b A' o8 hb hA hR hr
      have e2 : b = tK U := by omega
      subst e2
      refine ⟨A', o8, ?_, by rw [bdx_r]; exact hA, by rw [bdx_r]; exact hR, hr⟩
      rw [bX6_beside_95, md_r2, md_a2 (by omega), hA.a2 (by omega) (hUj _), if_pos (nI_le (Nat.le_refl _) (by omega)), nI_1]
    | succ e ih =>
      intro b A' o8 hb hA hR hr
      have hb' : b < tK U := by omega
      by_cases hs : a < tN T ∧ b < tN U
      · have e1 := ih (b + 1) A' o8 (by omega)
        rw [bdx_s0 hs.1 hs.2] at e1
        rw [bX6_beside_95, md_r2, md_a2 (by omega), hA.a2 (by omega) (hUj _), if_neg (nI_ge hb' (by omega)), if_neg (nI_ge hs.1 (by omega)), if_pos (nI_lt hs.2 (by omega)), nI_1]
        exact e1 hA hR hr
      · have hx' : eMm T U a b = tN T * tN U + bdx (tN T) (tN U) (tK U) a b := bdx_nb hs
        have hlt : eMm T U a b < tK T * tK U := bnb_lt nkT nkU ha hb'
        have hpq : ePp T U (eMm T U a b) = a ∧ eQq T U (eMm T U a b) = b := bp_nb nkU hb'
        rw [hx'] at hlt hpq
        obtain ⟨j1, j2, j3, j4, j5⟩ := beA_s wTT wU h6 h24 (bdx (tN T) (tN U) (tK U) a b) (by omega)
        have f1 := be_lt (wTT.frn ha) (wU.frn hb')
        have f2 := be_lt (wTT.ton ha) (wU.ton hb')
        have e0 : beA T U (bdx (tN T) (tN U) (tK U) a b + 1) = aAr (beA T U (bdx (tN T) (tN U) (tK U) a b)) (fr T a * tN U + fr U b) (to T a * tN U + to U b) := by
          show aAr _ (fr T (ePp T U _) * tN U + fr U (eQq T U _)) (to T (ePp T U _) * tN U + to U (eQq T U _)) = _
          rw [hpq.1, hpq.2]
        have hc : A' 2 nt = nI (tN T * tN U + bdx (tN T) (tN U) (tK U) a b) := by rw [hA.a2 (i := nt) (by omega) (up_s _ _ _), j3]
        have hn := mT_arrow2 hA (p := fr T a * tN U + fr U b) (q := to T a * tN U + to U b) (by omega) (by omega) (by omega)
        rw [j3] at hn
        have e1 := ih (b + 1)
        rw [bdx_s1 hs, e0] at e1
        have hR2 := beR_s (beR_A (A' := va_up (va_up (va_up A' 4 (upd (A' 4) (24 * nt + (tN T * tN U + bdx (tN T) (tN U) (tK U) a b)) (nI (fr T a * tN U + fr U b)))) 5 (upd (A' 5) (24 * nt + (tN T * tN U + bdx (tN T) (tN U) (tK U) a b)) (nI (to T a * tN U + to U b)))) 2 (upd (A' 2) nt (nI (tN T * tN U + bdx (tN T) (tN U) (tK U) a b + 1)))) hR (by rw [up_n _ _ (by omega), up_n _ _ (by omega), up_n _ _ (by omega)]) (by rw [up_n _ _ (by omega), up_n _ _ (by omega), up_n _ _ (by omega)]))
        rw [hpq.1, hpq.2] at hR2
        have e2 := e1 _ (some (.int (nI (tN T * tN U + bdx (tN T) (tN U) (tK U) a b)))) (by omega) (mT_up (mT_up hn (show 7 ≤ 8 by omega) _) (show 7 ≤ 9 by omega) _) hR2 (fun r hr' => by
          rw [up_n _ _ (by omega), up_n _ _ (by omega), up_n _ _ (by omega), up_n _ _ (by omega), up_n _ _ (by omega)]
          exact hr r hr')
        obtain ⟨A'', o8', e3, e4⟩ := e2
        refine ⟨A'', o8', ?_, e4⟩
        rw [bX6_beside_95, md_r2, md_a2 (by omega), hA.a2 (by omega) (hUj _), if_neg (nI_ge hb' (by omega))]
        by_cases h1 : a < tN T
        · rw [if_neg (nI_ge h1 (by omega)), if_neg (nI_nlt (show tN U ≤ b by omega) (by omega)), md_rc, m_from2 hA (by omega) (hTi _) ha, bI_s, md_rc, m_from2 hA (by omega) (hUj _) hb', bI_s, md_rc, m_to2 hA (by omega) (hTi _) ha, bI_s, md_rc, m_to2 hA (by omega) (hUj _) hb', bI_s, pk_mul, pk_mul, nI_add, nI_add, Nat.mul_comm (tN U), Nat.mul_comm (tN U), md_rc, m_comes (by omega) (by omega) hc, bI_s, md_r8, md_s8 (by omega), md_r9, md_s9 (by omega), up_n _ _ (show 9 ≠ 8 by omega), nI_1]
          exact e3
        · rw [if_pos (nI_le (show tN T ≤ a by omega) (by omega)), md_rc, m_from2 hA (by omega) (hTi _) ha, bI_s, md_rc, m_from2 hA (by omega) (hUj _) hb', bI_s, md_rc, m_to2 hA (by omega) (hTi _) ha, bI_s, md_rc, m_to2 hA (by omega) (hUj _) hb', bI_s, pk_mul, pk_mul, nI_add, nI_add, Nat.mul_comm (tN U), Nat.mul_comm (tN U), md_rc, m_comes (by omega) (by omega) hc, bI_s, md_r8, md_s8 (by omega), md_r9, md_s9 (by omega), up_n _ _ (show 9 ≠ 8 by omega), nI_1]
          exact e3
  have l87 : ∀ e a A' (o7 o8 : Option Value), a + e = tK T → mT V A' (nt + 1) (va_up Tb nt (beA T U (bdx (tN T) (tN U) (tK U) a 0))) → beR T U A' (tN T * tN U + bdx (tN T) (tN U) (tK U) a 0) → (∀ r : Nat, 10 ≤ r → A' r = A r) → ∃ (A'' : Nat → Nat → Int32) (o7' o8' : Option Value), az_rn sc iX6_beside 87 [some (.ref m), some (.int (nI i)), some (.int (nI j)), some (.int (nI (tN T))), some (.int (nI (tN U))), some (.int (nI nt)), some (.int (nI a)), o7, o8, none, none] [] (mdG G m V A') = az_rn sc iX6_beside 149 [some (.ref m), some (.int (nI i)), some (.int (nI j)), some (.int (nI (tN T))), some (.int (nI (tN U))), some (.int (nI nt)), some (.int (nI 0)), o7', o8', none, none] [] (mdG G m V A'') ∧ mT V A'' (nt + 1) (va_up Tb nt B) ∧ beR T U A'' (tK T * tK U) ∧ ∀ r : Nat, 10 ≤ r → A'' r = A r := by
    intro e
    induction e with
    | zero =>
      intro a A' o7 o8 hae hA hR hr
      have e2 : a = tK T := by omega
      subst e2
      have e3 : bdx (tN T) (tN U) (tK U) (tK T) 0 = tK T * tK U - tN T * tN U := by omega
      rw [hend] at hR
      rw [e3, hB] at hA
      refine ⟨A', o7, o8, ?_, hA, hR, hr⟩
      rw [bX6_beside_87, md_r2, md_a2 (by omega), hA.a2 (by omega) (hTi _), if_pos (nI_le (Nat.le_refl _) (by omega))]
      rfl
    | succ e ih =>
      intro a A' o7 o8 hae hA hR hr
      obtain ⟨A2, o8', e2, e3, e4, e5⟩ := l95 a (by omega) (tK U) 0 A' o8 (by omega) hA hR hr
      obtain ⟨A3, o7'', o8'', e6, e7⟩ := ih (a + 1) A2 (some (.int (nI (tK U)))) o8' (by omega) e3 e4 e5
      refine ⟨A3, o7'', o8'', ?_, e7⟩
      rw [bX6_beside_87, md_r2, md_a2 (by omega), hA.a2 (by omega) (hTi _), if_neg (nI_ge (show a < tK T by omega) (by omega))]
      exact e2.trans e6
  have l198 : ∀ (x y : Nat) A', x < tK T * tK U → y < tK T * tK U → (to T (ePp T U x) = fr T (ePp T U y) ∧ to U (eQq T U x) = fr U (eQq T U y)) → beR T U A' (tK T * tK U) → ∀ e c, c + e = bev T U x y → az_rn sc iX6_beside 198 [some (.ref m), some (.int (nI i)), some (.int (nI j)), some (.int (nI (tN T))), some (.int (nI (tN U))), some (.int (nI nt)), some (.int (nI x)), some (.int (nI y)), some (.int (nI (wn T (ePp T U x) (ePp T U y)))), some (.int (nI (wn U (eQq T U x) (eQq T U y)))), some (.int (nI c))] [] (mdG G m V A') = az_rn sc iX6_beside 157 [some (.ref m), some (.int (nI i)), some (.int (nI j)), some (.int (nI (tN T))), some (.int (nI (tN U))), some (.int (nI nt)), some (.int (nI x)), some (.int (nI (y + 1))), some (.int (nI (wn T (ePp T U x) (ePp T U y)))), some (.int (nI (wn U (eQq T U x) (eQq T U y)))), some (.int (nI (bev T U x y)))] [] (mdG G m V (va_up A' 6 (upd (A' 6) (576 * nt + 24 * x + y) (nI (bev T U x y))))) := by
    intro x y A' hx hy hxy hR
    obtain ⟨v1, v2, v3, v4, v5⟩ := bev_t wTT wU h6 h24 hB tT tU hx hy hxy
    obtain ⟨x1, x2, x3⟩ := be_pq wTT wU hx
    obtain ⟨y1, y2, y3⟩ := be_pq wTT wU hy
    obtain ⟨a1, a2, a3, a4⟩ := wn_t wTT tT x1 y1 hxy.1
    obtain ⟨b1, b2, b3, b4⟩ := wn_t wU tU x2 y2 hxy.2
    intro e
    induction e with
    | zero =>
      intro c hc
      have e2 : c = bev T U x y := by omega
      subst e2
      obtain ⟨r1, r2⟩ := hR _ v1
      rw [bX6_beside_198, md_r8, md_a8 (by omega), r1, v2, if_neg (fun z => z rfl), md_r9, md_a9 (by omega), r2, v3, if_pos rfl, md_r6, n576, md_s6 (by omega), nI_1]
    | succ e ih =>
      intro c hc
      have hcl : c < tK T * tK U := by omega
      obtain ⟨r1, r2⟩ := hR c hcl
      obtain ⟨p1, p2, p3⟩ := be_pq wTT wU hcl
      rw [bX6_beside_198, md_r8, md_a8 (by omega), r1, ite_nnI (by omega) (by omega), nI_1]
      by_cases e1 : ePp T U c = wn T (ePp T U x) (ePp T U y)
      · rw [if_neg (fun z => z e1), md_r9, md_a9 (by omega), r2, ite_nI (by omega) (by omega)]
        have e2 : ¬ eQq T U c = wn U (eQq T U x) (eQq T U y) := by
          intro z
          rw [e1, z] at p3
          have p4 : bev T U x y = c := p3
          omega
        rw [if_neg e2]
        exact ih (c + 1) (by omega)
      · rw [if_pos e1]
        exact ih (c + 1) (by omega)
  have l157 : ∀ (W : tb) (x : Nat), shp B W → tbW W → x < tK T * tK U → ∀ e y A' (o8 o9 o10 : Option Value), y + e = tK T * tK U → mT V A' (nt + 1) (va_up Tb nt (twB (bef T U) W x y)) → beR T U A' (tK T * tK U) → (∀ r : Nat, 10 ≤ r → A' r = A r) → ∃ (A'' : Nat → Nat → Int32) (o8' o9' o10' : Option Value), az_rn sc iX6_beside 157 [some (.ref m), some (.int (nI i)), some (.int (nI j)), some (.int (nI (tN T))), some (.int (nI (tN U))), some (.int (nI nt)), some (.int (nI x)), some (.int (nI y)), o8, o9, o10] [] (mdG G m V A') = az_rn sc iX6_beside 149 [some (.ref m), some (.int (nI i)), some (.int (nI j)), some (.int (nI (tN T))), some (.int (nI (tN U))), some (.int (nI nt)), some (.int (nI (x + 1))), some (.int (nI (tK T * tK U))), o8', o9', o10'] [] (mdG G m V A'') ∧ mT V A'' (nt + 1) (va_up Tb nt (twB (bef T U) W x (tK T * tK U))) ∧ beR T U A'' (tK T * tK U) ∧ ∀ r : Nat, 10 ≤ r → A'' r = A r := by
    intro W x hs hWW hx e
    have hgd := bef_gd wTT wU h6 h24 hB tT tU
    induction e with
    | zero =>
      intro y A' o8 o9 o10 hy hA hR hr
      have e2 : y = tK T * tK U := by omega
      subst e2
      have hsb := (twB_W hs hWW (show x < tK B by omega) (fun b c hb e => hgd x b c (by omega) hb e) (tK T * tK U) (by omega)).1.2.1
      refine ⟨A', o8, o9, o10, ?_, hA, hR, hr⟩
      rw [bX6_beside_157, md_r2, md_a2 (by omega), hA.a2 (i := nt) (by omega) (up_s _ _ _), hsb, i3, if_pos (nI_le (Nat.le_refl _) (by omega)), nI_1]
    | succ e ih =>
      intro y A' o8 o9 o10 hy hA hR hr
      have hyl : y < tK T * tK U := by omega
      have hsw := twB_W hs hWW (show x < tK B by omega) (fun b c hb e => hgd x b c (by omega) hb e) y (by omega)
      have hsb := hsw.1.2.1
      have hsn := (twB_W hs hWW (show x < tK B by omega) (fun b c hb e => hgd x b c (by omega) hb e) (y + 1) (by omega)).2
      have e0 : twB (bef T U) W x (y + 1) = wSo (twB (bef T U) W x y) x y (bef T U x y) := rfl
      have ihy := ih (y + 1)
      rw [e0] at ihy hsn
      have g1 := i1.ton (show x < tK B by omega)
      have g2 := i1.frn (show y < tK B by omega)
      rw [bX6_beside_157, md_r2, md_a2 (by omega), hA.a2 (i := nt) (by omega) (up_s _ _ _), hsb, i3, if_neg (nI_ge hyl (by omega)), md_rc, m_to2 hA (by omega) (up_s _ _ _) (by omega), bI_s, md_rc, m_from2 hA (by omega) (up_s _ _ _) (by omega), bI_s, shp_to hsw.1, shp_fr hsw.1, ite_nnI (by omega) (by omega)]
      have he := be_cmp wTT wU h6 h24 hB hx hyl
      by_cases hxy : to T (ePp T U x) = fr T (ePp T U y) ∧ to U (eQq T U x) = fr U (eQq T U y)
      · have ef : bef T U x y = some (nI (bev T U x y)) := if_pos hxy
        rw [ef] at ihy hsn
        obtain ⟨v1, v2, v3, v4, v5⟩ := bev_t wTT wU h6 h24 hB tT tU hx hyl hxy
        obtain ⟨x1, x2, x3⟩ := be_pq wTT wU hx
        obtain ⟨y1, y2, y3⟩ := be_pq wTT wU hyl
        obtain ⟨a1, a2, a3, a4⟩ := wn_t wTT tT x1 y1 hxy.1
        obtain ⟨b1, b2, b3, b4⟩ := wn_t wU tU x2 y2 hxy.2
        obtain ⟨A3, p8, p9, p10, e5, e6⟩ := ihy _ (some (.int (nI (wn T (ePp T U x) (ePp T U y))))) (some (.int (nI (wn U (eQq T U x) (eQq T U y))))) (some (.int (nI (bev T U x y)))) (by omega) (mT_way2 hA (by omega) (by omega) hsn) (beR_A hR (up_n _ _ (by omega)) (up_n _ _ (by omega))) (fun r hr' => (up_n _ _ (by omega)).trans (hr r hr'))
        refine ⟨A3, p8, p9, p10, ?_, e6⟩
        have hq : to B x = fr B y := by rw [he]; exact hxy
        rw [if_neg (fun z => z hq), md_r8, md_a8 (by omega), (hR x hx).1, md_r8, md_a8 (by omega), (hR y hyl).1, md_rc, m_wayIn2 hA (by omega) (hTi _) x1 y1, a1, bI_s, md_r9, md_a9 (by omega), (hR x hx).2, md_r9, md_a9 (by omega), (hR y hyl).2, md_rc, m_wayIn2 hA (by omega) (hUj _) x2 y2, b1, bI_s]
        exact (l198 x y A' hx hyl hxy hR (bev T U x y) 0 (by omega)).trans e5
      · have ef : bef T U x y = none := if_neg hxy
        rw [ef] at ihy
        obtain ⟨A3, p8, p9, p10, e5, e6⟩ := ihy A' o8 o9 o10 (by omega) hA hR hr
        refine ⟨A3, p8, p9, p10, ?_, e6⟩
        have hq : ¬ to B x = fr B y := by rw [he]; exact hxy
        rw [if_pos hq, nI_1]
        exact e5
  have l149 : ∀ e x A' (o7 o8 o9 o10 : Option Value), x + e = tK T * tK U → mT V A' (nt + 1) (va_up Tb nt (twA (bef T U) (tK T * tK U) B x)) → beR T U A' (tK T * tK U) → (∀ r : Nat, 10 ≤ r → A' r = A r) → ∃ A'', az_rn sc iX6_beside 149 [some (.ref m), some (.int (nI i)), some (.int (nI j)), some (.int (nI (tN T))), some (.int (nI (tN U))), some (.int (nI nt)), some (.int (nI x)), o7, o8, o9, o10] [] (mdG G m V A') = some (some (.int (nI nt)), mdG G m V A'') ∧ mT V A'' (nt + 1) (va_up Tb nt (beF T U)) ∧ ∀ r : Nat, 10 ≤ r → A'' r = A r := by
    intro e
    induction e with
    | zero =>
      intro x A' o7 o8 o9 o10 hx hA hR hr
      have e2 : x = tK T * tK U := by omega
      subst e2
      have h0 := beW_s wTT wU h6 h24 hB tT tU (tK T * tK U) (Nat.le_refl _)
      have hF := mT_cl2 hA
      have eF : tCl (twA (bef T U) (tK T * tK U) B (tK T * tK U)) = beF T U := by
        unfold beF
        rw [hB]
      rw [eF] at hF
      refine ⟨_, ?_, hF, fun r hr' => ?_⟩
      · rw [bX6_beside_149, md_r2, md_a2 (by omega), hA.a2 (i := nt) (by omega) (up_s _ _ _), h0.1.2.1, i3, if_pos (nI_le (Nat.le_refl _) (by omega)), md_r3, w1_1, md_s3 (by omega)]
      · rw [up_n _ _ (by omega)]
        exact hr r hr'
    | succ e ih =>
      intro x A' o7 o8 o9 o10 hx hA hR hr
      have h0 := beW_s wTT wU h6 h24 hB tT tU x (by omega)
      obtain ⟨A2, p8, p9, p10, e2, e3, e4, e5⟩ := l157 _ x h0.1 h0.2 (by omega) (tK T * tK U) 0 A' o8 o9 o10 (by omega) hA hR hr
      obtain ⟨A3, e6, e7⟩ := ih (x + 1) A2 (some (.int (nI (tK T * tK U)))) p8 p9 p10 (by omega) e3 e4 e5
      refine ⟨A3, ?_, e7⟩
      rw [bX6_beside_149, md_r2, md_a2 (by omega), hA.a2 (i := nt) (by omega) (up_s _ _ _), h0.1.2.1, i3, if_neg (nI_ge (show x < tK T * tK U by omega) (by omega))]
      exact e2.trans e6
  obtain ⟨A2, e2, e3, e4, e5⟩ := l64 (tN T * tN U) 0 A (by omega) h (fun x hx => absurd hx (Nat.not_lt_zero _)) (fun _ _ => rfl)
  obtain ⟨A3, o7', o8', f2, f3, f4, f5⟩ := l87 (tK T) 0 A2 none none (by omega) (by rw [bdx_0]; exact e3) (by rw [bdx_0]; exact e4) e5
  obtain ⟨A4, g2, g3, g4⟩ := l149 (tK T * tK U) 0 A3 o7' o8' none none (by omega) f3 f4 f5
  exact ⟨A4, (e2.trans f2).trans g2, g3, g4⟩
end BEMO
