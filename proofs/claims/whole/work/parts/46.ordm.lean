section ORDM
variable {sc : az_S} {G G1 K : az_H} {B x m t : Nat} {V Vm : Nat → Int32} {A Am : Nat → Nat → Int32} {R : Nat → Nat → Option Nat} {S : wS} {ti ci : Nat → Nat} {nt : Nat} {Tb : Nat → tb} {T U : tb} {v : Int64} {n : Nat}
theorem m_orderL (h : mT V A (nt + 1) (va_up Tb nt (tnw n n))) (h1 : 1 ≤ n) (h6 : n ≤ 6) (hg : ¬ ng1 v n = true) (h24 : nb v n ≤ 24) (c4 : Int32) : ∃ A' : Nat → Nat → Int32, az_rn sc iX6_order 57 [some (.ref m), some (.int (nI n)), some (.long v), none, some (.int c4), some (.int (nI nt)), some (.int 0), none] [] (mdG G m V A) = some (some (.int (nI nt)), mdG G m V A') ∧ mT V A' (nt + 1) (va_up Tb nt (oiF v n)) ∧ ∀ r : Nat, 7 ≤ r → A' r = A r := by
  have hd : ∀ a, a < n → ob v a a = true := fun a ha => (ng1_d hg a ha).1
  have hP := oiA_P h1 h6 hd h24 n (Nat.le_refl _)
  have hk := hP.1.k24
  have h8 := h.2.1
  have l62 : ∀ a, a < n → ∀ e b A', b + e = n → mT V A' (nt + 1) (va_up Tb nt (oiB v (oiA v n a) a b)) → (∀ r : Nat, 7 ≤ r → A' r = A r) → ∃ A'', az_rn sc iX6_order 62 [some (.ref m), some (.int (nI n)), some (.long v), none, some (.int c4), some (.int (nI nt)), some (.int (nI a)), some (.int (nI b))] [] (mdG G m V A') = az_rn sc iX6_order 57 [some (.ref m), some (.int (nI n)), some (.long v), none, some (.int c4), some (.int (nI nt)), some (.int (nI (a + 1))), some (.int (nI n))] [] (mdG G m V A'') ∧ mT V A'' (nt + 1) (va_up Tb nt (oiB v (oiA v n a) a n)) ∧ ∀ r : Nat, 7 ≤ r → A'' r = A r := by
    intro a ha e
    induction e with
    | zero =>
      intro b A' hb hA hr
      have e2 : b = n := by omega
      subst e2
      refine ⟨A', ?_, hA, hr⟩
      rw [bX6_order_62, if_pos (nI_le (Nat.le_refl _) (by omega)), nI_1]
    | succ e ih =>
      intro b A' hb hA hr
      have hU := oiB_P h6 hd h24 ha (oiA_P h1 h6 hd h24 a (by omega)) b (by omega)
      have hnk := hU.1.nk
      have hN := hU.2.1
      have e0 : oiB v (oiA v n a) a (b + 1) = if off v a b = true then aAr (oiB v (oiA v n a) a b) a b else oiB v (oiA v n a) a b := rfl
      have ihb := ih (b + 1)
      rw [e0] at ihb
      rw [bX6_order_62, if_neg (nI_ge (show b < n by omega) (by omega)), ite_nI (by omega) (by omega), nI_1]
      by_cases eab : a = b
      · rw [if_neg (show ¬ off v a b = true by simp [off, eab])] at ihb
        rw [if_pos eab]
        exact ihb A' (by omega) hA hr
      · rw [if_neg eab, m_stands v (by omega) (by omega), bI_s]
        by_cases ho : ob v a b = true
        · have hoff : off v a b = true := by simp [off, eab, ho]
          have hroom := oi_room h6 hd h24 ha (show b < n by omega) hoff
          have hc : A' 2 nt = nI (tK (oiB v (oiA v n a) a b)) := hA.a2 (i := nt) (by omega) (up_s _ _ _)
          rw [if_pos hoff] at ihb
          rw [if_pos ho, if_neg (by decide), md_rc, m_comes (by omega) hroom hc, bI_s]
          refine ihb _ (by omega) (mT_arrow2 hA (by omega) (by omega) hroom) (fun r hr' => ?_)
          rw [up_n _ _ (by omega), up_n _ _ (by omega), up_n _ _ (by omega)]
          exact hr r hr'
        · rw [if_neg (show ¬ off v a b = true by simp [off, ho])] at ihb
          rw [if_neg ho, if_pos rfl]
          exact ihb A' (by omega) hA hr
  have l57 : ∀ e a A' (o : Option Value), a + e = n → mT V A' (nt + 1) (va_up Tb nt (oiA v n a)) → (∀ r : Nat, 7 ≤ r → A' r = A r) → ∃ (A'' : Nat → Nat → Int32) (o' : Option Value), az_rn sc iX6_order 57 [some (.ref m), some (.int (nI n)), some (.long v), none, some (.int c4), some (.int (nI nt)), some (.int (nI a)), o] [] (mdG G m V A') = az_rn sc iX6_order 85 [some (.ref m), some (.int (nI n)), some (.long v), none, some (.int c4), some (.int (nI nt)), some (.int (nI 0)), o'] [] (mdG G m V A'') ∧ mT V A'' (nt + 1) (va_up Tb nt (oiA v n n)) ∧ ∀ r : Nat, 7 ≤ r → A'' r = A r := by
    intro e
    induction e with
    | zero =>
      intro a A' o hae hA hr
      have e2 : a = n := by omega
      refine ⟨A', o, ?_, by rw [← e2]; rw [e2] at hA ⊢; exact hA, hr⟩
      rw [bX6_order_57, e2, if_pos (nI_le (Nat.le_refl _) (by omega))]
      rfl
    | succ e ih =>
      intro a A' o hae hA hr
      obtain ⟨A2, e2, e3, e4⟩ := l62 a (by omega) n 0 A' (by omega) hA hr
      obtain ⟨A3, o', e5, e6, e7⟩ := ih (a + 1) A2 (some (.int (nI n))) (by omega) e3 e4
      refine ⟨A3, o', ?_, e6, e7⟩
      rw [bX6_order_57, if_neg (nI_ge (show a < n by omega) (by omega))]
      exact e2.trans e5
  have l93 : ∀ (W : tb) (a : Nat), shp (oiA v n n) W → tbW W → a < tK (oiA v n n) → ∀ e b A', b + e = tK (oiA v n n) → mT V A' (nt + 1) (va_up Tb nt (twB (oif (oiA v n n)) W a b)) → (∀ r : Nat, 7 ≤ r → A' r = A r) → ∃ A'', az_rn sc iX6_order 93 [some (.ref m), some (.int (nI n)), some (.long v), none, some (.int c4), some (.int (nI nt)), some (.int (nI a)), some (.int (nI b))] [] (mdG G m V A') = az_rn sc iX6_order 85 [some (.ref m), some (.int (nI n)), some (.long v), none, some (.int c4), some (.int (nI nt)), some (.int (nI (a + 1))), some (.int (nI (tK (oiA v n n))))] [] (mdG G m V A'') ∧ mT V A'' (nt + 1) (va_up Tb nt (twB (oif (oiA v n n)) W a (tK (oiA v n n)))) ∧ ∀ r : Nat, 7 ≤ r → A'' r = A r := by
    intro W a hs hWW ha e
    induction e with
    | zero =>
      intro b A' hb hA hr
      have e2 : b = tK (oiA v n n) := by omega
      subst e2
      have hsb := (twB_W hs hWW ha (fun b c hb e => oif_gd hg hP a b c ha hb e) (tK (oiA v n n)) (Nat.le_refl _)).1.2.1
      refine ⟨A', ?_, hA, hr⟩
      rw [bX6_order_93, md_r2, md_a2 (by omega), hA.a2 (i := nt) (by omega) (up_s _ _ _), hsb, if_pos (nI_le (Nat.le_refl _) (by omega)), nI_1]
    | succ e ih =>
      intro b A' hb hA hr
      obtain ⟨hsh, hsw⟩ := twB_W hs hWW ha (fun b c hb e => oif_gd hg hP a b c ha hb e) b (by omega)
      have hsn := (twB_W hs hWW ha (fun b c hb e => oif_gd hg hP a b c ha hb e) (b + 1) (by omega)).2
      have hsb := hsh.2.1
      have hN := hsh.1.trans hP.2.1
      have ga : a < tK (twB (oif (oiA v n n)) W a b) := by omega
      have gb : b < tK (twB (oif (oiA v n n)) W a b) := by omega
      have f1 := hP.1.frn ha
      have f2 := hP.1.ton (show b < tK (oiA v n n) by omega)
      have f3 := hP.1.ton ha
      have f4 := hP.1.frn (show b < tK (oiA v n n) by omega)
      rw [hP.2.1] at f1 f2 f3 f4
      have ihb := ih (b + 1)
      have e0 : twB (oif (oiA v n n)) W a (b + 1) = wSo (twB (oif (oiA v n n)) W a b) a b (oif (oiA v n n) a b) := rfl
      rw [e0] at ihb hsn
      rw [bX6_order_93, md_r2, md_a2 (by omega), hA.a2 (i := nt) (by omega) (up_s _ _ _), hsb, if_neg (nI_ge (show b < tK (oiA v n n) by omega) (by omega)), md_rc, m_to2 hA (by omega) (up_s _ _ _) ga, bI_s, md_rc, m_from2 hA (by omega) (up_s _ _ _) gb, bI_s, shp_to hsh, shp_fr hsh, ite_nnI (by omega) (by omega), nI_1]
      by_cases ec : to (oiA v n n) a = fr (oiA v n n) b
      · obtain ⟨d, d1, d2, d3, d4⟩ := fbt_s hg hP ha (show b < tK (oiA v n n) by omega) ec
        have eo : oif (oiA v n n) a b = some (nI d) := by
          unfold oif
          rw [if_pos ec, d1]
        have df : fbt (twB (oif (oiA v n n)) W a b) (fr (oiA v n n) a) (to (oiA v n n) b) = some d := (fbt_h hsh _ _).trans d1
        rw [eo] at ihb hsn
        rw [if_neg (fun z => z ec), md_r6, md_rc, m_from2 hA (by omega) (up_s _ _ _) ga, bI_s, md_rc, m_to2 hA (by omega) (up_s _ _ _) gb, bI_s, shp_fr hsh, shp_to hsh, md_rc, m_between hA (by omega) (up_s _ _ _) hsw (by omega) (by omega) df, bI_s, n576, md_s6 (by omega)]
        refine ihb _ (by omega) (mT_way2 hA ga gb hsn) (fun r hr' => ?_)
        rw [up_n _ _ (by omega)]
        exact hr r hr'
      · have eo : oif (oiA v n n) a b = none := if_neg ec
        rw [eo] at ihb
        rw [if_pos ec]
        exact ihb A' (by omega) hA hr
  have l85 : ∀ e a A' (o : Option Value), a + e = tK (oiA v n n) → mT V A' (nt + 1) (va_up Tb nt (twA (oif (oiA v n n)) (tK (oiA v n n)) (oiA v n n) a)) → (∀ r : Nat, 7 ≤ r → A' r = A r) → ∃ A'', az_rn sc iX6_order 85 [some (.ref m), some (.int (nI n)), some (.long v), none, some (.int c4), some (.int (nI nt)), some (.int (nI a)), o] [] (mdG G m V A') = some (some (.int (nI nt)), mdG G m V A'') ∧ mT V A'' (nt + 1) (va_up Tb nt (oiF v n)) ∧ ∀ r : Nat, 7 ≤ r → A'' r = A r := by
    intro e
    induction e with
    | zero =>
      intro a A' o hae hA hr
      have e2 : a = tK (oiA v n n) := by omega
      subst e2
      have h0 := twA_W hP.1 (oif_gd hg hP) (tK (oiA v n n)) (Nat.le_refl _)
      refine ⟨_, ?_, mT_cl2 hA, fun r hr' => ?_⟩
      · rw [bX6_order_85, md_r2, md_a2 (by omega), hA.a2 (i := nt) (by omega) (up_s _ _ _), h0.1.2.1, if_pos (nI_le (Nat.le_refl _) (by omega)), md_r3, w1_1, md_s3 (by omega)]
      · rw [up_n _ _ (by omega)]
        exact hr r hr'
    | succ e ih =>
      intro a A' o hae hA hr
      have h0 := twA_W hP.1 (oif_gd hg hP) a (by omega)
      obtain ⟨A2, e2, e3, e4⟩ := l93 _ a h0.1 h0.2 (by omega) (tK (oiA v n n)) 0 A' (by omega) hA hr
      obtain ⟨A3, e5, e6, e7⟩ := ih (a + 1) A2 (some (.int (nI (tK (oiA v n n))))) (by omega) e3 e4
      refine ⟨A3, ?_, e6, e7⟩
      rw [bX6_order_85, md_r2, md_a2 (by omega), hA.a2 (i := nt) (by omega) (up_s _ _ _), h0.1.2.1, if_neg (nI_ge (show a < tK (oiA v n n) by omega) (by omega))]
      exact e2.trans e5
  obtain ⟨A2, o', e2, e3, e4⟩ := l57 n 0 A none (by omega) h (fun _ _ => rfl)
  obtain ⟨A3, e5, e6, e7⟩ := l85 (tK (oiA v n n)) 0 A2 o' (by omega) e3 e4
  exact ⟨A3, e2.trans e5, e6, e7⟩
theorem y16 (y : Int32) : (∃ n : Nat, 1 ≤ n ∧ n ≤ 6 ∧ y = nI n) ∨ (y < 1 ∨ 6 < y) := by
  by_cases hy : y < 1 ∨ 6 < y
  · exact Or.inr hy
  · have h1 : ¬ y < 1 := fun z => hy (Or.inl z)
    have h6 : ¬ 6 < y := fun z => hy (Or.inr z)
    rcases ix_c y (n := 7) (by omega) with ⟨n, hn, rfl⟩ | z | z
    · refine Or.inl ⟨n, ?_, by omega, rfl⟩
      have : nI 1 ≤ nI n := Int32.not_lt.mp h1
      rw [nI_leI (by omega) (by omega)] at this
      omega
    · exact absurd (Int32.lt_of_lt_of_le z (by decide : (0 : Int32) ≤ 1)) h1
    · exact absurd (Int32.lt_of_lt_of_le (by decide : (6 : Int32) < nI 7) z) h6
theorem m_in16 {n : Nat} (h1 : 1 ≤ n) (h6 : n ≤ 6) : az_ca sc iX6_in [.int (nI n), .int 1, .int 6] G = some (some (.int 1), G) := by
  rw [m_in, if_pos]
  exact ⟨show nI 1 ≤ nI n from nI_le h1 (by omega), show nI n ≤ nI 6 from nI_le h6 (by omega)⟩
theorem m_in16N {y : Int32} (hy : y < 1 ∨ 6 < y) : az_ca sc iX6_in [.int y, .int 1, .int 6] G = some (some (.int 0), G) := by
  rw [m_in, if_neg]
  rintro ⟨z1, z2⟩
  rcases hy with hy | hy
  · exact absurd z1 (Int32.not_le.mpr hy)
  · exact absurd z2 (Int32.not_le.mpr hy)
theorem op_order (h : iC G B V A R S ti ci) (hB : x + 22 ≤ B) (hS : wW S) (hm : iM Vm Am S) (y : Int32) (v : Int64) : opU (az_ca sc iX5_order [.ref x, .int y, .long v] (clG G x V A R)) (az_ca sc iX6_order [.ref m, .int y, .long v] (mdG G1 m Vm Am)) G G1 B x m S := by
  have h8 := hS.1
  rcases y16 y with ⟨n, h1, h6, rfl⟩ | hy
  · have g1 : ¬ nI n < (1 : Int32) := show ¬ nI n < nI 1 from nI_nlt h1 (by omega)
    have g6 : nI n ≤ (6 : Int32) := show nI n ≤ nI 6 from nI_le h6 (by omega)
    have c5 : az_ca sc iX6_order [.ref m, .int (nI n), .long v] (mdG G1 m Vm Am) = az_rn sc iX6_order 11 [some (.ref m), some (.int (nI n)), some (.long v), none, some (.int (nI (nb v n))), some (.int (nI n)), none, none] [] (mdG G1 m Vm Am) := by
      rw [eX6_order, m_in16 h1 h6, bI_s, if_pos (by decide)]
      exact m_orderN v h6
    have nb36 : nb v n ≤ 36 := by
      have := smB_le (f := fun a => ctB (ob v a) n) (n := n) (c := n) (fun a _ => ctB_le _ _)
      have h3 : n * n ≤ 6 * 6 := Nat.mul_le_mul h6 h6
      exact Nat.le_trans this h3
    by_cases hg : ng1 v n = true
    · refine opU_n h hS hm (-3) ?_ ?_
      · rw [eX5_order, if_neg g1, if_pos g6, s_isRightOrder v h6, bI_s, if_pos hg, if_pos rfl]
      · rw [c5, bX6_order_11, if_pos (nI_le (Nat.le_refl _) (by omega)), m_isOrder v h6, bI_s, if_pos hg, if_pos rfl]
    · by_cases h24 : nb v n ≤ 24
      · have g24 : nI (nb v n) ≤ (24 : Int32) := show nI (nb v n) ≤ nI 24 from nI_le h24 (by omega)
        by_cases hk : sN S < 8
        · obtain ⟨A1, e1, e2, e3⟩ := m_begins (sc := sc) (G := G1) (m := m) hm.1 hk h1 h6
          obtain ⟨A2, e4, e5, e6⟩ := m_orderL (sc := sc) (G := G1) (m := m) e2 h1 h6 hg h24 (nI (nb v n))
          have hW := oiF_W h1 h6 hg h24
          refine opU_p (Am' := A2) h hS hm hk hW.1 (fun _ => hW.2) ?_ ?_ e5 (fun r hr => (e6 r (by omega)).trans (e3 r (by omega)))
          · rw [eX5_order, if_neg g1, if_pos g6, s_isRightOrder v h6, bI_s, if_neg hg, if_neg (by decide), s_bitsOfOrder v h6, bI_s, if_pos g24, cl0_i11, h.1, if_pos (lt8 hk), s_tableOfOrder h1 h6 hg h24, bR_s, e9_cl h hB, cl_rc0, s_keepP h hB hk, bI_s]
          · rw [c5, bX6_order_11, if_pos (nI_le (Nat.le_refl _) (by omega)), m_isOrder v h6, bI_s, if_neg hg, if_neg (by decide), if_pos g24, md_i0, hm.1.1, if_pos (ne8 hk), md_i0, hm.1.1, md_rc, e1, bV_s]
            exact e4
        · have hk' : sN S = 8 := by omega
          refine opU_n h hS hm (-4) ?_ ?_
          · rw [eX5_order, if_neg g1, if_pos g6, s_isRightOrder v h6, bI_s, if_neg hg, if_neg (by decide), s_bitsOfOrder v h6, bI_s, if_pos g24, cl0_i11, h.1, hk', if_neg (by decide)]
          · rw [c5, bX6_order_11, if_pos (nI_le (Nat.le_refl _) (by omega)), m_isOrder v h6, bI_s, if_neg hg, if_neg (by decide), if_pos g24, md_i0, hm.1.1, hk', if_neg (by decide)]
      · have g24 : ¬ nI (nb v n) ≤ (24 : Int32) := show ¬ nI (nb v n) ≤ nI 24 from nI_ge (by omega) (by omega)
        refine opU_n h hS hm (-3) ?_ ?_
        · rw [eX5_order, if_neg g1, if_pos g6, s_isRightOrder v h6, bI_s, if_neg hg, if_neg (by decide), s_bitsOfOrder v h6, bI_s, if_neg g24]
        · rw [c5, bX6_order_11, if_pos (nI_le (Nat.le_refl _) (by omega)), m_isOrder v h6, bI_s, if_neg hg, if_neg (by decide), if_neg g24]
  · refine opU_n h hS hm (-2) ?_ ?_
    · rw [eX5_order]
      by_cases g1 : y < 1
      · rw [if_pos g1]
      · rw [if_neg g1, if_neg (Int32.not_le.mpr (hy.resolve_left g1))]
    · rw [eX6_order, m_in16N hy, bI_s, if_neg (by decide)]
end ORDM
