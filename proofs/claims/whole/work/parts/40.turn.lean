/-! OPERATION turned -/
def tuA (T : tb) : Nat → tb
  | 0 => tnw (tN T) (tN T)
  | d + 1 => aAr (tuA T d) (to T (tN T + d)) (fr T (tN T + d))
def tuf (T : tb) (a b : Nat) : Option Int32 := some (wy T b a)
def tuF (T : tb) : tb := tCl (twA (tuf T) (tK T) (tuA T (tK T - tN T)) (tK T))
theorem tuA_s {T : tb} (hw : tbW T) : ∀ d, tN T + d ≤ tK T → tbW (tuA T d) ∧ tN (tuA T d) = tN T ∧ tK (tuA T d) = tN T + d ∧ tC (tuA T d) = 0 ∧ ∀ a, a < tN T + d → fr (tuA T d) a = to T a ∧ to (tuA T d) a = fr T a := by
  have h1 := hw.n1
  have h6 := hw.n6
  have hk := hw.k24
  intro d
  induction d with
  | zero =>
    intro _
    obtain ⟨g1, g2, g3, g4, g5⟩ := tnw_s (tN T) (tN T) h6
    have gw := tnw_W h1 h6
    refine ⟨gw, g1, g2, g3, fun a ha => ?_⟩
    have e1 := gw.2.2.1 a (by rw [g1]; exact ha)
    have e2 := hw.2.2.1 a ha
    exact ⟨e1.1.trans e2.2.symm, e1.2.trans e2.1.symm⟩
  | succ d ih =>
    intro hd
    obtain ⟨i1, i2, i3, i4, i5⟩ := ih (by omega)
    have f1 := hw.frn (show tN T + d < tK T by omega)
    have f2 := hw.ton (show tN T + d < tK T by omega)
    refine ⟨aAr_W i1 (by omega) (by omega) (by omega), i2, congrArg (· + 1) i3, i4, fun a ha => ?_⟩
    show fr (aAr (tuA T d) _ _) a = _ ∧ to (aAr (tuA T d) _ _) a = _
    rw [fr_aA (by omega), to_aA (by omega), i3]
    by_cases e : a = tN T + d
    · rw [if_pos e, if_pos e, e]; exact ⟨rfl, rfl⟩
    · rw [if_neg e, if_neg e]; exact i5 a (by omega)
theorem tuf_gd {T : tb} (hw : tbW T) : ∀ a b c, a < tK (tuA T (tK T - tN T)) → b < tK (tuA T (tK T - tN T)) → tuf T a b = some c → gdW (tuA T (tK T - tN T)) a b c := by
  have hnk := hw.nk
  obtain ⟨i1, i2, i3, i4, i5⟩ := tuA_s hw (tK T - tN T) (by omega)
  have e : tN T + (tK T - tN T) = tK T := by omega
  rw [e] at i3 i5
  rw [i3]
  intro a b c ha hb hc
  cases hc
  obtain ⟨w1, w2, w3, w4⟩ := hw.2.2.2.1 b a hb ha
  unfold gdW
  rw [(i5 a ha).2, (i5 b hb).1, i2, i3]
  refine ⟨fun z => w1 (fun y => z y.symm), fun z y => w3 z.symm y, fun z y => w2 z.symm y, fun z => ?_⟩
  rcases w4 z.symm with w | ⟨d, d1, d2, d3, d4⟩
  · exact Or.inl w
  · refine Or.inr ⟨d, d1, d2, ?_, ?_⟩
    · rw [(i5 d d1).1, (i5 a ha).1]; exact d4
    · rw [(i5 d d1).2, (i5 b hb).2]; exact d3
theorem tuF_W {T : tb} (hw : tbW T) (ht : tld T) : tbW (tuF T) ∧ tld (tuF T) := by
  have hnk := hw.nk
  have hk := hw.k24
  obtain ⟨i1, i2, i3, i4, i5⟩ := tuA_s hw (tK T - tN T) (by omega)
  have e : tN T + (tK T - tN T) = tK T := by omega
  rw [e] at i3 i5
  have h0 := twA_W i1 (tuf_gd hw) (tK T) (by omega)
  rw [i3] at h0
  obtain ⟨hs, hW⟩ := h0
  refine ⟨tCl_W hW, tCl_t (fun a b ha hb hab => ?_)⟩
  rw [hs.2.1, i3] at ha hb
  rw [shp_to hs, shp_fr hs, (i5 a ha).2, (i5 b hb).1] at hab
  obtain ⟨c, c1, c2, c3, c4⟩ := ht b a hb ha hab.symm
  refine ⟨c, by rw [hs.2.1, i3]; exact c1, ?_, ?_, ?_⟩
  · rw [twA_y hk hb (tK T) (Nat.le_refl _), if_pos ha]
    exact c2
  · rw [shp_fr hs, shp_fr hs, (i5 c c1).1, (i5 a ha).1]; exact c4
  · rw [shp_to hs, shp_to hs, (i5 c c1).2, (i5 b hb).2]; exact c3
theorem tbC_psh {K : az_H} {t : Nat} {T : tb} {e : va_E} {n : Nat} (h : tbC K t T) (ht : t + 3 < K.2.1) : tbC (az_psh K e n) t T :=
  ⟨(psh_o _ _ (by omega)).trans h.1, (psh_o _ _ (by omega)).trans h.2.1, (psh_o _ _ (by omega)).trans h.2.2.1, (psh_o _ _ (by omega)).trans h.2.2.2⟩
theorem tbC_bmp {K : az_H} {t r : Nat} {T U : tb} {c s : Nat} (h : tbC K t T) (ht : t + 3 < r) : tbC (tbG (bmp K c s) r U) t T :=
  ⟨(tg_out _ _ (by omega)).trans h.1, (tg_out _ _ (by omega)).trans h.2.1, (tg_out _ _ (by omega)).trans h.2.2.1, (tg_out _ _ (by omega)).trans h.2.2.2⟩
section TURN
variable {sc : az_S} {G G1 K : az_H} {B x m t0 : Nat} {V Vm : Nat → Int32} {A Am : Nat → Nat → Int32} {R : Nat → Nat → Option Nat} {S : wS} {ti ci : Nat → Nat} {nt : Nat} {Tb : Nat → tb} {T U : tb}
theorem s_turnedTable (hT : tbC K t0 T) (ht : t0 + 3 < K.2.1) (hw : tbW T) : az_ca sc iX5_turnedTable [.ref t0] K = some (some (.ref K.2.1), tbG (bmp K 4 630) K.2.1 (tuF T)) := by
  have h1 := hw.n1
  have h6 := hw.n6
  have hk := hw.k24
  have hnk := hw.nk
  have hH : ∀ U, tbC (tbG (bmp K 4 630) K.2.1 U) t0 T := fun U => tbC_bmp hT ht
  obtain ⟨i1, i2, i3, i4, i5⟩ := tuA_s hw (tK T - tN T) (by omega)
  have en : tN T + (tK T - tN T) = tK T := by omega
  rw [en] at i3 i5
  have l9 : ∀ e d, tN T + d + e = tK T → az_rn sc iX5_turnedTable 9 [some (.ref t0), some (.ref K.2.1), some (.int (nI (tN T + d))), none] [] (tbG (bmp K 4 630) K.2.1 (tuA T d)) = az_rn sc iX5_turnedTable 26 [some (.ref t0), some (.ref K.2.1), some (.int (nI 0)), none] [] (tbG (bmp K 4 630) K.2.1 (tuA T (tK T - tN T))) := by
    intro e
    induction e with
    | zero =>
      intro d hd
      have e1 : tK T - tN T = d := by omega
      have e2 : tN T + d = tK T := by omega
      rw [bX5_turnedTable_9, tb_f1 (hH _), e2, if_pos (nI_le (Nat.le_refl _) (by omega)), e1]
      rfl
    | succ e ih =>
      intro d hd
      obtain ⟨j1, j2, j3, j4, j5⟩ := tuA_s hw d (by omega)
      have f1 := hw.frn (show tN T + d < tK T by omega)
      have f2 := hw.ton (show tN T + d < tK T by omega)
      rw [bX5_turnedTable_9, tb_f1 (hH _), if_neg (nI_ge (show tN T + d < tK T by omega) (by omega)), tb_rc (hH _), s_toOf (hH _) (by omega), bI_s, tb_rc (hH _), s_fromOf (hH _) (by omega), bI_s, tb_rc (tg_C _ _ _), hw.f (show tN T + d < tK T by omega), hw.g (show tN T + d < tK T by omega), s_addArrow (by omega) (by omega) (by omega), bI_s, nI_1]
      exact ih (d + 1) (by omega)
  have l32 : ∀ (W : tb) (a : Nat), shp (tuA T (tK T - tN T)) W → tbW W → a < tK T → ∀ e b, b + e = tK T → az_rn sc iX5_turnedTable 32 [some (.ref t0), some (.ref K.2.1), some (.int (nI a)), some (.int (nI b))] [] (tbG (bmp K 4 630) K.2.1 (twB (tuf T) W a b)) = az_rn sc iX5_turnedTable 26 [some (.ref t0), some (.ref K.2.1), some (.int (nI (a + 1))), some (.int (nI (tK T)))] [] (tbG (bmp K 4 630) K.2.1 (twB (tuf T) W a (tK T))) := by
    intro W a hs hWW ha e
    induction e with
    | zero =>
      intro b hb
      have e2 : b = tK T := by omega
      rw [bX5_turnedTable_32, tb_f1 (hH _), e2, if_pos (nI_le (Nat.le_refl _) (by omega)), nI_1]
    | succ e ih =>
      intro b hb
      have hsb := (twB_W hs hWW (show a < tK (tuA T (tK T - tN T)) by omega) (fun b c hb e => tuf_gd hw a b c (by omega) hb e) b (by omega)).1.2.1
      rw [bX5_turnedTable_32, tb_f1 (hH _), if_neg (nI_ge (show b < tK T by omega) (by omega)), tb_rc (hH _), s_wayAt (hH _) (show b < tK T by omega) ha hk, bI_s, tb_rc (tg_C _ _ _), s_setWay (by omega) (by omega) (by omega), bV_s, nI_1]
      exact ih (b + 1) (by omega)
  have l26 : ∀ e a (o : Option Value), a + e = tK T → az_rn sc iX5_turnedTable 26 [some (.ref t0), some (.ref K.2.1), some (.int (nI a)), o] [] (tbG (bmp K 4 630) K.2.1 (twA (tuf T) (tK T) (tuA T (tK T - tN T)) a)) = some (some (.ref K.2.1), tbG (bmp K 4 630) K.2.1 (tuF T)) := by
    intro e
    induction e with
    | zero =>
      intro a o hae
      have e2 : a = tK T := by omega
      rw [bX5_turnedTable_26, tb_f1 (hH _), e2, if_pos (nI_le (Nat.le_refl _) (by omega)), w1_1, tg_p2]
      rfl
    | succ e ih =>
      intro a o hae
      have h0 := twA_W i1 (tuf_gd hw) a (by omega)
      rw [i3] at h0
      rw [bX5_turnedTable_26, tb_f1 (hH _), if_neg (nI_ge (show a < tK T by omega) (by omega))]
      refine (l32 _ a h0.1 h0.2 (by omega) (tK T) 0 (by omega)).trans ?_
      exact ih (a + 1) _ (by omega)
  rw [eX5_turnedTable, nO4, tb_f0 (tbC_psh hT ht), s_newT h1 h6, bV_s, tb_f0 (hH _)]
  refine (l9 (tK T - tN T) 0 (by omega)).trans ?_
  exact l26 (tK T) 0 none (by omega)
/-! the model's side -/
theorem m_to2 (h : mT V A nt Tb) {i a : Nat} (hi : i < nt) (e : Tb i = T) (ha : a < tK T) : az_ca sc iX6_to [.ref m, .int (nI i), .int (nI a)] (mdG G m V A) = some (some (.int (nI (to T a))), mdG G m V A) := by
  subst e; exact m_to h hi ha
theorem m_from2 (h : mT V A nt Tb) {i a : Nat} (hi : i < nt) (e : Tb i = T) (ha : a < tK T) : az_ca sc iX6_from [.ref m, .int (nI i), .int (nI a)] (mdG G m V A) = some (some (.int (nI (fr T a))), mdG G m V A) := by
  subst e; exact m_from h hi ha
theorem m_wayIn2 (h : mT V A nt Tb) {i a b : Nat} (hi : i < nt) (e : Tb i = T) (ha : a < tK T) (hb : b < tK T) : az_ca sc iX6_wayIn [.ref m, .int (nI i), .int (nI a), .int (nI b)] (mdG G m V A) = some (some (.int (wy T a b)), mdG G m V A) := by
  subst e; exact m_wayIn h hi ha hb
theorem mT.a2 (h : mT V A nt Tb) {i : Nat} (hi : i < nt) (e : Tb i = T) : A 2 i = nI (tK T) := by subst e; exact h.a hi
theorem mT.o2 (h : mT V A nt Tb) {i : Nat} (hi : i < nt) (e : Tb i = T) : A 1 i = nI (tN T) := by subst e; exact h.o hi
theorem mT_arrow2 (h : mT V A (nt + 1) (va_up Tb nt U)) {p q : Nat} (hp : p < tN U) (hq : q < tN U) (hk : tK U < 24) : mT V (va_up (va_up (va_up A 4 (upd (A 4) (24 * nt + tK U) (nI p))) 5 (upd (A 5) (24 * nt + tK U) (nI q))) 2 (upd (A 2) nt (nI (tK U + 1)))) (nt + 1) (va_up Tb nt (aAr U p q)) := by
  have h1 := mT_arrow h (i := nt) (p := p) (q := q) (by omega) (by rw [up_s]; exact hp) (by rw [up_s]; exact hq) (by rw [up_s]; exact hk)
  rw [up_s, up_up] at h1
  exact h1
theorem mT_way2 (h : mT V A (nt + 1) (va_up Tb nt U)) {a b : Nat} {c : Int32} (ha : a < tK U) (hb : b < tK U) (hW : tbW (wS1 U a b c)) : mT V (va_up A 6 (upd (A 6) (576 * nt + 24 * a + b) c)) (nt + 1) (va_up Tb nt (wS1 U a b c)) := by
  have h1 := mT_wayG h (i := nt) (a := a) (b := b) (c := c) (by omega) (by rw [up_s]; exact ha) (by rw [up_s]; exact hb) (by rw [up_s]; exact hW)
  rw [up_s, up_up] at h1
  exact h1
theorem mT_cl2 (h : mT V A (nt + 1) (va_up Tb nt U)) : mT V (va_up A 3 (upd (A 3) nt 1)) (nt + 1) (va_up Tb nt (tCl U)) := by
  have h1 := mT_cl h nt
  rw [up_s, up_up] at h1
  exact h1
theorem m_turnedL (h : mT V A (nt + 1) (va_up Tb nt (tnw (tN T) (tN T)))) (hw : tbW T) {i : Nat} (hi : i < nt) (hT : Tb i = T) : ∃ A' : Nat → Nat → Int32, az_rn sc iX6_turned 33 [some (.ref m), some (.int (nI i)), some (.int (nI nt)), some (.int (nI (tN T))), none] [] (mdG G m V A) = some (some (.int (nI nt)), mdG G m V A') ∧ mT V A' (nt + 1) (va_up Tb nt (tuF T)) ∧ ∀ r : Nat, 7 ≤ r → A' r = A r := by
  have h1 := hw.n1
  have h6 := hw.n6
  have hk := hw.k24
  have hnk := hw.nk
  have h8 := h.2.1
  have hTi : ∀ U, va_up Tb nt U i = T := fun U => (up_n _ _ (by omega)).trans hT
  obtain ⟨i1, i2, i3, i4, i5⟩ := tuA_s hw (tK T - tN T) (by omega)
  have en : tN T + (tK T - tN T) = tK T := by omega
  rw [en] at i3 i5
  have l33 : ∀ e d A', tN T + d + e = tK T → mT V A' (nt + 1) (va_up Tb nt (tuA T d)) → (∀ r : Nat, 7 ≤ r → A' r = A r) → ∃ A'', az_rn sc iX6_turned 33 [some (.ref m), some (.int (nI i)), some (.int (nI nt)), some (.int (nI (tN T + d))), none] [] (mdG G m V A') = az_rn sc iX6_turned 55 [some (.ref m), some (.int (nI i)), some (.int (nI nt)), some (.int (nI 0)), none] [] (mdG G m V A'') ∧ mT V A'' (nt + 1) (va_up Tb nt (tuA T (tK T - tN T))) ∧ ∀ r : Nat, 7 ≤ r → A'' r = A r := by
    intro e
    induction e with
    | zero =>
      intro d A' hd hA hr
      have e1 : tK T - tN T = d := by omega
      have e2 : tN T + d = tK T := by omega
      refine ⟨A', ?_, by rw [e1]; exact hA, hr⟩
      rw [bX6_turned_33, md_r2, md_a2 (by omega), hA.a2 (by omega) (hTi _), e2, if_pos (nI_le (Nat.le_refl _) (by omega))]
      rfl
    | succ e ih =>
      intro d A' hd hA hr
      obtain ⟨j1, j2, j3, j4, j5⟩ := tuA_s hw d (by omega)
      have f1 := hw.frn (show tN T + d < tK T by omega)
      have f2 := hw.ton (show tN T + d < tK T by omega)
      have hc : A' 2 nt = nI (tN T + d) := by rw [hA.a2 (i := nt) (by omega) (up_s _ _ _), j3]
      rw [bX6_turned_33, md_r2, md_a2 (by omega), hA.a2 (by omega) (hTi _), if_neg (nI_ge (show tN T + d < tK T by omega) (by omega)), md_rc, m_to2 hA (by omega) (hTi _) (by omega), bI_s, md_rc, m_from2 hA (by omega) (hTi _) (by omega), bI_s, md_rc, m_comes (by omega) (by omega) hc, bI_s, nI_1]
      have hn := mT_arrow2 hA (p := to T (tN T + d)) (q := fr T (tN T + d)) (by omega) (by omega) (by omega)
      rw [j3] at hn
      refine ih (d + 1) _ (by omega) hn (fun r hr' => ?_)
      rw [up_n _ _ (by omega), up_n _ _ (by omega), up_n _ _ (by omega)]
      exact hr r hr'
  have l63 : ∀ (W : tb) (a : Nat), shp (tuA T (tK T - tN T)) W → tbW W → a < tK T → ∀ e b A', b + e = tK T → mT V A' (nt + 1) (va_up Tb nt (twB (tuf T) W a b)) → (∀ r : Nat, 7 ≤ r → A' r = A r) → ∃ A'', az_rn sc iX6_turned 63 [some (.ref m), some (.int (nI i)), some (.int (nI nt)), some (.int (nI a)), some (.int (nI b))] [] (mdG G m V A') = az_rn sc iX6_turned 55 [some (.ref m), some (.int (nI i)), some (.int (nI nt)), some (.int (nI (a + 1))), some (.int (nI (tK T)))] [] (mdG G m V A'') ∧ mT V A'' (nt + 1) (va_up Tb nt (twB (tuf T) W a (tK T))) ∧ ∀ r : Nat, 7 ≤ r → A'' r = A r := by
    intro W a hs hWW ha e
    induction e with
    | zero =>
      intro b A' hb hA hr
      have e2 : b = tK T := by omega
      subst e2
      have hsb := (twB_W hs hWW (show a < tK (tuA T (tK T - tN T)) by omega) (fun b c hb e => tuf_gd hw a b c (by omega) hb e) (tK T) (by omega)).1.2.1
      refine ⟨A', ?_, hA, hr⟩
      rw [bX6_turned_63, md_r2, md_a2 (by omega), hA.a2 (i := nt) (by omega) (up_s _ _ _), hsb, i3, if_pos (nI_le (Nat.le_refl _) (by omega)), nI_1]
    | succ e ih =>
      intro b A' hb hA hr
      have hsw := twB_W hs hWW (show a < tK (tuA T (tK T - tN T)) by omega) (fun b c hb e => tuf_gd hw a b c (by omega) hb e) b (by omega)
      have hsb := hsw.1.2.1
      have hsn := (twB_W hs hWW (show a < tK (tuA T (tK T - tN T)) by omega) (fun b c hb e => tuf_gd hw a b c (by omega) hb e) (b + 1) (by omega)).2
      rw [bX6_turned_63, md_r2, md_a2 (by omega), hA.a2 (i := nt) (by omega) (up_s _ _ _), hsb, i3, if_neg (nI_ge (show b < tK T by omega) (by omega)), md_r6, md_rc, m_wayIn2 hA (by omega) (hTi _) (show b < tK T by omega) ha, bI_s, n576, md_s6 (by omega), nI_1]
      refine ih (b + 1) _ (by omega) (mT_way2 hA (by omega) (by omega) hsn) (fun r hr' => ?_)
      rw [up_n _ _ (by omega)]
      exact hr r hr'
  have l55 : ∀ e a A' (o : Option Value), a + e = tK T → mT V A' (nt + 1) (va_up Tb nt (twA (tuf T) (tK T) (tuA T (tK T - tN T)) a)) → (∀ r : Nat, 7 ≤ r → A' r = A r) → ∃ A'', az_rn sc iX6_turned 55 [some (.ref m), some (.int (nI i)), some (.int (nI nt)), some (.int (nI a)), o] [] (mdG G m V A') = some (some (.int (nI nt)), mdG G m V A'') ∧ mT V A'' (nt + 1) (va_up Tb nt (tuF T)) ∧ ∀ r : Nat, 7 ≤ r → A'' r = A r := by
    intro e
    induction e with
    | zero =>
      intro a A' o hae hA hr
      have e2 : a = tK T := by omega
      subst e2
      have h0 := twA_W i1 (tuf_gd hw) (tK T) (by omega)
      rw [i3] at h0
      refine ⟨_, ?_, mT_cl2 hA, fun r hr' => ?_⟩
      · rw [bX6_turned_55, md_r2, md_a2 (by omega), hA.a2 (i := nt) (by omega) (up_s _ _ _), h0.1.2.1, i3, if_pos (nI_le (Nat.le_refl _) (by omega)), md_r3, w1_1, md_s3 (by omega)]
      · rw [up_n _ _ (by omega)]
        exact hr r hr'
    | succ e ih =>
      intro a A' o hae hA hr
      have h0 := twA_W i1 (tuf_gd hw) a (by omega)
      rw [i3] at h0
      obtain ⟨A2, e2, e3, e4⟩ := l63 _ a h0.1 h0.2 (by omega) (tK T) 0 A' (by omega) hA hr
      obtain ⟨A3, e5, e6, e7⟩ := ih (a + 1) A2 (some (.int (nI (tK T)))) (by omega) e3 e4
      refine ⟨A3, ?_, e6, e7⟩
      rw [bX6_turned_55, md_r2, md_a2 (by omega), hA.a2 (i := nt) (by omega) (up_s _ _ _), h0.1.2.1, i3, if_neg (nI_ge (show a < tK T by omega) (by omega))]
      exact e2.trans e5
  obtain ⟨A2, e2, e3, e4⟩ := l33 (tK T - tN T) 0 A (by omega) h (fun _ _ => rfl)
  obtain ⟨A3, e5, e6, e7⟩ := l55 (tK T) 0 A2 none (by omega) e3 e4
  exact ⟨A3, e2.trans e5, e6, e7⟩
end TURN
