/-! OPERATION beside: the class's side -/
section BECL
variable {sc : az_S} {G K : az_H} {t0 t1 : Nat} {T U B : tb}
theorem s_numBe (hT : tbC G t0 T) (hU : tbC G t1 U) (wTT : tbW T) (wU : tbW U) {a b : Nat} (ha : a < tK T) (hb : b < tK U) : az_ca sc iX5_numberBeside [.ref t0, .ref t1, .int (nI a), .int (nI b)] G = some (some (.int (nI (eMm T U a b))), G) := by
  have k1 := wTT.k24
  have k2 := wU.k24
  have n1 := wTT.n6
  have n2 := wU.n6
  have nk := wU.nk
  rw [eX5_numberBeside, tb_f1 hU, tb_f0 hU, tb_rc hT, s_doesNothing hT (by omega) n1, bI_s]
  unfold eMm bnb
  by_cases h1 : a < tN T
  · rw [if_pos h1, if_pos h1, if_neg (show ¬ (1 : Int32) = 0 by decide), tb_rc hU, s_doesNothing hU (by omega) n2, bI_s]
    by_cases h2 : b < tN U
    · rw [if_pos h2, if_pos h2, if_neg (show ¬ (1 : Int32) = 0 by decide), tb_f0 hU, pk_mul, nI_add]
    · rw [if_neg h2, if_neg h2, if_pos (show (0 : Int32) = 0 by decide), tb_rc hT, s_doesNothing hT (by omega) n1, bI_s, if_pos h1, if_neg (show ¬ (1 : Int32) = 0 by decide), tb_f0 hT, tb_f0 hU, tb_f0 hU, pk_mul (tN T) (tN U), pk_sub nk, pk_mul, nI_add, nI_add, pk_sub (by omega)]
      have e : tN T * tN U + a * (tK U - tN U) + b - tN U = tN T * tN U + (a * (tK U - tN U) + (b - tN U)) := by omega
      rw [e]
  · rw [if_neg h1, if_neg h1, if_pos (show (0 : Int32) = 0 by decide), tb_rc hT, s_doesNothing hT (by omega) n1, bI_s, if_neg h1, if_pos (show (0 : Int32) = 0 by decide), tb_f0 hT, tb_f0 hU, tb_f0 hT, tb_f0 hT, tb_f1 hU, pk_mul (tN T) (tN U), pk_sub nk, pk_mul, pk_sub (show tN T ≤ a by omega), pk_mul, nI_add, nI_add, nI_add]
    have e : tN T * tN U + tN T * (tK U - tN U) + (a - tN T) * tK U + b = tN T * tN U + (tN T * (tK U - tN U) + ((a - tN T) * tK U + b)) := by omega
    rw [e]
theorem s_tellBe (hT : ∀ f, tbC (tbG (bmp K 4 630) K.2.1 (wT B f)) t0 T) (hU : ∀ f, tbC (tbG (bmp K 4 630) K.2.1 (wT B f)) t1 U) (wTT : tbW T) (wU : tbW U) (tT : tld T) (tU : tld U) (h24 : tK T * tK U ≤ 24) (hK : tK B = tK T * tK U) {a b : Nat} (ha : a < tK T) (hb : b < tK T) (hab : to T a = fr T b) (f : Nat → Int32) (hf : bePr T U B (beD T U a b 0 0) f) : ∃ f', az_ca sc iX5_tellWaysBeside [.ref K.2.1, .ref t0, .ref t1, .int (nI a), .int (nI b)] (tbG (bmp K 4 630) K.2.1 (wT B f)) = some (none, tbG (bmp K 4 630) K.2.1 (wT B f')) ∧ bePr T U B (beD T U a (b + 1) 0 0) f' := by
  have k1 := wTT.k24
  have k2 := wU.k24
  obtain ⟨w1, w2, w3, w4⟩ := wn_t wTT tT ha hb hab
  have l13 : ∀ c, c < tK U → ∀ e d f (o8 o9 : Option Value), d + e = tK U → bePr T U B (beD T U a b c d) f → ∃ (f' : Nat → Int32) (o8' o9' : Option Value), az_rn sc iX5_tellWaysBeside 13 [some (.ref K.2.1), some (.ref t0), some (.ref t1), some (.int (nI a)), some (.int (nI b)), some (.int (nI (wn T a b))), some (.int (nI c)), some (.int (nI d)), o8, o9] [] (tbG (bmp K 4 630) K.2.1 (wT B f)) = az_rn sc iX5_tellWaysBeside 7 [some (.ref K.2.1), some (.ref t0), some (.ref t1), some (.int (nI a)), some (.int (nI b)), some (.int (nI (wn T a b))), some (.int (nI (c + 1))), some (.int (nI (tK U))), o8', o9'] [] (tbG (bmp K 4 630) K.2.1 (wT B f')) ∧ bePr T U B (beD T U a b (c + 1) 0) f' := by
    intro c hc e
    induction e with
    | zero =>
      intro d f o8 o9 hd hf
      have e2 : d = tK U := by omega
      subst e2
      refine ⟨f, o8, o9, ?_, bePr_c hf (fun x y => ⟨fun z => ⟨z.1, ?_⟩, fun z => ⟨z.1, ?_⟩⟩)⟩
      · rw [bX5_tellWaysBeside_13, tb_f1 (hU _), if_pos (nI_le (Nat.le_refl _) (by omega)), nI_1]
      · have := z.2
        omega
      · have := (be_pq wTT wU z.1.2.1).2.1
        have := z.2
        omega
    | succ e ih =>
      intro d f o8 o9 hd hf
      rw [bX5_tellWaysBeside_13, tb_f1 (hU _), if_neg (nI_ge (show d < tK U by omega) (by omega)), tb_rc (hU _), s_isRow (hU _) wU hc (show d < tK U by omega), bI_s, nI_1]
      by_cases hcd : to U c = fr U d
      · obtain ⟨v1, v2, v3, v4⟩ := wn_t wU tU hc (show d < tK U by omega) hcd
        have x1 : eMm T U a c < tK T * tK U := bnb_lt wTT.nk wU.nk ha hc
        have y1 : eMm T U b d < tK T * tK U := bnb_lt wTT.nk wU.nk hb (show d < tK U by omega)
        have px : ePp T U (eMm T U a c) = a ∧ eQq T U (eMm T U a c) = c := bp_nb wU.nk hc
        have py : ePp T U (eMm T U b d) = b ∧ eQq T U (eMm T U b d) = d := bp_nb wU.nk (show d < tK U by omega)
        have ev : eMm T U (wn T a b) (wn U c d) = bev T U (eMm T U a c) (eMm T U b d) := by
          unfold bev
          rw [px.1, px.2, py.1, py.2]
        rw [if_pos hcd, if_neg (show ¬ (1 : Int32) = 0 by decide), s_numBe (hT _) (hU _) wTT wU ha hc, bI_s, s_numBe (hT _) (hU _) wTT wU hb (show d < tK U by omega), bI_s, tb_rc (hU _), s_wayAt (hU _) hc (show d < tK U by omega) k2, v1, bI_s, s_numBe (hT _) (hU _) wTT wU w2 v2, bI_s, tb_rc (tg_C _ _ _), s_setWay (T := wT B f) (show eMm T U a c < tK B by omega) (show eMm T U b d < tK B by omega) (show tK B ≤ 24 by omega), bV_s, ev]
        refine ih (d + 1) (upd f (24 * eMm T U a c + eMm T U b d) (nI (bev T U (eMm T U a c) (eMm T U b d)))) _ _ (by omega) (bePr_s hf (by omega) (fun x y => ⟨fun z => ?_, fun z => ?_⟩))
        · obtain ⟨z0, z1⟩ := z
          by_cases e5 : ePp T U x = a ∧ ePp T U y = b ∧ eQq T U x = c ∧ eQq T U y = d
          · refine Or.inr ⟨?_, ?_⟩
            · rw [← e5.1, ← e5.2.2.1]; exact (be_pq wTT wU z0.1).2.2.symm
            · rw [← e5.2.1, ← e5.2.2.2]; exact (be_pq wTT wU z0.2.1).2.2.symm
          · exact Or.inl ⟨z0, by omega⟩
        · rcases z with z | z
          · exact ⟨z.1, by have := z.2; omega⟩
          · refine ⟨⟨by omega, by omega, ?_⟩, ?_⟩
            · rw [z.1, z.2, px.1, px.2, py.1, py.2]; exact ⟨hab, hcd⟩
            · rw [z.1, z.2, px.1, px.2, py.1, py.2]; omega
      · rw [if_neg hcd, if_pos (show (0 : Int32) = 0 by decide)]
        refine ih (d + 1) f _ _ (by omega) (bePr_c hf (fun x y => ⟨fun z => ⟨z.1, by have := z.2; omega⟩, fun z => ⟨z.1, ?_⟩⟩))
        obtain ⟨z0, z1⟩ := z
        by_cases e5 : eQq T U x = c ∧ eQq T U y = d
        · exact absurd (by rw [← e5.1, ← e5.2]; exact z0.2.2.2) hcd
        · omega
  have l7 : ∀ e c f (o7 o8 o9 : Option Value), c + e = tK U → bePr T U B (beD T U a b c 0) f → ∃ f', az_rn sc iX5_tellWaysBeside 7 [some (.ref K.2.1), some (.ref t0), some (.ref t1), some (.int (nI a)), some (.int (nI b)), some (.int (nI (wn T a b))), some (.int (nI c)), o7, o8, o9] [] (tbG (bmp K 4 630) K.2.1 (wT B f)) = some (none, tbG (bmp K 4 630) K.2.1 (wT B f')) ∧ bePr T U B (beD T U a (b + 1) 0 0) f' := by
    intro e
    induction e with
    | zero =>
      intro c f o7 o8 o9 hc hf
      have e2 : c = tK U := by omega
      subst e2
      refine ⟨f, ?_, bePr_c hf (fun x y => ⟨fun z => ⟨z.1, ?_⟩, fun z => ⟨z.1, ?_⟩⟩)⟩
      · rw [bX5_tellWaysBeside_7, tb_f1 (hU _), if_pos (nI_le (Nat.le_refl _) (by omega))]
      · have := z.2
        omega
      · have := (be_pq wTT wU z.1.1).2.1
        have := z.2
        omega
    | succ e ih =>
      intro c f o7 o8 o9 hc hf
      obtain ⟨f1, o8', o9', e1, g1⟩ := l13 c (by omega) (tK U) 0 f o8 o9 (by omega) hf
      obtain ⟨f2, e2, g2⟩ := ih (c + 1) f1 _ o8' o9' (by omega) g1
      refine ⟨f2, ?_, g2⟩
      rw [bX5_tellWaysBeside_7, tb_f1 (hU _), if_neg (nI_ge (show c < tK U by omega) (by omega))]
      exact e1.trans e2
  obtain ⟨f', e1, g1⟩ := l7 (tK U) 0 f none none none (by omega) hf
  refine ⟨f', ?_, g1⟩
  rw [eX5_tellWaysBeside, tb_rc (hT _), s_wayAt (hT _) ha hb k1, w1, bI_s]
  exact e1
theorem s_tableBe (hT : tbC K t0 T) (hU : tbC K t1 U) (ht : t0 + 3 < K.2.1) (hu : t1 + 3 < K.2.1) (wTT : tbW T) (wU : tbW U) (tT : tld T) (tU : tld U) (h6 : tN T * tN U ≤ 6) (h24 : tK T * tK U ≤ 24) : az_ca sc iX5_tableBeside [.ref t0, .ref t1] K = some (some (.ref K.2.1), tbG (bmp K 4 630) K.2.1 (beF T U)) := by
  have k1 := wTT.k24
  have k2 := wU.k24
  have n1 := wTT.n6
  have n2 := wU.n6
  have nkT := wTT.nk
  have nkU := wU.nk
  have nk := be_nk wTT wU
  have n11 := be_n1 wTT wU
  have cT : ∀ W, tbC (tbG (bmp K 4 630) K.2.1 W) t0 T := fun W => tbC_bmp hT ht
  have cU : ∀ W, tbC (tbG (bmp K 4 630) K.2.1 W) t1 U := fun W => tbC_bmp hU hu
  have hend : tN T * tN U + bdx (tN T) (tN U) (tK U) (tK T) 0 = tK T * tK U := bdx_e nkT nkU
  obtain ⟨B, hB⟩ : ∃ B, beA T U (tK T * tK U - tN T * tN U) = B := ⟨_, rfl⟩
  obtain ⟨i1, i2, i3, i4, i5⟩ := beB_s wTT wU h6 h24 hB
  have l17 : ∀ a, a < tK T → ∀ e b (o5 o6 : Option Value), b + e = tK U → ∃ (o5' o6' : Option Value), az_rn sc iX5_tableBeside 17 [some (.ref t0), some (.ref t1), some (.ref K.2.1), some (.int (nI a)), some (.int (nI b)), o5, o6] [] (tbG (bmp K 4 630) K.2.1 (beA T U (bdx (tN T) (tN U) (tK U) a b))) = az_rn sc iX5_tableBeside 11 [some (.ref t0), some (.ref t1), some (.ref K.2.1), some (.int (nI (a + 1))), some (.int (nI (tK U))), o5', o6'] [] (tbG (bmp K 4 630) K.2.1 (beA T U (bdx (tN T) (tN U) (tK U) (a + 1) 0))) := by
    intro a ha e
    induction e with
    | zero =>
      intro b o5 o6 hb
      have e2 : b = tK U := by omega
      subst e2
      refine ⟨o5, o6, ?_⟩
      rw [bX5_tableBeside_17, tb_f1 (cU _), if_pos (nI_le (Nat.le_refl _) (by omega)), nI_1, bdx_r]
    | succ e ih =>
      intro b o5 o6 hb
      have hb' : b < tK U := by omega
      by_cases hs : a < tN T ∧ b < tN U
      · obtain ⟨o5', o6', e1⟩ := ih (b + 1) o5 o6 (by omega)
        refine ⟨o5', o6', ?_⟩
        rw [bdx_s0 hs.1 hs.2] at e1
        rw [bX5_tableBeside_17, tb_f1 (cU _), if_neg (nI_ge hb' (by omega)), tb_rc (cT _), s_doesNothing (cT _) (by omega) n1, bI_s, if_pos hs.1, if_neg (show ¬ (1 : Int32) = 0 by decide), tb_rc (cU _), s_doesNothing (cU _) (by omega) n2, bI_s, if_pos hs.2, if_pos (show ¬ (1 : Int32) = 0 by decide), nI_1]
        exact e1
      · have hx := bdx_nb (l := tK U) hs
        have hx' : eMm T U a b = tN T * tN U + bdx (tN T) (tN U) (tK U) a b := hx
        have hlt : eMm T U a b < tK T * tK U := bnb_lt nkT nkU ha hb'
        have hpq : ePp T U (eMm T U a b) = a ∧ eQq T U (eMm T U a b) = b := bp_nb nkU hb'
        rw [hx'] at hlt hpq
        obtain ⟨j1, j2, j3, j4, j5⟩ := beA_s wTT wU h6 h24 (bdx (tN T) (tN U) (tK U) a b) (by omega)
        have f1 := be_lt (wTT.frn ha) (wU.frn hb')
        have f2 := be_lt (wTT.ton ha) (wU.ton hb')
        have e0 : beA T U (bdx (tN T) (tN U) (tK U) a b + 1) = aAr (beA T U (bdx (tN T) (tN U) (tK U) a b)) (fr T a * tN U + fr U b) (to T a * tN U + to U b) := by
          show aAr _ (fr T (ePp T U _) * tN U + fr U (eQq T U _)) (to T (ePp T U _) * tN U + to U (eQq T U _)) = _
          rw [hpq.1, hpq.2]
        obtain ⟨o5', o6', e1⟩ := ih (b + 1) (some (.int (nI (fr T a * tN U + fr U b)))) (some (.int (nI (to T a * tN U + to U b)))) (by omega)
        refine ⟨o5', o6', ?_⟩
        rw [bdx_s1 hs, e0] at e1
        rw [bX5_tableBeside_17, tb_f1 (cU _), if_neg (nI_ge hb' (by omega)), tb_rc (cT _), s_doesNothing (cT _) (by omega) n1, bI_s]
        by_cases h1 : a < tN T
        · rw [if_pos h1, if_neg (show ¬ (1 : Int32) = 0 by decide), tb_rc (cU _), s_doesNothing (cU _) (by omega) n2, bI_s, if_neg (fun z => hs ⟨h1, z⟩), if_neg (show ¬ ¬ (0 : Int32) = 0 by decide), tb_rc (cT _), s_fromOf (cT _) (by omega), bI_s, tb_f0 (cU _), tb_rc (cU _), s_fromOf (cU _) (by omega), bI_s, tb_rc (cT _), s_toOf (cT _) (by omega), bI_s, tb_f0 (cU _), tb_rc (cU _), s_toOf (cU _) (by omega), bI_s, wTT.f ha, wTT.g ha, wU.f hb', wU.g hb', pk_mul, pk_mul, nI_add, nI_add, tb_rc (tg_C _ _ _), s_addArrow (by omega) (by omega) (by omega), bI_s, nI_1]
          exact e1
        · rw [if_neg h1, if_pos (show (0 : Int32) = 0 by decide), tb_rc (cT _), s_fromOf (cT _) (by omega), bI_s, tb_f0 (cU _), tb_rc (cU _), s_fromOf (cU _) (by omega), bI_s, tb_rc (cT _), s_toOf (cT _) (by omega), bI_s, tb_f0 (cU _), tb_rc (cU _), s_toOf (cU _) (by omega), bI_s, wTT.f ha, wTT.g ha, wU.f hb', wU.g hb', pk_mul, pk_mul, nI_add, nI_add, tb_rc (tg_C _ _ _), s_addArrow (by omega) (by omega) (by omega), bI_s, nI_1]
          exact e1
  have l11 : ∀ e a (o4 o5 o6 : Option Value), a + e = tK T → ∃ (o4' o5' o6' : Option Value), az_rn sc iX5_tableBeside 11 [some (.ref t0), some (.ref t1), some (.ref K.2.1), some (.int (nI a)), o4, o5, o6] [] (tbG (bmp K 4 630) K.2.1 (beA T U (bdx (tN T) (tN U) (tK U) a 0))) = az_rn sc iX5_tableBeside 62 [some (.ref t0), some (.ref t1), some (.ref K.2.1), some (.int (nI 0)), o4', o5', o6'] [] (tbG (bmp K 4 630) K.2.1 B) := by
    intro e
    induction e with
    | zero =>
      intro a o4 o5 o6 hae
      have e2 : a = tK T := by omega
      subst e2
      have e3 : bdx (tN T) (tN U) (tK U) (tK T) 0 = tK T * tK U - tN T * tN U := by omega
      refine ⟨o4, o5, o6, ?_⟩
      rw [bX5_tableBeside_11, tb_f1 (cT _), if_pos (nI_le (Nat.le_refl _) (by omega)), e3, hB]
      rfl
    | succ e ih =>
      intro a o4 o5 o6 hae
      obtain ⟨o5', o6', e1⟩ := l17 a (by omega) (tK U) 0 o5 o6 (by omega)
      obtain ⟨o4'', o5'', o6'', e2⟩ := ih (a + 1) (some (.int (nI (tK U)))) o5' o6' (by omega)
      refine ⟨o4'', o5'', o6'', ?_⟩
      rw [bX5_tableBeside_11, tb_f1 (cT _), if_neg (nI_ge (show a < tK T by omega) (by omega))]
      exact e1.trans e2
  have l68 : ∀ a, a < tK T → ∀ e b f (o5 o6 : Option Value), b + e = tK T → bePr T U B (beD T U a b 0 0) f → ∃ f', az_rn sc iX5_tableBeside 68 [some (.ref t0), some (.ref t1), some (.ref K.2.1), some (.int (nI a)), some (.int (nI b)), o5, o6] [] (tbG (bmp K 4 630) K.2.1 (wT B f)) = az_rn sc iX5_tableBeside 62 [some (.ref t0), some (.ref t1), some (.ref K.2.1), some (.int (nI (a + 1))), some (.int (nI (tK T))), o5, o6] [] (tbG (bmp K 4 630) K.2.1 (wT B f')) ∧ bePr T U B (beD T U (a + 1) 0 0 0) f' := by
    intro a ha e
    induction e with
    | zero =>
      intro b f o5 o6 hb hf
      have e2 : b = tK T := by omega
      subst e2
      refine ⟨f, ?_, bePr_c hf (fun x y => ⟨fun z => ⟨z.1, ?_⟩, fun z => ⟨z.1, ?_⟩⟩)⟩
      · rw [bX5_tableBeside_68, tb_f1 (cT _), if_pos (nI_le (Nat.le_refl _) (by omega)), nI_1]
      · have := z.2
        omega
      · have := (be_pq wTT wU z.1.2.1).1
        have := z.2
        omega
    | succ e ih =>
      intro b f o5 o6 hb hf
      have hb' : b < tK T := by omega
      by_cases hab : to T a = fr T b
      · obtain ⟨f1, e1, g1⟩ := s_tellBe (sc := sc) (fun f => cT (wT B f)) (fun f => cU (wT B f)) wTT wU tT tU h24 i3 ha hb' hab f hf
        obtain ⟨f2, e2, g2⟩ := ih (b + 1) f1 o5 o6 (by omega) g1
        refine ⟨f2, ?_, g2⟩
        rw [bX5_tableBeside_68, tb_f1 (cT _), if_neg (nI_ge hb' (by omega)), tb_rc (cT _), s_isRow (cT _) wTT ha hb', bI_s, if_pos hab, if_neg (show ¬ (1 : Int32) = 0 by decide), e1, bV_s, nI_1]
        exact e2
      · obtain ⟨f2, e2, g2⟩ := ih (b + 1) f o5 o6 (by omega) (bePr_c hf (fun x y => ⟨fun z => ⟨z.1, by have := z.2; omega⟩, fun z => ⟨z.1, by
          obtain ⟨z0, z1⟩ := z
          by_cases e5 : ePp T U x = a ∧ ePp T U y = b
          · exact absurd (by rw [← e5.1, ← e5.2]; exact z0.2.2.1) hab
          · omega⟩⟩))
        refine ⟨f2, ?_, g2⟩
        rw [bX5_tableBeside_68, tb_f1 (cT _), if_neg (nI_ge hb' (by omega)), tb_rc (cT _), s_isRow (cT _) wTT ha hb', bI_s, if_neg hab, if_pos (show (0 : Int32) = 0 by decide), nI_1]
        exact e2
  have l62 : ∀ e a f (o4 o5 o6 : Option Value), a + e = tK T → bePr T U B (beD T U a 0 0 0) f → az_rn sc iX5_tableBeside 62 [some (.ref t0), some (.ref t1), some (.ref K.2.1), some (.int (nI a)), o4, o5, o6] [] (tbG (bmp K 4 630) K.2.1 (wT B f)) = some (some (.ref K.2.1), tbG (bmp K 4 630) K.2.1 (beF T U)) := by
    intro e
    induction e with
    | zero =>
      intro a f o4 o5 o6 hae hf
      have e2 : a = tK T := by omega
      subst e2
      have e3 := bePr_e h24 hf (fun x hx => (be_pq wTT wU hx).1)
      have e4 := shp_wT (beW_s wTT wU h6 h24 hB tT tU _ (Nat.le_refl _)).1
      rw [bX5_tableBeside_62, tb_f1 (cT _), if_pos (nI_le (Nat.le_refl _) (by omega)), w1_1, tg_p2, e3, e4]
      unfold beF
      rw [hB]
      rfl
    | succ e ih =>
      intro a f o4 o5 o6 hae hf
      obtain ⟨f1, e1, g1⟩ := l68 a (by omega) (tK T) 0 f o5 o6 (by omega) hf
      rw [bX5_tableBeside_62, tb_f1 (cT _), if_neg (nI_ge (show a < tK T by omega) (by omega))]
      exact e1.trans (ih (a + 1) f1 _ o5 o6 (by omega) g1)
  obtain ⟨o4', o5', o6', e1⟩ := l11 (tK T) 0 none none none (by omega)
  rw [bdx_0] at e1
  rw [eX5_tableBeside, nO4, tb_f0 (tbC_psh hT ht), tb_f0 (tbC_psh hU hu), pk_mul, s_newT n11 h6, bV_s]
  refine e1.trans ?_
  exact l62 (tK T) 0 (tW B) o4' o5' o6' (by omega) (bePr_0 ⟨rfl, rfl, rfl⟩)
end BECL
