/-! OPERATION order -/
def fbv (o : Option Nat) : Int32 := match o with | some c => nI c | none => -1
theorem fbt_h {T U : tb} (h : shp T U) (x y : Nat) : fbt U x y = fbt T x y := by
  unfold fbt
  rw [h.2.1]
  exact fdB_congr (fun i _ => by rw [shp_fr h, shp_to h])
section ORDL
variable {sc : az_S} {G G1 K : az_H} {B x m t : Nat} {V Vm : Nat → Int32} {A Am : Nat → Nat → Int32} {R : Nat → Nat → Option Nat} {S : wS} {ti ci : Nat → Nat} {nt : Nat} {Tb : Nat → tb} {T U : tb} {v : Int64} {n : Nat}
theorem s_firstBetween (h : tbC G t T) (hw : tbW T) {p q : Nat} (hp : p < 6) (hq : q < 6) : az_ca sc iX4_firstBetween [.ref t, .int (nI p), .int (nI q)] G = some (some (.int (fbv (fbt T p q))), G) := by
  have hk := hw.k24
  rw [eX4_firstBetween]
  refine (lp_fd (fun i => az_rn sc iX4_firstBetween 2 [some (.ref t), some (.int (nI p)), some (.int (nI q)), some (.int (nI i))] [] G) (fun i => decide (fr T i = p) && decide (to T i = q)) (fun i => some (some (.int (nI i)), G)) (some (some (.int (-1)), G)) (tK T) (fun i hi => ?_) ?_).trans ?_
  · rw [bX4_firstBetween_2, tb_f1 h, if_neg (nI_ge hi (by omega)), tb_rc h, s_leadsN h hw hi (by omega) (by omega), bI_s, nI_1]
    by_cases e : fr T i = p ∧ to T i = q
    · rw [if_pos e, if_neg (by decide), if_pos (by simp [e])]
    · rw [if_neg e, if_pos rfl, if_neg (by simpa using e)]
  · rw [bX4_firstBetween_2, tb_f1 h, if_pos (nI_le (Nat.le_refl _) (by omega))]
  · unfold fbt
    cases fdB (fun i => decide (fr T i = p) && decide (to T i = q)) (tK T) <;> rfl
theorem s_tableOfOrder (h1 : 1 ≤ n) (h6 : n ≤ 6) (hg : ¬ ng1 v n = true) (h24 : nb v n ≤ 24) : az_ca sc iX5_tableOfOrder [.int (nI n), .long v] K = some (some (.ref K.2.1), tbG (bmp K 4 630) K.2.1 (oiF v n)) := by
  have hd : ∀ a, a < n → ob v a a = true := fun a ha => (ng1_d hg a ha).1
  have hP := oiA_P h1 h6 hd h24 n (Nat.le_refl _)
  have hk := hP.1.k24
  have l12 : ∀ a, a < n → ∀ e b, b + e = n → az_rn sc iX5_tableOfOrder 12 [some (.int (nI n)), some (.long v), none, some (.ref K.2.1), some (.int (nI a)), some (.int (nI b))] [] (tbG (bmp K 4 630) K.2.1 (oiB v (oiA v n a) a b)) = az_rn sc iX5_tableOfOrder 7 [some (.int (nI n)), some (.long v), none, some (.ref K.2.1), some (.int (nI (a + 1))), some (.int (nI n))] [] (tbG (bmp K 4 630) K.2.1 (oiB v (oiA v n a) a n)) := by
    intro a ha e
    induction e with
    | zero =>
      intro b hb
      have e2 : b = n := by omega
      rw [bX5_tableOfOrder_12, e2, if_pos (nI_le (Nat.le_refl _) (by omega)), nI_1]
    | succ e ih =>
      intro b hb
      have hU := oiB_P h6 hd h24 ha (oiA_P h1 h6 hd h24 a (by omega)) b (by omega)
      have hnk := hU.1.nk
      rw [hU.2.1] at hnk
      have e0 : oiB v (oiA v n a) a (b + 1) = if off v a b = true then aAr (oiB v (oiA v n a) a b) a b else oiB v (oiA v n a) a b := rfl
      have ihb := ih (b + 1) (by omega)
      rw [e0] at ihb
      rw [bX5_tableOfOrder_12, if_neg (nI_ge (show b < n by omega) (by omega)), ite_nI (by omega) (by omega), nI_1]
      by_cases eab : a = b
      · rw [if_neg (show ¬ off v a b = true by simp [off, eab])] at ihb
        rw [if_pos eab]
        exact ihb
      · rw [if_neg eab, s_hasBit v (by omega) (by omega), bI_s]
        by_cases ho : ob v a b = true
        · have hoff : off v a b = true := by simp [off, eab, ho]
          have hroom := oi_room h6 hd h24 ha (show b < n by omega) hoff
          rw [if_pos hoff] at ihb
          rw [if_pos ho, if_neg (by decide), tb_rc (tg_C _ _ _), s_addArrow (by omega) (by omega) hroom, bI_s]
          exact ihb
        · rw [if_neg (show ¬ off v a b = true by simp [off, ho])] at ihb
          rw [if_neg ho, if_pos rfl]
          exact ihb
  have l7 : ∀ e a (o : Option Value), a + e = n → ∃ o' : Option Value, az_rn sc iX5_tableOfOrder 7 [some (.int (nI n)), some (.long v), none, some (.ref K.2.1), some (.int (nI a)), o] [] (tbG (bmp K 4 630) K.2.1 (oiA v n a)) = az_rn sc iX5_tableOfOrder 34 [some (.int (nI n)), some (.long v), none, some (.ref K.2.1), some (.int (nI 0)), o'] [] (tbG (bmp K 4 630) K.2.1 (oiA v n n)) := by
    intro e
    induction e with
    | zero =>
      intro a o hae
      have e2 : a = n := by omega
      refine ⟨o, ?_⟩
      rw [bX5_tableOfOrder_7, e2, if_pos (nI_le (Nat.le_refl _) (by omega))]
      rfl
    | succ e ih =>
      intro a o hae
      obtain ⟨o', e'⟩ := ih (a + 1) (some (.int (nI n))) (by omega)
      refine ⟨o', ?_⟩
      rw [bX5_tableOfOrder_7, if_neg (nI_ge (show a < n by omega) (by omega))]
      exact (l12 a (by omega) n 0 (by omega)).trans e'
  have l40 : ∀ (W : tb) (a : Nat), shp (oiA v n n) W → tbW W → a < tK (oiA v n n) → ∀ e b, b + e = tK (oiA v n n) → az_rn sc iX5_tableOfOrder 40 [some (.int (nI n)), some (.long v), none, some (.ref K.2.1), some (.int (nI a)), some (.int (nI b))] [] (tbG (bmp K 4 630) K.2.1 (twB (oif (oiA v n n)) W a b)) = az_rn sc iX5_tableOfOrder 34 [some (.int (nI n)), some (.long v), none, some (.ref K.2.1), some (.int (nI (a + 1))), some (.int (nI (tK (oiA v n n))))] [] (tbG (bmp K 4 630) K.2.1 (twB (oif (oiA v n n)) W a (tK (oiA v n n)))) := by
    intro W a hs hWW ha e
    induction e with
    | zero =>
      intro b hb
      have e2 : b = tK (oiA v n n) := by omega
      subst e2
      have hsb := (twB_W hs hWW ha (fun b c hb e => oif_gd hg hP a b c ha hb e) (tK (oiA v n n)) (Nat.le_refl _)).1.2.1
      rw [bX5_tableOfOrder_40, tb_f1 (tg_C _ _ _), hsb, if_pos (nI_le (Nat.le_refl _) (by omega)), nI_1]
    | succ e ih =>
      intro b hb
      obtain ⟨hsh, hsw⟩ := twB_W hs hWW ha (fun b c hb e => oif_gd hg hP a b c ha hb e) b (by omega)
      have hsb := hsh.2.1
      have hN := hsh.1.trans hP.2.1
      have f1 := hsw.frn (show a < tK (twB (oif (oiA v n n)) W a b) by omega)
      have f2 := hsw.ton (show b < tK (twB (oif (oiA v n n)) W a b) by omega)
      have ihb := ih (b + 1) (by omega)
      have e0 : twB (oif (oiA v n n)) W a (b + 1) = wSo (twB (oif (oiA v n n)) W a b) a b (oif (oiA v n n) a b) := rfl
      rw [e0] at ihb
      rw [bX5_tableOfOrder_40, tb_f1 (tg_C _ _ _), hsb, if_neg (nI_ge (show b < tK (oiA v n n) by omega) (by omega)), tb_rc (tg_C _ _ _), s_isRow (tg_C _ _ _) hsw (by omega) (by omega), bI_s, shp_to hsh, shp_fr hsh, nI_1]
      by_cases ec : to (oiA v n n) a = fr (oiA v n n) b
      · have eo : oif (oiA v n n) a b = some (fbv (fbt (oiA v n n) (fr (oiA v n n) a) (to (oiA v n n) b))) := if_pos ec
        rw [eo] at ihb
        rw [if_pos ec, if_neg (by decide), tb_rc (tg_C _ _ _), s_fromOf (tg_C _ _ _) (by omega), bI_s, tb_rc (tg_C _ _ _), s_toOf (tg_C _ _ _) (by omega), bI_s, hsw.f (by omega), hsw.g (by omega), tb_rc (tg_C _ _ _), s_firstBetween (tg_C _ _ _) hsw (by omega) (by omega), bI_s, fbt_h hsh, shp_fr hsh, shp_to hsh, tb_rc (tg_C _ _ _), s_setWay (by omega) (by omega) (by omega), bV_s]
        exact ihb
      · have eo : oif (oiA v n n) a b = none := if_neg ec
        rw [eo] at ihb
        rw [if_neg ec, if_pos rfl]
        exact ihb
  have l34 : ∀ e a (o : Option Value), a + e = tK (oiA v n n) → az_rn sc iX5_tableOfOrder 34 [some (.int (nI n)), some (.long v), none, some (.ref K.2.1), some (.int (nI a)), o] [] (tbG (bmp K 4 630) K.2.1 (twA (oif (oiA v n n)) (tK (oiA v n n)) (oiA v n n) a)) = some (some (.ref K.2.1), tbG (bmp K 4 630) K.2.1 (oiF v n)) := by
    intro e
    induction e with
    | zero =>
      intro a o hae
      have e2 : a = tK (oiA v n n) := by omega
      subst e2
      have h0 := twA_W hP.1 (oif_gd hg hP) (tK (oiA v n n)) (Nat.le_refl _)
      rw [bX5_tableOfOrder_34, tb_f1 (tg_C _ _ _), h0.1.2.1, if_pos (nI_le (Nat.le_refl _) (by omega)), w1_1, tg_p2]
      rfl
    | succ e ih =>
      intro a o hae
      have h0 := twA_W hP.1 (oif_gd hg hP) a (by omega)
      rw [bX5_tableOfOrder_34, tb_f1 (tg_C _ _ _), h0.1.2.1, if_neg (nI_ge (show a < tK (oiA v n n) by omega) (by omega))]
      refine (l40 _ a h0.1 h0.2 (by omega) (tK (oiA v n n)) 0 (by omega)).trans ?_
      exact ih (a + 1) _ (by omega)
  rw [eX5_tableOfOrder, nO4, s_newT h1 h6, bV_s]
  obtain ⟨o', e'⟩ := l7 n 0 none (by omega)
  refine e'.trans ?_
  exact l34 (tK (oiA v n n)) 0 o' (by omega)
/-! the model's side -/
theorem m_between (h : mT V A nt Tb) {i : Nat} (hi : i < nt) (e : Tb i = T) (hw : tbW T) {p q c : Nat} (hp : p < 6) (hq : q < 6) (hf : fbt T p q = some c) : az_ca sc iX6_between [.ref m, .int (nI i), .int (nI p), .int (nI q)] (mdG G m V A) = some (some (.int (nI c)), mdG G m V A) := by
  obtain ⟨c1, c2, c3⟩ := fdB_some hf
  have hn6 := hw.n6
  have walk : ∀ d j, j + d = c → az_rn sc iX6_between 2 [some (.ref m), some (.int (nI i)), some (.int (nI p)), some (.int (nI q)), some (.int (nI j))] [] (mdG G m V A) = some (some (.int (nI c)), mdG G m V A) := by
    intro d
    induction d with
    | zero =>
      intro j hj
      have e2 : j = c := by omega
      subst e2
      have c4 : fr T j = p ∧ to T j = q := by simpa using c2
      rw [bX6_between_2, md_rc, m_from2 h hi e c1, bI_s, c4.1, if_neg (fun z => z rfl), md_rc, m_to2 h hi e c1, bI_s, c4.2, if_pos rfl]
    | succ d ih =>
      intro j hj
      have hjk : j < tK T := by omega
      have f1 := hw.frn hjk
      have f2 := hw.ton hjk
      have c4 := c3 j (by omega)
      rw [bX6_between_2, md_rc, m_from2 h hi e hjk, bI_s, ite_nnI (by omega) (by omega), nI_1]
      by_cases e1 : fr T j = p
      · rw [if_neg (fun z => z e1), md_rc, m_to2 h hi e hjk, bI_s, ite_nI (by omega) (by omega)]
        have e2 : ¬ to T j = q := by
          intro z
          simp [e1, z] at c4
        rw [if_neg e2]
        exact ih (j + 1) (by omega)
      · rw [if_pos e1]
        exact ih (j + 1) (by omega)
  rw [eX6_between]
  exact walk c 0 (by omega)
end ORDL
