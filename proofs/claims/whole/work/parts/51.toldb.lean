/-! OPERATION told -/
def cmM (T U : tb) (g : Nat → Nat) (y : Nat) : Bool := exB (fun c => exB (fun p => decide (fr U c = g p) && (decide (to U c = y) && bk U c)) (tN T)) (tK U)
theorem bk_sym {T : tb} (hw : tbW T) {a : Nat} (ha : a < tK T) (h : bk T a = true) : ∃ b, b < tK T ∧ fr T b = to T a ∧ to T b = fr T a ∧ bk T b = true := by
  obtain ⟨b, hb, h2⟩ := exB_iff.mp h
  have h3 : dn T (wy T a b) = true ∧ dn T (wy T b a) = true := by simpa using h2
  have e1 : to T a = fr T b := by
    by_cases e : to T a = fr T b
    · exact e
    · have := (hw.2.2.2.1 a b ha hb).1 e
      rw [this, dn_m1] at h3
      exact absurd h3.1 (by decide)
  have e2 : to T b = fr T a := by
    by_cases e : to T b = fr T a
    · exact e
    · have := (hw.2.2.2.1 b a hb ha).1 e
      rw [this, dn_m1] at h3
      exact absurd h3.2 (by decide)
  exact ⟨b, hb, e1.symm, e2, exB_iff.mpr ⟨a, ha, by simp [h3.1, h3.2]⟩⟩
theorem rc_e {T U : tb} (hw : tbW U) (g : Nat → Nat) (y : Nat) : cmM T U g y = rcN T U g y := by
  rw [Bool.eq_iff_iff]
  unfold cmM rcN
  rw [exB_iff, exB_iff]
  constructor
  · rintro ⟨c, hc, h⟩
    obtain ⟨p, hp, h2⟩ := exB_iff.mp h
    have h3 : fr U c = g p ∧ to U c = y ∧ bk U c = true := by simpa using h2
    obtain ⟨d, d1, d2, d3, d4⟩ := bk_sym hw hc h3.2.2
    refine ⟨p, hp, exB_iff.mpr ⟨d, d1, ?_⟩⟩
    simp [d2, d3, d4, h3.1, h3.2.1]
  · rintro ⟨p, hp, h⟩
    obtain ⟨c, hc, h2⟩ := exB_iff.mp h
    have h3 : fr U c = y ∧ to U c = g p ∧ bk U c = true := by simpa using h2
    obtain ⟨d, d1, d2, d3, d4⟩ := bk_sym hw hc h3.2.2
    refine ⟨d, d1, exB_iff.mpr ⟨p, hp, ?_⟩⟩
    simp [d2, d3, d4, h3.1, h3.2.1]
section TOLDD
variable {sc : az_S} {G : az_H} {t u r : Nat} {T U : tb} {f : Nat → Int32} {g : Nat → Nat}
theorem s_reachesAll (h : tbC G t T) (hw : tbW T) (hu : tbC G u U) (hwu : tbW U) (hr : G.1 r = some (.inl (0, 24, .inl f))) (hf : ∀ a, a < tK T → f a = nI (g a) ∧ g a < 24) : az_ca sc iX5_reachesAll [.ref t, .ref u, .ref r] G = some (some (.int (if rcA T U g = true then 0 else 1)), G) := by
  have hn6 := hw.n6
  have hnk := hw.nk
  have hu6 := hwu.n6
  have walk : ∀ y, y < tN U → ∀ d p, p + d = tN T → (∀ p', p' < p → alk U y (g p') = false) → (rcN T U g y = true → ∃ o4 o5 : Option Value, az_rn sc iX5_reachesAll 10 [some (.ref t), some (.ref u), some (.ref r), some (.int (nI y)), some (.int 0), some (.int (nI p))] [] G = az_rn sc iX5_reachesAll 2 [some (.ref t), some (.ref u), some (.ref r), some (.int (nI (y + 1))), o4, o5] [] G) ∧ (rcN T U g y = false → az_rn sc iX5_reachesAll 10 [some (.ref t), some (.ref u), some (.ref r), some (.int (nI y)), some (.int 0), some (.int (nI p))] [] G = some (some (.int 0), G)) := by
    intro y hy d
    induction d with
    | zero =>
      intro p hp hall
      have e : p = tN T := by omega
      subst e
      have hz : rcN T U g y = false := exB_none hall
      refine ⟨fun z => absurd z (by rw [hz]; decide), fun _ => ?_⟩
      rw [bX5_reachesAll_10, tb_f0 h, if_pos (nI_le (Nat.le_refl _) (by omega)), if_neg (by decide), zr_0]
    | succ d ih =>
      intro p hp hall
      obtain ⟨f1, f2⟩ := hf p (by omega)
      rw [bX5_reachesAll_10, tb_f0 h, if_neg (nI_ge (show p < tN T by omega) (by omega)), if_neg (by decide), s_read hr (by omega) (by omega), bI_s, f1, tb_rc hu, s_areAlike hu hwu (by omega) (by omega), bI_s, nI_1]
      by_cases e : alk U y (g p) = true
      · rw [if_pos e]
        have hz : rcN T U g y = true := exB_iff.mpr ⟨p, by omega, e⟩
        refine ⟨fun _ => ⟨some (.int 1), some (.int (nI (p + 1))), ?_⟩, fun z => absurd z (by rw [hz]; decide)⟩
        rw [bX5_reachesAll_10, tb_f0 h]
        by_cases e2 : tN T ≤ p + 1
        · rw [if_pos (nI_le e2 (by omega)), if_pos (by decide), nI_1]
        · rw [if_neg (nI_ge (show p + 1 < tN T by omega) (by omega)), if_pos (by decide), if_pos (by decide), nI_1]
      · rw [if_neg e]
        refine ih (p + 1) (by omega) (fun p' hp' => ?_)
        by_cases e3 : p' = p
        · subst e3; exact Bool.eq_false_iff.mpr e
        · exact hall p' (by omega)
  rw [eX5_reachesAll]
  refine (lp_exO (fun y (o : Option Value × Option Value) => az_rn sc iX5_reachesAll 2 [some (.ref t), some (.ref u), some (.ref r), some (.int (nI y)), o.1, o.2] [] G) (fun y => !rcN T U g y) (some (some (.int 0), G)) (some (some (.int 1), G)) (tN U) (fun y o hy => ?_) (fun o => ?_) (none, none)).trans ?_
  · have e1 : az_rn sc iX5_reachesAll 2 [some (.ref t), some (.ref u), some (.ref r), some (.int (nI y)), o.1, o.2] [] G = az_rn sc iX5_reachesAll 10 [some (.ref t), some (.ref u), some (.ref r), some (.int (nI y)), some (.int 0), some (.int (nI 0))] [] G := by
      rw [bX5_reachesAll_2, tb_f0 hu, if_neg (nI_ge hy (by omega))]
      rfl
    obtain ⟨w1, w2⟩ := walk y hy (tN T) 0 (by omega) (fun p' hp' => absurd hp' (Nat.not_lt_zero _))
    refine ⟨fun hz => ?_, fun hz => ?_⟩
    · have hz' : rcN T U g y = false := by simpa using hz
      rw [e1, w2 hz']
    · have hz' : rcN T U g y = true := by simpa using hz
      obtain ⟨o4, o5, e2⟩ := w1 hz'
      exact ⟨(o4, o5), e1.trans e2⟩
  · rw [bX5_reachesAll_2, tb_f0 hu, if_pos (nI_le (Nat.le_refl _) (by omega)), zr_1]
  · unfold rcA
    split <;> rfl
end TOLDD
section TOLDM
variable {sc : az_S} {G : az_H} {m : Nat} {V : Nat → Int32} {A : Nat → Nat → Int32} {S : wS} {j : Nat}
theorem m_give (h : iM V A S) (hS : wW S) {a : Nat} (hj : j < sM S) (ha : a < tK (sT S (cA S j))) : az_ca sc iX6_giveOf [.ref m, .int (nI j), .int (nI a)] (mdG G m V A) = some (some (.int (nI (cg S j a))), mdG G m V A) := by
  rw [m_giveOf h hS hj ha, hS.cr hj ha]
theorem m_isUnlike (h : iM V A S) (hS : wW S) (hj : j < sM S) : az_ca sc iX6_isUnlike [.ref m, .int (nI j)] (mdG G m V A) = some (some (.int (if uqM (sT S (cA S j)) (cg S j) = true then 0 else 1)), mdG G m V A) := by
  have h24 := hS.2.1
  have h8 := hS.1
  have hi := hS.ca hj
  have hw := hS.tw hi
  have hk := hw.k24
  have hn6 := hw.n6
  have hwB := hS.tw (hS.cb hj)
  have hkB := hwB.k24
  have inner : ∀ a, a < tK (sT S (cA S j)) → az_rn sc iX6_isUnlike 15 [some (.ref m), some (.int (nI j)), some (.int (nI (cA S j))), some (.int (nI a)), some (.int (nI 0))] [] (mdG G m V A) = if exB (uq (sT S (cA S j)) (cg S j) a) a = true then some (some (.int 0), mdG G m V A) else az_rn sc iX6_isUnlike 7 [some (.ref m), some (.int (nI j)), some (.int (nI (cA S j))), some (.int (nI (a + 1))), some (.int (nI a))] [] (mdG G m V A) := by
    intro a ha
    refine lp_ex (fun b => az_rn sc iX6_isUnlike 15 [some (.ref m), some (.int (nI j)), some (.int (nI (cA S j))), some (.int (nI a)), some (.int (nI b))] [] (mdG G m V A)) (uq (sT S (cA S j)) (cg S j) a) (some (some (.int 0), mdG G m V A)) _ a (fun b hb => ?_) ?_
    · have hb' : b < tK (sT S (cA S j)) := by omega
      have f1 := hw.frn ha
      have f2 := hw.frn hb'
      have f3 := hw.ton ha
      have f4 := hw.ton hb'
      have g1 := hS.cgk hj ha
      have g2 := hS.cgk hj hb'
      rw [bX6_isUnlike_15, if_neg (nI_ge hb (by omega)), md_rc, m_from h.1 hi ha, bI_s, md_rc, m_from h.1 hi hb', bI_s, ite_nnI (by omega) (by omega), nI_1]
      by_cases e1 : fr (sT S (cA S j)) a = fr (sT S (cA S j)) b
      · rw [if_neg (fun z => z e1), md_rc, m_to h.1 hi ha, bI_s, md_rc, m_to h.1 hi hb', bI_s, ite_nnI (by omega) (by omega)]
        by_cases e2 : to (sT S (cA S j)) a = to (sT S (cA S j)) b
        · rw [if_neg (fun z => z e2), md_rc, m_give h hS hj ha, bI_s, md_rc, m_give h hS hj hb', bI_s, ite_nnI (by omega) (by omega)]
          by_cases e3 : cg S j a = cg S j b
          · rw [if_neg (fun z => z e3), zr_0, if_pos (by simp [uq, e1, e2, e3])]
          · rw [if_pos e3, if_neg (by simp [uq, e3])]
        · rw [if_pos e2, if_neg (by simp [uq, e2])]
      · rw [if_pos e1, if_neg (by simp [uq, e1])]
    · rw [bX6_isUnlike_15, if_pos (nI_le (Nat.le_refl _) (by omega)), nI_1]
  rw [eX6_isUnlike, md_r11, md_a10 (by omega), (h.2.2.2.2.1 j hj).1]
  refine (lp_exO (fun a (o : Option Value) => az_rn sc iX6_isUnlike 7 [some (.ref m), some (.int (nI j)), some (.int (nI (cA S j))), some (.int (nI a)), o] [] (mdG G m V A)) (fun a => exB (uq (sT S (cA S j)) (cg S j) a) a) (some (some (.int 0), mdG G m V A)) (some (some (.int 1), mdG G m V A)) (tK (sT S (cA S j))) (fun a o ha => ?_) (fun o => ?_) none).trans ?_
  · have e1 : az_rn sc iX6_isUnlike 7 [some (.ref m), some (.int (nI j)), some (.int (nI (cA S j))), some (.int (nI a)), o] [] (mdG G m V A) = az_rn sc iX6_isUnlike 15 [some (.ref m), some (.int (nI j)), some (.int (nI (cA S j))), some (.int (nI a)), some (.int (nI 0))] [] (mdG G m V A) := by
      rw [bX6_isUnlike_7, md_r2, md_a2 (by omega), h.1.a hi, if_neg (nI_ge ha (by omega))]
      rfl
    refine ⟨fun hp => ?_, fun hp => ⟨some (.int (nI a)), ?_⟩⟩
    · rw [e1, inner a ha, if_pos hp]
    · rw [e1, inner a ha, if_neg (by rw [hp]; decide)]
  · rw [bX6_isUnlike_7, md_r2, md_a2 (by omega), h.1.a hi, if_pos (nI_le (Nat.le_refl _) (by omega)), zr_1]
  · unfold uqM
    split <;> rfl
theorem m_isGiven (h : iM V A S) (hS : wW S) (hj : j < sM S) {p q c : Nat} (hp : p < 24) (hq : q < 24) (hc : c < 24) : az_ca sc iX6_isGiven [.ref m, .int (nI j), .int (nI p), .int (nI q), .int (nI c)] (mdG G m V A) = some (some (.int (if gv (sT S (cA S j)) (cg S j) p q c = true then 1 else 0)), mdG G m V A) := by
  have h24 := hS.2.1
  have h8 := hS.1
  have hi := hS.ca hj
  have hw := hS.tw hi
  have hk := hw.k24
  have hn6 := hw.n6
  have hkB := (hS.tw (hS.cb hj)).k24
  rw [eX6_isGiven, md_r11, md_a10 (by omega), (h.2.2.2.2.1 j hj).1]
  refine (lp_ex (fun a => az_rn sc iX6_isGiven 7 [some (.ref m), some (.int (nI j)), some (.int (nI p)), some (.int (nI q)), some (.int (nI c)), some (.int (nI (cA S j))), some (.int (nI a))] [] (mdG G m V A)) (fun a => decide (fr (sT S (cA S j)) a = p) && (decide (to (sT S (cA S j)) a = q) && decide (cg S j a = c))) (some (some (.int 1), mdG G m V A)) (some (some (.int 0), mdG G m V A)) (tK (sT S (cA S j))) (fun a ha => ?_) ?_).trans ?_
  · have f1 := hw.frn ha
    have f3 := hw.ton ha
    have g1 := hS.cgk hj ha
    rw [bX6_isGiven_7, md_r2, md_a2 (by omega), h.1.a hi, if_neg (nI_ge ha (by omega)), md_rc, m_from h.1 hi ha, bI_s, ite_nnI (by omega) (by omega), nI_1]
    by_cases e1 : fr (sT S (cA S j)) a = p
    · rw [if_neg (fun z => z e1), md_rc, m_to h.1 hi ha, bI_s, ite_nnI (by omega) (by omega)]
      by_cases e2 : to (sT S (cA S j)) a = q
      · rw [if_neg (fun z => z e2), md_rc, m_give h hS hj ha, bI_s, ite_nnI (by omega) (by omega)]
        by_cases e3 : cg S j a = c
        · rw [if_neg (fun z => z e3), zr_1, if_pos (by simp [e1, e2, e3])]
        · rw [if_pos e3, if_neg (by simp [e3])]
      · rw [if_pos e2, if_neg (by simp [e2])]
    · rw [if_pos e1, if_neg (by simp [e1])]
  · rw [bX6_isGiven_7, md_r2, md_a2 (by omega), h.1.a hi, if_pos (nI_le (Nat.le_refl _) (by omega)), zr_0]
  · unfold gv
    split <;> rfl
theorem m_isFilled (h : iM V A S) (hS : wW S) (hj : j < sM S) : az_ca sc iX6_isFilled [.ref m, .int (nI j)] (mdG G m V A) = some (some (.int (if gvA (sT S (cA S j)) (sT S (cB S j)) (cg S j) = true then 0 else 1)), mdG G m V A) := by
  have h24 := hS.2.1
  have h8 := hS.1
  have hi := hS.ca hj
  have hib := hS.cb hj
  have hw := hS.tw hi
  have hwu := hS.tw hib
  have hk := hw.k24
  have hku := hwu.k24
  have hn6 := hw.n6
  have hu6 := hwu.n6
  have hnk := hw.nk
  have inner : ∀ p q, p < tN (sT S (cA S j)) → q < tN (sT S (cA S j)) → az_rn sc iX6_isFilled 28 [some (.ref m), some (.int (nI j)), some (.int (nI (cA S j))), some (.int (nI (cB S j))), some (.int (nI p)), some (.int (nI q)), some (.int (nI 0))] [] (mdG G m V A) = if gvN (sT S (cA S j)) (sT S (cB S j)) (cg S j) p q = true then some (some (.int 0), mdG G m V A) else az_rn sc iX6_isFilled 20 [some (.ref m), some (.int (nI j)), some (.int (nI (cA S j))), some (.int (nI (cB S j))), some (.int (nI p)), some (.int (nI (q + 1))), some (.int (nI (tK (sT S (cB S j)))))] [] (mdG G m V A) := by
    intro p q hp hq
    have g1 := hS.cgk hj (show p < tK (sT S (cA S j)) by omega)
    have g2 := hS.cgk hj (show q < tK (sT S (cA S j)) by omega)
    refine lp_ex (fun c => az_rn sc iX6_isFilled 28 [some (.ref m), some (.int (nI j)), some (.int (nI (cA S j))), some (.int (nI (cB S j))), some (.int (nI p)), some (.int (nI q)), some (.int (nI c))] [] (mdG G m V A)) (fun c => decide (fr (sT S (cB S j)) c = cg S j p) && (decide (to (sT S (cB S j)) c = cg S j q) && !gv (sT S (cA S j)) (cg S j) p q c)) (some (some (.int 0), mdG G m V A)) _ (tK (sT S (cB S j))) (fun c hc => ?_) ?_
    · have f1 := hwu.frn hc
      have f3 := hwu.ton hc
      rw [bX6_isFilled_28, md_r2, md_a2 (by omega), h.1.a hib, if_neg (nI_ge hc (by omega)), md_rc, m_from h.1 hib hc, bI_s, md_rc, m_give h hS hj (show p < tK (sT S (cA S j)) by omega), bI_s, ite_nnI (by omega) (by omega), nI_1]
      by_cases e1 : fr (sT S (cB S j)) c = cg S j p
      · rw [if_neg (fun z => z e1), md_rc, m_to h.1 hib hc, bI_s, md_rc, m_give h hS hj (show q < tK (sT S (cA S j)) by omega), bI_s, ite_nnI (by omega) (by omega)]
        by_cases e2 : to (sT S (cB S j)) c = cg S j q
        · rw [if_neg (fun z => z e2), md_rc, m_isGiven h hS hj (by omega) (by omega) (by omega), bI_s]
          by_cases e3 : gv (sT S (cA S j)) (cg S j) p q c = true
          · rw [if_pos e3, if_pos (by decide), if_neg (by simp [e3])]
          · rw [if_neg e3, if_neg (by decide), zr_0, if_pos (by simp [e1, e2, e3])]
        · rw [if_pos e2, if_neg (by simp [e2])]
      · rw [if_pos e1, if_neg (by simp [e1])]
    · rw [bX6_isFilled_28, md_r2, md_a2 (by omega), h.1.a hib, if_pos (nI_le (Nat.le_refl _) (by omega)), nI_1]
  have mid : ∀ p (o : Option Value), p < tN (sT S (cA S j)) → ∃ o' : Option Value, az_rn sc iX6_isFilled 20 [some (.ref m), some (.int (nI j)), some (.int (nI (cA S j))), some (.int (nI (cB S j))), some (.int (nI p)), some (.int (nI 0)), o] [] (mdG G m V A) = if exB (fun q => gvN (sT S (cA S j)) (sT S (cB S j)) (cg S j) p q) (tN (sT S (cA S j))) = true then some (some (.int 0), mdG G m V A) else az_rn sc iX6_isFilled 12 [some (.ref m), some (.int (nI j)), some (.int (nI (cA S j))), some (.int (nI (cB S j))), some (.int (nI (p + 1))), some (.int (nI (tN (sT S (cA S j))))), o'] [] (mdG G m V A) := by
    intro p o hp
    have e0 : az_rn sc iX6_isFilled 20 [some (.ref m), some (.int (nI j)), some (.int (nI (cA S j))), some (.int (nI (cB S j))), some (.int (nI p)), some (.int (nI 0)), o] [] (mdG G m V A) = az_rn sc iX6_isFilled 20 [some (.ref m), some (.int (nI j)), some (.int (nI (cA S j))), some (.int (nI (cB S j))), some (.int (nI p)), some (.int (nI 0)), some (.int (nI (tK (sT S (cB S j)))))] [] (mdG G m V A) := by
      rw [bX6_isFilled_20, bX6_isFilled_20, md_r1, md_a1 (by omega), h.1.o hi, if_neg (nI_ge (show 0 < tN (sT S (cA S j)) by omega) (by omega)), md_r1, md_a1 (by omega), h.1.o hi, if_neg (nI_ge (show 0 < tN (sT S (cA S j)) by omega) (by omega))]
    refine ⟨some (.int (nI (tK (sT S (cB S j))))), ?_⟩
    rw [e0]
    refine lp_exO (fun q (_ : Unit) => az_rn sc iX6_isFilled 20 [some (.ref m), some (.int (nI j)), some (.int (nI (cA S j))), some (.int (nI (cB S j))), some (.int (nI p)), some (.int (nI q)), some (.int (nI (tK (sT S (cB S j)))))] [] (mdG G m V A)) (fun q => gvN (sT S (cA S j)) (sT S (cB S j)) (cg S j) p q) (some (some (.int 0), mdG G m V A)) _ (tN (sT S (cA S j))) (fun q _ hq => ?_) (fun _ => ?_) ()
    · have e1 : az_rn sc iX6_isFilled 20 [some (.ref m), some (.int (nI j)), some (.int (nI (cA S j))), some (.int (nI (cB S j))), some (.int (nI p)), some (.int (nI q)), some (.int (nI (tK (sT S (cB S j)))))] [] (mdG G m V A) = az_rn sc iX6_isFilled 28 [some (.ref m), some (.int (nI j)), some (.int (nI (cA S j))), some (.int (nI (cB S j))), some (.int (nI p)), some (.int (nI q)), some (.int (nI 0))] [] (mdG G m V A) := by
        rw [bX6_isFilled_20, md_r1, md_a1 (by omega), h.1.o hi, if_neg (nI_ge hq (by omega))]
        rfl
      refine ⟨fun hz => ?_, fun hz => ⟨(), ?_⟩⟩
      · rw [e1, inner p q hp hq, if_pos hz]
      · rw [e1, inner p q hp hq, if_neg (by rw [hz]; decide)]
    · rw [bX6_isFilled_20, md_r1, md_a1 (by omega), h.1.o hi, if_pos (nI_le (Nat.le_refl _) (by omega)), nI_1]
  rw [eX6_isFilled, md_r11, md_a10 (by omega), (h.2.2.2.2.1 j hj).1, md_r12, md_a11 (by omega), (h.2.2.2.2.1 j hj).2.1]
  refine (lp_exO (fun p (o : Option Value × Option Value) => az_rn sc iX6_isFilled 12 [some (.ref m), some (.int (nI j)), some (.int (nI (cA S j))), some (.int (nI (cB S j))), some (.int (nI p)), o.1, o.2] [] (mdG G m V A)) (fun p => exB (fun q => gvN (sT S (cA S j)) (sT S (cB S j)) (cg S j) p q) (tN (sT S (cA S j)))) (some (some (.int 0), mdG G m V A)) (some (some (.int 1), mdG G m V A)) (tN (sT S (cA S j))) (fun p o hp => ?_) (fun o => ?_) (none, none)).trans ?_
  · obtain ⟨o', em⟩ := mid p o.2 hp
    have e1 : az_rn sc iX6_isFilled 12 [some (.ref m), some (.int (nI j)), some (.int (nI (cA S j))), some (.int (nI (cB S j))), some (.int (nI p)), o.1, o.2] [] (mdG G m V A) = az_rn sc iX6_isFilled 20 [some (.ref m), some (.int (nI j)), some (.int (nI (cA S j))), some (.int (nI (cB S j))), some (.int (nI p)), some (.int (nI 0)), o.2] [] (mdG G m V A) := by
      rw [bX6_isFilled_12, md_r1, md_a1 (by omega), h.1.o hi, if_neg (nI_ge hp (by omega))]
      rfl
    refine ⟨fun hz => ?_, fun hz => ⟨(some (.int (nI (tN (sT S (cA S j))))), o'), ?_⟩⟩
    · rw [e1, em, if_pos hz]
    · rw [e1, em, if_neg (by rw [hz]; decide)]
  · rw [bX6_isFilled_12, md_r1, md_a1 (by omega), h.1.o hi, if_pos (nI_le (Nat.le_refl _) (by omega)), zr_1]
  · unfold gvA
    split <;> rfl
end TOLDM
