/-! THE TRIAL carrier: told's questions of it -/
def trC (V : Nat → Int32) (A : Nat → Nat → Int32) (nt : Nat) (Tb : Nat → tb) (j p q : Nat) (g : Nat → Nat) : Prop := mT V A nt Tb ∧ j < 25 ∧ p < nt ∧ q < nt ∧ A 10 j = nI p ∧ A 11 j = nI q ∧ (∀ a, a < tK (Tb p) → A 12 (24 * j + a) = nI (g a) ∧ g a < tK (Tb q)) ∧ tld (Tb q)
section TRIAL
variable {sc : az_S} {G : az_H} {m : Nat} {V : Nat → Int32} {A : Nat → Nat → Int32} {nt : Nat} {Tb : Nat → tb} {j p9 q9 : Nat} {g : Nat → Nat}
theorem trC.gk (h : trC V A nt Tb j p9 q9 g) {a : Nat} (ha : a < tK (Tb p9)) : g a < tK (Tb q9) := (h.2.2.2.2.2.2.1 a ha).2
theorem m_giveT (h : trC V A nt Tb j p9 q9 g) {a : Nat} (ha : a < tK (Tb p9)) : az_ca sc iX6_giveOf [.ref m, .int (nI j), .int (nI a)] (mdG G m V A) = some (some (.int (nI (g a))), mdG G m V A) := by
  have hj := h.2.1
  have hk := (h.1.w h.2.2.1).k24
  rw [eX6_giveOf, md_r13, n24, md_a12 (by omega), (h.2.2.2.2.2.2.1 a ha).1]
theorem m_isUnlikeT (h : trC V A nt Tb j p9 q9 g) : az_ca sc iX6_isUnlike [.ref m, .int (nI j)] (mdG G m V A) = some (some (.int (if uqM (Tb p9) (g) = true then 0 else 1)), mdG G m V A) := by
  have hj := h.2.1
  have h8 := h.1.2.1
  have hi := h.2.2.1
  have hw := h.1.w hi
  have hk := hw.k24
  have hn6 := hw.n6
  have hwB := h.1.w h.2.2.2.1
  have hkB := hwB.k24
  have inner : ∀ a, a < tK (Tb p9) → az_rn sc iX6_isUnlike 15 [some (.ref m), some (.int (nI j)), some (.int (nI (p9))), some (.int (nI a)), some (.int (nI 0))] [] (mdG G m V A) = if exB (uq (Tb p9) (g) a) a = true then some (some (.int 0), mdG G m V A) else az_rn sc iX6_isUnlike 7 [some (.ref m), some (.int (nI j)), some (.int (nI (p9))), some (.int (nI (a + 1))), some (.int (nI a))] [] (mdG G m V A) := by
    intro a ha
    refine lp_ex (fun b => az_rn sc iX6_isUnlike 15 [some (.ref m), some (.int (nI j)), some (.int (nI (p9))), some (.int (nI a)), some (.int (nI b))] [] (mdG G m V A)) (uq (Tb p9) (g) a) (some (some (.int 0), mdG G m V A)) _ a (fun b hb => ?_) ?_
    · have hb' : b < tK (Tb p9) := by omega
      have f1 := hw.frn ha
      have f2 := hw.frn hb'
      have f3 := hw.ton ha
      have f4 := hw.ton hb'
      have g1 := h.gk ha
      have g2 := h.gk hb'
      rw [bX6_isUnlike_15, if_neg (nI_ge hb (by omega)), md_rc, m_from h.1 hi ha, bI_s, md_rc, m_from h.1 hi hb', bI_s, ite_nnI (by omega) (by omega), nI_1]
      by_cases e1 : fr (Tb p9) a = fr (Tb p9) b
      · rw [if_neg (fun z => z e1), md_rc, m_to h.1 hi ha, bI_s, md_rc, m_to h.1 hi hb', bI_s, ite_nnI (by omega) (by omega)]
        by_cases e2 : to (Tb p9) a = to (Tb p9) b
        · rw [if_neg (fun z => z e2), md_rc, m_giveT h ha, bI_s, md_rc, m_giveT h hb', bI_s, ite_nnI (by omega) (by omega)]
          by_cases e3 : g a = g b
          · rw [if_neg (fun z => z e3), zr_0, if_pos (by simp [uq, e1, e2, e3])]
          · rw [if_pos e3, if_neg (by simp [uq, e3])]
        · rw [if_pos e2, if_neg (by simp [uq, e2])]
      · rw [if_pos e1, if_neg (by simp [uq, e1])]
    · rw [bX6_isUnlike_15, if_pos (nI_le (Nat.le_refl _) (by omega)), nI_1]
  rw [eX6_isUnlike, md_r11, md_a10 (by omega), h.2.2.2.2.1]
  refine (lp_exO (fun a (o : Option Value) => az_rn sc iX6_isUnlike 7 [some (.ref m), some (.int (nI j)), some (.int (nI (p9))), some (.int (nI a)), o] [] (mdG G m V A)) (fun a => exB (uq (Tb p9) (g) a) a) (some (some (.int 0), mdG G m V A)) (some (some (.int 1), mdG G m V A)) (tK (Tb p9)) (fun a o ha => ?_) (fun o => ?_) none).trans ?_
  · have e1 : az_rn sc iX6_isUnlike 7 [some (.ref m), some (.int (nI j)), some (.int (nI (p9))), some (.int (nI a)), o] [] (mdG G m V A) = az_rn sc iX6_isUnlike 15 [some (.ref m), some (.int (nI j)), some (.int (nI (p9))), some (.int (nI a)), some (.int (nI 0))] [] (mdG G m V A) := by
      rw [bX6_isUnlike_7, md_r2, md_a2 (by omega), h.1.a hi, if_neg (nI_ge ha (by omega))]
      rfl
    refine ⟨fun hp => ?_, fun hp => ⟨some (.int (nI a)), ?_⟩⟩
    · rw [e1, inner a ha, if_pos hp]
    · rw [e1, inner a ha, if_neg (by rw [hp]; decide)]
  · rw [bX6_isUnlike_7, md_r2, md_a2 (by omega), h.1.a hi, if_pos (nI_le (Nat.le_refl _) (by omega)), zr_1]
  · unfold uqM
    split <;> rfl
theorem m_isGivenT (h : trC V A nt Tb j p9 q9 g) {p q c : Nat} (hp : p < 24) (hq : q < 24) (hc : c < 24) : az_ca sc iX6_isGiven [.ref m, .int (nI j), .int (nI p), .int (nI q), .int (nI c)] (mdG G m V A) = some (some (.int (if gv (Tb p9) (g) p q c = true then 1 else 0)), mdG G m V A) := by
  have hj := h.2.1
  have h8 := h.1.2.1
  have hi := h.2.2.1
  have hw := h.1.w hi
  have hk := hw.k24
  have hn6 := hw.n6
  have hkB := (h.1.w h.2.2.2.1).k24
  rw [eX6_isGiven, md_r11, md_a10 (by omega), h.2.2.2.2.1]
  refine (lp_ex (fun a => az_rn sc iX6_isGiven 7 [some (.ref m), some (.int (nI j)), some (.int (nI p)), some (.int (nI q)), some (.int (nI c)), some (.int (nI (p9))), some (.int (nI a))] [] (mdG G m V A)) (fun a => decide (fr (Tb p9) a = p) && (decide (to (Tb p9) a = q) && decide (g a = c))) (some (some (.int 1), mdG G m V A)) (some (some (.int 0), mdG G m V A)) (tK (Tb p9)) (fun a ha => ?_) ?_).trans ?_
  · have f1 := hw.frn ha
    have f3 := hw.ton ha
    have g1 := h.gk ha
    rw [bX6_isGiven_7, md_r2, md_a2 (by omega), h.1.a hi, if_neg (nI_ge ha (by omega)), md_rc, m_from h.1 hi ha, bI_s, ite_nnI (by omega) (by omega), nI_1]
    by_cases e1 : fr (Tb p9) a = p
    · rw [if_neg (fun z => z e1), md_rc, m_to h.1 hi ha, bI_s, ite_nnI (by omega) (by omega)]
      by_cases e2 : to (Tb p9) a = q
      · rw [if_neg (fun z => z e2), md_rc, m_giveT h ha, bI_s, ite_nnI (by omega) (by omega)]
        by_cases e3 : g a = c
        · rw [if_neg (fun z => z e3), zr_1, if_pos (by simp [e1, e2, e3])]
        · rw [if_pos e3, if_neg (by simp [e3])]
      · rw [if_pos e2, if_neg (by simp [e2])]
    · rw [if_pos e1, if_neg (by simp [e1])]
  · rw [bX6_isGiven_7, md_r2, md_a2 (by omega), h.1.a hi, if_pos (nI_le (Nat.le_refl _) (by omega)), zr_0]
  · unfold gv
    split <;> rfl
theorem m_isFilledT (h : trC V A nt Tb j p9 q9 g) : az_ca sc iX6_isFilled [.ref m, .int (nI j)] (mdG G m V A) = some (some (.int (if gvA (Tb p9) (Tb q9) (g) = true then 0 else 1)), mdG G m V A) := by
  have hj := h.2.1
  have h8 := h.1.2.1
  have hi := h.2.2.1
  have hib := h.2.2.2.1
  have hw := h.1.w hi
  have hwu := h.1.w hib
  have hk := hw.k24
  have hku := hwu.k24
  have hn6 := hw.n6
  have hu6 := hwu.n6
  have hnk := hw.nk
  have inner : ∀ p q, p < tN (Tb p9) → q < tN (Tb p9) → az_rn sc iX6_isFilled 28 [some (.ref m), some (.int (nI j)), some (.int (nI (p9))), some (.int (nI (q9))), some (.int (nI p)), some (.int (nI q)), some (.int (nI 0))] [] (mdG G m V A) = if gvN (Tb p9) (Tb q9) (g) p q = true then some (some (.int 0), mdG G m V A) else az_rn sc iX6_isFilled 20 [some (.ref m), some (.int (nI j)), some (.int (nI (p9))), some (.int (nI (q9))), some (.int (nI p)), some (.int (nI (q + 1))), some (.int (nI (tK (Tb q9))))] [] (mdG G m V A) := by
    intro p q hp hq
    have g1 := h.gk (show p < tK (Tb p9) by omega)
    have g2 := h.gk (show q < tK (Tb p9) by omega)
    refine lp_ex (fun c => az_rn sc iX6_isFilled 28 [some (.ref m), some (.int (nI j)), some (.int (nI (p9))), some (.int (nI (q9))), some (.int (nI p)), some (.int (nI q)), some (.int (nI c))] [] (mdG G m V A)) (fun c => decide (fr (Tb q9) c = g p) && (decide (to (Tb q9) c = g q) && !gv (Tb p9) (g) p q c)) (some (some (.int 0), mdG G m V A)) _ (tK (Tb q9)) (fun c hc => ?_) ?_
    · have f1 := hwu.frn hc
      have f3 := hwu.ton hc
      rw [bX6_isFilled_28, md_r2, md_a2 (by omega), h.1.a hib, if_neg (nI_ge hc (by omega)), md_rc, m_from h.1 hib hc, bI_s, md_rc, m_giveT h (show p < tK (Tb p9) by omega), bI_s, ite_nnI (by omega) (by omega), nI_1]
      by_cases e1 : fr (Tb q9) c = g p
      · rw [if_neg (fun z => z e1), md_rc, m_to h.1 hib hc, bI_s, md_rc, m_giveT h (show q < tK (Tb p9) by omega), bI_s, ite_nnI (by omega) (by omega)]
        by_cases e2 : to (Tb q9) c = g q
        · rw [if_neg (fun z => z e2), md_rc, m_isGivenT h (by omega) (by omega) (by omega), bI_s]
          by_cases e3 : gv (Tb p9) (g) p q c = true
          · rw [if_pos e3, if_pos (by decide), if_neg (by simp [e3])]
          · rw [if_neg e3, if_neg (by decide), zr_0, if_pos (by simp [e1, e2, e3])]
        · rw [if_pos e2, if_neg (by simp [e2])]
      · rw [if_pos e1, if_neg (by simp [e1])]
    · rw [bX6_isFilled_28, md_r2, md_a2 (by omega), h.1.a hib, if_pos (nI_le (Nat.le_refl _) (by omega)), nI_1]
  have mid : ∀ p (o : Option Value), p < tN (Tb p9) → ∃ o' : Option Value, az_rn sc iX6_isFilled 20 [some (.ref m), some (.int (nI j)), some (.int (nI (p9))), some (.int (nI (q9))), some (.int (nI p)), some (.int (nI 0)), o] [] (mdG G m V A) = if exB (fun q => gvN (Tb p9) (Tb q9) (g) p q) (tN (Tb p9)) = true then some (some (.int 0), mdG G m V A) else az_rn sc iX6_isFilled 12 [some (.ref m), some (.int (nI j)), some (.int (nI (p9))), some (.int (nI (q9))), some (.int (nI (p + 1))), some (.int (nI (tN (Tb p9)))), o'] [] (mdG G m V A) := by
    intro p o hp
    have e0 : az_rn sc iX6_isFilled 20 [some (.ref m), some (.int (nI j)), some (.int (nI (p9))), some (.int (nI (q9))), some (.int (nI p)), some (.int (nI 0)), o] [] (mdG G m V A) = az_rn sc iX6_isFilled 20 [some (.ref m), some (.int (nI j)), some (.int (nI (p9))), some (.int (nI (q9))), some (.int (nI p)), some (.int (nI 0)), some (.int (nI (tK (Tb q9))))] [] (mdG G m V A) := by
      rw [bX6_isFilled_20, bX6_isFilled_20, md_r1, md_a1 (by omega), h.1.o hi, if_neg (nI_ge (show 0 < tN (Tb p9) by omega) (by omega)), md_r1, md_a1 (by omega), h.1.o hi, if_neg (nI_ge (show 0 < tN (Tb p9) by omega) (by omega))]
    refine ⟨some (.int (nI (tK (Tb q9)))), ?_⟩
    rw [e0]
    refine lp_exO (fun q (_ : Unit) => az_rn sc iX6_isFilled 20 [some (.ref m), some (.int (nI j)), some (.int (nI (p9))), some (.int (nI (q9))), some (.int (nI p)), some (.int (nI q)), some (.int (nI (tK (Tb q9))))] [] (mdG G m V A)) (fun q => gvN (Tb p9) (Tb q9) (g) p q) (some (some (.int 0), mdG G m V A)) _ (tN (Tb p9)) (fun q _ hq => ?_) (fun _ => ?_) ()
    · have e1 : az_rn sc iX6_isFilled 20 [some (.ref m), some (.int (nI j)), some (.int (nI (p9))), some (.int (nI (q9))), some (.int (nI p)), some (.int (nI q)), some (.int (nI (tK (Tb q9))))] [] (mdG G m V A) = az_rn sc iX6_isFilled 28 [some (.ref m), some (.int (nI j)), some (.int (nI (p9))), some (.int (nI (q9))), some (.int (nI p)), some (.int (nI q)), some (.int (nI 0))] [] (mdG G m V A) := by
        rw [bX6_isFilled_20, md_r1, md_a1 (by omega), h.1.o hi, if_neg (nI_ge hq (by omega))]
        rfl
      refine ⟨fun hz => ?_, fun hz => ⟨(), ?_⟩⟩
      · rw [e1, inner p q hp hq, if_pos hz]
      · rw [e1, inner p q hp hq, if_neg (by rw [hz]; decide)]
    · rw [bX6_isFilled_20, md_r1, md_a1 (by omega), h.1.o hi, if_pos (nI_le (Nat.le_refl _) (by omega)), nI_1]
  rw [eX6_isFilled, md_r11, md_a10 (by omega), h.2.2.2.2.1, md_r12, md_a11 (by omega), h.2.2.2.2.2.1]
  refine (lp_exO (fun p (o : Option Value × Option Value) => az_rn sc iX6_isFilled 12 [some (.ref m), some (.int (nI j)), some (.int (nI (p9))), some (.int (nI (q9))), some (.int (nI p)), o.1, o.2] [] (mdG G m V A)) (fun p => exB (fun q => gvN (Tb p9) (Tb q9) (g) p q) (tN (Tb p9))) (some (some (.int 0), mdG G m V A)) (some (some (.int 1), mdG G m V A)) (tN (Tb p9)) (fun p o hp => ?_) (fun o => ?_) (none, none)).trans ?_
  · obtain ⟨o', em⟩ := mid p o.2 hp
    have e1 : az_rn sc iX6_isFilled 12 [some (.ref m), some (.int (nI j)), some (.int (nI (p9))), some (.int (nI (q9))), some (.int (nI p)), o.1, o.2] [] (mdG G m V A) = az_rn sc iX6_isFilled 20 [some (.ref m), some (.int (nI j)), some (.int (nI (p9))), some (.int (nI (q9))), some (.int (nI p)), some (.int (nI 0)), o.2] [] (mdG G m V A) := by
      rw [bX6_isFilled_12, md_r1, md_a1 (by omega), h.1.o hi, if_neg (nI_ge hp (by omega))]
      rfl
    refine ⟨fun hz => ?_, fun hz => ⟨(some (.int (nI (tN (Tb p9)))), o'), ?_⟩⟩
    · rw [e1, em, if_pos hz]
    · rw [e1, em, if_neg (by rw [hz]; decide)]
  · rw [bX6_isFilled_12, md_r1, md_a1 (by omega), h.1.o hi, if_pos (nI_le (Nat.le_refl _) (by omega)), zr_1]
  · unfold gvA
    split <;> rfl
theorem m_isComeT (h : trC V A nt Tb j p9 q9 g) {y : Nat} (hy : y < 24) : az_ca sc iX6_isCome [.ref m, .int (nI j), .int (nI y)] (mdG G m V A) = some (some (.int (if cmM (Tb p9) (Tb q9) (g) y = true then 1 else 0)), mdG G m V A) := by
  have hj := h.2.1
  have h8 := h.1.2.1
  have hi := h.2.2.1
  have hib := h.2.2.2.1
  have hw := h.1.w hi
  have hwu := h.1.w hib
  have hk := hw.k24
  have hku := hwu.k24
  have hn6 := hw.n6
  have hu6 := hwu.n6
  have hnk := hw.nk
  have inner : ∀ c, c < tK (Tb q9) → az_rn sc iX6_isCome 15 [some (.ref m), some (.int (nI j)), some (.int (nI y)), some (.int (nI (q9))), some (.int (nI c)), some (.int (nI 0))] [] (mdG G m V A) = if exB (fun p => decide (fr (Tb q9) c = g p) && (decide (to (Tb q9) c = y) && bk (Tb q9) c)) (tN (Tb p9)) = true then some (some (.int 1), mdG G m V A) else az_rn sc iX6_isCome 7 [some (.ref m), some (.int (nI j)), some (.int (nI y)), some (.int (nI (q9))), some (.int (nI (c + 1))), some (.int (nI (tN (Tb p9))))] [] (mdG G m V A) := by
    intro c hc
    have f1 := hwu.frn hc
    have f3 := hwu.ton hc
    refine lp_ex (fun p => az_rn sc iX6_isCome 15 [some (.ref m), some (.int (nI j)), some (.int (nI y)), some (.int (nI (q9))), some (.int (nI c)), some (.int (nI p))] [] (mdG G m V A)) (fun p => decide (fr (Tb q9) c = g p) && (decide (to (Tb q9) c = y) && bk (Tb q9) c)) (some (some (.int 1), mdG G m V A)) _ (tN (Tb p9)) (fun p hp => ?_) ?_
    · have g1 := h.gk (show p < tK (Tb p9) by omega)
      rw [bX6_isCome_15, md_r1, md_r11, md_a10 (by omega), h.2.2.2.2.1, md_a1 (by omega), h.1.o hi, if_neg (nI_ge hp (by omega)), md_rc, m_from h.1 hib hc, bI_s, md_rc, m_giveT h (show p < tK (Tb p9) by omega), bI_s, ite_nnI (by omega) (by omega), nI_1]
      by_cases e1 : fr (Tb q9) c = g p
      · rw [if_neg (fun z => z e1), md_rc, m_to h.1 hib hc, bI_s, ite_nnI (by omega) (by omega)]
        by_cases e2 : to (Tb q9) c = y
        · rw [if_neg (fun z => z e2), md_rc, m_isPaired h.1 hib h.2.2.2.2.2.2.2 hc, bI_s]
          by_cases e3 : bk (Tb q9) c = true
          · rw [if_pos e3, if_neg (by decide), zr_1, if_pos (by simp [e1, e2, e3])]
          · rw [if_neg e3, if_pos rfl, if_neg (by simp [e3])]
        · rw [if_pos e2, if_neg (by simp [e2])]
      · rw [if_pos e1, if_neg (by simp [e1])]
    · rw [bX6_isCome_15, md_r1, md_r11, md_a10 (by omega), h.2.2.2.2.1, md_a1 (by omega), h.1.o hi, if_pos (nI_le (Nat.le_refl _) (by omega)), nI_1]
  rw [eX6_isCome, md_r12, md_a11 (by omega), h.2.2.2.2.2.1]
  refine (lp_exO (fun c (o : Option Value) => az_rn sc iX6_isCome 7 [some (.ref m), some (.int (nI j)), some (.int (nI y)), some (.int (nI (q9))), some (.int (nI c)), o] [] (mdG G m V A)) (fun c => exB (fun p => decide (fr (Tb q9) c = g p) && (decide (to (Tb q9) c = y) && bk (Tb q9) c)) (tN (Tb p9))) (some (some (.int 1), mdG G m V A)) (some (some (.int 0), mdG G m V A)) (tK (Tb q9)) (fun c o hc => ?_) (fun o => ?_) none).trans ?_
  · have e1 : az_rn sc iX6_isCome 7 [some (.ref m), some (.int (nI j)), some (.int (nI y)), some (.int (nI (q9))), some (.int (nI c)), o] [] (mdG G m V A) = az_rn sc iX6_isCome 15 [some (.ref m), some (.int (nI j)), some (.int (nI y)), some (.int (nI (q9))), some (.int (nI c)), some (.int (nI 0))] [] (mdG G m V A) := by
      rw [bX6_isCome_7, md_r2, md_a2 (by omega), h.1.a hib, if_neg (nI_ge hc (by omega))]
      rfl
    refine ⟨fun hz => ?_, fun hz => ⟨some (.int (nI (tN (Tb p9)))), ?_⟩⟩
    · rw [e1, inner c hc, if_pos hz]
    · rw [e1, inner c hc, if_neg (by rw [hz]; decide)]
  · rw [bX6_isCome_7, md_r2, md_a2 (by omega), h.1.a hib, if_pos (nI_le (Nat.le_refl _) (by omega)), zr_0]
  · unfold cmM
    split <;> rfl
theorem m_isAllComeT (h : trC V A nt Tb j p9 q9 g) : az_ca sc iX6_isAllCome [.ref m, .int (nI j)] (mdG G m V A) = some (some (.int (if rcA (Tb p9) (Tb q9) (g) = true then 0 else 1)), mdG G m V A) := by
  have hj := h.2.1
  have h8 := h.1.2.1
  have hib := h.2.2.2.1
  have hwu := h.1.w hib
  have hu6 := hwu.n6
  rw [eX6_isAllCome]
  refine (lp_ex (fun y => az_rn sc iX6_isAllCome 2 [some (.ref m), some (.int (nI j)), some (.int (nI y))] [] (mdG G m V A)) (fun y => !rcN (Tb p9) (Tb q9) (g) y) (some (some (.int 0), mdG G m V A)) (some (some (.int 1), mdG G m V A)) (tN (Tb q9)) (fun y hy => ?_) ?_).trans ?_
  · rw [bX6_isAllCome_2, md_r1, md_r12, md_a11 (by omega), h.2.2.2.2.2.1, md_a1 (by omega), h.1.o hib, if_neg (nI_ge hy (by omega)), md_rc, m_isComeT h (by omega), bI_s, rc_e hwu, nI_1]
    by_cases e : rcN (Tb p9) (Tb q9) (g) y = true
    · rw [if_pos e, if_pos (by decide), if_neg (by simp [e])]
    · rw [if_neg e, if_neg (by decide), zr_0, if_pos (by simp [e])]
  · rw [bX6_isAllCome_2, md_r1, md_r12, md_a11 (by omega), h.2.2.2.2.2.1, md_a1 (by omega), h.1.o hib, if_pos (nI_le (Nat.le_refl _) (by omega)), zr_1]
  · unfold rcA
    split <;> rfl
/-- is it the same but for names -/
def smT (T U : tb) (g : Nat → Nat) : Bool := !uqM T g && (!gvA T U g && !rcA T U g)
theorem m_isSameT (h : trC V A nt Tb j p9 q9 g) : az_ca sc iX6_isSame [.ref m, .int (nI j)] (mdG G m V A) = some (some (.int (if smT (Tb p9) (Tb q9) g = true then 1 else 0)), mdG G m V A) := by
  rw [eX6_isSame, md_rc, m_isUnlikeT h, bI_s]
  unfold smT
  cases uqM (Tb p9) g with
  | true => rfl
  | false =>
    rw [if_neg (show ¬ false = true by decide), if_neg (show ¬ (1 : Int32) = 0 by decide), md_rc, m_isFilledT h, bI_s]
    cases gvA (Tb p9) (Tb q9) g with
    | true => rfl
    | false =>
      rw [if_neg (show ¬ false = true by decide), if_neg (show ¬ (1 : Int32) = 0 by decide), md_rc, m_isAllComeT h, bI_s]
      cases rcA (Tb p9) (Tb q9) g with
      | true => rfl
      | false => rfl
end TRIAL
section TRIALS
variable {sc : az_S} {G : az_H} {t u r : Nat} {T U : tb} {f : Nat → Int32} {g : Nat → Nat}
theorem s_isSame (h : tbC G t T) (hw : tbW T) (hu : tbC G u U) (hwu : tbW U) (hr : G.1 r = some (.inl (0, 24, .inl f))) (hf : ∀ a, a < tK T → f a = nI (g a) ∧ g a < 24) : az_ca sc iX5_isSame [.ref t, .ref u, .ref r] G = some (some (.int (if smT T U g = true then 1 else 0)), G) := by
  rw [eX5_isSame, s_keepsUnlike h hw hr hf, bI_s, uq_e]
  unfold smT
  cases uqM T g with
  | true => rfl
  | false =>
    rw [if_neg (show ¬ false = true by decide), if_neg (show ¬ (1 : Int32) = 0 by decide), s_givesAll h hw hu hwu hr hf, bI_s]
    cases gvA T U g with
    | true => rfl
    | false =>
      rw [if_neg (show ¬ false = true by decide), if_neg (show ¬ (1 : Int32) = 0 by decide), s_reachesAll h hw hu hwu hr hf, bI_s]
      cases rcA T U g with
      | true => rfl
      | false => rfl
end TRIALS
