section ANSWB
variable {sc : az_S} {G : az_H} {m : Nat} {V : Nat → Int32} {A : Nat → Nat → Int32} {S : wS} {j : Nat}
theorem m_isAnswer (h : iM V A S) (hS : wW S) (hj : j < sM S) {y p e : Nat} (hy : y < 24) (hp : p < 24) (he : e < tK (sT S (cB S j))) : az_ca sc iX6_isAnswer [.ref m, .int (nI j), .int (nI y), .int (nI p), .int (nI e)] (mdG G m V A) = some (some (.int (if anB (sT S (cA S j)) (sT S (cB S j)) (cg S j) y p e = true then 0 else 1)), mdG G m V A) := by
  have h24 := hS.2.1
  have h8 := hS.1
  have hi := hS.ca hj
  have hib := hS.cb hj
  have hw := hS.tw hi
  have hwu := hS.tw hib
  have hk := hw.k24
  have hku := hwu.k24
  have hn6 := hw.n6
  have hu6 := hwu.n6
  have hnk := hw.nk
  have cnt : ∀ x c, x < tN (sT S (cA S j)) → c < tK (sT S (cB S j)) → az_rn sc iX6_isAnswer 45 [some (.ref m), some (.int (nI j)), some (.int (nI y)), some (.int (nI p)), some (.int (nI e)), some (.int (nI (cA S j))), some (.int (nI (cB S j))), some (.int (nI x)), some (.int (nI c)), some (.int (nI 0)), some (.int (nI 0))] [] (mdG G m V A) = if thn (sT S (cA S j)) (sT S (cB S j)) (cg S j) x p e c = 1 then az_rn sc iX6_isAnswer 20 [some (.ref m), some (.int (nI j)), some (.int (nI y)), some (.int (nI p)), some (.int (nI e)), some (.int (nI (cA S j))), some (.int (nI (cB S j))), some (.int (nI x)), some (.int (nI (c + 1))), some (.int (nI (thn (sT S (cA S j)) (sT S (cB S j)) (cg S j) x p e c))), some (.int (nI (tK (sT S (cA S j)))))] [] (mdG G m V A) else some (some (.int 0), mdG G m V A) := by
    intro x c hx hc
    have hle := thn_le (sT S (cA S j)) (sT S (cB S j)) (cg S j) x p e c
    have key := lp_ct (fun a n => az_rn sc iX6_isAnswer 45 [some (.ref m), some (.int (nI j)), some (.int (nI y)), some (.int (nI p)), some (.int (nI e)), some (.int (nI (cA S j))), some (.int (nI (cB S j))), some (.int (nI x)), some (.int (nI c)), some (.int (nI n)), some (.int (nI a))] [] (mdG G m V A)) (thq (sT S (cA S j)) (sT S (cB S j)) (cg S j) x p e c) (fun n => if nI n = (1 : Int32) then az_rn sc iX6_isAnswer 20 [some (.ref m), some (.int (nI j)), some (.int (nI y)), some (.int (nI p)), some (.int (nI e)), some (.int (nI (cA S j))), some (.int (nI (cB S j))), some (.int (nI x)), some (.int (nI (c + 1))), some (.int (nI n)), some (.int (nI (tK (sT S (cA S j)))))] [] (mdG G m V A) else some (some (.int 0), mdG G m V A)) (tK (sT S (cA S j))) 0 (fun a n ha => by
        have f1 := hw.frn ha
        have f3 := hw.ton ha
        have g1 := hS.cgk hj ha
        rw [bX6_isAnswer_45, md_r2, md_a2 (by omega), h.1.a hi, if_neg (nI_ge ha (by omega)), md_rc, m_from h.1 hi ha, bI_s, ite_nnI (by omega) (by omega), nI_1, nI_1, nI_a0]
        by_cases e1 : fr (sT S (cA S j)) a = x
        · rw [if_neg (fun z => z e1), md_rc, m_to h.1 hi ha, bI_s, ite_nnI (by omega) (by omega)]
          by_cases e2 : to (sT S (cA S j)) a = p
          · rw [if_neg (fun z => z e2), md_rc, m_give h hS hj ha, bI_s, md_rc, m_wayIn h.1 hib g1 he, bI_s]
            by_cases e3 : wy (sT S (cB S j)) (cg S j a) e = nI c
            · rw [if_neg (fun z => z e3), if_pos (show thq (sT S (cA S j)) (sT S (cB S j)) (cg S j) x p e c a = true by simp [thq, e1, e2, e3])]
            · rw [if_pos e3, if_neg (show ¬ thq (sT S (cA S j)) (sT S (cB S j)) (cg S j) x p e c a = true by simp [thq, e3])]
          · rw [if_pos e2, if_neg (show ¬ thq (sT S (cA S j)) (sT S (cB S j)) (cg S j) x p e c a = true by simp [thq, e2])]
        · rw [if_pos e1, if_neg (show ¬ thq (sT S (cA S j)) (sT S (cB S j)) (cg S j) x p e c a = true by simp [thq, e1])])
      (fun n => by rw [bX6_isAnswer_45, md_r2, md_a2 (by omega), h.1.a hi, if_pos (nI_le (Nat.le_refl _) (by omega)), nI_1, zr_0])
    refine key.trans ?_
    rw [Nat.zero_add]
    show (if nI (thn (sT S (cA S j)) (sT S (cB S j)) (cg S j) x p e c) = nI 1 then _ else _) = _
    rw [ite_nI (by omega) (by omega)]
    rfl
  have inner : ∀ x (o9 o10 : Option Value), x < tN (sT S (cA S j)) → ∃ o9' o10' : Option Value, az_rn sc iX6_isAnswer 20 [some (.ref m), some (.int (nI j)), some (.int (nI y)), some (.int (nI p)), some (.int (nI e)), some (.int (nI (cA S j))), some (.int (nI (cB S j))), some (.int (nI x)), some (.int (nI 0)), o9, o10] [] (mdG G m V A) = if exB (fun c => anN (sT S (cA S j)) (sT S (cB S j)) (cg S j) y p e x c) (tK (sT S (cB S j))) = true then some (some (.int 0), mdG G m V A) else az_rn sc iX6_isAnswer 12 [some (.ref m), some (.int (nI j)), some (.int (nI y)), some (.int (nI p)), some (.int (nI e)), some (.int (nI (cA S j))), some (.int (nI (cB S j))), some (.int (nI (x + 1))), some (.int (nI (tK (sT S (cB S j))))), o9', o10'] [] (mdG G m V A) := by
    intro x o9 o10 hx
    have gx := hS.cgk hj (show x < tK (sT S (cA S j)) by omega)
    have walk : ∀ d c (o9 o10 : Option Value), c + d = tK (sT S (cB S j)) → (∀ c', c' < c → anN (sT S (cA S j)) (sT S (cB S j)) (cg S j) y p e x c' = false) → ∃ o9' o10' : Option Value, az_rn sc iX6_isAnswer 20 [some (.ref m), some (.int (nI j)), some (.int (nI y)), some (.int (nI p)), some (.int (nI e)), some (.int (nI (cA S j))), some (.int (nI (cB S j))), some (.int (nI x)), some (.int (nI c)), o9, o10] [] (mdG G m V A) = if exB (fun c => anN (sT S (cA S j)) (sT S (cB S j)) (cg S j) y p e x c) (tK (sT S (cB S j))) = true then some (some (.int 0), mdG G m V A) else az_rn sc iX6_isAnswer 12 [some (.ref m), some (.int (nI j)), some (.int (nI y)), some (.int (nI p)), some (.int (nI e)), some (.int (nI (cA S j))), some (.int (nI (cB S j))), some (.int (nI (x + 1))), some (.int (nI (tK (sT S (cB S j))))), o9', o10'] [] (mdG G m V A) := by
      intro d
      induction d with
      | zero =>
        intro c o9 o10 hc hall
        have ec : c = tK (sT S (cB S j)) := by omega
        subst ec
        refine ⟨o9, o10, ?_⟩
        rw [if_neg (by rw [exB_none hall]; decide), bX6_isAnswer_20, md_r2, md_a2 (by omega), h.1.a hib, if_pos (nI_le (Nat.le_refl _) (by omega)), nI_1]
      | succ d ih =>
        intro c o9 o10 hc hall
        have hck : c < tK (sT S (cB S j)) := by omega
        have f1 := hwu.frn hck
        have f3 := hwu.ton hck
        rw [bX6_isAnswer_20, md_r2, md_a2 (by omega), h.1.a hib, if_neg (nI_ge hck (by omega)), md_rc, m_from h.1 hib hck, bI_s, md_rc, m_give h hS hj (show x < tK (sT S (cA S j)) by omega), bI_s, ite_nnI (by omega) (by omega), nI_1]
        have goon : anN (sT S (cA S j)) (sT S (cB S j)) (cg S j) y p e x c = false → ∀ c', c' < c + 1 → anN (sT S (cA S j)) (sT S (cB S j)) (cg S j) y p e x c' = false := by
          intro hz c' hc'
          by_cases e9 : c' = c
          · subst e9; exact hz
          · exact hall c' (by omega)
        by_cases e1 : fr (sT S (cB S j)) c = cg S j x
        · rw [if_neg (fun z => z e1), md_rc, m_to h.1 hib hck, bI_s, ite_nnI (by omega) (by omega)]
          by_cases e2 : to (sT S (cB S j)) c = y
          · have hct := cnt x c hx hck
            by_cases e3 : thn (sT S (cA S j)) (sT S (cB S j)) (cg S j) x p e c = 1
            · rw [if_pos e3] at hct
              obtain ⟨a9, a10, ea⟩ := ih (c + 1) (some (.int (nI (thn (sT S (cA S j)) (sT S (cB S j)) (cg S j) x p e c)))) (some (.int (nI (tK (sT S (cA S j)))))) (by omega) (goon (by simp [anN, e3]))
              refine ⟨a9, a10, ?_⟩
              rw [if_neg (fun z => z e2)]
              exact hct.trans ea
            · rw [if_neg e3] at hct
              refine ⟨none, none, ?_⟩
              rw [if_neg (fun z => z e2), if_pos (exB_iff.mpr ⟨c, hck, by simp [anN, e1, e2, e3]⟩)]
              exact hct
          · obtain ⟨a9, a10, ea⟩ := ih (c + 1) o9 o10 (by omega) (goon (by simp [anN, e2]))
            refine ⟨a9, a10, ?_⟩
            rw [if_pos e2]
            exact ea
        · obtain ⟨a9, a10, ea⟩ := ih (c + 1) o9 o10 (by omega) (goon (by simp [anN, e1]))
          refine ⟨a9, a10, ?_⟩
          rw [if_pos e1]
          exact ea
    exact walk (tK (sT S (cB S j))) 0 o9 o10 (by omega) (fun c' hc' => absurd hc' (Nat.not_lt_zero _))
  rw [eX6_isAnswer, md_r11, md_a10 (by omega), (h.2.2.2.2.1 j hj).1, md_r12, md_a11 (by omega), (h.2.2.2.2.1 j hj).2.1]
  refine (lp_exO (fun x (o : Option Value × Option Value × Option Value) => az_rn sc iX6_isAnswer 12 [some (.ref m), some (.int (nI j)), some (.int (nI y)), some (.int (nI p)), some (.int (nI e)), some (.int (nI (cA S j))), some (.int (nI (cB S j))), some (.int (nI x)), o.1, o.2.1, o.2.2] [] (mdG G m V A)) (fun x => exB (fun c => anN (sT S (cA S j)) (sT S (cB S j)) (cg S j) y p e x c) (tK (sT S (cB S j)))) (some (some (.int 0), mdG G m V A)) (some (some (.int 1), mdG G m V A)) (tN (sT S (cA S j))) (fun x o hx => ?_) (fun o => ?_) (none, none, none)).trans ?_
  · obtain ⟨a9, a10, ea⟩ := inner x o.2.1 o.2.2 hx
    have e1 : az_rn sc iX6_isAnswer 12 [some (.ref m), some (.int (nI j)), some (.int (nI y)), some (.int (nI p)), some (.int (nI e)), some (.int (nI (cA S j))), some (.int (nI (cB S j))), some (.int (nI x)), o.1, o.2.1, o.2.2] [] (mdG G m V A) = az_rn sc iX6_isAnswer 20 [some (.ref m), some (.int (nI j)), some (.int (nI y)), some (.int (nI p)), some (.int (nI e)), some (.int (nI (cA S j))), some (.int (nI (cB S j))), some (.int (nI x)), some (.int (nI 0)), o.2.1, o.2.2] [] (mdG G m V A) := by
      rw [bX6_isAnswer_12, md_r1, md_a1 (by omega), h.1.o hi, if_neg (nI_ge hx (by omega))]
      rfl
    refine ⟨fun hz => ?_, fun hz => ⟨(some (.int (nI (tK (sT S (cB S j))))), a9, a10), ?_⟩⟩
    · rw [e1, ea, if_pos hz]
    · rw [e1, ea, if_neg (by rw [hz]; decide)]
  · rw [bX6_isAnswer_12, md_r1, md_a1 (by omega), h.1.o hi, if_pos (nI_le (Nat.le_refl _) (by omega)), zr_1]
  · unfold anB
    split <;> rfl
end ANSWB
