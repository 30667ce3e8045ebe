/-! the first answer at y -/
def awE (T U : tb) (g : Nat → Nat) (y p : Nat) : Option Nat := fdB (fun e => decide (fr U e = g p) && (decide (to U e = y) && !anB T U g y p e)) (tK U)
def awF (T U : tb) (g : Nat → Nat) (y : Nat) : Option (Nat × Nat) := fdO (fun p => awE T U g y p) (tN T)
section ANSWC
variable {sc : az_S} {G : az_H} {m : Nat} {V : Nat → Int32} {A : Nat → Nat → Int32} {S : wS} {j : Nat}
theorem m_findAnswer (h : iM V A S) (hS : wW S) (hj : j < sM S) {y : Nat} (hy : y < 24) : az_ca sc iX6_findAnswer [.ref m, .int (nI j), .int (nI y)] (mdG G m V A) = match awF (sT S (cA S j)) (sT S (cB S j)) (cg S j) y with
    | some (p, e) => some (some (.int 1), mdG G m (va_up (va_up V 5 (nI p)) 6 (nI e)) A)
    | none => some (some (.int 0), mdG G m V A) := by
  have h24 := hS.2.1
  have h8 := hS.1
  have hi := hS.ca hj
  have hib := hS.cb hj
  have hw := hS.tw hi
  have hwu := hS.tw hib
  have hk := hw.k24
  have hku := hwu.k24
  have hn6 := hw.n6
  have hu6 := hwu.n6
  have hnk := hw.nk
  have inner : ∀ p, p < tN (sT S (cA S j)) → az_rn sc iX6_findAnswer 18 [some (.ref m), some (.int (nI j)), some (.int (nI y)), some (.int (nI (cB S j))), some (.int (nI p)), some (.int (nI 0))] [] (mdG G m V A) = match awE (sT S (cA S j)) (sT S (cB S j)) (cg S j) y p with
      | some e => some (some (.int 1), mdG G m (va_up (va_up V 5 (nI p)) 6 (nI e)) A)
      | none => az_rn sc iX6_findAnswer 7 [some (.ref m), some (.int (nI j)), some (.int (nI y)), some (.int (nI (cB S j))), some (.int (nI (p + 1))), some (.int (nI (tK (sT S (cB S j)))))] [] (mdG G m V A) := by
    intro p hp
    have gp := hS.cgk hj (show p < tK (sT S (cA S j)) by omega)
    refine lp_fd (fun e => az_rn sc iX6_findAnswer 18 [some (.ref m), some (.int (nI j)), some (.int (nI y)), some (.int (nI (cB S j))), some (.int (nI p)), some (.int (nI e))] [] (mdG G m V A)) (fun e => decide (fr (sT S (cB S j)) e = cg S j p) && (decide (to (sT S (cB S j)) e = y) && !anB (sT S (cA S j)) (sT S (cB S j)) (cg S j) y p e)) (fun e => some (some (.int 1), mdG G m (va_up (va_up V 5 (nI p)) 6 (nI e)) A)) _ (tK (sT S (cB S j))) (fun e he => ?_) ?_
    · have f1 := hwu.frn he
      have f3 := hwu.ton he
      rw [bX6_findAnswer_18, md_r2, md_a2 (by omega), h.1.a hib, if_neg (nI_ge he (by omega)), md_rc, m_from h.1 hib he, bI_s, md_rc, m_give h hS hj (show p < tK (sT S (cA S j)) by omega), bI_s, ite_nnI (by omega) (by omega), nI_1]
      by_cases e1 : fr (sT S (cB S j)) e = cg S j p
      · rw [if_neg (fun z => z e1), md_rc, m_to h.1 hib he, bI_s, ite_nnI (by omega) (by omega)]
        by_cases e2 : to (sT S (cB S j)) e = y
        · rw [if_neg (fun z => z e2), md_rc, m_isAnswer h hS hj hy (by omega) he, bI_s]
          by_cases e3 : anB (sT S (cA S j)) (sT S (cB S j)) (cg S j) y p e = true
          · rw [if_pos e3, if_pos rfl, if_neg (by simp [e3])]
          · rw [if_neg e3, if_neg (by decide), md_p26, md_p27, zr_1, if_pos (by simp [e1, e2, e3])]
        · rw [if_pos e2, if_neg (by simp [e2])]
      · rw [if_pos e1, if_neg (by simp [e1])]
    · rw [bX6_findAnswer_18, md_r2, md_a2 (by omega), h.1.a hib, if_pos (nI_le (Nat.le_refl _) (by omega)), nI_1]
  rw [eX6_findAnswer, md_r12, md_a11 (by omega), (h.2.2.2.2.1 j hj).2.1]
  have key := lp_fdO (fun p (o : Option Value) => az_rn sc iX6_findAnswer 7 [some (.ref m), some (.int (nI j)), some (.int (nI y)), some (.int (nI (cB S j))), some (.int (nI p)), o] [] (mdG G m V A)) (fun p => awE (sT S (cA S j)) (sT S (cB S j)) (cg S j) y p) (fun p e => some (some (.int 1), mdG G m (va_up (va_up V 5 (nI p)) 6 (nI e)) A)) (some (some (.int 0), mdG G m V A)) (tN (sT S (cA S j))) (fun p o hp => by
      have e1 : az_rn sc iX6_findAnswer 7 [some (.ref m), some (.int (nI j)), some (.int (nI y)), some (.int (nI (cB S j))), some (.int (nI p)), o] [] (mdG G m V A) = az_rn sc iX6_findAnswer 18 [some (.ref m), some (.int (nI j)), some (.int (nI y)), some (.int (nI (cB S j))), some (.int (nI p)), some (.int (nI 0))] [] (mdG G m V A) := by
        rw [bX6_findAnswer_7, md_r1, md_r11, md_a10 (by omega), (h.2.2.2.2.1 j hj).1, md_a1 (by omega), h.1.o hi, if_neg (nI_ge hp (by omega))]
        rfl
      refine ⟨fun e he => ?_, fun he => ⟨some (.int (nI (tK (sT S (cB S j))))), ?_⟩⟩
      · rw [e1, inner p hp, he]
      · rw [e1, inner p hp, he])
    (fun o => by rw [bX6_findAnswer_7, md_r1, md_r11, md_a10 (by omega), (h.2.2.2.2.1 j hj).1, md_a1 (by omega), h.1.o hi, if_pos (nI_le (Nat.le_refl _) (by omega)), zr_0]) none
  refine key.trans ?_
  unfold awF
  cases fdO (fun p => awE (sT S (cA S j)) (sT S (cB S j)) (cg S j) y p) (tN (sT S (cA S j))) with
  | none => rfl
  | some z => rfl
end ANSWC
