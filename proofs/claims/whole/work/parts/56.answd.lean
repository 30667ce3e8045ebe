section ANSWD
variable {sc : az_S} {G G1 : az_H} {B x m : Nat} {V Vm : Nat → Int32} {A Am : Nat → Nat → Int32} {R : Nat → Nat → Option Nat} {S : wS} {ti ci : Nat → Nat} {j : Nat}
def aw1 (A : Nat → Nat → Int32) (y : Nat) (v w : Int32) : Nat → Nat → Int32 := va_up (va_up A 20 (upd (A 20) y v)) 21 (upd (A 21) y w)
theorem s_writeAnswer (h : iC G B V A R S ti ci) (hB : x + 22 ≤ B) (hS : wW S) (hj : j < sM S) {y : Nat} (hy : y < 6) : az_ca sc iX5_writeAnswer [.ref x, .ref (ci j), .int (nI y)] (clG G x V A R) = some (none, clG G x V (match awF (sT S (cA S j)) (sT S (cB S j)) (cg S j) y with
    | some (p, e) => aw1 (aw1 A y (-1) (-1)) y (nI p) (nI e)
    | none => aw1 A y (-1) (-1)) R) := by
  have hi := hS.ca hj
  have hib := hS.cb hj
  have hw := hS.tw hi
  have hwu := hS.tw hib
  have hk := hw.k24
  have hku := hwu.k24
  have hn6 := hw.n6
  have hu6 := hwu.n6
  have hnk := hw.nk
  have hf : ∀ a, a < tK (sT S (cA S j)) → cR S j a = nI (cg S j a) ∧ cg S j a < tK (sT S (cB S j)) := fun a ha => ⟨hS.cr hj ha, hS.cgk hj ha⟩
  have wr : ∀ (A : Nat → Nat → Int32) (v w : Int32) (k : az_H → az_R), (az_fR (clG G x V A R) x 5 8 fun r1 => (az_bV (az_ca sc iX5_write [.ref r1, .int (nI y), .int v] (clG G x V A R)) fun G2 => (az_fR G2 x 5 9 fun r3 => (az_bV (az_ca sc iX5_write [.ref r3, .int (nI y), .int w] G2) fun G4 => k G4)))) = k (clG G x V (aw1 A y v w) R) := by
    intro A v w k
    rw [cl0_r8, s_write cl_c20 hy (by omega), bV_s, cl_u20, cl0_r9, s_write cl_c21 hy (by omega), bV_s, cl_u21, up_n _ _ (show 21 ≠ 20 by omega)]
    rfl
  rw [eX5_writeAnswer]
  refine (wr A (-1) (-1) _).trans ?_
  generalize hA1 : aw1 A y (-1) (-1) = A1
  have cJ := h.car (x := x) hB hj V A1 R
  have hT := h.tabc (x := x) hB hi V A1 R
  have hU := h.tabc (x := x) hB hib V A1 R
  have inner : ∀ p, p < tN (sT S (cA S j)) → az_rn sc iX5_writeAnswer 19 [some (.ref x), some (.ref (ci j)), some (.int (nI y)), some (.int (nI p)), some (.int (nI 0))] [] (clG G x V A1 R) = match awE (sT S (cA S j)) (sT S (cB S j)) (cg S j) y p with
      | some e => some (none, clG G x V (aw1 A1 y (nI p) (nI e)) R)
      | none => az_rn sc iX5_writeAnswer 12 [some (.ref x), some (.ref (ci j)), some (.int (nI y)), some (.int (nI (p + 1))), some (.int (nI (tK (sT S (cB S j)))))] [] (clG G x V A1 R) := by
    intro p hp
    have gp := hS.cgk hj (show p < tK (sT S (cA S j)) by omega)
    refine lp_fd (fun e => az_rn sc iX5_writeAnswer 19 [some (.ref x), some (.ref (ci j)), some (.int (nI y)), some (.int (nI p)), some (.int (nI e))] [] (clG G x V A1 R)) (fun e => decide (fr (sT S (cB S j)) e = cg S j p) && (decide (to (sT S (cB S j)) e = y) && !anB (sT S (cA S j)) (sT S (cB S j)) (cg S j) y p e)) (fun e => some (none, clG G x V (aw1 A1 y (nI p) (nI e)) R)) _ (tK (sT S (cB S j))) (fun e he => ?_) ?_
    · rw [bX5_writeAnswer_19, cr_f3 cJ, tb_f1 hU, if_neg (nI_ge he (by omega)), cr_f3 cJ, cr_rc cJ, s_givenTo cJ (by omega), bI_s, hS.cr hj (show p < tK (sT S (cA S j)) by omega), tb_rc hU, s_leadsN hU hwu he (by omega) (by omega), bI_s, nI_1]
      by_cases e1 : fr (sT S (cB S j)) e = cg S j p ∧ to (sT S (cB S j)) e = y
      · rw [if_pos e1, if_neg (by decide), s_isAnswer cJ hT hw hU hwu hf (by omega) (by omega) he, bI_s]
        by_cases e3 : anB (sT S (cA S j)) (sT S (cB S j)) (cg S j) y p e = true
        · rw [if_pos e3, if_pos rfl, if_neg (by simp [e3])]
        · rw [if_neg e3, if_neg (by decide), if_pos (by simp [e1, e3])]
          exact wr A1 (nI p) (nI e) _
      · rw [if_neg e1, if_pos rfl, if_neg (fun z => e1 (by
          have h3 : fr (sT S (cB S j)) e = cg S j p ∧ to (sT S (cB S j)) e = y ∧ anB (sT S (cA S j)) (sT S (cB S j)) (cg S j) y p e = false := by simpa using z
          exact ⟨h3.1, h3.2.1⟩))]
    · rw [bX5_writeAnswer_19, cr_f3 cJ, tb_f1 hU, if_pos (nI_le (Nat.le_refl _) (by omega)), nI_1]
  have key := lp_fdO (fun p (o : Option Value) => az_rn sc iX5_writeAnswer 12 [some (.ref x), some (.ref (ci j)), some (.int (nI y)), some (.int (nI p)), o] [] (clG G x V A1 R)) (fun p => awE (sT S (cA S j)) (sT S (cB S j)) (cg S j) y p) (fun p e => some (none, clG G x V (aw1 A1 y (nI p) (nI e)) R)) (some (none, clG G x V A1 R)) (tN (sT S (cA S j))) (fun p o hp => by
      have e1 : az_rn sc iX5_writeAnswer 12 [some (.ref x), some (.ref (ci j)), some (.int (nI y)), some (.int (nI p)), o] [] (clG G x V A1 R) = az_rn sc iX5_writeAnswer 19 [some (.ref x), some (.ref (ci j)), some (.int (nI y)), some (.int (nI p)), some (.int (nI 0))] [] (clG G x V A1 R) := by
        rw [bX5_writeAnswer_12, cr_f2 cJ, tb_f0 hT, if_neg (nI_ge hp (by omega))]
        rfl
      refine ⟨fun e he => ?_, fun he => ⟨some (.int (nI (tK (sT S (cB S j))))), ?_⟩⟩
      · rw [e1, inner p hp, he]
      · rw [e1, inner p hp, he])
    (fun o => by rw [bX5_writeAnswer_12, cr_f2 cJ, tb_f0 hT, if_pos (nI_le (Nat.le_refl _) (by omega))]) none
  refine key.trans ?_
  unfold awF
  cases fdO (fun p => awE (sT S (cA S j)) (sT S (cB S j)) (cg S j) y p) (tN (sT S (cA S j))) with
  | none => rfl
  | some z => rfl
end ANSWD
