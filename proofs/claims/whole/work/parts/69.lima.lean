/-! OPERATIONS cones, limit: the class's chances; cones gathered; a limit among them -/
abbrev coS : Type := Nat × (Nat → Nat) × (Nat → Nat)
def cz (s : coS) : Nat := s.1
def cp (s : coS) : Nat → Nat := s.2.1
def cl (s : coS) : Nat → Nat := s.2.2
def cAdd (n : Nat) (s : coS) (q : Nat) (r : Nat → Nat) : coS := (cz s + 1, va_up (cp s) (cz s) q, fun z => if 6 * cz s ≤ z ∧ z < 6 * cz s + n then r (z - 6 * cz s) else cl s z)
def coR (r15 r16 : Nat) (A : Nat → Nat → Int32) (n : Nat) (s : coS) : Prop := (∀ k, k < cz s → A r15 k = nI (cp s k)) ∧ (∀ k y, k < cz s → y < n → A r16 (6 * k + y) = nI (cl s (6 * k + y)))
theorem cAdd_old {n : Nat} {s : coS} {q : Nat} {r : Nat → Nat} {k y : Nat} (hk : k < cz s) (hy : y < n) (hn : n ≤ 6) : cl (cAdd n s q r) (6 * k + y) = cl s (6 * k + y) := if_neg (by omega)
theorem cAdd_new {n : Nat} {s : coS} {q : Nat} {r : Nat → Nat} {y : Nat} (hy : y < n) : cl (cAdd n s q r) (6 * cz s + y) = r y := by
  have h : cl (cAdd n s q r) (6 * cz s + y) = r (6 * cz s + y - 6 * cz s) := if_pos (by omega)
  rw [h, Nat.add_sub_cancel_left]
/-- an added cone, once the rows have it -/
theorem coR_add {r15 r16 n : Nat} {A : Nat → Nat → Int32} {s : coS} {q : Nat} {r : Nat → Nat} {f15 f16 : Nat → Int32} (hn : n ≤ 6) (h15 : ∀ k, k < cz s → f15 k = nI (cp s k)) (h15' : f15 (cz s) = nI q) (h16 : ∀ k y, k < cz s → y < n → f16 (6 * k + y) = nI (cl s (6 * k + y))) (h16' : ∀ y, y < n → f16 (6 * cz s + y) = nI (r y)) (e15 : A r15 = f15) (e16 : A r16 = f16) : coR r15 r16 A n (cAdd n s q r) := by
  refine ⟨fun k hk => ?_, fun k y hk hy => ?_⟩
  · have hk' : k < cz s + 1 := hk
    rw [e15]
    show f15 k = nI (va_up (cp s) (cz s) q k)
    by_cases e : k = cz s
    · subst e
      rw [up_s]
      exact h15'
    · rw [up_n _ _ e]
      exact h15 k (by omega)
  · have hk' : k < cz s + 1 := hk
    rw [e16]
    by_cases e : k = cz s
    · subst e
      rw [cAdd_new hy]
      exact h16' y hy
    · rw [cAdd_old (by omega) hy hn]
      exact h16 k y (by omega) hy
/-- through d rows from r on: the cones that hold are added -/
def gc (p : Nat → Nat → Bool) (K n : Nat) (hold : (Nat → Nat) → Bool) (q : Nat) : Nat → (Nat → Nat) → coS → coS
  | 0, _, s => s
  | d + 1, r, s => gc p K n hold q d (od p K n r).1 (if hold r = true then cAdd n s q r else s)
theorem gc_s (p : Nat → Nat → Bool) (K n : Nat) (hold : (Nat → Nat) → Bool) (q d : Nat) (r : Nat → Nat) (s : coS) : gc p K n hold q (d + 1) r s = gc p K n hold q d (od p K n r).1 (if hold r = true then cAdd n s q r else s) := rfl
theorem gc_le (p : Nat → Nat → Bool) (K n : Nat) (hold : (Nat → Nat) → Bool) (q : Nat) : ∀ d r s, cz (gc p K n hold q d r s) ≤ cz s + d := by
  intro d
  induction d with
  | zero => intro r s; exact Nat.le_refl _
  | succ d ih =>
    intro r s
    rw [gc_s]
    have := ih (od p K n r).1 (if hold r = true then cAdd n s q r else s)
    have h2 : cz (if hold r = true then cAdd n s q r else s) ≤ cz s + 1 := by
      split
      · exact Nat.le_refl _
      · exact Nat.le_succ _
    omega
/-- what holds of cones -/
def coW (U : tb) (n : Nat) (s : coS) : Prop := ∀ k, k < cz s → cp s k < tN U ∧ ∀ y, y < n → cl s (6 * k + y) < tK U
theorem gc_W {p : Nat → Nat → Bool} {n : Nat} {hold : (Nat → Nat) → Bool} {q : Nat} {U : tb} (hn : n ≤ 6) (hq : q < tN U) : ∀ d r s, (0 < d → okR p (tK U) n r) → coW U n s → coW U n (gc p (tK U) n hold q d r s) := by
  intro d
  induction d with
  | zero => intro r s _ h; exact h
  | succ d ih =>
    intro r s hr h
    have ho := hr (Nat.succ_pos _)
    rw [gc_s]
    refine ih _ _ (fun _ => (od_ok p (tK U) n r ho).1) ?_
    split
    · intro k hk
      have hk' : k < cz s + 1 := hk
      by_cases e : k = cz s
      · subst e
        refine ⟨?_, fun y hy => ?_⟩
        · show va_up (cp s) (cz s) q (cz s) < tN U
          rw [up_s]
          exact hq
        · rw [cAdd_new hy]
          exact (ho y hy).2
      · refine ⟨?_, fun y hy => ?_⟩
        · show va_up (cp s) (cz s) q k < tN U
          rw [up_n _ _ e]
          exact (h k (by omega)).1
        · rw [cAdd_old (by omega) hy hn]
          exact (h k (by omega)).2 y hy
    · exact h
/-- all cones of a carrier -/
def gcA (S : wS) (i : Nat) : Nat → coS
  | 0 => (0, fun _ => 0, fun _ => 0)
  | q + 1 => gc (coP S i q) (tK (sT S (cB S i))) (tN (sT S (cA S i))) (hbB (sT S (cA S i)) (sT S (cB S i)) (fun _ => q) (cg S i)) q (coPr S i q) (fun y => fs (coP S i q y) (tK (sT S (cB S i)))) (gcA S i q)
theorem gcA_le {S : wS} {i Q : Nat} (h : ∀ q, q < Q → coPr S i q ≤ 64) : cz (gcA S i Q) ≤ 64 * Q := by
  induction Q with
  | zero => exact Nat.zero_le _
  | succ Q ih =>
    have h1 := ih (fun q hq => h q (by omega))
    have h2 := h Q (by omega)
    have h3 := gc_le (coP S i Q) (tK (sT S (cB S i))) (tN (sT S (cA S i))) (hbB (sT S (cA S i)) (sT S (cB S i)) (fun _ => Q) (cg S i)) Q (coPr S i Q) (fun y => fs (coP S i Q y) (tK (sT S (cB S i)))) (gcA S i Q)
    have e : gcA S i (Q + 1) = gc (coP S i Q) (tK (sT S (cB S i))) (tN (sT S (cA S i))) (hbB (sT S (cA S i)) (sT S (cB S i)) (fun _ => Q) (cg S i)) Q (coPr S i Q) (fun y => fs (coP S i Q y) (tK (sT S (cB S i)))) (gcA S i Q) := rfl
    rw [e]
    omega
theorem coOk {S : wS} {i q : Nat} (h : 0 < coPr S i q) : (∀ y, y < tN (sT S (cA S i)) → 0 < ctB (coP S i q y) (tK (sT S (cB S i)))) ∧ okR (coP S i q) (tK (sT S (cB S i))) (tN (sT S (cA S i))) (fun y => fs (coP S i q y) (tK (sT S (cB S i)))) ∧ vl (coP S i q) (tK (sT S (cB S i))) (fun y => fs (coP S i q y) (tK (sT S (cB S i)))) (tN (sT S (cA S i))) = 0 := by
  have h0 : ∀ y, y < tN (sT S (cA S i)) → 0 < ctB (coP S i q y) (tK (sT S (cB S i))) := by
    intro y hy
    by_cases z : ctB (coP S i q y) (tK (sT S (cB S i))) = 0
    · have : coPr S i q = 0 := prd_0 hy z
      omega
    · omega
  exact ⟨h0, fun y hy => ⟨(fs_ok (h0 y hy)).2.1, (fs_ok (h0 y hy)).2.2.1⟩, vl_0 (fun y hy => (fs_ok (h0 y hy)).2.2.2)⟩
theorem gcA_W {S : wS} {i : Nat} (hS : wW S) (hi : i < sM S) : ∀ Q, Q ≤ tN (sT S (cB S i)) → coW (sT S (cB S i)) (tN (sT S (cA S i))) (gcA S i Q) := by
  intro Q
  induction Q with
  | zero => intro _ k hk; exact absurd hk (Nat.not_lt_zero _)
  | succ Q ih =>
    intro hQ
    exact gc_W (hS.tw (hS.ca hi)).n6 (by omega) _ _ _ (fun h => (coOk h).2.1) (ih (by omega))
/-- a limit among cones -/
def blB (U : tb) (n : Nat) (s : coS) (h c d : Nat) : Bool := !exB (fun y => !decide (wy U h (cl s (6 * d + y)) = nI (cl s (6 * c + y)))) n
def aiB (U : tb) (n : Nat) (s : coS) (c d h : Nat) : Bool := decide (fr U h = cp s c) && (decide (to U h = cp s d) && blB U n s h c d)
def aiN (U : tb) (n : Nat) (s : coS) (c d : Nat) : Nat := ctB (aiB U n s c d) (tK U)
def nlB (U : tb) (n : Nat) (s : coS) (d : Nat) : Bool := exB (fun c => !decide (aiN U n s c d = 1)) (cz s)
def flB1 (U : tb) (n : Nat) (s : coS) : Option Nat := fdB (fun d => !nlB U n s d) (cz s)
theorem nI_m6 (a b : Nat) : nI a * 6 + nI b = nI (6 * a + b) := by
  rw [show (6 : Int32) = nI 6 from rfl, pk_mul, nI_add, Nat.mul_comm]
theorem n6m (a b : Nat) : 6 * nI a + nI b = nI (6 * a + b) := by
  rw [show (6 : Int32) = nI 6 from rfl, pk_mul, nI_add]
section LIMA
variable {sc : az_S} {G G1 : az_H} {B x m u : Nat} {V Vm : Nat → Int32} {A Am : Nat → Nat → Int32} {R : Nat → Nat → Option Nat} {S : wS} {ti ci : Nat → Nat} {i : Nat} {U : tb} {n : Nat} {s : coS}
theorem s_apexOf (hc : coR 15 16 A n s) (hz : cz s ≤ 384) {k : Nat} (hk : k < cz s) : az_ca sc iX1_apexOf [.ref (x + 14), .int (nI k)] (clG G x V A R) = some (some (.int (nI (cp s k))), clG G x V A R) := by
  rw [eX1_apexOf, cl14_r1, s_read cl_c15 (by omega) (by omega), bI_s, hc.1 k hk]
theorem s_legOf (hc : coR 15 16 A n s) (hz : cz s ≤ 384) (hn : n ≤ 6) {k y : Nat} (hk : k < cz s) (hy : y < n) : az_ca sc iX1_legOf [.ref (x + 14), .int (nI k), .int (nI y)] (clG G x V A R) = some (some (.int (nI (cl s (6 * k + y)))), clG G x V A R) := by
  rw [eX1_legOf, cl14_r2, nI_m6, s_read cl_c16 (by omega) (by omega), bI_s, hc.2 k y hk hy]
theorem s_bringsLegs (hc : coR 15 16 A n s) (hz : cz s ≤ 384) (hn : n ≤ 6) (hW : coW U n s) (hU : tbC (clG G x V A R) u U) (hwu : tbW U) {h c d : Nat} (hh : h < tK U) (hc' : c < cz s) (hd : d < cz s) : az_ca sc iX1_bringsLegs [.ref (x + 14), .ref u, .int (nI n), .int (nI h), .int (nI c), .int (nI d)] (clG G x V A R) = some (some (.int (if blB U n s h c d = true then 1 else 0)), clG G x V A R) := by
  have hku := hwu.k24
  rw [eX1_bringsLegs]
  refine (lp_ex (fun y => az_rn sc iX1_bringsLegs 2 [some (.ref (x + 14)), some (.ref u), some (.int (nI n)), some (.int (nI h)), some (.int (nI c)), some (.int (nI d)), some (.int (nI y))] [] (clG G x V A R)) (fun y => !decide (wy U h (cl s (6 * d + y)) = nI (cl s (6 * c + y)))) (some (some (.int 0), clG G x V A R)) (some (some (.int 1), clG G x V A R)) n (fun y hy => ?_) ?_).trans ?_
  · rw [bX1_bringsLegs_2, if_neg (nI_ge hy (by omega)), cl_rc14, s_legOf hc hz hn hd hy, bI_s, tb_rc hU, s_wayAt hU hh ((hW d hd).2 y hy) hku, bI_s, cl_rc14, s_legOf hc hz hn hc' hy, bI_s, nI_1, zr_0]
    by_cases e : wy U h (cl s (6 * d + y)) = nI (cl s (6 * c + y))
    · rw [if_pos e, if_neg (by simp [e])]
    · rw [if_neg e, if_pos (by simp [e])]
  · rw [bX1_bringsLegs_2, if_pos (nI_le (Nat.le_refl _) (by omega)), zr_1]
  · unfold blB
    cases exB (fun y => !decide (wy U h (cl s (6 * d + y)) = nI (cl s (6 * c + y)))) n <;> rfl
theorem s_coArrows (hc : coR 15 16 A n s) (hz : cz s ≤ 384) (hn : n ≤ 6) (hW : coW U n s) (hU : tbC (clG G x V A R) u U) (hwu : tbW U) {c d : Nat} (hc' : c < cz s) (hd : d < cz s) : az_ca sc iX1_arrowsInto [.ref (x + 14), .ref u, .int (nI n), .int (nI c), .int (nI d)] (clG G x V A R) = some (some (.int (nI (aiN U n s c d))), clG G x V A R) := by
  have hku := hwu.k24
  have hu6 := hwu.n6
  have hc1 := (hW c hc').1
  have hd1 := (hW d hd).1
  rw [eX1_arrowsInto]
  refine (lp_ct (fun h c0 => az_rn sc iX1_arrowsInto 4 [some (.ref (x + 14)), some (.ref u), some (.int (nI n)), some (.int (nI c)), some (.int (nI d)), some (.int (nI c0)), some (.int (nI h))] [] (clG G x V A R)) (aiB U n s c d) (fun c0 => some (some (.int (nI c0)), clG G x V A R)) (tK U) 0 (fun h c0 hh => ?_) (fun c0 => ?_)).trans ?_
  · rw [bX1_arrowsInto_4, tb_f1 hU, if_neg (nI_ge hh (by omega)), cl_rc14, s_apexOf hc hz hc', bI_s, cl_rc14, s_apexOf hc hz hd, bI_s, tb_rc hU, s_leadsN hU hwu hh (by omega) (by omega), bI_s, nI_1, nI_1]
    by_cases e : fr U h = cp s c ∧ to U h = cp s d
    · rw [if_pos e, if_neg (show ¬ (1 : Int32) = 0 by decide), cl_rc14, s_bringsLegs hc hz hn hW hU hwu hh hc' hd, bI_s]
      by_cases e2 : blB U n s h c d = true
      · rw [if_pos e2, if_neg (show ¬ (1 : Int32) = 0 by decide), if_pos (show aiB U n s c d h = true by simp [aiB, e, e2])]
      · rw [if_neg e2, if_pos (show (0 : Int32) = 0 from rfl), if_neg (show ¬ aiB U n s c d h = true by simp [aiB, e2])]
        rfl
    · rw [if_neg e, if_pos (show (0 : Int32) = 0 from rfl), if_neg (show ¬ aiB U n s c d h = true from fun z => e (by
        have h3 : fr U h = cp s c ∧ to U h = cp s d ∧ blB U n s h c d = true := by simpa [aiB] using z
        exact ⟨h3.1, h3.2.1⟩))]
      rfl
  · rw [bX1_arrowsInto_4, tb_f1 hU, if_pos (nI_le (Nat.le_refl _) (by omega))]
  · rw [Nat.zero_add]
    rfl
theorem aiN_le (hwu : tbW U) (c d : Nat) : aiN U n s c d ≤ 24 := Nat.le_trans (ctB_le _ _) hwu.k24
theorem s_isLimit (hV : V 6 = nI (cz s)) (hc : coR 15 16 A n s) (hz : cz s ≤ 384) (hn : n ≤ 6) (hW : coW U n s) (hU : tbC (clG G x V A R) u U) (hwu : tbW U) {d : Nat} (hd : d < cz s) : az_ca sc iX1_isLimit [.ref (x + 14), .ref u, .int (nI n), .int (nI d)] (clG G x V A R) = some (some (.int (if nlB U n s d = true then 0 else 1)), clG G x V A R) := by
  rw [eX1_isLimit]
  refine (lp_ex (fun c => az_rn sc iX1_isLimit 2 [some (.ref (x + 14)), some (.ref u), some (.int (nI n)), some (.int (nI d)), some (.int (nI c))] [] (clG G x V A R)) (fun c => !decide (aiN U n s c d = 1)) (some (some (.int 0), clG G x V A R)) (some (some (.int 1), clG G x V A R)) (cz s) (fun c hc' => ?_) ?_).trans ?_
  · have hle := aiN_le (n := n) (s := s) hwu c d
    rw [bX1_isLimit_2, cl14_i0, hV, if_neg (nI_ge hc' (by omega)), cl_rc14, s_coArrows hc hz hn hW hU hwu hc' hd, bI_s, nI_1, zr_0]
    show (if nI (aiN U n s c d) = nI 1 then _ else _) = _
    rw [ite_nI (by omega) (by omega)]
    by_cases e : aiN U n s c d = 1
    · rw [if_pos e, if_neg (by simp [e])]
    · rw [if_neg e, if_pos (by simp [e])]
  · rw [bX1_isLimit_2, cl14_i0, hV, if_pos (nI_le (Nat.le_refl _) (by omega)), zr_1]
  · unfold nlB
    split <;> rfl
theorem s_firstLimit (hV : V 6 = nI (cz s)) (hc : coR 15 16 A n s) (hz : cz s ≤ 384) (hn : n ≤ 6) (hW : coW U n s) (hU : tbC (clG G x V A R) u U) (hwu : tbW U) : az_ca sc iX1_firstLimit [.ref (x + 14), .ref u, .int (nI n)] (clG G x V A R) = some (some (.int (avI (flB1 U n s))), clG G x V A R) := by
  rw [eX1_firstLimit]
  refine (lp_fd (fun d => az_rn sc iX1_firstLimit 2 [some (.ref (x + 14)), some (.ref u), some (.int (nI n)), some (.int (nI d))] [] (clG G x V A R)) (fun d => !nlB U n s d) (fun d => some (some (.int (nI d)), clG G x V A R)) (some (some (.int (-1)), clG G x V A R)) (cz s) (fun d hd => ?_) ?_).trans ?_
  · rw [bX1_firstLimit_2, cl14_i0, hV, if_neg (nI_ge hd (by omega)), cl_rc14, s_isLimit hV hc hz hn hW hU hwu hd, bI_s, nI_1]
    by_cases e : nlB U n s d = true
    · rw [if_pos e, if_pos (show (0 : Int32) = 0 from rfl), if_neg (by simp [e])]
    · rw [if_neg e, if_neg (show ¬ (1 : Int32) = 0 by decide), if_pos (by simp [e])]
  · rw [bX1_firstLimit_2, cl14_i0, hV, if_pos (nI_le (Nat.le_refl _) (by omega))]
  · unfold flB1
    cases fdB (fun d => !nlB U n s d) (cz s) <;> rfl
theorem s_coneChances (h : iC G B V A R S ti ci) (hB : x + 22 ≤ B) (hS : wW S) (hi : i < sM S) {q : Nat} (hq : q < tN (sT S (cB S i))) : ∃ A', az_ca sc iX5_coneChances [.ref x, .ref (ci i), .int (nI q)] (clG G x V A R) = some (some (.int (nI (coPr S i q))), clG G x V A' R) ∧ (∀ r, r ≠ 11 → r ≠ 12 → r ≠ 13 → r ≠ 19 → A' r = A r) ∧ layR A' (coP S i q) (tK (sT S (cB S i))) (tN (sT S (cA S i))) ∧ (∀ y, y < tN (sT S (cA S i)) → A' 13 y = 0) ∧ ∀ a, a < 24 → A' 19 a = nI q := by
  have ca := hS.ca hi
  have cb := hS.cb hi
  have cI : ∀ V' A', crC (clG G x V' A' R) (ci i) (cA S i) (cB S i) (ti (cA S i)) (ti (cB S i)) (cR S i) := fun V' A' => h.car hB hi V' A' R
  have hw := hS.tw ca
  have hwu := hS.tw cb
  have hku := hwu.k24
  have hnk := hw.nk
  have hk := hw.k24
  have hu6 := hwu.n6
  have hl := hS.hl hi
  obtain ⟨f19, hf⟩ : ∃ f19 : Nat → Int32, f19 = fun j => if j < 24 then nI q else A 19 j := ⟨_, rfl⟩
  obtain ⟨A1, k1, k2, k3, k4⟩ := s_lay (sc := sc) (x := x) (V := V) (A := va_up A 19 f19) (rl := x + 19) (rh := ci i + 1) (lor := f19) (fun V' A' => h.tabc hB ca V' A' R) hw (fun V' A' => h.tabc hB cb V' A' R) hwu (fun V' A' e => by rw [cl_c19, e, up_s]) (fun V' A' _ => (cI V' A').2) (lo := fun _ => q) (hi := cg S i) (fun y hy => ⟨by rw [hf]; exact if_pos (by omega), by omega⟩) (fun y hy => ⟨(hl y (by omega)).1, by have := (hl y (by omega)).2; omega⟩)
  refine ⟨A1, ?_, fun r r1 r2 r3 r4 => ?_, k3, k4, fun a ha => ?_⟩
  · rw [eX5_coneChances, cl0_r7, s_fill cl_c19 (by omega), bV_s, cl_u19, ← hf, cl0_r3, cr_f2 (cI _ _), cr_f3 (cI _ _), cl0_r7, cr_f4 (cI _ _), cl_rc8, k1, bI_s]
    rfl
  · rw [k2 r r1 r2 r3, up_n _ _ r4]
  · rw [k2 19 (by omega) (by omega) (by omega), up_s, hf]
    exact if_pos ha
end LIMA
