/-! OPERATIONS bridges, bridge, cones -/
def bP (S : wS) (i j : Nat) : Nat → Nat → Bool := pq (sT S (cB S i)) (cg S i) (cg S j)
def bPr (S : wS) (i j : Nat) : Nat := prd (bP S i j) (tK (sT S (cB S i))) (tN (sT S (cA S i)))
def bQ (S : wS) (i j : Nat) (wn : Int32) : Nat × Option (Nat → Nat) := fq (bP S i j) (tK (sT S (cB S i))) (tN (sT S (cA S i))) (hbB (sT S (cA S i)) (sT S (cB S i)) (cg S i) (cg S j)) wn (bPr S i j) (fun y => fs (bP S i j y) (tK (sT S (cB S i)))) 0
def bE (S : wS) (i j : Nat) : Int32 := if cA S j = cA S i ∧ cB S j = cB S i then (if bPr S i j ≤ 5000 then 0 else -5) else -3
def coP (S : wS) (i q : Nat) : Nat → Nat → Bool := pq (sT S (cB S i)) (fun _ => q) (cg S i)
def coPr (S : wS) (i q : Nat) : Nat := prd (coP S i q) (tK (sT S (cB S i))) (tN (sT S (cA S i)))
def coQ (S : wS) (i q : Nat) : Nat × Option (Nat → Nat) := fq (coP S i q) (tK (sT S (cB S i))) (tN (sT S (cA S i))) (hbB (sT S (cA S i)) (sT S (cB S i)) (fun _ => q) (cg S i)) (-1) (coPr S i q) (fun y => fs (coP S i q y) (tK (sT S (cB S i)))) 0
theorem le5000 {a : Nat} (h : a < 2 ^ 31) : (nI a ≤ (5000 : Int32)) ↔ a ≤ 5000 := nI_leI (b := 5000) h (by omega)
theorem lc5000 {a : Nat} (h : a < 2 ^ 31) : (lg_cmp (lN a) 5000 ≤ (0 : Int32)) ↔ a ≤ 5000 := (lg_cmp_le _ _).trans (lN_le (b := 5000) h (by omega))
section BRIE
variable {sc : az_S} {G G1 : az_H} {B x m : Nat} {V Vm : Nat → Int32} {A Am : Nat → Nat → Int32} {R : Nat → Nat → Option Nat} {S : wS} {ti ci : Nat → Nat} {i j : Nat}
theorem wW.hl (hS : wW S) (hi : i < sM S) : ∀ a, a < tK (sT S (cA S i)) → cR S i a = nI (cg S i a) ∧ cg S i a < tK (sT S (cB S i)) := fun _ ha => ⟨hS.cr hi ha, hS.cgk hi ha⟩
theorem wW.hh (hS : wW S) (hj : j < sM S) (hA : cA S j = cA S i) (hB : cB S j = cB S i) : ∀ a, a < tK (sT S (cA S i)) → cR S j a = nI (cg S j a) ∧ cg S j a < tK (sT S (cB S i)) := by
  intro a ha
  rw [← hA] at ha
  rw [← hB]
  exact ⟨hS.cr hj ha, hS.cgk hj ha⟩
theorem bPr_lt (hS : wW S) (hi : i < sM S) : bPr S i j < 2 ^ 30 := prd_lt (hS.tw (hS.cb hi)).k24 (hS.tw (hS.ca hi)).n6
theorem coPr_lt (hS : wW S) (hi : i < sM S) (q : Nat) : coPr S i q < 2 ^ 30 := prd_lt (hS.tw (hS.cb hi)).k24 (hS.tw (hS.ca hi)).n6
theorem bQ_le (hS : wW S) (hi : i < sM S) (wn : Int32) : (bQ S i j wn).1 < 2 ^ 30 := by
  have h1 := (fq_le (bP S i j) (tK (sT S (cB S i))) (tN (sT S (cA S i))) (hbB (sT S (cA S i)) (sT S (cB S i)) (cg S i) (cg S j)) wn (bPr S i j) (fun y => fs (bP S i j y) (tK (sT S (cB S i)))) 0).2
  have h2 := bPr_lt (j := j) hS hi
  unfold bQ
  omega
theorem s_searchBridges (h : iC G B V A R S ti ci) (hB : x + 22 ≤ B) (hS : wW S) (hi : i < sM S) (hj : j < sM S) (wn : Int32) : ∃ A', az_ca sc iX5_searchBridges [.ref x, .ref (ci i), .ref (ci j), .int wn] (clG G x V A R) = some (some (.int (if bE S i j = 0 then nI (bQ S i j wn).1 else bE S i j)), clG G x V A' R) ∧ (∀ r, r < 9 ∨ 13 < r → A' r = A r) ∧ (bE S i j = 0 → ∀ σ, (bQ S i j wn).2 = some σ → ∀ y, y < tN (sT S (cA S i)) → A' 10 y = nI (σ y)) := by
  have h8 := hS.1
  have h24 := hS.2.1
  have ca := hS.ca hi
  have cb := hS.cb hi
  have ca2 := hS.ca hj
  have cb2 := hS.cb hj
  have cI : ∀ V' A', crC (clG G x V' A' R) (ci i) (cA S i) (cB S i) (ti (cA S i)) (ti (cB S i)) (cR S i) := fun V' A' => h.car hB hi V' A' R
  have cJ : ∀ V' A', crC (clG G x V' A' R) (ci j) (cA S j) (cB S j) (ti (cA S j)) (ti (cB S j)) (cR S j) := fun V' A' => h.car hB hj V' A' R
  rw [eX5_searchBridges, cr_f0 (cI _ _), cr_f0 (cJ _ _), ite_nnI (by omega) (by omega)]
  by_cases e1 : cA S i = cA S j
  · rw [if_neg (fun z => z e1), cr_f1 (cI _ _), cr_f1 (cJ _ _), ite_nI (by omega) (by omega)]
    by_cases e2 : cB S i = cB S j
    · have hw := hS.tw ca
      have hwu := hS.tw cb
      have hT : ∀ V' A', tbC (clG G x V' A' R) (ti (cA S i)) (sT S (cA S i)) := fun V' A' => h.tabc hB ca V' A' R
      have hU : ∀ V' A', tbC (clG G x V' A' R) (ti (cB S i)) (sT S (cB S i)) := fun V' A' => h.tabc hB cb V' A' R
      have hku := hwu.k24
      have hnk := hw.nk
      have hpr := bPr_lt (j := j) hS hi
      have hl := hS.hl hi
      have hh := hS.hh hj e1.symm e2.symm
      obtain ⟨A1, k1, k2, k3, k4⟩ := s_lay (sc := sc) (x := x) (V := V) (A := A) (rl := ci i + 1) (rh := ci j + 1) hT hw hU hwu (fun V' A' _ => (cI V' A').2) (fun V' A' _ => (cJ V' A').2) (lo := cg S i) (hi := cg S j) (fun y hy => ⟨(hl y (by omega)).1, by have := (hl y (by omega)).2; omega⟩) (fun y hy => ⟨(hh y (by omega)).1, by have := (hh y (by omega)).2; omega⟩)
      obtain ⟨A2, q1, q2, q3⟩ := s_famS (sc := sc) (x := x) (V := V) (A := A1) (rl := ci i + 1) (rh := ci j + 1) hT hw hU hwu (fun V' A' _ => (cI V' A').2) (fun V' A' _ => (cJ V' A').2) hl hh wn
      have k1' : az_ca sc iX2_lay [.ref (x + 8), .ref (ti (cA S i)), .ref (ti (cB S i)), .ref (ci i + 1), .ref (ci j + 1)] (clG G x V A R) = some (some (.int (nI (bPr S i j))), clG G x V A1 R) := k1
      rw [if_pos e2, cl0_r3, cr_f2 (cI _ _), cr_f3 (cI _ _), cr_f4 (cI _ _), cr_f4 (cJ _ _), cl_rc8, k1', bI_s]
      by_cases e3 : bPr S i j ≤ 5000
      · have e0 : bE S i j = 0 := by
          unfold bE
          rw [if_pos ⟨e1.symm, e2.symm⟩, if_pos e3]
        rw [if_pos ((le5000 (by omega)).mpr e3), cl0_r3, cr_f2 (cI _ _), cr_f3 (cI _ _), cr_f4 (cI _ _), cr_f4 (cJ _ _), cl_rc8, q1, bI_s, if_pos e0]
        exact ⟨A2, rfl, fun r hr => (q2 r hr).trans (k2 r (by omega) (by omega) (by omega)), fun _ => q3⟩
      · have e0 : bE S i j = -5 := by
          unfold bE
          rw [if_pos ⟨e1.symm, e2.symm⟩, if_neg e3]
        rw [if_neg (fun z => e3 ((le5000 (by omega)).mp z)), e0, if_neg (by decide)]
        exact ⟨A1, rfl, fun r hr => k2 r (by omega) (by omega) (by omega), fun z => absurd z (by decide)⟩
    · have e0 : bE S i j = -3 := if_neg (fun z => e2 z.2.symm)
      rw [if_neg e2, e0, if_neg (by decide)]
      exact ⟨A, rfl, fun _ _ => rfl, fun z => absurd z (by decide)⟩
  · have e0 : bE S i j = -3 := if_neg (fun z => e1 z.1.symm)
    rw [if_pos e1, e0, if_neg (by decide)]
    exact ⟨A, rfl, fun _ _ => rfl, fun z => absurd z (by decide)⟩
theorem m_against (hm : iM Vm Am S) (hS : wW S) (hi : i < sM S) (hj : j < sM S) : ∃ A', az_ca sc iX6_against [.ref m, .int (nI i), .int (nI j)] (mdG G1 m Vm Am) = some (some (.int (bE S i j)), mdG G1 m Vm A') ∧ (∀ r, r ≠ 16 → r ≠ 17 → A' r = Am r) := by
  have h8 := hS.1
  have h24 := hS.2.1
  have ca := hS.ca hi
  have cb := hS.cb hi
  have ca2 := hS.ca hj
  have cb2 := hS.cb hj
  have mI := hm.2.2.2.2.1 i hi
  have mJ := hm.2.2.2.2.1 j hj
  rw [eX6_against, md_r11, md_a10 (by omega), mI.1, md_r11, md_a10 (by omega), mJ.1, ite_nnI (by omega) (by omega)]
  by_cases e1 : cA S i = cA S j
  · rw [if_neg (fun z => z e1), md_r12, md_a11 (by omega), mI.2.1, md_r12, md_a11 (by omega), mJ.2.1, ite_nI (by omega) (by omega)]
    by_cases e2 : cB S i = cB S j
    · have hw := hS.tw ca
      have hn6 := hw.n6
      have hpr := bPr_lt (j := j) hS hi
      obtain ⟨A1, q1, q2, q3⟩ := m_betweenCarriers (sc := sc) (G := G1) (m := m) hm hS hi hj e1.symm e2.symm
      have hm1 : iM Vm A1 S := iM_A16 hm (fun r hr => q2 r (by omega) (by omega))
      have mI1 := hm1.2.2.2.2.1 i hi
      have hch : az_ca sc iX6_chances [.ref m, .int (nI (cB S i)), .int (nI (tN (sT S (cA S i))))] (mdG G1 m Vm A1) = some (some (.long (lN (bPr S i j))), mdG G1 m Vm A1) := m_chances hm1.1 cb hn6 q3
      refine ⟨A1, ?_, q2⟩
      rw [if_pos e2, md_rc, q1, bV_s, md_r12, md_a11 (by omega), mI1.2.1, md_r1, md_r11, md_a10 (by omega), mI1.1, md_a1 (by omega), hm1.1.o ca, md_rc, hch, bL_s]
      by_cases e3 : bPr S i j ≤ 5000
      · have e0 : bE S i j = 0 := by
          unfold bE
          rw [if_pos ⟨e1.symm, e2.symm⟩, if_pos e3]
        rw [e0, if_pos ((lc5000 (by omega)).mpr e3)]
      · have e0 : bE S i j = -5 := by
          unfold bE
          rw [if_pos ⟨e1.symm, e2.symm⟩, if_neg e3]
        rw [e0, if_neg (fun z => e3 ((lc5000 (by omega)).mp z))]
    · have e0 : bE S i j = -3 := if_neg (fun z => e2 z.2.symm)
      rw [if_neg e2, e0]
      exact ⟨Am, rfl, fun _ _ _ => rfl⟩
  · have e0 : bE S i j = -3 := if_neg (fun z => e1 z.1.symm)
    rw [if_pos e1, e0]
    exact ⟨Am, rfl, fun _ _ _ => rfl⟩
theorem bE_0 (hz : bE S i j = 0) : cA S j = cA S i ∧ cB S j = cB S i := by
  unfold bE at hz
  by_cases e : cA S j = cA S i ∧ cB S j = cB S i
  · exact e
  · rw [if_neg e] at hz
    exact absurd hz (by decide)
theorem bE_n (S : wS) (i j : Nat) : bE S i j = 0 ∨ bE S i j = -3 ∨ bE S i j = -5 := by
  unfold bE
  split
  · split
    · exact Or.inl rfl
    · exact Or.inr (Or.inr rfl)
  · exact Or.inr (Or.inl rfl)
theorem iC_A9 (h : iC G B V A R S ti ci) {A' : Nat → Nat → Int32} (hA : ∀ r, r < 9 ∨ 13 < r → A' r = A r) : iC G B V A' R S ti ci := iC_A h (hA 22 (by omega)) rfl rfl rfl rfl
theorem op_bridges (h : iC G B V A R S ti ci) (hB : x + 22 ≤ B) (hS : wW S) (hm : iM Vm Am S) (y1 y2 : Int32) : opU (az_ca sc iX5_bridges [.ref x, .int y1, .int y2] (clG G x V A R)) (az_ca sc iX6_bridges [.ref m, .int y1, .int y2] (mdG G1 m Vm Am)) G G1 B x m S := by
  have h24 := hS.2.1
  rcases ix_c y1 (n := sM S) (by omega) with ⟨i, hi, rfl⟩ | hy1
  · rcases ix_c y2 (n := sM S) (by omega) with ⟨j, hj, rfl⟩ | hy2
    · obtain ⟨A1, k1, k2, k3⟩ := s_searchBridges (sc := sc) (x := x) h hB hS hi hj (-1)
      obtain ⟨A2, q1, q2⟩ := m_against (sc := sc) (G1 := G1) (m := m) hm hS hi hj
      by_cases e0 : bE S i j = 0
      · obtain ⟨e1, e2⟩ := bE_0 e0
        have hm2 : iM Vm A2 S := iM_A16 hm (fun r hr => q2 r (by omega) (by omega))
        obtain ⟨A3, v, w1, w2, w3, w4⟩ := m_findBridge (sc := sc) (G := G1) (m := m) hm2 hS hi hj e1 e2 (-2) (by decide)
        have hle := bQ_le (j := j) hS hi (-1)
        have hne : ∀ d r f, f + d < 2 ^ 30 → (fq (pq (sT S (cB S i)) (cg S i) (cg S j)) (tK (sT S (cB S i))) (tN (sT S (cA S i))) (hbB (sT S (cA S i)) (sT S (cB S i)) (cg S i) (cg S j)) (-2) d r f).2 = none ∧ (fq (pq (sT S (cB S i)) (cg S i) (cg S j)) (tK (sT S (cB S i))) (tN (sT S (cA S i))) (hbB (sT S (cA S i)) (sT S (cB S i)) (cg S i) (cg S j)) (-2) d r f).1 = (fq (pq (sT S (cB S i)) (cg S i) (cg S j)) (tK (sT S (cB S i))) (tN (sT S (cA S i))) (hbB (sT S (cA S i)) (sT S (cB S i)) (cg S i) (cg S j)) (-1) d r f).1 := by
          intro d
          induction d with
          | zero => intro r f hf; exact ⟨rfl, rfl⟩
          | succ d ih =>
            intro r f hf
            rw [fq_s, fq_s]
            by_cases c : hbB (sT S (cA S i)) (sT S (cB S i)) (cg S i) (cg S j) r = true
            · rw [if_pos c, if_pos c]
              obtain ⟨a1, a2⟩ := ih (od (pq (sT S (cB S i)) (cg S i) (cg S j)) (tK (sT S (cB S i))) (tN (sT S (cA S i))) r).1 (f + 1) (by omega)
              refine ⟨?_, a2⟩
              show (if nI f = -2 then _ else _) = none
              rw [if_neg (fun z => nI_nm1 (a := f + 1) (by omega) (by rw [← nI_1, z]; decide)), a1]
            · rw [if_neg c, if_neg c]
              exact ih _ _ (by omega)
        have hpr := bPr_lt (j := j) hS hi
        obtain ⟨n1, n2⟩ := hne (prd (pq (sT S (cB S i)) (cg S i) (cg S j)) (tK (sT S (cB S i))) (tN (sT S (cA S i)))) (fun y => fs (pq (sT S (cB S i)) (cg S i) (cg S j) y) (tK (sT S (cB S i)))) 0 (by
          have : prd (pq (sT S (cB S i)) (cg S i) (cg S j)) (tK (sT S (cB S i))) (tN (sT S (cA S i))) < 2 ^ 30 := hpr
          omega)
        have hv : v = nI (bQ S i j (-1)).1 := by
          rw [w4 n1, n2]
          rfl
        rw [if_pos e0] at k1
        refine ⟨nI (bQ S i j (-1)).1, G, V, A1, R, Vm, A3, S, ti, ci, ?_, ?_, iC_A9 h k2, iM_A16 hm2 (fun r hr => w2 r (by omega)), hS, fun _ _ => rfl, rfl, rfl⟩
        · rw [eX5_bridges, cl_rc0, s_carrierAt h hS hi, bR_s, cl_rc0, s_carrierAt h hS hj, bR_s, cl_rc0, k1, bI_s]
        · rw [eX6_bridges, md_rc, m_isCarrierT hm hS hi, bI_s, if_neg (by decide), md_rc, m_isCarrierT hm hS hj, bI_s, if_pos (by decide), md_rc, q1, bI_s, if_pos e0, md_rc, w1, bI_s, hv]
      · rw [if_neg e0] at k1
        refine ⟨bE S i j, G, V, A1, R, Vm, A2, S, ti, ci, ?_, ?_, iC_A9 h k2, iM_A16 hm (fun r hr => q2 r (by omega) (by omega)), hS, fun _ _ => rfl, rfl, rfl⟩
        · rw [eX5_bridges, cl_rc0, s_carrierAt h hS hi, bR_s, cl_rc0, s_carrierAt h hS hj, bR_s, cl_rc0, k1, bI_s]
        · rw [eX6_bridges, md_rc, m_isCarrierT hm hS hi, bI_s, if_neg (by decide), md_rc, m_isCarrierT hm hS hj, bI_s, if_pos (by decide), md_rc, q1, bI_s, if_neg e0]
    · refine opU_n h hS hm (-2) ?_ ?_
      · rw [eX5_bridges, cl_rc0, s_carrierAt h hS hi, bR_s, cl_rc0, s_carrierAtN h hy2, bR_0]
      · rw [eX6_bridges, md_rc, m_isCarrierT hm hS hi, bI_s, if_neg (by decide), md_rc, m_isCarrierN hm hS hy2, bI_s, if_neg (by decide)]
  · refine opU_n h hS hm (-2) ?_ ?_
    · rcases ix_c y2 (n := sM S) (by omega) with ⟨j, hj, rfl⟩ | hy2
      · rw [eX5_bridges, cl_rc0, s_carrierAtN h hy1, bR_0, cl_rc0, s_carrierAt h hS hj, bR_s]
      · rw [eX5_bridges, cl_rc0, s_carrierAtN h hy1, bR_0, cl_rc0, s_carrierAtN h hy2, bR_0]
    · rw [eX6_bridges, md_rc, m_isCarrierN hm hS hy1, bI_s, if_pos rfl]
theorem op_bridge (h : iC G B V A R S ti ci) (hB : x + 22 ≤ B) (hS : wW S) (hm : iM Vm Am S) (y1 y2 y3 y4 : Int32) : opU (az_ca sc iX5_bridge [.ref x, .int y1, .int y2, .int y3, .int y4] (clG G x V A R)) (az_ca sc iX6_bridge [.ref m, .int y1, .int y2, .int y3, .int y4] (mdG G1 m Vm Am)) G G1 B x m S := by
  have h24 := hS.2.1
  have h8 := hS.1
  rcases ix_c y1 (n := sM S) (by omega) with ⟨i, hi, rfl⟩ | hy1
  · have ca := hS.ca hi
    have hw := hS.tw ca
    have hn6 := hw.n6
    have mI := hm.2.2.2.2.1 i hi
    have cI : ∀ V' A', crC (clG G x V' A' R) (ci i) (cA S i) (cB S i) (ti (cA S i)) (ti (cB S i)) (cR S i) := fun V' A' => h.car hB hi V' A' R
    have hT : ∀ V' A', tbC (clG G x V' A' R) (ti (cA S i)) (sT S (cA S i)) := fun V' A' => h.tabc hB ca V' A' R
    rcases ix_c y2 (n := sM S) (by omega) with ⟨j, hj, rfl⟩ | hy2
    · by_cases h3 : y3 < 0
      · refine opU_n h hS hm (-2) ?_ ?_
        · rw [eX5_bridge, cl_rc0, s_carrierAt h hS hi, bR_s, cl_rc0, s_carrierAt h hS hj, bR_s, if_pos h3]
        · rw [eX6_bridge, md_rc, m_isCarrierT hm hS hi, bI_s, if_neg (by decide), md_rc, m_isCarrierT hm hS hj, bI_s, if_neg (by decide), if_pos h3]
      · rcases ix_c y4 (n := tN (sT S (cA S i))) (by omega) with ⟨y, hy, rfl⟩ | hy4
        · obtain ⟨A1, k1, k2, k3⟩ := s_searchBridges (sc := sc) (x := x) h hB hS hi hj y3
          obtain ⟨A2, q1, q2⟩ := m_against (sc := sc) (G1 := G1) (m := m) hm hS hi hj
          by_cases e0 : bE S i j = 0
          · obtain ⟨e1, e2⟩ := bE_0 e0
            have hm2 : iM Vm A2 S := iM_A16 hm (fun r hr => q2 r (by omega) (by omega))
            have k31 : ¬ y3 = -1 := fun z => h3 (by rw [z]; decide)
            obtain ⟨A3, v, w1, w2, w3, w4⟩ := m_findBridge (sc := sc) (G := G1) (m := m) hm2 hS hi hj e1 e2 y3 k31
            have hle := bQ_le (j := j) hS hi y3
            obtain ⟨p1, p2⟩ := fq_pick (bP S i j) (tK (sT S (cB S i))) (tN (sT S (cA S i))) (hbB (sT S (cA S i)) (sT S (cB S i)) (cg S i) (cg S j)) y3 (bPr S i j) (fun y => fs (bP S i j y) (tK (sT S (cB S i)))) 0
            rw [if_pos e0] at k1
            have hin := m_inN (sc := sc) (G := mdG G1 m Vm Am) (n := tN (sT S (cA S i))) (by omega) hy
            have hC := iC_A9 h k2
            have hM := iM_A16 hm2 (fun r hr => w2 r (show r < 16 ∨ 18 < r by omega))
            have fin : ∀ v' : Int32, az_ca sc iX5_bridge [.ref x, .int (nI i), .int (nI j), .int y3, .int (nI y)] (clG G x V A R) = some (some (.int v'), clG G x V A1 R) → az_ca sc iX6_bridge [.ref m, .int (nI i), .int (nI j), .int y3, .int (nI y)] (mdG G1 m Vm Am) = some (some (.int v'), mdG G1 m Vm A3) → opU (az_ca sc iX5_bridge [.ref x, .int (nI i), .int (nI j), .int y3, .int (nI y)] (clG G x V A R)) (az_ca sc iX6_bridge [.ref m, .int (nI i), .int (nI j), .int y3, .int (nI y)] (mdG G1 m Vm Am)) G G1 B x m S := fun v' a1 a2 => opU_n hC hS hM v' a1 a2
            cases hz : (bQ S i j y3).2 with
            | some σ =>
              obtain ⟨t, t1, t2, t3⟩ := p1 σ hz
              have t2' : t < (bQ S i j y3).1 := t2
              have t4 : ¬ nI (bQ S i j y3).1 ≤ y3 := by
                have t5 := nI_ge t2' (by omega)
                rw [t3] at t5
                exact t5
              obtain ⟨w5, w6⟩ := w3 σ hz
              refine fin (nI (σ y)) ?_ ?_
              · rw [eX5_bridge, cl_rc0, s_carrierAt h hS hi, bR_s, cl_rc0, s_carrierAt h hS hj, bR_s, if_neg h3, cr_f2 (cI _ _), tb_rc (hT _ _), s_hasObject (hT _ _) hy hn6, bI_s, if_pos (by decide), cl_rc0, k1, bI_s, if_pos (nI_le0 (by omega)), if_neg t4, cl0_r3, cl8_r1, s_read cl_c10 (by omega) (by omega), bI_s, k3 e0 σ hz y hy]
              · rw [eX6_bridge, md_rc, m_isCarrierT hm hS hi, bI_s, if_neg (by decide), md_rc, m_isCarrierT hm hS hj, bI_s, if_neg (by decide), if_neg h3, md_r1, md_r11, md_a10 (by omega), mI.1, md_a1 (by omega), hm.1.o ca, hin, bI_s, if_pos (by decide), md_rc, q1, bI_s, if_pos e0, md_rc, w1, bI_s, w5, if_neg (fun z => z rfl), md_r20, md_a18 (by omega), w6 y hy]
            | none =>
              have p3 := p2 hz
              have w5 := w4 hz
              have t1 : nI (bQ S i j y3).1 ≤ y3 := by
                rcases ix_c y3 (n := (bQ S i j y3).1) (by omega) with ⟨t, t1, t2⟩ | t
                · exact absurd t2.symm (p3 t (Nat.zero_le _) t1)
                · rcases t with t | t
                  · exact absurd t h3
                  · exact t
              have t2 : ¬ nI (bQ S i j y3).1 = y3 + 1 := by
                intro z
                by_cases t0 : (bQ S i j y3).1 = 0
                · rw [t0] at z
                  exact k31 (i32_1.mp (z.symm.trans (by decide)))
                · have t3 : (bQ S i j y3).1 = ((bQ S i j y3).1 - 1) + 1 := by omega
                  rw [t3, ← nI_1] at z
                  exact p3 ((bQ S i j y3).1 - 1) (Nat.zero_le _) (by
                    show (bQ S i j y3).1 - 1 < (bQ S i j y3).1
                    omega) (i32_1.mp z)
              refine fin (-1) ?_ ?_
              · rw [eX5_bridge, cl_rc0, s_carrierAt h hS hi, bR_s, cl_rc0, s_carrierAt h hS hj, bR_s, if_neg h3, cr_f2 (cI _ _), tb_rc (hT _ _), s_hasObject (hT _ _) hy hn6, bI_s, if_pos (by decide), cl_rc0, k1, bI_s, if_pos (nI_le0 (by omega)), if_pos t1]
              · rw [eX6_bridge, md_rc, m_isCarrierT hm hS hi, bI_s, if_neg (by decide), md_rc, m_isCarrierT hm hS hj, bI_s, if_neg (by decide), if_neg h3, md_r1, md_r11, md_a10 (by omega), mI.1, md_a1 (by omega), hm.1.o ca, hin, bI_s, if_pos (by decide), md_rc, q1, bI_s, if_pos e0, md_rc, w1, bI_s, w5, if_pos (show ¬ nI (fq (pq (sT S (cB S i)) (cg S i) (cg S j)) (tK (sT S (cB S i))) (tN (sT S (cA S i))) (hbB (sT S (cA S i)) (sT S (cB S i)) (cg S i) (cg S j)) y3 (prd (pq (sT S (cB S i)) (cg S i) (cg S j)) (tK (sT S (cB S i))) (tN (sT S (cA S i)))) (fun y => fs (pq (sT S (cB S i)) (cg S i) (cg S j) y) (tK (sT S (cB S i)))) 0).1 = y3 + 1 from t2)]
          · rw [if_neg e0] at k1
            have hin := m_inN (sc := sc) (G := mdG G1 m Vm Am) (n := tN (sT S (cA S i))) (by omega) hy
            have hneg : ¬ (0 : Int32) ≤ bE S i j := by
              rcases bE_n S i j with z | z | z
              · exact absurd z e0
              · rw [z]; decide
              · rw [z]; decide
            refine ⟨bE S i j, G, V, A1, R, Vm, A2, S, ti, ci, ?_, ?_, iC_A9 h k2, iM_A16 hm (fun r hr => q2 r (by omega) (by omega)), hS, fun _ _ => rfl, rfl, rfl⟩
            · rw [eX5_bridge, cl_rc0, s_carrierAt h hS hi, bR_s, cl_rc0, s_carrierAt h hS hj, bR_s, if_neg h3, cr_f2 (cI _ _), tb_rc (hT _ _), s_hasObject (hT _ _) hy hn6, bI_s, if_pos (by decide), cl_rc0, k1, bI_s, if_neg hneg]
            · rw [eX6_bridge, md_rc, m_isCarrierT hm hS hi, bI_s, if_neg (by decide), md_rc, m_isCarrierT hm hS hj, bI_s, if_neg (by decide), if_neg h3, md_r1, md_r11, md_a10 (by omega), mI.1, md_a1 (by omega), hm.1.o ca, hin, bI_s, if_pos (by decide), md_rc, q1, bI_s, if_neg e0]
        · have hin := m_inO (sc := sc) (G := mdG G1 m Vm Am) (n := tN (sT S (cA S i))) (by omega) hy4
          refine opU_n h hS hm (-2) ?_ ?_
          · rw [eX5_bridge, cl_rc0, s_carrierAt h hS hi, bR_s, cl_rc0, s_carrierAt h hS hj, bR_s, if_neg h3, cr_f2 (cI _ _), tb_rc (hT _ _), s_hasObjectN (hT _ _) hy4, bI_s, if_neg (by decide)]
          · rw [eX6_bridge, md_rc, m_isCarrierT hm hS hi, bI_s, if_neg (by decide), md_rc, m_isCarrierT hm hS hj, bI_s, if_neg (by decide), if_neg h3, md_r1, md_r11, md_a10 (by omega), mI.1, md_a1 (by omega), hm.1.o ca, hin, bI_s, if_neg (by decide)]
    · refine opU_n h hS hm (-2) ?_ ?_
      · rw [eX5_bridge, cl_rc0, s_carrierAt h hS hi, bR_s, cl_rc0, s_carrierAtN h hy2, bR_0]
      · rw [eX6_bridge, md_rc, m_isCarrierT hm hS hi, bI_s, if_neg (by decide), md_rc, m_isCarrierN hm hS hy2, bI_s, if_pos (by decide)]
  · refine opU_n h hS hm (-2) ?_ ?_
    · rcases ix_c y2 (n := sM S) (by omega) with ⟨j, hj, rfl⟩ | hy2
      · rw [eX5_bridge, cl_rc0, s_carrierAtN h hy1, bR_0, cl_rc0, s_carrierAt h hS hj, bR_s]
      · rw [eX5_bridge, cl_rc0, s_carrierAtN h hy1, bR_0, cl_rc0, s_carrierAtN h hy2, bR_0]
    · rw [eX6_bridge, md_rc, m_isCarrierN hm hS hy1, bI_s, if_pos rfl]
end BRIE
