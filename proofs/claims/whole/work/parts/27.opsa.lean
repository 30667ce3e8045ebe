/-! OPERATIONS that only read: count, leg, gives, end, wayOf -/
theorem m_inN {sc : az_S} {G : az_H} {n : Nat} (hn : n < 2 ^ 30) {i : Nat} (hi : i < n) : az_ca sc iX6_in [.int (nI i), .int 0, .int (nI n - 1)] G = some (some (.int 1), G) := by
  rw [m_in, if_pos]
  refine ⟨nI_le0 (by omega), ?_⟩
  rw [show (1 : Int32) = nI 1 from rfl, pk_sub (by omega)]
  exact nI_le (by omega) (by omega)
theorem m_inO {sc : az_S} {G : az_H} {n : Nat} (hn : n < 2 ^ 30) {y : Int32} (hy : y < 0 ∨ nI n ≤ y) : az_ca sc iX6_in [.int y, .int 0, .int (nI n - 1)] G = some (some (.int 0), G) := by
  rw [m_in, if_neg]
  rintro ⟨h1, h2⟩
  rcases hy with hy | hy
  · exact absurd h1 (Int32.not_le.mpr hy)
  · by_cases h0 : n = 0
    · subst h0
      have h3 : y ≤ -1 := h2
      exact absurd (Int32.le_trans h1 h3) (by decide)
    · rw [show (1 : Int32) = nI 1 from rfl, pk_sub (by omega)] at h2
      have h3 := Int32.le_trans hy h2
      rw [nI_leI (by omega) (by omega)] at h3
      omega
/-- within 0 .. n - 1, or not -/
theorem ix_c (y : Int32) {n : Nat} (hn : n < 2 ^ 31) : (∃ j : Nat, j < n ∧ y = nI j) ∨ (y < 0 ∨ nI n ≤ y) := by
  rcases pk_ix y hn with h | h | h
  · exact Or.inr (Or.inl h)
  · exact Or.inr (Or.inr h)
  · exact Or.inl h
section OPSA
variable {sc : az_S} {G G1 : az_H} {B x m : Nat} {V Vm : Nat → Int32} {A Am : Nat → Nat → Int32} {R : Nat → Nat → Option Nat} {S : wS} {ti ci : Nat → Nat}
theorem iM.t (h : iM Vm Am S) : mT Vm Am (sN S) (sT S) := h.1
theorem m_isArrowT (h : iM Vm Am S) (hS : wW S) {i a : Nat} (hi : i < sN S) (ha : a < tK (sT S i)) : az_ca sc iX6_isArrow [.ref m, .int (nI i), .int (nI a)] (mdG G m Vm Am) = some (some (.int 1), mdG G m Vm Am) := by
  have h8 := hS.1
  have hk := (hS.tw hi).k24
  rw [eX6_isArrow, md_rc, m_isTableT h hS hi, bI_s, if_neg (by decide), md_r2, md_a2 (by omega), h.1.a hi, m_inN (by omega) ha, bI_s, if_neg (by decide), zr_1]
theorem m_isArrowN (h : iM Vm Am S) (hS : wW S) {i : Nat} (hi : i < sN S) {y : Int32} (hy : y < 0 ∨ nI (tK (sT S i)) ≤ y) : az_ca sc iX6_isArrow [.ref m, .int (nI i), .int y] (mdG G m Vm Am) = some (some (.int 0), mdG G m Vm Am) := by
  have h8 := hS.1
  have hk := (hS.tw hi).k24
  rw [eX6_isArrow, md_rc, m_isTableT h hS hi, bI_s, if_neg (by decide), md_r2, md_a2 (by omega), h.1.a hi, m_inO (by omega) hy, bI_s, if_pos rfl, zr_0]
theorem m_isArrowM (h : iM Vm Am S) (hS : wW S) {z y : Int32} (hz : z < 0 ∨ nI (sN S) ≤ z) : az_ca sc iX6_isArrow [.ref m, .int z, .int y] (mdG G m Vm Am) = some (some (.int 0), mdG G m Vm Am) := by
  rw [eX6_isArrow, md_rc, m_isTableN h hS hz, bI_s, if_pos rfl, zr_0]
theorem sw3 (y : Int32) : (y = 0 ∧ az_sw [2, 5, 8, 12] 0 y = 2) ∨ (y = 1 ∧ az_sw [2, 5, 8, 12] 0 y = 5) ∨ (y = 2 ∧ az_sw [2, 5, 8, 12] 0 y = 8) ∨ ((¬ y = 0 ∧ ¬ y = 1 ∧ ¬ y = 2) ∧ az_sw [2, 5, 8, 12] 0 y = 12) := by
  rcases ix_c y (n := 3) (by omega) with ⟨j, hj, rfl⟩ | h
  · match j, hj with
    | 0, _ => exact Or.inl ⟨rfl, rfl⟩
    | 1, _ => exact Or.inr (Or.inl ⟨rfl, rfl⟩)
    | 2, _ => exact Or.inr (Or.inr (Or.inl ⟨rfl, rfl⟩))
  · refine Or.inr (Or.inr (Or.inr ⟨⟨?_, ?_, ?_⟩, ?_⟩))
    · rintro rfl; rcases h with h | h <;> exact absurd h (by decide)
    · rintro rfl; rcases h with h | h <;> exact absurd h (by decide)
    · rintro rfl; rcases h with h | h <;> exact absurd h (by decide)
    · unfold az_sw
      rw [if_pos]
      · rfl
      · rcases h with h | h
        · left
          rw [Int32.lt_iff_toInt_lt] at h
          exact h
        · right
          rw [Int32.le_iff_toInt_le] at h
          exact h
theorem op_count (h : iC G B V A R S ti ci) (hm : iM Vm Am S) (y : Int32) : ∃ v : Int32, az_ca sc iX5_count [.ref x, .int y] (clG G x V A R) = some (some (.int v), clG G x V A R) ∧ az_ca sc iX6_count [.ref m, .int y] (mdG G1 m Vm Am) = some (some (.int v), mdG G1 m Vm Am) := by
  rw [eX5_count, bX5_count_1, eX6_count]
  rcases sw3 y with ⟨rfl, e⟩ | ⟨rfl, e⟩ | ⟨rfl, e⟩ | ⟨⟨n0, n1, n2⟩, e⟩
  · refine ⟨nI (sN S), ?_, ?_⟩
    · rw [e, bX5_count_2, cl0_i11, h.1]
    · rw [if_neg (by decide), md_i0, hm.1.1]
  · refine ⟨nI (sM S), ?_, ?_⟩
    · rw [e, bX5_count_5, cl0_i12, h.2.1]
    · rw [if_pos (by decide), if_neg (by decide), md_i10, hm.2.1]
  · refine ⟨nI (sQ S), ?_, ?_⟩
    · rw [e, bX5_count_8, cl0_r2, cl3_i1, h.2.2.2.1]
    · rw [if_pos (by decide), if_pos (by decide), if_neg (by decide), md_i14, hm.2.2.1]
  · refine ⟨-2, ?_, ?_⟩
    · rw [e, bX5_count_12]
    · rw [if_pos n0, if_pos n1, if_pos n2]
theorem op_leg (h : iC G B V A R S ti ci) (hS : wW S) (hm : iM Vm Am S) (y : Int32) : ∃ v : Int32, az_ca sc iX5_leg [.ref x, .int y] (clG G x V A R) = some (some (.int v), clG G x V A R) ∧ az_ca sc iX6_leg [.ref m, .int y] (mdG G1 m Vm Am) = some (some (.int v), mdG G1 m Vm Am) := by
  have hl := hS.2.2.2.1
  rw [eX5_leg, eX6_leg, md_i25, hm.2.2.2.1]
  rcases ix_c y (n := sL S) (by omega) with ⟨j, hj, rfl⟩ | hy
  · refine ⟨sG S j, ?_, ?_⟩
    · rw [if_neg (nI_nlt0 (by omega)), cl0_i13, h.2.2.1, if_pos (nI_lt hj (by omega)), cl0_r10, s_read cl_c22 (by omega) (by omega), bI_s, h.2.2.2.2.2.1 j hj]
    · rw [m_inN (by omega) hj, bI_s, if_neg (by decide), md_r24, md_a21 (by omega), hm.2.2.2.2.2 j hj]
  · refine ⟨-1, ?_, ?_⟩
    · by_cases h0 : y < 0
      · rw [if_pos h0]
      · rw [if_neg h0, cl0_i13, h.2.2.1, if_neg (Int32.not_lt.mpr (hy.resolve_left h0))]
    · rw [m_inO (by omega) hy, bI_s, if_pos rfl]
theorem op_wayOf (h : iC G B V A R S ti ci) (hB : x + 22 ≤ B) (hS : wW S) (hm : iM Vm Am S) (y a b : Int32) : ∃ v : Int32, az_ca sc iX5_wayOf [.ref x, .int y, .int a, .int b] (clG G x V A R) = some (some (.int v), clG G x V A R) ∧ az_ca sc iX6_wayOf [.ref m, .int y, .int a, .int b] (mdG G1 m Vm Am) = some (some (.int v), mdG G1 m Vm Am) := by
  have h8 := hS.1
  rw [eX5_wayOf, eX6_wayOf, cl_rc0, md_rc]
  rcases ix_c y (n := sN S) (by omega) with ⟨i, hi, rfl⟩ | hy
  · have hT := h.tabc (x := x) hB hi V A R
    have hw := hS.tw hi
    have hk := hw.k24
    rw [s_tableAt h hS hi, bR_s, tb_rc hT]
    rcases ix_c a (n := tK (sT S i)) (by omega) with ⟨a', ha, rfl⟩ | ha
    · rw [s_hasArrow hT ha hk, bI_s, if_neg (by decide), tb_rc hT, m_isArrowT hm hS hi ha, bI_s, if_neg (by decide), md_rc]
      rcases ix_c b (n := tK (sT S i)) (by omega) with ⟨b', hb, rfl⟩ | hb
      · refine ⟨wy (sT S i) a' b', ?_, ?_⟩
        · rw [s_hasArrow hT hb hk, bI_s, if_pos (by decide), tb_rc hT, s_wayAt hT ha hb hk, bI_s]
        · rw [m_isArrowT hm hS hi hb, bI_s, if_neg (by decide), md_rc, m_wayIn hm.1 hi ha hb, bI_s]
      · refine ⟨-2, ?_, ?_⟩
        · rw [s_hasArrowN hT hb, bI_s, if_neg (by decide)]
        · rw [m_isArrowN hm hS hi hb, bI_s, if_pos rfl]
    · refine ⟨-2, ?_, ?_⟩
      · rw [s_hasArrowN hT ha, bI_s, if_pos rfl]
      · rw [m_isArrowN hm hS hi ha, bI_s, if_pos rfl]
  · refine ⟨-2, ?_, ?_⟩
    · rw [s_tableAtN h hy, bR_0]
    · rw [m_isArrowM hm hS hy, bI_s, if_pos rfl]
theorem op_end (h : iC G B V A R S ti ci) (hB : x + 22 ≤ B) (hS : wW S) (hm : iM Vm Am S) (y a b : Int32) : ∃ v : Int32, az_ca sc iX5_end [.ref x, .int y, .int a, .int b] (clG G x V A R) = some (some (.int v), clG G x V A R) ∧ az_ca sc iX6_end [.ref m, .int y, .int a, .int b] (mdG G1 m Vm Am) = some (some (.int v), mdG G1 m Vm Am) := by
  have h8 := hS.1
  rw [eX5_end, eX6_end, cl_rc0, md_rc]
  rcases ix_c y (n := sN S) (by omega) with ⟨i, hi, rfl⟩ | hy
  · have hT := h.tabc (x := x) hB hi V A R
    have hw := hS.tw hi
    have hk := hw.k24
    rw [s_tableAt h hS hi, bR_s, tb_rc hT]
    rcases ix_c a (n := tK (sT S i)) (by omega) with ⟨a', ha, rfl⟩ | ha
    · rw [m_isArrowT hm hS hi ha, bI_s, if_neg (by decide), s_hasArrow hT ha hk, bI_s, if_neg (by decide), m_in, bI_s]
      by_cases b0 : b < 0
      · refine ⟨-2, by rw [if_pos b0], ?_⟩
        have : ¬ (0 : Int32) ≤ b := Int32.not_le.mpr b0
        simp [this]
      · have b0' : (0 : Int32) ≤ b := Int32.not_lt.mp b0
        by_cases b1 : b ≤ 1
        · by_cases b2 : b = 0
          · subst b2
            refine ⟨nI (fr (sT S i) a'), ?_, ?_⟩
            · rw [if_neg (by decide : ¬ (0 : Int32) < 0), if_pos (by decide : (0 : Int32) ≤ 1), if_neg (by decide : ¬ ¬ (0 : Int32) = 0), tb_rc hT, s_fromOf hT (by omega), bI_s, hw.f ha]
            · rw [if_pos (by decide), if_neg (by decide), md_rc, m_from hm.1 hi ha, bI_s]
          · refine ⟨nI (to (sT S i) a'), ?_, ?_⟩
            · rw [if_neg b0, if_pos b1, if_pos b2, tb_rc hT, s_toOf hT (by omega), bI_s, hw.g ha]
            · rw [if_pos (by simp [b0', b1]), if_pos b2, md_rc, m_to hm.1 hi ha, bI_s]
        · refine ⟨-2, by rw [if_neg b0, if_neg b1], ?_⟩
          simp [b1]
    · refine ⟨-2, ?_, ?_⟩
      · rw [s_hasArrowN hT ha, bI_s, if_pos rfl]
      · rw [m_isArrowN hm hS hi ha, bI_s, if_pos rfl]
  · refine ⟨-2, ?_, ?_⟩
    · rw [s_tableAtN h hy, bR_0]
    · rw [m_isArrowM hm hS hy, bI_s, if_pos rfl]
/-! carriers -/
theorem s_carrierAt (h : iC G B V A R S ti ci) (hS : wW S) {j : Nat} (hj : j < sM S) : az_ca sc iX5_carrierAt [.ref x, .int (nI j)] (clG G x V A R) = some (some (.ref (ci j)), clG G x V A R) := by
  have h8 := hS.2.1
  rw [eX5_carrierAt, if_neg (nI_nlt0 (by omega)), cl0_i12, h.2.1, if_neg (nI_ge hj (by omega)), cl0_r1, ln_s cl_c2, if_neg (nI_ge (by omega) (by omega)), cl0_r1, aR_s cl_c2 (by omega) (by omega) (h.2.2.2.2.2.2.2.2.1 j hj).1]
theorem s_carrierAtN (h : iC G B V A R S ti ci) {y : Int32} (hy : y < 0 ∨ nI (sM S) ≤ y) : az_ca sc iX5_carrierAt [.ref x, .int y] (clG G x V A R) = some (some .null, clG G x V A R) := by
  rw [eX5_carrierAt]
  by_cases h0 : y < 0
  · rw [if_pos h0]
  · rw [if_neg h0, cl0_i12, h.2.1, if_pos (hy.resolve_left h0)]
/-- a carrier over a heap -/
def crC (G : az_H) (c p q tp tq : Nat) (g : Nat → Int32) : Prop := G.1 c = some (.inr (0, [.int (nI p), .int (nI q), .ref tp, .ref tq, .ref (c + 1)])) ∧ G.1 (c + 1) = some (.inl (0, 24, .inl g))
theorem iC.car (h : iC G B V A R S ti ci) (hB : x + 22 ≤ B) {j : Nat} (hj : j < sM S) (V' : Nat → Int32) (A' : Nat → Nat → Int32) (R' : Nat → Nat → Option Nat) : crC (clG G x V' A' R') (ci j) (cA S j) (cB S j) (ti (cA S j)) (ti (cB S j)) (cR S j) := by
  obtain ⟨-, h1, h2, h3, -⟩ := h.2.2.2.2.2.2.2.2.1 j hj
  exact ⟨(cl_out G _ _ _ (by omega)).trans h1, (cl_out G _ _ _ (by omega)).trans h2⟩
section CR
variable {c p q tp tq : Nat} {g : Nat → Int32}
theorem cr_rc (h : crC G c p q tp tq g) (k : az_R) : az_rc G c 0 k = k := rc_s h.1
theorem cr_f0 (h : crC G c p q tp tq g) (k : Int32 → az_R) : az_fI G c 0 0 k = k (nI p) := fI_s h.1 rfl
theorem cr_f1 (h : crC G c p q tp tq g) (k : Int32 → az_R) : az_fI G c 0 1 k = k (nI q) := fI_s h.1 rfl
theorem cr_f2 (h : crC G c p q tp tq g) (k : Nat → az_R) : az_fR G c 0 2 k = k tp := fR_s h.1 rfl
theorem cr_f3 (h : crC G c p q tp tq g) (k : Nat → az_R) : az_fR G c 0 3 k = k tq := fR_s h.1 rfl
theorem cr_f4 (h : crC G c p q tp tq g) (k : Nat → az_R) : az_fR G c 0 4 k = k (c + 1) := fR_s h.1 rfl
theorem s_givenTo (h : crC G c p q tp tq g) {a : Nat} (ha : a < 24) : az_ca sc iX0_givenTo [.ref c, .int (nI a)] G = some (some (.int (g a)), G) := by
  rw [eX0_givenTo, cr_f4 h, s_read h.2 ha (by omega), bI_s]
end CR
theorem m_isCarrierT (h : iM Vm Am S) (hS : wW S) {j : Nat} (hj : j < sM S) : az_ca sc iX6_isCarrier [.ref m, .int (nI j)] (mdG G m Vm Am) = some (some (.int 1), mdG G m Vm Am) := by
  have h8 := hS.2.1
  rw [eX6_isCarrier, md_i10, h.2.1, m_inN (by omega) hj, bI_s, zr_1]
theorem m_isCarrierN (h : iM Vm Am S) (hS : wW S) {y : Int32} (hy : y < 0 ∨ nI (sM S) ≤ y) : az_ca sc iX6_isCarrier [.ref m, .int y] (mdG G m Vm Am) = some (some (.int 0), mdG G m Vm Am) := by
  have h8 := hS.2.1
  rw [eX6_isCarrier, md_i10, h.2.1, m_inO (by omega) hy, bI_s, zr_0]
theorem wW.ca (h : wW S) {j : Nat} (hj : j < sM S) : cA S j < sN S := (h.2.2.2.2.2 j hj).1
theorem wW.cb (h : wW S) {j : Nat} (hj : j < sM S) : cB S j < sN S := (h.2.2.2.2.2 j hj).2.1
theorem wW.cac (h : wW S) {j : Nat} (hj : j < sM S) : tC (sT S (cA S j)) = 1 := (h.2.2.2.2.2 j hj).2.2.1
theorem wW.cbc (h : wW S) {j : Nat} (hj : j < sM S) : tC (sT S (cB S j)) = 1 := (h.2.2.2.2.2 j hj).2.2.2.1
theorem wW.cr (h : wW S) {j : Nat} (hj : j < sM S) {a : Nat} (ha : a < tK (sT S (cA S j))) : cR S j a = nI (cg S j a) := ((h.2.2.2.2.2 j hj).2.2.2.2 a ha).1
theorem wW.cgk (h : wW S) {j : Nat} (hj : j < sM S) {a : Nat} (ha : a < tK (sT S (cA S j))) : cg S j a < tK (sT S (cB S j)) := ((h.2.2.2.2.2 j hj).2.2.2.2 a ha).2
theorem m_giveOf (h : iM Vm Am S) (hS : wW S) {j a : Nat} (hj : j < sM S) (ha : a < tK (sT S (cA S j))) : az_ca sc iX6_giveOf [.ref m, .int (nI j), .int (nI a)] (mdG G m Vm Am) = some (some (.int (cR S j a)), mdG G m Vm Am) := by
  have h8 := hS.2.1
  have hk := (hS.tw (hS.ca hj)).k24
  rw [eX6_giveOf, md_r13, n24, md_a12 (by omega), (h.2.2.2.2.1 j hj).2.2 a ha]
theorem op_gives (h : iC G B V A R S ti ci) (hB : x + 22 ≤ B) (hS : wW S) (hm : iM Vm Am S) (y a : Int32) : ∃ v : Int32, az_ca sc iX5_gives [.ref x, .int y, .int a] (clG G x V A R) = some (some (.int v), clG G x V A R) ∧ az_ca sc iX6_gives [.ref m, .int y, .int a] (mdG G1 m Vm Am) = some (some (.int v), mdG G1 m Vm Am) := by
  have h8 := hS.2.1
  rw [eX5_gives, eX6_gives, cl_rc0, md_rc]
  rcases ix_c y (n := sM S) (by omega) with ⟨j, hj, rfl⟩ | hy
  · have hc := h.car (x := x) hB hj V A R
    have hi := hS.ca hj
    have hT := h.tabc (x := x) hB hi V A R
    have hk := (hS.tw hi).k24
    rw [s_carrierAt h hS hj, bR_s, cr_f2 hc, tb_rc hT, m_isCarrierT hm hS hj, bI_s, if_neg (by decide), md_r11, md_a10 (by omega), (hm.2.2.2.2.1 j hj).1, md_rc]
    rcases ix_c a (n := tK (sT S (cA S j))) (by omega) with ⟨a', ha, rfl⟩ | ha
    · refine ⟨cR S j a', ?_, ?_⟩
      · rw [s_hasArrow hT ha hk, bI_s, if_pos (by decide), cr_rc hc, s_givenTo hc (by omega), bI_s]
      · rw [m_isArrowT hm hS hi ha, bI_s, if_neg (by decide), md_rc, m_giveOf hm hS hj ha, bI_s]
    · refine ⟨-2, ?_, ?_⟩
      · rw [s_hasArrowN hT ha, bI_s, if_neg (by decide)]
      · rw [m_isArrowN hm hS hi ha, bI_s, if_pos rfl]
  · refine ⟨-2, ?_, ?_⟩
    · rw [s_carrierAtN h hy, bR_0]
    · rw [m_isCarrierN hm hS hy, bI_s, if_pos rfl]
end OPSA
