/-! THE STATE of both sides and what holds of it -/
/-- tables: how many, which; carriers: how many, which (from, to, what the arrows get); tries; legs: how many, which -/
abbrev wS : Type := Nat × (Nat → tb) × Nat × (Nat → Nat × Nat × (Nat → Int32)) × Nat × Nat × (Nat → Int32)
def sN (S : wS) : Nat := S.1
def sT (S : wS) : Nat → tb := S.2.1
def sM (S : wS) : Nat := S.2.2.1
def sC (S : wS) : Nat → Nat × Nat × (Nat → Int32) := S.2.2.2.1
def sQ (S : wS) : Nat := S.2.2.2.2.1
def sL (S : wS) : Nat := S.2.2.2.2.2.1
def sG (S : wS) : Nat → Int32 := S.2.2.2.2.2.2
/-- a carrier's numbers and what it gives -/
def cA (S : wS) (j : Nat) : Nat := (sC S j).1
def cB (S : wS) (j : Nat) : Nat := (sC S j).2.1
def cR (S : wS) (j : Nat) : Nat → Int32 := (sC S j).2.2
def cg (S : wS) (j a : Nat) : Nat := (cR S j a).toNatClampNeg
/-- what holds of the state itself -/
def wW (S : wS) : Prop := sN S ≤ 8 ∧ sM S ≤ 24 ∧ sQ S ≤ 60000 ∧ sL S ≤ 6 ∧ (∀ i, i < sN S → tbW (sT S i) ∧ (tC (sT S i) = 1 → tld (sT S i))) ∧ (∀ j, j < sM S → cA S j < sN S ∧ cB S j < sN S ∧ tC (sT S (cA S j)) = 1 ∧ tC (sT S (cB S j)) = 1 ∧ ∀ a, a < tK (sT S (cA S j)) → cR S j a = nI (cg S j a) ∧ cg S j a < tK (sT S (cB S j)))
/-- the class's side: G below the block at x; tables and carriers lie behind B -/
def iC (G : az_H) (B : Nat) (V : Nat → Int32) (A : Nat → Nat → Int32) (R : Nat → Nat → Option Nat) (S : wS) (ti ci : Nat → Nat) : Prop := V 0 = nI (sN S) ∧ V 1 = nI (sM S) ∧ V 2 = nI (sL S) ∧ V 3 = nI (sQ S) ∧ B < G.2.1 ∧ (∀ a, a < sL S → A 22 a = sG S a) ∧ (∀ i, i < sN S → R 1 i = some (ti i) ∧ tbC G (ti i) (sT S i) ∧ B < ti i ∧ ti i + 3 < G.2.1) ∧ (∀ i j, i < sN S → j < sN S → i ≠ j → ti i + 3 < ti j ∨ ti j + 3 < ti i) ∧ (∀ j, j < sM S → R 2 j = some (ci j) ∧ G.1 (ci j) = some (.inr (0, [.int (nI (cA S j)), .int (nI (cB S j)), .ref (ti (cA S j)), .ref (ti (cB S j)), .ref (ci j + 1)])) ∧ G.1 (ci j + 1) = some (.inl (0, 24, .inl (cR S j))) ∧ B < ci j ∧ ci j + 1 < G.2.1) ∧ (∀ i j, i < sN S → j < sM S → ti i + 3 < ci j ∨ ci j + 1 < ti i)
/-- the model's side -/
def iM (V : Nat → Int32) (A : Nat → Nat → Int32) (S : wS) : Prop := mT V A (sN S) (sT S) ∧ V 1 = nI (sM S) ∧ V 2 = nI (sQ S) ∧ V 4 = nI (sL S) ∧ (∀ j, j < sM S → A 10 j = nI (cA S j) ∧ A 11 j = nI (cB S j) ∧ ∀ a, a < tK (sT S (cA S j)) → A 12 (24 * j + a) = cR S j a) ∧ (∀ a, a < sL S → A 21 a = sG S a)
section INV
variable {sc : az_S} {G : az_H} {B x m : Nat} {V Vm : Nat → Int32} {A Am : Nat → Nat → Int32} {R : Nat → Nat → Option Nat} {S : wS} {ti ci : Nat → Nat}
theorem iC.tab (h : iC G B V A R S ti ci) {i : Nat} (hi : i < sN S) : tbC G (ti i) (sT S i) := (h.2.2.2.2.2.2.1 i hi).2.1
theorem iC.tr (h : iC G B V A R S ti ci) {i : Nat} (hi : i < sN S) : R 1 i = some (ti i) := (h.2.2.2.2.2.2.1 i hi).1
theorem iC.tB (h : iC G B V A R S ti ci) {i : Nat} (hi : i < sN S) : B < ti i := (h.2.2.2.2.2.2.1 i hi).2.2.1
theorem iC.tabc (h : iC G B V A R S ti ci) (hB : x + 22 ≤ B) {i : Nat} (hi : i < sN S) (V' : Nat → Int32) (A' : Nat → Nat → Int32) (R' : Nat → Nat → Option Nat) : tbC (clG G x V' A' R') (ti i) (sT S i) := tbC_cl (h.tab hi) (by have := h.tB hi; omega) _ _ _
theorem wW.tw (h : wW S) {i : Nat} (hi : i < sN S) : tbW (sT S i) := (h.2.2.2.2.1 i hi).1
theorem wW.told (h : wW S) {i : Nat} (hi : i < sN S) (hc : tC (sT S i) = 1) : tld (sT S i) := (h.2.2.2.2.1 i hi).2 hc
/-- tableAt: a table's number, or not -/
theorem s_tableAt (h : iC G B V A R S ti ci) (hS : wW S) {i : Nat} (hi : i < sN S) : az_ca sc iX5_tableAt [.ref x, .int (nI i)] (clG G x V A R) = some (some (.ref (ti i)), clG G x V A R) := by
  have h8 := hS.1
  rw [eX5_tableAt, if_neg (nI_nlt0 (by omega)), cl0_i11, h.1, if_neg (nI_ge hi (by omega)), cl0_r0, ln_s cl_c1, if_neg (nI_ge (by omega) (by omega)), cl0_r0, aR_s cl_c1 (by omega) (by omega) (h.tr hi)]
theorem s_tableAtN (h : iC G B V A R S ti ci) {y : Int32} (hy : y < 0 ∨ nI (sN S) ≤ y) : az_ca sc iX5_tableAt [.ref x, .int y] (clG G x V A R) = some (some .null, clG G x V A R) := by
  rw [eX5_tableAt]
  by_cases h0 : y < 0
  · rw [if_pos h0]
  · rw [if_neg h0, cl0_i11, h.1, if_pos (hy.resolve_left h0)]
theorem m_isTableT (h : iM Vm Am S) (hS : wW S) {i : Nat} (hi : i < sN S) : az_ca sc iX6_isTable [.ref m, .int (nI i)] (mdG G m Vm Am) = some (some (.int 1), mdG G m Vm Am) := by
  have h8 := hS.1
  rw [m_isTable h.1, if_pos]
  refine ⟨nI_le0 (by omega), ?_⟩
  rw [show (1 : Int32) = nI 1 from rfl, pk_sub (by omega)]
  exact nI_le (by omega) (by omega)
theorem m_isTableN (h : iM Vm Am S) (hS : wW S) {y : Int32} (hy : y < 0 ∨ nI (sN S) ≤ y) : az_ca sc iX6_isTable [.ref m, .int y] (mdG G m Vm Am) = some (some (.int 0), mdG G m Vm Am) := by
  have h8 := hS.1
  rw [m_isTable h.1, if_neg]
  rintro ⟨h1, h2⟩
  rcases hy with hy | hy
  · exact absurd h1 (Int32.not_le.mpr hy)
  · by_cases h0 : sN S = 0
    · rw [h0] at h2
      have h3 : y ≤ -1 := h2
      have h4 := Int32.le_trans h1 h3
      exact absurd h4 (by decide)
    · rw [show (1 : Int32) = nI 1 from rfl, pk_sub (by omega)] at h2
      have h3 := Int32.le_trans hy h2
      rw [nI_leI (by omega) (by omega)] at h3
      omega
end INV
