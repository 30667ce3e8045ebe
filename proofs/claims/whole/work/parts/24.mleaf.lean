/-! THE MODEL's leaves -/
theorem n24 (i a : Nat) : 24 * nI i + nI a = nI (24 * i + a) := by
  rw [show (24 : Int32) = nI 24 from rfl, pk_mul, nI_add]
theorem n576 (i a b : Nat) : 576 * nI i + 24 * nI a + nI b = nI (576 * i + 24 * a + b) := by
  rw [show (24 : Int32) = nI 24 from rfl, show (576 : Int32) = nI 576 from rfl, pk_mul, pk_mul, nI_add, nI_add]
def mT (V : Nat → Int32) (A : Nat → Nat → Int32) (nt : Nat) (Tb : Nat → tb) : Prop := V 0 = nI nt ∧ nt ≤ 8 ∧ ∀ i, i < nt → tbW (Tb i) ∧ A 1 i = nI (tN (Tb i)) ∧ A 2 i = nI (tK (Tb i)) ∧ A 3 i = tC (Tb i) ∧ (∀ a, a < tK (Tb i) → A 4 (24 * i + a) = tF (Tb i) a ∧ A 5 (24 * i + a) = tG (Tb i) a) ∧ (∀ a b, a < tK (Tb i) → b < tK (Tb i) → tN (Tb i) ≤ a → tN (Tb i) ≤ b → to (Tb i) a = fr (Tb i) b → A 6 (576 * i + 24 * a + b) = wy (Tb i) a b) ∧ (∀ a b, a < 24 → b < 24 → (tK (Tb i) ≤ a ∨ tK (Tb i) ≤ b) → A 6 (576 * i + 24 * a + b) = -1)
section MLEAF
variable {sc : az_S} {G : az_H} {m : Nat} {V : Nat → Int32} {A : Nat → Nat → Int32} {nt : Nat} {Tb : Nat → tb}
theorem mT.w (h : mT V A nt Tb) {i : Nat} (hi : i < nt) : tbW (Tb i) := (h.2.2 i hi).1
theorem mT.o (h : mT V A nt Tb) {i : Nat} (hi : i < nt) : A 1 i = nI (tN (Tb i)) := (h.2.2 i hi).2.1
theorem mT.a (h : mT V A nt Tb) {i : Nat} (hi : i < nt) : A 2 i = nI (tK (Tb i)) := (h.2.2 i hi).2.2.1
theorem mT.c (h : mT V A nt Tb) {i : Nat} (hi : i < nt) : A 3 i = tC (Tb i) := (h.2.2 i hi).2.2.2.1
theorem mT.f (h : mT V A nt Tb) {i a : Nat} (hi : i < nt) (ha : a < tK (Tb i)) : A 4 (24 * i + a) = nI (fr (Tb i) a) := ((h.2.2 i hi).2.2.2.2.1 a ha).1.trans ((h.w hi).f ha)
theorem mT.g (h : mT V A nt Tb) {i a : Nat} (hi : i < nt) (ha : a < tK (Tb i)) : A 5 (24 * i + a) = nI (to (Tb i) a) := ((h.2.2 i hi).2.2.2.2.1 a ha).2.trans ((h.w hi).g ha)
theorem mT.y (h : mT V A nt Tb) {i a b : Nat} (hi : i < nt) (ha : a < tK (Tb i)) (hb : b < tK (Tb i)) (h1 : tN (Tb i) ≤ a) (h2 : tN (Tb i) ≤ b) (e : to (Tb i) a = fr (Tb i) b) : A 6 (576 * i + 24 * a + b) = wy (Tb i) a b := (h.2.2 i hi).2.2.2.2.2.1 a b ha hb h1 h2 e
theorem m_in {v l h : Int32} : az_ca sc iX6_in [.int v, .int l, .int h] G = some (some (.int (if l ≤ v ∧ v ≤ h then 1 else 0)), G) := by
  rw [eX6_in]
  by_cases h1 : v < l
  · have h2 : ¬ l ≤ v := Int32.not_le.mpr h1
    simp [h1, h2, zr_0]
  · have h2 : l ≤ v := Int32.not_lt.mp h1
    by_cases h3 : h < v
    · have h4 : ¬ v ≤ h := Int32.not_le.mpr h3
      simp [h1, h3, h4, zr_0]
    · have h4 : v ≤ h := Int32.not_lt.mp h3
      simp [h1, h2, h3, h4, zr_1]
theorem m_from (h : mT V A nt Tb) {i a : Nat} (hi : i < nt) (ha : a < tK (Tb i)) : az_ca sc iX6_from [.ref m, .int (nI i), .int (nI a)] (mdG G m V A) = some (some (.int (nI (fr (Tb i) a))), mdG G m V A) := by
  have := h.2.1
  have := (h.w hi).k24
  rw [eX6_from, md_r4, n24, md_a4 (by omega), h.f hi ha]
theorem m_to (h : mT V A nt Tb) {i a : Nat} (hi : i < nt) (ha : a < tK (Tb i)) : az_ca sc iX6_to [.ref m, .int (nI i), .int (nI a)] (mdG G m V A) = some (some (.int (nI (to (Tb i) a))), mdG G m V A) := by
  have := h.2.1
  have := (h.w hi).k24
  rw [eX6_to, md_r5, n24, md_a5 (by omega), h.g hi ha]
theorem m_wayIn (h : mT V A nt Tb) {i a b : Nat} (hi : i < nt) (ha : a < tK (Tb i)) (hb : b < tK (Tb i)) : az_ca sc iX6_wayIn [.ref m, .int (nI i), .int (nI a), .int (nI b)] (mdG G m V A) = some (some (.int (wy (Tb i) a b)), mdG G m V A) := by
  have h8 := h.2.1
  have hw := h.w hi
  have hk := hw.k24
  have hn := hw.n6
  have h1 := hw.ton ha
  have h2 := hw.frn hb
  obtain ⟨w1, w2, w3, -⟩ := hw.2.2.2.1 a b ha hb
  rw [eX6_wayIn, md_rc, m_to h hi ha, bI_s, md_rc, m_from h hi hb, bI_s, ite_nI (by omega) (by omega)]
  by_cases e : to (Tb i) a = fr (Tb i) b
  · rw [if_pos e, md_r1, md_a1 (by omega), h.o hi]
    by_cases e1 : a < tN (Tb i)
    · rw [if_neg (nI_ge e1 (by omega)), w2 e e1]
    · rw [if_pos (nI_le (by omega) (by omega)), md_r1, md_a1 (by omega), h.o hi]
      by_cases e2 : b < tN (Tb i)
      · rw [if_neg (nI_ge e2 (by omega)), w3 e e2]
      · rw [if_pos (nI_le (by omega) (by omega)), md_r6, n576, md_a6 (by omega), h.y hi ha hb (by omega) (by omega) e]
  · rw [if_neg e, w1 e]
theorem m_isTable (h : mT V A nt Tb) (x : Int32) : az_ca sc iX6_isTable [.ref m, .int x] (mdG G m V A) = some (some (.int (if 0 ≤ x ∧ x ≤ nI nt - 1 then 1 else 0)), mdG G m V A) := by
  rw [eX6_isTable, md_i0, m_in, bI_s, h.1, zr_i]
end MLEAF
