/-! TABLES: a table's value; the class's Table over the heap, its readers -/
abbrev tb : Type := Nat × Nat × Int32 × (Nat → Int32) × (Nat → Int32) × (Nat → Int32)
def tN (T : tb) : Nat := T.1
def tK (T : tb) : Nat := T.2.1
def tC (T : tb) : Int32 := T.2.2.1
def tF (T : tb) : Nat → Int32 := T.2.2.2.1
def tG (T : tb) : Nat → Int32 := T.2.2.2.2.1
def tW (T : tb) : Nat → Int32 := T.2.2.2.2.2
/-- where an arrow comes from, leads to; the way of two -/
def fr (T : tb) (a : Nat) : Nat := (tF T a).toNatClampNeg
def to (T : tb) (a : Nat) : Nat := (tG T a).toNatClampNeg
def wy (T : tb) (a b : Nat) : Int32 := tW T (24 * a + b)
def tbW (T : tb) : Prop := (1 ≤ tN T ∧ tN T ≤ 6 ∧ tN T ≤ tK T ∧ tK T ≤ 24 ∧ (tC T = 0 ∨ tC T = 1)) ∧ (∀ a, a < tK T → tF T a = nI (fr T a) ∧ fr T a < tN T ∧ tG T a = nI (to T a) ∧ to T a < tN T) ∧ (∀ a, a < tN T → fr T a = a ∧ to T a = a) ∧ (∀ a b, a < tK T → b < tK T → (to T a ≠ fr T b → wy T a b = -1) ∧ (to T a = fr T b → a < tN T → wy T a b = nI b) ∧ (to T a = fr T b → b < tN T → wy T a b = nI a) ∧ (to T a = fr T b → wy T a b = -1 ∨ ∃ c, c < tK T ∧ wy T a b = nI c ∧ fr T c = fr T a ∧ to T c = to T b)) ∧ (∀ a b, a < 24 → b < 24 → (tK T ≤ a ∨ tK T ≤ b) → wy T a b = -1)
def tbC (G : az_H) (t : Nat) (T : tb) : Prop := G.1 t = some (.inr (4, [.int (nI (tN T)), .int (nI (tK T)), .int (tC T), .ref (t + 1), .ref (t + 2), .ref (t + 3)])) ∧ G.1 (t + 1) = some (.inl (0, 24, .inl (tF T))) ∧ G.1 (t + 2) = some (.inl (0, 24, .inl (tG T))) ∧ G.1 (t + 3) = some (.inl (0, 576, .inl (tW T)))
theorem tbW.n1 {T : tb} (h : tbW T) : 1 ≤ tN T := h.1.1
theorem tbW.n6 {T : tb} (h : tbW T) : tN T ≤ 6 := h.1.2.1
theorem tbW.nk {T : tb} (h : tbW T) : tN T ≤ tK T := h.1.2.2.1
theorem tbW.k24 {T : tb} (h : tbW T) : tK T ≤ 24 := h.1.2.2.2.1
theorem tbW.c01 {T : tb} (h : tbW T) : tC T = 0 ∨ tC T = 1 := h.1.2.2.2.2
theorem tbW.f {T : tb} (h : tbW T) {a : Nat} (ha : a < tK T) : tF T a = nI (fr T a) := (h.2.1 a ha).1
theorem tbW.g {T : tb} (h : tbW T) {a : Nat} (ha : a < tK T) : tG T a = nI (to T a) := (h.2.1 a ha).2.2.1
theorem tbW.frn {T : tb} (h : tbW T) {a : Nat} (ha : a < tK T) : fr T a < tN T := (h.2.1 a ha).2.1
theorem tbW.ton {T : tb} (h : tbW T) {a : Nat} (ha : a < tK T) : to T a < tN T := (h.2.1 a ha).2.2.2
theorem nI_m24 (a b : Nat) : nI a * 24 + nI b = nI (24 * a + b) := by
  rw [show (24 : Int32) = nI 24 from rfl, pk_mul, nI_add, Nat.mul_comm]
theorem nI_inj {a b : Nat} (ha : a < 2 ^ 31) (hb : b < 2 ^ 31) : (nI a = nI b) = (a = b) := propext (nI_eq ha hb)
theorem ite_nI {α : Sort _} {a b : Nat} (ha : a < 2 ^ 31) (hb : b < 2 ^ 31) (X Y : α) : (if nI a = nI b then X else Y) = if a = b then X else Y := by
  by_cases e : a = b
  · rw [if_pos e, if_pos (by rw [e])]
  · rw [if_neg e, if_neg (fun z => e ((nI_eq ha hb).mp z))]
theorem ite_nnI {α : Sort _} {a b : Nat} (ha : a < 2 ^ 31) (hb : b < 2 ^ 31) (X Y : α) : (if ¬ nI a = nI b then X else Y) = if ¬ a = b then X else Y := by
  by_cases e : a = b
  · subst e
    rw [if_neg (fun z => z rfl), if_neg (fun z => z rfl)]
  · rw [if_pos e, if_pos (fun z => e ((nI_eq ha hb).mp z))]
theorem ite_nI2 {α : Sort _} {a b c d : Nat} (ha : a < 2 ^ 31) (hb : b < 2 ^ 31) (hc : c < 2 ^ 31) (hd : d < 2 ^ 31) (X Y : α) : (if nI a = nI b ∧ nI c = nI d then X else Y) = if a = b ∧ c = d then X else Y := by
  by_cases e : a = b ∧ c = d
  · rw [if_pos e, if_pos ⟨by rw [e.1], by rw [e.2]⟩]
  · rw [if_neg e, if_neg (fun z => e ⟨(nI_eq ha hb).mp z.1, (nI_eq hc hd).mp z.2⟩)]
section TAB
variable {sc : az_S} {G : az_H} {t : Nat} {T : tb}
theorem tb_f0 (h : tbC G t T) (k : Int32 → az_R) : az_fI G t 4 0 k = k (nI (tN T)) := fI_s h.1 rfl
theorem tb_f1 (h : tbC G t T) (k : Int32 → az_R) : az_fI G t 4 1 k = k (nI (tK T)) := fI_s h.1 rfl
theorem tb_f2 (h : tbC G t T) (k : Int32 → az_R) : az_fI G t 4 2 k = k (tC T) := fI_s h.1 rfl
theorem tb_f3 (h : tbC G t T) (k : Nat → az_R) : az_fR G t 4 3 k = k (t + 1) := fR_s h.1 rfl
theorem tb_f4 (h : tbC G t T) (k : Nat → az_R) : az_fR G t 4 4 k = k (t + 2) := fR_s h.1 rfl
theorem tb_f5 (h : tbC G t T) (k : Nat → az_R) : az_fR G t 4 5 k = k (t + 3) := fR_s h.1 rfl
theorem tb_rc (h : tbC G t T) (k : az_R) : az_rc G t 4 k = k := rc_s h.1
theorem s_read {r n i : Nat} {f : Nat → Int32} (h : G.1 r = some (.inl (0, n, .inl f))) (hi : i < n) (hn : n < 2 ^ 31) : az_ca sc iX5_read [.ref r, .int (nI i)] G = some (some (.int (f i)), G) := by
  rw [eX5_read, if_neg (nI_nlt0 (by omega)), ln_s h, if_neg (nI_ge hi hn), aI_s h hi hn]
theorem s_readN {r : Nat} {x : Int32} (hx : x < 0) : az_ca sc iX5_read [.ref r, .int x] G = some (some (.int (-1)), G) := by
  rw [eX5_read, if_pos hx]
theorem s_readO {r n : Nat} {f : Nat → Int32} {x : Int32} (h : G.1 r = some (.inl (0, n, .inl f))) (h0 : ¬ x < 0) (hx : nI n ≤ x) : az_ca sc iX5_read [.ref r, .int x] G = some (some (.int (-1)), G) := by
  rw [eX5_read, if_neg h0, ln_s h, if_pos hx]
theorem s_write {r n i : Nat} {f : Nat → Int32} {v : Int32} (h : G.1 r = some (.inl (0, n, .inl f))) (hi : i < n) (hn : n < 2 ^ 31) : az_ca sc iX5_write [.ref r, .int (nI i), .int v] G = some (none, az_set G r (.inl (0, n, .inl (upd f i v)))) := by
  rw [eX5_write, if_neg (nI_nlt0 (by omega)), ln_s h, if_neg (nI_ge hi hn), sI_s h hi hn]
theorem s_fromOf (h : tbC G t T) {a : Nat} (ha : a < 24) : az_ca sc iX4_fromOf [.ref t, .int (nI a)] G = some (some (.int (tF T a)), G) := by
  rw [eX4_fromOf, tb_f3 h, s_read h.2.1 ha (by omega), bI_s]
theorem s_toOf (h : tbC G t T) {a : Nat} (ha : a < 24) : az_ca sc iX4_toOf [.ref t, .int (nI a)] G = some (some (.int (tG T a)), G) := by
  rw [eX4_toOf, tb_f4 h, s_read h.2.2.1 ha (by omega), bI_s]
theorem s_hasArrow (h : tbC G t T) {a : Nat} (ha : a < tK T) (hk : tK T ≤ 24) : az_ca sc iX4_hasArrow [.ref t, .int (nI a)] G = some (some (.int 1), G) := by
  rw [eX4_hasArrow, if_neg (nI_nlt0 (by omega)), tb_f1 h, if_neg (nI_ge ha (by omega)), zr_1]
theorem s_hasArrowN (h : tbC G t T) {x : Int32} (hx : x < 0 ∨ nI (tK T) ≤ x) : az_ca sc iX4_hasArrow [.ref t, .int x] G = some (some (.int 0), G) := by
  rw [eX4_hasArrow]
  by_cases h0 : x < 0
  · rw [if_pos h0, zr_0]
  · rw [if_neg h0, tb_f1 h, if_pos (hx.resolve_left h0), zr_0]
theorem s_hasObject (h : tbC G t T) {a : Nat} (ha : a < tN T) (hk : tN T ≤ 6) : az_ca sc iX4_hasObject [.ref t, .int (nI a)] G = some (some (.int 1), G) := by
  rw [eX4_hasObject, if_neg (nI_nlt0 (by omega)), tb_f0 h, if_neg (nI_ge ha (by omega)), zr_1]
theorem s_hasObjectN (h : tbC G t T) {x : Int32} (hx : x < 0 ∨ nI (tN T) ≤ x) : az_ca sc iX4_hasObject [.ref t, .int x] G = some (some (.int 0), G) := by
  rw [eX4_hasObject]
  by_cases h0 : x < 0
  · rw [if_pos h0, zr_0]
  · rw [if_neg h0, tb_f0 h, if_pos (hx.resolve_left h0), zr_0]
theorem s_doesNothing (h : tbC G t T) {a : Nat} (ha : a < 2 ^ 31) (hk : tN T ≤ 6) : az_ca sc iX4_doesNothing [.ref t, .int (nI a)] G = some (some (.int (if a < tN T then 1 else 0)), G) := by
  rw [eX4_doesNothing, if_neg (nI_nlt0 (by omega)), tb_f0 h]
  by_cases h1 : a < tN T
  · rw [if_neg (nI_ge h1 (by omega)), zr_1, if_pos h1]
  · rw [if_pos (nI_le (by omega) (by omega)), zr_0, if_neg h1]
theorem s_doesNothingN (h : tbC G t T) : az_ca sc iX4_doesNothing [.ref t, .int (-1)] G = some (some (.int 0), G) := by
  rw [eX4_doesNothing, if_pos (by decide), zr_0]
theorem s_wayAt (h : tbC G t T) {a b : Nat} (ha : a < tK T) (hb : b < tK T) (hk : tK T ≤ 24) : az_ca sc iX4_wayAt [.ref t, .int (nI a), .int (nI b)] G = some (some (.int (wy T a b)), G) := by
  rw [eX4_wayAt, tb_rc h, s_hasArrow h ha hk, bI_s, if_neg (by decide), tb_rc h, s_hasArrow h hb hk, bI_s, if_neg (by decide), tb_f5 h, nI_m24, s_read h.2.2.2 (by omega) (by omega), bI_s]
  rfl
theorem s_wayAtN (h : tbC G t T) {x y : Int32} (hx : (x < 0 ∨ nI (tK T) ≤ x) ∨ (y < 0 ∨ nI (tK T) ≤ y)) (hk : tK T ≤ 24) : az_ca sc iX4_wayAt [.ref t, .int x, .int y] G = some (some (.int (-1)), G) := by
  rw [eX4_wayAt, tb_rc h]
  by_cases h0 : x < 0 ∨ nI (tK T) ≤ x
  · rw [s_hasArrowN h h0, bI_s, if_pos rfl]
  · have h1 := hx.resolve_left h0
    have h2 : ∃ j, j < tK T ∧ x = nI j := by
      rcases ix_cases x (n := tK T) (by omega) with q | q | q
      · exact absurd (Or.inl q) h0
      · exact absurd (Or.inr q.2) h0
      · exact q
    obtain ⟨j, hj, rfl⟩ := h2
    rw [s_hasArrow h hj hk, bI_s, if_neg (by decide), tb_rc h, s_hasArrowN h h1, bI_s, if_pos rfl]
theorem s_isRow (h : tbC G t T) (hw : tbW T) {a b : Nat} (ha : a < tK T) (hb : b < tK T) : az_ca sc iX4_isRow [.ref t, .int (nI a), .int (nI b)] G = some (some (.int (if to T a = fr T b then 1 else 0)), G) := by
  have hk := hw.k24
  have h1 := hw.ton ha
  have h2 := hw.frn hb
  have h3 := hw.n6
  rw [eX4_isRow, tb_rc h, s_toOf h (by omega), bI_s, tb_rc h, s_fromOf h (by omega), bI_s, hw.g ha, hw.f hb, ite_nnI (by omega) (by omega)]
  by_cases e : to T a = fr T b <;> simp [e, zr_0, zr_1]
theorem s_leads (h : tbC G t T) {a : Nat} (ha : a < 24) (x y : Int32) : az_ca sc iX4_leads [.ref t, .int (nI a), .int x, .int y] G = some (some (.int (if tF T a = x ∧ tG T a = y then 1 else 0)), G) := by
  rw [eX4_leads, tb_rc h, s_fromOf h ha, bI_s]
  by_cases e : tF T a = x
  · rw [if_neg (fun q => q e), tb_rc h, s_toOf h ha, bI_s]
    by_cases e2 : tG T a = y <;> simp [e, e2, zr_0, zr_1]
  · simp [e, zr_0]
theorem s_leadsN (h : tbC G t T) (hw : tbW T) {a x y : Nat} (ha : a < tK T) (hx : x < 2 ^ 31) (hy : y < 2 ^ 31) : az_ca sc iX4_leads [.ref t, .int (nI a), .int (nI x), .int (nI y)] G = some (some (.int (if fr T a = x ∧ to T a = y then 1 else 0)), G) := by
  have hk := hw.k24
  have h1 := hw.ton ha
  have h2 := hw.frn ha
  have h3 := hw.n6
  rw [s_leads h (by omega), hw.f ha, hw.g ha, ite_nI2 (by omega) hx (by omega) hy]
end TAB
