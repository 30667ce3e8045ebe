/-! a table's ways told one after another -/
def gdW (T : tb) (a b : Nat) (c : Int32) : Prop := (to T a ≠ fr T b → c = -1) ∧ (to T a = fr T b → a < tN T → c = nI b) ∧ (to T a = fr T b → b < tN T → c = nI a) ∧ (to T a = fr T b → c = -1 ∨ ∃ d : Nat, d < tK T ∧ c = nI d ∧ fr T d = fr T a ∧ to T d = to T b)
theorem wS1_Wg {T : tb} (h : tbW T) {a b : Nat} {c : Int32} (ha : a < tK T) (hb : b < tK T) (hg : gdW T a b c) : tbW (wS1 T a b c) := by
  obtain ⟨h1, h2, h3, h4, h5⟩ := h
  have hk : tK T ≤ 24 := h1.2.2.2.1
  refine ⟨h1, h2, h3, fun p q hp hq => ?_, fun p q hp hq hpq => ?_⟩
  · have hp' : p < tK T := hp
    have hq' : q < tK T := hq
    have h6 := h4 p q hp' hq'
    rw [wy_S1 (by omega) (by omega)]
    by_cases e3 : p = a ∧ q = b
    · obtain ⟨rfl, rfl⟩ := e3
      rw [if_pos ⟨rfl, rfl⟩]
      exact hg
    · rw [if_neg e3]
      exact h6
  · have hpq' : tK T ≤ p ∨ tK T ≤ q := hpq
    rw [wy_S1 (by omega) hq, if_neg (by omega)]
    exact h5 p q hp hq hpq'
def wSo (T : tb) (a b : Nat) (o : Option Int32) : tb := match o with
  | some c => wS1 T a b c
  | none => T
def twB (f : Nat → Nat → Option Int32) (T : tb) (a : Nat) : Nat → tb
  | 0 => T
  | b + 1 => wSo (twB f T a b) a b (f a b)
def twA (f : Nat → Nat → Option Int32) (k : Nat) (T : tb) : Nat → tb
  | 0 => T
  | a + 1 => twB f (twA f k T a) a k
/-- all but the ways -/
def shp (T U : tb) : Prop := tN U = tN T ∧ tK U = tK T ∧ tC U = tC T ∧ tF U = tF T ∧ tG U = tG T
theorem shp_r (T : tb) : shp T T := ⟨rfl, rfl, rfl, rfl, rfl⟩
theorem shp_o {T U : tb} (h : shp T U) (a b : Nat) (o : Option Int32) : shp T (wSo U a b o) := by
  cases o with
  | none => exact h
  | some c => exact h
theorem shp_fr {T U : tb} (h : shp T U) (a : Nat) : fr U a = fr T a := by
  unfold fr; rw [h.2.2.2.1]
theorem shp_to {T U : tb} (h : shp T U) (a : Nat) : to U a = to T a := by
  unfold to; rw [h.2.2.2.2]
theorem shp_gd {T U : tb} (h : shp T U) {a b : Nat} {c : Int32} (hg : gdW T a b c) : gdW U a b c := by
  unfold gdW
  rw [shp_to h, shp_fr h, h.1, h.2.1]
  refine ⟨hg.1, hg.2.1, hg.2.2.1, fun z => ?_⟩
  rcases hg.2.2.2 z with w | ⟨d, w1, w2, w3, w4⟩
  · exact Or.inl w
  · exact Or.inr ⟨d, w1, w2, (shp_fr h d).trans (w3.trans (shp_fr h a).symm), (shp_to h d).trans (w4.trans (shp_to h b).symm)⟩
section TF
variable {f : Nat → Nat → Option Int32} {T : tb}
theorem wSo_W {U : tb} (h : shp T U) (hU : tbW U) {a b : Nat} (ha : a < tK T) (hb : b < tK T) (hf : ∀ c : Int32, f a b = some c → gdW T a b c) : tbW (wSo U a b (f a b)) := by
  cases e : f a b with
  | none => exact hU
  | some c => exact wS1_Wg hU (by rw [h.2.1]; exact ha) (by rw [h.2.1]; exact hb) (shp_gd h (hf c e))
theorem twB_W {U : tb} (h : shp T U) (hU : tbW U) {a : Nat} (ha : a < tK T) (hf : ∀ b c, b < tK T → f a b = some c → gdW T a b c) : ∀ b, b ≤ tK T → shp T (twB f U a b) ∧ tbW (twB f U a b) := by
  intro b
  induction b with
  | zero => intro _; exact ⟨h, hU⟩
  | succ b ih =>
    intro hb
    obtain ⟨i1, i2⟩ := ih (by omega)
    exact ⟨shp_o i1 _ _ _, wSo_W i1 i2 ha (by omega) (fun c e => hf b c (by omega) e)⟩
theorem twA_W (hT : tbW T) (hf : ∀ a b c, a < tK T → b < tK T → f a b = some c → gdW T a b c) : ∀ a, a ≤ tK T → shp T (twA f (tK T) T a) ∧ tbW (twA f (tK T) T a) := by
  intro a
  induction a with
  | zero => intro _; exact ⟨shp_r T, hT⟩
  | succ a ih =>
    intro ha
    obtain ⟨i1, i2⟩ := ih (by omega)
    exact twB_W i1 i2 (show a < tK T by omega) (fun b c hb e => hf a b c (by omega) hb e) _ (Nat.le_refl _)
theorem wy_So {U : tb} {a b p q : Nat} {o : Option Int32} (hb : b < 24) (hq : q < 24) : wy (wSo U a b o) p q = if p = a ∧ q = b then (match o with | some c => c | none => wy U p q) else wy U p q := by
  cases o with
  | none => simp [wSo]
  | some c => exact wy_S1 hb hq
theorem twB_y {U : tb} {a k p q : Nat} (hk : k ≤ 24) (hq : q < 24) : ∀ b, b ≤ k → wy (twB f U a b) p q = if p = a ∧ q < b then (match f p q with | some c => c | none => wy U p q) else wy U p q := by
  intro b
  induction b with
  | zero => intro _; simp [twB]
  | succ b ih =>
    intro hb
    show wy (wSo (twB f U a b) a b (f a b)) p q = _
    rw [wy_So (by omega) hq, ih (by omega)]
    by_cases e1 : p = a
    · subst e1
      by_cases e2 : q = b
      · subst e2
        have e3 : ¬ (p = p ∧ q < q) := by omega
        rw [if_pos ⟨rfl, rfl⟩, if_neg e3, if_pos ⟨rfl, by omega⟩]
      · rw [if_neg (by omega)]
        by_cases e3 : q < b
        · rw [if_pos ⟨rfl, e3⟩, if_pos ⟨rfl, by omega⟩]
        · rw [if_neg (by omega), if_neg (by omega)]
    · rw [if_neg (fun z => e1 z.1), if_neg (fun z => e1 z.1), if_neg (fun z => e1 z.1)]
theorem twA_y {k p q : Nat} (hk : k ≤ 24) (hq : q < k) : ∀ a, a ≤ k → wy (twA f k T a) p q = if p < a then (match f p q with | some c => c | none => wy T p q) else wy T p q := by
  intro a
  induction a with
  | zero => intro _; simp [twA]
  | succ a ih =>
    intro ha
    show wy (twB f (twA f k T a) a k) p q = _
    rw [twB_y hk (by omega) k (Nat.le_refl _), ih (by omega)]
    by_cases e1 : p = a
    · subst e1
      rw [if_pos ⟨rfl, hq⟩, if_neg (by omega), if_pos (by omega)]
    · rw [if_neg (fun z => e1 z.1)]
      by_cases e2 : p < a
      · rw [if_pos e2, if_pos (by omega)]
      · rw [if_neg e2, if_neg (by omega)]
end TF
section TFM
variable {sc : az_S} {G G1 : az_H} {m : Nat} {Vm : Nat → Int32} {Am : Nat → Nat → Int32} {nt : Nat} {Tb : Nat → tb}
theorem mT_wayG (h : mT Vm Am nt Tb) {i a b : Nat} {c : Int32} (hi : i < nt) (ha : a < tK (Tb i)) (hb : b < tK (Tb i)) (hW : tbW (wS1 (Tb i) a b c)) : mT Vm (va_up Am 6 (upd (Am 6) (576 * i + 24 * a + b) c)) nt (va_up Tb i (wS1 (Tb i) a b c)) := by
  obtain ⟨a1, a2, a3⟩ := h
  have hki := (a3 i hi).1.k24
  refine ⟨a1, a2, fun j hj => ?_⟩
  obtain ⟨b1, b2, b3, b4, b5, b6, b7⟩ := a3 j hj
  have hkj := b1.k24
  rw [up_n _ _ (show 1 ≠ 6 by omega), up_n _ _ (show 2 ≠ 6 by omega), up_n _ _ (show 3 ≠ 6 by omega), up_n _ _ (show 4 ≠ 6 by omega), up_n _ _ (show 5 ≠ 6 by omega), up_s]
  by_cases e : j = i
  · subst e
    rw [up_s]
    refine ⟨hW, b2, b3, b4, b5, fun p q hp hq hnp hnq ht => ?_, fun p q hp hq hpq => ?_⟩
    · have hp' : p < tK (Tb j) := hp
      have hq' : q < tK (Tb j) := hq
      rw [wy_S1 (by omega) (by omega)]
      unfold upd
      by_cases e2 : p = a ∧ q = b
      · rw [if_pos e2, if_pos (by omega)]
      · rw [if_neg e2, if_neg (by omega)]
        exact b6 p q hp' hq' hnp hnq ht
    · have hpq' : tK (Tb j) ≤ p ∨ tK (Tb j) ≤ q := hpq
      unfold upd
      rw [if_neg (by omega)]
      exact b7 p q hp hq hpq'
  · rw [up_n _ _ e]
    refine ⟨b1, b2, b3, b4, b5, fun p q hp hq hnp hnq ht => ?_, fun p q hp hq hpq => ?_⟩
    · unfold upd
      rw [if_neg (by omega)]
      exact b6 p q hp hq hnp hnq ht
    · unfold upd
      rw [if_neg (by omega)]
      exact b7 p q hp hq hpq
end TFM
