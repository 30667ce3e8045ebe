/-! what holds of a table with a way set, with an arrow added -/
theorem ix24 {a b c d : Nat} (hb : b < 24) (hd : d < 24) : 24 * a + b = 24 * c + d ↔ a = c ∧ b = d := by omega
theorem wy_S1 {T : tb} {a b p q : Nat} {c : Int32} (hb : b < 24) (hq : q < 24) : wy (wS1 T a b c) p q = if p = a ∧ q = b then c else wy T p q := by
  show upd (tW T) (24 * a + b) c (24 * p + q) = _
  unfold upd
  by_cases e : p = a ∧ q = b
  · rw [if_pos e, if_pos (by omega)]
  · rw [if_neg e, if_neg (fun z => e ((ix24 hq hb).mp z))]
    rfl
theorem wS1_W {T : tb} (h : tbW T) {a b c : Nat} (ha : a < tK T) (hb : b < tK T) (hc : c < tK T) (hna : tN T ≤ a) (hnb : tN T ≤ b) (e : to T a = fr T b) (e1 : fr T c = fr T a) (e2 : to T c = to T b) : tbW (wS1 T a b (nI c)) := by
  obtain ⟨h1, h2, h3, h4, h5⟩ := h
  have hk : tK T ≤ 24 := h1.2.2.2.1
  refine ⟨h1, h2, h3, fun p q hp hq => ?_, fun p q hp hq hpq => ?_⟩
  · have hp' : p < tK T := hp
    have hq' : q < tK T := hq
    have h6 := h4 p q hp' hq'
    rw [wy_S1 (by omega) (by omega)]
    by_cases e3 : p = a ∧ q = b
    · obtain ⟨rfl, rfl⟩ := e3
      rw [if_pos ⟨rfl, rfl⟩]
      refine ⟨fun z => absurd e z, fun _ z => ?_, fun _ z => ?_, fun _ => Or.inr ⟨c, hc, rfl, e1, e2⟩⟩
      · have z' : p < tN T := z
        omega
      · have z' : q < tN T := z
        omega
    · rw [if_neg e3]
      exact h6
  · rw [wy_S1 (by omega) hq, if_neg, h5 p q hp hq hpq]
    have hpq' : tK T ≤ p ∨ tK T ≤ q := hpq
    omega
theorem fr_aA {T : tb} {x y a : Nat} (hx : x < 2 ^ 31) : fr (aAr T x y) a = if a = tK T then x else fr T a := by
  show (upd (tF T) (tK T) (nI x) a).toNatClampNeg = _
  unfold upd
  by_cases e : a = tK T
  · rw [if_pos e, if_pos e, nI_clamp hx]
  · rw [if_neg e, if_neg e]; rfl
theorem to_aA {T : tb} {x y a : Nat} (hy : y < 2 ^ 31) : to (aAr T x y) a = if a = tK T then y else to T a := by
  show (upd (tG T) (tK T) (nI y) a).toNatClampNeg = _
  unfold upd
  by_cases e : a = tK T
  · rw [if_pos e, if_pos e, nI_clamp hy]
  · rw [if_neg e, if_neg e]; rfl
theorem wy_aA {T : tb} {x y p q : Nat} (hk : tK T < 24) (hy : y < 24) (hq : q < 24) : wy (aAr T x y) p q = if p = tK T ∧ q = y then nI (tK T) else if p = x ∧ q = tK T then nI (tK T) else wy T p q := by
  show wy (wS1 (wS1 (aA0 T x y) x (tK T) (nI (tK T))) (tK T) y (nI (tK T))) p q = _
  rw [wy_S1 hy hq, wy_S1 hk hq]
  rfl
theorem aAr_W {T : tb} (h : tbW T) {x y : Nat} (hx : x < tN T) (hy : y < tN T) (hk : tK T < 24) : tbW (aAr T x y) := by
  obtain ⟨⟨g1, g2, g3, g4, g5⟩, h2, h3, h4, h5⟩ := h
  have fN : ∀ a, a ≠ tK T → fr (aAr T x y) a = fr T a := fun a e => by rw [fr_aA (by omega), if_neg e]
  have fK : fr (aAr T x y) (tK T) = x := by rw [fr_aA (by omega), if_pos rfl]
  have tN' : ∀ a, a ≠ tK T → to (aAr T x y) a = to T a := fun a e => by rw [to_aA (by omega), if_neg e]
  have tK' : to (aAr T x y) (tK T) = y := by rw [to_aA (by omega), if_pos rfl]
  refine ⟨⟨g1, g2, Nat.le_succ_of_le g3, hk, g5⟩, fun a ha => ?_, fun a ha => ?_, fun p q hp hq => ?_, fun p q hp hq hpq => ?_⟩
  · have ha' : a < tK T + 1 := ha
    show upd (tF T) (tK T) (nI x) a = nI (fr (aAr T x y) a) ∧ fr (aAr T x y) a < tN T ∧ upd (tG T) (tK T) (nI y) a = nI (to (aAr T x y) a) ∧ to (aAr T x y) a < tN T
    by_cases e : a = tK T
    · subst e
      rw [fK, tK']
      unfold upd
      rw [if_pos rfl, if_pos rfl]
      exact ⟨rfl, hx, rfl, hy⟩
    · rw [fN a e, tN' a e]
      unfold upd
      rw [if_neg e, if_neg e]
      exact h2 a (by omega)
  · have ha' : a < tN T := ha
    rw [fN a (by omega), tN' a (by omega)]
    exact h3 a ha'
  · have hp' : p < tK T + 1 := hp
    have hq' : q < tK T + 1 := hq
    rw [wy_aA hk (by omega) (by omega)]
    show (to (aAr T x y) p ≠ fr (aAr T x y) q → _) ∧ (to (aAr T x y) p = fr (aAr T x y) q → p < tN T → _) ∧ (to (aAr T x y) p = fr (aAr T x y) q → q < tN T → _) ∧ (to (aAr T x y) p = fr (aAr T x y) q → _ ∨ ∃ c, c < tK T + 1 ∧ _)
    by_cases ep : p = tK T
    · subst ep
      rw [tK']
      by_cases eq : q = tK T
      · subst eq
        rw [fK]
        have hb := h5 (tK T) (tK T) hk hk (Or.inl (Nat.le_refl _))
        rw [if_neg (by omega), if_neg (by omega), hb]
        exact ⟨fun _ => rfl, fun _ z => absurd z (by omega), fun _ z => absurd z (by omega), fun _ => Or.inl rfl⟩
      · rw [fN q eq]
        have hb := h5 (tK T) q hk (by omega) (Or.inl (Nat.le_refl _))
        have hqk : q < tK T := by omega
        by_cases ey : q = y
        · subst ey
          have hid := h3 q hy
          rw [if_pos ⟨rfl, rfl⟩]
          exact ⟨fun z => absurd hid.1.symm z, fun _ z => absurd z (by omega), fun _ _ => rfl, fun _ => Or.inr ⟨tK T, by omega, rfl, rfl, by rw [tK', tN' q eq, hid.2]⟩⟩
        · rw [if_neg (fun z => ey z.2), if_neg (by omega), hb]
          refine ⟨fun _ => rfl, fun _ z => absurd z (by omega), fun z1 z2 => ?_, fun _ => Or.inl rfl⟩
          have hid := h3 q z2
          exact absurd (hid.1.symm.trans z1.symm) ey
    · rw [tN' p ep]
      have hpk : p < tK T := by omega
      by_cases eq : q = tK T
      · subst eq
        rw [fK, if_neg (fun z => ep z.1)]
        have hb := h5 p (tK T) (by omega) hk (Or.inr (Nat.le_refl _))
        by_cases ex : p = x
        · subst ex
          have hid := h3 p hx
          rw [if_pos ⟨rfl, rfl⟩]
          exact ⟨fun z => absurd hid.2 z, fun _ _ => rfl, fun _ z => absurd z (by omega), fun _ => Or.inr ⟨tK T, by omega, rfl, by rw [fK, fN p ep, hid.1], rfl⟩⟩
        · rw [if_neg (fun z => ex z.1), hb]
          refine ⟨fun _ => rfl, fun z1 z2 => ?_, fun _ z => absurd z (by omega), fun _ => Or.inl rfl⟩
          have hid := h3 p z2
          exact absurd (hid.2.symm.trans z1) ex
      · rw [fN q eq, if_neg (fun z => ep z.1), if_neg (fun z => eq z.2)]
        obtain ⟨w1, w2, w3, w4⟩ := h4 p q hpk (by omega)
        refine ⟨w1, w2, w3, fun z => ?_⟩
        rcases w4 z with w | ⟨c, c1, c2, c3, c4⟩
        · exact Or.inl w
        · refine Or.inr ⟨c, by omega, c2, ?_, ?_⟩
          · rw [fN c (by omega), fN p ep]; exact c3
          · rw [tN' c (by omega), tN' q eq]; exact c4
  · have hpq' : tK T + 1 ≤ p ∨ tK T + 1 ≤ q := hpq
    rw [wy_aA hk (by omega) hq, if_neg (by omega), if_neg (by omega)]
    exact h5 p q hp hq (by omega)
