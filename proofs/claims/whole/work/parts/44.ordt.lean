/-! an order's table -/
def off (v : Int64) (a b : Nat) : Bool := !decide (a = b) && ob v a b
def oiB (v : Int64) (U : tb) (a : Nat) : Nat → tb
  | 0 => U
  | b + 1 => if off v a b = true then aAr (oiB v U a b) a b else oiB v U a b
def oiA (v : Int64) (n : Nat) : Nat → tb
  | 0 => tnw n n
  | a + 1 => oiB v (oiA v n a) a n
/-- what holds once the pairs before (a, b) are done -/
def oiP (v : Int64) (n a b : Nat) (U : tb) : Prop := tbW U ∧ tN U = n ∧ tC U = 0 ∧ (∀ p q, p < tK U → q < tK U → fr U p = fr U q → to U p = to U q → p = q) ∧ (∀ p, p < tK U → ob v (fr U p) (to U p) = true) ∧ (∀ p, p < tK U → fr U p = to U p ∨ (fr U p < a ∨ (fr U p = a ∧ to U p < b))) ∧ (∀ x y, x < n → y < n → (x = y ∨ (x < a ∨ (x = a ∧ y < b))) → ob v x y = true → ∃ p, p < tK U ∧ fr U p = x ∧ to U p = y)
theorem ctB_one {p : Nat → Bool} {n b : Nat} (hb : b < n) (h : p b = true) : ctB p b + 1 ≤ ctB p n := by
  induction n with
  | zero => omega
  | succ n ih =>
    rw [ctB_succ]
    by_cases e : b = n
    · subst e; rw [if_pos h]; omega
    · have := ih (by omega)
      split <;> omega
theorem smB_one {f : Nat → Nat} {n a : Nat} (ha : a < n) : smB f a + f a ≤ smB f n := by
  induction n with
  | zero => omega
  | succ n ih =>
    rw [smB]
    by_cases e : a = n
    · subst e; omega
    · have := ih (by omega)
      omega
theorem off_ct {v : Int64} {a n : Nat} (ha : a < n) (h : ob v a a = true) : ctB (ob v a) n = ctB (off v a) n + 1 := by
  have key : ∀ k, ctB (ob v a) k = ctB (off v a) k + if a < k then 1 else 0 := by
    intro k
    induction k with
    | zero => rfl
    | succ k ih =>
      rw [ctB_succ, ctB_succ, ih]
      by_cases e : a = k
      · subst e
        have e1 : off v a a = false := by simp [off]
        rw [e1, h]
        simp
      · have e1 : off v a k = ob v a k := by simp [off, e]
        rw [e1]
        by_cases h2 : a < k
        · rw [if_pos h2, if_pos (show a < k + 1 by omega)]
          omega
        · rw [if_neg h2, if_neg (show ¬ a < k + 1 by omega)]
          omega
  rw [key n, if_pos ha]
theorem off_sm {v : Int64} {n : Nat} (h : ∀ a, a < n → ob v a a = true) : nb v n = smB (fun a => ctB (off v a) n) n + n := by
  have key : ∀ k, k ≤ n → smB (fun a => ctB (ob v a) n) k = smB (fun a => ctB (off v a) n) k + k := by
    intro k
    induction k with
    | zero => intro _; rfl
    | succ k ih =>
      intro hk
      rw [smB, smB, ih (by omega), off_ct (show k < n by omega) (h k (by omega))]
      omega
  exact key n (Nat.le_refl _)
theorem oiP_0 {v : Int64} {n : Nat} (h1 : 1 ≤ n) (h6 : n ≤ 6) (h : ∀ a, a < n → ob v a a = true) : oiP v n 0 0 (tnw n n) ∧ tK (tnw n n) = n := by
  obtain ⟨g1, g2, g3, g4, g5⟩ := tnw_s n n h6
  have gw := tnw_W h1 h6
  have gi : ∀ a, a < n → fr (tnw n n) a = a ∧ to (tnw n n) a = a := fun a ha => gw.2.2.1 a (by rw [g1]; exact ha)
  refine ⟨⟨gw, g1, g3, ?_, ?_, ?_, ?_⟩, g2⟩
  · rw [g2]
    intro p q hp hq e1 e2
    rw [(gi p hp).1, (gi q hq).1] at e1
    exact e1
  · rw [g2]
    intro p hp
    rw [(gi p hp).1, (gi p hp).2]
    exact h p hp
  · rw [g2]
    intro p hp
    rw [(gi p hp).1, (gi p hp).2]
    exact Or.inl rfl
  · rw [g2]
    intro x y hx hy hxy _
    have e : x = y := by omega
    subst e
    exact ⟨x, hx, (gi x hx).1, (gi x hx).2⟩
theorem oiP_s {v : Int64} {n a b : Nat} {U : tb} (h : oiP v n a b U) (ha : a < n) (hb : b < n) (hk : off v a b = true → tK U < 24) : oiP v n a (b + 1) (if off v a b = true then aAr U a b else U) := by
  obtain ⟨h1, h2, h3, h4, h5, h6, h7⟩ := h
  have hn6 := h1.n6
  by_cases ho : off v a b = true
  · rw [if_pos ho]
    have hne : a ≠ b := by
      intro e; subst e; simp [off] at ho
    have hob : ob v a b = true := by
      simp [off] at ho; exact ho.2
    have hk := hk ho
    have fN : ∀ p, p ≠ tK U → fr (aAr U a b) p = fr U p := fun p e => by rw [fr_aA (by omega), if_neg e]
    have fK : fr (aAr U a b) (tK U) = a := by rw [fr_aA (by omega), if_pos rfl]
    have tN' : ∀ p, p ≠ tK U → to (aAr U a b) p = to U p := fun p e => by rw [to_aA (by omega), if_neg e]
    have tK' : to (aAr U a b) (tK U) = b := by rw [to_aA (by omega), if_pos rfl]
    have new : ∀ p, p < tK U → ¬ (fr U p = a ∧ to U p = b) := by
      intro p hp z
      rcases h6 p hp with w | w | w
      · exact hne (z.1.symm.trans (w.trans z.2))
      · omega
      · omega
    have eK : tK (aAr U a b) = tK U + 1 := rfl
    refine ⟨aAr_W h1 (by omega) (by omega) hk, h2, h3, ?_, ?_, ?_, ?_⟩
    · rw [eK]
      intro p q hp hq e1 e2
      by_cases ep : p = tK U
      · by_cases eq : q = tK U
        · omega
        · rw [ep, fK, fN q eq] at e1
          rw [ep, tK', tN' q eq] at e2
          exact absurd ⟨e1.symm, e2.symm⟩ (new q (by omega))
      · by_cases eq : q = tK U
        · rw [eq, fK, fN p ep] at e1
          rw [eq, tK', tN' p ep] at e2
          exact absurd ⟨e1, e2⟩ (new p (by omega))
        · rw [fN p ep, fN q eq] at e1
          rw [tN' p ep, tN' q eq] at e2
          exact h4 p q (by omega) (by omega) e1 e2
    · rw [eK]
      intro p hp
      by_cases ep : p = tK U
      · rw [ep, fK, tK']; exact hob
      · rw [fN p ep, tN' p ep]; exact h5 p (by omega)
    · rw [eK]
      intro p hp
      by_cases ep : p = tK U
      · rw [ep, fK, tK']; omega
      · rw [fN p ep, tN' p ep]
        have := h6 p (by omega)
        omega
    · rw [eK]
      intro x y hx hy hxy hxo
      by_cases e : x = a ∧ y = b
      · obtain ⟨rfl, rfl⟩ := e
        exact ⟨tK U, by omega, fK, tK'⟩
      · obtain ⟨p, p1, p2, p3⟩ := h7 x y hx hy (by omega) hxo
        exact ⟨p, by omega, by rw [fN p (by omega)]; exact p2, by rw [tN' p (by omega)]; exact p3⟩
  · rw [if_neg ho]
    refine ⟨h1, h2, h3, h4, h5, fun p hp => ?_, fun x y hx hy hxy hxo => ?_⟩
    · have := h6 p hp
      omega
    · by_cases e : x = a ∧ y = b
      · obtain ⟨rfl, rfl⟩ := e
        have e2 : x = y := by
          by_cases e3 : x = y
          · exact e3
          · exact absurd (by simp [off, e3, hxo]) ho
        exact h7 x y hx hy (Or.inl e2) hxo
      · exact h7 x y hx hy (by omega) hxo
theorem oiB_k (v : Int64) (U : tb) (a : Nat) : ∀ b, tK (oiB v U a b) = tK U + ctB (off v a) b := by
  intro b
  induction b with
  | zero => rfl
  | succ b ih =>
    rw [ctB_succ]
    show tK (if off v a b = true then aAr (oiB v U a b) a b else oiB v U a b) = _
    by_cases h : off v a b = true
    · rw [if_pos h, if_pos h]
      show tK (oiB v U a b) + 1 = _
      rw [ih]
      omega
    · rw [if_neg h, if_neg h, ih]
      omega
theorem oiA_k (v : Int64) {n : Nat} (h6 : n ≤ 6) : ∀ a, tK (oiA v n a) = n + smB (fun a => ctB (off v a) n) a := by
  intro a
  induction a with
  | zero => exact (tnw_s n n h6).2.1
  | succ a ih =>
    show tK (oiB v (oiA v n a) a n) = _
    rw [oiB_k, ih, smB]
    omega
section OIP
variable {v : Int64} {n : Nat}
/-- room for the next arrow -/
theorem oi_room (h6 : n ≤ 6) (hd : ∀ a, a < n → ob v a a = true) (h24 : nb v n ≤ 24) {a b : Nat} (ha : a < n) (hb : b < n) (ho : off v a b = true) : tK (oiB v (oiA v n a) a b) < 24 := by
  rw [oiB_k, oiA_k v h6]
  rw [off_sm hd] at h24
  have h1 := ctB_one hb ho
  have h2 := smB_one (f := fun a => ctB (off v a) n) ha
  omega
theorem oiB_P (h6 : n ≤ 6) (hd : ∀ a, a < n → ob v a a = true) (h24 : nb v n ≤ 24) {a : Nat} (ha : a < n) (h : oiP v n a 0 (oiA v n a)) : ∀ b, b ≤ n → oiP v n a b (oiB v (oiA v n a) a b) := by
  intro b
  induction b with
  | zero => intro _; exact h
  | succ b ih =>
    intro hb
    exact oiP_s (ih (by omega)) ha (by omega) (fun ho => oi_room h6 hd h24 ha (by omega) ho)
theorem oiA_P (h1 : 1 ≤ n) (h6 : n ≤ 6) (hd : ∀ a, a < n → ob v a a = true) (h24 : nb v n ≤ 24) : ∀ a, a ≤ n → oiP v n a 0 (oiA v n a) := by
  intro a
  induction a with
  | zero => intro _; exact (oiP_0 h1 h6 hd).1
  | succ a ih =>
    intro ha
    obtain ⟨g1, g2, g3, g4, g5, g6, g7⟩ := oiB_P h6 hd h24 (show a < n by omega) (ih (by omega)) n (Nat.le_refl _)
    show oiP v n (a + 1) 0 (oiB v (oiA v n a) a n)
    refine ⟨g1, g2, g3, g4, g5, fun p hp => ?_, fun x y hx hy hxy hxo => ?_⟩
    · have := g6 p hp
      omega
    · exact g7 x y hx hy (by omega) hxo
end OIP
/-- the ways -/
def fbt (U : tb) (x y : Nat) : Option Nat := fdB (fun p => decide (fr U p = x) && decide (to U p = y)) (tK U)
def oif (U : tb) (a b : Nat) : Option Int32 := if to U a = fr U b then some (match fbt U (fr U a) (to U b) with | some c => nI c | none => -1) else none
def oiF (v : Int64) (n : Nat) : tb := tCl (twA (oif (oiA v n n)) (tK (oiA v n n)) (oiA v n n) (tK (oiA v n n)))
theorem ng1_d {v : Int64} {n : Nat} (h : ¬ ng1 v n = true) : ∀ a, a < n → ob v a a = true ∧ ∀ b c, b < n → c < n → ob v a b = true → ob v b c = true → ob v a c = true := by
  intro a ha
  have h1 : (!ob v a a || ng2 v n a) = false := by
    cases e : (!ob v a a || ng2 v n a) with
    | false => rfl
    | true => exact absurd (exB_iff.mpr ⟨a, ha, e⟩) h
  have h2 : ob v a a = true ∧ ng2 v n a = false := by simpa using h1
  refine ⟨h2.1, fun b c hb hc hab hbc => ?_⟩
  cases e : ob v a c with
  | true => rfl
  | false =>
    have h3 : ng3 v n a b = true := exB_iff.mpr ⟨c, hc, by simp [hbc, e]⟩
    have h4 : ng2 v n a = true := exB_iff.mpr ⟨b, hb, by simp [hab, h3]⟩
    rw [h2.2] at h4
    exact absurd h4 (by decide)
theorem fbt_s {v : Int64} {n : Nat} (hg : ¬ ng1 v n = true) {U : tb} (h : oiP v n n 0 U) {a b : Nat} (ha : a < tK U) (hb : b < tK U) (e : to U a = fr U b) : ∃ c, fbt U (fr U a) (to U b) = some c ∧ c < tK U ∧ fr U c = fr U a ∧ to U c = to U b := by
  obtain ⟨h1, h2, h3, h4, h5, h6, h7⟩ := h
  have f1 := h1.frn ha
  have f2 := h1.ton hb
  have f3 := h1.ton ha
  rw [h2] at f1 f2 f3
  have hob : ob v (fr U a) (to U b) = true := (ng1_d hg _ f1).2 (to U a) _ f3 f2 (h5 a ha) (by rw [e]; exact h5 b hb)
  obtain ⟨p, p1, p2, p3⟩ := h7 _ _ f1 f2 (by omega) hob
  cases hf : fbt U (fr U a) (to U b) with
  | some c =>
    obtain ⟨c1, c2, c3⟩ := fdB_some hf
    have c4 : fr U c = fr U a ∧ to U c = to U b := by simpa using c2
    exact ⟨c, rfl, c1, c4.1, c4.2⟩
  | none =>
    have := fdB_none hf p p1
    simp [p2, p3] at this
theorem oif_gd {v : Int64} {n : Nat} (hg : ¬ ng1 v n = true) {U : tb} (h : oiP v n n 0 U) : ∀ a b c, a < tK U → b < tK U → oif U a b = some c → gdW U a b c := by
  intro a b c ha hb hc
  unfold oif at hc
  by_cases e : to U a = fr U b
  · rw [if_pos e] at hc
    obtain ⟨d, d1, d2, d3, d4⟩ := fbt_s hg h ha hb e
    rw [d1] at hc
    cases hc
    obtain ⟨h1, h2, h3, h4, -⟩ := h
    refine ⟨fun z => absurd e z, fun _ hn => ?_, fun _ hn => ?_, fun _ => Or.inr ⟨d, d2, rfl, d3, d4⟩⟩
    · have hid := h1.2.2.1 a hn
      have : d = b := h4 d b d2 hb (by rw [d3, hid.1, ← hid.2, e]) d4
      rw [this]
    · have hid := h1.2.2.1 b hn
      have : d = a := h4 d a d2 ha d3 (by rw [d4, hid.2, ← hid.1, e])
      rw [this]
  · rw [if_neg e] at hc
    cases hc
theorem oiF_W {v : Int64} {n : Nat} (h1 : 1 ≤ n) (h6 : n ≤ 6) (hg : ¬ ng1 v n = true) (h24 : nb v n ≤ 24) : tbW (oiF v n) ∧ tld (oiF v n) := by
  have hP := oiA_P h1 h6 (fun a ha => (ng1_d hg a ha).1) h24 n (Nat.le_refl _)
  have hk := hP.1.k24
  obtain ⟨hs, hW⟩ := twA_W hP.1 (oif_gd hg hP) (tK (oiA v n n)) (Nat.le_refl _)
  refine ⟨tCl_W hW, tCl_t (fun a b ha hb hab => ?_)⟩
  rw [hs.2.1] at ha hb
  rw [shp_to hs, shp_fr hs] at hab
  obtain ⟨d, d1, d2, d3, d4⟩ := fbt_s hg hP ha hb hab
  refine ⟨d, by rw [hs.2.1]; exact d2, ?_, ?_, ?_⟩
  · rw [twA_y hk hb _ (Nat.le_refl _), if_pos ha]
    unfold oif
    rw [if_pos hab, d1]
  · rw [shp_fr hs, shp_fr hs]; exact d3
  · rw [shp_to hs, shp_to hs]; exact d4
