/-! OPERATION beside: the table -/
def ePp (T U : tb) (c : Nat) : Nat := bp (tN T) (tN U) (tK U) c
def eQq (T U : tb) (c : Nat) : Nat := bq (tN T) (tN U) (tK U) c
def eMm (T U : tb) (a b : Nat) : Nat := bnb (tN T) (tN U) (tK U) a b
def beA (T U : tb) : Nat → tb
  | 0 => tnw (tN T * tN U) (tN T * tN U)
  | d + 1 => aAr (beA T U d) (fr T (ePp T U (tN T * tN U + d)) * tN U + fr U (eQq T U (tN T * tN U + d))) (to T (ePp T U (tN T * tN U + d)) * tN U + to U (eQq T U (tN T * tN U + d)))
def wn (T : tb) (a b : Nat) : Nat := (wy T a b).toNatClampNeg
theorem wn_t {T : tb} (hw : tbW T) (ht : tld T) {a b : Nat} (ha : a < tK T) (hb : b < tK T) (e : to T a = fr T b) : wy T a b = nI (wn T a b) ∧ wn T a b < tK T ∧ fr T (wn T a b) = fr T a ∧ to T (wn T a b) = to T b := by
  obtain ⟨c, c1, c2, c3, c4⟩ := ht a b ha hb e
  have hk := hw.k24
  have e1 : wn T a b = c := by
    unfold wn
    rw [c2, nI_clamp (by omega)]
  rw [e1]
  exact ⟨c2, c1, c3, c4⟩
theorem wn_l {T : tb} (hw : tbW T) {a b : Nat} (ha : a < tK T) (hb : b < tK T) (e : to T a = fr T b) (hn : a < tN T) : wn T a b = b := by
  have hk := hw.k24
  have h := (hw.2.2.2.1 a b ha hb).2.1 e hn
  unfold wn
  rw [h, nI_clamp (by omega)]
theorem wn_r {T : tb} (hw : tbW T) {a b : Nat} (ha : a < tK T) (hb : b < tK T) (e : to T a = fr T b) (hn : b < tN T) : wn T a b = a := by
  have hk := hw.k24
  have h := (hw.2.2.2.1 a b ha hb).2.2.1 e hn
  unfold wn
  rw [h, nI_clamp (by omega)]
def bev (T U : tb) (x y : Nat) : Nat := eMm T U (wn T (ePp T U x) (ePp T U y)) (wn U (eQq T U x) (eQq T U y))
def bef (T U : tb) (x y : Nat) : Option Int32 := if to T (ePp T U x) = fr T (ePp T U y) ∧ to U (eQq T U x) = fr U (eQq T U y) then some (nI (bev T U x y)) else none
def beF (T U : tb) : tb := tCl (twA (bef T U) (tK T * tK U) (beA T U (tK T * tK U - tN T * tN U)) (tK T * tK U))
theorem be_pr {a b c d m : Nat} (hb : b < m) (hd : d < m) (h : a * m + b = c * m + d) : a = c ∧ b = d := by
  have h1 := be_dm (a := a) hb
  have h2 := be_dm (a := c) hd
  rw [h] at h1
  exact ⟨h1.1.symm.trans h2.1, h1.2.symm.trans h2.2⟩
section BEF
variable {T U : tb}
theorem be_pq (hT : tbW T) (hU : tbW U) {c : Nat} (hc : c < tK T * tK U) : ePp T U c < tK T ∧ eQq T U c < tK U ∧ eMm T U (ePp T U c) (eQq T U c) = c := nb_bp hT.nk hU.nk hc
theorem be_nk (hT : tbW T) (hU : tbW U) : tN T * tN U ≤ tK T * tK U := Nat.mul_le_mul hT.nk hU.nk
theorem be_n1 (hT : tbW T) (hU : tbW U) : 1 ≤ tN T * tN U := Nat.mul_le_mul hT.n1 hU.n1
theorem beA_s (hT : tbW T) (hU : tbW U) (h6 : tN T * tN U ≤ 6) (h24 : tK T * tK U ≤ 24) : ∀ d, tN T * tN U + d ≤ tK T * tK U → tbW (beA T U d) ∧ tN (beA T U d) = tN T * tN U ∧ tK (beA T U d) = tN T * tN U + d ∧ tC (beA T U d) = 0 ∧ ∀ c, c < tN T * tN U + d → fr (beA T U d) c = fr T (ePp T U c) * tN U + fr U (eQq T U c) ∧ to (beA T U d) c = to T (ePp T U c) * tN U + to U (eQq T U c) := by
  intro d
  induction d with
  | zero =>
    intro _
    obtain ⟨g1, g2, g3, g4, g5⟩ := tnw_s (tN T * tN U) (tN T * tN U) h6
    have gw := tnw_W (be_n1 hT hU) h6
    refine ⟨gw, g1, g2, g3, fun c hc => ?_⟩
    have hc' : c < tN T * tN U := hc
    have e1 := gw.2.2.1 c (by rw [g1]; exact hc')
    obtain ⟨f1, f2, f3⟩ := bp_sm (l := tK U) hc'
    have e2 := hT.2.2.1 (ePp T U c) f1
    have e3 := hU.2.2.1 (eQq T U c) f2
    rw [e2.1, e2.2, e3.1, e3.2]
    exact ⟨e1.1.trans f3.symm, e1.2.trans f3.symm⟩
  | succ d ih =>
    intro hd
    obtain ⟨i1, i2, i3, i4, i5⟩ := ih (by omega)
    obtain ⟨p1, p2, p3⟩ := be_pq hT hU (show tN T * tN U + d < tK T * tK U by omega)
    have f1 := be_lt (hT.frn p1) (hU.frn p2)
    have f2 := be_lt (hT.ton p1) (hU.ton p2)
    refine ⟨aAr_W i1 (by rw [i2]; exact f1) (by rw [i2]; exact f2) (by omega), i2, congrArg (· + 1) i3, i4, fun a ha => ?_⟩
    show fr (aAr (beA T U d) _ _) a = _ ∧ to (aAr (beA T U d) _ _) a = _
    rw [fr_aA (by omega), to_aA (by omega), i3]
    by_cases e : a = tN T * tN U + d
    · rw [if_pos e, if_pos e, e]; exact ⟨rfl, rfl⟩
    · rw [if_neg e, if_neg e]; exact i5 a (by omega)
section BEG
variable {B : tb}
theorem beB_s (hT : tbW T) (hU : tbW U) (h6 : tN T * tN U ≤ 6) (h24 : tK T * tK U ≤ 24) (hB : beA T U (tK T * tK U - tN T * tN U) = B) : tbW B ∧ tN B = tN T * tN U ∧ tK B = tK T * tK U ∧ tC B = 0 ∧ ∀ c, c < tK T * tK U → fr B c = fr T (ePp T U c) * tN U + fr U (eQq T U c) ∧ to B c = to T (ePp T U c) * tN U + to U (eQq T U c) := by
  have hnk := be_nk hT hU
  have h := beA_s hT hU h6 h24 (tK T * tK U - tN T * tN U) (by omega)
  rw [Nat.add_sub_cancel' hnk, hB] at h
  exact h
theorem be_cmp (hT : tbW T) (hU : tbW U) (h6 : tN T * tN U ≤ 6) (h24 : tK T * tK U ≤ 24) (hB : beA T U (tK T * tK U - tN T * tN U) = B) {x y : Nat} (hx : x < tK T * tK U) (hy : y < tK T * tK U) : (to B x = fr B y) = (to T (ePp T U x) = fr T (ePp T U y) ∧ to U (eQq T U x) = fr U (eQq T U y)) := by
  obtain ⟨i1, i2, i3, i4, i5⟩ := beB_s hT hU h6 h24 hB
  obtain ⟨x1, x2, x3⟩ := be_pq hT hU hx
  obtain ⟨y1, y2, y3⟩ := be_pq hT hU hy
  rw [(i5 x hx).2, (i5 y hy).1]
  refine propext ⟨fun h => be_pr (hU.ton x2) (hU.frn y2) h, fun h => ?_⟩
  rw [h.1, h.2]
theorem bev_t (hT : tbW T) (hU : tbW U) (h6 : tN T * tN U ≤ 6) (h24 : tK T * tK U ≤ 24) (hB : beA T U (tK T * tK U - tN T * tN U) = B) (tT : tld T) (tU : tld U) {x y : Nat} (hx : x < tK T * tK U) (hy : y < tK T * tK U) (h : to T (ePp T U x) = fr T (ePp T U y) ∧ to U (eQq T U x) = fr U (eQq T U y)) : bev T U x y < tK T * tK U ∧ ePp T U (bev T U x y) = wn T (ePp T U x) (ePp T U y) ∧ eQq T U (bev T U x y) = wn U (eQq T U x) (eQq T U y) ∧ fr B (bev T U x y) = fr B x ∧ to B (bev T U x y) = to B y := by
  obtain ⟨i1, i2, i3, i4, i5⟩ := beB_s hT hU h6 h24 hB
  obtain ⟨x1, x2, x3⟩ := be_pq hT hU hx
  obtain ⟨y1, y2, y3⟩ := be_pq hT hU hy
  obtain ⟨a1, a2, a3, a4⟩ := wn_t hT tT x1 y1 h.1
  obtain ⟨b1, b2, b3, b4⟩ := wn_t hU tU x2 y2 h.2
  have hl : bev T U x y < tK T * tK U := bnb_lt hT.nk hU.nk a2 b2
  have hp : ePp T U (bev T U x y) = wn T (ePp T U x) (ePp T U y) ∧ eQq T U (bev T U x y) = wn U (eQq T U x) (eQq T U y) := bp_nb hU.nk b2
  refine ⟨hl, hp.1, hp.2, ?_, ?_⟩
  · rw [(i5 _ hl).1, hp.1, hp.2, a3, b3, (i5 x hx).1]
  · rw [(i5 _ hl).2, hp.1, hp.2, a4, b4, (i5 y hy).2]
theorem bef_gd (hT : tbW T) (hU : tbW U) (h6 : tN T * tN U ≤ 6) (h24 : tK T * tK U ≤ 24) (hB : beA T U (tK T * tK U - tN T * tN U) = B) (tT : tld T) (tU : tld U) : ∀ a b c, a < tK B → b < tK B → bef T U a b = some c → gdW B a b c := by
  obtain ⟨i1, i2, i3, i4, i5⟩ := beB_s hT hU h6 h24 hB
  intro a b c ha hb hc
  rw [i3] at ha hb
  unfold bef at hc
  by_cases e : to T (ePp T U a) = fr T (ePp T U b) ∧ to U (eQq T U a) = fr U (eQq T U b)
  · rw [if_pos e] at hc
    cases hc
    obtain ⟨v1, v2, v3, v4, v5⟩ := bev_t hT hU h6 h24 hB tT tU ha hb e
    obtain ⟨x1, x2, x3⟩ := be_pq hT hU ha
    obtain ⟨y1, y2, y3⟩ := be_pq hT hU hb
    have ec : to B a = fr B b := by rw [be_cmp hT hU h6 h24 hB ha hb]; exact e
    refine ⟨fun z => absurd ec z, fun _ hn => ?_, fun _ hn => ?_, fun _ => Or.inr ⟨_, by rw [i3]; exact v1, rfl, v4, v5⟩⟩
    · rw [i2] at hn
      obtain ⟨f1, f2, f3⟩ := bp_sm (l := tK U) hn
      have e1 : bev T U a b = b := by
        unfold bev
        rw [wn_l hT x1 y1 e.1 f1, wn_l hU x2 y2 e.2 f2]
        exact y3
      rw [e1]
    · rw [i2] at hn
      obtain ⟨f1, f2, f3⟩ := bp_sm (l := tK U) hn
      have e1 : bev T U a b = a := by
        unfold bev
        rw [wn_r hT x1 y1 e.1 f1, wn_r hU x2 y2 e.2 f2]
        exact x3
      rw [e1]
  · rw [if_neg e] at hc
    cases hc
theorem beW_s (hT : tbW T) (hU : tbW U) (h6 : tN T * tN U ≤ 6) (h24 : tK T * tK U ≤ 24) (hB : beA T U (tK T * tK U - tN T * tN U) = B) (tT : tld T) (tU : tld U) : ∀ a, a ≤ tK T * tK U → shp B (twA (bef T U) (tK T * tK U) B a) ∧ tbW (twA (bef T U) (tK T * tK U) B a) := by
  obtain ⟨i1, i2, i3, i4, i5⟩ := beB_s hT hU h6 h24 hB
  have h := twA_W i1 (bef_gd hT hU h6 h24 hB tT tU)
  rw [i3] at h
  exact h
theorem beF_W (hT : tbW T) (hU : tbW U) (h6 : tN T * tN U ≤ 6) (h24 : tK T * tK U ≤ 24) (hB : beA T U (tK T * tK U - tN T * tN U) = B) (tT : tld T) (tU : tld U) : tbW (beF T U) ∧ tld (beF T U) := by
  obtain ⟨i1, i2, i3, i4, i5⟩ := beB_s hT hU h6 h24 hB
  obtain ⟨hs, hW⟩ := beW_s hT hU h6 h24 hB tT tU (tK T * tK U) (Nat.le_refl _)
  unfold beF
  rw [hB]
  refine ⟨tCl_W hW, tCl_t (fun a b ha hb hab => ?_)⟩
  rw [hs.2.1, i3] at ha hb
  rw [shp_to hs, shp_fr hs, be_cmp hT hU h6 h24 hB ha hb] at hab
  obtain ⟨v1, v2, v3, v4, v5⟩ := bev_t hT hU h6 h24 hB tT tU ha hb hab
  refine ⟨bev T U a b, by rw [hs.2.1, i3]; exact v1, ?_, ?_, ?_⟩
  · rw [twA_y h24 hb _ (Nat.le_refl _), if_pos ha]
    unfold bef
    rw [if_pos hab]
  · rw [shp_fr hs, shp_fr hs]; exact v4
  · rw [shp_to hs, shp_to hs]; exact v5
end BEG
end BEF
/-! a row told in another order -/
def wT (B : tb) (f : Nat → Int32) : tb := (tN B, tK B, tC B, tF B, tG B, f)
theorem twB_j {f : Nat → Nat → Option Int32} {U : tb} {a k j : Nat} (hk : k ≤ 24) : ∀ b, b ≤ k → tW (twB f U a b) j = if j / 24 = a ∧ j % 24 < b then (match f a (j % 24) with | some c => c | none => tW U j) else tW U j := by
  intro b
  induction b with
  | zero => intro _; simp [twB]
  | succ b ih =>
    intro hb
    have ih := ih (by omega)
    show tW (wSo (twB f U a b) a b (f a b)) j = _
    by_cases e1 : j / 24 = a ∧ j % 24 = b
    · have e3 : ¬ (j / 24 = a ∧ j % 24 < b) := by omega
      rw [if_neg e3] at ih
      rw [if_pos (show j / 24 = a ∧ j % 24 < b + 1 by omega), e1.2]
      cases e4 : f a b with
      | none => exact ih
      | some c => exact if_pos (by omega)
    · have e5 : tW (wSo (twB f U a b) a b (f a b)) j = tW (twB f U a b) j := by
        cases f a b with
        | none => rfl
        | some c => exact if_neg (by omega)
      rw [e5, ih]
      by_cases e6 : j / 24 = a ∧ j % 24 < b
      · rw [if_pos e6, if_pos (show j / 24 = a ∧ j % 24 < b + 1 by omega)]
      · rw [if_neg e6, if_neg (show ¬ (j / 24 = a ∧ j % 24 < b + 1) by omega)]
theorem twA_j {f : Nat → Nat → Option Int32} {T : tb} {k j : Nat} (hk : k ≤ 24) : ∀ a, a ≤ k → tW (twA f k T a) j = if j / 24 < a ∧ j % 24 < k then (match f (j / 24) (j % 24) with | some c => c | none => tW T j) else tW T j := by
  intro a
  induction a with
  | zero => intro _; simp [twA]
  | succ a ih =>
    intro ha
    have ih := ih (by omega)
    show tW (twB f (twA f k T a) a k) j = _
    rw [twB_j hk k (Nat.le_refl _)]
    by_cases e1 : j / 24 = a ∧ j % 24 < k
    · have e3 : ¬ (j / 24 < a ∧ j % 24 < k) := by omega
      rw [if_neg e3] at ih
      rw [if_pos e1, if_pos (show j / 24 < a + 1 ∧ j % 24 < k by omega), ih, e1.1]
    · rw [if_neg e1, ih]
      by_cases e6 : j / 24 < a ∧ j % 24 < k
      · rw [if_pos e6, if_pos (show j / 24 < a + 1 ∧ j % 24 < k by omega)]
      · rw [if_neg e6, if_neg (show ¬ (j / 24 < a + 1 ∧ j % 24 < k) by omega)]
def beC (T U : tb) (x y : Nat) : Prop := x < tK T * tK U ∧ y < tK T * tK U ∧ to T (ePp T U x) = fr T (ePp T U y) ∧ to U (eQq T U x) = fr U (eQq T U y)
def beD (T U : tb) (a b c d x y : Nat) : Prop := beC T U x y ∧ (ePp T U x < a ∨ ePp T U x = a ∧ (ePp T U y < b ∨ ePp T U y = b ∧ (eQq T U x < c ∨ eQq T U x = c ∧ eQq T U y < d)))
def bePr (T U B : tb) (D : Nat → Nat → Prop) (f : Nat → Int32) : Prop := ∀ j, (D (j / 24) (j % 24) → f j = nI (bev T U (j / 24) (j % 24))) ∧ (¬ D (j / 24) (j % 24) → f j = tW B j)
theorem bePr_c {T U B : tb} {D D' : Nat → Nat → Prop} {f : Nat → Int32} (h : bePr T U B D f) (e : ∀ x y, D x y ↔ D' x y) : bePr T U B D' f := fun j =>
  ⟨fun z => (h j).1 ((e _ _).mpr z), fun z => (h j).2 (fun w => z ((e _ _).mp w))⟩
theorem bePr_s {T U B : tb} {D D' : Nat → Nat → Prop} {f : Nat → Int32} {x0 y0 : Nat} (h : bePr T U B D f) (hy : y0 < 24) (e : ∀ x y, D' x y ↔ D x y ∨ (x = x0 ∧ y = y0)) : bePr T U B D' (upd f (24 * x0 + y0) (nI (bev T U x0 y0))) := by
  intro j
  by_cases ej : j = 24 * x0 + y0
  · have e1 : j / 24 = x0 := by omega
    have e2 : j % 24 = y0 := by omega
    rw [e1, e2]
    refine ⟨fun _ => if_pos ej, fun z => absurd ((e x0 y0).mpr (Or.inr ⟨rfl, rfl⟩)) z⟩
  · have e1 : ¬ (j / 24 = x0 ∧ j % 24 = y0) := by omega
    have e2 : upd f (24 * x0 + y0) (nI (bev T U x0 y0)) j = f j := if_neg ej
    rw [e2]
    refine ⟨fun z => (h j).1 (((e _ _).mp z).resolve_right e1), fun z => (h j).2 (fun w => z ((e _ _).mpr (Or.inl w)))⟩
theorem bePr_0 {T U B : tb} {b c d : Nat} (hd : b = 0 ∧ c = 0 ∧ d = 0) : bePr T U B (beD T U 0 b c d) (tW B) := by
  obtain ⟨rfl, rfl, rfl⟩ := hd
  intro j
  refine ⟨fun z => ?_, fun _ => rfl⟩
  have := z.2
  omega
theorem bePr_e {T U B : tb} (h24 : tK T * tK U ≤ 24) {f : Nat → Int32} {a : Nat} (h : bePr T U B (beD T U a 0 0 0) f) (ha : ∀ x, x < tK T * tK U → ePp T U x < a) : f = tW (twA (bef T U) (tK T * tK U) B (tK T * tK U)) := by
  funext j
  rw [twA_j h24 _ (Nat.le_refl _)]
  by_cases e1 : j / 24 < tK T * tK U ∧ j % 24 < tK T * tK U
  · rw [if_pos e1]
    unfold bef
    by_cases e2 : to T (ePp T U (j / 24)) = fr T (ePp T U (j % 24)) ∧ to U (eQq T U (j / 24)) = fr U (eQq T U (j % 24))
    · rw [if_pos e2]
      exact (h j).1 ⟨⟨e1.1, e1.2, e2⟩, Or.inl (ha _ e1.1)⟩
    · rw [if_neg e2]
      exact (h j).2 (fun z => e2 z.1.2.2)
  · rw [if_neg e1]
    exact (h j).2 (fun z => e1 ⟨z.1.1, z.1.2.1⟩)
theorem shp_wT {B W : tb} (h : shp B W) : wT B (tW W) = W := by
  obtain ⟨a, b, c, d, e, f⟩ := W
  obtain ⟨h1, h2, h3, h4, h5⟩ := h
  show (tN B, tK B, tC B, tF B, tG B, f) = (a, b, c, d, e, f)
  rw [← h1, ← h2, ← h3, ← h4, ← h5]
  rfl
