/-! FAMILIES: the model -/
def avI (o : Option Nat) : Int32 := match o with
  | some k => nI k
  | none => -1
theorem af_1 {p : Nat → Bool} {K i : Nat} (hi : i < K) (h : p i = true) : af p K i = some i := by
  cases e : af p K i with
  | none =>
    have := af_none e i (Nat.le_refl _) hi
    rw [h] at this
    cases this
  | some k =>
    obtain ⟨a1, a2, a3, a4⟩ := af_some e
    by_cases e2 : k = i
    · rw [e2]
    · have := a4 i (Nat.le_refl _) (by omega)
      rw [h] at this
      cases this
theorem af_2 {p : Nat → Bool} {K i : Nat} (h : p i = false) : af p K i = af p K (i + 1) := by
  refine fdB_congr (fun k hk => ?_)
  by_cases e : k = i
  · subst e
    simp [h]
  · have : (i ≤ k) ↔ (i + 1 ≤ k) := by omega
    simp [this]
theorem af_3 {p : Nat → Bool} {K i : Nat} (h : K ≤ i) : af p K i = none := by
  cases e : af p K i with
  | none => rfl
  | some k =>
    obtain ⟨a1, a2, a3, a4⟩ := af_some e
    omega
section FAMC
variable {sc : az_S} {G : az_H} {m : Nat} {V : Nat → Int32} {A : Nat → Nat → Int32} {nt j : Nat} {Tb : Nat → tb} {lo hi : Nat → Nat} {n : Nat}
/-- rows 16 and 17 tell from where and to where -/
def frR (A : Nat → Nat → Int32) (n : Nat) (lo hi : Nat → Nat) : Prop := ∀ y, y < n → A 16 y = nI (lo y) ∧ lo y < 24 ∧ A 17 y = nI (hi y) ∧ hi y < 24
theorem m_after (h : mT V A nt Tb) (hj : j < nt) (hn : n ≤ 6) (hr : frR A n lo hi) {y : Nat} (hy : y < n) {v : Int32} {i : Nat} (hv : v + 1 = nI i) (hi' : i ≤ tK (Tb j)) : az_ca sc iX6_after [.ref m, .int (nI j), .int (nI y), .int v] (mdG G m V A) = some (some (.int (avI (af (pq (Tb j) lo hi y) (tK (Tb j)) i))), mdG G m V A) := by
  have h8 := h.2.1
  have hw := h.w hj
  have hk := hw.k24
  have hn6 := hw.n6
  obtain ⟨r1, r2, r3, r4⟩ := hr y hy
  have loop : ∀ d i, i + d = tK (Tb j) → az_rn sc iX6_after 4 [some (.ref m), some (.int (nI j)), some (.int (nI y)), some (.int v), some (.int (nI i))] [] (mdG G m V A) = some (some (.int (avI (af (pq (Tb j) lo hi y) (tK (Tb j)) i))), mdG G m V A) := by
    intro d
    induction d with
    | zero =>
      intro i hi2
      rw [bX6_after_4, md_r2, md_a2 (by omega), h.a hj, if_pos (nI_le (by omega) (by omega)), md_r2, md_a2 (by omega), h.a hj, if_pos (nI_le (by omega) (by omega)), af_3 (by omega)]
      rfl
    | succ d ih =>
      intro i hi2
      have hik : i < tK (Tb j) := by omega
      have f1 := hw.frn hik
      have f2 := hw.ton hik
      rw [bX6_after_4, md_r2, md_a2 (by omega), h.a hj, if_neg (nI_ge hik (by omega)), md_rc, m_from h hj hik, bI_s, md_r18, md_a16 (by omega), r1, ite_nnI (by omega) (by omega), nI_1]
      by_cases e1 : fr (Tb j) i = lo y
      · rw [if_neg (fun z => z e1), md_rc, m_to h hj hik, bI_s, md_r19, md_a17 (by omega), r3, ite_nI (by omega) (by omega)]
        by_cases e2 : to (Tb j) i = hi y
        · rw [if_pos e2, md_r2, md_a2 (by omega), h.a hj, if_neg (nI_ge hik (by omega)), af_1 hik (show pq (Tb j) lo hi y i = true from decide_eq_true ⟨e1, e2⟩)]
          rfl
        · rw [if_neg e2, af_2 (show pq (Tb j) lo hi y i = false from decide_eq_false (fun z => e2 z.2))]
          exact ih (i + 1) (by omega)
      · rw [if_pos e1, af_2 (show pq (Tb j) lo hi y i = false from decide_eq_false (fun z => e1 z.1))]
        exact ih (i + 1) (by omega)
  rw [eX6_after, hv]
  exact loop (tK (Tb j) - i) i (by omega)
theorem m_chances (h : mT V A nt Tb) (hj : j < nt) (hn : n ≤ 6) (hr : frR A n lo hi) : az_ca sc iX6_chances [.ref m, .int (nI j), .int (nI n)] (mdG G m V A) = some (some (.long (lN (prd (pq (Tb j) lo hi) (tK (Tb j)) n))), mdG G m V A) := by
  have hw := h.w hj
  have hk := hw.k24
  have L15 : ∀ y w, y < n → ∀ d e c, tK (Tb j) ≤ e + d → pq (Tb j) lo hi y e = true → e < tK (Tb j) → c = ctB (pq (Tb j) lo hi y) e → az_rn sc iX6_chances 15 [some (.ref m), some (.int (nI j)), some (.int (nI n)), some (.long w), none, some (.int (nI y)), some (.long (lN c)), none, some (.int (nI e))] [] (mdG G m V A) = az_rn sc iX6_chances 4 [some (.ref m), some (.int (nI j)), some (.int (nI n)), some (.long (w * lN (ctB (pq (Tb j) lo hi y) (tK (Tb j))))), none, some (.int (nI (y + 1))), some (.long (lN (ctB (pq (Tb j) lo hi y) (tK (Tb j))))), none, some (.int (-1))] [] (mdG G m V A) := by
    intro y w hy d
    induction d with
    | zero => intro e c he h1 h2 h3; omega
    | succ d ih =>
      intro e c he h1 h2 h3
      obtain ⟨k1, k2⟩ := af_ct (p := pq (Tb j) lo hi y) (K := tK (Tb j)) (i := e + 1) h2
      rw [ctB_at h1, ← h3] at k1 k2
      rw [bX6_chances_15, if_neg (nI_nm1 (by omega)), md_rc, m_after h hj hn hr hy (nI_1 e) (by omega), bI_s, lN_1]
      cases hz : af (pq (Tb j) lo hi y) (tK (Tb j)) (e + 1) with
      | some k =>
        obtain ⟨a1, a2, a3, a4⟩ := af_some hz
        exact ih k (c + 1) (by omega) a3 a2 (k1 k hz).symm
      | none =>
        rw [← k2 hz]
        show az_rn sc iX6_chances 15 [some (.ref m), some (.int (nI j)), some (.int (nI n)), some (.long w), none, some (.int (nI y)), some (.long (lN _)), none, some (.int (-1))] [] (mdG G m V A) = _
        rw [bX6_chances_15, if_pos rfl, nI_1]
  have L4 : ∀ d y (o6 o8 : Option Value), y + d = n → az_rn sc iX6_chances 4 [some (.ref m), some (.int (nI j)), some (.int (nI n)), some (.long (lN (prd (pq (Tb j) lo hi) (tK (Tb j)) y))), none, some (.int (nI y)), o6, none, o8] [] (mdG G m V A) = some (some (.long (lN (prd (pq (Tb j) lo hi) (tK (Tb j)) n))), mdG G m V A) := by
    intro d
    induction d with
    | zero =>
      intro y o6 o8 hy
      have e : y = n := by omega
      subst e
      rw [bX6_chances_4, if_pos (nI_le (Nat.le_refl _) (by omega))]
    | succ d ih =>
      intro y o6 o8 hy
      obtain ⟨k1, k2⟩ := af_ct (p := pq (Tb j) lo hi y) (K := tK (Tb j)) (i := 0) (Nat.zero_le _)
      rw [bX6_chances_4, if_neg (nI_ge (show y < n by omega) (by omega)), md_rc, m_after h hj hn hr (show y < n by omega) (v := -1) (i := 0) (by decide) (Nat.zero_le _), bI_s]
      cases hz : af (pq (Tb j) lo hi y) (tK (Tb j)) 0 with
      | some k =>
        obtain ⟨a1, a2, a3, a4⟩ := af_some hz
        refine (L15 y _ (by omega) (tK (Tb j)) k 0 (by omega) a3 a2 (k1 k hz).symm).trans ?_
        rw [lN_mul]
        exact ih (y + 1) _ _ (by omega)
      | none =>
        have e0 : ctB (pq (Tb j) lo hi y) (tK (Tb j)) = 0 := k2 hz
        show az_rn sc iX6_chances 15 [some (.ref m), some (.int (nI j)), some (.int (nI n)), some (.long _), none, some (.int (nI y)), some (.long (lN 0)), none, some (.int (-1))] [] (mdG G m V A) = _
        rw [bX6_chances_15, if_pos rfl, nI_1, ← e0, lN_mul]
        exact ih (y + 1) _ _ (by omega)
  rw [eX6_chances]
  exact L4 n 0 none none (by omega)
theorem frR_18 {A' : Nat → Nat → Int32} (hr : frR A n lo hi) (h6 : A' 16 = A 16) (h7 : A' 17 = A 17) : frR A' n lo hi := fun y hy => by
  rw [h6, h7]
  exact hr y hy
theorem m_firstRow (h : mT V A nt Tb) (hj : j < nt) (hn : n ≤ 6) (hr : frR A n lo hi) : ∃ f, az_ca sc iX6_firstRow [.ref m, .int (nI j), .int (nI n)] (mdG G m V A) = some (some (.int (if prd (pq (Tb j) lo hi) (tK (Tb j)) n = 0 then 0 else 1)), mdG G m V (va_up A 18 f)) ∧ (0 < prd (pq (Tb j) lo hi) (tK (Tb j)) n → ∀ y, y < n → f y = nI (fs (pq (Tb j) lo hi y) (tK (Tb j)))) := by
  have hw := h.w hj
  have hk := hw.k24
  have loop : ∀ d y f, y + d = n → (∀ y', y' < y → 0 < ctB (pq (Tb j) lo hi y') (tK (Tb j)) ∧ f y' = nI (fs (pq (Tb j) lo hi y') (tK (Tb j)))) → ∃ f', az_rn sc iX6_firstRow 2 [some (.ref m), some (.int (nI j)), some (.int (nI n)), some (.int (nI y))] [] (mdG G m V (va_up A 18 f)) = some (some (.int (if prd (pq (Tb j) lo hi) (tK (Tb j)) n = 0 then 0 else 1)), mdG G m V (va_up A 18 f')) ∧ (0 < prd (pq (Tb j) lo hi) (tK (Tb j)) n → ∀ y, y < n → f' y = nI (fs (pq (Tb j) lo hi y) (tK (Tb j)))) := by
    intro d
    induction d with
    | zero =>
      intro y f hy hf
      have e : y = n := by omega
      subst e
      have hp : 0 < prd (pq (Tb j) lo hi) (tK (Tb j)) y := prd_pos (fun y' hy' => (hf y' hy').1)
      refine ⟨f, ?_, fun _ y' hy' => (hf y' hy').2⟩
      rw [bX6_firstRow_2, if_pos (nI_le (Nat.le_refl _) (by omega)), zr_1, if_neg (by omega)]
    | succ d ih =>
      intro y f hy hf
      have hyn : y < n := by omega
      have h18 : mT V (va_up A 18 f) nt Tb := mT_A h (fun r hr => up_n _ _ (by omega))
      have r18 : frR (va_up A 18 f) n lo hi := frR_18 hr (up_n _ _ (by omega)) (up_n _ _ (by omega))
      obtain ⟨k1, k2⟩ := af_ct (p := pq (Tb j) lo hi y) (K := tK (Tb j)) (i := 0) (Nat.zero_le _)
      rw [bX6_firstRow_2, if_neg (nI_ge hyn (by omega)), md_r20, md_rc, m_after h18 hj hn r18 hyn (v := -1) (i := 0) (by decide) (Nat.zero_le _), bI_s, md_s18 (by omega), up_s, up_up, md_r20, md_a18 (by omega), up_s, upd_s]
      cases hz : af (pq (Tb j) lo hi y) (tK (Tb j)) 0 with
      | some k =>
        obtain ⟨a1, a2, a3, a4⟩ := af_some hz
        have hk0 := ctB_lt a3 a2
        have e0 : fs (pq (Tb j) lo hi y) (tK (Tb j)) = k := by
          unfold fs
          rw [hz]
          rfl
        rw [if_pos (show ¬ avI (some k) = -1 from nI_nm1 (by omega)), nI_1]
        refine ih (y + 1) _ (by omega) (fun y' hy' => ?_)
        by_cases e2 : y' = y
        · subst e2
          rw [upd_s, e0]
          exact ⟨by omega, rfl⟩
        · rw [upd_n _ _ e2]
          exact hf y' (by omega)
      | none =>
        have e0 : prd (pq (Tb j) lo hi) (tK (Tb j)) n = 0 := prd_0 hyn (k2 hz)
        rw [if_neg (show ¬ ¬ avI none = -1 from fun z => z rfl), zr_0, if_pos e0]
        exact ⟨_, rfl, fun z => by omega⟩
  obtain ⟨f, q1, q2⟩ := loop n 0 (A 18) (by omega) (fun y hy => absurd hy (Nat.not_lt_zero _))
  rw [up_id] at q1
  refine ⟨f, ?_, q2⟩
  rw [eX6_firstRow]
  exact q1
theorem m_nextRow {r : Nat → Nat} (h : mT V A nt Tb) (hj : j < nt) (hn : n ≤ 6) (hr : frR A n lo hi) (ho : okR (pq (Tb j) lo hi) (tK (Tb j)) n r) (h18 : ∀ y, y < n → A 18 y = nI (r y)) : ∃ f, az_ca sc iX6_nextRow [.ref m, .int (nI j), .int (nI n)] (mdG G m V A) = some (some (.int (if (od (pq (Tb j) lo hi) (tK (Tb j)) n r).2 = true then 0 else 1)), mdG G m V (va_up A 18 f)) ∧ ((od (pq (Tb j) lo hi) (tK (Tb j)) n r).2 = false → ∀ y, y < n → f y = nI ((od (pq (Tb j) lo hi) (tK (Tb j)) n r).1 y)) := by
  have hw := h.w hj
  have hk := hw.k24
  have loop : ∀ q r f, q ≤ n → okR (pq (Tb j) lo hi) (tK (Tb j)) n r → (∀ y, y < n → f y = nI (r y)) → ∃ f', az_rn sc iX6_nextRow 4 [some (.ref m), some (.int (nI j)), some (.int (nI n)), some (.int (pm q))] [] (mdG G m V (va_up A 18 f)) = some (some (.int (if (od (pq (Tb j) lo hi) (tK (Tb j)) q r).2 = true then 0 else 1)), mdG G m V (va_up A 18 f')) ∧ ((od (pq (Tb j) lo hi) (tK (Tb j)) q r).2 = false → ∀ y, y < n → f' y = nI ((od (pq (Tb j) lo hi) (tK (Tb j)) q r).1 y)) := by
    intro q
    induction q with
    | zero =>
      intro r f hq ho hf
      refine ⟨f, ?_, fun z => (by cases z)⟩
      rw [bX6_nextRow_4, if_pos (show pm 0 < (0 : Int32) by decide), if_neg (show ¬ (0 : Int32) ≤ pm 0 by decide), zr_0]
      rfl
    | succ q ih =>
      intro r f hq ho hf
      obtain ⟨p1, p2⟩ := ho q (by omega)
      have m18 : ∀ f, mT V (va_up A 18 f) nt Tb := fun f => mT_A h (fun r hr => up_n _ _ (by omega))
      have r18 : ∀ f, frR (va_up A 18 f) n lo hi := fun f => frR_18 hr (up_n _ _ (by omega)) (up_n _ _ (by omega))
      rw [bX6_nextRow_4, if_neg (show ¬ pm (q + 1) < (0 : Int32) from nI_nlt0 (show q < 2 ^ 31 by omega)), show pm (q + 1) = nI q from rfl, md_r20, md_a18 (by omega), up_s, hf q (by omega), md_rc, m_after (m18 f) hj hn (r18 f) (show q < n by omega) (nI_1 (r q)) (by omega), bI_s, od]
      cases e : af (pq (Tb j) lo hi q) (tK (Tb j)) (r q + 1) with
      | some k =>
        obtain ⟨a1, a2, a3, a4⟩ := af_some e
        dsimp only
        rw [if_pos (show ¬ avI (some k) = -1 from nI_nm1 (by omega)), if_pos (show (0 : Int32) ≤ nI q from nI_le0 (by omega)), md_r20, md_r20, md_a18 (by omega), up_s, hf q (by omega), md_rc, m_after (m18 f) hj hn (r18 f) (show q < n by omega) (nI_1 (r q)) (by omega), bI_s, e, md_s18 (by omega), up_s, up_up, zr_1, if_neg (show ¬ false = true by decide)]
        refine ⟨_, rfl, fun _ y hy => ?_⟩
        by_cases e2 : y = q
        · subst e2
          rw [upd_s, up_s]
          rfl
        · rw [upd_n _ _ e2, up_n _ _ e2]
          exact hf y hy
      | none =>
        dsimp only
        obtain ⟨f1, f2, f3, f4⟩ := fs_ok (p := pq (Tb j) lo hi q) (K := tK (Tb j)) (Nat.lt_of_le_of_lt (Nat.zero_le _) (ctB_lt p1 p2))
        rw [if_neg (show ¬ ¬ avI none = -1 from fun z => z rfl), md_r20, md_rc, m_after (m18 f) hj hn (r18 f) (show q < n by omega) (v := -1) (i := 0) (by decide) (Nat.zero_le _), bI_s, f1, md_s18 (by omega), up_s, up_up, pm_a]
        refine ih (va_up r q (fs (pq (Tb j) lo hi q) (tK (Tb j)))) _ (by omega) (fun y hy => ?_) (fun y hy => ?_)
        · by_cases e2 : y = q
          · subst e2
            rw [up_s]
            exact ⟨f2, f3⟩
          · rw [up_n _ _ e2]
            exact ho y hy
        · by_cases e2 : y = q
          · subst e2
            rw [upd_s, up_s]
            rfl
          · rw [upd_n _ _ e2, up_n _ _ e2]
            exact hf y hy
  obtain ⟨f, q1, q2⟩ := loop n r (A 18) (Nat.le_refl _) ho h18
  rw [up_id] at q1
  refine ⟨f, ?_, q2⟩
  rw [eX6_nextRow, pm_s]
  exact q1
end FAMC
section FAMD
variable {sc : az_S} {G : az_H} {m : Nat} {V : Nat → Int32} {A : Nat → Nat → Int32} {S : wS} {f g : Nat}
theorem m_isBridge {r : Nat → Nat} (h : iM V A S) (hS : wW S) (hf : f < sM S) (hg : g < sM S) (hA : cA S g = cA S f) (hB : cB S g = cB S f) (h18 : ∀ y, y < tN (sT S (cA S f)) → A 18 y = nI (r y) ∧ r y < tK (sT S (cB S f))) : az_ca sc iX6_isBridge [.ref m, .int (nI f), .int (nI g)] (mdG G m V A) = some (some (.int (if hbB (sT S (cA S f)) (sT S (cB S f)) (cg S f) (cg S g) r = true then 1 else 0)), mdG G m V A) := by
  have h24 := hS.2.1
  have h8 := hS.1
  have hi := hS.ca hf
  have hib := hS.cb hf
  have hw := hS.tw hi
  have hwu := hS.tw hib
  have hk := hw.k24
  have hn6 := hw.n6
  rw [eX6_isBridge, md_r11, md_a10 (by omega), (h.2.2.2.2.1 f hf).1, md_r12, md_a11 (by omega), (h.2.2.2.2.1 f hf).2.1]
  refine (lp_ex (fun a => az_rn sc iX6_isBridge 12 [some (.ref m), some (.int (nI f)), some (.int (nI g)), some (.int (nI (cA S f))), some (.int (nI (cB S f))), some (.int (nI a))] [] (mdG G m V A)) (fun a => !decide (wy (sT S (cB S f)) (cg S f a) (r (to (sT S (cA S f)) a)) = wy (sT S (cB S f)) (r (fr (sT S (cA S f)) a)) (cg S g a))) (some (some (.int 0), mdG G m V A)) (some (some (.int 1), mdG G m V A)) (tK (sT S (cA S f))) (fun a ha => ?_) ?_).trans ?_
  · have f1 := hw.frn ha
    have f2 := hw.ton ha
    obtain ⟨r1, r2⟩ := h18 _ f2
    obtain ⟨r3, r4⟩ := h18 _ f1
    have g1 := hS.cgk hf ha
    have g2 := hS.cgk hg (a := a) (by rw [hA]; exact ha)
    rw [hB] at g2
    rw [bX6_isBridge_12, md_r2, md_a2 (by omega), h.1.a hi, if_neg (nI_ge ha (by omega)), md_rc, m_give h hS hf ha, bI_s, md_r20, md_rc, m_to h.1 hi ha, bI_s, md_a18 (by omega), r1, md_rc, m_wayIn h.1 hib g1 r2, bI_s, md_r20, md_rc, m_from h.1 hi ha, bI_s, md_a18 (by omega), r3, md_rc, m_give h hS hg (by rw [hA]; exact ha), bI_s, md_rc, m_wayIn h.1 hib r4 g2, bI_s, nI_1, zr_0]
    by_cases e : wy (sT S (cB S f)) (cg S f a) (r (to (sT S (cA S f)) a)) = wy (sT S (cB S f)) (r (fr (sT S (cA S f)) a)) (cg S g a)
    · rw [if_pos e, if_neg (by simp [e])]
    · rw [if_neg e, if_pos (by simp [e])]
  · rw [bX6_isBridge_12, md_r2, md_a2 (by omega), h.1.a hi, if_pos (nI_le (Nat.le_refl _) (by omega)), zr_1]
  · unfold hbB
    cases exB (fun a => !decide (wy (sT S (cB S f)) (cg S f a) (r (to (sT S (cA S f)) a)) = wy (sT S (cB S f)) (r (fr (sT S (cA S f)) a)) (cg S g a))) (tK (sT S (cA S f))) <;> rfl
theorem m_isCone {r : Nat → Nat} {q : Nat} (h : iM V A S) (hS : wW S) (hf : f < sM S) (hq : q < tN (sT S (cB S f))) (h18 : ∀ y, y < tN (sT S (cA S f)) → A 18 y = nI (r y) ∧ r y < tK (sT S (cB S f)) ∧ fr (sT S (cB S f)) (r y) = q) : az_ca sc iX6_isCone [.ref m, .int (nI f)] (mdG G m V A) = some (some (.int (if hbB (sT S (cA S f)) (sT S (cB S f)) (fun _ => q) (cg S f) r = true then 1 else 0)), mdG G m V A) := by
  have h24 := hS.2.1
  have h8 := hS.1
  have hi := hS.ca hf
  have hib := hS.cb hf
  have hw := hS.tw hi
  have hwu := hS.tw hib
  have hk := hw.k24
  have hn6 := hw.n6
  have hnk := hwu.nk
  rw [eX6_isCone, md_r11, md_a10 (by omega), (h.2.2.2.2.1 f hf).1]
  refine (lp_ex (fun a => az_rn sc iX6_isCone 7 [some (.ref m), some (.int (nI f)), some (.int (nI (cA S f))), some (.int (nI a))] [] (mdG G m V A)) (fun a => !decide (wy (sT S (cB S f)) q (r (to (sT S (cA S f)) a)) = wy (sT S (cB S f)) (r (fr (sT S (cA S f)) a)) (cg S f a))) (some (some (.int 0), mdG G m V A)) (some (some (.int 1), mdG G m V A)) (tK (sT S (cA S f))) (fun a ha => ?_) ?_).trans ?_
  · have f1 := hw.frn ha
    have f2 := hw.ton ha
    obtain ⟨r1, r2, r5⟩ := h18 _ f2
    obtain ⟨r3, r4, r6⟩ := h18 _ f1
    have g1 := hS.cgk hf ha
    have hlaw : wy (sT S (cB S f)) q (r (to (sT S (cA S f)) a)) = nI (r (to (sT S (cA S f)) a)) := (hwu.2.2.2.1 q (r (to (sT S (cA S f)) a)) (by omega) r2).2.1 (by rw [(hwu.2.2.1 q hq).2, r5]) hq
    rw [hlaw, bX6_isCone_7, md_r2, md_a2 (by omega), h.1.a hi, if_neg (nI_ge ha (by omega)), md_r12, md_a11 (by omega), (h.2.2.2.2.1 f hf).2.1, md_r20, md_rc, m_from h.1 hi ha, bI_s, md_a18 (by omega), r3, md_rc, m_give h hS hf ha, bI_s, md_rc, m_wayIn h.1 hib r4 g1, bI_s, md_r20, md_rc, m_to h.1 hi ha, bI_s, md_a18 (by omega), r1, nI_1, zr_0]
    by_cases e : wy (sT S (cB S f)) (r (fr (sT S (cA S f)) a)) (cg S f a) = nI (r (to (sT S (cA S f)) a))
    · rw [if_pos e, if_neg (by simp [e])]
    · rw [if_neg e, if_pos (by
        have e2 : ¬ nI (r (to (sT S (cA S f)) a)) = wy (sT S (cB S f)) (r (fr (sT S (cA S f)) a)) (cg S f a) := fun z => e z.symm
        simp [e2])]
  · rw [bX6_isCone_7, md_r2, md_a2 (by omega), h.1.a hi, if_pos (nI_le (Nat.le_refl _) (by omega)), zr_1]
  · unfold hbB
    cases exB (fun a => !decide (wy (sT S (cB S f)) q (r (to (sT S (cA S f)) a)) = wy (sT S (cB S f)) (r (fr (sT S (cA S f)) a)) (cg S f a))) (tK (sT S (cA S f))) <;> rfl
theorem iM_A16 {V : Nat → Int32} {A A' : Nat → Nat → Int32} {S : wS} (h : iM V A S) (hA : ∀ r : Nat, r < 16 ∨ r = 21 → A' r = A r) : iM V A' S := iM_A h (mT_A h.1 (fun r hr => hA r (by omega))) (hA 10 (by omega)) (hA 11 (by omega)) (hA 12 (by omega)) (hA 21 (by omega))
theorem m_betweenCarriers (h : iM V A S) (hS : wW S) (hf : f < sM S) (hg : g < sM S) (hA : cA S g = cA S f) (hB : cB S g = cB S f) : ∃ A', az_ca sc iX6_betweenCarriers [.ref m, .int (nI f), .int (nI g)] (mdG G m V A) = some (none, mdG G m V A') ∧ (∀ r, r ≠ 16 → r ≠ 17 → A' r = A r) ∧ frR A' (tN (sT S (cA S f))) (cg S f) (cg S g) := by
  have h24 := hS.2.1
  have h8 := hS.1
  have hi := hS.ca hf
  have hib := hS.cb hf
  have hw := hS.tw hi
  have hwu := hS.tw hib
  have hku := hwu.k24
  have hn6 := hw.n6
  have hnk := hw.nk
  have loop : ∀ d y A1, y + d = tN (sT S (cA S f)) → (∀ r, r ≠ 16 → r ≠ 17 → A1 r = A r) → frR A1 y (cg S f) (cg S g) → ∃ A', az_rn sc iX6_betweenCarriers 2 [some (.ref m), some (.int (nI f)), some (.int (nI g)), some (.int (nI y))] [] (mdG G m V A1) = some (none, mdG G m V A') ∧ (∀ r, r ≠ 16 → r ≠ 17 → A' r = A r) ∧ frR A' (tN (sT S (cA S f))) (cg S f) (cg S g) := by
    intro d
    induction d with
    | zero =>
      intro y A1 hy h1 h2
      have e : y = tN (sT S (cA S f)) := by omega
      subst e
      have hm : iM V A1 S := iM_A16 h (fun r hr => h1 r (by omega) (by omega))
      refine ⟨A1, ?_, h1, h2⟩
      rw [bX6_betweenCarriers_2, md_r1, md_r11, md_a10 (by omega), (hm.2.2.2.2.1 f hf).1, md_a1 (by omega), hm.1.o hi, if_pos (nI_le (Nat.le_refl _) (by omega))]
    | succ d ih =>
      intro y A1 hy h1 h2
      have hm : iM V A1 S := iM_A16 h (fun r hr => h1 r (by omega) (by omega))
      have hyk : y < tK (sT S (cA S f)) := by omega
      have g1 := hS.cgk hf hyk
      have g2 := hS.cgk hg (a := y) (by rw [hA]; exact hyk)
      rw [hB] at g2
      have hm2 : iM V (va_up A1 16 (upd (A1 16) y (nI (cg S f y)))) S := iM_A16 hm (fun r hr => up_n _ _ (by omega))
      rw [bX6_betweenCarriers_2, md_r1, md_r11, md_a10 (by omega), (hm.2.2.2.2.1 f hf).1, md_a1 (by omega), hm.1.o hi, if_neg (nI_ge (show y < tN (sT S (cA S f)) by omega) (by omega)), md_r18, md_rc, m_give hm hS hf hyk, bI_s, md_s16 (by omega), md_r19, md_rc, m_give hm2 hS hg (by rw [hA]; exact hyk), bI_s, md_s17 (by omega), nI_1]
      refine ih (y + 1) _ (by omega) (fun r r1 r2 => ?_) (fun y' hy' => ?_)
      · rw [up_n _ _ r2, up_n _ _ r1]
        exact h1 r r1 r2
      · rw [up_n _ _ (show 16 ≠ 17 by omega), up_s, up_s, up_n _ _ (show 17 ≠ 16 by omega)]
        by_cases e : y' = y
        · subst e
          rw [upd_s, upd_s]
          exact ⟨rfl, by omega, rfl, by omega⟩
        · rw [upd_n _ _ e, upd_n _ _ e]
          exact h2 y' (by omega)
  obtain ⟨A', q1, q2⟩ := loop (tN (sT S (cA S f))) 0 A (by omega) (fun _ _ _ => rfl) (fun y hy => absurd hy (Nat.not_lt_zero _))
  refine ⟨A', ?_, q2⟩
  rw [eX6_betweenCarriers]
  exact q1
theorem m_ahead {q : Nat} (h : iM V A S) (hS : wW S) (hf : f < sM S) (hq : q < 24) : ∃ A', az_ca sc iX6_ahead [.ref m, .int (nI f), .int (nI q)] (mdG G m V A) = some (none, mdG G m V A') ∧ (∀ r, r ≠ 16 → r ≠ 17 → A' r = A r) ∧ frR A' (tN (sT S (cA S f))) (fun _ => q) (cg S f) := by
  have h24 := hS.2.1
  have h8 := hS.1
  have hi := hS.ca hf
  have hib := hS.cb hf
  have hw := hS.tw hi
  have hwu := hS.tw hib
  have hku := hwu.k24
  have hn6 := hw.n6
  have hnk := hw.nk
  have loop : ∀ d y A1, y + d = tN (sT S (cA S f)) → (∀ r, r ≠ 16 → r ≠ 17 → A1 r = A r) → frR A1 y (fun _ => q) (cg S f) → ∃ A', az_rn sc iX6_ahead 2 [some (.ref m), some (.int (nI f)), some (.int (nI q)), some (.int (nI y))] [] (mdG G m V A1) = some (none, mdG G m V A') ∧ (∀ r, r ≠ 16 → r ≠ 17 → A' r = A r) ∧ frR A' (tN (sT S (cA S f))) (fun _ => q) (cg S f) := by
    intro d
    induction d with
    | zero =>
      intro y A1 hy h1 h2
      have e : y = tN (sT S (cA S f)) := by omega
      subst e
      have hm : iM V A1 S := iM_A16 h (fun r hr => h1 r (by omega) (by omega))
      refine ⟨A1, ?_, h1, h2⟩
      rw [bX6_ahead_2, md_r1, md_r11, md_a10 (by omega), (hm.2.2.2.2.1 f hf).1, md_a1 (by omega), hm.1.o hi, if_pos (nI_le (Nat.le_refl _) (by omega))]
    | succ d ih =>
      intro y A1 hy h1 h2
      have hm : iM V A1 S := iM_A16 h (fun r hr => h1 r (by omega) (by omega))
      have hyk : y < tK (sT S (cA S f)) := by omega
      have g1 := hS.cgk hf hyk
      have hm2 : iM V (va_up A1 16 (upd (A1 16) y (nI q))) S := iM_A16 hm (fun r hr => up_n _ _ (by omega))
      rw [bX6_ahead_2, md_r1, md_r11, md_a10 (by omega), (hm.2.2.2.2.1 f hf).1, md_a1 (by omega), hm.1.o hi, if_neg (nI_ge (show y < tN (sT S (cA S f)) by omega) (by omega)), md_r18, md_s16 (by omega), md_r19, md_rc, m_give hm2 hS hf hyk, bI_s, md_s17 (by omega), nI_1]
      refine ih (y + 1) _ (by omega) (fun r r1 r2 => ?_) (fun y' hy' => ?_)
      · rw [up_n _ _ r2, up_n _ _ r1]
        exact h1 r r1 r2
      · rw [up_n _ _ (show 16 ≠ 17 by omega), up_s, up_s, up_n _ _ (show 17 ≠ 16 by omega)]
        by_cases e : y' = y
        · subst e
          rw [upd_s, upd_s]
          exact ⟨rfl, by omega, rfl, by omega⟩
        · rw [upd_n _ _ e, upd_n _ _ e]
          exact h2 y' (by omega)
  obtain ⟨A', q1, q2⟩ := loop (tN (sT S (cA S f))) 0 A (by omega) (fun _ _ _ => rfl) (fun y hy => absurd hy (Nat.not_lt_zero _))
  refine ⟨A', ?_, q2⟩
  rw [eX6_ahead]
  exact q1
end FAMD
