/-! OPERATIONS sieves, sieve -/
/-- through d sets from v on: how many are sieves (f before), and the one that is wanted -/
def sq (N : Nat → Bool) (sd : Nat → Int32) (wn : Int32) : Nat → Nat → Nat → Nat × Option Int32
  | 0, _, f => (f, none)
  | d + 1, v, f => if N v = true then sq N sd wn d (v + 1) f else if nI f = wn then (f + 1, some (sd v)) else sq N sd wn d (v + 1) (f + 1)
theorem sq_s (N : Nat → Bool) (sd : Nat → Int32) (wn : Int32) (d v f : Nat) : sq N sd wn (d + 1) v f = if N v = true then sq N sd wn d (v + 1) f else if nI f = wn then (f + 1, some (sd v)) else sq N sd wn d (v + 1) (f + 1) := rfl
theorem sq_le (N : Nat → Bool) (sd : Nat → Int32) (wn : Int32) : ∀ d v f, f ≤ (sq N sd wn d v f).1 ∧ (sq N sd wn d v f).1 ≤ f + d := by
  intro d
  induction d with
  | zero => intro v f; exact ⟨Nat.le_refl _, Nat.le_refl _⟩
  | succ d ih =>
    intro v f
    rw [sq_s]
    by_cases h : N v = true
    · rw [if_pos h]
      have := ih (v + 1) f
      exact ⟨by omega, by omega⟩
    · rw [if_neg h]
      by_cases e : nI f = wn
      · rw [if_pos e]
        exact ⟨Nat.le_succ _, by show f + 1 ≤ f + (d + 1); omega⟩
      · rw [if_neg e]
        have := ih (v + 1) (f + 1)
        exact ⟨by omega, by omega⟩
theorem sq_pick (N : Nat → Bool) (sd : Nat → Int32) (wn : Int32) : ∀ d v f, (∀ s, (sq N sd wn d v f).2 = some s → wn + 1 = nI (sq N sd wn d v f).1) ∧ ((sq N sd wn d v f).2 = none → ∀ j, f ≤ j → j < (sq N sd wn d v f).1 → nI j ≠ wn) := by
  intro d
  induction d with
  | zero =>
    intro v f
    refine ⟨fun s h => (by cases h), fun _ j h1 h2 => ?_⟩
    have h2' : j < f := h2
    omega
  | succ d ih =>
    intro v f
    rw [sq_s]
    by_cases h : N v = true
    · rw [if_pos h]
      exact ih (v + 1) f
    · rw [if_neg h]
      by_cases e : nI f = wn
      · rw [if_pos e]
        exact ⟨fun s _ => by rw [← e, nI_1], fun z => by cases z⟩
      · rw [if_neg e]
        obtain ⟨i1, i2⟩ := ih (v + 1) (f + 1)
        refine ⟨i1, fun hn j h1 h2 => ?_⟩
        by_cases e2 : j = f
        · subst e2; exact e
        · exact i2 hn j (by omega) h2
theorem sq_all (N : Nat → Bool) (sd : Nat → Int32) {wn wm : Int32} (h1 : ∀ j, j < 2 ^ 30 → nI j ≠ wn) (h2 : ∀ j, j < 2 ^ 30 → nI j ≠ wm) : ∀ d v f, f + d < 2 ^ 30 → (sq N sd wn d v f).2 = none ∧ (sq N sd wm d v f).2 = none ∧ (sq N sd wn d v f).1 = (sq N sd wm d v f).1 := by
  intro d
  induction d with
  | zero => intro v f _; exact ⟨rfl, rfl, rfl⟩
  | succ d ih =>
    intro v f hf
    rw [sq_s, sq_s]
    by_cases h : N v = true
    · rw [if_pos h, if_pos h]
      exact ih (v + 1) f (by omega)
    · rw [if_neg h, if_neg h, if_neg (h1 f (by omega)), if_neg (h2 f (by omega))]
      exact ih (v + 1) (f + 1) (by omega)
theorem pw12 {k : Nat} (h : k ≤ 12) : 2 ^ k ≤ 4096 := by
  have h1 : 2 ^ k ≤ 2 ^ 12 := Nat.pow_le_pow_right (by omega) h
  have h2 : 2 ^ 12 = 4096 := by decide
  omega
theorem sh_k {k : Nat} (h : k ≤ 12) : (1 : Int32) <<< (nI k &&& 31) = nI (2 ^ k) := by
  have h1 := pw12 h
  have h2 := pk_shlN (n := 1) (nI k &&& 31) k (s_l k (by omega)) (by omega)
  rw [Nat.one_mul] at h2
  exact h2
section SIEVE
variable {sc : az_S} {G : az_H} {t : Nat} {T : tb}
def svQ (T : tb) (y v : Nat) : Bool := svN T y (sdI T y v)
theorem s_sieveL (h : tbC G t T) (hw : tbW T) (ht : tld T) {y : Nat} (hy : y < 24) (hk12 : enN T y ≤ 12) (wn : Int32) : ∀ d v f, v + d = 2 ^ enN T y → az_rn sc iX5_searchSieves 23 [some (.ref t), some (.int (nI y)), some (.int wn), some (.int (amF T y)), some (.int (nI (enN T y))), some (.int (nI f)), some (.int (sdI T y v)), some (.int (nI v))] [] G = some (some (.int (match (sq (svQ T y) (sdI T y) wn d v f).2 with
    | some s => s
    | none => if ¬ wn = -1 then -1 else nI (sq (svQ T y) (sdI T y) wn d v f).1)), G) := by
  have hp := pw12 hk12
  intro d
  induction d with
  | zero =>
    intro v f hv
    rw [bX5_searchSieves_23, sh_k hk12, if_pos (nI_le (show 2 ^ enN T y ≤ v by omega) (by omega))]
    show (if ¬ wn = -1 then _ else _) = some (some (Value.int (if ¬ wn = -1 then -1 else nI f)), G)
    by_cases c : wn = -1
    · rw [if_neg (fun z => z c), if_neg (fun z => z c)]
    · rw [if_pos c, if_pos c]
  | succ d ih =>
    intro v f hv
    rw [bX5_searchSieves_23, sh_k hk12, if_neg (nI_ge (show v < 2 ^ enN T y by omega) (by omega)), tb_rc h, s_isSieve h hw ht hy, bI_s, sq_s, nI_1, nI_1]
    by_cases c : svN T y (sdI T y v) = true
    · rw [if_pos c, if_pos (show (0 : Int32) = 0 from rfl), if_pos (show svQ T y v = true from c)]
      exact ih (v + 1) f (by omega)
    · rw [if_neg c, if_neg (show ¬ (1 : Int32) = 0 by decide), if_neg (show ¬ svQ T y v = true from c)]
      by_cases c2 : nI f = wn
      · rw [if_neg (fun z => z c2), if_pos c2]
      · rw [if_pos c2, if_neg c2]
        exact ih (v + 1) (f + 1) (by omega)
/-- the answer, and what the class has for it -/
def svE (T : tb) (y : Nat) : Int32 := if tC T = 0 then -3 else if enN T y ≤ 12 then 0 else -5
def svR (T : tb) (y : Nat) (wn : Int32) : Nat × Option Int32 := sq (svQ T y) (sdI T y) wn (2 ^ enN T y) 0 0
theorem s_searchSieves (h : tbC G t T) (hw : tbW T) (ht : tC T = 1 → tld T) {y : Nat} (hy : y < 24) (wn : Int32) : az_ca sc iX5_searchSieves [.ref t, .int (nI y), .int wn] G = some (some (.int (if svE T y = 0 then (match (svR T y wn).2 with
    | some s => s
    | none => if ¬ wn = -1 then -1 else nI (svR T y wn).1) else svE T y)), G) := by
  have hk := hw.k24
  have hle : enN T y ≤ tK T := ctB_le _ _
  rw [eX5_searchSieves, tb_f2 h]
  unfold svE
  rcases hw.c01 with hc | hc
  · rw [hc, if_neg (show ¬ ¬ (0 : Int32) = 0 by decide), if_pos (show (0 : Int32) = 0 from rfl), if_neg (show ¬ (-3 : Int32) = 0 by decide)]
  · rw [hc, if_pos (show ¬ (1 : Int32) = 0 by decide), if_neg (show ¬ (1 : Int32) = 0 by decide), tb_rc h, s_arrowsInto h hw hy, bI_s, s_bitCount hk y, bI_s]
    by_cases c : enN T y ≤ 12
    · rw [if_pos (show nI (enN T y) ≤ (12 : Int32) from (show nI (enN T y) ≤ nI 12 from nI_le c (by omega))), if_pos c, if_pos (show (0 : Int32) = 0 from rfl)]
      exact s_sieveL h hw (ht hc) hy c wn (2 ^ enN T y) 0 0 (by omega)
    · rw [if_neg (show ¬ nI (enN T y) ≤ (12 : Int32) from (show ¬ nI (enN T y) ≤ nI 12 from nI_ge (by omega) (by omega))), if_neg c, if_neg (show ¬ (-5 : Int32) = 0 by decide)]
end SIEVE
section SIEVF
variable {sc : az_S} {G : az_H} {m : Nat} {V : Nat → Int32} {A : Nat → Nat → Int32} {nt i : Nat} {Tb : Nat → tb}
def enR (V : Nat → Int32) (A : Nat → Nat → Int32) (T : tb) (y : Nat) : Prop := V 7 = nI (enN T y) ∧ ∀ a, a < tK T → enB T y a = true → A 24 (ctB (enB T y) a) = nI a
theorem m_findEnds (h : mT V A nt Tb) (hi : i < nt) {y : Nat} (hy : y < 24) : ∃ V' A', az_ca sc iX6_findEnds [.ref m, .int (nI i), .int (nI y)] (mdG G m V A) = some (none, mdG G m V' A') ∧ (∀ r, r ≠ 7 → V' r = V r) ∧ (∀ r, r ≠ 24 → A' r = A r) ∧ enR V' A' (Tb i) y := by
  have h8 := h.2.1
  have hw := h.w hi
  have hk := hw.k24
  have hn6 := hw.n6
  have loop : ∀ d a V1 A1, a + d = tK (Tb i) → (∀ r, r ≠ 7 → V1 r = V r) → (∀ r, r ≠ 24 → A1 r = A r) → V1 7 = nI (ctB (enB (Tb i) y) a) → (∀ a', a' < a → enB (Tb i) y a' = true → A1 24 (ctB (enB (Tb i) y) a') = nI a') → ∃ V' A', az_rn sc iX6_findEnds 5 [some (.ref m), some (.int (nI i)), some (.int (nI y)), some (.int (nI a))] [] (mdG G m V1 A1) = some (none, mdG G m V' A') ∧ (∀ r, r ≠ 7 → V' r = V r) ∧ (∀ r, r ≠ 24 → A' r = A r) ∧ enR V' A' (Tb i) y := by
    intro d
    induction d with
    | zero =>
      intro a V1 A1 ha h1 h2 h3 h4
      have e : a = tK (Tb i) := by omega
      subst e
      have hm1 : mT V1 A1 nt Tb := mT_V (mT_A h (fun r hr => h2 r (by omega))) (h1 0 (by omega))
      refine ⟨V1, A1, ?_, h1, h2, h3, h4⟩
      rw [bX6_findEnds_5, md_r2, md_a2 (by omega), hm1.a hi, if_pos (nI_le (Nat.le_refl _) (by omega))]
    | succ d ih =>
      intro a V1 A1 ha h1 h2 h3 h4
      have hak : a < tK (Tb i) := by omega
      have hm1 : mT V1 A1 nt Tb := mT_V (mT_A h (fun r hr => h2 r (by omega))) (h1 0 (by omega))
      have hto := hw.ton hak
      have hct := ctB_le (enB (Tb i) y) a
      rw [bX6_findEnds_5, md_r2, md_a2 (by omega), hm1.a hi, if_neg (nI_ge hak (by omega)), md_rc, m_to hm1 hi hak, bI_s, ite_nnI (by omega) (by omega), nI_1]
      by_cases c : to (Tb i) a = y
      · have hp : enB (Tb i) y a = true := decide_eq_true c
        rw [if_neg (fun z => z c), md_r31, md_i30, h3, md_s24 (by omega), md_i30, h3, md_p30, nI_1]
        refine ih (a + 1) _ _ (by omega) (fun r hr => by rw [up_n _ _ hr]; exact h1 r hr) (fun r hr => by rw [up_n _ _ hr]; exact h2 r hr) (by rw [up_s, ctB_at hp]) (fun a' ha' hp' => ?_)
        rw [up_s]
        by_cases e : a' = a
        · subst e
          exact upd_s _ _ _
        · have := ctB_lt hp' (show a' < a by omega)
          rw [upd_n _ _ (by omega)]
          exact h4 a' (by omega) hp'
      · have hp : enB (Tb i) y a = false := decide_eq_false c
        have hc : ctB (enB (Tb i) y) (a + 1) = ctB (enB (Tb i) y) a := by rw [ctB_succ, hp]; simp
        rw [if_pos c]
        refine ih (a + 1) V1 A1 (by omega) h1 h2 (by rw [hc]; exact h3) (fun a' ha' hp' => ?_)
        by_cases e : a' = a
        · subst e
          rw [hp] at hp'
          cases hp'
        · exact h4 a' (by omega) hp'
  obtain ⟨V', A', q1, q2⟩ := loop (tK (Tb i)) 0 (va_up V 7 0) A (by omega) (fun r hr => up_n _ _ hr) (fun _ _ => rfl) (up_s _ _ _) (fun a' ha' => absurd ha' (Nat.not_lt_zero _))
  refine ⟨V', A', ?_, q2⟩
  rw [eX6_findEnds, md_p30]
  exact q1
/-- the model's set for the number v -/
theorem m_setL {y : Nat} (he : enR V A (Tb i) y) (hk : tK (Tb i) ≤ 24) (hk12 : enN (Tb i) y ≤ 12) {v : Nat} (wn : Int32) (f : Nat) : ∀ d c s, c + d = enN (Tb i) y → (∀ k, k < 32 → bt s k = (enQ (Tb i) y k && (decide (ctB (enB (Tb i) y) k < c) && v.testBit (ctB (enB (Tb i) y) k)))) → az_rn sc iX6_findSieve 18 [some (.ref m), some (.int (nI i)), some (.int (nI y)), some (.int wn), some (.int (nI f)), some (.int (nI v)), some (.int s), some (.int (nI c))] [] (mdG G m V A) = az_rn sc iX6_findSieve 18 [some (.ref m), some (.int (nI i)), some (.int (nI y)), some (.int wn), some (.int (nI f)), some (.int (nI v)), some (.int (sdI (Tb i) y v)), some (.int (nI (enN (Tb i) y)))] [] (mdG G m V A) := by
  intro d
  induction d with
  | zero =>
    intro c s hc hs
    have e : c = enN (Tb i) y := by omega
    subst e
    have hD : isDp (Tb i) y v s := by
      intro k hk2
      rw [hs k hk2]
      cases hq : enQ (Tb i) y k with
      | false => rw [Bool.false_and, Bool.false_and]
      | true =>
        have hek : k < tK (Tb i) ∧ enB (Tb i) y k = true := by
          unfold enQ at hq
          simpa using hq
        have := ctB_lt hek.2 hek.1
        rw [decide_eq_true (show ctB (enB (Tb i) y) k < enN (Tb i) y from this), Bool.true_and]
    rw [isDp_u hD (sdI_ok hk y v)]
  | succ d ih =>
    intro c s hc hs
    have hcl : c < enN (Tb i) y := by omega
    obtain ⟨e, e1, e2, e3⟩ := ctB_hit (show c < ctB (enB (Tb i) y) (tK (Tb i)) from hcl)
    have hA : A 24 c = nI e := by
      have := he.2 e e1 e2
      rw [e3] at this
      exact this
    rw [bX6_findSieve_18, md_i30, he.1, if_neg (nI_ge hcl (by omega)), md_r31, md_a24 (by omega), hA, sb_1 _ (by omega), nIb _ _ (by omega), nI_1]
    refine ih (c + 1) _ (by omega) (fun k hk2 => ?_)
    rw [b_or, hs k hk2]
    have hsh : bt ((if v.testBit c = true then (1 : Int32) else 0) <<< (nI e &&& 31)) k = (v.testBit c && decide (k = e)) := by
      by_cases cc : v.testBit c = true
      · rw [if_pos cc, b_sh1 (by omega) hk2, cc, Bool.true_and]
      · rw [if_neg cc, b_shl e (by omega) 0 hk2, b_0, Bool.and_false]
        have : v.testBit c = false := Bool.eq_false_iff.mpr cc
        rw [this, Bool.false_and]
    rw [hsh]
    by_cases hke : k = e
    · subst hke
      have hq : enQ (Tb i) y k = true := by
        unfold enQ
        rw [decide_eq_true e1, e2]
        rfl
      have n1 : ¬ c < c := by omega
      have n2 : c < c + 1 := by omega
      rw [hq, e3]
      simp
    · have e5 : decide (k = e) = false := decide_eq_false hke
      rw [e5, Bool.and_false, Bool.or_false]
      cases hq : enQ (Tb i) y k with
      | false => rw [Bool.false_and, Bool.false_and]
      | true =>
        have hek : k < tK (Tb i) ∧ enB (Tb i) y k = true := by
          unfold enQ at hq
          simpa using hq
        have hne : ctB (enB (Tb i) y) k ≠ c := by
          intro z
          rcases Nat.lt_or_gt_of_ne hke with q | q
          · have := ctB_lt hek.2 q
            omega
          · have := ctB_lt e2 q
            omega
        have e6 : (ctB (enB (Tb i) y) k < c) ↔ (ctB (enB (Tb i) y) k < c + 1) := by omega
        simp [e6]
theorem m_sieveL (h : mT V A nt Tb) (hi : i < nt) (ht : tld (Tb i)) {y : Nat} (hy : y < 24) (he : enR V A (Tb i) y) (hk12 : enN (Tb i) y ≤ 12) (wn : Int32) : ∀ d v f (o6 o7 : Option Value), v + d = 2 ^ enN (Tb i) y → f ≤ v → ∃ V', az_rn sc iX6_findSieve 8 [some (.ref m), some (.int (nI i)), some (.int (nI y)), some (.int wn), some (.int (nI f)), some (.int (nI v)), o6, o7] [] (mdG G m V A) = some (some (.int (nI (sq (svQ (Tb i) y) (sdI (Tb i) y) wn d v f).1)), mdG G m V' A) ∧ (∀ r, r ≠ 8 → V' r = V r) ∧ ∀ s, (sq (svQ (Tb i) y) (sdI (Tb i) y) wn d v f).2 = some s → V' 8 = s := by
  have hw := h.w hi
  have hk := hw.k24
  have hp := pw12 hk12
  intro d
  induction d with
  | zero =>
    intro v f o6 o7 hv hf
    refine ⟨V, ?_, fun _ _ => rfl, fun s z => by cases z⟩
    rw [bX6_findSieve_8, md_i30, he.1, sh_k hk12, if_pos (nI_le (show 2 ^ enN (Tb i) y ≤ v by omega) (by omega))]
    rfl
  | succ d ih =>
    intro v f o6 o7 hv hf
    have hst := m_setL (sc := sc) (G := G) (m := m) (V := V) (A := A) (v := v) he hk hk12 wn f (enN (Tb i) y) 0 0 (by omega) (fun k hk2 => by
      rw [b_0, decide_eq_false (Nat.not_lt_zero _), Bool.false_and, Bool.and_false])
    have e0 : az_rn sc iX6_findSieve 8 [some (.ref m), some (.int (nI i)), some (.int (nI y)), some (.int wn), some (.int (nI f)), some (.int (nI v)), o6, o7] [] (mdG G m V A) = az_rn sc iX6_findSieve 18 [some (.ref m), some (.int (nI i)), some (.int (nI y)), some (.int wn), some (.int (nI f)), some (.int (nI v)), some (.int (sdI (Tb i) y v)), some (.int (nI (enN (Tb i) y)))] [] (mdG G m V A) := by
      rw [bX6_findSieve_8, md_i30, he.1, sh_k hk12, if_neg (nI_ge (show v < 2 ^ enN (Tb i) y by omega) (by omega))]
      exact hst
    rw [e0, bX6_findSieve_18, md_i30, he.1, if_pos (nI_le (Nat.le_refl _) (by omega)), md_rc, m_isSieve h hi ht hy, bI_s, sq_s, nI_1, nI_1]
    by_cases c : svN (Tb i) y (sdI (Tb i) y v) = true
    · rw [if_pos c, if_pos (show (0 : Int32) = 0 from rfl), if_pos (show svQ (Tb i) y v = true from c)]
      exact ih (v + 1) f _ _ (by omega) (by omega)
    · rw [if_neg c, if_neg (show ¬ (1 : Int32) = 0 by decide), if_neg (show ¬ svQ (Tb i) y v = true from c)]
      by_cases c2 : nI f = wn
      · rw [if_neg (show ¬ ¬ nI (f + 1) = wn + 1 from fun z => z (by rw [← c2, nI_1])), if_pos c2, md_p32]
        refine ⟨_, rfl, fun r hr => up_n _ _ hr, fun s hs => ?_⟩
        cases hs
        exact up_s _ _ _
      · rw [if_pos (show ¬ nI (f + 1) = wn + 1 from fun z => c2 (i32_1.mp (by rw [nI_1]; exact z))), if_neg c2]
        exact ih (v + 1) (f + 1) _ _ (by omega) (by omega)
theorem m_findSieve (h : mT V A nt Tb) (hi : i < nt) (ht : tld (Tb i)) {y : Nat} (hy : y < 24) (hk12 : enN (Tb i) y ≤ 12) (wn : Int32) : ∃ V' A', az_ca sc iX6_findSieve [.ref m, .int (nI i), .int (nI y), .int wn] (mdG G m V A) = some (some (.int (nI (svR (Tb i) y wn).1)), mdG G m V' A') ∧ (∀ r, r ≠ 7 → r ≠ 8 → V' r = V r) ∧ (∀ r, r ≠ 24 → A' r = A r) ∧ ∀ s, (svR (Tb i) y wn).2 = some s → V' 8 = s := by
  obtain ⟨V1, A1, q1, q2, q3, q4⟩ := m_findEnds (sc := sc) (G := G) (m := m) h hi hy
  have h1 : mT V1 A1 nt Tb := mT_V (mT_A h (fun r hr => q3 r (by omega))) (q2 0 (by omega))
  obtain ⟨V2, w1, w2, w3⟩ := m_sieveL (sc := sc) (G := G) (m := m) h1 hi ht hy q4 hk12 wn (2 ^ enN (Tb i) y) 0 0 none none (by omega) (Nat.le_refl _)
  refine ⟨V2, A1, ?_, fun r r7 r8 => (w2 r r8).trans (q2 r r7), q3, w3⟩
  rw [eX6_findSieve, md_rc, q1, bV_s]
  exact w1
theorem m_againstSieves (h : mT V A nt Tb) (hi : i < nt) {y : Nat} (hy : y < 24) : ∃ V' A', az_ca sc iX6_againstSieves [.ref m, .int (nI i), .int (nI y)] (mdG G m V A) = some (some (.int (svE (Tb i) y)), mdG G m V' A') ∧ (∀ r, r ≠ 7 → V' r = V r) ∧ (∀ r, r ≠ 24 → A' r = A r) := by
  have h8 := h.2.1
  have hw := h.w hi
  have hk := hw.k24
  have hle : enN (Tb i) y ≤ tK (Tb i) := ctB_le _ _
  rw [eX6_againstSieves, md_r3, md_a3 (by omega), h.c hi]
  unfold svE
  rcases hw.c01 with hc | hc
  · rw [hc, if_neg (show ¬ ¬ (0 : Int32) = 0 by decide), if_pos (show (0 : Int32) = 0 from rfl)]
    exact ⟨V, A, rfl, fun _ _ => rfl, fun _ _ => rfl⟩
  · obtain ⟨V1, A1, q1, q2, q3, q4⟩ := m_findEnds (sc := sc) (G := G) (m := m) h hi hy
    refine ⟨V1, A1, ?_, q2, q3⟩
    rw [hc, if_pos (show ¬ (1 : Int32) = 0 by decide), if_neg (show ¬ (1 : Int32) = 0 by decide), md_rc, q1, bV_s, md_i30, q4.1]
    by_cases c : enN (Tb i) y ≤ 12
    · rw [if_pos (show nI (enN (Tb i) y) ≤ (12 : Int32) from (show nI (enN (Tb i) y) ≤ nI 12 from nI_le c (by omega))), if_pos c]
    · rw [if_neg (show ¬ nI (enN (Tb i) y) ≤ (12 : Int32) from (show ¬ nI (enN (Tb i) y) ≤ nI 12 from nI_ge (by omega) (by omega))), if_neg c]
end SIEVF
section SIEVG
variable {sc : az_S} {G G1 : az_H} {B x m : Nat} {V Vm : Nat → Int32} {A Am : Nat → Nat → Int32} {R : Nat → Nat → Option Nat} {S : wS} {ti ci : Nat → Nat} {i : Nat}
theorem iM_24 {V V' : Nat → Int32} {A A' : Nat → Nat → Int32} {S : wS} (h : iM V A S) (hV : ∀ r, r < 7 → V' r = V r) (hA : ∀ r, r ≠ 24 → A' r = A r) : iM V' A' S := iM_V (iM_A16 h (fun r hr => hA r (by omega))) (hV 0 (by omega)) (hV 1 (by omega)) (hV 2 (by omega)) (hV 4 (by omega))
theorem svR_lt {T : tb} {y : Nat} (h : enN T y ≤ 12) (wn : Int32) : (svR T y wn).1 ≤ 4096 := by
  have h1 := (sq_le (svQ T y) (sdI T y) wn (2 ^ enN T y) 0 0).2
  have h2 := pw12 h
  unfold svR
  omega
theorem svE_0 {T : tb} (hw : tbW T) {y : Nat} (h : svE T y = 0) : tC T = 1 ∧ enN T y ≤ 12 := by
  unfold svE at h
  rcases hw.c01 with hc | hc
  · rw [hc, if_pos rfl] at h
    exact absurd h (by decide)
  · rw [hc, if_neg (by decide)] at h
    by_cases c : enN T y ≤ 12
    · exact ⟨hc, c⟩
    · rw [if_neg c] at h
      exact absurd h (by decide)
theorem op_sieves (h : iC G B V A R S ti ci) (hB : x + 22 ≤ B) (hS : wW S) (hm : iM Vm Am S) (y1 y2 : Int32) : opU (az_ca sc iX5_sieves [.ref x, .int y1, .int y2] (clG G x V A R)) (az_ca sc iX6_sieves [.ref m, .int y1, .int y2] (mdG G1 m Vm Am)) G G1 B x m S := by
  have h8 := hS.1
  rcases ix_c y1 (n := sN S) (by omega) with ⟨i, hi, rfl⟩ | hy1
  · have hT := h.tabc (x := x) hB hi V A R
    have hw := hS.tw hi
    have hn6 := hw.n6
    rcases ix_c y2 (n := tN (sT S i)) (by omega) with ⟨y, hy, rfl⟩ | hy2
    · have hs := s_searchSieves (sc := sc) hT hw (hS.told hi) (show y < 24 by omega) (-1)
      obtain ⟨V2, A2, q1, q2, q3⟩ := m_againstSieves (sc := sc) (G := G1) (m := m) hm.1 hi (show y < 24 by omega)
      have hM2 : iM V2 A2 S := iM_24 hm (fun r hr => q2 r (by omega)) q3
      by_cases e0 : svE (sT S i) y = 0
      · obtain ⟨e1, e2⟩ := svE_0 hw e0
        obtain ⟨V3, A3, w1, w2, w3, w4⟩ := m_findSieve (sc := sc) (G := G1) (m := m) hM2.1 hi (hS.told hi e1) (show y < 24 by omega) e2 (-2)
        have hp := pw12 e2
        obtain ⟨n1, n2, n3⟩ := sq_all (svQ (sT S i) y) (sdI (sT S i) y) (wn := -1) (wm := -2) (fun j hj => nI_nm1 (by omega)) (fun j hj z => nI_nm1 (a := j + 1) (by omega) (by rw [← nI_1, z]; decide)) (2 ^ enN (sT S i) y) 0 0 (by omega)
        have n1' : (svR (sT S i) y (-1)).2 = none := n1
        rw [if_pos e0, n1'] at hs
        refine ⟨nI (svR (sT S i) y (-1)).1, G, V, A, R, V3, A3, S, ti, ci, ?_, ?_, h, iM_24 hM2 (fun r hr => w2 r (by omega) (by omega)) w3, hS, fun _ _ => rfl, rfl, rfl⟩
        · rw [eX5_sieves, cl_rc0, s_tableAt h hS hi, bR_s, tb_rc hT, s_hasObject hT hy hn6, bI_s, if_pos (by decide), hs, bI_s]
          rfl
        · rw [eX6_sieves, md_rc, m_isObjT hm hS hi hy, bI_s, if_pos (by decide), md_rc, q1, bI_s, if_pos e0, md_rc, w1, bI_s]
          have n3' : (svR (sT S i) y (-2)).1 = (svR (sT S i) y (-1)).1 := n3.symm
          rw [n3']
      · rw [if_neg e0] at hs
        refine ⟨svE (sT S i) y, G, V, A, R, V2, A2, S, ti, ci, ?_, ?_, h, hM2, hS, fun _ _ => rfl, rfl, rfl⟩
        · rw [eX5_sieves, cl_rc0, s_tableAt h hS hi, bR_s, tb_rc hT, s_hasObject hT hy hn6, bI_s, if_pos (by decide), hs, bI_s]
        · rw [eX6_sieves, md_rc, m_isObjT hm hS hi hy, bI_s, if_pos (by decide), md_rc, q1, bI_s, if_neg e0]
    · refine opU_n h hS hm (-2) ?_ ?_
      · rw [eX5_sieves, cl_rc0, s_tableAt h hS hi, bR_s, tb_rc hT, s_hasObjectN hT hy2, bI_s, if_neg (by decide)]
      · rw [eX6_sieves, md_rc, m_isObjN hm hS hi hy2, bI_s, if_neg (by decide)]
  · refine opU_n h hS hm (-2) ?_ ?_
    · rw [eX5_sieves, cl_rc0, s_tableAtN h hy1, bR_0]
    · rw [eX6_sieves, md_rc, m_isObjM hm hS hy1, bI_s, if_neg (by decide)]
theorem op_sieve (h : iC G B V A R S ti ci) (hB : x + 22 ≤ B) (hS : wW S) (hm : iM Vm Am S) (y1 y2 y3 : Int32) : opU (az_ca sc iX5_sieve [.ref x, .int y1, .int y2, .int y3] (clG G x V A R)) (az_ca sc iX6_sieve [.ref m, .int y1, .int y2, .int y3] (mdG G1 m Vm Am)) G G1 B x m S := by
  have h8 := hS.1
  rcases ix_c y1 (n := sN S) (by omega) with ⟨i, hi, rfl⟩ | hy1
  · have hT := h.tabc (x := x) hB hi V A R
    have hw := hS.tw hi
    have hn6 := hw.n6
    rcases ix_c y2 (n := tN (sT S i)) (by omega) with ⟨y, hy, rfl⟩ | hy2
    · by_cases h0 : (0 : Int32) ≤ y3
      · have k31 : ¬ y3 = -1 := fun z => by
          rw [z] at h0
          exact absurd h0 (by decide)
        have hs := s_searchSieves (sc := sc) hT hw (hS.told hi) (show y < 24 by omega) y3
        obtain ⟨V2, A2, q1, q2, q3⟩ := m_againstSieves (sc := sc) (G := G1) (m := m) hm.1 hi (show y < 24 by omega)
        have hM2 : iM V2 A2 S := iM_24 hm (fun r hr => q2 r (by omega)) q3
        by_cases e0 : svE (sT S i) y = 0
        · obtain ⟨e1, e2⟩ := svE_0 hw e0
          obtain ⟨V3, A3, w1, w2, w3, w4⟩ := m_findSieve (sc := sc) (G := G1) (m := m) hM2.1 hi (hS.told hi e1) (show y < 24 by omega) e2 y3
          obtain ⟨p1, p2⟩ := sq_pick (svQ (sT S i) y) (sdI (sT S i) y) y3 (2 ^ enN (sT S i) y) 0 0
          have hle := svR_lt e2 y3
          have hM3 : iM V3 A3 S := iM_24 hM2 (fun r hr => w2 r (by omega) (by omega)) w3
          rw [if_pos e0] at hs
          cases hz : (svR (sT S i) y y3).2 with
          | some s =>
            rw [hz] at hs
            have p3 : y3 + 1 = nI (svR (sT S i) y y3).1 := p1 s hz
            refine ⟨s, G, V, A, R, V3, A3, S, ti, ci, ?_, ?_, h, hM3, hS, fun _ _ => rfl, rfl, rfl⟩
            · rw [eX5_sieve, cl_rc0, s_tableAt h hS hi, bR_s, tb_rc hT, s_hasObject hT hy hn6, bI_s, if_neg (by decide), if_pos h0, hs, bI_s]
            · rw [eX6_sieve, md_rc, m_isObjT hm hS hi hy, bI_s, if_neg (by decide), if_pos h0, md_rc, q1, bI_s, if_pos e0, md_rc, w1, bI_s, if_neg (fun z => z p3.symm), md_i32, w4 s hz]
          | none =>
            rw [hz] at hs
            have p3 := p2 hz
            have t2 : ¬ nI (svR (sT S i) y y3).1 = y3 + 1 := by
              intro z
              by_cases t0 : (svR (sT S i) y y3).1 = 0
              · rw [t0] at z
                exact k31 (i32_1.mp (z.symm.trans (by decide)))
              · have t3 : (svR (sT S i) y y3).1 = ((svR (sT S i) y y3).1 - 1) + 1 := by omega
                rw [t3, ← nI_1] at z
                exact p3 ((svR (sT S i) y y3).1 - 1) (Nat.zero_le _) (by
                  show (svR (sT S i) y y3).1 - 1 < (svR (sT S i) y y3).1
                  omega) (i32_1.mp z)
            refine ⟨-1, G, V, A, R, V3, A3, S, ti, ci, ?_, ?_, h, hM3, hS, fun _ _ => rfl, rfl, rfl⟩
            · rw [eX5_sieve, cl_rc0, s_tableAt h hS hi, bR_s, tb_rc hT, s_hasObject hT hy hn6, bI_s, if_neg (by decide), if_pos h0, hs, bI_s]
              show some (some (Value.int (if ¬ y3 = -1 then -1 else nI (svR (sT S i) y y3).1)), _) = _
              rw [if_pos k31]
            · rw [eX6_sieve, md_rc, m_isObjT hm hS hi hy, bI_s, if_neg (by decide), if_pos h0, md_rc, q1, bI_s, if_pos e0, md_rc, w1, bI_s, if_pos t2]
        · rw [if_neg e0] at hs
          refine ⟨svE (sT S i) y, G, V, A, R, V2, A2, S, ti, ci, ?_, ?_, h, hM2, hS, fun _ _ => rfl, rfl, rfl⟩
          · rw [eX5_sieve, cl_rc0, s_tableAt h hS hi, bR_s, tb_rc hT, s_hasObject hT hy hn6, bI_s, if_neg (by decide), if_pos h0, hs, bI_s]
          · rw [eX6_sieve, md_rc, m_isObjT hm hS hi hy, bI_s, if_neg (by decide), if_pos h0, md_rc, q1, bI_s, if_neg e0]
      · refine opU_n h hS hm (-2) ?_ ?_
        · rw [eX5_sieve, cl_rc0, s_tableAt h hS hi, bR_s, tb_rc hT, s_hasObject hT hy hn6, bI_s, if_neg (by decide), if_neg h0]
        · rw [eX6_sieve, md_rc, m_isObjT hm hS hi hy, bI_s, if_neg (by decide), if_neg h0]
    · refine opU_n h hS hm (-2) ?_ ?_
      · rw [eX5_sieve, cl_rc0, s_tableAt h hS hi, bR_s, tb_rc hT, s_hasObjectN hT hy2, bI_s, if_pos rfl]
      · rw [eX6_sieve, md_rc, m_isObjN hm hS hi hy2, bI_s, if_pos rfl]
  · refine opU_n h hS hm (-2) ?_ ?_
    · rw [eX5_sieve, cl_rc0, s_tableAtN h hy1, bR_0]
    · rw [eX6_sieve, md_rc, m_isObjM hm hS hy1, bI_s, if_pos rfl]
end SIEVG
