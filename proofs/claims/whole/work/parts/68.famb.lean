/-! FAMILIES: the class -/
def pq (U : tb) (lo hi : Nat → Nat) (y e : Nat) : Bool := decide (fr U e = lo y ∧ to U e = hi y)
def layR (A : Nat → Nat → Int32) (p : Nat → Nat → Bool) (K n : Nat) : Prop := ∀ y, y < n → A 12 y = nI (ctB (p y) K) ∧ ∀ e, e < K → p y e = true → A 11 (24 * y + ctB (p y) e) = nI e
/-- does the row hold -/
def hbB (T U : tb) (l h r : Nat → Nat) : Bool := !exB (fun a => !decide (wy U (l a) (r (to T a)) = wy U (r (fr T a)) (h a))) (tK T)
section FAMB
variable {sc : az_S} {G : az_H} {x t u rl rh : Nat} {V : Nat → Int32} {A : Nat → Nat → Int32} {R : Nat → Nat → Option Nat} {T U : tb} {lor hir : Nat → Int32} {lo hi : Nat → Nat} {p : Nat → Nat → Bool} {K n : Nat}
theorem s_lay (hT : ∀ V A, tbC (clG G x V A R) t T) (hw : tbW T) (hU : ∀ V A, tbC (clG G x V A R) u U) (hwu : tbW U) (hrl : ∀ V A', A' 19 = A 19 → (clG G x V A' R).1 rl = some (.inl (0, 24, .inl lor))) (hrh : ∀ V A', A' 19 = A 19 → (clG G x V A' R).1 rh = some (.inl (0, 24, .inl hir))) (hlo : ∀ y, y < tN T → lor y = nI (lo y) ∧ lo y < 24) (hhi : ∀ y, y < tN T → hir y = nI (hi y) ∧ hi y < 24) : ∃ A', az_ca sc iX2_lay [.ref (x + 8), .ref t, .ref u, .ref rl, .ref rh] (clG G x V A R) = some (some (.int (nI (prd (pq U lo hi) (tK U) (tN T)))), clG G x V A' R) ∧ (∀ r, r ≠ 11 → r ≠ 12 → r ≠ 13 → A' r = A r) ∧ layR A' (pq U lo hi) (tK U) (tN T) ∧ ∀ y, y < tN T → A' 13 y = 0 := by
  have hku := hwu.k24
  have hn6 := hw.n6
  have L12 : ∀ y, y < tN T → ∀ d e A1, e + d = tK U → (∀ r, r ≠ 11 → r ≠ 12 → r ≠ 13 → A1 r = A r) → layR A1 (pq U lo hi) (tK U) y → (∀ y', y' < y → A1 13 y' = 0) → (∀ e', e' < e → pq U lo hi y e' = true → A1 11 (24 * y + ctB (pq U lo hi y) e') = nI e') → ∃ A2, az_rn sc iX2_lay 12 [some (.ref (x + 8)), some (.ref t), some (.ref u), some (.ref rl), some (.ref rh), some (.int (nI (prd (pq U lo hi) (tK U) y))), some (.int (nI y)), some (.int (nI (ctB (pq U lo hi y) e))), some (.int (nI e))] [] (clG G x V A1 R) = az_rn sc iX2_lay 4 [some (.ref (x + 8)), some (.ref t), some (.ref u), some (.ref rl), some (.ref rh), some (.int (nI (prd (pq U lo hi) (tK U) (y + 1)))), some (.int (nI (y + 1))), some (.int (nI (ctB (pq U lo hi y) (tK U)))), some (.int (nI (tK U)))] [] (clG G x V A2 R) ∧ (∀ r, r ≠ 11 → r ≠ 12 → r ≠ 13 → A2 r = A r) ∧ layR A2 (pq U lo hi) (tK U) (y + 1) ∧ (∀ y', y' < y + 1 → A2 13 y' = 0) := by
    intro y hy d
    induction d with
    | zero =>
      intro e A1 he h1 h2 h3 h4
      have ee : e = tK U := by omega
      subst ee
      refine ⟨va_up (va_up A1 12 (upd (A1 12) y (nI (ctB (pq U lo hi y) (tK U))))) 13 (upd (A1 13) y 0), ?_, fun r r1 r2 r3 => ?_, fun y' hy' => ?_, fun y' hy' => ?_⟩
      · rw [bX2_lay_12, tb_f1 (hU _ _), if_pos (nI_le (Nat.le_refl _) (by omega)), cl8_r3, s_write cl_c12 (by omega) (by omega), bV_s, cl_u12, cl8_r4, s_write cl_c13 (by omega) (by omega), bV_s, cl_u13, up_n _ _ (show 13 ≠ 12 by omega), pk_mul, nI_1]
        rfl
      · rw [up_n _ _ r3, up_n _ _ r2]
        exact h1 r r1 r2 r3
      · rw [up_n _ _ (show 12 ≠ 13 by omega), up_s, up_n _ _ (show 11 ≠ 13 by omega), up_n _ _ (show 11 ≠ 12 by omega)]
        by_cases e2 : y' = y
        · subst e2
          rw [upd_s]
          exact ⟨rfl, h4⟩
        · rw [upd_n _ _ e2]
          exact h2 y' (by omega)
      · rw [up_s]
        by_cases e2 : y' = y
        · subst e2
          exact upd_s _ _ _
        · rw [upd_n _ _ e2]
          exact h3 y' (by omega)
    | succ d ih =>
      intro e A1 he h1 h2 h3 h4
      have hek : e < tK U := by omega
      obtain ⟨l1, l2⟩ := hlo y hy
      obtain ⟨l3, l4⟩ := hhi y hy
      have a19 : A1 19 = A 19 := h1 19 (by omega) (by omega) (by omega)
      have hct := ctB_le (pq U lo hi y) e
      rw [bX2_lay_12, tb_f1 (hU _ _), if_neg (nI_ge hek (by omega)), s_read (hrl V A1 a19) (by omega) (by omega), bI_s, s_read (hrh V A1 a19) (by omega) (by omega), bI_s, l1, l3, tb_rc (hU _ _), s_leadsN (hU _ _) hwu hek (by omega) (by omega), bI_s, nI_1, nI_1]
      by_cases c : fr U e = lo y ∧ to U e = hi y
      · have hp : pq U lo hi y e = true := decide_eq_true c
        have hc : ctB (pq U lo hi y) (e + 1) = ctB (pq U lo hi y) e + 1 := ctB_at hp
        rw [if_pos c, if_neg (show ¬ (1 : Int32) = 0 by decide), cl8_r2, nI_m24, s_write cl_c11 (by omega) (by omega), bV_s, cl_u11, ← hc]
        refine ih (e + 1) _ (by omega) (fun r r1 r2 r3 => ?_) (fun y' hy' => ?_) (fun y' hy' => ?_) (fun e' he' hp' => ?_)
        · rw [up_n _ _ r1]
          exact h1 r r1 r2 r3
        · rw [up_n _ _ (show 12 ≠ 11 by omega), up_s]
          refine ⟨(h2 y' hy').1, fun e' he' hp' => ?_⟩
          have := ctB_le (pq U lo hi y') e'
          rw [upd_n _ _ (by omega)]
          exact (h2 y' hy').2 e' he' hp'
        · rw [up_n _ _ (show 13 ≠ 11 by omega)]
          exact h3 y' hy'
        · rw [up_s]
          by_cases e2 : e' = e
          · subst e2
            exact upd_s _ _ _
          · have := ctB_lt (p := pq U lo hi y) hp' (show e' < e by omega)
            rw [upd_n _ _ (by omega)]
            exact h4 e' (by omega) hp'
      · have hp : pq U lo hi y e = false := decide_eq_false c
        have hc : ctB (pq U lo hi y) (e + 1) = ctB (pq U lo hi y) e := by rw [ctB_succ, hp]; simp
        rw [if_neg c, if_pos (show (0 : Int32) = 0 from rfl), ← hc]
        refine ih (e + 1) _ (by omega) h1 h2 h3 (fun e' he' hp' => ?_)
        by_cases e2 : e' = e
        · subst e2
          rw [hp] at hp'
          cases hp'
        · exact h4 e' (by omega) hp'
  have L4 : ∀ d y (o7 o8 : Option Value) A1, y + d = tN T → (∀ r, r ≠ 11 → r ≠ 12 → r ≠ 13 → A1 r = A r) → layR A1 (pq U lo hi) (tK U) y → (∀ y', y' < y → A1 13 y' = 0) → ∃ A2, az_rn sc iX2_lay 4 [some (.ref (x + 8)), some (.ref t), some (.ref u), some (.ref rl), some (.ref rh), some (.int (nI (prd (pq U lo hi) (tK U) y))), some (.int (nI y)), o7, o8] [] (clG G x V A1 R) = some (some (.int (nI (prd (pq U lo hi) (tK U) (tN T)))), clG G x V A2 R) ∧ (∀ r, r ≠ 11 → r ≠ 12 → r ≠ 13 → A2 r = A r) ∧ layR A2 (pq U lo hi) (tK U) (tN T) ∧ ∀ y, y < tN T → A2 13 y = 0 := by
    intro d
    induction d with
    | zero =>
      intro y o7 o8 A1 hy h1 h2 h3
      have e : y = tN T := by omega
      subst e
      refine ⟨A1, ?_, h1, h2, h3⟩
      rw [bX2_lay_4, tb_f0 (hT _ _), if_pos (nI_le (Nat.le_refl _) (by omega))]
    | succ d ih =>
      intro y o7 o8 A1 hy h1 h2 h3
      obtain ⟨A2, q1, q2, q3, q4⟩ := L12 y (by omega) (tK U) 0 A1 (by omega) h1 h2 h3 (fun e' he' => absurd he' (Nat.not_lt_zero _))
      obtain ⟨A3, w1, w2⟩ := ih (y + 1) (some (.int (nI (ctB (pq U lo hi y) (tK U))))) (some (.int (nI (tK U)))) A2 (by omega) q2 q3 q4
      refine ⟨A3, ?_, w2⟩
      rw [bX2_lay_4, tb_f0 (hT _ _), if_neg (nI_ge (show y < tN T by omega) (by omega))]
      exact q1.trans w1
  obtain ⟨A2, q1, q2⟩ := L4 (tN T) 0 none none A (by omega) (fun _ _ _ _ => rfl) (fun y hy => absurd hy (Nat.not_lt_zero _)) (fun y hy => absurd hy (Nat.not_lt_zero _))
  refine ⟨A2, ?_, q2⟩
  rw [eX2_lay]
  exact q1
theorem s_choose {r : Nat → Nat} (hn : n ≤ 6) (hK : K ≤ 24) (hl : layR A p K n) (hr : okR p K n r) (h13 : ∀ y, y < n → A 13 y = nI (ctB (p y) (r y))) : ∃ f, az_ca sc iX2_choose [.ref (x + 8), .int (nI n)] (clG G x V A R) = some (none, clG G x V (va_up A 9 f) R) ∧ ∀ y, y < n → f y = nI (r y) := by
  have loop : ∀ d y f, y + d = n → (∀ y', y' < y → f y' = nI (r y')) → ∃ f', az_rn sc iX2_choose 2 [some (.ref (x + 8)), some (.int (nI n)), some (.int (nI y))] [] (clG G x V (va_up A 9 f) R) = some (none, clG G x V (va_up A 9 f') R) ∧ ∀ y, y < n → f' y = nI (r y) := by
    intro d
    induction d with
    | zero =>
      intro y f hy hf
      have e : y = n := by omega
      subst e
      exact ⟨f, by rw [bX2_choose_2, if_pos (nI_le (Nat.le_refl _) (by omega))], hf⟩
    | succ d ih =>
      intro y f hy hf
      have hyn : y < n := by omega
      obtain ⟨p1, p2⟩ := hr y hyn
      have hct := ctB_le (p y) (r y)
      rw [bX2_choose_2, if_neg (nI_ge hyn (by omega)), cl8_r0, cl8_r2, cl8_r4, s_read cl_c13 (by omega) (by omega), bI_s, up_n _ _ (show 13 ≠ 9 by omega), h13 y hyn, nI_m24, s_read cl_c11 (by omega) (by omega), bI_s, up_n _ _ (show 11 ≠ 9 by omega), (hl y hyn).2 (r y) p2 p1, s_write cl_c9 (by omega) (by omega), bV_s, cl_u9, up_s, up_up, nI_1]
      refine ih (y + 1) _ (by omega) (fun y' hy' => ?_)
      by_cases e : y' = y
      · subst e
        exact upd_s _ _ _
      · rw [upd_n _ _ e]
        exact hf y' (by omega)
  obtain ⟨f, q1, q2⟩ := loop n 0 (A 9) (by omega) (fun y hy => absurd hy (Nat.not_lt_zero _))
  rw [up_id] at q1
  refine ⟨f, ?_, q2⟩
  rw [eX2_choose]
  exact q1
theorem s_holds {l h r : Nat → Nat} (hT : tbC (clG G x V A R) t T) (hw : tbW T) (hU : tbC (clG G x V A R) u U) (hwu : tbW U) (hrl : (clG G x V A R).1 rl = some (.inl (0, 24, .inl lor))) (hrh : (clG G x V A R).1 rh = some (.inl (0, 24, .inl hir))) (hl : ∀ a, a < tK T → lor a = nI (l a) ∧ l a < tK U) (hh : ∀ a, a < tK T → hir a = nI (h a) ∧ h a < tK U) (h9 : ∀ y, y < tN T → A 9 y = nI (r y) ∧ r y < tK U) : az_ca sc iX2_holds [.ref (x + 8), .ref t, .ref u, .ref rl, .ref rh] (clG G x V A R) = some (some (.int (if hbB T U l h r = true then 1 else 0)), clG G x V A R) := by
  have hk := hw.k24
  have hku := hwu.k24
  have hn6 := hw.n6
  rw [eX2_holds]
  refine (lp_exO (fun a (o : Option Value × Option Value) => az_rn sc iX2_holds 2 [some (.ref (x + 8)), some (.ref t), some (.ref u), some (.ref rl), some (.ref rh), some (.int (nI a)), o.1, o.2] [] (clG G x V A R)) (fun a => !decide (wy U (l a) (r (to T a)) = wy U (r (fr T a)) (h a))) (some (some (.int 0), clG G x V A R)) (some (some (.int 1), clG G x V A R)) (tK T) (fun a o ha => ?_) (fun o => ?_) (none, none)).trans ?_
  · obtain ⟨l1, l2⟩ := hl a ha
    obtain ⟨l3, l4⟩ := hh a ha
    have f1 := hw.frn ha
    have f2 := hw.ton ha
    obtain ⟨r1, r2⟩ := h9 (to T a) f2
    obtain ⟨r3, r4⟩ := h9 (fr T a) f1
    have e : az_rn sc iX2_holds 2 [some (.ref (x + 8)), some (.ref t), some (.ref u), some (.ref rl), some (.ref rh), some (.int (nI a)), o.1, o.2] [] (clG G x V A R) = if wy U (l a) (r (to T a)) = wy U (r (fr T a)) (h a) then az_rn sc iX2_holds 2 [some (.ref (x + 8)), some (.ref t), some (.ref u), some (.ref rl), some (.ref rh), some (.int (nI (a + 1))), some (.int (wy U (l a) (r (to T a)))), some (.int (wy U (r (fr T a)) (h a)))] [] (clG G x V A R) else some (some (.int 0), clG G x V A R) := by
      rw [bX2_holds_2, tb_f1 hT, if_neg (nI_ge ha (by omega)), s_read hrl (by omega) (by omega), bI_s, l1, cl8_r0, tb_rc hT, s_toOf hT (by omega), bI_s, hw.g ha, s_read cl_c9 (by omega) (by omega), bI_s, r1, tb_rc hU, s_wayAt hU l2 r2 hku, bI_s, cl8_r0, tb_rc hT, s_fromOf hT (by omega), bI_s, hw.f ha, s_read cl_c9 (by omega) (by omega), bI_s, r3, s_read hrh (by omega) (by omega), bI_s, l3, tb_rc hU, s_wayAt hU r4 l4 hku, bI_s, nI_1, zr_0]
    refine ⟨fun hz => ?_, fun hz => ⟨(some (.int (wy U (l a) (r (to T a)))), some (.int (wy U (r (fr T a)) (h a)))), ?_⟩⟩
    · rw [e, if_neg (by simpa using hz)]
    · rw [e, if_pos (by simpa using hz)]
  · rw [bX2_holds_2, tb_f1 hT, if_pos (nI_le (Nat.le_refl _) (by omega)), zr_1]
  · unfold hbB
    cases exB (fun a => !decide (wy U (l a) (r (to T a)) = wy U (r (fr T a)) (h a))) (tK T) <;> rfl
theorem s_step {r : Nat → Nat} (hn : n ≤ 6) (hK : K ≤ 24) (hl : layR A p K n) (hr : okR p K n r) (h13 : ∀ y, y < n → A 13 y = nI (ctB (p y) (r y))) : ∃ f, az_ca sc iX2_step [.ref (x + 8), .int (nI n)] (clG G x V A R) = some (none, clG G x V (va_up A 13 f) R) ∧ ∀ y, y < n → f y = nI (ctB (p y) ((od p K n r).1 y)) := by
  have loop : ∀ q r f (o3 : Option Value), q ≤ n → okR p K n r → (∀ y, y < n → f y = nI (ctB (p y) (r y))) → ∃ f', az_rn sc iX2_step 4 [some (.ref (x + 8)), some (.int (nI n)), some (.int (pm q)), o3] [] (clG G x V (va_up A 13 f) R) = some (none, clG G x V (va_up A 13 f') R) ∧ ∀ y, y < n → f' y = nI (ctB (p y) ((od p K q r).1 y)) := by
    intro q
    induction q with
    | zero =>
      intro r f o3 hq hr hf
      exact ⟨f, by rw [bX2_step_4, if_pos (show pm 0 < (0 : Int32) by decide)], hf⟩
    | succ q ih =>
      intro r f o3 hq hr hf
      obtain ⟨p1, p2⟩ := hr q (by omega)
      have hct := ctB_le (p q) (r q)
      have hck := ctB_le (p q) K
      obtain ⟨k1, k2⟩ := af_ct (p := p q) (K := K) (i := r q + 1) p2
      rw [ctB_at p1] at k1 k2
      rw [bX2_step_4, if_neg (show ¬ pm (q + 1) < (0 : Int32) from nI_nlt0 (show q < 2 ^ 31 by omega)), show pm (q + 1) = nI q from rfl, cl8_r4, s_read cl_c13 (by omega) (by omega), bI_s, up_s, hf q (by omega), cl8_r3, s_read cl_c12 (by omega) (by omega), bI_s, up_n _ _ (show 12 ≠ 13 by omega), (hl q (by omega)).1, nI_1, od]
      cases e : af (p q) K (r q + 1) with
      | some k =>
        obtain ⟨a1, a2, a3, a4⟩ := af_some e
        have h5 := ctB_lt a3 a2
        have h6 := k1 k e
        dsimp only
        rw [if_neg (nI_ge (show ctB (p q) (r q) + 1 < ctB (p q) K by omega) (by omega)), cl8_r4, s_write cl_c13 (by omega) (by omega), bV_s, cl_u13, up_s, up_up]
        refine ⟨_, rfl, fun y hy => ?_⟩
        by_cases e2 : y = q
        · subst e2
          rw [upd_s, up_s, h6]
        · rw [upd_n _ _ e2, up_n _ _ e2]
          exact hf y hy
      | none =>
        have h6 := k2 e
        obtain ⟨f1, f2, f3, f4⟩ := fs_ok (p := p q) (K := K) (by omega)
        dsimp only
        rw [if_pos (nI_le (show ctB (p q) K ≤ ctB (p q) (r q) + 1 by omega) (by omega)), cl8_r4, s_write cl_c13 (by omega) (by omega), bV_s, cl_u13, up_s, up_up, pm_a]
        refine ih (va_up r q (fs (p q) K)) _ _ (by omega) (fun y hy => ?_) (fun y hy => ?_)
        · by_cases e2 : y = q
          · subst e2
            rw [up_s]
            exact ⟨f2, f3⟩
          · rw [up_n _ _ e2]
            exact hr y hy
        · by_cases e2 : y = q
          · subst e2
            rw [upd_s, up_s, f4]
            rfl
          · rw [upd_n _ _ e2, up_n _ _ e2]
            exact hf y hy
  obtain ⟨f, q1, q2⟩ := loop n r (A 13) none (Nat.le_refl _) hr h13
  rw [up_id] at q1
  refine ⟨f, ?_, q2⟩
  rw [eX2_step, pm_s]
  exact q1
theorem s_famS {l h : Nat → Nat} (hT : ∀ V A, tbC (clG G x V A R) t T) (hw : tbW T) (hU : ∀ V A, tbC (clG G x V A R) u U) (hwu : tbW U) (hrl : ∀ V A', A' 19 = A 19 → (clG G x V A' R).1 rl = some (.inl (0, 24, .inl lor))) (hrh : ∀ V A', A' 19 = A 19 → (clG G x V A' R).1 rh = some (.inl (0, 24, .inl hir))) (hl : ∀ a, a < tK T → lor a = nI (l a) ∧ l a < tK U) (hh : ∀ a, a < tK T → hir a = nI (h a) ∧ h a < tK U) (wn : Int32) : ∃ A', az_ca sc iX2_search [.ref (x + 8), .ref t, .ref u, .ref rl, .ref rh, .int wn] (clG G x V A R) = some (some (.int (nI (fq (pq U l h) (tK U) (tN T) (hbB T U l h) wn (prd (pq U l h) (tK U) (tN T)) (fun y => fs (pq U l h y) (tK U)) 0).1)), clG G x V A' R) ∧ (∀ r, r < 9 ∨ 13 < r → A' r = A r) ∧ ∀ σ, (fq (pq U l h) (tK U) (tN T) (hbB T U l h) wn (prd (pq U l h) (tK U) (tN T)) (fun y => fs (pq U l h y) (tK U)) 0).2 = some σ → ∀ y, y < tN T → A' 10 y = nI (σ y) := by
  have hk := hw.k24
  have hku := hwu.k24
  have hn6 := hw.n6
  have hnk := hw.nk
  obtain ⟨A1, e1, e2, e3, e4⟩ := s_lay (sc := sc) (x := x) (V := V) (A := A) hT hw hU hwu hrl hrh (lo := l) (hi := h) (fun y hy => ⟨(hl y (by omega)).1, by have := (hl y (by omega)).2; omega⟩) (fun y hy => ⟨(hh y (by omega)).1, by have := (hh y (by omega)).2; omega⟩)
  have hpr := prd_lt (p := pq U l h) hku hn6
  generalize hP : prd (pq U l h) (tK U) (tN T) = P at e1 hpr ⊢
  have loop : ∀ d i r f A1, i + d = P → f ≤ i → (∀ r, r < 9 ∨ 13 < r → A1 r = A r) → layR A1 (pq U l h) (tK U) (tN T) → (0 < d → okR (pq U l h) (tK U) (tN T) r ∧ vl (pq U l h) (tK U) r (tN T) = i ∧ ∀ y, y < tN T → A1 13 y = nI (ctB (pq U l h y) (r y))) → ∃ A', az_rn sc iX2_search 11 [some (.ref (x + 8)), some (.ref t), some (.ref u), some (.ref rl), some (.ref rh), some (.int wn), some (.int (nI P)), some (.int (nI f)), some (.int (nI i))] [] (clG G x V A1 R) = some (some (.int (nI (fq (pq U l h) (tK U) (tN T) (hbB T U l h) wn d r f).1)), clG G x V A' R) ∧ (∀ r, r < 9 ∨ 13 < r → A' r = A r) ∧ (∀ σ, (fq (pq U l h) (tK U) (tN T) (hbB T U l h) wn d r f).2 = some σ → ∀ y, y < tN T → A' 10 y = nI (σ y)) ∧ ((fq (pq U l h) (tK U) (tN T) (hbB T U l h) wn d r f).2 = none → A' 10 = A1 10) := by
    intro d
    induction d with
    | zero =>
      intro i r f A1 hi hf h1 h2 h3
      have e : i = P := by omega
      subst e
      refine ⟨A1, ?_, h1, fun σ z => (by cases z), fun _ => rfl⟩
      rw [bX2_search_11, if_pos (nI_le (Nat.le_refl _) (by omega))]
      rfl
    | succ d ih =>
      intro i r f A1 hi hf h1 h2 h3
      obtain ⟨o1, o2, o3⟩ := h3 (Nat.succ_pos _)
      obtain ⟨n1, n2, n3⟩ := od_ok (pq U l h) (tK U) (tN T) r o1
      obtain ⟨f9, c1, c2⟩ := s_choose (sc := sc) (G := G) (x := x) (V := V) (R := R) (A := A1) hn6 hku h2 o1 o3
      have a19 : va_up A1 9 f9 19 = A 19 := (up_n _ _ (by omega)).trans (h1 19 (by omega))
      have hh1 := s_holds (sc := sc) (G := G) (x := x) (V := V) (R := R) (A := va_up A1 9 f9) (hT _ _) hw (hU _ _) hwu (hrl V _ a19) (hrh V _ a19) hl hh (r := r) (fun y hy => by
        rw [up_s]
        exact ⟨c2 y hy, (o1 y hy).2⟩)
      have l2 : layR (va_up A1 9 f9) (pq U l h) (tK U) (tN T) := fun y hy => by
        rw [up_n _ _ (show 12 ≠ 9 by omega), up_n _ _ (show 11 ≠ 9 by omega)]
        exact h2 y hy
      have l13 : ∀ y, y < tN T → va_up A1 9 f9 13 y = nI (ctB (pq U l h y) (r y)) := fun y hy => by
        rw [up_n _ _ (show 13 ≠ 9 by omega)]
        exact o3 y hy
      have nx : 0 < d → (od (pq U l h) (tK U) (tN T) r).2 = false := by
        intro hd
        cases hz : (od (pq U l h) (tK U) (tN T) r).2 with
        | false => rfl
        | true =>
          have := n3 hz
          omega
      rw [bX2_search_11, if_neg (nI_ge (show i < P by omega) (by omega)), tb_f0 (hT _ _), cl_rc8, c1, bV_s, cl_rc8, hh1, bI_s, fq_s, nI_1, nI_1]
      by_cases hb : hbB T U l h r = true
      · rw [if_pos hb, if_pos hb, if_neg (show ¬ (1 : Int32) = 0 by decide)]
        by_cases c : nI f = wn
        · have a9 : (clG G x V (va_up A1 9 f9) R).1 (x + 9) = some (.inl (0, 6, .inl f9)) := by rw [cl_c9, up_s]
          obtain ⟨fs', s1, s2⟩ := s_step (sc := sc) (G := G) (x := x) (V := V) (R := R) (A := va_up (va_up A1 9 f9) 10 (cpF f9 (A1 10) (tN T))) (p := pq U l h) (K := tK U) (n := tN T) hn6 hku (fun y hy => by
            rw [up_n _ _ (show 12 ≠ 10 by omega), up_n _ _ (show 11 ≠ 10 by omega)]
            exact l2 y hy) o1 (fun y hy => by
            rw [up_n _ _ (show 13 ≠ 10 by omega)]
            exact l13 y hy)
          obtain ⟨A', q1, q2, q3, q4⟩ := ih (i + 1) (od (pq U l h) (tK U) (tN T) r).1 (f + 1) (va_up (va_up (va_up A1 9 f9) 10 (cpF f9 (A1 10) (tN T))) 13 fs') (by omega) (by omega) (fun r hr => by
            rw [up_n _ _ (by omega), up_n _ _ (by omega), up_n _ _ (by omega)]
            exact h1 r hr) (fun y hy => by
            rw [up_n _ _ (show 12 ≠ 13 by omega), up_n _ _ (show 11 ≠ 13 by omega), up_n _ _ (show 12 ≠ 10 by omega), up_n _ _ (show 11 ≠ 10 by omega)]
            exact l2 y hy) (fun hd => ⟨n1, by rw [n2 (nx hd), o2], fun y hy => by rw [up_s]; exact s2 y hy⟩)
          have hnone : (fq (pq U l h) (tK U) (tN T) (hbB T U l h) wn d (od (pq U l h) (tK U) (tN T) r).1 (f + 1)).2 = none := by
            cases hz : (fq (pq U l h) (tK U) (tN T) (hbB T U l h) wn d (od (pq U l h) (tK U) (tN T) r).1 (f + 1)).2 with
            | none => rfl
            | some σ =>
              obtain ⟨j, j1, j2, j3⟩ := (fq_pick (pq U l h) (tK U) (tN T) (hbB T U l h) wn d (od (pq U l h) (tK U) (tN T) r).1 (f + 1)).1 σ hz
              have j4 := (fq_le (pq U l h) (tK U) (tN T) (hbB T U l h) wn d (od (pq U l h) (tK U) (tN T) r).1 (f + 1)).2
              rw [← c] at j3
              rw [nI_inj (by omega) (by omega)] at j3
              omega
          refine ⟨A', ?_, q2, fun σ hσ => ?_, fun z => ?_⟩
          · rw [if_neg (fun z => z c), cl8_r0, cl8_r1, tb_f0 (hT _ _), s_copy a9 cl_c10 (by omega) hn6 hn6 (by omega) (by omega), bV_s, cl_u10, up_n _ _ (show 10 ≠ 9 by omega), tb_f0 (hT _ _), cl_rc8, s1, bV_s]
            exact q1
          · rw [if_pos c] at hσ
            cases hσ
            intro y hy
            rw [q4 hnone, up_n _ _ (show 10 ≠ 13 by omega), up_s, cpF_lt _ _ hy]
            exact c2 y hy
          · rw [if_pos c] at z
            cases z
        · obtain ⟨fs', s1, s2⟩ := s_step (sc := sc) (G := G) (x := x) (V := V) (R := R) (A := va_up A1 9 f9) (p := pq U l h) (K := tK U) (n := tN T) hn6 hku l2 o1 l13
          obtain ⟨A', q1, q2, q3, q4⟩ := ih (i + 1) (od (pq U l h) (tK U) (tN T) r).1 (f + 1) (va_up (va_up A1 9 f9) 13 fs') (by omega) (by omega) (fun r hr => by
            rw [up_n _ _ (by omega), up_n _ _ (by omega)]
            exact h1 r hr) (fun y hy => by
            rw [up_n _ _ (show 12 ≠ 13 by omega), up_n _ _ (show 11 ≠ 13 by omega)]
            exact l2 y hy) (fun hd => ⟨n1, by rw [n2 (nx hd), o2], fun y hy => by rw [up_s]; exact s2 y hy⟩)
          refine ⟨A', ?_, q2, ?_, ?_⟩
          · rw [if_pos c, tb_f0 (hT _ _), cl_rc8, s1, bV_s]
            exact q1
          · rw [if_neg c]
            exact q3
          · rw [if_neg c]
            intro z
            rw [q4 z, up_n _ _ (show 10 ≠ 13 by omega), up_n _ _ (show 10 ≠ 9 by omega)]
      · obtain ⟨fs', s1, s2⟩ := s_step (sc := sc) (G := G) (x := x) (V := V) (R := R) (A := va_up A1 9 f9) (p := pq U l h) (K := tK U) (n := tN T) hn6 hku l2 o1 l13
        obtain ⟨A', q1, q2, q3, q4⟩ := ih (i + 1) (od (pq U l h) (tK U) (tN T) r).1 f (va_up (va_up A1 9 f9) 13 fs') (by omega) (by omega) (fun r hr => by
          rw [up_n _ _ (by omega), up_n _ _ (by omega)]
          exact h1 r hr) (fun y hy => by
          rw [up_n _ _ (show 12 ≠ 13 by omega), up_n _ _ (show 11 ≠ 13 by omega)]
          exact l2 y hy) (fun hd => ⟨n1, by rw [n2 (nx hd), o2], fun y hy => by rw [up_s]; exact s2 y hy⟩)
        rw [if_neg hb, if_neg hb, if_pos (show (0 : Int32) = 0 from rfl), tb_f0 (hT _ _), cl_rc8, s1, bV_s]
        refine ⟨A', q1, q2, q3, fun z => ?_⟩
        rw [q4 z, up_n _ _ (show 10 ≠ 13 by omega), up_n _ _ (show 10 ≠ 9 by omega)]
  have h0 : 0 < P → ∀ y, y < tN T → 0 < ctB (pq U l h y) (tK U) := by
    intro hp y hy
    by_cases z : ctB (pq U l h y) (tK U) = 0
    · rw [prd_0 hy z] at hP
      omega
    · omega
  obtain ⟨A', q1, q2, q3, -⟩ := loop P 0 (fun y => fs (pq U l h y) (tK U)) 0 A1 (by omega) (Nat.le_refl _) (fun r hr => e2 r (by omega) (by omega) (by omega)) e3 (fun hp => ⟨fun y hy => ⟨(fs_ok (h0 hp y hy)).2.1, (fs_ok (h0 hp y hy)).2.2.1⟩, vl_0 (fun y hy => (fs_ok (h0 hp y hy)).2.2.2), fun y hy => by
    rw [e4 y hy, (fs_ok (h0 hp y hy)).2.2.2]
    rfl⟩)
  refine ⟨A', ?_, q2, q3⟩
  rw [eX2_search, cl_rc8, e1, bI_s]
  exact q1
end FAMB
