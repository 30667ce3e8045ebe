/-! THE SEARCH from its start to its end, on both sides -/
def cpF (f h : Nat → Int32) (k : Nat) : Nat → Int32 := fun i => if i < k then f i else h i
theorem cpF_s (f h : Nat → Int32) (k : Nat) : upd (cpF f h k) k (f k) = cpF f h (k + 1) := by
  funext i
  unfold cpF upd
  by_cases e : i = k
  · subst e
    rw [if_pos rfl, if_pos (by omega)]
  · rw [if_neg e]
    show (if i < k then f i else h i) = if i < k + 1 then f i else h i
    by_cases e2 : i < k
    · rw [if_pos e2, if_pos (by omega)]
    · rw [if_neg e2, if_neg (by omega)]
theorem cpF_lt (f h : Nat → Int32) {k i : Nat} (hi : i < k) : cpF f h k i = f i := if_pos hi
theorem s_copy {sc : az_S} {G : az_H} {r1 r2 n1 n2 k : Nat} {f h : Nat → Int32} (h1 : G.1 r1 = some (.inl (0, n1, .inl f))) (h2 : G.1 r2 = some (.inl (0, n2, .inl h))) (hr : r1 ≠ r2) (k1 : k ≤ n1) (k2 : k ≤ n2) (l1 : n1 < 2 ^ 31) (l2 : n2 < 2 ^ 31) : az_ca sc iX5_copy [.ref r1, .ref r2, .int (nI k)] G = some (none, az_set G r2 (.inl (0, n2, .inl (cpF f h k)))) := by
  have loop : ∀ d i, i + d = k → az_rn sc iX5_copy 2 [some (.ref r1), some (.ref r2), some (.int (nI k)), some (.int (nI i))] [] (az_set G r2 (.inl (0, n2, .inl (cpF f h i)))) = some (none, az_set G r2 (.inl (0, n2, .inl (cpF f h k)))) := by
    intro d
    induction d with
    | zero =>
      intro i hi
      have e : i = k := by omega
      subst e
      rw [bX5_copy_2, if_pos (nI_le (Nat.le_refl _) (by omega))]
    | succ d ih =>
      intro i hi
      rw [bX5_copy_2, if_neg (nI_ge (show i < k by omega) (by omega)), s_read ((set_n hr).trans h1) (by omega) l1, bI_s, s_write (set_1 _ _ _) (by omega) l2, bV_s, set_set, cpF_s, nI_1]
      exact ih (i + 1) (by omega)
  have h0 : az_set G r2 (.inl (0, n2, .inl (cpF f h 0))) = G := set_id h2
  have := loop k 0 (by omega)
  rw [h0] at this
  rw [eX5_copy]
  exact this
theorem sr_tr (T U : tb) : ∀ e p v tr g, tr ≤ 60000 → tr ≤ (sr T U e p v tr g).2.1 ∧ (sr T U e p v tr g).2.1 ≤ 60000 ∧ ((sr T U e p v tr g).1 = 2 → tr < (sr T U e p v tr g).2.1) ∧ (sr T U e p v tr g).1 ≤ 2 := by
  intro e
  induction e with
  | zero => intro p v tr g h; exact ⟨Nat.le_refl _, h, fun z => absurd z (show ¬ (0 : Nat) = 2 by omega), Nat.zero_le _⟩
  | succ e ih =>
    intro p v tr g h
    cases p with
    | zero => exact ⟨Nat.le_refl _, h, fun z => absurd z (show ¬ (0 : Nat) = 2 by omega), Nat.zero_le _⟩
    | succ q =>
      have esr : sr T U (e + 1) (q + 1) v tr g = if gl T U q ≤ v then sr T U e q (g (q - 1) + 1) tr g else if 60000 ≤ tr then (1, tr, g) else if q < tN T ∨ fB T U (va_up g q v) q = true then (if q + 1 < tK T then sr T U e (q + 2) 0 (tr + 1) (va_up g q v) else (2, tr + 1, va_up g q v)) else sr T U e (q + 1) (v + 1) (tr + 1) (va_up g q v) := rfl
      rw [esr]
      by_cases c1 : gl T U q ≤ v
      · rw [if_pos c1]
        exact ih _ _ _ _ h
      · rw [if_neg c1]
        by_cases c2 : 60000 ≤ tr
        · rw [if_pos c2]
          exact ⟨Nat.le_refl _, h, fun z => absurd z (show ¬ (1 : Nat) = 2 by omega), by show 1 ≤ 2; omega⟩
        · rw [if_neg c2]
          by_cases c3 : q < tN T ∨ fB T U (va_up g q v) q = true
          · rw [if_pos c3]
            by_cases c4 : q + 1 < tK T
            · rw [if_pos c4]
              obtain ⟨b1, b2, b3, b4⟩ := ih (q + 2) 0 (tr + 1) (va_up g q v) (by omega)
              exact ⟨by omega, b2, fun z => by have := b3 z; omega, b4⟩
            · rw [if_neg c4]
              exact ⟨Nat.le_succ _, by show tr + 1 ≤ 60000; omega, fun _ => Nat.lt_succ_self _, Nat.le_refl _⟩
          · rw [if_neg c3]
            obtain ⟨b1, b2, b3, b4⟩ := ih (q + 1) (v + 1) (tr + 1) (va_up g q v) (by omega)
            exact ⟨by omega, b2, fun z => by have := b3 z; omega, b4⟩
/-- the whole search: 0 the end, 1 spent, 2 stopped; how many are found; tries; what was given -/
def sw (T U : tb) (E0 : Nat) (stp : Nat → (Nat → Nat) → Bool) : Nat → Nat → Nat → Nat → (Nat → Nat) → Nat → Nat × Nat × Nat × (Nat → Nat)
  | 0, _, _, tr, g, n => (0, n, tr, g)
  | e + 1, p, v, tr, g, n => if (sr T U E0 p v tr g).1 = 2 then (if stp n (sr T U E0 p v tr g).2.2 = true then (2, n + 1, (sr T U E0 p v tr g).2.1, (sr T U E0 p v tr g).2.2) else sw T U E0 stp e (tK T) ((sr T U E0 p v tr g).2.2 (tK T - 1) + 1) (sr T U E0 p v tr g).2.1 (sr T U E0 p v tr g).2.2 (n + 1)) else ((sr T U E0 p v tr g).1, n, (sr T U E0 p v tr g).2.1, (sr T U E0 p v tr g).2.2)
theorem sw_s (T U : tb) (E0 : Nat) (stp : Nat → (Nat → Nat) → Bool) (e p v tr : Nat) (g : Nat → Nat) (n : Nat) : sw T U E0 stp (e + 1) p v tr g n = if (sr T U E0 p v tr g).1 = 2 then (if stp n (sr T U E0 p v tr g).2.2 = true then (2, n + 1, (sr T U E0 p v tr g).2.1, (sr T U E0 p v tr g).2.2) else sw T U E0 stp e (tK T) ((sr T U E0 p v tr g).2.2 (tK T - 1) + 1) (sr T U E0 p v tr g).2.1 (sr T U E0 p v tr g).2.2 (n + 1)) else ((sr T U E0 p v tr g).1, n, (sr T U E0 p v tr g).2.1, (sr T U E0 p v tr g).2.2) := rfl
theorem sw_tr (T U : tb) (E0 : Nat) (stp : Nat → (Nat → Nat) → Bool) : ∀ e p v tr g n, tr ≤ 60000 → n ≤ tr → (sw T U E0 stp e p v tr g n).2.2.1 ≤ 60000 ∧ (sw T U E0 stp e p v tr g n).2.1 ≤ 60000 ∧ (sw T U E0 stp e p v tr g n).1 ≤ 2 := by
  intro e
  induction e with
  | zero => intro p v tr g n h h2; exact ⟨h, Nat.le_trans h2 h, Nat.zero_le _⟩
  | succ e ih =>
    intro p v tr g n h h2
    obtain ⟨b1, b2, b3, b4⟩ := sr_tr T U E0 p v tr g h
    rw [sw_s]
    by_cases c1 : (sr T U E0 p v tr g).1 = 2
    · have := b3 c1
      rw [if_pos c1]
      by_cases c2 : stp n (sr T U E0 p v tr g).2.2 = true
      · rw [if_pos c2]
        exact ⟨b2, by show n + 1 ≤ 60000; omega, Nat.le_refl _⟩
      · rw [if_neg c2]
        exact ih _ _ _ _ _ b2 (by omega)
    · rw [if_neg c1]
      exact ⟨b2, Nat.le_trans h2 h, b4⟩
section SWA
variable {sc : az_S} {G : az_H} {x m t u E0 : Nat} {V0 : Nat → Int32} {A : Nat → Nat → Int32} {R : Nat → Nat → Option Nat} {T U : tb} {nt i j : Nat} {Tb : Nat → tb}
theorem s_nextC (hE : 180000 ≤ E0) (hT : ∀ V A, tbC (clG G x V A R) t T) (hw : tbW T) (ht : tld T) (hU : ∀ V A, tbC (clG G x V A R) u U) (hwu : tbW U) (hru : ruR 5 6 7 A T) {p v tr : Nat} {g : Nat → Nat} {V f : Nat → Int32} (htr : tr ≤ 60000) (hp : p ≤ tK T) (hV : ∀ r, r ≠ 3 → r ≠ 4 → r ≠ 5 → V r = V0 r) (h3 : V 3 = nI tr) (h4 : V 4 = V0 4) (h5 : V 5 = pm p) (hv : ∀ q, p = q + 1 → v ≤ gl T U q ∧ f q + 1 = nI v) (hg : ∀ a, a + 1 < p → f a = nI (g a) ∧ g a < gl T U a) : ∃ V' f', az_ca sc iX3_next [.ref (x + 3), .ref t, .ref u] (clG G x V (va_up A 4 f) R) = some (some (.int (if (sr T U E0 p v tr g).1 = 2 then 1 else 0)), clG G x V' (va_up A 4 f') R) ∧ (∀ r, r ≠ 3 → r ≠ 4 → r ≠ 5 → V' r = V0 r) ∧ V' 3 = nI (sr T U E0 p v tr g).2.1 ∧ V' 4 = (if (sr T U E0 p v tr g).1 = 1 then 1 else V0 4) ∧ (sr T U E0 p v tr g).2.1 ≤ 60000 ∧ ((sr T U E0 p v tr g).1 = 2 → V' 5 = pm (tK T) ∧ tr < (sr T U E0 p v tr g).2.1 ∧ ∀ a, a < tK T → f' a = nI ((sr T U E0 p v tr g).2.2 a) ∧ (sr T U E0 p v tr g).2.2 a < gl T U a) := by
  have hk := hw.k24
  obtain ⟨V', f', k1, k2⟩ := s_next (sc := sc) (x := x) hT hw ht hU hwu hru E0 p v tr g 0 none V f (by omega) htr (by omega) hp hV h3 h4 h5 hv hg
  refine ⟨V', f', ?_, k2⟩
  rw [eX3_next]
  exact k1
theorem s_pickL (hE : 180000 ≤ E0) (hT : ∀ V A, tbC (clG G x V A R) t T) (hw : tbW T) (ht : tld T) (hU : ∀ V A, tbC (clG G x V A R) u U) (hwu : tbW U) (hru : ruR 5 6 7 A T) (hV0 : V0 4 = 0) (wn : Int32) : ∀ e p v tr g n V f fp, 60000 - tr < e → tr ≤ 60000 → n ≤ tr → p ≤ tK T → (∀ r, r ≠ 3 → r ≠ 4 → r ≠ 5 → V r = V0 r) → V 3 = nI tr → V 4 = 0 → V 5 = pm p → (∀ q, p = q + 1 → v ≤ gl T U q ∧ f q + 1 = nI v) → (∀ a, a + 1 < p → f a = nI (g a) ∧ g a < gl T U a) → ∃ V' f' fp', az_rn sc iX5_pickCarrier 8 [some (.ref x), some (.ref t), some (.ref u), some (.int wn), some (.int (nI n)), some (.int 0)] [] (clG G x V (va_up (va_up A 17 fp) 4 f) R) = some (some (.int (nI (sw T U E0 (fun n _ => decide (nI n = wn)) e p v tr g n).2.1)), clG G x V' (va_up (va_up A 17 fp') 4 f') R) ∧ (∀ r, r ≠ 3 → r ≠ 4 → r ≠ 5 → V' r = V0 r) ∧ V' 3 = nI (sw T U E0 (fun n _ => decide (nI n = wn)) e p v tr g n).2.2.1 ∧ V' 4 = (if (sw T U E0 (fun n _ => decide (nI n = wn)) e p v tr g n).1 = 1 then 1 else 0) ∧ ((sw T U E0 (fun n _ => decide (nI n = wn)) e p v tr g n).1 = 2 → ∀ a, a < tK T → fp' a = nI ((sw T U E0 (fun n _ => decide (nI n = wn)) e p v tr g n).2.2.2 a) ∧ (sw T U E0 (fun n _ => decide (nI n = wn)) e p v tr g n).2.2.2 a < tK U) := by
  have hk := hw.k24
  have hku := hwu.k24
  have hnk := hw.nk
  have hn1 := hw.n1
  intro e
  induction e with
  | zero => intro p v tr g n V f fp h; omega
  | succ e ih =>
    intro p v tr g n V f fp he htr hn hp hV h3 h4 h5 hv hg
    obtain ⟨V', f', k1, k2, k3, k4, k5, k6⟩ := s_nextC (sc := sc) (x := x) (A := va_up A 17 fp) hE hT hw ht hU hwu (ruR_4 hru (by omega) (by omega) (by omega)) htr hp hV h3 (h4.trans hV0.symm) h5 hv hg
    rw [sw_s, bX5_pickCarrier_8, if_neg (show ¬ ¬ (0 : Int32) = 0 by decide), lit60, if_neg (fun z => by have := (nI_ltI (by omega) (by omega)).mp z; omega), cl0_r2, cl_rc3, k1, bI_s]
    by_cases c1 : (sr T U E0 p v tr g).1 = 2
    · obtain ⟨k7, k8, k9⟩ := k6 c1
      rw [if_pos c1, if_pos c1, if_neg (show ¬ (1 : Int32) = 0 by decide)]
      by_cases c2 : nI n = wn
      · rw [if_neg (fun z => z c2), if_pos (show decide (nI n = wn) = true from decide_eq_true c2), cl0_r2, cl3_r0, cl0_r5, tb_f1 (hT _ _), s_copy cl_c4 cl_c17 (by omega) (by omega) (by omega) (by omega) (by omega), bV_s, cl_u17, bX5_pickCarrier_8, if_pos (show ¬ (1 : Int32) = 0 by decide), nI_1]
        rw [up_cm _ _ _ (show 4 ≠ 17 by omega), up_up]
        refine ⟨V', f', _, rfl, k2, k3, ?_, fun _ a ha => ?_⟩
        · rw [k4, c1, if_neg (show ¬ (2 : Nat) = 1 by omega), hV0]
          exact (if_neg (show ¬ (2 : Nat) = 1 by omega)).symm
        · obtain ⟨b1, b2⟩ := k9 a ha
          have b3 := gl_le (T := T) hwu a
          rw [cpF_lt _ _ ha, up_s]
          exact ⟨b1, by show (sr T U E0 p v tr g).2.2 a < tK U; omega⟩
      · rw [if_pos c2, if_neg (show ¬ decide (nI n = wn) = true by simp [c2]), nI_1]
        refine ih (tK T) ((sr T U E0 p v tr g).2.2 (tK T - 1) + 1) (sr T U E0 p v tr g).2.1 (sr T U E0 p v tr g).2.2 (n + 1) V' f' fp (by omega) k5 (by omega) (Nat.le_refl _) k2 k3 ?_ k7 (fun q hq => ?_) (fun a ha => k9 a (by omega))
        · rw [k4, c1, if_neg (show ¬ (2 : Nat) = 1 by omega), hV0]
        · obtain ⟨b1, b2⟩ := k9 q (by omega)
          rw [hq, Nat.add_sub_cancel, b1, nI_1]
          exact ⟨b2, rfl⟩
    · rw [if_neg c1, if_neg c1, if_pos (show (0 : Int32) = 0 from rfl)]
      refine ⟨V', f', fp, rfl, k2, k3, ?_, fun z => absurd z c1⟩
      rw [k4, hV0]
/-- the class's search begins -/
theorem s_start {V : Nat → Int32} (hT : ∀ V A, tbC (clG G x V A R) t T) (hw : tbW T) (ht : tld T) : ∃ A' f, az_ca sc iX3_start [.ref (x + 3), .ref t] (clG G x V A R) = some (none, clG G x (va_up (va_up (va_up V 3 0) 4 0) 5 0) (va_up A' 4 f) R) ∧ cRu 5 6 7 A A' (tK T + 1) (rsF T) ∧ f 0 = -1 := by
  obtain ⟨A', e1, e2⟩ := s_setRules (sc := sc) (x := x) (V := V) (A := A) (fun A' => hT V A') hw ht
  have w0 : ∀ (V : Nat → Int32), az_ca sc iX5_write [.ref (x + 4), .int 0, .int (-1)] (clG G x V A' R) = some (none, clG G x V (va_up A' 4 (upd (A' 4) 0 (-1))) R) := fun V => (s_write (i := 0) cl_c4 (by omega) (by omega)).trans (by rw [cl_u4])
  refine ⟨A', upd (A' 4) 0 (-1), ?_, e2, upd_s _ _ _⟩
  rw [eX3_start, cl_rc3, e1, bV_s, cl3_p1, w1_0, cl3_p2, cl3_p3, cl3_r0, w0, bV_s]
theorem s_pickCarrier {V : Nat → Int32} (hE : 180000 ≤ E0) (hT : ∀ V A, tbC (clG G x V A R) t T) (hw : tbW T) (ht : tld T) (hU : ∀ V A, tbC (clG G x V A R) u U) (hwu : tbW U) (wn : Int32) : ∃ V' A', az_ca sc iX5_pickCarrier [.ref x, .ref t, .ref u, .int wn] (clG G x V A R) = some (some (.int (nI (sw T U E0 (fun n _ => decide (nI n = wn)) 60001 1 0 0 (fun _ => 0) 0).2.1)), clG G x V' A' R) ∧ (∀ r, r ≠ 3 → r ≠ 4 → r ≠ 5 → V' r = V r) ∧ V' 3 = nI (sw T U E0 (fun n _ => decide (nI n = wn)) 60001 1 0 0 (fun _ => 0) 0).2.2.1 ∧ V' 4 = (if (sw T U E0 (fun n _ => decide (nI n = wn)) 60001 1 0 0 (fun _ => 0) 0).1 = 1 then 1 else 0) ∧ ((sw T U E0 (fun n _ => decide (nI n = wn)) 60001 1 0 0 (fun _ => 0) 0).1 = 2 → ∀ a, a < tK T → A' 17 a = nI ((sw T U E0 (fun n _ => decide (nI n = wn)) 60001 1 0 0 (fun _ => 0) 0).2.2.2 a) ∧ (sw T U E0 (fun n _ => decide (nI n = wn)) 60001 1 0 0 (fun _ => 0) 0).2.2.2 a < tK U) ∧ A' 22 = A 22 := by
  have hnk := hw.nk
  have hn1 := hw.n1
  obtain ⟨A1, f, e1, e2, e3⟩ := s_start (sc := sc) (x := x) (V := V) (A := A) hT hw ht
  have hV0 : va_up (va_up (va_up V 3 0) 4 0) 5 0 4 = 0 := by rw [up_n _ _ (by omega), up_s]
  have e4 : va_up A1 4 f = va_up (va_up A1 17 (A1 17)) 4 f := by rw [up_id]
  obtain ⟨V', f', fp', k1, k2, k3, k4, k5⟩ := s_pickL (sc := sc) (x := x) (A := A1) (V0 := va_up (va_up (va_up V 3 0) 4 0) 5 0) hE hT hw ht hU hwu e2.r hV0 wn 60001 1 0 0 (fun _ => 0) 0 (va_up (va_up (va_up V 3 0) 4 0) 5 0) f (A1 17) (by omega) (by omega) (Nat.le_refl _) (by omega) (fun _ _ _ _ => rfl) (by rw [up_n _ _ (by omega), up_n _ _ (by omega), up_s]; rfl) hV0 (up_s _ _ _) (fun q hq => by
    have : q = 0 := by omega
    subst this
    exact ⟨Nat.zero_le _, by rw [e3]; decide⟩) (fun a ha => by omega)
  refine ⟨V', va_up (va_up A1 17 fp') 4 f', ?_, fun r r3 r4 r5 => ?_, k3, k4, fun z a ha => ?_, ?_⟩
  · rw [eX5_pickCarrier, cl0_r2, cl_rc3, e1, bV_s, e4]
    exact k1
  · rw [k2 r r3 r4 r5, up_n _ _ r5, up_n _ _ r4, up_n _ _ r3]
  · rw [up_n _ _ (by omega), up_s]
    exact k5 z a ha
  · rw [up_n _ _ (by omega), up_n _ _ (by omega)]
    exact e2.1 22 (by omega) (by omega) (by omega)
end SWA
