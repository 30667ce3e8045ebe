/-! OPERATION answers -/
theorem lp_fdS {α σ : Type} (F : Nat → σ → α) (p : Nat → Bool) (R : Nat → α) (E : α) (n : Nat) (hs : ∀ i s, i < n → (p i = true → F i s = R i) ∧ (p i = false → ∃ s', F i s = F (i + 1) s')) (he : ∀ s, F n s = E) (s : σ) : F 0 s = match fdB p n with
    | some i => R i
    | none => E := by
  have key : ∀ j, j ≤ n → (∃ s', F 0 s = match fdB p j with
      | some i => R i
      | none => F j s') := by
    intro j
    induction j with
    | zero => intro _; exact ⟨s, rfl⟩
    | succ j ih =>
      intro hj
      obtain ⟨s1, e1⟩ := ih (by omega)
      rw [fdB]
      cases h1 : fdB p j with
      | some i => rw [h1] at e1; exact ⟨s1, e1⟩
      | none =>
        rw [h1] at e1
        cases h2 : p j with
        | true => exact ⟨s1, e1.trans ((hs j s1 (by omega)).1 h2)⟩
        | false =>
          obtain ⟨s2, e2⟩ := (hs j s1 (by omega)).2 h2
          exact ⟨s2, e1.trans e2⟩
  obtain ⟨s1, e1⟩ := key n (Nat.le_refl _)
  rw [e1]
  cases fdB p n with
  | some i => rfl
  | none => exact he s1
def aX (T U : tb) (g : Nat → Nat) (y : Nat) : Nat := match awF T U g y with
  | some (p, _) => p
  | none => 0
def aA (T U : tb) (g : Nat → Nat) (y : Nat) : Nat := match awF T U g y with
  | some (_, e) => e
  | none => 0
theorem awF_ok {T U : tb} {g : Nat → Nat} {y : Nat} (h : awF T U g y ≠ none) : aX T U g y < tN T ∧ aA T U g y < tK U ∧ fr U (aA T U g y) = g (aX T U g y) ∧ to U (aA T U g y) = y ∧ anB T U g y (aX T U g y) (aA T U g y) = false := by
  unfold aX aA
  cases e : awF T U g y with
  | none => exact absurd e h
  | some z =>
    obtain ⟨p, c⟩ := z
    obtain ⟨h1, h2⟩ := fdO_some e
    obtain ⟨h3, h4, -⟩ := fdB_some h2
    have h5 : fr U c = g p ∧ to U c = y ∧ anB T U g y p c = false := by simpa using h4
    exact ⟨h1, h3, h5.1, h5.2.1, h5.2.2⟩
/-- the answered arrow -/
def aqB (T U : tb) (g : Nat → Nat) (e : Nat) : Nat → Bool := thq T U g (aX T U g (fr U e)) (aX T U g (to U e)) (aA T U g (to U e)) (wv U (aA T U g (fr U e)) e)
def aqF (T U : tb) (g : Nat → Nat) (e : Nat) : Nat := (fdB (aqB T U g e) (tK T)).getD 0
theorem aq_ok {T U : tb} {g : Nat → Nat} (hwu : tbW U) (hu : tld U) (hall : ∀ y, y < tN U → awF T U g y ≠ none) {e : Nat} (he : e < tK U) : fdB (aqB T U g e) (tK T) = some (aqF T U g e) ∧ wy U (aA T U g (fr U e)) e = nI (wv U (aA T U g (fr U e)) e) ∧ wv U (aA T U g (fr U e)) e < tK U := by
  have f1 := hwu.frn he
  have f2 := hwu.ton he
  obtain ⟨a1, a2, a3, a4, a5⟩ := awF_ok (hall _ f1)
  obtain ⟨b1, b2, b3, b4, b5⟩ := awF_ok (hall _ f2)
  obtain ⟨c, c1, c2, c3, c4⟩ := hu (aA T U g (fr U e)) e a2 he a4
  have hk := hwu.k24
  have hwv : wv U (aA T U g (fr U e)) e = c := by
    unfold wv
    rw [c2]
    exact nI_clamp (by omega)
  refine ⟨?_, by rw [hwv]; exact c2, by rw [hwv]; exact c1⟩
  unfold aqF
  cases hz : fdB (aqB T U g e) (tK T) with
  | some z => rfl
  | none =>
    have hno := fdB_none hz
    have hct : thn T U g (aX T U g (fr U e)) (aX T U g (to U e)) (aA T U g (to U e)) c = 0 := by
      have h0 : ∀ n, n ≤ tK T → ctB (thq T U g (aX T U g (fr U e)) (aX T U g (to U e)) (aA T U g (to U e)) c) n = 0 := by
        intro n
        induction n with
        | zero => intro _; rfl
        | succ n ih =>
          intro hn
          have h3 := hno n (by omega)
          unfold aqB at h3
          rw [hwv] at h3
          rw [ctB_succ, ih (by omega), h3]
          rfl
      exact h0 (tK T) (Nat.le_refl _)
    have h6 : anB T U g (to U e) (aX T U g (to U e)) (aA T U g (to U e)) = true := by
      unfold anB
      refine exB_iff.mpr ⟨aX T U g (fr U e), a1, exB_iff.mpr ⟨c, c1, ?_⟩⟩
      unfold anN
      rw [hct, c3, a3, c4]
      simp
    rw [h6] at b5
    cases b5
def arG (T U : tb) (g : Nat → Nat) (k : Nat) : Nat → Int32 := fun a => if a < k then nI (aqF T U g a) else 0
theorem arG_s (T U : tb) (g : Nat → Nat) (k : Nat) : upd (arG T U g k) k (nI (aqF T U g k)) = arG T U g (k + 1) := by
  funext a
  unfold upd
  by_cases e : a = k
  · rw [if_pos e, e]
    exact (if_pos (by omega)).symm
  · rw [if_neg e]
    show (if a < k then nI (aqF T U g a) else 0) = if a < k + 1 then nI (aqF T U g a) else 0
    by_cases e2 : a < k
    · rw [if_pos e2, if_pos (by omega)]
    · rw [if_neg e2, if_neg (by omega)]
section ANSWF
variable {sc : az_S} {G : az_H} {x k pp qq t u : Nat} {V : Nat → Int32} {A : Nat → Nat → Int32} {R : Nat → Nat → Option Nat} {T U : tb} {f : Nat → Int32} {g : Nat → Nat}
theorem s_answeredArrow (hc : crC (clG G x V A R) k pp qq t u f) (h : tbC (clG G x V A R) t T) (hw : tbW T) (hu : tbC (clG G x V A R) u U) (hwu : tbW U) (htu : tld U) (hf : ∀ a, a < tK T → f a = nI (g a) ∧ g a < tK U) (hall : ∀ y, y < tN U → awF T U g y ≠ none) (h20 : ∀ y, y < tN U → A 20 y = nI (aX T U g y) ∧ A 21 y = nI (aA T U g y)) {e : Nat} (he : e < tK U) : az_ca sc iX5_answeredArrow [.ref x, .ref k, .int (nI e)] (clG G x V A R) = some (some (.int (nI (aqF T U g e))), clG G x V A R) := by
  have hk := hw.k24
  have hku := hwu.k24
  have hn6 := hw.n6
  have hu6 := hwu.n6
  have f1 := hwu.frn he
  have f2 := hwu.ton he
  obtain ⟨a1, a2, a3, a4, a5⟩ := awF_ok (hall _ f1)
  obtain ⟨b1, b2, b3, b4, b5⟩ := awF_ok (hall _ f2)
  obtain ⟨q1, q2, q3⟩ := aq_ok hwu htu hall he
  rw [eX5_answeredArrow, cr_f3 hc, tb_rc hu, s_fromOf hu (by omega), bI_s, hwu.f he, cr_f3 hc, tb_rc hu, s_toOf hu (by omega), bI_s, hwu.g he, cr_f3 hc, cl0_r9, s_read cl_c21 (by omega) (by omega), bI_s, (h20 _ f1).2, tb_rc hu, s_wayAt hu a2 he hku, bI_s, q2]
  refine (lp_fdS (fun c (o : Option Value) => az_rn sc iX5_answeredArrow 21 [some (.ref x), some (.ref k), some (.int (nI e)), some (.int (nI (fr U e))), some (.int (nI (to U e))), some (.int (nI (wv U (aA T U g (fr U e)) e))), some (.int (nI c)), o] [] (clG G x V A R)) (aqB T U g e) (fun c => some (some (.int (nI c)), clG G x V A R)) (some (some (.int (-1)), clG G x V A R)) (tK T) (fun c o hc' => ?_) (fun o => ?_) none).trans ?_
  · obtain ⟨l1, l2⟩ := hf c hc'
    have e0 : az_rn sc iX5_answeredArrow 21 [some (.ref x), some (.ref k), some (.int (nI e)), some (.int (nI (fr U e))), some (.int (nI (to U e))), some (.int (nI (wv U (aA T U g (fr U e)) e))), some (.int (nI c)), o] [] (clG G x V A R) = if fr T c = aX T U g (fr U e) ∧ to T c = aX T U g (to U e) then (if ¬ wy U (g c) (aA T U g (to U e)) = nI (wv U (aA T U g (fr U e)) e) then az_rn sc iX5_answeredArrow 21 [some (.ref x), some (.ref k), some (.int (nI e)), some (.int (nI (fr U e))), some (.int (nI (to U e))), some (.int (nI (wv U (aA T U g (fr U e)) e))), some (.int (nI (c + 1))), some (.int 1)] [] (clG G x V A R) else some (some (.int (nI c)), clG G x V A R)) else az_rn sc iX5_answeredArrow 21 [some (.ref x), some (.ref k), some (.int (nI e)), some (.int (nI (fr U e))), some (.int (nI (to U e))), some (.int (nI (wv U (aA T U g (fr U e)) e))), some (.int (nI (c + 1))), some (.int 0)] [] (clG G x V A R) := by
      rw [bX5_answeredArrow_21, cr_f2 hc, tb_f1 h, if_neg (nI_ge hc' (by omega)), cr_f2 hc, cl0_r8, s_read cl_c20 (by omega) (by omega), bI_s, (h20 _ f1).1, cl0_r8, s_read cl_c20 (by omega) (by omega), bI_s, (h20 _ f2).1, tb_rc h, s_leadsN h hw hc' (by omega) (by omega), bI_s, nI_1]
      by_cases c1 : fr T c = aX T U g (fr U e) ∧ to T c = aX T U g (to U e)
      · rw [if_pos c1, if_neg (show ¬ (1 : Int32) = 0 by decide), if_pos c1, cr_f3 hc, cr_rc hc, s_givenTo hc (by omega), bI_s, l1, cl0_r9, s_read cl_c21 (by omega) (by omega), bI_s, (h20 _ f2).2, tb_rc hu, s_wayAt hu l2 b2 hku, bI_s]
      · rw [if_neg c1, if_pos (show (0 : Int32) = 0 from rfl), if_neg c1]
    refine ⟨fun hz => ?_, fun hz => ?_⟩
    · have h3 : fr T c = aX T U g (fr U e) ∧ to T c = aX T U g (to U e) ∧ wy U (g c) (aA T U g (to U e)) = nI (wv U (aA T U g (fr U e)) e) := by simpa [aqB, thq] using hz
      rw [e0, if_pos ⟨h3.1, h3.2.1⟩, if_neg (fun z => z h3.2.2)]
    · by_cases c1 : fr T c = aX T U g (fr U e) ∧ to T c = aX T U g (to U e)
      · have h3 : ¬ wy U (g c) (aA T U g (to U e)) = nI (wv U (aA T U g (fr U e)) e) := fun z => by
          have : aqB T U g e c = true := by simp [aqB, thq, c1, z]
          rw [this] at hz
          cases hz
        exact ⟨some (.int 1), by rw [e0, if_pos c1, if_pos h3]⟩
      · exact ⟨some (.int 0), by rw [e0, if_neg c1]⟩
  · rw [bX5_answeredArrow_21, cr_f2 hc, tb_f1 h, if_pos (nI_le (Nat.le_refl _) (by omega))]
  · rw [q1]
end ANSWF
section ANSWG
variable {sc : az_S} {G G1 : az_H} {B x m : Nat} {V Vm : Nat → Int32} {A Am : Nat → Nat → Int32} {R : Nat → Nat → Option Nat} {S : wS} {ti ci : Nat → Nat} {i : Nat}
def awA (S : wS) (i y : Nat) : Option (Nat × Nat) := awF (sT S (cA S i)) (sT S (cB S i)) (cg S i) y
def noA (S : wS) (i : Nat) : Bool := exB (fun y => (awA S i y).isNone) (tN (sT S (cB S i)))
theorem s_answersL (h : iC G B V A R S ti ci) (hB : x + 22 ≤ B) (hS : wW S) (hi : i < sM S) (y1 : Int32) : ∀ d y A1, y + d = tN (sT S (cB S i)) → (∀ r, r ≠ 20 → r ≠ 21 → A1 r = A r) → (∀ y', y' < y → awA S i y' ≠ none ∧ A1 20 y' = nI (aX (sT S (cA S i)) (sT S (cB S i)) (cg S i) y') ∧ A1 21 y' = nI (aA (sT S (cA S i)) (sT S (cB S i)) (cg S i) y')) → ∃ A', (∀ r, r ≠ 20 → r ≠ 21 → A' r = A r) ∧ (noA S i = true → az_rn sc iX5_answers 10 [some (.ref x), some (.int y1), some (.ref (ci i)), some (.int (nI y)), none] [] (clG G x V A1 R) = some (some (.int (-3)), clG G x V A' R)) ∧ (noA S i = false → az_rn sc iX5_answers 10 [some (.ref x), some (.int y1), some (.ref (ci i)), some (.int (nI y)), none] [] (clG G x V A1 R) = az_rn sc iX5_answers 10 [some (.ref x), some (.int y1), some (.ref (ci i)), some (.int (nI (tN (sT S (cB S i))))), none] [] (clG G x V A' R) ∧ ∀ y', y' < tN (sT S (cB S i)) → awA S i y' ≠ none ∧ A' 20 y' = nI (aX (sT S (cA S i)) (sT S (cB S i)) (cg S i) y') ∧ A' 21 y' = nI (aA (sT S (cA S i)) (sT S (cB S i)) (cg S i) y')) := by
  have cb := hS.cb hi
  have hwu := hS.tw cb
  have hu6 := hwu.n6
  have cI : ∀ V' A', crC (clG G x V' A' R) (ci i) (cA S i) (cB S i) (ti (cA S i)) (ti (cB S i)) (cR S i) := fun V' A' => h.car hB hi V' A' R
  have hU : ∀ V' A', tbC (clG G x V' A' R) (ti (cB S i)) (sT S (cB S i)) := fun V' A' => h.tabc hB cb V' A' R
  intro d
  induction d with
  | zero =>
    intro y A1 hy h1 h2
    have e : y = tN (sT S (cB S i)) := by omega
    subst e
    refine ⟨A1, h1, fun z => ?_, fun _ => ⟨rfl, h2⟩⟩
    obtain ⟨y', q1, q2⟩ := exB_iff.mp z
    have q3 := (h2 y' q1).1
    cases hq : awA S i y' with
    | none => exact absurd hq q3
    | some w => rw [hq] at q2; cases q2
  | succ d ih =>
    intro y A1 hy h1 h2
    have hyn : y < tN (sT S (cB S i)) := by omega
    have hC1 : iC G B V A1 R S ti ci := iC_A h (h1 22 (by omega) (by omega)) rfl rfl rfl rfl
    have hwr := s_writeAnswer (sc := sc) hC1 hB hS hi (show y < 6 by omega)
    cases hF : awF (sT S (cA S i)) (sT S (cB S i)) (cg S i) y with
    | none =>
      rw [hF] at hwr
      dsimp only at hwr
      have hno : noA S i = true := exB_iff.mpr ⟨y, hyn, by
        show (awA S i y).isNone = true
        unfold awA
        rw [hF]
        rfl⟩
      refine ⟨aw1 A1 y (-1) (-1), fun r r1 r2 => ?_, fun _ => ?_, fun z => by rw [hno] at z; cases z⟩
      · unfold aw1
        rw [up_n _ _ r2, up_n _ _ r1]
        exact h1 r r1 r2
      · rw [bX5_answers_10, cr_f3 (cI _ _), tb_f0 (hU _ _), if_neg (nI_ge hyn (by omega)), cl_rc0, hwr, bV_s, cl0_r8, s_read cl_c20 (show y < 6 by omega) (by omega), bI_s, aw1_20, if_neg (fun z => z rfl)]
    | some z =>
      obtain ⟨p, e⟩ := z
      rw [hF] at hwr
      dsimp only at hwr
      have hp : aX (sT S (cA S i)) (sT S (cB S i)) (cg S i) y = p := by unfold aX; rw [hF]
      have he : aA (sT S (cA S i)) (sT S (cB S i)) (cg S i) y = e := by unfold aA; rw [hF]
      have hok := awF_ok (T := sT S (cA S i)) (U := sT S (cB S i)) (g := cg S i) (y := y) (by rw [hF]; intro z; cases z)
      have hn6 := (hS.tw (hS.ca hi)).n6
      have hpl : p < 6 := by
        have := hok.1
        rw [hp] at this
        omega
      obtain ⟨A', k1, k2, k3⟩ := ih (y + 1) (aw1 (aw1 A1 y (-1) (-1)) y (nI p) (nI e)) (by omega) (fun r r1 r2 => by
        unfold aw1
        rw [up_n _ _ r2, up_n _ _ r1, up_n _ _ r2, up_n _ _ r1]
        exact h1 r r1 r2) (fun y' hy' => by
        by_cases e2 : y' = y
        · subst e2
          refine ⟨?_, ?_, ?_⟩
          · unfold awA
            rw [hF]
            intro z
            cases z
          · rw [aw1_20, hp]
          · rw [aw1_21, he]
        · obtain ⟨b1, b2, b3⟩ := h2 y' (by omega)
          refine ⟨b1, ?_, ?_⟩
          · unfold aw1
            rw [up_n _ _ (show 20 ≠ 21 by omega), up_s, upd_n _ _ e2, up_n _ _ (show 20 ≠ 21 by omega), up_s, upd_n _ _ e2]
            exact b2
          · unfold aw1
            rw [up_s, upd_n _ _ e2, up_s, upd_n _ _ e2]
            exact b3)
      have e0 : az_rn sc iX5_answers 10 [some (.ref x), some (.int y1), some (.ref (ci i)), some (.int (nI y)), none] [] (clG G x V A1 R) = az_rn sc iX5_answers 10 [some (.ref x), some (.int y1), some (.ref (ci i)), some (.int (nI (y + 1))), none] [] (clG G x V (aw1 (aw1 A1 y (-1) (-1)) y (nI p) (nI e)) R) := by
        rw [bX5_answers_10, cr_f3 (cI _ _), tb_f0 (hU _ _), if_neg (nI_ge hyn (by omega)), cl_rc0, hwr, bV_s, cl0_r8, s_read cl_c20 (show y < 6 by omega) (by omega), bI_s, aw1_20, if_pos (nI_nm1 (by omega)), nI_1]
      exact ⟨A', k1, fun z => e0.trans (k2 z), fun z => ⟨e0.trans (k3 z).1, (k3 z).2⟩⟩
theorem m_answersL (hm : iM Vm Am S) (hS : wW S) (hi : i < sM S) : ∀ d y V1 A1, y + d = tN (sT S (cB S i)) → (∀ r, r ≠ 5 → r ≠ 6 → V1 r = Vm r) → (∀ r, r ≠ 22 → r ≠ 23 → A1 r = Am r) → (∀ y', y' < y → awA S i y' ≠ none ∧ A1 22 y' = nI (aX (sT S (cA S i)) (sT S (cB S i)) (cg S i) y') ∧ A1 23 y' = nI (aA (sT S (cA S i)) (sT S (cB S i)) (cg S i) y')) → ∃ V' A', (∀ r, r ≠ 5 → r ≠ 6 → V' r = Vm r) ∧ (∀ r, r ≠ 22 → r ≠ 23 → A' r = Am r) ∧ (noA S i = true → az_rn sc iX6_answers 18 [some (.ref m), some (.int (nI i)), some (.int (nI (cA S i))), some (.int (nI (cB S i))), some (.int (nI y)), none, none, none] [] (mdG G1 m V1 A1) = some (some (.int (-3)), mdG G1 m V' A')) ∧ (noA S i = false → az_rn sc iX6_answers 18 [some (.ref m), some (.int (nI i)), some (.int (nI (cA S i))), some (.int (nI (cB S i))), some (.int (nI y)), none, none, none] [] (mdG G1 m V1 A1) = az_rn sc iX6_answers 18 [some (.ref m), some (.int (nI i)), some (.int (nI (cA S i))), some (.int (nI (cB S i))), some (.int (nI (tN (sT S (cB S i))))), none, none, none] [] (mdG G1 m V' A') ∧ ∀ y', y' < tN (sT S (cB S i)) → awA S i y' ≠ none ∧ A' 22 y' = nI (aX (sT S (cA S i)) (sT S (cB S i)) (cg S i) y') ∧ A' 23 y' = nI (aA (sT S (cA S i)) (sT S (cB S i)) (cg S i) y')) := by
  have h8 := hS.1
  have cb := hS.cb hi
  have hwu := hS.tw cb
  have hu6 := hwu.n6
  intro d
  induction d with
  | zero =>
    intro y V1 A1 hy hV h1 h2
    have e : y = tN (sT S (cB S i)) := by omega
    subst e
    refine ⟨V1, A1, hV, h1, fun z => ?_, fun _ => ⟨rfl, h2⟩⟩
    obtain ⟨y', q1, q2⟩ := exB_iff.mp z
    have q3 := (h2 y' q1).1
    cases hq : awA S i y' with
    | none => exact absurd hq q3
    | some w => rw [hq] at q2; cases q2
  | succ d ih =>
    intro y V1 A1 hy hV h1 h2
    have hyn : y < tN (sT S (cB S i)) := by omega
    have hM1 : iM V1 A1 S := iM_V (iM_A16 hm (fun r hr => h1 r (by omega) (by omega))) (hV 0 (by omega) (by omega)) (hV 1 (by omega) (by omega)) (hV 2 (by omega) (by omega)) (hV 4 (by omega) (by omega))
    have hfi := m_findAnswer (sc := sc) (G := G1) (m := m) hM1 hS hi (show y < 24 by omega)
    cases hF : awF (sT S (cA S i)) (sT S (cB S i)) (cg S i) y with
    | none =>
      rw [hF] at hfi
      dsimp only at hfi
      have hno : noA S i = true := exB_iff.mpr ⟨y, hyn, by
        show (awA S i y).isNone = true
        unfold awA
        rw [hF]
        rfl⟩
      refine ⟨V1, A1, hV, h1, fun _ => ?_, fun z => by rw [hno] at z; cases z⟩
      rw [bX6_answers_18, md_r1, md_a1 (by omega), hM1.1.o cb, if_neg (nI_ge hyn (by omega)), md_rc, hfi, bI_s, if_neg (by decide)]
    | some z =>
      obtain ⟨p, e⟩ := z
      rw [hF] at hfi
      dsimp only at hfi
      have hp : aX (sT S (cA S i)) (sT S (cB S i)) (cg S i) y = p := by unfold aX; rw [hF]
      have he : aA (sT S (cA S i)) (sT S (cB S i)) (cg S i) y = e := by unfold aA; rw [hF]
      obtain ⟨V', A', k0, k1, k2, k3⟩ := ih (y + 1) (va_up (va_up V1 5 (nI p)) 6 (nI e)) (va_up (va_up A1 22 (upd (A1 22) y (nI p))) 23 (upd (A1 23) y (nI e))) (by omega) (fun r r1 r2 => by rw [up_n _ _ r2, up_n _ _ r1]; exact hV r r1 r2) (fun r r1 r2 => by rw [up_n _ _ r2, up_n _ _ r1]; exact h1 r r1 r2) (fun y' hy' => by
        rw [up_n _ _ (show 22 ≠ 23 by omega), up_s, up_s]
        by_cases e2 : y' = y
        · subst e2
          refine ⟨?_, ?_, ?_⟩
          · unfold awA
            rw [hF]
            intro z
            cases z
          · rw [upd_s, hp]
          · rw [upd_s, he]
        · obtain ⟨b1, b2, b3⟩ := h2 y' (by omega)
          refine ⟨b1, ?_, ?_⟩
          · rw [upd_n _ _ e2]
            exact b2
          · rw [upd_n _ _ e2]
            exact b3)
      have e0 : az_rn sc iX6_answers 18 [some (.ref m), some (.int (nI i)), some (.int (nI (cA S i))), some (.int (nI (cB S i))), some (.int (nI y)), none, none, none] [] (mdG G1 m V1 A1) = az_rn sc iX6_answers 18 [some (.ref m), some (.int (nI i)), some (.int (nI (cA S i))), some (.int (nI (cB S i))), some (.int (nI (y + 1))), none, none, none] [] (mdG G1 m (va_up (va_up V1 5 (nI p)) 6 (nI e)) (va_up (va_up A1 22 (upd (A1 22) y (nI p))) 23 (upd (A1 23) y (nI e)))) := by
        rw [bX6_answers_18, md_r1, md_a1 (by omega), hM1.1.o cb, if_neg (nI_ge hyn (by omega)), md_rc, hfi, bI_s, if_pos (by decide), md_r28, md_i26, up_n _ _ (show 5 ≠ 6 by omega), up_s, md_s22 (by omega), md_r29, md_i27, up_s, md_s23 (by omega), up_n _ _ (show 23 ≠ 22 by omega), nI_1]
      exact ⟨V', A', k0, k1, fun z => e0.trans (k2 z), fun z => ⟨e0.trans (k3 z).1, (k3 z).2⟩⟩
end ANSWG
