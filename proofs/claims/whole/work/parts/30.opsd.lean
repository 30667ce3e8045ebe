theorem mT_up {V : Nat → Int32} {A : Nat → Nat → Int32} {nt : Nat} {Tb : Nat → tb} (h : mT V A nt Tb) {j : Nat} (hj : 7 ≤ j) (f : Nat → Int32) : mT V (va_up A j f) nt Tb := by
  unfold mT at h ⊢
  rw [up_n A f (show 1 ≠ j by omega), up_n A f (show 2 ≠ j by omega), up_n A f (show 3 ≠ j by omega), up_n A f (show 4 ≠ j by omega), up_n A f (show 5 ≠ j by omega), up_n A f (show 6 ≠ j by omega)]
  exact h
theorem mT_upV {V : Nat → Int32} {A : Nat → Nat → Int32} {nt : Nat} {Tb : Nat → tb} (h : mT V A nt Tb) {j : Nat} (hj : 0 < j) (v : Int32) : mT (va_up V j v) A nt Tb := by
  unfold mT at h ⊢
  rw [up_n V v (show 0 ≠ j by omega)]
  exact h
section OPSD
variable {sc : az_S} {G G1 : az_H} {B x m t r : Nat} {T : tb} {f : Nat → Int32} {V Vm : Nat → Int32} {A Am : Nat → Nat → Int32} {R : Nat → Nat → Option Nat} {S : wS} {ti ci : Nat → Nat} {nt : Nat} {Tb : Nat → tb}
theorem md_s7l {i : Nat} {j : Int32} (hj : j = nI i) (hi : i < 4) (v : Int32) (k : az_H → az_R) : az_sI (mdG G m V A) 0 (m + 7) j v k = k (mdG G m V (va_up A 7 (upd (A 7) i v))) := by
  rw [hj]; exact md_s7 hi v k
theorem m_finds (k a b c : Int32) : az_ca sc iX6_finds [.ref m, .int k, .int a, .int b, .int c] (mdG G m V A) = some (none, mdG G m V (va_up A 7 (fw (A 7) k a b c))) := by
  rw [eX6_finds, md_r7, md_s7l (i := 0) (j := 0) rfl (by omega), md_r7, md_s7l (i := 1) (j := 1) rfl (by omega), md_r7, md_s7l (i := 2) (j := 2) rfl (by omega), md_r7, md_s7l (i := 3) (j := 3) rfl (by omega)]
  simp only [up_up, up_s]
  rfl
theorem m_findFault (h : mT V A nt Tb) {i : Nat} (hi : i < nt) : az_ca sc iX6_findFault [.ref m, .int (nI i)] (mdG G m V A) = some (none, mdG G m V (va_up A 7 (fw (A 7) (flt (Tb i)).1 (flt (Tb i)).2.1 (flt (Tb i)).2.2.1 (flt (Tb i)).2.2.2))) := by
  have h8 := h.2.1
  have hw := h.w hi
  have hk := hw.k24
  have hn6 := hw.n6
  rw [eX6_findFault, md_rc, m_finds, bV_s]
  generalize hA1 : va_up A 7 (fw (A 7) 0 (-1) (-1) (-1)) = A1
  have h1 : mT V A1 nt Tb := by rw [← hA1]; exact mT_up h (by omega) _
  have hA7 : ∀ k a b c, va_up A1 7 (fw (A1 7) k a b c) = va_up A 7 (fw (A 7) k a b c) := by
    intro k a b c
    rw [← hA1, up_up, up_s, fw_fw]
  -- the second search, where every row is told
  have inner2 : tld (Tb i) → ∀ a b, a < tK (Tb i) → b < tK (Tb i) → to (Tb i) a = fr (Tb i) b → az_rn sc iX6_findFault 67 [some (.ref m), some (.int (nI i)), some (.int (nI a)), some (.int (nI b)), some (.int (nI 0))] [] (mdG G m V A1) = match fdB (u2 (Tb i) a b) (tK (Tb i)) with
      | some c => some (none, mdG G m V (va_up A1 7 (fw (A1 7) 2 (nI a) (nI b) (nI c))))
      | none => az_rn sc iX6_findFault 59 [some (.ref m), some (.int (nI i)), some (.int (nI a)), some (.int (nI (b + 1))), some (.int (nI (tK (Tb i))))] [] (mdG G m V A1) := by
    intro ht a b ha hb e
    have f1 := hw.ton ha
    have f2 := hw.frn hb
    refine lp_fd (fun c => az_rn sc iX6_findFault 67 [some (.ref m), some (.int (nI i)), some (.int (nI a)), some (.int (nI b)), some (.int (nI c))] [] (mdG G m V A1)) (u2 (Tb i) a b) (fun c => some (none, mdG G m V (va_up A1 7 (fw (A1 7) 2 (nI a) (nI b) (nI c))))) _ (tK (Tb i)) (fun c hc => ?_) ?_
    · have f3 := hw.ton hb
      have f4 := hw.frn hc
      rw [bX6_findFault_67, md_r2, md_a2 (by omega), h1.a hi, if_neg (nI_ge hc (by omega)), md_rc, m_to h1 hi ha, bI_s, md_rc, m_from h1 hi hb, bI_s, ite_nnI (by omega) (by omega), if_neg (fun q => q e), md_rc, m_to h1 hi hb, bI_s, md_rc, m_from h1 hi hc, bI_s, ite_nnI (by omega) (by omega), nI_1]
      by_cases e2 : to (Tb i) b = fr (Tb i) c
      · obtain ⟨p1, p2, p3, p4⟩ := wv_told ht hw ha hb e
        obtain ⟨q1, q2, q3, q4⟩ := wv_told ht hw hb hc e2
        rw [if_neg (fun q => q e2), md_rc, m_wayIn h1 hi ha hb, bI_s, p1, md_rc, m_wayIn h1 hi p2 hc, bI_s, md_rc, m_wayIn h1 hi hb hc, bI_s, q1, md_rc, m_wayIn h1 hi ha q2, bI_s]
        by_cases e3 : wy (Tb i) (wv (Tb i) a b) c = wy (Tb i) a (wv (Tb i) b c)
        · rw [if_pos e3, if_neg (by simp [u2, e3])]
        · rw [if_neg e3, md_rc, m_finds, bV_s, if_pos (by simp [u2, e, e2, e3])]
      · rw [if_pos e2, if_neg (by simp [u2, e2])]
    · rw [bX6_findFault_67, md_r2, md_a2 (by omega), h1.a hi, if_pos (nI_le (Nat.le_refl _) (by omega)), nI_1]
  have mid2 : tld (Tb i) → ∀ a (o : Option Value), a < tK (Tb i) → ∃ o' : Option Value, az_rn sc iX6_findFault 59 [some (.ref m), some (.int (nI i)), some (.int (nI a)), some (.int (nI 0)), o] [] (mdG G m V A1) = match fdO (fun b => fdB (u2 (Tb i) a b) (tK (Tb i))) (tK (Tb i)) with
      | some (b, c) => some (none, mdG G m V (va_up A1 7 (fw (A1 7) 2 (nI a) (nI b) (nI c))))
      | none => az_rn sc iX6_findFault 51 [some (.ref m), some (.int (nI i)), some (.int (nI (a + 1))), some (.int (nI (tK (Tb i)))), o'] [] (mdG G m V A1) := by
    intro ht a o ha
    have key : ∀ b (o : Option Value), b ≤ tK (Tb i) → (∀ b', b' < b → fdB (u2 (Tb i) a b') (tK (Tb i)) = none) → True := fun _ _ _ _ => trivial
    have go : ∀ b (o : Option Value), b < tK (Tb i) → (∀ c, fdB (u2 (Tb i) a b) (tK (Tb i)) = some c → az_rn sc iX6_findFault 59 [some (.ref m), some (.int (nI i)), some (.int (nI a)), some (.int (nI b)), o] [] (mdG G m V A1) = some (none, mdG G m V (va_up A1 7 (fw (A1 7) 2 (nI a) (nI b) (nI c))))) ∧ (fdB (u2 (Tb i) a b) (tK (Tb i)) = none → ∃ o' : Option Value, az_rn sc iX6_findFault 59 [some (.ref m), some (.int (nI i)), some (.int (nI a)), some (.int (nI b)), o] [] (mdG G m V A1) = az_rn sc iX6_findFault 59 [some (.ref m), some (.int (nI i)), some (.int (nI a)), some (.int (nI (b + 1))), o'] [] (mdG G m V A1)) := by
      intro b o hb
      have f1 := hw.ton ha
      have f2 := hw.frn hb
      have e1 : az_rn sc iX6_findFault 59 [some (.ref m), some (.int (nI i)), some (.int (nI a)), some (.int (nI b)), o] [] (mdG G m V A1) = az_rn sc iX6_findFault 67 [some (.ref m), some (.int (nI i)), some (.int (nI a)), some (.int (nI b)), some (.int (nI 0))] [] (mdG G m V A1) := by
        rw [bX6_findFault_59, md_r2, md_a2 (by omega), h1.a hi, if_neg (nI_ge hb (by omega))]
        rfl
      by_cases e : to (Tb i) a = fr (Tb i) b
      · refine ⟨fun c hc => ?_, fun hc => ⟨some (.int (nI (tK (Tb i)))), ?_⟩⟩
        · rw [e1, inner2 ht a b ha hb e, hc]
        · rw [e1, inner2 ht a b ha hb e, hc]
      · have hn : fdB (u2 (Tb i) a b) (tK (Tb i)) = none := by
          cases hf : fdB (u2 (Tb i) a b) (tK (Tb i)) with
          | none => rfl
          | some c =>
            have := (fdB_some hf).2.1
            simp [u2, e] at this
        refine ⟨fun c hc => ?_, fun _ => ⟨some (.int (nI 0)), ?_⟩⟩
        · rw [hn] at hc; cases hc
        · have hk0 : 0 < tK (Tb i) := by omega
          rw [e1, bX6_findFault_67, md_r2, md_a2 (by omega), h1.a hi, if_neg (nI_ge hk0 (by omega)), md_rc, m_to h1 hi ha, bI_s, md_rc, m_from h1 hi hb, bI_s, ite_nnI (by omega) (by omega), if_pos e, nI_1]
    have hend : ∀ o : Option Value, ∃ o' : Option Value, az_rn sc iX6_findFault 59 [some (.ref m), some (.int (nI i)), some (.int (nI a)), some (.int (nI (tK (Tb i)))), o] [] (mdG G m V A1) = az_rn sc iX6_findFault 51 [some (.ref m), some (.int (nI i)), some (.int (nI (a + 1))), some (.int (nI (tK (Tb i)))), o'] [] (mdG G m V A1) := by
      intro o
      exact ⟨o, by rw [bX6_findFault_59, md_r2, md_a2 (by omega), h1.a hi, if_pos (nI_le (Nat.le_refl _) (by omega)), nI_1]⟩
    -- by hand: the loop with a state, its end with one too
    have walk : ∀ n b (o : Option Value), b + n = tK (Tb i) → (∀ b', b' < b → fdB (u2 (Tb i) a b') (tK (Tb i)) = none) → ∃ o' : Option Value, az_rn sc iX6_findFault 59 [some (.ref m), some (.int (nI i)), some (.int (nI a)), some (.int (nI b)), o] [] (mdG G m V A1) = match fdO (fun b => fdB (u2 (Tb i) a b) (tK (Tb i))) (tK (Tb i)) with
        | some (b, c) => some (none, mdG G m V (va_up A1 7 (fw (A1 7) 2 (nI a) (nI b) (nI c))))
        | none => az_rn sc iX6_findFault 51 [some (.ref m), some (.int (nI i)), some (.int (nI (a + 1))), some (.int (nI (tK (Tb i)))), o'] [] (mdG G m V A1) := by
      intro n
      induction n with
      | zero =>
        intro b o hb hnone
        have hbk : b = tK (Tb i) := by omega
        subst hbk
        obtain ⟨o', e'⟩ := hend o
        refine ⟨o', ?_⟩
        rw [fdO_allnone hnone]
        exact e'
      | succ n ih =>
        intro b o hb hnone
        have hbk : b < tK (Tb i) := by omega
        cases hf : fdB (u2 (Tb i) a b) (tK (Tb i)) with
        | some c =>
          refine ⟨none, ?_⟩
          rw [(go b o hbk).1 c hf, fdO_first hbk hf hnone]
        | none =>
          obtain ⟨o1, e1⟩ := (go b o hbk).2 hf
          rw [e1]
          refine ih (b + 1) o1 (by omega) (fun b' hb' => ?_)
          by_cases e : b' = b
          · subst e; exact hf
          · exact hnone b' (by omega)
    exact walk (tK (Tb i)) 0 o (by omega) (fun b' hb' => absurd hb' (Nat.not_lt_zero _))
  have second : tld (Tb i) → ∀ o : Option Value × Option Value, az_rn sc iX6_findFault 51 [some (.ref m), some (.int (nI i)), some (.int (nI 0)), o.1, o.2] [] (mdG G m V A1) = match uu2 (Tb i) with
      | some (a, b, c) => some (none, mdG G m V (va_up A1 7 (fw (A1 7) 2 (nI a) (nI b) (nI c))))
      | none => some (none, mdG G m V A1) := by
    intro ht o
    have key := lp_fdO (fun a (o : Option Value × Option Value) => az_rn sc iX6_findFault 51 [some (.ref m), some (.int (nI i)), some (.int (nI a)), o.1, o.2] [] (mdG G m V A1)) (fun a => fdO (fun b => fdB (u2 (Tb i) a b) (tK (Tb i))) (tK (Tb i))) (fun a z => some (none, mdG G m V (va_up A1 7 (fw (A1 7) 2 (nI a) (nI z.1) (nI z.2))))) (some (none, mdG G m V A1)) (tK (Tb i)) (fun a o ha => by
        obtain ⟨o', e2⟩ := mid2 ht a o.2 ha
        have e1 : az_rn sc iX6_findFault 51 [some (.ref m), some (.int (nI i)), some (.int (nI a)), o.1, o.2] [] (mdG G m V A1) = az_rn sc iX6_findFault 59 [some (.ref m), some (.int (nI i)), some (.int (nI a)), some (.int (nI 0)), o.2] [] (mdG G m V A1) := by
          rw [bX6_findFault_51, md_r2, md_a2 (by omega), h1.a hi, if_neg (nI_ge ha (by omega))]
          rfl
        refine ⟨fun z hz => ?_, fun hz => ⟨(some (.int (nI (tK (Tb i)))), o'), ?_⟩⟩
        · rw [e1, e2, hz]
        · rw [e1, e2, hz])
      (fun o => by rw [bX6_findFault_51, md_r2, md_a2 (by omega), h1.a hi, if_pos (nI_le (Nat.le_refl _) (by omega))]) o
    refine Eq.trans key ?_
    unfold uu2
    cases fdO (fun a => fdO (fun b => fdB (u2 (Tb i) a b) (tK (Tb i))) (tK (Tb i))) (tK (Tb i)) with
    | none => rfl
    | some z => rfl
  -- the first search
  have inner1 : ∀ a, a < tK (Tb i) → az_rn sc iX6_findFault 16 [some (.ref m), some (.int (nI i)), some (.int (nI a)), some (.int (nI 0)), none] [] (mdG G m V A1) = match fdB (u1 (Tb i) a) (tK (Tb i)) with
      | some b => some (none, mdG G m V (va_up A1 7 (fw (A1 7) 1 (nI a) (nI b) (-1))))
      | none => az_rn sc iX6_findFault 8 [some (.ref m), some (.int (nI i)), some (.int (nI (a + 1))), some (.int (nI (tK (Tb i)))), none] [] (mdG G m V A1) := by
    intro a ha
    refine lp_fd (fun b => az_rn sc iX6_findFault 16 [some (.ref m), some (.int (nI i)), some (.int (nI a)), some (.int (nI b)), none] [] (mdG G m V A1)) (u1 (Tb i) a) (fun b => some (none, mdG G m V (va_up A1 7 (fw (A1 7) 1 (nI a) (nI b) (-1))))) _ (tK (Tb i)) (fun b hb => ?_) ?_
    · have f1 := hw.ton ha
      have f2 := hw.frn hb
      rw [bX6_findFault_16, md_r2, md_a2 (by omega), h1.a hi, if_neg (nI_ge hb (by omega)), md_rc, m_to h1 hi ha, bI_s, md_rc, m_from h1 hi hb, bI_s, ite_nnI (by omega) (by omega), nI_1]
      by_cases e : to (Tb i) a = fr (Tb i) b
      · rw [if_neg (fun q => q e), md_rc, m_wayIn h1 hi ha hb, bI_s]
        by_cases e2 : wy (Tb i) a b = -1
        · rw [if_neg (fun q => q e2), md_rc, m_finds, bV_s, if_pos (by simp [u1, e, e2])]
        · rw [if_pos e2, if_neg (by simp [u1, e2])]
      · rw [if_pos e, if_neg (by simp [u1, e])]
    · rw [bX6_findFault_16, md_r2, md_a2 (by omega), h1.a hi, if_pos (nI_le (Nat.le_refl _) (by omega)), nI_1]
  have go1 : ∀ a (o : Option Value), a < tK (Tb i) → (∀ b, fdB (u1 (Tb i) a) (tK (Tb i)) = some b → az_rn sc iX6_findFault 8 [some (.ref m), some (.int (nI i)), some (.int (nI a)), o, none] [] (mdG G m V A1) = some (none, mdG G m V (va_up A1 7 (fw (A1 7) 1 (nI a) (nI b) (-1))))) ∧ (fdB (u1 (Tb i) a) (tK (Tb i)) = none → ∃ o' : Option Value, az_rn sc iX6_findFault 8 [some (.ref m), some (.int (nI i)), some (.int (nI a)), o, none] [] (mdG G m V A1) = az_rn sc iX6_findFault 8 [some (.ref m), some (.int (nI i)), some (.int (nI (a + 1))), o', none] [] (mdG G m V A1)) := by
    intro a o ha
    have e1 : az_rn sc iX6_findFault 8 [some (.ref m), some (.int (nI i)), some (.int (nI a)), o, none] [] (mdG G m V A1) = az_rn sc iX6_findFault 16 [some (.ref m), some (.int (nI i)), some (.int (nI a)), some (.int (nI 0)), none] [] (mdG G m V A1) := by
      rw [bX6_findFault_8, md_r2, md_a2 (by omega), h1.a hi, if_neg (nI_ge ha (by omega))]
      rfl
    refine ⟨fun b hb => ?_, fun hb => ⟨some (.int (nI (tK (Tb i)))), ?_⟩⟩
    · rw [e1, inner1 a ha, hb]
    · rw [e1, inner1 a ha, hb]
  have hend1 : ∀ o : Option Value, az_rn sc iX6_findFault 8 [some (.ref m), some (.int (nI i)), some (.int (nI (tK (Tb i)))), o, none] [] (mdG G m V A1) = az_rn sc iX6_findFault 51 [some (.ref m), some (.int (nI i)), some (.int (nI 0)), o, none] [] (mdG G m V A1) := by
    intro o
    rw [bX6_findFault_8, md_r2, md_a2 (by omega), h1.a hi, if_pos (nI_le (Nat.le_refl _) (by omega))]
    rfl
  have hgoal : az_rn sc iX6_findFault 8 [some (.ref m), some (.int (nI i)), some (.int (nI 0)), none, none] [] (mdG G m V A1) = some (none, mdG G m V (va_up A1 7 (fw (A1 7) (flt (Tb i)).1 (flt (Tb i)).2.1 (flt (Tb i)).2.2.1 (flt (Tb i)).2.2.2))) := by
    unfold flt
    cases hu : uu1 (Tb i) with
    | some z =>
      obtain ⟨a, b⟩ := z
      have walk : ∀ n a0 (o : Option Value), a0 + n = tK (Tb i) → (∀ a', a' < a0 → fdB (u1 (Tb i) a') (tK (Tb i)) = none) → az_rn sc iX6_findFault 8 [some (.ref m), some (.int (nI i)), some (.int (nI a0)), o, none] [] (mdG G m V A1) = some (none, mdG G m V (va_up A1 7 (fw (A1 7) 1 (nI a) (nI b) (-1)))) := by
        intro n
        induction n with
        | zero =>
          intro a0 o ha0 hnone
          have e0 : a0 = tK (Tb i) := by omega
          subst e0
          unfold uu1 at hu
          rw [fdO_allnone hnone] at hu
          cases hu
        | succ n ih =>
          intro a0 o ha0 hnone
          have hak : a0 < tK (Tb i) := by omega
          cases hf : fdB (u1 (Tb i) a0) (tK (Tb i)) with
          | some c =>
            unfold uu1 at hu
            rw [fdO_first hak hf hnone] at hu
            have e1 := congrArg Prod.fst (Option.some.inj hu)
            have e2 := congrArg Prod.snd (Option.some.inj hu)
            dsimp only at e1 e2
            rw [← e1, ← e2]
            exact (go1 a0 o hak).1 c hf
          | none =>
            obtain ⟨o1, e1⟩ := (go1 a0 o hak).2 hf
            rw [e1]
            refine ih (a0 + 1) o1 (by omega) (fun a' ha' => ?_)
            by_cases e : a' = a0
            · subst e; exact hf
            · exact hnone a' (by omega)
      exact walk (tK (Tb i)) 0 none (by omega) (fun a' ha' => absurd ha' (Nat.not_lt_zero _))
    | none =>
      have ht := uu1_told hw hu
      have walk : ∀ n a0 (o : Option Value), a0 + n = tK (Tb i) → ∃ o' : Option Value, az_rn sc iX6_findFault 8 [some (.ref m), some (.int (nI i)), some (.int (nI a0)), o, none] [] (mdG G m V A1) = az_rn sc iX6_findFault 51 [some (.ref m), some (.int (nI i)), some (.int (nI 0)), o', none] [] (mdG G m V A1) := by
        intro n
        induction n with
        | zero =>
          intro a0 o ha0
          have e0 : a0 = tK (Tb i) := by omega
          subst e0
          exact ⟨o, hend1 o⟩
        | succ n ih =>
          intro a0 o ha0
          have hak : a0 < tK (Tb i) := by omega
          obtain ⟨o1, e1⟩ := (go1 a0 o hak).2 (fdO_none hu a0 hak)
          rw [e1]
          exact ih (a0 + 1) o1 (by omega)
      obtain ⟨o', e'⟩ := walk (tK (Tb i)) 0 none (by omega)
      rw [e', second ht (o', none)]
      cases uu2 (Tb i) with
      | some z => rfl
      | none =>
        dsimp only
        rw [hA7, ← hA1]
  refine Eq.trans hgoal ?_
  rw [hA7]
end OPSD
