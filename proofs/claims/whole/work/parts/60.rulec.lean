/-! THE SEARCH's rules: both sides make them -/
def cRu (r5 r6 r7 : Nat) (A A' : Nat → Nat → Int32) (L : Nat) (s : ruS) : Prop := (∀ r, r ≠ r5 → r ≠ r6 → r ≠ r7 → A' r = A r) ∧ (∀ l, l < L → A' r5 l = nI (rt s l)) ∧ (∀ i, i < rz s → A' r6 i = nI (rf s i) ∧ A' r7 i = nI (rg s i))
theorem cRu_b {r5 r6 r7 : Nat} {A A1 : Nat → Nat → Int32} {L l a b : Nat} {s : ruS} {T : tb} (h : cRu r5 r6 r7 A A1 L s) (h56 : r5 ≠ r6) (h57 : r5 ≠ r7) (h67 : r6 ≠ r7) (hc : rcd T l a b = true) : cRu r5 r6 r7 A (va_up (va_up A1 r6 (upd (A1 r6) (rz s) (nI a))) r7 (upd (A1 r7) (rz s) (nI b))) L (rsb T l a b s) := by
  obtain ⟨h1, h2, h3⟩ := h
  unfold rsb
  rw [if_pos hc]
  refine ⟨fun r q5 q6 q7 => ?_, fun l' hl' => ?_, fun i hi => ?_⟩
  · rw [up_n _ _ q7, up_n _ _ q6]
    exact h1 r q5 q6 q7
  · rw [up_n _ _ h57, up_n _ _ h56]
    exact h2 l' hl'
  · have hi' : i < rz s + 1 := hi
    rw [up_n _ _ h67, up_s, up_s]
    show upd (A1 r6) (rz s) (nI a) i = nI (va_up (rf s) (rz s) a i) ∧ upd (A1 r7) (rz s) (nI b) i = nI (va_up (rg s) (rz s) b i)
    by_cases e : i = rz s
    · subst e
      rw [upd_s, upd_s, up_s, up_s]
      exact ⟨rfl, rfl⟩
    · rw [upd_n _ _ e, upd_n _ _ e, up_n _ _ e, up_n _ _ e]
      exact h3 i (by omega)
theorem cRu_0 {r5 r6 r7 : Nat} {A A1 : Nat → Nat → Int32} {l : Nat} {s : ruS} (h : cRu r5 r6 r7 A A1 l s) (h56 : r5 ≠ r6) (h57 : r5 ≠ r7) : cRu r5 r6 r7 A (va_up A1 r5 (upd (A1 r5) l (nI (rz s)))) (l + 1) (rs0 l s) := by
  obtain ⟨h1, h2, h3⟩ := h
  refine ⟨fun r q5 q6 q7 => ?_, fun l' hl' => ?_, fun i hi => ?_⟩
  · rw [up_n _ _ q5]
    exact h1 r q5 q6 q7
  · rw [up_s]
    show upd (A1 r5) l (nI (rz s)) l' = nI (va_up (rt s) l (rz s) l')
    by_cases e : l' = l
    · subst e
      rw [upd_s, up_s]
    · rw [upd_n _ _ e, up_n _ _ e]
      exact h2 l' (by omega)
  · rw [up_n _ _ h56.symm, up_n _ _ h57.symm]
    exact h3 i hi
theorem wv_eq {T : tb} (hw : tbW T) (ht : tld T) {a b : Nat} (ha : a < tK T) (hb : b < tK T) (e : to T a = fr T b) : wy T a b = nI (wv T a b) ∧ wv T a b < tK T := by
  obtain ⟨c, hc, h1, -, -⟩ := ht a b ha hb e
  have hk := hw.k24
  have e2 : wv T a b = c := by
    unfold wv
    rw [h1]
    exact nI_clamp (by omega)
  rw [e2]
  exact ⟨h1, hc⟩
section RULEC
variable {sc : az_S} {G G1 : az_H} {x m t : Nat} {V Vm : Nat → Int32} {A Am : Nat → Nat → Int32} {R : Nat → Nat → Option Nat} {T : tb} {nt i : Nat} {Tb : Nat → tb}
theorem s_setRules (hT : ∀ A', tbC (clG G x V A' R) t T) (hw : tbW T) (ht : tld T) : ∃ A', az_ca sc iX3_setRules [.ref (x + 3), .ref t] (clG G x V A R) = some (none, clG G x V A' R) ∧ cRu 5 6 7 A A' (tK T + 1) (rsF T) := by
  have hk := hw.k24
  have hnk := hw.nk
  have zl : ∀ {l a b : Nat}, l < tK T → a < tK T → b < tK T → rz (rsB T l a b) ≤ 576 := by
    intro l a b hl ha hb
    have e1 : rz (rsB T l a b) = rz (rsA T l a) + smB (rct T l a) b := rct_b _ _ _ _ _
    have e2 : rz (rsA T l a) = rz (rsL T l) + smB (fun a => smB (rct T l a) (tK T)) a := rct_a _ _ _ _
    have e3 : rz (rsL T (l + 1)) = rz (rsL T l) + smB (fun a => smB (rct T l a) (tK T)) (tK T) := by rw [← rsA_k]; exact rct_a _ _ _ _
    have h1 : smB (rct T l a) b ≤ smB (rct T l a) (tK T) := smB_mono _ (by omega)
    have h2 : smB (fun a => smB (rct T l a) (tK T)) (a + 1) ≤ smB (fun a => smB (rct T l a) (tK T)) (tK T) := smB_mono _ ha
    have e6 : smB (fun a => smB (rct T l a) (tK T)) (a + 1) = smB (fun a => smB (rct T l a) (tK T)) a + smB (rct T l a) (tK T) := rfl
    have h3 := rz_le hk (l + 1)
    omega
  have L22 : ∀ l a, l < tK T → tN T ≤ a → a ≤ l → ∀ d b A1, b + d = l + 1 → tN T ≤ b → cRu 5 6 7 A A1 (l + 1) (rsB T l a b) → ∃ A2, az_rn sc iX3_setRules 22 [some (.ref (x + 3)), some (.ref t), some (.int (nI (rz (rsB T l a b)))), some (.int (nI l)), some (.int (nI a)), some (.int (nI b))] [] (clG G x V A1 R) = az_rn sc iX3_setRules 16 [some (.ref (x + 3)), some (.ref t), some (.int (nI (rz (rsA T l (a + 1))))), some (.int (nI l)), some (.int (nI (a + 1))), some (.int (nI (l + 1)))] [] (clG G x V A2 R) ∧ cRu 5 6 7 A A2 (l + 1) (rsA T l (a + 1)) := by
    intro l a hl hna hal d
    induction d with
    | zero =>
      intro b A1 hb hnb hr
      have e : b = l + 1 := by omega
      subst e
      rw [rsB_l hl] at hr ⊢
      refine ⟨A1, ?_, hr⟩
      rw [bX3_setRules_22, if_pos (nI_lt (by omega) (by omega)), nI_1]
    | succ d ih =>
      intro b A1 hb hnb hr
      have hbl : b ≤ l := by omega
      have hz := zl hl (show a < tK T by omega) (show b < tK T by omega)
      rw [bX3_setRules_22, if_neg (fun z => by have := (nI_ltI (by omega) (by omega)).mp z; omega), tb_rc (hT A1), s_isRow (hT A1) hw (show a < tK T by omega) (show b < tK T by omega), bI_s, nI_1]
      by_cases e1 : to T a = fr T b
      · obtain ⟨w1, w2⟩ := wv_eq hw ht (show a < tK T by omega) (show b < tK T by omega) e1
        rw [if_pos e1, if_neg (by decide), tb_rc (hT A1), s_wayAt (hT A1) (show a < tK T by omega) (show b < tK T by omega) hk, bI_s, w1, mx_n (by omega) (by omega), mx_n (by omega) (by omega), ite_nnI (by omega) (by omega)]
        by_cases e2 : mxr T a b = l
        · have hc : rcd T l a b = true := decide_eq_true ⟨hna, hnb, e1, e2⟩
          have hz2 := rz_lt hk (show a < tK T by omega) (show b < tK T by omega) hc
          have es : rsB T l a (b + 1) = rsb T l a b (rsB T l a b) := rfl
          have ez : rz (rsB T l a (b + 1)) = rz (rsB T l a b) + 1 := by
            rw [es]
            unfold rsb
            rw [if_pos hc]
            rfl
          rw [if_neg (fun z => z e2), cl3_r5, s_write cl_c6 hz2 (by omega), bV_s, cl_u6, cl3_r6, s_write cl_c7 hz2 (by omega), bV_s, cl_u7, up_n _ _ (show 7 ≠ 6 by omega), nI_1, ← ez]
          refine ih (b + 1) _ (by omega) (by omega) ?_
          rw [es]
          exact cRu_b hr (by omega) (by omega) (by omega) hc
        · have hc : rcd T l a b = false := decide_eq_false (fun z => e2 z.2.2.2)
          have es : rsB T l a (b + 1) = rsB T l a b := rsb_id hc _
          rw [if_pos (show ¬ max (max a b) (wv T a b) = l from e2), ← es]
          refine ih (b + 1) _ (by omega) (by omega) ?_
          rw [es]
          exact hr
      · have hc : rcd T l a b = false := decide_eq_false (fun z => e1 z.2.2.1)
        have es : rsB T l a (b + 1) = rsB T l a b := rsb_id hc _
        rw [if_neg e1, if_pos rfl, ← es]
        refine ih (b + 1) _ (by omega) (by omega) ?_
        rw [es]
        exact hr
  have L16 : ∀ l, l < tK T → ∀ d a (o5 : Option Value) A1, a + d = l + 1 → tN T ≤ a → cRu 5 6 7 A A1 (l + 1) (rsA T l a) → ∃ o5' A2, az_rn sc iX3_setRules 16 [some (.ref (x + 3)), some (.ref t), some (.int (nI (rz (rsA T l a)))), some (.int (nI l)), some (.int (nI a)), o5] [] (clG G x V A1 R) = az_rn sc iX3_setRules 4 [some (.ref (x + 3)), some (.ref t), some (.int (nI (rz (rsL T (l + 1))))), some (.int (nI (l + 1))), some (.int (nI (l + 1))), o5'] [] (clG G x V A2 R) ∧ cRu 5 6 7 A A2 (l + 1) (rsL T (l + 1)) := by
    intro l hl d
    induction d with
    | zero =>
      intro a o5 A1 ha hna hr
      have e : a = l + 1 := by omega
      subst e
      rw [rsA_l hl] at hr ⊢
      refine ⟨o5, A1, ?_, hr⟩
      rw [bX3_setRules_16, if_pos (nI_lt (by omega) (by omega)), nI_1]
    | succ d ih =>
      intro a o5 A1 ha hna hr
      have hr' : cRu 5 6 7 A A1 (l + 1) (rsB T l a (tN T)) := by rw [rsB_n]; exact hr
      have e22 : ∃ A2, az_rn sc iX3_setRules 22 [some (.ref (x + 3)), some (.ref t), some (.int (nI (rz (rsB T l a (tN T))))), some (.int (nI l)), some (.int (nI a)), some (.int (nI (tN T)))] [] (clG G x V A1 R) = az_rn sc iX3_setRules 16 [some (.ref (x + 3)), some (.ref t), some (.int (nI (rz (rsA T l (a + 1))))), some (.int (nI l)), some (.int (nI (a + 1))), some (.int (nI (l + 1)))] [] (clG G x V A2 R) ∧ cRu 5 6 7 A A2 (l + 1) (rsA T l (a + 1)) := L22 l a hl hna (by omega) (l + 1 - tN T) (tN T) A1 (by omega) (Nat.le_refl _) hr'
      obtain ⟨A2, f1, f2⟩ := e22
      obtain ⟨o5', A3, g1, g2⟩ := ih (a + 1) (some (.int (nI (l + 1)))) A2 (by omega) (by omega) f2
      refine ⟨o5', A3, ?_, g2⟩
      rw [bX3_setRules_16, if_neg (fun z => by have := (nI_ltI (by omega) (by omega)).mp z; omega), tb_f0 (hT A1), ← rsB_n]
      exact f1.trans g1
  have L4 : ∀ d l (o4 o5 : Option Value) A1, l + d = tK T → cRu 5 6 7 A A1 l (rsL T l) → ∃ A2, az_rn sc iX3_setRules 4 [some (.ref (x + 3)), some (.ref t), some (.int (nI (rz (rsL T l)))), some (.int (nI l)), o4, o5] [] (clG G x V A1 R) = some (none, clG G x V A2 R) ∧ cRu 5 6 7 A A2 (tK T + 1) (rsF T) := by
    intro d
    induction d with
    | zero =>
      intro l o4 o5 A1 hl hr
      have e : l = tK T := by omega
      subst e
      refine ⟨_, ?_, cRu_0 hr (by omega) (by omega)⟩
      rw [bX3_setRules_4, tb_f1 (hT A1), if_pos (nI_le (Nat.le_refl _) (by omega)), cl3_r4, tb_f1 (hT A1), s_write cl_c5 (by omega) (by omega), bV_s, cl_u5]
    | succ d ih =>
      intro l o4 o5 A1 hl hr
      have hr1 := cRu_0 (r5 := 5) (r6 := 6) (r7 := 7) hr (by omega) (by omega)
      by_cases hln : tN T ≤ l
      · rw [← rsA_n] at hr1
        have e16 := L16 l (by omega) (l + 1 - tN T) (tN T) o5 _ (by omega) (Nat.le_refl _) hr1
        obtain ⟨o5', A2, f1, f2⟩ := e16
        obtain ⟨A3, g1, g2⟩ := ih (l + 1) (some (.int (nI (l + 1)))) o5' A2 (by omega) f2
        refine ⟨A3, ?_, g2⟩
        rw [bX3_setRules_4, tb_f1 (hT A1), if_neg (nI_ge (show l < tK T by omega) (by omega)), cl3_r4, s_write cl_c5 (by omega) (by omega), bV_s, cl_u5, tb_f0 (hT _)]
        refine Eq.trans ?_ (f1.trans g1)
        rw [rsA_n]
        rfl
      · have e0 : rs0 l (rsL T l) = rsL T (l + 1) := by
          refine (flB_idle (f := fun a => flB (rsb T l a) (tK T)) (n := tK T) (Nat.zero_le _) (fun j _ hj z => flB_idle (Nat.zero_le _) (fun b _ _ z => rsb_id ?_ z))).symm
          by_cases q : j < tN T
          · exact rcd_lo (Or.inl q)
          · exact rcd_hi (Or.inl (by omega))
        rw [e0] at hr1
        obtain ⟨A3, g1, g2⟩ := ih (l + 1) (some (.int (nI (tN T)))) o5 _ (by omega) hr1
        refine ⟨A3, ?_, g2⟩
        rw [bX3_setRules_4, tb_f1 (hT A1), if_neg (nI_ge (show l < tK T by omega) (by omega)), cl3_r4, s_write cl_c5 (by omega) (by omega), bV_s, cl_u5, tb_f0 (hT _), bX3_setRules_16, if_pos (nI_lt (by omega) (by omega)), nI_1]
        refine Eq.trans ?_ g1
        rw [← e0]
        rfl
  obtain ⟨A2, f1, f2⟩ := L4 (tK T) 0 none none A (by omega) ⟨fun _ _ _ _ => rfl, fun l hl => absurd hl (Nat.not_lt_zero _), fun i hi => absurd hi (Nat.not_lt_zero _)⟩
  refine ⟨A2, ?_, f2⟩
  rw [eX3_setRules]
  exact f1
theorem m_last {a b c : Nat} (ha : a < 2 ^ 31) (hb : b < 2 ^ 31) (hc : c < 2 ^ 31) : az_ca sc iX6_last [.int (nI a), .int (nI b), .int (nI c)] G = some (some (.int (nI (max (max a b) c))), G) := by
  rw [eX6_last]
  by_cases h1 : a ≤ b
  · rw [if_pos (nI_le h1 hb)]
    by_cases h2 : b ≤ c
    · rw [if_pos (nI_le h2 hc), show max (max a b) c = c by omega]
    · rw [if_neg (nI_ge (by omega) hb), show max (max a b) c = b by omega]
  · rw [if_neg (nI_ge (by omega) ha)]
    by_cases h2 : a ≤ c
    · rw [if_pos (nI_le h2 hc), show max (max a b) c = c by omega]
    · rw [if_neg (nI_ge (by omega) ha), show max (max a b) c = a by omega]
theorem mT_A {V : Nat → Int32} {A A' : Nat → Nat → Int32} (h : mT V A nt Tb) (hA : ∀ r : Nat, r < 7 → A' r = A r) : mT V A' nt Tb := by
  obtain ⟨a1, a2, a3⟩ := h
  refine ⟨a1, a2, fun i hi => ?_⟩
  rw [hA 1 (by omega), hA 2 (by omega), hA 3 (by omega), hA 4 (by omega), hA 5 (by omega), hA 6 (by omega)]
  exact a3 i hi
theorem m_findPairs (hm : mT Vm Am nt Tb) (hi : i < nt) (ht : tld (Tb i)) : ∃ A', az_ca sc iX6_findPairs [.ref m, .int (nI i)] (mdG G m Vm Am) = some (none, mdG G m Vm A') ∧ cRu 15 13 14 Am A' (tK (Tb i) + 1) (rsF (Tb i)) := by
  have h8 := hm.2.1
  have hw := hm.w hi
  have hk := hw.k24
  have hnk := hw.nk
  have hn6 := hw.n6
  have mt : ∀ {A1 : Nat → Nat → Int32} {L : Nat} {s : ruS}, cRu 15 13 14 Am A1 L s → mT Vm A1 nt Tb := fun hr => mT_A hm (fun r hr7 => hr.1 r (by omega) (by omega) (by omega))
  have L25 : ∀ l a, l < tK (Tb i) → a < tK (Tb i) → ∀ d b (o6 : Option Value) A1, b + d = tK (Tb i) → cRu 15 13 14 Am A1 (l + 1) (rsB (Tb i) l a b) → ∃ o6' A2, az_rn sc iX6_findPairs 25 [some (.ref m), some (.int (nI i)), some (.int (nI (rz (rsB (Tb i) l a b)))), some (.int (nI l)), some (.int (nI a)), some (.int (nI b)), o6] [] (mdG G m Vm A1) = az_rn sc iX6_findPairs 17 [some (.ref m), some (.int (nI i)), some (.int (nI (rz (rsA (Tb i) l (a + 1))))), some (.int (nI l)), some (.int (nI (a + 1))), some (.int (nI (tK (Tb i)))), o6'] [] (mdG G m Vm A2) ∧ cRu 15 13 14 Am A2 (l + 1) (rsA (Tb i) l (a + 1)) := by
    intro l a hl ha d
    induction d with
    | zero =>
      intro b o6 A1 hb hr
      have e : b = tK (Tb i) := by omega
      subst e
      rw [rsB_k] at hr ⊢
      have hmt := mt hr
      refine ⟨o6, A1, ?_, hr⟩
      rw [bX6_findPairs_25, md_r2, md_a2 (by omega), hmt.a hi, if_pos (nI_le (Nat.le_refl _) (by omega)), nI_1]
    | succ d ih =>
      intro b o6 A1 hb hr
      have hbk : b < tK (Tb i) := by omega
      have hmt := mt hr
      rw [bX6_findPairs_25, md_r2, md_a2 (by omega), hmt.a hi, if_neg (nI_ge hbk (by omega)), md_rc, m_wayIn hmt hi ha hbk, bI_s, nI_1]
      by_cases e1 : to (Tb i) a = fr (Tb i) b
      · obtain ⟨w1, w2⟩ := wv_eq hw ht ha hbk e1
        rw [w1, if_neg (nI_nm1 (by omega)), m_last (by omega) (by omega) (by omega), bI_s, ite_nnI (by omega) (by omega)]
        by_cases e2 : mxr (Tb i) a b = l
        · rw [if_neg (fun z => z e2), md_r1, md_a1 (by omega), hmt.o hi]
          by_cases e3 : a < tN (Tb i)
          · have hc : rcd (Tb i) l a b = false := rcd_lo (Or.inl e3)
            have es : rsB (Tb i) l a (b + 1) = rsB (Tb i) l a b := rsb_id hc _
            rw [if_pos (nI_lt e3 (by omega)), ← es]
            refine ih (b + 1) _ _ (by omega) ?_
            rw [es]
            exact hr
          · rw [if_neg (fun z => e3 ((nI_ltI (by omega) (by omega)).mp z)), md_r1, md_a1 (by omega), hmt.o hi]
            by_cases e4 : b < tN (Tb i)
            · have hc : rcd (Tb i) l a b = false := rcd_lo (Or.inr e4)
              have es : rsB (Tb i) l a (b + 1) = rsB (Tb i) l a b := rsb_id hc _
              rw [if_pos (nI_lt e4 (by omega)), ← es]
              refine ih (b + 1) _ _ (by omega) ?_
              rw [es]
              exact hr
            · have hc : rcd (Tb i) l a b = true := decide_eq_true ⟨by omega, by omega, e1, e2⟩
              have hz2 := rz_lt hk ha hbk hc
              have es : rsB (Tb i) l a (b + 1) = rsb (Tb i) l a b (rsB (Tb i) l a b) := rfl
              have ez : rz (rsB (Tb i) l a (b + 1)) = rz (rsB (Tb i) l a b) + 1 := by
                rw [es]
                unfold rsb
                rw [if_pos hc]
                rfl
              rw [if_neg (fun z => e4 ((nI_ltI (by omega) (by omega)).mp z)), md_r15, md_s13 hz2, md_r16, md_s14 hz2, up_n _ _ (show 14 ≠ 13 by omega), nI_1, ← ez]
              refine ih (b + 1) _ _ (by omega) ?_
              rw [es]
              exact cRu_b hr (by omega) (by omega) (by omega) hc
        · have hc : rcd (Tb i) l a b = false := decide_eq_false (fun z => e2 z.2.2.2)
          have es : rsB (Tb i) l a (b + 1) = rsB (Tb i) l a b := rsb_id hc _
          rw [if_pos (show ¬ max (max a b) (wv (Tb i) a b) = l from e2), ← es]
          refine ih (b + 1) _ _ (by omega) ?_
          rw [es]
          exact hr
      · have hc : rcd (Tb i) l a b = false := decide_eq_false (fun z => e1 z.2.2.1)
        have es : rsB (Tb i) l a (b + 1) = rsB (Tb i) l a b := rsb_id hc _
        rw [(hw.2.2.2.1 a b ha hbk).1 e1, if_pos rfl, ← es]
        refine ih (b + 1) _ _ (by omega) ?_
        rw [es]
        exact hr
  have L17 : ∀ l, l < tK (Tb i) → ∀ d a (o5 o6 : Option Value) A1, a + d = tK (Tb i) → cRu 15 13 14 Am A1 (l + 1) (rsA (Tb i) l a) → ∃ o5' o6' A2, az_rn sc iX6_findPairs 17 [some (.ref m), some (.int (nI i)), some (.int (nI (rz (rsA (Tb i) l a)))), some (.int (nI l)), some (.int (nI a)), o5, o6] [] (mdG G m Vm A1) = az_rn sc iX6_findPairs 4 [some (.ref m), some (.int (nI i)), some (.int (nI (rz (rsL (Tb i) (l + 1))))), some (.int (nI (l + 1))), some (.int (nI (tK (Tb i)))), o5', o6'] [] (mdG G m Vm A2) ∧ cRu 15 13 14 Am A2 (l + 1) (rsL (Tb i) (l + 1)) := by
    intro l hl d
    induction d with
    | zero =>
      intro a o5 o6 A1 ha hr
      have e : a = tK (Tb i) := by omega
      subst e
      rw [rsA_k] at hr ⊢
      have hmt := mt hr
      refine ⟨o5, o6, A1, ?_, hr⟩
      rw [bX6_findPairs_17, md_r2, md_a2 (by omega), hmt.a hi, if_pos (nI_le (Nat.le_refl _) (by omega)), nI_1]
    | succ d ih =>
      intro a o5 o6 A1 ha hr
      have hmt := mt hr
      obtain ⟨o6', A2, f1, f2⟩ := L25 l a hl (by omega) (tK (Tb i)) 0 o6 A1 (by omega) hr
      obtain ⟨p5, p6, A3, g1, g2⟩ := ih (a + 1) (some (.int (nI (tK (Tb i))))) o6' A2 (by omega) f2
      refine ⟨p5, p6, A3, ?_, g2⟩
      rw [bX6_findPairs_17, md_r2, md_a2 (by omega), hmt.a hi, if_neg (nI_ge (show a < tK (Tb i) by omega) (by omega))]
      exact f1.trans g1
  have L4 : ∀ d l (o4 o5 o6 : Option Value) A1, l + d = tK (Tb i) → cRu 15 13 14 Am A1 l (rsL (Tb i) l) → ∃ A2, az_rn sc iX6_findPairs 4 [some (.ref m), some (.int (nI i)), some (.int (nI (rz (rsL (Tb i) l)))), some (.int (nI l)), o4, o5, o6] [] (mdG G m Vm A1) = some (none, mdG G m Vm A2) ∧ cRu 15 13 14 Am A2 (tK (Tb i) + 1) (rsF (Tb i)) := by
    intro d
    induction d with
    | zero =>
      intro l o4 o5 o6 A1 hl hr
      have e : l = tK (Tb i) := by omega
      subst e
      have hmt := mt hr
      refine ⟨_, ?_, cRu_0 hr (by omega) (by omega)⟩
      rw [bX6_findPairs_4, md_r2, md_a2 (by omega), hmt.a hi, if_pos (nI_le (Nat.le_refl _) (by omega)), md_r17, md_r2, md_a2 (by omega), hmt.a hi, md_s15 (by omega)]
    | succ d ih =>
      intro l o4 o5 o6 A1 hl hr
      have hmt := mt hr
      have hr1 := cRu_0 (r5 := 15) (r6 := 13) (r7 := 14) hr (by omega) (by omega)
      obtain ⟨p5, p6, A2, f1, f2⟩ := L17 l (by omega) (tK (Tb i)) 0 o5 o6 _ (by omega) hr1
      obtain ⟨A3, g1, g2⟩ := ih (l + 1) (some (.int (nI (tK (Tb i))))) p5 p6 A2 (by omega) f2
      refine ⟨A3, ?_, g2⟩
      rw [bX6_findPairs_4, md_r2, md_a2 (by omega), hmt.a hi, if_neg (nI_ge (show l < tK (Tb i) by omega) (by omega)), md_r17, md_s15 (by omega)]
      exact f1.trans g1
  obtain ⟨A2, f1, f2⟩ := L4 (tK (Tb i)) 0 none none none Am (by omega) ⟨fun _ _ _ _ => rfl, fun l hl => absurd hl (Nat.not_lt_zero _), fun j hj => absurd hj (Nat.not_lt_zero _)⟩
  refine ⟨A2, ?_, f2⟩
  rw [eX6_findPairs]
  exact f1
end RULEC
