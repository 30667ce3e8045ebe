/-! OPERATION digest -/
/-- a fold over 0 .. n - 1 -/
def flB {β : Type} (f : Nat → β → β) : Nat → β → β
  | 0, h => h
  | n + 1, h => f n (flB f n h)
theorem lp_fl {α β σ : Type} (F : Nat → β → σ → α) (f : Nat → β → β) (E : β → α) (n : Nat) (hs : ∀ i h o, i < n → ∃ o', F i h o = F (i + 1) (f i h) o') (he : ∀ h o, F n h o = E h) (h0 : β) (o : σ) : F 0 h0 o = E (flB f n h0) := by
  have key : ∀ j, j ≤ n → ∃ o', F 0 h0 o = F j (flB f j h0) o' := by
    intro j
    induction j with
    | zero => intro _; exact ⟨o, rfl⟩
    | succ j ih =>
      intro hj
      obtain ⟨o1, e1⟩ := ih (by omega)
      obtain ⟨o2, e2⟩ := hs j (flB f j h0) o1 (by omega)
      exact ⟨o2, by rw [e1, e2]; rfl⟩
  obtain ⟨o1, e1⟩ := key n (Nat.le_refl _)
  rw [e1, he]
def dg1 (T : tb) (a : Nat) (h : Int64) : Int64 := 31 * (31 * h + Int32.toInt64 (nI (fr T a))) + Int32.toInt64 (nI (to T a))
def dg2 (T : tb) (a b : Nat) (h : Int64) : Int64 := 31 * h + Int32.toInt64 (wy T a b)
def dg0 (T : tb) (h : Int64) : Int64 := 31 * (31 * (31 * h + Int32.toInt64 (nI (tN T))) + Int32.toInt64 (nI (tK T))) + Int32.toInt64 (tC T)
def dgT (T : tb) (h : Int64) : Int64 := flB (fun a => flB (dg2 T a) (tK T)) (tK T) (flB (dg1 T) (tK T) (dg0 T h))
def dgC (S : wS) (j : Nat) (h : Int64) : Int64 := flB (fun a h => 31 * h + Int32.toInt64 (cR S j a)) (tK (sT S (cA S j))) (31 * (31 * h + Int32.toInt64 (nI (cA S j))) + Int32.toInt64 (nI (cB S j)))
def dgW (S : wS) : Int64 := flB (dgC S) (sM S) (flB (fun i => dgT (sT S i)) (sN S) 97)
section DIGA
variable {sc : az_S} {G : az_H} {t : Nat} {T : tb}
theorem s_digestOfTable (h : tbC G t T) (hw : tbW T) (v : Int64) : az_ca sc iX5_digestOfTable [.long v, .ref t] G = some (some (.long (dgT T v)), G) := by
  have hk := hw.k24
  have l62 : ∀ a w, a < tK T → az_rn sc iX5_digestOfTable 62 [some (.long v), none, some (.ref t), some (.long w), none, some (.int (nI a)), some (.int (nI 0))] [] G = az_rn sc iX5_digestOfTable 56 [some (.long v), none, some (.ref t), some (.long (flB (dg2 T a) (tK T) w)), none, some (.int (nI (a + 1))), some (.int (nI (tK T)))] [] G := by
    intro a w ha
    refine lp_fl (fun b w (_ : Unit) => az_rn sc iX5_digestOfTable 62 [some (.long v), none, some (.ref t), some (.long w), none, some (.int (nI a)), some (.int (nI b))] [] G) (dg2 T a) (fun w => az_rn sc iX5_digestOfTable 56 [some (.long v), none, some (.ref t), some (.long w), none, some (.int (nI (a + 1))), some (.int (nI (tK T)))] [] G) (tK T) (fun b w _ hb => ⟨(), ?_⟩) (fun w _ => ?_) w ()
    · rw [bX5_digestOfTable_62, tb_f1 h, if_neg (nI_ge hb (by omega)), tb_rc h, s_wayAt h ha hb hk, bI_s, nI_1]
      rfl
    · rw [bX5_digestOfTable_62, tb_f1 h, if_pos (nI_le (Nat.le_refl _) (by omega)), nI_1]
  have l56 : ∀ w, az_rn sc iX5_digestOfTable 56 [some (.long v), none, some (.ref t), some (.long w), none, some (.int (nI 0)), none] [] G = some (some (.long (flB (fun a => flB (dg2 T a) (tK T)) (tK T) w)), G) := by
    intro w
    refine lp_fl (fun a w (o : Option Value) => az_rn sc iX5_digestOfTable 56 [some (.long v), none, some (.ref t), some (.long w), none, some (.int (nI a)), o] [] G) (fun a => flB (dg2 T a) (tK T)) (fun w => some (some (.long w), G)) (tK T) (fun a w o ha => ⟨some (.int (nI (tK T))), ?_⟩) (fun w o => ?_) w none
    · rw [bX5_digestOfTable_56, tb_f1 h, if_neg (nI_ge ha (by omega))]
      exact l62 a w ha
    · rw [bX5_digestOfTable_56, tb_f1 h, if_pos (nI_le (Nat.le_refl _) (by omega))]
  have l30 : ∀ w, az_rn sc iX5_digestOfTable 30 [some (.long v), none, some (.ref t), some (.long w), none, some (.int (nI 0)), none] [] G = some (some (.long (flB (fun a => flB (dg2 T a) (tK T)) (tK T) (flB (dg1 T) (tK T) w))), G) := by
    intro w
    refine lp_fl (fun a w (_ : Unit) => az_rn sc iX5_digestOfTable 30 [some (.long v), none, some (.ref t), some (.long w), none, some (.int (nI a)), none] [] G) (dg1 T) (fun w => some (some (.long (flB (fun a => flB (dg2 T a) (tK T)) (tK T) w)), G)) (tK T) (fun a w _ ha => ⟨(), ?_⟩) (fun w _ => ?_) w ()
    · rw [bX5_digestOfTable_30, tb_f1 h, if_neg (nI_ge ha (by omega)), tb_rc h, s_fromOf h (by omega), bI_s, tb_rc h, s_toOf h (by omega), bI_s, nI_1, hw.f ha, hw.g ha]
      rfl
    · rw [bX5_digestOfTable_30, tb_f1 h, if_pos (nI_le (Nat.le_refl _) (by omega))]
      exact l56 w
  rw [eX5_digestOfTable, tb_f0 h, tb_f1 h, tb_f2 h]
  unfold dgT dg0
  rcases hw.c01 with hc | hc
  · rw [hc, if_pos rfl]
    exact l30 _
  · rw [hc, if_neg (by decide)]
    exact l30 _
end DIGA
section DIGB
variable {sc : az_S} {G G1 : az_H} {B x m : Nat} {V Vm : Nat → Int32} {A Am : Nat → Nat → Int32} {R : Nat → Nat → Option Nat} {S : wS} {ti ci : Nat → Nat}
theorem s_digestOfCarrier (h : iC G B V A R S ti ci) (hB : x + 22 ≤ B) (hS : wW S) {j : Nat} (hj : j < sM S) (v : Int64) : az_ca sc iX5_digestOfCarrier [.long v, .ref (ci j)] (clG G x V A R) = some (some (.long (dgC S j v)), clG G x V A R) := by
  have hi := hS.ca hj
  have hw := hS.tw hi
  have hk := hw.k24
  have cJ := h.car (x := x) hB hj V A R
  have hT := h.tabc (x := x) hB hi V A R
  rw [eX5_digestOfCarrier, cr_f0 cJ, cr_f1 cJ]
  unfold dgC
  generalize 31 * (31 * v + Int32.toInt64 (nI (cA S j))) + Int32.toInt64 (nI (cB S j)) = w
  refine lp_fl (fun a w (_ : Unit) => az_rn sc iX5_digestOfCarrier 18 [some (.long v), none, some (.ref (ci j)), some (.long w), none, some (.int (nI a))] [] (clG G x V A R)) (fun a h => 31 * h + Int32.toInt64 (cR S j a)) (fun w => some (some (.long w), clG G x V A R)) (tK (sT S (cA S j))) (fun a w _ ha => ⟨(), ?_⟩) (fun w _ => ?_) w ()
  · rw [bX5_digestOfCarrier_18, cr_f2 cJ, tb_f1 hT, if_neg (nI_ge ha (by omega)), cr_rc cJ, s_givenTo cJ (by omega), bI_s, nI_1]
  · rw [bX5_digestOfCarrier_18, cr_f2 cJ, tb_f1 hT, if_pos (nI_le (Nat.le_refl _) (by omega))]
theorem s_digest (h : iC G B V A R S ti ci) (hB : x + 22 ≤ B) (hS : wW S) : az_ca sc iX5_digest [.ref x] (clG G x V A R) = some (some (.long (dgW S)), clG G x V A R) := by
  have h8 := hS.1
  have h24 := hS.2.1
  have l24 : ∀ w (o : Option Value), az_rn sc iX5_digest 24 [some (.ref x), some (.long w), none, some (.int (nI 0)), o] [] (clG G x V A R) = some (some (.long (flB (dgC S) (sM S) w)), clG G x V A R) := by
    intro w o
    refine lp_fl (fun j w (o : Option Value) => az_rn sc iX5_digest 24 [some (.ref x), some (.long w), none, some (.int (nI j)), o] [] (clG G x V A R)) (dgC S) (fun w => some (some (.long w), clG G x V A R)) (sM S) (fun j w o hj => ⟨some (.ref (ci j)), ?_⟩) (fun w o => ?_) w o
    · rw [bX5_digest_24, cl0_i12, h.2.1, if_neg (nI_ge hj (by omega)), cl_rc0, s_carrierAt h hS hj, bR_s, s_digestOfCarrier h hB hS hj, bL_s, nI_1]
    · rw [bX5_digest_24, cl0_i12, h.2.1, if_pos (nI_le (Nat.le_refl _) (by omega))]
  rw [eX5_digest]
  refine lp_fl (fun i w (o : Option Value) => az_rn sc iX5_digest 4 [some (.ref x), some (.long w), none, some (.int (nI i)), o] [] (clG G x V A R)) (fun i => dgT (sT S i)) (fun w => some (some (.long (flB (dgC S) (sM S) w)), clG G x V A R)) (sN S) (fun i w o hi => ⟨some (.ref (ti i)), ?_⟩) (fun w o => ?_) 97 none
  · have hT := h.tabc (x := x) hB hi V A R
    have hw := hS.tw hi
    rw [bX5_digest_4, cl0_i11, h.1, if_neg (nI_ge hi (by omega)), cl_rc0, s_tableAt h hS hi, bR_s, s_digestOfTable hT hw, bL_s, nI_1]
  · rw [bX5_digest_4, cl0_i11, h.1, if_pos (nI_le (Nat.le_refl _) (by omega))]
    exact l24 w o
theorem m_digest (hm : iM Vm Am S) (hS : wW S) : az_ca sc iX6_digest [.ref m] (mdG G m Vm Am) = some (some (.long (dgW S)), mdG G m Vm Am) := by
  have h8 := hS.1
  have h24 := hS.2.1
  have l125 : ∀ j w (o : Option Value), j < sM S → az_rn sc iX6_digest 125 [some (.ref m), some (.long w), none, some (.int (nI j)), some (.int (nI 0)), o] [] (mdG G m Vm Am) = az_rn sc iX6_digest 101 [some (.ref m), some (.long (flB (fun a h => 31 * h + Int32.toInt64 (cR S j a)) (tK (sT S (cA S j))) w)), none, some (.int (nI (j + 1))), some (.int (nI (tK (sT S (cA S j))))), o] [] (mdG G m Vm Am) := by
    intro j w o hj
    have hi := hS.ca hj
    have hk := (hS.tw hi).k24
    have mJ := hm.2.2.2.2.1 j hj
    refine lp_fl (fun a w (_ : Unit) => az_rn sc iX6_digest 125 [some (.ref m), some (.long w), none, some (.int (nI j)), some (.int (nI a)), o] [] (mdG G m Vm Am)) (fun a h => 31 * h + Int32.toInt64 (cR S j a)) (fun w => az_rn sc iX6_digest 101 [some (.ref m), some (.long w), none, some (.int (nI (j + 1))), some (.int (nI (tK (sT S (cA S j))))), o] [] (mdG G m Vm Am)) (tK (sT S (cA S j))) (fun a w _ ha => ⟨(), ?_⟩) (fun w _ => ?_) w ()
    · rw [bX6_digest_125, md_r2, md_r11, md_a10 (by omega), mJ.1, md_a2 (by omega), hm.1.a hi, if_neg (nI_ge ha (by omega)), md_rc, m_giveOf hm hS hj ha, bI_s, nI_1]
    · rw [bX6_digest_125, md_r2, md_r11, md_a10 (by omega), mJ.1, md_a2 (by omega), hm.1.a hi, if_pos (nI_le (Nat.le_refl _) (by omega)), nI_1]
  have l101 : ∀ w (o4 o5 : Option Value), az_rn sc iX6_digest 101 [some (.ref m), some (.long w), none, some (.int (nI 0)), o4, o5] [] (mdG G m Vm Am) = some (some (.long (flB (dgC S) (sM S) w)), mdG G m Vm Am) := by
    intro w o4 o5
    refine lp_fl (fun j w (o4 : Option Value) => az_rn sc iX6_digest 101 [some (.ref m), some (.long w), none, some (.int (nI j)), o4, o5] [] (mdG G m Vm Am)) (dgC S) (fun w => some (some (.long w), mdG G m Vm Am)) (sM S) (fun j w o hj => ⟨some (.int (nI (tK (sT S (cA S j))))), ?_⟩) (fun w o => ?_) w o4
    · have mJ := hm.2.2.2.2.1 j hj
      rw [bX6_digest_101, md_i10, hm.2.1, if_neg (nI_ge hj (by omega)), md_r11, md_a10 (by omega), mJ.1, md_r12, md_a11 (by omega), mJ.2.1]
      exact l125 j _ o5 hj
    · rw [bX6_digest_101, md_i10, hm.2.1, if_pos (nI_le (Nat.le_refl _) (by omega))]
  have l76 : ∀ i a w, i < sN S → a < tK (sT S i) → az_rn sc iX6_digest 76 [some (.ref m), some (.long w), none, some (.int (nI i)), some (.int (nI a)), some (.int (nI 0))] [] (mdG G m Vm Am) = az_rn sc iX6_digest 68 [some (.ref m), some (.long (flB (dg2 (sT S i) a) (tK (sT S i)) w)), none, some (.int (nI i)), some (.int (nI (a + 1))), some (.int (nI (tK (sT S i))))] [] (mdG G m Vm Am) := by
    intro i a w hi ha
    have hk := (hS.tw hi).k24
    refine lp_fl (fun b w (_ : Unit) => az_rn sc iX6_digest 76 [some (.ref m), some (.long w), none, some (.int (nI i)), some (.int (nI a)), some (.int (nI b))] [] (mdG G m Vm Am)) (dg2 (sT S i) a) (fun w => az_rn sc iX6_digest 68 [some (.ref m), some (.long w), none, some (.int (nI i)), some (.int (nI (a + 1))), some (.int (nI (tK (sT S i))))] [] (mdG G m Vm Am)) (tK (sT S i)) (fun b w _ hb => ⟨(), ?_⟩) (fun w _ => ?_) w ()
    · rw [bX6_digest_76, md_r2, md_a2 (by omega), hm.1.a hi, if_neg (nI_ge hb (by omega)), md_rc, m_wayIn hm.1 hi ha hb, bI_s, nI_1]
      rfl
    · rw [bX6_digest_76, md_r2, md_a2 (by omega), hm.1.a hi, if_pos (nI_le (Nat.le_refl _) (by omega)), nI_1]
  have l68 : ∀ i w (o5 : Option Value), i < sN S → ∃ o5', az_rn sc iX6_digest 68 [some (.ref m), some (.long w), none, some (.int (nI i)), some (.int (nI 0)), o5] [] (mdG G m Vm Am) = az_rn sc iX6_digest 4 [some (.ref m), some (.long (flB (fun a => flB (dg2 (sT S i) a) (tK (sT S i))) (tK (sT S i)) w)), none, some (.int (nI (i + 1))), some (.int (nI (tK (sT S i)))), o5'] [] (mdG G m Vm Am) := by
    intro i w o5 hi
    have hk := (hS.tw hi).k24
    have hn := (hS.tw hi).n1
    have hnk := (hS.tw hi).nk
    refine ⟨some (.int (nI (tK (sT S i)))), ?_⟩
    have e0 : az_rn sc iX6_digest 68 [some (.ref m), some (.long w), none, some (.int (nI i)), some (.int (nI 0)), o5] [] (mdG G m Vm Am) = az_rn sc iX6_digest 68 [some (.ref m), some (.long w), none, some (.int (nI i)), some (.int (nI 0)), some (.int (nI (tK (sT S i))))] [] (mdG G m Vm Am) := by
      rw [bX6_digest_68, bX6_digest_68, md_r2, md_a2 (by omega), hm.1.a hi, if_neg (nI_ge (show 0 < tK (sT S i) by omega) (by omega)), md_r2, md_a2 (by omega), hm.1.a hi, if_neg (nI_ge (show 0 < tK (sT S i) by omega) (by omega))]
    rw [e0]
    refine lp_fl (fun a w (_ : Unit) => az_rn sc iX6_digest 68 [some (.ref m), some (.long w), none, some (.int (nI i)), some (.int (nI a)), some (.int (nI (tK (sT S i))))] [] (mdG G m Vm Am)) (fun a => flB (dg2 (sT S i) a) (tK (sT S i))) (fun w => az_rn sc iX6_digest 4 [some (.ref m), some (.long w), none, some (.int (nI (i + 1))), some (.int (nI (tK (sT S i)))), some (.int (nI (tK (sT S i))))] [] (mdG G m Vm Am)) (tK (sT S i)) (fun a w _ ha => ⟨(), ?_⟩) (fun w _ => ?_) w ()
    · rw [bX6_digest_68, md_r2, md_a2 (by omega), hm.1.a hi, if_neg (nI_ge ha (by omega))]
      exact l76 i a w hi ha
    · rw [bX6_digest_68, md_r2, md_a2 (by omega), hm.1.a hi, if_pos (nI_le (Nat.le_refl _) (by omega)), nI_1]
  have l40 : ∀ i w (o5 : Option Value), i < sN S → az_rn sc iX6_digest 40 [some (.ref m), some (.long w), none, some (.int (nI i)), some (.int (nI 0)), o5] [] (mdG G m Vm Am) = az_rn sc iX6_digest 68 [some (.ref m), some (.long (flB (dg1 (sT S i)) (tK (sT S i)) w)), none, some (.int (nI i)), some (.int (nI 0)), o5] [] (mdG G m Vm Am) := by
    intro i w o5 hi
    have hk := (hS.tw hi).k24
    refine lp_fl (fun a w (_ : Unit) => az_rn sc iX6_digest 40 [some (.ref m), some (.long w), none, some (.int (nI i)), some (.int (nI a)), o5] [] (mdG G m Vm Am)) (dg1 (sT S i)) (fun w => az_rn sc iX6_digest 68 [some (.ref m), some (.long w), none, some (.int (nI i)), some (.int (nI 0)), o5] [] (mdG G m Vm Am)) (tK (sT S i)) (fun a w _ ha => ⟨(), ?_⟩) (fun w _ => ?_) w ()
    · rw [bX6_digest_40, md_r2, md_a2 (by omega), hm.1.a hi, if_neg (nI_ge ha (by omega)), md_rc, m_from hm.1 hi ha, bI_s, md_rc, m_to hm.1 hi ha, bI_s, nI_1]
      rfl
    · rw [bX6_digest_40, md_r2, md_a2 (by omega), hm.1.a hi, if_pos (nI_le (Nat.le_refl _) (by omega))]
      rfl
  rw [eX6_digest]
  refine lp_fl (fun i w (o : Option Value × Option Value) => az_rn sc iX6_digest 4 [some (.ref m), some (.long w), none, some (.int (nI i)), o.1, o.2] [] (mdG G m Vm Am)) (fun i => dgT (sT S i)) (fun w => some (some (.long (flB (dgC S) (sM S) w)), mdG G m Vm Am)) (sN S) (fun i w o hi => ?_) (fun w o => ?_) 97 (none, none)
  · obtain ⟨o5', e5⟩ := l68 i (flB (dg1 (sT S i)) (tK (sT S i)) (dg0 (sT S i) w)) o.2 hi
    refine ⟨(some (.int (nI (tK (sT S i)))), o5'), ?_⟩
    refine Eq.trans ?_ e5
    rw [bX6_digest_4, md_i0, hm.1.1, if_neg (nI_ge hi (by omega)), md_r1, md_a1 (by omega), hm.1.o hi, md_r2, md_a2 (by omega), hm.1.a hi, md_r3, md_a3 (by omega), hm.1.c hi]
    unfold dg0
    rcases (hS.tw hi).c01 with hc | hc
    · rw [hc, if_pos rfl]
      exact l40 i _ _ hi
    · rw [hc, if_neg (by decide)]
      exact l40 i _ _ hi
  · rw [bX6_digest_4, md_i0, hm.1.1, if_pos (nI_le (Nat.le_refl _) (by omega))]
    exact l101 w o.1 o.2
end DIGB
