/-! OPERATIONS bridges, bridge, cones -/
section BRIDM
variable {sc : az_S} {G : az_H} {m : Nat} {V : Nat → Int32} {A : Nat → Nat → Int32} {S : wS} {f g : Nat}
theorem od_nx {p : Nat → Nat → Bool} {K n d : Nat} {r : Nat → Nat} (ho : okR p K n r) (hd : vl p K r n + (d + 1) = prd p K n) : ((od p K n r).2 = true → d = 0) ∧ ((od p K n r).2 = false → 0 < d) := by
  obtain ⟨n1, n2, n3⟩ := od_ok p K n r ho
  refine ⟨fun z => ?_, fun z => ?_⟩
  · have := n3 z
    omega
  · have h1 := n2 z
    have h2 := vl_lt n1
    omega
theorem m_famB (h : iM V A S) (hS : wW S) (hf : f < sM S) (hg : g < sM S) (hA : cA S g = cA S f) (hB : cB S g = cB S f) (k : Int32) (hr : frR A (tN (sT S (cA S f))) (cg S f) (cg S g)) : ∀ d r fnd A1, vl (pq (sT S (cB S f)) (cg S f) (cg S g)) (tK (sT S (cB S f))) r (tN (sT S (cA S f))) + (d + 1) = prd (pq (sT S (cB S f)) (cg S f) (cg S g)) (tK (sT S (cB S f))) (tN (sT S (cA S f))) → okR (pq (sT S (cB S f)) (cg S f) (cg S g)) (tK (sT S (cB S f))) (tN (sT S (cA S f))) r → (∀ r, r ≠ 18 → A1 r = A r) → (∀ y, y < tN (sT S (cA S f)) → A1 18 y = nI (r y)) → ¬ nI fnd = k + 1 → ∃ A' v, az_rn sc iX6_findBridge 24 [some (.ref m), some (.int (nI f)), some (.int (nI g)), some (.int k), some (.int (nI (cB S f))), some (.int (nI (tN (sT S (cA S f))))), some (.int (nI fnd)), some (.int 1)] [] (mdG G m V A1) = some (some (.int v), mdG G m V A') ∧ (∀ r, r ≠ 18 → A' r = A r) ∧ (∀ σ, (fq (pq (sT S (cB S f)) (cg S f) (cg S g)) (tK (sT S (cB S f))) (tN (sT S (cA S f))) (hbB (sT S (cA S f)) (sT S (cB S f)) (cg S f) (cg S g)) k (d + 1) r fnd).2 = some σ → v = k + 1 ∧ ∀ y, y < tN (sT S (cA S f)) → A' 18 y = nI (σ y)) ∧ ((fq (pq (sT S (cB S f)) (cg S f) (cg S g)) (tK (sT S (cB S f))) (tN (sT S (cA S f))) (hbB (sT S (cA S f)) (sT S (cB S f)) (cg S f) (cg S g)) k (d + 1) r fnd).2 = none → v = nI (fq (pq (sT S (cB S f)) (cg S f) (cg S g)) (tK (sT S (cB S f))) (tN (sT S (cA S f))) (hbB (sT S (cA S f)) (sT S (cB S f)) (cg S f) (cg S g)) k (d + 1) r fnd).1) := by
  have hi := hS.ca hf
  have hib := hS.cb hf
  have hw := hS.tw hi
  have hn6 := hw.n6
  intro d
  induction d with
  | zero =>
    intro r fnd A1 hd ho h1 h2 hk
    have hm : iM V A1 S := iM_A16 h (fun r hr => h1 r (by omega))
    have hb := m_isBridge (sc := sc) (G := G) (m := m) hm hS hf hg hA hB (r := r) (fun y hy => ⟨h2 y hy, (ho y hy).2⟩)
    obtain ⟨f18, q1, q2⟩ := m_nextRow (sc := sc) (G := G) (m := m) (V := V) (A := A1) hm.1 hib hn6 (frR_18 hr (h1 16 (by omega)) (h1 17 (by omega))) ho h2
    have hod : (od (pq (sT S (cB S f)) (cg S f) (cg S g)) (tK (sT S (cB S f))) (tN (sT S (cA S f))) r).2 = true := by
      cases hz : (od (pq (sT S (cB S f)) (cg S f) (cg S g)) (tK (sT S (cB S f))) (tN (sT S (cA S f))) r).2 with
      | true => rfl
      | false =>
        have := (od_nx ho hd).2 hz
        omega
    rw [hod, if_pos rfl] at q1
    rw [bX6_findBridge_24, if_neg (show ¬ (1 : Int32) = 0 by decide), md_rc, hb, bI_s, fq_s, nI_1, nI_a0, Nat.add_zero]
    by_cases c : hbB (sT S (cA S f)) (sT S (cB S f)) (cg S f) (cg S g) r = true
    · rw [if_pos c, if_pos c, if_neg (show ¬ (1 : Int32) = 0 by decide)]
      by_cases c2 : nI fnd = k
      · rw [if_neg (show ¬ ¬ nI (fnd + 1) = k + 1 from fun z => z (by rw [← c2, nI_1])), if_pos c2]
        refine ⟨A1, _, rfl, h1, fun σ hσ => ?_, fun z => (by cases z)⟩
        cases hσ
        exact ⟨by rw [← c2, nI_1], h2⟩
      · rw [if_pos (show ¬ nI (fnd + 1) = k + 1 from fun z => c2 (i32_1.mp (by rw [nI_1]; exact z))), if_neg c2, md_rc, q1, bI_s, bX6_findBridge_24, if_pos rfl]
        refine ⟨_, _, rfl, fun r hr => (up_n _ _ hr).trans (h1 r hr), fun σ hσ => (by cases hσ), fun _ => rfl⟩
    · rw [if_neg c, if_neg c, if_pos (show (0 : Int32) = 0 from rfl), if_pos hk, md_rc, q1, bI_s, bX6_findBridge_24, if_pos rfl]
      refine ⟨_, _, rfl, fun r hr => (up_n _ _ hr).trans (h1 r hr), fun σ hσ => (by cases hσ), fun _ => rfl⟩
  | succ d ih =>
    intro r fnd A1 hd ho h1 h2 hk
    have hm : iM V A1 S := iM_A16 h (fun r hr => h1 r (by omega))
    have hb := m_isBridge (sc := sc) (G := G) (m := m) hm hS hf hg hA hB (r := r) (fun y hy => ⟨h2 y hy, (ho y hy).2⟩)
    obtain ⟨f18, q1, q2⟩ := m_nextRow (sc := sc) (G := G) (m := m) (V := V) (A := A1) hm.1 hib hn6 (frR_18 hr (h1 16 (by omega)) (h1 17 (by omega))) ho h2
    have hod : (od (pq (sT S (cB S f)) (cg S f) (cg S g)) (tK (sT S (cB S f))) (tN (sT S (cA S f))) r).2 = false := by
      cases hz : (od (pq (sT S (cB S f)) (cg S f) (cg S g)) (tK (sT S (cB S f))) (tN (sT S (cA S f))) r).2 with
      | false => rfl
      | true =>
        have := (od_nx ho hd).1 hz
        omega
    obtain ⟨n1, n2, n3⟩ := od_ok (pq (sT S (cB S f)) (cg S f) (cg S g)) (tK (sT S (cB S f))) (tN (sT S (cA S f))) r ho
    have hv := n2 hod
    rw [hod, if_neg (show ¬ false = true by decide)] at q1
    rw [bX6_findBridge_24, if_neg (show ¬ (1 : Int32) = 0 by decide), md_rc, hb, bI_s, fq_s, nI_1, nI_a0, Nat.add_zero]
    by_cases c : hbB (sT S (cA S f)) (sT S (cB S f)) (cg S f) (cg S g) r = true
    · rw [if_pos c, if_pos c, if_neg (show ¬ (1 : Int32) = 0 by decide)]
      by_cases c2 : nI fnd = k
      · rw [if_neg (show ¬ ¬ nI (fnd + 1) = k + 1 from fun z => z (by rw [← c2, nI_1])), if_pos c2]
        refine ⟨A1, _, rfl, h1, fun σ hσ => ?_, fun z => (by cases z)⟩
        cases hσ
        exact ⟨by rw [← c2, nI_1], h2⟩
      · have hk2 : ¬ nI (fnd + 1) = k + 1 := fun z => c2 (i32_1.mp (by rw [nI_1]; exact z))
        rw [if_pos hk2, if_neg c2, md_rc, q1, bI_s]
        exact ih _ (fnd + 1) (va_up A1 18 f18) (by omega) n1 (fun r hr => (up_n _ _ hr).trans (h1 r hr)) (fun y hy => by rw [up_s]; exact q2 hod y hy) hk2
    · rw [if_neg c, if_neg c, if_pos (show (0 : Int32) = 0 from rfl), if_pos hk, md_rc, q1, bI_s]
      exact ih _ fnd (va_up A1 18 f18) (by omega) n1 (fun r hr => (up_n _ _ hr).trans (h1 r hr)) (fun y hy => by rw [up_s]; exact q2 hod y hy) hk
/-- findBridge as a whole; the rows before it as they come -/
theorem m_findBridge (h : iM V A S) (hS : wW S) (hf : f < sM S) (hg : g < sM S) (hA : cA S g = cA S f) (hB : cB S g = cB S f) (k : Int32) (hk : ¬ k = -1) : ∃ A' v, az_ca sc iX6_findBridge [.ref m, .int (nI f), .int (nI g), .int k] (mdG G m V A) = some (some (.int v), mdG G m V A') ∧ (∀ r, r < 16 ∨ 18 < r → A' r = A r) ∧ (∀ σ, (fq (pq (sT S (cB S f)) (cg S f) (cg S g)) (tK (sT S (cB S f))) (tN (sT S (cA S f))) (hbB (sT S (cA S f)) (sT S (cB S f)) (cg S f) (cg S g)) k (prd (pq (sT S (cB S f)) (cg S f) (cg S g)) (tK (sT S (cB S f))) (tN (sT S (cA S f)))) (fun y => fs (pq (sT S (cB S f)) (cg S f) (cg S g) y) (tK (sT S (cB S f)))) 0).2 = some σ → v = k + 1 ∧ ∀ y, y < tN (sT S (cA S f)) → A' 18 y = nI (σ y)) ∧ ((fq (pq (sT S (cB S f)) (cg S f) (cg S g)) (tK (sT S (cB S f))) (tN (sT S (cA S f))) (hbB (sT S (cA S f)) (sT S (cB S f)) (cg S f) (cg S g)) k (prd (pq (sT S (cB S f)) (cg S f) (cg S g)) (tK (sT S (cB S f))) (tN (sT S (cA S f)))) (fun y => fs (pq (sT S (cB S f)) (cg S f) (cg S g) y) (tK (sT S (cB S f)))) 0).2 = none → v = nI (fq (pq (sT S (cB S f)) (cg S f) (cg S g)) (tK (sT S (cB S f))) (tN (sT S (cA S f))) (hbB (sT S (cA S f)) (sT S (cB S f)) (cg S f) (cg S g)) k (prd (pq (sT S (cB S f)) (cg S f) (cg S g)) (tK (sT S (cB S f))) (tN (sT S (cA S f)))) (fun y => fs (pq (sT S (cB S f)) (cg S f) (cg S g) y) (tK (sT S (cB S f)))) 0).1) := by
  have h24 := hS.2.1
  have h8 := hS.1
  have hi := hS.ca hf
  have hib := hS.cb hf
  have hw := hS.tw hi
  have hn6 := hw.n6
  have mf := h.2.2.2.2.1 f hf
  obtain ⟨A1, e1, e2, e3⟩ := m_betweenCarriers (sc := sc) (G := G) (m := m) h hS hf hg hA hB
  have hm1 : iM V A1 S := iM_A16 h (fun r hr => e2 r (by omega) (by omega))
  obtain ⟨f18, q1, q2⟩ := m_firstRow (sc := sc) (G := G) (m := m) (V := V) (A := A1) hm1.1 hib hn6 e3
  rw [eX6_findBridge, md_r12, md_a11 (by omega), mf.2.1, md_r1, md_r11, md_a10 (by omega), mf.1, md_a1 (by omega), h.1.o hi, md_rc, e1, bV_s, md_rc, q1, bI_s]
  by_cases hp : prd (pq (sT S (cB S f)) (cg S f) (cg S g)) (tK (sT S (cB S f))) (tN (sT S (cA S f))) = 0
  · rw [if_pos hp, hp, bX6_findBridge_24, if_pos rfl]
    exact ⟨_, _, rfl, fun r hr => (up_n _ _ (by omega)).trans (e2 r (by omega) (by omega)), fun σ hσ => (by cases hσ), fun _ => rfl⟩
  · rw [if_neg hp]
    have hpos : 0 < prd (pq (sT S (cB S f)) (cg S f) (cg S g)) (tK (sT S (cB S f))) (tN (sT S (cA S f))) := by omega
    have h0 : ∀ y, y < tN (sT S (cA S f)) → 0 < ctB (pq (sT S (cB S f)) (cg S f) (cg S g) y) (tK (sT S (cB S f))) := by
      intro y hy
      by_cases z : ctB (pq (sT S (cB S f)) (cg S f) (cg S g) y) (tK (sT S (cB S f))) = 0
      · exact absurd (prd_0 hy z) hp
      · omega
    have hok : okR (pq (sT S (cB S f)) (cg S f) (cg S g)) (tK (sT S (cB S f))) (tN (sT S (cA S f))) (fun y => fs (pq (sT S (cB S f)) (cg S f) (cg S g) y) (tK (sT S (cB S f)))) := fun y hy => ⟨(fs_ok (h0 y hy)).2.1, (fs_ok (h0 y hy)).2.2.1⟩
    have hv0 : vl (pq (sT S (cB S f)) (cg S f) (cg S g)) (tK (sT S (cB S f))) (fun y => fs (pq (sT S (cB S f)) (cg S f) (cg S g) y) (tK (sT S (cB S f)))) (tN (sT S (cA S f))) = 0 := vl_0 (fun y hy => (fs_ok (h0 y hy)).2.2.2)
    obtain ⟨d, hd⟩ : ∃ d, prd (pq (sT S (cB S f)) (cg S f) (cg S g)) (tK (sT S (cB S f))) (tN (sT S (cA S f))) = d + 1 := ⟨prd (pq (sT S (cB S f)) (cg S f) (cg S g)) (tK (sT S (cB S f))) (tN (sT S (cA S f))) - 1, by omega⟩
    have hk1 : ¬ nI 0 = k + 1 := fun z => hk (i32_1.mp (z.symm.trans (by decide)))
    obtain ⟨A', v, w1, w2, w3, w4⟩ := m_famB (sc := sc) (G := G) (m := m) hm1 hS hf hg hA hB k e3 d (fun y => fs (pq (sT S (cB S f)) (cg S f) (cg S g) y) (tK (sT S (cB S f)))) 0 (va_up A1 18 f18) (by rw [hv0, hd]; omega) hok (fun r hr => up_n _ _ hr) (fun y hy => by rw [up_s]; exact q2 hpos y hy) hk1
    rw [hd]
    exact ⟨A', v, w1, fun r hr => (w2 r (by omega)).trans (e2 r (by omega) (by omega)), w3, w4⟩
/-- cones are counted -/
theorem m_famC {q : Nat} (h : iM V A S) (hS : wW S) (hf : f < sM S) (hq : q < tN (sT S (cB S f))) (hr : frR A (tN (sT S (cA S f))) (fun _ => q) (cg S f)) : ∀ d r fnd A1, vl (pq (sT S (cB S f)) (fun _ => q) (cg S f)) (tK (sT S (cB S f))) r (tN (sT S (cA S f))) + (d + 1) = prd (pq (sT S (cB S f)) (fun _ => q) (cg S f)) (tK (sT S (cB S f))) (tN (sT S (cA S f))) → okR (pq (sT S (cB S f)) (fun _ => q) (cg S f)) (tK (sT S (cB S f))) (tN (sT S (cA S f))) r → (∀ r, r ≠ 18 → A1 r = A r) → (∀ y, y < tN (sT S (cA S f)) → A1 18 y = nI (r y)) → ∃ A', az_rn sc iX6_cones 52 [some (.ref m), some (.int (nI f)), some (.int (nI q)), some (.int (nI (cB S f))), some (.int (nI (tN (sT S (cA S f))))), some (.int (nI fnd)), some (.int 1)] [] (mdG G m V A1) = some (some (.int (nI (fq (pq (sT S (cB S f)) (fun _ => q) (cg S f)) (tK (sT S (cB S f))) (tN (sT S (cA S f))) (hbB (sT S (cA S f)) (sT S (cB S f)) (fun _ => q) (cg S f)) (-1) (d + 1) r fnd).1)), mdG G m V A') ∧ (∀ r, r ≠ 18 → A' r = A r) := by
  have hi := hS.ca hf
  have hib := hS.cb hf
  have hw := hS.tw hi
  have hn6 := hw.n6
  have key : ∀ d r fnd A1, vl (pq (sT S (cB S f)) (fun _ => q) (cg S f)) (tK (sT S (cB S f))) r (tN (sT S (cA S f))) + (d + 1) = prd (pq (sT S (cB S f)) (fun _ => q) (cg S f)) (tK (sT S (cB S f))) (tN (sT S (cA S f))) → okR (pq (sT S (cB S f)) (fun _ => q) (cg S f)) (tK (sT S (cB S f))) (tN (sT S (cA S f))) r → (∀ r, r ≠ 18 → A1 r = A r) → (∀ y, y < tN (sT S (cA S f)) → A1 18 y = nI (r y)) → ∃ f18, az_rn sc iX6_cones 52 [some (.ref m), some (.int (nI f)), some (.int (nI q)), some (.int (nI (cB S f))), some (.int (nI (tN (sT S (cA S f))))), some (.int (nI fnd)), some (.int 1)] [] (mdG G m V A1) = az_rn sc iX6_cones 52 [some (.ref m), some (.int (nI f)), some (.int (nI q)), some (.int (nI (cB S f))), some (.int (nI (tN (sT S (cA S f))))), some (.int (nI (if hbB (sT S (cA S f)) (sT S (cB S f)) (fun _ => q) (cg S f) r = true then fnd + 1 else fnd))), some (.int (if (od (pq (sT S (cB S f)) (fun _ => q) (cg S f)) (tK (sT S (cB S f))) (tN (sT S (cA S f))) r).2 = true then 0 else 1))] [] (mdG G m V (va_up A1 18 f18)) ∧ ((od (pq (sT S (cB S f)) (fun _ => q) (cg S f)) (tK (sT S (cB S f))) (tN (sT S (cA S f))) r).2 = false → ∀ y, y < tN (sT S (cA S f)) → f18 y = nI ((od (pq (sT S (cB S f)) (fun _ => q) (cg S f)) (tK (sT S (cB S f))) (tN (sT S (cA S f))) r).1 y)) := by
    intro d r fnd A1 hd ho h1 h2
    have hm : iM V A1 S := iM_A16 h (fun r hr => h1 r (by omega))
    have hb := m_isCone (sc := sc) (G := G) (m := m) hm hS hf hq (r := r) (fun y hy => ⟨h2 y hy, (ho y hy).2, (of_decide_eq_true (ho y hy).1).1⟩)
    obtain ⟨f18, q1, q2⟩ := m_nextRow (sc := sc) (G := G) (m := m) (V := V) (A := A1) hm.1 hib hn6 (frR_18 hr (h1 16 (by omega)) (h1 17 (by omega))) ho h2
    refine ⟨f18, ?_, q2⟩
    rw [bX6_cones_52, if_neg (show ¬ (1 : Int32) = 0 by decide), md_rc, hb, bI_s, nI_1, nI_a0, Nat.add_zero]
    by_cases c : hbB (sT S (cA S f)) (sT S (cB S f)) (fun _ => q) (cg S f) r = true
    · rw [if_pos c, if_pos c, if_neg (show ¬ (1 : Int32) = 0 by decide), md_rc, q1, bI_s]
    · rw [if_neg c, if_neg c, if_pos (show (0 : Int32) = 0 from rfl), md_rc, q1, bI_s]
  intro d
  induction d with
  | zero =>
    intro r fnd A1 hd ho h1 h2
    obtain ⟨f18, k1, k2⟩ := key 0 r fnd A1 hd ho h1 h2
    have hod : (od (pq (sT S (cB S f)) (fun _ => q) (cg S f)) (tK (sT S (cB S f))) (tN (sT S (cA S f))) r).2 = true := by
      cases hz : (od (pq (sT S (cB S f)) (fun _ => q) (cg S f)) (tK (sT S (cB S f))) (tN (sT S (cA S f))) r).2 with
      | true => rfl
      | false =>
        have := (od_nx ho hd).2 hz
        omega
    rw [hod, if_pos rfl] at k1
    refine ⟨va_up A1 18 f18, k1.trans ?_, fun r hr => (up_n _ _ hr).trans (h1 r hr)⟩
    rw [bX6_cones_52, if_pos rfl, fq_s]
    by_cases c : hbB (sT S (cA S f)) (sT S (cB S f)) (fun _ => q) (cg S f) r = true
    · rw [if_pos c, if_pos c]
      rfl
    · rw [if_neg c, if_neg c]
      rfl
  | succ d ih =>
    intro r fnd A1 hd ho h1 h2
    obtain ⟨f18, k1, k2⟩ := key (d + 1) r fnd A1 hd ho h1 h2
    have hod : (od (pq (sT S (cB S f)) (fun _ => q) (cg S f)) (tK (sT S (cB S f))) (tN (sT S (cA S f))) r).2 = false := by
      cases hz : (od (pq (sT S (cB S f)) (fun _ => q) (cg S f)) (tK (sT S (cB S f))) (tN (sT S (cA S f))) r).2 with
      | false => rfl
      | true =>
        have := (od_nx ho hd).1 hz
        omega
    obtain ⟨n1, n2, n3⟩ := od_ok (pq (sT S (cB S f)) (fun _ => q) (cg S f)) (tK (sT S (cB S f))) (tN (sT S (cA S f))) r ho
    have hv := n2 hod
    rw [hod, if_neg (show ¬ false = true by decide)] at k1
    obtain ⟨A', w1, w2⟩ := ih (od (pq (sT S (cB S f)) (fun _ => q) (cg S f)) (tK (sT S (cB S f))) (tN (sT S (cA S f))) r).1 (if hbB (sT S (cA S f)) (sT S (cB S f)) (fun _ => q) (cg S f) r = true then fnd + 1 else fnd) (va_up A1 18 f18) (by omega) n1 (fun r hr => (up_n _ _ hr).trans (h1 r hr)) (fun y hy => by rw [up_s]; exact k2 hod y hy)
    refine ⟨A', k1.trans (w1.trans ?_), w2⟩
    rw [fq_s (d := d + 1)]
    by_cases c : hbB (sT S (cA S f)) (sT S (cB S f)) (fun _ => q) (cg S f) r = true
    · rw [if_pos c, if_pos c]
    · rw [if_neg c, if_neg c]
end BRIDM
