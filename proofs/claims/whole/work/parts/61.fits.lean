/-! THE SEARCH: is what was given kept -/
theorem lp_exG {α σ : Type} (F : Nat → σ → α) (p : Nat → Bool) (R E : α) (n : Nat) (hs : ∀ i s, i < n → (p i = true → F i s = R) ∧ (p i = false → ∃ s', F i s = F (i + 1) s')) (M : Nat) (hM : n ≤ M) (he : ∀ i s, n ≤ i → i ≤ M → F i s = E) (i0 : Nat) (h0 : i0 ≤ M) (s : σ) : F i0 s = if exB (fun i => decide (i0 ≤ i) && p i) n = true then R else E := by
  have key : ∀ d i0 s, n ≤ i0 + d → i0 ≤ M → F i0 s = if exB (fun i => decide (i0 ≤ i) && p i) n = true then R else E := by
    intro d
    induction d with
    | zero =>
      intro i0 s h h0
      rw [he i0 s (by omega) h0, exB_none (fun i hi => by
        have : ¬ i0 ≤ i := by omega
        simp [this]), if_neg (by decide)]
    | succ d ih =>
      intro i0 s h h0
      by_cases hn : n ≤ i0
      · rw [he i0 s hn h0, exB_none (fun i hi => by
          have : ¬ i0 ≤ i := by omega
          simp [this]), if_neg (by decide)]
      · cases hp : p i0 with
        | true => rw [(hs i0 s (by omega)).1 hp, if_pos (exB_iff.mpr ⟨i0, by omega, by simp [hp]⟩)]
        | false =>
          obtain ⟨s', e⟩ := (hs i0 s (by omega)).2 hp
          rw [e, ih (i0 + 1) s' (by omega) (by omega), exB_congr (n := n) (p := fun i => decide (i0 + 1 ≤ i) && p i) (q := fun i => decide (i0 ≤ i) && p i) (fun i hi => by
            by_cases e : i = i0
            · subst e
              simp [hp]
            · have : (i0 + 1 ≤ i) ↔ (i0 ≤ i) := by omega
              simp [this])]
  exact key n i0 s (by omega) h0
def rbd (T U : tb) (g : Nat → Nat) (i : Nat) : Bool := !decide (wy U (g (rf (rsF T) i)) (g (rg (rsF T) i)) = nI (g (wv T (rf (rsF T) i) (rg (rsF T) i))))
def fB (T U : tb) (g : Nat → Nat) (p : Nat) : Bool := decide (fr U (g p) = g (fr T p) ∧ to U (g p) = g (to T p)) && !exB (fun i => decide (rt (rsF T) p ≤ i) && rbd T U g i) (rt (rsF T) (p + 1))
/-- the rules stand in three rows -/
def ruR (r5 r6 r7 : Nat) (A : Nat → Nat → Int32) (T : tb) : Prop := (∀ l, l ≤ tK T → A r5 l = nI (rt (rsF T) l)) ∧ (∀ i, i < rz (rsF T) → A r6 i = nI (rf (rsF T) i) ∧ A r7 i = nI (rg (rsF T) i))
theorem cRu.r {r5 r6 r7 : Nat} {A A' : Nat → Nat → Int32} {T : tb} (h : cRu r5 r6 r7 A A' (tK T + 1) (rsF T)) : ruR r5 r6 r7 A' T := ⟨fun l hl => h.2.1 l (by omega), h.2.2⟩
theorem ruR_i {T : tb} (hw : tbW T) (ht : tld T) {p i : Nat} (hp : p < tK T) (hi : i < rt (rsF T) (p + 1)) : i < rz (rsF T) ∧ i < 576 ∧ rf (rsF T) i ≤ p ∧ rg (rsF T) i ≤ p ∧ wv T (rf (rsF T) i) (rg (rsF T) i) ≤ p ∧ wy T (rf (rsF T) i) (rg (rsF T) i) = nI (wv T (rf (rsF T) i) (rg (rsF T) i)) := by
  obtain ⟨h1, h2, h3⟩ := rsF_ok hw.k24 (l := p + 1) (by omega)
  obtain ⟨h4, h5⟩ := h3 i hi
  unfold mxr at h5
  have h6 := wv_eq hw ht (show rf (rsF T) i < tK T by omega) (show rg (rsF T) i < tK T by omega) h4
  exact ⟨by omega, by omega, by omega, by omega, by omega, h6.1⟩
section FITS
variable {sc : az_S} {G : az_H} {x m t u p : Nat} {V : Nat → Int32} {A : Nat → Nat → Int32} {R : Nat → Nat → Option Nat} {T U : tb} {g : Nat → Nat} {nt i j : Nat} {Tb : Nat → tb}
theorem s_fits (hT : tbC (clG G x V A R) t T) (hw : tbW T) (ht : tld T) (hU : tbC (clG G x V A R) u U) (hwu : tbW U) (hV : V 5 = nI p) (hp : p < tK T) (hru : ruR 5 6 7 A T) (hg : ∀ i, i ≤ p → A 4 i = nI (g i) ∧ g i < tK U) : az_ca sc iX3_fits [.ref (x + 3), .ref t, .ref u] (clG G x V A R) = some (some (.int (if p < tN T ∨ fB T U g p = true then 1 else 0)), clG G x V A R) := by
  have hk := hw.k24
  have hku := hwu.k24
  have hn6 := hw.n6
  rw [eX3_fits, cl3_i3, hV, tb_rc hT, s_doesNothing hT (by omega) hn6, bI_s]
  by_cases hpn : p < tN T
  · rw [if_pos hpn, if_neg (by decide), zr_1, if_pos (Or.inl hpn)]
  · have f1 := hw.frn hp
    have f2 := hw.ton hp
    obtain ⟨g1, g2⟩ := hg p (Nat.le_refl _)
    obtain ⟨g3, g4⟩ := hg (fr T p) (by omega)
    obtain ⟨g5, g6⟩ := hg (to T p) (by omega)
    rw [if_neg hpn, if_pos rfl, cl3_r0, cl3_i3, hV, s_read cl_c4 (by omega) (by omega), bI_s, cl3_r0, cl3_i3, hV, tb_rc hT, s_fromOf hT (by omega), bI_s, hw.f hp, s_read cl_c4 (by omega) (by omega), bI_s, cl3_r0, cl3_i3, hV, tb_rc hT, s_toOf hT (by omega), bI_s, hw.g hp, s_read cl_c4 (by omega) (by omega), bI_s, g1, g3, g5, tb_rc hU, s_leadsN hU hwu g2 (by omega) (by omega), bI_s]
    by_cases e1 : fr U (g p) = g (fr T p) ∧ to U (g p) = g (to T p)
    · rw [if_pos e1, if_pos (by decide), cl3_r4, cl3_i3, hV, nI_1, s_read cl_c5 (by omega) (by omega), bI_s, cl3_r4, cl3_i3, hV, s_read cl_c5 (by omega) (by omega), bI_s, hru.1 (p + 1) (by omega), hru.1 p (by omega)]
      obtain ⟨k1, k2, -⟩ := rsF_ok hk (l := p + 1) (by omega)
      obtain ⟨k3, k4, -⟩ := rsF_ok hk (l := p) (by omega)
      refine (lp_exG (fun i (o : Option Value × Option Value) => az_rn sc iX3_fits 45 [some (.ref (x + 3)), some (.ref t), some (.ref u), some (.int (nI (rt (rsF T) (p + 1)))), some (.int (nI i)), o.1, o.2] [] (clG G x V A R)) (rbd T U g) (some (some (.int 0), clG G x V A R)) (some (some (.int 1), clG G x V A R)) (rt (rsF T) (p + 1)) (fun i o hi => ?_) 576 (by omega) (fun i o hi hi2 => ?_) (rt (rsF T) p) (by omega) (none, none)).trans ?_
      · obtain ⟨q1, q2, q3, q4, q5, q6⟩ := ruR_i hw ht hp hi
        obtain ⟨a1, a2⟩ := hru.2 i q1
        obtain ⟨b1, b2⟩ := hg (rf (rsF T) i) q3
        obtain ⟨b3, b4⟩ := hg (rg (rsF T) i) q4
        obtain ⟨b5, b6⟩ := hg (wv T (rf (rsF T) i) (rg (rsF T) i)) q5
        have e : az_rn sc iX3_fits 45 [some (.ref (x + 3)), some (.ref t), some (.ref u), some (.int (nI (rt (rsF T) (p + 1)))), some (.int (nI i)), o.1, o.2] [] (clG G x V A R) = if wy U (g (rf (rsF T) i)) (g (rg (rsF T) i)) = nI (g (wv T (rf (rsF T) i) (rg (rsF T) i))) then az_rn sc iX3_fits 45 [some (.ref (x + 3)), some (.ref t), some (.ref u), some (.int (nI (rt (rsF T) (p + 1)))), some (.int (nI (i + 1))), some (.int (nI (rf (rsF T) i))), some (.int (nI (rg (rsF T) i)))] [] (clG G x V A R) else some (some (.int 0), clG G x V A R) := by
          rw [bX3_fits_45, if_neg (nI_ge hi (by omega)), cl3_r5, s_read cl_c6 q2 (by omega), bI_s, a1, cl3_r6, s_read cl_c7 q2 (by omega), bI_s, a2, cl3_r0, s_read cl_c4 (by omega) (by omega), bI_s, b1, cl3_r0, s_read cl_c4 (by omega) (by omega), bI_s, b3, tb_rc hU, s_wayAt hU b2 b4 hku, bI_s, cl3_r0, tb_rc hT, s_wayAt hT (by omega) (by omega) hk, bI_s, q6, s_read cl_c4 (by omega) (by omega), bI_s, b5, nI_1, zr_0]
        refine ⟨fun hz => ?_, fun hz => ⟨(some (.int (nI (rf (rsF T) i))), some (.int (nI (rg (rsF T) i)))), ?_⟩⟩
        · rw [e, if_neg]
          intro h
          simp [rbd, h] at hz
        · rw [e, if_pos]
          simpa [rbd] using hz
      · rw [bX3_fits_45, if_pos (nI_le hi (by omega)), zr_1]
      · unfold fB
        rw [decide_eq_true e1, Bool.true_and]
        cases exB (fun i => decide (rt (rsF T) p ≤ i) && rbd T U g i) (rt (rsF T) (p + 1)) with
        | true => rw [if_pos rfl, if_neg (by simp [hpn])]
        | false => rw [if_neg (by decide), if_pos (show p < tN T ∨ (!false) = true from Or.inr rfl)]
    · rw [if_neg e1, if_neg (by decide), zr_0, if_neg]
      unfold fB
      rw [decide_eq_false e1]
      simp [hpn]
theorem m_isKept (h : mT V A nt Tb) (hi : i < nt) (ht : tld (Tb i)) (hj : j < nt) (hp : p < tK (Tb i)) (hpn : tN (Tb i) ≤ p) (hru : ruR 15 13 14 A (Tb i)) (hg : ∀ a, a ≤ p → A 12 (576 + a) = nI (g a) ∧ g a < tK (Tb j)) : az_ca sc iX6_isKept [.ref m, .int (nI i), .int (nI j), .int (nI p)] (mdG G m V A) = some (some (.int (if fB (Tb i) (Tb j) g p = true then 1 else 0)), mdG G m V A) := by
  have h8 := h.2.1
  have hw := h.w hi
  have hwu := h.w hj
  have hk := hw.k24
  have hku := hwu.k24
  have hn6 := hw.n6
  have f1 := hw.frn hp
  have f2 := hw.ton hp
  obtain ⟨g1, g2⟩ := hg p (Nat.le_refl _)
  obtain ⟨g3, g4⟩ := hg (fr (Tb i) p) (by omega)
  obtain ⟨g5, g6⟩ := hg (to (Tb i) p) (by omega)
  have u1 := hwu.frn g2
  have u2 := hwu.ton g2
  have hu6 := hwu.n6
  rw [eX6_isKept, md_r13, n576b, md_a12 (by omega), g1, md_rc, m_from h hj g2, bI_s, md_r13, md_rc, m_from h hi hp, bI_s, n576b, md_a12 (by omega), g3, ite_nnI (by omega) (by omega)]
  by_cases e1 : fr (Tb j) (g p) = g (fr (Tb i) p)
  · rw [if_neg (fun z => z e1), md_rc, m_to h hj g2, bI_s, md_r13, md_rc, m_to h hi hp, bI_s, n576b, md_a12 (by omega), g5, ite_nI (by omega) (by omega)]
    by_cases e2 : to (Tb j) (g p) = g (to (Tb i) p)
    · rw [if_pos e2, md_r17, md_a15 (by omega), hru.1 p (by omega)]
      obtain ⟨k1, k2, -⟩ := rsF_ok hk (l := p + 1) (by omega)
      obtain ⟨k3, k4, -⟩ := rsF_ok hk (l := p) (by omega)
      refine (lp_exG (fun c (o : Option Value × Option Value) => az_rn sc iX6_isKept 44 [some (.ref m), some (.int (nI i)), some (.int (nI j)), some (.int (nI p)), some (.int (nI 576)), some (.int (nI (g p))), some (.int (nI c)), o.1, o.2] [] (mdG G m V A)) (rbd (Tb i) (Tb j) g) (some (some (.int 0), mdG G m V A)) (some (some (.int 1), mdG G m V A)) (rt (rsF (Tb i)) (p + 1)) (fun c o hc => ?_) 576 (by omega) (fun c o hc hc2 => ?_) (rt (rsF (Tb i)) p) (by omega) (none, none)).trans ?_
      · obtain ⟨q1, q2, q3, q4, q5, q6⟩ := ruR_i hw ht hp hc
        obtain ⟨a1, a2⟩ := hru.2 c q1
        obtain ⟨b1, b2⟩ := hg (rf (rsF (Tb i)) c) q3
        obtain ⟨b3, b4⟩ := hg (rg (rsF (Tb i)) c) q4
        obtain ⟨b5, b6⟩ := hg (wv (Tb i) (rf (rsF (Tb i)) c) (rg (rsF (Tb i)) c)) q5
        have e : az_rn sc iX6_isKept 44 [some (.ref m), some (.int (nI i)), some (.int (nI j)), some (.int (nI p)), some (.int (nI 576)), some (.int (nI (g p))), some (.int (nI c)), o.1, o.2] [] (mdG G m V A) = if wy (Tb j) (g (rf (rsF (Tb i)) c)) (g (rg (rsF (Tb i)) c)) = nI (g (wv (Tb i) (rf (rsF (Tb i)) c) (rg (rsF (Tb i)) c))) then az_rn sc iX6_isKept 44 [some (.ref m), some (.int (nI i)), some (.int (nI j)), some (.int (nI p)), some (.int (nI 576)), some (.int (nI (g p))), some (.int (nI (c + 1))), some (.int (nI (rf (rsF (Tb i)) c))), some (.int (nI (rg (rsF (Tb i)) c)))] [] (mdG G m V A) else some (some (.int 0), mdG G m V A) := by
          rw [bX6_isKept_44, md_r17, nI_1, md_a15 (by omega), hru.1 (p + 1) (by omega), if_neg (nI_ge hc (by omega)), md_r15, md_a13 q2, a1, md_r16, md_a14 q2, a2, md_r13, nI_add, md_a12 (by omega), b1, md_r13, nI_add, md_a12 (by omega), b3, md_rc, m_wayIn h hj b2 b4, bI_s, md_r13, md_rc, m_wayIn h hi (show rf (rsF (Tb i)) c < tK (Tb i) by omega) (show rg (rsF (Tb i)) c < tK (Tb i) by omega), bI_s, q6, nI_add, md_a12 (by omega), b5, nI_1, zr_0]
        refine ⟨fun hz => ?_, fun hz => ⟨(some (.int (nI (rf (rsF (Tb i)) c))), some (.int (nI (rg (rsF (Tb i)) c)))), ?_⟩⟩
        · rw [e, if_neg]
          intro h
          simp [rbd, h] at hz
        · rw [e, if_pos]
          simpa [rbd] using hz
      · rw [bX6_isKept_44, md_r17, nI_1, md_a15 (by omega), hru.1 (p + 1) (by omega), if_pos (nI_le hc (by omega)), zr_1]
      · unfold fB
        rw [decide_eq_true ⟨e1, e2⟩, Bool.true_and]
        cases exB (fun c => decide (rt (rsF (Tb i)) p ≤ c) && rbd (Tb i) (Tb j) g c) (rt (rsF (Tb i)) (p + 1)) <;> rfl
    · rw [if_neg e2, zr_0, if_neg]
      unfold fB
      rw [decide_eq_false (fun z => e2 z.2), Bool.false_and]
      decide
  · rw [if_pos e1, zr_0, if_neg]
    unfold fB
    rw [decide_eq_false (fun z => e1 z.1), Bool.false_and]
    decide
end FITS
