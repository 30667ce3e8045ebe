/-! OPERATION told: the three questions, as Bools -/
def uq (T : tb) (g : Nat → Nat) (a b : Nat) : Bool := decide (fr T a = fr T b) && (decide (to T a = to T b) && decide (g a = g b))
def uqC (T : tb) (g : Nat → Nat) : Bool := exB (fun a => exB (fun b => decide (a + 1 ≤ b) && uq T g a b) (tK T)) (tK T)
def uqM (T : tb) (g : Nat → Nat) : Bool := exB (fun a => exB (uq T g a) a) (tK T)
theorem uq_e (T : tb) (g : Nat → Nat) : uqC T g = uqM T g := by
  rw [Bool.eq_iff_iff]
  unfold uqC uqM
  rw [exB_iff, exB_iff]
  constructor
  · rintro ⟨a, ha, h⟩
    obtain ⟨b, hb, h2⟩ := exB_iff.mp h
    have h3 : a + 1 ≤ b ∧ fr T a = fr T b ∧ to T a = to T b ∧ g a = g b := by simpa [uq] using h2
    refine ⟨b, hb, exB_iff.mpr ⟨a, by omega, ?_⟩⟩
    simp [uq, h3.2.1, h3.2.2.1, h3.2.2.2]
  · rintro ⟨a, ha, h⟩
    obtain ⟨b, hb, h2⟩ := exB_iff.mp h
    have h3 : fr T a = fr T b ∧ to T a = to T b ∧ g a = g b := by simpa [uq] using h2
    refine ⟨b, by omega, exB_iff.mpr ⟨a, ha, ?_⟩⟩
    simp [uq, h3.1, h3.2.1, h3.2.2]
    omega
def gv (T : tb) (g : Nat → Nat) (p q c : Nat) : Bool := exB (fun a => decide (fr T a = p) && (decide (to T a = q) && decide (g a = c))) (tK T)
def gvN (T U : tb) (g : Nat → Nat) (p q : Nat) : Bool := exB (fun c => decide (fr U c = g p) && (decide (to U c = g q) && !gv T g p q c)) (tK U)
def gvA (T U : tb) (g : Nat → Nat) : Bool := exB (fun p => exB (fun q => gvN T U g p q) (tN T)) (tN T)
def alk (U : tb) (y z : Nat) : Bool := exB (fun c => decide (fr U c = y) && (decide (to U c = z) && bk U c)) (tK U)
def rcN (T U : tb) (g : Nat → Nat) (y : Nat) : Bool := exB (fun p => alk U y (g p)) (tN T)
def rcA (T U : tb) (g : Nat → Nat) : Bool := exB (fun y => !rcN T U g y) (tN U)
section TOLDC
variable {sc : az_S} {G : az_H} {t u r : Nat} {T U : tb} {f : Nat → Int32} {g : Nat → Nat}
theorem s_areBeside (h : tbC G t T) (hw : tbW T) {a b : Nat} (ha : a < tK T) (hb : b < tK T) : az_ca sc iX4_areBeside [.ref t, .int (nI a), .int (nI b)] G = some (some (.int (if fr T a = fr T b ∧ to T a = to T b then 1 else 0)), G) := by
  have hk := hw.k24
  have hn6 := hw.n6
  have f1 := hw.frn hb
  have f2 := hw.ton hb
  rw [eX4_areBeside, tb_rc h, s_fromOf h (by omega), bI_s, tb_rc h, s_toOf h (by omega), bI_s, hw.f hb, hw.g hb, tb_rc h, s_leadsN h hw ha (by omega) (by omega), bI_s, zr_i]
theorem s_keepsUnlike (h : tbC G t T) (hw : tbW T) (hr : G.1 r = some (.inl (0, 24, .inl f))) (hf : ∀ a, a < tK T → f a = nI (g a) ∧ g a < 24) : az_ca sc iX5_keepsUnlike [.ref t, .ref r] G = some (some (.int (if uqC T g = true then 0 else 1)), G) := by
  have hk := hw.k24
  have inner : ∀ a, a < tK T → az_rn sc iX5_keepsUnlike 10 [some (.ref t), some (.ref r), some (.int (nI a)), some (.int (nI (a + 1)))] [] G = if exB (fun b => decide (a + 1 ≤ b) && uq T g a b) (tK T) = true then some (some (.int 0), G) else az_rn sc iX5_keepsUnlike 2 [some (.ref t), some (.ref r), some (.int (nI (a + 1))), some (.int (nI (tK T)))] [] G := by
    intro a ha
    refine lp_exF (fun b => az_rn sc iX5_keepsUnlike 10 [some (.ref t), some (.ref r), some (.int (nI a)), some (.int (nI b))] [] G) (uq T g a) (some (some (.int 0), G)) _ (a + 1) (tK T) (by omega) (fun b _ hb => ?_) ?_
    · obtain ⟨f1, f2⟩ := hf a ha
      obtain ⟨f3, f4⟩ := hf b hb
      rw [bX5_keepsUnlike_10, tb_f1 h, if_neg (nI_ge hb (by omega)), tb_rc h, s_areBeside h hw ha hb, bI_s, nI_1]
      by_cases e : fr T a = fr T b ∧ to T a = to T b
      · rw [if_pos e, if_neg (by decide), s_read hr (by omega) (by omega), bI_s, s_read hr (by omega) (by omega), bI_s, f1, f3, ite_nnI (by omega) (by omega)]
        by_cases e2 : g a = g b
        · rw [if_neg (fun z => z e2), zr_0, if_pos (by simp [uq, e, e2])]
        · rw [if_pos e2, if_neg (by simp [uq, e2])]
      · rw [if_neg e, if_pos rfl, if_neg (fun z => e (by
          have h3 : fr T a = fr T b ∧ to T a = to T b ∧ g a = g b := by simpa [uq] using z
          exact ⟨h3.1, h3.2.1⟩))]
    · rw [bX5_keepsUnlike_10, tb_f1 h, if_pos (nI_le (Nat.le_refl _) (by omega)), nI_1]
  rw [eX5_keepsUnlike]
  refine (lp_exO (fun a (o : Option Value) => az_rn sc iX5_keepsUnlike 2 [some (.ref t), some (.ref r), some (.int (nI a)), o] [] G) (fun a => exB (fun b => decide (a + 1 ≤ b) && uq T g a b) (tK T)) (some (some (.int 0), G)) (some (some (.int 1), G)) (tK T) (fun a o ha => ?_) (fun o => ?_) none).trans ?_
  · have e1 : az_rn sc iX5_keepsUnlike 2 [some (.ref t), some (.ref r), some (.int (nI a)), o] [] G = az_rn sc iX5_keepsUnlike 10 [some (.ref t), some (.ref r), some (.int (nI a)), some (.int (nI (a + 1)))] [] G := by
      rw [bX5_keepsUnlike_2, tb_f1 h, if_neg (nI_ge ha (by omega)), nI_1]
    refine ⟨fun hp => ?_, fun hp => ⟨some (.int (nI (tK T))), ?_⟩⟩
    · rw [e1, inner a ha, if_pos hp]
    · rw [e1, inner a ha, if_neg (by rw [hp]; decide)]
  · rw [bX5_keepsUnlike_2, tb_f1 h, if_pos (nI_le (Nat.le_refl _) (by omega)), zr_1]
  · unfold uqC
    split <;> rfl
theorem s_isGiven (h : tbC G t T) (hw : tbW T) (hr : G.1 r = some (.inl (0, 24, .inl f))) (hf : ∀ a, a < tK T → f a = nI (g a) ∧ g a < 24) {p q c : Nat} (hp : p < 24) (hq : q < 24) (hc : c < 24) : az_ca sc iX5_isGiven [.ref t, .ref r, .int (nI p), .int (nI q), .int (nI c)] G = some (some (.int (if gv T g p q c = true then 1 else 0)), G) := by
  have hk := hw.k24
  rw [eX5_isGiven]
  refine (lp_ex (fun a => az_rn sc iX5_isGiven 2 [some (.ref t), some (.ref r), some (.int (nI p)), some (.int (nI q)), some (.int (nI c)), some (.int (nI a))] [] G) (fun a => decide (fr T a = p) && (decide (to T a = q) && decide (g a = c))) (some (some (.int 1), G)) (some (some (.int 0), G)) (tK T) (fun a ha => ?_) ?_).trans ?_
  · obtain ⟨f1, f2⟩ := hf a ha
    rw [bX5_isGiven_2, tb_f1 h, if_neg (nI_ge ha (by omega)), tb_rc h, s_leadsN h hw ha (by omega) (by omega), bI_s, nI_1]
    by_cases e : fr T a = p ∧ to T a = q
    · rw [if_pos e, if_neg (by decide), s_read hr (by omega) (by omega), bI_s, f1, ite_nnI (by omega) (by omega)]
      by_cases e2 : g a = c
      · rw [if_neg (fun z => z e2), zr_1, if_pos (by simp [e, e2])]
      · rw [if_pos e2, if_neg (by simp [e2])]
    · rw [if_neg e, if_pos rfl, if_neg (fun z => e (by
        have h3 : fr T a = p ∧ to T a = q ∧ g a = c := by simpa using z
        exact ⟨h3.1, h3.2.1⟩))]
  · rw [bX5_isGiven_2, tb_f1 h, if_pos (nI_le (Nat.le_refl _) (by omega)), zr_0]
  · unfold gv
    split <;> rfl
theorem s_areAlike (h : tbC G t T) (hw : tbW T) {p q : Nat} (hp : p < 24) (hq : q < 24) : az_ca sc iX4_areAlike [.ref t, .int (nI p), .int (nI q)] G = some (some (.int (if alk T p q = true then 1 else 0)), G) := by
  have hk := hw.k24
  rw [eX4_areAlike]
  refine (lp_ex (fun a => az_rn sc iX4_areAlike 2 [some (.ref t), some (.int (nI p)), some (.int (nI q)), some (.int (nI a))] [] G) (fun a => decide (fr T a = p) && (decide (to T a = q) && bk T a)) (some (some (.int 1), G)) (some (some (.int 0), G)) (tK T) (fun a ha => ?_) ?_).trans ?_
  · rw [bX4_areAlike_2, tb_f1 h, if_neg (nI_ge ha (by omega)), tb_rc h, s_leadsN h hw ha (by omega) (by omega), bI_s, nI_1]
    by_cases e : fr T a = p ∧ to T a = q
    · rw [if_pos e, if_neg (by decide), tb_rc h, s_hasBack h hw ha, bI_s]
      by_cases e2 : bk T a = true
      · rw [if_pos e2, if_neg (by decide), zr_1, if_pos (by simp [e, e2])]
      · rw [if_neg e2, if_pos rfl, if_neg (by simp [e2])]
    · rw [if_neg e, if_pos rfl, if_neg (fun z => e (by
        have h3 : fr T a = p ∧ to T a = q ∧ bk T a = true := by simpa using z
        exact ⟨h3.1, h3.2.1⟩))]
  · rw [bX4_areAlike_2, tb_f1 h, if_pos (nI_le (Nat.le_refl _) (by omega)), zr_0]
  · unfold alk
    split <;> rfl
theorem s_givesAll (h : tbC G t T) (hw : tbW T) (hu : tbC G u U) (hwu : tbW U) (hr : G.1 r = some (.inl (0, 24, .inl f))) (hf : ∀ a, a < tK T → f a = nI (g a) ∧ g a < 24) : az_ca sc iX5_givesAll [.ref t, .ref u, .ref r] G = some (some (.int (if gvA T U g = true then 0 else 1)), G) := by
  have hk := hw.k24
  have hku := hwu.k24
  have hn6 := hw.n6
  have hnk := hw.nk
  have inner : ∀ p q, p < tN T → q < tN T → az_rn sc iX5_givesAll 14 [some (.ref t), some (.ref u), some (.ref r), some (.int (nI p)), some (.int (nI q)), some (.int (nI 0))] [] G = if gvN T U g p q = true then some (some (.int 0), G) else az_rn sc iX5_givesAll 8 [some (.ref t), some (.ref u), some (.ref r), some (.int (nI p)), some (.int (nI (q + 1))), some (.int (nI (tK U)))] [] G := by
    intro p q hp hq
    obtain ⟨f1, f2⟩ := hf p (by omega)
    obtain ⟨f3, f4⟩ := hf q (by omega)
    refine lp_ex (fun c => az_rn sc iX5_givesAll 14 [some (.ref t), some (.ref u), some (.ref r), some (.int (nI p)), some (.int (nI q)), some (.int (nI c))] [] G) (fun c => decide (fr U c = g p) && (decide (to U c = g q) && !gv T g p q c)) (some (some (.int 0), G)) _ (tK U) (fun c hc => ?_) ?_
    · rw [bX5_givesAll_14, tb_f1 hu, if_neg (nI_ge hc (by omega)), s_read hr (by omega) (by omega), bI_s, s_read hr (by omega) (by omega), bI_s, f1, f3, tb_rc hu, s_leadsN hu hwu hc (by omega) (by omega), bI_s, nI_1]
      by_cases e : fr U c = g p ∧ to U c = g q
      · rw [if_pos e, if_neg (by decide), s_isGiven h hw hr hf (by omega) (by omega) (by omega), bI_s]
        by_cases e2 : gv T g p q c = true
        · rw [if_pos e2, if_pos (by decide), if_neg (by simp [e2])]
        · rw [if_neg e2, if_neg (by decide), zr_0, if_pos (by simp [e, e2])]
      · rw [if_neg e, if_pos rfl, if_neg (fun z => e (by
          have h3 : fr U c = g p ∧ to U c = g q ∧ gv T g p q c = false := by simpa using z
          exact ⟨h3.1, h3.2.1⟩))]
    · rw [bX5_givesAll_14, tb_f1 hu, if_pos (nI_le (Nat.le_refl _) (by omega)), nI_1]
  have mid : ∀ p (o : Option Value), p < tN T → ∃ o' : Option Value, az_rn sc iX5_givesAll 8 [some (.ref t), some (.ref u), some (.ref r), some (.int (nI p)), some (.int (nI 0)), o] [] G = if exB (fun q => gvN T U g p q) (tN T) = true then some (some (.int 0), G) else az_rn sc iX5_givesAll 2 [some (.ref t), some (.ref u), some (.ref r), some (.int (nI (p + 1))), some (.int (nI (tN T))), o'] [] G := by
    intro p o hp
    have e0 : az_rn sc iX5_givesAll 8 [some (.ref t), some (.ref u), some (.ref r), some (.int (nI p)), some (.int (nI 0)), o] [] G = az_rn sc iX5_givesAll 8 [some (.ref t), some (.ref u), some (.ref r), some (.int (nI p)), some (.int (nI 0)), some (.int (nI (tK U)))] [] G := by
      rw [bX5_givesAll_8, bX5_givesAll_8, tb_f0 h, if_neg (nI_ge (show 0 < tN T by omega) (by omega)), tb_f0 h, if_neg (nI_ge (show 0 < tN T by omega) (by omega))]
    refine ⟨some (.int (nI (tK U))), ?_⟩
    rw [e0]
    refine lp_exO (fun q (_ : Unit) => az_rn sc iX5_givesAll 8 [some (.ref t), some (.ref u), some (.ref r), some (.int (nI p)), some (.int (nI q)), some (.int (nI (tK U)))] [] G) (fun q => gvN T U g p q) (some (some (.int 0), G)) _ (tN T) (fun q _ hq => ?_) (fun _ => ?_) ()
    · have e1 : az_rn sc iX5_givesAll 8 [some (.ref t), some (.ref u), some (.ref r), some (.int (nI p)), some (.int (nI q)), some (.int (nI (tK U)))] [] G = az_rn sc iX5_givesAll 14 [some (.ref t), some (.ref u), some (.ref r), some (.int (nI p)), some (.int (nI q)), some (.int (nI 0))] [] G := by
        rw [bX5_givesAll_8, tb_f0 h, if_neg (nI_ge hq (by omega))]
        rfl
      refine ⟨fun hz => ?_, fun hz => ⟨(), ?_⟩⟩
      · rw [e1, inner p q hp hq, if_pos hz]
      · rw [e1, inner p q hp hq, if_neg (by rw [hz]; decide)]
    · rw [bX5_givesAll_8, tb_f0 h, if_pos (nI_le (Nat.le_refl _) (by omega)), nI_1]
  rw [eX5_givesAll]
  refine (lp_exO (fun p (o : Option Value × Option Value) => az_rn sc iX5_givesAll 2 [some (.ref t), some (.ref u), some (.ref r), some (.int (nI p)), o.1, o.2] [] G) (fun p => exB (fun q => gvN T U g p q) (tN T)) (some (some (.int 0), G)) (some (some (.int 1), G)) (tN T) (fun p o hp => ?_) (fun o => ?_) (none, none)).trans ?_
  · obtain ⟨o', em⟩ := mid p o.2 hp
    have e1 : az_rn sc iX5_givesAll 2 [some (.ref t), some (.ref u), some (.ref r), some (.int (nI p)), o.1, o.2] [] G = az_rn sc iX5_givesAll 8 [some (.ref t), some (.ref u), some (.ref r), some (.int (nI p)), some (.int (nI 0)), o.2] [] G := by
      rw [bX5_givesAll_2, tb_f0 h, if_neg (nI_ge hp (by omega))]
      rfl
    refine ⟨fun hz => ?_, fun hz => ⟨(some (.int (nI (tN T))), o'), ?_⟩⟩
    · rw [e1, em, if_pos hz]
    · rw [e1, em, if_neg (by rw [hz]; decide)]
  · rw [bX5_givesAll_2, tb_f0 h, if_pos (nI_le (Nat.le_refl _) (by omega)), zr_1]
  · unfold gvA
    split <;> rfl
end TOLDC
