/-! OPERATIONS fault, close -/
theorem tbC_set {G : az_H} {t r : Nat} {T : tb} {e : va_E} (h : tbC G t T) (hr : r < t ∨ t + 3 < r) : tbC (az_set G r e) t T :=
  ⟨(set_n (by omega)).trans h.1, (set_n (by omega)).trans h.2.1, (set_n (by omega)).trans h.2.2.1, (set_n (by omega)).trans h.2.2.2⟩
/-- a row of four written -/
def fw (f : Nat → Int32) (k a b c : Int32) : Nat → Int32 := upd (upd (upd (upd f 0 k) 1 a) 2 b) 3 c
theorem fw_fw (f : Nat → Int32) (k a b c k' a' b' c' : Int32) : fw (fw f k a b c) k' a' b' c' = fw f k' a' b' c' := by
  funext j
  unfold fw upd
  by_cases h3 : j = 3
  · simp [h3]
  · by_cases h2 : j = 2
    · simp [h2]
    · by_cases h1 : j = 1
      · simp [h1]
      · by_cases h0 : j = 0 <;> simp [h0, h1, h2, h3]
theorem fw_0 (f : Nat → Int32) (k a b c : Int32) : fw f k a b c 0 = k := rfl
theorem fw_1 (f : Nat → Int32) (k a b c : Int32) : fw f k a b c 1 = a := rfl
theorem fw_2 (f : Nat → Int32) (k a b c : Int32) : fw f k a b c 2 = b := rfl
theorem fw_3 (f : Nat → Int32) (k a b c : Int32) : fw f k a b c 3 = c := rfl
theorem fw_lt (f g : Nat → Int32) (k a b c : Int32) {j : Nat} (h : j < 4) : fw f k a b c j = fw g k a b c j := by
  match j, h with
  | 0, _ => rfl
  | 1, _ => rfl
  | 2, _ => rfl
  | 3, _ => rfl
/-- the first fault of a table -/
def u1 (T : tb) (a b : Nat) : Bool := decide (to T a = fr T b) && decide (wy T a b = -1)
def uu1 (T : tb) : Option (Nat × Nat) := fdO (fun a => fdB (u1 T a) (tK T)) (tK T)
def wv (T : tb) (a b : Nat) : Nat := (wy T a b).toNatClampNeg
def u2 (T : tb) (a b c : Nat) : Bool := decide (to T a = fr T b) && (decide (to T b = fr T c) && !decide (wy T (wv T a b) c = wy T a (wv T b c)))
def uu2 (T : tb) : Option (Nat × Nat × Nat) := fdO (fun a => fdO (fun b => fdB (u2 T a b) (tK T)) (tK T)) (tK T)
def flt (T : tb) : Int32 × Int32 × Int32 × Int32 := match uu1 T with
  | some (a, b) => (1, nI a, nI b, -1)
  | none => match uu2 T with
    | some (a, b, c) => (2, nI a, nI b, nI c)
    | none => (0, -1, -1, -1)
theorem uu1_told {T : tb} (hw : tbW T) (h : uu1 T = none) : tld T := by
  intro a b ha hb e
  have h1 := fdB_none (fdO_none h a ha) b hb
  have h2 : ¬ wy T a b = -1 := by
    intro q
    simp [u1, e, q] at h1
  exact ((hw.2.2.2.1 a b ha hb).2.2.2 e).resolve_left h2
theorem wv_told {T : tb} (ht : tld T) (hw : tbW T) {a b : Nat} (ha : a < tK T) (hb : b < tK T) (e : to T a = fr T b) : wy T a b = nI (wv T a b) ∧ wv T a b < tK T ∧ fr T (wv T a b) = fr T a ∧ to T (wv T a b) = to T b := by
  have hk := hw.k24
  obtain ⟨c, h1, h2, h3, h4⟩ := ht a b ha hb e
  have h5 : wv T a b = c := by
    show (wy T a b).toNatClampNeg = c
    rw [h2, nI_clamp (by omega)]
  rw [h5]
  exact ⟨h2, h1, h3, h4⟩
section OPSC
variable {sc : az_S} {G G1 : az_H} {B x m t r : Nat} {T : tb} {f : Nat → Int32} {V Vm : Nat → Int32} {A Am : Nat → Nat → Int32} {R : Nat → Nat → Option Nat} {S : wS} {ti ci : Nat → Nat}
theorem s_writeFaultRow (h : G.1 r = some (.inl (0, 4, .inl f))) (k a b c : Int32) : az_ca sc iX4_writeFaultRow [.ref r, .int k, .int a, .int b, .int c] G = some (none, az_set G r (.inl (0, 4, .inl (fw f k a b c)))) := by
  have w : ∀ (i : Nat) (j v : Int32) (G : az_H) (f : Nat → Int32), j = nI i → i < 4 → G.1 r = some (.inl (0, 4, .inl f)) → az_ca sc iX5_write [.ref r, .int j, .int v] G = some (none, az_set G r (.inl (0, 4, .inl (upd f i v)))) := by
    intro i j v G f hj hi hG
    rw [hj]
    exact s_write hG hi (by omega)
  rw [eX4_writeFaultRow, w 0 0 k G f rfl (by omega) h, bV_s, w 1 1 a _ _ rfl (by omega) (set_1 _ _ _), bV_s, set_set, w 2 2 b _ _ rfl (by omega) (set_1 _ _ _), bV_s, set_set, w 3 3 c _ _ rfl (by omega) (set_1 _ _ _), bV_s, set_set]
  rfl
theorem s_writeUntold (h : tbC G t T) (hw : tbW T) (hr : G.1 r = some (.inl (0, 4, .inl f))) : az_ca sc iX4_writeUntold [.ref t, .ref r] G = match uu1 T with
    | some (a, b) => some (some (.int 1), az_set G r (.inl (0, 4, .inl (fw f 1 (nI a) (nI b) (-1)))))
    | none => some (some (.int 0), G) := by
  have hk := hw.k24
  have inner : ∀ a, a < tK T → az_rn sc iX4_writeUntold 8 [some (.ref t), some (.ref r), some (.int (nI a)), some (.int (nI 0))] [] G = match fdB (u1 T a) (tK T) with
      | some b => some (some (.int 1), az_set G r (.inl (0, 4, .inl (fw f 1 (nI a) (nI b) (-1)))))
      | none => az_rn sc iX4_writeUntold 2 [some (.ref t), some (.ref r), some (.int (nI (a + 1))), some (.int (nI (tK T)))] [] G := by
    intro a ha
    refine lp_fd (fun b => az_rn sc iX4_writeUntold 8 [some (.ref t), some (.ref r), some (.int (nI a)), some (.int (nI b))] [] G) (u1 T a) (fun b => some (some (.int 1), az_set G r (.inl (0, 4, .inl (fw f 1 (nI a) (nI b) (-1)))))) _ (tK T) (fun b hb => ?_) ?_
    · rw [bX4_writeUntold_8, tb_f1 h, if_neg (nI_ge hb (by omega)), tb_rc h, s_isRow h hw ha hb, bI_s, nI_1]
      by_cases e : to T a = fr T b
      · rw [if_pos e, if_neg (by decide), tb_rc h, s_wayAt h ha hb hk, bI_s]
        by_cases e2 : wy T a b = -1
        · rw [if_neg (fun q => q e2), s_writeFaultRow hr, bV_s, zr_1, if_pos (by simp [u1, e, e2])]
        · rw [if_pos e2, if_neg (by simp [u1, e2])]
      · rw [if_neg e, if_pos rfl, if_neg (by simp [u1, e])]
    · rw [bX4_writeUntold_8, tb_f1 h, if_pos (nI_le (Nat.le_refl _) (by omega)), nI_1]
  have key := lp_fdO (fun a (o : Option Value) => az_rn sc iX4_writeUntold 2 [some (.ref t), some (.ref r), some (.int (nI a)), o] [] G) (fun a => fdB (u1 T a) (tK T)) (fun a b => some (some (.int 1), az_set G r (.inl (0, 4, .inl (fw f 1 (nI a) (nI b) (-1)))))) (some (some (.int 0), G)) (tK T) (fun a o ha => by
      have e1 : az_rn sc iX4_writeUntold 2 [some (.ref t), some (.ref r), some (.int (nI a)), o] [] G = az_rn sc iX4_writeUntold 8 [some (.ref t), some (.ref r), some (.int (nI a)), some (.int (nI 0))] [] G := by
        rw [bX4_writeUntold_2, tb_f1 h, if_neg (nI_ge ha (by omega))]
        rfl
      refine ⟨fun b hb => ?_, fun hb => ⟨some (.int (nI (tK T))), ?_⟩⟩
      · rw [e1, inner a ha, hb]
      · rw [e1, inner a ha, hb])
    (fun o => by rw [bX4_writeUntold_2, tb_f1 h, if_pos (nI_le (Nat.le_refl _) (by omega)), zr_0]) none
  rw [eX4_writeUntold]
  refine Eq.trans key ?_
  unfold uu1
  cases fdO (fun a => fdB (u1 T a) (tK T)) (tK T) with
  | none => rfl
  | some z => rfl
theorem s_writeUnlike (h : tbC G t T) (hw : tbW T) (ht : tld T) (hr : G.1 r = some (.inl (0, 4, .inl f))) : az_ca sc iX4_writeUnlike [.ref t, .ref r] G = match uu2 T with
    | some (a, b, c) => some (none, az_set G r (.inl (0, 4, .inl (fw f 2 (nI a) (nI b) (nI c)))))
    | none => some (none, G) := by
  have hk := hw.k24
  have inner : ∀ a b, a < tK T → b < tK T → az_rn sc iX4_writeUnlike 14 [some (.ref t), some (.ref r), some (.int (nI a)), some (.int (nI b)), some (.int (nI 0))] [] G = match fdB (u2 T a b) (tK T) with
      | some c => some (none, az_set G r (.inl (0, 4, .inl (fw f 2 (nI a) (nI b) (nI c)))))
      | none => az_rn sc iX4_writeUnlike 8 [some (.ref t), some (.ref r), some (.int (nI a)), some (.int (nI (b + 1))), some (.int (nI (tK T)))] [] G := by
    intro a b ha hb
    refine lp_fd (fun c => az_rn sc iX4_writeUnlike 14 [some (.ref t), some (.ref r), some (.int (nI a)), some (.int (nI b)), some (.int (nI c))] [] G) (u2 T a b) (fun c => some (none, az_set G r (.inl (0, 4, .inl (fw f 2 (nI a) (nI b) (nI c)))))) _ (tK T) (fun c hc => ?_) ?_
    · rw [bX4_writeUnlike_14, tb_f1 h, if_neg (nI_ge hc (by omega)), tb_rc h, s_isRow h hw ha hb, bI_s, nI_1]
      by_cases e : to T a = fr T b
      · rw [if_pos e, if_neg (by decide), tb_rc h, s_isRow h hw hb hc, bI_s]
        by_cases e2 : to T b = fr T c
        · obtain ⟨p1, p2, p3, p4⟩ := wv_told ht hw ha hb e
          obtain ⟨q1, q2, q3, q4⟩ := wv_told ht hw hb hc e2
          rw [if_pos e2, if_neg (by decide), tb_rc h, s_wayAt h ha hb hk, bI_s, p1, tb_rc h, s_wayAt h p2 hc hk, bI_s, tb_rc h, s_wayAt h hb hc hk, bI_s, q1, tb_rc h, s_wayAt h ha q2 hk, bI_s]
          by_cases e3 : wy T (wv T a b) c = wy T a (wv T b c)
          · rw [if_pos e3, if_neg (by simp [u2, e3])]
          · rw [if_neg e3, s_writeFaultRow hr, bV_s, if_pos (by simp [u2, e, e2, e3])]
        · rw [if_neg e2, if_pos rfl, if_neg (by simp [u2, e2])]
      · rw [if_neg e, if_pos rfl, if_neg (by simp [u2, e])]
    · rw [bX4_writeUnlike_14, tb_f1 h, if_pos (nI_le (Nat.le_refl _) (by omega)), nI_1]
  have mid : ∀ a (o : Option Value), a < tK T → ∃ o' : Option Value, az_rn sc iX4_writeUnlike 8 [some (.ref t), some (.ref r), some (.int (nI a)), some (.int (nI 0)), o] [] G = match fdO (fun b => fdB (u2 T a b) (tK T)) (tK T) with
      | some (b, c) => some (none, az_set G r (.inl (0, 4, .inl (fw f 2 (nI a) (nI b) (nI c)))))
      | none => az_rn sc iX4_writeUnlike 2 [some (.ref t), some (.ref r), some (.int (nI (a + 1))), some (.int (nI (tK T))), o'] [] G := by
    intro a o ha
    refine ⟨some (.int (nI (tK T))), ?_⟩
    have hk0 : 0 < tK T := by omega
    have e0 : az_rn sc iX4_writeUnlike 8 [some (.ref t), some (.ref r), some (.int (nI a)), some (.int (nI 0)), o] [] G = az_rn sc iX4_writeUnlike 8 [some (.ref t), some (.ref r), some (.int (nI a)), some (.int (nI 0)), some (.int (nI (tK T)))] [] G := by
      rw [bX4_writeUnlike_8, bX4_writeUnlike_8, tb_f1 h, if_neg (nI_ge hk0 (by omega)), tb_f1 h, if_neg (nI_ge hk0 (by omega))]
    rw [e0]
    have key := lp_fdO (fun b (_ : Unit) => az_rn sc iX4_writeUnlike 8 [some (.ref t), some (.ref r), some (.int (nI a)), some (.int (nI b)), some (.int (nI (tK T)))] [] G) (fun b => fdB (u2 T a b) (tK T)) (fun b c => some (none, az_set G r (.inl (0, 4, .inl (fw f 2 (nI a) (nI b) (nI c)))))) (az_rn sc iX4_writeUnlike 2 [some (.ref t), some (.ref r), some (.int (nI (a + 1))), some (.int (nI (tK T))), some (.int (nI (tK T)))] [] G) (tK T) (fun b _ hb => by
        have e1 : az_rn sc iX4_writeUnlike 8 [some (.ref t), some (.ref r), some (.int (nI a)), some (.int (nI b)), some (.int (nI (tK T)))] [] G = az_rn sc iX4_writeUnlike 14 [some (.ref t), some (.ref r), some (.int (nI a)), some (.int (nI b)), some (.int (nI 0))] [] G := by
          rw [bX4_writeUnlike_8, tb_f1 h, if_neg (nI_ge hb (by omega))]
          rfl
        refine ⟨fun c hc => ?_, fun hc => ⟨(), ?_⟩⟩
        · rw [e1, inner a b ha hb, hc]
        · rw [e1, inner a b ha hb, hc])
      (fun _ => by rw [bX4_writeUnlike_8, tb_f1 h, if_pos (nI_le (Nat.le_refl _) (by omega)), nI_1]) ()
    refine Eq.trans key ?_
    cases fdO (fun b => fdB (u2 T a b) (tK T)) (tK T) with
    | none => rfl
    | some z => rfl
  have key := lp_fdO (fun a (o : Option Value × Option Value) => az_rn sc iX4_writeUnlike 2 [some (.ref t), some (.ref r), some (.int (nI a)), o.1, o.2] [] G) (fun a => fdO (fun b => fdB (u2 T a b) (tK T)) (tK T)) (fun a z => some (none, az_set G r (.inl (0, 4, .inl (fw f 2 (nI a) (nI z.1) (nI z.2)))))) (some (none, G)) (tK T) (fun a o ha => by
      obtain ⟨o', e2⟩ := mid a o.2 ha
      have e1 : az_rn sc iX4_writeUnlike 2 [some (.ref t), some (.ref r), some (.int (nI a)), o.1, o.2] [] G = az_rn sc iX4_writeUnlike 8 [some (.ref t), some (.ref r), some (.int (nI a)), some (.int (nI 0)), o.2] [] G := by
        rw [bX4_writeUnlike_2, tb_f1 h, if_neg (nI_ge ha (by omega))]
        rfl
      refine ⟨fun z hz => ?_, fun hz => ⟨(some (.int (nI (tK T))), o'), ?_⟩⟩
      · rw [e1, e2, hz]
      · rw [e1, e2, hz])
    (fun o => by rw [bX4_writeUnlike_2, tb_f1 h, if_pos (nI_le (Nat.le_refl _) (by omega))]) (none, none)
  rw [eX4_writeUnlike]
  refine Eq.trans key ?_
  unfold uu2
  cases fdO (fun a => fdO (fun b => fdB (u2 T a b) (tK T)) (tK T)) (tK T) with
  | none => rfl
  | some z => rfl
theorem s_writeFault (h : tbC G t T) (hw : tbW T) (hr : G.1 r = some (.inl (0, 4, .inl f))) (hrt : r < t ∨ t + 3 < r) : az_ca sc iX4_writeFault [.ref t, .ref r] G = some (none, az_set G r (.inl (0, 4, .inl (fw f (flt T).1 (flt T).2.1 (flt T).2.2.1 (flt T).2.2.2)))) := by
  have h1 : tbC (az_set G r (.inl (0, 4, .inl (fw f 0 (-1) (-1) (-1))))) t T := tbC_set h hrt
  rw [eX4_writeFault, s_writeFaultRow hr, bV_s, tb_rc h1, s_writeUntold h1 hw (set_1 _ _ _)]
  unfold flt
  cases hu : uu1 T with
  | some z =>
    obtain ⟨a, b⟩ := z
    dsimp only
    rw [bI_s, if_pos (by decide), set_set, fw_fw]
  | none =>
    dsimp only
    rw [bI_s, if_neg (by decide), tb_rc h1, s_writeUnlike h1 hw (uu1_told hw hu) (set_1 _ _ _)]
    cases uu2 T with
    | some z =>
      obtain ⟨a, b, c⟩ := z
      dsimp only
      rw [bV_s, set_set, fw_fw]
    | none =>
      dsimp only
      rw [bV_s]
end OPSC
