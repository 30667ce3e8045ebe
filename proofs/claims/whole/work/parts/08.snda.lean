/-! THE TIE, first part: the relation of heaps, the locals, reading and writing, new cells, calls -/
def az_re (cy : Nat → ClassId) (e : va_E) : va_E := match e with
  | .inl (k, x) => .inl (cy k, x)
  | .inr o => .inr o
def az_tys (cy : Nat → ClassId) : List (ClassId × FieldType) := [(cy 0, .int), (cy 1, .boolean), (cy 2, .object RX4), (cy 3, .object RX0)]
def az_rel (Z : Nat) (D : va_G) (cy : Nat → ClassId) (G : az_H) (H : Heap) : Prop := H.size = G.2.1 ∧ Z ≤ G.2.1 ∧ ∀ a e, G.1 a = some e → Z ≤ a ∧ va_at D vwCl (a, az_re cy e) H
def az_kk (D : va_G) (cy : Nat → ClassId) (U : State) : Prop := va_K D vwCl (az_tys cy) U ∧ (∀ q ∈ az_nest, va_Nw (.methodLinkNest q.1 q.2.1 q.2.2.1 q.2.2.2) U) ∧ va_AO RX4 U ∧ va_AO RX0 U
theorem az_kk.warm {D : va_G} {cy : Nat → ClassId} {s U : State} (hW : s.WarmedH U.vm) (h : az_kk D cy s) : az_kk D cy U :=
  ⟨va_K.moved hW.alike h.1, fun q hq => va_Nw.warmM hW (h.2.1 q hq), va_AO.moved hW.alike h.2.2.1, va_AO.moved hW.alike h.2.2.2⟩
theorem az_kk.same {D : va_G} {cy : Nat → ClassId} {u U : State} (e : u.vm = U.vm) (h : az_kk D cy u) : az_kk D cy U :=
  ⟨va_K.moved (by rw [e]; exact Vm.Alike.refl _) h.1, fun q hq => va_Nw.same rfl e (h.2.1 q hq), va_AO.moved (by rw [e]; exact Vm.Alike.refl _) h.2.2.1, va_AO.moved (by rw [e]; exact Vm.Alike.refl _) h.2.2.2⟩
theorem az_rel.put {Z : Nat} {D : va_G} {cy : Nat → ClassId} {G : az_H} {H H1 : Heap} {r : Nat} {e0 e : va_E} (h : az_rel Z D cy G H) (hr : G.1 r = some e0) (he : va_at D vwCl (r, az_re cy e) H1) (hz : H1.size = H.size) (ho : ∀ q : Nat, q ≠ r → H1[q]? = H[q]?) : az_rel Z D cy (az_set G r e) H1 := by
  refine ⟨hz.trans h.1, h.2.1, fun a x hx => ?_⟩
  by_cases ha : a = r
  · subst ha
    simp [az_set] at hx
    subst hx
    exact ⟨(h.2.2 _ _ hr).1, he⟩
  · simp [az_set, ha] at hx
    exact ⟨(h.2.2 a x hx).1, (h.2.2 a x hx).2.kept (ho a ha)⟩
theorem az_rel.push {Z : Nat} {D : va_G} {cy : Nat → ClassId} {G : az_H} {H H1 : Heap} {e : va_E} {n : Nat} (h : az_rel Z D cy G H) (he : va_at D vwCl (H.size, az_re cy e) H1) (hz : H1.size = H.size + 1) (ho : ∀ q : Nat, q < H.size → H1[q]? = H[q]?) : az_rel Z D cy (az_psh G e n) H1 := by
  refine ⟨by rw [hz, h.1]; rfl, Nat.le_succ_of_le h.2.1, fun a x hx => ?_⟩
  by_cases ha : a = G.2.1
  · subst ha
    simp [az_psh] at hx
    subst hx
    rw [← h.1]
    exact ⟨by rw [h.1]; exact h.2.1, he⟩
  · simp [az_psh, ha] at hx
    have h2 := h.2.2 a x hx
    exact ⟨h2.1, h2.2.kept (ho a h2.2.lt)⟩
theorem az_S.push {Z : Nat} {Hs H H1 : Heap} {locs : List Loc} (h : va_S (fun q => Z ≤ q) Hs H locs) (hz : H1.size = H.size + 1) (ho : ∀ q : Nat, q < H.size → H1[q]? = H[q]?) : va_S (fun q => Z ≤ q) Hs H1 locs :=
  ⟨Nat.le_trans h.1 (by omega), fun q h1 h2 => (ho q (Nat.lt_of_lt_of_le h1 h.1)).trans (h.2.1 q h1 h2), h.2.2⟩
/-- a world of one cell -/
theorem az_P1 {D : va_G} {q : Nat × va_E} {H : Heap} (h : va_at D vwCl q H) : va_P D vwCl [q] H := by
  intro k x hk
  cases k with
  | zero => cases hk; exact h
  | succ k => simp at hk
theorem az_in_ws {p : Nat} {w : Cond} (h : az_has p w = true) : w ∈ az_ws := by
  simp only [az_has, Bool.and_eq_true, decide_eq_true_eq] at h
  exact List.mem_filter.mpr ⟨List.mem_of_getElem? h.1, h.2⟩
theorem az_lays (ci : Nat) (h : ci < 7) : ∀ w ∈ u_ws (az_C ci).1 (az_C ci).2.1 (az_C ci).2.2, w ∈ az_ws := by
  have hc : az_cok ci = true := by
    match ci, h with
    | 0, _ => exact az_e0
    | 1, _ => exact az_e1
    | 2, _ => exact az_e2
    | 3, _ => exact az_e3
    | 4, _ => exact az_e4
    | 5, _ => exact az_e5
    | 6, _ => exact az_e6
  intro w hw
  simp only [az_cok, Bool.and_eq_true, List.all_eq_true] at hc
  obtain ⟨k, hk, rfl⟩ := List.mem_map.mp hw
  have h1 := hc.1.1 k hk
  split at h1
  · exact az_in_ws h1
  · cases h1
theorem az_clo (ci : Nat) (h : ci < 7) : vwCl[ci]? = some ((az_C ci).1, (az_C ci).2.1, (az_C ci).2.2) := by
  match ci, h with
  | 0, _ => rfl
  | 1, _ => rfl
  | 2, _ => rfl
  | 3, _ => rfl
  | 4, _ => rfl
  | 5, _ => rfl
  | 6, _ => rfl
theorem az_tok (ci : Nat) (h : ci < 7) : ∀ k, k < (az_C ci).2.2 → parseFieldDescriptor ((az_C ci).2.1 k).2.2.1 = some (az_tf ci k) := by
  match ci, h with
  | 0, _ => exact tyX0_ok
  | 1, _ => exact tyX1_ok
  | 2, _ => exact tyX2_ok
  | 3, _ => exact tyX3_ok
  | 4, _ => exact tyX4_ok
  | 5, _ => exact tyX5_ok
  | 6, _ => exact tyX6_ok
theorem az_nok (ci : Nat) (h : ci < 7) : ∀ a, a < (az_C ci).2.2 → ∀ b, b < (az_C ci).2.2 → a ≠ b → ((az_C ci).2.1 a).2.1 ≠ ((az_C ci).2.1 b).2.1 := by
  match ci, h with
  | 0, _ => exact nmX0
  | 1, _ => exact nmX1
  | 2, _ => exact nmX2
  | 3, _ => exact nmX3
  | 4, _ => exact nmX4
  | 5, _ => exact nmX5
  | 6, _ => exact nmX6
theorem az_dok (ci : Nat) (h : ci < 7) : ∀ j, j < (az_C ci).2.2 → defaultValue (az_tf ci j) = vp_V (az_df ci) j := by
  match ci, h with
  | 0, _ => decide +kernel
  | 1, _ => decide +kernel
  | 2, _ => decide +kernel
  | 3, _ => decide +kernel
  | 4, _ => decide +kernel
  | 5, _ => decide +kernel
  | 6, _ => decide +kernel
theorem az_nfok (ci : Nat) (h : ci < 7) : (az_C ci).2.2 = az_nf ci := by
  match ci, h with
  | 0, _ => rfl
  | 1, _ => rfl
  | 2, _ => rfl
  | 3, _ => rfl
  | 4, _ => rfl
  | 5, _ => rfl
  | 6, _ => rfl
/-! locals -/
def az_as (L : az_L) : List (Nat × Value) := L.zipIdx.filterMap fun q => q.1.map fun v => (q.2, v)
theorem az_as_mem {L : az_L} {q : Nat × Value} : q ∈ az_as L ↔ L[q.1]? = some (some q.2) := by
  obtain ⟨i, v⟩ := q
  simp only [az_as, List.mem_filterMap, Option.map_eq_some_iff]
  constructor
  · rintro ⟨⟨o, j⟩, h1, w, rfl, h2⟩
    cases h2
    exact (List.mk_mem_zipIdx_iff_getElem?.mp h1)
  · intro h
    exact ⟨(some v, i), List.mk_mem_zipIdx_iff_getElem?.mpr h, v, rfl, rfl⟩
def az_pl (ls : Array Slot) (n : Nat) (L : az_L) : Prop := lv_has ls n (az_as L)
theorem az_pl.at {ls : Array Slot} {n : Nat} {L : az_L} (h : az_pl ls n L) {i : Nat} {v : Value} (hi : L[i]? = some (some v)) : ls[i]? = some (.val v) := h.2.2 (i, v) (az_as_mem.mpr hi)
theorem az_kp_get {L : az_L} {i j : Nat} {w : Value} (h : (az_kp L i)[j]? = some (some w)) : L[j]? = some (some w) ∧ (j + 1 = i → w.category ≠ 2) := by
  unfold az_kp at h
  split at h
  · exact ⟨h, fun e => by omega⟩
  · rename_i i'
    split at h
    · by_cases hj : j = i'
      · subst hj
        rw [List.getElem?_set_self'] at h
        cases hl : L[j]? <;> simp [hl] at h
      · rw [List.getElem?_set_ne (Ne.symm hj)] at h
        exact ⟨h, fun e => by omega⟩
    · by_cases hj : j = i'
      · subst hj
        rw [List.getElem?_set_self'] at h
        cases hl : L[j]? <;> simp [hl] at h
      · rw [List.getElem?_set_ne (Ne.symm hj)] at h
        exact ⟨h, fun e => by omega⟩
    · rename_i h1 h2
      refine ⟨h, fun e => ?_⟩
      have : j = i' := by omega
      subst this
      cases w with
      | long x => exact absurd h (h1 x)
      | double x => exact absurd h (h2 x)
      | _ => simp [Value.category]
theorem az_pl.s1 {ls : Array Slot} {n i : Nat} {L : az_L} {v : Value} (h : lv_has ls n ((i, v) :: (az_as L).filter (fun q => !(q.1 == i) && !(q.1 + 1 == i && q.2.category == 2)))) : az_pl ls n (az_s1 L i v) := by
  refine ⟨h.1, h.2.1, fun q hq => ?_⟩
  obtain ⟨j, w⟩ := q
  have hq := az_as_mem.mp hq
  simp only [az_s1] at hq
  by_cases hj : j = i
  · subst hj
    rw [List.getElem?_set_self'] at hq
    have hw : w = v := by
      cases hl : (az_kp L j)[j]? with
      | none => simp [hl] at hq
      | some o => simp [hl] at hq; exact hq.symm
    subst hw
    exact h.2.2 _ List.mem_cons_self
  · rw [List.getElem?_set_ne (Ne.symm hj)] at hq
    obtain ⟨g1, g2⟩ := az_kp_get hq
    refine h.2.2 (j, w) (List.mem_cons_of_mem _ (List.mem_filter.mpr ⟨az_as_mem.mpr g1, ?_⟩))
    by_cases e : j + 1 = i
    · simp [hj, g2 e]
    · simp [hj, e]
theorem az_pl.s2 {ls : Array Slot} {n i : Nat} {L : az_L} {v : Value} (h : lv_has ls n ((i, v) :: (az_as L).filter (fun q => !(q.1 == i) && (!(q.1 == i + 1) && !(q.1 + 1 == i && q.2.category == 2))))) : az_pl ls n (az_s2 L i v) := by
  refine ⟨h.1, h.2.1, fun q hq => ?_⟩
  obtain ⟨j, w⟩ := q
  have hq := az_as_mem.mp hq
  simp only [az_s2] at hq
  by_cases hj : j = i
  · subst hj
    rw [List.getElem?_set_self'] at hq
    have hw : w = v := by
      cases hl : ((az_kp L j).set (j + 1) none)[j]? with
      | none => simp [hl] at hq
      | some o => simp [hl] at hq; exact hq.symm
    subst hw
    exact h.2.2 _ List.mem_cons_self
  · rw [List.getElem?_set_ne (Ne.symm hj)] at hq
    by_cases hk : j = i + 1
    · subst hk
      rw [List.getElem?_set_self'] at hq
      cases hl : (az_kp L i)[i + 1]? <;> simp [hl] at hq
    · rw [List.getElem?_set_ne (Ne.symm hk)] at hq
      obtain ⟨g1, g2⟩ := az_kp_get hq
      refine h.2.2 (j, w) (List.mem_cons_of_mem _ (List.mem_filter.mpr ⟨az_as_mem.mpr g1, ?_⟩))
      by_cases e : j + 1 = i
      · simp [hj, hk, g2 e]
      · simp [hj, hk, e]
theorem az_en_args : ∀ (vs : List Value) (i j : Nat) (v : Value), (az_en vs)[j]? = some (some v) → (i + j, v) ∈ lv_args i vs := by
  intro vs
  induction vs with
  | nil => intro i j v h; simp [az_en] at h
  | cons w vs ih =>
    intro i j v h
    by_cases hc : w.category = 2
    · have he : az_en (w :: vs) = some w :: none :: az_en vs := by
        cases w <;> first | rfl | simp [Value.category] at hc
      rw [he] at h
      simp only [lv_args, if_pos hc]
      match j, h with
      | 0, h =>
        simp at h
        subst h
        exact List.mem_cons_self
      | 1, h => simp at h
      | j + 2, h =>
        simp at h
        have := ih (i + 2) j v h
        rw [show i + (j + 2) = i + 2 + j by omega]
        exact List.mem_cons_of_mem _ this
    · have he : az_en (w :: vs) = some w :: az_en vs := by
        cases w <;> first | rfl | simp [Value.category] at hc
      rw [he] at h
      simp only [lv_args, if_neg hc]
      match j, h with
      | 0, h =>
        simp at h
        subst h
        exact List.mem_cons_self
      | j + 1, h =>
        simp at h
        have := ih (i + 1) j v h
        rw [show i + (j + 1) = i + 1 + j by omega]
        exact List.mem_cons_of_mem _ this
theorem az_en_len (vs : List Value) : (az_en vs).length = (lg_sl vs).length := by
  induction vs with
  | nil => rfl
  | cons w vs ih =>
    have h1 : lg_sl (w :: vs) = (if w.category = 2 then [.val w, .second] else [.val w]) ++ lg_sl vs := rfl
    rw [h1, List.length_append, ← ih]
    cases w <;> simp [az_en, Value.category] <;> omega
theorem az_pl.entry (vs : List Value) {n : Nat} (h : (az_en vs).length ≤ n) : az_pl ((lg_sl vs ++ List.replicate (n - (lg_sl vs).length) Slot.unset).toArray) n (az_ent n vs) := by
  have h0 := lv_entry vs (n := n) (by rw [← az_en_len]; exact h)
  refine ⟨h0.1, h0.2.1, fun q hq => ?_⟩
  obtain ⟨j, w⟩ := q
  have hq := az_as_mem.mp hq
  simp only [az_ent] at hq
  by_cases hj : j < (az_en vs).length
  · rw [List.getElem?_append_left hj] at hq
    have := az_en_args vs 0 j w hq
    rw [Nat.zero_add] at this
    exact h0.2.2 _ this
  · rw [List.getElem?_append_right (by omega)] at hq
    have := List.eq_of_mem_replicate (List.mem_of_getElem? hq)
    cases this
