/-! an order's checks and counts -/
theorem lp_exO {α σ : Type} (F : Nat → σ → α) (p : Nat → Bool) (R E : α) (n : Nat) (hs : ∀ i s, i < n → (p i = true → F i s = R) ∧ (p i = false → ∃ s', F i s = F (i + 1) s')) (he : ∀ s, F n s = E) (s : σ) : F 0 s = if exB p n = true then R else E := by
  have walk : ∀ d i s, i + d = n → (∀ j, j < i → p j = false) → F i s = if exB p n = true then R else E := by
    intro d
    induction d with
    | zero =>
      intro i s hi hp
      have e : i = n := by omega
      subst e
      rw [he, if_neg]
      rw [exB_none hp]
      decide
    | succ d ih =>
      intro i s hi hp
      cases h : p i with
      | true =>
        rw [(hs i s (by omega)).1 h, if_pos (exB_iff.mpr ⟨i, by omega, h⟩)]
      | false =>
        obtain ⟨s', e⟩ := (hs i s (by omega)).2 h
        rw [e]
        refine ih (i + 1) s' (by omega) (fun j hj => ?_)
        by_cases e2 : j = i
        · subst e2; exact h
        · exact hp j (by omega)
  exact walk n 0 s (by omega) (fun j hj => absurd hj (Nat.not_lt_zero _))
section ORDC
variable {sc : az_S} {G : az_H} {m : Nat} {V : Nat → Int32} {A : Nat → Nat → Int32}
theorem s_isRightOrder (v : Int64) {n : Nat} (hn : n ≤ 6) : az_ca sc iX5_isRightOrder [.int (nI n), .long v] G = some (some (.int (if ng1 v n = true then 0 else 1)), G) := by
  have inner : ∀ a, a < n → az_rn sc iX5_isRightOrder 14 [some (.int (nI n)), some (.long v), none, some (.int (nI a)), some (.int (nI 0))] [] G = if ng2 v n a = true then some (some (.int 0), G) else az_rn sc iX5_isRightOrder 2 [some (.int (nI n)), some (.long v), none, some (.int (nI (a + 1))), some (.int (nI n))] [] G := by
    intro a ha
    refine lp_ex (fun b => az_rn sc iX5_isRightOrder 14 [some (.int (nI n)), some (.long v), none, some (.int (nI a)), some (.int (nI b))] [] G) (fun b => ob v a b && ng3 v n a b) (some (some (.int 0), G)) _ n (fun b hb => ?_) ?_
    · rw [bX5_isRightOrder_14, if_neg (nI_ge hb (by omega)), s_hasBit v (by omega) (by omega), bI_s, nI_1]
      by_cases h1 : ob v a b = true
      · rw [if_pos h1, if_neg (by decide), s_hasAllOf v hn ha hb, bI_s]
        by_cases h2 : ng3 v n a b = true
        · rw [if_pos h2, if_neg (by decide), zr_0, if_pos (by simp [h1, h2])]
        · rw [if_neg h2, if_pos (by decide), if_neg (by simp [h2])]
      · rw [if_neg h1, if_pos rfl, if_neg (by simp [h1])]
    · rw [bX5_isRightOrder_14, if_pos (nI_le (Nat.le_refl _) (by omega)), nI_1]
  rw [eX5_isRightOrder]
  refine (lp_exO (fun a (o : Option Value) => az_rn sc iX5_isRightOrder 2 [some (.int (nI n)), some (.long v), none, some (.int (nI a)), o] [] G) (fun a => !ob v a a || ng2 v n a) (some (some (.int 0), G)) (some (some (.int 1), G)) n (fun a o ha => ?_) (fun o => ?_) none).trans ?_
  · have e0 : az_rn sc iX5_isRightOrder 2 [some (.int (nI n)), some (.long v), none, some (.int (nI a)), o] [] G = if ob v a a = true then az_rn sc iX5_isRightOrder 14 [some (.int (nI n)), some (.long v), none, some (.int (nI a)), some (.int (nI 0))] [] G else some (some (.int 0), G) := by
      rw [bX5_isRightOrder_2, if_neg (nI_ge ha (by omega)), s_hasBit v (by omega) (by omega), bI_s]
      by_cases h1 : ob v a a = true
      · rw [if_pos h1, if_pos (by decide), if_pos h1]
        rfl
      · rw [if_neg h1, if_neg (by decide), if_neg h1, zr_0]
    refine ⟨fun hp => ?_, fun hp => ⟨some (.int (nI n)), ?_⟩⟩
    · show az_rn sc iX5_isRightOrder 2 _ [] G = _
      rw [e0]
      by_cases h1 : ob v a a = true
      · rw [if_pos h1, inner a ha, if_pos]
        simpa [h1] using hp
      · rw [if_neg h1]
    · show az_rn sc iX5_isRightOrder 2 _ [] G = _
      have h1 : ob v a a = true ∧ ng2 v n a = false := by simpa using hp
      rw [e0, if_pos h1.1, inner a ha, if_neg (by rw [h1.2]; decide)]
  · show az_rn sc iX5_isRightOrder 2 _ [] G = _
    rw [bX5_isRightOrder_2, if_pos (nI_le (Nat.le_refl _) (by omega)), zr_1]
  · unfold ng1
    split <;> rfl
theorem m_isOrder (v : Int64) {n : Nat} (hn : n ≤ 6) : az_ca sc iX6_isOrder [.int (nI n), .long v] G = some (some (.int (if ng1 v n = true then 0 else 1)), G) := by
  have inner : ∀ a b, a < n → b < n → az_rn sc iX6_isOrder 19 [some (.int (nI n)), some (.long v), none, some (.int (nI a)), some (.int (nI b)), some (.int (nI 0))] [] G = if (ob v a b && ng3 v n a b) = true then some (some (.int 0), G) else az_rn sc iX6_isOrder 14 [some (.int (nI n)), some (.long v), none, some (.int (nI a)), some (.int (nI (b + 1))), some (.int (nI n))] [] G := by
    intro a b ha hb
    have e1 : exB (fun c => ob v a b && (ob v b c && !ob v a c)) n = (ob v a b && ng3 v n a b) := by
      cases ob v a b with
      | true => simp [ng3]
      | false =>
        simp only [Bool.false_and]
        exact exB_none (fun _ _ => rfl)
    rw [← e1]
    refine lp_ex (fun c => az_rn sc iX6_isOrder 19 [some (.int (nI n)), some (.long v), none, some (.int (nI a)), some (.int (nI b)), some (.int (nI c))] [] G) (fun c => ob v a b && (ob v b c && !ob v a c)) (some (some (.int 0), G)) _ n (fun c hc => ?_) ?_
    · rw [bX6_isOrder_19, if_neg (nI_ge hc (by omega)), m_stands v (by omega) (by omega), bI_s, nI_1]
      by_cases h1 : ob v a b = true
      · rw [if_pos h1, if_neg (by decide), m_stands v (by omega) (by omega), bI_s]
        by_cases h2 : ob v b c = true
        · rw [if_pos h2, if_neg (by decide), m_stands v (by omega) (by omega), bI_s]
          by_cases h3 : ob v a c = true
          · rw [if_pos h3, if_pos (by decide), if_neg (by simp [h3])]
          · rw [if_neg h3, if_neg (by decide), zr_0, if_pos (by simp [h1, h2, h3])]
        · rw [if_neg h2, if_pos rfl, if_neg (by simp [h2])]
      · rw [if_neg h1, if_pos rfl, if_neg (by simp [h1])]
    · rw [bX6_isOrder_19, if_pos (nI_le (Nat.le_refl _) (by omega)), nI_1]
  have mid : ∀ a (o : Option Value), a < n → ∃ o' : Option Value, az_rn sc iX6_isOrder 14 [some (.int (nI n)), some (.long v), none, some (.int (nI a)), some (.int (nI 0)), o] [] G = if ng2 v n a = true then some (some (.int 0), G) else az_rn sc iX6_isOrder 2 [some (.int (nI n)), some (.long v), none, some (.int (nI (a + 1))), some (.int (nI n)), o'] [] G := by
    intro a o ha
    have e0 : ∀ o : Option Value, az_rn sc iX6_isOrder 14 [some (.int (nI n)), some (.long v), none, some (.int (nI a)), some (.int (nI 0)), o] [] G = az_rn sc iX6_isOrder 14 [some (.int (nI n)), some (.long v), none, some (.int (nI a)), some (.int (nI 0)), some (.int (nI n))] [] G := by
      intro o
      rw [bX6_isOrder_14, bX6_isOrder_14, if_neg (nI_ge (show 0 < n by omega) (by omega)), if_neg (nI_ge (show 0 < n by omega) (by omega))]
    refine ⟨some (.int (nI n)), ?_⟩
    rw [e0]
    refine lp_exO (fun b (_ : Unit) => az_rn sc iX6_isOrder 14 [some (.int (nI n)), some (.long v), none, some (.int (nI a)), some (.int (nI b)), some (.int (nI n))] [] G) (fun b => ob v a b && ng3 v n a b) (some (some (.int 0), G)) _ n (fun b _ hb => ?_) (fun _ => ?_) ()
    · have e1 : az_rn sc iX6_isOrder 14 [some (.int (nI n)), some (.long v), none, some (.int (nI a)), some (.int (nI b)), some (.int (nI n))] [] G = az_rn sc iX6_isOrder 19 [some (.int (nI n)), some (.long v), none, some (.int (nI a)), some (.int (nI b)), some (.int (nI 0))] [] G := by
        rw [bX6_isOrder_14, if_neg (nI_ge hb (by omega))]
        rfl
      refine ⟨fun hp => ?_, fun hp => ⟨(), ?_⟩⟩
      · rw [e1, inner a b ha hb, if_pos hp]
      · rw [e1, inner a b ha hb, if_neg (by rw [hp]; decide)]
    · rw [bX6_isOrder_14, if_pos (nI_le (Nat.le_refl _) (by omega)), nI_1]
  rw [eX6_isOrder]
  refine (lp_exO (fun a (o : Option Value × Option Value) => az_rn sc iX6_isOrder 2 [some (.int (nI n)), some (.long v), none, some (.int (nI a)), o.1, o.2] [] G) (fun a => !ob v a a || ng2 v n a) (some (some (.int 0), G)) (some (some (.int 1), G)) n (fun a o ha => ?_) (fun o => ?_) (none, none)).trans ?_
  · obtain ⟨o', em⟩ := mid a o.2 ha
    have e0 : az_rn sc iX6_isOrder 2 [some (.int (nI n)), some (.long v), none, some (.int (nI a)), o.1, o.2] [] G = if ob v a a = true then az_rn sc iX6_isOrder 14 [some (.int (nI n)), some (.long v), none, some (.int (nI a)), some (.int (nI 0)), o.2] [] G else some (some (.int 0), G) := by
      rw [bX6_isOrder_2, if_neg (nI_ge ha (by omega)), m_stands v (by omega) (by omega), bI_s]
      by_cases h1 : ob v a a = true
      · rw [if_pos h1, if_pos (by decide), if_pos h1]
        rfl
      · rw [if_neg h1, if_neg (by decide), if_neg h1, zr_0]
    refine ⟨fun hp => ?_, fun hp => ⟨(some (.int (nI n)), o'), ?_⟩⟩
    · show az_rn sc iX6_isOrder 2 _ [] G = _
      rw [e0]
      by_cases h1 : ob v a a = true
      · rw [if_pos h1, em, if_pos]
        simpa [h1] using hp
      · rw [if_neg h1]
    · show az_rn sc iX6_isOrder 2 _ [] G = _
      have h1 : ob v a a = true ∧ ng2 v n a = false := by simpa using hp
      rw [e0, if_pos h1.1, em, if_neg (by rw [h1.2]; decide)]
  · show az_rn sc iX6_isOrder 2 _ [] G = _
    rw [bX6_isOrder_2, if_pos (nI_le (Nat.le_refl _) (by omega)), zr_1]
  · unfold ng1
    split <;> rfl
/-- how many -/
def nb (v : Int64) (n : Nat) : Nat := smB (fun a => ctB (ob v a) n) n
theorem nI_a0 (c : Nat) : nI c + 0 = nI (c + 0) := nI_add c 0
theorem s_bitsOfOrder (v : Int64) {n : Nat} (hn : n ≤ 6) : az_ca sc iX5_bitsOfOrder [.int (nI n), .long v] G = some (some (.int (nI (nb v n))), G) := by
  rw [eX5_bitsOfOrder]
  refine (lp_ctO (fun a c (o : Option Value) => az_rn sc iX5_bitsOfOrder 4 [some (.int (nI n)), some (.long v), none, some (.int (nI c)), some (.int (nI a)), o] [] G) (fun a => ctB (ob v a) n) (fun c => some (some (.int (nI c)), G)) n 0 (smB (fun a => ctB (ob v a) n)) rfl (fun _ _ => rfl) (fun a c o ha => ⟨some (.int (nI n)), ?_⟩) (fun c o => ?_) none).trans ?_
  · rw [bX5_bitsOfOrder_4, if_neg (nI_ge ha (by omega))]
    refine lp_ct (fun b c => az_rn sc iX5_bitsOfOrder 9 [some (.int (nI n)), some (.long v), none, some (.int (nI c)), some (.int (nI a)), some (.int (nI b))] [] G) (ob v a) (fun c => az_rn sc iX5_bitsOfOrder 4 [some (.int (nI n)), some (.long v), none, some (.int (nI c)), some (.int (nI (a + 1))), some (.int (nI n))] [] G) n c (fun b c hb => ?_) (fun c => ?_)
    · rw [bX5_bitsOfOrder_9, if_neg (nI_ge hb (by omega)), s_hasBit v (by omega) (by omega), bI_s]
      by_cases h1 : ob v a b = true
      · rw [if_pos h1, if_neg (by decide), if_pos h1, nI_1, nI_1]
      · rw [if_neg h1, if_pos rfl, if_neg h1, nI_1, nI_a0]
    · rw [bX5_bitsOfOrder_9, if_pos (nI_le (Nat.le_refl _) (by omega)), nI_1]
  · rw [bX5_bitsOfOrder_4, if_pos (nI_le (Nat.le_refl _) (by omega))]
  · rw [Nat.zero_add]
    rfl
theorem m_orderN (v : Int64) {n : Nat} (hn : n ≤ 6) : az_rn sc iX6_order 11 [some (.ref m), some (.int (nI n)), some (.long v), none, some (.int (nI 0)), some (.int (nI 0)), none, none] [] G = az_rn sc iX6_order 11 [some (.ref m), some (.int (nI n)), some (.long v), none, some (.int (nI (nb v n))), some (.int (nI n)), none, none] [] G := by
  refine (lp_ctO (fun a c (o : Option Value) => az_rn sc iX6_order 11 [some (.ref m), some (.int (nI n)), some (.long v), none, some (.int (nI c)), some (.int (nI a)), o, none] [] G) (fun a => ctB (ob v a) n) (fun c => az_rn sc iX6_order 11 [some (.ref m), some (.int (nI n)), some (.long v), none, some (.int (nI c)), some (.int (nI n)), none, none] [] G) n 0 (smB (fun a => ctB (ob v a) n)) rfl (fun _ _ => rfl) (fun a c o ha => ⟨some (.int (nI n)), ?_⟩) (fun c o => ?_) none).trans ?_
  · rw [bX6_order_11, if_neg (nI_ge ha (by omega))]
    refine lp_ct (fun b c => az_rn sc iX6_order 16 [some (.ref m), some (.int (nI n)), some (.long v), none, some (.int (nI c)), some (.int (nI a)), some (.int (nI b)), none] [] G) (ob v a) (fun c => az_rn sc iX6_order 11 [some (.ref m), some (.int (nI n)), some (.long v), none, some (.int (nI c)), some (.int (nI (a + 1))), some (.int (nI n)), none] [] G) n c (fun b c hb => ?_) (fun c => ?_)
    · rw [bX6_order_16, if_neg (nI_ge hb (by omega)), m_stands v (by omega) (by omega), bI_s]
      by_cases h1 : ob v a b = true
      · rw [if_pos h1, if_neg (by decide), if_pos h1, nI_1, nI_1]
      · rw [if_neg h1, if_pos rfl, if_neg h1, nI_1, nI_a0]
    · rw [bX6_order_16, if_pos (nI_le (Nat.le_refl _) (by omega)), nI_1]
  · rw [bX6_order_11, bX6_order_11, if_pos (nI_le (Nat.le_refl _) (by omega))]
  · rw [Nat.zero_add]
    rfl
end ORDC
