/-! THE RUN without fuel, and its equations -/
noncomputable def az_rn (sc : az_S) (y k : Nat) (L : az_L) (st : List Value) (G : az_H) : az_R :=
  @dite _ (∃ r n, az_ev sc n y k L st G = some r) (Classical.propDecidable _) (fun h => some h.choose) (fun _ => none)
theorem az_rn_of {sc : az_S} {y k : Nat} {L : az_L} {st : List Value} {G : az_H} {n : Nat} {r : Option Value × az_H} (h : az_ev sc n y k L st G = some r) : az_rn sc y k L st G = some r := by
  have hex : ∃ r n, az_ev sc n y k L st G = some r := ⟨r, n, h⟩
  unfold az_rn
  rw [dif_pos hex]
  obtain ⟨n', h'⟩ := hex.choose_spec
  have e1 := az_ev_m sc y k L st G n (max n n') (Nat.le_max_left _ _) _ h
  have e2 := az_ev_m sc y k L st G n' (max n n') (Nat.le_max_right _ _) _ h'
  exact e2.symm.trans e1
theorem az_rn_ct (sc : az_S) (y k : Nat) (L : az_L) (st : List Value) (G : az_H) : az_ct (az_rn sc y k L st G) (fun n => az_ev sc n y k L st G) := by
  intro r h
  unfold az_rn at h
  by_cases hex : ∃ r n, az_ev sc n y k L st G = some r
  · rw [dif_pos hex] at h
    obtain ⟨n, hn⟩ := hex.choose_spec
    exact ⟨n, hn.trans h⟩
  · rw [dif_neg hex] at h
    cases h
/-- a call -/
noncomputable def az_ca (sc : az_S) (a : Nat) (vs : List Value) (G : az_H) : az_R := if (az_en vs).length ≤ az_nL a then az_rn sc a 0 (az_ent (az_nL a) vs) [] G else none
theorem az_ext {a b : az_R} (h1 : az_le a b) (h2 : az_le b a) : a = b := by
  cases ha : a with
  | some r => exact (h1 r ha).symm
  | none =>
    cases hb : b with
    | some r => exact absurd (h2 r hb) (by rw [ha]; intro h; cases h)
    | none => rfl
theorem az_rn_eq (sc : az_S) (y k : Nat) (L : az_L) (st : List Value) (G : az_H) : az_rn sc y k L st G = match (az_pg y)[k]? with
    | none => none
    | some i => az_st sc (az_tw y) (az_ca sc) (az_rn sc y) i k L st G := by
  refine az_ext (fun r h => ?_) (fun r h => ?_)
  · obtain ⟨n, hn⟩ := az_rn_ct sc y k L st G r h
    cases n with
    | zero => cases hn
    | succ n =>
      dsimp only at hn
      rw [az_ev] at hn
      cases hi : (az_pg y)[k]? with
      | none => rw [hi] at hn; cases hn
      | some i =>
        rw [hi] at hn
        refine az_st_m sc _ (fun a vs G => ?_) (fun k L st G => ?_) i k L st G r hn
        · intro r hr
          unfold az_ca
          split at hr
          · rename_i hl
            rw [if_pos hl]
            exact az_rn_of hr
          · cases hr
        · exact fun r hr => az_rn_of hr
  · cases hi : (az_pg y)[k]? with
    | none => rw [hi] at h; cases h
    | some i =>
      rw [hi] at h
      obtain ⟨n, hn⟩ := az_st_c sc (az_tw y) (C := az_ca sc) (C' := fun n a vs G => if (az_en vs).length ≤ az_nL a then az_ev sc n a 0 (az_ent (az_nL a) vs) [] G else none) (K := az_rn sc y) (K' := fun n k L st G => az_ev sc n y k L st G) (fun a vs G => by
        unfold az_ca
        by_cases hl : (az_en vs).length ≤ az_nL a
        · simp only [if_pos hl]
          exact az_rn_ct _ _ _ _ _ _
        · simp only [if_neg hl]
          exact az_ct_n) (fun a vs G => by
        by_cases hl : (az_en vs).length ≤ az_nL a
        · simp only [if_pos hl]
          exact az_ev_m _ _ _ _ _ _
        · simp only [if_neg hl]
          exact fun _ _ _ => az_le_n) (fun k L st G => az_rn_ct _ _ _ _ _ _) (fun k L st G => az_ev_m _ _ _ _ _ _) i k L st G r h
      refine az_rn_of (n := n + 1) ?_
      rw [az_ev, hi]
      exact hn
/-- so many steps at once, as far as the next of the places cs -/
noncomputable def az_ex (sc : az_S) (cs : List Nat) (y : Nat) : Nat → Nat → az_L → List Value → az_H → az_R
  | 0, k, L, st, G => az_rn sc y k L st G
  | n + 1, k, L, st, G => match (az_pg y)[k]? with
    | none => none
    | some i => az_st sc (az_tw y) (az_ca sc) (fun k L st G => cond (cs.contains k) (az_rn sc y k L st G) (az_ex sc cs y n k L st G)) i k L st G
theorem az_rn_ex (sc : az_S) (cs : List Nat) (y : Nat) : ∀ (n k : Nat) (L : az_L) (st : List Value) (G : az_H), az_rn sc y k L st G = az_ex sc cs y n k L st G := by
  intro n
  induction n with
  | zero => intro k L st G; rfl
  | succ n ih =>
    intro k L st G
    rw [az_rn_eq, az_ex]
    have e : (fun k L st G => cond (cs.contains k) (az_rn sc y k L st G) (az_ex sc cs y n k L st G)) = az_rn sc y := by
      funext k L st G
      rw [← ih]
      cases cs.contains k <;> rfl
    rw [e]
/-- a call whose arguments fit -/
theorem az_ca_eq {sc : az_S} {a : Nat} {vs : List Value} {G : az_H} {L : az_L} (h1 : (az_en vs).length ≤ az_nL a) (h2 : az_ent (az_nL a) vs = L) : az_ca sc a vs G = az_rn sc a 0 L [] G := by
  unfold az_ca
  rw [if_pos h1, h2]
