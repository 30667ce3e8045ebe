/-! az_claim out of the kinds' steps -/
def S00 : wS := (0, fun _ => (0, 0, 0, fun _ => 0, fun _ => 0, fun _ => 0), 0, fun _ => (0, 0, fun _ => 0), 0, 0, fun _ => 0)
theorem lw_start (Z : Nat) : lwS Z (Z + 23) (Z + 48) 13864 (clG (mdG (fun _ => none, Z + 48, 13864) (Z + 23) (fun _ => 0) (fun _ _ => 0)) Z (fun _ => 0) (fun _ _ => 0) (fun _ _ => none)) := by
  refine ⟨_, _, _, _, _, _, S00, fun _ => 0, fun _ => 0, rfl, ?_, ?_, ?_, rfl, rfl⟩
  · refine ⟨rfl, rfl, rfl, rfl, ?_, fun a ha => absurd ha (Nat.not_lt_zero _), fun i hi => absurd hi (Nat.not_lt_zero _), fun i j hi => absurd hi (Nat.not_lt_zero _), fun i hi => absurd hi (Nat.not_lt_zero _), fun i j hi => absurd hi (Nat.not_lt_zero _)⟩
    show Z + 23 + 24 < Z + 48
    omega
  · exact ⟨⟨rfl, Nat.zero_le _, fun i hi => absurd hi (Nat.not_lt_zero _)⟩, rfl, rfl, rfl, fun i hi => absurd hi (Nat.not_lt_zero _), fun i hi => absurd hi (Nat.not_lt_zero _)⟩
  · exact ⟨Nat.zero_le _, Nat.zero_le _, Nat.zero_le _, Nat.zero_le _, fun i hi => absurd hi (Nat.not_lt_zero _), fun i hi => absurd hi (Nat.not_lt_zero _)⟩
theorem az_claim_of (H : ∀ (sc : az_S) (Z : Nat), lw_all sc Z (Z + 23) (Z + 48) 13864) : az_claim := by
  intro Z b L xs hL hb
  have e0 : ((fun _ => none, Z, 0) : az_H) = lh (fun _ => none) Z [] 0 := by
    refine Prod.ext (funext fun q => ?_) rfl
    show none = if Z ≤ q then ([] : List va_E)[q - Z]? else none
    split <;> simp
  have e1 : az_rn (b, L, xs) iL_law 0 [some (.ref b), none, none, none] [] (fun _ => none, Z, 0) = az_rn (b, L, xs) iL_law 10 [some (.ref b), some (.ref Z), some (.ref (Z + 23)), some (.int (nI 0))] [] (clG (mdG (fun _ => none, Z + 48, 13864) (Z + 23) (fun _ => 0) (fun _ _ => 0)) Z (fun _ => 0) (fun _ _ => 0) (fun _ _ => none)) := by
    refine ((az_ca_eq (L := [some (.ref b), none, none, none]) (Nat.le_of_ble_eq_true rfl) rfl).symm.trans (eL_law (b, L, xs) b (fun _ => none, Z, 0))).trans ?_
    rw [e0, lh_o]
    have b5 := bg5 (sc := (b, L, xs)) (fun _ => none) Z 14
    refine (congrArg (fun z => az_bV z _) b5).trans ?_
    rw [bV_s, lh_new, lh_o]
    have b6 := bg6 (sc := (b, L, xs)) (lh (fun _ => none) Z (L5 Z) 4188).1 (Z + 23) 4221
    refine (congrArg (fun z => az_bV z _) b6).trans ?_
    rw [bV_s, lh_end]
    rfl
  obtain ⟨K2, e2, G, V, A, R, Vm, Am, S, ti, ci, rfl, h1, h2, h3, h4, h5⟩ := lw_loop (sc := (b, L, xs)) hL (H (b, L, xs) Z) L 0 _ (by show L ≤ 0 + 5 * L; omega) (by omega) (lw_start Z)
  refine ⟨_, e1.trans e2, ?_, ?_⟩
  · have := h3.1
    have := h3.2.1
    rw [h4]
    omega
  · have := h3.1
    have := h3.2.1
    rw [h5]
    omega
