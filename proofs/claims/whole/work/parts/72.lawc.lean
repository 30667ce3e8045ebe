/-! THE LAW's loop, once every kind's step stands -/
theorem sw_mem (ts : List Nat) (h : ts ≠ []) (w : Int32) : az_sw ts 0 w ∈ ts := by
  have hl : ts.getLastD 0 ∈ ts := by
    rw [List.getLastD_eq_getLast?, List.getLast?_eq_some_getLast h]
    exact List.getLast_mem h
  unfold az_sw
  split
  · exact hl
  · rename_i hz
    have hlt : (w.toInt - 0).toNat < ts.length := by omega
    rw [List.getD_eq_getElem?_getD, List.getElem?_eq_getElem hlt]
    exact List.getElem_mem hlt
/-- what every kind's place owes -/
def lw_kinds : List Nat := [22, 39, 76, 123, 140, 167, 218, 235, 262, 289, 326, 363, 390, 427, 454, 481, 508, 535, 562, 609, 626, 643, 670, 707, 724, 751, 788, 835, 882, 899, 907]
def lw_all (sc : az_S) (x m c0 s0 : Nat) : Prop := ∀ p ∈ lw_kinds, ∀ (K : az_H) (v3 : Int32), lwS x m c0 s0 K → ¬ ((v3 + 1) < 0 ∨ sc.2.1 ≤ Int32.toNatClampNeg (v3 + 1)) → ¬ ((v3 + 2) < 0 ∨ sc.2.1 ≤ Int32.toNatClampNeg (v3 + 2)) → ¬ ((v3 + 3) < 0 ∨ sc.2.1 ≤ Int32.toNatClampNeg (v3 + 3)) → ¬ ((v3 + 4) < 0 ∨ sc.2.1 ≤ Int32.toNatClampNeg (v3 + 4)) → ∃ K2, az_rn sc iL_law p [some (.ref sc.1), some (.ref x), some (.ref m), some (.int v3)] [] K = az_rn sc iL_law 907 [some (.ref sc.1), some (.ref x), some (.ref m), some (.int v3)] [] K2 ∧ lwS x m c0 s0 K2
theorem ix_n {n d L : Nat} (h : n + d < L) (hL : L ≤ 2560) : ¬ ((nI n + nI d) < 0 ∨ L ≤ Int32.toNatClampNeg (nI n + nI d)) := by
  rw [nI_add]
  rintro (z | z)
  · exact nI_nlt0 (by omega) z
  · rw [nI_clamp (by omega)] at z
    omega
theorem lw_loop {sc : az_S} {x m c0 s0 : Nat} (hL : sc.2.1 ≤ 2560) (H : lw_all sc x m c0 s0) : ∀ d n K, sc.2.1 ≤ n + 5 * d → n ≤ 2600 → lwS x m c0 s0 K → ∃ K2, az_rn sc iL_law 10 [some (.ref sc.1), some (.ref x), some (.ref m), some (.int (nI n))] [] K = some (some (.int 1), K2) ∧ lwS x m c0 s0 K2 := by
  have stop : ∀ n, n ≤ 2600 → ((Int32.ofNat sc.2.1 - 5 < nI n) ↔ sc.2.1 < n + 5) := by
    intro n hn
    by_cases h5 : 5 ≤ sc.2.1
    · have e1 : Int32.ofNat sc.2.1 - 5 = nI (sc.2.1 - 5) := by
        have e2 := pk_sub (a := sc.2.1) (b := 5) (by omega)
        exact e2
      rw [e1, nI_ltI (by omega) (by omega)]
      omega
    · have h6 : sc.2.1 = 0 ∨ sc.2.1 = 1 ∨ sc.2.1 = 2 ∨ sc.2.1 = 3 ∨ sc.2.1 = 4 := by omega
      refine ⟨fun _ => by omega, fun _ => ?_⟩
      have h7 : Int32.ofNat sc.2.1 - 5 < 0 := by
        rcases h6 with e | e | e | e | e <;> rw [e] <;> decide
      exact Int32.lt_of_lt_of_le h7 (nI_le0 (by omega))
  intro d
  induction d with
  | zero =>
    intro n K hd hn hK
    refine ⟨K, ?_, hK⟩
    rw [bL_law_10, if_pos rfl, if_pos ((stop n hn).mpr (by omega)), zr_1]
  | succ d ih =>
    intro n K hd hn hK
    by_cases hs : sc.2.1 < n + 5
    · refine ⟨K, ?_, hK⟩
      rw [bL_law_10, if_pos rfl, if_pos ((stop n hn).mpr hs), zr_1]
    · have hi0 : ¬ (nI n < 0 ∨ sc.2.1 ≤ Int32.toNatClampNeg (nI n)) := by
        rintro (z | z)
        · exact nI_nlt0 (by omega) z
        · rw [nI_clamp (by omega)] at z
          omega
      obtain ⟨K2, e2, hK2⟩ := H _ (sw_mem lw_kinds (by decide) ((sc.2.2 (Int32.toNatClampNeg (nI n))) &&& 31)) K (nI n) hK (ix_n (d := 1) (by omega) hL) (ix_n (d := 2) (by omega) hL) (ix_n (d := 3) (by omega) hL) (ix_n (d := 4) (by omega) hL)
      obtain ⟨K3, e3, hK3⟩ := ih (n + 5) K2 (by omega) (by omega) hK2
      refine ⟨K3, ?_, hK3⟩
      rw [bL_law_10, if_pos rfl, if_neg (fun z => hs ((stop n hn).mp z)), if_pos ⟨rfl, hi0⟩, bL_law_21]
      refine e2.trans ?_
      rw [bL_law_907]
      have e5 : nI n + 5 = nI (n + 5) := nI_add n 5
      rw [e5]
      exact e3
