/-! THE START: a heap as a list of cells from Z on -/
def lh (f : Nat → Option va_E) (Z : Nat) (cs : List va_E) (s : Nat) : az_H := (fun q => if Z ≤ q then cs[q - Z]? else f q, Z + cs.length, s)
def lhok (cs : List va_E) (i ci j : Nat) : Bool := match cs[i]? with
  | some (.inr (c, fs)) => c == ci && decide (j < fs.length)
  | _ => false
def lhst (cs : List va_E) (i ci j : Nat) (v : Value) : List va_E := match cs[i]? with
  | some (.inr (_, fs)) => cs.set i (.inr (ci, fs.set j v))
  | _ => cs
theorem lh_psh (f : Nat → Option va_E) (Z : Nat) (cs : List va_E) (s : Nat) (e : va_E) (n : Nat) : az_psh (lh f Z cs s) e n = lh f Z (cs ++ [e]) (s + n) := by
  refine Prod.ext (funext fun q => ?_) (Prod.ext ?_ rfl)
  · show (if q = Z + cs.length then some e else if Z ≤ q then cs[q - Z]? else f q) = if Z ≤ q then (cs ++ [e])[q - Z]? else f q
    by_cases h : q = Z + cs.length
    · rw [if_pos h, if_pos (by omega), show q - Z = cs.length by omega]
      simp
    · rw [if_neg h]
      by_cases h2 : Z ≤ q
      · rw [if_pos h2, if_pos h2]
        by_cases h3 : q - Z < cs.length
        · rw [List.getElem?_append_left h3]
        · rw [List.getElem?_eq_none (by omega), List.getElem?_eq_none (by simp; omega)]
      · rw [if_neg h2, if_neg h2]
  · show Z + cs.length + 1 = Z + (cs ++ [e]).length
    simp
    omega
theorem lh_a {f : Nat → Option va_E} {Z : Nat} {cs : List va_E} {s kd : Nat} {n : Int32} {k : Nat → az_H → az_R} (h : ¬ n < 0 ∧ n.toNatClampNeg ≤ 100000) : az_nA (lh f Z cs s) kd n k = k (Z + cs.length) (lh f Z (cs ++ [.inl (kd, n.toNatClampNeg, .inl (fun _ => 0))]) (s + n.toNatClampNeg)) := by
  unfold az_nA
  rw [if_pos h, lh_psh]
  rfl
theorem lh_r {f : Nat → Option va_E} {Z : Nat} {cs : List va_E} {s kd : Nat} {n : Int32} {k : Nat → az_H → az_R} (h : ¬ n < 0 ∧ n.toNatClampNeg ≤ 100000) : az_nR (lh f Z cs s) kd n k = k (Z + cs.length) (lh f Z (cs ++ [.inl (kd, n.toNatClampNeg, .inr (.inr (.inr (.inr (fun _ => none)))))]) (s + n.toNatClampNeg)) := by
  unfold az_nR
  rw [if_pos h, lh_psh]
  rfl
theorem lh_o {f : Nat → Option va_E} {Z : Nat} {cs : List va_E} {s ci : Nat} {k : Nat → az_H → az_R} : az_nO (lh f Z cs s) ci k = k (Z + cs.length) (lh f Z (cs ++ [.inr (ci, az_df ci)]) (s + az_nf ci)) := by
  unfold az_nO
  rw [lh_psh]
  rfl
theorem lh_p {f : Nat → Option va_E} {Z : Nat} {cs : List va_E} {s i ci j : Nat} {v : Value} {k : az_H → az_R} (h : lhok cs i ci j = true) : az_pt (lh f Z cs s) (Z + i) ci j v k = k (lh f Z (lhst cs i ci j v) s) := by
  unfold lhok at h
  split at h
  · rename_i c fs hc
    have h2 : c = ci ∧ j < fs.length := by simpa using h
    obtain ⟨rfl, hj⟩ := h2
    have hi : i < cs.length := by
      by_cases z : i < cs.length
      · exact z
      · rw [List.getElem?_eq_none (by omega)] at hc
        cases hc
    have hG : (lh f Z cs s).1 (Z + i) = some (.inr (c, fs)) := by
      show (if Z ≤ Z + i then cs[Z + i - Z]? else f (Z + i)) = _
      rw [if_pos (by omega), Nat.add_sub_cancel_left]
      exact hc
    rw [pt_s hG hj]
    refine congrArg k ?_
    unfold lhst
    rw [hc]
    refine Prod.ext (funext fun q => ?_) (Prod.ext ?_ rfl)
    · show (if q = Z + i then _ else if Z ≤ q then cs[q - Z]? else f q) = if Z ≤ q then (cs.set i _)[q - Z]? else f q
      by_cases h1 : q = Z + i
      · rw [if_pos h1, if_pos (by omega), show q - Z = i by omega, List.getElem?_set_self hi]
      · rw [if_neg h1]
        by_cases h2 : Z ≤ q
        · rw [if_pos h2, if_pos h2, List.getElem?_set_ne (by omega)]
        · rw [if_neg h2, if_neg h2]
    · show Z + cs.length = Z + (cs.set i _).length
      simp
  · cases h
