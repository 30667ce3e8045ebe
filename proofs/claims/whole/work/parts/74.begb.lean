section BEGB
variable {sc : az_S}
def L5 (Z : Nat) : List va_E := (List.range 23).map (fun j => clC Z (fun _ => 0) (fun _ _ => 0) (fun _ _ => none) j)
def L6 (m : Nat) : List va_E := (List.range 25).map (fun j => mdC m (fun _ => 0) (fun _ _ => 0) j)
theorem lh_p' {f : Nat → Option va_E} {Z : Nat} {cs : List va_E} {s i ci j : Nat} {v : Value} {k : az_H → az_R} (cs' : List va_E) (h : lhok cs i ci j = true) (h' : lhst cs i ci j v = cs') : az_pt (lh f Z cs s) (Z + i) ci j v k = k (lh f Z cs' s) := by
  rw [lh_p h, h']
set_option maxHeartbeats 8000000 in
set_option maxRecDepth 100000 in
theorem bg5 (f : Nat → Option va_E) (Z s : Nat) : az_ca sc iX5_init [.ref (Z + 0)] (lh f Z [.inr (5, az_df 5)] s) = some (none, lh f Z (L5 Z) (s + 4174)) := by
  rw [eX5_init]
  repeat
    (first | rw [lh_a (by decide)] | rw [lh_r (by decide)] | rw [lh_o] | rw [lh_p (by rfl)] | rw [eX3_init] | rw [eX2_init] | rw [eX1_init] | rw [bV_s]
     try simp only [List.nil_append, List.cons_append, List.length_cons, List.length_nil, lhst, List.getElem?_cons_zero, List.getElem?_cons_succ, List.set_cons_zero, List.set_cons_succ, Nat.reduceAdd, az_df, az_nf])
  rfl
set_option maxHeartbeats 8000000 in
set_option maxRecDepth 100000 in
theorem bg6 (f : Nat → Option va_E) (Z s : Nat) : az_ca sc iX6_init [.ref (Z + 0)] (lh f Z [.inr (6, az_df 6)] s) = some (none, lh f Z (L6 Z) (s + 9643)) := by
  rw [eX6_init]
  repeat
    (first | rw [lh_a (by decide)] | rw [lh_r (by decide)] | rw [lh_o] | rw [lh_p (by rfl)] | rw [eX3_init] | rw [eX2_init] | rw [eX1_init] | rw [bV_s]
     try simp only [List.nil_append, List.cons_append, List.length_cons, List.length_nil, lhst, List.getElem?_cons_zero, List.getElem?_cons_succ, List.set_cons_zero, List.set_cons_succ, Nat.reduceAdd, az_df, az_nf])
  rfl
/-- the heap behind both constructors -/
theorem lh_new (f : Nat → Option va_E) (Z : Nat) (cs : List va_E) (s : Nat) : lh f Z cs s = lh (lh f Z cs s).1 (Z + cs.length) [] s := by
  refine Prod.ext (funext fun q => ?_) rfl
  show (lh f Z cs s).1 q = if Z + cs.length ≤ q then ([] : List va_E)[q - (Z + cs.length)]? else (lh f Z cs s).1 q
  by_cases h : Z + cs.length ≤ q
  · rw [if_pos h]
    show (if Z ≤ q then cs[q - Z]? else f q) = _
    rw [if_pos (by omega), List.getElem?_eq_none (by omega)]
    simp
  · rw [if_neg h]
theorem lh_end (Z s s2 : Nat) : lh (lh (fun _ => none) Z (L5 Z) s).1 (Z + 23) (L6 (Z + 23)) s2 = clG (mdG (fun _ => none, Z + 48, s2) (Z + 23) (fun _ => 0) (fun _ _ => 0)) Z (fun _ => 0) (fun _ _ => 0) (fun _ _ => none) := by
  refine Prod.ext (funext fun q => ?_) rfl
  show (if Z + 23 ≤ q then (L6 (Z + 23))[q - (Z + 23)]? else (if Z ≤ q then (L5 Z)[q - Z]? else none)) = _
  by_cases h1 : Z + 23 ≤ q
  · rw [if_pos h1, cl_out _ _ _ _ (by omega)]
    unfold L6
    rw [List.getElem?_map]
    by_cases h2 : q ≤ Z + 23 + 24
    · obtain ⟨d, rfl⟩ : ∃ d, q = Z + 23 + d := ⟨q - (Z + 23), by omega⟩
      rw [md_at _ _ _ _ (show d ≤ 24 by omega), List.getElem?_range (by omega), Nat.add_sub_cancel_left]
      rfl
    · rw [md_out _ _ _ (by omega), List.getElem?_eq_none (by simp; omega)]
      rfl
  · rw [if_neg h1]
    by_cases h3 : Z ≤ q
    · obtain ⟨d, rfl⟩ : ∃ d, q = Z + d := ⟨q - Z, by omega⟩
      rw [if_pos h3, cl_at _ _ _ _ _ (show d ≤ 22 by omega)]
      unfold L5
      rw [List.getElem?_map, List.getElem?_range (by omega), Nat.add_sub_cancel_left]
      rfl
    · rw [if_neg h3, cl_out _ _ _ _ (by omega), md_out _ _ _ (by omega)]
end BEGB
