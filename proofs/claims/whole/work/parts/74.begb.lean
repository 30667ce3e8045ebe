section BEGB
variable {sc : az_S}
def L5 (Z : Nat) : List va_E := (List.range 23).map (fun j => clC Z (fun _ => 0) (fun _ _ => 0) (fun _ _ => none) j)
def L6 (m : Nat) : List va_E := (List.range 25).map (fun j => mdC m (fun _ => 0) (fun _ _ => 0) j)
theorem lh_p' {Z : Nat} {cs : List va_E} {s i ci j : Nat} {v : Value} {k : az_H → az_R} (cs' : List va_E) (h : lhok cs i ci j = true) (h' : lhst cs i ci j v = cs') : az_pt (lh Z cs s) (Z + i) ci j v k = k (lh Z cs' s) := by
  rw [lh_p h, h']
set_option maxHeartbeats 8000000 in
set_option maxRecDepth 100000 in
theorem bg5 (Z s : Nat) : az_ca sc iX5_init [.ref (Z + 0)] (lh Z [.inr (5, az_df 5)] s) = some (none, lh Z (L5 Z) (s + 4174)) := by
  rw [eX5_init]
  repeat
    (first | rw [lh_a (by decide)] | rw [lh_r (by decide)] | rw [lh_o] | rw [lh_p (by rfl)] | rw [eX3_init] | rw [eX2_init] | rw [eX1_init] | rw [bV_s]
     try simp only [List.nil_append, List.cons_append, List.length_cons, List.length_nil, lhst, List.getElem?_cons_zero, List.getElem?_cons_succ, List.set_cons_zero, List.set_cons_succ, Nat.reduceAdd, az_df, az_nf])
  rfl
end BEGB
