/-! THE TWO FIXED BLOCKS: the model (25 cells from m on) and the class (23 cells from x on), laid over a heap; V: the numbers, A: the rows -/
theorem up_s {α : Type} (f : Nat → α) (k : Nat) (v : α) : va_up f k v k = v := by simp [va_up]
theorem up_n {α : Type} (f : Nat → α) {k j : Nat} (v : α) (h : j ≠ k) : va_up f k v j = f j := by simp [va_up, h]
theorem up_up {α : Type} (f : Nat → α) (k : Nat) (v w : α) : va_up (va_up f k v) k w = va_up f k w := by
  funext j; by_cases h : j = k <;> simp [va_up, h]
theorem up_id {α : Type} (f : Nat → α) (k : Nat) : va_up f k (f k) = f := by
  funext j; by_cases h : j = k <;> simp [va_up, h]
theorem up_cm {α : Type} (f : Nat → α) {k j : Nat} (v w : α) (h : k ≠ j) : va_up (va_up f k v) j w = va_up (va_up f j w) k v := by
  funext i; by_cases h1 : i = k <;> by_cases h2 : i = j <;> simp_all [va_up]
def mdO (m : Nat) (V : Nat → Int32) : List Value := [.int (V 0), .ref (m + 1), .ref (m + 2), .ref (m + 3), .ref (m + 4), .ref (m + 5), .ref (m + 6), .ref (m + 7), .ref (m + 8), .ref (m + 9), .int (V 1), .ref (m + 10), .ref (m + 11), .ref (m + 12), .int (V 2), .ref (m + 13), .ref (m + 14), .ref (m + 15), .ref (m + 16), .ref (m + 17), .ref (m + 18), .int (V 3), .ref (m + 19), .ref (m + 20), .ref (m + 21), .int (V 4), .int (V 5), .int (V 6), .ref (m + 22), .ref (m + 23), .int (V 7), .ref (m + 24), .int (V 8)]
def mdl (j : Nat) : Nat := match j with
  | 1 => 8
  | 2 => 8
  | 3 => 8
  | 4 => 192
  | 5 => 192
  | 6 => 4608
  | 7 => 4
  | 8 => 24
  | 9 => 24
  | 10 => 25
  | 11 => 25
  | 12 => 600
  | 13 => 576
  | 14 => 576
  | 15 => 25
  | 16 => 6
  | 17 => 6
  | 18 => 6
  | 19 => 384
  | 20 => 2304
  | 21 => 6
  | 22 => 6
  | 23 => 6
  | 24 => 24
  | _ => 0
def mdC (m : Nat) (V : Nat → Int32) (A : Nat → Nat → Int32) (j : Nat) : va_E := match j with
  | 0 => .inr (6, mdO m V)
  | 3 => .inl (1, 8, .inl (A 3))
  | j => .inl (0, mdl j, .inl (A j))
def mdG (G : az_H) (m : Nat) (V : Nat → Int32) (A : Nat → Nat → Int32) : az_H := (fun q => if m ≤ q ∧ q ≤ m + 24 then some (mdC m V A (q - m)) else G.1 q, G.2)
theorem md_at (G : az_H) (m : Nat) (V : Nat → Int32) (A : Nat → Nat → Int32) {j : Nat} (h : j ≤ 24) : (mdG G m V A).1 (m + j) = some (mdC m V A j) := by
  have h1 : m ≤ m + j ∧ m + j ≤ m + 24 := by omega
  simp only [mdG]
  rw [if_pos h1, Nat.add_sub_cancel_left]
theorem md_out (G : az_H) {m : Nat} (V : Nat → Int32) (A : Nat → Nat → Int32) {q : Nat} (h : q < m ∨ m + 24 < q) : (mdG G m V A).1 q = G.1 q := by
  simp only [mdG]
  rw [if_neg (by omega)]
theorem md_0 (G : az_H) (m : Nat) (V : Nat → Int32) (A : Nat → Nat → Int32) : (mdG G m V A).1 m = some (.inr (6, mdO m V)) := md_at G m V A (j := 0) (by omega)
theorem md_2 (G : az_H) (m : Nat) (V : Nat → Int32) (A : Nat → Nat → Int32) : (mdG G m V A).2 = G.2 := rfl
/-- laid again -/
theorem md_set {G : az_H} {m : Nat} {V V' : Nat → Int32} {A A' : Nat → Nat → Int32} {j : Nat} {e : va_E} (hj : j ≤ 24) (he : mdC m V' A' j = e) (ho : ∀ i, i ≤ 24 → i ≠ j → mdC m V' A' i = mdC m V A i) : az_set (mdG G m V A) (m + j) e = mdG G m V' A' := by
  unfold az_set mdG
  congr 1
  funext q
  by_cases h : q = m + j
  · subst h
    rw [if_pos rfl, if_pos (by omega), Nat.add_sub_cancel_left, he]
  · rw [if_neg h]
    by_cases h2 : m ≤ q ∧ q ≤ m + 24
    · dsimp only
      rw [if_pos h2, if_pos h2, ho (q - m) (by omega) (by omega)]
    · dsimp only
      rw [if_neg h2, if_neg h2]
theorem md_setV {G : az_H} {m : Nat} {V V' : Nat → Int32} {A : Nat → Nat → Int32} {e : va_E} (he : .inr (6, mdO m V') = e) : az_set (mdG G m V A) m e = mdG G m V' A := by
  refine md_set (j := 0) (by omega) he fun i hi h => ?_
  match i, hi, h with
  | 0, _, h => exact absurd rfl h
  | i + 1, _, _ =>
    unfold mdC
    split <;> first | rfl | (rename_i h; cases h)
theorem md_setA {G : az_H} {m : Nat} {V : Nat → Int32} {A : Nat → Nat → Int32} {j : Nat} {e : va_E} {f : Nat → Int32} (hj : j ≤ 24) (he : mdC m V (va_up A j f) j = e) (h0 : j ≠ 0) : az_set (mdG G m V A) (m + j) e = mdG G m V (va_up A j f) := by
  refine md_set hj he fun i hi h => ?_
  unfold mdC
  split <;> first | rfl | (rw [up_n _ _ h]) | (simp only [up_n A f h])
section MD
variable {G : az_H} {m : Nat} {V : Nat → Int32} {A : Nat → Nat → Int32}
theorem md_rc (k : az_R) : az_rc (mdG G m V A) m 6 k = k := rc_s (md_0 G m V A)
theorem md_i0 (k : Int32 → az_R) : az_fI (mdG G m V A) m 6 0 k = k (V 0) := fI_s (md_0 G m V A) rfl
theorem md_p0 (x : Int32) (k : az_H → az_R) : az_pt (mdG G m V A) m 6 0 (.int x) k = k (mdG G m (va_up V 0 x) A) := (pt_s (md_0 G m V A) (Nat.le_of_ble_eq_true rfl)).trans (congrArg k (md_setV (by simp [mdO, va_up])))
theorem md_r1 (k : Nat → az_R) : az_fR (mdG G m V A) m 6 1 k = k (m + 1) := fR_s (md_0 G m V A) rfl
theorem md_r2 (k : Nat → az_R) : az_fR (mdG G m V A) m 6 2 k = k (m + 2) := fR_s (md_0 G m V A) rfl
theorem md_r3 (k : Nat → az_R) : az_fR (mdG G m V A) m 6 3 k = k (m + 3) := fR_s (md_0 G m V A) rfl
theorem md_r4 (k : Nat → az_R) : az_fR (mdG G m V A) m 6 4 k = k (m + 4) := fR_s (md_0 G m V A) rfl
theorem md_r5 (k : Nat → az_R) : az_fR (mdG G m V A) m 6 5 k = k (m + 5) := fR_s (md_0 G m V A) rfl
theorem md_r6 (k : Nat → az_R) : az_fR (mdG G m V A) m 6 6 k = k (m + 6) := fR_s (md_0 G m V A) rfl
theorem md_r7 (k : Nat → az_R) : az_fR (mdG G m V A) m 6 7 k = k (m + 7) := fR_s (md_0 G m V A) rfl
theorem md_r8 (k : Nat → az_R) : az_fR (mdG G m V A) m 6 8 k = k (m + 8) := fR_s (md_0 G m V A) rfl
theorem md_r9 (k : Nat → az_R) : az_fR (mdG G m V A) m 6 9 k = k (m + 9) := fR_s (md_0 G m V A) rfl
theorem md_i10 (k : Int32 → az_R) : az_fI (mdG G m V A) m 6 10 k = k (V 1) := fI_s (md_0 G m V A) rfl
theorem md_p10 (x : Int32) (k : az_H → az_R) : az_pt (mdG G m V A) m 6 10 (.int x) k = k (mdG G m (va_up V 1 x) A) := (pt_s (md_0 G m V A) (Nat.le_of_ble_eq_true rfl)).trans (congrArg k (md_setV (by simp [mdO, va_up])))
theorem md_r11 (k : Nat → az_R) : az_fR (mdG G m V A) m 6 11 k = k (m + 10) := fR_s (md_0 G m V A) rfl
theorem md_r12 (k : Nat → az_R) : az_fR (mdG G m V A) m 6 12 k = k (m + 11) := fR_s (md_0 G m V A) rfl
theorem md_r13 (k : Nat → az_R) : az_fR (mdG G m V A) m 6 13 k = k (m + 12) := fR_s (md_0 G m V A) rfl
theorem md_i14 (k : Int32 → az_R) : az_fI (mdG G m V A) m 6 14 k = k (V 2) := fI_s (md_0 G m V A) rfl
theorem md_p14 (x : Int32) (k : az_H → az_R) : az_pt (mdG G m V A) m 6 14 (.int x) k = k (mdG G m (va_up V 2 x) A) := (pt_s (md_0 G m V A) (Nat.le_of_ble_eq_true rfl)).trans (congrArg k (md_setV (by simp [mdO, va_up])))
theorem md_r15 (k : Nat → az_R) : az_fR (mdG G m V A) m 6 15 k = k (m + 13) := fR_s (md_0 G m V A) rfl
theorem md_r16 (k : Nat → az_R) : az_fR (mdG G m V A) m 6 16 k = k (m + 14) := fR_s (md_0 G m V A) rfl
theorem md_r17 (k : Nat → az_R) : az_fR (mdG G m V A) m 6 17 k = k (m + 15) := fR_s (md_0 G m V A) rfl
theorem md_r18 (k : Nat → az_R) : az_fR (mdG G m V A) m 6 18 k = k (m + 16) := fR_s (md_0 G m V A) rfl
theorem md_r19 (k : Nat → az_R) : az_fR (mdG G m V A) m 6 19 k = k (m + 17) := fR_s (md_0 G m V A) rfl
theorem md_r20 (k : Nat → az_R) : az_fR (mdG G m V A) m 6 20 k = k (m + 18) := fR_s (md_0 G m V A) rfl
theorem md_i21 (k : Int32 → az_R) : az_fI (mdG G m V A) m 6 21 k = k (V 3) := fI_s (md_0 G m V A) rfl
theorem md_p21 (x : Int32) (k : az_H → az_R) : az_pt (mdG G m V A) m 6 21 (.int x) k = k (mdG G m (va_up V 3 x) A) := (pt_s (md_0 G m V A) (Nat.le_of_ble_eq_true rfl)).trans (congrArg k (md_setV (by simp [mdO, va_up])))
theorem md_r22 (k : Nat → az_R) : az_fR (mdG G m V A) m 6 22 k = k (m + 19) := fR_s (md_0 G m V A) rfl
theorem md_r23 (k : Nat → az_R) : az_fR (mdG G m V A) m 6 23 k = k (m + 20) := fR_s (md_0 G m V A) rfl
theorem md_r24 (k : Nat → az_R) : az_fR (mdG G m V A) m 6 24 k = k (m + 21) := fR_s (md_0 G m V A) rfl
theorem md_i25 (k : Int32 → az_R) : az_fI (mdG G m V A) m 6 25 k = k (V 4) := fI_s (md_0 G m V A) rfl
theorem md_p25 (x : Int32) (k : az_H → az_R) : az_pt (mdG G m V A) m 6 25 (.int x) k = k (mdG G m (va_up V 4 x) A) := (pt_s (md_0 G m V A) (Nat.le_of_ble_eq_true rfl)).trans (congrArg k (md_setV (by simp [mdO, va_up])))
theorem md_i26 (k : Int32 → az_R) : az_fI (mdG G m V A) m 6 26 k = k (V 5) := fI_s (md_0 G m V A) rfl
theorem md_p26 (x : Int32) (k : az_H → az_R) : az_pt (mdG G m V A) m 6 26 (.int x) k = k (mdG G m (va_up V 5 x) A) := (pt_s (md_0 G m V A) (Nat.le_of_ble_eq_true rfl)).trans (congrArg k (md_setV (by simp [mdO, va_up])))
theorem md_i27 (k : Int32 → az_R) : az_fI (mdG G m V A) m 6 27 k = k (V 6) := fI_s (md_0 G m V A) rfl
theorem md_p27 (x : Int32) (k : az_H → az_R) : az_pt (mdG G m V A) m 6 27 (.int x) k = k (mdG G m (va_up V 6 x) A) := (pt_s (md_0 G m V A) (Nat.le_of_ble_eq_true rfl)).trans (congrArg k (md_setV (by simp [mdO, va_up])))
theorem md_r28 (k : Nat → az_R) : az_fR (mdG G m V A) m 6 28 k = k (m + 22) := fR_s (md_0 G m V A) rfl
theorem md_r29 (k : Nat → az_R) : az_fR (mdG G m V A) m 6 29 k = k (m + 23) := fR_s (md_0 G m V A) rfl
theorem md_i30 (k : Int32 → az_R) : az_fI (mdG G m V A) m 6 30 k = k (V 7) := fI_s (md_0 G m V A) rfl
theorem md_p30 (x : Int32) (k : az_H → az_R) : az_pt (mdG G m V A) m 6 30 (.int x) k = k (mdG G m (va_up V 7 x) A) := (pt_s (md_0 G m V A) (Nat.le_of_ble_eq_true rfl)).trans (congrArg k (md_setV (by simp [mdO, va_up])))
theorem md_r31 (k : Nat → az_R) : az_fR (mdG G m V A) m 6 31 k = k (m + 24) := fR_s (md_0 G m V A) rfl
theorem md_i32 (k : Int32 → az_R) : az_fI (mdG G m V A) m 6 32 k = k (V 8) := fI_s (md_0 G m V A) rfl
theorem md_p32 (x : Int32) (k : az_H → az_R) : az_pt (mdG G m V A) m 6 32 (.int x) k = k (mdG G m (va_up V 8 x) A) := (pt_s (md_0 G m V A) (Nat.le_of_ble_eq_true rfl)).trans (congrArg k (md_setV (by simp [mdO, va_up])))
theorem md_c1 : (mdG G m V A).1 (m + 1) = some (.inl (0, 8, .inl (A 1))) := md_at G m V A (j := 1) (by omega)
theorem md_a1 {i : Nat} (hi : i < 8) (k : Int32 → az_R) : az_aI (mdG G m V A) 0 (m + 1) (nI i) k = k (A 1 i) := aI_s md_c1 hi (by omega)
theorem md_u1 (f : Nat → Int32) : az_set (mdG G m V A) (m + 1) (.inl (0, 8, .inl f)) = mdG G m V (va_up A 1 f) := md_setA (by omega) (by simp [mdC, mdl, va_up]) (by omega)
theorem md_s1 {i : Nat} (hi : i < 8) (x : Int32) (k : az_H → az_R) : az_sI (mdG G m V A) 0 (m + 1) (nI i) x k = k (mdG G m V (va_up A 1 (upd (A 1) i x))) := (sI_s md_c1 hi (by omega)).trans (congrArg k (md_u1 _))
theorem md_c2 : (mdG G m V A).1 (m + 2) = some (.inl (0, 8, .inl (A 2))) := md_at G m V A (j := 2) (by omega)
theorem md_a2 {i : Nat} (hi : i < 8) (k : Int32 → az_R) : az_aI (mdG G m V A) 0 (m + 2) (nI i) k = k (A 2 i) := aI_s md_c2 hi (by omega)
theorem md_u2 (f : Nat → Int32) : az_set (mdG G m V A) (m + 2) (.inl (0, 8, .inl f)) = mdG G m V (va_up A 2 f) := md_setA (by omega) (by simp [mdC, mdl, va_up]) (by omega)
theorem md_s2 {i : Nat} (hi : i < 8) (x : Int32) (k : az_H → az_R) : az_sI (mdG G m V A) 0 (m + 2) (nI i) x k = k (mdG G m V (va_up A 2 (upd (A 2) i x))) := (sI_s md_c2 hi (by omega)).trans (congrArg k (md_u2 _))
theorem md_c3 : (mdG G m V A).1 (m + 3) = some (.inl (1, 8, .inl (A 3))) := md_at G m V A (j := 3) (by omega)
theorem md_a3 {i : Nat} (hi : i < 8) (k : Int32 → az_R) : az_aI (mdG G m V A) 1 (m + 3) (nI i) k = k (A 3 i) := aI_s md_c3 hi (by omega)
theorem md_u3 (f : Nat → Int32) : az_set (mdG G m V A) (m + 3) (.inl (1, 8, .inl f)) = mdG G m V (va_up A 3 f) := md_setA (by omega) (by simp [mdC, mdl, va_up]) (by omega)
theorem md_s3 {i : Nat} (hi : i < 8) (x : Int32) (k : az_H → az_R) : az_sI (mdG G m V A) 1 (m + 3) (nI i) x k = k (mdG G m V (va_up A 3 (upd (A 3) i x))) := (sI_s md_c3 hi (by omega)).trans (congrArg k (md_u3 _))
theorem md_c4 : (mdG G m V A).1 (m + 4) = some (.inl (0, 192, .inl (A 4))) := md_at G m V A (j := 4) (by omega)
theorem md_a4 {i : Nat} (hi : i < 192) (k : Int32 → az_R) : az_aI (mdG G m V A) 0 (m + 4) (nI i) k = k (A 4 i) := aI_s md_c4 hi (by omega)
theorem md_u4 (f : Nat → Int32) : az_set (mdG G m V A) (m + 4) (.inl (0, 192, .inl f)) = mdG G m V (va_up A 4 f) := md_setA (by omega) (by simp [mdC, mdl, va_up]) (by omega)
theorem md_s4 {i : Nat} (hi : i < 192) (x : Int32) (k : az_H → az_R) : az_sI (mdG G m V A) 0 (m + 4) (nI i) x k = k (mdG G m V (va_up A 4 (upd (A 4) i x))) := (sI_s md_c4 hi (by omega)).trans (congrArg k (md_u4 _))
theorem md_c5 : (mdG G m V A).1 (m + 5) = some (.inl (0, 192, .inl (A 5))) := md_at G m V A (j := 5) (by omega)
theorem md_a5 {i : Nat} (hi : i < 192) (k : Int32 → az_R) : az_aI (mdG G m V A) 0 (m + 5) (nI i) k = k (A 5 i) := aI_s md_c5 hi (by omega)
theorem md_u5 (f : Nat → Int32) : az_set (mdG G m V A) (m + 5) (.inl (0, 192, .inl f)) = mdG G m V (va_up A 5 f) := md_setA (by omega) (by simp [mdC, mdl, va_up]) (by omega)
theorem md_s5 {i : Nat} (hi : i < 192) (x : Int32) (k : az_H → az_R) : az_sI (mdG G m V A) 0 (m + 5) (nI i) x k = k (mdG G m V (va_up A 5 (upd (A 5) i x))) := (sI_s md_c5 hi (by omega)).trans (congrArg k (md_u5 _))
theorem md_c6 : (mdG G m V A).1 (m + 6) = some (.inl (0, 4608, .inl (A 6))) := md_at G m V A (j := 6) (by omega)
theorem md_a6 {i : Nat} (hi : i < 4608) (k : Int32 → az_R) : az_aI (mdG G m V A) 0 (m + 6) (nI i) k = k (A 6 i) := aI_s md_c6 hi (by omega)
theorem md_u6 (f : Nat → Int32) : az_set (mdG G m V A) (m + 6) (.inl (0, 4608, .inl f)) = mdG G m V (va_up A 6 f) := md_setA (by omega) (by simp [mdC, mdl, va_up]) (by omega)
theorem md_s6 {i : Nat} (hi : i < 4608) (x : Int32) (k : az_H → az_R) : az_sI (mdG G m V A) 0 (m + 6) (nI i) x k = k (mdG G m V (va_up A 6 (upd (A 6) i x))) := (sI_s md_c6 hi (by omega)).trans (congrArg k (md_u6 _))
theorem md_c7 : (mdG G m V A).1 (m + 7) = some (.inl (0, 4, .inl (A 7))) := md_at G m V A (j := 7) (by omega)
theorem md_a7 {i : Nat} (hi : i < 4) (k : Int32 → az_R) : az_aI (mdG G m V A) 0 (m + 7) (nI i) k = k (A 7 i) := aI_s md_c7 hi (by omega)
theorem md_u7 (f : Nat → Int32) : az_set (mdG G m V A) (m + 7) (.inl (0, 4, .inl f)) = mdG G m V (va_up A 7 f) := md_setA (by omega) (by simp [mdC, mdl, va_up]) (by omega)
theorem md_s7 {i : Nat} (hi : i < 4) (x : Int32) (k : az_H → az_R) : az_sI (mdG G m V A) 0 (m + 7) (nI i) x k = k (mdG G m V (va_up A 7 (upd (A 7) i x))) := (sI_s md_c7 hi (by omega)).trans (congrArg k (md_u7 _))
theorem md_c8 : (mdG G m V A).1 (m + 8) = some (.inl (0, 24, .inl (A 8))) := md_at G m V A (j := 8) (by omega)
theorem md_a8 {i : Nat} (hi : i < 24) (k : Int32 → az_R) : az_aI (mdG G m V A) 0 (m + 8) (nI i) k = k (A 8 i) := aI_s md_c8 hi (by omega)
theorem md_u8 (f : Nat → Int32) : az_set (mdG G m V A) (m + 8) (.inl (0, 24, .inl f)) = mdG G m V (va_up A 8 f) := md_setA (by omega) (by simp [mdC, mdl, va_up]) (by omega)
theorem md_s8 {i : Nat} (hi : i < 24) (x : Int32) (k : az_H → az_R) : az_sI (mdG G m V A) 0 (m + 8) (nI i) x k = k (mdG G m V (va_up A 8 (upd (A 8) i x))) := (sI_s md_c8 hi (by omega)).trans (congrArg k (md_u8 _))
theorem md_c9 : (mdG G m V A).1 (m + 9) = some (.inl (0, 24, .inl (A 9))) := md_at G m V A (j := 9) (by omega)
theorem md_a9 {i : Nat} (hi : i < 24) (k : Int32 → az_R) : az_aI (mdG G m V A) 0 (m + 9) (nI i) k = k (A 9 i) := aI_s md_c9 hi (by omega)
theorem md_u9 (f : Nat → Int32) : az_set (mdG G m V A) (m + 9) (.inl (0, 24, .inl f)) = mdG G m V (va_up A 9 f) := md_setA (by omega) (by simp [mdC, mdl, va_up]) (by omega)
theorem md_s9 {i : Nat} (hi : i < 24) (x : Int32) (k : az_H → az_R) : az_sI (mdG G m V A) 0 (m + 9) (nI i) x k = k (mdG G m V (va_up A 9 (upd (A 9) i x))) := (sI_s md_c9 hi (by omega)).trans (congrArg k (md_u9 _))
theorem md_c10 : (mdG G m V A).1 (m + 10) = some (.inl (0, 25, .inl (A 10))) := md_at G m V A (j := 10) (by omega)
theorem md_a10 {i : Nat} (hi : i < 25) (k : Int32 → az_R) : az_aI (mdG G m V A) 0 (m + 10) (nI i) k = k (A 10 i) := aI_s md_c10 hi (by omega)
theorem md_u10 (f : Nat → Int32) : az_set (mdG G m V A) (m + 10) (.inl (0, 25, .inl f)) = mdG G m V (va_up A 10 f) := md_setA (by omega) (by simp [mdC, mdl, va_up]) (by omega)
theorem md_s10 {i : Nat} (hi : i < 25) (x : Int32) (k : az_H → az_R) : az_sI (mdG G m V A) 0 (m + 10) (nI i) x k = k (mdG G m V (va_up A 10 (upd (A 10) i x))) := (sI_s md_c10 hi (by omega)).trans (congrArg k (md_u10 _))
theorem md_c11 : (mdG G m V A).1 (m + 11) = some (.inl (0, 25, .inl (A 11))) := md_at G m V A (j := 11) (by omega)
theorem md_a11 {i : Nat} (hi : i < 25) (k : Int32 → az_R) : az_aI (mdG G m V A) 0 (m + 11) (nI i) k = k (A 11 i) := aI_s md_c11 hi (by omega)
theorem md_u11 (f : Nat → Int32) : az_set (mdG G m V A) (m + 11) (.inl (0, 25, .inl f)) = mdG G m V (va_up A 11 f) := md_setA (by omega) (by simp [mdC, mdl, va_up]) (by omega)
theorem md_s11 {i : Nat} (hi : i < 25) (x : Int32) (k : az_H → az_R) : az_sI (mdG G m V A) 0 (m + 11) (nI i) x k = k (mdG G m V (va_up A 11 (upd (A 11) i x))) := (sI_s md_c11 hi (by omega)).trans (congrArg k (md_u11 _))
theorem md_c12 : (mdG G m V A).1 (m + 12) = some (.inl (0, 600, .inl (A 12))) := md_at G m V A (j := 12) (by omega)
theorem md_a12 {i : Nat} (hi : i < 600) (k : Int32 → az_R) : az_aI (mdG G m V A) 0 (m + 12) (nI i) k = k (A 12 i) := aI_s md_c12 hi (by omega)
theorem md_u12 (f : Nat → Int32) : az_set (mdG G m V A) (m + 12) (.inl (0, 600, .inl f)) = mdG G m V (va_up A 12 f) := md_setA (by omega) (by simp [mdC, mdl, va_up]) (by omega)
theorem md_s12 {i : Nat} (hi : i < 600) (x : Int32) (k : az_H → az_R) : az_sI (mdG G m V A) 0 (m + 12) (nI i) x k = k (mdG G m V (va_up A 12 (upd (A 12) i x))) := (sI_s md_c12 hi (by omega)).trans (congrArg k (md_u12 _))
theorem md_c13 : (mdG G m V A).1 (m + 13) = some (.inl (0, 576, .inl (A 13))) := md_at G m V A (j := 13) (by omega)
theorem md_a13 {i : Nat} (hi : i < 576) (k : Int32 → az_R) : az_aI (mdG G m V A) 0 (m + 13) (nI i) k = k (A 13 i) := aI_s md_c13 hi (by omega)
theorem md_u13 (f : Nat → Int32) : az_set (mdG G m V A) (m + 13) (.inl (0, 576, .inl f)) = mdG G m V (va_up A 13 f) := md_setA (by omega) (by simp [mdC, mdl, va_up]) (by omega)
theorem md_s13 {i : Nat} (hi : i < 576) (x : Int32) (k : az_H → az_R) : az_sI (mdG G m V A) 0 (m + 13) (nI i) x k = k (mdG G m V (va_up A 13 (upd (A 13) i x))) := (sI_s md_c13 hi (by omega)).trans (congrArg k (md_u13 _))
theorem md_c14 : (mdG G m V A).1 (m + 14) = some (.inl (0, 576, .inl (A 14))) := md_at G m V A (j := 14) (by omega)
theorem md_a14 {i : Nat} (hi : i < 576) (k : Int32 → az_R) : az_aI (mdG G m V A) 0 (m + 14) (nI i) k = k (A 14 i) := aI_s md_c14 hi (by omega)
theorem md_u14 (f : Nat → Int32) : az_set (mdG G m V A) (m + 14) (.inl (0, 576, .inl f)) = mdG G m V (va_up A 14 f) := md_setA (by omega) (by simp [mdC, mdl, va_up]) (by omega)
theorem md_s14 {i : Nat} (hi : i < 576) (x : Int32) (k : az_H → az_R) : az_sI (mdG G m V A) 0 (m + 14) (nI i) x k = k (mdG G m V (va_up A 14 (upd (A 14) i x))) := (sI_s md_c14 hi (by omega)).trans (congrArg k (md_u14 _))
theorem md_c15 : (mdG G m V A).1 (m + 15) = some (.inl (0, 25, .inl (A 15))) := md_at G m V A (j := 15) (by omega)
theorem md_a15 {i : Nat} (hi : i < 25) (k : Int32 → az_R) : az_aI (mdG G m V A) 0 (m + 15) (nI i) k = k (A 15 i) := aI_s md_c15 hi (by omega)
theorem md_u15 (f : Nat → Int32) : az_set (mdG G m V A) (m + 15) (.inl (0, 25, .inl f)) = mdG G m V (va_up A 15 f) := md_setA (by omega) (by simp [mdC, mdl, va_up]) (by omega)
theorem md_s15 {i : Nat} (hi : i < 25) (x : Int32) (k : az_H → az_R) : az_sI (mdG G m V A) 0 (m + 15) (nI i) x k = k (mdG G m V (va_up A 15 (upd (A 15) i x))) := (sI_s md_c15 hi (by omega)).trans (congrArg k (md_u15 _))
theorem md_c16 : (mdG G m V A).1 (m + 16) = some (.inl (0, 6, .inl (A 16))) := md_at G m V A (j := 16) (by omega)
theorem md_a16 {i : Nat} (hi : i < 6) (k : Int32 → az_R) : az_aI (mdG G m V A) 0 (m + 16) (nI i) k = k (A 16 i) := aI_s md_c16 hi (by omega)
theorem md_u16 (f : Nat → Int32) : az_set (mdG G m V A) (m + 16) (.inl (0, 6, .inl f)) = mdG G m V (va_up A 16 f) := md_setA (by omega) (by simp [mdC, mdl, va_up]) (by omega)
theorem md_s16 {i : Nat} (hi : i < 6) (x : Int32) (k : az_H → az_R) : az_sI (mdG G m V A) 0 (m + 16) (nI i) x k = k (mdG G m V (va_up A 16 (upd (A 16) i x))) := (sI_s md_c16 hi (by omega)).trans (congrArg k (md_u16 _))
theorem md_c17 : (mdG G m V A).1 (m + 17) = some (.inl (0, 6, .inl (A 17))) := md_at G m V A (j := 17) (by omega)
theorem md_a17 {i : Nat} (hi : i < 6) (k : Int32 → az_R) : az_aI (mdG G m V A) 0 (m + 17) (nI i) k = k (A 17 i) := aI_s md_c17 hi (by omega)
theorem md_u17 (f : Nat → Int32) : az_set (mdG G m V A) (m + 17) (.inl (0, 6, .inl f)) = mdG G m V (va_up A 17 f) := md_setA (by omega) (by simp [mdC, mdl, va_up]) (by omega)
theorem md_s17 {i : Nat} (hi : i < 6) (x : Int32) (k : az_H → az_R) : az_sI (mdG G m V A) 0 (m + 17) (nI i) x k = k (mdG G m V (va_up A 17 (upd (A 17) i x))) := (sI_s md_c17 hi (by omega)).trans (congrArg k (md_u17 _))
theorem md_c18 : (mdG G m V A).1 (m + 18) = some (.inl (0, 6, .inl (A 18))) := md_at G m V A (j := 18) (by omega)
theorem md_a18 {i : Nat} (hi : i < 6) (k : Int32 → az_R) : az_aI (mdG G m V A) 0 (m + 18) (nI i) k = k (A 18 i) := aI_s md_c18 hi (by omega)
theorem md_u18 (f : Nat → Int32) : az_set (mdG G m V A) (m + 18) (.inl (0, 6, .inl f)) = mdG G m V (va_up A 18 f) := md_setA (by omega) (by simp [mdC, mdl, va_up]) (by omega)
theorem md_s18 {i : Nat} (hi : i < 6) (x : Int32) (k : az_H → az_R) : az_sI (mdG G m V A) 0 (m + 18) (nI i) x k = k (mdG G m V (va_up A 18 (upd (A 18) i x))) := (sI_s md_c18 hi (by omega)).trans (congrArg k (md_u18 _))
theorem md_c19 : (mdG G m V A).1 (m + 19) = some (.inl (0, 384, .inl (A 19))) := md_at G m V A (j := 19) (by omega)
theorem md_a19 {i : Nat} (hi : i < 384) (k : Int32 → az_R) : az_aI (mdG G m V A) 0 (m + 19) (nI i) k = k (A 19 i) := aI_s md_c19 hi (by omega)
theorem md_u19 (f : Nat → Int32) : az_set (mdG G m V A) (m + 19) (.inl (0, 384, .inl f)) = mdG G m V (va_up A 19 f) := md_setA (by omega) (by simp [mdC, mdl, va_up]) (by omega)
theorem md_s19 {i : Nat} (hi : i < 384) (x : Int32) (k : az_H → az_R) : az_sI (mdG G m V A) 0 (m + 19) (nI i) x k = k (mdG G m V (va_up A 19 (upd (A 19) i x))) := (sI_s md_c19 hi (by omega)).trans (congrArg k (md_u19 _))
theorem md_c20 : (mdG G m V A).1 (m + 20) = some (.inl (0, 2304, .inl (A 20))) := md_at G m V A (j := 20) (by omega)
theorem md_a20 {i : Nat} (hi : i < 2304) (k : Int32 → az_R) : az_aI (mdG G m V A) 0 (m + 20) (nI i) k = k (A 20 i) := aI_s md_c20 hi (by omega)
theorem md_u20 (f : Nat → Int32) : az_set (mdG G m V A) (m + 20) (.inl (0, 2304, .inl f)) = mdG G m V (va_up A 20 f) := md_setA (by omega) (by simp [mdC, mdl, va_up]) (by omega)
theorem md_s20 {i : Nat} (hi : i < 2304) (x : Int32) (k : az_H → az_R) : az_sI (mdG G m V A) 0 (m + 20) (nI i) x k = k (mdG G m V (va_up A 20 (upd (A 20) i x))) := (sI_s md_c20 hi (by omega)).trans (congrArg k (md_u20 _))
theorem md_c21 : (mdG G m V A).1 (m + 21) = some (.inl (0, 6, .inl (A 21))) := md_at G m V A (j := 21) (by omega)
theorem md_a21 {i : Nat} (hi : i < 6) (k : Int32 → az_R) : az_aI (mdG G m V A) 0 (m + 21) (nI i) k = k (A 21 i) := aI_s md_c21 hi (by omega)
theorem md_u21 (f : Nat → Int32) : az_set (mdG G m V A) (m + 21) (.inl (0, 6, .inl f)) = mdG G m V (va_up A 21 f) := md_setA (by omega) (by simp [mdC, mdl, va_up]) (by omega)
theorem md_s21 {i : Nat} (hi : i < 6) (x : Int32) (k : az_H → az_R) : az_sI (mdG G m V A) 0 (m + 21) (nI i) x k = k (mdG G m V (va_up A 21 (upd (A 21) i x))) := (sI_s md_c21 hi (by omega)).trans (congrArg k (md_u21 _))
theorem md_c22 : (mdG G m V A).1 (m + 22) = some (.inl (0, 6, .inl (A 22))) := md_at G m V A (j := 22) (by omega)
theorem md_a22 {i : Nat} (hi : i < 6) (k : Int32 → az_R) : az_aI (mdG G m V A) 0 (m + 22) (nI i) k = k (A 22 i) := aI_s md_c22 hi (by omega)
theorem md_u22 (f : Nat → Int32) : az_set (mdG G m V A) (m + 22) (.inl (0, 6, .inl f)) = mdG G m V (va_up A 22 f) := md_setA (by omega) (by simp [mdC, mdl, va_up]) (by omega)
theorem md_s22 {i : Nat} (hi : i < 6) (x : Int32) (k : az_H → az_R) : az_sI (mdG G m V A) 0 (m + 22) (nI i) x k = k (mdG G m V (va_up A 22 (upd (A 22) i x))) := (sI_s md_c22 hi (by omega)).trans (congrArg k (md_u22 _))
theorem md_c23 : (mdG G m V A).1 (m + 23) = some (.inl (0, 6, .inl (A 23))) := md_at G m V A (j := 23) (by omega)
theorem md_a23 {i : Nat} (hi : i < 6) (k : Int32 → az_R) : az_aI (mdG G m V A) 0 (m + 23) (nI i) k = k (A 23 i) := aI_s md_c23 hi (by omega)
theorem md_u23 (f : Nat → Int32) : az_set (mdG G m V A) (m + 23) (.inl (0, 6, .inl f)) = mdG G m V (va_up A 23 f) := md_setA (by omega) (by simp [mdC, mdl, va_up]) (by omega)
theorem md_s23 {i : Nat} (hi : i < 6) (x : Int32) (k : az_H → az_R) : az_sI (mdG G m V A) 0 (m + 23) (nI i) x k = k (mdG G m V (va_up A 23 (upd (A 23) i x))) := (sI_s md_c23 hi (by omega)).trans (congrArg k (md_u23 _))
theorem md_c24 : (mdG G m V A).1 (m + 24) = some (.inl (0, 24, .inl (A 24))) := md_at G m V A (j := 24) (by omega)
theorem md_a24 {i : Nat} (hi : i < 24) (k : Int32 → az_R) : az_aI (mdG G m V A) 0 (m + 24) (nI i) k = k (A 24 i) := aI_s md_c24 hi (by omega)
theorem md_u24 (f : Nat → Int32) : az_set (mdG G m V A) (m + 24) (.inl (0, 24, .inl f)) = mdG G m V (va_up A 24 f) := md_setA (by omega) (by simp [mdC, mdl, va_up]) (by omega)
theorem md_s24 {i : Nat} (hi : i < 24) (x : Int32) (k : az_H → az_R) : az_sI (mdG G m V A) 0 (m + 24) (nI i) x k = k (mdG G m V (va_up A 24 (upd (A 24) i x))) := (sI_s md_c24 hi (by omega)).trans (congrArg k (md_u24 _))
end MD
def clO0 (x : Nat) (V : Nat → Int32) : List Value := [.ref (x + 1), .ref (x + 2), .ref (x + 3), .ref (x + 8), .ref (x + 14), .ref (x + 17), .ref (x + 18), .ref (x + 19), .ref (x + 20), .ref (x + 21), .ref (x + 22), .int (V 0), .int (V 1), .int (V 2)]
def clO3 (x : Nat) (V : Nat → Int32) : List Value := [.ref (x + 4), .int (V 3), .int (V 4), .int (V 5), .ref (x + 5), .ref (x + 6), .ref (x + 7)]
def clO8 (x : Nat) (V : Nat → Int32) : List Value := [.ref (x + 9), .ref (x + 10), .ref (x + 11), .ref (x + 12), .ref (x + 13)]
def clO14 (x : Nat) (V : Nat → Int32) : List Value := [.int (V 6), .ref (x + 15), .ref (x + 16)]
def cll (j : Nat) : Nat := match j with
  | 4 => 24
  | 5 => 25
  | 6 => 576
  | 7 => 576
  | 9 => 6
  | 10 => 6
  | 11 => 144
  | 12 => 6
  | 13 => 6
  | 15 => 384
  | 16 => 2304
  | 17 => 24
  | 18 => 4
  | 19 => 24
  | 20 => 6
  | 21 => 6
  | 22 => 6
  | _ => 0
def clC (x : Nat) (V : Nat → Int32) (A : Nat → Nat → Int32) (R : Nat → Nat → Option Nat) (j : Nat) : va_E := match j with
  | 0 => .inr (5, clO0 x V)
  | 1 => .inl (2, 8, .inr (.inr (.inr (.inr (R 1)))))
  | 2 => .inl (3, 24, .inr (.inr (.inr (.inr (R 2)))))
  | 3 => .inr (3, clO3 x V)
  | 8 => .inr (2, clO8 x V)
  | 14 => .inr (1, clO14 x V)
  | j => .inl (0, cll j, .inl (A j))
def clG (G : az_H) (x : Nat) (V : Nat → Int32) (A : Nat → Nat → Int32) (R : Nat → Nat → Option Nat) : az_H := (fun q => if x ≤ q ∧ q ≤ x + 22 then some (clC x V A R (q - x)) else G.1 q, G.2)
theorem cl_at (G : az_H) (x : Nat) (V : Nat → Int32) (A : Nat → Nat → Int32) (R : Nat → Nat → Option Nat) {j : Nat} (h : j ≤ 22) : (clG G x V A R).1 (x + j) = some (clC x V A R j) := by
  have h1 : x ≤ x + j ∧ x + j ≤ x + 22 := by omega
  simp only [clG]
  rw [if_pos h1, Nat.add_sub_cancel_left]
theorem cl_out (G : az_H) {x : Nat} (V : Nat → Int32) (A : Nat → Nat → Int32) (R : Nat → Nat → Option Nat) {q : Nat} (h : q < x ∨ x + 22 < q) : (clG G x V A R).1 q = G.1 q := by
  simp only [clG]
  rw [if_neg (by omega)]
theorem cl_0 (G : az_H) (x : Nat) (V : Nat → Int32) (A : Nat → Nat → Int32) (R : Nat → Nat → Option Nat) : (clG G x V A R).1 x = some (.inr (5, clO0 x V)) := cl_at G x V A R (j := 0) (by omega)
theorem cl_2 (G : az_H) (x : Nat) (V : Nat → Int32) (A : Nat → Nat → Int32) (R : Nat → Nat → Option Nat) : (clG G x V A R).2 = G.2 := rfl
theorem cl_set {G : az_H} {x : Nat} {V V' : Nat → Int32} {A A' : Nat → Nat → Int32} {R R' : Nat → Nat → Option Nat} {j : Nat} {e : va_E} (hj : j ≤ 22) (he : clC x V' A' R' j = e) (ho : ∀ i, i ≤ 22 → i ≠ j → clC x V' A' R' i = clC x V A R i) : az_set (clG G x V A R) (x + j) e = clG G x V' A' R' := by
  unfold az_set clG
  congr 1
  funext q
  by_cases h : q = x + j
  · subst h
    rw [if_pos rfl, if_pos (by omega), Nat.add_sub_cancel_left, he]
  · rw [if_neg h]
    by_cases h2 : x ≤ q ∧ q ≤ x + 22
    · dsimp only
      rw [if_pos h2, if_pos h2, ho (q - x) (by omega) (by omega)]
    · dsimp only
      rw [if_neg h2, if_neg h2]
theorem cl_setA {G : az_H} {x : Nat} {V : Nat → Int32} {A : Nat → Nat → Int32} {R : Nat → Nat → Option Nat} {j : Nat} {e : va_E} {f : Nat → Int32} (hj : j ≤ 22) (he : clC x V (va_up A j f) R j = e) : az_set (clG G x V A R) (x + j) e = clG G x V (va_up A j f) R := by
  refine cl_set hj he fun i hi h => ?_
  unfold clC
  split <;> first | rfl | (rw [up_n _ _ h]) | (simp only [up_n A f h])
theorem cl_setR {G : az_H} {x : Nat} {V : Nat → Int32} {A : Nat → Nat → Int32} {R : Nat → Nat → Option Nat} {j : Nat} {e : va_E} {f : Nat → Option Nat} (hj : j ≤ 22) (he : clC x V A (va_up R j f) j = e) : az_set (clG G x V A R) (x + j) e = clG G x V A (va_up R j f) := by
  refine cl_set hj he fun i hi h => ?_
  unfold clC
  split <;> first | rfl | (rw [up_n _ _ h]) | (simp only [up_n R f h])
section CL
variable {G : az_H} {x : Nat} {V : Nat → Int32} {A : Nat → Nat → Int32} {R : Nat → Nat → Option Nat}
theorem cl_rc0 (k : az_R) : az_rc (clG G x V A R) x 5 k = k := rc_s (cl_0 G x V A R)
theorem cl0_r0 (k : Nat → az_R) : az_fR (clG G x V A R) x 5 0 k = k (x + 1) := fR_s (cl_0 G x V A R) rfl
theorem cl0_r1 (k : Nat → az_R) : az_fR (clG G x V A R) x 5 1 k = k (x + 2) := fR_s (cl_0 G x V A R) rfl
theorem cl0_r2 (k : Nat → az_R) : az_fR (clG G x V A R) x 5 2 k = k (x + 3) := fR_s (cl_0 G x V A R) rfl
theorem cl0_r3 (k : Nat → az_R) : az_fR (clG G x V A R) x 5 3 k = k (x + 8) := fR_s (cl_0 G x V A R) rfl
theorem cl0_r4 (k : Nat → az_R) : az_fR (clG G x V A R) x 5 4 k = k (x + 14) := fR_s (cl_0 G x V A R) rfl
theorem cl0_r5 (k : Nat → az_R) : az_fR (clG G x V A R) x 5 5 k = k (x + 17) := fR_s (cl_0 G x V A R) rfl
theorem cl0_r6 (k : Nat → az_R) : az_fR (clG G x V A R) x 5 6 k = k (x + 18) := fR_s (cl_0 G x V A R) rfl
theorem cl0_r7 (k : Nat → az_R) : az_fR (clG G x V A R) x 5 7 k = k (x + 19) := fR_s (cl_0 G x V A R) rfl
theorem cl0_r8 (k : Nat → az_R) : az_fR (clG G x V A R) x 5 8 k = k (x + 20) := fR_s (cl_0 G x V A R) rfl
theorem cl0_r9 (k : Nat → az_R) : az_fR (clG G x V A R) x 5 9 k = k (x + 21) := fR_s (cl_0 G x V A R) rfl
theorem cl0_r10 (k : Nat → az_R) : az_fR (clG G x V A R) x 5 10 k = k (x + 22) := fR_s (cl_0 G x V A R) rfl
theorem cl0_i11 (k : Int32 → az_R) : az_fI (clG G x V A R) x 5 11 k = k (V 0) := fI_s (cl_0 G x V A R) rfl
theorem cl0_p11 (v : Int32) (k : az_H → az_R) : az_pt (clG G x V A R) x 5 11 (.int v) k = k (clG G x (va_up V 0 v) A R) := by
  refine (pt_s (cl_0 G x V A R) (Nat.le_of_ble_eq_true rfl)).trans (congrArg k ?_)
  refine cl_set (j := 0) (by omega) (by simp [clC, clO0, va_up]) fun i hi h => ?_
  unfold clC
  split <;> first | rfl | exact absurd rfl h | simp [clO0, clO3, clO8, clO14, va_up]
theorem cl0_i12 (k : Int32 → az_R) : az_fI (clG G x V A R) x 5 12 k = k (V 1) := fI_s (cl_0 G x V A R) rfl
theorem cl0_p12 (v : Int32) (k : az_H → az_R) : az_pt (clG G x V A R) x 5 12 (.int v) k = k (clG G x (va_up V 1 v) A R) := by
  refine (pt_s (cl_0 G x V A R) (Nat.le_of_ble_eq_true rfl)).trans (congrArg k ?_)
  refine cl_set (j := 0) (by omega) (by simp [clC, clO0, va_up]) fun i hi h => ?_
  unfold clC
  split <;> first | rfl | exact absurd rfl h | simp [clO0, clO3, clO8, clO14, va_up]
theorem cl0_i13 (k : Int32 → az_R) : az_fI (clG G x V A R) x 5 13 k = k (V 2) := fI_s (cl_0 G x V A R) rfl
theorem cl0_p13 (v : Int32) (k : az_H → az_R) : az_pt (clG G x V A R) x 5 13 (.int v) k = k (clG G x (va_up V 2 v) A R) := by
  refine (pt_s (cl_0 G x V A R) (Nat.le_of_ble_eq_true rfl)).trans (congrArg k ?_)
  refine cl_set (j := 0) (by omega) (by simp [clC, clO0, va_up]) fun i hi h => ?_
  unfold clC
  split <;> first | rfl | exact absurd rfl h | simp [clO0, clO3, clO8, clO14, va_up]
theorem cl_rc3 (k : az_R) : az_rc (clG G x V A R) (x + 3) 3 k = k := rc_s (cl_at G x V A R (j := 3) (by omega))
theorem cl3_r0 (k : Nat → az_R) : az_fR (clG G x V A R) (x + 3) 3 0 k = k (x + 4) := fR_s (cl_at G x V A R (j := 3) (by omega)) rfl
theorem cl3_i1 (k : Int32 → az_R) : az_fI (clG G x V A R) (x + 3) 3 1 k = k (V 3) := fI_s (cl_at G x V A R (j := 3) (by omega)) rfl
theorem cl3_p1 (v : Int32) (k : az_H → az_R) : az_pt (clG G x V A R) (x + 3) 3 1 (.int v) k = k (clG G x (va_up V 3 v) A R) := by
  refine (pt_s (cl_at G x V A R (j := 3) (by omega)) (Nat.le_of_ble_eq_true rfl)).trans (congrArg k ?_)
  refine cl_set (j := 3) (by omega) (by simp [clC, clO3, va_up]) fun i hi h => ?_
  unfold clC
  split <;> first | rfl | exact absurd rfl h | simp [clO0, clO3, clO8, clO14, va_up]
theorem cl3_i2 (k : Int32 → az_R) : az_fI (clG G x V A R) (x + 3) 3 2 k = k (V 4) := fI_s (cl_at G x V A R (j := 3) (by omega)) rfl
theorem cl3_p2 (v : Int32) (k : az_H → az_R) : az_pt (clG G x V A R) (x + 3) 3 2 (.int v) k = k (clG G x (va_up V 4 v) A R) := by
  refine (pt_s (cl_at G x V A R (j := 3) (by omega)) (Nat.le_of_ble_eq_true rfl)).trans (congrArg k ?_)
  refine cl_set (j := 3) (by omega) (by simp [clC, clO3, va_up]) fun i hi h => ?_
  unfold clC
  split <;> first | rfl | exact absurd rfl h | simp [clO0, clO3, clO8, clO14, va_up]
theorem cl3_i3 (k : Int32 → az_R) : az_fI (clG G x V A R) (x + 3) 3 3 k = k (V 5) := fI_s (cl_at G x V A R (j := 3) (by omega)) rfl
theorem cl3_p3 (v : Int32) (k : az_H → az_R) : az_pt (clG G x V A R) (x + 3) 3 3 (.int v) k = k (clG G x (va_up V 5 v) A R) := by
  refine (pt_s (cl_at G x V A R (j := 3) (by omega)) (Nat.le_of_ble_eq_true rfl)).trans (congrArg k ?_)
  refine cl_set (j := 3) (by omega) (by simp [clC, clO3, va_up]) fun i hi h => ?_
  unfold clC
  split <;> first | rfl | exact absurd rfl h | simp [clO0, clO3, clO8, clO14, va_up]
theorem cl3_r4 (k : Nat → az_R) : az_fR (clG G x V A R) (x + 3) 3 4 k = k (x + 5) := fR_s (cl_at G x V A R (j := 3) (by omega)) rfl
theorem cl3_r5 (k : Nat → az_R) : az_fR (clG G x V A R) (x + 3) 3 5 k = k (x + 6) := fR_s (cl_at G x V A R (j := 3) (by omega)) rfl
theorem cl3_r6 (k : Nat → az_R) : az_fR (clG G x V A R) (x + 3) 3 6 k = k (x + 7) := fR_s (cl_at G x V A R (j := 3) (by omega)) rfl
theorem cl_rc8 (k : az_R) : az_rc (clG G x V A R) (x + 8) 2 k = k := rc_s (cl_at G x V A R (j := 8) (by omega))
theorem cl8_r0 (k : Nat → az_R) : az_fR (clG G x V A R) (x + 8) 2 0 k = k (x + 9) := fR_s (cl_at G x V A R (j := 8) (by omega)) rfl
theorem cl8_r1 (k : Nat → az_R) : az_fR (clG G x V A R) (x + 8) 2 1 k = k (x + 10) := fR_s (cl_at G x V A R (j := 8) (by omega)) rfl
theorem cl8_r2 (k : Nat → az_R) : az_fR (clG G x V A R) (x + 8) 2 2 k = k (x + 11) := fR_s (cl_at G x V A R (j := 8) (by omega)) rfl
theorem cl8_r3 (k : Nat → az_R) : az_fR (clG G x V A R) (x + 8) 2 3 k = k (x + 12) := fR_s (cl_at G x V A R (j := 8) (by omega)) rfl
theorem cl8_r4 (k : Nat → az_R) : az_fR (clG G x V A R) (x + 8) 2 4 k = k (x + 13) := fR_s (cl_at G x V A R (j := 8) (by omega)) rfl
theorem cl_rc14 (k : az_R) : az_rc (clG G x V A R) (x + 14) 1 k = k := rc_s (cl_at G x V A R (j := 14) (by omega))
theorem cl14_i0 (k : Int32 → az_R) : az_fI (clG G x V A R) (x + 14) 1 0 k = k (V 6) := fI_s (cl_at G x V A R (j := 14) (by omega)) rfl
theorem cl14_p0 (v : Int32) (k : az_H → az_R) : az_pt (clG G x V A R) (x + 14) 1 0 (.int v) k = k (clG G x (va_up V 6 v) A R) := by
  refine (pt_s (cl_at G x V A R (j := 14) (by omega)) (Nat.le_of_ble_eq_true rfl)).trans (congrArg k ?_)
  refine cl_set (j := 14) (by omega) (by simp [clC, clO14, va_up]) fun i hi h => ?_
  unfold clC
  split <;> first | rfl | exact absurd rfl h | simp [clO0, clO3, clO8, clO14, va_up]
theorem cl14_r1 (k : Nat → az_R) : az_fR (clG G x V A R) (x + 14) 1 1 k = k (x + 15) := fR_s (cl_at G x V A R (j := 14) (by omega)) rfl
theorem cl14_r2 (k : Nat → az_R) : az_fR (clG G x V A R) (x + 14) 1 2 k = k (x + 16) := fR_s (cl_at G x V A R (j := 14) (by omega)) rfl
theorem cl_c4 : (clG G x V A R).1 (x + 4) = some (.inl (0, 24, .inl (A 4))) := cl_at G x V A R (j := 4) (by omega)
theorem cl_u4 (f : Nat → Int32) : az_set (clG G x V A R) (x + 4) (.inl (0, 24, .inl f)) = clG G x V (va_up A 4 f) R := cl_setA (by omega) (by simp [clC, cll, va_up])
theorem cl_c5 : (clG G x V A R).1 (x + 5) = some (.inl (0, 25, .inl (A 5))) := cl_at G x V A R (j := 5) (by omega)
theorem cl_u5 (f : Nat → Int32) : az_set (clG G x V A R) (x + 5) (.inl (0, 25, .inl f)) = clG G x V (va_up A 5 f) R := cl_setA (by omega) (by simp [clC, cll, va_up])
theorem cl_c6 : (clG G x V A R).1 (x + 6) = some (.inl (0, 576, .inl (A 6))) := cl_at G x V A R (j := 6) (by omega)
theorem cl_u6 (f : Nat → Int32) : az_set (clG G x V A R) (x + 6) (.inl (0, 576, .inl f)) = clG G x V (va_up A 6 f) R := cl_setA (by omega) (by simp [clC, cll, va_up])
theorem cl_c7 : (clG G x V A R).1 (x + 7) = some (.inl (0, 576, .inl (A 7))) := cl_at G x V A R (j := 7) (by omega)
theorem cl_u7 (f : Nat → Int32) : az_set (clG G x V A R) (x + 7) (.inl (0, 576, .inl f)) = clG G x V (va_up A 7 f) R := cl_setA (by omega) (by simp [clC, cll, va_up])
theorem cl_c9 : (clG G x V A R).1 (x + 9) = some (.inl (0, 6, .inl (A 9))) := cl_at G x V A R (j := 9) (by omega)
theorem cl_u9 (f : Nat → Int32) : az_set (clG G x V A R) (x + 9) (.inl (0, 6, .inl f)) = clG G x V (va_up A 9 f) R := cl_setA (by omega) (by simp [clC, cll, va_up])
theorem cl_c10 : (clG G x V A R).1 (x + 10) = some (.inl (0, 6, .inl (A 10))) := cl_at G x V A R (j := 10) (by omega)
theorem cl_u10 (f : Nat → Int32) : az_set (clG G x V A R) (x + 10) (.inl (0, 6, .inl f)) = clG G x V (va_up A 10 f) R := cl_setA (by omega) (by simp [clC, cll, va_up])
theorem cl_c11 : (clG G x V A R).1 (x + 11) = some (.inl (0, 144, .inl (A 11))) := cl_at G x V A R (j := 11) (by omega)
theorem cl_u11 (f : Nat → Int32) : az_set (clG G x V A R) (x + 11) (.inl (0, 144, .inl f)) = clG G x V (va_up A 11 f) R := cl_setA (by omega) (by simp [clC, cll, va_up])
theorem cl_c12 : (clG G x V A R).1 (x + 12) = some (.inl (0, 6, .inl (A 12))) := cl_at G x V A R (j := 12) (by omega)
theorem cl_u12 (f : Nat → Int32) : az_set (clG G x V A R) (x + 12) (.inl (0, 6, .inl f)) = clG G x V (va_up A 12 f) R := cl_setA (by omega) (by simp [clC, cll, va_up])
theorem cl_c13 : (clG G x V A R).1 (x + 13) = some (.inl (0, 6, .inl (A 13))) := cl_at G x V A R (j := 13) (by omega)
theorem cl_u13 (f : Nat → Int32) : az_set (clG G x V A R) (x + 13) (.inl (0, 6, .inl f)) = clG G x V (va_up A 13 f) R := cl_setA (by omega) (by simp [clC, cll, va_up])
theorem cl_c15 : (clG G x V A R).1 (x + 15) = some (.inl (0, 384, .inl (A 15))) := cl_at G x V A R (j := 15) (by omega)
theorem cl_u15 (f : Nat → Int32) : az_set (clG G x V A R) (x + 15) (.inl (0, 384, .inl f)) = clG G x V (va_up A 15 f) R := cl_setA (by omega) (by simp [clC, cll, va_up])
theorem cl_c16 : (clG G x V A R).1 (x + 16) = some (.inl (0, 2304, .inl (A 16))) := cl_at G x V A R (j := 16) (by omega)
theorem cl_u16 (f : Nat → Int32) : az_set (clG G x V A R) (x + 16) (.inl (0, 2304, .inl f)) = clG G x V (va_up A 16 f) R := cl_setA (by omega) (by simp [clC, cll, va_up])
theorem cl_c17 : (clG G x V A R).1 (x + 17) = some (.inl (0, 24, .inl (A 17))) := cl_at G x V A R (j := 17) (by omega)
theorem cl_u17 (f : Nat → Int32) : az_set (clG G x V A R) (x + 17) (.inl (0, 24, .inl f)) = clG G x V (va_up A 17 f) R := cl_setA (by omega) (by simp [clC, cll, va_up])
theorem cl_c18 : (clG G x V A R).1 (x + 18) = some (.inl (0, 4, .inl (A 18))) := cl_at G x V A R (j := 18) (by omega)
theorem cl_u18 (f : Nat → Int32) : az_set (clG G x V A R) (x + 18) (.inl (0, 4, .inl f)) = clG G x V (va_up A 18 f) R := cl_setA (by omega) (by simp [clC, cll, va_up])
theorem cl_c19 : (clG G x V A R).1 (x + 19) = some (.inl (0, 24, .inl (A 19))) := cl_at G x V A R (j := 19) (by omega)
theorem cl_u19 (f : Nat → Int32) : az_set (clG G x V A R) (x + 19) (.inl (0, 24, .inl f)) = clG G x V (va_up A 19 f) R := cl_setA (by omega) (by simp [clC, cll, va_up])
theorem cl_c20 : (clG G x V A R).1 (x + 20) = some (.inl (0, 6, .inl (A 20))) := cl_at G x V A R (j := 20) (by omega)
theorem cl_u20 (f : Nat → Int32) : az_set (clG G x V A R) (x + 20) (.inl (0, 6, .inl f)) = clG G x V (va_up A 20 f) R := cl_setA (by omega) (by simp [clC, cll, va_up])
theorem cl_c21 : (clG G x V A R).1 (x + 21) = some (.inl (0, 6, .inl (A 21))) := cl_at G x V A R (j := 21) (by omega)
theorem cl_u21 (f : Nat → Int32) : az_set (clG G x V A R) (x + 21) (.inl (0, 6, .inl f)) = clG G x V (va_up A 21 f) R := cl_setA (by omega) (by simp [clC, cll, va_up])
theorem cl_c22 : (clG G x V A R).1 (x + 22) = some (.inl (0, 6, .inl (A 22))) := cl_at G x V A R (j := 22) (by omega)
theorem cl_u22 (f : Nat → Int32) : az_set (clG G x V A R) (x + 22) (.inl (0, 6, .inl f)) = clG G x V (va_up A 22 f) R := cl_setA (by omega) (by simp [clC, cll, va_up])
theorem cl_c1 : (clG G x V A R).1 (x + 1) = some (.inl (2, 8, .inr (.inr (.inr (.inr (R 1)))))) := cl_at G x V A R (j := 1) (by omega)
theorem cl_u1 (f : Nat → Option Nat) : az_set (clG G x V A R) (x + 1) (.inl (2, 8, .inr (.inr (.inr (.inr f))))) = clG G x V A (va_up R 1 f) := cl_setR (by omega) (by simp [clC, va_up])
theorem cl_c2 : (clG G x V A R).1 (x + 2) = some (.inl (3, 24, .inr (.inr (.inr (.inr (R 2)))))) := cl_at G x V A R (j := 2) (by omega)
theorem cl_u2 (f : Nat → Option Nat) : az_set (clG G x V A R) (x + 2) (.inl (3, 24, .inr (.inr (.inr (.inr f))))) = clG G x V A (va_up R 2 f) := cl_setR (by omega) (by simp [clC, va_up])
end CL
/-! the blocks lie apart; cells behind both -/
theorem md_cl {G : az_H} {m x : Nat} (V : Nat → Int32) (A : Nat → Nat → Int32) (V1 : Nat → Int32) (A1 : Nat → Nat → Int32) (R : Nat → Nat → Option Nat) (h : x + 22 < m) : mdG (clG G x V1 A1 R) m V A = clG (mdG G m V A) x V1 A1 R := by
  unfold mdG clG
  congr 1
  funext q
  by_cases h1 : m ≤ q ∧ q ≤ m + 24 <;> by_cases h2 : x ≤ q ∧ q ≤ x + 22 <;> simp [h1, h2]
  all_goals omega
theorem cl_setd {G : az_H} {x : Nat} (V : Nat → Int32) (A : Nat → Nat → Int32) (R : Nat → Nat → Option Nat) {q : Nat} (e : va_E) (h : x + 22 < q) : az_set (clG G x V A R) q e = clG (az_set G q e) x V A R := by
  unfold az_set clG
  congr 1
  funext i
  by_cases h1 : i = q <;> by_cases h2 : x ≤ i ∧ i ≤ x + 22 <;> simp [h1, h2]
  all_goals omega
theorem md_setd {G : az_H} {m : Nat} (V : Nat → Int32) (A : Nat → Nat → Int32) {q : Nat} (e : va_E) (h : m + 24 < q) : az_set (mdG G m V A) q e = mdG (az_set G q e) m V A := by
  unfold az_set mdG
  congr 1
  funext i
  by_cases h1 : i = q <;> by_cases h2 : m ≤ i ∧ i ≤ m + 24 <;> simp [h1, h2]
  all_goals omega
theorem cl_psh {G : az_H} {x : Nat} (V : Nat → Int32) (A : Nat → Nat → Int32) (R : Nat → Nat → Option Nat) (e : va_E) (n : Nat) (h : x + 22 < G.2.1) : az_psh (clG G x V A R) e n = clG (az_psh G e n) x V A R := by
  unfold az_psh clG
  congr 1
  funext i
  by_cases h1 : i = G.2.1 <;> by_cases h2 : x ≤ i ∧ i ≤ x + 22 <;> simp [h1, h2]
  all_goals omega
theorem md_psh {G : az_H} {m : Nat} (V : Nat → Int32) (A : Nat → Nat → Int32) (e : va_E) (n : Nat) (h : m + 24 < G.2.1) : az_psh (mdG G m V A) e n = mdG (az_psh G e n) m V A := by
  unfold az_psh mdG
  congr 1
  funext i
  by_cases h1 : i = G.2.1 <;> by_cases h2 : m ≤ i ∧ i ≤ m + 24 <;> simp [h1, h2]
  all_goals omega
theorem tbC_cl {G : az_H} {x t : Nat} {T : tb} (h : tbC G t T) (ht : x + 22 < t) (V : Nat → Int32) (A : Nat → Nat → Int32) (R : Nat → Nat → Option Nat) : tbC (clG G x V A R) t T := by
  obtain ⟨h1, h2, h3, h4⟩ := h
  exact ⟨(cl_out G V A R (by omega)).trans h1, (cl_out G V A R (by omega)).trans h2, (cl_out G V A R (by omega)).trans h3, (cl_out G V A R (by omega)).trans h4⟩
theorem tbC_md {G : az_H} {m t : Nat} {T : tb} (h : tbC G t T) (ht : m + 24 < t) (V : Nat → Int32) (A : Nat → Nat → Int32) : tbC (mdG G m V A) t T := by
  obtain ⟨h1, h2, h3, h4⟩ := h
  exact ⟨(md_out G V A (by omega)).trans h1, (md_out G V A (by omega)).trans h2, (md_out G V A (by omega)).trans h3, (md_out G V A (by omega)).trans h4⟩
