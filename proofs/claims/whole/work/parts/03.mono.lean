def az_le (a b : az_R) : Prop := ∀ r, a = some r → b = some r
theorem az_le_n {b : az_R} : az_le none b := fun _ h => by cases h
theorem az_le_r {a : az_R} : az_le a a := fun _ h => h
theorem az_bI_m {o o' : az_R} {k k' : Int32 → az_H → az_R} (h : az_le o o') (hk : ∀ x G, az_le (k x G) (k' x G)) : az_le (az_bI o k) (az_bI o' k') := by
  intro r hr
  match o, h, hr with
  | some (some (.int x), G), h, hr => rw [h _ rfl]; exact hk _ _ _ hr
theorem az_bL_m {o o' : az_R} {k k' : Int64 → az_H → az_R} (h : az_le o o') (hk : ∀ x G, az_le (k x G) (k' x G)) : az_le (az_bL o k) (az_bL o' k') := by
  intro r hr
  match o, h, hr with
  | some (some (.long x), G), h, hr => rw [h _ rfl]; exact hk _ _ _ hr
theorem az_bV_m {o o' : az_R} {k k' : az_H → az_R} (h : az_le o o') (hk : ∀ G, az_le (k G) (k' G)) : az_le (az_bV o k) (az_bV o' k') := by
  intro r hr
  match o, h, hr with
  | some (none, G), h, hr => rw [h _ rfl]; exact hk _ _ hr
theorem az_bR_m {o o' : az_R} {k0 k0' : az_H → az_R} {k k' : Nat → az_H → az_R} (h : az_le o o') (hk0 : ∀ G, az_le (k0 G) (k0' G)) (hk : ∀ x G, az_le (k x G) (k' x G)) : az_le (az_bR o k0 k) (az_bR o' k0' k') := by
  intro r hr
  match o, h, hr with
  | some (some .null, G), h, hr => rw [h _ rfl]; exact hk0 _ _ hr
  | some (some (.ref x), G), h, hr => rw [h _ rfl]; exact hk _ _ _ hr
theorem az_cl_m {o o' : az_R} {K K' : List Value → az_H → az_R} (q : Nat) (rest : List Value) (h : az_le o o') (hK : ∀ st G, az_le (K st G) (K' st G)) : az_le (az_cl q o K rest) (az_cl q o' K' rest) := by
  unfold az_cl
  split
  · exact az_bV_m h fun _ => hK _ _
  · exact az_bI_m h fun _ _ => hK _ _
  · exact az_bL_m h fun _ _ => hK _ _
  · exact az_bR_m h (fun _ => hK _ _) fun _ _ => hK _ _
theorem az_fI_m {G : az_H} {r ci j : Nat} {k k' : Int32 → az_R} (h : ∀ x, az_le (k x) (k' x)) : az_le (az_fI G r ci j k) (az_fI G r ci j k') := by
  unfold az_fI; (repeat' split) <;> first | exact h _ | exact az_le_n
theorem az_fR_m {G : az_H} {r ci j : Nat} {k k' : Nat → az_R} (h : ∀ x, az_le (k x) (k' x)) : az_le (az_fR G r ci j k) (az_fR G r ci j k') := by
  unfold az_fR; (repeat' split) <;> first | exact h _ | exact az_le_n
theorem az_pt_m {G : az_H} {r ci j : Nat} {v : Value} {k k' : az_H → az_R} (h : ∀ x, az_le (k x) (k' x)) : az_le (az_pt G r ci j v k) (az_pt G r ci j v k') := by
  unfold az_pt; (repeat' split) <;> first | exact h _ | exact az_le_n
theorem az_ln_m {G : az_H} {kd r : Nat} {k k' : Int32 → az_R} (h : ∀ x, az_le (k x) (k' x)) : az_le (az_ln G kd r k) (az_ln G kd r k') := by
  unfold az_ln; (repeat' split) <;> first | exact h _ | exact az_le_n
theorem az_aI_m {G : az_H} {kd r : Nat} {i : Int32} {k k' : Int32 → az_R} (h : ∀ x, az_le (k x) (k' x)) : az_le (az_aI G kd r i k) (az_aI G kd r i k') := by
  unfold az_aI; (repeat' split) <;> first | exact h _ | exact az_le_n
theorem az_aR_m {G : az_H} {kd r : Nat} {i : Int32} {k k' : Nat → az_R} (h : ∀ x, az_le (k x) (k' x)) : az_le (az_aR G kd r i k) (az_aR G kd r i k') := by
  unfold az_aR; (repeat' split) <;> first | exact h _ | exact az_le_n
theorem az_sI_m {G : az_H} {kd r : Nat} {i x : Int32} {k k' : az_H → az_R} (h : ∀ x, az_le (k x) (k' x)) : az_le (az_sI G kd r i x k) (az_sI G kd r i x k') := by
  unfold az_sI; (repeat' split) <;> first | exact h _ | exact az_le_n
theorem az_sR_m {G : az_H} {kd r : Nat} {i : Int32} {v : Nat} {k k' : az_H → az_R} (h : ∀ x, az_le (k x) (k' x)) : az_le (az_sR G kd r i v k) (az_sR G kd r i v k') := by
  unfold az_sR; (repeat' split) <;> first | exact h _ | exact az_le_n
theorem az_nO_m {G : az_H} {ci : Nat} {k k' : Nat → az_H → az_R} (h : ∀ q x, az_le (k q x) (k' q x)) : az_le (az_nO G ci k) (az_nO G ci k') := h _ _
theorem az_nA_m {G : az_H} {kd : Nat} {n : Int32} {k k' : Nat → az_H → az_R} (h : ∀ q x, az_le (k q x) (k' q x)) : az_le (az_nA G kd n k) (az_nA G kd n k') := by
  unfold az_nA; (repeat' split) <;> first | exact h _ _ | exact az_le_n
theorem az_nR_m {G : az_H} {kd : Nat} {n : Int32} {k k' : Nat → az_H → az_R} (h : ∀ q x, az_le (k q x) (k' q x)) : az_le (az_nR G kd n k) (az_nR G kd n k') := by
  unfold az_nR; (repeat' split) <;> first | exact h _ _ | exact az_le_n
theorem az_rc_m {G : az_H} {r ci : Nat} {k k' : az_R} (h : az_le k k') : az_le (az_rc G r ci k) (az_rc G r ci k') := by
  unfold az_rc; (repeat' split) <;> first | exact h | exact az_le_n
theorem az_dv_m {y : Int32} {k k' : az_R} (h : az_le k k') : az_le (az_dv y k) (az_dv y k') := by
  unfold az_dv; (repeat' split) <;> first | exact h | exact az_le_n
theorem az_w1_m {y : Int32} {k k' : az_R} (h : az_le k k') : az_le (az_w1 y k) (az_w1 y k') := by
  unfold az_w1; (repeat' split) <;> first | exact h | exact az_le_n
theorem az_rm_m {st : List Value} {k k' : az_R} (h : az_le k k') : az_le (az_rm st k) (az_rm st k') := by
  unfold az_rm; (repeat' split) <;> first | exact h | exact az_le_n
set_option maxHeartbeats 4000000 in
theorem az_st_m (sc : az_S) (tw : Nat → List Nat) {C C' : Nat → List Value → az_H → az_R} {K K' : Nat → az_L → List Value → az_H → az_R} (hC : ∀ y vs G, az_le (C y vs G) (C' y vs G)) (hK : ∀ k L st G, az_le (K k L st G) (K' k L st G)) (i : az_I) (k : Nat) (L : az_L) (st : List Value) (G : az_H) : az_le (az_st sc tw C K i k L st G) (az_st sc tw C' K' i k L st G) := by
  obtain ⟨pc, ins, a, b, c, d, x, y⟩ := i
  cases ins
  case ifCond cond off => cases cond <;> simp only [az_st] <;> (repeat' first | exact az_le_n | exact hK _ _ _ _ | split)
  case if_icmp cond off => cases cond <;> simp only [az_st] <;> (repeat' first | exact az_le_n | exact hK _ _ _ _ | split)
  all_goals simp only [az_st]
  all_goals repeat' first
    | exact az_le_n
    | exact az_le_r
    | exact hK _ _ _ _
    | exact hC _ _ _
    | refine az_fI_m fun _ => ?_
    | refine az_fR_m fun _ => ?_
    | refine az_pt_m fun _ => ?_
    | refine az_ln_m fun _ => ?_
    | refine az_aI_m fun _ => ?_
    | refine az_aR_m fun _ => ?_
    | refine az_sI_m fun _ => ?_
    | refine az_sR_m fun _ => ?_
    | refine az_nO_m fun _ _ => ?_
    | refine az_nA_m fun _ _ => ?_
    | refine az_nR_m fun _ _ => ?_
    | refine az_rc_m ?_
    | refine az_dv_m ?_
    | refine az_w1_m ?_
    | refine az_rm_m ?_
    | refine az_cl_m _ _ (hC _ _ _) fun _ _ => ?_
    | split
