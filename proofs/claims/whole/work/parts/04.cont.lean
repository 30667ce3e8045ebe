def az_mn (f : Nat → az_R) : Prop := ∀ n m, n ≤ m → az_le (f n) (f m)
def az_ct (a : az_R) (f : Nat → az_R) : Prop := ∀ r, a = some r → ∃ n, f n = some r
theorem az_ct_n {f : Nat → az_R} : az_ct none f := fun _ h => by cases h
theorem az_ct_r {a : az_R} : az_ct a (fun _ => a) := fun _ h => ⟨0, h⟩
theorem az_bI_c {o : az_R} {f : Nat → az_R} {k : Int32 → az_H → az_R} {g : Nat → Int32 → az_H → az_R} (ho : az_ct o f) (mo : az_mn f) (hk : ∀ x G, az_ct (k x G) (fun n => g n x G)) (mk : ∀ x G, az_mn (fun n => g n x G)) : az_ct (az_bI o k) (fun n => az_bI (f n) (g n)) := by
  intro r hr
  match o, ho, hr with
  | some (some (.int x), G), ho, hr =>
    obtain ⟨n1, h1⟩ := ho _ rfl
    obtain ⟨n2, h2⟩ := hk x G r hr
    refine ⟨max n1 n2, ?_⟩
    show az_bI (f (max n1 n2)) (g (max n1 n2)) = some r
    rw [mo n1 _ (Nat.le_max_left _ _) _ h1]
    exact mk x G n2 _ (Nat.le_max_right _ _) _ h2
theorem az_bL_c {o : az_R} {f : Nat → az_R} {k : Int64 → az_H → az_R} {g : Nat → Int64 → az_H → az_R} (ho : az_ct o f) (mo : az_mn f) (hk : ∀ x G, az_ct (k x G) (fun n => g n x G)) (mk : ∀ x G, az_mn (fun n => g n x G)) : az_ct (az_bL o k) (fun n => az_bL (f n) (g n)) := by
  intro r hr
  match o, ho, hr with
  | some (some (.long x), G), ho, hr =>
    obtain ⟨n1, h1⟩ := ho _ rfl
    obtain ⟨n2, h2⟩ := hk x G r hr
    refine ⟨max n1 n2, ?_⟩
    show az_bL (f (max n1 n2)) (g (max n1 n2)) = some r
    rw [mo n1 _ (Nat.le_max_left _ _) _ h1]
    exact mk x G n2 _ (Nat.le_max_right _ _) _ h2
theorem az_bV_c {o : az_R} {f : Nat → az_R} {k : az_H → az_R} {g : Nat → az_H → az_R} (ho : az_ct o f) (mo : az_mn f) (hk : ∀ G, az_ct (k G) (fun n => g n G)) (mk : ∀ G, az_mn (fun n => g n G)) : az_ct (az_bV o k) (fun n => az_bV (f n) (g n)) := by
  intro r hr
  match o, ho, hr with
  | some (none, G), ho, hr =>
    obtain ⟨n1, h1⟩ := ho _ rfl
    obtain ⟨n2, h2⟩ := hk G r hr
    refine ⟨max n1 n2, ?_⟩
    show az_bV (f (max n1 n2)) (g (max n1 n2)) = some r
    rw [mo n1 _ (Nat.le_max_left _ _) _ h1]
    exact mk G n2 _ (Nat.le_max_right _ _) _ h2
theorem az_bR_c {o : az_R} {f : Nat → az_R} {k0 : az_H → az_R} {g0 : Nat → az_H → az_R} {k : Nat → az_H → az_R} {g : Nat → Nat → az_H → az_R} (ho : az_ct o f) (mo : az_mn f) (hk0 : ∀ G, az_ct (k0 G) (fun n => g0 n G)) (mk0 : ∀ G, az_mn (fun n => g0 n G)) (hk : ∀ x G, az_ct (k x G) (fun n => g n x G)) (mk : ∀ x G, az_mn (fun n => g n x G)) : az_ct (az_bR o k0 k) (fun n => az_bR (f n) (g0 n) (g n)) := by
  intro r hr
  match o, ho, hr with
  | some (some .null, G), ho, hr =>
    obtain ⟨n1, h1⟩ := ho _ rfl
    obtain ⟨n2, h2⟩ := hk0 G r hr
    refine ⟨max n1 n2, ?_⟩
    show az_bR (f (max n1 n2)) (g0 (max n1 n2)) (g (max n1 n2)) = some r
    rw [mo n1 _ (Nat.le_max_left _ _) _ h1]
    exact mk0 G n2 _ (Nat.le_max_right _ _) _ h2
  | some (some (.ref x), G), ho, hr =>
    obtain ⟨n1, h1⟩ := ho _ rfl
    obtain ⟨n2, h2⟩ := hk x G r hr
    refine ⟨max n1 n2, ?_⟩
    show az_bR (f (max n1 n2)) (g0 (max n1 n2)) (g (max n1 n2)) = some r
    rw [mo n1 _ (Nat.le_max_left _ _) _ h1]
    exact mk x G n2 _ (Nat.le_max_right _ _) _ h2
theorem az_cl_c {o : az_R} {f : Nat → az_R} {K : List Value → az_H → az_R} {g : Nat → List Value → az_H → az_R} (q : Nat) (rest : List Value) (ho : az_ct o f) (mo : az_mn f) (hK : ∀ st G, az_ct (K st G) (fun n => g n st G)) (mK : ∀ st G, az_mn (fun n => g n st G)) : az_ct (az_cl q o K rest) (fun n => az_cl q (f n) (g n) rest) := by
  unfold az_cl
  split
  · exact az_bV_c ho mo (fun _ => hK _ _) (fun _ => mK _ _)
  · exact az_bI_c ho mo (fun _ _ => hK _ _) (fun _ _ => mK _ _)
  · exact az_bL_c ho mo (fun _ _ => hK _ _) (fun _ _ => mK _ _)
  · exact az_bR_c ho mo (fun _ => hK _ _) (fun _ => mK _ _) (fun _ _ => hK _ _) (fun _ _ => mK _ _)
theorem az_fI_c {G : az_H} {r ci j : Nat} {k : Int32 → az_R} {g : Nat → Int32 → az_R} (h : ∀ x0, az_ct (k x0) (fun n => g n x0)) : az_ct (az_fI G r ci j k) (fun n => az_fI G r ci j (g n)) := by
  unfold az_fI; (repeat' split) <;> first | exact h _ | exact az_ct_n
theorem az_fR_c {G : az_H} {r ci j : Nat} {k : Nat → az_R} {g : Nat → Nat → az_R} (h : ∀ x0, az_ct (k x0) (fun n => g n x0)) : az_ct (az_fR G r ci j k) (fun n => az_fR G r ci j (g n)) := by
  unfold az_fR; (repeat' split) <;> first | exact h _ | exact az_ct_n
theorem az_pt_c {G : az_H} {r ci j : Nat} {v : Value} {k : az_H → az_R} {g : Nat → az_H → az_R} (h : ∀ x0, az_ct (k x0) (fun n => g n x0)) : az_ct (az_pt G r ci j v k) (fun n => az_pt G r ci j v (g n)) := by
  unfold az_pt; (repeat' split) <;> first | exact h _ | exact az_ct_n
theorem az_ln_c {G : az_H} {kd r : Nat} {k : Int32 → az_R} {g : Nat → Int32 → az_R} (h : ∀ x0, az_ct (k x0) (fun n => g n x0)) : az_ct (az_ln G kd r k) (fun n => az_ln G kd r (g n)) := by
  unfold az_ln; (repeat' split) <;> first | exact h _ | exact az_ct_n
theorem az_aI_c {G : az_H} {kd r : Nat} {i : Int32} {k : Int32 → az_R} {g : Nat → Int32 → az_R} (h : ∀ x0, az_ct (k x0) (fun n => g n x0)) : az_ct (az_aI G kd r i k) (fun n => az_aI G kd r i (g n)) := by
  unfold az_aI; (repeat' split) <;> first | exact h _ | exact az_ct_n
theorem az_aR_c {G : az_H} {kd r : Nat} {i : Int32} {k : Nat → az_R} {g : Nat → Nat → az_R} (h : ∀ x0, az_ct (k x0) (fun n => g n x0)) : az_ct (az_aR G kd r i k) (fun n => az_aR G kd r i (g n)) := by
  unfold az_aR; (repeat' split) <;> first | exact h _ | exact az_ct_n
theorem az_sI_c {G : az_H} {kd r : Nat} {i x : Int32} {k : az_H → az_R} {g : Nat → az_H → az_R} (h : ∀ x0, az_ct (k x0) (fun n => g n x0)) : az_ct (az_sI G kd r i x k) (fun n => az_sI G kd r i x (g n)) := by
  unfold az_sI; (repeat' split) <;> first | exact h _ | exact az_ct_n
theorem az_sR_c {G : az_H} {kd r v : Nat} {i : Int32} {k : az_H → az_R} {g : Nat → az_H → az_R} (h : ∀ x0, az_ct (k x0) (fun n => g n x0)) : az_ct (az_sR G kd r i v k) (fun n => az_sR G kd r i v (g n)) := by
  unfold az_sR; (repeat' split) <;> first | exact h _ | exact az_ct_n
theorem az_nA_c {G : az_H} {kd : Nat} {n' : Int32} {k : Nat → az_H → az_R} {g : Nat → Nat → az_H → az_R} (h : ∀ x0 x1, az_ct (k x0 x1) (fun n => g n x0 x1)) : az_ct (az_nA G kd n' k) (fun n => az_nA G kd n' (g n)) := by
  unfold az_nA; (repeat' split) <;> first | exact h _ _ | exact az_ct_n
theorem az_nR_c {G : az_H} {kd : Nat} {n' : Int32} {k : Nat → az_H → az_R} {g : Nat → Nat → az_H → az_R} (h : ∀ x0 x1, az_ct (k x0 x1) (fun n => g n x0 x1)) : az_ct (az_nR G kd n' k) (fun n => az_nR G kd n' (g n)) := by
  unfold az_nR; (repeat' split) <;> first | exact h _ _ | exact az_ct_n
theorem az_nO_c {G : az_H} {ci : Nat} {k : Nat → az_H → az_R} {g : Nat → Nat → az_H → az_R} (h : ∀ q x, az_ct (k q x) (fun n => g n q x)) : az_ct (az_nO G ci k) (fun n => az_nO G ci (g n)) := h _ _
theorem az_rc_c {G : az_H} {r ci : Nat} {k : az_R} {g : Nat → az_R} (h : az_ct k g) : az_ct (az_rc G r ci k) (fun n => az_rc G r ci (g n)) := by
  unfold az_rc; (repeat' split) <;> first | exact h | exact az_ct_n
theorem az_dv_c {y : Int32} {k : az_R} {g : Nat → az_R} (h : az_ct k g) : az_ct (az_dv y k) (fun n => az_dv y (g n)) := by
  unfold az_dv; (repeat' split) <;> first | exact h | exact az_ct_n
theorem az_w1_c {y : Int32} {k : az_R} {g : Nat → az_R} (h : az_ct k g) : az_ct (az_w1 y k) (fun n => az_w1 y (g n)) := by
  unfold az_w1; (repeat' split) <;> first | exact h | exact az_ct_n
theorem az_rm_c {st : List Value} {k : az_R} {g : Nat → az_R} (h : az_ct k g) : az_ct (az_rm st k) (fun n => az_rm st (g n)) := by
  unfold az_rm; (repeat' split) <;> first | exact h | exact az_ct_n
set_option maxHeartbeats 4000000 in
theorem az_st_c (sc : az_S) (tw : Nat → List Nat) {C : Nat → List Value → az_H → az_R} {C' : Nat → Nat → List Value → az_H → az_R} {K : Nat → az_L → List Value → az_H → az_R} {K' : Nat → Nat → az_L → List Value → az_H → az_R} (hC : ∀ y vs G, az_ct (C y vs G) (fun n => C' n y vs G)) (mC : ∀ y vs G, az_mn (fun n => C' n y vs G)) (hK : ∀ k L st G, az_ct (K k L st G) (fun n => K' n k L st G)) (mK : ∀ k L st G, az_mn (fun n => K' n k L st G)) (i : az_I) (k : Nat) (L : az_L) (st : List Value) (G : az_H) : az_ct (az_st sc tw C K i k L st G) (fun n => az_st sc tw (C' n) (K' n) i k L st G) := by
  obtain ⟨pc, ins, a, b, c, d, x, y⟩ := i
  cases ins
  case ifCond cond off => cases cond <;> simp only [az_st] <;> (repeat' first | exact az_ct_n | exact hK _ _ _ _ | split)
  case if_icmp cond off => cases cond <;> simp only [az_st] <;> (repeat' first | exact az_ct_n | exact hK _ _ _ _ | split)
  all_goals simp only [az_st]
  all_goals repeat' first
    | exact az_ct_n
    | exact az_ct_r
    | exact hK _ _ _ _
    | refine az_fI_c fun _ => ?_
    | refine az_fR_c fun _ => ?_
    | refine az_pt_c fun _ => ?_
    | refine az_ln_c fun _ => ?_
    | refine az_aI_c fun _ => ?_
    | refine az_aR_c fun _ => ?_
    | refine az_sI_c fun _ => ?_
    | refine az_sR_c fun _ => ?_
    | refine az_nO_c fun _ _ => ?_
    | refine az_nA_c fun _ _ => ?_
    | refine az_nR_c fun _ _ => ?_
    | refine az_rc_c ?_
    | refine az_dv_c ?_
    | refine az_w1_c ?_
    | refine az_rm_c ?_
    | exact az_cl_c _ _ (hC _ _ _) (mC _ _ _) (fun _ _ => hK _ _ _ _) (fun _ _ => mK _ _ _ _)
    | split
