/-- a call's end, turned round -/
theorem az_cl_inv {q : Nat} {r : az_R} {K : List Value → az_H → az_R} {rest : List Value} {z : Option Value × az_H} (h : az_cl q r K rest = some z) : ∃ (v : Option Value) (G1 : az_H), r = some (v, G1) ∧ K (v.toList ++ rest) G1 = some z := by
  unfold az_cl at h
  split at h
  · unfold az_bV at h
    split at h
    · exact ⟨_, _, rfl, h⟩
    · cases h
  · unfold az_bI at h
    split at h
    · exact ⟨_, _, rfl, h⟩
    · cases h
  · unfold az_bL at h
    split at h
    · exact ⟨_, _, rfl, h⟩
    · cases h
  · unfold az_bR at h
    split at h
    · exact ⟨_, _, rfl, h⟩
    · exact ⟨_, _, rfl, h⟩
    · cases h
theorem az_cal_lt {y a n c : Nat} (h : az_cal y a n c = true) : 0 < a ∧ a < 190 := by
  simp only [az_cal, Bool.and_eq_true, decide_eq_true_eq] at h
  obtain ⟨⟨⟨⟨⟨c1, c2⟩, c3⟩, c4⟩, c5⟩, c6⟩ := h
  exact ⟨c1, c2⟩
set_option maxHeartbeats 8000000 in
set_option maxRecDepth 100000 in
/-- one step: what the abstract machine's step says holds of the machine -/
theorem az_snd {p : Program} {l : Launch} {e : Env} {R : Room} {s : State} {m : MethodId} {args : Array Value} {below : List Frame} {meth : Method} {c : Code} {Q : State → Prop} {y Z n0 s0 : Nat} {D : va_G} {cy : Nat → ClassId} {Hs : Heap} {v0 : Option Value} {G0 : az_H} (X : az_fx p y s m args meth c) (hK : az_kk D cy s) {sc : az_S} (hsc : y = 0 → va_X sc.1 sc.2.1 sc.2.2 s Hs ∧ sc.1 < Hs.size ∧ sc.1 < Z) (hRf : az_fr y ≤ R.frames) (hRl : az_lo y ≤ R.locals) (hRc : G0.2.1 - n0 ≤ R.cells) (hRs : G0.2.2 - s0 ≤ R.slots) (hret : ∀ (ins : Instr) (pc : Nat) (ls : Array Slot) (st : List Value) (H : Heap) (locs : List Loc), az_isret y ins st v0 → decode (az_mc y) pc = .ok (ins, 1) → az_rel Z D cy G0 H → va_S (fun q => Z ≤ q) Hs H locs → az_wg p l e R s m args below meth c Q n0 s0 G0 H locs pc ls st) {C : Nat → List Value → az_H → az_R} {K : Nat → az_L → List Value → az_H → az_R} (hC : ∀ a vs G v G', C a vs G = some (v, G') → az_up G G' ∧ (0 < a → a < 190 → az_met l Z D cy a vs G v G')) (hmok : ∀ a, 0 < a → a < 190 → az_mok a = true) (hKs : ∀ k L st G, K k L st G = some (v0, G0) → az_sc p l e R s m args below meth c Q y Z n0 s0 D cy Hs G0 G k L st) (i : az_I) (k : Nat) (hi : (az_pg y)[k]? = some i) (hck : az_ck1 y k = true) (L : az_L) (st : List Value) (G : az_H) (h : az_st sc (az_tw y) C K i k L st G = some (v0, G0)) (hn0 : n0 ≤ G.2.1) (hs0 : s0 ≤ G.2.2) {H : Heap} {locs : List Loc} {ls : Array Slot} (hrel : az_rel Z D cy G H) (hS : va_S (fun q => Z ≤ q) Hs H locs) (hL : az_pl ls (az_nL y) L) : az_wg p l e R s m args below meth c Q n0 s0 G H locs (az_bp y k) ls st := by
  obtain ⟨hx, hb, hml, hown, hts, hini⟩ := id X
  obtain ⟨pc, ins, a, b, c', d, x, z⟩ := i
  have hbp : az_bp y k = pc := by simp only [az_bp, hi]
  rw [hbp]
  simp only [az_ck1, hi] at hck
  split at hck
  rotate_left
  · cases hck
  rename_i i' pp hi' hpp
  cases hi'
  simp only [Bool.and_eq_true, decide_eq_true_eq, Bool.or_eq_true] at hck
  obtain ⟨⟨hdc, hln⟩, htr⟩ := hck
  cases ins with
  | iconst n =>
    have hln : az_bp y (k + 1) = pc + 1 := by simpa [az_sw1, az_il] using hln
    have hdc : decode (az_mc y) pc = .ok (.iconst n, 1) := by rw [hln, Nat.add_sub_cancel_left] at hdc; exact hdc
    simp only [az_st] at h
    have hv : Int32.ofInt n = x := by simpa [az_tr] using htr
    obtain ⟨-, hk⟩ := hKs _ _ _ _ h
    simp only [hln] at hk
    refine lv_iconst hx hb hdc hv ?_
    exact hk hn0 hs0 _ _ _ hrel hS hL
  | bipush n =>
    have hln : az_bp y (k + 1) = pc + 2 := by simpa [az_sw1, az_il] using hln
    have hdc : decode (az_mc y) pc = .ok (.bipush n, 2) := by rw [hln, Nat.add_sub_cancel_left] at hdc; exact hdc
    simp only [az_st] at h
    have hv : (Int8.ofInt n).toInt32 = x := by simpa [az_tr] using htr
    obtain ⟨-, hk⟩ := hKs _ _ _ _ h
    simp only [hln] at hk
    refine lv_bipush hx hb hdc hv ?_
    exact hk hn0 hs0 _ _ _ hrel hS hL
  | sipush n =>
    have hln : az_bp y (k + 1) = pc + 3 := by simpa [az_sw1, az_il] using hln
    have hdc : decode (az_mc y) pc = .ok (.sipush n, 3) := by rw [hln, Nat.add_sub_cancel_left] at hdc; exact hdc
    simp only [az_st] at h
    have hv : (Int16.ofInt n).toInt32 = x := by simpa [az_tr] using htr
    obtain ⟨-, hk⟩ := hKs _ _ _ _ h
    simp only [hln] at hk
    refine lv_sipush hx hb hdc hv ?_
    exact hk hn0 hs0 _ _ _ hrel hS hL
  | ldc n =>
    have hln : az_bp y (k + 1) = pc + 2 := by simpa [az_sw1, az_il] using hln
    have hdc : decode (az_mc y) pc = .ok (.ldc n, 2) := by rw [hln, Nat.add_sub_cancel_left] at hdc; exact hdc
    simp only [az_st] at h
    have hv : az_has pp (.constant (az_own y) n x) = true := htr
    obtain ⟨-, hk⟩ := hKs _ _ _ _ h
    simp only [hln] at hk
    refine lv_ldc hx hb hown (hts _ (az_in_ws hv)) hdc ?_
    exact hk hn0 hs0 _ _ _ hrel hS hL
  | ldc_w n =>
    have hln : az_bp y (k + 1) = pc + 3 := by simpa [az_sw1, az_il] using hln
    have hdc : decode (az_mc y) pc = .ok (.ldc_w n, 3) := by rw [hln, Nat.add_sub_cancel_left] at hdc; exact hdc
    simp only [az_st] at h
    have hv : az_has pp (.constant (az_own y) n x) = true := htr
    obtain ⟨-, hk⟩ := hKs _ _ _ _ h
    simp only [hln] at hk
    refine lv_ldcw hx hb hown (hts _ (az_in_ws hv)) hdc ?_
    exact hk hn0 hs0 _ _ _ hrel hS hL
  | ldc2_w n =>
    have hln : az_bp y (k + 1) = pc + 3 := by simpa [az_sw1, az_il] using hln
    have hdc : decode (az_mc y) pc = .ok (.ldc2_w n, 3) := by rw [hln, Nat.add_sub_cancel_left] at hdc; exact hdc
    simp only [az_st] at h
    have hv : az_has pp (.constantLong (az_own y) n z) = true := htr
    obtain ⟨-, hk⟩ := hKs _ _ _ _ h
    simp only [hln] at hk
    refine lv_ldc2 hx hb hown (hts _ (az_in_ws hv)) hdc ?_
    exact hk hn0 hs0 _ _ _ hrel hS hL
  | lconst n =>
    have hln : az_bp y (k + 1) = pc + 1 := by simpa [az_sw1, az_il] using hln
    have hdc : decode (az_mc y) pc = .ok (.lconst n, 1) := by rw [hln, Nat.add_sub_cancel_left] at hdc; exact hdc
    simp only [az_st] at h
    have hv : Int64.ofNat (n : Nat) = z := by simpa [az_tr] using htr
    obtain ⟨-, hk⟩ := hKs _ _ _ _ h
    simp only [hln] at hk
    refine lv_lconst hx hb hdc hv ?_
    exact hk hn0 hs0 _ _ _ hrel hS hL
  | aconst_null =>
    have hln : az_bp y (k + 1) = pc + 1 := by simpa [az_sw1, az_il] using hln
    have hdc : decode (az_mc y) pc = .ok (.aconst_null, 1) := by rw [hln, Nat.add_sub_cancel_left] at hdc; exact hdc
    simp only [az_st] at h
    obtain ⟨-, hk⟩ := hKs _ _ _ _ h
    simp only [hln] at hk
    refine lv_null hx hb hdc ?_
    exact hk hn0 hs0 _ _ _ hrel hS hL
  | iload_n q =>
    have hln : az_bp y (k + 1) = pc + 1 := by simpa [az_sw1, az_il] using hln
    have hdc : decode (az_mc y) pc = .ok (.iload_n q, 1) := by rw [hln, Nat.add_sub_cancel_left] at hdc; exact hdc
    simp only [az_st] at h
    have hq : (q : Nat) = a := by simpa [az_tr] using htr
    split at h
    rotate_left
    · cases h
    rename_i w hw
    obtain ⟨-, hk⟩ := hKs _ _ _ _ h
    simp only [hln] at hk
    refine lv_iload_n hx hb hdc hq (hL.at hw) ?_
    exact hk hn0 hs0 _ _ _ hrel hS hL
  | iload q =>
    have hln : az_bp y (k + 1) = pc + 2 := by simpa [az_sw1, az_il] using hln
    have hdc : decode (az_mc y) pc = .ok (.iload q, 2) := by rw [hln, Nat.add_sub_cancel_left] at hdc; exact hdc
    simp only [az_st] at h
    have hq : (q : Nat) = a := by simpa [az_tr] using htr
    split at h
    rotate_left
    · cases h
    rename_i w hw
    obtain ⟨-, hk⟩ := hKs _ _ _ _ h
    simp only [hln] at hk
    subst hq
    refine lv_iload hx hb hdc (hL.at hw) ?_
    exact hk hn0 hs0 _ _ _ hrel hS hL
  | lload_n q =>
    have hln : az_bp y (k + 1) = pc + 1 := by simpa [az_sw1, az_il] using hln
    have hdc : decode (az_mc y) pc = .ok (.lload_n q, 1) := by rw [hln, Nat.add_sub_cancel_left] at hdc; exact hdc
    simp only [az_st] at h
    have hq : (q : Nat) = a := by simpa [az_tr] using htr
    split at h
    rotate_left
    · cases h
    rename_i w hw
    obtain ⟨-, hk⟩ := hKs _ _ _ _ h
    simp only [hln] at hk
    refine lv_lload_n hx hb hdc hq (hL.at hw) ?_
    exact hk hn0 hs0 _ _ _ hrel hS hL
  | lload q =>
    have hln : az_bp y (k + 1) = pc + 2 := by simpa [az_sw1, az_il] using hln
    have hdc : decode (az_mc y) pc = .ok (.lload q, 2) := by rw [hln, Nat.add_sub_cancel_left] at hdc; exact hdc
    simp only [az_st] at h
    have hq : (q : Nat) = a := by simpa [az_tr] using htr
    split at h
    rotate_left
    · cases h
    rename_i w hw
    obtain ⟨-, hk⟩ := hKs _ _ _ _ h
    simp only [hln] at hk
    subst hq
    refine lv_lload hx hb hdc (hL.at hw) ?_
    exact hk hn0 hs0 _ _ _ hrel hS hL
  | aload_n q =>
    have hln : az_bp y (k + 1) = pc + 1 := by simpa [az_sw1, az_il] using hln
    have hdc : decode (az_mc y) pc = .ok (.aload_n q, 1) := by rw [hln, Nat.add_sub_cancel_left] at hdc; exact hdc
    simp only [az_st] at h
    have hq : (q : Nat) = a := by simpa [az_tr] using htr
    split at h
    · rename_i w hw
      obtain ⟨-, hk⟩ := hKs _ _ _ _ h
      simp only [hln] at hk
      refine lv_aload_n hx hb hdc hq (hL.at hw) ?_
      exact hk hn0 hs0 _ _ _ hrel hS hL
    · rename_i hw
      obtain ⟨-, hk⟩ := hKs _ _ _ _ h
      simp only [hln] at hk
      refine lv_aload_nN hx hb hdc hq (hL.at hw) ?_
      exact hk hn0 hs0 _ _ _ hrel hS hL
    · cases h
  | aload q =>
    have hln : az_bp y (k + 1) = pc + 2 := by simpa [az_sw1, az_il] using hln
    have hdc : decode (az_mc y) pc = .ok (.aload q, 2) := by rw [hln, Nat.add_sub_cancel_left] at hdc; exact hdc
    simp only [az_st] at h
    have hq : (q : Nat) = a := by simpa [az_tr] using htr
    subst hq
    split at h
    · rename_i w hw
      obtain ⟨-, hk⟩ := hKs _ _ _ _ h
      simp only [hln] at hk
      refine lv_aload hx hb hdc (hL.at hw) ?_
      exact hk hn0 hs0 _ _ _ hrel hS hL
    · rename_i hw
      obtain ⟨-, hk⟩ := hKs _ _ _ _ h
      simp only [hln] at hk
      refine lv_aloadN hx hb hdc (hL.at hw) ?_
      exact hk hn0 hs0 _ _ _ hrel hS hL
    · cases h
  | istore_n q =>
    have hln : az_bp y (k + 1) = pc + 1 := by simpa [az_sw1, az_il] using hln
    have hdc : decode (az_mc y) pc = .ok (.istore_n q, 1) := by rw [hln, Nat.add_sub_cancel_left] at hdc; exact hdc
    simp only [az_st] at h
    have hq : (q : Nat) = a ∧ a < az_nL y := by simpa [az_tr] using htr
    obtain ⟨hq, hlt⟩ := hq
    split at h
    rotate_left
    · cases h
    obtain ⟨-, hk⟩ := hKs _ _ _ _ h
    simp only [hln] at hk
    exact lv_istore_n (lv := az_as L) hx hb hdc hq hL hlt rfl (fun ls1 hl1 => hk hn0 hs0 _ _ _ hrel hS (az_pl.s1 hl1))
  | istore q =>
    have hln : az_bp y (k + 1) = pc + 2 := by simpa [az_sw1, az_il] using hln
    have hdc : decode (az_mc y) pc = .ok (.istore q, 2) := by rw [hln, Nat.add_sub_cancel_left] at hdc; exact hdc
    simp only [az_st] at h
    have hq : (q : Nat) = a ∧ a < az_nL y := by simpa [az_tr] using htr
    obtain ⟨hq, hlt⟩ := hq
    subst hq
    split at h
    rotate_left
    · cases h
    obtain ⟨-, hk⟩ := hKs _ _ _ _ h
    simp only [hln] at hk
    exact lv_istore (lv := az_as L) hx hb hdc hL hlt rfl (fun ls1 hl1 => hk hn0 hs0 _ _ _ hrel hS (az_pl.s1 hl1))
  | lstore_n q =>
    have hln : az_bp y (k + 1) = pc + 1 := by simpa [az_sw1, az_il] using hln
    have hdc : decode (az_mc y) pc = .ok (.lstore_n q, 1) := by rw [hln, Nat.add_sub_cancel_left] at hdc; exact hdc
    simp only [az_st] at h
    have hq : (q : Nat) = a ∧ a + 1 < az_nL y := by simpa [az_tr] using htr
    obtain ⟨hq, hlt⟩ := hq
    split at h
    rotate_left
    · cases h
    obtain ⟨-, hk⟩ := hKs _ _ _ _ h
    simp only [hln] at hk
    exact lv_lstore_n (lv := az_as L) hx hb hdc hq hL hlt rfl (fun ls1 hl1 => hk hn0 hs0 _ _ _ hrel hS (az_pl.s2 hl1))
  | lstore q =>
    have hln : az_bp y (k + 1) = pc + 2 := by simpa [az_sw1, az_il] using hln
    have hdc : decode (az_mc y) pc = .ok (.lstore q, 2) := by rw [hln, Nat.add_sub_cancel_left] at hdc; exact hdc
    simp only [az_st] at h
    have hq : (q : Nat) = a ∧ a + 1 < az_nL y := by simpa [az_tr] using htr
    obtain ⟨hq, hlt⟩ := hq
    subst hq
    split at h
    rotate_left
    · cases h
    obtain ⟨-, hk⟩ := hKs _ _ _ _ h
    simp only [hln] at hk
    exact lv_lstore (lv := az_as L) hx hb hdc hL hlt rfl (fun ls1 hl1 => hk hn0 hs0 _ _ _ hrel hS (az_pl.s2 hl1))
  | astore_n q =>
    have hln : az_bp y (k + 1) = pc + 1 := by simpa [az_sw1, az_il] using hln
    have hdc : decode (az_mc y) pc = .ok (.astore_n q, 1) := by rw [hln, Nat.add_sub_cancel_left] at hdc; exact hdc
    simp only [az_st] at h
    have hq : (q : Nat) = a ∧ a < az_nL y := by simpa [az_tr] using htr
    obtain ⟨hq, hlt⟩ := hq
    split at h
    · obtain ⟨-, hk⟩ := hKs _ _ _ _ h
      simp only [hln] at hk
      exact lv_astore_n (lv := az_as L) hx hb hdc hq hL hlt rfl (fun ls1 hl1 => hk hn0 hs0 _ _ _ hrel hS (az_pl.s1 hl1))
    · obtain ⟨-, hk⟩ := hKs _ _ _ _ h
      simp only [hln] at hk
      exact lv_astore_nN (lv := az_as L) hx hb hdc hq hL hlt rfl (fun ls1 hl1 => hk hn0 hs0 _ _ _ hrel hS (az_pl.s1 hl1))
    · cases h
  | astore q =>
    have hln : az_bp y (k + 1) = pc + 2 := by simpa [az_sw1, az_il] using hln
    have hdc : decode (az_mc y) pc = .ok (.astore q, 2) := by rw [hln, Nat.add_sub_cancel_left] at hdc; exact hdc
    simp only [az_st] at h
    have hq : (q : Nat) = a ∧ a < az_nL y := by simpa [az_tr] using htr
    obtain ⟨hq, hlt⟩ := hq
    subst hq
    split at h
    · obtain ⟨-, hk⟩ := hKs _ _ _ _ h
      simp only [hln] at hk
      exact lv_astore (lv := az_as L) hx hb hdc hL hlt rfl (fun ls1 hl1 => hk hn0 hs0 _ _ _ hrel hS (az_pl.s1 hl1))
    · obtain ⟨-, hk⟩ := hKs _ _ _ _ h
      simp only [hln] at hk
      exact lv_astoreN (lv := az_as L) hx hb hdc hL hlt rfl (fun ls1 hl1 => hk hn0 hs0 _ _ _ hrel hS (az_pl.s1 hl1))
    · cases h
  | iinc q n =>
    have hln : az_bp y (k + 1) = pc + 3 := by simpa [az_sw1, az_il] using hln
    have hdc : decode (az_mc y) pc = .ok (.iinc q n, 3) := by rw [hln, Nat.add_sub_cancel_left] at hdc; exact hdc
    simp only [az_st] at h
    have hq : (q = a ∧ a < az_nL y) ∧ Int32.ofInt n = x := by simpa [az_tr] using htr
    obtain ⟨⟨hq, hlt⟩, hv⟩ := hq
    subst hq
    split at h
    rotate_left
    · cases h
    rename_i w hw
    obtain ⟨-, hk⟩ := hKs _ _ _ _ h
    simp only [hln] at hk
    obtain ⟨j, hj⟩ := List.getElem?_of_mem ((az_as_mem (q := (q, Value.int w))).mpr hw)
    exact lv_iinc (v := w + x) (lv := az_as L) hx hb hdc hL hj (by rw [hv]) hlt rfl (fun ls1 hl1 => hk hn0 hs0 _ _ _ hrel hS (az_pl.s1 hl1))
  | iadd =>
    have hln : az_bp y (k + 1) = pc + 1 := by simpa [az_sw1, az_il] using hln
    have hdc : decode (az_mc y) pc = .ok (.iadd, 1) := by rw [hln, Nat.add_sub_cancel_left] at hdc; exact hdc
    simp only [az_st] at h
    split at h
    rotate_left
    · cases h
    obtain ⟨-, hk⟩ := hKs _ _ _ _ h
    simp only [hln] at hk
    refine lv_iadd hx hb hdc ?_
    exact hk hn0 hs0 _ _ _ hrel hS hL
  | isub =>
    have hln : az_bp y (k + 1) = pc + 1 := by simpa [az_sw1, az_il] using hln
    have hdc : decode (az_mc y) pc = .ok (.isub, 1) := by rw [hln, Nat.add_sub_cancel_left] at hdc; exact hdc
    simp only [az_st] at h
    split at h
    rotate_left
    · cases h
    obtain ⟨-, hk⟩ := hKs _ _ _ _ h
    simp only [hln] at hk
    refine lv_isub hx hb hdc ?_
    exact hk hn0 hs0 _ _ _ hrel hS hL
  | imul =>
    have hln : az_bp y (k + 1) = pc + 1 := by simpa [az_sw1, az_il] using hln
    have hdc : decode (az_mc y) pc = .ok (.imul, 1) := by rw [hln, Nat.add_sub_cancel_left] at hdc; exact hdc
    simp only [az_st] at h
    split at h
    rotate_left
    · cases h
    obtain ⟨-, hk⟩ := hKs _ _ _ _ h
    simp only [hln] at hk
    refine lv_imul hx hb hdc ?_
    exact hk hn0 hs0 _ _ _ hrel hS hL
  | iand =>
    have hln : az_bp y (k + 1) = pc + 1 := by simpa [az_sw1, az_il] using hln
    have hdc : decode (az_mc y) pc = .ok (.iand, 1) := by rw [hln, Nat.add_sub_cancel_left] at hdc; exact hdc
    simp only [az_st] at h
    split at h
    rotate_left
    · cases h
    obtain ⟨-, hk⟩ := hKs _ _ _ _ h
    simp only [hln] at hk
    refine lv_iand hx hb hdc ?_
    exact hk hn0 hs0 _ _ _ hrel hS hL
  | ior =>
    have hln : az_bp y (k + 1) = pc + 1 := by simpa [az_sw1, az_il] using hln
    have hdc : decode (az_mc y) pc = .ok (.ior, 1) := by rw [hln, Nat.add_sub_cancel_left] at hdc; exact hdc
    simp only [az_st] at h
    split at h
    rotate_left
    · cases h
    obtain ⟨-, hk⟩ := hKs _ _ _ _ h
    simp only [hln] at hk
    refine lv_ior hx hb hdc ?_
    exact hk hn0 hs0 _ _ _ hrel hS hL
  | ixor =>
    have hln : az_bp y (k + 1) = pc + 1 := by simpa [az_sw1, az_il] using hln
    have hdc : decode (az_mc y) pc = .ok (.ixor, 1) := by rw [hln, Nat.add_sub_cancel_left] at hdc; exact hdc
    simp only [az_st] at h
    split at h
    rotate_left
    · cases h
    obtain ⟨-, hk⟩ := hKs _ _ _ _ h
    simp only [hln] at hk
    refine lv_ixor hx hb hdc ?_
    exact hk hn0 hs0 _ _ _ hrel hS hL
  | ishl =>
    have hln : az_bp y (k + 1) = pc + 1 := by simpa [az_sw1, az_il] using hln
    have hdc : decode (az_mc y) pc = .ok (.ishl, 1) := by rw [hln, Nat.add_sub_cancel_left] at hdc; exact hdc
    simp only [az_st] at h
    split at h
    rotate_left
    · cases h
    obtain ⟨-, hk⟩ := hKs _ _ _ _ h
    simp only [hln] at hk
    refine lv_ishl hx hb hdc ?_
    exact hk hn0 hs0 _ _ _ hrel hS hL
  | ishr =>
    have hln : az_bp y (k + 1) = pc + 1 := by simpa [az_sw1, az_il] using hln
    have hdc : decode (az_mc y) pc = .ok (.ishr, 1) := by rw [hln, Nat.add_sub_cancel_left] at hdc; exact hdc
    simp only [az_st] at h
    split at h
    rotate_left
    · cases h
    obtain ⟨-, hk⟩ := hKs _ _ _ _ h
    simp only [hln] at hk
    refine lv_ishr hx hb hdc ?_
    exact hk hn0 hs0 _ _ _ hrel hS hL
  | ladd =>
    have hln : az_bp y (k + 1) = pc + 1 := by simpa [az_sw1, az_il] using hln
    have hdc : decode (az_mc y) pc = .ok (.ladd, 1) := by rw [hln, Nat.add_sub_cancel_left] at hdc; exact hdc
    simp only [az_st] at h
    split at h
    rotate_left
    · cases h
    obtain ⟨-, hk⟩ := hKs _ _ _ _ h
    simp only [hln] at hk
    refine lv_ladd hx hb hdc ?_
    exact hk hn0 hs0 _ _ _ hrel hS hL
  | lmul =>
    have hln : az_bp y (k + 1) = pc + 1 := by simpa [az_sw1, az_il] using hln
    have hdc : decode (az_mc y) pc = .ok (.lmul, 1) := by rw [hln, Nat.add_sub_cancel_left] at hdc; exact hdc
    simp only [az_st] at h
    split at h
    rotate_left
    · cases h
    obtain ⟨-, hk⟩ := hKs _ _ _ _ h
    simp only [hln] at hk
    refine lv_lmul hx hb hdc ?_
    exact hk hn0 hs0 _ _ _ hrel hS hL
  | land =>
    have hln : az_bp y (k + 1) = pc + 1 := by simpa [az_sw1, az_il] using hln
    have hdc : decode (az_mc y) pc = .ok (.land, 1) := by rw [hln, Nat.add_sub_cancel_left] at hdc; exact hdc
    simp only [az_st] at h
    split at h
    rotate_left
    · cases h
    obtain ⟨-, hk⟩ := hKs _ _ _ _ h
    simp only [hln] at hk
    refine lv_land hx hb hdc ?_
    exact hk hn0 hs0 _ _ _ hrel hS hL
  | lor =>
    have hln : az_bp y (k + 1) = pc + 1 := by simpa [az_sw1, az_il] using hln
    have hdc : decode (az_mc y) pc = .ok (.lor, 1) := by rw [hln, Nat.add_sub_cancel_left] at hdc; exact hdc
    simp only [az_st] at h
    split at h
    rotate_left
    · cases h
    obtain ⟨-, hk⟩ := hKs _ _ _ _ h
    simp only [hln] at hk
    refine lv_lor hx hb hdc ?_
    exact hk hn0 hs0 _ _ _ hrel hS hL
  | iushr =>
    have hln : az_bp y (k + 1) = pc + 1 := by simpa [az_sw1, az_il] using hln
    have hdc : decode (az_mc y) pc = .ok (.iushr, 1) := by rw [hln, Nat.add_sub_cancel_left] at hdc; exact hdc
    simp only [az_st] at h
    split at h
    rotate_left
    · cases h
    obtain ⟨-, hk⟩ := hKs _ _ _ _ h
    simp only [hln] at hk
    refine lv_iushr hx hb hdc rfl ?_
    exact hk hn0 hs0 _ _ _ hrel hS hL
  | lshl =>
    have hln : az_bp y (k + 1) = pc + 1 := by simpa [az_sw1, az_il] using hln
    have hdc : decode (az_mc y) pc = .ok (.lshl, 1) := by rw [hln, Nat.add_sub_cancel_left] at hdc; exact hdc
    simp only [az_st] at h
    split at h
    rotate_left
    · cases h
    obtain ⟨-, hk⟩ := hKs _ _ _ _ h
    simp only [hln] at hk
    refine lv_lshl hx hb hdc rfl ?_
    exact hk hn0 hs0 _ _ _ hrel hS hL
  | lshr =>
    have hln : az_bp y (k + 1) = pc + 1 := by simpa [az_sw1, az_il] using hln
    have hdc : decode (az_mc y) pc = .ok (.lshr, 1) := by rw [hln, Nat.add_sub_cancel_left] at hdc; exact hdc
    simp only [az_st] at h
    split at h
    rotate_left
    · cases h
    obtain ⟨-, hk⟩ := hKs _ _ _ _ h
    simp only [hln] at hk
    refine lv_lshr hx hb hdc rfl ?_
    exact hk hn0 hs0 _ _ _ hrel hS hL
  | lushr =>
    have hln : az_bp y (k + 1) = pc + 1 := by simpa [az_sw1, az_il] using hln
    have hdc : decode (az_mc y) pc = .ok (.lushr, 1) := by rw [hln, Nat.add_sub_cancel_left] at hdc; exact hdc
    simp only [az_st] at h
    split at h
    rotate_left
    · cases h
    obtain ⟨-, hk⟩ := hKs _ _ _ _ h
    simp only [hln] at hk
    refine lv_lushr hx hb hdc rfl ?_
    exact hk hn0 hs0 _ _ _ hrel hS hL
  | i2l =>
    have hln : az_bp y (k + 1) = pc + 1 := by simpa [az_sw1, az_il] using hln
    have hdc : decode (az_mc y) pc = .ok (.i2l, 1) := by rw [hln, Nat.add_sub_cancel_left] at hdc; exact hdc
    simp only [az_st] at h
    split at h
    rotate_left
    · cases h
    obtain ⟨-, hk⟩ := hKs _ _ _ _ h
    simp only [hln] at hk
    refine lv_i2l hx hb hdc rfl ?_
    exact hk hn0 hs0 _ _ _ hrel hS hL
  | lcmp =>
    have hln : az_bp y (k + 1) = pc + 1 := by simpa [az_sw1, az_il] using hln
    have hdc : decode (az_mc y) pc = .ok (.lcmp, 1) := by rw [hln, Nat.add_sub_cancel_left] at hdc; exact hdc
    simp only [az_st] at h
    split at h
    rotate_left
    · cases h
    obtain ⟨-, hk⟩ := hKs _ _ _ _ h
    simp only [hln] at hk
    refine W.lcmp hx hb hdc ?_
    exact hk hn0 hs0 _ _ _ hrel hS hL
  | idiv =>
    have hln : az_bp y (k + 1) = pc + 1 := by simpa [az_sw1, az_il] using hln
    have hdc : decode (az_mc y) pc = .ok (.idiv, 1) := by rw [hln, Nat.add_sub_cancel_left] at hdc; exact hdc
    simp only [az_st] at h
    split at h
    rotate_left
    · cases h
    unfold az_dv at h
    split at h
    · cases h
    rename_i hne
    obtain ⟨-, hk⟩ := hKs _ _ _ _ h
    simp only [hln] at hk
    refine lv_idiv hx hb hdc hne ?_
    exact hk hn0 hs0 _ _ _ hrel hS hL
  | irem =>
    have hln : az_bp y (k + 1) = pc + 1 := by simpa [az_sw1, az_il] using hln
    have hdc : decode (az_mc y) pc = .ok (.irem, 1) := by rw [hln, Nat.add_sub_cancel_left] at hdc; exact hdc
    simp only [az_st] at h
    split at h
    rotate_left
    · cases h
    unfold az_dv at h
    split at h
    · cases h
    rename_i hne
    obtain ⟨-, hk⟩ := hKs _ _ _ _ h
    simp only [hln] at hk
    refine lv_irem hx hb hdc hne ?_
    exact hk hn0 hs0 _ _ _ hrel hS hL
  | dup =>
    have hln : az_bp y (k + 1) = pc + 1 := by simpa [az_sw1, az_il] using hln
    have hdc : decode (az_mc y) pc = .ok (.dup, 1) := by rw [hln, Nat.add_sub_cancel_left] at hdc; exact hdc
    simp only [az_st] at h
    split at h
    · obtain ⟨-, hk⟩ := hKs _ _ _ _ h
      simp only [hln] at hk
      refine lv_dup hx hb hdc rfl ?_
      exact hk hn0 hs0 _ _ _ hrel hS hL
    · obtain ⟨-, hk⟩ := hKs _ _ _ _ h
      simp only [hln] at hk
      refine lv_dup hx hb hdc rfl ?_
      exact hk hn0 hs0 _ _ _ hrel hS hL
    · cases h
  | pop =>
    have hln : az_bp y (k + 1) = pc + 1 := by simpa [az_sw1, az_il] using hln
    have hdc : decode (az_mc y) pc = .ok (.pop, 1) := by rw [hln, Nat.add_sub_cancel_left] at hdc; exact hdc
    simp only [az_st] at h
    split at h
    rotate_left
    · cases h
    obtain ⟨-, hk⟩ := hKs _ _ _ _ h
    simp only [hln] at hk
    refine lv_pop hx hb hdc rfl ?_
    exact hk hn0 hs0 _ _ _ hrel hS hL
  | dup2 =>
    have hln : az_bp y (k + 1) = pc + 1 := by simpa [az_sw1, az_il] using hln
    have hdc : decode (az_mc y) pc = .ok (.dup2, 1) := by rw [hln, Nat.add_sub_cancel_left] at hdc; exact hdc
    simp only [az_st] at h
    split at h
    rotate_left
    · cases h
    obtain ⟨-, hk⟩ := hKs _ _ _ _ h
    simp only [hln] at hk
    refine lv_dup2_11 hx hb hdc rfl rfl ?_
    exact hk hn0 hs0 _ _ _ hrel hS hL
  | ifCond cond off =>
    have hlm : az_bp y (k + 1) = pc + 3 := by simpa [az_sw1, az_il] using hln
    have hdm : decode (az_mc y) pc = .ok (.ifCond cond off, 3) := by rw [hlm, Nat.add_sub_cancel_left] at hdc; exact hdc
    have ht : (pc : Int) + off = (az_bp y a : Int) := by simpa [az_tr] using htr
    cases cond with
    | eq =>
      simp only [az_st] at h
      split at h
      rotate_left
      · cases h
      refine lv_if_eq hx hb hdm ht (fun hc => ?_) (fun hc => ?_)
      · rw [if_pos hc] at h
        obtain ⟨-, hk⟩ := hKs _ _ _ _ h
        exact hk hn0 hs0 _ _ _ hrel hS hL
      · rw [if_neg hc] at h
        obtain ⟨-, hk⟩ := hKs _ _ _ _ h
        simp only [hlm] at hk
        exact hk hn0 hs0 _ _ _ hrel hS hL
    | ne =>
      simp only [az_st] at h
      split at h
      rotate_left
      · cases h
      refine lv_if_ne hx hb hdm ht (fun hc => ?_) (fun hc => ?_)
      · rw [if_pos hc] at h
        obtain ⟨-, hk⟩ := hKs _ _ _ _ h
        exact hk hn0 hs0 _ _ _ hrel hS hL
      · rw [if_neg (fun hc1 => hc1 hc)] at h
        obtain ⟨-, hk⟩ := hKs _ _ _ _ h
        simp only [hlm] at hk
        exact hk hn0 hs0 _ _ _ hrel hS hL
    | lt =>
      simp only [az_st] at h
      split at h
      rotate_left
      · cases h
      refine lv_if_lt hx hb hdm ht (fun hc => ?_) (fun hc => ?_)
      · rw [if_pos hc] at h
        obtain ⟨-, hk⟩ := hKs _ _ _ _ h
        exact hk hn0 hs0 _ _ _ hrel hS hL
      · rw [if_neg hc] at h
        obtain ⟨-, hk⟩ := hKs _ _ _ _ h
        simp only [hlm] at hk
        exact hk hn0 hs0 _ _ _ hrel hS hL
    | ge =>
      simp only [az_st] at h
      split at h
      rotate_left
      · cases h
      refine lv_if_ge hx hb hdm ht (fun hc => ?_) (fun hc => ?_)
      · rw [if_pos hc] at h
        obtain ⟨-, hk⟩ := hKs _ _ _ _ h
        exact hk hn0 hs0 _ _ _ hrel hS hL
      · rw [if_neg hc] at h
        obtain ⟨-, hk⟩ := hKs _ _ _ _ h
        simp only [hlm] at hk
        exact hk hn0 hs0 _ _ _ hrel hS hL
    | gt =>
      simp only [az_st] at h
      split at h
      rotate_left
      · cases h
      refine lv_if_gt hx hb hdm ht (fun hc => ?_) (fun hc => ?_)
      · rw [if_pos hc] at h
        obtain ⟨-, hk⟩ := hKs _ _ _ _ h
        exact hk hn0 hs0 _ _ _ hrel hS hL
      · rw [if_neg hc] at h
        obtain ⟨-, hk⟩ := hKs _ _ _ _ h
        simp only [hlm] at hk
        exact hk hn0 hs0 _ _ _ hrel hS hL
    | le =>
      simp only [az_st] at h
      split at h
      rotate_left
      · cases h
      refine lv_if_le hx hb hdm ht (fun hc => ?_) (fun hc => ?_)
      · rw [if_pos hc] at h
        obtain ⟨-, hk⟩ := hKs _ _ _ _ h
        exact hk hn0 hs0 _ _ _ hrel hS hL
      · rw [if_neg hc] at h
        obtain ⟨-, hk⟩ := hKs _ _ _ _ h
        simp only [hlm] at hk
        exact hk hn0 hs0 _ _ _ hrel hS hL
  | if_icmp cond off =>
    have hlm : az_bp y (k + 1) = pc + 3 := by simpa [az_sw1, az_il] using hln
    have hdm : decode (az_mc y) pc = .ok (.if_icmp cond off, 3) := by rw [hlm, Nat.add_sub_cancel_left] at hdc; exact hdc
    have ht : (pc : Int) + off = (az_bp y a : Int) := by simpa [az_tr] using htr
    cases cond with
    | eq =>
      simp only [az_st] at h
      split at h
      rotate_left
      · cases h
      refine lv_icmp_eq hx hb hdm ht (fun hc => ?_) (fun hc => ?_)
      · rw [if_pos hc] at h
        obtain ⟨-, hk⟩ := hKs _ _ _ _ h
        exact hk hn0 hs0 _ _ _ hrel hS hL
      · rw [if_neg hc] at h
        obtain ⟨-, hk⟩ := hKs _ _ _ _ h
        simp only [hlm] at hk
        exact hk hn0 hs0 _ _ _ hrel hS hL
    | ne =>
      simp only [az_st] at h
      split at h
      rotate_left
      · cases h
      refine lv_icmp_ne hx hb hdm ht (fun hc => ?_) (fun hc => ?_)
      · rw [if_pos hc] at h
        obtain ⟨-, hk⟩ := hKs _ _ _ _ h
        exact hk hn0 hs0 _ _ _ hrel hS hL
      · rw [if_neg (fun hc1 => hc1 hc)] at h
        obtain ⟨-, hk⟩ := hKs _ _ _ _ h
        simp only [hlm] at hk
        exact hk hn0 hs0 _ _ _ hrel hS hL
    | lt =>
      simp only [az_st] at h
      split at h
      rotate_left
      · cases h
      refine lv_icmp_lt hx hb hdm ht (fun hc => ?_) (fun hc => ?_)
      · rw [if_pos hc] at h
        obtain ⟨-, hk⟩ := hKs _ _ _ _ h
        exact hk hn0 hs0 _ _ _ hrel hS hL
      · rw [if_neg hc] at h
        obtain ⟨-, hk⟩ := hKs _ _ _ _ h
        simp only [hlm] at hk
        exact hk hn0 hs0 _ _ _ hrel hS hL
    | ge =>
      simp only [az_st] at h
      split at h
      rotate_left
      · cases h
      refine lv_icmp_ge hx hb hdm ht (fun hc => ?_) (fun hc => ?_)
      · rw [if_pos hc] at h
        obtain ⟨-, hk⟩ := hKs _ _ _ _ h
        exact hk hn0 hs0 _ _ _ hrel hS hL
      · rw [if_neg hc] at h
        obtain ⟨-, hk⟩ := hKs _ _ _ _ h
        simp only [hlm] at hk
        exact hk hn0 hs0 _ _ _ hrel hS hL
    | gt =>
      simp only [az_st] at h
      split at h
      rotate_left
      · cases h
      refine lv_icmp_gt hx hb hdm ht (fun hc => ?_) (fun hc => ?_)
      · rw [if_pos hc] at h
        obtain ⟨-, hk⟩ := hKs _ _ _ _ h
        exact hk hn0 hs0 _ _ _ hrel hS hL
      · rw [if_neg hc] at h
        obtain ⟨-, hk⟩ := hKs _ _ _ _ h
        simp only [hlm] at hk
        exact hk hn0 hs0 _ _ _ hrel hS hL
    | le =>
      simp only [az_st] at h
      split at h
      rotate_left
      · cases h
      refine lv_icmp_le hx hb hdm ht (fun hc => ?_) (fun hc => ?_)
      · rw [if_pos hc] at h
        obtain ⟨-, hk⟩ := hKs _ _ _ _ h
        exact hk hn0 hs0 _ _ _ hrel hS hL
      · rw [if_neg hc] at h
        obtain ⟨-, hk⟩ := hKs _ _ _ _ h
        simp only [hlm] at hk
        exact hk hn0 hs0 _ _ _ hrel hS hL
  | goto off =>
    have hln : az_bp y (k + 1) = pc + 3 := by simpa [az_sw1, az_il] using hln
    have hdc : decode (az_mc y) pc = .ok (.goto off, 3) := by rw [hln, Nat.add_sub_cancel_left] at hdc; exact hdc
    simp only [az_st] at h
    have ht : (pc : Int) + off = (az_bp y a : Int) := by simpa [az_tr] using htr
    obtain ⟨-, hk⟩ := hKs _ _ _ _ h
    refine lv_goto hx hb hdc ht ?_
    exact hk hn0 hs0 _ _ _ hrel hS hL
  | ifnull off =>
    have hln : az_bp y (k + 1) = pc + 3 := by simpa [az_sw1, az_il] using hln
    have hdc : decode (az_mc y) pc = .ok (.ifnull off, 3) := by rw [hln, Nat.add_sub_cancel_left] at hdc; exact hdc
    simp only [az_st] at h
    have ht : (pc : Int) + off = (az_bp y a : Int) := by simpa [az_tr] using htr
    split at h
    · obtain ⟨-, hk⟩ := hKs _ _ _ _ h
      simp only [hln] at hk
      refine lv_ifnull hx hb hdc ?_
      exact hk hn0 hs0 _ _ _ hrel hS hL
    · obtain ⟨-, hk⟩ := hKs _ _ _ _ h
      refine lv_ifnullN hx hb hdc ht ?_
      exact hk hn0 hs0 _ _ _ hrel hS hL
    · cases h
  | ifnonnull off =>
    have hln : az_bp y (k + 1) = pc + 3 := by simpa [az_sw1, az_il] using hln
    have hdc : decode (az_mc y) pc = .ok (.ifnonnull off, 3) := by rw [hln, Nat.add_sub_cancel_left] at hdc; exact hdc
    simp only [az_st] at h
    have ht : (pc : Int) + off = (az_bp y a : Int) := by simpa [az_tr] using htr
    split at h
    · obtain ⟨-, hk⟩ := hKs _ _ _ _ h
      refine lv_ifnonnull hx hb hdc ht ?_
      exact hk hn0 hs0 _ _ _ hrel hS hL
    · obtain ⟨-, hk⟩ := hKs _ _ _ _ h
      simp only [hln] at hk
      refine lv_ifnonnullN hx hb hdc ?_
      exact hk hn0 hs0 _ _ _ hrel hS hL
    · cases h
  | tableswitch df lo hh offs =>
    simp only [az_st] at h
    split at h
    rotate_left
    · cases h
    rename_i w st'
    obtain ⟨-, hk⟩ := hKs _ _ _ _ h
    simp only [az_tr, Bool.and_eq_true, decide_eq_true_eq, List.all_eq_true] at htr
    obtain ⟨⟨⟨t1, t2⟩, t3⟩, t4⟩ := htr
    by_cases hw : w.toInt < lo ∨ hh < w.toInt
    · refine lv_tableOut hx hb hdc hw t3 ?_
      have e1 : az_sw (az_tw y a) lo w = (az_tw y a).getLastD 0 := by
        unfold az_sw
        rw [if_pos]
        omega
      rw [e1] at hk
      exact hk hn0 hs0 _ _ _ hrel hS hL
    · have e1 : az_sw (az_tw y a) lo w = (az_tw y a).getD (w.toInt - lo).toNat 0 := by
        unfold az_sw
        rw [if_neg]
        omega
      have t5 := t4 (w.toInt - lo).toNat (List.mem_range.mpr (by omega))
      split at t5
      rotate_left
      · cases t5
      rename_i off hoff
      have t6 := of_decide_eq_true t5
      refine lv_tableIn hx hb hdc (fun q => hw (Or.inl q)) (fun q => hw (Or.inr q)) hoff t6 ?_
      rw [e1] at hk
      exact hk hn0 hs0 _ _ _ hrel hS hL
  | getfield j =>
    have hln : az_bp y (k + 1) = pc + 3 := by simpa [az_sw1, az_il] using hln
    have hdc : decode (az_mc y) pc = .ok (.getfield j, 3) := by rw [hln, Nat.add_sub_cancel_left] at hdc; exact hdc
    simp only [az_st] at h
    simp only [az_tr, Bool.and_eq_true, decide_eq_true_eq] at htr
    obtain ⟨⟨t1, t2⟩, t3⟩ := htr
    split at h
    rotate_left
    · cases h
    rename_i r st1
    split at h
    · unfold az_fI at h
      split at h
      rotate_left
      · cases h
      rename_i c1 fs hr
      split at h
      rotate_left
      · cases h
      rename_i hc1
      subst hc1
      split at h
      rotate_left
      · cases h
      rename_i w hw
      obtain ⟨-, hk⟩ := hKs _ _ _ _ h
      simp only [hln] at hk
      refine az_wget hx hb hts hown hK hrel hr t1 t2 (az_in_ws t3) hw hdc ?_
      exact hk hn0 hs0 _ _ _ hrel hS hL
    · unfold az_fR at h
      split at h
      rotate_left
      · cases h
      rename_i c1 fs hr
      split at h
      rotate_left
      · cases h
      rename_i hc1
      subst hc1
      split at h
      rotate_left
      · cases h
      rename_i w hw
      obtain ⟨-, hk⟩ := hKs _ _ _ _ h
      simp only [hln] at hk
      refine az_wget hx hb hts hown hK hrel hr t1 t2 (az_in_ws t3) hw hdc ?_
      exact hk hn0 hs0 _ _ _ hrel hS hL
  | putfield j =>
    have hln : az_bp y (k + 1) = pc + 3 := by simpa [az_sw1, az_il] using hln
    have hdc : decode (az_mc y) pc = .ok (.putfield j, 3) := by rw [hln, Nat.add_sub_cancel_left] at hdc; exact hdc
    simp only [az_st] at h
    simp only [az_tr, Bool.and_eq_true, decide_eq_true_eq] at htr
    obtain ⟨⟨⟨⟨t1, t2⟩, t3⟩, t4⟩, t5⟩ := htr
    have t4 : ((az_C a).2.1 b).2.2.2 = true → (az_nm y).name = "<init>" ∧ ((az_C a).2.1 b).1 = az_own y := by
      intro hf
      rw [if_pos hf] at t4
      simpa using t4
    split at h
    · rename_i w r st1
      split at h
      · have t6 : az_tf a b = .int := by simpa using t5
        unfold az_pt at h
        split at h
        rotate_left
        · cases h
        rename_i c1 fs hr
        split at h
        rotate_left
        · cases h
        rename_i hc1
        obtain ⟨hc1, hl⟩ := hc1
        subst hc1
        obtain ⟨-, hk⟩ := hKs _ _ _ _ h
        simp only [hln] at hk
        exact az_wput hx hb hts hown hK hrel hS hr t1 t2 (az_in_ws t3) (fun hf => ⟨hini (t4 hf).1, (t4 hf).2⟩) (by rw [t6]; rfl) (by rw [t6]; rfl) hl hdc fun H1 locs1 g1 g2 => hk hn0 hs0 _ _ _ g1 g2 hL
      · have t6 : az_tf a b = .boolean := by simpa using t5
        unfold az_w1 at h
        split at h
        rotate_left
        · cases h
        rename_i h01
        unfold az_pt at h
        split at h
        rotate_left
        · cases h
        rename_i c1 fs hr
        split at h
        rotate_left
        · cases h
        rename_i hc1
        obtain ⟨hc1, hl⟩ := hc1
        subst hc1
        obtain ⟨-, hk⟩ := hKs _ _ _ _ h
        simp only [hln] at hk
        exact az_wput hx hb hts hown hK hrel hS hr t1 t2 (az_in_ws t3) (fun hf => ⟨hini (t4 hf).1, (t4 hf).2⟩) (by rw [t6]; rcases h01 with rfl | rfl <;> rfl) (by rw [t6]; rcases h01 with rfl | rfl <;> rfl) hl hdc fun H1 locs1 g1 g2 => hk hn0 hs0 _ _ _ g1 g2 hL
      · cases h
    · rename_i w r st1
      split at h
      · have t6 : az_isr (az_tf a b) = true := by simpa using t5
        have t7 : ∀ q : Nat, narrow (az_tf a b) (.ref q) = .ref q ∧ fits (az_tf a b) (.ref q) = true := by
          intro q
          cases hty : az_tf a b <;> simp [hty, az_isr] at t6 <;> exact ⟨rfl, rfl⟩
        unfold az_pt at h
        split at h
        rotate_left
        · cases h
        rename_i c1 fs hr
        split at h
        rotate_left
        · cases h
        rename_i hc1
        obtain ⟨hc1, hl⟩ := hc1
        subst hc1
        obtain ⟨-, hk⟩ := hKs _ _ _ _ h
        simp only [hln] at hk
        exact az_wput hx hb hts hown hK hrel hS hr t1 t2 (az_in_ws t3) (fun hf => ⟨hini (t4 hf).1, (t4 hf).2⟩) (t7 w).1 (t7 w).2 hl hdc fun H1 locs1 g1 g2 => hk hn0 hs0 _ _ _ g1 g2 hL
      · cases h
    · cases h
  | arraylength =>
    have hln : az_bp y (k + 1) = pc + 1 := by simpa [az_sw1, az_il] using hln
    have hdc : decode (az_mc y) pc = .ok (.arraylength, 1) := by rw [hln, Nat.add_sub_cancel_left] at hdc; exact hdc
    simp only [az_st] at h
    split at h
    rotate_left
    · cases h
    rename_i r st1
    split at h
    · rename_i hb9
      subst hb9
      have hy0 : y = 0 := by simpa [az_tr] using htr
      obtain ⟨s1, s2, s3⟩ := hsc hy0
      split at h
      rotate_left
      · cases h
      rename_i hr
      subst hr
      obtain ⟨-, hk⟩ := hKs _ _ _ _ h
      simp only [hln] at hk
      refine va_slen hx hb s1 s2 (Nat.not_le.mpr s3) hS hdc ?_
      exact hk hn0 hs0 _ _ _ hrel hS hL
    · rename_i hb9
      have hb4 : b < 4 := by simpa [az_tr, hb9] using htr
      unfold az_ln at h
      split at h
      rotate_left
      · cases h
      rename_i c1 n f hr
      split at h
      rotate_left
      · cases h
      rename_i hc1
      subst hc1
      obtain ⟨-, hk⟩ := hKs _ _ _ _ h
      simp only [hln] at hk
      refine az_waln hx hb hK hrel hb4 hr hdc ?_
      exact hk hn0 hs0 _ _ _ hrel hS hL
  | iaload =>
    have hln : az_bp y (k + 1) = pc + 1 := by simpa [az_sw1, az_il] using hln
    have hdc : decode (az_mc y) pc = .ok (.iaload, 1) := by rw [hln, Nat.add_sub_cancel_left] at hdc; exact hdc
    simp only [az_st] at h
    split at h
    rotate_left
    · cases h
    rename_i j r st1
    split at h
    · rename_i hb9
      subst hb9
      have hy0 : y = 0 := by simpa [az_tr] using htr
      obtain ⟨s1, s2, s3⟩ := hsc hy0
      split at h
      rotate_left
      · cases h
      rename_i hr
      obtain ⟨hr, hin⟩ := hr
      subst hr
      obtain ⟨-, hk⟩ := hKs _ _ _ _ h
      simp only [hln] at hk
      refine va_sld hx hb s1 s2 (Nat.not_le.mpr s3) hS hin hdc ?_
      exact hk hn0 hs0 _ _ _ hrel hS hL
    · unfold az_aI at h
      split at h
      rotate_left
      · cases h
      rename_i c1 n f hr
      split at h
      rotate_left
      · cases h
      rename_i hc1
      obtain ⟨hc1, hin⟩ := hc1
      subst hc1
      obtain ⟨-, hk⟩ := hKs _ _ _ _ h
      simp only [hln] at hk
      refine az_wial hx hb hK hrel hr hin hdc ?_
      exact hk hn0 hs0 _ _ _ hrel hS hL
  | baload =>
    have hln : az_bp y (k + 1) = pc + 1 := by simpa [az_sw1, az_il] using hln
    have hdc : decode (az_mc y) pc = .ok (.baload, 1) := by rw [hln, Nat.add_sub_cancel_left] at hdc; exact hdc
    simp only [az_st] at h
    split at h
    rotate_left
    · cases h
    rename_i j r st1
    unfold az_aI at h
    split at h
    rotate_left
    · cases h
    rename_i c1 n f hr
    split at h
    rotate_left
    · cases h
    rename_i hc1
    obtain ⟨hc1, hin⟩ := hc1
    subst hc1
    obtain ⟨-, hk⟩ := hKs _ _ _ _ h
    simp only [hln] at hk
    refine az_wzal hx hb hK hrel hr hin hdc ?_
    exact hk hn0 hs0 _ _ _ hrel hS hL
  | aaload =>
    have hln : az_bp y (k + 1) = pc + 1 := by simpa [az_sw1, az_il] using hln
    have hdc : decode (az_mc y) pc = .ok (.aaload, 1) := by rw [hln, Nat.add_sub_cancel_left] at hdc; exact hdc
    simp only [az_st] at h
    have hkd : b = 2 ∨ b = 3 := by simpa [az_tr] using htr
    split at h
    rotate_left
    · cases h
    rename_i j r st1
    unfold az_aR at h
    split at h
    rotate_left
    · cases h
    rename_i c1 n f hr
    split at h
    rotate_left
    · cases h
    rename_i hc1
    obtain ⟨hc1, hin⟩ := hc1
    subst hc1
    split at h
    rotate_left
    · cases h
    rename_i q hq
    obtain ⟨-, hk⟩ := hKs _ _ _ _ h
    simp only [hln] at hk
    refine az_waal hx hb hK hrel hkd hr hin hq hdc ?_
    exact hk hn0 hs0 _ _ _ hrel hS hL
  | iastore =>
    have hln : az_bp y (k + 1) = pc + 1 := by simpa [az_sw1, az_il] using hln
    have hdc : decode (az_mc y) pc = .ok (.iastore, 1) := by rw [hln, Nat.add_sub_cancel_left] at hdc; exact hdc
    simp only [az_st] at h
    split at h
    rotate_left
    · cases h
    rename_i w j r st1
    unfold az_sI at h
    split at h
    rotate_left
    · cases h
    rename_i c1 n f hr
    split at h
    rotate_left
    · cases h
    rename_i hc1
    obtain ⟨hc1, hin⟩ := hc1
    subst hc1
    obtain ⟨-, hk⟩ := hKs _ _ _ _ h
    simp only [hln] at hk
    exact az_wias hx hb hK hrel hS hr hin hdc fun H1 locs1 g1 g2 => hk hn0 hs0 _ _ _ g1 g2 hL
  | bastore =>
    have hln : az_bp y (k + 1) = pc + 1 := by simpa [az_sw1, az_il] using hln
    have hdc : decode (az_mc y) pc = .ok (.bastore, 1) := by rw [hln, Nat.add_sub_cancel_left] at hdc; exact hdc
    simp only [az_st] at h
    split at h
    rotate_left
    · cases h
    rename_i w j r st1
    unfold az_w1 at h
    split at h
    rotate_left
    · cases h
    rename_i h01
    unfold az_sI at h
    split at h
    rotate_left
    · cases h
    rename_i c1 n f hr
    split at h
    rotate_left
    · cases h
    rename_i hc1
    obtain ⟨hc1, hin⟩ := hc1
    subst hc1
    obtain ⟨-, hk⟩ := hKs _ _ _ _ h
    simp only [hln] at hk
    exact az_wzas hx hb hK hrel hS hr h01 hin hdc fun H1 locs1 g1 g2 => hk hn0 hs0 _ _ _ g1 g2 hL
  | aastore =>
    have hln : az_bp y (k + 1) = pc + 1 := by simpa [az_sw1, az_il] using hln
    have hdc : decode (az_mc y) pc = .ok (.aastore, 1) := by rw [hln, Nat.add_sub_cancel_left] at hdc; exact hdc
    simp only [az_st] at h
    have hkd : b = 2 ∨ b = 3 := by simpa [az_tr] using htr
    split at h
    rotate_left
    · cases h
    rename_i v j r st1
    unfold az_sR at h
    split at h
    rotate_left
    · cases h
    rename_i c1 n f hr
    split at h
    rotate_left
    · cases h
    rename_i cv vs hv
    split at h
    rotate_left
    · cases h
    rename_i hc1
    obtain ⟨hc1, hc2, hin⟩ := hc1
    subst hc1
    subst hc2
    obtain ⟨-, hk⟩ := hKs _ _ _ _ h
    simp only [hln] at hk
    exact az_waas hx hb hK hrel hS hkd hr hv hin hdc fun H1 locs1 g1 g2 => hk hn0 hs0 _ _ _ g1 g2 hL
  | new j =>
    have hln : az_bp y (k + 1) = pc + 3 := by simpa [az_sw1, az_il] using hln
    have hdc : decode (az_mc y) pc = .ok (.new j, 3) := by rw [hln, Nat.add_sub_cancel_left] at hdc; exact hdc
    simp only [az_st] at h
    simp only [az_tr, Bool.and_eq_true, decide_eq_true_eq] at htr
    obtain ⟨t1, t2⟩ := htr
    unfold az_nO at h
    obtain ⟨hu, hk⟩ := hKs _ _ _ _ h
    simp only [hln] at hk
    have u1 := hu.1
    have u2 := hu.2
    simp only [az_psh] at u1 u2
    have e1 : (G.2.1 - n0) + 1 = G.2.1 + 1 - n0 := by omega
    have e2 : (G.2.2 - s0) + az_nf a = G.2.2 + az_nf a - s0 := by omega
    refine az_wnew hx hb hts hown hK hrel hS t1 (az_in_ws t2) (by omega) (by omega) hdc fun H1 g1 g2 => ?_
    rw [e1, e2]
    exact hk (Nat.le_succ_of_le hn0) (Nat.le_add_right_of_le hs0) _ _ _ g1 g2 hL
  | newarray t =>
    have hln : az_bp y (k + 1) = pc + 2 := by simpa [az_sw1, az_il] using hln
    have hdc : decode (az_mc y) pc = .ok (.newarray t, 2) := by rw [hln, Nat.add_sub_cancel_left] at hdc; exact hdc
    simp only [az_st] at h
    have ht : (t = .int ∧ b = 0) ∨ (t = .boolean ∧ b = 1) := by simpa [az_tr] using htr
    split at h
    rotate_left
    · cases h
    rename_i n st1
    unfold az_nA at h
    split at h
    rotate_left
    · cases h
    rename_i hn
    obtain ⟨hu, hk⟩ := hKs _ _ _ _ h
    simp only [hln] at hk
    have u1 := hu.1
    have u2 := hu.2
    simp only [az_psh] at u1 u2
    have e1 : (G.2.1 - n0) + 1 = G.2.1 + 1 - n0 := by omega
    have e2 : (G.2.2 - s0) + n.toNatClampNeg = G.2.2 + n.toNatClampNeg - s0 := by omega
    refine az_wnwa hx hb hts hK hrel hS ht hn.1 hn.2 (by omega) (by omega) hdc fun H1 g1 g2 => ?_
    rw [e1, e2]
    exact hk (Nat.le_succ_of_le hn0) (Nat.le_add_right_of_le hs0) _ _ _ g1 g2 hL
  | anewarray j =>
    have hln : az_bp y (k + 1) = pc + 3 := by simpa [az_sw1, az_il] using hln
    have hdc : decode (az_mc y) pc = .ok (.anewarray j, 3) := by rw [hln, Nat.add_sub_cancel_left] at hdc; exact hdc
    simp only [az_st] at h
    simp only [az_tr, Bool.and_eq_true] at htr
    have hkd : b = 2 ∨ b = 3 := by simpa using htr.1
    split at h
    rotate_left
    · cases h
    rename_i n st1
    unfold az_nR at h
    split at h
    rotate_left
    · cases h
    rename_i hn
    obtain ⟨hu, hk⟩ := hKs _ _ _ _ h
    simp only [hln] at hk
    have u1 := hu.1
    have u2 := hu.2
    simp only [az_psh] at u1 u2
    have e1 : (G.2.1 - n0) + 1 = G.2.1 + 1 - n0 := by omega
    have e2 : (G.2.2 - s0) + n.toNatClampNeg = G.2.2 + n.toNatClampNeg - s0 := by omega
    refine az_wnwq hx hb hts hown hK hrel hS hkd (az_in_ws htr.2) hn.1 hn.2 (by omega) (by omega) hdc fun H1 g1 g2 => ?_
    rw [e1, e2]
    exact hk (Nat.le_succ_of_le hn0) (Nat.le_add_right_of_le hs0) _ _ _ g1 g2 hL
  | invokestatic j =>
    have hln : az_bp y (k + 1) = pc + 3 := by simpa [az_sw1, az_il] using hln
    have hdc : decode (az_mc y) pc = .ok (.invokestatic j, 3) := by rw [hln, Nat.add_sub_cancel_left] at hdc; exact hdc
    simp only [az_st] at h
    split at h
    · rename_i hc8
      subst hc8
      simp only [az_tr, if_true, Bool.and_eq_true, decide_eq_true_eq] at htr
      obtain ⟨⟨t1, t2⟩, t3⟩ := htr
      split at h
      rotate_left
      · cases h
      rename_i w v st1
      unfold az_rm at h
      split at h
      rotate_left
      · cases h
      rename_i hrm
      obtain ⟨hu, hk⟩ := hKs _ _ _ _ h
      simp only [hln] at hk
      have u1 := hu.1
      have u2 := hu.2
      unfold az_cat at hrm
      exact va_mmax hx hb (hml.trans hL.1.symm) hown (hts _ (az_in_ws t1)) (hts _ az_mx1) (hts _ az_mx2) (hts _ az_mx3) (by omega) (by omega) (by omega) (by omega) hdc (hk hn0 hs0 _ _ _ hrel hS hL)
    · rename_i hc8
      simp only [az_tr, hc8, if_false, Bool.and_eq_true] at htr
      obtain ⟨⟨t1, t2⟩, t3⟩ := htr
      split at h
      · cases h
      rename_i hlen
      unfold az_rm at h
      split at h
      rotate_left
      · cases h
      rename_i hrm
      obtain ⟨v, G1, g1, g2⟩ := az_cl_inv h
      obtain ⟨u1, hM⟩ := hC _ _ _ _ _ g1
      obtain ⟨u2, hk⟩ := hKs _ _ _ _ g2
      simp only [hln] at hk
      obtain ⟨a0, a1⟩ := az_cal_lt t1
      have hst : (st.take b).reverse.reverse ++ st.drop b = st := by rw [List.reverse_reverse, List.take_append_drop]
      rw [← hst]
      exact az_callS (y := y) X hK hRf hRl hRc hRs (hM a0 a1) u1 u2 t1 t2 t3 (hmok a a0 a1) hn0 hs0 (by rw [List.length_reverse, List.length_take]; omega) hrm hrel hS hL.1 hdc fun H1 locs1 q1 q2 => hk (Nat.le_trans hn0 u1.1) (Nat.le_trans hs0 u1.2) _ _ _ q1 q2 hL
  | invokevirtual j =>
    have hln : az_bp y (k + 1) = pc + 3 := by simpa [az_sw1, az_il] using hln
    have hdc : decode (az_mc y) pc = .ok (.invokevirtual j, 3) := by rw [hln, Nat.add_sub_cancel_left] at hdc; exact hdc
    simp only [az_st] at h
    simp only [az_tr, Bool.and_eq_true, decide_eq_true_eq, Bool.not_eq_true'] at htr
    obtain ⟨⟨⟨⟨⟨t1, t2⟩, t3⟩, t4⟩, t5⟩, t6⟩ := htr
    split at h
    · cases h
    rename_i hlen
    unfold az_rm at h
    split at h
    rotate_left
    · cases h
    rename_i hrm
    split at h
    rotate_left
    · cases h
    rename_i r vs hrv
    unfold az_rc at h
    split at h
    rotate_left
    · cases h
    rename_i cr fs hr
    split at h
    rotate_left
    · cases h
    rename_i hcr
    subst hcr
    obtain ⟨v, G1, g1, g2⟩ := az_cl_inv h
    obtain ⟨u1, hM⟩ := hC _ _ _ _ _ g1
    obtain ⟨u2, hk⟩ := hKs _ _ _ _ g2
    simp only [hln] at hk
    obtain ⟨a0, a1⟩ := az_cal_lt t1
    have hst : vs.reverse ++ .ref r :: st.drop b = st := by
      have q1 := congrArg List.reverse hrv
      rw [List.reverse_reverse, List.reverse_cons] at q1
      rw [List.append_cons, ← q1, List.take_append_drop]
    have hvl : vs.length = b - 1 := by
      have q1 := congrArg List.length hrv
      rw [List.length_reverse, List.length_take, List.length_cons] at q1
      omega
    rw [← hst]
    exact az_callV (y := y) X hK hRf hRl hRc hRs (hM a0 a1) u1 u2 t1 t2 t3 (hmok a a0 a1) t4 t5 t6 hr hn0 hs0 hvl hrm hrel hS hL.1 hdc fun H1 locs1 q1 q2 => hk (Nat.le_trans hn0 u1.1) (Nat.le_trans hs0 u1.2) _ _ _ q1 q2 hL
  | invokespecial j =>
    have hln : az_bp y (k + 1) = pc + 3 := by simpa [az_sw1, az_il] using hln
    have hdc : decode (az_mc y) pc = .ok (.invokespecial j, 3) := by rw [hln, Nat.add_sub_cancel_left] at hdc; exact hdc
    simp only [az_st] at h
    split at h
    · cases h
    rename_i hlen
    unfold az_rm at h
    split at h
    rotate_left
    · cases h
    rename_i hrm
    split at h
    rotate_left
    · cases h
    rename_i r vs hrv
    have hst : vs.reverse ++ .ref r :: st.drop b = st := by
      have q1 := congrArg List.reverse hrv
      rw [List.reverse_reverse, List.reverse_cons] at q1
      rw [List.append_cons, ← q1, List.take_append_drop]
    have hvl : vs.length = b - 1 := by
      have q1 := congrArg List.length hrv
      rw [List.length_reverse, List.length_take, List.length_cons] at q1
      omega
    split at h
    · rename_i hc9
      subst hc9
      simp only [az_tr, if_true, Bool.and_eq_true, decide_eq_true_eq] at htr
      obtain ⟨⟨⟨t1, t2⟩, t3⟩, t4⟩ := htr
      subst t2
      have hv0 : vs = [] := List.eq_nil_of_length_eq_zero hvl
      subst hv0
      obtain ⟨-, hk⟩ := hKs _ _ _ _ h
      simp only [hln] at hk
      have hst2 : st = .ref r :: st.drop 1 := hst.symm
      rw [hst2]
      refine W.objInit hx hb hown (hts _ (az_in_ws t1)) (hts _ az_oii) (hts _ az_oic) rfl (hL.1.trans hml.symm) rfl hdc (by omega) ?_ (hk hn0 hs0 _ _ _ hrel hS hL)
      have := hrm
      unfold az_cat at this
      show 2 * 0 + _ + 12 ≤ _
      omega
    · rename_i hc9
      simp only [az_tr, hc9, if_false, Bool.and_eq_true, decide_eq_true_eq, Bool.not_eq_true'] at htr
      obtain ⟨⟨⟨⟨⟨t1, t2⟩, t3⟩, t4⟩, t5⟩, t6⟩ := htr
      obtain ⟨v, G1, g1, g2⟩ := az_cl_inv h
      obtain ⟨u1, hM⟩ := hC _ _ _ _ _ g1
      obtain ⟨u2, hk⟩ := hKs _ _ _ _ g2
      simp only [hln] at hk
      obtain ⟨a0, a1⟩ := az_cal_lt t1
      rw [← hst]
      exact az_callI (y := y) X hK hRf hRl hRc hRs (hM a0 a1) u1 u2 t1 t2 t3 t4 (hmok a a0 a1) t5 t6 hn0 hs0 hvl hrm hrel hS hL.1 hdc fun H1 locs1 q1 q2 => hk (Nat.le_trans hn0 u1.1) (Nat.le_trans hs0 u1.2) _ _ _ q1 q2 hL
  | ireturn =>
    have hln : az_bp y (k + 1) = pc + 1 := by simpa [az_sw1, az_il] using hln
    have hdc : decode (az_mc y) pc = .ok (.ireturn, 1) := by rw [hln, Nat.add_sub_cancel_left] at hdc; exact hdc
    simp only [az_st] at h
    split at h
    rotate_left
    · cases h
    rename_i w
    split at h
    · have t1 : az_rt y = some .int := by simpa [az_tr] using htr
      cases h
      exact hret _ _ _ _ _ _ (Or.inl ⟨rfl, w, rfl, rfl, Or.inl t1⟩) hdc hrel hS
    · rename_i hne
      have t1 : az_rt y = some .boolean := by
        cases c' with
        | zero => exact absurd rfl hne
        | succ n => simpa [az_tr] using htr
      unfold az_zr at h
      split at h
      rotate_left
      · cases h
      rename_i h01
      cases h
      exact hret _ _ _ _ _ _ (Or.inl ⟨rfl, w, rfl, rfl, Or.inr ⟨t1, h01⟩⟩) hdc hrel hS
  | lreturn =>
    have hln : az_bp y (k + 1) = pc + 1 := by simpa [az_sw1, az_il] using hln
    have hdc : decode (az_mc y) pc = .ok (.lreturn, 1) := by rw [hln, Nat.add_sub_cancel_left] at hdc; exact hdc
    simp only [az_st] at h
    split at h
    rotate_left
    · cases h
    rename_i w
    have t1 : az_rt y = some .long := by simpa [az_tr] using htr
    cases h
    exact hret _ _ _ _ _ _ (Or.inr (Or.inl ⟨rfl, w, rfl, rfl, t1⟩)) hdc hrel hS
  | areturn =>
    have hln : az_bp y (k + 1) = pc + 1 := by simpa [az_sw1, az_il] using hln
    have hdc : decode (az_mc y) pc = .ok (.areturn, 1) := by rw [hln, Nat.add_sub_cancel_left] at hdc; exact hdc
    simp only [az_st] at h
    simp only [az_tr] at htr
    split at htr
    rotate_left
    · cases htr
    rename_i t ht
    split at h
    · rename_i w
      cases h
      exact hret _ _ _ _ _ _ (Or.inr (Or.inr (Or.inl ⟨rfl, _, t, rfl, rfl, Or.inr ⟨w, rfl⟩, ht, htr⟩))) hdc hrel hS
    · cases h
      exact hret _ _ _ _ _ _ (Or.inr (Or.inr (Or.inl ⟨rfl, _, t, rfl, rfl, Or.inl rfl, ht, htr⟩))) hdc hrel hS
    · cases h
  | return_ =>
    have hln : az_bp y (k + 1) = pc + 1 := by simpa [az_sw1, az_il] using hln
    have hdc : decode (az_mc y) pc = .ok (.return_, 1) := by rw [hln, Nat.add_sub_cancel_left] at hdc; exact hdc
    simp only [az_st] at h
    split at h
    rotate_left
    · cases h
    have t1 : az_rt y = none := by simpa [az_tr] using htr
    cases h
    exact hret _ _ _ _ _ _ (Or.inr (Or.inr (Or.inr ⟨rfl, rfl, rfl, t1⟩))) hdc hrel hS
  | _ => simp only [az_st] at h; cases h
