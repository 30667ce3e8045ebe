/-! SIEVES: the sets one after another -/
theorem tb_0 (n : Nat) : n.testBit 0 = decide (n % 2 = 1) := by
  rw [Nat.testBit_eq_decide_div_mod_eq, Nat.pow_zero, Nat.div_one]
theorem tb_s (n i : Nat) : n.testBit (i + 1) = (n / 2).testBit i := by
  rw [Nat.testBit_eq_decide_div_mod_eq, Nat.testBit_eq_decide_div_mod_eq, Nat.div_div_eq_div_mul, Nat.pow_succ, Nat.mul_comm]
theorem tb_up : ∀ i n : Nat, (∀ j, j < i → n.testBit j = true) → (n + 1).testBit i = !n.testBit i := by
  intro i
  induction i with
  | zero =>
    intro n _
    rw [tb_0, tb_0]
    rcases Nat.mod_two_eq_zero_or_one n with h | h
    · have : (n + 1) % 2 = 1 := by omega
      rw [h, this]
      rfl
    · have : (n + 1) % 2 = 0 := by omega
      rw [h, this]
      rfl
  | succ i ih =>
    intro n h
    have h0 := h 0 (Nat.succ_pos _)
    rw [tb_0] at h0
    have h1 : n % 2 = 1 := of_decide_eq_true h0
    have e : (n + 1) / 2 = n / 2 + 1 := by omega
    rw [tb_s, tb_s, e]
    refine ih (n / 2) (fun j hj => ?_)
    rw [← tb_s]
    exact h (j + 1) (by omega)
theorem tb_st : ∀ i n : Nat, (∃ j, j < i ∧ n.testBit j = false) → (n + 1).testBit i = n.testBit i := by
  intro i
  induction i with
  | zero =>
    rintro n ⟨j, hj, -⟩
    omega
  | succ i ih =>
    rintro n ⟨j, hj, hz⟩
    rw [tb_s, tb_s]
    rcases Nat.mod_two_eq_zero_or_one n with h | h
    · have e : (n + 1) / 2 = n / 2 := by omega
      rw [e]
    · have e : (n + 1) / 2 = n / 2 + 1 := by omega
      rw [e]
      refine ih (n / 2) ?_
      cases j with
      | zero =>
        rw [tb_0, h] at hz
        cases hz
      | succ j =>
        rw [tb_s] at hz
        exact ⟨j, by omega, hz⟩
/-- is k an arrow into y -/
def enB (T : tb) (y k : Nat) : Bool := decide (to T k = y)
def enN (T : tb) (y : Nat) : Nat := ctB (enB T y) (tK T)
def enQ (T : tb) (y k : Nat) : Bool := decide (k < tK T) && enB T y k
theorem amF_b {T : tb} (hk : tK T ≤ 24) (y : Nat) {k : Nat} (h : k < 32) : bt (amF T y) k = enQ T y k := by
  unfold amF
  rw [amF_bt T y (tK T) (by omega) k h]
  rfl
theorem enN_e {T : tb} (hk : tK T ≤ 24) (y : Nat) : enN T y = smB (fun k => if enQ T y k = true then 1 else 0) 24 := by
  rw [← ctB_smB]
  have h1 : ctB (enQ T y) 24 = ctB (enQ T y) (tK T) := ctB_idle hk (fun j h1 h2 => by
    unfold enQ
    rw [decide_eq_false (by omega)]
    rfl)
  have e : ctB (fun k => enQ T y k) 24 = ctB (enQ T y) 24 := rfl
  rw [e, h1]
  unfold enN
  refine ctB_congr (fun k hk2 => ?_)
  unfold enQ
  rw [decide_eq_true hk2]
  rfl
def enM (T : tb) (y : Nat) : Nat := smB (fun k => (if enQ T y k = true then 1 else 0) * 2 ^ k) 24
theorem enb_1 (T : tb) (y : Nat) : ∀ k, (if enQ T y k = true then 1 else 0) ≤ 1 := fun k => by split <;> omega
theorem nIb (n i : Nat) (hi : i < 32) : bt (nI n) i = n.testBit i := by
  show (BitVec.ofNat 32 n).getLsbD i = _
  rw [BitVec.getLsbD_ofNat, decide_eq_true hi, Bool.true_and]
theorem amF_nI {T : tb} (hk : tK T ≤ 24) (y : Nat) : amF T y = nI (enM T y) := by
  refine b_ext fun k hk2 => ?_
  rw [amF_b hk y hk2, nIb _ _ hk2]
  unfold enM
  rw [smB_bit (fun k => if enQ T y k = true then 1 else 0) (enb_1 T y)]
  by_cases h : k < 24
  · rw [decide_eq_true h]
    cases enQ T y k <;> rfl
  · rw [decide_eq_false h]
    have : enQ T y k = false := by
      unfold enQ
      rw [decide_eq_false (by omega)]
      rfl
    rw [this]
    rfl
theorem pc_fin (b : Nat → Nat) (hb : ∀ i, b i ≤ 1) : ((pcC (pcB (pcA (smB (fun i => b i * 2 ^ i) 24))) + pcC (pcB (pcA (smB (fun i => b i * 2 ^ i) 24))) / 256) + (pcC (pcB (pcA (smB (fun i => b i * 2 ^ i) 24))) + pcC (pcB (pcA (smB (fun i => b i * 2 ^ i) 24))) / 256) / 65536) &&& 63 = smB b 24 := by
  have e9 : smB b 24 = (b 0 + b 1 + (b 2 + b 3) + (b 4 + b 5 + (b 6 + b 7))) + (b 8 + b 9 + (b 10 + b 11) + (b 12 + b 13 + (b 14 + b 15))) + (b 16 + b 17 + (b 18 + b 19) + (b 20 + b 21 + (b 22 + b 23))) := by
    simp only [smB]
    omega
  have g8 : ∀ j, b j + b (j + 1) + (b (j + 2) + b (j + 3)) + (b (j + 4) + b (j + 5) + (b (j + 6) + b (j + 7))) ≤ 8 := by
    intro j
    have := hb j
    have := hb (j + 1)
    have := hb (j + 2)
    have := hb (j + 3)
    have := hb (j + 4)
    have := hb (j + 5)
    have := hb (j + 6)
    have := hb (j + 7)
    omega
  rw [pc_all b hb, pc_D _ _ _ (g8 0) (g8 8) (g8 16), e9]
theorem s_bitCount {sc : az_S} {G : az_H} {T : tb} (hk : tK T ≤ 24) (y : Nat) : az_ca sc iJ6_bitCount_0f7a4 [.int (amF T y)] G = some (some (.int (nI (enN T y))), G) := by
  have hM : enM T y < 2 ^ 24 := smB_lt2 _ (enb_1 T y) 24
  have hfin := pc_fin (fun k => if enQ T y k = true then 1 else 0) (enb_1 T y)
  have hsum := enN_e hk y
  have eM : smB (fun i => (if enQ T y i = true then 1 else 0) * 2 ^ i) 24 = enM T y := rfl
  rw [eM, ← hsum] at hfin
  rw [eJ6_bitCount_0f7a4, amF_nI hk y]
  generalize enM T y = M at hM hfin ⊢
  have a0 : (M / 2 &&& 1431655765) ≤ M := Nat.le_trans Nat.and_le_left (Nat.div_le_self _ _)
  have hA : nI M - (((nI M).toUInt32 >>> (Int32.toUInt32 1 &&& Int32.toUInt32 31)).toInt32 &&& 1431655765) = nI (pcA M) := by
    rw [pk_ushrN (n := M) (by omega) 1 1 (by decide)]
    show nI M - (nI (M / 2) &&& nI 1431655765) = _
    rw [nxb_and, pk_sub a0]
    rfl
  have lA : pcA M ≤ M := Nat.sub_le _ _
  have hB : (nI (pcA M) &&& 858993459) + (((nI (pcA M)).toUInt32 >>> (Int32.toUInt32 2 &&& Int32.toUInt32 31)).toInt32 &&& 858993459) = nI (pcB (pcA M)) := by
    rw [pk_ushrN (n := pcA M) (by omega) 2 2 (by decide)]
    show (nI (pcA M) &&& nI 858993459) + (nI (pcA M / 4) &&& nI 858993459) = _
    rw [nxb_and, nxb_and, nI_add]
    rfl
  have lB : pcB (pcA M) ≤ 2 * M := by
    have b1 : (pcA M &&& 858993459) ≤ pcA M := Nat.and_le_left
    have b2 : (pcA M / 4 &&& 858993459) ≤ pcA M := Nat.le_trans Nat.and_le_left (Nat.div_le_self _ _)
    unfold pcB
    omega
  have hC : ((nI (pcB (pcA M)) + ((nI (pcB (pcA M))).toUInt32 >>> (Int32.toUInt32 4 &&& Int32.toUInt32 31)).toInt32) &&& 252645135) = nI (pcC (pcB (pcA M))) := by
    rw [pk_ushrN (n := pcB (pcA M)) (by omega) 4 4 (by decide)]
    show ((nI (pcB (pcA M)) + nI (pcB (pcA M) / 16)) &&& nI 252645135) = _
    rw [nI_add, nxb_and]
    rfl
  have lC : pcC (pcB (pcA M)) ≤ 4 * M := by
    have b1 : pcC (pcB (pcA M)) ≤ pcB (pcA M) + pcB (pcA M) / 16 := Nat.and_le_left
    have b2 := Nat.div_le_self (pcB (pcA M)) 16
    omega
  rw [hA, hB, hC]
  generalize pcC (pcB (pcA M)) = C at hfin lC ⊢
  have lD := Nat.div_le_self C 256
  have hD : nI C + ((nI C).toUInt32 >>> (Int32.toUInt32 8 &&& Int32.toUInt32 31)).toInt32 = nI (C + C / 256) := by
    rw [pk_ushrN (n := C) (by omega) 8 8 (by decide)]
    show nI C + nI (C / 256) = _
    rw [nI_add]
  have hE : ((nI (C + C / 256) + ((nI (C + C / 256)).toUInt32 >>> (Int32.toUInt32 16 &&& Int32.toUInt32 31)).toInt32) &&& 63) = nI (((C + C / 256) + (C + C / 256) / 65536) &&& 63) := by
    rw [pk_ushrN (n := C + C / 256) (by omega) 16 16 (by decide)]
    show ((nI (C + C / 256) + nI ((C + C / 256) / 65536)) &&& nI 63) = _
    rw [nI_add, nxb_and]
  rw [hD, hE, hfin]
/-- the set whose bits are those of v, laid on the arrows into y -/
def isDp (T : tb) (y v : Nat) (s : Int32) : Prop := ∀ k, k < 32 → bt s k = (enQ T y k && v.testBit (ctB (enB T y) k))
def nxS (T : tb) (y : Nat) (s : Int32) : Int32 := (s - amF T y) &&& amF T y
def sdI (T : tb) (y : Nat) : Nat → Int32
  | 0 => 0
  | v + 1 => nxS T y (sdI T y v)
theorem isDp_u {T : tb} {y v : Nat} {s s' : Int32} (h : isDp T y v s) (h' : isDp T y v s') : s = s' := b_ext fun k hk => by rw [h k hk, h' k hk]
theorem ctB_hit {p : Nat → Bool} {n l : Nat} (h : l < ctB p n) : ∃ j, j < n ∧ p j = true ∧ ctB p j = l := by
  induction n with
  | zero => exact absurd h (Nat.not_lt_zero _)
  | succ n ih =>
    rw [ctB_succ] at h
    by_cases c : l < ctB p n
    · obtain ⟨j, j1, j2, j3⟩ := ih c
      exact ⟨j, by omega, j2, j3⟩
    · by_cases c2 : p n = true
      · rw [if_pos c2] at h
        exact ⟨n, by omega, c2, by omega⟩
      · rw [if_neg c2] at h
        omega
theorem isDp_n {T : tb} (hk : tK T ≤ 24) {y v : Nat} {s : Int32} (h : isDp T y v s) : isDp T y (v + 1) (nxS T y s) := by
  intro k hk2
  unfold nxS
  rw [b_and, amF_b hk y hk2]
  cases he : enQ T y k with
  | false => rw [Bool.and_false, Bool.false_and]
  | true =>
    rw [Bool.and_true, Bool.true_and]
    have hd : s.toBitVec &&& ~~~(amF T y).toBitVec = 0#32 := by
      refine BitVec.eq_of_getLsbD_eq fun i hi => ?_
      rw [BitVec.getLsbD_and, BitVec.getLsbD_not]
      have h1 : s.toBitVec.getLsbD i = bt s i := rfl
      have h2 : (amF T y).toBitVec.getLsbD i = bt (amF T y) i := rfl
      rw [h1, h2, h i hi, amF_b hk y hi]
      cases enQ T y i <;> simp
    have hW : (s - amF T y).toBitVec = (s.toBitVec ||| ~~~(amF T y).toBitVec) + 1#32 := by
      show s.toBitVec - (amF T y).toBitVec = _
      rw [BitVec.sub_eq_add_neg, BitVec.neg_eq_not_add, ← BitVec.add_assoc, BitVec.add_eq_or_of_and_eq_zero _ _ hd]
    generalize hw : s.toBitVec ||| ~~~(amF T y).toBitVec = W at hW
    have hbit : ∀ i, i < 32 → W.toNat.testBit i = if enQ T y i = true then v.testBit (ctB (enB T y) i) else true := by
      intro i hi
      have h1 : W.toNat.testBit i = W.getLsbD i := rfl
      rw [h1, ← hw, BitVec.getLsbD_or, BitVec.getLsbD_not]
      have h2 : s.toBitVec.getLsbD i = bt s i := rfl
      have h3 : (amF T y).toBitVec.getLsbD i = bt (amF T y) i := rfl
      rw [h2, h3, h i hi, amF_b hk y hi]
      cases enQ T y i <;> simp [hi]
    have hlhs : bt (s - amF T y) k = (W.toNat + 1).testBit k := by
      show (s - amF T y).toBitVec.getLsbD k = _
      rw [hW]
      show ((W + 1#32).toNat).testBit k = _
      rw [BitVec.toNat_add, Nat.testBit_mod_two_pow, decide_eq_true hk2, Bool.true_and]
      rfl
    rw [hlhs]
    have hek : k < tK T ∧ enB T y k = true := by
      unfold enQ at he
      simpa using he
    by_cases hall : ∀ l, l < ctB (enB T y) k → v.testBit l = true
    · rw [tb_up k W.toNat (fun j hj => ?_), tb_up _ v hall, hbit k hk2, if_pos he]
      rw [hbit j (by omega)]
      by_cases hq : enQ T y j = true
      · rw [if_pos hq]
        have hj2 : j < tK T ∧ enB T y j = true := by
          unfold enQ at hq
          simpa using hq
        exact hall _ (ctB_lt hj2.2 hj)
      · rw [if_neg hq]
    · have hex : ∃ l, l < ctB (enB T y) k ∧ v.testBit l = false := by
        refine Classical.byContradiction fun hno => hall fun l hl => ?_
        cases hz : v.testBit l with
        | true => rfl
        | false => exact absurd ⟨l, hl, hz⟩ hno
      obtain ⟨l, l1, l2⟩ := hex
      obtain ⟨j, j1, j2, j3⟩ := ctB_hit l1
      rw [tb_st k W.toNat ⟨j, j1, ?_⟩, tb_st _ v ⟨l, l1, l2⟩, hbit k hk2, if_pos he]
      have hq : enQ T y j = true := by
        unfold enQ
        rw [decide_eq_true (by omega), j2]
        rfl
      rw [hbit j (by omega), if_pos hq, j3, l2]
theorem isDp_0 (T : tb) (y : Nat) : isDp T y 0 0 := fun k hk => by
  rw [b_0]
  simp
theorem sdI_ok {T : tb} (hk : tK T ≤ 24) (y : Nat) : ∀ v, isDp T y v (sdI T y v) := by
  intro v
  induction v with
  | zero => exact isDp_0 T y
  | succ v ih => exact isDp_n hk ih
