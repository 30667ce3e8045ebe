/-! a number's bits -/
def ob (v : Int64) (i j : Nat) : Bool := v.toBitVec.getLsbD (6 * i + j)
theorem bv_u1 (v : BitVec 64) (s : Nat) : (v >>> s) &&& 1#64 = if v.getLsbD s = true then 1#64 else 0#64 := by
  refine BitVec.eq_of_getLsbD_eq fun i hi => ?_
  by_cases h : i = 0
  · subst h
    rw [BitVec.getLsbD_and, BitVec.getLsbD_ushiftRight, Nat.add_zero]
    cases v.getLsbD s <;> rfl
  · have h1 : (1#64).getLsbD i = false := by
      rw [BitVec.getLsbD_one]
      simp [h]
    rw [BitVec.getLsbD_and, h1, Bool.and_false]
    cases v.getLsbD s
    · simp
    · simp [h]
theorem bv_s1 (v : BitVec 64) (s : Nat) (hs : s < 64) : (v.sshiftRight s) &&& 1#64 = if v.getLsbD s = true then 1#64 else 0#64 := by
  refine BitVec.eq_of_getLsbD_eq fun i hi => ?_
  by_cases h : i = 0
  · subst h
    rw [BitVec.getLsbD_and, BitVec.getLsbD_sshiftRight, Nat.add_zero]
    have h2 : (decide (64 ≤ 0)) = false := rfl
    rw [h2, if_pos hs]
    cases v.getLsbD s <;> rfl
  · have h1 : (1#64).getLsbD i = false := by
      rw [BitVec.getLsbD_one]
      simp [h]
    rw [BitVec.getLsbD_and, h1, Bool.and_false]
    cases v.getLsbD s
    · simp
    · simp [h]
theorem kk6 : ∀ i j : Fin 6, (Int32.toInt64 (6 * nI i.1 + nI j.1) &&& 63) = Int64.ofNat (6 * i.1 + j.1) := by decide
theorem ku6 : ∀ i j : Fin 6, ((Int32.toInt64 (6 * nI i.1 + nI j.1)).toUInt64 &&& Int64.toUInt64 63) = UInt64.ofNat (6 * i.1 + j.1) := by decide
theorem ks6 : ∀ s : Fin 36, ((Int64.ofNat s.1).toBitVec.smod 64).toNat = s.1 := by decide
theorem kv6 : ∀ s : Fin 36, ((UInt64.ofNat s.1).toBitVec % 64).toNat = s.1 := by decide
theorem st_bit (v : Int64) {i j : Nat} (hi : i < 6) (hj : j < 6) : ((v >>> (Int32.toInt64 (6 * nI i + nI j) &&& 63)) &&& 1) = if ob v i j = true then (1 : Int64) else 0 := by
  have h1 : (Int32.toInt64 (6 * nI i + nI j) &&& 63) = Int64.ofNat (6 * i + j) := kk6 ⟨i, hi⟩ ⟨j, hj⟩
  have h2 : ((Int64.ofNat (6 * i + j)).toBitVec.smod 64).toNat = 6 * i + j := ks6 ⟨6 * i + j, by omega⟩
  rw [h1]
  apply Int64.toBitVec_inj.mp
  rw [Int64.toBitVec_and, Int64.toBitVec_shiftRight]
  show (v.toBitVec.sshiftRight ((Int64.ofNat (6 * i + j)).toBitVec.smod 64).toNat) &&& 1#64 = _
  rw [h2, bv_s1 _ _ (by omega)]
  unfold ob
  split <;> rfl
theorem hb_bit (v : Int64) {i j : Nat} (hi : i < 6) (hj : j < 6) : ((Int64.toUInt64 v >>> ((Int32.toInt64 (6 * nI i + nI j)).toUInt64 &&& Int64.toUInt64 63)).toInt64 &&& 1) = if ob v i j = true then (1 : Int64) else 0 := by
  have h1 : ((Int32.toInt64 (6 * nI i + nI j)).toUInt64 &&& Int64.toUInt64 63) = UInt64.ofNat (6 * i + j) := ku6 ⟨i, hi⟩ ⟨j, hj⟩
  have h2 : ((UInt64.ofNat (6 * i + j)).toBitVec % 64).toNat = 6 * i + j := kv6 ⟨6 * i + j, by omega⟩
  rw [h1]
  apply Int64.toBitVec_inj.mp
  rw [Int64.toBitVec_and]
  show (v.toBitVec >>> ((UInt64.ofNat (6 * i + j)).toBitVec % 64).toNat) &&& 1#64 = _
  rw [h2, bv_u1]
  unfold ob
  split <;> rfl
section BITS
variable {sc : az_S} {G : az_H}
theorem m_stands (v : Int64) {i j : Nat} (hi : i < 6) (hj : j < 6) : az_ca sc iX6_stands [.long v, .int (nI i), .int (nI j)] G = some (some (.int (if ob v i j = true then 1 else 0)), G) := by
  rw [eX6_stands, st_bit v hi hj]
  by_cases h : ob v i j = true
  · rw [if_pos h, if_pos h, if_neg (by decide), zr_1]
  · rw [if_neg h, if_neg h, if_pos (by decide), zr_0]
theorem s_hasBit (v : Int64) {i j : Nat} (hi : i < 6) (hj : j < 6) : az_ca sc iX5_hasBit [.long v, .int (nI i), .int (nI j)] G = some (some (.int (if ob v i j = true then 1 else 0)), G) := by
  rw [eX5_hasBit, hb_bit v hi hj]
  by_cases h : ob v i j = true
  · rw [if_pos h, if_pos h, if_neg (by decide), zr_1]
  · rw [if_neg h, if_neg h, if_pos (by decide), zr_0]
/-- is it the numbers of an order: the first row with a fault, if there is one -/
def ng3 (v : Int64) (n a b : Nat) : Bool := exB (fun c => ob v b c && !ob v a c) n
def ng2 (v : Int64) (n a : Nat) : Bool := exB (fun b => ob v a b && ng3 v n a b) n
def ng1 (v : Int64) (n : Nat) : Bool := exB (fun a => !ob v a a || ng2 v n a) n
theorem s_hasAllOf (v : Int64) {n a b : Nat} (hn : n ≤ 6) (ha : a < n) (hb : b < n) : az_ca sc iX5_hasAllOf [.int (nI n), .long v, .int (nI a), .int (nI b)] G = some (some (.int (if ng3 v n a b = true then 0 else 1)), G) := by
  rw [eX5_hasAllOf]
  refine (lp_ex (fun c => az_rn sc iX5_hasAllOf 2 [some (.int (nI n)), some (.long v), none, some (.int (nI a)), some (.int (nI b)), some (.int (nI c))] [] G) (fun c => ob v b c && !ob v a c) (some (some (.int 0), G)) (some (some (.int 1), G)) n (fun c hc => ?_) ?_).trans ?_
  · rw [bX5_hasAllOf_2, if_neg (nI_ge hc (by omega)), s_hasBit v (by omega) (by omega), bI_s, nI_1]
    by_cases h1 : ob v b c = true
    · rw [if_pos h1, if_neg (by decide), s_hasBit v (by omega) (by omega), bI_s]
      by_cases h2 : ob v a c = true
      · rw [if_pos h2, if_pos (by decide), if_neg (by simp [h2])]
      · rw [if_neg h2, if_neg (by decide), zr_0, if_pos (by simp [h1, h2])]
    · rw [if_neg h1, if_pos rfl, if_neg (by simp [h1])]
  · rw [bX5_hasAllOf_2, if_pos (nI_le (Nat.le_refl _) (by omega)), zr_1]
  · unfold ng3
    split <;> rfl
end BITS
