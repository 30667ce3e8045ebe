/-! SIEVES: bits; is a set a sieve (the first rows out of the kit's texts for pasting) -/
def bt (x : Int32) (i : Nat) : Bool := x.toBitVec.getLsbD i
theorem b_ext {x y : Int32} (h : ∀ i, i < 32 → bt x i = bt y i) : x = y := Int32.toBitVec_inj.mp (BitVec.eq_of_getLsbD_eq (fun i hi => h i hi))
theorem b_or (x y : Int32) (i : Nat) : bt (x ||| y) i = (bt x i || bt y i) := by unfold bt; rw [Int32.toBitVec_or, BitVec.getLsbD_or]
theorem b_and (x y : Int32) (i : Nat) : bt (x &&& y) i = (bt x i && bt y i) := by unfold bt; rw [Int32.toBitVec_and, BitVec.getLsbD_and]
theorem b_xor (x y : Int32) (i : Nat) : bt (x ^^^ y) i = (bt x i ^^ bt y i) := by unfold bt; rw [Int32.toBitVec_xor, BitVec.getLsbD_xor]
theorem b_big {x : Int32} {i : Nat} (h : 32 ≤ i) : bt x i = false := BitVec.getLsbD_of_ge _ _ h
theorem b_255 (i : Nat) : bt 255 i = decide (i < 8) := by
  rcases Nat.lt_or_ge i 32 with h | h
  · exact (by decide +kernel : ∀ i, i < 32 → bt 255 i = decide (i < 8)) i h
  · rw [b_big h, decide_eq_false (by omega)]
theorem b_65535 (i : Nat) : bt 65535 i = decide (i < 16) := by
  rcases Nat.lt_or_ge i 32 with h | h
  · exact (by decide +kernel : ∀ i, i < 32 → bt 65535 i = decide (i < 16)) i h
  · rw [b_big h, decide_eq_false (by omega)]
theorem b_m1 : ∀ i, i < 32 → bt (-1) i = true := by decide +kernel
theorem b_0 (i : Nat) : bt 0 i = false := BitVec.getLsbD_zero
theorem s_l : ∀ n, n < 32 → ((nI n &&& 31).toBitVec.smod 32).toNat = n := by decide +kernel
theorem s_u : ∀ n, n < 32 → (((nI n).toUInt32 &&& Int32.toUInt32 31).toBitVec % 32).toNat = n := by decide +kernel
theorem b_shl (n : Nat) (hn : n < 32) (x : Int32) {i : Nat} (hi : i < 32) : bt (x <<< (nI n &&& 31)) i = (decide (n ≤ i) && bt x (i - n)) := by
  unfold bt
  rw [Int32.toBitVec_shiftLeft]
  show (x.toBitVec <<< ((nI n &&& 31).toBitVec.smod 32).toNat).getLsbD i = _
  rw [s_l n hn, BitVec.getLsbD_shiftLeft]
  rcases Nat.lt_or_ge i n with h | h
  · simp [h, Nat.not_le.mpr h]
  · simp [hi, h, Nat.not_lt.mpr h]
theorem b_ushr (n : Nat) (hn : n < 32) (x : Int32) (i : Nat) : bt ((x.toUInt32 >>> ((nI n).toUInt32 &&& Int32.toUInt32 31)).toInt32) i = bt x (n + i) := by
  show (x.toUInt32 >>> ((nI n).toUInt32 &&& Int32.toUInt32 31)).toBitVec.getLsbD i = x.toUInt32.toBitVec.getLsbD (n + i)
  rw [UInt32.toBitVec_shiftRight]
  show (x.toUInt32.toBitVec >>> (((nI n).toUInt32 &&& Int32.toUInt32 31).toBitVec % 32).toNat).getLsbD i = _
  rw [s_u n hn, BitVec.getLsbD_ushiftRight]
theorem b_sshr (n : Nat) (hn : n < 32) (x : Int32) {i : Nat} (hi : i < 32) : bt (x >>> (nI n &&& 31)) i = if n + i < 32 then bt x (n + i) else bt x 31 := by
  unfold bt
  rw [Int32.toBitVec_shiftRight]
  show (x.toBitVec.sshiftRight ((nI n &&& 31).toBitVec.smod 32).toNat).getLsbD i = _
  rw [s_l n hn, BitVec.getLsbD_sshiftRight, BitVec.msb_eq_getLsbD_last]
  simp [hi]
theorem b_shl8 (x : Int32) {i : Nat} (hi : i < 32) : bt (x <<< ((8 : Int32) &&& 31)) i = (decide (8 ≤ i) && bt x (i - 8)) := b_shl 8 (by omega) x hi
theorem b_shl16 (x : Int32) {i : Nat} (hi : i < 32) : bt (x <<< ((16 : Int32) &&& 31)) i = (decide (16 ≤ i) && bt x (i - 16)) := b_shl 16 (by omega) x hi
theorem b_shl24 (x : Int32) {i : Nat} (hi : i < 32) : bt (x <<< ((24 : Int32) &&& 31)) i = (decide (24 ≤ i) && bt x (i - 24)) := b_shl 24 (by omega) x hi
theorem b_sshr8 (x : Int32) {i : Nat} (hi : i < 32) : bt (x >>> ((8 : Int32) &&& 31)) i = if 8 + i < 32 then bt x (8 + i) else bt x 31 := b_sshr 8 (by omega) x hi
theorem b_1 : ∀ i, i < 32 → bt 1 i = decide (i = 0) := by decide +kernel
theorem sb_1 (v : Int32) {c : Nat} (hc : c < 32) : ((v >>> (nI c &&& 31)) &&& 1) = if bt v c = true then (1 : Int32) else 0 := by
  refine b_ext fun i hi => ?_
  rw [b_and, b_sshr c hc v hi, b_1 i hi]
  by_cases e : i = 0
  · subst e
    rw [if_pos (by omega), Nat.add_zero]
    cases bt v c <;> simp [b_1, b_0]
  · have h0 : bt (if bt v c = true then (1 : Int32) else 0) i = false := by
      split
      · rw [b_1 i hi]; simp [e]
      · exact b_0 i
    rw [h0]
    simp [e]
theorem bz_1 (v : Int32) {c : Nat} (hc : c < 32) {α : Sort _} (X Y : α) : (if ((v >>> (nI c &&& 31)) &&& 1) = (0 : Int32) then X else Y) = if bt v c = true then Y else X := by
  rw [sb_1 v hc]
  cases bt v c <;> rfl
theorem bn_1 (v : Int32) {c : Nat} (hc : c < 32) {α : Sort _} (X Y : α) : (if ¬ ((v >>> (nI c &&& 31)) &&& 1) = (0 : Int32) then X else Y) = if bt v c = true then X else Y := by
  rw [sb_1 v hc]
  cases bt v c <;> rfl
theorem bo_1 (v : Int32) {c : Nat} (hc : c < 32) {α : Sort _} (X Y : α) : (if ¬ ((v >>> (nI c &&& 31)) &&& 1) = (1 : Int32) then X else Y) = if bt v c = true then Y else X := by
  rw [sb_1 v hc]
  cases bt v c <;> rfl
theorem b_sh1 {a i : Nat} (ha : a < 32) (hi : i < 32) : bt ((1 : Int32) <<< (nI a &&& 31)) i = decide (i = a) := by
  rw [b_shl a ha 1 hi, b_1 _ (by omega)]
  by_cases e : i = a
  · subst e
    simp
  · by_cases e2 : a ≤ i
    · have : ¬ i - a = 0 := by omega
      simp [e, e2, this]
    · simp [e, e2]
theorem b_zero {v : Int32} : v = 0 ↔ ∀ i, i < 32 → bt v i = false := by
  constructor
  · intro h i _
    rw [h]
    exact b_0 i
  · intro h
    refine b_ext fun i hi => ?_
    rw [h i hi, b_0]
theorem b_neg {v : Int32} : v < 0 ↔ bt v 31 = true := by
  have h1 : bt v 31 = v.toBitVec.msb := (BitVec.msb_eq_getLsbD_last v.toBitVec).symm
  rw [h1, BitVec.msb_eq_toInt, Int32.lt_iff_toInt_lt]
  simp only [decide_eq_true_eq]
  exact Iff.rfl
/-- the arrows into an object -/
def amS (T : tb) (y a : Nat) (r : Int32) : Int32 := if to T a = y then r ||| ((1 : Int32) <<< (nI a &&& 31)) else r ||| 0
def amF (T : tb) (y : Nat) : Int32 := flB (amS T y) (tK T) 0
theorem amF_bt (T : tb) (y : Nat) : ∀ n, n ≤ 32 → ∀ i, i < 32 → bt (flB (amS T y) n 0) i = (decide (i < n) && decide (to T i = y)) := by
  intro n
  induction n with
  | zero =>
    intro _ i _
    show bt 0 i = _
    rw [b_0]
    simp
  | succ n ih =>
    intro hn i hi
    show bt (amS T y n (flB (amS T y) n 0)) i = _
    by_cases c : to T n = y
    · have ea : amS T y n (flB (amS T y) n 0) = flB (amS T y) n 0 ||| ((1 : Int32) <<< (nI n &&& 31)) := if_pos c
      rw [ea, b_or, ih (by omega) i hi, b_sh1 (by omega) hi]
      by_cases e : i = n
      · subst e
        simp [c]
      · have : (i < n + 1) ↔ (i < n) := by omega
        simp [e, this]
    · have ea : amS T y n (flB (amS T y) n 0) = flB (amS T y) n 0 ||| 0 := if_neg c
      rw [ea, b_or, ih (by omega) i hi, b_0]
      by_cases e : i = n
      · subst e
        simp [c]
      · have : (i < n + 1) ↔ (i < n) := by omega
        simp [this]
def sv1 (T : tb) (y : Nat) (v : Int32) : Bool := exB (fun i => bt v i && !(decide (i < tK T) && decide (to T i = y))) 32
def haB (T : tb) (v : Int32) (b : Nat) : Bool := exB (fun a => decide (to T a = fr T b) && !bt v (wv T a b)) (tK T)
/-- no sieve -/
def svN (T : tb) (y : Nat) (v : Int32) : Bool := sv1 T y v || exB (fun b => bt v b && haB T v b) (tK T)
theorem sv1_c {T : tb} (hk : tK T ≤ 24) (y : Nat) (v : Int32) : (v &&& (amF T y ^^^ (-1))) = 0 ↔ sv1 T y v = false := by
  rw [b_zero]
  constructor
  · intro h
    refine exB_none fun i hi => ?_
    have := h i hi
    rw [b_and, b_xor, b_m1 i hi] at this
    unfold amF at this
    rw [amF_bt T y (tK T) (by omega) i hi] at this
    cases h1 : bt v i <;> cases h2 : (decide (i < tK T) && decide (to T i = y)) <;> simp [h1, h2] at this ⊢
  · intro h i hi
    have h3 : (bt v i && !(decide (i < tK T) && decide (to T i = y))) = false := by
      cases hz : (bt v i && !(decide (i < tK T) && decide (to T i = y))) with
      | false => rfl
      | true =>
        have : sv1 T y v = true := exB_iff.mpr ⟨i, hi, hz⟩
        rw [this] at h
        cases h
    rw [b_and, b_xor, b_m1 i hi]
    unfold amF
    rw [amF_bt T y (tK T) (by omega) i hi]
    cases h1 : bt v i <;> cases h2 : (decide (i < tK T) && decide (to T i = y)) <;> simp [h1, h2] at h3 ⊢
section SIEVA
variable {sc : az_S} {G : az_H} {t : Nat} {T : tb}
theorem s_arrowsInto (h : tbC G t T) (hw : tbW T) {y : Nat} (hy : y < 24) : az_ca sc iX4_arrowsInto [.ref t, .int (nI y)] G = some (some (.int (amF T y)), G) := by
  have hk := hw.k24
  have hn6 := hw.n6
  rw [eX4_arrowsInto]
  refine (lp_fl (fun a r (_ : Unit) => az_rn sc iX4_arrowsInto 4 [some (.ref t), some (.int (nI y)), some (.int r), some (.int (nI a))] [] G) (amS T y) (fun r => some (some (.int r), G)) (tK T) (fun a r _ ha => ⟨(), ?_⟩) (fun r _ => ?_) 0 ()).trans rfl
  · have f2 := hw.ton ha
    rw [bX4_arrowsInto_4, tb_f1 h, if_neg (nI_ge ha (by omega)), tb_rc h, s_toOf h (by omega), bI_s, hw.g ha, ite_nnI (by omega) (by omega), nI_1]
    unfold amS
    by_cases c : to T a = y
    · rw [if_neg (fun z => z c), if_pos c]
    · rw [if_pos c, if_neg c]
  · rw [bX4_arrowsInto_4, tb_f1 h, if_pos (nI_le (Nat.le_refl _) (by omega))]
theorem s_hasAllAhead (h : tbC G t T) (hw : tbW T) (ht : tld T) (v : Int32) {b : Nat} (hb : b < tK T) : az_ca sc iX4_hasAllAhead [.ref t, .int v, .int (nI b)] G = some (some (.int (if haB T v b = true then 0 else 1)), G) := by
  have hk := hw.k24
  rw [eX4_hasAllAhead]
  refine (lp_ex (fun a => az_rn sc iX4_hasAllAhead 2 [some (.ref t), some (.int v), some (.int (nI b)), some (.int (nI a))] [] G) (fun a => decide (to T a = fr T b) && !bt v (wv T a b)) (some (some (.int 0), G)) (some (some (.int 1), G)) (tK T) (fun a ha => ?_) ?_).trans ?_
  · rw [bX4_hasAllAhead_2, tb_f1 h, if_neg (nI_ge ha (by omega)), tb_rc h, s_isRow h hw ha hb, bI_s, nI_1]
    by_cases c : to T a = fr T b
    · obtain ⟨w1, w2⟩ := wv_eq hw ht ha hb c
      rw [if_pos c, if_neg (show ¬ (1 : Int32) = 0 by decide), tb_rc h, s_wayAt h ha hb hk, bI_s, w1, bn_1 v (by omega), zr_0]
      by_cases c2 : bt v (wv T a b) = true
      · rw [if_pos c2, if_neg (by simp [c2])]
      · rw [if_neg c2, if_pos (by simp [c, c2])]
    · rw [if_neg c, if_pos (show (0 : Int32) = 0 from rfl), if_neg (by simp [c])]
  · rw [bX4_hasAllAhead_2, tb_f1 h, if_pos (nI_le (Nat.le_refl _) (by omega)), zr_1]
  · unfold haB
    split <;> rfl
theorem s_isSieve (h : tbC G t T) (hw : tbW T) (ht : tld T) {y : Nat} (hy : y < 24) (v : Int32) : az_ca sc iX4_isSieve [.ref t, .int (nI y), .int v] G = some (some (.int (if svN T y v = true then 0 else 1)), G) := by
  have hk := hw.k24
  rw [eX4_isSieve, tb_rc h, s_arrowsInto h hw hy, bI_s]
  by_cases c : (v &&& (amF T y ^^^ (-1))) = 0
  · rw [if_pos c]
    refine (lp_ex (fun b => az_rn sc iX4_isSieve 12 [some (.ref t), some (.int (nI y)), some (.int v), some (.int (nI b))] [] G) (fun b => bt v b && haB T v b) (some (some (.int 0), G)) (some (some (.int 1), G)) (tK T) (fun b hb => ?_) ?_).trans ?_
    · rw [bX4_isSieve_12, tb_f1 h, if_neg (nI_ge hb (by omega)), bz_1 v (by omega), nI_1]
      by_cases c1 : bt v b = true
      · rw [if_pos c1, tb_rc h, s_hasAllAhead h hw ht v hb, bI_s, zr_0]
        by_cases c2 : haB T v b = true
        · rw [if_pos c2, if_neg (show ¬ ¬ (0 : Int32) = 0 by decide), if_pos (by simp [c1, c2])]
        · rw [if_neg c2, if_pos (show ¬ (1 : Int32) = 0 by decide), if_neg (by simp [c2])]
      · rw [if_neg c1, if_neg (by simp [c1])]
    · rw [bX4_isSieve_12, tb_f1 h, if_pos (nI_le (Nat.le_refl _) (by omega)), zr_1]
    · unfold svN
      rw [(sv1_c hk y v).mp c, Bool.false_or]
      split <;> rfl
  · have c1 : sv1 T y v = true := by
      cases hz : sv1 T y v with
      | true => rfl
      | false => exact absurd ((sv1_c hk y v).mpr hz) c
    rw [if_neg c, zr_0, if_pos]
    unfold svN
    rw [c1, Bool.true_or]
/-- a sieve pulled -/
def plS (T : tb) (v : Int32) (b a : Nat) (r : Int32) : Int32 := if to T a = fr T b ∧ bt v (wv T a b) = true then r ||| ((1 : Int32) <<< (nI a &&& 31)) else r
def plF (T : tb) (v : Int32) (b : Nat) : Int32 := flB (plS T v b) (tK T) 0
theorem s_pulled (h : tbC G t T) (hw : tbW T) (ht : tld T) (v : Int32) {b : Nat} (hb : b < tK T) : az_ca sc iX4_pulled [.ref t, .int v, .int (nI b)] G = some (some (.int (plF T v b)), G) := by
  have hk := hw.k24
  rw [eX4_pulled]
  refine (lp_fl (fun a r (_ : Unit) => az_rn sc iX4_pulled 4 [some (.ref t), some (.int v), some (.int (nI b)), some (.int r), some (.int (nI a))] [] G) (plS T v b) (fun r => some (some (.int r), G)) (tK T) (fun a r _ ha => ⟨(), ?_⟩) (fun r _ => ?_) 0 ()).trans rfl
  · rw [bX4_pulled_4, tb_f1 h, if_neg (nI_ge ha (by omega)), tb_rc h, s_isRow h hw ha hb, bI_s, nI_1]
    unfold plS
    by_cases c : to T a = fr T b
    · obtain ⟨w1, w2⟩ := wv_eq hw ht ha hb c
      rw [if_pos c, if_neg (show ¬ (1 : Int32) = 0 by decide), tb_rc h, s_wayAt h ha hb hk, bI_s, w1, bz_1 v (by omega)]
      by_cases c2 : bt v (wv T a b) = true
      · rw [if_pos c2, if_pos ⟨c, c2⟩]
      · rw [if_neg c2, if_neg (fun z => c2 z.2)]
    · rw [if_neg c, if_pos (show (0 : Int32) = 0 from rfl), if_neg (fun z => c z.1)]
  · rw [bX4_pulled_4, tb_f1 h, if_pos (nI_le (Nat.le_refl _) (by omega))]
end SIEVA
section SIEVM
variable {sc : az_S} {G : az_H} {m : Nat} {V : Nat → Int32} {A : Nat → Nat → Int32} {nt i : Nat} {Tb : Nat → tb}
theorem svN_m {T : tb} (hk : tK T ≤ 24) {y : Nat} {v : Int32} (h0 : ¬ v < 0) (h1 : (v >>> (nI (tK T) &&& 31)) = 0) : exB (fun b => bt v b && (!decide (to T b = y) || haB T v b)) (tK T) = svN T y v := by
  have h31 : bt v 31 = false := by
    cases hz : bt v 31 with
    | false => rfl
    | true => exact absurd (b_neg.mpr hz) h0
  have hhi : ∀ j, j < 32 → tK T ≤ j → bt v j = false := by
    intro j hj hk2
    have := b_zero.mp h1 (j - tK T) (by omega)
    rw [b_sshr (tK T) (by omega) v (by omega), if_pos (by omega)] at this
    have e : tK T + (j - tK T) = j := by omega
    rw [e] at this
    exact this
  rw [Bool.eq_iff_iff]
  unfold svN sv1
  rw [Bool.or_eq_true, exB_iff, exB_iff, exB_iff]
  constructor
  · rintro ⟨b, hb, hz⟩
    have hz' : bt v b = true ∧ (¬ to T b = y ∨ haB T v b = true) := by simpa using hz
    rcases hz'.2 with c | c
    · exact Or.inl ⟨b, by omega, by simp [hz'.1, c]⟩
    · exact Or.inr ⟨b, hb, by simp [hz'.1, c]⟩
  · rintro (⟨j, hj, hz⟩ | ⟨b, hb, hz⟩)
    · have hz' : bt v j = true ∧ (tK T ≤ j ∨ ¬ to T j = y) := by simpa using hz
      by_cases hjk : j < tK T
      · exact ⟨j, hjk, by simp [hz'.1, hz'.2.resolve_left (by omega)]⟩
      · rw [hhi j hj (by omega)] at hz'
        cases hz'.1
    · have hz' : bt v b = true ∧ haB T v b = true := by simpa using hz
      exact ⟨b, hb, by simp [hz'.1, hz'.2]⟩
theorem svN_t {T : tb} (hk : tK T ≤ 24) {y : Nat} {v : Int32} (h : v < 0 ∨ ¬ (v >>> (nI (tK T) &&& 31)) = 0) : svN T y v = true := by
  have key : ∃ j, j < 32 ∧ tK T ≤ j ∧ bt v j = true := by
    rcases h with h | h
    · exact ⟨31, by omega, by omega, b_neg.mp h⟩
    · rw [b_zero] at h
      have : ∃ j, j < 32 ∧ bt (v >>> (nI (tK T) &&& 31)) j = true := by
        refine Classical.byContradiction fun hno => h fun j hj => ?_
        cases hz : bt (v >>> (nI (tK T) &&& 31)) j with
        | false => rfl
        | true => exact absurd ⟨j, hj, hz⟩ hno
      obtain ⟨j, hj, hz⟩ := this
      rw [b_sshr (tK T) (by omega) v hj] at hz
      by_cases e : tK T + j < 32
      · rw [if_pos e] at hz
        exact ⟨tK T + j, e, by omega, hz⟩
      · rw [if_neg e] at hz
        exact ⟨31, by omega, by omega, hz⟩
  obtain ⟨j, hj, hjk, hz⟩ := key
  unfold svN sv1
  rw [Bool.or_eq_true]
  refine Or.inl (exB_iff.mpr ⟨j, hj, ?_⟩)
  have : ¬ j < tK T := by omega
  simp [hz, this]
theorem m_isSieve (h : mT V A nt Tb) (hi : i < nt) (ht : tld (Tb i)) {y : Nat} (hy : y < 24) (v : Int32) : az_ca sc iX6_isSieve [.ref m, .int (nI i), .int (nI y), .int v] (mdG G m V A) = some (some (.int (if svN (Tb i) y v = true then 0 else 1)), mdG G m V A) := by
  have h8 := h.2.1
  have hw := h.w hi
  have hk := hw.k24
  have hn6 := hw.n6
  rw [eX6_isSieve]
  by_cases h0 : v < 0
  · rw [if_pos h0, zr_0, if_pos (svN_t hk (Or.inl h0))]
  · rw [if_neg h0, md_r2, md_a2 (by omega), h.a hi]
    by_cases h1 : (v >>> (nI (tK (Tb i)) &&& 31)) = 0
    · rw [if_pos h1, ← svN_m hk h0 h1]
      have inner : ∀ b (o5 : Option Value), b < tK (Tb i) → az_rn sc iX6_isSieve 36 [some (.ref m), some (.int (nI i)), some (.int (nI y)), some (.int v), some (.int (nI b)), some (.int (nI 0))] [] (mdG G m V A) = if haB (Tb i) v b = true then some (some (.int 0), mdG G m V A) else az_rn sc iX6_isSieve 13 [some (.ref m), some (.int (nI i)), some (.int (nI y)), some (.int v), some (.int (nI (b + 1))), some (.int (nI (tK (Tb i))))] [] (mdG G m V A) := by
        intro b o5 hb
        refine lp_ex (fun a => az_rn sc iX6_isSieve 36 [some (.ref m), some (.int (nI i)), some (.int (nI y)), some (.int v), some (.int (nI b)), some (.int (nI a))] [] (mdG G m V A)) (fun a => decide (to (Tb i) a = fr (Tb i) b) && !bt v (wv (Tb i) a b)) (some (some (.int 0), mdG G m V A)) _ (tK (Tb i)) (fun a ha => ?_) ?_
        · have f1 := hw.ton ha
          have f2 := hw.frn hb
          rw [bX6_isSieve_36, md_r2, md_a2 (by omega), h.a hi, if_neg (nI_ge ha (by omega)), md_rc, m_to h hi ha, bI_s, md_rc, m_from h hi hb, bI_s, ite_nnI (by omega) (by omega), nI_1]
          by_cases c : to (Tb i) a = fr (Tb i) b
          · obtain ⟨w1, w2⟩ := wv_eq hw ht ha hb c
            rw [if_neg (fun z => z c), md_rc, m_wayIn h hi ha hb, bI_s, w1, bn_1 v (by omega), zr_0]
            by_cases c2 : bt v (wv (Tb i) a b) = true
            · rw [if_pos c2, if_neg (by simp [c2])]
            · rw [if_neg c2, if_pos (by simp [c, c2])]
          · rw [if_pos c, if_neg (by simp [c])]
        · rw [bX6_isSieve_36, md_r2, md_a2 (by omega), h.a hi, if_pos (nI_le (Nat.le_refl _) (by omega)), nI_1]
      refine (lp_exO (fun b (o5 : Option Value) => az_rn sc iX6_isSieve 13 [some (.ref m), some (.int (nI i)), some (.int (nI y)), some (.int v), some (.int (nI b)), o5] [] (mdG G m V A)) (fun b => bt v b && (!decide (to (Tb i) b = y) || haB (Tb i) v b)) (some (some (.int 0), mdG G m V A)) (some (some (.int 1), mdG G m V A)) (tK (Tb i)) (fun b o5 hb => ?_) (fun o5 => ?_) none).trans ?_
      · have f2 := hw.ton hb
        have e0 : az_rn sc iX6_isSieve 13 [some (.ref m), some (.int (nI i)), some (.int (nI y)), some (.int v), some (.int (nI b)), o5] [] (mdG G m V A) = if bt v b = true then (if to (Tb i) b = y then az_rn sc iX6_isSieve 36 [some (.ref m), some (.int (nI i)), some (.int (nI y)), some (.int v), some (.int (nI b)), some (.int (nI 0))] [] (mdG G m V A) else some (some (.int 0), mdG G m V A)) else az_rn sc iX6_isSieve 13 [some (.ref m), some (.int (nI i)), some (.int (nI y)), some (.int v), some (.int (nI (b + 1))), o5] [] (mdG G m V A) := by
          rw [bX6_isSieve_13, md_r2, md_a2 (by omega), h.a hi, if_neg (nI_ge hb (by omega)), bo_1 v (by omega), nI_1, md_rc, m_to h hi hb, bI_s, ite_nI (by omega) (by omega), zr_0]
          rfl
        refine ⟨fun hz => ?_, fun hz => ?_⟩
        · have hz' : bt v b = true ∧ (¬ to (Tb i) b = y ∨ haB (Tb i) v b = true) := by simpa using hz
          rw [e0, if_pos hz'.1]
          by_cases c : to (Tb i) b = y
          · rw [if_pos c, inner b o5 hb, if_pos (hz'.2.resolve_left (fun z => z c))]
          · rw [if_neg c]
        · by_cases c1 : bt v b = true
          · have hz' : to (Tb i) b = y ∧ haB (Tb i) v b = false := by simpa [c1] using hz
            refine ⟨some (.int (nI (tK (Tb i)))), ?_⟩
            rw [e0, if_pos c1, if_pos hz'.1, inner b o5 hb, if_neg (by rw [hz'.2]; decide)]
          · exact ⟨o5, by rw [e0, if_neg c1]⟩
      · rw [bX6_isSieve_13, md_r2, md_a2 (by omega), h.a hi, if_pos (nI_le (Nat.le_refl _) (by omega)), zr_1]
      · split <;> rfl
    · rw [if_neg h1, zr_0, if_pos (svN_t hk (Or.inr h1))]
theorem m_pulled (h : mT V A nt Tb) (hi : i < nt) (ht : tld (Tb i)) (v : Int32) {b : Nat} (hb : b < tK (Tb i)) : az_ca sc iX6_pulled [.ref m, .int (nI i), .int v, .int (nI b)] (mdG G m V A) = some (some (.int (plF (Tb i) v b)), mdG G m V A) := by
  have h8 := h.2.1
  have hw := h.w hi
  have hk := hw.k24
  have hn6 := hw.n6
  have f2 := hw.frn hb
  rw [eX6_pulled]
  refine (lp_fl (fun a r (_ : Unit) => az_rn sc iX6_pulled 4 [some (.ref m), some (.int (nI i)), some (.int v), some (.int (nI b)), some (.int r), some (.int (nI a))] [] (mdG G m V A)) (plS (Tb i) v b) (fun r => some (some (.int r), mdG G m V A)) (tK (Tb i)) (fun a r _ ha => ⟨(), ?_⟩) (fun r _ => ?_) 0 ()).trans rfl
  · have f1 := hw.ton ha
    rw [bX6_pulled_4, md_r2, md_a2 (by omega), h.a hi, if_neg (nI_ge ha (by omega)), md_rc, m_to h hi ha, bI_s, md_rc, m_from h hi hb, bI_s, ite_nnI (by omega) (by omega), nI_1]
    unfold plS
    by_cases c : to (Tb i) a = fr (Tb i) b
    · obtain ⟨w1, w2⟩ := wv_eq hw ht ha hb c
      rw [if_neg (fun z => z c), md_rc, m_wayIn h hi ha hb, bI_s, w1, bo_1 v (by omega)]
      by_cases c2 : bt v (wv (Tb i) a b) = true
      · rw [if_pos c2, if_pos ⟨c, c2⟩]
      · rw [if_neg c2, if_neg (fun z => c2 z.2)]
    · rw [if_pos c, if_neg (fun z => c z.1)]
  · rw [bX6_pulled_4, md_r2, md_a2 (by omega), h.a hi, if_pos (nI_le (Nat.le_refl _) (by omega))]
end SIEVM
