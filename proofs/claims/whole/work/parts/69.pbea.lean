/-! OPERATION beside: the pairs' numbers; the table -/
def bnb (n m l a b : Nat) : Nat := if a < n then (if b < m then a * m + b else n * m + (a * (l - m) + (b - m))) else n * m + (n * (l - m) + ((a - n) * l + b))
def bp (n m l c : Nat) : Nat := if c < n * m then c / m else if c < n * m + n * (l - m) then (c - n * m) / (l - m) else n + (c - n * m - n * (l - m)) / l
def bq (n m l c : Nat) : Nat := if c < n * m then c % m else if c < n * m + n * (l - m) then m + (c - n * m) % (l - m) else (c - n * m - n * (l - m)) % l
def bdx (n m l a b : Nat) : Nat := if a < n then a * (l - m) + (b - m) else n * (l - m) + ((a - n) * l + b)
theorem be_dm {a b m : Nat} (h : b < m) : (a * m + b) / m = a ∧ (a * m + b) % m = b := by
  refine ⟨?_, ?_⟩
  · rw [Nat.mul_comm, Nat.mul_add_div (by omega), Nat.div_eq_of_lt h, Nat.add_zero]
  · rw [Nat.mul_comm, Nat.mul_add_mod, Nat.mod_eq_of_lt h]
theorem be_lt {a b n m : Nat} (ha : a < n) (hb : b < m) : a * m + b < n * m := by
  have h := Nat.mul_le_mul_right m (show a + 1 ≤ n by omega)
  rw [Nat.succ_mul] at h
  omega
theorem be_dv {c n d : Nat} (h : c < n * d) : c / d < n := Nat.div_lt_of_lt_mul (by rw [Nat.mul_comm]; exact h)
section BNB
variable {n m k l a b c : Nat}
theorem be_nl (hm : m ≤ l) : n * m + n * (l - m) = n * l := by
  rw [← Nat.mul_add, Nat.add_sub_cancel' hm]
theorem be_kl (hn : n ≤ k) : n * l + (k - n) * l = k * l := by
  rw [← Nat.add_mul, Nat.add_sub_cancel' hn]
theorem bp_sm (h : c < n * m) : bp n m l c < n ∧ bq n m l c < m ∧ bp n m l c * m + bq n m l c = c := by
  have e1 : bp n m l c = c / m := if_pos h
  have e2 : bq n m l c = c % m := if_pos h
  have h0 : 0 < m := by
    rcases Nat.eq_zero_or_pos m with z | z
    · rw [z, Nat.mul_zero] at h; omega
    · exact z
  rw [e1, e2]
  exact ⟨be_dv h, Nat.mod_lt _ h0, Nat.div_add_mod' c m⟩
theorem bp_nb (hm : m ≤ l) (hb : b < l) : bp n m l (bnb n m l a b) = a ∧ bq n m l (bnb n m l a b) = b := by
  by_cases h1 : a < n
  · by_cases h2 : b < m
    · have e : bnb n m l a b = a * m + b := (if_pos h1).trans (if_pos h2)
      have hl := be_lt h1 h2
      have e1 : bp n m l (a * m + b) = (a * m + b) / m := if_pos hl
      have e2 : bq n m l (a * m + b) = (a * m + b) % m := if_pos hl
      rw [e, e1, e2]
      exact be_dm h2
    · have e : bnb n m l a b = n * m + (a * (l - m) + (b - m)) := (if_pos h1).trans (if_neg h2)
      have hl := be_lt h1 (show b - m < l - m by omega)
      have g1 : ¬ n * m + (a * (l - m) + (b - m)) < n * m := by omega
      have g2 : n * m + (a * (l - m) + (b - m)) < n * m + n * (l - m) := by omega
      have e1 : bp n m l (n * m + (a * (l - m) + (b - m))) = (n * m + (a * (l - m) + (b - m)) - n * m) / (l - m) := (if_neg g1).trans (if_pos g2)
      have e2 : bq n m l (n * m + (a * (l - m) + (b - m))) = m + (n * m + (a * (l - m) + (b - m)) - n * m) % (l - m) := (if_neg g1).trans (if_pos g2)
      have hd := be_dm (a := a) (show b - m < l - m by omega)
      rw [e, e1, e2, Nat.add_sub_cancel_left, hd.1, hd.2]
      exact ⟨rfl, by omega⟩
  · have e : bnb n m l a b = n * m + (n * (l - m) + ((a - n) * l + b)) := if_neg h1
    have g1 : ¬ n * m + (n * (l - m) + ((a - n) * l + b)) < n * m := by omega
    have g2 : ¬ n * m + (n * (l - m) + ((a - n) * l + b)) < n * m + n * (l - m) := by omega
    have e1 : bp n m l (n * m + (n * (l - m) + ((a - n) * l + b))) = n + (n * m + (n * (l - m) + ((a - n) * l + b)) - n * m - n * (l - m)) / l := (if_neg g1).trans (if_neg g2)
    have e2 : bq n m l (n * m + (n * (l - m) + ((a - n) * l + b))) = (n * m + (n * (l - m) + ((a - n) * l + b)) - n * m - n * (l - m)) % l := (if_neg g1).trans (if_neg g2)
    have hd := be_dm (a := a - n) hb
    rw [e, e1, e2, Nat.add_sub_cancel_left, Nat.add_sub_cancel_left, hd.1, hd.2]
    exact ⟨by omega, rfl⟩
theorem bnb_lt (hn : n ≤ k) (hm : m ≤ l) (ha : a < k) (hb : b < l) : bnb n m l a b < k * l := by
  have e1 := be_nl (n := n) hm
  have e2 := be_kl (l := l) hn
  by_cases h1 : a < n
  · by_cases h2 : b < m
    · have e : bnb n m l a b = a * m + b := (if_pos h1).trans (if_pos h2)
      have hl := be_lt h1 h2
      omega
    · have e : bnb n m l a b = n * m + (a * (l - m) + (b - m)) := (if_pos h1).trans (if_neg h2)
      have hl := be_lt h1 (show b - m < l - m by omega)
      omega
  · have e : bnb n m l a b = n * m + (n * (l - m) + ((a - n) * l + b)) := if_neg h1
    have hl := be_lt (show a - n < k - n by omega) hb
    omega
theorem nb_bp (hn : n ≤ k) (hm : m ≤ l) (hc : c < k * l) : bp n m l c < k ∧ bq n m l c < l ∧ bnb n m l (bp n m l c) (bq n m l c) = c := by
  have e1 := be_nl (n := n) hm
  have e2 := be_kl (l := l) hn
  by_cases h1 : c < n * m
  · obtain ⟨g1, g2, g3⟩ := bp_sm (l := l) h1
    refine ⟨by omega, by omega, ?_⟩
    exact ((if_pos g1).trans (if_pos g2)).trans g3
  · by_cases h2 : c < n * m + n * (l - m)
    · have f1 : bp n m l c = (c - n * m) / (l - m) := (if_neg h1).trans (if_pos h2)
      have f2 : bq n m l c = m + (c - n * m) % (l - m) := (if_neg h1).trans (if_pos h2)
      have h3 : c - n * m < n * (l - m) := by omega
      have h0 : 0 < l - m := by
        rcases Nat.eq_zero_or_pos (l - m) with z | z
        · rw [z, Nat.mul_zero] at h3; omega
        · exact z
      have g1 : (c - n * m) / (l - m) < n := be_dv h3
      have g2 := Nat.mod_lt (c - n * m) h0
      have g3 := Nat.div_add_mod' (c - n * m) (l - m)
      rw [f1, f2]
      refine ⟨by omega, by omega, ?_⟩
      have e : bnb n m l ((c - n * m) / (l - m)) (m + (c - n * m) % (l - m)) = n * m + ((c - n * m) / (l - m) * (l - m) + (m + (c - n * m) % (l - m) - m)) := (if_pos g1).trans (if_neg (by omega))
      rw [e, Nat.add_sub_cancel_left, g3]
      omega
    · have f1 : bp n m l c = n + (c - n * m - n * (l - m)) / l := (if_neg h1).trans (if_neg h2)
      have f2 : bq n m l c = (c - n * m - n * (l - m)) % l := (if_neg h1).trans (if_neg h2)
      have h3 : c - n * m - n * (l - m) < (k - n) * l := by omega
      have h0 : 0 < l := by
        rcases Nat.eq_zero_or_pos l with z | z
        · rw [z, Nat.mul_zero] at h3; omega
        · exact z
      have g1 : (c - n * m - n * (l - m)) / l < k - n := be_dv h3
      have g2 := Nat.mod_lt (c - n * m - n * (l - m)) h0
      have g3 := Nat.div_add_mod' (c - n * m - n * (l - m)) l
      rw [f1, f2]
      refine ⟨by omega, g2, ?_⟩
      have e : bnb n m l (n + (c - n * m - n * (l - m)) / l) ((c - n * m - n * (l - m)) % l) = n * m + (n * (l - m) + ((n + (c - n * m - n * (l - m)) / l - n) * l + (c - n * m - n * (l - m)) % l)) := if_neg (Nat.not_lt.mpr (Nat.le_add_right _ _))
      rw [e, Nat.add_sub_cancel_left, g3]
      omega
theorem bdx_nb (h : ¬ (a < n ∧ b < m)) : bnb n m l a b = n * m + bdx n m l a b := by
  by_cases h1 : a < n
  · have e : bnb n m l a b = n * m + (a * (l - m) + (b - m)) := (if_pos h1).trans (if_neg (fun z => h ⟨h1, z⟩))
    have e2 : bdx n m l a b = a * (l - m) + (b - m) := if_pos h1
    rw [e, e2]
  · have e : bnb n m l a b = n * m + (n * (l - m) + ((a - n) * l + b)) := if_neg h1
    have e2 : bdx n m l a b = n * (l - m) + ((a - n) * l + b) := if_neg h1
    rw [e, e2]
theorem bdx_s0 (h1 : a < n) (h2 : b < m) : bdx n m l a (b + 1) = bdx n m l a b := by
  have e1 : bdx n m l a (b + 1) = a * (l - m) + (b + 1 - m) := if_pos h1
  have e2 : bdx n m l a b = a * (l - m) + (b - m) := if_pos h1
  rw [e1, e2]
  omega
theorem bdx_s1 (h : ¬ (a < n ∧ b < m)) : bdx n m l a (b + 1) = bdx n m l a b + 1 := by
  by_cases h1 : a < n
  · have e1 : bdx n m l a (b + 1) = a * (l - m) + (b + 1 - m) := if_pos h1
    have e2 : bdx n m l a b = a * (l - m) + (b - m) := if_pos h1
    rw [e1, e2]
    omega
  · have e1 : bdx n m l a (b + 1) = n * (l - m) + ((a - n) * l + (b + 1)) := if_neg h1
    have e2 : bdx n m l a b = n * (l - m) + ((a - n) * l + b) := if_neg h1
    rw [e1, e2]
    omega
theorem bdx_r : bdx n m l (a + 1) 0 = bdx n m l a l := by
  by_cases h1 : a < n
  · have e2 : bdx n m l a l = a * (l - m) + (l - m) := if_pos h1
    have e3 : (a + 1) * (l - m) = a * (l - m) + (l - m) := Nat.succ_mul _ _
    by_cases h2 : a + 1 < n
    · have e1 : bdx n m l (a + 1) 0 = (a + 1) * (l - m) + (0 - m) := if_pos h2
      rw [e1, e2]
      omega
    · have e4 : n = a + 1 := by omega
      have e1 : bdx n m l (a + 1) 0 = n * (l - m) + ((a + 1 - n) * l + 0) := if_neg h2
      have e5 : a + 1 - n = 0 := by omega
      rw [e1, e2, e5, e4, Nat.zero_mul]
      omega
  · have e1 : bdx n m l (a + 1) 0 = n * (l - m) + ((a + 1 - n) * l + 0) := if_neg (by omega)
    have e2 : bdx n m l a l = n * (l - m) + ((a - n) * l + l) := if_neg h1
    have e3 : a + 1 - n = (a - n) + 1 := by omega
    rw [e1, e2, e3, Nat.succ_mul]
    omega
theorem bdx_0 : bdx n m l 0 0 = 0 := by
  unfold bdx
  by_cases h : 0 < n
  · rw [if_pos h, Nat.zero_mul]
    omega
  · have e : n = 0 := by omega
    rw [if_neg h, e, Nat.zero_sub, Nat.zero_mul, Nat.zero_mul]
theorem bdx_e (hn : n ≤ k) (hm : m ≤ l) : n * m + bdx n m l k 0 = k * l := by
  have e1 := be_nl (n := n) hm
  have e2 := be_kl (l := l) hn
  have e3 : bdx n m l k 0 = n * (l - m) + ((k - n) * l + 0) := if_neg (by omega)
  omega
end BNB
