/-! SIEVES: how many bits -/
theorem hA_and (k a b w M : Nat) (ha : a < 2 ^ k) (hb : b < 2 ^ k) : (a + 2 ^ k * w) &&& (b + 2 ^ k * M) = (a &&& b) + 2 ^ k * (w &&& M) := by
  refine Nat.eq_of_testBit_eq fun i => ?_
  have h1 : a + 2 ^ k * w = 2 ^ k * w + a := Nat.add_comm _ _
  have h2 : b + 2 ^ k * M = 2 ^ k * M + b := Nat.add_comm _ _
  have h3 : (a &&& b) + 2 ^ k * (w &&& M) = 2 ^ k * (w &&& M) + (a &&& b) := Nat.add_comm _ _
  rw [Nat.testBit_and, h1, h2, h3, Nat.testBit_two_pow_mul_add _ ha, Nat.testBit_two_pow_mul_add _ hb, Nat.testBit_two_pow_mul_add _ (Nat.lt_of_le_of_lt Nat.and_le_left ha)]
  by_cases h : i < k
  · rw [if_pos h, if_pos h, if_pos h, Nat.testBit_and]
  · rw [if_neg h, if_neg h, if_neg h, Nat.testBit_and]
theorem pc_1 (d w m : Nat) (hd : d < 4) : (d + 4 * w) / 2 &&& (1 + 4 * m) = d / 2 + 4 * (w / 2 &&& m) := by
  have e1 : (d + 4 * w) / 2 = (d / 2 + 2 * (w % 2)) + 2 ^ 2 * (w / 2) := by omega
  rw [e1, hA_and 2 (d / 2 + 2 * (w % 2)) 1 (w / 2) m (by omega) (by omega), Nat.and_one_is_mod]
  omega
theorem pc_2 (c d w m : Nat) (hc : c < 4) (hd : d < 4) : (c + 4 * d + 16 * w) &&& (3 + 16 * m) = c + 16 * (w &&& m) := by
  rw [hA_and 4 (c + 4 * d) 3 w m (by omega) (by omega), show (3 : Nat) = 2 ^ 2 - 1 from rfl, Nat.and_two_pow_sub_one_eq_mod]
  omega
theorem pc_3 (c d w m : Nat) (hc : c < 16) (hd : d < 16) : (c + 16 * d + 256 * w) &&& (15 + 256 * m) = c + 256 * (w &&& m) := by
  rw [hA_and 8 (c + 16 * d) 15 w m (by omega) (by omega), show (15 : Nat) = 2 ^ 4 - 1 from rfl, Nat.and_two_pow_sub_one_eq_mod]
  omega
theorem pc_sA (d w x w1 x1 y1 : Nat) (hw : w = d + 4 * w1) (hx : x = d / 2 + 4 * x1) (h : x1 ≤ w1 ∧ w1 - x1 = y1) : x ≤ w ∧ w - x = (d - d / 2) + 4 * y1 := by
  omega
theorem pc_sB (a b p q p1 q1 y1 : Nat) (hp : p = a + 16 * p1) (hq : q = b + 16 * q1) (h : p1 + q1 = y1) : p + q = (a + b) + 16 * y1 := by
  omega
theorem pc_sW (c d w w1 z : Nat) (hw : w = c + 4 * d + 16 * w1) (h : z = w1) : c + 4 * (d + 4 * z) = w := by
  omega
theorem pc_sQ (c d w w1 u : Nat) (hc : c ≤ 2) (hw : w = c + 4 * d + 16 * w1) (h : d + 4 * w1 = u) : w / 4 = u := by
  omega
theorem pc_sU (c d v w w1 u u1 : Nat) (hw : w = d + 4 * v + 16 * w1) (h : v + 4 * w1 = u1) (hu : u = c + 4 * d + 16 * u1) : c + 4 * w = u := by
  omega
/-- the six steps of a count of bits -/
def pcA (v : Nat) : Nat := v - (v / 2 &&& 1431655765)
def pcB (a : Nat) : Nat := (a &&& 858993459) + (a / 4 &&& 858993459)
def pcC (a : Nat) : Nat := (a + a / 16) &&& 252645135
theorem pc_A (d0 d1 d2 d3 d4 d5 d6 d7 d8 d9 d10 d11 : Nat) (h0 : d0 < 4) (h1 : d1 < 4) (h2 : d2 < 4) (h3 : d3 < 4) (h4 : d4 < 4) (h5 : d5 < 4) (h6 : d6 < 4) (h7 : d7 < 4) (h8 : d8 < 4) (h9 : d9 < 4) (h10 : d10 < 4) (h11 : d11 < 4) : pcA (d0 + 4 * (d1 + 4 * (d2 + 4 * (d3 + 4 * (d4 + 4 * (d5 + 4 * (d6 + 4 * (d7 + 4 * (d8 + 4 * (d9 + 4 * (d10 + 4 * (d11)))))))))))) = (d0 - d0 / 2) + 4 * ((d1 - d1 / 2) + 4 * ((d2 - d2 / 2) + 4 * ((d3 - d3 / 2) + 4 * ((d4 - d4 / 2) + 4 * ((d5 - d5 / 2) + 4 * ((d6 - d6 / 2) + 4 * ((d7 - d7 / 2) + 4 * ((d8 - d8 / 2) + 4 * ((d9 - d9 / 2) + 4 * ((d10 - d10 / 2) + 4 * ((d11 - d11 / 2)))))))))))) := by
  obtain ⟨w12, hw12⟩ : ∃ w, w = 0 := ⟨0, rfl⟩
  obtain ⟨w11, hw11⟩ : ∃ w, w = d11 + 4 * w12 := ⟨_, rfl⟩
  obtain ⟨w10, hw10⟩ : ∃ w, w = d10 + 4 * w11 := ⟨_, rfl⟩
  obtain ⟨w9, hw9⟩ : ∃ w, w = d9 + 4 * w10 := ⟨_, rfl⟩
  obtain ⟨w8, hw8⟩ : ∃ w, w = d8 + 4 * w9 := ⟨_, rfl⟩
  obtain ⟨w7, hw7⟩ : ∃ w, w = d7 + 4 * w8 := ⟨_, rfl⟩
  obtain ⟨w6, hw6⟩ : ∃ w, w = d6 + 4 * w7 := ⟨_, rfl⟩
  obtain ⟨w5, hw5⟩ : ∃ w, w = d5 + 4 * w6 := ⟨_, rfl⟩
  obtain ⟨w4, hw4⟩ : ∃ w, w = d4 + 4 * w5 := ⟨_, rfl⟩
  obtain ⟨w3, hw3⟩ : ∃ w, w = d3 + 4 * w4 := ⟨_, rfl⟩
  obtain ⟨w2, hw2⟩ : ∃ w, w = d2 + 4 * w3 := ⟨_, rfl⟩
  obtain ⟨w1, hw1⟩ : ∃ w, w = d1 + 4 * w2 := ⟨_, rfl⟩
  obtain ⟨w0, hw0⟩ : ∃ w, w = d0 + 4 * w1 := ⟨_, rfl⟩
  obtain ⟨x12, hx12⟩ : ∃ x, x = 0 := ⟨0, rfl⟩
  obtain ⟨x11, hx11⟩ : ∃ x, x = d11 / 2 + 4 * x12 := ⟨_, rfl⟩
  obtain ⟨x10, hx10⟩ : ∃ x, x = d10 / 2 + 4 * x11 := ⟨_, rfl⟩
  obtain ⟨x9, hx9⟩ : ∃ x, x = d9 / 2 + 4 * x10 := ⟨_, rfl⟩
  obtain ⟨x8, hx8⟩ : ∃ x, x = d8 / 2 + 4 * x9 := ⟨_, rfl⟩
  obtain ⟨x7, hx7⟩ : ∃ x, x = d7 / 2 + 4 * x8 := ⟨_, rfl⟩
  obtain ⟨x6, hx6⟩ : ∃ x, x = d6 / 2 + 4 * x7 := ⟨_, rfl⟩
  obtain ⟨x5, hx5⟩ : ∃ x, x = d5 / 2 + 4 * x6 := ⟨_, rfl⟩
  obtain ⟨x4, hx4⟩ : ∃ x, x = d4 / 2 + 4 * x5 := ⟨_, rfl⟩
  obtain ⟨x3, hx3⟩ : ∃ x, x = d3 / 2 + 4 * x4 := ⟨_, rfl⟩
  obtain ⟨x2, hx2⟩ : ∃ x, x = d2 / 2 + 4 * x3 := ⟨_, rfl⟩
  obtain ⟨x1, hx1⟩ : ∃ x, x = d1 / 2 + 4 * x2 := ⟨_, rfl⟩
  obtain ⟨x0, hx0⟩ : ∃ x, x = d0 / 2 + 4 * x1 := ⟨_, rfl⟩
  have k12 : w12 / 2 &&& 85 = x12 := by rw [hw12, hx12]; rfl
  have k11 : w11 / 2 &&& 341 = x11 := by rw [hw11, show (341 : Nat) = 1 + 4 * 85 from rfl, pc_1 _ _ _ h11, k12, hx11]
  have k10 : w10 / 2 &&& 1365 = x10 := by rw [hw10, show (1365 : Nat) = 1 + 4 * 341 from rfl, pc_1 _ _ _ h10, k11, hx10]
  have k9 : w9 / 2 &&& 5461 = x9 := by rw [hw9, show (5461 : Nat) = 1 + 4 * 1365 from rfl, pc_1 _ _ _ h9, k10, hx9]
  have k8 : w8 / 2 &&& 21845 = x8 := by rw [hw8, show (21845 : Nat) = 1 + 4 * 5461 from rfl, pc_1 _ _ _ h8, k9, hx8]
  have k7 : w7 / 2 &&& 87381 = x7 := by rw [hw7, show (87381 : Nat) = 1 + 4 * 21845 from rfl, pc_1 _ _ _ h7, k8, hx7]
  have k6 : w6 / 2 &&& 349525 = x6 := by rw [hw6, show (349525 : Nat) = 1 + 4 * 87381 from rfl, pc_1 _ _ _ h6, k7, hx6]
  have k5 : w5 / 2 &&& 1398101 = x5 := by rw [hw5, show (1398101 : Nat) = 1 + 4 * 349525 from rfl, pc_1 _ _ _ h5, k6, hx5]
  have k4 : w4 / 2 &&& 5592405 = x4 := by rw [hw4, show (5592405 : Nat) = 1 + 4 * 1398101 from rfl, pc_1 _ _ _ h4, k5, hx4]
  have k3 : w3 / 2 &&& 22369621 = x3 := by rw [hw3, show (22369621 : Nat) = 1 + 4 * 5592405 from rfl, pc_1 _ _ _ h3, k4, hx3]
  have k2 : w2 / 2 &&& 89478485 = x2 := by rw [hw2, show (89478485 : Nat) = 1 + 4 * 22369621 from rfl, pc_1 _ _ _ h2, k3, hx2]
  have k1 : w1 / 2 &&& 357913941 = x1 := by rw [hw1, show (357913941 : Nat) = 1 + 4 * 89478485 from rfl, pc_1 _ _ _ h1, k2, hx1]
  have k0 : w0 / 2 &&& 1431655765 = x0 := by rw [hw0, show (1431655765 : Nat) = 1 + 4 * 357913941 from rfl, pc_1 _ _ _ h0, k1, hx0]
  have e0 : d0 + 4 * (d1 + 4 * (d2 + 4 * (d3 + 4 * (d4 + 4 * (d5 + 4 * (d6 + 4 * (d7 + 4 * (d8 + 4 * (d9 + 4 * (d10 + 4 * (d11))))))))))) = w0 := by rw [hw0, hw1, hw2, hw3, hw4, hw5, hw6, hw7, hw8, hw9, hw10, hw11, hw12, Nat.mul_zero, Nat.add_zero]
  have f12 : x12 ≤ w12 ∧ w12 - x12 = 0 := by rw [hw12, hx12]; exact ⟨Nat.le_refl _, rfl⟩
  have f11 := pc_sA _ _ _ _ _ _ hw11 hx11 f12
  have f10 := pc_sA _ _ _ _ _ _ hw10 hx10 f11
  have f9 := pc_sA _ _ _ _ _ _ hw9 hx9 f10
  have f8 := pc_sA _ _ _ _ _ _ hw8 hx8 f9
  have f7 := pc_sA _ _ _ _ _ _ hw7 hx7 f8
  have f6 := pc_sA _ _ _ _ _ _ hw6 hx6 f7
  have f5 := pc_sA _ _ _ _ _ _ hw5 hx5 f6
  have f4 := pc_sA _ _ _ _ _ _ hw4 hx4 f5
  have f3 := pc_sA _ _ _ _ _ _ hw3 hx3 f4
  have f2 := pc_sA _ _ _ _ _ _ hw2 hx2 f3
  have f1 := pc_sA _ _ _ _ _ _ hw1 hx1 f2
  have f0 := pc_sA _ _ _ _ _ _ hw0 hx0 f1
  unfold pcA
  rw [e0, k0, f0.2, Nat.mul_zero, Nat.add_zero]
theorem pc_B (c0 c1 c2 c3 c4 c5 c6 c7 c8 c9 c10 c11 : Nat) (h0 : c0 ≤ 2) (h1 : c1 ≤ 2) (h2 : c2 ≤ 2) (h3 : c3 ≤ 2) (h4 : c4 ≤ 2) (h5 : c5 ≤ 2) (h6 : c6 ≤ 2) (h7 : c7 ≤ 2) (h8 : c8 ≤ 2) (h9 : c9 ≤ 2) (h10 : c10 ≤ 2) (h11 : c11 ≤ 2) : pcB (c0 + 4 * (c1 + 4 * (c2 + 4 * (c3 + 4 * (c4 + 4 * (c5 + 4 * (c6 + 4 * (c7 + 4 * (c8 + 4 * (c9 + 4 * (c10 + 4 * (c11)))))))))))) = (c0 + c1) + 16 * ((c2 + c3) + 16 * ((c4 + c5) + 16 * ((c6 + c7) + 16 * ((c8 + c9) + 16 * ((c10 + c11)))))) := by
  obtain ⟨w6, hw6⟩ : ∃ w, w = 0 := ⟨0, rfl⟩
  obtain ⟨w5, hw5⟩ : ∃ w, w = c10 + 4 * c11 + 16 * w6 := ⟨_, rfl⟩
  obtain ⟨w4, hw4⟩ : ∃ w, w = c8 + 4 * c9 + 16 * w5 := ⟨_, rfl⟩
  obtain ⟨w3, hw3⟩ : ∃ w, w = c6 + 4 * c7 + 16 * w4 := ⟨_, rfl⟩
  obtain ⟨w2, hw2⟩ : ∃ w, w = c4 + 4 * c5 + 16 * w3 := ⟨_, rfl⟩
  obtain ⟨w1, hw1⟩ : ∃ w, w = c2 + 4 * c3 + 16 * w2 := ⟨_, rfl⟩
  obtain ⟨w0, hw0⟩ : ∃ w, w = c0 + 4 * c1 + 16 * w1 := ⟨_, rfl⟩
  obtain ⟨u6, hu6⟩ : ∃ w, w = 0 := ⟨0, rfl⟩
  obtain ⟨u5, hu5⟩ : ∃ w, w = c11 + 4 * 0 + 16 * u6 := ⟨_, rfl⟩
  obtain ⟨u4, hu4⟩ : ∃ w, w = c9 + 4 * c10 + 16 * u5 := ⟨_, rfl⟩
  obtain ⟨u3, hu3⟩ : ∃ w, w = c7 + 4 * c8 + 16 * u4 := ⟨_, rfl⟩
  obtain ⟨u2, hu2⟩ : ∃ w, w = c5 + 4 * c6 + 16 * u3 := ⟨_, rfl⟩
  obtain ⟨u1, hu1⟩ : ∃ w, w = c3 + 4 * c4 + 16 * u2 := ⟨_, rfl⟩
  obtain ⟨u0, hu0⟩ : ∃ w, w = c1 + 4 * c2 + 16 * u1 := ⟨_, rfl⟩
  obtain ⟨p6, hp6⟩ : ∃ w, w = 0 := ⟨0, rfl⟩
  obtain ⟨p5, hp5⟩ : ∃ w, w = c10 + 16 * p6 := ⟨_, rfl⟩
  obtain ⟨p4, hp4⟩ : ∃ w, w = c8 + 16 * p5 := ⟨_, rfl⟩
  obtain ⟨p3, hp3⟩ : ∃ w, w = c6 + 16 * p4 := ⟨_, rfl⟩
  obtain ⟨p2, hp2⟩ : ∃ w, w = c4 + 16 * p3 := ⟨_, rfl⟩
  obtain ⟨p1, hp1⟩ : ∃ w, w = c2 + 16 * p2 := ⟨_, rfl⟩
  obtain ⟨p0, hp0⟩ : ∃ w, w = c0 + 16 * p1 := ⟨_, rfl⟩
  obtain ⟨q6, hq6⟩ : ∃ w, w = 0 := ⟨0, rfl⟩
  obtain ⟨q5, hq5⟩ : ∃ w, w = c11 + 16 * q6 := ⟨_, rfl⟩
  obtain ⟨q4, hq4⟩ : ∃ w, w = c9 + 16 * q5 := ⟨_, rfl⟩
  obtain ⟨q3, hq3⟩ : ∃ w, w = c7 + 16 * q4 := ⟨_, rfl⟩
  obtain ⟨q2, hq2⟩ : ∃ w, w = c5 + 16 * q3 := ⟨_, rfl⟩
  obtain ⟨q1, hq1⟩ : ∃ w, w = c3 + 16 * q2 := ⟨_, rfl⟩
  obtain ⟨q0, hq0⟩ : ∃ w, w = c1 + 16 * q1 := ⟨_, rfl⟩
  have k6 : w6 &&& 51 = p6 := by rw [hw6, hp6]; rfl
  have l6 : u6 &&& 51 = q6 := by rw [hu6, hq6]; rfl
  have k5 : w5 &&& 819 = p5 := by rw [hw5, show (819 : Nat) = 3 + 16 * 51 from rfl, pc_2 _ _ _ _ (by omega) (by omega), k6, hp5]
  have l5 : u5 &&& 819 = q5 := by rw [hu5, show (819 : Nat) = 3 + 16 * 51 from rfl, pc_2 _ _ _ _ (by omega) (by omega), l6, hq5]
  have k4 : w4 &&& 13107 = p4 := by rw [hw4, show (13107 : Nat) = 3 + 16 * 819 from rfl, pc_2 _ _ _ _ (by omega) (by omega), k5, hp4]
  have l4 : u4 &&& 13107 = q4 := by rw [hu4, show (13107 : Nat) = 3 + 16 * 819 from rfl, pc_2 _ _ _ _ (by omega) (by omega), l5, hq4]
  have k3 : w3 &&& 209715 = p3 := by rw [hw3, show (209715 : Nat) = 3 + 16 * 13107 from rfl, pc_2 _ _ _ _ (by omega) (by omega), k4, hp3]
  have l3 : u3 &&& 209715 = q3 := by rw [hu3, show (209715 : Nat) = 3 + 16 * 13107 from rfl, pc_2 _ _ _ _ (by omega) (by omega), l4, hq3]
  have k2 : w2 &&& 3355443 = p2 := by rw [hw2, show (3355443 : Nat) = 3 + 16 * 209715 from rfl, pc_2 _ _ _ _ (by omega) (by omega), k3, hp2]
  have l2 : u2 &&& 3355443 = q2 := by rw [hu2, show (3355443 : Nat) = 3 + 16 * 209715 from rfl, pc_2 _ _ _ _ (by omega) (by omega), l3, hq2]
  have k1 : w1 &&& 53687091 = p1 := by rw [hw1, show (53687091 : Nat) = 3 + 16 * 3355443 from rfl, pc_2 _ _ _ _ (by omega) (by omega), k2, hp1]
  have l1 : u1 &&& 53687091 = q1 := by rw [hu1, show (53687091 : Nat) = 3 + 16 * 3355443 from rfl, pc_2 _ _ _ _ (by omega) (by omega), l2, hq1]
  have k0 : w0 &&& 858993459 = p0 := by rw [hw0, show (858993459 : Nat) = 3 + 16 * 53687091 from rfl, pc_2 _ _ _ _ (by omega) (by omega), k1, hp0]
  have l0 : u0 &&& 858993459 = q0 := by rw [hu0, show (858993459 : Nat) = 3 + 16 * 53687091 from rfl, pc_2 _ _ _ _ (by omega) (by omega), l1, hq0]
  have g6 : (0 : Nat) = w6 := hw6.symm
  have g5 := pc_sW c10 c11 w5 w6 _ hw5 g6
  have g4 := pc_sW c8 c9 w4 w5 _ hw4 g5
  have g3 := pc_sW c6 c7 w3 w4 _ hw3 g4
  have g2 := pc_sW c4 c5 w2 w3 _ hw2 g3
  have g1 := pc_sW c2 c3 w1 w2 _ hw1 g2
  have g0 := pc_sW c0 c1 w0 w1 _ hw0 g1
  have e0 : c0 + 4 * (c1 + 4 * (c2 + 4 * (c3 + 4 * (c4 + 4 * (c5 + 4 * (c6 + 4 * (c7 + 4 * (c8 + 4 * (c9 + 4 * (c10 + 4 * (c11))))))))))) = w0 := g0
  have v5 : c11 + 4 * w6 = u5 := by rw [hw6, hu5, hu6]
  have v4 : c9 + 4 * w5 = u4 := pc_sU c9 c10 c11 w5 w6 u4 u5 hw5 v5 hu4
  have v3 : c7 + 4 * w4 = u3 := pc_sU c7 c8 c9 w4 w5 u3 u4 hw4 v4 hu3
  have v2 : c5 + 4 * w3 = u2 := pc_sU c5 c6 c7 w3 w4 u2 u3 hw3 v3 hu2
  have v1 : c3 + 4 * w2 = u1 := pc_sU c3 c4 c5 w2 w3 u1 u2 hw2 v2 hu1
  have v0 : c1 + 4 * w1 = u0 := pc_sU c1 c2 c3 w1 w2 u0 u1 hw1 v1 hu0
  have e1 : w0 / 4 = u0 := pc_sQ _ _ _ _ _ h0 hw0 v0
  have y6 : p6 + q6 = 0 := by rw [hp6, hq6]
  have y5 := pc_sB _ _ _ _ _ _ _ hp5 hq5 y6
  have y4 := pc_sB _ _ _ _ _ _ _ hp4 hq4 y5
  have y3 := pc_sB _ _ _ _ _ _ _ hp3 hq3 y4
  have y2 := pc_sB _ _ _ _ _ _ _ hp2 hq2 y3
  have y1 := pc_sB _ _ _ _ _ _ _ hp1 hq1 y2
  have y0 := pc_sB _ _ _ _ _ _ _ hp0 hq0 y1
  unfold pcB
  rw [e0, e1, k0, l0, y0, Nat.mul_zero, Nat.add_zero]
theorem pc_C (e0 e1 e2 e3 e4 e5 : Nat) (h0 : e0 ≤ 4) (h1 : e1 ≤ 4) (h2 : e2 ≤ 4) (h3 : e3 ≤ 4) (h4 : e4 ≤ 4) (h5 : e5 ≤ 4) : pcC (e0 + 16 * (e1 + 16 * (e2 + 16 * (e3 + 16 * (e4 + 16 * (e5)))))) = (e0 + e1) + 256 * ((e2 + e3) + 256 * ((e4 + e5))) := by
  obtain ⟨w3, hw3⟩ : ∃ w, w = 0 := ⟨0, rfl⟩
  obtain ⟨w2, hw2⟩ : ∃ w, w = (e4 + e5) + 16 * e5 + 256 * w3 := ⟨_, rfl⟩
  obtain ⟨w1, hw1⟩ : ∃ w, w = (e2 + e3) + 16 * (e3 + e4) + 256 * w2 := ⟨_, rfl⟩
  obtain ⟨w0, hw0⟩ : ∃ w, w = (e0 + e1) + 16 * (e1 + e2) + 256 * w1 := ⟨_, rfl⟩
  have k3 : w3 &&& 15 = 0 := by rw [hw3]; rfl
  obtain ⟨x2, hx2⟩ : ∃ x, x = (e4 + e5) + 256 * 0 := ⟨_, rfl⟩
  have k2 : w2 &&& 3855 = x2 := by rw [hw2, show (3855 : Nat) = 15 + 256 * 15 from rfl, pc_3 _ _ _ _ (by omega) (by omega), k3, hx2]
  obtain ⟨x1, hx1⟩ : ∃ x, x = (e2 + e3) + 256 * x2 := ⟨_, rfl⟩
  have k1 : w1 &&& 986895 = x1 := by rw [hw1, show (986895 : Nat) = 15 + 256 * 3855 from rfl, pc_3 _ _ _ _ (by omega) (by omega), k2, hx1]
  obtain ⟨x0, hx0⟩ : ∃ x, x = (e0 + e1) + 256 * x1 := ⟨_, rfl⟩
  have k0 : w0 &&& 252645135 = x0 := by rw [hw0, show (252645135 : Nat) = 15 + 256 * 986895 from rfl, pc_3 _ _ _ _ (by omega) (by omega), k1, hx0]
  have e9 : (e0 + 16 * (e1 + 16 * (e2 + 16 * (e3 + 16 * (e4 + 16 * (e5)))))) + (e0 + 16 * (e1 + 16 * (e2 + 16 * (e3 + 16 * (e4 + 16 * (e5)))))) / 16 = w0 := by omega
  unfold pcC
  rw [e9, k0]
  omega
theorem pc_D (g0 g1 g2 : Nat) (h0 : g0 ≤ 8) (h1 : g1 ≤ 8) (h2 : g2 ≤ 8) : (((g0 + 256 * (g1 + 256 * g2)) + (g0 + 256 * (g1 + 256 * g2)) / 256) + ((g0 + 256 * (g1 + 256 * g2)) + (g0 + 256 * (g1 + 256 * g2)) / 256) / 65536) &&& 63 = g0 + g1 + g2 := by
  have e1 : (g0 + 256 * (g1 + 256 * g2)) / 256 = g1 + 256 * g2 := by omega
  rw [e1]
  have e2 : ((g0 + 256 * (g1 + 256 * g2)) + (g1 + 256 * g2)) / 65536 = g2 := by omega
  rw [e2, show (63 : Nat) = 2 ^ 6 - 1 from rfl, Nat.and_two_pow_sub_one_eq_mod]
  omega
theorem pc_all (b : Nat → Nat) (hb : ∀ i, b i ≤ 1) : pcC (pcB (pcA (smB (fun i => b i * 2 ^ i) 24))) = (b 0 + b 1 + (b 2 + b 3) + (b 4 + b 5 + (b 6 + b 7))) + 256 * ((b 8 + b 9 + (b 10 + b 11) + (b 12 + b 13 + (b 14 + b 15))) + 256 * ((b 16 + b 17 + (b 18 + b 19) + (b 20 + b 21 + (b 22 + b 23))))) := by
  have h0 := hb 0
  have h1 := hb 1
  have h2 := hb 2
  have h3 := hb 3
  have h4 := hb 4
  have h5 := hb 5
  have h6 := hb 6
  have h7 := hb 7
  have h8 := hb 8
  have h9 := hb 9
  have h10 := hb 10
  have h11 := hb 11
  have h12 := hb 12
  have h13 := hb 13
  have h14 := hb 14
  have h15 := hb 15
  have h16 := hb 16
  have h17 := hb 17
  have h18 := hb 18
  have h19 := hb 19
  have h20 := hb 20
  have h21 := hb 21
  have h22 := hb 22
  have h23 := hb 23
  have e0 : smB (fun i => b i * 2 ^ i) 24 = (b 0 + 2 * b 1) + 4 * ((b 2 + 2 * b 3) + 4 * ((b 4 + 2 * b 5) + 4 * ((b 6 + 2 * b 7) + 4 * ((b 8 + 2 * b 9) + 4 * ((b 10 + 2 * b 11) + 4 * ((b 12 + 2 * b 13) + 4 * ((b 14 + 2 * b 15) + 4 * ((b 16 + 2 * b 17) + 4 * ((b 18 + 2 * b 19) + 4 * ((b 20 + 2 * b 21) + 4 * ((b 22 + 2 * b 23)))))))))))) := by
    simp only [smB]
    omega
  rw [e0, pc_A (b 0 + 2 * b 1) (b 2 + 2 * b 3) (b 4 + 2 * b 5) (b 6 + 2 * b 7) (b 8 + 2 * b 9) (b 10 + 2 * b 11) (b 12 + 2 * b 13) (b 14 + 2 * b 15) (b 16 + 2 * b 17) (b 18 + 2 * b 19) (b 20 + 2 * b 21) (b 22 + 2 * b 23) (by omega) (by omega) (by omega) (by omega) (by omega) (by omega) (by omega) (by omega) (by omega) (by omega) (by omega) (by omega)]
  have c0 : b 0 + 2 * b 1 - (b 0 + 2 * b 1) / 2 = b 0 + b 1 := by omega
  have c1 : b 2 + 2 * b 3 - (b 2 + 2 * b 3) / 2 = b 2 + b 3 := by omega
  have c2 : b 4 + 2 * b 5 - (b 4 + 2 * b 5) / 2 = b 4 + b 5 := by omega
  have c3 : b 6 + 2 * b 7 - (b 6 + 2 * b 7) / 2 = b 6 + b 7 := by omega
  have c4 : b 8 + 2 * b 9 - (b 8 + 2 * b 9) / 2 = b 8 + b 9 := by omega
  have c5 : b 10 + 2 * b 11 - (b 10 + 2 * b 11) / 2 = b 10 + b 11 := by omega
  have c6 : b 12 + 2 * b 13 - (b 12 + 2 * b 13) / 2 = b 12 + b 13 := by omega
  have c7 : b 14 + 2 * b 15 - (b 14 + 2 * b 15) / 2 = b 14 + b 15 := by omega
  have c8 : b 16 + 2 * b 17 - (b 16 + 2 * b 17) / 2 = b 16 + b 17 := by omega
  have c9 : b 18 + 2 * b 19 - (b 18 + 2 * b 19) / 2 = b 18 + b 19 := by omega
  have c10 : b 20 + 2 * b 21 - (b 20 + 2 * b 21) / 2 = b 20 + b 21 := by omega
  have c11 : b 22 + 2 * b 23 - (b 22 + 2 * b 23) / 2 = b 22 + b 23 := by omega
  rw [c0, c1, c2, c3, c4, c5, c6, c7, c8, c9, c10, c11]
  rw [pc_B (b 0 + b 1) (b 2 + b 3) (b 4 + b 5) (b 6 + b 7) (b 8 + b 9) (b 10 + b 11) (b 12 + b 13) (b 14 + b 15) (b 16 + b 17) (b 18 + b 19) (b 20 + b 21) (b 22 + b 23) (by omega) (by omega) (by omega) (by omega) (by omega) (by omega) (by omega) (by omega) (by omega) (by omega) (by omega) (by omega)]
  rw [pc_C (b 0 + b 1 + (b 2 + b 3)) (b 4 + b 5 + (b 6 + b 7)) (b 8 + b 9 + (b 10 + b 11)) (b 12 + b 13 + (b 14 + b 15)) (b 16 + b 17 + (b 18 + b 19)) (b 20 + b 21 + (b 22 + b 23)) (by omega) (by omega) (by omega) (by omega) (by omega) (by omega)]
theorem nxb_and (a b : Nat) : nI a &&& nI b = nI (a &&& b) := by
  apply Int32.toBitVec_inj.1
  show BitVec.ofNat 32 a &&& BitVec.ofNat 32 b = BitVec.ofNat 32 (a &&& b)
  apply BitVec.eq_of_getLsbD_eq
  intro i hi
  simp [hi]
theorem smB_lt2 (b : Nat → Nat) (hb : ∀ i, b i ≤ 1) : ∀ n, smB (fun i => b i * 2 ^ i) n < 2 ^ n := by
  intro n
  induction n with
  | zero => exact Nat.one_pos
  | succ n ih =>
    show smB (fun i => b i * 2 ^ i) n + b n * 2 ^ n < 2 ^ (n + 1)
    have h1 : b n * 2 ^ n ≤ 1 * 2 ^ n := Nat.mul_le_mul_right _ (hb n)
    rw [Nat.pow_succ]
    omega
theorem smB_bit (b : Nat → Nat) (hb : ∀ i, b i ≤ 1) : ∀ n i, (smB (fun i => b i * 2 ^ i) n).testBit i = (decide (i < n) && decide (b i = 1)) := by
  intro n
  induction n with
  | zero =>
    intro i
    show Nat.testBit 0 i = _
    simp
  | succ n ih =>
    intro i
    show (smB (fun i => b i * 2 ^ i) n + b n * 2 ^ n).testBit i = _
    rw [Nat.add_comm, Nat.mul_comm, Nat.testBit_two_pow_mul_add _ (smB_lt2 b hb n), ih i]
    by_cases h : i < n
    · have h2 : i < n + 1 := by omega
      simp [h, h2]
    · rw [if_neg h]
      have h01 : b n = 0 ∨ b n = 1 := by have := hb n; omega
      by_cases e : i = n
      · subst e
        rw [Nat.sub_self]
        rcases h01 with h0 | h0 <;> simp [h0]
      · have h2 : ¬ i < n + 1 := by omega
        have h3 : i - n ≠ 0 := by omega
        rcases h01 with h0 | h0
        · simp [h0, h2]
        · rw [h0, Nat.testBit_lt_two_pow (Nat.one_lt_two_pow h3)]
          simp [h2]
theorem ctB_smB (p : Nat → Bool) (n : Nat) : ctB p n = smB (fun i => if p i = true then 1 else 0) n := by
  induction n with
  | zero => rfl
  | succ n ih => rw [ctB_succ, ih]; rfl
