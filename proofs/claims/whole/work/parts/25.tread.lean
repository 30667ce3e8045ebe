/-! TABLES: readers with loops, of the class and of the model -/
/-- a way that does nothing -/
def dn (T : tb) (x : Int32) : Bool := decide (¬ x < 0 ∧ ¬ nI (tN T) ≤ x)
/-- an arrow with one back, as the class has it -/
def bk (T : tb) (a : Nat) : Bool := exB (fun b => dn T (wy T a b) && dn T (wy T b a)) (tK T)
/-- every row of two that goes on is told -/
def tld (T : tb) : Prop := ∀ a b, a < tK T → b < tK T → to T a = fr T b → ∃ c, c < tK T ∧ wy T a b = nI c ∧ fr T c = fr T a ∧ to T c = to T b
theorem dn_nI {T : tb} {a : Nat} (ha : a < 2 ^ 31) (hn : tN T ≤ 6) : dn T (nI a) = decide (a < tN T) := by
  unfold dn
  by_cases h : a < tN T
  · simp [h, nI_nlt0 ha, nI_ge h (show tN T < 2 ^ 31 by omega)]
  · have : nI (tN T) ≤ nI a := nI_le (by omega) ha
    simp [h, this]
theorem dn_m1 {T : tb} : dn T (-1) = false := by
  unfold dn
  have : (-1 : Int32) < 0 := by decide
  simp [this]
section TREAD
variable {sc : az_S} {G : az_H} {t : Nat} {T : tb}
theorem s_doesNothingX (h : tbC G t T) (x : Int32) : az_ca sc iX4_doesNothing [.ref t, .int x] G = some (some (.int (if dn T x = true then 1 else 0)), G) := by
  rw [eX4_doesNothing]
  by_cases h0 : x < 0
  · simp [h0, zr_0, dn]
  · rw [if_neg h0, tb_f0 h]
    by_cases h1 : nI (tN T) ≤ x
    · simp [h1, zr_0, dn]
    · simp [h0, h1, zr_1, dn]
theorem s_hasBack (h : tbC G t T) (hw : tbW T) {a : Nat} (ha : a < tK T) : az_ca sc iX4_hasBack [.ref t, .int (nI a)] G = some (some (.int (if bk T a = true then 1 else 0)), G) := by
  have hk := hw.k24
  have key := lp_ex (fun b => az_rn sc iX4_hasBack 2 [some (.ref t), some (.int (nI a)), some (.int (nI b))] [] G) (fun b => dn T (wy T a b) && dn T (wy T b a)) (some (some (.int 1), G)) (some (some (.int 0), G)) (tK T) (fun b hb => by
      rw [bX4_hasBack_2, tb_f1 h, if_neg (nI_ge hb (show tK T < 2 ^ 31 by omega)), tb_rc h, s_wayAt h ha hb hk, bI_s, tb_rc h, s_doesNothingX h, bI_s, nI_1]
      by_cases e1 : dn T (wy T a b) = true
      · rw [if_pos e1, if_neg (by decide), tb_rc h, s_wayAt h hb ha hk, bI_s, tb_rc h, s_doesNothingX h, bI_s]
        by_cases e2 : dn T (wy T b a) = true
        · rw [if_pos e2, if_neg (by decide), zr_1, if_pos (by simp [e1, e2])]
        · rw [if_neg e2, if_pos rfl, if_neg (by simp [e2])]
      · rw [if_neg e1, if_pos rfl, if_neg (by simp [e1])])
    (by rw [bX4_hasBack_2, tb_f1 h, if_pos (nI_le (Nat.le_refl _) (show tK T < 2 ^ 31 by omega)), zr_0])
  simp only [nI_0] at key
  rw [eX4_hasBack, key]
  unfold bk
  split <;> rfl
theorem s_arrowsWithBack (h : tbC G t T) (hw : tbW T) : az_ca sc iX4_arrowsWithBack [.ref t] G = some (some (.int (nI (ctB (bk T) (tK T)))), G) := by
  have hk := hw.k24
  have key := lp_ct (fun a c => az_rn sc iX4_arrowsWithBack 4 [some (.ref t), some (.int (nI c)), some (.int (nI a))] [] G) (bk T) (fun c => some (some (.int (nI c)), G)) (tK T) 0 (fun a c ha => by
      rw [bX4_arrowsWithBack_4, tb_f1 h, if_neg (nI_ge ha (show tK T < 2 ^ 31 by omega)), tb_rc h, s_hasBack h hw ha, bI_s, nI_1]
      by_cases e1 : bk T a = true <;> simp [e1, nI_1])
    (fun c => by rw [bX4_arrowsWithBack_4, tb_f1 h, if_pos (nI_le (Nat.le_refl _) (show tK T < 2 ^ 31 by omega))])
  simp only [nI_0, Nat.zero_add] at key
  rw [eX4_arrowsWithBack, key]
/-- how many rows of two there are of arrows that do something -/
def r2r (T : tb) (i : Nat) : Nat := ctB (fun j => decide (to T (tN T + i) = fr T (tN T + j))) (tK T - tN T)
def r2 (T : tb) : Nat := smB (r2r T) (tK T - tN T)
theorem s_rowsOfTwo (h : tbC G t T) (hw : tbW T) : az_ca sc iX4_rowsOfTwo [.ref t] G = some (some (.int (nI (r2 T))), G) := by
  have hk := hw.k24
  have hn := hw.nk
  have inner : ∀ i c, i < tK T - tN T → az_rn sc iX4_rowsOfTwo 12 [some (.ref t), some (.int (nI c)), some (.int (nI (tN T + i))), some (.int (nI (tN T)))] [] G = az_rn sc iX4_rowsOfTwo 5 [some (.ref t), some (.int (nI (c + r2r T i))), some (.int (nI (tN T + (i + 1)))), some (.int (nI (tK T)))] [] G := by
    intro i c hi
    have key := lp_ct (fun j c => az_rn sc iX4_rowsOfTwo 12 [some (.ref t), some (.int (nI c)), some (.int (nI (tN T + i))), some (.int (nI (tN T + j)))] [] G) (fun j => decide (to T (tN T + i) = fr T (tN T + j))) (fun c => az_rn sc iX4_rowsOfTwo 5 [some (.ref t), some (.int (nI c)), some (.int (nI (tN T + (i + 1)))), some (.int (nI (tK T)))] [] G) (tK T - tN T) c (fun j c hj => by
        rw [bX4_rowsOfTwo_12, tb_f1 h, if_neg (nI_ge (show tN T + j < tK T by omega) (by omega)), tb_rc h, s_isRow h hw (show tN T + i < tK T by omega) (show tN T + j < tK T by omega), bI_s, nI_1]
        by_cases e : to T (tN T + i) = fr T (tN T + j)
        · simp [e, nI_1, Nat.add_assoc]
        · simp [e, Nat.add_assoc])
      (fun c => by
        have e : tN T + (tK T - tN T) = tK T := by omega
        rw [e, bX4_rowsOfTwo_12, tb_f1 h, if_pos (nI_le (Nat.le_refl _) (by omega)), nI_1, Nat.add_assoc])
    exact key
  have key := lp_ctO (fun i c (o : Option Value) => az_rn sc iX4_rowsOfTwo 5 [some (.ref t), some (.int (nI c)), some (.int (nI (tN T + i))), o] [] G) (r2r T) (fun c => some (some (.int (nI c)), G)) (tK T - tN T) 0 (smB (r2r T)) rfl (fun i hi => rfl) (fun i c o hi => ⟨some (.int (nI (tK T))), by
      rw [bX4_rowsOfTwo_5, tb_f1 h, if_neg (nI_ge (show tN T + i < tK T by omega) (by omega)), tb_f0 h, inner i c hi]⟩)
    (fun c o => by
      have e : tN T + (tK T - tN T) = tK T := by omega
      rw [e, bX4_rowsOfTwo_5, tb_f1 h, if_pos (nI_le (Nat.le_refl _) (by omega))]) none
  simp only [nI_0, Nat.zero_add, Nat.add_zero] at key
  rw [eX4_rowsOfTwo, tb_f0 h, key]
  rfl
end TREAD
section MREAD
variable {sc : az_S} {G : az_H} {m : Nat} {V : Nat → Int32} {A : Nat → Nat → Int32} {nt : Nat} {Tb : Nat → tb}
theorem m_isPaired (h : mT V A nt Tb) {i a : Nat} (hi : i < nt) (ht : tld (Tb i)) (ha : a < tK (Tb i)) : az_ca sc iX6_isPaired [.ref m, .int (nI i), .int (nI a)] (mdG G m V A) = some (some (.int (if bk (Tb i) a = true then 1 else 0)), mdG G m V A) := by
  have h8 := h.2.1
  have hw := h.w hi
  have hk := hw.k24
  have hn := hw.n6
  have key := lp_ex (fun b => az_rn sc iX6_isPaired 2 [some (.ref m), some (.int (nI i)), some (.int (nI a)), some (.int (nI b))] [] (mdG G m V A)) (fun b => dn (Tb i) (wy (Tb i) a b) && dn (Tb i) (wy (Tb i) b a)) (some (some (.int 1), mdG G m V A)) (some (some (.int 0), mdG G m V A)) (tK (Tb i)) (fun b hb => by
      have f1 := hw.frn ha
      have f2 := hw.ton ha
      have f3 := hw.frn hb
      have f4 := hw.ton hb
      rw [bX6_isPaired_2, md_r2, md_a2 (by omega), h.a hi, if_neg (nI_ge hb (by omega)), md_rc, m_from h hi hb, bI_s, md_rc, m_to h hi ha, bI_s, ite_nnI (by omega) (by omega)]
      by_cases e1 : to (Tb i) a = fr (Tb i) b
      · obtain ⟨c1, k1, w1, -, -⟩ := ht a b ha hb e1
        rw [if_neg (fun q => q e1.symm), md_rc, m_to h hi hb, bI_s, md_rc, m_from h hi ha, bI_s, ite_nnI (by omega) (by omega)]
        by_cases e2 : to (Tb i) b = fr (Tb i) a
        · obtain ⟨c2, k2, w2, -, -⟩ := ht b a hb ha e2
          rw [if_neg (fun q => q e2), md_rc, m_wayIn h hi ha hb, bI_s, w1, md_r1, md_a1 (by omega), h.o hi, w2, dn_nI (by omega) hn, dn_nI (by omega) hn]
          by_cases e3 : c1 < tN (Tb i)
          · rw [if_neg (nI_ge e3 (by omega)), md_rc, m_wayIn h hi hb ha, bI_s, w2, md_r1, md_a1 (by omega), h.o hi]
            by_cases e4 : c2 < tN (Tb i)
            · rw [if_neg (nI_ge e4 (by omega)), zr_1]
              simp [e3, e4]
            · rw [if_pos (nI_le (by omega) (by omega)), nI_1]
              simp [e4]
          · rw [if_pos (nI_le (by omega) (by omega)), nI_1]
            simp [e3]
        · rw [if_pos e2, (hw.2.2.2.1 b a hb ha).1 e2, dn_m1, nI_1]
          simp
      · rw [if_pos (fun q => e1 q.symm), (hw.2.2.2.1 a b ha hb).1 e1, dn_m1, nI_1]
        simp)
    (by rw [bX6_isPaired_2, md_r2, md_a2 (by omega), h.a hi, if_pos (nI_le (Nat.le_refl _) (by omega)), zr_0])
  simp only [nI_0] at key
  rw [eX6_isPaired, key]
  unfold bk
  split <;> rfl
theorem m_rows2 (h : mT V A nt Tb) {i : Nat} (hi : i < nt) (y : Int32) (o : Option Value) : az_rn sc iX6_about 39 [some (.ref m), some (.int (nI i)), some (.int y), some (.int 0), some (.int (nI (tN (Tb i)))), o] [] (mdG G m V A) = some (some (.int (nI (r2 (Tb i)))), mdG G m V A) := by
  have h8 := h.2.1
  have hw := h.w hi
  have hk := hw.k24
  have hn := hw.nk
  have inner : ∀ a c, a < tK (Tb i) - tN (Tb i) → az_rn sc iX6_about 50 [some (.ref m), some (.int (nI i)), some (.int y), some (.int (nI c)), some (.int (nI (tN (Tb i) + a))), some (.int (nI (tN (Tb i))))] [] (mdG G m V A) = az_rn sc iX6_about 39 [some (.ref m), some (.int (nI i)), some (.int y), some (.int (nI (c + r2r (Tb i) a))), some (.int (nI (tN (Tb i) + (a + 1)))), some (.int (nI (tK (Tb i))))] [] (mdG G m V A) := by
    intro a c ha
    have key := lp_ct (fun j c => az_rn sc iX6_about 50 [some (.ref m), some (.int (nI i)), some (.int y), some (.int (nI c)), some (.int (nI (tN (Tb i) + a))), some (.int (nI (tN (Tb i) + j)))] [] (mdG G m V A)) (fun j => decide (to (Tb i) (tN (Tb i) + a) = fr (Tb i) (tN (Tb i) + j))) (fun c => az_rn sc iX6_about 39 [some (.ref m), some (.int (nI i)), some (.int y), some (.int (nI c)), some (.int (nI (tN (Tb i) + (a + 1)))), some (.int (nI (tK (Tb i))))] [] (mdG G m V A)) (tK (Tb i) - tN (Tb i)) c (fun j c hj => by
        have f1 := hw.ton (show tN (Tb i) + a < tK (Tb i) by omega)
        have f2 := hw.frn (show tN (Tb i) + j < tK (Tb i) by omega)
        have := hw.n6
        rw [bX6_about_50, md_r2, md_a2 (by omega), h.a hi, if_neg (nI_ge (show tN (Tb i) + j < tK (Tb i) by omega) (by omega)), md_rc, m_to h hi (show tN (Tb i) + a < tK (Tb i) by omega), bI_s, md_rc, m_from h hi (show tN (Tb i) + j < tK (Tb i) by omega), bI_s, ite_nnI (by omega) (by omega), nI_1]
        by_cases e : to (Tb i) (tN (Tb i) + a) = fr (Tb i) (tN (Tb i) + j)
        · simp [e, nI_1, Nat.add_assoc]
        · simp [e, Nat.add_assoc])
      (fun c => by
        have e : tN (Tb i) + (tK (Tb i) - tN (Tb i)) = tK (Tb i) := by omega
        rw [e, bX6_about_50, md_r2, md_a2 (by omega), h.a hi, if_pos (nI_le (Nat.le_refl _) (by omega)), nI_1, Nat.add_assoc])
    exact key
  have key := lp_ctO (fun a c (o : Option Value) => az_rn sc iX6_about 39 [some (.ref m), some (.int (nI i)), some (.int y), some (.int (nI c)), some (.int (nI (tN (Tb i) + a))), o] [] (mdG G m V A)) (r2r (Tb i)) (fun c => some (some (.int (nI c)), mdG G m V A)) (tK (Tb i) - tN (Tb i)) 0 (smB (r2r (Tb i))) rfl (fun i hi => rfl) (fun a c o ha => ⟨some (.int (nI (tK (Tb i)))), by
      rw [bX6_about_39, md_r2, md_a2 (by omega), h.a hi, if_neg (nI_ge (show tN (Tb i) + a < tK (Tb i) by omega) (by omega)), md_r1, md_a1 (by omega), h.o hi, inner a c ha]⟩)
    (fun c o => by
      have e : tN (Tb i) + (tK (Tb i) - tN (Tb i)) = tK (Tb i) := by omega
      rw [e, bX6_about_39, md_r2, md_a2 (by omega), h.a hi, if_pos (nI_le (Nat.le_refl _) (by omega))]) o
  simp only [nI_0, Nat.zero_add, Nat.add_zero] at key
  exact key
theorem m_backs (h : mT V A nt Tb) {i : Nat} (hi : i < nt) (hc : tC (Tb i) = 1) (ht : tld (Tb i)) (y : Int32) : az_rn sc iX6_about 79 [some (.ref m), some (.int (nI i)), some (.int y), some (.int 0), some (.int 0), none] [] (mdG G m V A) = some (some (.int (nI (ctB (bk (Tb i)) (tK (Tb i))))), mdG G m V A) := by
  have h8 := h.2.1
  have hw := h.w hi
  have hk := hw.k24
  have key := lp_ct (fun a c => az_rn sc iX6_about 79 [some (.ref m), some (.int (nI i)), some (.int y), some (.int (nI c)), some (.int (nI a)), none] [] (mdG G m V A)) (bk (Tb i)) (fun c => some (some (.int (nI c)), mdG G m V A)) (tK (Tb i)) 0 (fun a c ha => by
      rw [bX6_about_79, md_r2, md_a2 (by omega), h.a hi, if_neg (nI_ge ha (by omega)), md_r3, md_a3 (by omega), h.c hi, hc, if_neg (by decide), md_rc, m_isPaired h hi ht ha, bI_s, nI_1]
      by_cases e1 : bk (Tb i) a = true <;> simp [e1, nI_1])
    (fun c => by rw [bX6_about_79, md_r2, md_a2 (by omega), h.a hi, if_pos (nI_le (Nat.le_refl _) (by omega)), md_r3, md_a3 (by omega), h.c hi, hc, if_neg (by decide)])
  simp only [nI_0, Nat.zero_add] at key
  exact key
end MREAD
