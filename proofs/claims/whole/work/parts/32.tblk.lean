/-! A TABLE'S BLOCK laid over a heap; addArrow, setWay -/
def tOb (t : Nat) (T : tb) : List Value := [.int (nI (tN T)), .int (nI (tK T)), .int (tC T), .ref (t + 1), .ref (t + 2), .ref (t + 3)]
def tbG (G : az_H) (t : Nat) (T : tb) : az_H := (fun q => if q = t then some (.inr (4, tOb t T)) else if q = t + 1 then some (.inl (0, 24, .inl (tF T))) else if q = t + 2 then some (.inl (0, 24, .inl (tG T))) else if q = t + 3 then some (.inl (0, 576, .inl (tW T))) else G.1 q, G.2)
theorem tg_C (G : az_H) (t : Nat) (T : tb) : tbC (tbG G t T) t T := by
  refine ⟨?_, ?_, ?_, ?_⟩
  · simp [tbG, tOb]
  · simp [tbG]
  · simp [tbG]
  · simp [tbG]
theorem tg_out (G : az_H) {t : Nat} (T : tb) {q : Nat} (h : q < t ∨ t + 3 < q) : (tbG G t T).1 q = G.1 q := by
  simp only [tbG]
  rw [if_neg (by omega), if_neg (by omega), if_neg (by omega), if_neg (by omega)]
theorem tg_id {G : az_H} {t : Nat} {T : tb} (h : tbC G t T) : tbG G t T = G := by
  refine Prod.ext (funext fun q => ?_) rfl
  show (if q = t then some (.inr (4, tOb t T)) else if q = t + 1 then some (.inl (0, 24, .inl (tF T))) else if q = t + 2 then some (.inl (0, 24, .inl (tG T))) else if q = t + 3 then some (.inl (0, 576, .inl (tW T))) else G.1 q) = G.1 q
  by_cases h0 : q = t
  · rw [if_pos h0, h0]; exact h.1.symm
  · rw [if_neg h0]
    by_cases h1 : q = t + 1
    · rw [if_pos h1, h1]; exact h.2.1.symm
    · rw [if_neg h1]
      by_cases h2 : q = t + 2
      · rw [if_pos h2, h2]; exact h.2.2.1.symm
      · rw [if_neg h2]
        by_cases h3 : q = t + 3
        · rw [if_pos h3, h3]; exact h.2.2.2.symm
        · rw [if_neg h3]
theorem tg_ext {K G : az_H} {t : Nat} {T : tb} (h9 : K.2 = G.2) (h0 : K.1 t = some (.inr (4, tOb t T))) (h1 : K.1 (t + 1) = some (.inl (0, 24, .inl (tF T)))) (h2 : K.1 (t + 2) = some (.inl (0, 24, .inl (tG T)))) (h3 : K.1 (t + 3) = some (.inl (0, 576, .inl (tW T)))) (ho : ∀ q : Nat, (q < t ∨ t + 3 < q) → K.1 q = G.1 q) : K = tbG G t T := by
  refine Prod.ext (funext fun q => ?_) h9
  show K.1 q = (if q = t then some (.inr (4, tOb t T)) else if q = t + 1 then some (.inl (0, 24, .inl (tF T))) else if q = t + 2 then some (.inl (0, 24, .inl (tG T))) else if q = t + 3 then some (.inl (0, 576, .inl (tW T))) else G.1 q)
  by_cases e0 : q = t
  · rw [if_pos e0, e0]; exact h0
  · rw [if_neg e0]
    by_cases e1 : q = t + 1
    · rw [if_pos e1, e1]; exact h1
    · rw [if_neg e1]
      by_cases e2 : q = t + 2
      · rw [if_pos e2, e2]; exact h2
      · rw [if_neg e2]
        by_cases e3 : q = t + 3
        · rw [if_pos e3, e3]; exact h3
        · rw [if_neg e3]
          exact ho q (by omega)
/-- the block's rows and numbers set -/
theorem tg_u1 (G : az_H) (t : Nat) (T : tb) (f : Nat → Int32) : az_set (tbG G t T) (t + 1) (.inl (0, 24, .inl f)) = tbG G t (tN T, tK T, tC T, f, tG T, tW T) := by
  refine tg_ext rfl ?_ ?_ ?_ ?_ (fun q hq => ?_)
  · exact (if_neg (by omega)).trans (tg_C G t T).1
  · exact if_pos rfl
  · exact (if_neg (by omega)).trans (tg_C G t T).2.2.1
  · exact (if_neg (by omega)).trans (tg_C G t T).2.2.2
  · exact (if_neg (by omega)).trans (tg_out G T hq)
theorem tg_u2 (G : az_H) (t : Nat) (T : tb) (f : Nat → Int32) : az_set (tbG G t T) (t + 2) (.inl (0, 24, .inl f)) = tbG G t (tN T, tK T, tC T, tF T, f, tW T) := by
  refine tg_ext rfl ?_ ?_ ?_ ?_ (fun q hq => ?_)
  · exact (if_neg (by omega)).trans (tg_C G t T).1
  · exact (if_neg (by omega)).trans (tg_C G t T).2.1
  · exact if_pos rfl
  · exact (if_neg (by omega)).trans (tg_C G t T).2.2.2
  · exact (if_neg (by omega)).trans (tg_out G T hq)
theorem tg_u3 (G : az_H) (t : Nat) (T : tb) (f : Nat → Int32) : az_set (tbG G t T) (t + 3) (.inl (0, 576, .inl f)) = tbG G t (tN T, tK T, tC T, tF T, tG T, f) := by
  refine tg_ext rfl ?_ ?_ ?_ ?_ (fun q hq => ?_)
  · exact (if_neg (by omega)).trans (tg_C G t T).1
  · exact (if_neg (by omega)).trans (tg_C G t T).2.1
  · exact (if_neg (by omega)).trans (tg_C G t T).2.2.1
  · exact if_pos rfl
  · exact (if_neg (by omega)).trans (tg_out G T hq)
theorem tg_p1 (G : az_H) (t : Nat) (T : tb) (k : Nat) (kk : az_H → az_R) : az_pt (tbG G t T) t 4 1 (.int (nI k)) kk = kk (tbG G t (tN T, k, tC T, tF T, tG T, tW T)) := by
  refine (pt_s (tg_C G t T).1 (Nat.le_of_ble_eq_true rfl)).trans (congrArg kk ?_)
  refine tg_ext rfl ?_ ?_ ?_ ?_ (fun q hq => ?_)
  · exact if_pos rfl
  · exact (if_neg (by omega)).trans (tg_C G t T).2.1
  · exact (if_neg (by omega)).trans (tg_C G t T).2.2.1
  · exact (if_neg (by omega)).trans (tg_C G t T).2.2.2
  · exact (if_neg (by omega)).trans (tg_out G T hq)
theorem tg_p2 (G : az_H) (t : Nat) (T : tb) (v : Int32) (kk : az_H → az_R) : az_pt (tbG G t T) t 4 2 (.int v) kk = kk (tbG G t (tN T, tK T, v, tF T, tG T, tW T)) := by
  refine (pt_s (tg_C G t T).1 (Nat.le_of_ble_eq_true rfl)).trans (congrArg kk ?_)
  refine tg_ext rfl ?_ ?_ ?_ ?_ (fun q hq => ?_)
  · exact if_pos rfl
  · exact (if_neg (by omega)).trans (tg_C G t T).2.1
  · exact (if_neg (by omega)).trans (tg_C G t T).2.2.1
  · exact (if_neg (by omega)).trans (tg_C G t T).2.2.2
  · exact (if_neg (by omega)).trans (tg_out G T hq)
theorem tg_cl {G : az_H} {x t : Nat} (T : tb) (V : Nat → Int32) (A : Nat → Nat → Int32) (R : Nat → Nat → Option Nat) (h : x + 22 < t) : tbG (clG G x V A R) t T = clG (tbG G t T) x V A R := by
  refine Prod.ext (funext fun q => ?_) rfl
  by_cases h1 : x ≤ q ∧ q ≤ x + 22
  · rw [tg_out _ _ (by omega)]
    show (if x ≤ q ∧ q ≤ x + 22 then _ else _) = (if x ≤ q ∧ q ≤ x + 22 then _ else _)
    rw [if_pos h1, if_pos h1]
  · rw [cl_out (tbG G t T) V A R (by omega)]
    show (if q = t then _ else if q = t + 1 then _ else if q = t + 2 then _ else if q = t + 3 then _ else (clG G x V A R).1 q) = (if q = t then _ else if q = t + 1 then _ else if q = t + 2 then _ else if q = t + 3 then _ else G.1 q)
    rw [cl_out G V A R (by omega)]
/-- a way set; an arrow added -/
def wS1 (T : tb) (a b : Nat) (c : Int32) : tb := (tN T, tK T, tC T, tF T, tG T, upd (tW T) (24 * a + b) c)
def aA0 (T : tb) (x y : Nat) : tb := (tN T, tK T + 1, tC T, upd (tF T) (tK T) (nI x), upd (tG T) (tK T) (nI y), tW T)
def aAr (T : tb) (x y : Nat) : tb := wS1 (wS1 (aA0 T x y) x (tK T) (nI (tK T))) (tK T) y (nI (tK T))
section TBLK
variable {sc : az_S} {G : az_H} {t : Nat} {T : tb}
theorem s_setWay {a b : Nat} (ha : a < tK T) (hb : b < tK T) (hk : tK T ≤ 24) (c : Int32) : az_ca sc iX4_setWay [.ref t, .int (nI a), .int (nI b), .int c] (tbG G t T) = some (none, tbG G t (wS1 T a b c)) := by
  have h := tg_C G t T
  rw [eX4_setWay, tb_rc h, s_hasArrow h ha hk, bI_s, if_neg (by decide), tb_rc h, s_hasArrow h hb hk, bI_s, if_neg (by decide), tb_f5 h, nI_m24, s_write h.2.2.2 (by omega) (by omega), bV_s, tg_u3]
  rfl
theorem s_addArrow {x y : Nat} (hx : x ≤ tK T) (hy : y ≤ tK T) (hk : tK T < 24) : az_ca sc iX4_addArrow [.ref t, .int (nI x), .int (nI y)] (tbG G t T) = some (some (.int (nI (tK T))), tbG G t (aAr T x y)) := by
  have h := tg_C G t T
  rw [eX4_addArrow, tb_f1 h, tb_f3 h, s_write h.2.1 hk (by omega), bV_s, tg_u1]
  have h1 := tg_C G t (tN T, tK T, tC T, upd (tF T) (tK T) (nI x), tG T, tW T)
  rw [tb_f4 h1, s_write h1.2.2.1 hk (by omega), bV_s, tg_u2]
  have h2 := tg_C G t (tN T, tK T, tC T, upd (tF T) (tK T) (nI x), upd (tG T) (tK T) (nI y), tW T)
  have e2 : tbG G t (tN (tN T, tK T, tC T, upd (tF T) (tK T) (nI x), tG T, tW T), tK (tN T, tK T, tC T, upd (tF T) (tK T) (nI x), tG T, tW T), tC (tN T, tK T, tC T, upd (tF T) (tK T) (nI x), tG T, tW T), tF (tN T, tK T, tC T, upd (tF T) (tK T) (nI x), tG T, tW T), upd (tG (tN T, tK T, tC T, upd (tF T) (tK T) (nI x), tG T, tW T)) (tK T) (nI y), tW (tN T, tK T, tC T, upd (tF T) (tK T) (nI x), tG T, tW T)) = tbG G t (tN T, tK T, tC T, upd (tF T) (tK T) (nI x), upd (tG T) (tK T) (nI y), tW T) := rfl
  rw [e2, tb_f1 h2]
  have e3 : nI (tK (tN T, tK T, tC T, upd (tF T) (tK T) (nI x), upd (tG T) (tK T) (nI y), tW T)) + 1 = nI (tK T + 1) := nI_1 _
  rw [e3, tg_p1]
  have e4 : tbG G t (tN (tN T, tK T, tC T, upd (tF T) (tK T) (nI x), upd (tG T) (tK T) (nI y), tW T), tK T + 1, tC (tN T, tK T, tC T, upd (tF T) (tK T) (nI x), upd (tG T) (tK T) (nI y), tW T), tF (tN T, tK T, tC T, upd (tF T) (tK T) (nI x), upd (tG T) (tK T) (nI y), tW T), tG (tN T, tK T, tC T, upd (tF T) (tK T) (nI x), upd (tG T) (tK T) (nI y), tW T), tW (tN T, tK T, tC T, upd (tF T) (tK T) (nI x), upd (tG T) (tK T) (nI y), tW T)) = tbG G t (aA0 T x y) := rfl
  have k1 : tK (aA0 T x y) = tK T + 1 := rfl
  rw [e4, tb_rc (tg_C G t _), s_setWay (T := aA0 T x y) (by rw [k1]; omega) (by rw [k1]; omega) (by rw [k1]; omega), bV_s]
  have k2 : tK (wS1 (aA0 T x y) x (tK T) (nI (tK T))) = tK T + 1 := rfl
  rw [tb_rc (tg_C G t _), s_setWay (T := wS1 (aA0 T x y) x (tK T) (nI (tK T))) (by rw [k2]; omega) (by rw [k2]; omega) (by rw [k2]; omega), bV_s]
  rfl
end TBLK
