/-! A NEW TABLE -/
def bmp (G : az_H) (c s : Nat) : az_H := (G.1, G.2.1 + c, G.2.2 + s)
def W0 : Nat → Int32 := fun j => if j < 576 then -1 else 0
/-- the table of n objects with the first j arrows -/
def tnw (n : Nat) : Nat → tb
  | 0 => (n, 0, 0, fun _ => 0, fun _ => 0, W0)
  | j + 1 => aAr (tnw n j) j j
theorem tnw_s (n : Nat) : ∀ j, j ≤ 6 → tN (tnw n j) = n ∧ tK (tnw n j) = j ∧ tC (tnw n j) = 0 ∧ (∀ a, a < j → tF (tnw n j) a = nI a ∧ tG (tnw n j) a = nI a) ∧ ∀ a b, a < 24 → b < 24 → wy (tnw n j) a b = if a = b ∧ a < j then nI a else -1 := by
  intro j
  induction j with
  | zero =>
    intro _
    refine ⟨rfl, rfl, rfl, fun a ha => absurd ha (Nat.not_lt_zero _), fun a b ha hb => ?_⟩
    rw [if_neg (by omega)]
    show W0 (24 * a + b) = -1
    unfold W0
    rw [if_pos (by omega)]
  | succ j ih =>
    intro hj
    obtain ⟨h1, h2, h3, h4, h5⟩ := ih (by omega)
    refine ⟨h1, congrArg (· + 1) h2, h3, fun a ha => ?_, fun a b ha hb => ?_⟩
    · show upd (tF (tnw n j)) (tK (tnw n j)) (nI j) a = nI a ∧ upd (tG (tnw n j)) (tK (tnw n j)) (nI j) a = nI a
      rw [h2]
      unfold upd
      by_cases e : a = j
      · rw [if_pos e, if_pos e, e]; exact ⟨rfl, rfl⟩
      · rw [if_neg e, if_neg e]; exact h4 a (by omega)
    · show wy (aAr (tnw n j) j j) a b = _
      rw [wy_aA (by omega) (by omega) hb, h2, h5 a b ha hb]
      by_cases e : a = j ∧ b = j
      · rw [if_pos e, if_pos (by omega), e.1]
      · rw [if_neg e, if_neg e]
        by_cases e2 : a = b ∧ a < j
        · rw [if_pos e2, if_pos (by omega)]
        · rw [if_neg e2, if_neg (by omega)]
theorem tnw_W {n : Nat} (h1 : 1 ≤ n) (h6 : n ≤ 6) : tbW (tnw n n) := by
  obtain ⟨g1, g2, g3, g4, g5⟩ := tnw_s n n h6
  have hf : ∀ a, a < n → fr (tnw n n) a = a := fun a ha => by
    show (tF (tnw n n) a).toNatClampNeg = a
    rw [(g4 a ha).1, nI_clamp (by omega)]
  have ht : ∀ a, a < n → to (tnw n n) a = a := fun a ha => by
    show (tG (tnw n n) a).toNatClampNeg = a
    rw [(g4 a ha).2, nI_clamp (by omega)]
  unfold tbW
  rw [g1, g2, g3]
  refine ⟨⟨h1, h6, Nat.le_refl _, by omega, Or.inl rfl⟩, fun a ha => ?_, fun a ha => ⟨hf a ha, ht a ha⟩, fun a b ha hb => ?_, fun a b ha hb hab => ?_⟩
  · rw [hf a ha, ht a ha]
    exact ⟨(g4 a ha).1, ha, (g4 a ha).2, ha⟩
  · rw [ht a ha, hf b hb, g5 a b (by omega) (by omega)]
    by_cases e : a = b
    · subst e
      rw [if_pos ⟨rfl, ha⟩]
      exact ⟨fun z => absurd rfl z, fun _ _ => rfl, fun _ _ => rfl, fun _ => Or.inr ⟨a, ha, rfl, rfl, rfl⟩⟩
    · rw [if_neg (fun z => e z.1)]
      exact ⟨fun _ => rfl, fun z => absurd z e, fun z => absurd z e, fun z => absurd z e⟩
  · rw [g5 a b ha hb, if_neg (by omega)]
section NEWT
variable {sc : az_S} {G G1 : az_H} {B x m : Nat} {V Vm : Nat → Int32} {A Am : Nat → Nat → Int32} {R : Nat → Nat → Option Nat} {S : wS} {ti ci : Nat → Nat} {nt : Nat} {Tb : Nat → tb}
theorem s_fill {r n : Nat} {f : Nat → Int32} (h : G.1 r = some (.inl (0, n, .inl f))) (hn : n < 2 ^ 31) (v : Int32) : az_ca sc iJ7_fill_53178 [.ref r, .int v] G = some (none, az_set G r (.inl (0, n, .inl (fun j => if j < n then v else f j)))) := by
  have key : ∀ d i, i + d = n → az_rn sc iJ7_fill_53178 5 [some (.ref r), some (.int v), some (.int (nI i)), some (.int (nI n))] [] (az_set G r (.inl (0, n, .inl (fun j => if j < i then v else f j)))) = some (none, az_set G r (.inl (0, n, .inl (fun j => if j < n then v else f j)))) := by
    intro d
    induction d with
    | zero =>
      intro i hi
      have e : i = n := by omega
      subst e
      rw [bJ7_fill_53178_5, if_pos (nI_le (Nat.le_refl _) hn)]
    | succ d ih =>
      intro i hi
      rw [bJ7_fill_53178_5, if_neg (nI_ge (show i < n by omega) hn), sI_s (set_1 _ _ _) (show i < n by omega) hn, set_set, nI_1]
      have e : upd (fun j => if j < i then v else f j) i v = fun j => if j < i + 1 then v else f j := by
        funext j
        unfold upd
        by_cases e1 : j = i
        · rw [if_pos e1, if_pos (by omega)]
        · rw [if_neg e1]
          show (if j < i then v else f j) = _
          by_cases e2 : j < i
          · rw [if_pos e2, if_pos (by omega)]
          · rw [if_neg e2, if_neg (by omega)]
      rw [e]
      exact ih (i + 1) (by omega)
  have h0 := key n 0 (by omega)
  have e0 : az_set G r (.inl (0, n, .inl (fun j => if j < 0 then v else f j))) = G := by
    have : (fun j => if j < 0 then v else f j) = f := by funext j; rw [if_neg (Nat.not_lt_zero _)]
    rw [this]
    exact set_id h
  rw [e0] at h0
  rw [eJ7_fill_53178, ln_s h]
  exact h0
theorem psh_t (G : az_H) (e : va_E) (n : Nat) : (az_psh G e n).1 G.2.1 = some e := if_pos rfl
theorem psh_o {G : az_H} {q : Nat} (e : va_E) (n : Nat) (h : q ≠ G.2.1) : (az_psh G e n).1 q = G.1 q := if_neg h
theorem psh_set (G : az_H) (e e' : va_E) (n : Nat) : az_set (az_psh G e n) G.2.1 e' = az_psh G e' n := by
  refine Prod.ext (funext fun q => ?_) rfl
  show (if q = G.2.1 then some e' else if q = G.2.1 then some e else G.1 q) = if q = G.2.1 then some e' else G.1 q
  by_cases h : q = G.2.1
  · rw [if_pos h, if_pos h]
  · rw [if_neg h, if_neg h, if_neg h]
theorem psh_set2 {G : az_H} {q : Nat} (e e' : va_E) (n : Nat) (h : q ≠ G.2.1) : az_set (az_psh G e n) q e' = az_psh (az_set G q e') e n := by
  refine Prod.ext (funext fun i => ?_) rfl
  show (if i = q then some e' else if i = G.2.1 then some e else G.1 i) = if i = G.2.1 then some e else if i = q then some e' else G.1 i
  by_cases h1 : i = q
  · have h2 : ¬ i = G.2.1 := fun z => h (h1.symm.trans z)
    rw [if_pos h1, if_neg h2, if_pos h1]
  · rw [if_neg h1, if_neg h1]
theorem nA_s {G : az_H} {n : Nat} (hn : n ≤ 100000) (k : Nat → az_H → az_R) : az_nA G 0 (nI n) k = k G.2.1 (az_psh G (.inl (0, n, .inl (fun _ => 0))) n) := by
  unfold az_nA
  rw [nI_clamp (by omega), if_pos ⟨nI_nlt0 (by omega), hn⟩]
/-- the constructor -/
theorem s_newT {K : az_H} {n : Nat} (h1 : 1 ≤ n) (h6 : n ≤ 6) : az_ca sc iX4_init [.ref K.2.1, .int (nI n)] (az_psh K (.inr (4, az_df 4)) 6) = some (none, tbG (bmp K 4 630) K.2.1 (tnw n n)) := by
  obtain ⟨f, t, sl⟩ := K
  have c24 : ∀ (G : az_H) (k : Nat → az_H → az_R), az_nA G 0 24 k = k G.2.1 (az_psh G (.inl (0, 24, .inl (fun _ => 0))) 24) := fun G k => nA_s (n := 24) (by omega) k
  have c576 : ∀ (G : az_H) (k : Nat → az_H → az_R), az_nA G 0 576 k = k G.2.1 (az_psh G (.inl (0, 576, .inl (fun _ => 0))) 576) := fun G k => nA_s (n := 576) (by omega) k
  have hcell : tbC (az_set (az_psh (az_psh (az_psh (az_psh ((f, t, sl) : az_H) (.inr (4, [.int (nI n), .int 0, .int 0, .ref (t + 1), .ref (t + 2), .ref (t + 3)])) 6) (.inl (0, 24, .inl (fun _ => 0))) 24) (.inl (0, 24, .inl (fun _ => 0))) 24) (.inl (0, 576, .inl (fun _ => 0))) 576) (t + 3) (.inl (0, 576, .inl W0))) t (tnw n 0) := by
    refine ⟨?_, ?_, ?_, ?_⟩
    · exact (set_n (by omega)).trans ((psh_o _ _ (by show t ≠ t + 1 + 1 + 1; omega)).trans ((psh_o _ _ (by show t ≠ t + 1 + 1; omega)).trans ((psh_o _ _ (by show t ≠ t + 1; omega)).trans (psh_t _ _ _))))
    · exact (set_n (by omega)).trans ((psh_o _ _ (by show t + 1 ≠ t + 1 + 1 + 1; omega)).trans ((psh_o _ _ (by show t + 1 ≠ t + 1 + 1; omega)).trans (psh_t _ _ _)))
    · exact (set_n (by omega)).trans ((psh_o _ _ (by show t + 2 ≠ t + 1 + 1 + 1; omega)).trans (psh_t _ _ _))
    · exact set_1 _ _ _
  have e0 : az_set (az_psh (az_psh (az_psh (az_psh ((f, t, sl) : az_H) (.inr (4, [.int (nI n), .int 0, .int 0, .ref (t + 1), .ref (t + 2), .ref (t + 3)])) 6) (.inl (0, 24, .inl (fun _ => 0))) 24) (.inl (0, 24, .inl (fun _ => 0))) 24) (.inl (0, 576, .inl (fun _ => 0))) 576) (t + 3) (.inl (0, 576, .inl W0)) = tbG (bmp ((f, t, sl) : az_H) 4 630) t (tnw n 0) := by
    refine (tg_id hcell).symm.trans ?_
    refine Prod.ext (funext fun q => ?_) ?_
    · by_cases hq : q < t ∨ t + 3 < q
      · rw [tg_out _ _ hq, tg_out _ _ hq]
        show (if q = t + 3 then _ else if q = t + 1 + 1 + 1 then _ else if q = t + 1 + 1 then _ else if q = t + 1 then _ else if q = t then _ else f q) = f q
        rw [if_neg (by omega), if_neg (by omega), if_neg (by omega), if_neg (by omega), if_neg (by omega)]
      · have : q = t ∨ q = t + 1 ∨ q = t + 2 ∨ q = t + 3 := by omega
        rcases this with rfl | rfl | rfl | rfl
        · rw [(tg_C _ _ _).1, (tg_C _ _ _).1]
        · rw [(tg_C _ _ _).2.1, (tg_C _ _ _).2.1]
        · rw [(tg_C _ _ _).2.2.1, (tg_C _ _ _).2.2.1]
        · rw [(tg_C _ _ _).2.2.2, (tg_C _ _ _).2.2.2]
    · show (t + 1 + 1 + 1 + 1, sl + 6 + 24 + 24 + 576) = (t + 4, sl + 630)
      rfl
  have loop : ∀ d j, j + d = n → az_rn sc iX4_init 23 [some (.ref t), some (.int (nI n)), some (.int (nI j))] [] (tbG (bmp ((f, t, sl) : az_H) 4 630) t (tnw n j)) = some (none, tbG (bmp ((f, t, sl) : az_H) 4 630) t (tnw n n)) := by
    intro d
    induction d with
    | zero =>
      intro j hj
      have e : j = n := by omega
      subst e
      rw [bX4_init_23, if_pos (nI_le (Nat.le_refl _) (by omega))]
    | succ d ih =>
      intro j hj
      obtain ⟨-, hk, -⟩ := tnw_s n j (by omega)
      rw [bX4_init_23, if_neg (nI_ge (show j < n by omega) (by omega)), tb_rc (tg_C _ _ _), s_addArrow (by omega) (by omega) (by omega), bI_s, nI_1]
      exact ih (j + 1) (by omega)
  rw [eX4_init, pt_s (psh_t _ _ _) (Nat.le_of_ble_eq_true rfl), psh_set, c24]
  show az_pt (az_psh (az_psh ((f, t, sl) : az_H) _ 6) _ 24) t 4 3 (.ref (t + 1)) _ = _
  rw [pt_s ((psh_o _ _ (by show t ≠ t + 1; omega)).trans (psh_t _ _ _)) (Nat.le_of_ble_eq_true rfl), psh_set2 _ _ _ (by show t ≠ t + 1; omega), psh_set, c24]
  show az_pt (az_psh (az_psh (az_psh ((f, t, sl) : az_H) _ 6) _ 24) _ 24) t 4 4 (.ref (t + 2)) _ = _
  rw [pt_s ((psh_o _ _ (by show t ≠ t + 1 + 1; omega)).trans ((psh_o _ _ (by show t ≠ t + 1; omega)).trans (psh_t _ _ _))) (Nat.le_of_ble_eq_true rfl), psh_set2 _ _ _ (by show t ≠ t + 1 + 1; omega), psh_set2 _ _ _ (by show t ≠ t + 1; omega), psh_set, c576]
  show az_pt (az_psh (az_psh (az_psh (az_psh ((f, t, sl) : az_H) _ 6) _ 24) _ 24) _ 576) t 4 5 (.ref (t + 3)) _ = _
  rw [pt_s ((psh_o _ _ (by show t ≠ t + 1 + 1 + 1; omega)).trans ((psh_o _ _ (by show t ≠ t + 1 + 1; omega)).trans ((psh_o _ _ (by show t ≠ t + 1; omega)).trans (psh_t _ _ _)))) (Nat.le_of_ble_eq_true rfl), psh_set2 _ _ _ (by show t ≠ t + 1 + 1 + 1; omega), psh_set2 _ _ _ (by show t ≠ t + 1 + 1; omega), psh_set2 _ _ _ (by show t ≠ t + 1; omega), psh_set]
  rw [fR_s ((psh_o _ _ (by show t ≠ t + 1 + 1 + 1; omega)).trans ((psh_o _ _ (by show t ≠ t + 1 + 1; omega)).trans ((psh_o _ _ (by show t ≠ t + 1; omega)).trans (psh_t _ _ _)))) (x := t + 3) rfl]
  have hrow : (az_psh (az_psh (az_psh (az_psh ((f, t, sl) : az_H) (.inr (4, [.int (nI n), .int 0, .int 0, .ref (t + 1), .ref (t + 2), .ref (t + 3)])) 6) (.inl (0, 24, .inl (fun _ => 0))) 24) (.inl (0, 24, .inl (fun _ => 0))) 24) (.inl (0, 576, .inl (fun _ => 0))) 576).1 (t + 3) = some (.inl (0, 576, .inl (fun _ => 0))) := psh_t _ _ _
  have hfill := s_fill (sc := sc) hrow (by omega) (-1)
  have hW0 : (fun j => if j < 576 then (-1 : Int32) else (fun _ => 0) j) = W0 := rfl
  rw [hW0, e0] at hfill
  refine Eq.trans (congrArg (fun z => az_bV z _) hfill) ?_
  rw [bV_s]
  exact loop n 0 (by omega)
end NEWT
