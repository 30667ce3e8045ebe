def az_ge (G : az_H) (r : az_R) : Prop := ∀ v G', r = some (v, G') → az_up G G'
theorem az_up.rf {G : az_H} : az_up G G := ⟨Nat.le_refl _, Nat.le_refl _⟩
theorem az_up.tr {G G1 G2 : az_H} (h : az_up G G1) (h2 : az_up G1 G2) : az_up G G2 := ⟨Nat.le_trans h.1 h2.1, Nat.le_trans h.2 h2.2⟩
theorem az_ge.le {G G1 : az_H} {r : az_R} (h : az_ge G1 r) (u : az_up G G1) : az_ge G r := fun v G' e => u.tr (h v G' e)
theorem az_ge_n {G : az_H} : az_ge G none := fun _ _ h => by cases h
theorem az_ge_r {G : az_H} {v : Option Value} : az_ge G (some (v, G)) := fun _ _ h => by cases h; exact az_up.rf
theorem az_bI_g {G : az_H} {o : az_R} {k : Int32 → az_H → az_R} (ho : az_ge G o) (hk : ∀ x G', az_up G G' → az_ge G (k x G')) : az_ge G (az_bI o k) := by
  unfold az_bI; split
  · exact hk _ _ (ho _ _ rfl)
  · exact az_ge_n
theorem az_bL_g {G : az_H} {o : az_R} {k : Int64 → az_H → az_R} (ho : az_ge G o) (hk : ∀ x G', az_up G G' → az_ge G (k x G')) : az_ge G (az_bL o k) := by
  unfold az_bL; split
  · exact hk _ _ (ho _ _ rfl)
  · exact az_ge_n
theorem az_bV_g {G : az_H} {o : az_R} {k : az_H → az_R} (ho : az_ge G o) (hk : ∀ G', az_up G G' → az_ge G (k G')) : az_ge G (az_bV o k) := by
  unfold az_bV; split
  · exact hk _ (ho _ _ rfl)
  · exact az_ge_n
theorem az_bR_g {G : az_H} {o : az_R} {k0 : az_H → az_R} {k : Nat → az_H → az_R} (ho : az_ge G o) (hk0 : ∀ G', az_up G G' → az_ge G (k0 G')) (hk : ∀ x G', az_up G G' → az_ge G (k x G')) : az_ge G (az_bR o k0 k) := by
  unfold az_bR; split
  · exact hk0 _ (ho _ _ rfl)
  · exact hk _ _ (ho _ _ rfl)
  · exact az_ge_n
theorem az_cl_g {G : az_H} {o : az_R} {K : List Value → az_H → az_R} (q : Nat) (rest : List Value) (ho : az_ge G o) (hK : ∀ st G', az_up G G' → az_ge G (K st G')) : az_ge G (az_cl q o K rest) := by
  unfold az_cl
  split
  · exact az_bV_g ho fun _ u => hK _ _ u
  · exact az_bI_g ho fun _ _ u => hK _ _ u
  · exact az_bL_g ho fun _ _ u => hK _ _ u
  · exact az_bR_g ho (fun _ u => hK _ _ u) fun _ _ u => hK _ _ u
theorem az_fI_g {G : az_H} {r ci j : Nat} {k : Int32 → az_R} (h : ∀ x, az_ge G (k x)) : az_ge G (az_fI G r ci j k) := by
  unfold az_fI; (repeat' split) <;> first | exact h _ | exact az_ge_n
theorem az_fR_g {G : az_H} {r ci j : Nat} {k : Nat → az_R} (h : ∀ x, az_ge G (k x)) : az_ge G (az_fR G r ci j k) := by
  unfold az_fR; (repeat' split) <;> first | exact h _ | exact az_ge_n
theorem az_ln_g {G : az_H} {kd r : Nat} {k : Int32 → az_R} (h : ∀ x, az_ge G (k x)) : az_ge G (az_ln G kd r k) := by
  unfold az_ln; (repeat' split) <;> first | exact h _ | exact az_ge_n
theorem az_aI_g {G : az_H} {kd r : Nat} {i : Int32} {k : Int32 → az_R} (h : ∀ x, az_ge G (k x)) : az_ge G (az_aI G kd r i k) := by
  unfold az_aI; (repeat' split) <;> first | exact h _ | exact az_ge_n
theorem az_aR_g {G : az_H} {kd r : Nat} {i : Int32} {k : Nat → az_R} (h : ∀ x, az_ge G (k x)) : az_ge G (az_aR G kd r i k) := by
  unfold az_aR; (repeat' split) <;> first | exact h _ | exact az_ge_n
theorem az_pt_g {G : az_H} {r ci j : Nat} {v : Value} {k : az_H → az_R} (h : ∀ G', az_up G G' → az_ge G (k G')) : az_ge G (az_pt G r ci j v k) := by
  unfold az_pt; (repeat' split) <;> first | exact h _ az_up.rf | exact az_ge_n
theorem az_sI_g {G : az_H} {kd r : Nat} {i x : Int32} {k : az_H → az_R} (h : ∀ G', az_up G G' → az_ge G (k G')) : az_ge G (az_sI G kd r i x k) := by
  unfold az_sI; (repeat' split) <;> first | exact h _ az_up.rf | exact az_ge_n
theorem az_sR_g {G : az_H} {kd r v : Nat} {i : Int32} {k : az_H → az_R} (h : ∀ G', az_up G G' → az_ge G (k G')) : az_ge G (az_sR G kd r i v k) := by
  unfold az_sR; (repeat' split) <;> first | exact h _ az_up.rf | exact az_ge_n
theorem az_up_psh {G : az_H} {e : va_E} {n : Nat} : az_up G (az_psh G e n) := ⟨Nat.le_succ _, Nat.le_add_right _ _⟩
theorem az_nO_g {G : az_H} {ci : Nat} {k : Nat → az_H → az_R} (h : ∀ q G', az_up G G' → az_ge G (k q G')) : az_ge G (az_nO G ci k) := h _ _ az_up_psh
theorem az_nA_g {G : az_H} {kd : Nat} {n : Int32} {k : Nat → az_H → az_R} (h : ∀ q G', az_up G G' → az_ge G (k q G')) : az_ge G (az_nA G kd n k) := by
  unfold az_nA; split
  · exact h _ _ az_up_psh
  · exact az_ge_n
theorem az_nR_g {G : az_H} {kd : Nat} {n : Int32} {k : Nat → az_H → az_R} (h : ∀ q G', az_up G G' → az_ge G (k q G')) : az_ge G (az_nR G kd n k) := by
  unfold az_nR; split
  · exact h _ _ az_up_psh
  · exact az_ge_n
theorem az_rc_g {G : az_H} {r ci : Nat} {k : az_R} (h : az_ge G k) : az_ge G (az_rc G r ci k) := by
  unfold az_rc; (repeat' split) <;> first | exact h | exact az_ge_n
theorem az_dv_g {G : az_H} {y : Int32} {k : az_R} (h : az_ge G k) : az_ge G (az_dv y k) := by
  unfold az_dv; (repeat' split) <;> first | exact h | exact az_ge_n
theorem az_w1_g {G : az_H} {y : Int32} {k : az_R} (h : az_ge G k) : az_ge G (az_w1 y k) := by
  unfold az_w1; (repeat' split) <;> first | exact h | exact az_ge_n
theorem az_rm_g {G : az_H} {st : List Value} {k : az_R} (h : az_ge G k) : az_ge G (az_rm st k) := by
  unfold az_rm; (repeat' split) <;> first | exact h | exact az_ge_n
theorem az_zr_g {G : az_H} {x : Int32} : az_ge G (az_zr x G) := by
  unfold az_zr; split
  · exact az_ge_r
  · exact az_ge_n
set_option maxHeartbeats 4000000 in
theorem az_st_g (sc : az_S) (tw : Nat → List Nat) {C : Nat → List Value → az_H → az_R} {K : Nat → az_L → List Value → az_H → az_R} (hC : ∀ y vs G, az_ge G (C y vs G)) (hK : ∀ k L st G, az_ge G (K k L st G)) (i : az_I) (k : Nat) (L : az_L) (st : List Value) (G : az_H) : az_ge G (az_st sc tw C K i k L st G) := by
  obtain ⟨pc, ins, a, b, c, d, x, y⟩ := i
  cases ins
  case ifCond cond off => cases cond <;> simp only [az_st] <;> (repeat' first | exact az_ge_n | exact hK _ _ _ _ | split)
  case if_icmp cond off => cases cond <;> simp only [az_st] <;> (repeat' first | exact az_ge_n | exact hK _ _ _ _ | split)
  all_goals simp only [az_st]
  all_goals repeat' first
    | exact az_ge_n
    | exact az_ge_r
    | exact az_zr_g
    | exact hK _ _ _ _
    | refine az_fI_g fun _ => ?_
    | refine az_fR_g fun _ => ?_
    | exact az_pt_g fun _ u => (hK _ _ _ _).le u
    | refine az_ln_g fun _ => ?_
    | refine az_aI_g fun _ => ?_
    | refine az_aR_g fun _ => ?_
    | exact az_sI_g fun _ u => (hK _ _ _ _).le u
    | exact az_sR_g fun _ u => (hK _ _ _ _).le u
    | exact az_nO_g fun _ _ u => (hK _ _ _ _).le u
    | exact az_nA_g fun _ _ u => (hK _ _ _ _).le u
    | exact az_nR_g fun _ _ u => (hK _ _ _ _).le u
    | refine az_rc_g ?_
    | refine az_dv_g ?_
    | refine az_w1_g ?_
    | refine az_rm_g ?_
    | exact az_cl_g _ _ (hC _ _ _) (fun _ _ u => (hK _ _ _ _).le u)
    | split
/-- the abstract machine's run, with so much fuel -/
def az_ev (sc : az_S) : Nat → Nat → Nat → az_L → List Value → az_H → az_R
  | 0, _, _, _, _, _ => none
  | n + 1, y, k, L, st, G => match (az_pg y)[k]? with
    | none => none
    | some i => az_st sc (az_tw y) (fun a vs G => if (az_en vs).length ≤ az_nL a then az_ev sc n a 0 (az_ent (az_nL a) vs) [] G else none) (fun k L st G => az_ev sc n y k L st G) i k L st G
theorem az_ev_s (sc : az_S) : ∀ n y k L st G, az_le (az_ev sc n y k L st G) (az_ev sc (n + 1) y k L st G) := by
  intro n
  induction n with
  | zero => intro y k L st G; exact az_le_n
  | succ n ih =>
    intro y k L st G
    rw [az_ev, az_ev]
    cases (az_pg y)[k]? with
    | none => exact az_le_r
    | some i =>
      refine az_st_m sc _ (fun a vs G => ?_) (fun k L st G => ih _ _ _ _ _) i k L st G
      split
      · exact ih _ _ _ _ _
      · exact az_le_n
theorem az_ev_m (sc : az_S) (y k : Nat) (L : az_L) (st : List Value) (G : az_H) : az_mn (fun n => az_ev sc n y k L st G) := by
  intro n m h
  induction h with
  | refl => exact az_le_r
  | step _ ih => exact fun r e => az_ev_s sc _ y k L st G r (ih r e)
theorem az_ev_g (sc : az_S) : ∀ n y k L st G, az_ge G (az_ev sc n y k L st G) := by
  intro n
  induction n with
  | zero => intro y k L st G; exact az_ge_n
  | succ n ih =>
    intro y k L st G
    rw [az_ev]
    cases (az_pg y)[k]? with
    | none => exact az_ge_n
    | some i =>
      refine az_st_g sc _ (fun a vs G => ?_) (fun k L st G => ih _ _ _ _ _) i k L st G
      split
      · exact ih _ _ _ _ _
      · exact az_ge_n
/-- what the program's table owes: checked by program, method by method -/
def az_all : Prop := ∀ y, y < 190 → az_chk y = true ∧ (0 < y → az_mok y = true)
theorem az_chk_k {y : Nat} (h : az_chk y = true) {k : Nat} {i : az_I} (hi : (az_pg y)[k]? = some i) : az_ck1 y k = true := by
  unfold az_chk at h
  exact List.all_eq_true.mp h k (List.mem_range.mpr (List.getElem?_eq_some_iff.mp hi).1)
/-- the abstract machine's run holds of the machine: a frame -/
def az_fr_ok (l : Launch) (Z : Nat) (D : va_G) (cy : Nat → ClassId) (sc : az_S) (y k : Nat) (L : az_L) (st : List Value) (G : az_H) (v0 : Option Value) (G0 : az_H) : Prop :=
  ∀ (p : Program) (e : Env) (R : Room) (s : State) (m : MethodId) (args : Array Value) (below : List Frame) (meth : Method) (c : Code) (Q : State → Prop) (n0 s0 : Nat) (Hs : Heap), az_fx p y s m args meth c → az_kk D cy s → (y = 0 → va_X sc.1 sc.2.1 sc.2.2 s Hs ∧ sc.1 < Hs.size ∧ sc.1 < Z) → az_fr y ≤ R.frames → az_lo y ≤ R.locals → G0.2.1 - n0 ≤ R.cells → G0.2.2 - s0 ≤ R.slots →
    (∀ (ins : Instr) (pc : Nat) (ls : Array Slot) (st : List Value) (H : Heap) (locs : List Loc), az_isret y ins st v0 → decode (az_mc y) pc = .ok (ins, 1) → az_rel Z D cy G0 H → va_S (fun q => Z ≤ q) Hs H locs → az_wg p l e R s m args below meth c Q n0 s0 G0 H locs pc ls st) →
    n0 ≤ G.2.1 → s0 ≤ G.2.2 → ∀ (H : Heap) (locs : List Loc) (ls : Array Slot), az_rel Z D cy G H → va_S (fun q => Z ≤ q) Hs H locs → az_pl ls (az_nL y) L → az_wg p l e R s m args below meth c Q n0 s0 G H locs (az_bp y k) ls st
/-- from a frame to a contract -/
theorem az_met_of (hA : az_all) (l : Launch) (Z : Nat) (D : va_G) (cy : Nat → ClassId) (sc : az_S) {a : Nat} (h0 : 0 < a) (h1 : a < 190) {vs : List Value} {G G0 : az_H} {v0 : Option Value} (hen : (az_en vs).length ≤ az_nL a) (hfr : az_fr_ok l Z D cy sc a 0 (az_ent (az_nL a) vs) [] G v0 G0) : az_met l Z D cy a vs G v0 G0 := by
  obtain ⟨m1, m2, m3, m4, m5, m6, m7, m8, m9⟩ := az_mok_spec ((hA a h1).2 h0)
  unfold az_met
  refine Met.ofW (cc := az_mc a) (maxL := az_nL a) (ret := az_rt a) m5 rfl ?_
  intro p e s m args below meth c s₁ B hml hv
  obtain ⟨rfl, hrel, hK⟩ := hv
  have hpre := atoms_spec (ws := az_wm a) B.pre
  have hts : ∀ w ∈ az_ws, w.before vs.toArray s = true := fun w hw => hpre w (List.mem_cons_of_mem _ hw)
  have hlocks := B.notSynchronized
  have hl := az_pl.entry vs hen
  rw [lg_entry_eq]
  have hZ : ∀ (H : Heap) (locs : List Loc), va_S (fun q => Z ≤ q) s.heap H locs → ∀ t : State, t.heap = H → va_F (fun q => Z ≤ q) s t := fun H locs hS t ht => ⟨by rw [ht]; exact hS.1, fun q h1 h2 => by rw [ht]; exact hS.2.1 q h1 h2⟩
  have key := hfr p e (headSpec (az_wm a) ({ frames := az_fr a, cells := G0.2.1 - G.2.1, slots := G0.2.2 - G.2.2, locals := az_lo a })).room s m vs.toArray below meth c (MQ below (az_Qc Z D cy v0 G0) vs.toArray s (G0.2.1 - G.2.1) (G0.2.2 - G.2.2) (fun q => Z ≤ q)) G.2.1 G.2.2 s.heap ⟨B.exec, B.bytes, hml, findClass_of_methodNamed B.named, hts, fun hn => ((name_of_methodNamed B.named B.method).1).trans hn⟩ hK (fun hy => absurd hy (by omega)) (Nat.le_refl _) (Nat.le_refl _) (Nat.le_refl _) (Nat.le_refl _) ?_ (Nat.le_refl _) (Nat.le_refl _) s.heap [] _ hrel va_S.rf hl
  · rw [m9] at key
    have e1 : G.2.1 - G.2.1 = 0 := Nat.sub_self _
    have e2 : G.2.2 - G.2.2 = 0 := Nat.sub_self _
    unfold az_wg at key
    rw [e1, e2] at key
    exact key
  · intro ins pc ls st H locs hret hdc hrel1 hS1
    have hfree : ∀ q ∈ locs, Z ≤ q.base := fun q hq => hS1.2.2 q hq
    rcases hret with ⟨rfl, x, rfl, rfl, hrt⟩ | ⟨rfl, x, rfl, rfl, hrt⟩ | ⟨rfl, x, t, rfl, rfl, hxx, hrt, hir⟩ | ⟨rfl, rfl, rfl, hrt⟩
    · rcases hrt with hrt | ⟨hrt, h01⟩
      · exact W.iret (free := fun q => Z ≤ q) B.exec B.bytes (B.returns.trans hrt) (fun t ht _ => ⟨rfl, by rw [ht]; exact hrel1, hZ H locs hS1 t ht⟩) hfree hdc hlocks
      · exact W.zret (free := fun q => Z ≤ q) (ty := .boolean) B.exec B.bytes (B.returns.trans hrt) (by rcases h01 with rfl | rfl <;> rfl) (fun t ht _ => ⟨rfl, by rw [ht]; exact hrel1, hZ H locs hS1 t ht⟩) hfree hdc hlocks
    · exact W.lret (free := fun q => Z ≤ q) B.exec B.bytes (B.returns.trans hrt) (fun t ht _ => ⟨rfl, by rw [ht]; exact hrel1, hZ H locs hS1 t ht⟩) hfree hdc hlocks
    · exact W.aret (free := fun q => Z ≤ q) (rt := t) B.exec B.bytes (B.returns.trans hrt) (by cases t <;> simp [az_isr] at hir <;> simp) hxx (fun t ht _ => ⟨rfl, by rw [ht]; exact hrel1, hZ H locs hS1 t ht⟩) hfree hdc hlocks
    · exact W.vret (free := fun q => Z ≤ q) B.exec B.bytes (B.returns.trans hrt) (fun t ht _ => ⟨rfl, by rw [ht]; exact hrel1, hZ H locs hS1 t ht⟩) hfree hdc hlocks
/-- THE TIE: what the abstract machine comes to, the machine comes to -/
theorem az_sound (hA : az_all) (l : Launch) (Z : Nat) (D : va_G) (cy : Nat → ClassId) (sc : az_S) : ∀ n y, y < 190 → ∀ k L st G v0 G0, az_ev sc n y k L st G = some (v0, G0) → az_fr_ok l Z D cy sc y k L st G v0 G0 := by
  intro n
  induction n with
  | zero => intro y hy k L st G v0 G0 h; cases h
  | succ n ih =>
    intro y hy k L st G v0 G0 h
    rw [az_ev] at h
    cases hi : (az_pg y)[k]? with
    | none => rw [hi] at h; cases h
    | some i =>
      rw [hi] at h
      intro p e R s m args below meth c Q n0 s0 Hs X hK hsc hRf hRl hRc hRs hret hn0 hs0 H locs ls hrel hS hL
      refine az_snd X hK hsc hRf hRl hRc hRs hret ?_ (fun a b c => (hA a c).2 b) ?_ i k hi (az_chk_k (hA y hy).1 hi) L st G h hn0 hs0 hrel hS hL
      · intro a vs G v G' hc
        split at hc
        · rename_i hen
          exact ⟨az_ev_g sc _ _ _ _ _ _ _ _ hc, fun h0 h1 => az_met_of hA l Z D cy sc h0 h1 hen (ih a h1 _ _ _ _ _ _ hc)⟩
        · cases hc
      · intro k L st G hk
        exact ⟨az_ev_g sc _ _ _ _ _ _ _ _ hk, fun hn0 hs0 H locs ls hrel hS hL => ih y hy _ _ _ _ _ _ hk p e R s m args below meth c Q n0 s0 Hs X hK hsc hRf hRl hRc hRs hret hn0 hs0 H locs ls hrel hS hL⟩
