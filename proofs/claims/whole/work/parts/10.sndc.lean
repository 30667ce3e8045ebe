/-! THE TIE, third part: one step of the abstract machine is one of the machine -/
def az_up (G G' : az_H) : Prop := G.2.1 ≤ G'.2.1 ∧ G.2.2 ≤ G'.2.2
def az_Pc (Z : Nat) (D : va_G) (cy : Nat → ClassId) (vs : List Value) (G : az_H) : Array Value → State → Prop := va_Pc vs (fun U => az_rel Z D cy G U.heap ∧ az_kk D cy U)
def az_Qc (Z : Nat) (D : va_G) (cy : Nat → ClassId) (v : Option Value) (G' : az_H) : Array Value → State → Outcome → State → Prop := fun _ st o t => o = .returned v ∧ az_rel Z D cy G' t.heap ∧ va_F (fun q => Z ≤ q) st t
def az_wm (a : Nat) : List Cond := Cond.code (az_nm a) (az_mc a) (az_nL a) (az_rt a) :: az_ws
def az_met (l : Launch) (Z : Nat) (D : va_G) (cy : Nat → ClassId) (a : Nat) (vs : List Value) (G : az_H) (v : Option Value) (G' : az_H) : Prop := Met l (az_nm a) (az_wm a) ({ frames := az_fr a, cells := G'.2.1 - G.2.1, slots := G'.2.2 - G.2.2, locals := az_lo a }) (az_Pc Z D cy vs G) (az_Qc Z D cy v G') (G'.2.1 - G.2.1) (G'.2.2 - G.2.2) (fun q => Z ≤ q)
/-- an instruction that returns, its stack, its answer -/
def az_isret (y : Nat) (ins : Instr) (st : List Value) (v : Option Value) : Prop := (ins = .ireturn ∧ ∃ x, st = [.int x] ∧ v = some (.int x) ∧ (az_rt y = some .int ∨ (az_rt y = some .boolean ∧ (x = 0 ∨ x = 1)))) ∨ (ins = .lreturn ∧ ∃ x, st = [.long x] ∧ v = some (.long x) ∧ az_rt y = some .long) ∨ (ins = .areturn ∧ ∃ x t, st = [x] ∧ v = some x ∧ (x = .null ∨ ∃ q, x = .ref q) ∧ az_rt y = some t ∧ az_isr t = true) ∨ (ins = .return_ ∧ st = [] ∧ v = none ∧ az_rt y = none)
theorem az_blind {Z : Nat} {D : va_G} {cy : Nat → ClassId} {vs : List Value} {G : az_H} : FrameBlind (az_Pc Z D cy vs G) := fun _ _ _ _ q => ⟨q.1, q.2.1, az_kk.same rfl q.2.2⟩
theorem az_good : ∀ w ∈ az_ws, (w.onTables && w.keeps) = true ∨ ∃ ty, w = .arrayClass ty := fun w h => good_of_word (List.mem_filter.mp h).2
theorem az_in_wm (a : Nat) (h : Cond.code (az_nm a) (az_mc a) (az_nL a) (az_rt a) ∈ az_ws) : GoodIn az_ws (az_wm a) := by
  intro w hw
  rcases List.mem_cons.mp hw with rfl | hw
  · exact ⟨h, az_good _ h⟩
  · exact ⟨hw, az_good _ hw⟩
/-- what the table says of a method -/
theorem az_mok_spec {a : Nat} (h : az_mok a = true) : Cond.code (az_nm a) (az_mc a) (az_nL a) (az_rt a) ∈ az_ws ∧ Cond.initialized (az_nm a).cls ∈ az_ws ∧ (az_is a = true → Cond.static (az_nm a) ∈ az_ws) ∧ (az_is a = false → Cond.instanceMethod (az_nm a) ∈ az_ws) ∧ plainName (az_nm a).cls = true ∧ ((az_nm a).cls ≠ "java/lang/invoke/MethodHandle" ∧ (az_nm a).cls ≠ "java/lang/invoke/VarHandle" ∧ (parseMethodDescriptor (az_nm a).desc).map (fun d => d.parameters.length) = some (az_np a)) ∧ (az_qs a < 9999 → Cond.selects (az_nm a).cls (az_nm a) (az_nm a) ∈ az_ws) ∧ 0 < (az_pg a).length ∧ az_bp a 0 = 0 := by
  simp only [az_mok, Bool.and_eq_true, decide_eq_true_eq] at h
  obtain ⟨⟨⟨⟨⟨⟨⟨⟨⟨h1, h2⟩, h3⟩, h4⟩, h5⟩, h6⟩, h7⟩, h8⟩, h9⟩, h10⟩ := h
  refine ⟨az_in_ws h1, az_in_ws h2, fun e => ?_, fun e => ?_, h4, ⟨h5, h6, h7⟩, fun e => ?_, h9, h10⟩
  · rw [if_pos e] at h3; exact az_in_ws h3
  · rw [if_neg (by rw [e]; decide)] at h3; exact az_in_ws h3
  · rw [if_pos e] at h8; exact az_in_ws h8
section AZC
variable {p : Program} {l : Launch} {e : Env} {R : Room} {s : State} {m : MethodId} {args : Array Value} {below : List Frame} {meth : Method} {c : Code} {Q : State → Prop}
variable {y Z n0 s0 : Nat} {D : va_G} {cy : Nat → ClassId} {Hs : Heap} {v0 : Option Value} {G0 : az_H}
/-- what holds of a frame -/
abbrev az_fx (p : Program) (y : Nat) (s : State) (m : MethodId) (args : Array Value) (meth : Method) (c : Code) : Prop := p.tables.exec = Jvm.exec ∧ c.code = az_mc y ∧ c.maxLocals = az_nL y ∧ s.vm.findClass (az_own y) = some m.cls ∧ (∀ w ∈ az_ws, w.before args s = true) ∧ ((az_nm y).name = "<init>" → meth.name = "<init>")
abbrev az_sc (p : Program) (l : Launch) (e : Env) (R : Room) (s : State) (m : MethodId) (args : Array Value) (below : List Frame) (meth : Method) (c : Code) (Q : State → Prop) (y Z n0 s0 : Nat) (D : va_G) (cy : Nat → ClassId) (Hs : Heap) (G0 G : az_H) (k : Nat) (L : az_L) (st : List Value) : Prop := az_up G G0 ∧ (n0 ≤ G.2.1 → s0 ≤ G.2.2 → ∀ (H : Heap) (locs : List Loc) (ls : Array Slot), az_rel Z D cy G H → va_S (fun q => Z ≤ q) Hs H locs → az_pl ls (az_nL y) L → W p l e R s m args below meth c H locs (G.2.1 - n0) (G.2.2 - s0) Q (F0 m (az_bp y k) ls st))
abbrev az_wg (p : Program) (l : Launch) (e : Env) (R : Room) (s : State) (m : MethodId) (args : Array Value) (below : List Frame) (meth : Method) (c : Code) (Q : State → Prop) (n0 s0 : Nat) (G : az_H) (H : Heap) (locs : List Loc) (pc : Nat) (ls : Array Slot) (st : List Value) : Prop := W p l e R s m args below meth c H locs (G.2.1 - n0) (G.2.2 - s0) Q (F0 m pc ls st)

theorem az_nm1 {a b : Nat} {G G1 G0 : az_H} (h1 : az_up G G1) (hn : n0 ≤ G.2.1) : (G.2.1 - n0) + (G1.2.1 - G.2.1) = G1.2.1 - n0 := by
  have := h1.1
  omega
theorem az_callS (X : az_fx p y s m args meth c) (hK : az_kk D cy s) (hRf : az_fr y ≤ R.frames) (hRl : az_lo y ≤ R.locals) (hRc : G0.2.1 - n0 ≤ R.cells) (hRs : G0.2.2 - s0 ≤ R.slots) {a b cc' pos j : Nat} {G G1 : az_H} {vs rest : List Value} {v : Option Value} (hM : az_met l Z D cy a vs G v G1) (h1 : az_up G G1) (h2 : az_up G1 G0) (hcal : az_cal y a b cc' = true) (hlnk : az_lnk y pos j a = true) (hst : az_is a = true) (hmok : az_mok a = true) (hn : n0 ≤ G.2.1) (hs : s0 ≤ G.2.2) (hvs : vs.length = b) (hrm : az_cat rest ≤ 8) {H : Heap} {locs : List Loc} {ls : Array Slot} (hrel : az_rel Z D cy G H) (hS : va_S (fun q => Z ≤ q) Hs H locs) (hls : ls.size = az_nL y) {pc : Nat} (hdc : decode (az_mc y) pc = .ok (.invokestatic j, 3)) (kk : ∀ (H1 : Heap) (locs1 : List Loc), az_rel Z D cy G1 H1 → va_S (fun q => Z ≤ q) Hs H1 locs1 → az_wg p l e R s m args below meth c Q n0 s0 G1 H1 locs1 (pc + 3) ls (v.toList ++ rest)) : az_wg p l e R s m args below meth c Q n0 s0 G H locs pc ls (vs.reverse ++ rest) := by
  obtain ⟨hx, hb, hml, hown, hts, -⟩ := X
  obtain ⟨m1, m2, m3, m4, m5, m6, m7, -, -⟩ := az_mok_spec hmok
  simp only [az_cal, Bool.and_eq_true, decide_eq_true_eq] at hcal
  obtain ⟨⟨⟨⟨⟨c1, c2⟩, c3⟩, c4⟩, c5⟩, c6⟩ := hcal
  have e1 : (G.2.1 - n0) + (G1.2.1 - G.2.1) = G1.2.1 - n0 := by have := h1.1; omega
  have e2 : (G.2.2 - s0) + (G1.2.2 - G.2.2) = G1.2.2 - s0 := by have := h1.2; omega
  have hf : (G.2.1 - n0) + (G1.2.1 - G.2.1) ≤ R.cells ∧ (G.2.2 - s0) + (G1.2.2 - G.2.2) ≤ R.slots := by have := h2.1; have := h2.2; omega
  have hpre : PreS s H (az_Pc Z D cy vs G) vs := ⟨az_blind, fun U hU hW => ⟨rfl, by rw [hU]; exact hrel, az_kk.warm hW hK⟩⟩
  have fin : va_Run p l e R s m args below meth c H locs (G.2.1 - n0) (G.2.2 - s0) (G1.2.1 - G.2.1) (G1.2.2 - G.2.2) (F0 m pc ls (vs.reverse ++ rest)) rest (az_Qc Z D cy v G1 vs.toArray) (fun q => Z ≤ q) := by
    unfold az_lnk at hlnk
    split at hlnk
    · exact va_runS ⟨hx, hb, hml, hown, hts⟩ hM ⟨callB_of (az_np a) hts (az_in_wm a m1) rfl rfl rfl (hts _ m2) (hts _ (az_in_ws hlnk)) m6 ⟨by show az_fr a + 1 ≤ _; omega, by show 8 + (az_nL a + 11) + az_lo a ≤ _; omega⟩, hts _ (m3 hst)⟩ hpre rfl (hvs.trans c5) hls rfl (lv_room hrm) hdc hf
    · split at hlnk
      · rename_i en hen
        simp only [Bool.and_eq_true, decide_eq_true_eq] at hlnk
        obtain ⟨⟨q1, q2⟩, q3⟩ := hlnk
        have hnw := hK.2.1 en (List.mem_of_getElem? hen)
        rw [q1, q2, q3] at hnw
        exact va_runSN ⟨hx, hb, hml, hown, hts⟩ hM ⟨va_cnB (az_np a) hts (az_in_wm a m1) rfl rfl rfl hnw (hts _ m2) m6 ⟨by show az_fr a + 1 ≤ _; omega, by show 8 + (az_nL a + 11) + az_lo a ≤ _; omega⟩, hts _ (m3 hst), trivial⟩ hpre rfl (hvs.trans c5) hls rfl (lv_room hrm) hdc hf
      · cases hlnk
  refine az_wcall (avs := vs.toArray) fin hS fun H1 locs1 g1 g2 => ?_
  rw [e1, e2]
  exact kk H1 locs1 g1 g2
theorem az_callV (X : az_fx p y s m args meth c) (hK : az_kk D cy s) (hRf : az_fr y ≤ R.frames) (hRl : az_lo y ≤ R.locals) (hRc : G0.2.1 - n0 ≤ R.cells) (hRs : G0.2.2 - s0 ≤ R.slots) {a b cc' pos j d r : Nat} {G G1 : az_H} {vs rest fs : List Value} {v : Option Value} (hM : az_met l Z D cy a (.ref r :: vs) G v G1) (h1 : az_up G G1) (h2 : az_up G1 G0) (hcal : az_cal y a b cc' = true) (hlnk : az_lnk y pos j a = true) (hst : az_is a = false) (hmok : az_mok a = true) (hd : d < 7) (hcd : (az_C d).1 = az_own a) (hqs : az_qs a < 9999) (hr : G.1 r = some (.inr (d, fs))) (hn : n0 ≤ G.2.1) (hs : s0 ≤ G.2.2) (hvs : vs.length = b) (hrm : az_cat rest ≤ 8) {H : Heap} {locs : List Loc} {ls : Array Slot} (hrel : az_rel Z D cy G H) (hS : va_S (fun q => Z ≤ q) Hs H locs) (hls : ls.size = az_nL y) {pc : Nat} (hdc : decode (az_mc y) pc = .ok (.invokevirtual j, 3)) (kk : ∀ (H1 : Heap) (locs1 : List Loc), az_rel Z D cy G1 H1 → va_S (fun q => Z ≤ q) Hs H1 locs1 → az_wg p l e R s m args below meth c Q n0 s0 G1 H1 locs1 (pc + 3) ls (v.toList ++ rest)) : az_wg p l e R s m args below meth c Q n0 s0 G H locs pc ls (vs.reverse ++ .ref r :: rest) := by
  obtain ⟨hx, hb, hml, hown, hts, -⟩ := X
  obtain ⟨m1, m2, m3, m4, m5, m6, m7, -, -⟩ := az_mok_spec hmok
  simp only [az_cal, Bool.and_eq_true, decide_eq_true_eq] at hcal
  obtain ⟨⟨⟨⟨⟨c1, c2⟩, c3⟩, c4⟩, c5⟩, c6⟩ := hcal
  have e1 : (G.2.1 - n0) + (G1.2.1 - G.2.1) = G1.2.1 - n0 := by have := h1.1; omega
  have e2 : (G.2.2 - s0) + (G1.2.2 - G.2.2) = G1.2.2 - s0 := by have := h1.2; omega
  have hf : (G.2.1 - n0) + (G1.2.1 - G.2.1) ≤ R.cells ∧ (G.2.2 - s0) + (G1.2.2 - G.2.2) ≤ R.slots := by have := h2.1; have := h2.2; omega
  have hrc := va_recv (q0 := 0) (ws := [(r, .inr (d, fs))]) hK.1 (az_P1 (hrel.2.2 _ _ hr).2) (az_clo d hd) rfl
  have hpre : PreV s H (az_own a) r (az_Pc Z D cy (.ref r :: vs) G) vs := ⟨az_blind, by rw [← hcd]; exact hrc, fun U hU hW => ⟨rfl, by rw [hU]; exact hrel, az_kk.warm hW hK⟩⟩
  have fin : va_Run p l e R s m args below meth c H locs (G.2.1 - n0) (G.2.2 - s0) (G1.2.1 - G.2.1) (G1.2.2 - G.2.2) (F0 m pc ls (vs.reverse ++ .ref r :: rest)) rest (az_Qc Z D cy v G1 (Value.ref r :: vs).toArray) (fun q => Z ≤ q) := by
    unfold az_lnk at hlnk
    split at hlnk
    · exact va_runV ⟨hx, hb, hml, hown, hts⟩ hM ⟨callB_of (az_np a) hts (az_in_wm a m1) rfl rfl rfl (hts _ m2) (hts _ (az_in_ws hlnk)) m6 ⟨by show az_fr a + 1 ≤ _; omega, by show 8 + (az_nL a + 11) + az_lo a ≤ _; omega⟩, hts _ (m4 hst), hts _ (m7 hqs)⟩ hpre rfl (hvs.trans c5) hls rfl (lv_room hrm) hdc hf
    · split at hlnk
      · rename_i en hen
        simp only [Bool.and_eq_true, decide_eq_true_eq] at hlnk
        obtain ⟨⟨q1, q2⟩, q3⟩ := hlnk
        have hnw := hK.2.1 en (List.mem_of_getElem? hen)
        rw [q1, q2, q3] at hnw
        exact va_runVN ⟨hx, hb, hml, hown, hts⟩ hM ⟨va_cnB (az_np a) hts (az_in_wm a m1) rfl rfl rfl hnw (hts _ m2) m6 ⟨by show az_fr a + 1 ≤ _; omega, by show 8 + (az_nL a + 11) + az_lo a ≤ _; omega⟩, hts _ (m4 hst), hts _ (m7 hqs)⟩ hpre rfl (hvs.trans c5) hls rfl (lv_room hrm) hdc hf
      · cases hlnk
  refine az_wcall (avs := (Value.ref r :: vs).toArray) fin hS fun H1 locs1 g1 g2 => ?_
  rw [e1, e2]
  exact kk H1 locs1 g1 g2
theorem az_callI (X : az_fx p y s m args meth c) (hK : az_kk D cy s) (hRf : az_fr y ≤ R.frames) (hRl : az_lo y ≤ R.locals) (hRc : G0.2.1 - n0 ≤ R.cells) (hRs : G0.2.2 - s0 ≤ R.slots) {a b cc' pos j r : Nat} {G G1 : az_H} {vs rest : List Value} {v : Option Value} (hM : az_met l Z D cy a (.ref r :: vs) G v G1) (h1 : az_up G G1) (h2 : az_up G1 G0) (hcal : az_cal y a b cc' = true) (hpos : pos < 10000) (hlnk : az_lnk y pos j a = true) (hst : az_is a = false) (hmok : az_mok a = true) (hnam : (az_nm a).name = "<init>") (hcc : cc' = 0) (hn : n0 ≤ G.2.1) (hs : s0 ≤ G.2.2) (hvs : vs.length = b) (hrm : az_cat rest ≤ 8) {H : Heap} {locs : List Loc} {ls : Array Slot} (hrel : az_rel Z D cy G H) (hS : va_S (fun q => Z ≤ q) Hs H locs) (hls : ls.size = az_nL y) {pc : Nat} (hdc : decode (az_mc y) pc = .ok (.invokespecial j, 3)) (kk : ∀ (H1 : Heap) (locs1 : List Loc), az_rel Z D cy G1 H1 → va_S (fun q => Z ≤ q) Hs H1 locs1 → az_wg p l e R s m args below meth c Q n0 s0 G1 H1 locs1 (pc + 3) ls (v.toList ++ rest)) : az_wg p l e R s m args below meth c Q n0 s0 G H locs pc ls (vs.reverse ++ .ref r :: rest) := by
  obtain ⟨hx, hb, hml, hown, hts, -⟩ := X
  obtain ⟨m1, m2, m3, m4, m5, m6, m7, -, -⟩ := az_mok_spec hmok
  simp only [az_cal, Bool.and_eq_true, decide_eq_true_eq] at hcal
  obtain ⟨⟨⟨⟨⟨c1, c2⟩, c3⟩, c4⟩, c5⟩, c6⟩ := hcal
  have e1 : (G.2.1 - n0) + (G1.2.1 - G.2.1) = G1.2.1 - n0 := by have := h1.1; omega
  have e2 : (G.2.2 - s0) + (G1.2.2 - G.2.2) = G1.2.2 - s0 := by have := h1.2; omega
  have hf : (G.2.1 - n0) + (G1.2.1 - G.2.1) ≤ R.cells ∧ (G.2.2 - s0) + (G1.2.2 - G.2.2) ≤ R.slots := by have := h2.1; have := h2.2; omega
  have hpre : PreS s H (az_Pc Z D cy (.ref r :: vs) G) (.ref r :: vs) := ⟨az_blind, fun U hU hW => ⟨rfl, by rw [hU]; exact hrel, az_kk.warm hW hK⟩⟩
  have hrt : az_rt a = none := by
    have h6 := c6.symm.trans hcc
    cases hq : az_rt a with
    | none => rfl
    | some t => rw [hq] at h6; cases t <;> simp [az_rk] at h6
  have m1' := m1
  unfold az_lnk at hlnk
  rw [if_pos hpos] at hlnk
  have hM' : Met l (az_nm a) (Cond.code (az_nm a) (az_mc a) (az_nL a) none :: az_ws) ({ frames := az_fr a, cells := G1.2.1 - G.2.1, slots := G1.2.2 - G.2.2, locals := az_lo a }) (az_Pc Z D cy (.ref r :: vs) G) (az_Qc Z D cy v G1) (G1.2.1 - G.2.1) (G1.2.2 - G.2.2) (fun q => Z ≤ q) := by
    have := hM
    unfold az_met az_wm at this
    rw [hrt] at this
    exact this
  have hin : GoodIn az_ws (Cond.code (az_nm a) (az_mc a) (az_nL a) none :: az_ws) := by
    have := az_in_wm a m1
    unfold az_wm at this
    rw [hrt] at this
    exact this
  have fin : va_Run p l e R s m args below meth c H locs (G.2.1 - n0) (G.2.2 - s0) (G1.2.1 - G.2.1) (G1.2.2 - G.2.2) (F0 m pc ls (vs.reverse ++ .ref r :: rest)) rest (az_Qc Z D cy v G1 (Value.ref r :: vs).toArray) (fun q => Z ≤ q) :=
    va_runI ⟨hx, hb, hml, hown, hts⟩ hM' ⟨callB_of (az_np a) hts hin rfl rfl rfl (hts _ m2) (hts _ (az_in_ws hlnk)) m6 ⟨by show az_fr a + 1 ≤ _; omega, by show 8 + (az_nL a + 11) + az_lo a ≤ _; omega⟩, hnam, hts _ (m4 hst)⟩ hpre rfl (hvs.trans c5) hls rfl (lv_room hrm) hdc hf
  refine az_wcall (avs := (Value.ref r :: vs).toArray) fin hS fun H1 locs1 g1 g2 => ?_
  rw [e1, e2]
  exact kk H1 locs1 g1 g2
end AZC
