/-! THE TIE, second part: one instruction of each kind over the heap -/
section AZB
variable {p : Program} {l : Launch} {e : Env} {R : Room} {s : State} {m : MethodId} {args : Array Value} {below : List Frame} {meth : Method} {c : Code} {H : Heap} {locs : List Loc} {cells slots : Nat} {Q : State → Prop}
variable {cc : ByteArray} {pc : Nat} {ls : Array Slot} {rest : List Value} {D : va_G} {cy : Nat → ClassId} {Z : Nat} {Hs : Heap} {G : az_H}
theorem az_wget (hx : p.tables.exec = Jvm.exec) (hb : c.code = cc) (hts : ∀ w ∈ az_ws, w.before args s = true) {own : String} (hown : s.vm.findClass own = some m.cls) (hK : az_kk D cy s) (hrel : az_rel Z D cy G H) {r a b index : Nat} {fs : List Value} {v : Value} (he : G.1 r = some (.inr (a, fs))) (ha : a < 7) (hk : b < (az_C a).2.2) (hlink : Cond.fieldLink own index ((az_C a).2.1 b).1 ((az_C a).2.1 b).2.1 ((az_C a).2.1 b).2.2.1 ∈ az_ws) (hv : fs[b]? = some v) (hdg : decode cc pc = .ok (.getfield index, 3)) (kk : W p l e R s m args below meth c H locs cells slots Q (F0 m (pc + 3) ls (v :: rest))) : W p l e R s m args below meth c H locs cells slots Q (F0 m pc ls (.ref r :: rest)) :=
  va_get (D := D) (cl := vwCl) (tys := az_tys cy) (ws := [(r, .inr (a, fs))]) (ci := a) hx hb hts (az_lays a ha) hown hK.1 (az_P1 (hrel.2.2 _ _ he).2) 0 rfl (az_clo a ha) b hk (hts _ hlink) (fun _ h => h) hv hdg kk
theorem az_wput (hx : p.tables.exec = Jvm.exec) (hb : c.code = cc) (hts : ∀ w ∈ az_ws, w.before args s = true) {own : String} (hown : s.vm.findClass own = some m.cls) (hK : az_kk D cy s) (hrel : az_rel Z D cy G H) (hS : va_S (fun q => Z ≤ q) Hs H locs) {r a b index : Nat} {fs : List Value} {v : Value} (he : G.1 r = some (.inr (a, fs))) (ha : a < 7) (hk : b < (az_C a).2.2) (hlink : Cond.fieldLink own index ((az_C a).2.1 b).1 ((az_C a).2.1 b).2.1 ((az_C a).2.1 b).2.2.1 ∈ az_ws) (hfin : ((az_C a).2.1 b).2.2.2 = true → meth.name = "<init>" ∧ ((az_C a).2.1 b).1 = own) (hn : narrow (az_tf a b) v = v) (hfit : fits (az_tf a b) v = true) (hl : b < fs.length) (hdg : decode cc pc = .ok (.putfield index, 3)) (kk : ∀ (H1 : Heap) (locs1 : List Loc), az_rel Z D cy (az_set G r (.inr (a, fs.set b v))) H1 → va_S (fun q => Z ≤ q) Hs H1 locs1 → W p l e R s m args below meth c H1 locs1 cells slots Q (F0 m (pc + 3) ls rest)) : W p l e R s m args below meth c H locs cells slots Q (F0 m pc ls (v :: .ref r :: rest)) := by
  have hin := az_lays a ha
  have hc := az_clo a ha
  have hap := va_apart (own := own) hts hin (az_tf a) (az_tok a ha) (az_nok a ha) hK.1 hc
  have hd := az_tok a ha b hk
  obtain ⟨hZ, q, h1, cell, q1, q2, q3, q4⟩ := hrel.2.2 _ _ he
  have hq : q = ((az_C a).1, (az_C a).2.1, (az_C a).2.2) := Option.some.inj (h1.symm.trans hc)
  subst hq
  obtain ⟨hSl, hfc, kC, hkC, hkind⟩ := hK.1.1 a _ hc
  obtain ⟨cf, kf, fi, f, hi, hsl⟩ := hSl b hk
  have hlay := hts _ (hin _ (u_in_lay hk))
  have hst := (u_facts hfc hkC (u_lays hts hin hk) hi).1
  have fin : ∀ H' : Heap, H'[r]? = some (cell.setSlot f.slot v) → H'.size = H.size → (∀ q : Nat, q ≠ r → H'[q]? = H[q]?) → W p l e R s m args below meth c H' (locs ++ [⟨r, f.slot⟩]) cells slots Q (F0 m (pc + 3) ls rest) := by
    intro H' e1 e2 e3
    refine kk H' _ (hrel.put he ?_ e2 e3) (hS.put e2 e3 hZ)
    rw [hsl] at e1
    exact ⟨_, hc, t_OB.to (V := updV (vp_V fs) b v) ⟨_, e1, q2, q3, t_set q4 hap hk v⟩ (fun j _ => vp_updV_set hl v j)⟩
  unfold u_lay at hlay
  by_cases hf : ((az_C a).2.1 b).2.2.2 = true
  · rw [if_pos hf] at hlay
    obtain ⟨f1, f2⟩ := hfin hf
    have hcf : m.cls = cf := by
      obtain ⟨_, _, c', _, _, _, -, -, hf', -, -, -, hown2, -⟩ := Cond.laysFinal_spec hlay
      have e1 : c' = cf := by have := hi.symm.trans hf'; simp at this; exact this.1.symm
      rw [f2] at hown2
      rw [← e1]; exact Option.some.inj (hown.symm.trans hown2)
    have h6 := u_fits hfc hkC hkind (Or.inr hlay) hi hd hn hfit
    exact W.putFinK hx hb hown (hts _ hlink) hi hst hcf f1 (by rw [q2]; exact h6) q1 q3 (by rw [hsl]; exact k2_hasslot (q4 b hk)) rfl rfl hdg fin
  · rw [if_neg hf] at hlay
    have h6 := u_store hfc hkC hkind hlay hi hd hn hfit
    exact W.putK hx hb (f := f) ⟨hown, hts _ hlink, ⟨_, _, _, hi⟩, hst⟩ (by rw [q2]; exact h6) q1 q3 (by rw [hsl]; exact k2_hasslot (q4 b hk)) rfl rfl hdg fin
theorem az_wial (hx : p.tables.exec = Jvm.exec) (hb : c.code = cc) (hK : az_kk D cy s) (hrel : az_rel Z D cy G H) {r n : Nat} {f : Nat → Int32} {i : Int32} (he : G.1 r = some (.inl (0, n, .inl f))) (hin : ¬ (i < 0 ∨ n ≤ i.toNatClampNeg)) (hdg : decode cc pc = .ok (.iaload, 1)) (kk : W p l e R s m args below meth c H locs cells slots Q (F0 m (pc + 1) ls (.int (f i.toNatClampNeg) :: rest))) : W p l e R s m args below meth c H locs cells slots Q (F0 m pc ls (.int i :: .ref r :: rest)) :=
  va_iald (D := D) (cl := vwCl) (tys := az_tys cy) (ws := [(r, .inl (cy 0, n, .inl f))]) hx hb hK.1 (az_P1 (hrel.2.2 _ _ he).2) 0 0 rfl rfl hin hdg kk
theorem az_wzal (hx : p.tables.exec = Jvm.exec) (hb : c.code = cc) (hK : az_kk D cy s) (hrel : az_rel Z D cy G H) {r n : Nat} {f : Nat → Int32} {i : Int32} (he : G.1 r = some (.inl (1, n, .inl f))) (hin : ¬ (i < 0 ∨ n ≤ i.toNatClampNeg)) (hdg : decode cc pc = .ok (.baload, 1)) (kk : W p l e R s m args below meth c H locs cells slots Q (F0 m (pc + 1) ls (.int (f i.toNatClampNeg) :: rest))) : W p l e R s m args below meth c H locs cells slots Q (F0 m pc ls (.int i :: .ref r :: rest)) :=
  va_zald (D := D) (cl := vwCl) (tys := az_tys cy) (ws := [(r, .inl (cy 1, n, .inl f))]) hx hb hK.1 (az_P1 (hrel.2.2 _ _ he).2) 0 1 rfl rfl hin hdg kk
theorem az_waal (hx : p.tables.exec = Jvm.exec) (hb : c.code = cc) (hK : az_kk D cy s) (hrel : az_rel Z D cy G H) {kd r n q : Nat} {f : Nat → Option Nat} {i : Int32} (hkd : kd = 2 ∨ kd = 3) (he : G.1 r = some (.inl (kd, n, .inr (.inr (.inr (.inr f)))))) (hin : ¬ (i < 0 ∨ n ≤ i.toNatClampNeg)) (hq : f i.toNatClampNeg = some q) (hdg : decode cc pc = .ok (.aaload, 1)) (kk : W p l e R s m args below meth c H locs cells slots Q (F0 m (pc + 1) ls (.ref q :: rest))) : W p l e R s m args below meth c H locs cells slots Q (F0 m pc ls (.int i :: .ref r :: rest)) := by
  have k2 : W p l e R s m args below meth c H locs cells slots Q (F0 m (pc + 1) ls (va_rf (f i.toNatClampNeg) :: rest)) := by rw [hq]; exact kk
  rcases hkd with rfl | rfl
  · exact va_aldq (D := D) (cl := vwCl) (tys := az_tys cy) (ws := [(r, .inl (cy 2, n, .inr (.inr (.inr (.inr f)))))]) hx hb hK.1 (az_P1 (hrel.2.2 _ _ he).2) 0 2 rfl rfl hin hdg k2
  · exact va_aldq (D := D) (cl := vwCl) (tys := az_tys cy) (ws := [(r, .inl (cy 3, n, .inr (.inr (.inr (.inr f)))))]) hx hb hK.1 (az_P1 (hrel.2.2 _ _ he).2) 0 3 rfl rfl hin hdg k2
theorem az_waln (hx : p.tables.exec = Jvm.exec) (hb : c.code = cc) (hK : az_kk D cy s) (hrel : az_rel Z D cy G H) {kd r n : Nat} {x : (Nat → Int32) ⊕ (Nat → Int64) ⊕ (Nat → UInt32) ⊕ (Nat → UInt64) ⊕ (Nat → Option Nat)} (hkd : kd < 4) (he : G.1 r = some (.inl (kd, n, x))) (hdg : decode cc pc = .ok (.arraylength, 1)) (kk : W p l e R s m args below meth c H locs cells slots Q (F0 m (pc + 1) ls (.int (Int32.ofNat n) :: rest))) : W p l e R s m args below meth c H locs cells slots Q (F0 m pc ls (.ref r :: rest)) := by
  have hP := az_P1 (hrel.2.2 _ _ he).2
  match kd, hkd with
  | 0, _ => exact va_alen (D := D) (cl := vwCl) (tys := az_tys cy) (ws := [(r, .inl (cy 0, n, x))]) hx hb hK.1 hP 0 0 rfl rfl rfl hdg kk
  | 1, _ => exact va_alen (D := D) (cl := vwCl) (tys := az_tys cy) (ws := [(r, .inl (cy 1, n, x))]) hx hb hK.1 hP 0 1 rfl rfl rfl hdg kk
  | 2, _ => exact va_alen (D := D) (cl := vwCl) (tys := az_tys cy) (ws := [(r, .inl (cy 2, n, x))]) hx hb hK.1 hP 0 2 rfl rfl rfl hdg kk
  | 3, _ => exact va_alen (D := D) (cl := vwCl) (tys := az_tys cy) (ws := [(r, .inl (cy 3, n, x))]) hx hb hK.1 hP 0 3 rfl rfl rfl hdg kk
theorem az_updi (cA : ClassId) (n k : Nat) (f : Nat → Int32) (x : Int32) : (vp_cell cA (n, .inl f)).setSlot k (.int x) = vp_cell cA (n, .inl (upd f k x)) := by
  rw [vp_cell_i, vp_cell_i, arrV_store]
  congr 2
  funext q
  by_cases hq : q = k
  · subst hq; simp [updV, upd]
  · simp [updV, upd, hq]
theorem az_updq (cA : ClassId) (n k v : Nat) (f : Nat → Option Nat) : (vp_cell cA (n, .inr (.inr (.inr (.inr f))))).setSlot k (.ref v) = vp_cell cA (n, .inr (.inr (.inr (.inr (va_up f k (some v)))))) := by
  rw [vp_cell_q, vp_cell_q, arrV_store]
  congr 2
  funext q
  by_cases hq : q = k
  · subst hq; simp [updV, va_up, va_rf]
  · simp [updV, va_up, hq]
theorem az_wias (hx : p.tables.exec = Jvm.exec) (hb : c.code = cc) (hK : az_kk D cy s) (hrel : az_rel Z D cy G H) (hS : va_S (fun q => Z ≤ q) Hs H locs) {r n : Nat} {f : Nat → Int32} {i x : Int32} (he : G.1 r = some (.inl (0, n, .inl f))) (hin : ¬ (i < 0 ∨ n ≤ i.toNatClampNeg)) (hdg : decode cc pc = .ok (.iastore, 1)) (kk : ∀ (H1 : Heap) (locs1 : List Loc), az_rel Z D cy (az_set G r (.inl (0, n, .inl (upd f i.toNatClampNeg x)))) H1 → va_S (fun q => Z ≤ q) Hs H1 locs1 → W p l e R s m args below meth c H1 locs1 cells slots Q (F0 m (pc + 1) ls rest)) : W p l e R s m args below meth c H locs cells slots Q (F0 m pc ls (.int x :: .int i :: .ref r :: rest)) := by
  have h0 := hrel.2.2 _ _ he
  refine W.iast hx hb h0.2 ((hK.1.2 0 _ rfl).1 n (fun j => .int (f j))) (fun q => by cases q) (by show ¬ (i < 0 ∨ (arrV _ _ _).slots.size ≤ _); rw [arrV_size]; exact hin) rfl rfl hdg fun H1 e1 z oq => ?_
  refine kk H1 _ (hrel.put he ?_ z oq) (hS.put z oq h0.1)
  show H1[r]? = some (vp_cell _ _)
  rw [e1]
  exact congrArg some (az_updi _ _ _ _ _)
theorem az_wzas (hx : p.tables.exec = Jvm.exec) (hb : c.code = cc) (hK : az_kk D cy s) (hrel : az_rel Z D cy G H) (hS : va_S (fun q => Z ≤ q) Hs H locs) {r n : Nat} {f : Nat → Int32} {i x : Int32} (he : G.1 r = some (.inl (1, n, .inl f))) (hx1 : x = 0 ∨ x = 1) (hin : ¬ (i < 0 ∨ n ≤ i.toNatClampNeg)) (hdg : decode cc pc = .ok (.bastore, 1)) (kk : ∀ (H1 : Heap) (locs1 : List Loc), az_rel Z D cy (az_set G r (.inl (1, n, .inl (upd f i.toNatClampNeg x)))) H1 → va_S (fun q => Z ≤ q) Hs H1 locs1 → W p l e R s m args below meth c H1 locs1 cells slots Q (F0 m (pc + 1) ls rest)) : W p l e R s m args below meth c H locs cells slots Q (F0 m pc ls (.int x :: .int i :: .ref r :: rest)) := by
  have h0 := hrel.2.2 _ _ he
  have hnr : narrow .boolean (.int x) = .int x := by rcases hx1 with rfl | rfl <;> rfl
  refine W.zast hx hb h0.2 ((hK.1.2 1 _ rfl).1 n (fun j => .int (f j))) (fun q => by cases q) (by show ¬ (i < 0 ∨ (arrV _ _ _).slots.size ≤ _); rw [arrV_size]; exact hin) rfl rfl hdg fun H1 e1 z oq => ?_
  refine kk H1 _ (hrel.put he ?_ z oq) (hS.put z oq h0.1)
  show H1[r]? = some (vp_cell _ _)
  rw [e1, hnr]
  exact congrArg some (az_updi _ _ _ _ _)
theorem az_waas (hx : p.tables.exec = Jvm.exec) (hb : c.code = cc) (hK : az_kk D cy s) (hrel : az_rel Z D cy G H) (hS : va_S (fun q => Z ≤ q) Hs H locs) {kd r n v : Nat} {f : Nat → Option Nat} {vs : List Value} {i : Int32} (hkd : kd = 2 ∨ kd = 3) (he : G.1 r = some (.inl (kd, n, .inr (.inr (.inr (.inr f)))))) (hv : G.1 v = some (.inr (az_el kd, vs))) (hin : ¬ (i < 0 ∨ n ≤ i.toNatClampNeg)) (hdg : decode cc pc = .ok (.aastore, 1)) (kk : ∀ (H1 : Heap) (locs1 : List Loc), az_rel Z D cy (az_set G r (.inl (kd, n, .inr (.inr (.inr (.inr (va_up f i.toNatClampNeg (some v)))))))) H1 → va_S (fun q => Z ≤ q) Hs H1 locs1 → W p l e R s m args below meth c H1 locs1 cells slots Q (F0 m (pc + 1) ls rest)) : W p l e R s m args below meth c H locs cells slots Q (F0 m pc ls (.ref v :: .int i :: .ref r :: rest)) := by
  have hlt : i.toNatClampNeg < n := Nat.not_le.mp fun q => hin (Or.inr q)
  have h0 : ¬ i < 0 := fun q => hin (Or.inl q)
  have hr0 := hrel.2.2 _ _ he
  obtain ⟨-, q, hq, cellV, g1, g2, g3, -⟩ := hrel.2.2 _ _ hv
  obtain ⟨C, cA, t0, hC, hcA, ht⟩ : ∃ (C : String) (cA : ClassId) (t0 : Nat), (vwCl[az_el kd]?).map (fun x => x.1) = some C ∧ cy kd = cA ∧ (az_tys cy)[t0]? = some (cA, .object C) := by
    rcases hkd with rfl | rfl
    · exact ⟨RX4, _, 2, rfl, rfl, rfl⟩
    · exact ⟨RX0, _, 3, rfl, rfl, rfl⟩
  subst hcA
  have hqC : q.1 = C := by
    rw [hq] at hC
    exact Option.some.inj hC
  subst hqC
  have hcls := (hK.1.1 _ q hq).2
  obtain ⟨kA, comp, k1, k2, k3, -⟩ := (hK.1.2 t0 _ ht).2
  have hcomp : comp = D.1 (az_el kd) := Option.some.inj (k3.symm.trans hcls.1)
  subst hcomp
  obtain ⟨kC, hkC, -⟩ := hcls.2
  refine W.aast hx hb hr0.2 (fun q h => by cases h) (fun h => by cases h) k1 k2 rfl hkC ⟨h0, by show _ < (arrV _ _ _).slots.size; rw [arrV_size]; exact hlt⟩ g1 (fun q h => by rw [g3] at h; cases h) (by rw [g2]; exact hkC) (by rw [g2]; exact va_assign hcls) rfl rfl hdg fun H1 e1 z oq => ?_
  refine kk H1 _ (hrel.put he ?_ z oq) (hS.put z oq hr0.1)
  show H1[r]? = some (vp_cell _ _)
  rw [e1]
  exact congrArg some (az_updq _ _ _ _ _)
theorem az_wnew (hx : p.tables.exec = Jvm.exec) (hb : c.code = cc) (hts : ∀ w ∈ az_ws, w.before args s = true) {own : String} (hown : s.vm.findClass own = some m.cls) (hK : az_kk D cy s) (hrel : az_rel Z D cy G H) (hS : va_S (fun q => Z ≤ q) Hs H locs) {a index : Nat} (ha : a < 7) (hlink : Cond.classLink own index (az_C a).1 ∈ az_ws) (hcells : cells + 1 ≤ R.cells) (hslots : slots + az_nf a ≤ R.slots) (hdg : decode cc pc = .ok (.new index, 3)) (kk : ∀ (H1 : Heap), az_rel Z D cy (az_psh G (.inr (a, az_df a)) (az_nf a)) H1 → va_S (fun q => Z ≤ q) Hs H1 locs → W p l e R s m args below meth c H1 locs (cells + 1) (slots + az_nf a) Q (F0 m (pc + 3) ls (.ref G.2.1 :: rest))) : W p l e R s m args below meth c H locs cells slots Q (F0 m pc ls rest) := by
  have hcok : az_cok a = true := by
    match a, ha with
    | 0, _ => exact az_e0
    | 1, _ => exact az_e1
    | 2, _ => exact az_e2
    | 3, _ => exact az_e3
    | 4, _ => exact az_e4
    | 5, _ => exact az_e5
    | 6, _ => exact az_e6
  simp only [az_cok, Bool.and_eq_true] at hcok
  have hin := az_lays a ha
  have hc := az_clo a ha
  have hKn := hK.1.1 a _ hc
  have hnf := az_nfok a ha
  refine W.newcK hx hb hown (hts _ hlink) (by rw [← hnf]; exact hts _ (az_in_ws hcok.1.2)) (hts _ (az_in_ws hcok.2)) rfl hdg hcells hslots hKn.2.1 hrel.1 fun H1 kC hkC e1 z1 o1 => ?_
  rw [← hrel.1] at e1 z1 o1
  refine kk H1 (hrel.push ?_ z1 o1) (az_S.push hS z1 o1)
  exact ⟨_, hc, (u_born (az_tf a) hts hin hKn hkC e1 (az_tok a ha)).to (az_dok a ha)⟩
theorem az_wnwa (hx : p.tables.exec = Jvm.exec) (hb : c.code = cc) (hts : ∀ w ∈ az_ws, w.before args s = true) (hK : az_kk D cy s) (hrel : az_rel Z D cy G H) (hS : va_S (fun q => Z ≤ q) Hs H locs) {b : Nat} {t : ArrayType} (ht : (t = .int ∧ b = 0) ∨ (t = .boolean ∧ b = 1)) {n : Int32} (hn : ¬ n < 0) (hN : n.toNatClampNeg ≤ 100000) (hcells : cells + 1 ≤ R.cells) (hslots : slots + n.toNatClampNeg ≤ R.slots) (hdg : decode cc pc = .ok (.newarray t, 2)) (kk : ∀ (H1 : Heap), az_rel Z D cy (az_psh G (.inl (b, n.toNatClampNeg, .inl (fun _ => 0))) n.toNatClampNeg) H1 → va_S (fun q => Z ≤ q) Hs H1 locs → W p l e R s m args below meth c H1 locs (cells + 1) (slots + n.toNatClampNeg) Q (F0 m (pc + 2) ls (.ref G.2.1 :: rest))) : W p l e R s m args below meth c H locs cells slots Q (F0 m pc ls (.int n :: rest)) := by
  rcases ht with ⟨rfl, rfl⟩ | ⟨rfl, rfl⟩
  · refine va_newaK hx hb (atype := .int) (hts _ az_aci) rfl hdg rfl hn rfl (by show _ * 4 ≤ _; omega) hcells hslots hrel.1 fun H1 cA e1 z1 o1 hAr hf => ?_
    rw [← hrel.1] at e1 z1 o1
    have hcA : cA = cy 0 := Option.some.inj (hf.symm.trans (hK.1.2 0 _ rfl).2)
    subst hcA
    exact kk H1 (hrel.push e1 z1 o1) (az_S.push hS z1 o1)
  · refine va_newaK hx hb (atype := .boolean) (hts _ az_acz) rfl hdg rfl hn rfl (by show _ * 1 ≤ _; omega) hcells hslots hrel.1 fun H1 cA e1 z1 o1 hAr hf => ?_
    rw [← hrel.1] at e1 z1 o1
    have hcA : cA = cy 1 := Option.some.inj (hf.symm.trans (hK.1.2 1 _ rfl).2)
    subst hcA
    exact kk H1 (hrel.push e1 z1 o1) (az_S.push hS z1 o1)
theorem az_wnwq (hx : p.tables.exec = Jvm.exec) (hb : c.code = cc) (hts : ∀ w ∈ az_ws, w.before args s = true) {own : String} (hown : s.vm.findClass own = some m.cls) (hK : az_kk D cy s) (hrel : az_rel Z D cy G H) (hS : va_S (fun q => Z ≤ q) Hs H locs) {b index : Nat} (hkd : b = 2 ∨ b = 3) (hlink : Cond.classLink own index (az_C (az_el b)).1 ∈ az_ws) {n : Int32} (hn : ¬ n < 0) (hN : n.toNatClampNeg ≤ 100000) (hcells : cells + 1 ≤ R.cells) (hslots : slots + n.toNatClampNeg ≤ R.slots) (hdg : decode cc pc = .ok (.anewarray index, 3)) (kk : ∀ (H1 : Heap), az_rel Z D cy (az_psh G (.inl (b, n.toNatClampNeg, .inr (.inr (.inr (.inr (fun _ => none)))))) n.toNatClampNeg) H1 → va_S (fun q => Z ≤ q) Hs H1 locs → W p l e R s m args below meth c H1 locs (cells + 1) (slots + n.toNatClampNeg) Q (F0 m (pc + 3) ls (.ref G.2.1 :: rest))) : W p l e R s m args below meth c H locs cells slots Q (F0 m pc ls (.int n :: rest)) := by
  have key : ∀ (C : String) (t0 : Nat), Cond.classLink own index C ∈ az_ws → va_AO C s → (az_tys cy)[t0]? = some (cy b, .object C) → W p l e R s m args below meth c H locs cells slots Q (F0 m pc ls (.int n :: rest)) := by
    intro C t0 hlink hao ht
    refine W.anew hx hb hown (hts _ hlink) (va_AO.use hao) rfl hdg rfl hn (by omega) hcells hslots fun cA kA comp f1 f2 f3 f4 => ?_
    obtain ⟨_, _, _, _, _, f5⟩ := (hK.1.2 t0 _ ht).2
    have hcA : cA = cy b := Option.some.inj (f1.symm.trans f5)
    subst hcA
    have z1 : (H.push ({ cls := cy b, slots := Array.replicate n.toNatClampNeg .null, vm := .none } : Cell)).size = H.size + 1 := Array.size_push _
    have e1 : (H.push ({ cls := cy b, slots := Array.replicate n.toNatClampNeg .null, vm := .none } : Cell))[H.size]? = some (arrV (cy b) n.toNatClampNeg (fun _ => .null)) := by rw [Array.getElem?_push_size, ← arrV_new]
    have o1 : ∀ q : Nat, q < H.size → (H.push ({ cls := cy b, slots := Array.replicate n.toNatClampNeg .null, vm := .none } : Cell))[q]? = H[q]? := fun q hq => by rw [Array.getElem?_push, if_neg (Nat.ne_of_lt hq)]
    have := kk _ (hrel.push e1 z1 o1) (az_S.push hS z1 o1)
    rw [← hrel.1] at this
    exact this
  rcases hkd with rfl | rfl
  · exact key RX4 2 hlink hK.2.2.1 rfl
  · exact key RX0 3 hlink hK.2.2.2 rfl
theorem az_wcall {mc ms : Nat} {v : Option Value} {G1 : az_H} {avs : Array Value} {st0 : List Value} (hr : va_Run p l e R s m args below meth c H locs cells slots mc ms (F0 m pc ls st0) rest (fun st o t => o = .returned v ∧ az_rel Z D cy G1 t.heap ∧ va_F (fun q => Z ≤ q) st t) (fun q => Z ≤ q)) (hS : va_S (fun q => Z ≤ q) Hs H locs) (kk : ∀ (H1 : Heap) (locs1 : List Loc), az_rel Z D cy G1 H1 → va_S (fun q => Z ≤ q) Hs H1 locs1 → W p l e R s m args below meth c H1 locs1 (cells + mc) (slots + ms) Q (F0 m (pc + 3) ls (v.toList ++ rest))) : W p l e R s m args below meth c H locs cells slots Q (F0 m pc ls st0) := by
  intro T hT X
  obtain ⟨v', st₀, t, T', L, h0, X', hL, e1, e2, ⟨hv, hrel, hz, hk⟩, st⟩ := hr T hT X
  cases hv
  rw [h0] at hz hk
  obtain ⟨t2, a1, b1⟩ := kk T'.heap (locs ++ L) (by rw [e1]; exact hrel) ⟨Nat.le_trans hS.1 (by rw [e1]; exact hz), fun q h1 h2 => by rw [e1, hk q (Nat.lt_of_lt_of_le h1 hS.1) h2]; exact hS.2.1 q h1 h2, fun q hq => by
      rcases List.mem_append.mp hq with h | h
      · exact hS.2.2 q h
      · exact hL q h⟩ T' rfl X'
  exact ⟨t2, st t2 a1, b1⟩
end AZB
