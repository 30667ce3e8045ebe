/-! THE LAW'S WALK out of a fact about the abstract machine alone -/
def az_claim : Prop := ∀ (Z b L : Nat) (xs : Nat → Int32), L ≤ 2560 → b < Z → ∃ G' : az_H, az_rn (b, L, xs) iL_law 0 [some (.ref b), none, none, none] [] (fun _ => none, Z, 0) = some (some (.int 1), G') ∧ G'.2.1 ≤ Z + 600000 ∧ G'.2.2 ≤ 7302250
theorem az_cyo {C : String} {s : State} (h : va_AO C s) : ∃ cA : ClassId, ArrOfT s cA (.object C) ∧ va_RA s cA (.object C) := by
  obtain ⟨comp, c, k, h1, h2, h3, h4, h5⟩ := Cond.arrayOver_spec h
  exact ⟨c, fun n z => ⟨fun k h => (by cases h), k, h3, comp, h4⟩, k, comp, h3, h4, h1, h5⟩
theorem az_cyi {ty : FieldType} {args : Array Value} {s : State} (h : (Cond.arrayClass ty).before args s = true) (hty : ∀ C, ty ≠ .object C) : ∃ cA : ClassId, ArrOfT s cA ty ∧ va_RA s cA ty := by
  obtain ⟨cA, kA, comp, hfind, hk, hkind⟩ := Cond.arrayClass_spec h
  refine ⟨cA, fun n z => ⟨fun k h => (by cases h), kA, hk, comp, hkind⟩, ?_⟩
  cases ty <;> first | exact hfind | exact absurd rfl (hty _)
theorem az_start (hp : az_claim) {p : Program} {e : Env} {s : State} {m : MethodId} {below : List Frame} {meth : Method} {c : Code} (l : Launch) {b L : Nat} {xs : Nat → Int32} (hL : L ≤ 2560) (hx : p.tables.exec = Jvm.exec) (hb : c.code = code) (hml : c.maxLocals = 4) (hown : s.vm.findClass "ArrowTablesLaw" = some m.cls) (hts : ∀ w ∈ lw_tbl, w.before #[Value.ref b] s = true) (hX : va_X b L xs s s.heap) (hbl : b < s.heap.size) (Q : State → Prop) (hend : ∀ (pc : Nat) (ls : Array Slot) (H : Heap), decode code pc = .ok (.ireturn, 1) → W p l e room_1 s m #[Value.ref b] below meth c H [] 600000 7302250 Q (F0 m pc ls [.int 1])) : W p l e room_1 s m #[Value.ref b] below meth c s.heap [] 0 0 Q (entryFrame m ([Value.ref b] : List Value).toArray 4) := by
  have hts' : ∀ w ∈ az_ws, w.before #[Value.ref b] s = true := fun w hw => hts w (List.mem_filter.mp hw).1
  have hok : ∀ ci, ci < 7 → ∃ (cC : ClassId) (iS : Nat → Nat), u_Kn s (az_C ci).1 (az_C ci).2.1 (az_C ci).2.2 cC iS := by
    intro ci hci
    have hcok : az_cok ci = true := by
      match ci, hci with
      | 0, _ => exact az_e0
      | 1, _ => exact az_e1
      | 2, _ => exact az_e2
      | 3, _ => exact az_e3
      | 4, _ => exact az_e4
      | 5, _ => exact az_e5
      | 6, _ => exact az_e6
    simp only [az_cok, Bool.and_eq_true] at hcok
    exact u_known hts' (az_lays ci hci) (hts' _ (az_in_ws hcok.1.2))
  obtain ⟨dC, dI, hdK⟩ : ∃ (dC : Nat → ClassId) (dI : Nat → Nat → Nat), ∀ ci, ci < 7 → u_Kn s (az_C ci).1 (az_C ci).2.1 (az_C ci).2.2 (dC ci) (dI ci) := by
    have h1 : ∀ ci, ∃ z : ClassId × (Nat → Nat), ci < 7 → u_Kn s (az_C ci).1 (az_C ci).2.1 (az_C ci).2.2 z.1 z.2 := by
      intro ci
      by_cases hci : ci < 7
      · obtain ⟨cC, iS, h⟩ := hok ci hci
        exact ⟨(cC, iS), fun _ => h⟩
      · exact ⟨(0, fun _ => 0), fun h => absurd h hci⟩
    exact ⟨fun ci => (Classical.choose (h1 ci)).1, fun ci => (Classical.choose (h1 ci)).2, fun ci hci => Classical.choose_spec (h1 ci) hci⟩
  obtain ⟨c0, a0, r0⟩ := az_cyi (hts' _ az_aci) (fun C h => by cases h)
  obtain ⟨c1, a1, r1⟩ := az_cyi (hts' _ az_acz) (fun C h => by cases h)
  have o2 : va_AO RX4 s := va_AO.of (hts _ az_aot)
  have o3 : va_AO RX0 s := va_AO.of (hts _ az_aoc)
  obtain ⟨c2, a2, r2⟩ := az_cyo o2
  obtain ⟨c3, a3, r3⟩ := az_cyo o3
  have hK : az_kk (dC, dI) (fun k => if k = 0 then c0 else if k = 1 then c1 else if k = 2 then c2 else c3) s := by
    refine ⟨⟨fun ci q hq => ?_, fun k q hq => ?_⟩, fun q hq => va_Nw.of rfl (hts _ (az_nestin q hq)), o2, o3⟩
    · have hci : ci < 7 := (List.getElem?_eq_some_iff.mp hq).1
      rw [az_clo ci hci] at hq
      cases hq
      exact hdK ci hci
    · match k, hq with
      | 0, hq => cases hq; exact ⟨a0, r0⟩
      | 1, hq => cases hq; exact ⟨a1, r1⟩
      | 2, hq => cases hq; exact ⟨a2, r2⟩
      | 3, hq => cases hq; exact ⟨a3, r3⟩
      | k + 4, hq => simp [az_tys] at hq
  obtain ⟨G', hrun, hc, hs⟩ := hp s.heap.size b L xs hL hbl
  obtain ⟨n, hn⟩ := az_rn_ct _ _ _ _ _ _ _ hrun
  have key := az_sound az_allok l s.heap.size (dC, dI) _ (b, L, xs) n iL_law (by decide) 0 _ [] (fun _ => none, s.heap.size, 0) _ _ hn p e room_1 s m #[Value.ref b] below meth c Q s.heap.size 0 s.heap ⟨hx, hb, hml, hown, hts', fun h => absurd h (by decide)⟩ hK (fun _ => ⟨hX, hbl, hbl⟩) (Nat.le_of_ble_eq_true rfl) (Nat.le_of_ble_eq_true rfl) (by show _ ≤ 600000; omega) (by show _ ≤ 7302250; omega) ?_ (Nat.le_refl _) (Nat.le_refl _) s.heap [] _ ⟨rfl, Nat.le_refl _, fun a e h => by cases h⟩ va_S.rf (az_pl.entry [.ref b] (n := 4) (Nat.le_of_ble_eq_true rfl))
  · rw [lg_entry_eq]
    have e1 : s.heap.size - s.heap.size = 0 := Nat.sub_self _
    unfold az_wg at key
    rw [show (((fun _ => none, s.heap.size, 0) : az_H)).2.1 - s.heap.size = 0 from e1] at key
    exact key
  · intro ins pc ls st H locs hret hdc hrel hS
    have hret1 : st = [.int 1] ∧ ins = .ireturn := by
      rcases hret with ⟨rfl, x, rfl, hv, -⟩ | ⟨rfl, x, rfl, hv, -⟩ | ⟨rfl, x, t, rfl, hv, hxx, -⟩ | ⟨rfl, rfl, hv, -⟩
      · cases hv
        exact ⟨rfl, rfl⟩
      · cases hv
      · cases hv
        rcases hxx with h | ⟨q, h⟩ <;> cases h
      · cases hv
    obtain ⟨rfl, rfl⟩ := hret1
    refine va_forget (fun q hq => hS.2.2 q hq) ?_
    exact W.widen (k := 600000) (n := 7302250) (by omega) (by omega) (hend pc ls H hdc)
