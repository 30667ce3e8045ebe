/-! THE ABSTRACT MACHINE: bytecode over a heap of cells by number; a cell: an array (kind, length, contents) or an object (class, fields). One theorem (part 04) ties it to the machine; all else is said of it. -/
abbrev az_H : Type := (Nat → Option va_E) × Nat × Nat
abbrev az_L : Type := List (Option Value)
abbrev az_R : Type := Option (Option Value × az_H)
/-- byte pc, instruction, four numbers (local, target, class, field, method ..), an int, a long -/
abbrev az_I : Type := Nat × Instr × Nat × Nat × Nat × Nat × Int32 × Int64
abbrev az_S : Type := Nat × Nat × (Nat → Int32)
def az_set (G : az_H) (r : Nat) (e : va_E) : az_H := (fun q => if q = r then some e else G.1 q, G.2)
def az_psh (G : az_H) (e : va_E) (n : Nat) : az_H := (fun q => if q = G.2.1 then some e else G.1 q, G.2.1 + 1, G.2.2 + n)
def az_df (ci : Nat) : List Value := match ci with
  | 0 => [.int 0, .int 0, .null, .null, .null]
  | 1 => [.int 0, .null, .null]
  | 2 => [.null, .null, .null, .null, .null]
  | 3 => [.null, .int 0, .int 0, .int 0, .null, .null, .null]
  | 4 => [.int 0, .int 0, .int 0, .null, .null, .null]
  | 5 => [.null, .null, .null, .null, .null, .null, .null, .null, .null, .null, .null, .int 0, .int 0, .int 0]
  | _ => [.int 0, .null, .null, .null, .null, .null, .null, .null, .null, .null, .int 0, .null, .null, .null, .int 0, .null, .null, .null, .null, .null, .null, .int 0, .null, .null, .null, .int 0, .int 0, .int 0, .null, .null, .int 0, .null, .int 0]
def az_nf (ci : Nat) : Nat := match ci with
  | 0 => 5
  | 1 => 3
  | 2 => 5
  | 3 => 7
  | 4 => 6
  | 5 => 14
  | _ => 33
/-- the class of a reference array's elements -/
def az_el (kd : Nat) : Nat := match kd with
  | 2 => 4
  | _ => 0
def az_bI (o : az_R) (k : Int32 → az_H → az_R) : az_R := match o with
  | some (some (.int x), G) => k x G
  | _ => none
def az_bL (o : az_R) (k : Int64 → az_H → az_R) : az_R := match o with
  | some (some (.long x), G) => k x G
  | _ => none
def az_bV (o : az_R) (k : az_H → az_R) : az_R := match o with
  | some (none, G) => k G
  | _ => none
def az_bR (o : az_R) (k0 : az_H → az_R) (k : Nat → az_H → az_R) : az_R := match o with
  | some (some .null, G) => k0 G
  | some (some (.ref q), G) => k q G
  | _ => none
def az_fI (G : az_H) (r ci j : Nat) (k : Int32 → az_R) : az_R := match G.1 r with
  | some (.inr (c, fs)) => if c = ci then (match fs[j]? with
    | some (.int x) => k x
    | _ => none) else none
  | _ => none
def az_fR (G : az_H) (r ci j : Nat) (k : Nat → az_R) : az_R := match G.1 r with
  | some (.inr (c, fs)) => if c = ci then (match fs[j]? with
    | some (.ref x) => k x
    | _ => none) else none
  | _ => none
def az_pt (G : az_H) (r ci j : Nat) (v : Value) (k : az_H → az_R) : az_R := match G.1 r with
  | some (.inr (c, fs)) => if c = ci ∧ j < fs.length then k (az_set G r (.inr (ci, fs.set j v))) else none
  | _ => none
def az_ln (G : az_H) (kd r : Nat) (k : Int32 → az_R) : az_R := match G.1 r with
  | some (.inl (c, n, _)) => if c = kd then k (Int32.ofNat n) else none
  | _ => none
def az_aI (G : az_H) (kd r : Nat) (i : Int32) (k : Int32 → az_R) : az_R := match G.1 r with
  | some (.inl (c, n, .inl f)) => if c = kd ∧ ¬ (i < 0 ∨ n ≤ i.toNatClampNeg) then k (f i.toNatClampNeg) else none
  | _ => none
def az_aR (G : az_H) (kd r : Nat) (i : Int32) (k : Nat → az_R) : az_R := match G.1 r with
  | some (.inl (c, n, .inr (.inr (.inr (.inr f))))) => if c = kd ∧ ¬ (i < 0 ∨ n ≤ i.toNatClampNeg) then (match f i.toNatClampNeg with
    | some q => k q
    | none => none) else none
  | _ => none
def az_sI (G : az_H) (kd r : Nat) (i x : Int32) (k : az_H → az_R) : az_R := match G.1 r with
  | some (.inl (c, n, .inl f)) => if c = kd ∧ ¬ (i < 0 ∨ n ≤ i.toNatClampNeg) then k (az_set G r (.inl (kd, n, .inl (upd f i.toNatClampNeg x)))) else none
  | _ => none
def az_sR (G : az_H) (kd r : Nat) (i : Int32) (v : Nat) (k : az_H → az_R) : az_R := match G.1 r with
  | some (.inl (c, n, .inr (.inr (.inr (.inr f))))) => (match G.1 v with
    | some (.inr (cv, _)) => if c = kd ∧ cv = az_el kd ∧ ¬ (i < 0 ∨ n ≤ i.toNatClampNeg) then k (az_set G r (.inl (kd, n, .inr (.inr (.inr (.inr (va_up f i.toNatClampNeg (some v)))))))) else none
    | _ => none)
  | _ => none
def az_nO (G : az_H) (ci : Nat) (k : Nat → az_H → az_R) : az_R := k G.2.1 (az_psh G (.inr (ci, az_df ci)) (az_nf ci))
def az_nA (G : az_H) (kd : Nat) (n : Int32) (k : Nat → az_H → az_R) : az_R := if ¬ n < 0 ∧ n.toNatClampNeg ≤ 100000 then k G.2.1 (az_psh G (.inl (kd, n.toNatClampNeg, .inl (fun _ => 0))) n.toNatClampNeg) else none
def az_nR (G : az_H) (kd : Nat) (n : Int32) (k : Nat → az_H → az_R) : az_R := if ¬ n < 0 ∧ n.toNatClampNeg ≤ 100000 then k G.2.1 (az_psh G (.inl (kd, n.toNatClampNeg, .inr (.inr (.inr (.inr (fun _ => none)))))) n.toNatClampNeg) else none
def az_rc (G : az_H) (r ci : Nat) (k : az_R) : az_R := match G.1 r with
  | some (.inr (c, _)) => if c = ci then k else none
  | _ => none
/-- storing a local of one slot, of two -/
def az_kp (L : az_L) (i : Nat) : az_L := match i with
  | 0 => L
  | i + 1 => (match L[i]? with
    | some (some (.long _)) => L.set i none
    | some (some (.double _)) => L.set i none
    | _ => L)
def az_s1 (L : az_L) (i : Nat) (v : Value) : az_L := (az_kp L i).set i (some v)
def az_s2 (L : az_L) (i : Nat) (v : Value) : az_L := ((az_kp L i).set (i + 1) none).set i (some v)
def az_zr (x : Int32) (G : az_H) : az_R := if x = 0 ∨ x = 1 then some (some (.int x), G) else none
def az_dv (y : Int32) (k : az_R) : az_R := if y = 0 then none else k
def az_w1 (x : Int32) (k : az_R) : az_R := if x = 0 ∨ x = 1 then k else none
def az_cat (st : List Value) : Nat := (st.map fun v => v.category).sum
def az_rm (st : List Value) (k : az_R) : az_R := if az_cat st ≤ 8 then k else none
/-- a call's end: 0 nothing, 1 an int, 2 a long, 3 a reference or null -/
def az_cl (o : Nat) (r : az_R) (K : List Value → az_H → az_R) (rest : List Value) : az_R := match o with
  | 0 => az_bV r fun G => K rest G
  | 1 => az_bI r fun x G => K (.int x :: rest) G
  | 2 => az_bL r fun x G => K (.long x :: rest) G
  | _ => az_bR r (fun G => K (.null :: rest) G) (fun q G => K (.ref q :: rest) G)
/-- a switch: the targets' places, the last one the default -/
def az_sw (ts : List Nat) (lo : Int) (x : Int32) : Nat := if x.toInt < lo ∨ lo + ((ts.length : Int) - 1) ≤ x.toInt then ts.getLastD 0 else ts.getD (x.toInt - lo).toNat 0
/-- one instruction. C: a call (method, arguments, heap); K: what comes behind (place, locals, stack, heap); tw: the switches' targets -/
def az_st (sc : az_S) (tw : Nat → List Nat) (C : Nat → List Value → az_H → az_R) (K : Nat → az_L → List Value → az_H → az_R) (i : az_I) (k : Nat) (L : az_L) (st : List Value) (G : az_H) : az_R := match i with
  | (_, ins, a, b, c, d, x, y) => match ins with
    | .iconst _ => K (k + 1) L (.int x :: st) G
    | .bipush _ => K (k + 1) L (.int x :: st) G
    | .sipush _ => K (k + 1) L (.int x :: st) G
    | .ldc _ => K (k + 1) L (.int x :: st) G
    | .ldc_w _ => K (k + 1) L (.int x :: st) G
    | .lconst _ => K (k + 1) L (.long y :: st) G
    | .ldc2_w _ => K (k + 1) L (.long y :: st) G
    | .aconst_null => K (k + 1) L (.null :: st) G
    | .iload_n _ => (match L[a]? with
      | some (some (.int v)) => K (k + 1) L (.int v :: st) G
      | _ => none)
    | .iload _ => (match L[a]? with
      | some (some (.int v)) => K (k + 1) L (.int v :: st) G
      | _ => none)
    | .lload_n _ => (match L[a]? with
      | some (some (.long v)) => K (k + 1) L (.long v :: st) G
      | _ => none)
    | .lload _ => (match L[a]? with
      | some (some (.long v)) => K (k + 1) L (.long v :: st) G
      | _ => none)
    | .aload_n _ => (match L[a]? with
      | some (some (.ref v)) => K (k + 1) L (.ref v :: st) G
      | some (some .null) => K (k + 1) L (.null :: st) G
      | _ => none)
    | .aload _ => (match L[a]? with
      | some (some (.ref v)) => K (k + 1) L (.ref v :: st) G
      | some (some .null) => K (k + 1) L (.null :: st) G
      | _ => none)
    | .istore_n _ => (match st with
      | .int v :: st => K (k + 1) (az_s1 L a (.int v)) st G
      | _ => none)
    | .istore _ => (match st with
      | .int v :: st => K (k + 1) (az_s1 L a (.int v)) st G
      | _ => none)
    | .lstore_n _ => (match st with
      | .long v :: st => K (k + 1) (az_s2 L a (.long v)) st G
      | _ => none)
    | .lstore _ => (match st with
      | .long v :: st => K (k + 1) (az_s2 L a (.long v)) st G
      | _ => none)
    | .astore_n _ => (match st with
      | .ref v :: st => K (k + 1) (az_s1 L a (.ref v)) st G
      | .null :: st => K (k + 1) (az_s1 L a .null) st G
      | _ => none)
    | .astore _ => (match st with
      | .ref v :: st => K (k + 1) (az_s1 L a (.ref v)) st G
      | .null :: st => K (k + 1) (az_s1 L a .null) st G
      | _ => none)
    | .iinc _ _ => (match L[a]? with
      | some (some (.int v)) => K (k + 1) (az_s1 L a (.int (v + x))) st G
      | _ => none)
    | .iadd => (match st with
      | .int w :: .int v :: st => K (k + 1) L (.int (v + w) :: st) G
      | _ => none)
    | .isub => (match st with
      | .int w :: .int v :: st => K (k + 1) L (.int (v - w) :: st) G
      | _ => none)
    | .imul => (match st with
      | .int w :: .int v :: st => K (k + 1) L (.int (v * w) :: st) G
      | _ => none)
    | .iand => (match st with
      | .int w :: .int v :: st => K (k + 1) L (.int (v &&& w) :: st) G
      | _ => none)
    | .ior => (match st with
      | .int w :: .int v :: st => K (k + 1) L (.int (v ||| w) :: st) G
      | _ => none)
    | .ixor => (match st with
      | .int w :: .int v :: st => K (k + 1) L (.int (v ^^^ w) :: st) G
      | _ => none)
    | .ishl => (match st with
      | .int w :: .int v :: st => K (k + 1) L (.int (v <<< (w &&& 31)) :: st) G
      | _ => none)
    | .ishr => (match st with
      | .int w :: .int v :: st => K (k + 1) L (.int (v >>> (w &&& 31)) :: st) G
      | _ => none)
    | .iushr => (match st with
      | .int w :: .int v :: st => K (k + 1) L (.int (v.toUInt32 >>> (w.toUInt32 &&& Int32.toUInt32 31)).toInt32 :: st) G
      | _ => none)
    | .idiv => (match st with
      | .int w :: .int v :: st => az_dv w (K (k + 1) L (.int (v / w) :: st) G)
      | _ => none)
    | .irem => (match st with
      | .int w :: .int v :: st => az_dv w (K (k + 1) L (.int (v - v / w * w) :: st) G)
      | _ => none)
    | .ladd => (match st with
      | .long w :: .long v :: st => K (k + 1) L (.long (v + w) :: st) G
      | _ => none)
    | .lmul => (match st with
      | .long w :: .long v :: st => K (k + 1) L (.long (v * w) :: st) G
      | _ => none)
    | .land => (match st with
      | .long w :: .long v :: st => K (k + 1) L (.long (v &&& w) :: st) G
      | _ => none)
    | .lor => (match st with
      | .long w :: .long v :: st => K (k + 1) L (.long (v ||| w) :: st) G
      | _ => none)
    | .lshl => (match st with
      | .int w :: .long v :: st => K (k + 1) L (.long (v <<< (w.toInt64 &&& 63)) :: st) G
      | _ => none)
    | .lshr => (match st with
      | .int w :: .long v :: st => K (k + 1) L (.long (v >>> (w.toInt64 &&& 63)) :: st) G
      | _ => none)
    | .lushr => (match st with
      | .int w :: .long v :: st => K (k + 1) L (.long (v.toUInt64 >>> (w.toInt64.toUInt64 &&& Int64.toUInt64 63)).toInt64 :: st) G
      | _ => none)
    | .lcmp => (match st with
      | .long w :: .long v :: st => K (k + 1) L (.int (lg_cmp v w) :: st) G
      | _ => none)
    | .i2l => (match st with
      | .int v :: st => K (k + 1) L (.long v.toInt64 :: st) G
      | _ => none)
    | .dup => (match st with
      | .int v :: st => K (k + 1) L (.int v :: .int v :: st) G
      | .ref v :: st => K (k + 1) L (.ref v :: .ref v :: st) G
      | _ => none)
    | .pop => (match st with
      | .int _ :: st => K (k + 1) L st G
      | _ => none)
    | .dup2 => (match st with
      | .int w :: .ref v :: st => K (k + 1) L (.int w :: .ref v :: .int w :: .ref v :: st) G
      | _ => none)
    | .ifCond .eq _ => (match st with
      | .int v :: st => if v = 0 then K a L st G else K (k + 1) L st G
      | _ => none)
    | .ifCond .ne _ => (match st with
      | .int v :: st => if ¬ v = 0 then K a L st G else K (k + 1) L st G
      | _ => none)
    | .ifCond .lt _ => (match st with
      | .int v :: st => if v < 0 then K a L st G else K (k + 1) L st G
      | _ => none)
    | .ifCond .ge _ => (match st with
      | .int v :: st => if 0 ≤ v then K a L st G else K (k + 1) L st G
      | _ => none)
    | .ifCond .gt _ => (match st with
      | .int v :: st => if 0 < v then K a L st G else K (k + 1) L st G
      | _ => none)
    | .ifCond .le _ => (match st with
      | .int v :: st => if v ≤ 0 then K a L st G else K (k + 1) L st G
      | _ => none)
    | .if_icmp .eq _ => (match st with
      | .int w :: .int v :: st => if v = w then K a L st G else K (k + 1) L st G
      | _ => none)
    | .if_icmp .ne _ => (match st with
      | .int w :: .int v :: st => if ¬ v = w then K a L st G else K (k + 1) L st G
      | _ => none)
    | .if_icmp .lt _ => (match st with
      | .int w :: .int v :: st => if v < w then K a L st G else K (k + 1) L st G
      | _ => none)
    | .if_icmp .ge _ => (match st with
      | .int w :: .int v :: st => if w ≤ v then K a L st G else K (k + 1) L st G
      | _ => none)
    | .if_icmp .gt _ => (match st with
      | .int w :: .int v :: st => if w < v then K a L st G else K (k + 1) L st G
      | _ => none)
    | .if_icmp .le _ => (match st with
      | .int w :: .int v :: st => if v ≤ w then K a L st G else K (k + 1) L st G
      | _ => none)
    | .goto _ => K a L st G
    | .ifnull _ => (match st with
      | .ref _ :: st => K (k + 1) L st G
      | .null :: st => K a L st G
      | _ => none)
    | .ifnonnull _ => (match st with
      | .ref _ :: st => K a L st G
      | .null :: st => K (k + 1) L st G
      | _ => none)
    | .tableswitch _ lo _ _ => (match st with
      | .int v :: st => K (az_sw (tw a) lo v) L st G
      | _ => none)
    | .getfield _ => (match st with
      | .ref r :: st => (match c with
        | 0 => az_fI G r a b fun v => K (k + 1) L (.int v :: st) G
        | _ => az_fR G r a b fun v => K (k + 1) L (.ref v :: st) G)
      | _ => none)
    | .putfield _ => (match st with
      | .int v :: .ref r :: st => (match c with
        | 0 => az_pt G r a b (.int v) fun G => K (k + 1) L st G
        | 2 => az_w1 v (az_pt G r a b (.int v) fun G => K (k + 1) L st G)
        | _ => none)
      | .ref v :: .ref r :: st => (match c with
        | 1 => az_pt G r a b (.ref v) fun G => K (k + 1) L st G
        | _ => none)
      | _ => none)
    | .arraylength => (match st with
      | .ref r :: st => if b = 9 then (if r = sc.1 then K (k + 1) L (.int (Int32.ofNat sc.2.1) :: st) G else none) else az_ln G b r fun v => K (k + 1) L (.int v :: st) G
      | _ => none)
    | .iaload => (match st with
      | .int j :: .ref r :: st => if b = 9 then (if r = sc.1 ∧ ¬ (j < 0 ∨ sc.2.1 ≤ j.toNatClampNeg) then K (k + 1) L (.int (sc.2.2 j.toNatClampNeg) :: st) G else none) else az_aI G 0 r j fun v => K (k + 1) L (.int v :: st) G
      | _ => none)
    | .baload => (match st with
      | .int j :: .ref r :: st => az_aI G 1 r j fun v => K (k + 1) L (.int v :: st) G
      | _ => none)
    | .aaload => (match st with
      | .int j :: .ref r :: st => az_aR G b r j fun v => K (k + 1) L (.ref v :: st) G
      | _ => none)
    | .iastore => (match st with
      | .int v :: .int j :: .ref r :: st => az_sI G 0 r j v fun G => K (k + 1) L st G
      | _ => none)
    | .bastore => (match st with
      | .int v :: .int j :: .ref r :: st => az_w1 v (az_sI G 1 r j v fun G => K (k + 1) L st G)
      | _ => none)
    | .aastore => (match st with
      | .ref v :: .int j :: .ref r :: st => az_sR G b r j v fun G => K (k + 1) L st G
      | _ => none)
    | .new _ => az_nO G a fun q G => K (k + 1) L (.ref q :: st) G
    | .newarray _ => (match st with
      | .int n :: st => az_nA G b n fun q G => K (k + 1) L (.ref q :: st) G
      | _ => none)
    | .anewarray _ => (match st with
      | .int n :: st => az_nR G b n fun q G => K (k + 1) L (.ref q :: st) G
      | _ => none)
    | .invokestatic _ => if c = 8 then (match st with
      | .int w :: .int v :: st => az_rm st (K (k + 1) L (.int (if v < w then w else v) :: st) G)
      | _ => none) else if st.length < b then none else az_rm (st.drop b) (az_cl c (C a (st.take b).reverse G) (fun st G => K (k + 1) L st G) (st.drop b))
    | .invokevirtual _ => if st.length < b then none else az_rm (st.drop b) (match (st.take b).reverse with
      | .ref r :: vs => az_rc G r d (az_cl c (C a (.ref r :: vs) G) (fun st G => K (k + 1) L st G) (st.drop b))
      | _ => none)
    | .invokespecial _ => if st.length < b then none else az_rm (st.drop b) (match (st.take b).reverse with
      | .ref r :: vs => if c = 9 then K (k + 1) L (st.drop b) G else az_cl c (C a (.ref r :: vs) G) (fun st G => K (k + 1) L st G) (st.drop b)
      | _ => none)
    | .ireturn => (match st with
      | [.int v] => (match c with
        | 0 => some (some (.int v), G)
        | _ => az_zr v G)
      | _ => none)
    | .lreturn => (match st with
      | [.long v] => some (some (.long v), G)
      | _ => none)
    | .areturn => (match st with
      | [.ref v] => some (some (.ref v), G)
      | [.null] => some (some .null, G)
      | _ => none)
    | .return_ => (match st with
      | [] => some (none, G)
      | _ => none)
    | _ => none
/-- the locals at a method's entry -/
def az_en : List Value → az_L
  | [] => []
  | .long x :: vs => some (.long x) :: none :: az_en vs
  | .double x :: vs => some (.double x) :: none :: az_en vs
  | v :: vs => some v :: az_en vs
def az_ent (n : Nat) (vs : List Value) : az_L := az_en vs ++ List.replicate (n - (az_en vs).length) none
