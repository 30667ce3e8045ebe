/-! BASE: the combinators on known cells; small numbers; loops -/
theorem bI_s (x : Int32) (G : az_H) (k : Int32 → az_H → az_R) : az_bI (some (some (.int x), G)) k = k x G := rfl
theorem bL_s (x : Int64) (G : az_H) (k : Int64 → az_H → az_R) : az_bL (some (some (.long x), G)) k = k x G := rfl
theorem bV_s (G : az_H) (k : az_H → az_R) : az_bV (some (none, G)) k = k G := rfl
theorem bR_0 (G : az_H) (k0 : az_H → az_R) (k : Nat → az_H → az_R) : az_bR (some (some .null, G)) k0 k = k0 G := rfl
theorem bR_s (q : Nat) (G : az_H) (k0 : az_H → az_R) (k : Nat → az_H → az_R) : az_bR (some (some (.ref q), G)) k0 k = k q G := rfl
theorem rc_s {G : az_H} {r ci : Nat} {fs : List Value} {k : az_R} (h : G.1 r = some (.inr (ci, fs))) : az_rc G r ci k = k := by simp [az_rc, h]
theorem fI_s {G : az_H} {r ci j : Nat} {fs : List Value} {x : Int32} {k : Int32 → az_R} (h : G.1 r = some (.inr (ci, fs))) (hj : fs[j]? = some (.int x)) : az_fI G r ci j k = k x := by simp [az_fI, h, hj]
theorem fR_s {G : az_H} {r ci j : Nat} {fs : List Value} {x : Nat} {k : Nat → az_R} (h : G.1 r = some (.inr (ci, fs))) (hj : fs[j]? = some (.ref x)) : az_fR G r ci j k = k x := by simp [az_fR, h, hj]
theorem pt_s {G : az_H} {r ci j : Nat} {fs : List Value} {v : Value} {k : az_H → az_R} (h : G.1 r = some (.inr (ci, fs))) (hj : j < fs.length) : az_pt G r ci j v k = k (az_set G r (.inr (ci, fs.set j v))) := by simp [az_pt, h, hj]
theorem ln_s {G : az_H} {r kd n : Nat} {x : (Nat → Int32) ⊕ (Nat → Int64) ⊕ (Nat → UInt32) ⊕ (Nat → UInt64) ⊕ (Nat → Option Nat)} {k : Int32 → az_R} (h : G.1 r = some (.inl (kd, n, x))) : az_ln G kd r k = k (nI n) := by
  unfold az_ln
  rw [h]
  exact if_pos rfl
theorem aI_s {G : az_H} {r kd n i : Nat} {f : Nat → Int32} {k : Int32 → az_R} (h : G.1 r = some (.inl (kd, n, .inl f))) (hi : i < n) (hn : n < 2 ^ 31) : az_aI G kd r (nI i) k = k (f i) := by
  have h1 : ¬ (nI i < 0 ∨ n ≤ (nI i).toNatClampNeg) := vp_in_nI hi hn
  simp only [az_aI, h]
  rw [if_pos ⟨trivial, h1⟩, nI_clamp (by omega)]
theorem aR_s {G : az_H} {r kd n i q : Nat} {f : Nat → Option Nat} {k : Nat → az_R} (h : G.1 r = some (.inl (kd, n, .inr (.inr (.inr (.inr f)))))) (hi : i < n) (hn : n < 2 ^ 31) (hq : f i = some q) : az_aR G kd r (nI i) k = k q := by
  have h1 : ¬ (nI i < 0 ∨ n ≤ (nI i).toNatClampNeg) := vp_in_nI hi hn
  simp only [az_aR, h]
  rw [if_pos ⟨trivial, h1⟩, nI_clamp (by omega), hq]
theorem sI_s {G : az_H} {r kd n i : Nat} {f : Nat → Int32} {x : Int32} {k : az_H → az_R} (h : G.1 r = some (.inl (kd, n, .inl f))) (hi : i < n) (hn : n < 2 ^ 31) : az_sI G kd r (nI i) x k = k (az_set G r (.inl (kd, n, .inl (upd f i x)))) := by
  have h1 : ¬ (nI i < 0 ∨ n ≤ (nI i).toNatClampNeg) := vp_in_nI hi hn
  simp only [az_sI, h]
  rw [if_pos ⟨trivial, h1⟩, nI_clamp (by omega)]
theorem sR_s {G : az_H} {r kd n i v : Nat} {f : Nat → Option Nat} {vs : List Value} {k : az_H → az_R} (h : G.1 r = some (.inl (kd, n, .inr (.inr (.inr (.inr f)))))) (hv : G.1 v = some (.inr (az_el kd, vs))) (hi : i < n) (hn : n < 2 ^ 31) : az_sR G kd r (nI i) v k = k (az_set G r (.inl (kd, n, .inr (.inr (.inr (.inr (va_up f i (some v)))))))) := by
  have h1 : ¬ (nI i < 0 ∨ n ≤ (nI i).toNatClampNeg) := vp_in_nI hi hn
  simp only [az_sR, h, hv]
  rw [if_pos ⟨trivial, trivial, h1⟩, nI_clamp (by omega)]
theorem zr_0 (G : az_H) : az_zr 0 G = some (some (.int 0), G) := if_pos (Or.inl rfl)
theorem zr_1 (G : az_H) : az_zr 1 G = some (some (.int 1), G) := if_pos (Or.inr rfl)
theorem zr_i (p : Prop) [Decidable p] (G : az_H) : az_zr (if p then 1 else 0) G = some (some (.int (if p then 1 else 0)), G) := by
  by_cases h : p
  · rw [if_pos h, zr_1]
  · rw [if_neg h, zr_0]
theorem w1_0 (k : az_R) : az_w1 0 k = k := if_pos (Or.inl rfl)
theorem w1_1 (k : az_R) : az_w1 1 k = k := if_pos (Or.inr rfl)
theorem set_1 (G : az_H) (r : Nat) (e : va_E) : (az_set G r e).1 r = some e := by simp [az_set]
theorem set_n {G : az_H} {r q : Nat} {e : va_E} (h : q ≠ r) : (az_set G r e).1 q = G.1 q := by simp [az_set, h]
theorem set_2 (G : az_H) (r : Nat) (e : va_E) : (az_set G r e).2 = G.2 := rfl
theorem set_set (G : az_H) (r : Nat) (e e1 : va_E) : az_set (az_set G r e) r e1 = az_set G r e1 := by
  refine Prod.ext (funext fun q => ?_) rfl
  show (if q = r then some e1 else if q = r then some e else G.1 q) = if q = r then some e1 else G.1 q
  by_cases h : q = r
  · rw [if_pos h, if_pos h]
  · rw [if_neg h, if_neg h, if_neg h]
theorem set_comm (G : az_H) {r q : Nat} (h : r ≠ q) (e e1 : va_E) : az_set (az_set G r e) q e1 = az_set (az_set G q e1) r e := by
  refine Prod.ext (funext fun x => ?_) rfl
  show (if x = q then some e1 else if x = r then some e else G.1 x) = if x = r then some e else if x = q then some e1 else G.1 x
  by_cases h1 : x = q
  · have h2 : ¬ x = r := fun z => h (z.symm.trans h1)
    rw [if_pos h1, if_neg h2, if_pos h1]
  · rw [if_neg h1, if_neg h1]
theorem set_id {G : az_H} {r : Nat} {e : va_E} (h : G.1 r = some e) : az_set G r e = G := by
  refine Prod.ext (funext fun x => ?_) rfl
  show (if x = r then some e else G.1 x) = G.1 x
  by_cases h1 : x = r
  · rw [if_pos h1, h1, h]
  · rw [if_neg h1]
/-! numbers -/
theorem nI_eq0 {a : Nat} (ha : a < 2 ^ 31) : nI a = 0 ↔ a = 0 := by rw [show (0 : Int32) = nI 0 from rfl]; exact nI_eq ha (by omega)
theorem nI_nm1 {a : Nat} (ha : a < 2 ^ 31) : ¬ nI a = -1 := by
  intro h
  have h1 := congrArg Int32.toInt h
  rw [nI_toInt ha] at h1
  have : (-1 : Int32).toInt = -1 := by decide
  omega
theorem nI_nlt0 {a : Nat} (ha : a < 2 ^ 31) : ¬ nI a < 0 := nI_pos ha
theorem nI_le0 {a : Nat} (ha : a < 2 ^ 31) : (0 : Int32) ≤ nI a := nI_pos' ha
/-- an Int32 within 0 .. n - 1 is a number; else it is below 0 or n at least -/
theorem ix_cases (x : Int32) {n : Nat} (hn : n < 2 ^ 31) : x < 0 ∨ (¬ x < 0 ∧ nI n ≤ x) ∨ ∃ j : Nat, j < n ∧ x = nI j := by
  rcases pk_ix x hn with h | h | h
  · exact Or.inl h
  · by_cases h0 : x < 0
    · exact Or.inl h0
    · exact Or.inr (Or.inl ⟨h0, h⟩)
  · exact Or.inr (Or.inr h)
/-! loops -/
/-- is there one below n -/
def exB (p : Nat → Bool) : Nat → Bool
  | 0 => false
  | n + 1 => exB p n || p n
theorem exB_iff {p : Nat → Bool} {n : Nat} : exB p n = true ↔ ∃ i, i < n ∧ p i = true := by
  induction n with
  | zero => simp [exB]
  | succ n ih =>
    simp only [exB, Bool.or_eq_true, ih]
    constructor
    · rintro (⟨i, h1, h2⟩ | h)
      · exact ⟨i, by omega, h2⟩
      · exact ⟨n, by omega, h⟩
    · rintro ⟨i, h1, h2⟩
      by_cases h : i = n
      · subst h; exact Or.inr h2
      · exact Or.inl ⟨i, by omega, h2⟩
theorem exB_congr {p q : Nat → Bool} {n : Nat} (h : ∀ i, i < n → p i = q i) : exB p n = exB q n := by
  induction n with
  | zero => rfl
  | succ n ih => rw [exB, exB, ih (fun i hi => h i (by omega)), h n (by omega)]
/-- a loop that ends early at the first i with p -/
theorem lp_ex {α : Type} (F : Nat → α) (p : Nat → Bool) (R E : α) (n : Nat) (hs : ∀ i, i < n → F i = if p i = true then R else F (i + 1)) (he : F n = E) : F 0 = if exB p n = true then R else E := by
  have key : ∀ j, j ≤ n → F 0 = if exB p j = true then R else F j := by
    intro j
    induction j with
    | zero => intro _; simp [exB]
    | succ j ih =>
      intro hj
      rw [ih (by omega), hs j (by omega)]
      by_cases h1 : exB p j = true <;> by_cases h2 : p j = true <;> simp [exB, h1, h2]
  rw [key n (Nat.le_refl _), he]
/-- a loop that goes from i0 on -/
theorem lp_exF {α : Type} (F : Nat → α) (p : Nat → Bool) (R E : α) (i0 n : Nat) (h0 : i0 ≤ n) (hs : ∀ i, i0 ≤ i → i < n → F i = if p i = true then R else F (i + 1)) (he : F n = E) : F i0 = if exB (fun i => decide (i0 ≤ i) && p i) n = true then R else E := by
  have key : ∀ j, i0 ≤ j → j ≤ n → F i0 = if exB (fun i => decide (i0 ≤ i) && p i) j = true then R else F j := by
    intro j
    induction j with
    | zero =>
      intro h1 _
      have : i0 = 0 := by omega
      subst this
      simp [exB]
    | succ j ih =>
      intro h1 hj
      by_cases hj0 : i0 = j + 1
      · subst hj0
        have : exB (fun i => decide (j + 1 ≤ i) && p i) (j + 1) = false := by
          rw [Bool.eq_false_iff]
          intro h
          obtain ⟨i, h2, h3⟩ := exB_iff.mp h
          simp at h3
          omega
        rw [this]
        simp
      · have hle : i0 ≤ j := by omega
        rw [ih hle (by omega), hs j hle (by omega)]
        by_cases h1 : exB (fun i => decide (i0 ≤ i) && p i) j = true <;> by_cases h2 : p j = true <;> simp [exB, h1, h2, hle]
  rw [key n h0 (Nat.le_refl _), he]
/-- how many below n -/
def ctB (p : Nat → Bool) : Nat → Nat
  | 0 => 0
  | n + 1 => ctB p n + (if p n = true then 1 else 0)
theorem ctB_le (p : Nat → Bool) (n : Nat) : ctB p n ≤ n := by
  induction n with
  | zero => exact Nat.le_refl _
  | succ n ih => rw [ctB]; split <;> omega
theorem ctB_congr {p q : Nat → Bool} {n : Nat} (h : ∀ i, i < n → p i = q i) : ctB p n = ctB q n := by
  induction n with
  | zero => rfl
  | succ n ih => rw [ctB, ctB, ih (fun i hi => h i (by omega)), h n (by omega)]
theorem nI_ite (a : Nat) (c : Prop) [Decidable c] : nI a + (if c then 1 else 0) = nI (a + if c then 1 else 0) := by
  by_cases h : c <;> simp [h, nI_1]
/-- a loop that counts: F i c -/
theorem lp_ct {α : Type} (F : Nat → Nat → α) (p : Nat → Bool) (E : Nat → α) (n c0 : Nat) (hs : ∀ i c, i < n → F i c = F (i + 1) (c + if p i = true then 1 else 0)) (he : ∀ c, F n c = E c) : F 0 c0 = E (c0 + ctB p n) := by
  have key : ∀ j, j ≤ n → F 0 c0 = F j (c0 + ctB p j) := by
    intro j
    induction j with
    | zero => intro _; rfl
    | succ j ih => intro hj; rw [ih (by omega), hs j _ (by omega), ctB, Nat.add_assoc]
  rw [key n (Nat.le_refl _), he]
/-- the first below n, or none -/
def fdB (p : Nat → Bool) : Nat → Option Nat
  | 0 => none
  | n + 1 => match fdB p n with
    | some i => some i
    | none => if p n = true then some n else none
theorem fdB_some {p : Nat → Bool} {n i : Nat} (h : fdB p n = some i) : i < n ∧ p i = true ∧ ∀ j, j < i → p j = false := by
  induction n with
  | zero => simp [fdB] at h
  | succ n ih =>
    rw [fdB] at h
    split at h
    · rename_i j hj
      cases h
      obtain ⟨h1, h2, h3⟩ := ih hj
      exact ⟨by omega, h2, h3⟩
    · rename_i hn
      split at h
      · cases h
        rename_i hp
        refine ⟨by omega, hp, fun j hj => ?_⟩
        clear ih
        rw [Bool.eq_false_iff]
        intro hpj
        have : ∀ m, j < m → fdB p m ≠ none := by
          intro m
          induction m with
          | zero => intro h; omega
          | succ m ihm =>
            intro h
            rw [fdB]
            split
            · simp
            · rename_i hm
              by_cases e : j = m
              · subst e; simp [hpj]
              · exact absurd hm (ihm (by omega))
        exact this _ hj hn
      · cases h
theorem fdB_none {p : Nat → Bool} {n : Nat} (h : fdB p n = none) : ∀ j, j < n → p j = false := by
  induction n with
  | zero => intro j hj; omega
  | succ n ih =>
    rw [fdB] at h
    split at h
    · cases h
    · rename_i hn
      split at h
      · cases h
      · rename_i hp
        intro j hj
        by_cases e : j = n
        · subst e; exact Bool.eq_false_iff.mpr hp
        · exact ih hn j (by omega)
theorem fdB_congr {p q : Nat → Bool} {n : Nat} (h : ∀ i, i < n → p i = q i) : fdB p n = fdB q n := by
  induction n with
  | zero => rfl
  | succ n ih => rw [fdB, fdB, ih (fun i hi => h i (by omega)), h n (by omega)]
theorem lp_fd {α : Type} (F : Nat → α) (p : Nat → Bool) (R : Nat → α) (E : α) (n : Nat) (hs : ∀ i, i < n → F i = if p i = true then R i else F (i + 1)) (he : F n = E) : F 0 = match fdB p n with
    | some i => R i
    | none => E := by
  have key : ∀ j, j ≤ n → F 0 = match fdB p j with
      | some i => R i
      | none => F j := by
    intro j
    induction j with
    | zero => intro _; rfl
    | succ j ih =>
      intro hj
      rw [ih (by omega), fdB]
      cases h1 : fdB p j with
      | some i => rfl
      | none =>
        rw [hs j (by omega)]
        by_cases h2 : p j = true <;> simp [h2]
  rw [key n (Nat.le_refl _), he]
/-- loops with a state: each round goes on, or ends in X -/
theorem lp_rel {σ α : Type} (F : Nat → σ → α) (I : Nat → σ → Prop) (X : α → Prop) (n : Nat) (hs : ∀ i s, i < n → I i s → X (F i s) ∨ ∃ s', I (i + 1) s' ∧ F i s = F (i + 1) s') (he : ∀ s, I n s → X (F n s)) : ∀ i s, i ≤ n → I i s → X (F i s) := by
  intro i s hi h
  obtain ⟨d, hd⟩ : ∃ d, n = i + d := ⟨n - i, by omega⟩
  induction d generalizing i s with
  | zero =>
    have : n = i := by omega
    subst this
    exact he s h
  | succ d ih =>
    rcases hs i s (by omega) h with h1 | ⟨s', h1, h2⟩
    · exact h1
    · rw [h2]
      exact ih (i + 1) s' (by omega) h1 (by omega)
theorem lp_ctO {α β : Type} (F : Nat → Nat → β → α) (p : Nat → Nat) (E : Nat → α) (n c0 : Nat) (sm : Nat → Nat) (h0 : sm 0 = 0) (h1 : ∀ i, i < n → sm (i + 1) = sm i + p i) (hs : ∀ i c o, i < n → ∃ o', F i c o = F (i + 1) (c + p i) o') (he : ∀ c o, F n c o = E c) (o : β) : F 0 c0 o = E (c0 + sm n) := by
  have key : ∀ j, j ≤ n → ∃ o', F 0 c0 o = F j (c0 + sm j) o' := by
    intro j
    induction j with
    | zero => intro _; exact ⟨o, by rw [h0, Nat.add_zero]⟩
    | succ j ih =>
      intro hj
      obtain ⟨o1, e1⟩ := ih (by omega)
      obtain ⟨o2, e2⟩ := hs j (c0 + sm j) o1 (by omega)
      exact ⟨o2, by rw [e1, e2, h1 j (by omega), Nat.add_assoc]⟩
  obtain ⟨o1, e1⟩ := key n (Nat.le_refl _)
  rw [e1, he]
theorem exB_none {p : Nat → Bool} {n : Nat} (h : ∀ i, i < n → p i = false) : exB p n = false := by
  rw [Bool.eq_false_iff]
  intro q
  obtain ⟨i, h1, h2⟩ := exB_iff.mp q
  rw [h i h1] at h2
  cases h2
theorem ctB_succ (p : Nat → Bool) (n : Nat) : ctB p (n + 1) = ctB p n + (if p n = true then 1 else 0) := rfl
/-- sums -/
def smB (f : Nat → Nat) : Nat → Nat
  | 0 => 0
  | n + 1 => smB f n + f n
theorem smB_congr {f g : Nat → Nat} {n : Nat} (h : ∀ i, i < n → f i = g i) : smB f n = smB g n := by
  induction n with
  | zero => rfl
  | succ n ih => rw [smB, smB, ih (fun i hi => h i (by omega)), h n (by omega)]
theorem smB_le {f : Nat → Nat} {n c : Nat} (h : ∀ i, i < n → f i ≤ c) : smB f n ≤ n * c := by
  induction n with
  | zero => simp [smB]
  | succ n ih =>
    have h1 := ih (fun i hi => h i (by omega))
    have h2 := h n (by omega)
    rw [smB, Nat.succ_mul]
    omega
/-- the first i with something, and what -/
def fdO {β : Type} (f : Nat → Option β) : Nat → Option (Nat × β)
  | 0 => none
  | n + 1 => match fdO f n with
    | some z => some z
    | none => match f n with
      | some b => some (n, b)
      | none => none
theorem fdO_congr {β : Type} {f g : Nat → Option β} {n : Nat} (h : ∀ i, i < n → f i = g i) : fdO f n = fdO g n := by
  induction n with
  | zero => rfl
  | succ n ih => rw [fdO, fdO, ih (fun i hi => h i (by omega)), h n (by omega)]
theorem fdO_some {β : Type} {f : Nat → Option β} {n i : Nat} {b : β} (h : fdO f n = some (i, b)) : i < n ∧ f i = some b := by
  induction n with
  | zero => cases h
  | succ n ih =>
    rw [fdO] at h
    split at h
    · rename_i z hz
      cases h
      have := ih hz
      exact ⟨by omega, this.2⟩
    · split at h
      · rename_i b' hb
        cases h
        exact ⟨by omega, hb⟩
      · cases h
theorem fdO_none {β : Type} {f : Nat → Option β} {n : Nat} (h : fdO f n = none) : ∀ i, i < n → f i = none := by
  induction n with
  | zero => intro i hi; omega
  | succ n ih =>
    rw [fdO] at h
    split at h
    · cases h
    · rename_i hn
      split at h
      · cases h
      · rename_i hb
        intro i hi
        by_cases e : i = n
        · subst e; exact hb
        · exact ih hn i (by omega)
theorem lp_fdO {α β σ : Type} (F : Nat → σ → α) (f : Nat → Option β) (R : Nat → β → α) (E : α) (n : Nat) (hs : ∀ i s, i < n → (∀ b, f i = some b → F i s = R i b) ∧ (f i = none → ∃ s', F i s = F (i + 1) s')) (he : ∀ s, F n s = E) (s : σ) : F 0 s = match fdO f n with
    | some (i, b) => R i b
    | none => E := by
  have key : ∀ j, j ≤ n → (∃ s', F 0 s = match fdO f j with
      | some (i, b) => R i b
      | none => F j s') := by
    intro j
    induction j with
    | zero => intro _; exact ⟨s, rfl⟩
    | succ j ih =>
      intro hj
      obtain ⟨s1, e1⟩ := ih (by omega)
      rw [fdO]
      cases h1 : fdO f j with
      | some z => rw [h1] at e1; exact ⟨s1, e1⟩
      | none =>
        rw [h1] at e1
        cases h2 : f j with
        | some b => exact ⟨s1, e1.trans ((hs j s1 (by omega)).1 b h2)⟩
        | none =>
          obtain ⟨s2, e2⟩ := (hs j s1 (by omega)).2 h2
          exact ⟨s2, e1.trans e2⟩
  obtain ⟨s1, e1⟩ := key n (Nat.le_refl _)
  rw [e1]
  cases fdO f n with
  | some z => rfl
  | none => exact he s1
theorem fdO_allnone {β : Type} {f : Nat → Option β} {n : Nat} (h : ∀ i, i < n → f i = none) : fdO f n = none := by
  induction n with
  | zero => rfl
  | succ n ih => rw [fdO, ih (fun i hi => h i (by omega)), h n (by omega)]
theorem fdO_first {β : Type} {f : Nat → Option β} {n i : Nat} {b : β} (hi : i < n) (hb : f i = some b) (h : ∀ j, j < i → f j = none) : fdO f n = some (i, b) := by
  induction n with
  | zero => omega
  | succ n ih =>
    by_cases e : i = n
    · subst e
      rw [fdO, fdO_allnone h, hb]
    · rw [fdO, ih (by omega)]
