/-! FAMILIES: one arrow for each object, in order (pure) -/
/-- the first from i on -/
def af (p : Nat → Bool) (K i : Nat) : Option Nat := fdB (fun k => decide (i ≤ k) && p k) K
theorem af_some {p : Nat → Bool} {K i k : Nat} (h : af p K i = some k) : i ≤ k ∧ k < K ∧ p k = true ∧ ∀ j, i ≤ j → j < k → p j = false := by
  obtain ⟨h1, h2, h3⟩ := fdB_some h
  have h4 : i ≤ k ∧ p k = true := by simpa using h2
  refine ⟨h4.1, h1, h4.2, fun j hj hk => ?_⟩
  have h5 := h3 j hk
  simpa [hj] using h5
theorem af_none {p : Nat → Bool} {K i : Nat} (h : af p K i = none) : ∀ j, i ≤ j → j < K → p j = false := by
  intro j hj hk
  have h5 := fdB_none h j hk
  simpa [hj] using h5
theorem ctB_idle {p : Nat → Bool} {i k : Nat} (hik : i ≤ k) (h : ∀ j, i ≤ j → j < k → p j = false) : ctB p k = ctB p i := by
  induction k with
  | zero =>
    have : i = 0 := by omega
    subst this
    rfl
  | succ k ih =>
    by_cases e : i = k + 1
    · subst e; rfl
    · rw [ctB_succ, ih (by omega) (fun j h1 h2 => h j h1 (by omega)), h k (by omega) (by omega)]
      simp
theorem ctB_mono {p : Nat → Bool} {i k : Nat} (h : i ≤ k) : ctB p i ≤ ctB p k := by
  induction k with
  | zero =>
    have : i = 0 := by omega
    subst this
    exact Nat.le_refl _
  | succ k ih =>
    by_cases e : i = k + 1
    · subst e; exact Nat.le_refl _
    · have := ih (by omega)
      rw [ctB_succ]
      omega
theorem ctB_at {p : Nat → Bool} {e : Nat} (h : p e = true) : ctB p (e + 1) = ctB p e + 1 := by rw [ctB_succ, if_pos h]
theorem ctB_lt {p : Nat → Bool} {e K : Nat} (h : p e = true) (hk : e < K) : ctB p e < ctB p K := by
  have h1 := ctB_mono (p := p) (i := e + 1) (k := K) hk
  rw [ctB_at h] at h1
  omega
theorem af_ct {p : Nat → Bool} {K i : Nat} (hi : i ≤ K) : (∀ k, af p K i = some k → ctB p k = ctB p i) ∧ (af p K i = none → ctB p K = ctB p i) :=
  ⟨fun k h => ctB_idle (af_some h).1 (af_some h).2.2.2, fun h => ctB_idle hi (af_none h)⟩
def fs (p : Nat → Bool) (K : Nat) : Nat := (af p K 0).getD 0
theorem fs_ok {p : Nat → Bool} {K : Nat} (h : 0 < ctB p K) : af p K 0 = some (fs p K) ∧ p (fs p K) = true ∧ fs p K < K ∧ ctB p (fs p K) = 0 := by
  obtain ⟨h1, h2⟩ := af_ct (p := p) (K := K) (i := 0) (Nat.zero_le _)
  unfold fs
  cases e : af p K 0 with
  | none =>
    have := h2 e
    rw [this] at h
    exact absurd h (Nat.lt_irrefl _)
  | some k =>
    obtain ⟨a1, a2, a3, a4⟩ := af_some e
    exact ⟨rfl, a3, a2, h1 k e⟩
/-- the next row; true: there is none -/
def od (p : Nat → Nat → Bool) (K : Nat) : Nat → (Nat → Nat) → (Nat → Nat) × Bool
  | 0, r => (r, true)
  | x + 1, r => match af (p x) K (r x + 1) with
    | some e => (va_up r x e, false)
    | none => od p K x (va_up r x (fs (p x) K))
def okR (p : Nat → Nat → Bool) (K n : Nat) (r : Nat → Nat) : Prop := ∀ x, x < n → p x (r x) = true ∧ r x < K
def vl (p : Nat → Nat → Bool) (K : Nat) (r : Nat → Nat) : Nat → Nat
  | 0 => 0
  | x + 1 => vl p K r x * ctB (p x) K + ctB (p x) (r x)
def prd (p : Nat → Nat → Bool) (K : Nat) : Nat → Nat
  | 0 => 1
  | x + 1 => prd p K x * ctB (p x) K
theorem vl_congr {p : Nat → Nat → Bool} {K n : Nat} {r r' : Nat → Nat} (h : ∀ x, x < n → r x = r' x) : vl p K r n = vl p K r' n := by
  induction n with
  | zero => rfl
  | succ n ih => rw [vl, vl, ih (fun x hx => h x (by omega)), h n (by omega)]
theorem vl_lt {p : Nat → Nat → Bool} {K n : Nat} {r : Nat → Nat} (h : okR p K n r) : vl p K r n < prd p K n := by
  induction n with
  | zero => exact Nat.one_pos
  | succ n ih =>
    have h1 := ih (fun x hx => h x (by omega))
    obtain ⟨h2, h3⟩ := h n (by omega)
    have h4 := ctB_lt h2 h3
    rw [vl, prd]
    have h5 : (vl p K r n + 1) * ctB (p n) K ≤ prd p K n * ctB (p n) K := Nat.mul_le_mul_right _ h1
    rw [Nat.add_mul, Nat.one_mul] at h5
    omega
theorem vl_0 {p : Nat → Nat → Bool} {K n : Nat} {r : Nat → Nat} (h : ∀ x, x < n → ctB (p x) (r x) = 0) : vl p K r n = 0 := by
  induction n with
  | zero => rfl
  | succ n ih => rw [vl, ih (fun x hx => h x (by omega)), h n (by omega), Nat.zero_mul]
theorem od_hi (p : Nat → Nat → Bool) (K : Nat) : ∀ n r x, n ≤ x → (od p K n r).1 x = r x := by
  intro n
  induction n with
  | zero => intro r x _; rfl
  | succ n ih =>
    intro r x hx
    rw [od]
    split
    · exact up_n _ _ (by omega)
    · rw [ih _ x (by omega), up_n _ _ (by omega)]
theorem od_ok (p : Nat → Nat → Bool) (K : Nat) : ∀ n r, okR p K n r → okR p K n (od p K n r).1 ∧ ((od p K n r).2 = false → vl p K (od p K n r).1 n = vl p K r n + 1) ∧ ((od p K n r).2 = true → vl p K r n + 1 = prd p K n) := by
  intro n
  induction n with
  | zero =>
    intro r h
    exact ⟨h, fun z => (by cases z), fun _ => rfl⟩
  | succ n ih =>
    intro r h
    obtain ⟨h1, h2⟩ := h n (by omega)
    obtain ⟨q1, q2⟩ := af_ct (p := p n) (K := K) (i := r n + 1) h2
    rw [od]
    cases e : af (p n) K (r n + 1) with
    | some k =>
      obtain ⟨a1, a2, a3, a4⟩ := af_some e
      dsimp only
      refine ⟨fun x hx => ?_, fun _ => ?_, fun z => by cases z⟩
      · by_cases e2 : x = n
        · subst e2
          rw [up_s]
          exact ⟨a3, a2⟩
        · rw [up_n _ _ e2]
          exact h x hx
      · rw [vl, vl, up_s, q1 k e, ctB_at h1, vl_congr (r := va_up r n k) (r' := r) (fun x hx => up_n _ _ (by omega))]
        omega
    | none =>
      have hs := q2 e
      rw [ctB_at h1] at hs
      obtain ⟨f1, f2, f3, f4⟩ := fs_ok (p := p n) (K := K) (by omega)
      dsimp only
      have hok : okR p K n (va_up r n (fs (p n) K)) := fun x hx => by
        rw [up_n _ _ (by omega)]
        exact h x (by omega)
      obtain ⟨i1, i2, i3⟩ := ih (va_up r n (fs (p n) K)) hok
      have hv : vl p K (va_up r n (fs (p n) K)) n = vl p K r n := vl_congr (fun x hx => up_n _ _ (by omega))
      have hn := od_hi p K n (va_up r n (fs (p n) K)) n (Nat.le_refl _)
      rw [up_s] at hn
      refine ⟨fun x hx => ?_, fun z => ?_, fun z => ?_⟩
      · by_cases e2 : x = n
        · subst e2
          rw [hn]
          exact ⟨f2, f3⟩
        · exact i1 x (by omega)
      · have h5 := i2 z
        rw [vl, vl, hn, f4, h5, hv, Nat.add_mul, Nat.one_mul]
        omega
      · have h5 := i3 z
        rw [hv] at h5
        rw [vl, prd, ← h5, Nat.add_mul, Nat.one_mul]
        omega
theorem prd_le {p : Nat → Nat → Bool} {K : Nat} (hK : K ≤ 24) : ∀ n, prd p K n ≤ 24 ^ n := by
  intro n
  induction n with
  | zero => exact Nat.le_refl _
  | succ n ih =>
    rw [prd, Nat.pow_succ]
    exact Nat.mul_le_mul ih (Nat.le_trans (ctB_le _ _) hK)
theorem prd_lt {p : Nat → Nat → Bool} {K n : Nat} (hK : K ≤ 24) (hn : n ≤ 6) : prd p K n < 2 ^ 30 := by
  have h1 := prd_le (p := p) hK n
  have h2 : 24 ^ n ≤ 24 ^ 6 := Nat.pow_le_pow_right (by omega) hn
  have h3 : 24 ^ 6 < 2 ^ 30 := by decide
  omega
theorem prd_0 {p : Nat → Nat → Bool} {K n x : Nat} (hx : x < n) (h : ctB (p x) K = 0) : prd p K n = 0 := by
  induction n with
  | zero => omega
  | succ n ih =>
    rw [prd]
    by_cases e : x = n
    · subst e
      rw [h, Nat.mul_zero]
    · rw [ih (by omega), Nat.zero_mul]
theorem prd_pos {p : Nat → Nat → Bool} {K n : Nat} (h : ∀ x, x < n → 0 < ctB (p x) K) : 0 < prd p K n := by
  induction n with
  | zero => exact Nat.one_pos
  | succ n ih =>
    rw [prd]
    exact Nat.mul_pos (ih (fun x hx => h x (by omega))) (h n (by omega))
/-- through d rows from r on: how many hold (f before), and the one that is wanted -/
def fq (p : Nat → Nat → Bool) (K n : Nat) (hold : (Nat → Nat) → Bool) (wn : Int32) : Nat → (Nat → Nat) → Nat → Nat × Option (Nat → Nat)
  | 0, _, f => (f, none)
  | d + 1, r, f => if hold r = true then ((fq p K n hold wn d (od p K n r).1 (f + 1)).1, if nI f = wn then some r else (fq p K n hold wn d (od p K n r).1 (f + 1)).2) else fq p K n hold wn d (od p K n r).1 f
theorem fq_s (p : Nat → Nat → Bool) (K n : Nat) (hold : (Nat → Nat) → Bool) (wn : Int32) (d : Nat) (r : Nat → Nat) (f : Nat) : fq p K n hold wn (d + 1) r f = if hold r = true then ((fq p K n hold wn d (od p K n r).1 (f + 1)).1, if nI f = wn then some r else (fq p K n hold wn d (od p K n r).1 (f + 1)).2) else fq p K n hold wn d (od p K n r).1 f := rfl
theorem fq_le (p : Nat → Nat → Bool) (K n : Nat) (hold : (Nat → Nat) → Bool) (wn : Int32) : ∀ d r f, f ≤ (fq p K n hold wn d r f).1 ∧ (fq p K n hold wn d r f).1 ≤ f + d := by
  intro d
  induction d with
  | zero => intro r f; exact ⟨Nat.le_refl _, Nat.le_refl _⟩
  | succ d ih =>
    intro r f
    rw [fq_s]
    by_cases h : hold r = true
    · rw [if_pos h]
      have := ih (od p K n r).1 (f + 1)
      exact ⟨by omega, by omega⟩
    · rw [if_neg h]
      have := ih (od p K n r).1 f
      exact ⟨by omega, by omega⟩
theorem fq_pick (p : Nat → Nat → Bool) (K n : Nat) (hold : (Nat → Nat) → Bool) (wn : Int32) : ∀ d r f, (∀ σ, (fq p K n hold wn d r f).2 = some σ → ∃ j, f ≤ j ∧ j < (fq p K n hold wn d r f).1 ∧ nI j = wn) ∧ ((fq p K n hold wn d r f).2 = none → ∀ j, f ≤ j → j < (fq p K n hold wn d r f).1 → nI j ≠ wn) := by
  intro d
  induction d with
  | zero =>
    intro r f
    refine ⟨fun σ h => (by cases h), fun _ j h1 h2 => ?_⟩
    have h2' : j < f := h2
    omega
  | succ d ih =>
    intro r f
    rw [fq_s]
    by_cases h : hold r = true
    · rw [if_pos h]
      obtain ⟨i1, i2⟩ := ih (od p K n r).1 (f + 1)
      have hle := (fq_le p K n hold wn d (od p K n r).1 (f + 1)).1
      by_cases e : nI f = wn
      · rw [if_pos e]
        exact ⟨fun σ _ => ⟨f, Nat.le_refl _, hle, e⟩, fun z => by cases z⟩
      · rw [if_neg e]
        refine ⟨fun σ hσ => ?_, fun hn j h1 h2 => ?_⟩
        · obtain ⟨j, j1, j2, j3⟩ := i1 σ hσ
          exact ⟨j, by omega, j2, j3⟩
        · by_cases e2 : j = f
          · subst e2; exact e
          · exact i2 hn j (by omega) h2
    · rw [if_neg h]
      exact ih (od p K n r).1 f
