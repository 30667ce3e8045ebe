/-! THE SEARCH's rules, the same on both sides -/
abbrev ruS : Type := Nat × (Nat → Nat) × (Nat → Nat) × (Nat → Nat)
def rz (s : ruS) : Nat := s.1
def rt (s : ruS) : Nat → Nat := s.2.1
def rf (s : ruS) : Nat → Nat := s.2.2.1
def rg (s : ruS) : Nat → Nat := s.2.2.2
def mxr (T : tb) (a b : Nat) : Nat := max (max a b) (wv T a b)
def rcd (T : tb) (l a b : Nat) : Bool := decide (tN T ≤ a ∧ tN T ≤ b ∧ to T a = fr T b ∧ mxr T a b = l)
def rsb (T : tb) (l a b : Nat) (s : ruS) : ruS := if rcd T l a b = true then (rz s + 1, rt s, va_up (rf s) (rz s) a, va_up (rg s) (rz s) b) else s
def rs0 (l : Nat) (s : ruS) : ruS := (rz s, va_up (rt s) l (rz s), rf s, rg s)
def rsL (T : tb) : Nat → ruS
  | 0 => (0, fun _ => 0, fun _ => 0, fun _ => 0)
  | l + 1 => flB (fun a => flB (rsb T l a) (tK T)) (tK T) (rs0 l (rsL T l))
def rsA (T : tb) (l a : Nat) : ruS := flB (fun a => flB (rsb T l a) (tK T)) a (rs0 l (rsL T l))
def rsB (T : tb) (l a b : Nat) : ruS := flB (rsb T l a) b (rsA T l a)
def rsF (T : tb) : ruS := rs0 (tK T) (rsL T (tK T))
theorem rsB_0 (T : tb) (l a : Nat) : rsB T l a 0 = rsA T l a := rfl
theorem rsB_k (T : tb) (l a : Nat) : rsB T l a (tK T) = rsA T l (a + 1) := rfl
theorem rsA_0 (T : tb) (l : Nat) : rsA T l 0 = rs0 l (rsL T l) := rfl
theorem rsA_k (T : tb) (l : Nat) : rsA T l (tK T) = rsL T (l + 1) := rfl
theorem rsB_s (T : tb) (l a b : Nat) : rsB T l a (b + 1) = rsb T l a b (rsB T l a b) := rfl
theorem flB_idle {β : Type} {f : Nat → β → β} {s : β} {i n : Nat} (h : i ≤ n) (hf : ∀ j, i ≤ j → j < n → ∀ z, f j z = z) : flB f n s = flB f i s := by
  induction n with
  | zero =>
    have : i = 0 := by omega
    subst this
    rfl
  | succ n ih =>
    by_cases e : i = n + 1
    · subst e; rfl
    · show f n (flB f n s) = _
      rw [hf n (by omega) (by omega), ih (by omega) (fun j h1 h2 => hf j h1 (by omega))]
theorem flB_inv {β : Type} {f : Nat → β → β} (I : β → Prop) {n : Nat} (hf : ∀ i s, i < n → I s → I (f i s)) {s : β} (hs : I s) : I (flB f n s) := by
  induction n with
  | zero => exact hs
  | succ n ih => exact hf n _ (by omega) (ih (fun i s hi h => hf i s (by omega) h))
/-! how many rules there are -/
theorem smB_swap (g : Nat → Nat → Nat) (n m : Nat) : smB (fun l => smB (fun a => g l a) n) m = smB (fun a => smB (fun l => g l a) m) n := by
  induction m with
  | zero =>
    show 0 = smB (fun a => 0) n
    induction n with
    | zero => rfl
    | succ n ih => rw [smB, ← ih]
  | succ m ih =>
    rw [smB, ih]
    clear ih
    induction n with
    | zero => rfl
    | succ n ih2 =>
      rw [smB, smB, smB, ← ih2, smB]
      omega
theorem smB_mono (f : Nat → Nat) {i j : Nat} (h : i ≤ j) : smB f i ≤ smB f j := by
  induction j with
  | zero =>
    have : i = 0 := by omega
    subst this
    exact Nat.le_refl _
  | succ j ih =>
    by_cases e : i = j + 1
    · subst e; exact Nat.le_refl _
    · have := ih (by omega)
      rw [smB]
      omega
def rct (T : tb) (l a b : Nat) : Nat := if rcd T l a b = true then 1 else 0
theorem rct_b (T : tb) (l a b : Nat) (s : ruS) : rz (flB (rsb T l a) b s) = rz s + smB (rct T l a) b := by
  induction b with
  | zero => rfl
  | succ b ih =>
    show rz (rsb T l a b (flB (rsb T l a) b s)) = rz s + (smB (rct T l a) b + rct T l a b)
    by_cases h : rcd T l a b = true
    · have e1 : rct T l a b = 1 := if_pos h
      have e2 : rsb T l a b (flB (rsb T l a) b s) = (rz (flB (rsb T l a) b s) + 1, rt (flB (rsb T l a) b s), va_up (rf (flB (rsb T l a) b s)) (rz (flB (rsb T l a) b s)) a, va_up (rg (flB (rsb T l a) b s)) (rz (flB (rsb T l a) b s)) b) := if_pos h
      rw [e1, e2]
      show rz (flB (rsb T l a) b s) + 1 = _
      rw [ih]
      omega
    · have e1 : rct T l a b = 0 := if_neg h
      have e2 : rsb T l a b (flB (rsb T l a) b s) = flB (rsb T l a) b s := if_neg h
      rw [e1, e2, ih, Nat.add_zero]
theorem rct_a (T : tb) (l a : Nat) (s : ruS) : rz (flB (fun a => flB (rsb T l a) (tK T)) a s) = rz s + smB (fun a => smB (rct T l a) (tK T)) a := by
  induction a with
  | zero => rfl
  | succ a ih =>
    show rz (flB (rsb T l a) (tK T) (flB (fun a => flB (rsb T l a) (tK T)) a s)) = rz s + (smB (fun a => smB (rct T l a) (tK T)) a + smB (rct T l a) (tK T))
    rw [rct_b, ih]
    omega
theorem rct_l (T : tb) (l : Nat) : rz (rsL T l) = smB (fun l => smB (fun a => smB (rct T l a) (tK T)) (tK T)) l := by
  induction l with
  | zero => rfl
  | succ l ih =>
    show rz (flB (fun a => flB (rsb T l a) (tK T)) (tK T) (rs0 l (rsL T l))) = smB _ l + smB (fun a => smB (rct T l a) (tK T)) (tK T)
    rw [rct_a, ← ih]
    rfl
theorem rct_1 (T : tb) (a b n : Nat) : smB (fun l => rct T l a b) n ≤ if mxr T a b < n then 1 else 0 := by
  induction n with
  | zero => exact Nat.zero_le _
  | succ n ih =>
    rw [smB]
    by_cases e : mxr T a b = n
    · rw [if_neg (by omega)] at ih
      rw [if_pos (by omega)]
      have : rct T n a b ≤ 1 := by unfold rct; split <;> omega
      omega
    · have h0 : rct T n a b = 0 := by
        unfold rct
        rw [if_neg]
        unfold rcd
        rw [decide_eq_true_iff]
        rintro ⟨-, -, -, h⟩
        exact e h
      rw [h0]
      by_cases e2 : mxr T a b < n
      · rw [if_pos e2] at ih
        rw [if_pos (by omega)]
        omega
      · rw [if_neg e2] at ih
        omega
theorem rct_all {T : tb} (hk : tK T ≤ 24) (n : Nat) : smB (fun l => smB (fun a => smB (rct T l a) (tK T)) (tK T)) n ≤ 576 := by
  rw [smB_swap]
  have h1 : ∀ a, smB (fun l => smB (rct T l a) (tK T)) n ≤ 24 := by
    intro a
    have e : smB (fun l => smB (rct T l a) (tK T)) n = smB (fun b => smB (fun l => rct T l a b) n) (tK T) := smB_swap (fun l b => rct T l a b) (tK T) n
    rw [e]
    have h2 : smB (fun b => smB (fun l => rct T l a b) n) (tK T) ≤ tK T * 1 := smB_le (fun b hb => by
      have := rct_1 T a b n
      have h3 : (if mxr T a b < n then 1 else 0) ≤ 1 := by split <;> omega
      omega)
    omega
  have h3 : smB (fun a => smB (fun l => smB (rct T l a) (tK T)) n) (tK T) ≤ tK T * 24 := smB_le (fun a _ => h1 a)
  have h4 : tK T * 24 ≤ 24 * 24 := Nat.mul_le_mul_right 24 hk
  omega
theorem rz_lt {T : tb} (hk : tK T ≤ 24) {l a b : Nat} (ha : a < tK T) (hb : b < tK T) (h : rcd T l a b = true) : rz (rsB T l a b) < 576 := by
  have e1 : rz (rsB T l a b) = rz (rsA T l a) + smB (rct T l a) b := rct_b _ _ _ _ _
  have e2 : rz (rsA T l a) = rz (rsL T l) + smB (fun a => smB (rct T l a) (tK T)) a := rct_a _ _ _ _
  have e3 := rct_l T l
  have h1 : smB (rct T l a) (b + 1) ≤ smB (rct T l a) (tK T) := smB_mono _ hb
  have h2 : smB (fun a => smB (rct T l a) (tK T)) (a + 1) ≤ smB (fun a => smB (rct T l a) (tK T)) (tK T) := smB_mono _ ha
  have h3 := rct_all hk (l + 1)
  have e4 : rct T l a b = 1 := if_pos h
  have e5 : smB (rct T l a) (b + 1) = smB (rct T l a) b + rct T l a b := rfl
  have e6 : smB (fun a => smB (rct T l a) (tK T)) (a + 1) = smB (fun a => smB (rct T l a) (tK T)) a + smB (rct T l a) (tK T) := rfl
  have e7 : smB (fun l => smB (fun a => smB (rct T l a) (tK T)) (tK T)) (l + 1) = smB (fun l => smB (fun a => smB (rct T l a) (tK T)) (tK T)) l + smB (fun a => smB (rct T l a) (tK T)) (tK T) := rfl
  omega
theorem rz_le {T : tb} (hk : tK T ≤ 24) (l : Nat) : rz (rsL T l) ≤ 576 := by
  rw [rct_l]
  exact rct_all hk l
/-! what holds of the rules -/
def rvl (T : tb) (s : ruS) (i : Nat) : Prop := to T (rf s i) = fr T (rg s i)
def rJ (T : tb) (l : Nat) (s : ruS) : Prop := (∀ i, i < rz s → rvl T s i ∧ mxr T (rf s i) (rg s i) < l) ∧ (∀ l', l' < l → rt s l' ≤ rz s ∧ ∀ i, i < rt s l' → mxr T (rf s i) (rg s i) < l')
theorem rJ_b {T : tb} {l a b : Nat} {s : ruS} (h : rJ T (l + 1) s) : rJ T (l + 1) (rsb T l a b s) := by
  unfold rsb
  by_cases hc : rcd T l a b = true
  · rw [if_pos hc]
    have hc' : tN T ≤ a ∧ tN T ≤ b ∧ to T a = fr T b ∧ mxr T a b = l := by
      unfold rcd at hc
      exact of_decide_eq_true hc
    obtain ⟨h1, h2⟩ := h
    refine ⟨fun i hi => ?_, fun l' hl' => ?_⟩
    · have hi' : i < rz s + 1 := hi
      show to T (va_up (rf s) (rz s) a i) = fr T (va_up (rg s) (rz s) b i) ∧ mxr T (va_up (rf s) (rz s) a i) (va_up (rg s) (rz s) b i) < l + 1
      by_cases e : i = rz s
      · subst e
        rw [up_s, up_s]
        exact ⟨hc'.2.2.1, by omega⟩
      · rw [up_n _ _ e, up_n _ _ e]
        exact h1 i (by omega)
    · obtain ⟨h3, h4⟩ := h2 l' hl'
      refine ⟨?_, fun i hi => ?_⟩
      · show rt s l' ≤ rz s + 1
        omega
      · have hi' : i < rt s l' := hi
        show mxr T (va_up (rf s) (rz s) a i) (va_up (rg s) (rz s) b i) < l'
        have e : i ≠ rz s := by omega
        rw [up_n _ _ e, up_n _ _ e]
        exact h4 i hi'
  · rw [if_neg hc]
    exact h
theorem rJ_0 {T : tb} {l : Nat} {s : ruS} (h : rJ T l s) : rJ T (l + 1) (rs0 l s) := by
  obtain ⟨h1, h2⟩ := h
  refine ⟨fun i hi => ?_, fun l' hl' => ?_⟩
  · obtain ⟨a1, a2⟩ := h1 i hi
    exact ⟨a1, Nat.lt_succ_of_lt a2⟩
  · show va_up (rt s) l (rz s) l' ≤ rz s ∧ ∀ i, i < va_up (rt s) l (rz s) l' → mxr T (rf s i) (rg s i) < l'
    by_cases e : l' = l
    · subst e
      rw [up_s]
      exact ⟨Nat.le_refl _, fun i hi => (h1 i hi).2⟩
    · rw [up_n _ _ e]
      exact h2 l' (by omega)
theorem rJ_l (T : tb) : ∀ l, rJ T l (rsL T l) := by
  intro l
  induction l with
  | zero => exact ⟨fun i hi => absurd hi (Nat.not_lt_zero _), fun l' hl' => absurd hl' (Nat.not_lt_zero _)⟩
  | succ l ih => exact flB_inv (rJ T (l + 1)) (fun a s _ h => flB_inv (rJ T (l + 1)) (fun b s _ h => rJ_b h) h) (rJ_0 ih)
theorem rsF_ok {T : tb} (hk : tK T ≤ 24) {l : Nat} (hl : l ≤ tK T) : rt (rsF T) l ≤ rz (rsF T) ∧ rz (rsF T) ≤ 576 ∧ ∀ i, i < rt (rsF T) l → rvl T (rsF T) i ∧ mxr T (rf (rsF T) i) (rg (rsF T) i) < l := by
  have h := rJ_0 (rJ_l T (tK T))
  have h2 := h.2 l (by omega)
  exact ⟨h2.1, rz_le hk _, fun i hi => ⟨(h.1 i (Nat.lt_of_lt_of_le hi h2.1)).1, h2.2 i hi⟩⟩
theorem rcd_lo {T : tb} {l a b : Nat} (h : a < tN T ∨ b < tN T) : rcd T l a b = false := by
  unfold rcd
  rw [decide_eq_false_iff_not]
  rintro ⟨h1, h2, -, -⟩
  omega
theorem rcd_hi {T : tb} {l a b : Nat} (h : l < a ∨ l < b) : rcd T l a b = false := by
  unfold rcd
  rw [decide_eq_false_iff_not]
  rintro ⟨-, -, -, h2⟩
  unfold mxr at h2
  omega
theorem rsb_id {T : tb} {l a b : Nat} (h : rcd T l a b = false) (s : ruS) : rsb T l a b s = s := by
  unfold rsb
  rw [h]
  rfl
theorem rsB_n (T : tb) (l a : Nat) : rsB T l a (tN T) = rsA T l a := flB_idle (Nat.zero_le _) (fun j _ hj z => rsb_id (rcd_lo (Or.inr hj)) z)
theorem rsB_l {T : tb} {l : Nat} (hl : l < tK T) (a : Nat) : rsB T l a (l + 1) = rsA T l (a + 1) := (flB_idle (f := rsb T l a) hl (fun j h1 _ z => rsb_id (rcd_hi (Or.inr h1)) z)).symm
theorem rsA_n (T : tb) (l : Nat) : rsA T l (tN T) = rs0 l (rsL T l) := flB_idle (Nat.zero_le _) (fun j _ hj z => flB_idle (Nat.zero_le _) (fun b _ _ z => rsb_id (rcd_lo (Or.inl hj)) z))
theorem rsA_l {T : tb} {l : Nat} (hl : l < tK T) : rsA T l (l + 1) = rsL T (l + 1) := (flB_idle (f := fun a => flB (rsb T l a) (tK T)) hl (fun j h1 _ z => flB_idle (Nat.zero_le _) (fun b _ _ z => rsb_id (rcd_hi (Or.inl h1)) z))).symm
theorem mx_n {a b : Nat} (hb : b < 2 ^ 31) (ha : a < 2 ^ 31) : (if nI a < nI b then nI b else nI a) = nI (max a b) := by
  by_cases h : a < b
  · rw [if_pos (nI_lt h hb), show max a b = b by omega]
  · rw [if_neg (fun z => h ((nI_ltI ha hb).mp z)), show max a b = a by omega]
