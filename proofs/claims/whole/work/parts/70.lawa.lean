/-! THE LAW: one operation on both sides -/
theorem iC_md {G G' : az_H} {B : Nat} {V : Nat → Int32} {A : Nat → Nat → Int32} {R : Nat → Nat → Option Nat} {S : wS} {ti ci : Nat → Nat} (h : iC G B V A R S ti ci) (ho : ∀ q : Nat, B < q → G'.1 q = G.1 q) (h2 : G'.2 = G.2) : iC G' B V A R S ti ci := by
  obtain ⟨a1, a2, a3, a4, a5, a6, a7, a8, a9, a10⟩ := h
  refine ⟨a1, a2, a3, a4, by rw [h2]; exact a5, a6, fun j hj => ?_, a8, fun j hj => ?_, a10⟩
  · obtain ⟨b1, b2, b3, b4⟩ := a7 j hj
    exact ⟨b1, ⟨(ho _ (by omega)).trans b2.1, (ho _ (by omega)).trans b2.2.1, (ho _ (by omega)).trans b2.2.2.1, (ho _ (by omega)).trans b2.2.2.2⟩, b3, by rw [h2]; exact b4⟩
  · obtain ⟨b1, b2, b3, b4, b5⟩ := a9 j hj
    exact ⟨b1, (ho _ (by omega)).trans b2, (ho _ (by omega)).trans b3, b4, by rw [h2]; exact b5⟩
/-- the law's heap: c0 cells and s0 slots beside tables and carriers -/
def lwS (x m c0 s0 : Nat) (K : az_H) : Prop := ∃ (G : az_H) (V : Nat → Int32) (A : Nat → Nat → Int32) (R : Nat → Nat → Option Nat) (Vm : Nat → Int32) (Am : Nat → Nat → Int32) (S : wS) (ti ci : Nat → Nat), K = clG (mdG G m Vm Am) x V A R ∧ iC (mdG G m Vm Am) (m + 24) V A R S ti ci ∧ iM Vm Am S ∧ wW S ∧ K.2.1 = c0 + 4 * sN S + 2 * sM S ∧ K.2.2 = s0 + 630 * sN S + 29 * sM S
theorem lw_op {x m c0 s0 : Nat} {c5 c6 : az_H → az_R} (hx : x + 22 < m) (hop : ∀ (G G1 : az_H) (V : Nat → Int32) (A : Nat → Nat → Int32) (R : Nat → Nat → Option Nat) (Vm : Nat → Int32) (Am : Nat → Nat → Int32) (S : wS) (ti ci : Nat → Nat), iC G (m + 24) V A R S ti ci → wW S → iM Vm Am S → opU (c5 (clG G x V A R)) (c6 (mdG G1 m Vm Am)) G G1 (m + 24) x m S) {K : az_H} (hK : lwS x m c0 s0 K) : ∃ (v : Int32) (K1 K2 : az_H), c5 K = some (some (.int v), K1) ∧ c6 K1 = some (some (.int v), K2) ∧ (∀ k, az_rc K x 5 k = k) ∧ (∀ k, az_rc K1 m 6 k = k) ∧ lwS x m c0 s0 K2 := by
  obtain ⟨G, V, A, R, Vm, Am, S, ti, ci, rfl, h1, h2, h3, h4, h5⟩ := hK
  obtain ⟨v, G', V', A', R', Vm', Am', S', ti', ci', e1, -⟩ := hop (mdG G m Vm Am) G V A R Vm Am S ti ci h1 h3 h2
  obtain ⟨v2, G2, V2, A2, R2, Vm2, Am2, S2, ti2, ci2, f1, f2, f3, f4, f5, f6, f7, f8⟩ := hop (mdG G m Vm Am) (clG G' x V' A' R') V A R Vm Am S ti ci h1 h3 h2
  have e3 : (some (some (Value.int v), clG G' x V' A' R') : az_R) = some (some (Value.int v2), clG G2 x V2 A2 R2) := e1.symm.trans f1
  have e4 : v = v2 := by
    have := congrArg (fun o : az_R => match o with | some (some (.int w), _) => w | _ => 0) e3
    exact this
  have e5 : clG G' x V' A' R' = clG G2 x V2 A2 R2 := by
    have := congrArg (fun o : az_R => match o with | some (_, H) => H | _ => G) e3
    exact this
  have e6 : mdG (clG G' x V' A' R') m Vm Am = clG G' x V' A' R' := by
    rw [e5]
    refine Prod.ext (funext fun q => ?_) rfl
    by_cases hq : m ≤ q ∧ q ≤ m + 24
    · obtain ⟨d, rfl⟩ : ∃ d, q = m + d := ⟨q - m, by omega⟩
      rw [md_at _ m Vm Am (show d ≤ 24 by omega), cl_out G2 V2 A2 R2 (by omega), f6 _ (by omega), md_at G m Vm Am (show d ≤ 24 by omega)]
    · rw [md_out _ _ _ (by omega)]
  rw [e6, e5] at f2
  have e7 : mdG (clG G2 x V2 A2 R2) m Vm2 Am2 = clG (mdG G2 m Vm2 Am2) x V2 A2 R2 := md_cl _ _ _ _ _ hx
  rw [e7] at f2
  refine ⟨v2, clG G2 x V2 A2 R2, clG (mdG G2 m Vm2 Am2) x V2 A2 R2, f1, f2, fun k => cl_rc0 k, fun k => ?_, G2, V2, A2, R2, Vm2, Am2, S2, ti2, ci2, rfl, iC_md f3 (fun q hq => md_out _ _ _ (by omega)) rfl, f4, f5, ?_, ?_⟩
  · have e8 := e6
    rw [e5] at e8
    rw [← e8]
    exact md_rc k
  · have h4' : G.2.1 = c0 + 4 * sN S + 2 * sM S := h4
    have f7' : G2.2.1 + 4 * sN S + 2 * sM S = G.2.1 + 4 * sN S2 + 2 * sM S2 := f7
    show G2.2.1 = c0 + 4 * sN S2 + 2 * sM S2
    omega
  · have h5' : G.2.2 = s0 + 630 * sN S + 29 * sM S := h5
    have f8' : G2.2.2 + 630 * sN S + 29 * sM S = G.2.2 + 630 * sN S2 + 29 * sM S2 := f8
    show G2.2.2 = s0 + 630 * sN S2 + 29 * sM S2
    omega
