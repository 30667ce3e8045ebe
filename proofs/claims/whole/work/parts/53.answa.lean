/-! OPERATIONS answer, answers: is (p, e) an answer at y -/
def thq (T U : tb) (g : Nat → Nat) (x p e c a : Nat) : Bool := decide (fr T a = x) && (decide (to T a = p) && decide (wy U (g a) e = nI c))
def thn (T U : tb) (g : Nat → Nat) (x p e c : Nat) : Nat := ctB (thq T U g x p e c) (tK T)
def anN (T U : tb) (g : Nat → Nat) (y p e x c : Nat) : Bool := decide (fr U c = g x) && (decide (to U c = y) && !decide (thn T U g x p e c = 1))
def anB (T U : tb) (g : Nat → Nat) (y p e : Nat) : Bool := exB (fun x => exB (fun c => anN T U g y p e x c) (tK U)) (tN T)
section ANSWA
variable {sc : az_S} {G : az_H} {k pp qq t u : Nat} {T U : tb} {f : Nat → Int32} {g : Nat → Nat}
theorem s_arrowsThrough (hc : crC G k pp qq t u f) (h : tbC G t T) (hw : tbW T) (hu : tbC G u U) (hwu : tbW U) (hf : ∀ a, a < tK T → f a = nI (g a) ∧ g a < tK U) {x p e c : Nat} (hx : x < 24) (hp : p < 24) (he : e < tK U) : az_ca sc iX5_arrowsThrough [.ref k, .int (nI x), .int (nI p), .int (nI e), .int (nI c)] G = some (some (.int (nI (thn T U g x p e c))), G) := by
  have hk := hw.k24
  have hku := hwu.k24
  rw [eX5_arrowsThrough]
  refine (lp_ct (fun a n => az_rn sc iX5_arrowsThrough 4 [some (.ref k), some (.int (nI x)), some (.int (nI p)), some (.int (nI e)), some (.int (nI c)), some (.int (nI n)), some (.int (nI a))] [] G) (thq T U g x p e c) (fun n => some (some (.int (nI n)), G)) (tK T) 0 (fun a n ha => ?_) (fun n => ?_)).trans ?_
  · obtain ⟨f1, f2⟩ := hf a ha
    rw [bX5_arrowsThrough_4, cr_f2 hc, tb_f1 h, if_neg (nI_ge ha (by omega)), cr_f2 hc, tb_rc h, s_leadsN h hw ha (by omega) (by omega), bI_s, nI_1, nI_1]
    by_cases e1 : fr T a = x ∧ to T a = p
    · rw [if_pos e1, if_neg (by decide), cr_f3 hc, cr_rc hc, s_givenTo hc (by omega), bI_s, f1, tb_rc hu, s_wayAt hu f2 he hku, bI_s]
      by_cases e2 : wy U (g a) e = nI c
      · rw [if_neg (fun z => z e2), if_pos (show thq T U g x p e c a = true by simp [thq, e1, e2])]
      · rw [if_pos e2, if_neg (show ¬ thq T U g x p e c a = true by simp [thq, e2])]
        rfl
    · rw [if_neg e1, if_pos rfl, if_neg (show ¬ thq T U g x p e c a = true from fun z => e1 (by
        have h3 : fr T a = x ∧ to T a = p ∧ wy U (g a) e = nI c := by simpa [thq] using z
        exact ⟨h3.1, h3.2.1⟩))]
      rfl
  · rw [bX5_arrowsThrough_4, cr_f2 hc, tb_f1 h, if_pos (nI_le (Nat.le_refl _) (by omega))]
  · rw [Nat.zero_add]
    rfl
theorem thn_le (T U : tb) (g : Nat → Nat) (x p e c : Nat) : thn T U g x p e c ≤ tK T := ctB_le _ _
theorem s_isAnswer (hc : crC G k pp qq t u f) (h : tbC G t T) (hw : tbW T) (hu : tbC G u U) (hwu : tbW U) (hf : ∀ a, a < tK T → f a = nI (g a) ∧ g a < tK U) {y p e : Nat} (hy : y < 24) (hp : p < 24) (he : e < tK U) : az_ca sc iX5_isAnswer [.ref k, .int (nI y), .int (nI p), .int (nI e)] G = some (some (.int (if anB T U g y p e = true then 0 else 1)), G) := by
  have hk := hw.k24
  have hku := hwu.k24
  have hn6 := hw.n6
  have hnk := hw.nk
  have inner : ∀ x, x < tN T → az_rn sc iX5_isAnswer 9 [some (.ref k), some (.int (nI y)), some (.int (nI p)), some (.int (nI e)), some (.int (nI x)), some (.int (nI 0))] [] G = if exB (fun c => anN T U g y p e x c) (tK U) = true then some (some (.int 0), G) else az_rn sc iX5_isAnswer 2 [some (.ref k), some (.int (nI y)), some (.int (nI p)), some (.int (nI e)), some (.int (nI (x + 1))), some (.int (nI (tK U)))] [] G := by
    intro x hx
    obtain ⟨f1, f2⟩ := hf x (by omega)
    refine lp_ex (fun c => az_rn sc iX5_isAnswer 9 [some (.ref k), some (.int (nI y)), some (.int (nI p)), some (.int (nI e)), some (.int (nI x)), some (.int (nI c))] [] G) (fun c => anN T U g y p e x c) (some (some (.int 0), G)) _ (tK U) (fun c hc' => ?_) ?_
    · rw [bX5_isAnswer_9, cr_f3 hc, tb_f1 hu, if_neg (nI_ge hc' (by omega)), cr_f3 hc, cr_rc hc, s_givenTo hc (by omega), bI_s, f1, tb_rc hu, s_leadsN hu hwu hc' (by omega) (by omega), bI_s, nI_1]
      by_cases e1 : fr U c = g x ∧ to U c = y
      · have hle := thn_le T U g x p e c
        rw [if_pos e1, if_neg (by decide), s_arrowsThrough hc h hw hu hwu hf (by omega) hp he, bI_s, show (1 : Int32) = nI 1 from rfl, ite_nI (by omega) (by omega)]
        by_cases e2 : thn T U g x p e c = 1
        · rw [if_pos e2, if_neg (show ¬ anN T U g y p e x c = true by simp [anN, e2])]
        · rw [if_neg e2, zr_0, if_pos (show anN T U g y p e x c = true by simp [anN, e1, e2])]
      · rw [if_neg e1, if_pos rfl, if_neg (show ¬ anN T U g y p e x c = true from fun z => e1 (by
          have h3 : fr U c = g x ∧ to U c = y ∧ ¬ thn T U g x p e c = 1 := by simpa [anN] using z
          exact ⟨h3.1, h3.2.1⟩))]
    · rw [bX5_isAnswer_9, cr_f3 hc, tb_f1 hu, if_pos (nI_le (Nat.le_refl _) (by omega)), nI_1]
  rw [eX5_isAnswer]
  refine (lp_exO (fun x (o : Option Value) => az_rn sc iX5_isAnswer 2 [some (.ref k), some (.int (nI y)), some (.int (nI p)), some (.int (nI e)), some (.int (nI x)), o] [] G) (fun x => exB (fun c => anN T U g y p e x c) (tK U)) (some (some (.int 0), G)) (some (some (.int 1), G)) (tN T) (fun x o hx => ?_) (fun o => ?_) none).trans ?_
  · have e1 : az_rn sc iX5_isAnswer 2 [some (.ref k), some (.int (nI y)), some (.int (nI p)), some (.int (nI e)), some (.int (nI x)), o] [] G = az_rn sc iX5_isAnswer 9 [some (.ref k), some (.int (nI y)), some (.int (nI p)), some (.int (nI e)), some (.int (nI x)), some (.int (nI 0))] [] G := by
      rw [bX5_isAnswer_2, cr_f2 hc, tb_f0 h, if_neg (nI_ge hx (by omega))]
      rfl
    refine ⟨fun hz => ?_, fun hz => ⟨some (.int (nI (tK U))), ?_⟩⟩
    · rw [e1, inner x hx, if_pos hz]
    · rw [e1, inner x hx, if_neg (by rw [hz]; decide)]
  · rw [bX5_isAnswer_2, cr_f2 hc, tb_f0 h, if_pos (nI_le (Nat.le_refl _) (by omega)), zr_1]
  · unfold anB
    split <;> rfl
end ANSWA
