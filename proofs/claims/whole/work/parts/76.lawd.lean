/-! EVERY kind of the law, and the claim -/
section LAWD
variable {sc : az_S} {x m c0 s0 : Nat} {K : az_H} {v3 : Int32}
theorem lw_899 (hx : x + 22 < m) (hK : lwS x m c0 s0 K) : ∃ K2, az_rn sc iL_law 899 [some (.ref sc.1), some (.ref x), some (.ref m), some (.int v3)] [] K = az_rn sc iL_law 907 [some (.ref sc.1), some (.ref x), some (.ref m), some (.int v3)] [] K2 ∧ lwS x m c0 s0 K2 := by
  refine ⟨K, ?_, hK⟩
  obtain ⟨G, V, A, R, Vm, Am, S, ti, ci, rfl, h1, h2, h3, h4, h5⟩ := hK
  have e1 := md_cl (G := G) Vm Am V A R hx
  rw [bL_law_899, cl_rc0, s_digest h1 (by omega) h3, bL_s, ← e1, md_rc, m_digest h2 h3, bL_s, if_pos ((lg_cmp_eq _ _).mpr rfl)]
end LAWD
theorem lw_allok : ∀ (sc : az_S) (Z : Nat), lw_all sc Z (Z + 23) (Z + 48) 13864 := by
  intro sc Z p hp K v3 hK h1 h2 h3 h4
  have hx : Z + 22 < Z + 23 := Nat.lt_succ_self _
  unfold lw_kinds at hp
  rcases List.mem_cons.mp hp with rfl | hp
  · exact lw_22 hx hK h1
  rcases List.mem_cons.mp hp with rfl | hp
  · exact lw_39 hx hK h1 h2 h3
  rcases List.mem_cons.mp hp with rfl | hp
  · exact lw_76 hx hK h1 h2 h3 h4
  rcases List.mem_cons.mp hp with rfl | hp
  · exact lw_123 hx hK h1
  rcases List.mem_cons.mp hp with rfl | hp
  · exact lw_140 hx hK h1 h2
  rcases List.mem_cons.mp hp with rfl | hp
  · exact lw_167 hx hK h1 h2 h3
  rcases List.mem_cons.mp hp with rfl | hp
  · exact lw_218 hx hK h1
  rcases List.mem_cons.mp hp with rfl | hp
  · exact lw_235 hx hK h1 h2
  rcases List.mem_cons.mp hp with rfl | hp
  · exact lw_262 hx hK h1 h2
  rcases List.mem_cons.mp hp with rfl | hp
  · exact lw_289 hx hK h1 h2 h3
  rcases List.mem_cons.mp hp with rfl | hp
  · exact lw_326 hx hK h1 h2 h3
  rcases List.mem_cons.mp hp with rfl | hp
  · exact lw_363 hx hK h1 h2
  rcases List.mem_cons.mp hp with rfl | hp
  · exact lw_390 hx hK h1 h2 h3
  rcases List.mem_cons.mp hp with rfl | hp
  · exact lw_427 hx hK h1 h2
  rcases List.mem_cons.mp hp with rfl | hp
  · exact lw_454 hx hK h1 h2
  rcases List.mem_cons.mp hp with rfl | hp
  · exact lw_481 hx hK h1 h2
  rcases List.mem_cons.mp hp with rfl | hp
  · exact lw_508 hx hK h1 h2
  rcases List.mem_cons.mp hp with rfl | hp
  · exact lw_535 hx hK h1 h2
  rcases List.mem_cons.mp hp with rfl | hp
  · exact lw_562 hx hK h1 h2 h3 h4
  rcases List.mem_cons.mp hp with rfl | hp
  · exact lw_609 hx hK h1
  rcases List.mem_cons.mp hp with rfl | hp
  · exact lw_626 hx hK h1
  rcases List.mem_cons.mp hp with rfl | hp
  · exact lw_643 hx hK h1 h2
  rcases List.mem_cons.mp hp with rfl | hp
  · exact lw_670 hx hK h1 h2 h3
  rcases List.mem_cons.mp hp with rfl | hp
  · exact lw_707 hx hK h1
  rcases List.mem_cons.mp hp with rfl | hp
  · exact lw_724 hx hK h1 h2
  rcases List.mem_cons.mp hp with rfl | hp
  · exact lw_751 hx hK h1 h2 h3
  rcases List.mem_cons.mp hp with rfl | hp
  · exact lw_788 hx hK h1 h2 h3 h4
  rcases List.mem_cons.mp hp with rfl | hp
  · exact lw_835 hx hK h1 h2 h3 h4
  rcases List.mem_cons.mp hp with rfl | hp
  · exact lw_882 hx hK h1
  rcases List.mem_cons.mp hp with rfl | hp
  · exact lw_899 hx hK
  rcases List.mem_cons.mp hp with rfl | hp
  · exact ⟨K, rfl, hK⟩
  · exact absurd hp List.not_mem_nil
