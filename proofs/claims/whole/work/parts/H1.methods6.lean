/-! ===== mm: the law's own blocks, the last ===== -/
set_option maxRecDepth 20000 in
theorem v_law_4 : (List.range' 24 6).all (fun b => mmChkB tTb tFin 7 false true 4 code p_law (p_law.getD b 0) (b_law.getD b [])) = true := by decide +kernel
set_option maxRecDepth 20000 in
theorem v_law_5 : (List.range' 30 6).all (fun b => mmChkB tTb tFin 7 false true 4 code p_law (p_law.getD b 0) (b_law.getD b [])) = true := by decide +kernel
theorem v_law : mmChk tTb tFin 7 false true 4 code p_law b_law = true := mmChk_of (by decide +kernel) (by decide +kernel) (fun b hb => by
  have hn : p_law.length = 36 := by decide +kernel
  by_cases h0 : b < 6
  · exact List.all_eq_true.mp v_law_0 b (List.mem_range'.mpr ⟨b - 0, by omega, by omega⟩)
  by_cases h1 : b < 12
  · exact List.all_eq_true.mp v_law_1 b (List.mem_range'.mpr ⟨b - 6, by omega, by omega⟩)
  by_cases h2 : b < 18
  · exact List.all_eq_true.mp v_law_2 b (List.mem_range'.mpr ⟨b - 12, by omega, by omega⟩)
  by_cases h3 : b < 24
  · exact List.all_eq_true.mp v_law_3 b (List.mem_range'.mpr ⟨b - 18, by omega, by omega⟩)
  by_cases h4 : b < 30
  · exact List.all_eq_true.mp v_law_4 b (List.mem_range'.mpr ⟨b - 24, by omega, by omega⟩)
  exact List.all_eq_true.mp v_law_5 b (List.mem_range'.mpr ⟨b - 30, by omega, by omega⟩))
