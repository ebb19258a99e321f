/-! ===== mm: the law's own blocks ===== -/
set_option maxRecDepth 20000 in
theorem v_law_0 : (List.range' 0 6).all (fun b => mmChkB tTb tFin 7 false true 4 code p_law (p_law.getD b 0) (b_law.getD b [])) = true := by decide +kernel
set_option maxRecDepth 20000 in
theorem v_law_1 : (List.range' 6 6).all (fun b => mmChkB tTb tFin 7 false true 4 code p_law (p_law.getD b 0) (b_law.getD b [])) = true := by decide +kernel
