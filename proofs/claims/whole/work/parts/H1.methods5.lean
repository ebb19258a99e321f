/-! ===== mm: the law's own blocks, on ===== -/
set_option maxRecDepth 20000 in
theorem v_law_2 : (List.range' 12 6).all (fun b => mmChkB tTb tFin 7 false true 4 code p_law (p_law.getD b 0) (b_law.getD b [])) = true := by decide +kernel
set_option maxRecDepth 20000 in
theorem v_law_3 : (List.range' 18 6).all (fun b => mmChkB tTb tFin 7 false true 4 code p_law (p_law.getD b 0) (b_law.getD b [])) = true := by decide +kernel
