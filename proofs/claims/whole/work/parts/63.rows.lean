/-! ===== mm: rows of rows, by program ===== -/
theorem fc_tFA_9 {x : Int} {v : Int} (h1 : 0 ≤ v) (h2 : v < 10) : (tFA 9 v).getD x = 10 + v := by
  have hv : v = 0 ∨ v = 1 ∨ v = 2 ∨ v = 3 ∨ v = 4 ∨ v = 5 ∨ v = 6 ∨ v = 7 ∨ v = 8 ∨ v = 9 := by omega
  rcases hv with rfl | rfl | rfl | rfl | rfl | rfl | rfl | rfl | rfl | rfl <;> rfl
theorem fn_tFA_9 {j : Int} {v : Int} (h1 : 0 ≤ v) (h2 : v < 10) : tFA (10 + v) j = none := by
  have hv : v = 0 ∨ v = 1 ∨ v = 2 ∨ v = 3 ∨ v = 4 ∨ v = 5 ∨ v = 6 ∨ v = 7 ∨ v = 8 ∨ v = 9 := by omega
  rcases hv with rfl | rfl | rfl | rfl | rfl | rfl | rfl | rfl | rfl | rfl <;> rfl
theorem fc_tFB_9 {x : Int} {v : Int} (h1 : 0 ≤ v) (h2 : v < 10) : (tFB 9 v).getD x = 10 + v := by
  have hv : v = 0 ∨ v = 1 ∨ v = 2 ∨ v = 3 ∨ v = 4 ∨ v = 5 ∨ v = 6 ∨ v = 7 ∨ v = 8 ∨ v = 9 := by omega
  rcases hv with rfl | rfl | rfl | rfl | rfl | rfl | rfl | rfl | rfl | rfl <;> rfl
theorem fn_tFB_9 {j : Int} {v : Int} (h1 : 0 ≤ v) (h2 : v < 10) : tFB (10 + v) j = none := by
  have hv : v = 0 ∨ v = 1 ∨ v = 2 ∨ v = 3 ∨ v = 4 ∨ v = 5 ∨ v = 6 ∨ v = 7 ∨ v = 8 ∨ v = 9 := by omega
  rcases hv with rfl | rfl | rfl | rfl | rfl | rfl | rfl | rfl | rfl | rfl <;> rfl
theorem sh_9 {v : Int} (h1 : 0 ≤ v) (h2 : v < 10) : tSh (10 + v) = (100, 5) := by
  have hv : v = 0 ∨ v = 1 ∨ v = 2 ∨ v = 3 ∨ v = 4 ∨ v = 5 ∨ v = 6 ∨ v = 7 ∨ v = 8 ∨ v = 9 := by omega
  rcases hv with rfl | rfl | rfl | rfl | rfl | rfl | rfl | rfl | rfl | rfl <;> rfl
theorem wn_9 {v : Int} (h1 : 0 ≤ v) (h2 : v < 10) : tWn 1 (10 + v) = true := by
  have hv : v = 0 ∨ v = 1 ∨ v = 2 ∨ v = 3 ∨ v = 4 ∨ v = 5 ∨ v = 6 ∨ v = 7 ∨ v = 8 ∨ v = 9 := by omega
  rcases hv with rfl | rfl | rfl | rfl | rfl | rfl | rfl | rfl | rfl | rfl <;> rfl
theorem fc_tFA_50 {x : Int} {v : Int} (h1 : 0 ≤ v) (h2 : v < 10) : (tFA 50 v).getD x = 51 + v := by
  have hv : v = 0 ∨ v = 1 ∨ v = 2 ∨ v = 3 ∨ v = 4 ∨ v = 5 ∨ v = 6 ∨ v = 7 ∨ v = 8 ∨ v = 9 := by omega
  rcases hv with rfl | rfl | rfl | rfl | rfl | rfl | rfl | rfl | rfl | rfl <;> rfl
theorem fn_tFA_50 {j : Int} {v : Int} (h1 : 0 ≤ v) (h2 : v < 10) : tFA (51 + v) j = none := by
  have hv : v = 0 ∨ v = 1 ∨ v = 2 ∨ v = 3 ∨ v = 4 ∨ v = 5 ∨ v = 6 ∨ v = 7 ∨ v = 8 ∨ v = 9 := by omega
  rcases hv with rfl | rfl | rfl | rfl | rfl | rfl | rfl | rfl | rfl | rfl <;> rfl
theorem fc_tFB_50 {x : Int} {v : Int} (h1 : 0 ≤ v) (h2 : v < 10) : (tFB 50 v).getD x = 51 + v := by
  have hv : v = 0 ∨ v = 1 ∨ v = 2 ∨ v = 3 ∨ v = 4 ∨ v = 5 ∨ v = 6 ∨ v = 7 ∨ v = 8 ∨ v = 9 := by omega
  rcases hv with rfl | rfl | rfl | rfl | rfl | rfl | rfl | rfl | rfl | rfl <;> rfl
theorem fn_tFB_50 {j : Int} {v : Int} (h1 : 0 ≤ v) (h2 : v < 10) : tFB (51 + v) j = none := by
  have hv : v = 0 ∨ v = 1 ∨ v = 2 ∨ v = 3 ∨ v = 4 ∨ v = 5 ∨ v = 6 ∨ v = 7 ∨ v = 8 ∨ v = 9 := by omega
  rcases hv with rfl | rfl | rfl | rfl | rfl | rfl | rfl | rfl | rfl | rfl <;> rfl
theorem sh_50 {v : Int} (h1 : 0 ≤ v) (h2 : v < 10) : tSh (51 + v) = (100, 5) := by
  have hv : v = 0 ∨ v = 1 ∨ v = 2 ∨ v = 3 ∨ v = 4 ∨ v = 5 ∨ v = 6 ∨ v = 7 ∨ v = 8 ∨ v = 9 := by omega
  rcases hv with rfl | rfl | rfl | rfl | rfl | rfl | rfl | rfl | rfl | rfl <;> rfl
theorem wn_50 {v : Int} (h1 : 0 ≤ v) (h2 : v < 10) : tWn 1 (51 + v) = true := by
  have hv : v = 0 ∨ v = 1 ∨ v = 2 ∨ v = 3 ∨ v = 4 ∨ v = 5 ∨ v = 6 ∨ v = 7 ∨ v = 8 ∨ v = 9 := by omega
  rcases hv with rfl | rfl | rfl | rfl | rfl | rfl | rfl | rfl | rfl | rfl <;> rfl
theorem fc_tFA_20 {x : Int} {v : Int} (h1 : 0 ≤ v) (h2 : v < 6) : (tFA 20 v).getD x = 21 + v := by
  have hv : v = 0 ∨ v = 1 ∨ v = 2 ∨ v = 3 ∨ v = 4 ∨ v = 5 := by omega
  rcases hv with rfl | rfl | rfl | rfl | rfl | rfl <;> rfl
theorem fn_tFA_20 {j : Int} {v : Int} (h1 : 0 ≤ v) (h2 : v < 6) : tFA (21 + v) j = none := by
  have hv : v = 0 ∨ v = 1 ∨ v = 2 ∨ v = 3 ∨ v = 4 ∨ v = 5 := by omega
  rcases hv with rfl | rfl | rfl | rfl | rfl | rfl <;> rfl
theorem fc_tFB_20 {x : Int} {v : Int} (h1 : 0 ≤ v) (h2 : v < 6) : (tFB 20 v).getD x = 21 + v := by
  have hv : v = 0 ∨ v = 1 ∨ v = 2 ∨ v = 3 ∨ v = 4 ∨ v = 5 := by omega
  rcases hv with rfl | rfl | rfl | rfl | rfl | rfl <;> rfl
theorem fn_tFB_20 {j : Int} {v : Int} (h1 : 0 ≤ v) (h2 : v < 6) : tFB (21 + v) j = none := by
  have hv : v = 0 ∨ v = 1 ∨ v = 2 ∨ v = 3 ∨ v = 4 ∨ v = 5 := by omega
  rcases hv with rfl | rfl | rfl | rfl | rfl | rfl <;> rfl
theorem sh_20 {v : Int} (h1 : 0 ≤ v) (h2 : v < 6) : tSh (21 + v) = (100, 6) := by
  have hv : v = 0 ∨ v = 1 ∨ v = 2 ∨ v = 3 ∨ v = 4 ∨ v = 5 := by omega
  rcases hv with rfl | rfl | rfl | rfl | rfl | rfl <;> rfl
theorem wn_20 {v : Int} (h1 : 0 ≤ v) (h2 : v < 6) : tWn 1 (21 + v) = true := by
  have hv : v = 0 ∨ v = 1 ∨ v = 2 ∨ v = 3 ∨ v = 4 ∨ v = 5 := by omega
  rcases hv with rfl | rfl | rfl | rfl | rfl | rfl <;> rfl
theorem fc_tFA_61 {x : Int} {v : Int} (h1 : 0 ≤ v) (h2 : v < 6) : (tFA 61 v).getD x = 62 + v := by
  have hv : v = 0 ∨ v = 1 ∨ v = 2 ∨ v = 3 ∨ v = 4 ∨ v = 5 := by omega
  rcases hv with rfl | rfl | rfl | rfl | rfl | rfl <;> rfl
theorem fn_tFA_61 {j : Int} {v : Int} (h1 : 0 ≤ v) (h2 : v < 6) : tFA (62 + v) j = none := by
  have hv : v = 0 ∨ v = 1 ∨ v = 2 ∨ v = 3 ∨ v = 4 ∨ v = 5 := by omega
  rcases hv with rfl | rfl | rfl | rfl | rfl | rfl <;> rfl
theorem fc_tFB_61 {x : Int} {v : Int} (h1 : 0 ≤ v) (h2 : v < 6) : (tFB 61 v).getD x = 62 + v := by
  have hv : v = 0 ∨ v = 1 ∨ v = 2 ∨ v = 3 ∨ v = 4 ∨ v = 5 := by omega
  rcases hv with rfl | rfl | rfl | rfl | rfl | rfl <;> rfl
theorem fn_tFB_61 {j : Int} {v : Int} (h1 : 0 ≤ v) (h2 : v < 6) : tFB (62 + v) j = none := by
  have hv : v = 0 ∨ v = 1 ∨ v = 2 ∨ v = 3 ∨ v = 4 ∨ v = 5 := by omega
  rcases hv with rfl | rfl | rfl | rfl | rfl | rfl <;> rfl
theorem sh_61 {v : Int} (h1 : 0 ≤ v) (h2 : v < 6) : tSh (62 + v) = (100, 6) := by
  have hv : v = 0 ∨ v = 1 ∨ v = 2 ∨ v = 3 ∨ v = 4 ∨ v = 5 := by omega
  rcases hv with rfl | rfl | rfl | rfl | rfl | rfl <;> rfl
theorem wn_61 {v : Int} (h1 : 0 ≤ v) (h2 : v < 6) : tWn 1 (62 + v) = true := by
  have hv : v = 0 ∨ v = 1 ∨ v = 2 ∨ v = 3 ∨ v = 4 ∨ v = 5 := by omega
  rcases hv with rfl | rfl | rfl | rfl | rfl | rfl <;> rfl
theorem fc_tFA_27 {x : Int} {v : Int} (h1 : 0 ≤ v) (h2 : v < 10) : (tFA 27 v).getD x = 28 + v := by
  have hv : v = 0 ∨ v = 1 ∨ v = 2 ∨ v = 3 ∨ v = 4 ∨ v = 5 ∨ v = 6 ∨ v = 7 ∨ v = 8 ∨ v = 9 := by omega
  rcases hv with rfl | rfl | rfl | rfl | rfl | rfl | rfl | rfl | rfl | rfl <;> rfl
theorem fn_tFA_27 {j : Int} {v : Int} (h1 : 0 ≤ v) (h2 : v < 10) : tFA (28 + v) j = none := by
  have hv : v = 0 ∨ v = 1 ∨ v = 2 ∨ v = 3 ∨ v = 4 ∨ v = 5 ∨ v = 6 ∨ v = 7 ∨ v = 8 ∨ v = 9 := by omega
  rcases hv with rfl | rfl | rfl | rfl | rfl | rfl | rfl | rfl | rfl | rfl <;> rfl
theorem fc_tFB_27 {x : Int} {v : Int} (h1 : 0 ≤ v) (h2 : v < 10) : (tFB 27 v).getD x = 28 + v := by
  have hv : v = 0 ∨ v = 1 ∨ v = 2 ∨ v = 3 ∨ v = 4 ∨ v = 5 ∨ v = 6 ∨ v = 7 ∨ v = 8 ∨ v = 9 := by omega
  rcases hv with rfl | rfl | rfl | rfl | rfl | rfl | rfl | rfl | rfl | rfl <;> rfl
theorem fn_tFB_27 {j : Int} {v : Int} (h1 : 0 ≤ v) (h2 : v < 10) : tFB (28 + v) j = none := by
  have hv : v = 0 ∨ v = 1 ∨ v = 2 ∨ v = 3 ∨ v = 4 ∨ v = 5 ∨ v = 6 ∨ v = 7 ∨ v = 8 ∨ v = 9 := by omega
  rcases hv with rfl | rfl | rfl | rfl | rfl | rfl | rfl | rfl | rfl | rfl <;> rfl
theorem sh_27 {v : Int} (h1 : 0 ≤ v) (h2 : v < 10) : tSh (28 + v) = (100, 10) := by
  have hv : v = 0 ∨ v = 1 ∨ v = 2 ∨ v = 3 ∨ v = 4 ∨ v = 5 ∨ v = 6 ∨ v = 7 ∨ v = 8 ∨ v = 9 := by omega
  rcases hv with rfl | rfl | rfl | rfl | rfl | rfl | rfl | rfl | rfl | rfl <;> rfl
theorem wn_27 {v : Int} (h1 : 0 ≤ v) (h2 : v < 10) : tWn 1 (28 + v) = true := by
  have hv : v = 0 ∨ v = 1 ∨ v = 2 ∨ v = 3 ∨ v = 4 ∨ v = 5 ∨ v = 6 ∨ v = 7 ∨ v = 8 ∨ v = 9 := by omega
  rcases hv with rfl | rfl | rfl | rfl | rfl | rfl | rfl | rfl | rfl | rfl <;> rfl
theorem fc_tFA_68 {x : Int} {v : Int} (h1 : 0 ≤ v) (h2 : v < 10) : (tFA 68 v).getD x = 69 + v := by
  have hv : v = 0 ∨ v = 1 ∨ v = 2 ∨ v = 3 ∨ v = 4 ∨ v = 5 ∨ v = 6 ∨ v = 7 ∨ v = 8 ∨ v = 9 := by omega
  rcases hv with rfl | rfl | rfl | rfl | rfl | rfl | rfl | rfl | rfl | rfl <;> rfl
theorem fn_tFA_68 {j : Int} {v : Int} (h1 : 0 ≤ v) (h2 : v < 10) : tFA (69 + v) j = none := by
  have hv : v = 0 ∨ v = 1 ∨ v = 2 ∨ v = 3 ∨ v = 4 ∨ v = 5 ∨ v = 6 ∨ v = 7 ∨ v = 8 ∨ v = 9 := by omega
  rcases hv with rfl | rfl | rfl | rfl | rfl | rfl | rfl | rfl | rfl | rfl <;> rfl
theorem fc_tFB_68 {x : Int} {v : Int} (h1 : 0 ≤ v) (h2 : v < 10) : (tFB 68 v).getD x = 69 + v := by
  have hv : v = 0 ∨ v = 1 ∨ v = 2 ∨ v = 3 ∨ v = 4 ∨ v = 5 ∨ v = 6 ∨ v = 7 ∨ v = 8 ∨ v = 9 := by omega
  rcases hv with rfl | rfl | rfl | rfl | rfl | rfl | rfl | rfl | rfl | rfl <;> rfl
theorem fn_tFB_68 {j : Int} {v : Int} (h1 : 0 ≤ v) (h2 : v < 10) : tFB (69 + v) j = none := by
  have hv : v = 0 ∨ v = 1 ∨ v = 2 ∨ v = 3 ∨ v = 4 ∨ v = 5 ∨ v = 6 ∨ v = 7 ∨ v = 8 ∨ v = 9 := by omega
  rcases hv with rfl | rfl | rfl | rfl | rfl | rfl | rfl | rfl | rfl | rfl <;> rfl
theorem sh_68 {v : Int} (h1 : 0 ≤ v) (h2 : v < 10) : tSh (69 + v) = (100, 10) := by
  have hv : v = 0 ∨ v = 1 ∨ v = 2 ∨ v = 3 ∨ v = 4 ∨ v = 5 ∨ v = 6 ∨ v = 7 ∨ v = 8 ∨ v = 9 := by omega
  rcases hv with rfl | rfl | rfl | rfl | rfl | rfl | rfl | rfl | rfl | rfl <;> rfl
theorem wn_68 {v : Int} (h1 : 0 ≤ v) (h2 : v < 10) : tWn 1 (69 + v) = true := by
  have hv : v = 0 ∨ v = 1 ∨ v = 2 ∨ v = 3 ∨ v = 4 ∨ v = 5 ∨ v = 6 ∨ v = 7 ∨ v = 8 ∨ v = 9 := by omega
  rcases hv with rfl | rfl | rfl | rfl | rfl | rfl | rfl | rfl | rfl | rfl <;> rfl
theorem fc_tFA_91 {x : Int} {v : Int} (h1 : 0 ≤ v) (h2 : v < 3) : (tFA 91 v).getD x = 92 + v := by
  have hv : v = 0 ∨ v = 1 ∨ v = 2 := by omega
  rcases hv with rfl | rfl | rfl <;> rfl
theorem fn_tFA_91 {j : Int} {v : Int} (h1 : 0 ≤ v) (h2 : v < 3) : tFA (92 + v) j = none := by
  have hv : v = 0 ∨ v = 1 ∨ v = 2 := by omega
  rcases hv with rfl | rfl | rfl <;> rfl
theorem fc_tFB_91 {x : Int} {v : Int} (h1 : 0 ≤ v) (h2 : v < 3) : (tFB 91 v).getD x = 92 + v := by
  have hv : v = 0 ∨ v = 1 ∨ v = 2 := by omega
  rcases hv with rfl | rfl | rfl <;> rfl
theorem fn_tFB_91 {j : Int} {v : Int} (h1 : 0 ≤ v) (h2 : v < 3) : tFB (92 + v) j = none := by
  have hv : v = 0 ∨ v = 1 ∨ v = 2 := by omega
  rcases hv with rfl | rfl | rfl <;> rfl
theorem sh_91 {v : Int} (h1 : 0 ≤ v) (h2 : v < 3) : tSh (92 + v) = (100, 60) := by
  have hv : v = 0 ∨ v = 1 ∨ v = 2 := by omega
  rcases hv with rfl | rfl | rfl <;> rfl
theorem wn_91 {v : Int} (h1 : 0 ≤ v) (h2 : v < 3) : tWn 1 (92 + v) = true := by
  have hv : v = 0 ∨ v = 1 ∨ v = 2 := by omega
  rcases hv with rfl | rfl | rfl <;> rfl
