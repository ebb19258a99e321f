/-! ===== mm: trees where nothing is known, by program ===== -/
def tFN (_ _ : Int) : Option Int := none
set_option maxRecDepth 100000 in
theorem T0_TownText_handOver_0 (d : Nat) (n0 z0 : Int) (Q : Int → mmH → Prop) (h : mmH) (a1 : Int) (hy : Q (h 3 7) (mmS h 3 7 a1)) : qB tFN d k_TownText_handOver n0 z0 Q 0 [(3, 3), (3, a1), (0, 0)] [] h :=
  qB_fold (cut := fun i => false) (f1 := 40) hy
set_option maxRecDepth 100000 in
theorem T0_c_town_0 (d : Nat) (n0 z0 : Int) (Q : Int → mmH → Prop) (h : mmH)  (hy : mmG (Nat.beq (tSh (h 1 2)).1 1) (qC tFN d k_TownText_open [(h 1 2), (h 1 0), (h 1 1)] h (fun x1 h1 => qB tFN d k_c_town n0 z0 Q 1 [(3, 1), (1, 0), (1, 0)] [] (mmS h1 1 1 0)))) : qB tFN d k_c_town n0 z0 Q 0 [(3, 1), (0, 0), (0, 0)] [] h :=
  qB_fold (cut := fun i => Nat.beq i 1 || Nat.beq i 2) (f1 := 40) hy
set_option maxRecDepth 100000 in
theorem T0_c_town_1 (d : Nat) (n0 z0 : Int) (Q : Int → mmH → Prop) (h : mmH) (v1 : Int) (v2 : Int) (hy : (80 ≤ v2 → qB tFN d k_c_town n0 z0 Q 2 [(3, 1), (1, v1), (1, v2)] [] h) ∧ (¬ (80 ≤ v2) → mmG (Nat.beq (tSh (h 1 2)).1 1) (qC tFN d k_TownText_goesOn [(h 1 2)] h (fun x1 h1 => (x1 = 0 → qB tFN d k_c_town n0 z0 Q 2 [(3, 1), (1, v1), (1, v2)] [] h1) ∧ (¬ (x1 = 0) → mmG (Nat.beq (tSh (h1 1 2)).1 1) (qC tFN d k_TownText_readStatement [(h1 1 2)] h1 (fun x2 h2 => qB tFN d k_c_town n0 z0 Q 1 [(3, 1), (1, (mAdd v1 1)), (1, (mAdd v2 1))] [] h2))))))) : qB tFN d k_c_town n0 z0 Q 1 [(3, 1), (1, v1), (1, v2)] [] h :=
  qB_fold (cut := fun i => Nat.beq i 1 || Nat.beq i 2) (f1 := 40) hy
set_option maxRecDepth 100000 in
theorem T0_c_town_2 (d : Nat) (n0 z0 : Int) (Q : Int → mmH → Prop) (h : mmH) (v1 : Int) (v2 : Int) (hy : mmG (Nat.beq (tSh (h 1 2)).1 1) (qC tFN d k_TownText_close [(h 1 2)] h (fun x1 h1 => mmG (Nat.beq (tSh (h1 1 2)).1 1) ((((tFN (h1 1 2) 0).getD (h1 (h1 1 2) 0)) = 0 → mmG (Nat.beq (tSh (h1 1 2)).1 1) (qC tFN d k_TownText_handOver [(h1 1 2), (h1 1 3)] h1 (fun x2 h2 => mmG (Nat.beq (tSh (h2 1 4)).1 4) (qC tFN d k_Roofs_begin [(h2 1 4), x2] (mmS h2 1 3 x2) (fun x3 h3 => Q v1 (mmS h3 1 7 0)))))) ∧ (¬ (((tFN (h1 1 2) 0).getD (h1 (h1 1 2) 0)) = 0) → Q (-1) h1))))) : qB tFN d k_c_town n0 z0 Q 2 [(3, 1), (1, v1), (1, v2)] [] h :=
  qB_fold (cut := fun i => Nat.beq i 1 || Nat.beq i 2) (f1 := 40) hy
