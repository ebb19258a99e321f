/-! ===== mm: the law from its entry ===== -/
def cO_dec : DecidableEq cO := @Option.instDecidableEq _ (@instDecidableEqProd _ _ inferInstance (@instDecidableEqProd _ _ inferInstance (@instDecidableEqProd _ _ inferInstance inferInstance)))
theorem cO_eq {a b : cO} (h : @decide (a = b) (cO_dec a b) = true) : a = b := @of_decide_eq_true (a = b) (cO_dec a b) h
theorem H0_toH : mmH0 = toH (1, 0, []) := by
  funext a b
  unfold mmH0
  by_cases a0 : a = 0
  · subst a0
    rw [toH_0]
    by_cases b0 : b = 0
    · rw [if_pos ⟨rfl, b0⟩, if_pos b0]; rfl
    · rw [if_neg (fun z => b0 z.2), if_neg b0]
      split <;> rfl
  · rw [if_neg (fun z => a0 z.1)]
    by_cases r : 0 < a ∧ 0 ≤ b ∧ b < 65536
    · rw [toH_at r.1 r.2]; rfl
    · rw [toH_no a0 r]
/-- a row without a write -/
theorem toH_row {c : cH} {k : Nat} (hk : 0 < k) (h : c.2.2.all (fun e => !Nat.beq (e.1 / 65536) k) = true) (i : Int) : toH c (k : Int) i = 0 := by
  by_cases r : 0 ≤ i ∧ i < 65536
  · rw [toH_at (by omega) r]
    refine cGet_out _ (fun e he z => ?_)
    have := List.all_eq_true.mp h e he
    rw [Bool.not_eq_true', show e.1 / 65536 = k by omega, Nat.beq_refl] at this
    cases this
  · rw [toH_no (by omega) (by omega)]
def invC (l : List (List (Int × Int))) (c : cH) : Bool := Nat.ble l.length 336 && ((List.range l.length).all (fun k => (l.getD k []).all (fun e => decide (0 < k ∧ 0 ≤ e.1 ∧ e.1 < 65536 ∧ cGet c.2.2 (k * 65536 + e.1.toNat) = e.2))))
theorem invC_ok {l : List (List (Int × Int))} {c : cH} (h : invC l c = true) : mmInv (fun k i => if k < 0 then none else (l.getD k.toNat []).lookup i) (toH c) := fun k i v e => by
  simp only [] at e
  unfold invC at h
  simp only [Bool.and_eq_true] at h
  by_cases q : k < 0
  · rw [if_pos q] at e; cases e
  · rw [if_neg q] at e
    by_cases q2 : k.toNat < l.length
    · have z := of_decide_eq_true (List.all_eq_true.mp (List.all_eq_true.mp h.2 k.toNat (List.mem_range.mpr q2)) (i, v) (lk_mem e))
      rw [toH_at (by omega) ⟨z.2.1, z.2.2.1⟩]
      exact z.2.2.2
    · rw [getD_out _ _ (by omega)] at e
      cases e
theorem invB : invC tFLB cD = true := by decide +kernel
theorem invM : invC tFLM cD = true := by decide +kernel
theorem rows0 : cD.2.2.all (fun e => !Nat.beq (e.1 / 65536) 2) = true ∧ cD.2.2.all (fun e => !Nat.beq (e.1 / 65536) 283) = true := by decide +kernel
theorem vals0 : ((toH cD 313 5 = 0 ∧ toH cD 313 6 = 0 ∧ toH cD 313 7 = 0 ∧ toH cD 313 8 = 0 ∧ toH cD 313 9 = 0) ∧ (toH cD 46 0 = 0 ∧ toH cD 46 1 = 0 ∧ toH cD 46 2 = 0 ∧ toH cD 46 3 = 0 ∧ toH cD 46 4 = 5 ∧ toH cD 46 5 = 0 ∧ toH cD 79 0 = 0)) ∧ (toH cD 319 1 = 0 ∧ toH cD 318 1 = 0) ∧ (toH cD 329 0 = 0 ∧ toH cD 329 1 = 0 ∧ toH cD 329 29 = 0 ∧ toH cD 86 0 = 0 ∧ toH cD 86 1 = 0 ∧ toH cD 86 2 = 0) ∧
    (toH cD 282 67 = 0 ∧ toH cD 1 7 = 0 ∧ toH cD 282 68 = 0 ∧ toH cD 1 6 = 0) ∧ (toH cD 282 1 = 0 ∧ toH cD 1 1 = 0) ∧ (toH cD 282 69 = 1 ∧ toH cD 1 8 = 1) ∧ (toH cD 282 71 = 0 ∧ toH cD 1 11 = 0) ∧ (toH cD 282 7 = 0 ∧ toH cD 3 0 = 0 ∧ toH cD 282 8 = -1 ∧ toH cD 3 1 = -1) := by decide +kernel
theorem own0 : ∀ k : Fin 29, toH cD 45 (k.val : Int) = owL.getD k.val 0 := by decide +kernel
theorem Cp_start : Cp 46 (toH cD) (toH cD) := by
  obtain ⟨⟨⟨a0, a1, a2, a3, a4⟩, ⟨b0, b1, b2, b3, b4, b5, b6⟩⟩, ⟨c1, c2⟩, ⟨d1, d2, d3, d4, d5, d6⟩, ⟨e1, e2, e3, e4⟩, ⟨f1, f2⟩, ⟨g1, g2⟩, ⟨i1, i2⟩, ⟨j1, j2, j3, j4⟩⟩ := vals0
  have r2 := toH_row (by decide) rows0.1
  have r283 := toH_row (by decide) rows0.2
  generalize hX : toH cD = X at *
  refine ⟨Or.inr rfl, ⟨?_, ?_⟩, ⟨⟨⟨?_, ?_, ?_, ?_, ?_⟩, ⟨?_, ?_, ?_, ?_, ?_⟩, ?_, ?_, ?_, ?_⟩, fun l l1 l2 => ?_, fun p p1 p2 => ?_, fun a b p1 p2 => ?_, ⟨fun k k1 k2 => ?_, fun k k1 k2 => ?_, fun k k1 k2 => ?_⟩, fun k k1 k2 => ?_⟩, ⟨⟨?_, ?_⟩, ⟨?_, ?_⟩, ⟨?_, ?_⟩, fun l l1 l2 => ?_, fun p p1 p2 => ?_, fun q q1 q2 => ?_, fun k k1 k2 => ?_⟩, ⟨⟨?_, ?_⟩, ⟨?_, ?_⟩, fun i i1 i2 => ?_⟩, ⟨⟨?_, ?_⟩, fun i i1 i2 => ?_⟩, ⟨?_, ?_⟩, ⟨⟨?_, ?_⟩, fun k k1 k2 => ?_⟩, ⟨?_, ?_⟩, fun k k1 k2 => ?_⟩
  · rw [tfuB, ← hX]; exact invC_ok invB
  · rw [← hX]; exact invC_ok invM
  · exact a0.trans b0.symm
  · exact a1.trans b1.symm
  · exact a2.trans b3.symm
  · exact a3.trans b2.symm
  · exact a4.trans b6.symm
  · rw [b0]; decide
  · rw [b1]; decide
  · rw [b3]; decide
  · rw [b2]; decide
  · show 0 ≤ X 79 0 ∧ X 79 0 ≤ 8
    rw [b6]; decide
  · rw [b4]; decide
  · rw [b5]; decide
  · exact c1.trans b5.symm
  · exact Or.inr ⟨c2, b4, b3⟩
  · rw [b1] at l2; omega
  · rw [b3] at p2; omega
  · rw [b1] at p2; omega
  · rw [b0] at k2; omega
  · rw [b1] at k2; omega
  · rw [b3] at k2; omega
  · have k2 : k < X 79 0 := k2
    rw [b6] at k2; omega
  · exact d1.trans d4.symm
  · rw [d4]; decide
  · exact d2.trans d5.symm
  · rw [d5]; decide
  · exact d3.trans d6.symm
  · rw [d6]; decide
  · rw [b1] at l2; omega
  · rw [b3] at p2; omega
  · rw [b0] at q2; omega
  · rw [d6] at k2; omega
  · exact e1.trans e2.symm
  · rw [e2]; decide
  · exact e3.trans e4.symm
  · rw [e4]; decide
  · rw [e2] at i2; omega
  · exact f1.trans f2.symm
  · rw [f2]; decide
  · have q1 : X 2 i = 0 := r2 i
    have q2 : X 283 i = 0 := r283 i
    rw [q1, q2]; decide
  · exact g1.trans g2.symm
  · rw [g2]; decide
  · exact i1.trans i2.symm
  · rw [i2]; decide
  · omega
  · exact j1.trans j2.symm
  · exact j3.trans j4.symm
  · have := own0 ⟨k.toNat, by omega⟩
    simp only [] at this
    rw [show ((k.toNat : Nat) : Int) = k by omega, hX] at this
    exact this
section LB
variable {L : Int} {xs : Int → Int} {mc ms : Nat}
theorem lE_step {o : Nat} {a : Int} {l : List Int} {r : List mmOp} {ls st ls' st' : List mmV} {c c' : cH} (h : cStep 0 1 0 mc ms o a l ls st c = some (none, ls', st', c')) (q : lE mc ms L xs r ls' st' (toH c')) : lE mc ms L xs ((o, a, l) :: r) ls st (toH c) := cStep_ok h q
theorem lE_jump {o b : Nat} {a : Int} {l : List Int} {r : List mmOp} {ls st ls' st' : List mmV} {c c' : cH} (h : cStep 0 1 0 mc ms o a l ls st c = some (some b, ls', st', c')) (q : lX mc ms L xs b ls' st' (toH c')) : lE mc ms L xs ((o, a, l) :: r) ls st (toH c) := cStep_ok h q
theorem lE_call {kc f d : Nat} {x : Int} {l as : List Int} {r : List mmOp} {ls st st1 : List mmV} {c c1 : cH} (hp : mmPop (tMp kc).1 st [] = some (as, st1)) (hcat : Nat.ble (mmCat st1) 8 = true) (hrc : (Nat.beq (tMp kc).2.2.1 99 || Nat.beq (tSh (as.headD 0)).1 (tMp kc).2.2.1) = true) (hb : (Nat.ble (c.1 + (tMp kc).2.2.2.1) (1 + mc) && Nat.ble (c.2.1 + (tMp kc).2.2.2.2.1) ms) = true) (hr : cMet f d kc as c = some (x, c1)) (hg : cGrow kc c c1 = true) (hd : d + 1 ≤ 99)
    (q : lE mc ms L xs r ls (mmPush (mmRt (tMp kc).2.1) x st1) (toH c1)) : lE mc ms L xs ((21, (kc : Int), l) :: r) ls st (toH c) := by
  show oCall tSh tMp kM 1 0 (mc : Int) (ms : Int) ((kc : Int)).toNat _ ls st (toH c)
  rw [Int.toNat_natCast]
  unfold oCall
  rw [hp]
  simp only [Bool.and_eq_true] at hb
  have b1 := Nat.le_of_ble_eq_true hb.1
  have b2 := Nat.le_of_ble_eq_true hb.2
  refine mmG_iff.mpr ⟨hcat, mmG_iff.mpr ⟨hrc, mmG_iff.mpr ⟨?_, mmC_le hd (cMet_ok hr hg q)⟩⟩⟩
  rw [toH_0, if_pos rfl, toH_0, if_neg (by decide), if_pos rfl]
  simp only [Bool.or_eq_true]
  right
  exact decide_eq_true ⟨by omega, by omega⟩
theorem l_begin (hL0 : 0 ≤ L) (hL : L < 1000000) (hx : ∀ j, 0 ≤ j → j < L → InI (xs j)) : lX 600000 7302250 L xs 0 ((4, 0) :: List.replicate 3 (0, 0)) [] mmH0 := by
  rw [H0_toH]
  refine lX_fold ?_
  rw [bk0]
  refine lE_step (ls' := [(4, 0), (0, 0), (0, 0), (0, 0)]) (st' := [(3, 1)]) (c' := cA) (cO_eq (by decide +kernel)) ?_
  refine lE_step (ls' := [(4, 0), (0, 0), (0, 0), (0, 0)]) (st' := [(3, 1), (3, 1)]) (c' := cA) (cO_eq (by decide +kernel)) ?_
  refine lE_call (kc := 0) (st1 := [(3, 1)]) (as := [1]) (by decide +kernel) (by decide +kernel) (by decide +kernel) (by decide +kernel) run1 (by decide +kernel) (by decide) ?_
  refine lE_step (ls' := [(4, 0), (3, 1), (0, 0), (0, 0)]) (st' := []) (c' := cB) (cO_eq (by decide +kernel)) ?_
  refine lE_step (ls' := [(4, 0), (3, 1), (0, 0), (0, 0)]) (st' := [(3, 282)]) (c' := cC) (cO_eq (by decide +kernel)) ?_
  refine lE_step (ls' := [(4, 0), (3, 1), (0, 0), (0, 0)]) (st' := [(3, 282), (3, 282)]) (c' := cC) (cO_eq (by decide +kernel)) ?_
  refine lE_call (kc := 147) (st1 := [(3, 282)]) (as := [282]) (by decide +kernel) (by decide +kernel) (by decide +kernel) (by decide +kernel) run2 (by decide +kernel) (by decide) ?_
  refine lE_step (ls' := [(4, 0), (3, 1), (3, 282), (0, 0)]) (st' := []) (c' := cD) (cO_eq (by decide +kernel)) ?_
  refine lE_step (ls' := [(4, 0), (3, 1), (3, 282), (0, 0)]) (st' := [(1, 0)]) (c' := cD) (cO_eq (by decide +kernel)) ?_
  refine lE_step (ls' := lS 0) (st' := []) (c' := cD) (cO_eq (by decide +kernel)) ?_
  exact lE_jump (b := 1) (ls' := lS 0) (st' := []) (c' := cD) (cO_eq (by decide +kernel)) (l_loop hL0 hL hx L.toNat 0 _ (by omega) hL0 (by omega) ⟨46, Cp_start⟩)
end LB
