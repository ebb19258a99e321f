/-! ===== mm: the law's own loop ===== -/
def aOps : Nat → List mmOp
  | 0 => []
  | n + 1 => aOps n ++ [(1, 0, [4]), (1, 3, [1]), (0, 1, [((n + 1 : Nat) : Int)]), (4, 0, []), (27, 0, [])]
def cBlk (n : Nat) (kc km c1 c2 : Int) : List mmOp := (1, 1, [3]) :: (aOps n ++ ((21, kc, [0, c1]) :: (1, 2, [3]) :: (aOps n ++ [(21, km, [0, c2]), (16, 0, [34]), (0, 1, [0]), (20, 4, [])])))
section LL
variable {mc ms : Nat} {L : Int} {xs : Int → Int}
abbrev lX (mc ms : Nat) (L : Int) (xs : Int → Int) : Nat → mmKont := mmWb tSh tTg (fun _ _ => none) tMp tTx0 kM (fun x _ => x = 1) (tWn 0) b_law 1 0 (mc : Int) (ms : Int) L xs
abbrev lE (mc ms : Nat) (L : Int) (xs : Int → Int) (ops : List mmOp) : mmKont := mmEx tSh tTg (fun _ _ => none) (tWn 0) tMp kM (fun x _ => x = 1) (lX mc ms L xs) 1 0 (mc : Int) (ms : Int) L xs tTx0 ops
theorem lX_fold {i : Nat} {ls st : List mmV} {h : mmH} (q : lE mc ms L xs (b_law.getD i []) ls st h) : lX mc ms L xs i ls st h := mmWb_fold (fun m as h P P' hp z => mmC_mono 99 m as h P P' hp z) q
abbrev lS (i : Int) : List mmV := [(4, 0), (3, 1), (3, 282), (1, i)]
def aVs (xs : Int → Int) (i : Int) : Nat → List mmV → List mmV
  | 0, st => st
  | n + 1, st => (1, xs (i + ((n + 1 : Nat) : Int))) :: aVs xs i n st
theorem lE_app {a b : List mmOp} {ls st : List mmV} {h : mmH} : lE mc ms L xs (a ++ b) ls st h = List.foldr (fun op k => mmStep tSh tTg (fun _ _ => none) (tWn 0) tMp kM (fun x _ => x = 1) (lX mc ms L xs) 1 0 (mc : Int) (ms : Int) L xs tTx0 op.1 op.2.1 op.2.2 k) (lE mc ms L xs b) a ls st h := by
  unfold lE mmEx
  rw [List.foldr_append]
theorem l_args {i : Int} (h0 : 0 ≤ i) (hL : L < 2147483648) {h : mmH} : ∀ (n : Nat) (st : List mmV) (r : List mmOp), i + n < L → lE mc ms L xs r (lS i) (aVs xs i n st) h → lE mc ms L xs (aOps n ++ r) (lS i) st h
  | 0, st, r, _, q => q
  | n + 1, st, r, hi, q => by
    show lE mc ms L xs ((aOps n ++ _) ++ r) (lS i) st h
    rw [List.append_assoc]
    refine l_args h0 hL n st _ (by omega) ?_
    have e : mAdd i ((n + 1 : Nat) : Int) = i + ((n + 1 : Nat) : Int) := mAdd_ok (by omega) (by omega)
    refine mmG_iff.mpr ⟨rfl, mmG_iff.mpr ⟨rfl, mmG_iff.mpr ⟨rfl, mmG_iff.mpr ⟨rfl, ?_, ?_⟩⟩⟩⟩
    · show 0 ≤ mAdd i ((n + 1 : Nat) : Int) ∧ mAdd i ((n + 1 : Nat) : Int) < L
      rw [e]; omega
    · show lE mc ms L xs r (lS i) ((1, xs (mAdd i ((n + 1 : Nat) : Int))) :: aVs xs i n st) h
      rw [e]
      exact q
/-- a call's arguments -/
def aAs (xs : Int → Int) (i : Int) : Nat → List Int
  | 0 => []
  | n + 1 => aAs xs i n ++ [xs (i + ((n + 1 : Nat) : Int))]
theorem l_pop {i : Int} : ∀ (n : Nat) (c : Int) (st : List mmV) (acc : List Int), mmPop (List.replicate n 1 ++ [3]) (aVs xs i n ((3, c) :: st)) acc = some (c :: (aAs xs i n ++ acc), st)
  | 0, c, st, acc => rfl
  | n + 1, c, st, acc => by
    show mmPop (List.replicate n 1 ++ [3]) (aVs xs i n ((3, c) :: st)) (xs (i + ((n + 1 : Nat) : Int)) :: acc) = _
    rw [l_pop n c st]
    show _ = some (c :: ((aAs xs i n ++ [xs (i + ((n + 1 : Nat) : Int))]) ++ acc), st)
    rw [List.append_assoc]
    rfl
/-- one block: a call on both sides -/
theorem l_blk {n kc km : Nat} {c1 c2 i : Int} {h : mmH} (h0 : 0 ≤ i) (hL : L < 2147483648) (hn : n ≤ 5) (hi : i + 5 < L) (t1 : (tMp kc).1 = List.replicate n 1 ++ [3]) (t2 : (tMp km).1 = List.replicate n 1 ++ [3]) (r1 : mmRt (tMp kc).2.1 = 1) (r2 : mmRt (tMp km).2.1 = 1) (o1 : (tMp kc).2.2.1 = 0) (o2 : (tMp km).2.2.1 = 6)
    (z1 : (tMp kc).2.2.2.1 = 0 ∧ (tMp kc).2.2.2.2.1 = 0) (z2 : (tMp km).2.2.2.1 = 0 ∧ (tMp km).2.2.2.2.1 = 0) (hc : LC kc km (aAs xs i n) h) (hX : ∀ h2, Cq h2 → lX mc ms L xs 34 (lS i) [] h2) : lE mc ms L xs (cBlk n kc km c1 c2) (lS i) [] h := by
  have s1 : (tSh 1).1 = 0 := by decide +kernel
  have s2 : (tSh 282).1 = 6 := by decide +kernel
  unfold cBlk
  refine mmG_iff.mpr ⟨rfl, ?_⟩
  show lE mc ms L xs (aOps n ++ _) (lS i) [(3, 1)] h
  refine l_args h0 hL n _ _ (by omega) ?_
  show oCall tSh tMp kM 1 0 (mc : Int) (ms : Int) ((kc : Int)).toNat _ (lS i) (aVs xs i n [(3, 1)]) h
  rw [Int.toNat_natCast]
  unfold oCall
  rw [t1, l_pop n 1 [] [], List.append_nil]
  refine mmG_iff.mpr ⟨rfl, mmG_iff.mpr ⟨?_, mmG_iff.mpr ⟨?_, ?_⟩⟩⟩
  · rw [o1]
    show Nat.beq 0 99 || Nat.beq (tSh 1).1 0 = true
    rw [s1]; rfl
  · rw [z1.1, z1.2]; rfl
  · refine mmC_mono _ _ _ _ _ _ (fun x h1 q => ?_) hc
    rw [r1]
    refine mmG_iff.mpr ⟨rfl, ?_⟩
    show lE mc ms L xs (aOps n ++ _) (lS i) [(3, 282), (1, x)] h1
    refine l_args h0 hL n _ _ (by omega) ?_
    show oCall tSh tMp kM 1 0 (mc : Int) (ms : Int) ((km : Int)).toNat _ (lS i) (aVs xs i n [(3, 282), (1, x)]) h1
    rw [Int.toNat_natCast]
    unfold oCall
    rw [t2, l_pop n 282 [(1, x)] [], List.append_nil]
    refine mmG_iff.mpr ⟨rfl, mmG_iff.mpr ⟨?_, mmG_iff.mpr ⟨?_, ?_⟩⟩⟩
    · rw [o2]
      show Nat.beq 6 99 || Nat.beq (tSh 282).1 6 = true
      rw [s2]; rfl
    · rw [z2.1, z2.2]; rfl
    · refine mmC_mono _ _ _ _ _ _ (fun y h2 q2 => ?_) q
      rw [r2]
      obtain ⟨e, C2⟩ := q2
      exact mmG_iff.mpr ⟨rfl, fun _ => hX h2 C2, fun z => absurd e z⟩
theorem bk2 : b_law.getD 2 [] = cBlk 5 (((9 : Nat)) : Int) (((148 : Nat)) : Int) 13 17 := by decide +kernel
theorem bk3 : b_law.getD 3 [] = cBlk 1 (((11 : Nat)) : Int) (((149 : Nat)) : Int) 18 22 := by decide +kernel
theorem bk4 : b_law.getD 4 [] = cBlk 0 (((12 : Nat)) : Int) (((150 : Nat)) : Int) 23 27 := by decide +kernel
theorem bk5 : b_law.getD 5 [] = cBlk 1 (((68 : Nat)) : Int) (((193 : Nat)) : Int) 28 32 := by decide +kernel
theorem bk6 : b_law.getD 6 [] = cBlk 1 (((69 : Nat)) : Int) (((194 : Nat)) : Int) 33 36 := by decide +kernel
theorem bk7 : b_law.getD 7 [] = cBlk 3 (((74 : Nat)) : Int) (((202 : Nat)) : Int) 37 41 := by decide +kernel
theorem bk8 : b_law.getD 8 [] = cBlk 2 (((77 : Nat)) : Int) (((203 : Nat)) : Int) 42 46 := by decide +kernel
theorem bk9 : b_law.getD 9 [] = cBlk 2 (((80 : Nat)) : Int) (((211 : Nat)) : Int) 47 50 := by decide +kernel
theorem bk10 : b_law.getD 10 [] = cBlk 2 (((81 : Nat)) : Int) (((212 : Nat)) : Int) 51 54 := by decide +kernel
theorem bk11 : b_law.getD 11 [] = cBlk 1 (((83 : Nat)) : Int) (((217 : Nat)) : Int) 55 58 := by decide +kernel
theorem bk12 : b_law.getD 12 [] = cBlk 2 (((84 : Nat)) : Int) (((218 : Nat)) : Int) 59 62 := by decide +kernel
theorem bk13 : b_law.getD 13 [] = cBlk 3 (((93 : Nat)) : Int) (((225 : Nat)) : Int) 63 66 := by decide +kernel
theorem bk14 : b_law.getD 14 [] = cBlk 2 (((96 : Nat)) : Int) (((227 : Nat)) : Int) 67 70 := by decide +kernel
theorem bk15 : b_law.getD 15 [] = cBlk 2 (((102 : Nat)) : Int) (((232 : Nat)) : Int) 71 74 := by decide +kernel
theorem bk16 : b_law.getD 16 [] = cBlk 1 (((107 : Nat)) : Int) (((234 : Nat)) : Int) 75 78 := by decide +kernel
theorem bk17 : b_law.getD 17 [] = cBlk 0 (((115 : Nat)) : Int) (((240 : Nat)) : Int) 79 82 := by decide +kernel
theorem bk18 : b_law.getD 18 [] = cBlk 2 (((119 : Nat)) : Int) (((242 : Nat)) : Int) 83 87 := by decide +kernel
theorem bk19 : b_law.getD 19 [] = cBlk 1 (((120 : Nat)) : Int) (((243 : Nat)) : Int) 88 91 := by decide +kernel
theorem bk20 : b_law.getD 20 [] = cBlk 2 (((121 : Nat)) : Int) (((246 : Nat)) : Int) 92 95 := by decide +kernel
theorem bk21 : b_law.getD 21 [] = cBlk 0 (((125 : Nat)) : Int) (((233 : Nat)) : Int) 96 100 := by decide +kernel
theorem bk22 : b_law.getD 22 [] = cBlk 1 (((126 : Nat)) : Int) (((239 : Nat)) : Int) 101 104 := by decide +kernel
theorem bk23 : b_law.getD 23 [] = cBlk 2 (((127 : Nat)) : Int) (((247 : Nat)) : Int) 105 108 := by decide +kernel
theorem bk24 : b_law.getD 24 [] = cBlk 2 (((122 : Nat)) : Int) (((244 : Nat)) : Int) 109 112 := by decide +kernel
theorem bk25 : b_law.getD 25 [] = cBlk 2 (((128 : Nat)) : Int) (((248 : Nat)) : Int) 113 116 := by decide +kernel
theorem bk26 : b_law.getD 26 [] = cBlk 2 (((130 : Nat)) : Int) (((250 : Nat)) : Int) 117 120 := by decide +kernel
theorem bk27 : b_law.getD 27 [] = cBlk 3 (((132 : Nat)) : Int) (((251 : Nat)) : Int) 121 124 := by decide +kernel
theorem bk28 : b_law.getD 28 [] = cBlk 2 (((136 : Nat)) : Int) (((253 : Nat)) : Int) 125 128 := by decide +kernel
theorem bk29 : b_law.getD 29 [] = cBlk 1 (((138 : Nat)) : Int) (((255 : Nat)) : Int) 129 132 := by decide +kernel
theorem bk30 : b_law.getD 30 [] = cBlk 0 (((118 : Nat)) : Int) (((256 : Nat)) : Int) 133 136 := by decide +kernel
theorem bk31 : b_law.getD 31 [] = cBlk 0 (((139 : Nat)) : Int) (((257 : Nat)) : Int) 137 140 := by decide +kernel
theorem bk32 : b_law.getD 32 [] = cBlk 1 (((142 : Nat)) : Int) (((260 : Nat)) : Int) 141 144 := by decide +kernel
theorem bk33 : b_law.getD 33 [] = cBlk 0 (((143 : Nat)) : Int) (((261 : Nat)) : Int) 145 148 := by decide +kernel
theorem bk1 : b_law.getD 1 [] = [(1, 3, [1]), (1, 0, [4]), (28, 0, []), (0, 1, [6]), (4, 1, []), (16, 4, [35]), (1, 0, [4]), (1, 3, [1]), (27, 0, []), (0, 1, [31]), (4, 3, []), (18, 0, [34, 2, 3, 4, 5, 6, 7, 8, 9, 10, 11, 12, 13, 14, 15, 16, 17, 18, 19, 20, 21, 22, 23, 24, 25, 26, 27, 28, 29, 30, 31, 32, 33])] := by decide +kernel
theorem bk34 : b_law.getD 34 [] = [(3, 3, [6]), (17, 1, [1])] := by decide +kernel
theorem bk35 : b_law.getD 35 [] = [(0, 1, [1]), (20, 4, [])] := by decide +kernel
theorem bk0 : b_law.getD 0 [] = [(22, 0, [0, 7]), (9, 0, []), (21, 0, [2, 9]), (2, 1, [3]), (22, 6, [0, 10]), (9, 0, []), (21, 147, [2, 12]), (2, 2, [3]), (0, 1, [0]), (2, 3, [1]), (17, 1, [])] := by decide +kernel
theorem l_next {i : Int} {h : mmH} (h0 : 0 ≤ i) (hi : i < 2147483640) (hX : lX mc ms L xs 1 (lS (i + 6)) [] h) : lX mc ms L xs 34 (lS i) [] h := by
  refine lX_fold ?_
  rw [bk34]
  refine mmG_iff.mpr ⟨rfl, ?_⟩
  have e : mAdd i 6 = i + 6 := mAdd_ok (by omega) (by omega)
  show lX mc ms L xs 1 [(4, 0), (3, 1), (3, 282), (1, mAdd i 6)] [] h
  rw [e]
  exact hX
theorem l_last {i : Int} {h : mmH} : lX mc ms L xs 35 (lS i) [] h := by
  refine lX_fold ?_
  rw [bk35]
  show mmG true (mmD ((1 : Int) = 0 ∨ (1 : Int) = 1) inferInstance ((1 : Int) = 1))
  exact mmG_iff.mpr ⟨rfl, mmD_iff.mpr ⟨Or.inr rfl, rfl⟩⟩
set_option maxHeartbeats 2000000 in
theorem l_loop (hL0 : 0 ≤ L) (hL : L < 1000000) (hx : ∀ j, 0 ≤ j → j < L → InI (xs j)) : ∀ (j : Nat) (i : Int) (h : mmH), 0 ≤ i → i ≤ L → L - i ≤ j → Cq h → lX mc ms L xs 1 (lS i) [] h := by
  intro j
  induction j with
  | zero =>
    intro i h h0 hi hj C
    refine lX_fold ?_
    rw [bk1]
    have e6 : mSub L 6 = L - 6 := mSub_ok (by omega) (by omega)
    refine mmG_iff.mpr ⟨rfl, mmG_iff.mpr ⟨rfl, mmG_iff.mpr ⟨rfl, mmG_iff.mpr ⟨rfl, mmG_iff.mpr ⟨rfl, fun _ => l_last, fun q => absurd (show mSub L 6 < i by rw [e6]; omega) q⟩⟩⟩⟩⟩
  | succ j ih =>
    intro i h h0 hi hj C
    refine lX_fold ?_
    rw [bk1]
    have e6 : mSub L 6 = L - 6 := mSub_ok (by omega) (by omega)
    refine mmG_iff.mpr ⟨rfl, mmG_iff.mpr ⟨rfl, mmG_iff.mpr ⟨rfl, mmG_iff.mpr ⟨rfl, mmG_iff.mpr ⟨rfl, fun _ => l_last, fun q => ?_⟩⟩⟩⟩⟩
    have q : ¬ mSub L 6 < i := q
    rw [e6] at q
    have i5 : i + 5 < L := by omega
    have hX : ∀ h2, Cq h2 → lX mc ms L xs 34 (lS i) [] h2 := fun h2 C2 => l_next h0 (by omega) (ih (i + 6) h2 (by omega) (by omega) (by omega) C2)
    have hL2 : L < 2147483648 := by omega
    have r2 : lX mc ms L xs 2 (lS i) [] h := lX_fold (by rw [bk2]; exact l_blk h0 hL2 (by decide) i5 (by decide +kernel) (by decide +kernel) (by decide +kernel) (by decide +kernel) (by decide +kernel) (by decide +kernel) (by decide +kernel) (by decide +kernel) (l_feed C) hX)
    have r3 : lX mc ms L xs 3 (lS i) [] h := lX_fold (by rw [bk3]; exact l_blk h0 hL2 (by decide) i5 (by decide +kernel) (by decide +kernel) (by decide +kernel) (by decide +kernel) (by decide +kernel) (by decide +kernel) (by decide +kernel) (by decide +kernel) (l_end C) hX)
    have r4 : lX mc ms L xs 4 (lS i) [] h := lX_fold (by rw [bk4]; exact l_blk h0 hL2 (by decide) i5 (by decide +kernel) (by decide +kernel) (by decide +kernel) (by decide +kernel) (by decide +kernel) (by decide +kernel) (by decide +kernel) (by decide +kernel) (l_town C) hX)
    have r5 : lX mc ms L xs 5 (lS i) [] h := lX_fold (by rw [bk5]; exact l_blk h0 hL2 (by decide) i5 (by decide +kernel) (by decide +kernel) (by decide +kernel) (by decide +kernel) (by decide +kernel) (by decide +kernel) (by decide +kernel) (by decide +kernel) (l_fault C) hX)
    have r6 : lX mc ms L xs 6 (lS i) [] h := lX_fold (by rw [bk6]; exact l_blk h0 hL2 (by decide) i5 (by decide +kernel) (by decide +kernel) (by decide +kernel) (by decide +kernel) (by decide +kernel) (by decide +kernel) (by decide +kernel) (by decide +kernel) (l_has C) hX)
    have r7 : lX mc ms L xs 7 (lS i) [] h := lX_fold (by rw [bk7]; exact l_blk h0 hL2 (by decide) i5 (by decide +kernel) (by decide +kernel) (by decide +kernel) (by decide +kernel) (by decide +kernel) (by decide +kernel) (by decide +kernel) (by decide +kernel) (l_letter C) hX)
    have r8 : lX mc ms L xs 8 (lS i) [] h := lX_fold (by rw [bk8]; exact l_blk h0 hL2 (by decide) i5 (by decide +kernel) (by decide +kernel) (by decide +kernel) (by decide +kernel) (by decide +kernel) (by decide +kernel) (by decide +kernel) (by decide +kernel) (l_lot C) hX)
    have r9 : lX mc ms L xs 9 (lS i) [] h := lX_fold (by rw [bk9]; exact l_blk h0 hL2 (by decide) i5 (by decide +kernel) (by decide +kernel) (by decide +kernel) (by decide +kernel) (by decide +kernel) (by decide +kernel) (by decide +kernel) (by decide +kernel) (l_gap C) hX)
    have r10 : lX mc ms L xs 10 (lS i) [] h := lX_fold (by rw [bk10]; exact l_blk h0 hL2 (by decide) i5 (by decide +kernel) (by decide +kernel) (by decide +kernel) (by decide +kernel) (by decide +kernel) (by decide +kernel) (by decide +kernel) (by decide +kernel) (l_person C) hX)
    have r11 : lX mc ms L xs 11 (lS i) [] h := lX_fold (by rw [bk11]; exact l_blk h0 hL2 (by decide) i5 (by decide +kernel) (by decide +kernel) (by decide +kernel) (by decide +kernel) (by decide +kernel) (by decide +kernel) (by decide +kernel) (by decide +kernel) (l_purse C) hX)
    have r12 : lX mc ms L xs 12 (lS i) [] h := lX_fold (by rw [bk12]; exact l_blk h0 hL2 (by decide) i5 (by decide +kernel) (by decide +kernel) (by decide +kernel) (by decide +kernel) (by decide +kernel) (by decide +kernel) (by decide +kernel) (by decide +kernel) (l_toll C) hX)
    have r13 : lX mc ms L xs 13 (lS i) [] h := lX_fold (by rw [bk13]; exact l_blk h0 hL2 (by decide) i5 (by decide +kernel) (by decide +kernel) (by decide +kernel) (by decide +kernel) (by decide +kernel) (by decide +kernel) (by decide +kernel) (by decide +kernel) (l_step C) hX)
    have r14 : lX mc ms L xs 14 (lS i) [] h := lX_fold (by rw [bk14]; exact l_blk h0 hL2 (by decide) i5 (by decide +kernel) (by decide +kernel) (by decide +kernel) (by decide +kernel) (by decide +kernel) (by decide +kernel) (by decide +kernel) (by decide +kernel) (l_way C) hX)
    have r15 : lX mc ms L xs 15 (lS i) [] h := lX_fold (by rw [bk15]; exact l_blk h0 hL2 (by decide) i5 (by decide +kernel) (by decide +kernel) (by decide +kernel) (by decide +kernel) (by decide +kernel) (by decide +kernel) (by decide +kernel) (by decide +kernel) (l_leave C) hX)
    have r16 : lX mc ms L xs 16 (lS i) [] h := lX_fold (by rw [bk16]; exact l_blk h0 hL2 (by decide) i5 (by decide +kernel) (by decide +kernel) (by decide +kernel) (by decide +kernel) (by decide +kernel) (by decide +kernel) (by decide +kernel) (by decide +kernel) (l_go C) hX)
    have r17 : lX mc ms L xs 17 (lS i) [] h := lX_fold (by rw [bk17]; exact l_blk h0 hL2 (by decide) i5 (by decide +kernel) (by decide +kernel) (by decide +kernel) (by decide +kernel) (by decide +kernel) (by decide +kernel) (by decide +kernel) (by decide +kernel) (l_night C) hX)
    have r18 : lX mc ms L xs 18 (lS i) [] h := lX_fold (by rw [bk18]; exact l_blk h0 hL2 (by decide) i5 (by decide +kernel) (by decide +kernel) (by decide +kernel) (by decide +kernel) (by decide +kernel) (by decide +kernel) (by decide +kernel) (by decide +kernel) (l_patch C) hX)
    have r19 : lX mc ms L xs 19 (lS i) [] h := lX_fold (by rw [bk19]; exact l_blk h0 hL2 (by decide) i5 (by decide +kernel) (by decide +kernel) (by decide +kernel) (by decide +kernel) (by decide +kernel) (by decide +kernel) (by decide +kernel) (by decide +kernel) (l_snow C) hX)
    have r20 : lX mc ms L xs 20 (lS i) [] h := lX_fold (by rw [bk20]; exact l_blk h0 hL2 (by decide) i5 (by decide +kernel) (by decide +kernel) (by decide +kernel) (by decide +kernel) (by decide +kernel) (by decide +kernel) (by decide +kernel) (by decide +kernel) (l_fire C) hX)
    have r21 : lX mc ms L xs 21 (lS i) [] h := lX_fold (by rw [bk21]; exact l_blk h0 hL2 (by decide) i5 (by decide +kernel) (by decide +kernel) (by decide +kernel) (by decide +kernel) (by decide +kernel) (by decide +kernel) (by decide +kernel) (by decide +kernel) (l_undo C) hX)
    have r22 : lX mc ms L xs 22 (lS i) [] h := lX_fold (by rw [bk22]; exact l_blk h0 hL2 (by decide) i5 (by decide +kernel) (by decide +kernel) (by decide +kernel) (by decide +kernel) (by decide +kernel) (by decide +kernel) (by decide +kernel) (by decide +kernel) (l_seed (hx (i + ((0 + 1 : Nat) : Int)) (by omega) (by omega)) C) hX)
    have r23 : lX mc ms L xs 23 (lS i) [] h := lX_fold (by rw [bk23]; exact l_blk h0 hL2 (by decide) i5 (by decide +kernel) (by decide +kernel) (by decide +kernel) (by decide +kernel) (by decide +kernel) (by decide +kernel) (by decide +kernel) (by decide +kernel) (l_led C) hX)
    have r24 : lX mc ms L xs 24 (lS i) [] h := lX_fold (by rw [bk24]; exact l_blk h0 hL2 (by decide) i5 (by decide +kernel) (by decide +kernel) (by decide +kernel) (by decide +kernel) (by decide +kernel) (by decide +kernel) (by decide +kernel) (by decide +kernel) (l_burns C) hX)
    have r25 : lX mc ms L xs 25 (lS i) [] h := lX_fold (by rw [bk25]; exact l_blk h0 hL2 (by decide) i5 (by decide +kernel) (by decide +kernel) (by decide +kernel) (by decide +kernel) (by decide +kernel) (by decide +kernel) (by decide +kernel) (by decide +kernel) (l_stopped C) hX)
    have r26 : lX mc ms L xs 26 (lS i) [] h := lX_fold (by rw [bk26]; exact l_blk h0 hL2 (by decide) i5 (by decide +kernel) (by decide +kernel) (by decide +kernel) (by decide +kernel) (by decide +kernel) (by decide +kernel) (by decide +kernel) (by decide +kernel) (l_opened C) hX)
    have r27 : lX mc ms L xs 27 (lS i) [] h := lX_fold (by rw [bk27]; exact l_blk h0 hL2 (by decide) i5 (by decide +kernel) (by decide +kernel) (by decide +kernel) (by decide +kernel) (by decide +kernel) (by decide +kernel) (by decide +kernel) (by decide +kernel) (l_broke C) hX)
    have r28 : lX mc ms L xs 28 (lS i) [] h := lX_fold (by rw [bk28]; exact l_blk h0 hL2 (by decide) i5 (by decide +kernel) (by decide +kernel) (by decide +kernel) (by decide +kernel) (by decide +kernel) (by decide +kernel) (by decide +kernel) (by decide +kernel) (l_worth C) hX)
    have r29 : lX mc ms L xs 29 (lS i) [] h := lX_fold (by rw [bk29]; exact l_blk h0 hL2 (by decide) i5 (by decide +kernel) (by decide +kernel) (by decide +kernel) (by decide +kernel) (by decide +kernel) (by decide +kernel) (by decide +kernel) (by decide +kernel) (l_reach C) hX)
    have r30 : lX mc ms L xs 30 (lS i) [] h := lX_fold (by rw [bk30]; exact l_blk h0 hL2 (by decide) i5 (by decide +kernel) (by decide +kernel) (by decide +kernel) (by decide +kernel) (by decide +kernel) (by decide +kernel) (by decide +kernel) (by decide +kernel) (l_leaks C) hX)
    have r31 : lX mc ms L xs 31 (lS i) [] h := lX_fold (by rw [bk31]; exact l_blk h0 hL2 (by decide) i5 (by decide +kernel) (by decide +kernel) (by decide +kernel) (by decide +kernel) (by decide +kernel) (by decide +kernel) (by decide +kernel) (by decide +kernel) (l_image C) hX)
    have r32 : lX mc ms L xs 32 (lS i) [] h := lX_fold (by rw [bk32]; exact l_blk h0 hL2 (by decide) i5 (by decide +kernel) (by decide +kernel) (by decide +kernel) (by decide +kernel) (by decide +kernel) (by decide +kernel) (by decide +kernel) (by decide +kernel) (l_octet C) hX)
    have r33 : lX mc ms L xs 33 (lS i) [] h := lX_fold (by rw [bk33]; exact l_blk h0 hL2 (by decide) i5 (by decide +kernel) (by decide +kernel) (by decide +kernel) (by decide +kernel) (by decide +kernel) (by decide +kernel) (by decide +kernel) (by decide +kernel) (l_on C) hX)
    refine mmG_iff.mpr ⟨rfl, mmG_iff.mpr ⟨rfl, mmG_iff.mpr ⟨rfl, ⟨by show 0 ≤ i ∧ i < L; omega, mmG_iff.mpr ⟨rfl, mmG_iff.mpr ⟨rfl, ?_, fun _ => hX h C⟩⟩⟩⟩⟩⟩
    refine ⟨fun _ => r2, fun _ => r3, fun _ => r4, fun _ => r5, fun _ => r6, fun _ => r7, fun _ => r8, fun _ => r9, fun _ => r10, fun _ => r11, fun _ => r12, fun _ => r13, fun _ => r14, fun _ => r15, fun _ => r16, fun _ => r17, fun _ => r18, fun _ => r19, fun _ => r20, fun _ => r21, fun _ => r22, fun _ => r23, fun _ => r24, fun _ => r25, fun _ => r26, fun _ => r27, fun _ => r28, fun _ => r29, fun _ => r30, fun _ => r31, fun _ => r32, fun _ => r33, trivial⟩
end LL
